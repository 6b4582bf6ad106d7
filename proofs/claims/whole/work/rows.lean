section
/-! ===== BEGIN words of one list among another's, by their places ===== -/
theorem goodIn_r {big : List Cond} (ws : List Cond) (ps : List Nat) (hp : ws = ps.filterMap (fun i => big[i]?)) (h : ws.all goodWord = true) : GoodIn big ws := by
  intro w hw
  have h1 := List.all_eq_true.mp h w hw
  rw [hp] at hw
  obtain ⟨i, -, hi⟩ := List.mem_filterMap.mp hw
  have hm : w ∈ big := by first | exact List.mem_of_getElem? hi | exact List.getElem?_mem hi
  exact ⟨hm, good_of_word h1⟩
theorem goodIn_app {big a b : List Cond} (ha : GoodIn big a) (hb : GoodIn big b) : GoodIn big (a ++ b) := fun w h => (List.mem_append.mp h).elim (ha w) (hb w)
theorem goodIn_ca {big a b : List Cond} {c : Cond} (ha : GoodIn big (c :: a)) (hb : GoodIn big b) : GoodIn big (c :: (a ++ b)) := fun w h => (List.mem_cons.mp h).elim (fun e => ha w (List.mem_cons.mpr (Or.inl e))) (fun h => (List.mem_append.mp h).elim (fun h => ha w (List.mem_cons.mpr (Or.inr h))) (hb w))
theorem goodIn_sub {big ws : List Cond} (hm : ∀ w ∈ ws, w ∈ big) (h : ws.all goodWord = true) : GoodIn big ws := fun w hw => ⟨hm w hw, good_of_word (List.all_eq_true.mp h w hw)⟩
/-! ===== END ===== -/

/-! ===== BEGIN exceptions that leave a method, and their catching by the caller (launches without stack traces) ===== -/
section VXA
/-! The laws vx_back, vx_callV, vx_callS, vx_callSW, vx_throw0, vx_throwS follow proofs of the library, with one case more: JvmDerived/Free/Laws.lean (Back.of_free), Shelf42/LK1.lean (callV, callS), Shelf/KitTraced.lean (throwNew0V, throwNewS). -/
/-- where a method has thrown q: the class by its name, the cell, what was written, the world -/
def vx_T (XC : String → State → State → Prop) (st : State) (q : Addr) (t : State) (mc ms : Nat) (free : Addr → Prop) : Prop :=
  ∃ (E : String) (ce : Cell) (L : List Loc), XC E st t ∧ t.heap[q]? = some ce ∧ ce.vm = .none ∧ st.vm.findClass E = some ce.cls ∧ st.WarmedH t.vm ∧ st.sameButNew ({ t with vm := st.vm } : State) L mc ms ∧ ∀ z ∈ L, free z.base
def vx_Q (Qc : Array Value → State → Outcome → State → Prop) (XC : String → State → State → Prop) (mc ms : Nat) (free : Addr → Prop) : Array Value → State → Outcome → State → Prop := fun a st o t =>
  (Qc a st o t ∧ ∃ L, FrameEnd st o t L mc ms ∧ ∀ q ∈ L, free q.base) ∨ ∃ q, o = .threw q ∧ vx_T XC st q t mc ms free
/-- a callee that returns or throws -/
def vx_Met (l : Launch) (y : MethodName) (ws : List Cond) (rm : Room) (Pc : Array Value → State → Prop) (Qc : Array Value → State → Outcome → State → Prop) (XC : String → State → State → Prop) (mc ms : Nat) (free : Addr → Prop) : Prop :=
  MetFree l y (headSpec ws rm) Pc (fun _ _ _ _ _ => True) (vx_Q Qc XC mc ms free)
def vx_Post (XC : String → State → State → Prop) (mc ms : Nat) (free : Addr → Prop) : Pt → Array Value → Addr → Pt → Prop := fun A a q B =>
  ∃ (g : JFrame) (mk : MethodId) (t : State) (L : List Loc) (E : String) (ce : Cell), B.U.heap = t.heap ∧ B.U.vm = t.vm ∧ XC E (A.U.calling g mk a) t ∧ t.heap[q]? = some ce ∧ ce.vm = .none ∧ A.U.vm.findClass E = some ce.cls ∧ B.locs = A.locs ++ L ∧ (∀ z ∈ L, free z.base) ∧ B.cells = A.cells + mc ∧ B.slots = A.slots + ms
def vx_Back (l : Launch) (R : Room) (p : Program) (e : Env) (below : List Frame) (s : State) (sargs : Array Value) (y : MethodName) (len W9 : Nat)
    (Pre : Pt → Array Value → Prop) (Post : Pt → Array Value → Option Value → Pt → Prop) (PostX : Pt → Array Value → Addr → Pt → Prop) : Prop :=
  ∀ (m : MethodId) (meth : Method) (c : Code) (A : Pt) (g : JFrame) (ig : Instr) (mk : MethodId) (a : Array Value),
    Stand p l e R s m sargs below meth c A.U A.locs A.cells A.slots → g.method = m → g.locals.size = c.maxLocals → decode c.code g.pc = .ok (ig, len) →
    2 * g.monitorRoom + (g.stack.map fun v => v.category).sum ≤ W9 → A.U.methodNamed? y = some mk → Pre A a →
    (∃ (v : Option Value) (B : Pt), Stand p l e R s m sargs below meth c B.U B.locs B.cells B.slots ∧ Post A a v B ∧
      Steps p.tables e below (doInvoke e (A.U.setTop g) [] mk a).1 (B.U.setTop { g with pc := g.pc + len, stack := v.toList ++ g.stack })) ∨
    (∃ (q : Addr) (B : Pt), Stand p l e R s m sargs below meth c B.U B.locs B.cells B.slots ∧ PostX A a q B ∧
      Steps p.tables e below (doInvoke e (A.U.setTop g) [] mk a).1 ((B.U.setTop g).pushFrame (.throwing q)))
section Payer
variable {l : Launch} {R : Room} {p : Program} {e : Env} {below : List Frame} {s : State} {sargs : Array Value} {y : MethodName} {len W9 : Nat}
theorem vx_back {ws : List Cond} {rm : Room} {Pc : Array Value → State → Prop} {Qc : Array Value → State → Outcome → State → Prop} {XC : String → State → State → Prop} {mc ms : Nat} {free : Addr → Prop} {bytes : ByteArray} {maxL : Nat} {ret : Option FieldType}
    (hM : vx_Met l y ws rm Pc Qc XC mc ms free) (hblind : FrameBlind Pc) (hrc : rm.cells = mc) (hrs : rm.slots = ms)
    (hframes : rm.frames + 1 ≤ R.frames) (hlocals : W9 + (maxL + 11) + rm.locals ≤ R.locals)
    (hws : ∀ w ∈ ws, ∀ a' U, s.WarmedH U.vm → w.before a' U = true) (hcode : Cond.code y bytes maxL ret ∈ ws) (hinit : ∀ a' U, s.WarmedH U.vm → (Cond.initialized y.cls).before a' U = true) :
    vx_Back l R p e below s sargs y len W9 (PreOf R mc ms Pc) (PostOf Qc mc ms free) (vx_Post XC mc ms free) := by
  intro m meth c A g ig mk a X hg hsize hdg hW hn hp
  have h1 : (headSpec ws rm).pre.before a A.U = true := atoms_intro fun w hw => hws w hw _ _ X.warmed
  have h2 : (Cond.code y bytes maxL ret).before a A.U = true := hws _ hcode _ _ X.warmed
  have h3 : (Cond.initialized y.cls).before a A.U = true := hinit _ _ X.warmed
  have h4 : A.cells + (headSpec ws rm).room.cells ≤ R.cells := by rw [show (headSpec ws rm).room.cells = mc from hrc]; exact hp.1
  have h5 : A.slots + (headSpec ws rm).room.slots ≤ R.slots := by rw [show (headSpec ws rm).room.slots = ms from hrs]; exact hp.2.1
  have hPc : Pc a (A.U.calling g mk a) := hblind _ _ _ _ hp.2.2
  obtain ⟨U, Ls, c0, s0⟩ := A
  dsimp only [Pt.U, Pt.locs, Pt.cells, Pt.slots] at h1 h2 h3 h4 h5 X hn hPc ⊢
  obtain ⟨methY, cY, hmY, hcY, -, hlY, -, -, -, -⟩ := Cond.code_spec hn h2
  obtain ⟨kY, hkY, -⟩ := className_of_methodNamed hn
  have hinitY : kY.init = .initialized := Cond.initialized_spec (findClass_of_methodNamed hn) hkY h3
  have h : At U g.method c below := by rw [hg]; exact X.here
  have hlocals9 : W9 + (maxL + 11) + (headSpec ws rm).room.locals ≤ R.locals := hlocals
  have happ : (headSpec ws rm).appliesLoose y e.platform (U.calling g mk a) = true :=
    Spec.appliesLoose_calling (g := g) h hdg hn hkY hinitY
      (X.room_calling (g := g) (R' := (headSpec ws rm).room) hsize hmY hcY hframes (by rw [hlY]; omega) h4 h5) h1
  obtain ⟨mid, hmid⟩ := h.above
  have hfr : (U.setTop g).frames = (.java g :: mid) ++ below := by rw [State.frames_setTop' g h.top, hmid]; rfl
  obtain ⟨o, s₂, hsteps, -, hend, hq⟩ := Steps.callFree hM p X.admits X.cas X.clock (acts := []) hfr happ hPc trivial
  have hq' : vx_Q Qc XC mc ms free a (U.calling g mk a) o s₂ := hq
  rw [State.frames_setTop' g h.top] at hend
  obtain ⟨g₀, hg0⟩ := Option.isSome_iff_exists.mp h.top
  obtain ⟨r, hr⟩ := State.topJava?_eq_some.mp hg0
  have hr' : (({ U with heap := s₂.heap, slotsUsed := s₂.slotsUsed } : State).setVm s₂.vm).frames = .java g₀ :: r := hr
  rcases hq' with ⟨hqc, L, hfe, hL⟩ | ⟨q, rfl, E, ce, L, hx, hce, hcv, hcl, hW₂, hsm, hL⟩
  · obtain ⟨⟨v, rfl⟩, hW₂, e2, q2, q3, q4, q5, q6⟩ := id hfe
    have e3 : s₂ = ({ (U.calling g mk a).setFrames s₂.frames with heap := s₂.heap, slotsUsed := s₂.slotsUsed } : State).setVm s₂.vm := by
      have : s₂ = ({ s₂ with vm := (U.calling g mk a).vm } : State).setVm s₂.vm := rfl
      rw [e2] at this
      exact this
    obtain ⟨c₂, i₂, len₂, hc₂, hd₂, hf₂⟩ := hend
    have hW' : U.WarmedH s₂.vm := hW₂
    have hcc : c₂ = c := by
      have h1 : s₂.code? g.method = U.code? g.method := by
        rw [State.code?_eq, State.code?_eq, hW'.alike.method?]
      exact Option.some.inj (hc₂.symm.trans (h1.trans h.code))
    subst hcc
    have hlen : len₂ = len := by rw [hdg] at hd₂; cases hd₂; rfl
    subst hlen
    have hs₂ : s₂ = (({ U with heap := s₂.heap, slotsUsed := s₂.slotsUsed } : State).setVm s₂.vm).setTop { g with pc := g.pc + len₂, stack := v.toList ++ g.stack } := by
      refine e3.trans ?_
      rw [hf₂, State.calling_eq h.top, State.setFrames_setFrames, State.setTop_of_frames _ hr', hr]
      rfl
    have hsame : U.sameButNew ({ U with heap := s₂.heap, slotsUsed := s₂.slotsUsed } : State) L mc ms := by
      refine ⟨?_, q2, q3, q4, q5, q6⟩
      obtain ⟨t, ht, -⟩ := State.frames_cons hr
      show ({ U with heap := s₂.heap, slotsUsed := s₂.slotsUsed } : State) = { U.setFrames U.frames with heap := s₂.heap, slotsUsed := s₂.slotsUsed }
      rw [State.setFrames_self ht]
    subst hg
    refine Or.inl ⟨v, ⟨(({ U with heap := s₂.heap, slotsUsed := s₂.slotsUsed } : State).setVm s₂.vm), Ls ++ L, c0 + mc, s0 + ms⟩,
      ⟨X.admits, X.cas, X.clock, X.frames, X.room, X.hears, X.method, X.code, (X.here.setHeapUsed s₂.heap s₂.slotsUsed).setVm hW'.alike, X.tail, State.WarmedH.trans X.warmed hW', X.limits, X.bytes, X.same.trans (hsame.setVm s.vm)⟩,
      ⟨g, mk, s₂, L, rfl, rfl, hqc, rfl, hL, rfl, rfl⟩, ?_⟩
    show Steps p.tables e below _ ((({ U with heap := s₂.heap, slotsUsed := s₂.slotsUsed } : State).setVm s₂.vm).setTop { g with pc := g.pc + len₂, stack := v.toList ++ g.stack })
    rw [← hs₂]
    exact hsteps
  · obtain ⟨e2, q2, q3, q4, q5, q6⟩ := id hsm
    have e3 : s₂ = ({ (U.calling g mk a).setFrames s₂.frames with heap := s₂.heap, slotsUsed := s₂.slotsUsed } : State).setVm s₂.vm := by
      have : s₂ = ({ s₂ with vm := (U.calling g mk a).vm } : State).setVm s₂.vm := rfl
      rw [e2] at this
      exact this
    have hf₂ : s₂.frames = .throwing q :: .java g :: U.frames.tail := hend
    have hW' : U.WarmedH s₂.vm := hW₂
    have hs₂ : s₂ = ((({ U with heap := s₂.heap, slotsUsed := s₂.slotsUsed } : State).setVm s₂.vm).setTop g).pushFrame (.throwing q) := by
      refine e3.trans ?_
      rw [hf₂, State.calling_eq h.top, State.setFrames_setFrames, State.pushFrame, State.frames_setTop _ hr', State.setTop_of_frames _ hr', State.setFrames_setFrames, hr]
      rfl
    have hsame : U.sameButNew ({ U with heap := s₂.heap, slotsUsed := s₂.slotsUsed } : State) L mc ms := by
      refine ⟨?_, q2, q3, q4, q5, q6⟩
      obtain ⟨t, ht, -⟩ := State.frames_cons hr
      show ({ U with heap := s₂.heap, slotsUsed := s₂.slotsUsed } : State) = { U.setFrames U.frames with heap := s₂.heap, slotsUsed := s₂.slotsUsed }
      rw [State.setFrames_self ht]
    subst hg
    refine Or.inr ⟨q, ⟨(({ U with heap := s₂.heap, slotsUsed := s₂.slotsUsed } : State).setVm s₂.vm), Ls ++ L, c0 + mc, s0 + ms⟩,
      ⟨X.admits, X.cas, X.clock, X.frames, X.room, X.hears, X.method, X.code, (X.here.setHeapUsed s₂.heap s₂.slotsUsed).setVm hW'.alike, X.tail, State.WarmedH.trans X.warmed hW', X.limits, X.bytes, X.same.trans (hsame.setVm s.vm)⟩,
      ⟨g, mk, s₂, L, E, ce, rfl, rfl, hx, hce, hcv, hcl, rfl, hL, rfl, rfl⟩, ?_⟩
    show Steps p.tables e below _ (((({ U with heap := s₂.heap, slotsUsed := s₂.slotsUsed } : State).setVm s₂.vm).setTop g).pushFrame (.throwing q))
    rw [← hs₂]
    exact hsteps
end Payer
section Calls
variable {p : Program} {l : Launch} {e : Env} {R : Room} {s : State} {m : MethodId} {args : Array Value} {below : List Frame} {meth : Method} {c : Code} {T : State} {locs : List Loc} {cells slots : Nat}
theorem vx_callV (X : Stand p l e R s m args below meth c T locs cells slots) (hexec : p.tables.exec = Jvm.exec) {own C : String} {index : Nat} {y : MethodName} {bytes : ByteArray} {maxL : Nat} {ret : Option FieldType}
    (hown : s.vm.findClass own = some m.cls) (hlink : (Cond.methodLink own index y).before args s = true) (hinst : (Cond.instanceMethod y).before args s = true) (hsel : (Cond.selects C y y).before args s = true)
    (hcode : (Cond.code y bytes maxL ret).before args s = true) (hy : y.cls ≠ "java/lang/invoke/MethodHandle" ∧ y.cls ≠ "java/lang/invoke/VarHandle")
    {W9 : Nat} {Pre : Pt → Array Value → Prop} {Post : Pt → Array Value → Option Value → Pt → Prop} {PostX : Pt → Array Value → Addr → Pt → Prop} (hK : vx_Back l R p e below s args y 3 W9 Pre Post PostX)
    {b : Addr} {cellB : Cell} (hcell : T.heap[b]? = some cellB) (hobj : cellB.vm.isStatics = false) (hcls : s.vm.findClass C = some cellB.cls)
    {g : JFrame} (hg : g.method = m) (hsize : g.locals.size = c.maxLocals) {argsL rest : List Value} (hlen : ∀ sig, parseMethodDescriptor y.desc = some sig → argsL.length = sig.parameters.length)
    (hstack : g.stack = argsL.reverse ++ .ref b :: rest) (hW : 2 * g.monitorRoom + (rest.map fun v => v.category).sum ≤ W9) (hdg : decode c.code g.pc = .ok (.invokevirtual index, 3))
    (hpre : ∀ vm₁, s.WarmedH vm₁ → Pre ⟨T.setVm vm₁, locs, cells, slots⟩ (Value.ref b :: argsL).toArray) :
    (∃ (v : Option Value) (vm₁ : Vm) (B : Pt), s.WarmedH vm₁ ∧ Stand p l e R s m args below meth c B.U B.locs B.cells B.slots ∧ Post ⟨T.setVm vm₁, locs, cells, slots⟩ (Value.ref b :: argsL).toArray v B ∧
      ∀ target, Steps p.tables e below (B.U.setTop { g with pc := g.pc + 3, stack := v.toList ++ rest }) target → Steps p.tables e below (T.setTop g) target) ∨
    (∃ (q : Addr) (vm₁ : Vm) (B : Pt), s.WarmedH vm₁ ∧ Stand p l e R s m args below meth c B.U B.locs B.cells B.slots ∧ PostX ⟨T.setVm vm₁, locs, cells, slots⟩ (Value.ref b :: argsL).toArray q B ∧
      Steps p.tables e below (T.setTop g) ((B.U.setTop { g with stack := rest }).pushFrame (.throwing q))) := by
  obtain ⟨mk, methM, hnamed, hmethM, hstM, habM⟩ := Cond.instanceMethod_spec hinst
  obtain ⟨methM', cM, hmethM', -, -, -, -, -, -, hsigM⟩ := Cond.code_spec hnamed hcode
  cases hmethM.symm.trans hmethM'
  obtain ⟨c2, r2, m2, q1, q2, q3, q4, kP, hkP, hkPi⟩ := Cond.selects_spec hsel
  cases hcls.symm.trans q1
  cases (State.methodFound?_of_named hnamed hy).symm.trans q2
  cases hnamed.symm.trans q3
  have hselP : selectMethod e.platform s.vm cellB.cls mk = .method mk := by rw [Launch.admits_selectMethod X.admits]; exact q4
  obtain ⟨vm₁, X₁, hstep₁⟩ := X.invokevirtual hexec hown hlink hnamed hmethM hstM hkP hkPi hy (a := b) (cell := cellB) hcell
    (fun z h => by rw [h] at hobj; cases hobj) hselP hmethM habM hkP hkPi (g := g) hg (argsL := argsL) (rest := rest) (hlen _ hsigM) hstack hdg
  rcases hK m meth c ⟨T.setVm vm₁, locs, cells, slots⟩ { g with stack := rest } (.invokevirtual index) mk (Value.ref b :: argsL).toArray X₁ hg hsize hdg hW (X₁.named hnamed) (hpre vm₁ X₁.warmed) with ⟨v, B, X', hpost, hsteps⟩ | ⟨q, B, X', hpost, hsteps⟩
  · exact Or.inl ⟨v, vm₁, B, X₁.warmed, X', hpost, fun target h => hstep₁ _ fun acts => by rw [doInvoke_state]; exact hsteps.trans h⟩
  · exact Or.inr ⟨q, vm₁, B, X₁.warmed, X', hpost, hstep₁ _ fun acts => by rw [doInvoke_state]; exact hsteps⟩
theorem vx_callS (X : Stand p l e R s m args below meth c T locs cells slots) (hexec : p.tables.exec = Jvm.exec) {own : String} {index : Nat} {y : MethodName} {bytes : ByteArray} {maxL : Nat} {ret : Option FieldType}
    (hown : s.vm.findClass own = some m.cls) (hlink : (Cond.methodLink own index y).before args s = true) (hstat : (Cond.static y).before args s = true) (hinit : (Cond.initialized y.cls).before args s = true)
    (hcode : (Cond.code y bytes maxL ret).before args s = true) (hy : y.cls ≠ "java/lang/invoke/MethodHandle" ∧ y.cls ≠ "java/lang/invoke/VarHandle")
    {W9 : Nat} {Pre : Pt → Array Value → Prop} {Post : Pt → Array Value → Option Value → Pt → Prop} {PostX : Pt → Array Value → Addr → Pt → Prop} (hK : vx_Back l R p e below s args y 3 W9 Pre Post PostX)
    {g : JFrame} (hg : g.method = m) (hsize : g.locals.size = c.maxLocals) {argsL rest : List Value} (hlen : ∀ sig, parseMethodDescriptor y.desc = some sig → argsL.length = sig.parameters.length)
    (hstack : g.stack = argsL.reverse ++ rest) (hW : 2 * g.monitorRoom + (rest.map fun v => v.category).sum ≤ W9) (hdg : decode c.code g.pc = .ok (.invokestatic index, 3))
    (hpre : ∀ vm₁, s.WarmedH vm₁ → Pre ⟨T.setVm vm₁, locs, cells, slots⟩ argsL.toArray) :
    (∃ (v : Option Value) (vm₁ : Vm) (B : Pt), s.WarmedH vm₁ ∧ Stand p l e R s m args below meth c B.U B.locs B.cells B.slots ∧ Post ⟨T.setVm vm₁, locs, cells, slots⟩ argsL.toArray v B ∧
      ∀ target, Steps p.tables e below (B.U.setTop { g with pc := g.pc + 3, stack := v.toList ++ rest }) target → Steps p.tables e below (T.setTop g) target) ∨
    (∃ (q : Addr) (vm₁ : Vm) (B : Pt), s.WarmedH vm₁ ∧ Stand p l e R s m args below meth c B.U B.locs B.cells B.slots ∧ PostX ⟨T.setVm vm₁, locs, cells, slots⟩ argsL.toArray q B ∧
      Steps p.tables e below (T.setTop g) ((B.U.setTop { g with stack := rest }).pushFrame (.throwing q))) := by
  obtain ⟨mk, hnamed⟩ := Cond.code_named hcode
  obtain ⟨methM, cM, hmethM, -, -, -, -, -, -, hsigM⟩ := Cond.code_spec hnamed hcode
  have hstatic : methM.isStatic = true := Cond.static_spec hnamed hmethM hstat
  obtain ⟨kP, hkP, -⟩ := className_of_methodNamed hnamed
  have hinitP : kP.init = .initialized := Cond.initialized_spec (findClass_of_methodNamed hnamed) hkP hinit
  obtain ⟨vm₁, X₁, hstep₁⟩ := X.invokestatic hexec hown hlink hnamed hmethM hstatic hkP hinitP hy (g := g) hg (argsL := argsL) (rest := rest) (hlen _ hsigM) hstack hdg
  rcases hK m meth c ⟨T.setVm vm₁, locs, cells, slots⟩ { g with stack := rest } (.invokestatic index) mk argsL.toArray X₁ hg hsize hdg hW (X₁.named hnamed) (hpre vm₁ X₁.warmed) with ⟨v, B, X', hpost, hsteps⟩ | ⟨q, B, X', hpost, hsteps⟩
  · exact Or.inl ⟨v, vm₁, B, X₁.warmed, X', hpost, fun target h => hstep₁ _ fun acts => by rw [doInvoke_state]; exact hsteps.trans h⟩
  · exact Or.inr ⟨q, vm₁, B, X₁.warmed, X', hpost, hstep₁ _ fun acts => by rw [doInvoke_state]; exact hsteps⟩
end Calls
theorem vx_cls {s : State} {T : State} {vm₁ : Vm} {E : String} {k : ClassId} (hW : s.WarmedH vm₁) (h : (T.setVm vm₁).vm.findClass E = some k) : s.vm.findClass E = some k := by
  have h1 : vm₁.findClass E = some k := h
  rw [hW.alike.findClass] at h1
  exact h1
/-- the method's frame g, with q thrown over it -/
def vx_W (p : Program) (l : Launch) (e : Env) (R : Room) (s : State) (m : MethodId) (args : Array Value) (below : List Frame) (meth : Method) (c : Code) (H : Heap) (locs : List Loc) (cells slots : Nat) (Q : State → Prop) (g : JFrame) (q : Addr) : Prop :=
  ∀ T : State, T.heap = H → Stand p l e R s m args below meth c T locs cells slots → ∃ t, Steps p.tables e below ((T.setTop g).pushFrame (.throwing q)) t ∧ Q t
def vx_Run (p : Program) (l : Launch) (e : Env) (R : Room) (s : State) (m : MethodId) (args : Array Value) (below : List Frame) (meth : Method) (c : Code) (H : Heap) (locs : List Loc) (cells slots mc ms : Nat) (g : JFrame) (rest : List Value) (Qa : State → Outcome → State → Prop) (XC : String → State → State → Prop) (free : Addr → Prop) : Prop :=
  ∀ T : State, T.heap = H → Stand p l e R s m args below meth c T locs cells slots →
    (∃ (v : Option Value) (st₀ t T' : State) (L : List Loc), st₀.heap = H ∧ Stand p l e R s m args below meth c T' (locs ++ L) (cells + mc) (slots + ms) ∧ (∀ q ∈ L, free q.base) ∧ T'.heap = t.heap ∧ T'.vm = t.vm ∧ Qa st₀ (.returned v) t ∧
      Goes p e below T g T' { g with pc := g.pc + 3, stack := v.toList ++ rest }) ∨
    (∃ (q : Addr) (st₀ t T' : State) (L : List Loc) (E : String) (ce : Cell), st₀.heap = H ∧ Stand p l e R s m args below meth c T' (locs ++ L) (cells + mc) (slots + ms) ∧ (∀ z ∈ L, free z.base) ∧ T'.heap = t.heap ∧ T'.vm = t.vm ∧ XC E st₀ t ∧ t.heap[q]? = some ce ∧ ce.vm = .none ∧ s.vm.findClass E = some ce.cls ∧
      Steps p.tables e below (T.setTop g) ((T'.setTop { g with stack := rest }).pushFrame (.throwing q)))
def vx_X {S : Type} (px : S → Prop) (B : String → S → State → Prop) (A : Nat → Prop) : String → State → State → Prop := fun E st t => ∃ u : S, px u ∧ B E u t ∧ va_F A st t
section Runs
variable {p : Program} {l : Launch} {e : Env} {R : Room} {s : State} {m : MethodId} {args : Array Value} {below : List Frame} {meth : Method} {c : Code} {H : Heap} {locs : List Loc} {cells slots : Nat}
variable {y : MethodName} {bytes cc : ByteArray} {maxL nL mc ms n index : Nat} {ret : Option FieldType} {ws : List Cond} {rm : Room} {Pc : Array Value → State → Prop} {Qc : Array Value → State → Outcome → State → Prop} {XC : String → State → State → Prop} {free : Addr → Prop} {Ts : List Cond} {own C : String} {b : Addr} {As rest : List Value} {g : JFrame}
theorem vx_callBack (cb : CallB R s args own index y bytes maxL ret ws rm mc ms n) (hM : vx_Met l y ws rm Pc Qc XC mc ms free) (hbl : FrameBlind Pc) : vx_Back l R p e below s args y 3 8 (PreOf R mc ms Pc) (PostOf Qc mc ms free) (vx_Post XC mc ms free) := by
  obtain ⟨hrc, hrs, hfr, hlo, hws, hcw, -, hini, -⟩ := cb
  exact vx_back (bytes := bytes) (maxL := maxL) (ret := ret) hM hbl hrc hrs hfr hlo hws hcw (fun a' U hW => word_at hW (Or.inl (by first | rfl | simp [Cond.onTables, Cond.keeps, Cond.steady])) hini)
theorem vx_runV (S : CallFix p m c cc nL s args Ts own) (hM : vx_Met l y ws rm Pc Qc XC mc ms free) (cw : CallW R s args own C index y bytes maxL ret ws rm mc ms n) (hp : PreV s H C b Pc As)
    (hg : g.method = m) (hn : As.length = n) (hsize : g.locals.size = nL) (hstack : g.stack = As.reverse ++ .ref b :: rest) (hW : 2 * g.monitorRoom + (rest.map fun v => v.category).sum ≤ 8) (hdg : decode cc g.pc = .ok (.invokevirtual index, 3)) (hf : cells + mc ≤ R.cells ∧ slots + ms ≤ R.slots) :
    vx_Run p l e R s m args below meth c H locs cells slots mc ms g rest (Qc (Value.ref b :: As).toArray) XC free := by
  have hK : vx_Back l R p e below s args y 3 8 (PreOf R mc ms Pc) (PostOf Qc mc ms free) (vx_Post XC mc ms free) := vx_callBack cw.1 hM hp.1
  obtain ⟨⟨-, -, -, -, -, -, hcode, -, hy, hlen, hl⟩, hin, hse⟩ := cw
  obtain ⟨hx, hb, hml, ho, -⟩ := S
  obtain ⟨-, ⟨cellB, hcB, hoB, hclB⟩, hPc⟩ := hp
  intro T hT X
  rcases vx_callV X hx (C := C) (bytes := bytes) (maxL := maxL) (ret := ret) ho hl hin hse hcode hy hK (by rw [hT]; exact hcB) hoB hclB hg (hsize.trans hml.symm) (argsL := As) (rest := rest) (fun sig h => hn.trans (hlen sig h)) hstack hW (by rw [hb]; exact hdg)
    (fun vm₁ hW₁ => ⟨hf.1, hf.2, hPc (T.setVm vm₁) hT hW₁⟩) with ⟨v, vm₁, ⟨U', l2, c2, s2⟩, hW₁, X', ⟨g', mk, t, L, e1, e2, hq, h1, hL, h2, h3⟩, st⟩ | ⟨q, vm₁, ⟨U', l2, c2, s2⟩, hW₁, X', ⟨g', mk, t, L, E, ce, e1, e2, hq, hce, hcv, hcl, h1, hL, h2, h3⟩, st⟩
  · dsimp only [Pt.U, Pt.locs, Pt.cells, Pt.slots] at X' e1 e2 h1 h2 h3 st
    subst h1; subst h2; subst h3
    exact Or.inl ⟨v, (T.setVm vm₁).calling g' mk (Value.ref b :: As).toArray, t, U', L, hT, X', hL, e1, e2, hq, st⟩
  · dsimp only [Pt.U, Pt.locs, Pt.cells, Pt.slots] at X' e1 e2 h1 h2 h3 st hcl
    subst h1; subst h2; subst h3
    exact Or.inr ⟨q, (T.setVm vm₁).calling g' mk (Value.ref b :: As).toArray, t, U', L, E, ce, hT, X', hL, e1, e2, hq, hce, hcv, vx_cls hW₁ hcl, st⟩
theorem vx_runS (S : CallFix p m c cc nL s args Ts own) (hM : vx_Met l y ws rm Pc Qc XC mc ms free) (cw : CallB R s args own index y bytes maxL ret ws rm mc ms n ∧ (Cond.static y).before args s = true) (hp : PreS s H Pc As)
    (hg : g.method = m) (hn : As.length = n) (hsize : g.locals.size = nL) (hstack : g.stack = As.reverse ++ rest) (hW : 2 * g.monitorRoom + (rest.map fun v => v.category).sum ≤ 8) (hdg : decode cc g.pc = .ok (.invokestatic index, 3)) (hf : cells + mc ≤ R.cells ∧ slots + ms ≤ R.slots) :
    vx_Run p l e R s m args below meth c H locs cells slots mc ms g rest (Qc As.toArray) XC free := by
  have hK : vx_Back l R p e below s args y 3 8 (PreOf R mc ms Pc) (PostOf Qc mc ms free) (vx_Post XC mc ms free) := vx_callBack cw.1 hM hp.1
  obtain ⟨⟨-, -, -, -, -, -, hcode, hini, hy, hlen, hl⟩, hstt⟩ := cw
  obtain ⟨hx, hb, hml, ho, -⟩ := S
  intro T hT X
  rcases vx_callS X hx (bytes := bytes) (maxL := maxL) (ret := ret) ho hl hstt hini hcode hy hK hg (hsize.trans hml.symm) (argsL := As) (rest := rest) (fun sig h => hn.trans (hlen sig h)) hstack hW (by rw [hb]; exact hdg)
    (fun vm₁ hW₁ => ⟨hf.1, hf.2, hp.2 (T.setVm vm₁) hT hW₁⟩) with ⟨v, vm₁, ⟨U', l2, c2, s2⟩, hW₁, X', ⟨g', mk, t, L, e1, e2, hq, h1, hL, h2, h3⟩, st⟩ | ⟨q, vm₁, ⟨U', l2, c2, s2⟩, hW₁, X', ⟨g', mk, t, L, E, ce, e1, e2, hq, hce, hcv, hcl, h1, hL, h2, h3⟩, st⟩
  · dsimp only [Pt.U, Pt.locs, Pt.cells, Pt.slots] at X' e1 e2 h1 h2 h3 st
    subst h1; subst h2; subst h3
    exact Or.inl ⟨v, (T.setVm vm₁).calling g' mk As.toArray, t, U', L, hT, X', hL, e1, e2, hq, st⟩
  · dsimp only [Pt.U, Pt.locs, Pt.cells, Pt.slots] at X' e1 e2 h1 h2 h3 st hcl
    subst h1; subst h2; subst h3
    exact Or.inr ⟨q, (T.setVm vm₁).calling g' mk As.toArray, t, U', L, E, ce, hT, X', hL, e1, e2, hq, hce, hcv, vx_cls hW₁ hcl, st⟩
end Runs
section Rows
variable {p : Program} {l : Launch} {e : Env} {R : Room} {s : State} {m : MethodId} {args : Array Value} {below : List Frame} {meth : Method} {c : Code} {H : Heap} {locs : List Loc} {cells slots : Nat} {Q : State → Prop}
variable {mc ms : Nat} {free : Addr → Prop} {A0 A1 : Nat → Prop} {H0 : Heap} {a : Array Value} {pc : Nat} {ls : Array Slot} {st0 rest : List Value}
theorem vx_keep {st₀ t T' : State} {L : List Loc} (h0 : st₀.heap = H) (e1 : T'.heap = t.heap) (hS : va_S A0 H0 H locs) (hA : ∀ q, q < H.size → A1 q → A0 q) (hf : ∀ q, free q → A0 q) (hL : ∀ q ∈ L, free q.base) (hF : va_F A1 st₀ t) :
    H.size ≤ T'.heap.size ∧ (∀ q : Nat, q < H.size → ¬ A1 q → T'.heap[q]? = H[q]?) ∧ va_S A0 H0 T'.heap (locs ++ L) := by
  obtain ⟨hz, hk⟩ := hF
  rw [h0] at hz hk
  exact ⟨by rw [e1]; exact hz, fun q h1 h2 => by rw [e1]; exact hk q h1 h2,
    ⟨Nat.le_trans hS.1 (by rw [e1]; exact hz), fun q h1 h2 => by rw [e1, hk q (Nat.lt_of_lt_of_le h1 hS.1) (fun z => h2 (hA q (Nat.lt_of_lt_of_le h1 hS.1) z))]; exact hS.2.1 q h1 h2, fun q hq => by
      rcases List.mem_append.mp hq with h | h
      · exact hS.2.2 q h
      · exact hf _ (hL q h)⟩⟩
theorem vx_calli {S SX : Type} {post : Int32 → S → Prop} {px : SX → Prop} {B : S → State → Prop} {BX : String → SX → State → Prop} {AX : Nat → Prop} (hr : vx_Run p l e R s m args below meth c H locs cells slots mc ms (F0 m pc ls st0) rest (va_Qi post B A1 a) (vx_X px BX AX) free) (hS : va_S A0 H0 H locs) (hA : ∀ q, q < H.size → A1 q → A0 q) (hf : ∀ q, free q → A0 q) (hAX : ∀ q, q < H.size → AX q → A0 q)
    (kx : ∀ (E : String) (ce : Cell) (q9 : Addr) (u : SX) (t : State) (H1 : Heap) (locs1 : List Loc), t.heap = H1 → s.vm.Alike t.vm → px u → BX E u t → H.size ≤ H1.size → (∀ q : Nat, q < H.size → ¬ AX q → H1[q]? = H[q]?) → va_S A0 H0 H1 locs1 → H1[q9]? = some ce → ce.vm = .none → s.vm.findClass E = some ce.cls → vx_W p l e R s m args below meth c H1 locs1 (cells + mc) (slots + ms) Q (F0 m pc ls rest) q9)
    (kk : ∀ (r : Int32) (u : S) (t : State) (H1 : Heap) (locs1 : List Loc), t.heap = H1 → s.vm.Alike t.vm → post r u → B u t → H.size ≤ H1.size → (∀ q : Nat, q < H.size → ¬ A1 q → H1[q]? = H[q]?) → va_S A0 H0 H1 locs1 → W p l e R s m args below meth c H1 locs1 (cells + mc) (slots + ms) Q (F0 m (pc + 3) ls (.int r :: rest))) : W p l e R s m args below meth c H locs cells slots Q (F0 m pc ls st0) := by
  intro T hT X
  rcases hr T hT X with ⟨v, st₀, t, T', L, h0, X', hL, e1, e2, ⟨⟨r, u, hv, hp, hb⟩, hF⟩, st⟩ | ⟨q, st₀, t, T', L, E, ce, h0, X', hL, e1, e2, ⟨u, hp, hb, hF⟩, hce, hcv, hcl, st⟩
  · cases hv
    obtain ⟨k1, k2, k3⟩ := vx_keep h0 e1 hS hA hf hL hF
    obtain ⟨t2, a1, b1⟩ := kk r u t T'.heap (locs ++ L) e1.symm (by rw [← e2]; exact X'.warmed.alike) hp hb k1 k2 k3 T' rfl X'
    exact ⟨t2, st t2 a1, b1⟩
  · obtain ⟨k1, k2, k3⟩ := vx_keep h0 e1 hS hAX hf hL hF
    obtain ⟨t2, a1, b1⟩ := kx E ce q u t T'.heap (locs ++ L) e1.symm (by rw [← e2]; exact X'.warmed.alike) hp hb k1 k2 k3 (by rw [e1]; exact hce) hcv hcl T' rfl X'
    exact ⟨t2, st.trans a1, b1⟩
theorem vx_calll {S SX : Type} {post : Int64 → S → Prop} {px : SX → Prop} {B : S → State → Prop} {BX : String → SX → State → Prop} {AX : Nat → Prop} (hr : vx_Run p l e R s m args below meth c H locs cells slots mc ms (F0 m pc ls st0) rest (va_Ql post B A1 a) (vx_X px BX AX) free) (hS : va_S A0 H0 H locs) (hA : ∀ q, q < H.size → A1 q → A0 q) (hf : ∀ q, free q → A0 q) (hAX : ∀ q, q < H.size → AX q → A0 q)
    (kx : ∀ (E : String) (ce : Cell) (q9 : Addr) (u : SX) (t : State) (H1 : Heap) (locs1 : List Loc), t.heap = H1 → s.vm.Alike t.vm → px u → BX E u t → H.size ≤ H1.size → (∀ q : Nat, q < H.size → ¬ AX q → H1[q]? = H[q]?) → va_S A0 H0 H1 locs1 → H1[q9]? = some ce → ce.vm = .none → s.vm.findClass E = some ce.cls → vx_W p l e R s m args below meth c H1 locs1 (cells + mc) (slots + ms) Q (F0 m pc ls rest) q9)
    (kk : ∀ (r : Int64) (u : S) (t : State) (H1 : Heap) (locs1 : List Loc), t.heap = H1 → s.vm.Alike t.vm → post r u → B u t → H.size ≤ H1.size → (∀ q : Nat, q < H.size → ¬ A1 q → H1[q]? = H[q]?) → va_S A0 H0 H1 locs1 → W p l e R s m args below meth c H1 locs1 (cells + mc) (slots + ms) Q (F0 m (pc + 3) ls (.long r :: rest))) : W p l e R s m args below meth c H locs cells slots Q (F0 m pc ls st0) := by
  intro T hT X
  rcases hr T hT X with ⟨v, st₀, t, T', L, h0, X', hL, e1, e2, ⟨⟨r, u, hv, hp, hb⟩, hF⟩, st⟩ | ⟨q, st₀, t, T', L, E, ce, h0, X', hL, e1, e2, ⟨u, hp, hb, hF⟩, hce, hcv, hcl, st⟩
  · cases hv
    obtain ⟨k1, k2, k3⟩ := vx_keep h0 e1 hS hA hf hL hF
    obtain ⟨t2, a1, b1⟩ := kk r u t T'.heap (locs ++ L) e1.symm (by rw [← e2]; exact X'.warmed.alike) hp hb k1 k2 k3 T' rfl X'
    exact ⟨t2, st t2 a1, b1⟩
  · obtain ⟨k1, k2, k3⟩ := vx_keep h0 e1 hS hAX hf hL hF
    obtain ⟨t2, a1, b1⟩ := kx E ce q u t T'.heap (locs ++ L) e1.symm (by rw [← e2]; exact X'.warmed.alike) hp hb k1 k2 k3 (by rw [e1]; exact hce) hcv hcl T' rfl X'
    exact ⟨t2, st.trans a1, b1⟩
theorem vx_callf {S SX : Type} {post : UInt32 → S → Prop} {px : SX → Prop} {B : S → State → Prop} {BX : String → SX → State → Prop} {AX : Nat → Prop} (hr : vx_Run p l e R s m args below meth c H locs cells slots mc ms (F0 m pc ls st0) rest (va_Qf post B A1 a) (vx_X px BX AX) free) (hS : va_S A0 H0 H locs) (hA : ∀ q, q < H.size → A1 q → A0 q) (hf : ∀ q, free q → A0 q) (hAX : ∀ q, q < H.size → AX q → A0 q)
    (kx : ∀ (E : String) (ce : Cell) (q9 : Addr) (u : SX) (t : State) (H1 : Heap) (locs1 : List Loc), t.heap = H1 → s.vm.Alike t.vm → px u → BX E u t → H.size ≤ H1.size → (∀ q : Nat, q < H.size → ¬ AX q → H1[q]? = H[q]?) → va_S A0 H0 H1 locs1 → H1[q9]? = some ce → ce.vm = .none → s.vm.findClass E = some ce.cls → vx_W p l e R s m args below meth c H1 locs1 (cells + mc) (slots + ms) Q (F0 m pc ls rest) q9)
    (kk : ∀ (r : UInt32) (u : S) (t : State) (H1 : Heap) (locs1 : List Loc), t.heap = H1 → s.vm.Alike t.vm → post r u → B u t → H.size ≤ H1.size → (∀ q : Nat, q < H.size → ¬ A1 q → H1[q]? = H[q]?) → va_S A0 H0 H1 locs1 → W p l e R s m args below meth c H1 locs1 (cells + mc) (slots + ms) Q (F0 m (pc + 3) ls (.float r :: rest))) : W p l e R s m args below meth c H locs cells slots Q (F0 m pc ls st0) := by
  intro T hT X
  rcases hr T hT X with ⟨v, st₀, t, T', L, h0, X', hL, e1, e2, ⟨⟨r, u, hv, hp, hb⟩, hF⟩, st⟩ | ⟨q, st₀, t, T', L, E, ce, h0, X', hL, e1, e2, ⟨u, hp, hb, hF⟩, hce, hcv, hcl, st⟩
  · cases hv
    obtain ⟨k1, k2, k3⟩ := vx_keep h0 e1 hS hA hf hL hF
    obtain ⟨t2, a1, b1⟩ := kk r u t T'.heap (locs ++ L) e1.symm (by rw [← e2]; exact X'.warmed.alike) hp hb k1 k2 k3 T' rfl X'
    exact ⟨t2, st t2 a1, b1⟩
  · obtain ⟨k1, k2, k3⟩ := vx_keep h0 e1 hS hAX hf hL hF
    obtain ⟨t2, a1, b1⟩ := kx E ce q u t T'.heap (locs ++ L) e1.symm (by rw [← e2]; exact X'.warmed.alike) hp hb k1 k2 k3 (by rw [e1]; exact hce) hcv hcl T' rfl X'
    exact ⟨t2, st.trans a1, b1⟩
theorem vx_calld {S SX : Type} {post : UInt64 → S → Prop} {px : SX → Prop} {B : S → State → Prop} {BX : String → SX → State → Prop} {AX : Nat → Prop} (hr : vx_Run p l e R s m args below meth c H locs cells slots mc ms (F0 m pc ls st0) rest (va_Qd post B A1 a) (vx_X px BX AX) free) (hS : va_S A0 H0 H locs) (hA : ∀ q, q < H.size → A1 q → A0 q) (hf : ∀ q, free q → A0 q) (hAX : ∀ q, q < H.size → AX q → A0 q)
    (kx : ∀ (E : String) (ce : Cell) (q9 : Addr) (u : SX) (t : State) (H1 : Heap) (locs1 : List Loc), t.heap = H1 → s.vm.Alike t.vm → px u → BX E u t → H.size ≤ H1.size → (∀ q : Nat, q < H.size → ¬ AX q → H1[q]? = H[q]?) → va_S A0 H0 H1 locs1 → H1[q9]? = some ce → ce.vm = .none → s.vm.findClass E = some ce.cls → vx_W p l e R s m args below meth c H1 locs1 (cells + mc) (slots + ms) Q (F0 m pc ls rest) q9)
    (kk : ∀ (r : UInt64) (u : S) (t : State) (H1 : Heap) (locs1 : List Loc), t.heap = H1 → s.vm.Alike t.vm → post r u → B u t → H.size ≤ H1.size → (∀ q : Nat, q < H.size → ¬ A1 q → H1[q]? = H[q]?) → va_S A0 H0 H1 locs1 → W p l e R s m args below meth c H1 locs1 (cells + mc) (slots + ms) Q (F0 m (pc + 3) ls (.double r :: rest))) : W p l e R s m args below meth c H locs cells slots Q (F0 m pc ls st0) := by
  intro T hT X
  rcases hr T hT X with ⟨v, st₀, t, T', L, h0, X', hL, e1, e2, ⟨⟨r, u, hv, hp, hb⟩, hF⟩, st⟩ | ⟨q, st₀, t, T', L, E, ce, h0, X', hL, e1, e2, ⟨u, hp, hb, hF⟩, hce, hcv, hcl, st⟩
  · cases hv
    obtain ⟨k1, k2, k3⟩ := vx_keep h0 e1 hS hA hf hL hF
    obtain ⟨t2, a1, b1⟩ := kk r u t T'.heap (locs ++ L) e1.symm (by rw [← e2]; exact X'.warmed.alike) hp hb k1 k2 k3 T' rfl X'
    exact ⟨t2, st t2 a1, b1⟩
  · obtain ⟨k1, k2, k3⟩ := vx_keep h0 e1 hS hAX hf hL hF
    obtain ⟨t2, a1, b1⟩ := kx E ce q u t T'.heap (locs ++ L) e1.symm (by rw [← e2]; exact X'.warmed.alike) hp hb k1 k2 k3 (by rw [e1]; exact hce) hcv hcl T' rfl X'
    exact ⟨t2, st.trans a1, b1⟩
theorem vx_callv {S SX : Type} {post : S → Prop} {px : SX → Prop} {B : S → State → Prop} {BX : String → SX → State → Prop} {AX : Nat → Prop} (hr : vx_Run p l e R s m args below meth c H locs cells slots mc ms (F0 m pc ls st0) rest (va_Qv post B A1 a) (vx_X px BX AX) free) (hS : va_S A0 H0 H locs) (hA : ∀ q, q < H.size → A1 q → A0 q) (hf : ∀ q, free q → A0 q) (hAX : ∀ q, q < H.size → AX q → A0 q)
    (kx : ∀ (E : String) (ce : Cell) (q9 : Addr) (u : SX) (t : State) (H1 : Heap) (locs1 : List Loc), t.heap = H1 → s.vm.Alike t.vm → px u → BX E u t → H.size ≤ H1.size → (∀ q : Nat, q < H.size → ¬ AX q → H1[q]? = H[q]?) → va_S A0 H0 H1 locs1 → H1[q9]? = some ce → ce.vm = .none → s.vm.findClass E = some ce.cls → vx_W p l e R s m args below meth c H1 locs1 (cells + mc) (slots + ms) Q (F0 m pc ls rest) q9)
    (kk : ∀ (u : S) (t : State) (H1 : Heap) (locs1 : List Loc), t.heap = H1 → s.vm.Alike t.vm → post u → B u t → H.size ≤ H1.size → (∀ q : Nat, q < H.size → ¬ A1 q → H1[q]? = H[q]?) → va_S A0 H0 H1 locs1 → W p l e R s m args below meth c H1 locs1 (cells + mc) (slots + ms) Q (F0 m (pc + 3) ls (rest))) : W p l e R s m args below meth c H locs cells slots Q (F0 m pc ls st0) := by
  intro T hT X
  rcases hr T hT X with ⟨v, st₀, t, T', L, h0, X', hL, e1, e2, ⟨⟨u, hv, hp, hb⟩, hF⟩, st⟩ | ⟨q, st₀, t, T', L, E, ce, h0, X', hL, e1, e2, ⟨u, hp, hb, hF⟩, hce, hcv, hcl, st⟩
  · cases hv
    obtain ⟨k1, k2, k3⟩ := vx_keep h0 e1 hS hA hf hL hF
    obtain ⟨t2, a1, b1⟩ := kk u t T'.heap (locs ++ L) e1.symm (by rw [← e2]; exact X'.warmed.alike) hp hb k1 k2 k3 T' rfl X'
    exact ⟨t2, st t2 a1, b1⟩
  · obtain ⟨k1, k2, k3⟩ := vx_keep h0 e1 hS hAX hf hL hF
    obtain ⟨t2, a1, b1⟩ := kx E ce q u t T'.heap (locs ++ L) e1.symm (by rw [← e2]; exact X'.warmed.alike) hp hb k1 k2 k3 (by rw [e1]; exact hce) hcv hcl T' rfl X'
    exact ⟨t2, st.trans a1, b1⟩
/-- caught by the row x of this method's table; the rows ahead don't take it -/
theorem vx_catch {own name : String} {E : String} {ce : Cell} {q : Addr} (hown : s.vm.findClass own = some m.cls) (pre : List ExceptionTableEntry) (x : ExceptionTableEntry) (suf : List ExceptionTableEntry) (hsplit : c.exceptionTable.toList = pre ++ x :: suf)
    (hpass : ∀ z ∈ pre, covers z pc = false ∨ (z.catchType ≠ 0 ∧ ∃ nm : String, (Cond.classLink own z.catchType nm).before args s = true ∧ va_Nc E nm s)) (hx : covers x pc = true) (h0 : x.catchType ≠ 0)
    (hlink : (Cond.classLink own x.catchType name).before args s = true) (hcast : (Cond.castable E name).before args s = true) (hcell : H[q]? = some ce) (hv : ce.vm = .none) (hcl : s.vm.findClass E = some ce.cls)
    (kk : W p l e R s m args below meth c H locs cells slots Q (F0 m x.handlerPc ls [.ref q])) : vx_W p l e R s m args below meth c H locs cells slots Q (F0 m pc ls rest) q := by
  intro T hT X
  have hpl : e.platform.magicAccessors = ({} : Platform).magicAccessors := by rw [X.admits.platform]
  obtain ⟨c3, c4, hc3, hc4, hasg⟩ := Cond.castable_spec hcast
  cases Option.some.inj (hc3.symm.trans hcl)
  obtain ⟨c5, hc5, hcl5⟩ := Cond.classLink_spec hown hlink e.platform hpl
  cases Option.some.inj (hc4.symm.trans hc5)
  obtain ⟨vm', X', st⟩ := X.thenCaughtThrough q (g := F0 m pc ls rest) rfl (Steps.refl _) (by rw [hT]; exact hcell) (by rw [hv]; rfl) (by obtain ⟨k9, h9, -⟩ := Vm.findClass_spec hcl; exact ⟨k9, h9⟩) pre x suf hsplit
    (fun z hz => by
      rcases hpass z hz with h | ⟨hz0, nm, hl1, hn1⟩
      · exact Or.inl h
      · obtain ⟨c6, hc6, hcl6⟩ := Cond.classLink_spec hown hl1 e.platform hpl
        obtain ⟨a8, b8, h1, h2, h3⟩ := hn1
        cases Option.some.inj (h1.symm.trans hcl)
        cases Option.some.inj (h2.symm.trans hc6)
        exact Or.inr ⟨hz0, _, hcl6, h3⟩) hx (Or.inr ⟨h0, c4, hcl5, hasg⟩)
  obtain ⟨t, a1, b1⟩ := kk (T.setVm vm') hT X'
  exact ⟨t, st.trans a1, b1⟩
end Rows
section Ends
variable {p : Program} {l : Launch} {e : Env} {R : Room} {s : State} {m : MethodId} {args : Array Value} {below : List Frame} {meth : Method} {c : Code} {H : Heap} {locs : List Loc} {cells slots : Nat} {Q : State → Prop}
variable {mc ms : Nat} {free : Addr → Prop} {A0 A1 : Nat → Prop} {H0 : Heap} {a : Array Value} {ls : Array Slot} {st0 rest : List Value}
variable {Qc : Array Value → State → Outcome → State → Prop} {XC : String → State → State → Prop}
/-- what a body that may throw owes at its end -/
def vx_MQ (below : List Frame) (Qc : Array Value → State → Outcome → State → Prop) (XC : String → State → State → Prop) (a : Array Value) (s : State) (mc ms : Nat) (free : Addr → Prop) : State → Prop := fun t =>
  ∃ o, t.status = .running ∧ Ended t below o ∧ vx_Q Qc XC mc ms free a s o t
theorem vx_ret {g : JFrame} {mc ms : Nat} (k : W p l e R s m args below meth c H locs cells slots (MQ below Qc args s mc ms free) g) : W p l e R s m args below meth c H locs cells slots (vx_MQ below Qc XC args s mc ms free) g := by
  intro T hT X
  obtain ⟨t, a1, o, b1, b2, b3, b4⟩ := k T hT X
  exact ⟨t, a1, o, b1, b2, Or.inl ⟨b3, b4⟩⟩
/-- not caught here: it goes on to the caller -/
theorem vx_widen {g : JFrame} {q : Addr} {k n : Nat} (h1 : cells ≤ k) (h2 : slots ≤ n) (kk : vx_W p l e R s m args below meth c H locs k n Q g q) : vx_W p l e R s m args below meth c H locs cells slots Q g q := fun T hT X => kk T hT (stand_widen X h1 h2)
theorem vx_out {pc : Nat} {E : String} {ce : Cell} {q : Addr} {mc ms : Nat} (hout : ∀ x ∈ c.exceptionTable.toList, covers x pc = false) (hlocks : meth.locks = false) (hcell : H[q]? = some ce) (hv : ce.vm = .none) (hcl : s.vm.findClass E = some ce.cls)
    (hx : ∀ t : State, t.heap = H → s.vm.Alike t.vm → XC E s t) (hf : ∀ z ∈ locs, free z.base) (hc : cells ≤ mc) (hs : slots ≤ ms) :
    vx_W p l e R s m args below meth c H locs cells slots (vx_MQ below Qc XC args s mc ms free) (F0 m pc ls rest) q := by
  intro T hT X
  obtain ⟨st1, hrun, hend, hW, hsm⟩ := X.leaveThrown q (g := F0 m pc ls rest) rfl rfl rfl hout hlocks
  have hcell9 : (T.setFrames (.throwing q :: below)).heap[q]? = some ce := by
    show T.heap[q]? = some ce
    rw [hT]; exact hcell
  exact ⟨_, st1, .threw q, hrun, hend, Or.inr ⟨q, rfl, E, ce, locs, hx _ hT hW.alike, hcell9, hv, hcl, hW, hsm.mono hc hs, hf⟩⟩
theorem vx_frame {U : State} {k n : Nat} (h : s.sameButNew ({ U with vm := s.vm } : State) locs k n) : s.heap.size ≤ U.heap.size ∧ ∀ q : Nat, q < s.heap.size → (∀ z ∈ locs, z.base ≠ q) → U.heap[q]? = s.heap[q]? := by
  obtain ⟨-, h2, -, -, -, h6⟩ := h
  refine ⟨h2, fun q hq hz => ?_⟩
  obtain ⟨c9, e1, e2, e3, e4⟩ := h6 q _ (Array.getElem?_eq_getElem hq)
  have hs : c9.slots = (s.heap[q]).slots := Array.ext_getElem? fun i => e4 i fun hm => hz _ hm rfl
  have h9 : c9 = s.heap[q] := by
    rw [hs] at e2
    exact e2
  have e5 : U.heap[q]? = some c9 := e1
  rw [e5, h9, Array.getElem?_eq_getElem hq]
/-- the words of a throw but the four that speak of the heap -/
def vx_no (w : Cond) : Bool := decide (w ≠ .isRef (.static Bundle.tN "UNASSIGNED_STACK" Bundle.steD)) && decide (w ≠ .isRef (.static Bundle.tN "SUPPRESSED_SENTINEL" Bundle.listD)) && decide (w ≠ .laysStatic Bundle.tN "UNASSIGNED_STACK" Bundle.steD) && decide (w ≠ .laysStatic Bundle.tN "SUPPRESSED_SENTINEL" Bundle.listD)
def vx_at0 (own : String) (ic : Nat) (X : String) (names : List String) : List Cond := (Bundle.ownAtoms0 own ic X names).filter vx_no
def vx_atS (own : String) (ic : Nat) (X : String) (names : List String) : List Cond := (Bundle.ownAtoms own ic X names).filter vx_no
/-- a word that the tables alone decide, or a good one -/
def vx_ot (w : Cond) : Bool := w.onTables || goodWord w
theorem vx_ot_at {args a' : Array Value} {s U : State} {w : Cond} (hW : s.WarmedH U.vm) (hvm : s.vm = U.vm) (hg : vx_ot w = true) (h : w.before args s = true) : w.before a' U = true := by
  simp only [vx_ot, Bool.or_eq_true] at hg
  rcases hg with hg | hg
  · exact va_tabs hg hvm h
  · exact word_at hW (good_of_word hg) h
/-- a list's words: the good ones out of the method's own list, the others by premises of their own -/
theorem vx_hat {args : Array Value} {s : State} {L B : List Cond} (h1 : ∀ w ∈ L.filter goodWord, w.before args s = true) (h2 : ∀ w ∈ L.filter (fun w => !goodWord w), w ∈ B) (h3 : ∀ w ∈ B, w.before args s = true) : ∀ w ∈ L, w.before args s = true := by
  intro w hw
  by_cases g : goodWord w = true
  · exact h1 w (List.mem_filter.mpr ⟨hw, g⟩)
  · refine h3 w (h2 w (List.mem_filter.mpr ⟨hw, ?_⟩))
    show (!goodWord w) = true
    cases hgw : goodWord w
    · rfl
    · exact absurd hgw g
theorem vx_c {args : Array Value} {s : State} {w : Cond} {B : List Cond} (h : w.before args s = true) (t : ∀ w ∈ B, w.before args s = true) : ∀ w' ∈ w :: B, w'.before args s = true := fun w' h' => (List.mem_cons.mp h').elim (fun e => by rw [e]; exact h) (t w')
theorem vx_n {args : Array Value} {s : State} : ∀ w ∈ ([] : List Cond), w.before args s = true := fun _ h => nomatch h
theorem vx_own {args : Array Value} {s : State} {L : List Cond} (h1 : ∀ w ∈ L.filter vx_no, w.before args s = true)
    (hU : (Cond.isRef (.static Bundle.tN "UNASSIGNED_STACK" Bundle.steD)).before args s = true) (hN : (Cond.isRef (.static Bundle.tN "SUPPRESSED_SENTINEL" Bundle.listD)).before args s = true)
    (lU : (Cond.laysStatic Bundle.tN "UNASSIGNED_STACK" Bundle.steD).before args s = true) (lN : (Cond.laysStatic Bundle.tN "SUPPRESSED_SENTINEL" Bundle.listD).before args s = true) : ∀ w ∈ L, w.before args s = true := by
  intro w hw
  by_cases e1 : w = .isRef (.static Bundle.tN "UNASSIGNED_STACK" Bundle.steD)
  · rw [e1]; exact hU
  · by_cases e2 : w = .isRef (.static Bundle.tN "SUPPRESSED_SENTINEL" Bundle.listD)
    · rw [e2]; exact hN
    · by_cases e3 : w = .laysStatic Bundle.tN "UNASSIGNED_STACK" Bundle.steD
      · rw [e3]; exact lU
      · by_cases e4 : w = .laysStatic Bundle.tN "SUPPRESSED_SENTINEL" Bundle.listD
        · rw [e4]; exact lN
        · exact h1 w (List.mem_filter.mpr ⟨hw, by unfold vx_no; rw [decide_eq_true e1, decide_eq_true e2, decide_eq_true e3, decide_eq_true e4]; rfl⟩)
/-- where a static field lies, its class's statics cell in H -/
def vx_L (C n d : String) (A : Nat → Prop) (U : State) (H : Heap) : Prop := ∃ (c : ClassId) (k : Class) (i : Nat) (f : Field) (a : Nat) (cell : Cell), U.vm.findClass C = some c ∧ U.fieldFound? C n d = some (c, k, i, f) ∧ f.isStatic = true ∧ k.statics = some a ∧ H[a]? = some cell ∧ cell.vm.isStatics = true ∧ cell.cls = c ∧ f.slot < cell.slots.size ∧ k.staticTypes[f.slot]? = some f.type ∧ ¬ A a
theorem vx_L.moved {C n d : String} {A : Nat → Prop} {u U : State} {H : Heap} (hvm : u.vm.Alike U.vm) (h : vx_L C n d A u H) : vx_L C n d A U H := by
  obtain ⟨c, k, i, f, a, cell, h1, h2, h3, h4, h5, h6, h7, h8, h9, h10⟩ := h
  obtain ⟨k', hi', he⟩ := State.fieldFound?_setVm hvm h2
  exact ⟨c, k', i, f, a, cell, by rw [hvm.findClass]; exact h1, hi', h3, by rw [he]; exact h4, h5, h6, h7, h8, by rw [he]; exact h9, h10⟩
theorem vx_L.kept {C n d : String} {A : Nat → Prop} {U : State} {H H1 : Heap} (h : vx_L C n d A U H) (hq : ∀ a : Nat, a < H.size → ¬ A a → H1[a]? = H[a]?) : vx_L C n d A U H1 := by
  obtain ⟨c, k, i, f, a, cell, h1, h2, h3, h4, h5, h6, h7, h8, h9, h10⟩ := h
  exact ⟨c, k, i, f, a, cell, h1, h2, h3, h4, by rw [hq a (Array.getElem?_eq_some_iff.mp h5).1 h10]; exact h5, h6, h7, h8, h9, h10⟩
theorem vx_L.narrow {C n d : String} {A B : Nat → Prop} {U : State} {H : Heap} (h : vx_L C n d A U H) (hAB : ∀ q, B q → A q) : vx_L C n d B U H := by
  obtain ⟨c, k, i, f, a, cell, h1, h2, h3, h4, h5, h6, h7, h8, h9, h10⟩ := h
  exact ⟨c, k, i, f, a, cell, h1, h2, h3, h4, h5, h6, h7, h8, h9, fun z => h10 (hAB _ z)⟩
theorem vx_L.word {C n d : String} {A : Nat → Prop} {s : State} {args : Array Value} (h : vx_L C n d A s s.heap) : (Cond.laysStatic C n d).before args s = true := by
  obtain ⟨c, k, i, f, a, cell, h1, h2, h3, h4, h5, h6, h7, h8, h9, -⟩ := h
  show (Cond.laysStatic C n d).holds args s none s [] = true
  exact Cond.laysStatic_of h1 h2 h3 h4 h5 h6 h7 h8 h9
/-- .. and what it holds: null or some reference -/
def vx_Zq (C n d : String) (A : Nat → Prop) (U : State) (H : Heap) : Prop := va_Zq C n d A U H ∧ vx_L C n d A U H
theorem vx_Zq.moved {C n d : String} {A : Nat → Prop} {u U : State} {H : Heap} (hvm : u.vm.Alike U.vm) (h : vx_Zq C n d A u H) : vx_Zq C n d A U H := ⟨va_Zq.moved hvm h.1, vx_L.moved hvm h.2⟩
theorem vx_Zq.kept {C n d : String} {A : Nat → Prop} {U : State} {H H1 : Heap} (h : vx_Zq C n d A U H) (hq : ∀ a : Nat, a < H.size → ¬ A a → H1[a]? = H[a]?) : vx_Zq C n d A U H1 := ⟨va_Zq.kept h.1 hq, vx_L.kept h.2 hq⟩
theorem vx_Zq.narrow {C n d : String} {A B : Nat → Prop} {U : State} {H : Heap} (h : vx_Zq C n d A U H) (hAB : ∀ q, B q → A q) : vx_Zq C n d B U H := ⟨va_Zq.narrow h.1 hAB, vx_L.narrow h.2 hAB⟩
theorem vx_Zqof {args : Array Value} {s : State} {C n d : String} {A : Nat → Prop} (hl : (Cond.laysStatic C n d).before args s = true) (hini : (Cond.initialized C).before args s = true) (h : (Cond.isRef (.static C n d)).before args s = true) (hA : ∀ a : Nat, a < s.heap.size → ¬ A a) : vx_Zq C n d A s s.heap := by
  refine ⟨va_Zqof hl hini h hA, ?_⟩
  obtain ⟨c, k, i, f, a, cell, h1, h2, h3, h4, h5, h6, h7, h8, h9⟩ := Cond.laysStatic_spec hl
  exact ⟨c, k, i, f, a, cell, h1, h2, h3, h4, h5, h6, h7, h8, h9, hA a (Array.getElem?_eq_some_iff.mp h5).1⟩
theorem vx_isRef {C n d : String} {v : Value} {A : Nat → Prop} {s : State} {args : Array Value} (h : va_Z C n d v A s s.heap) (hv : v.isRef = true) : (Cond.isRef (.static C n d)).before args s = true := by
  obtain ⟨cf, kf, fi, f, a, cell, h1, h2, h3, h4, h5, h6, h7, -⟩ := h
  have he : (Term.static C n d).eval args s none [] s = some v := by
    simp [Term.eval, State.fieldNamed?, h1, h2, h4, h5, h6, h7]
  simp only [Cond.before, Cond.holds, Cond.value, he]
  cases v <;> simp_all [Value.isRef]
theorem vx_isRefq {C n d : String} {A : Nat → Prop} {s : State} {args : Array Value} (h : va_Zq C n d A s s.heap) : (Cond.isRef (.static C n d)).before args s = true := by
  rcases h with h | ⟨t, h⟩
  · exact vx_isRef h rfl
  · exact vx_isRef h rfl
/-- the same frame, seen from here: as if the method were called anew in this heap -/
theorem vx_rebase {T : State} (X : Stand p l e R s m args below meth c T locs cells slots) {R' : Room} (hf : R'.frames ≤ R.frames) (hl : R'.locals ≤ R.locals) (hc : cells + R'.cells ≤ R.cells) (hs : slots + R'.slots ≤ R.slots) :
    Stand p l e R' ((T.setVm s.vm).setFrames (.invoking m args :: below)) m args below meth c T [] 0 0 := by
  have htop : (T.setVm s.vm).topJava?.isSome := X.here.top
  have hF : ((T.setVm s.vm).setFrames (.invoking m args :: below)).frames = .invoking m args :: below := State.frames_setFrames _ (State.cur_lt_of_top htop)
  obtain ⟨g₀, hg0⟩ := Option.isSome_iff_exists.mp htop
  obtain ⟨r, hr⟩ := State.topJava?_eq_some.mp hg0
  have hl9 : e.platform.stackLimits (T.setVm s.vm).me = e.platform.stackLimits s.me := X.limits
  have hb9 : (T.setVm s.vm).me.stackBytes = s.me.stackBytes := X.bytes
  refine ⟨X.admits, X.cas, X.clock, hF, ?_, X.hears, X.method, X.code, X.here, X.tail, X.warmed, ?_, ?_, ?_⟩
  · have h := X.room
    have hU : ((T.setVm s.vm).setFrames (.invoking m args :: below)).localsInUse = s.localsInUse := by
      rw [State.localsInUse_invoking hF (meth := meth) (c := c) X.method X.code, State.localsInUse_invoking X.frames X.method X.code]
    simp only [State.hasRoom, Bool.and_eq_true, decide_eq_true_eq] at h ⊢
    obtain ⟨⟨⟨⟨h1, h2, h3, h4, h5, h6⟩, h7⟩, h8⟩, h9⟩ := h
    rw [X.frames, List.length_cons] at h2 h3
    have q1 := X.heapSize
    have q2 := X.used
    simp only [hF, hU, List.length_cons, State.stackLimits_setFrames, State.stackBytes_setFrames, hl9, hb9]
    refine ⟨⟨⟨⟨by omega, by omega, by omega, by omega, by omega, h6⟩, ?_⟩, ?_⟩, X.book⟩
    · show T.heap.size + R'.cells ≤ e.platform.maxCells
      omega
    · show T.slotsUsed + R'.slots ≤ e.platform.maxSlots
      omega
  · rw [State.stackLimits_setFrames]; rfl
  · rw [State.stackBytes_setFrames]; rfl
  · refine ⟨?_, Nat.le_refl _, Nat.le_refl _, ?_, ?_, fun a c9 h9 => ⟨c9, h9, rfl, rfl, fun _ _ => rfl⟩⟩
    · obtain ⟨t, ht, -⟩ := State.frames_cons hr
      show T.setVm s.vm = { ((T.setVm s.vm).setFrames (.invoking m args :: below)).setFrames (T.setVm s.vm).frames with heap := T.heap, slotsUsed := T.slotsUsed }
      rw [State.setFrames_setFrames, State.setFrames_self ht]
      rfl
    · show T.slotsUsed = T.slotsUsed + ((T.heap.toList.drop T.heap.size).map (·.slots.size)).sum
      rw [List.drop_eq_nil_of_le (Nat.le_of_eq Array.length_toList)]
      rfl
    · show ((T.heap.toList.drop T.heap.size).map (·.slots.size)).sum ≤ 0
      rw [List.drop_eq_nil_of_le (Nat.le_of_eq Array.length_toList)]
      exact Nat.le_refl _
/-- 'throw new E()': new; dup; invokespecial; athrow -/
theorem vx_throw0 {cc : ByteArray} {pc : Nat} (hexec : p.tables.exec = Jvm.exec) (hb : c.code = cc) (hl : l.stackTraces = false) {own cls : String} {names : List String} {ik ic mc ms : Nat} {A : Nat → Prop}
    (hown : s.vm.findClass own = some m.cls) (hcls : Bundle.fit cls = true) (hnames : ∀ n ∈ names, Bundle.fit n = true)
    (hk : (Cond.classLink own ik cls).before args s = true) (hini : (Cond.initialized cls).before args s = true) (hat : ∀ w ∈ vx_at0 own ic cls names, w.before args s = true)
    (hgood : ∀ w ∈ Cond.classLink own ik cls :: Cond.initialized cls :: vx_at0 own ic cls names, vx_ot w = true)
    (hU : vx_Zq Bundle.tN "UNASSIGNED_STACK" Bundle.steD A s s.heap) (hN : vx_Zq Bundle.tN "SUPPRESSED_SENTINEL" Bundle.listD A s s.heap) (hS : va_S A s.heap H locs) (hsize : ls.size = c.maxLocals)
    (d0 : decode cc pc = .ok (.new ik, 3)) (d3 : decode cc (pc + 3) = .ok (.dup, 1)) (d4 : decode cc (pc + 4) = .ok (.invokespecial ic, 3)) (d7 : decode cc (pc + 7) = .ok (.athrow, 1))
    (hout : ∀ x ∈ c.exceptionTable.toList, covers x (pc + 7) = false)
    (hRframes : names.length + 3 < R.frames) (hRlocals : (rest.map fun v => v.category).sum + (13 * (names.length + 1) + 42) ≤ R.locals) (hRcells : cells + 1 ≤ R.cells) (hRslots : slots + 6 ≤ R.slots) (hlocks : meth.locks = false)
    (hx : ∀ t : State, s.vm.Alike t.vm → H.size ≤ t.heap.size → (∀ q : Nat, q < H.size → t.heap[q]? = H[q]?) → XC cls s t)
    (hf : ∀ z ∈ locs, free z.base) (hc : cells + 1 ≤ mc) (hs : slots + 6 ≤ ms) :
    W p l e R s m args below meth c H locs cells slots (vx_MQ below Qc XC args s mc ms free) (F0 m pc ls rest) := by
  intro T hT X
  have htr : e.platform.stackTraces = false := (show e.platform.stackTraces = l.stackTraces by rw [X.admits.platform]).trans hl
  have Y := vx_rebase X (R' := { frames := R.frames, locals := R.locals, cells := 1, slots := 6 }) (Nat.le_refl _) (Nat.le_refl _) hRcells hRslots
  obtain ⟨s', hA⟩ : ∃ z, z = (T.setVm s.vm).setFrames (.invoking m args :: below) := ⟨_, rfl⟩
  rw [← hA] at Y
  have hvm : s'.vm = s.vm := by rw [hA]; rfl
  have hhp : s'.heap = H := by rw [hA]; exact hT
  have hW0 : s.WarmedH s'.vm := by rw [hvm]; exact State.WarmedH.refl s
  have hat' : ∀ w ∈ vx_at0 own ic cls names, w.before args s' = true := fun w hw => vx_ot_at hW0 hvm.symm (hgood w (List.mem_cons_of_mem _ (List.mem_cons_of_mem _ hw))) (hat w hw)
  have hk' : (Cond.classLink own ik cls).before args s' = true := vx_ot_at hW0 hvm.symm (hgood _ List.mem_cons_self) hk
  have hini' : (Cond.initialized cls).before args s' = true := vx_ot_at hW0 hvm.symm (hgood _ (List.mem_cons_of_mem _ List.mem_cons_self)) hini
  have hU' : vx_Zq Bundle.tN "UNASSIGNED_STACK" Bundle.steD A s' s'.heap := by rw [hhp]; exact vx_Zq.moved hW0.alike (hU.kept hS.2.1)
  have hN' : vx_Zq Bundle.tN "SUPPRESSED_SENTINEL" Bundle.listD A s' s'.heap := by rw [hhp]; exact vx_Zq.moved hW0.alike (hN.kept hS.2.1)
  have h : ∀ w ∈ Bundle.ownAtoms0 own ic cls names, w.before args s' = true := vx_own hat' (vx_isRefq hU'.1) (vx_isRefq hN'.1) hU'.2.word hN'.2.word
  have hown' : s'.vm.findClass own = some m.cls := by rw [hvm]; exact hown
  have hins : (Cond.instantiable cls 6).before args s' = true := h _ (by simp [Bundle.ownAtoms0])
  obtain ⟨vm₁, cX, kX, hfX, hkX, -, -, X₁, st1⟩ := Y.newCold hexec (own := own) (C := cls) (index := ik) (n := 6) hown' hk' hins hini'
    (g := F0 m pc ls rest) rfl (by rw [hb]; exact d0) (Nat.le_refl _) (Nat.le_refl _)
  generalize hT1 : (T.setVm vm₁).pushCell { cls := cX, slots := kX.instanceTypes.map defaultValue, vm := .none } = T1 at X₁ st1
  have hcat : (Value.ref T.heap.size).category = 1 := rfl
  have hcellA : T1.heap[T.heap.size]? = some (freshCell cX kX) := by rw [← hT1]; exact State.heap_pushCell_size _ _
  have d3' : decode c.code (pc + 3) = .ok (.dup, 1) := by rw [hb]; exact d3
  obtain ⟨U, hsteps, hrun, hend, hW, hsame, ce, hce, hO⟩ := X₁.ctorThrow0 hexec htr (own := own) (cls := cls) (names := names) (ic := ic) hown' hcls hnames h (fun x hx => nomatch hx) hfX hkX hcellA (by rw [hhp, hT]; exact Nat.le_refl _)
    (g := { method := m, pc := pc + 4, locals := ls, stack := .ref T.heap.size :: .ref T.heap.size :: rest, locked := none }) rfl hsize rfl rfl (rest := rest) rfl
    (by rw [hb]; exact d4) (by rw [hb]; exact d7) hout hRframes (by simp only [List.map_cons, List.sum_cons, hcat]; omega) hlocks
  obtain ⟨f1, f2⟩ := vx_frame hsame
  rw [hhp] at f1 f2
  have hWs : s.WarmedH U.vm := State.WarmedH.trans hW0 hW
  have hcl : s.vm.findClass cls = some ce.cls := by
    have h9 := hO.cls
    rw [hvm] at h9
    exact h9
  have hall : s.sameButNew ({ U with vm := s.vm } : State) locs mc ms := by
    subst hA
    obtain ⟨e1, e2⟩ := hsame
    rw [State.setFrames_setFrames] at e1
    have h2 : (T.setVm s.vm).sameButNew ({ U with vm := s.vm } : State) [] (0 + 1) (0 + 6) := ⟨e1, e2⟩
    have h3 := X.same.trans h2
    rw [List.append_nil] at h3
    exact h3.mono hc hs
  refine ⟨U, ?_, .threw T.heap.size, hrun, hend, Or.inr ⟨T.heap.size, rfl, cls, ce, locs, hx U hWs.alike f1 (fun q hq => f2 q hq (fun z hz => nomatch hz)), hce, hO.vm, hcl, hWs, hall, hf⟩⟩
  refine st1 _ ?_
  show Steps p.tables e below (T1.setTop { method := m, pc := pc + 3, locals := ls, stack := .ref T.heap.size :: rest, locked := none }) _
  jvm_step X₁.here [X₁.here.top, hexec, d3', Value.category]
  exact hsteps
/-- 'throw new E("text")': new; dup; ldc; invokespecial; athrow -/
theorem vx_throwS {cc : ByteArray} {pc : Nat} (hexec : p.tables.exec = Jvm.exec) (hb : c.code = cc) (hl : l.stackTraces = false) {own cls text : String} {names : List String} {ik is ic mc ms sa : Nat} {A : Nat → Prop}
    (hown : s.vm.findClass own = some m.cls) (hcls : Bundle.fit cls = true) (hnames : ∀ n ∈ names, Bundle.fit n = true)
    (hk : (Cond.classLink own ik cls).before args s = true) (hini : (Cond.initialized cls).before args s = true) (hstr : vk_R own is text sa s) (hat : ∀ w ∈ vx_atS own ic cls names, w.before args s = true)
    (hgood : ∀ w ∈ Cond.classLink own ik cls :: Cond.initialized cls :: vx_atS own ic cls names, vx_ot w = true)
    (hU : vx_Zq Bundle.tN "UNASSIGNED_STACK" Bundle.steD A s s.heap) (hN : vx_Zq Bundle.tN "SUPPRESSED_SENTINEL" Bundle.listD A s s.heap) (hS : va_S A s.heap H locs) (hsize : ls.size = c.maxLocals)
    (d0 : decode cc pc = .ok (.new ik, 3)) (d3 : decode cc (pc + 3) = .ok (.dup, 1)) (d4 : decode cc (pc + 4) = .ok (.ldc is, 2)) (d6 : decode cc (pc + 6) = .ok (.invokespecial ic, 3)) (d9 : decode cc (pc + 9) = .ok (.athrow, 1))
    (hout : ∀ x ∈ c.exceptionTable.toList, covers x (pc + 9) = false)
    (hRframes : names.length + 3 < R.frames) (hRlocals : (rest.map fun v => v.category).sum + (13 * (names.length + 1) + 43) ≤ R.locals) (hRcells : cells + 1 ≤ R.cells) (hRslots : slots + 6 ≤ R.slots) (hlocks : meth.locks = false)
    (hx : ∀ t : State, s.vm.Alike t.vm → H.size ≤ t.heap.size → (∀ q : Nat, q < H.size → t.heap[q]? = H[q]?) → XC cls s t)
    (hf : ∀ z ∈ locs, free z.base) (hc : cells + 1 ≤ mc) (hs : slots + 6 ≤ ms) :
    W p l e R s m args below meth c H locs cells slots (vx_MQ below Qc XC args s mc ms free) (F0 m pc ls rest) := by
  intro T hT X
  have htr : e.platform.stackTraces = false := (show e.platform.stackTraces = l.stackTraces by rw [X.admits.platform]).trans hl
  have Y := vx_rebase X (R' := { frames := R.frames, locals := R.locals, cells := 1, slots := 6 }) (Nat.le_refl _) (Nat.le_refl _) hRcells hRslots
  obtain ⟨s', hA⟩ : ∃ z, z = (T.setVm s.vm).setFrames (.invoking m args :: below) := ⟨_, rfl⟩
  rw [← hA] at Y
  have hvm : s'.vm = s.vm := by rw [hA]; rfl
  have hhp : s'.heap = H := by rw [hA]; exact hT
  have hW0 : s.WarmedH s'.vm := by rw [hvm]; exact State.WarmedH.refl s
  have hat' : ∀ w ∈ vx_atS own ic cls names, w.before args s' = true := fun w hw => vx_ot_at hW0 hvm.symm (hgood w (List.mem_cons_of_mem _ (List.mem_cons_of_mem _ hw))) (hat w hw)
  have hk' : (Cond.classLink own ik cls).before args s' = true := vx_ot_at hW0 hvm.symm (hgood _ List.mem_cons_self) hk
  have hini' : (Cond.initialized cls).before args s' = true := vx_ot_at hW0 hvm.symm (hgood _ (List.mem_cons_of_mem _ List.mem_cons_self)) hini
  have hU' : vx_Zq Bundle.tN "UNASSIGNED_STACK" Bundle.steD A s' s'.heap := by rw [hhp]; exact vx_Zq.moved hW0.alike (hU.kept hS.2.1)
  have hN' : vx_Zq Bundle.tN "SUPPRESSED_SENTINEL" Bundle.listD A s' s'.heap := by rw [hhp]; exact vx_Zq.moved hW0.alike (hN.kept hS.2.1)
  have h : ∀ w ∈ Bundle.ownAtoms own ic cls names, w.before args s' = true := vx_own hat' (vx_isRefq hU'.1) (vx_isRefq hN'.1) hU'.2.word hN'.2.word
  have hown' : s'.vm.findClass own = some m.cls := by rw [hvm]; exact hown
  have hins : (Cond.instantiable cls 6).before args s' = true := h _ (by simp [Bundle.ownAtoms])
  obtain ⟨vm₁, cX, kX, hfX, hkX, -, -, X₁, st1⟩ := Y.newCold hexec (own := own) (C := cls) (index := ik) (n := 6) hown' hk' hins hini'
    (g := F0 m pc ls rest) rfl (by rw [hb]; exact d0) (Nat.le_refl _) (Nat.le_refl _)
  generalize hT1 : (T.setVm vm₁).pushCell { cls := cX, slots := kX.instanceTypes.map defaultValue, vm := .none } = T1 at X₁ st1
  have hcat : (Value.ref T.heap.size).category = 1 := rfl
  have hcellA : T1.heap[T.heap.size]? = some (freshCell cX kX) := by rw [← hT1]; exact State.heap_pushCell_size _ _
  have d3' : decode c.code (pc + 3) = .ok (.dup, 1) := by rw [hb]; exact d3
  have d4' : decode c.code (pc + 4) = .ok (.ldc is, 2) := by rw [hb]; exact d4
  have hstr' : vk_R own is text sa s' := vk_R.warm hW0 hstr
  obtain ⟨U, hsteps, hrun, hend, hW, hsame, ce, hce, hO⟩ := X₁.ctorThrowS hexec htr (own := own) (cls := cls) (names := names) (ic := ic) hown' hcls hnames h (fun x hx => nomatch hx) hfX hkX hcellA (by rw [hhp, hT]; exact Nat.le_refl _) (msg := .ref sa) rfl
    (g := { method := m, pc := pc + 6, locals := ls, stack := .ref sa :: .ref T.heap.size :: .ref T.heap.size :: rest, locked := none }) rfl hsize rfl rfl (rest := rest) rfl
    (by rw [hb]; exact d6) (by rw [hb]; exact d9) hout hRframes (by simp only [List.map_cons, List.sum_cons, hcat]; omega) hlocks
  obtain ⟨f1, f2⟩ := vx_frame hsame
  rw [hhp] at f1 f2
  have hWs : s.WarmedH U.vm := State.WarmedH.trans hW0 hW
  have hcl : s.vm.findClass cls = some ce.cls := by
    have h9 := hO.cls
    rw [hvm] at h9
    exact h9
  have hall : s.sameButNew ({ U with vm := s.vm } : State) locs mc ms := by
    subst hA
    obtain ⟨e1, e2⟩ := hsame
    rw [State.setFrames_setFrames] at e1
    have h2 : (T.setVm s.vm).sameButNew ({ U with vm := s.vm } : State) [] (0 + 1) (0 + 6) := ⟨e1, e2⟩
    have h3 := X.same.trans h2
    rw [List.append_nil] at h3
    exact h3.mono hc hs
  refine ⟨U, ?_, .threw T.heap.size, hrun, hend, Or.inr ⟨T.heap.size, rfl, cls, ce, locs, hx U hWs.alike f1 (fun q hq => f2 q hq (fun z hz => nomatch hz)), hce, hO.vm, hcl, hWs, hall, hf⟩⟩
  refine st1 _ ?_
  show Steps p.tables e below (T1.setTop { method := m, pc := pc + 3, locals := ls, stack := .ref T.heap.size :: rest, locked := none }) _
  jvm_step X₁.here [X₁.here.top, hexec, d3', Value.category]
  exact X₁.ldcString hexec (own := own) (text := text) (index := is) (a := sa) hown' hstr'.1 hstr'.2
    (g := { method := m, pc := pc + 4, locals := ls, stack := .ref T.heap.size :: .ref T.heap.size :: rest, locked := none }) rfl d4' _ hsteps
/-- 'throw new E("text")', the text by a wide index -/
theorem vx_throwSW {cc : ByteArray} {pc : Nat} (hexec : p.tables.exec = Jvm.exec) (hb : c.code = cc) (hl : l.stackTraces = false) {own cls text : String} {names : List String} {ik is ic mc ms sa : Nat} {A : Nat → Prop}
    (hown : s.vm.findClass own = some m.cls) (hcls : Bundle.fit cls = true) (hnames : ∀ n ∈ names, Bundle.fit n = true)
    (hk : (Cond.classLink own ik cls).before args s = true) (hini : (Cond.initialized cls).before args s = true) (hstr : vk_R own is text sa s) (hat : ∀ w ∈ vx_atS own ic cls names, w.before args s = true)
    (hgood : ∀ w ∈ Cond.classLink own ik cls :: Cond.initialized cls :: vx_atS own ic cls names, vx_ot w = true)
    (hU : vx_Zq Bundle.tN "UNASSIGNED_STACK" Bundle.steD A s s.heap) (hN : vx_Zq Bundle.tN "SUPPRESSED_SENTINEL" Bundle.listD A s s.heap) (hS : va_S A s.heap H locs) (hsize : ls.size = c.maxLocals)
    (d0 : decode cc pc = .ok (.new ik, 3)) (d3 : decode cc (pc + 3) = .ok (.dup, 1)) (d4 : decode cc (pc + 4) = .ok (.ldc_w is, 3)) (d7 : decode cc (pc + 7) = .ok (.invokespecial ic, 3)) (d10 : decode cc (pc + 10) = .ok (.athrow, 1))
    (hout : ∀ x ∈ c.exceptionTable.toList, covers x (pc + 10) = false)
    (hRframes : names.length + 3 < R.frames) (hRlocals : (rest.map fun v => v.category).sum + (13 * (names.length + 1) + 43) ≤ R.locals) (hRcells : cells + 1 ≤ R.cells) (hRslots : slots + 6 ≤ R.slots) (hlocks : meth.locks = false)
    (hx : ∀ t : State, s.vm.Alike t.vm → H.size ≤ t.heap.size → (∀ q : Nat, q < H.size → t.heap[q]? = H[q]?) → XC cls s t)
    (hf : ∀ z ∈ locs, free z.base) (hc : cells + 1 ≤ mc) (hs : slots + 6 ≤ ms) :
    W p l e R s m args below meth c H locs cells slots (vx_MQ below Qc XC args s mc ms free) (F0 m pc ls rest) := by
  intro T hT X
  have htr : e.platform.stackTraces = false := (show e.platform.stackTraces = l.stackTraces by rw [X.admits.platform]).trans hl
  have Y := vx_rebase X (R' := { frames := R.frames, locals := R.locals, cells := 1, slots := 6 }) (Nat.le_refl _) (Nat.le_refl _) hRcells hRslots
  obtain ⟨s', hA⟩ : ∃ z, z = (T.setVm s.vm).setFrames (.invoking m args :: below) := ⟨_, rfl⟩
  rw [← hA] at Y
  have hvm : s'.vm = s.vm := by rw [hA]; rfl
  have hhp : s'.heap = H := by rw [hA]; exact hT
  have hW0 : s.WarmedH s'.vm := by rw [hvm]; exact State.WarmedH.refl s
  have hat' : ∀ w ∈ vx_atS own ic cls names, w.before args s' = true := fun w hw => vx_ot_at hW0 hvm.symm (hgood w (List.mem_cons_of_mem _ (List.mem_cons_of_mem _ hw))) (hat w hw)
  have hk' : (Cond.classLink own ik cls).before args s' = true := vx_ot_at hW0 hvm.symm (hgood _ List.mem_cons_self) hk
  have hini' : (Cond.initialized cls).before args s' = true := vx_ot_at hW0 hvm.symm (hgood _ (List.mem_cons_of_mem _ List.mem_cons_self)) hini
  have hU' : vx_Zq Bundle.tN "UNASSIGNED_STACK" Bundle.steD A s' s'.heap := by rw [hhp]; exact vx_Zq.moved hW0.alike (hU.kept hS.2.1)
  have hN' : vx_Zq Bundle.tN "SUPPRESSED_SENTINEL" Bundle.listD A s' s'.heap := by rw [hhp]; exact vx_Zq.moved hW0.alike (hN.kept hS.2.1)
  have h : ∀ w ∈ Bundle.ownAtoms own ic cls names, w.before args s' = true := vx_own hat' (vx_isRefq hU'.1) (vx_isRefq hN'.1) hU'.2.word hN'.2.word
  have hown' : s'.vm.findClass own = some m.cls := by rw [hvm]; exact hown
  have hins : (Cond.instantiable cls 6).before args s' = true := h _ (by simp [Bundle.ownAtoms])
  obtain ⟨vm₁, cX, kX, hfX, hkX, -, -, X₁, st1⟩ := Y.newCold hexec (own := own) (C := cls) (index := ik) (n := 6) hown' hk' hins hini'
    (g := F0 m pc ls rest) rfl (by rw [hb]; exact d0) (Nat.le_refl _) (Nat.le_refl _)
  generalize hT1 : (T.setVm vm₁).pushCell { cls := cX, slots := kX.instanceTypes.map defaultValue, vm := .none } = T1 at X₁ st1
  have hcat : (Value.ref T.heap.size).category = 1 := rfl
  have hcellA : T1.heap[T.heap.size]? = some (freshCell cX kX) := by rw [← hT1]; exact State.heap_pushCell_size _ _
  have d3' : decode c.code (pc + 3) = .ok (.dup, 1) := by rw [hb]; exact d3
  have d4' : decode c.code (pc + 4) = .ok (.ldc_w is, 3) := by rw [hb]; exact d4
  have hstr' : vk_R own is text sa s' := vk_R.warm hW0 hstr
  obtain ⟨U, hsteps, hrun, hend, hW, hsame, ce, hce, hO⟩ := X₁.ctorThrowS hexec htr (own := own) (cls := cls) (names := names) (ic := ic) hown' hcls hnames h (fun x hx => nomatch hx) hfX hkX hcellA (by rw [hhp, hT]; exact Nat.le_refl _) (msg := .ref sa) rfl
    (g := { method := m, pc := pc + 7, locals := ls, stack := .ref sa :: .ref T.heap.size :: .ref T.heap.size :: rest, locked := none }) rfl hsize rfl rfl (rest := rest) rfl
    (by rw [hb]; exact d7) (by rw [hb]; exact d10) hout hRframes (by simp only [List.map_cons, List.sum_cons, hcat]; omega) hlocks
  obtain ⟨f1, f2⟩ := vx_frame hsame
  rw [hhp] at f1 f2
  have hWs : s.WarmedH U.vm := State.WarmedH.trans hW0 hW
  have hcl : s.vm.findClass cls = some ce.cls := by
    have h9 := hO.cls
    rw [hvm] at h9
    exact h9
  have hall : s.sameButNew ({ U with vm := s.vm } : State) locs mc ms := by
    subst hA
    obtain ⟨e1, e2⟩ := hsame
    rw [State.setFrames_setFrames] at e1
    have h2 : (T.setVm s.vm).sameButNew ({ U with vm := s.vm } : State) [] (0 + 1) (0 + 6) := ⟨e1, e2⟩
    have h3 := X.same.trans h2
    rw [List.append_nil] at h3
    exact h3.mono hc hs
  refine ⟨U, ?_, .threw T.heap.size, hrun, hend, Or.inr ⟨T.heap.size, rfl, cls, ce, locs, hx U hWs.alike f1 (fun q hq => f2 q hq (fun z hz => nomatch hz)), hce, hO.vm, hcl, hWs, hall, hf⟩⟩
  refine st1 _ ?_
  show Steps p.tables e below (T1.setTop { method := m, pc := pc + 3, locals := ls, stack := .ref T.heap.size :: rest, locked := none }) _
  jvm_step X₁.here [X₁.here.top, hexec, d3', Value.category]
  exact X₁.ldcStringW hexec (own := own) (text := text) (index := is) (a := sa) hown' hstr'.1 hstr'.2
    (g := { method := m, pc := pc + 4, locals := ls, stack := .ref T.heap.size :: .ref T.heap.size :: rest, locked := none }) rfl d4' _ hsteps
end Ends
section Bodies
variable {l : Launch}
theorem vx_ofW {y : MethodName} {ws ws' : List Cond} {rm : Room} {Pc : Array Value → State → Prop} {Qc : Array Value → State → Outcome → State → Prop} {XC : String → State → State → Prop} {mc ms : Nat} {free : Addr → Prop} {cc : ByteArray} {maxL : Nat} {ret : Option FieldType}
    (hy : plainName y.cls = true) (hw : ws = Cond.code y cc maxL ret :: ws')
    (body : ∀ p e s m args below meth c s₁, BodyLoose p l y (headSpec ws rm) cc maxL ret e s m args below meth c s₁ → c.maxLocals = maxL → (∀ x ∈ c.exceptionTable.toList, False) → Pc args s →
      W p l e (headSpec ws rm).room s m args below meth c s.heap [] 0 0 (vx_MQ below Qc XC args s mc ms free) (entryFrame m args maxL)) : vx_Met l y ws rm Pc Qc XC mc ms free := by
  refine MetFree.of_bodyS (code := cc) (maxLocals := maxL) (ret := ret) hy ?_ ?_
  · intro args s m h hn
    obtain ⟨meth, c, h1, h2, h3, h4, h5, h6, -, -⟩ := Cond.code_spec hn (atoms_spec (ws := ws) h _ (by rw [hw]; exact List.mem_cons_self))
    exact ⟨meth, c, h1, h2, h3, h4, h5, h6⟩
  · intro p e s m args below meth c s₁ B hml hP _
    have hh0 : s₁.heap = s.heap := by rw [B.state]; rfl
    have ht : ∀ x ∈ c.exceptionTable.toList, False := by
      obtain ⟨meth9, c9, h1, h2, -, -, -, -, h7, -⟩ := Cond.code_spec B.named (atoms_spec (ws := ws) B.pre _ (by rw [hw]; exact List.mem_cons_self))
      cases Option.some.inj (h1.symm.trans B.method)
      cases Option.some.inj (h2.symm.trans (Stand.of_body B).code)
      intro x hx
      rw [Array.isEmpty_iff.mp h7] at hx
      cases hx
    obtain ⟨t, a1, o, b1, b2, b3⟩ := body p e s m args below meth c s₁ B hml ht hP s₁ hh0 (Stand.of_body B)
    exact ⟨t, o, a1, b1, b2, b3⟩
/-- the table of a body with handlers -/
theorem vx_table {p : Program} {x y : MethodName} {S : Spec} {cc bytes : ByteArray} {maxL maxL' : Nat} {ret ret' : Option FieldType} {e : Env} {s s₁ : State} {m : MethodId} {args : Array Value} {below : List Frame} {meth : Method} {c : Code} {hh : List (Nat × Nat × Nat × Nat)}
    (B : BodyLoose p l y S cc maxL ret e s m args below meth c s₁) (h : (Cond.codeWith y bytes maxL' ret' hh).before args s = true) : c.exceptionTable.toList = tableOf hh := by
  obtain ⟨m9, meth9, c9, hn9, h1, h2, -, -, h6, -⟩ := Cond.codeWith_spec h
  cases Option.some.inj (hn9.symm.trans B.named)
  cases Option.some.inj (h1.symm.trans B.method)
  cases Option.some.inj (h2.symm.trans (Stand.of_body B).code)
  rw [← h6, table_eq]
end Bodies
end VXA
/-! ===== END ===== -/
/-! ===== BEGIN a static call of a method with an exception table ===== -/
section VXS
variable {p : Program} {l : Launch} {e : Env} {R : Room} {s : State} {m : MethodId} {args : Array Value} {below : List Frame} {meth : Method} {c : Code} {T : State} {H : Heap} {locs : List Loc} {cells slots : Nat}
abbrev vx_CSW (R : Room) (s : State) (args : Array Value) (own : String) (index : Nat) (y : MethodName) (bytes : ByteArray) (maxL : Nat) (ret : Option FieldType) (hh : List (Nat × Nat × Nat × Nat)) (ws : List Cond) (rm : Room) (mc ms n : Nat) : Prop :=
  (rm.cells = mc ∧ rm.slots = ms ∧ rm.frames + 1 ≤ R.frames ∧ 8 + (maxL + 11) + rm.locals ≤ R.locals ∧ (∀ w ∈ ws, ∀ (a' : Array Value) (U : State), s.WarmedH U.vm → w.before a' U = true) ∧ Cond.codeWith y bytes maxL ret hh ∈ ws) ∧
  (Cond.codeWith y bytes maxL ret hh).before args s = true ∧ (Cond.initialized y.cls).before args s = true ∧ (y.cls ≠ "java/lang/invoke/MethodHandle" ∧ y.cls ≠ "java/lang/invoke/VarHandle") ∧
  (∀ sig, parseMethodDescriptor y.desc = some sig → n = sig.parameters.length) ∧ (Cond.methodLink own index y).before args s = true ∧ (Cond.static y).before args s = true
theorem vx_cwSW {own : String} {index maxL mc ms : Nat} {y : MethodName} {bytes : ByteArray} {ret : Option FieldType} {hh : List (Nat × Nat × Nat × Nat)} {Ts ws ws' : List Cond} {rm : Room} (n : Nat) (ht : ∀ w ∈ Ts, w.before args s = true) (hT : GoodIn Ts (va_wsS own index y ws)) (hw : ws = Cond.codeWith y bytes maxL ret hh :: ws') (hrc : rm.cells = mc) (hrs : rm.slots = ms)
    (hd : y.cls ≠ "java/lang/invoke/MethodHandle" ∧ y.cls ≠ "java/lang/invoke/VarHandle" ∧ (parseMethodDescriptor y.desc).map (fun d => d.parameters.length) = some n) (hR : rm.frames + 1 ≤ R.frames ∧ 8 + (maxL + 11) + rm.locals ≤ R.locals) :
    vx_CSW R s args own index y bytes maxL ret hh ws rm mc ms n := by
  have ok : ∀ w ∈ va_wsS own index y ws, w.before args s = true := fun w h => ht w (hT w h).1
  have hG : GoodIn Ts ws := fun w h => hT w (by unfold va_wsS; exact List.mem_append_right _ h)
  have hc : Cond.codeWith y bytes maxL ret hh ∈ ws := by rw [hw]; exact List.mem_cons_self
  refine ⟨⟨hrc, hrs, hR.1, hR.2, pay_in ht hG, hc⟩, ht _ (hG _ hc).1, ok _ (by simp [va_wsS]), ⟨hd.1, hd.2.1⟩, fun sig h => ?_, ok _ (by simp [va_wsS]), ok _ (by simp [va_wsS])⟩
  have h2 := hd.2.2
  rw [h] at h2
  exact (Option.some.inj h2).symm
theorem vx_callSW (X : Stand p l e R s m args below meth c T locs cells slots) (hexec : p.tables.exec = Jvm.exec) {own : String} {index : Nat} {y : MethodName} {bytes : ByteArray} {maxL : Nat} {ret : Option FieldType} {hh : List (Nat × Nat × Nat × Nat)}
    (hown : s.vm.findClass own = some m.cls) (hlink : (Cond.methodLink own index y).before args s = true) (hstat : (Cond.static y).before args s = true) (hinit : (Cond.initialized y.cls).before args s = true)
    (hcode : (Cond.codeWith y bytes maxL ret hh).before args s = true) (hy : y.cls ≠ "java/lang/invoke/MethodHandle" ∧ y.cls ≠ "java/lang/invoke/VarHandle")
    {W9 : Nat} {Pre : Pt → Array Value → Prop} {Post : Pt → Array Value → Option Value → Pt → Prop} (hK : Back l R p e below s args y 3 W9 Pre Post)
    {g : JFrame} (hg : g.method = m) (hsize : g.locals.size = c.maxLocals) {argsL rest : List Value} (hlen : ∀ sig, parseMethodDescriptor y.desc = some sig → argsL.length = sig.parameters.length)
    (hstack : g.stack = argsL.reverse ++ rest) (hW : 2 * g.monitorRoom + (rest.map fun v => v.category).sum ≤ W9) (hdg : decode c.code g.pc = .ok (.invokestatic index, 3))
    (hpre : ∀ vm₁, s.WarmedH vm₁ → Pre ⟨T.setVm vm₁, locs, cells, slots⟩ argsL.toArray) :
    ∃ (v : Option Value) (vm₁ : Vm) (B : Pt), s.WarmedH vm₁ ∧ Stand p l e R s m args below meth c B.U B.locs B.cells B.slots ∧ Post ⟨T.setVm vm₁, locs, cells, slots⟩ argsL.toArray v B ∧
      ∀ target, Steps p.tables e below (B.U.setTop { g with pc := g.pc + 3, stack := v.toList ++ rest }) target → Steps p.tables e below (T.setTop g) target := by
  obtain ⟨mk, methM, cM, hnamed, hmethM, -, -, -, -, -, -, hsigM⟩ := Cond.codeWith_spec hcode
  have hstatic : methM.isStatic = true := Cond.static_spec hnamed hmethM hstat
  obtain ⟨kP, hkP, -⟩ := className_of_methodNamed hnamed
  have hinitP : kP.init = .initialized := Cond.initialized_spec (findClass_of_methodNamed hnamed) hkP hinit
  obtain ⟨vm₁, X₁, hstep₁⟩ := X.invokestatic hexec hown hlink hnamed hmethM hstatic hkP hinitP hy (g := g) hg (argsL := argsL) (rest := rest) (hlen _ hsigM) hstack hdg
  obtain ⟨v, B, X', hpost, hsteps⟩ := hK m meth c ⟨T.setVm vm₁, locs, cells, slots⟩ { g with stack := rest } (.invokestatic index) mk argsL.toArray X₁ hg hsize hdg hW (X₁.named hnamed) (hpre vm₁ X₁.warmed)
  exact ⟨v, vm₁, B, X₁.warmed, X', hpost, fun target h => hstep₁ _ fun acts => by rw [doInvoke_state]; exact hsteps.trans h⟩
theorem vx_runSW {y : MethodName} {bytes cc : ByteArray} {maxL nL mc ms n index : Nat} {ret : Option FieldType} {hh : List (Nat × Nat × Nat × Nat)} {ws : List Cond} {rm : Room} {Pc : Array Value → State → Prop} {Qc : Array Value → State → Outcome → State → Prop} {free : Addr → Prop} {Ts : List Cond} {own : String} {As rest : List Value} {g : JFrame}
    (S : CallFix p m c cc nL s args Ts own) (hM : Met l y ws rm Pc Qc mc ms free) (cw : vx_CSW R s args own index y bytes maxL ret hh ws rm mc ms n) (hp : PreS s H Pc As)
    (hg : g.method = m) (hn : As.length = n) (hsize : g.locals.size = nL) (hstack : g.stack = As.reverse ++ rest) (hW : 2 * g.monitorRoom + (rest.map fun v => v.category).sum ≤ 8) (hdg : decode cc g.pc = .ok (.invokestatic index, 3)) (hf : cells + mc ≤ R.cells ∧ slots + ms ≤ R.slots) :
    va_Run p l e R s m args below meth c H locs cells slots mc ms g rest (Qc As.toArray) (free) := by
  obtain ⟨⟨hrc, hrs, hfr, hlo, hws, hcw⟩, hcode, hini, hy, hlen, hl, hstt⟩ := cw
  have hK : Back l R p e below s args y 3 8 (PreOf R mc ms Pc) (PostOf Qc mc ms free) := va_backW (hh := hh) (bytes := bytes) (maxL := maxL) (ret := ret) hM hp.1 hrc hrs hfr hlo hws hcw (fun a' U hW => word_at hW (Or.inl (by first | rfl | simp [Cond.onTables, Cond.keeps, Cond.steady])) hini)
  obtain ⟨hx, hb, hml, ho, -⟩ := S
  intro T hT X
  obtain ⟨v, vm₁, ⟨U', l2, c2, s2⟩, hW₁, X', ⟨g', mk, t, L, e1, e2, hq, h1, hL, h2, h3⟩, st⟩ := vx_callSW X hx (hh := hh) (bytes := bytes) (maxL := maxL) (ret := ret) ho hl hstt hini hcode hy hK hg (hsize.trans hml.symm) (argsL := As) (rest := rest) (fun sig h => hn.trans (hlen sig h)) hstack hW (by rw [hb]; exact hdg)
    (fun vm₁ hW₁ => ⟨hf.1, hf.2, hp.2 (T.setVm vm₁) hT hW₁⟩)
  dsimp only [Pt.U, Pt.locs, Pt.cells, Pt.slots] at X' e1 e2 h1 h2 h3 st
  subst h1; subst h2; subst h3
  exact ⟨v, (T.setVm vm₁).calling g' mk As.toArray, t, U', L, hT, X', hL, e1, e2, hq, st⟩
/-- not caught here, past rows that name other classes: it goes on to the caller -/
theorem vx_outP {p : Program} {l : Launch} {e : Env} {R : Room} {s : State} {m : MethodId} {args : Array Value} {below : List Frame} {meth : Method} {c : Code} {H : Heap} {locs : List Loc} {cells slots : Nat} {free : Addr → Prop} {ls : Array Slot} {rest : List Value} {Qc : Array Value → State → Outcome → State → Prop} {XC : String → State → State → Prop}
    {pc : Nat} {own E : String} {ce : Cell} {q : Addr} {mc ms : Nat} (hown : s.vm.findClass own = some m.cls) (hlocks : meth.locks = false)
    (hpass : ∀ z ∈ c.exceptionTable.toList, covers z pc = false ∨ (z.catchType ≠ 0 ∧ ∃ nm : String, (Cond.classLink own z.catchType nm).before args s = true ∧ va_Nc E nm s)) (hcell : H[q]? = some ce) (hv : ce.vm = .none) (hcl : s.vm.findClass E = some ce.cls)
    (hx : ∀ t : State, t.heap = H → s.vm.Alike t.vm → XC E s t) (hf : ∀ z ∈ locs, free z.base) (hc : cells ≤ mc) (hs : slots ≤ ms) :
    vx_W p l e R s m args below meth c H locs cells slots (vx_MQ below Qc XC args s mc ms free) (F0 m pc ls rest) q := by
  intro T hT X
  have hpl : e.platform.magicAccessors = ({} : Platform).magicAccessors := by rw [X.admits.platform]
  obtain ⟨vm', hW', X', st⟩ := X.outThrough hlocks q (g := F0 m pc ls rest) rfl rfl rfl (cell := ce) (by rw [hT]; exact hcell) (by rw [hv]; rfl)
    (by obtain ⟨k9, h9, -⟩ := Vm.findClass_spec hcl; exact ⟨k9, h9⟩) (fun z hz => by
      rcases hpass z hz with h | ⟨hz0, nm, hl1, hn1⟩
      · exact Or.inl h
      · obtain ⟨c6, hc6, hcl6⟩ := Cond.classLink_spec hown hl1 e.platform hpl
        obtain ⟨a8, b8, h1, h2, h3⟩ := hn1
        cases Option.some.inj (h1.symm.trans hcl)
        cases Option.some.inj (h2.symm.trans hc6)
        exact Or.inr ⟨hz0, _, hcl6, h3⟩)
  obtain ⟨g₀, hfr⟩ := X'.frames_eq
  have hcell9 : ((T.setVm vm').setFrames (.throwing q :: below)).heap[q]? = some ce := by
    show T.heap[q]? = some ce
    rw [hT]; exact hcell
  have hend : Ended ((T.setVm vm').setFrames (.throwing q :: below)) below (.threw q) := State.frames_setFrames _ (State.cur_lt_of_frames hfr)
  refine ⟨(T.setVm vm').setFrames (.throwing q :: below), ?_, .threw q, X'.here.running, hend, Or.inr ⟨q, rfl, E, ce, locs, hx _ hT (X'.ends _).1.alike, hcell9, hv, hcl, (X'.ends _).1, (X'.ends _).2.mono hc hs, hf⟩⟩
  rw [X.pushThrowing_eq]
  exact st
/-- a thing of a world lies in the heap -/
theorem vx_lt {D : va_G} {cl : List vw_C} {ws : va_W} {H1 : Heap} (h : va_P D cl ws H1) {k : Nat} {q : Nat × va_E} (hk : ws[k]? = some q) : q.1 < H1.size := (h k q hk).lt
end VXS
/-! ===== END ===== -/
/-! ===== BEGIN methods with a table of their own: called by a name, returning or throwing ===== -/
section VXH
/-! vx_backW, vx_callVX, vx_callSX, vx_callVW, vx_runVW, vx_runVX, vx_runSX, vx_ofWH follow the same proofs as their sisters above (Free/Laws.lean, Shelf42/LK1.lean); vx_outP calls Shelf42/NT130.lean (outThrough). -/
section
variable {l : Launch} {R : Room} {p : Program} {e : Env} {below : List Frame} {s : State} {sargs : Array Value} {y : MethodName} {len W9 : Nat}
theorem vx_backW {ws : List Cond} {rm : Room} {Pc : Array Value → State → Prop} {Qc : Array Value → State → Outcome → State → Prop} {XC : String → State → State → Prop} {mc ms : Nat} {free : Addr → Prop} {bytes : ByteArray} {maxL : Nat} {ret : Option FieldType} {hh : List (Nat × Nat × Nat × Nat)}
    (hM : vx_Met l y ws rm Pc Qc XC mc ms free) (hblind : FrameBlind Pc) (hrc : rm.cells = mc) (hrs : rm.slots = ms)
    (hframes : rm.frames + 1 ≤ R.frames) (hlocals : W9 + (maxL + 11) + rm.locals ≤ R.locals)
    (hws : ∀ w ∈ ws, ∀ a' U, s.WarmedH U.vm → w.before a' U = true) (hcode : Cond.codeWith y bytes maxL ret hh ∈ ws) (hinit : ∀ a' U, s.WarmedH U.vm → (Cond.initialized y.cls).before a' U = true) :
    vx_Back l R p e below s sargs y len W9 (PreOf R mc ms Pc) (PostOf Qc mc ms free) (vx_Post XC mc ms free) := by
  intro m meth c A g ig mk a X hg hsize hdg hW hn hp
  have h1 : (headSpec ws rm).pre.before a A.U = true := atoms_intro fun w hw => hws w hw _ _ X.warmed
  have h2 : (Cond.codeWith y bytes maxL ret hh).before a A.U = true := hws _ hcode _ _ X.warmed
  have h3 : (Cond.initialized y.cls).before a A.U = true := hinit _ _ X.warmed
  have h4 : A.cells + (headSpec ws rm).room.cells ≤ R.cells := by rw [show (headSpec ws rm).room.cells = mc from hrc]; exact hp.1
  have h5 : A.slots + (headSpec ws rm).room.slots ≤ R.slots := by rw [show (headSpec ws rm).room.slots = ms from hrs]; exact hp.2.1
  have hPc : Pc a (A.U.calling g mk a) := hblind _ _ _ _ hp.2.2
  obtain ⟨U, Ls, c0, s0⟩ := A
  dsimp only [Pt.U, Pt.locs, Pt.cells, Pt.slots] at h1 h2 h3 h4 h5 X hn hPc ⊢
  obtain ⟨m9, methY, cY, hn9, hmY, hcY, -, hlY, -⟩ := Cond.codeWith_spec h2
  cases Option.some.inj (hn9.symm.trans hn)
  obtain ⟨kY, hkY, -⟩ := className_of_methodNamed hn
  have hinitY : kY.init = .initialized := Cond.initialized_spec (findClass_of_methodNamed hn) hkY h3
  have h : At U g.method c below := by rw [hg]; exact X.here
  have hlocals9 : W9 + (maxL + 11) + (headSpec ws rm).room.locals ≤ R.locals := hlocals
  have happ : (headSpec ws rm).appliesLoose y e.platform (U.calling g mk a) = true :=
    Spec.appliesLoose_calling (g := g) h hdg hn hkY hinitY
      (X.room_calling (g := g) (R' := (headSpec ws rm).room) hsize hmY hcY hframes (by rw [hlY]; omega) h4 h5) h1
  obtain ⟨mid, hmid⟩ := h.above
  have hfr : (U.setTop g).frames = (.java g :: mid) ++ below := by rw [State.frames_setTop' g h.top, hmid]; rfl
  obtain ⟨o, s₂, hsteps, -, hend, hq⟩ := Steps.callFree hM p X.admits X.cas X.clock (acts := []) hfr happ hPc trivial
  have hq' : vx_Q Qc XC mc ms free a (U.calling g mk a) o s₂ := hq
  rw [State.frames_setTop' g h.top] at hend
  obtain ⟨g₀, hg0⟩ := Option.isSome_iff_exists.mp h.top
  obtain ⟨r, hr⟩ := State.topJava?_eq_some.mp hg0
  have hr' : (({ U with heap := s₂.heap, slotsUsed := s₂.slotsUsed } : State).setVm s₂.vm).frames = .java g₀ :: r := hr
  rcases hq' with ⟨hqc, L, hfe, hL⟩ | ⟨q, rfl, E, ce, L, hx, hce, hcv, hcl, hW₂, hsm, hL⟩
  · obtain ⟨⟨v, rfl⟩, hW₂, e2, q2, q3, q4, q5, q6⟩ := id hfe
    have e3 : s₂ = ({ (U.calling g mk a).setFrames s₂.frames with heap := s₂.heap, slotsUsed := s₂.slotsUsed } : State).setVm s₂.vm := by
      have : s₂ = ({ s₂ with vm := (U.calling g mk a).vm } : State).setVm s₂.vm := rfl
      rw [e2] at this
      exact this
    obtain ⟨c₂, i₂, len₂, hc₂, hd₂, hf₂⟩ := hend
    have hW' : U.WarmedH s₂.vm := hW₂
    have hcc : c₂ = c := by
      have h1 : s₂.code? g.method = U.code? g.method := by
        rw [State.code?_eq, State.code?_eq, hW'.alike.method?]
      exact Option.some.inj (hc₂.symm.trans (h1.trans h.code))
    subst hcc
    have hlen : len₂ = len := by rw [hdg] at hd₂; cases hd₂; rfl
    subst hlen
    have hs₂ : s₂ = (({ U with heap := s₂.heap, slotsUsed := s₂.slotsUsed } : State).setVm s₂.vm).setTop { g with pc := g.pc + len₂, stack := v.toList ++ g.stack } := by
      refine e3.trans ?_
      rw [hf₂, State.calling_eq h.top, State.setFrames_setFrames, State.setTop_of_frames _ hr', hr]
      rfl
    have hsame : U.sameButNew ({ U with heap := s₂.heap, slotsUsed := s₂.slotsUsed } : State) L mc ms := by
      refine ⟨?_, q2, q3, q4, q5, q6⟩
      obtain ⟨t, ht, -⟩ := State.frames_cons hr
      show ({ U with heap := s₂.heap, slotsUsed := s₂.slotsUsed } : State) = { U.setFrames U.frames with heap := s₂.heap, slotsUsed := s₂.slotsUsed }
      rw [State.setFrames_self ht]
    subst hg
    refine Or.inl ⟨v, ⟨(({ U with heap := s₂.heap, slotsUsed := s₂.slotsUsed } : State).setVm s₂.vm), Ls ++ L, c0 + mc, s0 + ms⟩,
      ⟨X.admits, X.cas, X.clock, X.frames, X.room, X.hears, X.method, X.code, (X.here.setHeapUsed s₂.heap s₂.slotsUsed).setVm hW'.alike, X.tail, State.WarmedH.trans X.warmed hW', X.limits, X.bytes, X.same.trans (hsame.setVm s.vm)⟩,
      ⟨g, mk, s₂, L, rfl, rfl, hqc, rfl, hL, rfl, rfl⟩, ?_⟩
    show Steps p.tables e below _ ((({ U with heap := s₂.heap, slotsUsed := s₂.slotsUsed } : State).setVm s₂.vm).setTop { g with pc := g.pc + len₂, stack := v.toList ++ g.stack })
    rw [← hs₂]
    exact hsteps
  · obtain ⟨e2, q2, q3, q4, q5, q6⟩ := id hsm
    have e3 : s₂ = ({ (U.calling g mk a).setFrames s₂.frames with heap := s₂.heap, slotsUsed := s₂.slotsUsed } : State).setVm s₂.vm := by
      have : s₂ = ({ s₂ with vm := (U.calling g mk a).vm } : State).setVm s₂.vm := rfl
      rw [e2] at this
      exact this
    have hf₂ : s₂.frames = .throwing q :: .java g :: U.frames.tail := hend
    have hW' : U.WarmedH s₂.vm := hW₂
    have hs₂ : s₂ = ((({ U with heap := s₂.heap, slotsUsed := s₂.slotsUsed } : State).setVm s₂.vm).setTop g).pushFrame (.throwing q) := by
      refine e3.trans ?_
      rw [hf₂, State.calling_eq h.top, State.setFrames_setFrames, State.pushFrame, State.frames_setTop _ hr', State.setTop_of_frames _ hr', State.setFrames_setFrames, hr]
      rfl
    have hsame : U.sameButNew ({ U with heap := s₂.heap, slotsUsed := s₂.slotsUsed } : State) L mc ms := by
      refine ⟨?_, q2, q3, q4, q5, q6⟩
      obtain ⟨t, ht, -⟩ := State.frames_cons hr
      show ({ U with heap := s₂.heap, slotsUsed := s₂.slotsUsed } : State) = { U.setFrames U.frames with heap := s₂.heap, slotsUsed := s₂.slotsUsed }
      rw [State.setFrames_self ht]
    subst hg
    refine Or.inr ⟨q, ⟨(({ U with heap := s₂.heap, slotsUsed := s₂.slotsUsed } : State).setVm s₂.vm), Ls ++ L, c0 + mc, s0 + ms⟩,
      ⟨X.admits, X.cas, X.clock, X.frames, X.room, X.hears, X.method, X.code, (X.here.setHeapUsed s₂.heap s₂.slotsUsed).setVm hW'.alike, X.tail, State.WarmedH.trans X.warmed hW', X.limits, X.bytes, X.same.trans (hsame.setVm s.vm)⟩,
      ⟨g, mk, s₂, L, E, ce, rfl, rfl, hx, hce, hcv, hcl, rfl, hL, rfl, rfl⟩, ?_⟩
    show Steps p.tables e below _ (((({ U with heap := s₂.heap, slotsUsed := s₂.slotsUsed } : State).setVm s₂.vm).setTop g).pushFrame (.throwing q))
    rw [← hs₂]
    exact hsteps
end
variable {p : Program} {l : Launch} {e : Env} {R : Room} {s : State} {m : MethodId} {args : Array Value} {below : List Frame} {meth : Method} {c : Code} {T : State} {H : Heap} {locs : List Loc} {cells slots : Nat}
theorem vx_callVX (X : Stand p l e R s m args below meth c T locs cells slots) (hexec : p.tables.exec = Jvm.exec) {own C : String} {index : Nat} {y : MethodName} {bytes : ByteArray} {maxL : Nat} {ret : Option FieldType} {hh : List (Nat × Nat × Nat × Nat)}
    (hown : s.vm.findClass own = some m.cls) (hlink : (Cond.methodLink own index y).before args s = true) (hinst : (Cond.instanceMethod y).before args s = true) (hsel : (Cond.selects C y y).before args s = true)
    (hcode : (Cond.codeWith y bytes maxL ret hh).before args s = true) (hy : y.cls ≠ "java/lang/invoke/MethodHandle" ∧ y.cls ≠ "java/lang/invoke/VarHandle")
    {W9 : Nat} {Pre : Pt → Array Value → Prop} {Post : Pt → Array Value → Option Value → Pt → Prop} {PostX : Pt → Array Value → Addr → Pt → Prop} (hK : vx_Back l R p e below s args y 3 W9 Pre Post PostX)
    {b : Addr} {cellB : Cell} (hcell : T.heap[b]? = some cellB) (hobj : cellB.vm.isStatics = false) (hcls : s.vm.findClass C = some cellB.cls)
    {g : JFrame} (hg : g.method = m) (hsize : g.locals.size = c.maxLocals) {argsL rest : List Value} (hlen : ∀ sig, parseMethodDescriptor y.desc = some sig → argsL.length = sig.parameters.length)
    (hstack : g.stack = argsL.reverse ++ .ref b :: rest) (hW : 2 * g.monitorRoom + (rest.map fun v => v.category).sum ≤ W9) (hdg : decode c.code g.pc = .ok (.invokevirtual index, 3))
    (hpre : ∀ vm₁, s.WarmedH vm₁ → Pre ⟨T.setVm vm₁, locs, cells, slots⟩ (Value.ref b :: argsL).toArray) :
    (∃ (v : Option Value) (vm₁ : Vm) (B : Pt), s.WarmedH vm₁ ∧ Stand p l e R s m args below meth c B.U B.locs B.cells B.slots ∧ Post ⟨T.setVm vm₁, locs, cells, slots⟩ (Value.ref b :: argsL).toArray v B ∧
      ∀ target, Steps p.tables e below (B.U.setTop { g with pc := g.pc + 3, stack := v.toList ++ rest }) target → Steps p.tables e below (T.setTop g) target) ∨
    (∃ (q : Addr) (vm₁ : Vm) (B : Pt), s.WarmedH vm₁ ∧ Stand p l e R s m args below meth c B.U B.locs B.cells B.slots ∧ PostX ⟨T.setVm vm₁, locs, cells, slots⟩ (Value.ref b :: argsL).toArray q B ∧
      Steps p.tables e below (T.setTop g) ((B.U.setTop { g with stack := rest }).pushFrame (.throwing q))) := by
  obtain ⟨mk, methM, hnamed, hmethM, hstM, habM⟩ := Cond.instanceMethod_spec hinst
  obtain ⟨m8, methM', cM, hn8, hmethM', -, -, -, -, -, -, hsigM⟩ := Cond.codeWith_spec hcode
  cases Option.some.inj (hn8.symm.trans hnamed)
  cases hmethM.symm.trans hmethM'
  obtain ⟨c2, r2, m2, q1, q2, q3, q4, kP, hkP, hkPi⟩ := Cond.selects_spec hsel
  cases hcls.symm.trans q1
  cases (State.methodFound?_of_named hnamed hy).symm.trans q2
  cases hnamed.symm.trans q3
  have hselP : selectMethod e.platform s.vm cellB.cls mk = .method mk := by rw [Launch.admits_selectMethod X.admits]; exact q4
  obtain ⟨vm₁, X₁, hstep₁⟩ := X.invokevirtual hexec hown hlink hnamed hmethM hstM hkP hkPi hy (a := b) (cell := cellB) hcell
    (fun z h => by rw [h] at hobj; cases hobj) hselP hmethM habM hkP hkPi (g := g) hg (argsL := argsL) (rest := rest) (hlen _ hsigM) hstack hdg
  rcases hK m meth c ⟨T.setVm vm₁, locs, cells, slots⟩ { g with stack := rest } (.invokevirtual index) mk (Value.ref b :: argsL).toArray X₁ hg hsize hdg hW (X₁.named hnamed) (hpre vm₁ X₁.warmed) with ⟨v, B, X', hpost, hsteps⟩ | ⟨q, B, X', hpost, hsteps⟩
  · exact Or.inl ⟨v, vm₁, B, X₁.warmed, X', hpost, fun target h => hstep₁ _ fun acts => by rw [doInvoke_state]; exact hsteps.trans h⟩
  · exact Or.inr ⟨q, vm₁, B, X₁.warmed, X', hpost, hstep₁ _ fun acts => by rw [doInvoke_state]; exact hsteps⟩
theorem vx_callSX (X : Stand p l e R s m args below meth c T locs cells slots) (hexec : p.tables.exec = Jvm.exec) {own : String} {index : Nat} {y : MethodName} {bytes : ByteArray} {maxL : Nat} {ret : Option FieldType} {hh : List (Nat × Nat × Nat × Nat)}
    (hown : s.vm.findClass own = some m.cls) (hlink : (Cond.methodLink own index y).before args s = true) (hstat : (Cond.static y).before args s = true) (hinit : (Cond.initialized y.cls).before args s = true)
    (hcode : (Cond.codeWith y bytes maxL ret hh).before args s = true) (hy : y.cls ≠ "java/lang/invoke/MethodHandle" ∧ y.cls ≠ "java/lang/invoke/VarHandle")
    {W9 : Nat} {Pre : Pt → Array Value → Prop} {Post : Pt → Array Value → Option Value → Pt → Prop} {PostX : Pt → Array Value → Addr → Pt → Prop} (hK : vx_Back l R p e below s args y 3 W9 Pre Post PostX)
    {g : JFrame} (hg : g.method = m) (hsize : g.locals.size = c.maxLocals) {argsL rest : List Value} (hlen : ∀ sig, parseMethodDescriptor y.desc = some sig → argsL.length = sig.parameters.length)
    (hstack : g.stack = argsL.reverse ++ rest) (hW : 2 * g.monitorRoom + (rest.map fun v => v.category).sum ≤ W9) (hdg : decode c.code g.pc = .ok (.invokestatic index, 3))
    (hpre : ∀ vm₁, s.WarmedH vm₁ → Pre ⟨T.setVm vm₁, locs, cells, slots⟩ argsL.toArray) :
    (∃ (v : Option Value) (vm₁ : Vm) (B : Pt), s.WarmedH vm₁ ∧ Stand p l e R s m args below meth c B.U B.locs B.cells B.slots ∧ Post ⟨T.setVm vm₁, locs, cells, slots⟩ argsL.toArray v B ∧
      ∀ target, Steps p.tables e below (B.U.setTop { g with pc := g.pc + 3, stack := v.toList ++ rest }) target → Steps p.tables e below (T.setTop g) target) ∨
    (∃ (q : Addr) (vm₁ : Vm) (B : Pt), s.WarmedH vm₁ ∧ Stand p l e R s m args below meth c B.U B.locs B.cells B.slots ∧ PostX ⟨T.setVm vm₁, locs, cells, slots⟩ argsL.toArray q B ∧
      Steps p.tables e below (T.setTop g) ((B.U.setTop { g with stack := rest }).pushFrame (.throwing q))) := by
  obtain ⟨mk, methM, cM, hnamed, hmethM, -, -, -, -, -, -, hsigM⟩ := Cond.codeWith_spec hcode
  have hstatic : methM.isStatic = true := Cond.static_spec hnamed hmethM hstat
  obtain ⟨kP, hkP, -⟩ := className_of_methodNamed hnamed
  have hinitP : kP.init = .initialized := Cond.initialized_spec (findClass_of_methodNamed hnamed) hkP hinit
  obtain ⟨vm₁, X₁, hstep₁⟩ := X.invokestatic hexec hown hlink hnamed hmethM hstatic hkP hinitP hy (g := g) hg (argsL := argsL) (rest := rest) (hlen _ hsigM) hstack hdg
  rcases hK m meth c ⟨T.setVm vm₁, locs, cells, slots⟩ { g with stack := rest } (.invokestatic index) mk argsL.toArray X₁ hg hsize hdg hW (X₁.named hnamed) (hpre vm₁ X₁.warmed) with ⟨v, B, X', hpost, hsteps⟩ | ⟨q, B, X', hpost, hsteps⟩
  · exact Or.inl ⟨v, vm₁, B, X₁.warmed, X', hpost, fun target h => hstep₁ _ fun acts => by rw [doInvoke_state]; exact hsteps.trans h⟩
  · exact Or.inr ⟨q, vm₁, B, X₁.warmed, X', hpost, hstep₁ _ fun acts => by rw [doInvoke_state]; exact hsteps⟩
theorem vx_callVW (X : Stand p l e R s m args below meth c T locs cells slots) (hexec : p.tables.exec = Jvm.exec) {own C : String} {index : Nat} {y : MethodName} {bytes : ByteArray} {maxL : Nat} {ret : Option FieldType} {hh : List (Nat × Nat × Nat × Nat)}
    (hown : s.vm.findClass own = some m.cls) (hlink : (Cond.methodLink own index y).before args s = true) (hinst : (Cond.instanceMethod y).before args s = true) (hsel : (Cond.selects C y y).before args s = true)
    (hcode : (Cond.codeWith y bytes maxL ret hh).before args s = true) (hy : y.cls ≠ "java/lang/invoke/MethodHandle" ∧ y.cls ≠ "java/lang/invoke/VarHandle")
    {W9 : Nat} {Pre : Pt → Array Value → Prop} {Post : Pt → Array Value → Option Value → Pt → Prop} (hK : Back l R p e below s args y 3 W9 Pre Post)
    {b : Addr} {cellB : Cell} (hcell : T.heap[b]? = some cellB) (hobj : cellB.vm.isStatics = false) (hcls : s.vm.findClass C = some cellB.cls)
    {g : JFrame} (hg : g.method = m) (hsize : g.locals.size = c.maxLocals) {argsL rest : List Value} (hlen : ∀ sig, parseMethodDescriptor y.desc = some sig → argsL.length = sig.parameters.length)
    (hstack : g.stack = argsL.reverse ++ .ref b :: rest) (hW : 2 * g.monitorRoom + (rest.map fun v => v.category).sum ≤ W9) (hdg : decode c.code g.pc = .ok (.invokevirtual index, 3))
    (hpre : ∀ vm₁, s.WarmedH vm₁ → Pre ⟨T.setVm vm₁, locs, cells, slots⟩ (Value.ref b :: argsL).toArray) :
    ∃ (v : Option Value) (vm₁ : Vm) (B : Pt), s.WarmedH vm₁ ∧ Stand p l e R s m args below meth c B.U B.locs B.cells B.slots ∧ Post ⟨T.setVm vm₁, locs, cells, slots⟩ (Value.ref b :: argsL).toArray v B ∧
      ∀ target, Steps p.tables e below (B.U.setTop { g with pc := g.pc + 3, stack := v.toList ++ rest }) target → Steps p.tables e below (T.setTop g) target := by
  obtain ⟨mk, methM, hnamed, hmethM, hstM, habM⟩ := Cond.instanceMethod_spec hinst
  obtain ⟨m8, methM', cM, hn8, hmethM', -, -, -, -, -, -, hsigM⟩ := Cond.codeWith_spec hcode
  cases Option.some.inj (hn8.symm.trans hnamed)
  cases hmethM.symm.trans hmethM'
  obtain ⟨c2, r2, m2, q1, q2, q3, q4, kP, hkP, hkPi⟩ := Cond.selects_spec hsel
  cases hcls.symm.trans q1
  cases (State.methodFound?_of_named hnamed hy).symm.trans q2
  cases hnamed.symm.trans q3
  have hselP : selectMethod e.platform s.vm cellB.cls mk = .method mk := by rw [Launch.admits_selectMethod X.admits]; exact q4
  obtain ⟨vm₁, X₁, hstep₁⟩ := X.invokevirtual hexec hown hlink hnamed hmethM hstM hkP hkPi hy (a := b) (cell := cellB) hcell
    (fun z h => by rw [h] at hobj; cases hobj) hselP hmethM habM hkP hkPi (g := g) hg (argsL := argsL) (rest := rest) (hlen _ hsigM) hstack hdg
  obtain ⟨v, B, X', hpost, hsteps⟩ := hK m meth c ⟨T.setVm vm₁, locs, cells, slots⟩ { g with stack := rest } (.invokevirtual index) mk (Value.ref b :: argsL).toArray X₁ hg hsize hdg hW (X₁.named hnamed) (hpre vm₁ X₁.warmed)
  exact ⟨v, vm₁, B, X₁.warmed, X', hpost, fun target h => hstep₁ _ fun acts => by rw [doInvoke_state]; exact hsteps.trans h⟩
abbrev vx_CVW (R : Room) (s : State) (args : Array Value) (own C : String) (index : Nat) (y : MethodName) (bytes : ByteArray) (maxL : Nat) (ret : Option FieldType) (hh : List (Nat × Nat × Nat × Nat)) (ws : List Cond) (rm : Room) (mc ms n : Nat) : Prop :=
  (rm.cells = mc ∧ rm.slots = ms ∧ rm.frames + 1 ≤ R.frames ∧ 8 + (maxL + 11) + rm.locals ≤ R.locals ∧ (∀ w ∈ ws, ∀ (a' : Array Value) (U : State), s.WarmedH U.vm → w.before a' U = true) ∧ Cond.codeWith y bytes maxL ret hh ∈ ws) ∧
  (Cond.codeWith y bytes maxL ret hh).before args s = true ∧ (Cond.initialized y.cls).before args s = true ∧ (y.cls ≠ "java/lang/invoke/MethodHandle" ∧ y.cls ≠ "java/lang/invoke/VarHandle") ∧
  (∀ sig, parseMethodDescriptor y.desc = some sig → n = sig.parameters.length) ∧ (Cond.methodLink own index y).before args s = true ∧ (Cond.instanceMethod y).before args s = true ∧ (Cond.selects C y y).before args s = true
theorem vx_cwVW {own C : String} {index maxL mc ms : Nat} {y : MethodName} {bytes : ByteArray} {ret : Option FieldType} {hh : List (Nat × Nat × Nat × Nat)} {Ts ws ws' : List Cond} {rm : Room} (n : Nat) (ht : ∀ w ∈ Ts, w.before args s = true) (hT : GoodIn Ts (wsV own index C y ws)) (hw : ws = Cond.codeWith y bytes maxL ret hh :: ws') (hrc : rm.cells = mc) (hrs : rm.slots = ms)
    (hd : y.cls = C ∧ y.cls ≠ "java/lang/invoke/MethodHandle" ∧ y.cls ≠ "java/lang/invoke/VarHandle" ∧ (parseMethodDescriptor y.desc).map (fun d => d.parameters.length) = some n) (hR : rm.frames + 1 ≤ R.frames ∧ 8 + (maxL + 11) + rm.locals ≤ R.locals) :
    vx_CVW R s args own C index y bytes maxL ret hh ws rm mc ms n := by
  obtain ⟨hC, hd⟩ := hd
  subst hC
  have ok : ∀ w ∈ wsV own index y.cls y ws, w.before args s = true := fun w h => ht w (hT w h).1
  have hG : GoodIn Ts ws := fun w h => hT w (by unfold wsV; exact List.mem_append_right _ h)
  have hc : Cond.codeWith y bytes maxL ret hh ∈ ws := by rw [hw]; exact List.mem_cons_self
  refine ⟨⟨hrc, hrs, hR.1, hR.2, pay_in ht hG, hc⟩, ht _ (hG _ hc).1, ok _ (by simp [wsV]), ⟨hd.1, hd.2.1⟩, fun sig h => ?_, ok _ (by simp [wsV]), ok _ (by simp [wsV]), ok _ (by simp [wsV])⟩
  have h2 := hd.2.2
  rw [h] at h2
  exact (Option.some.inj h2).symm
theorem vx_runVW {y : MethodName} {bytes cc : ByteArray} {maxL nL mc ms n index : Nat} {ret : Option FieldType} {hh : List (Nat × Nat × Nat × Nat)} {ws : List Cond} {rm : Room} {Pc : Array Value → State → Prop} {Qc : Array Value → State → Outcome → State → Prop} {free : Addr → Prop} {Ts : List Cond} {own C : String} {b : Addr} {As rest : List Value} {g : JFrame}
    (S : CallFix p m c cc nL s args Ts own) (hM : Met l y ws rm Pc Qc mc ms free) (cw : vx_CVW R s args own C index y bytes maxL ret hh ws rm mc ms n) (hp : PreV s H C b Pc As)
    (hg : g.method = m) (hn : As.length = n) (hsize : g.locals.size = nL) (hstack : g.stack = As.reverse ++ .ref b :: rest) (hW : 2 * g.monitorRoom + (rest.map fun v => v.category).sum ≤ 8) (hdg : decode cc g.pc = .ok (.invokevirtual index, 3)) (hf : cells + mc ≤ R.cells ∧ slots + ms ≤ R.slots) :
    va_Run p l e R s m args below meth c H locs cells slots mc ms g rest (Qc (Value.ref b :: As).toArray) free := by
  obtain ⟨⟨hrc, hrs, hfr, hlo, hws, hcw⟩, hcode, hini, hy, hlen, hl, hin, hse⟩ := cw
  have hK : Back l R p e below s args y 3 8 (PreOf R mc ms Pc) (PostOf Qc mc ms free) := va_backW (hh := hh) (bytes := bytes) (maxL := maxL) (ret := ret) hM hp.1 hrc hrs hfr hlo hws hcw (fun a' U hW => word_at hW (Or.inl (by first | rfl | simp [Cond.onTables, Cond.keeps, Cond.steady])) hini)
  obtain ⟨hx, hb, hml, ho, -⟩ := S
  obtain ⟨-, ⟨cellB, hcB, hoB, hclB⟩, hPc⟩ := hp
  intro T hT X
  obtain ⟨v, vm₁, ⟨U', l2, c2, s2⟩, hW₁, X', ⟨g', mk, t, L, e1, e2, hq, h1, hL, h2, h3⟩, st⟩ := vx_callVW X hx (C := C) (hh := hh) (bytes := bytes) (maxL := maxL) (ret := ret) ho hl hin hse hcode hy hK (by rw [hT]; exact hcB) hoB hclB hg (hsize.trans hml.symm) (argsL := As) (rest := rest) (fun sig h => hn.trans (hlen sig h)) hstack hW (by rw [hb]; exact hdg)
    (fun vm₁ hW₁ => ⟨hf.1, hf.2, hPc (T.setVm vm₁) hT hW₁⟩)
  dsimp only [Pt.U, Pt.locs, Pt.cells, Pt.slots] at X' e1 e2 h1 h2 h3 st
  subst h1; subst h2; subst h3
  exact ⟨v, (T.setVm vm₁).calling g' mk (Value.ref b :: As).toArray, t, U', L, hT, X', hL, e1, e2, hq, st⟩
section
variable {y : MethodName} {bytes cc : ByteArray} {maxL nL mc ms n index : Nat} {ret : Option FieldType} {ws : List Cond} {rm : Room} {Pc : Array Value → State → Prop} {Qc : Array Value → State → Outcome → State → Prop} {XC : String → State → State → Prop} {free : Addr → Prop} {Ts : List Cond} {own C : String} {b : Addr} {As rest : List Value} {g : JFrame}
theorem vx_runVX {hh : List (Nat × Nat × Nat × Nat)} (S : CallFix p m c cc nL s args Ts own) (hM : vx_Met l y ws rm Pc Qc XC mc ms free) (cw : vx_CVW R s args own C index y bytes maxL ret hh ws rm mc ms n) (hp : PreV s H C b Pc As)
    (hg : g.method = m) (hn : As.length = n) (hsize : g.locals.size = nL) (hstack : g.stack = As.reverse ++ .ref b :: rest) (hW : 2 * g.monitorRoom + (rest.map fun v => v.category).sum ≤ 8) (hdg : decode cc g.pc = .ok (.invokevirtual index, 3)) (hf : cells + mc ≤ R.cells ∧ slots + ms ≤ R.slots) :
    vx_Run p l e R s m args below meth c H locs cells slots mc ms g rest (Qc (Value.ref b :: As).toArray) XC free := by
  obtain ⟨⟨hrc, hrs, hfr, hlo, hws, hcw⟩, hcode, hini, hy, hlen, hl, hin, hse⟩ := cw
  have hK : vx_Back l R p e below s args y 3 8 (PreOf R mc ms Pc) (PostOf Qc mc ms free) (vx_Post XC mc ms free) := vx_backW (hh := hh) (bytes := bytes) (maxL := maxL) (ret := ret) hM hp.1 hrc hrs hfr hlo hws hcw (fun a' U hW => word_at hW (Or.inl (by first | rfl | simp [Cond.onTables, Cond.keeps, Cond.steady])) hini)
  obtain ⟨hx, hb, hml, ho, -⟩ := S
  obtain ⟨-, ⟨cellB, hcB, hoB, hclB⟩, hPc⟩ := hp
  intro T hT X
  rcases vx_callVX X hx (C := C) (hh := hh) (bytes := bytes) (maxL := maxL) (ret := ret) ho hl hin hse hcode hy hK (by rw [hT]; exact hcB) hoB hclB hg (hsize.trans hml.symm) (argsL := As) (rest := rest) (fun sig h => hn.trans (hlen sig h)) hstack hW (by rw [hb]; exact hdg)
    (fun vm₁ hW₁ => ⟨hf.1, hf.2, hPc (T.setVm vm₁) hT hW₁⟩) with ⟨v, vm₁, ⟨U', l2, c2, s2⟩, hW₁, X', ⟨g', mk, t, L, e1, e2, hq, h1, hL, h2, h3⟩, st⟩ | ⟨q, vm₁, ⟨U', l2, c2, s2⟩, hW₁, X', ⟨g', mk, t, L, E, ce, e1, e2, hq, hce, hcv, hcl, h1, hL, h2, h3⟩, st⟩
  · dsimp only [Pt.U, Pt.locs, Pt.cells, Pt.slots] at X' e1 e2 h1 h2 h3 st
    subst h1; subst h2; subst h3
    exact Or.inl ⟨v, (T.setVm vm₁).calling g' mk (Value.ref b :: As).toArray, t, U', L, hT, X', hL, e1, e2, hq, st⟩
  · dsimp only [Pt.U, Pt.locs, Pt.cells, Pt.slots] at X' e1 e2 h1 h2 h3 st hcl
    subst h1; subst h2; subst h3
    exact Or.inr ⟨q, (T.setVm vm₁).calling g' mk (Value.ref b :: As).toArray, t, U', L, E, ce, hT, X', hL, e1, e2, hq, hce, hcv, vx_cls hW₁ hcl, st⟩
theorem vx_runSX {hh : List (Nat × Nat × Nat × Nat)} (S : CallFix p m c cc nL s args Ts own) (hM : vx_Met l y ws rm Pc Qc XC mc ms free) (cw : vx_CSW R s args own index y bytes maxL ret hh ws rm mc ms n) (hp : PreS s H Pc As)
    (hg : g.method = m) (hn : As.length = n) (hsize : g.locals.size = nL) (hstack : g.stack = As.reverse ++ rest) (hW : 2 * g.monitorRoom + (rest.map fun v => v.category).sum ≤ 8) (hdg : decode cc g.pc = .ok (.invokestatic index, 3)) (hf : cells + mc ≤ R.cells ∧ slots + ms ≤ R.slots) :
    vx_Run p l e R s m args below meth c H locs cells slots mc ms g rest (Qc As.toArray) XC free := by
  obtain ⟨⟨hrc, hrs, hfr, hlo, hws, hcw⟩, hcode, hini, hy, hlen, hl, hstt⟩ := cw
  have hK : vx_Back l R p e below s args y 3 8 (PreOf R mc ms Pc) (PostOf Qc mc ms free) (vx_Post XC mc ms free) := vx_backW (hh := hh) (bytes := bytes) (maxL := maxL) (ret := ret) hM hp.1 hrc hrs hfr hlo hws hcw (fun a' U hW => word_at hW (Or.inl (by first | rfl | simp [Cond.onTables, Cond.keeps, Cond.steady])) hini)
  obtain ⟨hx, hb, hml, ho, -⟩ := S
  intro T hT X
  rcases vx_callSX X hx (hh := hh) (bytes := bytes) (maxL := maxL) (ret := ret) ho hl hstt hini hcode hy hK hg (hsize.trans hml.symm) (argsL := As) (rest := rest) (fun sig h => hn.trans (hlen sig h)) hstack hW (by rw [hb]; exact hdg)
    (fun vm₁ hW₁ => ⟨hf.1, hf.2, hp.2 (T.setVm vm₁) hT hW₁⟩) with ⟨v, vm₁, ⟨U', l2, c2, s2⟩, hW₁, X', ⟨g', mk, t, L, e1, e2, hq, h1, hL, h2, h3⟩, st⟩ | ⟨q, vm₁, ⟨U', l2, c2, s2⟩, hW₁, X', ⟨g', mk, t, L, E, ce, e1, e2, hq, hce, hcv, hcl, h1, hL, h2, h3⟩, st⟩
  · dsimp only [Pt.U, Pt.locs, Pt.cells, Pt.slots] at X' e1 e2 h1 h2 h3 st
    subst h1; subst h2; subst h3
    exact Or.inl ⟨v, (T.setVm vm₁).calling g' mk As.toArray, t, U', L, hT, X', hL, e1, e2, hq, st⟩
  · dsimp only [Pt.U, Pt.locs, Pt.cells, Pt.slots] at X' e1 e2 h1 h2 h3 st hcl
    subst h1; subst h2; subst h3
    exact Or.inr ⟨q, (T.setVm vm₁).calling g' mk As.toArray, t, U', L, E, ce, hT, X', hL, e1, e2, hq, hce, hcv, vx_cls hW₁ hcl, st⟩
end
end VXH
theorem vx_ofWH {l : Launch} {y : MethodName} {ws ws' : List Cond} {rm : Room} {Pc : Array Value → State → Prop} {Qc : Array Value → State → Outcome → State → Prop} {XC : String → State → State → Prop} {mc ms : Nat} {free : Addr → Prop} {cc : ByteArray} {maxL : Nat} {ret : Option FieldType} {hh : List (Nat × Nat × Nat × Nat)}
    (hy : plainName y.cls = true) (hw : ws = Cond.codeWith y cc maxL ret hh :: ws')
    (body : ∀ p e s m args below meth c s₁, BodyLoose p l y (headSpec ws rm) cc maxL ret e s m args below meth c s₁ → c.maxLocals = maxL → Pc args s →
      W p l e (headSpec ws rm).room s m args below meth c s.heap [] 0 0 (vx_MQ below Qc XC args s mc ms free) (entryFrame m args maxL)) : vx_Met l y ws rm Pc Qc XC mc ms free := by
  refine MetFree.of_bodyS (code := cc) (maxLocals := maxL) (ret := ret) hy ?_ ?_
  · intro args s m h hn
    obtain ⟨m9, meth, c, hn9, h1, h2, h3, h4, -, h5, h6, -⟩ := Cond.codeWith_spec (atoms_spec (ws := ws) h _ (by rw [hw]; exact List.mem_cons_self))
    cases hn.symm.trans hn9
    exact ⟨meth, c, h1, h2, h3, h4, h5, h6⟩
  · intro p e s m args below meth c s₁ B hml hP _
    have hh0 : s₁.heap = s.heap := by rw [B.state]; rfl
    obtain ⟨t, a1, o, b1, b2, b3⟩ := body p e s m args below meth c s₁ B hml hP s₁ hh0 (Stand.of_body B)
    exact ⟨t, o, a1, b1, b2, b3⟩
/-! ===== END ===== -/
end
section
/-! ===== BEGIN printed: names, fields, word lists, decode rows ===== -/
def RX0 : String := "Tenuredale$FullCollector"
def TX0 : u_T := fun k => match k with
  | 0 => ("Tenuredale$FullCollector", "all", "LTenuredale$Row;", true)
  | 1 => ("Tenuredale$FullCollector", "roots", "LTenuredale$Roots;", true)
  | 2 => ("Tenuredale$FullCollector", "places", "LTenuredale$Places;", true)
  | 3 => ("Tenuredale$FullCollector", "tally", "LTenuredale$Tally;", true)
  | 4 => ("Tenuredale$FullCollector", "marking", "LTenuredale$Marking;", true)
  | _ => ("Tenuredale$FullCollector", "trace", "LTenuredale$Trace;", true)
def tyX0 : Nat → FieldType := fun k => match k with
  | 0 => .object "Tenuredale$Row"
  | 1 => .object "Tenuredale$Roots"
  | 2 => .object "Tenuredale$Places"
  | 3 => .object "Tenuredale$Tally"
  | 4 => .object "Tenuredale$Marking"
  | _ => .object "Tenuredale$Trace"
abbrev wsX00 : List Cond := u_ws RX0 TX0 6
theorem nmX0 : ∀ a, a < 6 → ∀ b, b < 6 → a ≠ b → (TX0 a).2.1 ≠ (TX0 b).2.1 := by decide +kernel
theorem tyX0_ok : ∀ k, k < 6 → parseFieldDescriptor (TX0 k).2.2.1 = some (tyX0 k) := by decide +kernel
abbrev cX0_init : ByteArray := prog_2_method_1_code
def yX0_init : MethodName := ⟨RX0, "<init>", "(LTenuredale$Row;LTenuredale$Roots;LTenuredale$Places;LTenuredale$Tally;LTenuredale$Marking;LTenuredale$Trace;)V"⟩
abbrev cX0_run : ByteArray := prog_2_method_2_code
def yX0_run : MethodName := ⟨RX0, "run", "(ZZ)I"⟩
abbrev cX0_dropReferences : ByteArray := prog_2_method_3_code
def yX0_dropReferences : MethodName := ⟨RX0, "dropReferences", "(Z)V"⟩
abbrev cX0_raiseFinals : ByteArray := prog_2_method_4_code
def yX0_raiseFinals : MethodName := ⟨RX0, "raiseFinals", "()V"⟩
abbrev cX0_sweep : ByteArray := prog_2_method_5_code
def yX0_sweep : MethodName := ⟨RX0, "sweep", "()I"⟩
def RX1 : String := "Tenuredale$Marking"
def TX1 : u_T := fun k => match k with
  | 0 => ("Tenuredale$Marking", "all", "LTenuredale$Row;", true)
  | 1 => ("Tenuredale$Marking", "roots", "LTenuredale$Roots;", true)
  | _ => ("Tenuredale$Marking", "isOn", "Z", false)
def tyX1 : Nat → FieldType := fun k => match k with
  | 0 => .object "Tenuredale$Row"
  | 1 => .object "Tenuredale$Roots"
  | _ => .boolean
abbrev wsX10 : List Cond := u_ws RX1 TX1 3
theorem nmX1 : ∀ a, a < 3 → ∀ b, b < 3 → a ≠ b → (TX1 a).2.1 ≠ (TX1 b).2.1 := by decide +kernel
theorem tyX1_ok : ∀ k, k < 3 → parseFieldDescriptor (TX1 k).2.2.1 = some (tyX1 k) := by decide +kernel
abbrev cX1_init : ByteArray := prog_3_method_1_code
def yX1_init : MethodName := ⟨RX1, "<init>", "(LTenuredale$Row;LTenuredale$Roots;)V"⟩
abbrev cX1_isOn : ByteArray := prog_3_method_2_code
def yX1_isOn : MethodName := ⟨RX1, "isOn", "()Z"⟩
abbrev cX1_begin : ByteArray := prog_3_method_3_code
def yX1_begin : MethodName := ⟨RX1, "begin", "()V"⟩
abbrev cX1_end : ByteArray := prog_3_method_4_code
def yX1_end : MethodName := ⟨RX1, "end", "()V"⟩
abbrev cX1_greyRoots : ByteArray := prog_3_method_5_code
def yX1_greyRoots : MethodName := ⟨RX1, "greyRoots", "()V"⟩
abbrev cX1_grey : ByteArray := prog_3_method_6_code
def yX1_grey : MethodName := ⟨RX1, "grey", "(LTenuredale$Thing;)V"⟩
abbrev cX1_greys : ByteArray := prog_3_method_7_code
def yX1_greys : MethodName := ⟨RX1, "greys", "()I"⟩
abbrev cX1_blackenNext : ByteArray := prog_3_method_8_code
def yX1_blackenNext : MethodName := ⟨RX1, "blackenNext", "()LTenuredale$Thing;"⟩
abbrev cX1_blackenAll : ByteArray := prog_3_method_9_code
def yX1_blackenAll : MethodName := ⟨RX1, "blackenAll", "()V"⟩
abbrev cX1_noteMade : ByteArray := prog_3_method_10_code
def yX1_noteMade : MethodName := ⟨RX1, "noteMade", "(LTenuredale$Thing;)V"⟩
abbrev cX1_noteWritten : ByteArray := prog_3_method_11_code
def yX1_noteWritten : MethodName := ⟨RX1, "noteWritten", "(LTenuredale$Thing;LTenuredale$Thing;)V"⟩
def RX2 : String := "Tenuredale$MinorCollector"
def TX2 : u_T := fun k => match k with
  | 0 => ("Tenuredale$MinorCollector", "tenureAge", "I", false)
  | 1 => ("Tenuredale$MinorCollector", "all", "LTenuredale$Row;", true)
  | 2 => ("Tenuredale$MinorCollector", "roots", "LTenuredale$Roots;", true)
  | 3 => ("Tenuredale$MinorCollector", "places", "LTenuredale$Places;", true)
  | 4 => ("Tenuredale$MinorCollector", "tally", "LTenuredale$Tally;", true)
  | 5 => ("Tenuredale$MinorCollector", "sources", "LTenuredale$Row;", true)
  | 6 => ("Tenuredale$MinorCollector", "followed", "I", false)
  | 7 => ("Tenuredale$MinorCollector", "otherHalf", "I", false)
  | _ => ("Tenuredale$MinorCollector", "otherTop", "I", false)
def tyX2 : Nat → FieldType := fun k => match k with
  | 0 => .int
  | 1 => .object "Tenuredale$Row"
  | 2 => .object "Tenuredale$Roots"
  | 3 => .object "Tenuredale$Places"
  | 4 => .object "Tenuredale$Tally"
  | 5 => .object "Tenuredale$Row"
  | 6 => .int
  | 7 => .int
  | _ => .int
abbrev wsX20 : List Cond := u_ws RX2 TX2 9
theorem nmX2 : ∀ a, a < 9 → ∀ b, b < 9 → a ≠ b → (TX2 a).2.1 ≠ (TX2 b).2.1 := by decide +kernel
theorem tyX2_ok : ∀ k, k < 9 → parseFieldDescriptor (TX2 k).2.2.1 = some (tyX2 k) := by decide +kernel
abbrev cX2_init : ByteArray := prog_4_method_1_code
def yX2_init : MethodName := ⟨RX2, "<init>", "(LTenuredale$Row;LTenuredale$Roots;LTenuredale$Places;LTenuredale$Tally;)V"⟩
abbrev cX2_run : ByteArray := prog_4_method_2_code
def yX2_run : MethodName := ⟨RX2, "run", "()I"⟩
abbrev cX2_begin : ByteArray := prog_4_method_3_code
def yX2_begin : MethodName := ⟨RX2, "begin", "()V"⟩
abbrev cX2_addDirty : ByteArray := prog_4_method_4_code
def yX2_addDirty : MethodName := ⟨RX2, "addDirty", "(LTenuredale$Row;)V"⟩
abbrev cX2_isLeft : ByteArray := prog_4_method_5_code
def yX2_isLeft : MethodName := ⟨RX2, "isLeft", "(LTenuredale$Thing;)Z"⟩
abbrev cX2_move : ByteArray := prog_4_method_6_code
def yX2_move : MethodName := ⟨RX2, "move", "(LTenuredale$Thing;)V"⟩
abbrev cX2_follow : ByteArray := prog_4_method_7_code
def yX2_follow : MethodName := ⟨RX2, "follow", "()V"⟩
abbrev cX2_dropReferents : ByteArray := prog_4_method_8_code
def yX2_dropReferents : MethodName := ⟨RX2, "dropReferents", "()V"⟩
abbrev cX2_raiseFinals : ByteArray := prog_4_method_9_code
def yX2_raiseFinals : MethodName := ⟨RX2, "raiseFinals", "()V"⟩
abbrev cX2_leaveHalf : ByteArray := prog_4_method_10_code
def yX2_leaveHalf : MethodName := ⟨RX2, "leaveHalf", "()I"⟩
def RX3 : String := "Tenuredale$Places"
def TX3 : u_T := fun k => match k with
  | 0 => ("Tenuredale$Places", "young", "LTenuredale$Row;", true)
  | 1 => ("Tenuredale$Places", "old", "LTenuredale$Row;", true)
  | 2 => ("Tenuredale$Places", "large", "LTenuredale$Row;", true)
  | 3 => ("Tenuredale$Places", "half", "I", false)
  | 4 => ("Tenuredale$Places", "youngTop", "I", false)
  | 5 => ("Tenuredale$Places", "oldTop", "I", false)
  | 6 => ("Tenuredale$Places", "oldWords", "I", false)
  | _ => ("Tenuredale$Places", "dirty", "[Z", true)
def tyX3 : Nat → FieldType := fun k => match k with
  | 0 => .object "Tenuredale$Row"
  | 1 => .object "Tenuredale$Row"
  | 2 => .object "Tenuredale$Row"
  | 3 => .int
  | 4 => .int
  | 5 => .int
  | 6 => .int
  | _ => .array .boolean
abbrev wsX30 : List Cond := u_ws RX3 TX3 8
theorem nmX3 : ∀ a, a < 8 → ∀ b, b < 8 → a ≠ b → (TX3 a).2.1 ≠ (TX3 b).2.1 := by decide +kernel
theorem tyX3_ok : ∀ k, k < 8 → parseFieldDescriptor (TX3 k).2.2.1 = some (tyX3 k) := by decide +kernel
abbrev cX3_init : ByteArray := prog_5_method_1_code
def yX3_init : MethodName := ⟨RX3, "<init>", "()V"⟩
abbrev cX3_things : ByteArray := prog_5_method_2_code
def yX3_things : MethodName := ⟨RX3, "things", "()I"⟩
abbrev cX3_words : ByteArray := prog_5_method_3_code
def yX3_words : MethodName := ⟨RX3, "words", "()I"⟩
abbrev cX3_gapFor : ByteArray := prog_5_method_4_code
def yX3_gapFor : MethodName := ⟨RX3, "gapFor", "(I)I"⟩
abbrev cX3_largeGapFor : ByteArray := prog_5_method_5_code
def yX3_largeGapFor : MethodName := ⟨RX3, "largeGapFor", "(I)I"⟩
abbrev cX3_largeGaps : ByteArray := prog_5_method_6_code
def yX3_largeGaps : MethodName := ⟨RX3, "largeGaps", "()I"⟩
abbrev cX3_lay : ByteArray := prog_5_method_7_code
def yX3_lay : MethodName := ⟨RX3, "lay", "(LTenuredale$Thing;I)V"⟩
abbrev cX3_oldRoom : ByteArray := prog_5_method_8_code
def yX3_oldRoom : MethodName := ⟨RX3, "oldRoom", "()I"⟩
abbrev cX3_canOldTakeYoung : ByteArray := prog_5_method_9_code
def yX3_canOldTakeYoung : MethodName := ⟨RX3, "canOldTakeYoung", "()Z"⟩
abbrev cX3_moveToOld : ByteArray := prog_5_method_10_code
def yX3_moveToOld : MethodName := ⟨RX3, "moveToOld", "(LTenuredale$Thing;)V"⟩
abbrev cX3_moveOutOfYoung : ByteArray := prog_5_method_11_code
def yX3_moveOutOfYoung : MethodName := ⟨RX3, "moveOutOfYoung", "(LTenuredale$Thing;)V"⟩
abbrev cX3_compact : ByteArray := prog_5_method_12_code
def yX3_compact : MethodName := ⟨RX3, "compact", "()I"⟩
abbrev cX3_slideOld : ByteArray := prog_5_method_13_code
def yX3_slideOld : MethodName := ⟨RX3, "slideOld", "()I"⟩
abbrev cX3_emptyYoung : ByteArray := prog_5_method_14_code
def yX3_emptyYoung : MethodName := ⟨RX3, "emptyYoung", "()I"⟩
abbrev cX3_resizeOld : ByteArray := prog_5_method_15_code
def yX3_resizeOld : MethodName := ⟨RX3, "resizeOld", "()V"⟩
abbrev cX3_renewCards : ByteArray := prog_5_method_16_code
def yX3_renewCards : MethodName := ⟨RX3, "renewCards", "()V"⟩
abbrev cX3_soilYoungHolders : ByteArray := prog_5_method_17_code
def yX3_soilYoungHolders : MethodName := ⟨RX3, "soilYoungHolders", "(LTenuredale$Row;)V"⟩
abbrev cX3_soil : ByteArray := prog_5_method_18_code
def yX3_soil : MethodName := ⟨RX3, "soil", "(LTenuredale$Thing;)V"⟩
abbrev cX3_noteWritten : ByteArray := prog_5_method_19_code
def yX3_noteWritten : MethodName := ⟨RX3, "noteWritten", "(LTenuredale$Thing;LTenuredale$Thing;)V"⟩
abbrev cX3_isCardDirty : ByteArray := prog_5_method_20_code
def yX3_isCardDirty : MethodName := ⟨RX3, "isCardDirty", "(I)Z"⟩
abbrev cX3_dirtyCards : ByteArray := prog_5_method_21_code
def yX3_dirtyCards : MethodName := ⟨RX3, "dirtyCards", "()I"⟩
def RX4 : String := "Tenuredale$Roots"
def TX4 : u_T := fun k => match k with
  | 0 => ("Tenuredale$Roots", "queue", "LTenuredale$Row;", true)
  | 1 => ("Tenuredale$Roots", "slots", "[LTenuredale$Thing;", true)
  | 2 => ("Tenuredale$Roots", "globals", "[LTenuredale$Thing;", true)
  | _ => ("Tenuredale$Roots", "frames", "I", false)
def tyX4 : Nat → FieldType := fun k => match k with
  | 0 => .object "Tenuredale$Row"
  | 1 => .array (.object "Tenuredale$Thing")
  | 2 => .array (.object "Tenuredale$Thing")
  | _ => .int
abbrev wsX40 : List Cond := u_ws RX4 TX4 4
theorem nmX4 : ∀ a, a < 4 → ∀ b, b < 4 → a ≠ b → (TX4 a).2.1 ≠ (TX4 b).2.1 := by decide +kernel
theorem tyX4_ok : ∀ k, k < 4 → parseFieldDescriptor (TX4 k).2.2.1 = some (tyX4 k) := by decide +kernel
abbrev cX4_init : ByteArray := prog_6_method_1_code
def yX4_init : MethodName := ⟨RX4, "<init>", "()V"⟩
abbrev cX4_frames : ByteArray := prog_6_method_2_code
def yX4_frames : MethodName := ⟨RX4, "frames", "()I"⟩
abbrev cX4_addFrame : ByteArray := prog_6_method_3_code
def yX4_addFrame : MethodName := ⟨RX4, "addFrame", "()V"⟩
abbrev cX4_dropFrame : ByteArray := prog_6_method_4_code
def yX4_dropFrame : MethodName := ⟨RX4, "dropFrame", "()V"⟩
abbrev cX4_indexOf : ByteArray := prog_6_method_5_code
def yX4_indexOf : MethodName := ⟨RX4, "indexOf", "(I)I"⟩
abbrev cX4_readSlot : ByteArray := prog_6_method_6_code
def yX4_readSlot : MethodName := ⟨RX4, "readSlot", "(I)LTenuredale$Thing;"⟩
abbrev cX4_writeSlot : ByteArray := prog_6_method_7_code
def yX4_writeSlot : MethodName := ⟨RX4, "writeSlot", "(ILTenuredale$Thing;)V"⟩
abbrev cX4_readGlobal : ByteArray := prog_6_method_8_code
def yX4_readGlobal : MethodName := ⟨RX4, "readGlobal", "(I)LTenuredale$Thing;"⟩
abbrev cX4_writeGlobal : ByteArray := prog_6_method_9_code
def yX4_writeGlobal : MethodName := ⟨RX4, "writeGlobal", "(ILTenuredale$Thing;)V"⟩
abbrev cX4_count : ByteArray := prog_6_method_10_code
def yX4_count : MethodName := ⟨RX4, "count", "()I"⟩
abbrev cX4_root : ByteArray := prog_6_method_11_code
def yX4_root : MethodName := ⟨RX4, "root", "(I)LTenuredale$Thing;"⟩
def RX5 : String := "Tenuredale$Row"
def TX5 : u_T := fun k => match k with
  | 0 => ("Tenuredale$Row", "things", "[LTenuredale$Thing;", true)
  | _ => ("Tenuredale$Row", "size", "I", false)
def tyX5 : Nat → FieldType := fun k => match k with
  | 0 => .array (.object "Tenuredale$Thing")
  | _ => .int
abbrev wsX50 : List Cond := u_ws RX5 TX5 2
theorem nmX5 : ∀ a, a < 2 → ∀ b, b < 2 → a ≠ b → (TX5 a).2.1 ≠ (TX5 b).2.1 := by decide +kernel
theorem tyX5_ok : ∀ k, k < 2 → parseFieldDescriptor (TX5 k).2.2.1 = some (tyX5 k) := by decide +kernel
abbrev cX5_init : ByteArray := prog_7_method_1_code
def yX5_init : MethodName := ⟨RX5, "<init>", "()V"⟩
abbrev cX5_size : ByteArray := prog_7_method_2_code
def yX5_size : MethodName := ⟨RX5, "size", "()I"⟩
abbrev cX5_item : ByteArray := prog_7_method_3_code
def yX5_item : MethodName := ⟨RX5, "item", "(I)LTenuredale$Thing;"⟩
abbrev cX5_add : ByteArray := prog_7_method_4_code
def yX5_add : MethodName := ⟨RX5, "add", "(LTenuredale$Thing;)V"⟩
abbrev cX5_addByAddress : ByteArray := prog_7_method_5_code
def yX5_addByAddress : MethodName := ⟨RX5, "addByAddress", "(LTenuredale$Thing;)V"⟩
abbrev cX5_removeFirst : ByteArray := prog_7_method_6_code
def yX5_removeFirst : MethodName := ⟨RX5, "removeFirst", "()LTenuredale$Thing;"⟩
abbrev cX5_keepOnly : ByteArray := prog_7_method_7_code
def yX5_keepOnly : MethodName := ⟨RX5, "keepOnly", "(I)V"⟩
abbrev cX5_clear : ByteArray := prog_7_method_8_code
def yX5_clear : MethodName := ⟨RX5, "clear", "()V"⟩
abbrev cX5_words : ByteArray := prog_7_method_9_code
def yX5_words : MethodName := ⟨RX5, "words", "()I"⟩
abbrev cX5_pinned : ByteArray := prog_7_method_10_code
def yX5_pinned : MethodName := ⟨RX5, "pinned", "()I"⟩
def RX6 : String := "Tenuredale$Tally"
def TX6 : u_T := fun k => match k with
  | 0 => ("Tenuredale$Tally", "minors", "I", false)
  | 1 => ("Tenuredale$Tally", "fulls", "I", false)
  | 2 => ("Tenuredale$Tally", "latestTouched", "I", false)
  | _ => ("Tenuredale$Tally", "mostTouched", "I", false)
def tyX6 : Nat → FieldType := fun k => match k with
  | 0 => .int
  | 1 => .int
  | 2 => .int
  | _ => .int
abbrev wsX60 : List Cond := u_ws RX6 TX6 4
theorem nmX6 : ∀ a, a < 4 → ∀ b, b < 4 → a ≠ b → (TX6 a).2.1 ≠ (TX6 b).2.1 := by decide +kernel
theorem tyX6_ok : ∀ k, k < 4 → parseFieldDescriptor (TX6 k).2.2.1 = some (tyX6 k) := by decide +kernel
abbrev cX6_init : ByteArray := prog_8_method_1_code
def yX6_init : MethodName := ⟨RX6, "<init>", "()V"⟩
abbrev cX6_noteTouched : ByteArray := prog_8_method_2_code
def yX6_noteTouched : MethodName := ⟨RX6, "noteTouched", "(I)V"⟩
def RX7 : String := "Tenuredale$Thing"
def TX7 : u_T := fun k => match k with
  | 0 => ("Tenuredale$Thing", "number", "I", true)
  | 1 => ("Tenuredale$Thing", "fields", "[LTenuredale$Thing;", true)
  | 2 => ("Tenuredale$Thing", "kind", "I", false)
  | 3 => ("Tenuredale$Thing", "place", "I", false)
  | 4 => ("Tenuredale$Thing", "address", "I", false)
  | 5 => ("Tenuredale$Thing", "size", "I", false)
  | 6 => ("Tenuredale$Thing", "sizeBehindMove", "I", false)
  | 7 => ("Tenuredale$Thing", "age", "I", false)
  | 8 => ("Tenuredale$Thing", "hash", "I", false)
  | 9 => ("Tenuredale$Thing", "isPinned", "Z", false)
  | 10 => ("Tenuredale$Thing", "colour", "I", false)
  | 11 => ("Tenuredale$Thing", "isMoved", "Z", false)
  | 12 => ("Tenuredale$Thing", "isMarked", "Z", false)
  | _ => ("Tenuredale$Thing", "isCut", "Z", false)
def tyX7 : Nat → FieldType := fun k => match k with
  | 0 => .int
  | 1 => .array (.object "Tenuredale$Thing")
  | 2 => .int
  | 3 => .int
  | 4 => .int
  | 5 => .int
  | 6 => .int
  | 7 => .int
  | 8 => .int
  | 9 => .boolean
  | 10 => .int
  | 11 => .boolean
  | 12 => .boolean
  | _ => .boolean
abbrev wsX70 : List Cond := u_ws RX7 TX7 14
theorem nmX7 : ∀ a, a < 14 → ∀ b, b < 14 → a ≠ b → (TX7 a).2.1 ≠ (TX7 b).2.1 := by decide +kernel
theorem tyX7_ok : ∀ k, k < 14 → parseFieldDescriptor (TX7 k).2.2.1 = some (tyX7 k) := by decide +kernel
abbrev cX7_init : ByteArray := prog_9_method_1_code
def yX7_init : MethodName := ⟨RX7, "<init>", "(III)V"⟩
abbrev cX7_hasField : ByteArray := prog_9_method_2_code
def yX7_hasField : MethodName := ⟨RX7, "hasField", "(I)Z"⟩
abbrev cX7_read : ByteArray := prog_9_method_3_code
def yX7_read : MethodName := ⟨RX7, "read", "(I)LTenuredale$Thing;"⟩
abbrev cX7_write : ByteArray := prog_9_method_4_code
def yX7_write : MethodName := ⟨RX7, "write", "(ILTenuredale$Thing;)V"⟩
abbrev cX7_hasYoungField : ByteArray := prog_9_method_5_code
def yX7_hasYoungField : MethodName := ⟨RX7, "hasYoungField", "()Z"⟩
abbrev cX7_end : ByteArray := prog_9_method_6_code
def yX7_end : MethodName := ⟨RX7, "end", "()I"⟩
abbrev cX7_card : ByteArray := prog_9_method_7_code
def yX7_card : MethodName := ⟨RX7, "card", "()I"⟩
abbrev cX7_giveHash : ByteArray := prog_9_method_8_code
def yX7_giveHash : MethodName := ⟨RX7, "giveHash", "(I)V"⟩
abbrev cX7_moveTo : ByteArray := prog_9_method_9_code
def yX7_moveTo : MethodName := ⟨RX7, "moveTo", "(II)V"⟩
abbrev cX7_vanish : ByteArray := prog_9_method_10_code
def yX7_vanish : MethodName := ⟨RX7, "vanish", "()V"⟩
def RX8 : String := "Tenuredale$Trace"
def TX8 : u_T := fun k => match k with
  | 0 => ("Tenuredale$Trace", "all", "LTenuredale$Row;", true)
  | 1 => ("Tenuredale$Trace", "roots", "LTenuredale$Roots;", true)
  | 2 => ("Tenuredale$Trace", "marked", "LTenuredale$Row;", true)
  | 3 => ("Tenuredale$Trace", "scanned", "I", false)
  | 4 => ("Tenuredale$Trace", "isSoftKept", "Z", false)
  | _ => ("Tenuredale$Trace", "hollow", "LTenuredale$Thing;", false)
def tyX8 : Nat → FieldType := fun k => match k with
  | 0 => .object "Tenuredale$Row"
  | 1 => .object "Tenuredale$Roots"
  | 2 => .object "Tenuredale$Row"
  | 3 => .int
  | 4 => .boolean
  | _ => .object "Tenuredale$Thing"
abbrev wsX80 : List Cond := u_ws RX8 TX8 6
theorem nmX8 : ∀ a, a < 6 → ∀ b, b < 6 → a ≠ b → (TX8 a).2.1 ≠ (TX8 b).2.1 := by decide +kernel
theorem tyX8_ok : ∀ k, k < 6 → parseFieldDescriptor (TX8 k).2.2.1 = some (tyX8 k) := by decide +kernel
abbrev cX8_init : ByteArray := prog_10_method_1_code
def yX8_init : MethodName := ⟨RX8, "<init>", "(LTenuredale$Row;LTenuredale$Roots;)V"⟩
abbrev cX8_begin : ByteArray := prog_10_method_2_code
def yX8_begin : MethodName := ⟨RX8, "begin", "(ZLTenuredale$Thing;)V"⟩
abbrev cX8_markRoots : ByteArray := prog_10_method_3_code
def yX8_markRoots : MethodName := ⟨RX8, "markRoots", "()V"⟩
abbrev cX8_markBlack : ByteArray := prog_10_method_4_code
def yX8_markBlack : MethodName := ⟨RX8, "markBlack", "()V"⟩
abbrev cX8_mark : ByteArray := prog_10_method_5_code
def yX8_mark : MethodName := ⟨RX8, "mark", "(LTenuredale$Thing;)V"⟩
abbrev cX8_spread : ByteArray := prog_10_method_6_code
def yX8_spread : MethodName := ⟨RX8, "spread", "()V"⟩
abbrev cX8_markFieldsOf : ByteArray := prog_10_method_7_code
def yX8_markFieldsOf : MethodName := ⟨RX8, "markFieldsOf", "(LTenuredale$Thing;)V"⟩
abbrev cX8_firstStrongField : ByteArray := prog_10_method_8_code
def yX8_firstStrongField : MethodName := ⟨RX8, "firstStrongField", "(I)I"⟩
abbrev cX8_markValues : ByteArray := prog_10_method_9_code
def yX8_markValues : MethodName := ⟨RX8, "markValues", "()Z"⟩
abbrev cX8_hasMarked : ByteArray := prog_10_method_10_code
def yX8_hasMarked : MethodName := ⟨RX8, "hasMarked", "(LTenuredale$Thing;I)Z"⟩
abbrev cX8_wordsFreed : ByteArray := prog_10_method_11_code
def yX8_wordsFreed : MethodName := ⟨RX8, "wordsFreed", "(ZLTenuredale$Thing;)I"⟩
abbrev cX8_cutPairs : ByteArray := prog_10_method_12_code
def yX8_cutPairs : MethodName := ⟨RX8, "cutPairs", "()V"⟩
def RX9 : String := "Tenuredale"
def TX9 : u_T := fun k => match k with
  | 0 => ("Tenuredale", "all", "LTenuredale$Row;", true)
  | 1 => ("Tenuredale", "roots", "LTenuredale$Roots;", true)
  | 2 => ("Tenuredale", "places", "LTenuredale$Places;", true)
  | 3 => ("Tenuredale", "tally", "LTenuredale$Tally;", true)
  | 4 => ("Tenuredale", "marking", "LTenuredale$Marking;", true)
  | 5 => ("Tenuredale", "trace", "LTenuredale$Trace;", true)
  | 6 => ("Tenuredale", "minorCollector", "LTenuredale$MinorCollector;", true)
  | 7 => ("Tenuredale", "fullCollector", "LTenuredale$FullCollector;", true)
  | _ => ("Tenuredale", "hashesGiven", "I", false)
def tyX9 : Nat → FieldType := fun k => match k with
  | 0 => .object "Tenuredale$Row"
  | 1 => .object "Tenuredale$Roots"
  | 2 => .object "Tenuredale$Places"
  | 3 => .object "Tenuredale$Tally"
  | 4 => .object "Tenuredale$Marking"
  | 5 => .object "Tenuredale$Trace"
  | 6 => .object "Tenuredale$MinorCollector"
  | 7 => .object "Tenuredale$FullCollector"
  | _ => .int
abbrev wsX90 : List Cond := u_ws RX9 TX9 9
theorem nmX9 : ∀ a, a < 9 → ∀ b, b < 9 → a ≠ b → (TX9 a).2.1 ≠ (TX9 b).2.1 := by decide +kernel
theorem tyX9_ok : ∀ k, k < 9 → parseFieldDescriptor (TX9 k).2.2.1 = some (tyX9 k) := by decide +kernel
abbrev cX9_init : ByteArray := prog_1_method_1_code
def yX9_init : MethodName := ⟨RX9, "<init>", "()V"⟩
abbrev cX9_push : ByteArray := prog_1_method_2_code
def yX9_push : MethodName := ⟨RX9, "push", "()I"⟩
abbrev cX9_pop : ByteArray := prog_1_method_3_code
def yX9_pop : MethodName := ⟨RX9, "pop", "()I"⟩
abbrev cX9_make : ByteArray := prog_1_method_4_code
def yX9_make : MethodName := ⟨RX9, "make", "(III)I"⟩
abbrev cX9_set : ByteArray := prog_1_method_5_code
def yX9_set : MethodName := ⟨RX9, "set", "(III)I"⟩
abbrev cX9_get : ByteArray := prog_1_method_6_code
def yX9_get : MethodName := ⟨RX9, "get", "(III)I"⟩
abbrev cX9_put : ByteArray := prog_1_method_7_code
def yX9_put : MethodName := ⟨RX9, "put", "(II)I"⟩
abbrev cX9_swap : ByteArray := prog_1_method_8_code
def yX9_swap : MethodName := ⟨RX9, "swap", "(II)I"⟩
abbrev cX9_hash : ByteArray := prog_1_method_9_code
def yX9_hash : MethodName := ⟨RX9, "hash", "(I)I"⟩
abbrev cX9_pin : ByteArray := prog_1_method_10_code
def yX9_pin : MethodName := ⟨RX9, "pin", "(I)Z"⟩
abbrev cX9_unpin : ByteArray := prog_1_method_11_code
def yX9_unpin : MethodName := ⟨RX9, "unpin", "(I)Z"⟩
abbrev cX9_take : ByteArray := prog_1_method_12_code
def yX9_take : MethodName := ⟨RX9, "take", "(I)I"⟩
abbrev cX9_minor : ByteArray := prog_1_method_13_code
def yX9_minor : MethodName := ⟨RX9, "minor", "()I"⟩
abbrev cX9_full : ByteArray := prog_1_method_14_code
def yX9_full : MethodName := ⟨RX9, "full", "(Z)I"⟩
abbrev cX9_start : ByteArray := prog_1_method_15_code
def yX9_start : MethodName := ⟨RX9, "start", "()I"⟩
abbrev cX9_step : ByteArray := prog_1_method_16_code
def yX9_step : MethodName := ⟨RX9, "step", "(I)I"⟩
abbrev cX9_finish : ByteArray := prog_1_method_17_code
def yX9_finish : MethodName := ⟨RX9, "finish", "()I"⟩
abbrev cX9_tenure : ByteArray := prog_1_method_18_code
def yX9_tenure : MethodName := ⟨RX9, "tenure", "(I)I"⟩
abbrev cX9_at : ByteArray := prog_1_method_19_code
def yX9_at : MethodName := ⟨RX9, "at", "(I)I"⟩
abbrev cX9_field : ByteArray := prog_1_method_20_code
def yX9_field : MethodName := ⟨RX9, "field", "(II)I"⟩
abbrev cX9_ofObject : ByteArray := prog_1_method_21_code
def yX9_ofObject : MethodName := ⟨RX9, "ofObject", "(II)I"⟩
abbrev cX9_many : ByteArray := prog_1_method_22_code
def yX9_many : MethodName := ⟨RX9, "many", "(I)I"⟩
abbrev cX9_isDirty : ByteArray := prog_1_method_23_code
def yX9_isDirty : MethodName := ⟨RX9, "isDirty", "(I)Z"⟩
abbrev cX9_queue : ByteArray := prog_1_method_24_code
def yX9_queue : MethodName := ⟨RX9, "queue", "(I)I"⟩
abbrev cX9_meanSize : ByteArray := prog_1_method_25_code
def yX9_meanSize : MethodName := ⟨RX9, "meanSize", "()D"⟩
abbrev cX9_isReachable : ByteArray := prog_1_method_26_code
def yX9_isReachable : MethodName := ⟨RX9, "isReachable", "(I)Z"⟩
abbrev cX9_wouldFree : ByteArray := prog_1_method_27_code
def yX9_wouldFree : MethodName := ⟨RX9, "wouldFree", "(Z)I"⟩
abbrev cX9_held : ByteArray := prog_1_method_28_code
def yX9_held : MethodName := ⟨RX9, "held", "(I)I"⟩
abbrev cX9_addressFor : ByteArray := prog_1_method_29_code
def yX9_addressFor : MethodName := ⟨RX9, "addressFor", "(I)I"⟩
abbrev cX9_digest : ByteArray := prog_1_method_30_code
def yX9_digest : MethodName := ⟨RX9, "digest", "()J"⟩
abbrev cX9_digestOf : ByteArray := prog_1_method_31_code
def yX9_digestOf : MethodName := ⟨RX9, "digestOf", "(LTenuredale$Thing;JI)J"⟩
abbrev cX9_madeAs : ByteArray := prog_1_method_32_code
def yX9_madeAs : MethodName := ⟨RX9, "madeAs", "(I)LTenuredale$Thing;"⟩
abbrev cX9_occupant : ByteArray := prog_1_method_33_code
def yX9_occupant : MethodName := ⟨RX9, "occupant", "(I)LTenuredale$Thing;"⟩
abbrev cX9_requireMarking : ByteArray := prog_1_method_34_code
def yX9_requireMarking : MethodName := ⟨RX9, "requireMarking", "()V"⟩
abbrev cX9_requireSlot : ByteArray := prog_1_method_35_code
def yX9_requireSlot : MethodName := ⟨RX9, "requireSlot", "(I)V"⟩
abbrev cX9_requireSlotOrNone : ByteArray := prog_1_method_36_code
def yX9_requireSlotOrNone : MethodName := ⟨RX9, "requireSlotOrNone", "(I)V"⟩
abbrev cX9_requireField : ByteArray := prog_1_method_37_code
def yX9_requireField : MethodName := ⟨RX9, "requireField", "(LTenuredale$Thing;I)V"⟩
abbrev cX9_leastFields : ByteArray := prog_1_method_38_code
def yX9_leastFields : MethodName := ⟨RX9, "leastFields", "(I)I"⟩
abbrev cX9_isLoose : ByteArray := prog_1_method_39_code
def yX9_isLoose : MethodName := ⟨RX9, "isLoose", "(IZ)Z"⟩
abbrev cX9_numberOf : ByteArray := prog_1_method_40_code
def yX9_numberOf : MethodName := ⟨RX9, "numberOf", "(LTenuredale$Thing;)I"⟩
def wsX0_init : List Cond := .code yX0_init cX0_init 7 none :: ([.methodLink RX0 3 objectInit, .instanceMethod objectInit, .code objectInit ⟨#[0xb1]⟩ 1 none, .fieldLink RX0 9 "Tenuredale$FullCollector" "all" "LTenuredale$Row;", .fieldLink RX0 15 "Tenuredale$FullCollector" "roots" "LTenuredale$Roots;", .fieldLink RX0 19 "Tenuredale$FullCollector" "places" "LTenuredale$Places;", .fieldLink RX0 23 "Tenuredale$FullCollector" "tally" "LTenuredale$Tally;", .fieldLink RX0 27 "Tenuredale$FullCollector" "marking" "LTenuredale$Marking;", .fieldLink RX0 31 "Tenuredale$FullCollector" "trace" "LTenuredale$Trace;"] ++ wsX00)
def wsX5_clear : List Cond := .code yX5_clear cX5_clear 1 none :: ([.fieldLink RX5 17 "Tenuredale$Row" "size" "I"] ++ wsX50)
def wsX5_size : List Cond := .code yX5_size cX5_size 1 (some .int) :: ([.fieldLink RX5 17 "Tenuredale$Row" "size" "I"] ++ wsX50)
def wsX5_item : List Cond := .code yX5_item cX5_item 2 (some (.object "Tenuredale$Thing")) :: ([.fieldLink RX5 17 "Tenuredale$Row" "size" "I", .fieldLink RX5 11 "Tenuredale$Row" "things" "[LTenuredale$Thing;"] ++ wsX50)
def wsX8_begin : List Cond := .code yX8_begin cX8_begin 5 none :: ([.fieldLink RX8 25 "Tenuredale$Trace" "isSoftKept" "Z", .fieldLink RX8 29 "Tenuredale$Trace" "hollow" "LTenuredale$Thing;", .fieldLink RX8 12 "Tenuredale$Trace" "marked" "LTenuredale$Row;", .fieldLink RX8 36 "Tenuredale$Trace" "scanned" "I", .fieldLink RX8 18 "Tenuredale$Trace" "all" "LTenuredale$Row;", .fieldLink RX8 48 "Tenuredale$Thing" "isMarked" "Z", .fieldLink RX8 53 "Tenuredale$Thing" "isCut" "Z", .methodLink RX8 33 yX5_clear, .instanceMethod yX5_clear, .selects RX5 yX5_clear yX5_clear, .initialized RX5, .code yX5_clear cX5_clear 1 none, .fieldLink RX5 17 "Tenuredale$Row" "size" "I", .methodLink RX8 40 yX5_size, .instanceMethod yX5_size, .selects RX5 yX5_size yX5_size, .code yX5_size cX5_size 1 (some .int), .methodLink RX8 44 yX5_item, .instanceMethod yX5_item, .selects RX5 yX5_item yX5_item, .code yX5_item cX5_item 2 (some (.object "Tenuredale$Thing")), .fieldLink RX5 11 "Tenuredale$Row" "things" "[LTenuredale$Thing;"] ++ wsX80 ++ wsX70 ++ wsX50)
def wsX5_add : List Cond := .code yX5_add cX5_add 2 none :: ([.fieldLink RX5 17 "Tenuredale$Row" "size" "I", .fieldLink RX5 11 "Tenuredale$Row" "things" "[LTenuredale$Thing;"] ++ wsX50)
def wsX8_mark : List Cond := .code yX8_mark cX8_mark 2 none :: ([.fieldLink RX8 48 "Tenuredale$Thing" "isMarked" "Z", .fieldLink RX8 12 "Tenuredale$Trace" "marked" "LTenuredale$Row;", .methodLink RX8 74 yX5_add, .instanceMethod yX5_add, .selects RX5 yX5_add yX5_add, .initialized RX5, .code yX5_add cX5_add 2 none, .fieldLink RX5 17 "Tenuredale$Row" "size" "I", .fieldLink RX5 11 "Tenuredale$Row" "things" "[LTenuredale$Thing;"] ++ wsX70 ++ wsX80 ++ wsX50)
def wsX8_markBlack_r1 : List Cond := [Cond.fieldLink RX8 18 "Tenuredale$Trace" "all" "LTenuredale$Row;", Cond.fieldLink RX8 71 "Tenuredale$Thing" "colour" "I", Cond.fieldLink RX8 12 "Tenuredale$Trace" "marked" "LTenuredale$Row;", Cond.fieldLink RX8 36 "Tenuredale$Trace" "scanned" "I", Cond.methodLink RX8 40 yX5_size, Cond.instanceMethod yX5_size, Cond.selects RX5 yX5_size yX5_size, Cond.initialized RX5, Cond.code yX5_size cX5_size 1 (some .int), Cond.fieldLink RX5 17 "Tenuredale$Row" "size" "I", Cond.methodLink RX8 44 yX5_item, Cond.instanceMethod yX5_item, Cond.selects RX5 yX5_item yX5_item, Cond.code yX5_item cX5_item 2 (some (.object "Tenuredale$Thing")), Cond.fieldLink RX5 11 "Tenuredale$Row" "things" "[LTenuredale$Thing;", Cond.methodLink RX8 64 yX8_mark, Cond.instanceMethod yX8_mark, Cond.selects RX8 yX8_mark yX8_mark, Cond.initialized RX8, Cond.code yX8_mark cX8_mark 2 none, Cond.fieldLink RX8 48 "Tenuredale$Thing" "isMarked" "Z", Cond.methodLink RX8 74 yX5_add, Cond.instanceMethod yX5_add, Cond.selects RX5 yX5_add yX5_add]
def wsX8_markBlack_r2 : List Cond := [Cond.code yX5_add cX5_add 2 none]
def wsX8_markBlack : List Cond := .code yX8_markBlack cX8_markBlack 3 none :: ((wsX8_markBlack_r1 ++ wsX8_markBlack_r2) ++ wsX80 ++ wsX70 ++ wsX50)
def wsX4_count : List Cond := .code yX4_count cX4_count 1 (some .int) :: ([.fieldLink RX4 27 "Tenuredale$Roots" "frames" "I", .fieldLink RX4 12 "Tenuredale$Roots" "queue" "LTenuredale$Row;", .methodLink RX4 39 yX5_size, .instanceMethod yX5_size, .selects RX5 yX5_size yX5_size, .initialized RX5, .code yX5_size cX5_size 1 (some .int), .fieldLink RX5 17 "Tenuredale$Row" "size" "I"] ++ wsX40 ++ wsX50)
def wsX4_readGlobal : List Cond := .code yX4_readGlobal cX4_readGlobal 2 (some (.object "Tenuredale$Thing")) :: ([.fieldLink RX4 24 "Tenuredale$Roots" "globals" "[LTenuredale$Thing;"] ++ wsX40)
def wsX4_root : List Cond := .code yX4_root cX4_root 4 (some (.object "Tenuredale$Thing")) :: ([.fieldLink RX4 27 "Tenuredale$Roots" "frames" "I", .fieldLink RX4 20 "Tenuredale$Roots" "slots" "[LTenuredale$Thing;", .fieldLink RX4 12 "Tenuredale$Roots" "queue" "LTenuredale$Row;", .methodLink RX4 43 yX4_readGlobal, .instanceMethod yX4_readGlobal, .selects RX4 yX4_readGlobal yX4_readGlobal, .initialized RX4, .code yX4_readGlobal cX4_readGlobal 2 (some (.object "Tenuredale$Thing")), .fieldLink RX4 24 "Tenuredale$Roots" "globals" "[LTenuredale$Thing;", .methodLink RX4 47 yX5_item, .instanceMethod yX5_item, .selects RX5 yX5_item yX5_item, .initialized RX5, .code yX5_item cX5_item 2 (some (.object "Tenuredale$Thing")), .fieldLink RX5 17 "Tenuredale$Row" "size" "I", .fieldLink RX5 11 "Tenuredale$Row" "things" "[LTenuredale$Thing;"] ++ wsX40 ++ wsX50)
def wsX8_markRoots_r1 : List Cond := [Cond.fieldLink RX8 21 "Tenuredale$Trace" "roots" "LTenuredale$Roots;", Cond.fieldLink RX8 18 "Tenuredale$Trace" "all" "LTenuredale$Row;", Cond.fieldLink RX8 68 "Tenuredale$Thing" "isPinned" "Z", Cond.methodLink RX8 56 yX4_count, Cond.instanceMethod yX4_count, Cond.selects RX4 yX4_count yX4_count, Cond.initialized RX4, Cond.code yX4_count cX4_count 1 (some .int), Cond.fieldLink RX4 27 "Tenuredale$Roots" "frames" "I", Cond.fieldLink RX4 12 "Tenuredale$Roots" "queue" "LTenuredale$Row;", Cond.methodLink RX4 39 yX5_size, Cond.instanceMethod yX5_size, Cond.selects RX5 yX5_size yX5_size, Cond.initialized RX5, Cond.code yX5_size cX5_size 1 (some .int), Cond.fieldLink RX5 17 "Tenuredale$Row" "size" "I", Cond.methodLink RX8 61 yX4_root, Cond.instanceMethod yX4_root, Cond.selects RX4 yX4_root yX4_root, Cond.code yX4_root cX4_root 4 (some (.object "Tenuredale$Thing")), Cond.fieldLink RX4 20 "Tenuredale$Roots" "slots" "[LTenuredale$Thing;", Cond.methodLink RX4 43 yX4_readGlobal, Cond.instanceMethod yX4_readGlobal, Cond.selects RX4 yX4_readGlobal yX4_readGlobal]
def wsX8_markRoots_r2 : List Cond := [Cond.code yX4_readGlobal cX4_readGlobal 2 (some (.object "Tenuredale$Thing")), Cond.fieldLink RX4 24 "Tenuredale$Roots" "globals" "[LTenuredale$Thing;", Cond.methodLink RX4 47 yX5_item, Cond.instanceMethod yX5_item, Cond.selects RX5 yX5_item yX5_item, Cond.code yX5_item cX5_item 2 (some (.object "Tenuredale$Thing")), Cond.fieldLink RX5 11 "Tenuredale$Row" "things" "[LTenuredale$Thing;", Cond.methodLink RX8 64 yX8_mark, Cond.instanceMethod yX8_mark, Cond.selects RX8 yX8_mark yX8_mark, Cond.initialized RX8, Cond.code yX8_mark cX8_mark 2 none, Cond.fieldLink RX8 48 "Tenuredale$Thing" "isMarked" "Z", Cond.fieldLink RX8 12 "Tenuredale$Trace" "marked" "LTenuredale$Row;", Cond.methodLink RX8 74 yX5_add, Cond.instanceMethod yX5_add, Cond.selects RX5 yX5_add yX5_add, Cond.code yX5_add cX5_add 2 none, Cond.methodLink RX8 40 yX5_size, Cond.methodLink RX8 44 yX5_item]
def wsX8_markRoots : List Cond := .code yX8_markRoots cX8_markRoots 3 none :: ((wsX8_markRoots_r1 ++ wsX8_markRoots_r2) ++ wsX80 ++ wsX70 ++ wsX40 ++ wsX50)
def wsX9_isLoose : List Cond := .code yX9_isLoose cX9_isLoose 2 (some .boolean) :: ([])
def wsX8_firstStrongField : List Cond := .code yX8_firstStrongField cX8_firstStrongField 2 (some .int) :: ([.fieldLink RX8 25 "Tenuredale$Trace" "isSoftKept" "Z", .static yX9_isLoose, .initialized RX9, .code yX9_isLoose cX9_isLoose 2 (some .boolean)] ++ wsX80)
def wsX8_markFieldsOf_r1 : List Cond := [Cond.fieldLink RX8 29 "Tenuredale$Trace" "hollow" "LTenuredale$Thing;", Cond.fieldLink RX8 84 "Tenuredale$Thing" "kind" "I", Cond.fieldLink RX8 91 "Tenuredale$Thing" "fields" "[LTenuredale$Thing;", Cond.methodLink RX8 87 yX8_firstStrongField, Cond.instanceMethod yX8_firstStrongField, Cond.selects RX8 yX8_firstStrongField yX8_firstStrongField, Cond.initialized RX8, Cond.code yX8_firstStrongField cX8_firstStrongField 2 (some .int), Cond.fieldLink RX8 25 "Tenuredale$Trace" "isSoftKept" "Z", Cond.static yX9_isLoose, Cond.initialized RX9, Cond.code yX9_isLoose cX9_isLoose 2 (some .boolean), Cond.methodLink RX8 64 yX8_mark, Cond.instanceMethod yX8_mark, Cond.selects RX8 yX8_mark yX8_mark, Cond.code yX8_mark cX8_mark 2 none, Cond.fieldLink RX8 48 "Tenuredale$Thing" "isMarked" "Z", Cond.fieldLink RX8 12 "Tenuredale$Trace" "marked" "LTenuredale$Row;", Cond.methodLink RX8 74 yX5_add, Cond.instanceMethod yX5_add, Cond.selects RX5 yX5_add yX5_add, Cond.initialized RX5, Cond.code yX5_add cX5_add 2 none, Cond.fieldLink RX5 17 "Tenuredale$Row" "size" "I"]
def wsX8_markFieldsOf_r2 : List Cond := [Cond.fieldLink RX5 11 "Tenuredale$Row" "things" "[LTenuredale$Thing;"]
def wsX8_markFieldsOf : List Cond := .code yX8_markFieldsOf cX8_markFieldsOf 3 none :: ((wsX8_markFieldsOf_r1 ++ wsX8_markFieldsOf_r2) ++ wsX80 ++ wsX70 ++ wsX50)
def wsX7_read : List Cond := .code yX7_read cX7_read 2 (some (.object "Tenuredale$Thing")) :: ([.fieldLink RX7 18 "Tenuredale$Thing" "fields" "[LTenuredale$Thing;"] ++ wsX70)
def wsX8_hasMarked : List Cond := .code yX8_hasMarked cX8_hasMarked 3 (some .boolean) :: ([.fieldLink RX8 48 "Tenuredale$Thing" "isMarked" "Z", .methodLink RX8 103 yX7_read, .instanceMethod yX7_read, .selects RX7 yX7_read yX7_read, .initialized RX7, .code yX7_read cX7_read 2 (some (.object "Tenuredale$Thing")), .fieldLink RX7 18 "Tenuredale$Thing" "fields" "[LTenuredale$Thing;"] ++ wsX70)
def wsX8_markValues_r1 : List Cond := [Cond.fieldLink RX8 12 "Tenuredale$Trace" "marked" "LTenuredale$Row;", Cond.fieldLink RX8 84 "Tenuredale$Thing" "kind" "I", Cond.fieldLink RX8 29 "Tenuredale$Trace" "hollow" "LTenuredale$Thing;", Cond.fieldLink RX8 53 "Tenuredale$Thing" "isCut" "Z", Cond.methodLink RX8 40 yX5_size, Cond.instanceMethod yX5_size, Cond.selects RX5 yX5_size yX5_size, Cond.initialized RX5, Cond.code yX5_size cX5_size 1 (some .int), Cond.fieldLink RX5 17 "Tenuredale$Row" "size" "I", Cond.methodLink RX8 44 yX5_item, Cond.instanceMethod yX5_item, Cond.selects RX5 yX5_item yX5_item, Cond.code yX5_item cX5_item 2 (some (.object "Tenuredale$Thing")), Cond.fieldLink RX5 11 "Tenuredale$Row" "things" "[LTenuredale$Thing;", Cond.methodLink RX8 99 yX8_hasMarked, Cond.static yX8_hasMarked, Cond.initialized RX8, Cond.code yX8_hasMarked cX8_hasMarked 3 (some .boolean), Cond.fieldLink RX8 48 "Tenuredale$Thing" "isMarked" "Z", Cond.methodLink RX8 103 yX7_read, Cond.instanceMethod yX7_read, Cond.selects RX7 yX7_read yX7_read, Cond.initialized RX7]
def wsX8_markValues_r2 : List Cond := [Cond.code yX7_read cX7_read 2 (some (.object "Tenuredale$Thing")), Cond.fieldLink RX7 18 "Tenuredale$Thing" "fields" "[LTenuredale$Thing;", Cond.methodLink RX8 64 yX8_mark, Cond.instanceMethod yX8_mark, Cond.selects RX8 yX8_mark yX8_mark, Cond.code yX8_mark cX8_mark 2 none, Cond.methodLink RX8 74 yX5_add, Cond.instanceMethod yX5_add, Cond.selects RX5 yX5_add yX5_add, Cond.code yX5_add cX5_add 2 none]
def wsX8_markValues : List Cond := .code yX8_markValues cX8_markValues 4 (some .boolean) :: ((wsX8_markValues_r1 ++ wsX8_markValues_r2) ++ wsX80 ++ wsX70 ++ wsX50)
def wsX8_spread_r1 : List Cond := [Cond.fieldLink RX8 36 "Tenuredale$Trace" "scanned" "I", Cond.fieldLink RX8 12 "Tenuredale$Trace" "marked" "LTenuredale$Row;", Cond.methodLink RX8 40 yX5_size, Cond.instanceMethod yX5_size, Cond.selects RX5 yX5_size yX5_size, Cond.initialized RX5, Cond.code yX5_size cX5_size 1 (some .int), Cond.fieldLink RX5 17 "Tenuredale$Row" "size" "I", Cond.methodLink RX8 44 yX5_item, Cond.instanceMethod yX5_item, Cond.selects RX5 yX5_item yX5_item, Cond.code yX5_item cX5_item 2 (some (.object "Tenuredale$Thing")), Cond.fieldLink RX5 11 "Tenuredale$Row" "things" "[LTenuredale$Thing;", Cond.methodLink RX8 77 yX8_markFieldsOf, Cond.instanceMethod yX8_markFieldsOf, Cond.selects RX8 yX8_markFieldsOf yX8_markFieldsOf, Cond.initialized RX8, Cond.code yX8_markFieldsOf cX8_markFieldsOf 3 none, Cond.fieldLink RX8 29 "Tenuredale$Trace" "hollow" "LTenuredale$Thing;", Cond.fieldLink RX8 84 "Tenuredale$Thing" "kind" "I", Cond.fieldLink RX8 91 "Tenuredale$Thing" "fields" "[LTenuredale$Thing;", Cond.methodLink RX8 87 yX8_firstStrongField, Cond.instanceMethod yX8_firstStrongField, Cond.selects RX8 yX8_firstStrongField yX8_firstStrongField]
def wsX8_spread_r2 : List Cond := [Cond.code yX8_firstStrongField cX8_firstStrongField 2 (some .int), Cond.fieldLink RX8 25 "Tenuredale$Trace" "isSoftKept" "Z", Cond.static yX9_isLoose, Cond.initialized RX9, Cond.code yX9_isLoose cX9_isLoose 2 (some .boolean), Cond.methodLink RX8 64 yX8_mark, Cond.instanceMethod yX8_mark, Cond.selects RX8 yX8_mark yX8_mark, Cond.code yX8_mark cX8_mark 2 none, Cond.fieldLink RX8 48 "Tenuredale$Thing" "isMarked" "Z", Cond.methodLink RX8 74 yX5_add, Cond.instanceMethod yX5_add, Cond.selects RX5 yX5_add yX5_add, Cond.code yX5_add cX5_add 2 none, Cond.methodLink RX8 80 yX8_markValues, Cond.instanceMethod yX8_markValues, Cond.selects RX8 yX8_markValues yX8_markValues, Cond.code yX8_markValues cX8_markValues 4 (some .boolean), Cond.fieldLink RX8 53 "Tenuredale$Thing" "isCut" "Z", Cond.methodLink RX8 99 yX8_hasMarked, Cond.static yX8_hasMarked, Cond.code yX8_hasMarked cX8_hasMarked 3 (some .boolean), Cond.methodLink RX8 103 yX7_read, Cond.instanceMethod yX7_read]
def wsX8_spread_r3 : List Cond := [Cond.selects RX7 yX7_read yX7_read, Cond.initialized RX7, Cond.code yX7_read cX7_read 2 (some (.object "Tenuredale$Thing")), Cond.fieldLink RX7 18 "Tenuredale$Thing" "fields" "[LTenuredale$Thing;"]
def wsX8_spread : List Cond := .code yX8_spread cX8_spread 2 none :: ((wsX8_spread_r1 ++ (wsX8_spread_r2 ++ wsX8_spread_r3)) ++ wsX80 ++ wsX50 ++ wsX70)
def wsX7_write : List Cond := .code yX7_write cX7_write 3 none :: ([.fieldLink RX7 18 "Tenuredale$Thing" "fields" "[LTenuredale$Thing;"] ++ wsX70)
def wsX0_dropReferences_r1 : List Cond := [Cond.fieldLink RX0 9 "Tenuredale$FullCollector" "all" "LTenuredale$Row;", Cond.fieldLink RX0 96 "Tenuredale$Thing" "kind" "I", Cond.fieldLink RX0 101 "Tenuredale$Thing" "isMarked" "Z", Cond.methodLink RX0 87 yX5_size, Cond.instanceMethod yX5_size, Cond.selects RX5 yX5_size yX5_size, Cond.initialized RX5, Cond.code yX5_size cX5_size 1 (some .int), Cond.fieldLink RX5 17 "Tenuredale$Row" "size" "I", Cond.methodLink RX0 92 yX5_item, Cond.instanceMethod yX5_item, Cond.selects RX5 yX5_item yX5_item, Cond.code yX5_item cX5_item 2 (some (.object "Tenuredale$Thing")), Cond.fieldLink RX5 11 "Tenuredale$Row" "things" "[LTenuredale$Thing;", Cond.methodLink RX0 105 yX8_hasMarked, Cond.static yX8_hasMarked, Cond.initialized RX8, Cond.code yX8_hasMarked cX8_hasMarked 3 (some .boolean), Cond.fieldLink RX8 48 "Tenuredale$Thing" "isMarked" "Z", Cond.methodLink RX8 103 yX7_read, Cond.instanceMethod yX7_read, Cond.selects RX7 yX7_read yX7_read, Cond.initialized RX7, Cond.code yX7_read cX7_read 2 (some (.object "Tenuredale$Thing"))]
def wsX0_dropReferences_r2 : List Cond := [Cond.fieldLink RX7 18 "Tenuredale$Thing" "fields" "[LTenuredale$Thing;", Cond.methodLink RX0 109 yX7_write, Cond.instanceMethod yX7_write, Cond.selects RX7 yX7_write yX7_write, Cond.code yX7_write cX7_write 3 none, Cond.static yX9_isLoose, Cond.initialized RX9, Cond.code yX9_isLoose cX9_isLoose 2 (some .boolean)]
def wsX0_dropReferences : List Cond := .code yX0_dropReferences cX0_dropReferences 4 none :: ((wsX0_dropReferences_r1 ++ wsX0_dropReferences_r2) ++ wsX00 ++ wsX70 ++ wsX50)
def wsX0_raiseFinals_r1 : List Cond := [Cond.fieldLink RX0 9 "Tenuredale$FullCollector" "all" "LTenuredale$Row;", Cond.fieldLink RX0 117 "Tenuredale$Thing" "place" "I", Cond.fieldLink RX0 96 "Tenuredale$Thing" "kind" "I", Cond.fieldLink RX0 101 "Tenuredale$Thing" "isMarked" "Z", Cond.fieldLink RX0 15 "Tenuredale$FullCollector" "roots" "LTenuredale$Roots;", Cond.fieldLink RX0 120 "Tenuredale$Roots" "queue" "LTenuredale$Row;", Cond.fieldLink RX0 31 "Tenuredale$FullCollector" "trace" "LTenuredale$Trace;", Cond.methodLink RX0 87 yX5_size, Cond.instanceMethod yX5_size, Cond.selects RX5 yX5_size yX5_size, Cond.initialized RX5, Cond.code yX5_size cX5_size 1 (some .int), Cond.fieldLink RX5 17 "Tenuredale$Row" "size" "I", Cond.methodLink RX0 92 yX5_item, Cond.instanceMethod yX5_item, Cond.selects RX5 yX5_item yX5_item, Cond.code yX5_item cX5_item 2 (some (.object "Tenuredale$Thing")), Cond.fieldLink RX5 11 "Tenuredale$Row" "things" "[LTenuredale$Thing;", Cond.methodLink RX0 125 yX5_add, Cond.instanceMethod yX5_add, Cond.selects RX5 yX5_add yX5_add, Cond.code yX5_add cX5_add 2 none, Cond.methodLink RX0 129 yX8_mark, Cond.instanceMethod yX8_mark]
def wsX0_raiseFinals_r2 : List Cond := [Cond.selects RX8 yX8_mark yX8_mark, Cond.initialized RX8, Cond.code yX8_mark cX8_mark 2 none, Cond.fieldLink RX8 48 "Tenuredale$Thing" "isMarked" "Z", Cond.fieldLink RX8 12 "Tenuredale$Trace" "marked" "LTenuredale$Row;", Cond.methodLink RX8 74 yX5_add]
def wsX0_raiseFinals : List Cond := .code yX0_raiseFinals cX0_raiseFinals 3 none :: ((wsX0_raiseFinals_r1 ++ wsX0_raiseFinals_r2) ++ wsX00 ++ wsX70 ++ wsX40 ++ wsX50 ++ wsX80)
def wsX7_vanish : List Cond := .code yX7_vanish cX7_vanish 2 none :: ([.fieldLink RX7 31 "Tenuredale$Thing" "place" "I", .fieldLink RX7 37 "Tenuredale$Thing" "colour" "I", .fieldLink RX7 18 "Tenuredale$Thing" "fields" "[LTenuredale$Thing;"] ++ wsX70)
def wsX0_sweep : List Cond := .code yX0_sweep cX0_sweep 4 (some .int) :: ([.fieldLink RX0 9 "Tenuredale$FullCollector" "all" "LTenuredale$Row;", .fieldLink RX0 117 "Tenuredale$Thing" "place" "I", .fieldLink RX0 101 "Tenuredale$Thing" "isMarked" "Z", .methodLink RX0 87 yX5_size, .instanceMethod yX5_size, .selects RX5 yX5_size yX5_size, .initialized RX5, .code yX5_size cX5_size 1 (some .int), .fieldLink RX5 17 "Tenuredale$Row" "size" "I", .methodLink RX0 92 yX5_item, .instanceMethod yX5_item, .selects RX5 yX5_item yX5_item, .code yX5_item cX5_item 2 (some (.object "Tenuredale$Thing")), .fieldLink RX5 11 "Tenuredale$Row" "things" "[LTenuredale$Thing;", .methodLink RX0 132 yX7_vanish, .instanceMethod yX7_vanish, .selects RX7 yX7_vanish yX7_vanish, .initialized RX7, .code yX7_vanish cX7_vanish 2 none, .fieldLink RX7 31 "Tenuredale$Thing" "place" "I", .fieldLink RX7 37 "Tenuredale$Thing" "colour" "I", .fieldLink RX7 18 "Tenuredale$Thing" "fields" "[LTenuredale$Thing;"] ++ wsX00 ++ wsX70 ++ wsX50)
def wsX5_keepOnly : List Cond := .code yX5_keepOnly cX5_keepOnly 5 none :: ([.fieldLink RX5 17 "Tenuredale$Row" "size" "I", .fieldLink RX5 11 "Tenuredale$Row" "things" "[LTenuredale$Thing;", .fieldLink RX5 32 "Tenuredale$Thing" "place" "I", .methodLink RX5 21 yX5_add, .instanceMethod yX5_add, .selects RX5 yX5_add yX5_add, .initialized RX5, .code yX5_add cX5_add 2 none] ++ wsX50 ++ wsX70)
def wsX7_moveTo : List Cond := .code yX7_moveTo cX7_moveTo 3 none :: ([.fieldLink RX7 25 "Tenuredale$Thing" "sizeBehindMove" "I", .fieldLink RX7 22 "Tenuredale$Thing" "size" "I", .fieldLink RX7 31 "Tenuredale$Thing" "place" "I", .fieldLink RX7 34 "Tenuredale$Thing" "address" "I"] ++ wsX70)
def wsX7_end : List Cond := .code yX7_end cX7_end 1 (some .int) :: ([.fieldLink RX7 34 "Tenuredale$Thing" "address" "I", .fieldLink RX7 22 "Tenuredale$Thing" "size" "I"] ++ wsX70)
def wsX3_slideOld_r1 : List Cond := [Cond.fieldLink RX3 24 "Tenuredale$Places" "oldTop" "I", Cond.fieldLink RX3 18 "Tenuredale$Places" "old" "LTenuredale$Row;", Cond.fieldLink RX3 108 "Tenuredale$Thing" "isPinned" "Z", Cond.fieldLink RX3 56 "Tenuredale$Thing" "address" "I", Cond.fieldLink RX3 112 "Tenuredale$Thing" "size" "I", Cond.methodLink RX3 35 yX5_size, Cond.instanceMethod yX5_size, Cond.selects RX5 yX5_size yX5_size, Cond.initialized RX5, Cond.code yX5_size cX5_size 1 (some .int), Cond.fieldLink RX5 17 "Tenuredale$Row" "size" "I", Cond.methodLink RX3 52 yX5_item, Cond.instanceMethod yX5_item, Cond.selects RX5 yX5_item yX5_item, Cond.code yX5_item cX5_item 2 (some (.object "Tenuredale$Thing")), Cond.fieldLink RX5 11 "Tenuredale$Row" "things" "[LTenuredale$Thing;", Cond.methodLink RX3 68 yX7_moveTo, Cond.instanceMethod yX7_moveTo, Cond.selects RX7 yX7_moveTo yX7_moveTo, Cond.initialized RX7, Cond.code yX7_moveTo cX7_moveTo 3 none, Cond.fieldLink RX7 25 "Tenuredale$Thing" "sizeBehindMove" "I", Cond.fieldLink RX7 22 "Tenuredale$Thing" "size" "I", Cond.fieldLink RX7 31 "Tenuredale$Thing" "place" "I"]
def wsX3_slideOld_r2 : List Cond := [Cond.fieldLink RX7 34 "Tenuredale$Thing" "address" "I", Cond.methodLink RX3 61 yX7_end, Cond.instanceMethod yX7_end, Cond.selects RX7 yX7_end yX7_end, Cond.code yX7_end cX7_end 1 (some .int)]
def wsX3_slideOld : List Cond := .code yX3_slideOld cX3_slideOld 4 (some .int) :: ((wsX3_slideOld_r1 ++ wsX3_slideOld_r2) ++ wsX30 ++ wsX70 ++ wsX50)
def wsX3_oldRoom : List Cond := .code yX3_oldRoom cX3_oldRoom 1 (some .int) :: ([.fieldLink RX3 28 "Tenuredale$Places" "oldWords" "I", .fieldLink RX3 24 "Tenuredale$Places" "oldTop" "I"] ++ wsX30)
def wsX3_canOldTakeYoung : List Cond := .code yX3_canOldTakeYoung cX3_canOldTakeYoung 4 (some .boolean) :: ([.fieldLink RX3 12 "Tenuredale$Places" "young" "LTenuredale$Row;", .fieldLink RX3 79 "Tenuredale$Thing" "sizeBehindMove" "I", .methodLink RX3 35 yX5_size, .instanceMethod yX5_size, .selects RX5 yX5_size yX5_size, .initialized RX5, .code yX5_size cX5_size 1 (some .int), .fieldLink RX5 17 "Tenuredale$Row" "size" "I", .methodLink RX3 52 yX5_item, .instanceMethod yX5_item, .selects RX5 yX5_item yX5_item, .code yX5_item cX5_item 2 (some (.object "Tenuredale$Thing")), .fieldLink RX5 11 "Tenuredale$Row" "things" "[LTenuredale$Thing;", .methodLink RX3 82 yX3_oldRoom, .instanceMethod yX3_oldRoom, .selects RX3 yX3_oldRoom yX3_oldRoom, .initialized RX3, .code yX3_oldRoom cX3_oldRoom 1 (some .int), .fieldLink RX3 28 "Tenuredale$Places" "oldWords" "I", .fieldLink RX3 24 "Tenuredale$Places" "oldTop" "I"] ++ wsX30 ++ wsX70 ++ wsX50)
def wsX3_moveToOld : List Cond := .code yX3_moveToOld cX3_moveToOld 2 none :: ([.fieldLink RX3 24 "Tenuredale$Places" "oldTop" "I", .fieldLink RX3 18 "Tenuredale$Places" "old" "LTenuredale$Row;", .methodLink RX3 68 yX7_moveTo, .instanceMethod yX7_moveTo, .selects RX7 yX7_moveTo yX7_moveTo, .initialized RX7, .code yX7_moveTo cX7_moveTo 3 none, .fieldLink RX7 25 "Tenuredale$Thing" "sizeBehindMove" "I", .fieldLink RX7 22 "Tenuredale$Thing" "size" "I", .fieldLink RX7 31 "Tenuredale$Thing" "place" "I", .fieldLink RX7 34 "Tenuredale$Thing" "address" "I", .methodLink RX3 61 yX7_end, .instanceMethod yX7_end, .selects RX7 yX7_end yX7_end, .code yX7_end cX7_end 1 (some .int), .methodLink RX3 76 yX5_add, .instanceMethod yX5_add, .selects RX5 yX5_add yX5_add, .initialized RX5, .code yX5_add cX5_add 2 none, .fieldLink RX5 17 "Tenuredale$Row" "size" "I", .fieldLink RX5 11 "Tenuredale$Row" "things" "[LTenuredale$Thing;"] ++ wsX30 ++ wsX70 ++ wsX50)
def wsX5_words : List Cond := .code yX5_words cX5_words 4 (some .int) :: ([.fieldLink RX5 17 "Tenuredale$Row" "size" "I", .fieldLink RX5 11 "Tenuredale$Row" "things" "[LTenuredale$Thing;", .fieldLink RX5 35 "Tenuredale$Thing" "size" "I"] ++ wsX50 ++ wsX70)
def wsX3_emptyYoung_r1 : List Cond := [Cond.fieldLink RX3 12 "Tenuredale$Places" "young" "LTenuredale$Row;", Cond.fieldLink RX3 49 "Tenuredale$Places" "half" "I", Cond.fieldLink RX3 46 "Tenuredale$Places" "youngTop" "I", Cond.methodLink RX3 114 yX3_canOldTakeYoung, Cond.instanceMethod yX3_canOldTakeYoung, Cond.selects RX3 yX3_canOldTakeYoung yX3_canOldTakeYoung, Cond.initialized RX3, Cond.code yX3_canOldTakeYoung cX3_canOldTakeYoung 4 (some .boolean), Cond.fieldLink RX3 79 "Tenuredale$Thing" "sizeBehindMove" "I", Cond.methodLink RX3 35 yX5_size, Cond.instanceMethod yX5_size, Cond.selects RX5 yX5_size yX5_size, Cond.initialized RX5, Cond.code yX5_size cX5_size 1 (some .int), Cond.fieldLink RX5 17 "Tenuredale$Row" "size" "I", Cond.methodLink RX3 52 yX5_item, Cond.instanceMethod yX5_item, Cond.selects RX5 yX5_item yX5_item, Cond.code yX5_item cX5_item 2 (some (.object "Tenuredale$Thing")), Cond.fieldLink RX5 11 "Tenuredale$Row" "things" "[LTenuredale$Thing;", Cond.methodLink RX3 82 yX3_oldRoom, Cond.instanceMethod yX3_oldRoom, Cond.selects RX3 yX3_oldRoom yX3_oldRoom, Cond.code yX3_oldRoom cX3_oldRoom 1 (some .int)]
def wsX3_emptyYoung_r2 : List Cond := [Cond.fieldLink RX3 28 "Tenuredale$Places" "oldWords" "I", Cond.fieldLink RX3 24 "Tenuredale$Places" "oldTop" "I", Cond.methodLink RX3 85 yX3_moveToOld, Cond.instanceMethod yX3_moveToOld, Cond.selects RX3 yX3_moveToOld yX3_moveToOld, Cond.code yX3_moveToOld cX3_moveToOld 2 none, Cond.fieldLink RX3 18 "Tenuredale$Places" "old" "LTenuredale$Row;", Cond.methodLink RX3 68 yX7_moveTo, Cond.instanceMethod yX7_moveTo, Cond.selects RX7 yX7_moveTo yX7_moveTo, Cond.initialized RX7, Cond.code yX7_moveTo cX7_moveTo 3 none, Cond.fieldLink RX7 25 "Tenuredale$Thing" "sizeBehindMove" "I", Cond.fieldLink RX7 22 "Tenuredale$Thing" "size" "I", Cond.fieldLink RX7 31 "Tenuredale$Thing" "place" "I", Cond.fieldLink RX7 34 "Tenuredale$Thing" "address" "I", Cond.methodLink RX3 61 yX7_end, Cond.instanceMethod yX7_end, Cond.selects RX7 yX7_end yX7_end, Cond.code yX7_end cX7_end 1 (some .int), Cond.methodLink RX3 76 yX5_add, Cond.instanceMethod yX5_add, Cond.selects RX5 yX5_add yX5_add, Cond.code yX5_add cX5_add 2 none]
def wsX3_emptyYoung_r3 : List Cond := [Cond.methodLink RX3 39 yX5_words, Cond.instanceMethod yX5_words, Cond.selects RX5 yX5_words yX5_words, Cond.code yX5_words cX5_words 4 (some .int), Cond.fieldLink RX5 35 "Tenuredale$Thing" "size" "I", Cond.methodLink RX3 117 yX5_clear, Cond.instanceMethod yX5_clear, Cond.selects RX5 yX5_clear yX5_clear, Cond.code yX5_clear cX5_clear 1 none]
def wsX3_emptyYoung : List Cond := .code yX3_emptyYoung cX3_emptyYoung 3 (some .int) :: ((wsX3_emptyYoung_r1 ++ (wsX3_emptyYoung_r2 ++ wsX3_emptyYoung_r3)) ++ wsX30 ++ wsX70 ++ wsX50)
def wsX3_resizeOld : List Cond := .code yX3_resizeOld cX3_resizeOld 2 none :: ([.fieldLink RX3 24 "Tenuredale$Places" "oldTop" "I", .fieldLink RX3 28 "Tenuredale$Places" "oldWords" "I", .methodLink RX3 120 Lib.Math.min.name, .static Lib.Math.min.name, .initialized "java/lang/Math", .code Lib.Math.min.name Lib.Math.min.code 2 (some .int), .methodLink RX3 126 Lib.Math.max.name, .static Lib.Math.max.name, .code Lib.Math.max.name Lib.Math.max.code 2 (some .int)] ++ wsX30)
def wsX3_compact_r1 : List Cond := [Cond.fieldLink RX3 12 "Tenuredale$Places" "young" "LTenuredale$Row;", Cond.fieldLink RX3 18 "Tenuredale$Places" "old" "LTenuredale$Row;", Cond.fieldLink RX3 21 "Tenuredale$Places" "large" "LTenuredale$Row;", Cond.methodLink RX3 88 yX5_keepOnly, Cond.instanceMethod yX5_keepOnly, Cond.selects RX5 yX5_keepOnly yX5_keepOnly, Cond.initialized RX5, Cond.code yX5_keepOnly cX5_keepOnly 5 none, Cond.fieldLink RX5 17 "Tenuredale$Row" "size" "I", Cond.fieldLink RX5 11 "Tenuredale$Row" "things" "[LTenuredale$Thing;", Cond.fieldLink RX5 32 "Tenuredale$Thing" "place" "I", Cond.methodLink RX5 21 yX5_add, Cond.instanceMethod yX5_add, Cond.selects RX5 yX5_add yX5_add, Cond.code yX5_add cX5_add 2 none, Cond.methodLink RX3 99 yX3_slideOld, Cond.instanceMethod yX3_slideOld, Cond.selects RX3 yX3_slideOld yX3_slideOld, Cond.initialized RX3, Cond.code yX3_slideOld cX3_slideOld 4 (some .int), Cond.fieldLink RX3 24 "Tenuredale$Places" "oldTop" "I", Cond.fieldLink RX3 108 "Tenuredale$Thing" "isPinned" "Z", Cond.fieldLink RX3 56 "Tenuredale$Thing" "address" "I", Cond.fieldLink RX3 112 "Tenuredale$Thing" "size" "I"]
def wsX3_compact_r2 : List Cond := [Cond.methodLink RX3 35 yX5_size, Cond.instanceMethod yX5_size, Cond.selects RX5 yX5_size yX5_size, Cond.code yX5_size cX5_size 1 (some .int), Cond.methodLink RX3 52 yX5_item, Cond.instanceMethod yX5_item, Cond.selects RX5 yX5_item yX5_item, Cond.code yX5_item cX5_item 2 (some (.object "Tenuredale$Thing")), Cond.methodLink RX3 68 yX7_moveTo, Cond.instanceMethod yX7_moveTo, Cond.selects RX7 yX7_moveTo yX7_moveTo, Cond.initialized RX7, Cond.code yX7_moveTo cX7_moveTo 3 none, Cond.fieldLink RX7 25 "Tenuredale$Thing" "sizeBehindMove" "I", Cond.fieldLink RX7 22 "Tenuredale$Thing" "size" "I", Cond.fieldLink RX7 31 "Tenuredale$Thing" "place" "I", Cond.fieldLink RX7 34 "Tenuredale$Thing" "address" "I", Cond.methodLink RX3 61 yX7_end, Cond.instanceMethod yX7_end, Cond.selects RX7 yX7_end yX7_end, Cond.code yX7_end cX7_end 1 (some .int), Cond.methodLink RX3 102 yX3_emptyYoung, Cond.instanceMethod yX3_emptyYoung, Cond.selects RX3 yX3_emptyYoung yX3_emptyYoung]
def wsX3_compact_r3 : List Cond := [Cond.code yX3_emptyYoung cX3_emptyYoung 3 (some .int), Cond.fieldLink RX3 49 "Tenuredale$Places" "half" "I", Cond.fieldLink RX3 46 "Tenuredale$Places" "youngTop" "I", Cond.methodLink RX3 114 yX3_canOldTakeYoung, Cond.instanceMethod yX3_canOldTakeYoung, Cond.selects RX3 yX3_canOldTakeYoung yX3_canOldTakeYoung, Cond.code yX3_canOldTakeYoung cX3_canOldTakeYoung 4 (some .boolean), Cond.fieldLink RX3 79 "Tenuredale$Thing" "sizeBehindMove" "I", Cond.methodLink RX3 82 yX3_oldRoom, Cond.instanceMethod yX3_oldRoom, Cond.selects RX3 yX3_oldRoom yX3_oldRoom, Cond.code yX3_oldRoom cX3_oldRoom 1 (some .int), Cond.fieldLink RX3 28 "Tenuredale$Places" "oldWords" "I", Cond.methodLink RX3 85 yX3_moveToOld, Cond.instanceMethod yX3_moveToOld, Cond.selects RX3 yX3_moveToOld yX3_moveToOld, Cond.code yX3_moveToOld cX3_moveToOld 2 none, Cond.methodLink RX3 76 yX5_add, Cond.methodLink RX3 39 yX5_words, Cond.instanceMethod yX5_words, Cond.selects RX5 yX5_words yX5_words, Cond.code yX5_words cX5_words 4 (some .int), Cond.fieldLink RX5 35 "Tenuredale$Thing" "size" "I", Cond.methodLink RX3 117 yX5_clear]
def wsX3_compact_r4 : List Cond := [Cond.instanceMethod yX5_clear, Cond.selects RX5 yX5_clear yX5_clear, Cond.code yX5_clear cX5_clear 1 none, Cond.methodLink RX3 105 yX3_resizeOld, Cond.instanceMethod yX3_resizeOld, Cond.selects RX3 yX3_resizeOld yX3_resizeOld, Cond.code yX3_resizeOld cX3_resizeOld 2 none, Cond.methodLink RX3 120 Lib.Math.min.name, Cond.static Lib.Math.min.name, Cond.initialized "java/lang/Math", Cond.code Lib.Math.min.name Lib.Math.min.code 2 (some .int), Cond.methodLink RX3 126 Lib.Math.max.name, Cond.static Lib.Math.max.name, Cond.code Lib.Math.max.name Lib.Math.max.code 2 (some .int)]
def wsX3_compact : List Cond := .code yX3_compact cX3_compact 2 (some .int) :: ((wsX3_compact_r1 ++ (wsX3_compact_r2 ++ (wsX3_compact_r3 ++ wsX3_compact_r4))) ++ wsX30 ++ wsX50 ++ wsX70)
def wsX7_hasYoungField : List Cond := .code yX7_hasYoungField cX7_hasYoungField 3 (some .boolean) :: ([.fieldLink RX7 18 "Tenuredale$Thing" "fields" "[LTenuredale$Thing;", .fieldLink RX7 31 "Tenuredale$Thing" "place" "I"] ++ wsX70)
def wsX7_card : List Cond := .code yX7_card cX7_card 1 (some .int) :: ([.fieldLink RX7 34 "Tenuredale$Thing" "address" "I"] ++ wsX70)
def wsX3_soil : List Cond := .code yX3_soil cX3_soil 3 none :: ([.fieldLink RX3 31 "Tenuredale$Places" "dirty" "[Z", .methodLink RX3 133 yX7_card, .instanceMethod yX7_card, .selects RX7 yX7_card yX7_card, .initialized RX7, .code yX7_card cX7_card 1 (some .int), .fieldLink RX7 34 "Tenuredale$Thing" "address" "I"] ++ wsX30 ++ wsX70)
def wsX3_soilYoungHolders_r1 : List Cond := [Cond.methodLink RX3 35 yX5_size, Cond.instanceMethod yX5_size, Cond.selects RX5 yX5_size yX5_size, Cond.initialized RX5, Cond.code yX5_size cX5_size 1 (some .int), Cond.fieldLink RX5 17 "Tenuredale$Row" "size" "I", Cond.methodLink RX3 52 yX5_item, Cond.instanceMethod yX5_item, Cond.selects RX5 yX5_item yX5_item, Cond.code yX5_item cX5_item 2 (some (.object "Tenuredale$Thing")), Cond.fieldLink RX5 11 "Tenuredale$Row" "things" "[LTenuredale$Thing;", Cond.methodLink RX3 92 yX7_hasYoungField, Cond.instanceMethod yX7_hasYoungField, Cond.selects RX7 yX7_hasYoungField yX7_hasYoungField, Cond.initialized RX7, Cond.code yX7_hasYoungField cX7_hasYoungField 3 (some .boolean), Cond.fieldLink RX7 18 "Tenuredale$Thing" "fields" "[LTenuredale$Thing;", Cond.fieldLink RX7 31 "Tenuredale$Thing" "place" "I", Cond.methodLink RX3 96 yX3_soil, Cond.instanceMethod yX3_soil, Cond.selects RX3 yX3_soil yX3_soil, Cond.initialized RX3, Cond.code yX3_soil cX3_soil 3 none, Cond.fieldLink RX3 31 "Tenuredale$Places" "dirty" "[Z"]
def wsX3_soilYoungHolders_r2 : List Cond := [Cond.methodLink RX3 133 yX7_card, Cond.instanceMethod yX7_card, Cond.selects RX7 yX7_card yX7_card, Cond.code yX7_card cX7_card 1 (some .int), Cond.fieldLink RX7 34 "Tenuredale$Thing" "address" "I"]
def wsX3_soilYoungHolders : List Cond := .code yX3_soilYoungHolders cX3_soilYoungHolders 4 none :: ((wsX3_soilYoungHolders_r1 ++ wsX3_soilYoungHolders_r2) ++ wsX50 ++ wsX70 ++ wsX30)
def wsX3_renewCards_r1 : List Cond := [Cond.fieldLink RX3 31 "Tenuredale$Places" "dirty" "[Z", Cond.fieldLink RX3 18 "Tenuredale$Places" "old" "LTenuredale$Row;", Cond.fieldLink RX3 21 "Tenuredale$Places" "large" "LTenuredale$Row;", Cond.methodLink RX3 129 yX3_soilYoungHolders, Cond.instanceMethod yX3_soilYoungHolders, Cond.selects RX3 yX3_soilYoungHolders yX3_soilYoungHolders, Cond.initialized RX3, Cond.code yX3_soilYoungHolders cX3_soilYoungHolders 4 none, Cond.methodLink RX3 35 yX5_size, Cond.instanceMethod yX5_size, Cond.selects RX5 yX5_size yX5_size, Cond.initialized RX5, Cond.code yX5_size cX5_size 1 (some .int), Cond.fieldLink RX5 17 "Tenuredale$Row" "size" "I", Cond.methodLink RX3 52 yX5_item, Cond.instanceMethod yX5_item, Cond.selects RX5 yX5_item yX5_item, Cond.code yX5_item cX5_item 2 (some (.object "Tenuredale$Thing")), Cond.fieldLink RX5 11 "Tenuredale$Row" "things" "[LTenuredale$Thing;", Cond.methodLink RX3 92 yX7_hasYoungField, Cond.instanceMethod yX7_hasYoungField, Cond.selects RX7 yX7_hasYoungField yX7_hasYoungField, Cond.initialized RX7, Cond.code yX7_hasYoungField cX7_hasYoungField 3 (some .boolean)]
def wsX3_renewCards_r2 : List Cond := [Cond.fieldLink RX7 18 "Tenuredale$Thing" "fields" "[LTenuredale$Thing;", Cond.fieldLink RX7 31 "Tenuredale$Thing" "place" "I", Cond.methodLink RX3 96 yX3_soil, Cond.instanceMethod yX3_soil, Cond.selects RX3 yX3_soil yX3_soil, Cond.code yX3_soil cX3_soil 3 none, Cond.methodLink RX3 133 yX7_card, Cond.instanceMethod yX7_card, Cond.selects RX7 yX7_card yX7_card, Cond.code yX7_card cX7_card 1 (some .int), Cond.fieldLink RX7 34 "Tenuredale$Thing" "address" "I"]
def wsX3_renewCards : List Cond := .code yX3_renewCards cX3_renewCards 2 none :: ((wsX3_renewCards_r1 ++ wsX3_renewCards_r2) ++ wsX30 ++ wsX50 ++ wsX70)
def wsX1_end : List Cond := .code yX1_end cX1_end 1 none :: ([.fieldLink RX1 19 "Tenuredale$Marking" "isOn" "Z"] ++ wsX10)
def wsX3_words : List Cond := .code yX3_words cX3_words 1 (some .int) :: ([.fieldLink RX3 12 "Tenuredale$Places" "young" "LTenuredale$Row;", .fieldLink RX3 18 "Tenuredale$Places" "old" "LTenuredale$Row;", .fieldLink RX3 21 "Tenuredale$Places" "large" "LTenuredale$Row;", .methodLink RX3 39 yX5_words, .instanceMethod yX5_words, .selects RX5 yX5_words yX5_words, .initialized RX5, .code yX5_words cX5_words 4 (some .int), .fieldLink RX5 17 "Tenuredale$Row" "size" "I", .fieldLink RX5 11 "Tenuredale$Row" "things" "[LTenuredale$Thing;", .fieldLink RX5 35 "Tenuredale$Thing" "size" "I"] ++ wsX30 ++ wsX50 ++ wsX70)
def wsX6_noteTouched : List Cond := .code yX6_noteTouched cX6_noteTouched 2 none :: ([.fieldLink RX6 7 "Tenuredale$Tally" "latestTouched" "I", .fieldLink RX6 13 "Tenuredale$Tally" "mostTouched" "I", .methodLink RX6 16 Lib.Math.max.name, .static Lib.Math.max.name, .initialized "java/lang/Math", .code Lib.Math.max.name Lib.Math.max.code 2 (some .int)] ++ wsX60)
def wsX0_run_r1 : List Cond := [Cond.fieldLink RX0 31 "Tenuredale$FullCollector" "trace" "LTenuredale$Trace;", Cond.fieldLink RX0 19 "Tenuredale$FullCollector" "places" "LTenuredale$Places;", Cond.fieldLink RX0 27 "Tenuredale$FullCollector" "marking" "LTenuredale$Marking;", Cond.fieldLink RX0 23 "Tenuredale$FullCollector" "tally" "LTenuredale$Tally;", Cond.fieldLink RX0 74 "Tenuredale$Tally" "fulls" "I", Cond.methodLink RX0 35 yX8_begin, Cond.instanceMethod yX8_begin, Cond.selects RX8 yX8_begin yX8_begin, Cond.initialized RX8, Cond.code yX8_begin cX8_begin 5 none, Cond.fieldLink RX8 25 "Tenuredale$Trace" "isSoftKept" "Z", Cond.fieldLink RX8 29 "Tenuredale$Trace" "hollow" "LTenuredale$Thing;", Cond.fieldLink RX8 12 "Tenuredale$Trace" "marked" "LTenuredale$Row;", Cond.fieldLink RX8 36 "Tenuredale$Trace" "scanned" "I", Cond.fieldLink RX8 18 "Tenuredale$Trace" "all" "LTenuredale$Row;", Cond.fieldLink RX8 48 "Tenuredale$Thing" "isMarked" "Z", Cond.fieldLink RX8 53 "Tenuredale$Thing" "isCut" "Z", Cond.methodLink RX8 33 yX5_clear, Cond.instanceMethod yX5_clear, Cond.selects RX5 yX5_clear yX5_clear, Cond.initialized RX5, Cond.code yX5_clear cX5_clear 1 none, Cond.fieldLink RX5 17 "Tenuredale$Row" "size" "I", Cond.methodLink RX8 40 yX5_size]
def wsX0_run_r2 : List Cond := [Cond.instanceMethod yX5_size, Cond.selects RX5 yX5_size yX5_size, Cond.code yX5_size cX5_size 1 (some .int), Cond.methodLink RX8 44 yX5_item, Cond.instanceMethod yX5_item, Cond.selects RX5 yX5_item yX5_item, Cond.code yX5_item cX5_item 2 (some (.object "Tenuredale$Thing")), Cond.fieldLink RX5 11 "Tenuredale$Row" "things" "[LTenuredale$Thing;", Cond.methodLink RX0 41 yX8_markBlack, Cond.instanceMethod yX8_markBlack, Cond.selects RX8 yX8_markBlack yX8_markBlack, Cond.code yX8_markBlack cX8_markBlack 3 none, Cond.fieldLink RX8 71 "Tenuredale$Thing" "colour" "I", Cond.methodLink RX8 64 yX8_mark, Cond.instanceMethod yX8_mark, Cond.selects RX8 yX8_mark yX8_mark, Cond.code yX8_mark cX8_mark 2 none, Cond.methodLink RX8 74 yX5_add, Cond.instanceMethod yX5_add, Cond.selects RX5 yX5_add yX5_add, Cond.code yX5_add cX5_add 2 none, Cond.methodLink RX0 44 yX8_markRoots, Cond.instanceMethod yX8_markRoots, Cond.selects RX8 yX8_markRoots yX8_markRoots]
def wsX0_run_r3 : List Cond := [Cond.code yX8_markRoots cX8_markRoots 3 none, Cond.fieldLink RX8 21 "Tenuredale$Trace" "roots" "LTenuredale$Roots;", Cond.fieldLink RX8 68 "Tenuredale$Thing" "isPinned" "Z", Cond.methodLink RX8 56 yX4_count, Cond.instanceMethod yX4_count, Cond.selects RX4 yX4_count yX4_count, Cond.initialized RX4, Cond.code yX4_count cX4_count 1 (some .int), Cond.fieldLink RX4 27 "Tenuredale$Roots" "frames" "I", Cond.fieldLink RX4 12 "Tenuredale$Roots" "queue" "LTenuredale$Row;", Cond.methodLink RX4 39 yX5_size, Cond.methodLink RX8 61 yX4_root, Cond.instanceMethod yX4_root, Cond.selects RX4 yX4_root yX4_root, Cond.code yX4_root cX4_root 4 (some (.object "Tenuredale$Thing")), Cond.fieldLink RX4 20 "Tenuredale$Roots" "slots" "[LTenuredale$Thing;", Cond.methodLink RX4 43 yX4_readGlobal, Cond.instanceMethod yX4_readGlobal, Cond.selects RX4 yX4_readGlobal yX4_readGlobal, Cond.code yX4_readGlobal cX4_readGlobal 2 (some (.object "Tenuredale$Thing")), Cond.fieldLink RX4 24 "Tenuredale$Roots" "globals" "[LTenuredale$Thing;", Cond.methodLink RX4 47 yX5_item, Cond.methodLink RX0 47 yX8_spread, Cond.instanceMethod yX8_spread]
def wsX0_run_r4 : List Cond := [Cond.selects RX8 yX8_spread yX8_spread, Cond.code yX8_spread cX8_spread 2 none, Cond.methodLink RX8 77 yX8_markFieldsOf, Cond.instanceMethod yX8_markFieldsOf, Cond.selects RX8 yX8_markFieldsOf yX8_markFieldsOf, Cond.code yX8_markFieldsOf cX8_markFieldsOf 3 none, Cond.fieldLink RX8 84 "Tenuredale$Thing" "kind" "I", Cond.fieldLink RX8 91 "Tenuredale$Thing" "fields" "[LTenuredale$Thing;", Cond.methodLink RX8 87 yX8_firstStrongField, Cond.instanceMethod yX8_firstStrongField, Cond.selects RX8 yX8_firstStrongField yX8_firstStrongField, Cond.code yX8_firstStrongField cX8_firstStrongField 2 (some .int), Cond.static yX9_isLoose, Cond.initialized RX9, Cond.code yX9_isLoose cX9_isLoose 2 (some .boolean), Cond.methodLink RX8 80 yX8_markValues, Cond.instanceMethod yX8_markValues, Cond.selects RX8 yX8_markValues yX8_markValues, Cond.code yX8_markValues cX8_markValues 4 (some .boolean), Cond.methodLink RX8 99 yX8_hasMarked, Cond.static yX8_hasMarked, Cond.code yX8_hasMarked cX8_hasMarked 3 (some .boolean), Cond.methodLink RX8 103 yX7_read, Cond.instanceMethod yX7_read]
def wsX0_run_r5 : List Cond := [Cond.selects RX7 yX7_read yX7_read, Cond.initialized RX7, Cond.code yX7_read cX7_read 2 (some (.object "Tenuredale$Thing")), Cond.fieldLink RX7 18 "Tenuredale$Thing" "fields" "[LTenuredale$Thing;", Cond.methodLink RX0 50 yX0_dropReferences, Cond.instanceMethod yX0_dropReferences, Cond.selects RX0 yX0_dropReferences yX0_dropReferences, Cond.initialized RX0, Cond.code yX0_dropReferences cX0_dropReferences 4 none, Cond.fieldLink RX0 9 "Tenuredale$FullCollector" "all" "LTenuredale$Row;", Cond.fieldLink RX0 96 "Tenuredale$Thing" "kind" "I", Cond.fieldLink RX0 101 "Tenuredale$Thing" "isMarked" "Z", Cond.methodLink RX0 87 yX5_size, Cond.methodLink RX0 92 yX5_item, Cond.methodLink RX0 105 yX8_hasMarked, Cond.methodLink RX0 109 yX7_write, Cond.instanceMethod yX7_write, Cond.selects RX7 yX7_write yX7_write, Cond.code yX7_write cX7_write 3 none, Cond.methodLink RX0 54 yX0_raiseFinals, Cond.instanceMethod yX0_raiseFinals, Cond.selects RX0 yX0_raiseFinals yX0_raiseFinals, Cond.code yX0_raiseFinals cX0_raiseFinals 3 none, Cond.fieldLink RX0 117 "Tenuredale$Thing" "place" "I"]
def wsX0_run_r6 : List Cond := [Cond.fieldLink RX0 15 "Tenuredale$FullCollector" "roots" "LTenuredale$Roots;", Cond.fieldLink RX0 120 "Tenuredale$Roots" "queue" "LTenuredale$Row;", Cond.methodLink RX0 125 yX5_add, Cond.methodLink RX0 129 yX8_mark, Cond.methodLink RX0 57 yX0_sweep, Cond.instanceMethod yX0_sweep, Cond.selects RX0 yX0_sweep yX0_sweep, Cond.code yX0_sweep cX0_sweep 4 (some .int), Cond.methodLink RX0 132 yX7_vanish, Cond.instanceMethod yX7_vanish, Cond.selects RX7 yX7_vanish yX7_vanish, Cond.code yX7_vanish cX7_vanish 2 none, Cond.fieldLink RX7 31 "Tenuredale$Thing" "place" "I", Cond.fieldLink RX7 37 "Tenuredale$Thing" "colour" "I", Cond.methodLink RX0 61 yX3_compact, Cond.instanceMethod yX3_compact, Cond.selects RX3 yX3_compact yX3_compact, Cond.initialized RX3, Cond.code yX3_compact cX3_compact 2 (some .int), Cond.fieldLink RX3 12 "Tenuredale$Places" "young" "LTenuredale$Row;", Cond.fieldLink RX3 18 "Tenuredale$Places" "old" "LTenuredale$Row;", Cond.fieldLink RX3 21 "Tenuredale$Places" "large" "LTenuredale$Row;", Cond.methodLink RX3 88 yX5_keepOnly, Cond.instanceMethod yX5_keepOnly]
def wsX0_run_r7 : List Cond := [Cond.selects RX5 yX5_keepOnly yX5_keepOnly, Cond.code yX5_keepOnly cX5_keepOnly 5 none, Cond.fieldLink RX5 32 "Tenuredale$Thing" "place" "I", Cond.methodLink RX5 21 yX5_add, Cond.methodLink RX3 99 yX3_slideOld, Cond.instanceMethod yX3_slideOld, Cond.selects RX3 yX3_slideOld yX3_slideOld, Cond.code yX3_slideOld cX3_slideOld 4 (some .int), Cond.fieldLink RX3 24 "Tenuredale$Places" "oldTop" "I", Cond.fieldLink RX3 108 "Tenuredale$Thing" "isPinned" "Z", Cond.fieldLink RX3 56 "Tenuredale$Thing" "address" "I", Cond.fieldLink RX3 112 "Tenuredale$Thing" "size" "I", Cond.methodLink RX3 35 yX5_size, Cond.methodLink RX3 52 yX5_item, Cond.methodLink RX3 68 yX7_moveTo, Cond.instanceMethod yX7_moveTo, Cond.selects RX7 yX7_moveTo yX7_moveTo, Cond.code yX7_moveTo cX7_moveTo 3 none, Cond.fieldLink RX7 25 "Tenuredale$Thing" "sizeBehindMove" "I", Cond.fieldLink RX7 22 "Tenuredale$Thing" "size" "I", Cond.fieldLink RX7 34 "Tenuredale$Thing" "address" "I", Cond.methodLink RX3 61 yX7_end, Cond.instanceMethod yX7_end, Cond.selects RX7 yX7_end yX7_end]
def wsX0_run_r8 : List Cond := [Cond.code yX7_end cX7_end 1 (some .int), Cond.methodLink RX3 102 yX3_emptyYoung, Cond.instanceMethod yX3_emptyYoung, Cond.selects RX3 yX3_emptyYoung yX3_emptyYoung, Cond.code yX3_emptyYoung cX3_emptyYoung 3 (some .int), Cond.fieldLink RX3 49 "Tenuredale$Places" "half" "I", Cond.fieldLink RX3 46 "Tenuredale$Places" "youngTop" "I", Cond.methodLink RX3 114 yX3_canOldTakeYoung, Cond.instanceMethod yX3_canOldTakeYoung, Cond.selects RX3 yX3_canOldTakeYoung yX3_canOldTakeYoung, Cond.code yX3_canOldTakeYoung cX3_canOldTakeYoung 4 (some .boolean), Cond.fieldLink RX3 79 "Tenuredale$Thing" "sizeBehindMove" "I", Cond.methodLink RX3 82 yX3_oldRoom, Cond.instanceMethod yX3_oldRoom, Cond.selects RX3 yX3_oldRoom yX3_oldRoom, Cond.code yX3_oldRoom cX3_oldRoom 1 (some .int), Cond.fieldLink RX3 28 "Tenuredale$Places" "oldWords" "I", Cond.methodLink RX3 85 yX3_moveToOld, Cond.instanceMethod yX3_moveToOld, Cond.selects RX3 yX3_moveToOld yX3_moveToOld, Cond.code yX3_moveToOld cX3_moveToOld 2 none, Cond.methodLink RX3 76 yX5_add, Cond.methodLink RX3 39 yX5_words, Cond.instanceMethod yX5_words]
def wsX0_run_r9 : List Cond := [Cond.selects RX5 yX5_words yX5_words, Cond.code yX5_words cX5_words 4 (some .int), Cond.fieldLink RX5 35 "Tenuredale$Thing" "size" "I", Cond.methodLink RX3 117 yX5_clear, Cond.methodLink RX3 105 yX3_resizeOld, Cond.instanceMethod yX3_resizeOld, Cond.selects RX3 yX3_resizeOld yX3_resizeOld, Cond.code yX3_resizeOld cX3_resizeOld 2 none, Cond.methodLink RX3 120 Lib.Math.min.name, Cond.static Lib.Math.min.name, Cond.initialized "java/lang/Math", Cond.code Lib.Math.min.name Lib.Math.min.code 2 (some .int), Cond.methodLink RX3 126 Lib.Math.max.name, Cond.static Lib.Math.max.name, Cond.code Lib.Math.max.name Lib.Math.max.code 2 (some .int), Cond.methodLink RX0 66 yX3_renewCards, Cond.instanceMethod yX3_renewCards, Cond.selects RX3 yX3_renewCards yX3_renewCards, Cond.code yX3_renewCards cX3_renewCards 2 none, Cond.fieldLink RX3 31 "Tenuredale$Places" "dirty" "[Z", Cond.methodLink RX3 129 yX3_soilYoungHolders, Cond.instanceMethod yX3_soilYoungHolders, Cond.selects RX3 yX3_soilYoungHolders yX3_soilYoungHolders, Cond.code yX3_soilYoungHolders cX3_soilYoungHolders 4 none]
def wsX0_run_r10 : List Cond := [Cond.methodLink RX3 92 yX7_hasYoungField, Cond.instanceMethod yX7_hasYoungField, Cond.selects RX7 yX7_hasYoungField yX7_hasYoungField, Cond.code yX7_hasYoungField cX7_hasYoungField 3 (some .boolean), Cond.methodLink RX3 96 yX3_soil, Cond.instanceMethod yX3_soil, Cond.selects RX3 yX3_soil yX3_soil, Cond.code yX3_soil cX3_soil 3 none, Cond.methodLink RX3 133 yX7_card, Cond.instanceMethod yX7_card, Cond.selects RX7 yX7_card yX7_card, Cond.code yX7_card cX7_card 1 (some .int), Cond.methodLink RX0 69 yX1_end, Cond.instanceMethod yX1_end, Cond.selects RX1 yX1_end yX1_end, Cond.initialized RX1, Cond.code yX1_end cX1_end 1 none, Cond.fieldLink RX1 19 "Tenuredale$Marking" "isOn" "Z", Cond.methodLink RX0 80 yX3_words, Cond.instanceMethod yX3_words, Cond.selects RX3 yX3_words yX3_words, Cond.code yX3_words cX3_words 1 (some .int), Cond.methodLink RX0 83 yX6_noteTouched, Cond.instanceMethod yX6_noteTouched]
def wsX0_run_r11 : List Cond := [Cond.selects RX6 yX6_noteTouched yX6_noteTouched, Cond.initialized RX6, Cond.code yX6_noteTouched cX6_noteTouched 2 none, Cond.fieldLink RX6 7 "Tenuredale$Tally" "latestTouched" "I", Cond.fieldLink RX6 13 "Tenuredale$Tally" "mostTouched" "I", Cond.methodLink RX6 16 Lib.Math.max.name]
def wsX0_run : List Cond := .code yX0_run cX0_run 5 (some .int) :: ((wsX0_run_r1 ++ (wsX0_run_r2 ++ (wsX0_run_r3 ++ (wsX0_run_r4 ++ (wsX0_run_r5 ++ (wsX0_run_r6 ++ (wsX0_run_r7 ++ (wsX0_run_r8 ++ (wsX0_run_r9 ++ (wsX0_run_r10 ++ wsX0_run_r11)))))))))) ++ wsX00 ++ wsX60 ++ wsX80 ++ wsX70 ++ wsX50 ++ wsX40 ++ wsX30 ++ wsX10)
def wsX1_init : List Cond := .code yX1_init cX1_init 3 none :: ([.methodLink RX1 3 objectInit, .instanceMethod objectInit, .code objectInit ⟨#[0xb1]⟩ 1 none, .fieldLink RX1 9 "Tenuredale$Marking" "all" "LTenuredale$Row;", .fieldLink RX1 15 "Tenuredale$Marking" "roots" "LTenuredale$Roots;"] ++ wsX10)
def wsX1_isOn : List Cond := .code yX1_isOn cX1_isOn 1 (some .boolean) :: ([.fieldLink RX1 19 "Tenuredale$Marking" "isOn" "Z"] ++ wsX10)
def wsX1_grey : List Cond := .code yX1_grey cX1_grey 1 none :: ([.fieldLink RX1 33 "Tenuredale$Thing" "colour" "I"] ++ wsX70)
def wsX1_greyRoots_r1 : List Cond := [Cond.fieldLink RX1 15 "Tenuredale$Marking" "roots" "LTenuredale$Roots;", Cond.fieldLink RX1 9 "Tenuredale$Marking" "all" "LTenuredale$Row;", Cond.fieldLink RX1 54 "Tenuredale$Thing" "isPinned" "Z", Cond.methodLink RX1 42 yX4_count, Cond.instanceMethod yX4_count, Cond.selects RX4 yX4_count yX4_count, Cond.initialized RX4, Cond.code yX4_count cX4_count 1 (some .int), Cond.fieldLink RX4 27 "Tenuredale$Roots" "frames" "I", Cond.fieldLink RX4 12 "Tenuredale$Roots" "queue" "LTenuredale$Row;", Cond.methodLink RX4 39 yX5_size, Cond.instanceMethod yX5_size, Cond.selects RX5 yX5_size yX5_size, Cond.initialized RX5, Cond.code yX5_size cX5_size 1 (some .int), Cond.fieldLink RX5 17 "Tenuredale$Row" "size" "I", Cond.methodLink RX1 47 yX4_root, Cond.instanceMethod yX4_root, Cond.selects RX4 yX4_root yX4_root, Cond.code yX4_root cX4_root 4 (some (.object "Tenuredale$Thing")), Cond.fieldLink RX4 20 "Tenuredale$Roots" "slots" "[LTenuredale$Thing;", Cond.methodLink RX4 43 yX4_readGlobal, Cond.instanceMethod yX4_readGlobal, Cond.selects RX4 yX4_readGlobal yX4_readGlobal]
def wsX1_greyRoots_r2 : List Cond := [Cond.code yX4_readGlobal cX4_readGlobal 2 (some (.object "Tenuredale$Thing")), Cond.fieldLink RX4 24 "Tenuredale$Roots" "globals" "[LTenuredale$Thing;", Cond.methodLink RX4 47 yX5_item, Cond.instanceMethod yX5_item, Cond.selects RX5 yX5_item yX5_item, Cond.code yX5_item cX5_item 2 (some (.object "Tenuredale$Thing")), Cond.fieldLink RX5 11 "Tenuredale$Row" "things" "[LTenuredale$Thing;", Cond.methodLink RX1 50 yX1_grey, Cond.static yX1_grey, Cond.initialized RX1, Cond.code yX1_grey cX1_grey 1 none, Cond.fieldLink RX1 33 "Tenuredale$Thing" "colour" "I", Cond.methodLink RX1 23 yX5_size, Cond.methodLink RX1 29 yX5_item]
def wsX1_greyRoots : List Cond := .code yX1_greyRoots cX1_greyRoots 3 none :: ((wsX1_greyRoots_r1 ++ wsX1_greyRoots_r2) ++ wsX10 ++ wsX70 ++ wsX40 ++ wsX50)
def wsX1_begin_r1 : List Cond := [Cond.fieldLink RX1 9 "Tenuredale$Marking" "all" "LTenuredale$Row;", Cond.fieldLink RX1 33 "Tenuredale$Thing" "colour" "I", Cond.fieldLink RX1 19 "Tenuredale$Marking" "isOn" "Z", Cond.methodLink RX1 23 yX5_size, Cond.instanceMethod yX5_size, Cond.selects RX5 yX5_size yX5_size, Cond.initialized RX5, Cond.code yX5_size cX5_size 1 (some .int), Cond.fieldLink RX5 17 "Tenuredale$Row" "size" "I", Cond.methodLink RX1 29 yX5_item, Cond.instanceMethod yX5_item, Cond.selects RX5 yX5_item yX5_item, Cond.code yX5_item cX5_item 2 (some (.object "Tenuredale$Thing")), Cond.fieldLink RX5 11 "Tenuredale$Row" "things" "[LTenuredale$Thing;", Cond.methodLink RX1 39 yX1_greyRoots, Cond.instanceMethod yX1_greyRoots, Cond.selects RX1 yX1_greyRoots yX1_greyRoots, Cond.initialized RX1, Cond.code yX1_greyRoots cX1_greyRoots 3 none, Cond.fieldLink RX1 15 "Tenuredale$Marking" "roots" "LTenuredale$Roots;", Cond.fieldLink RX1 54 "Tenuredale$Thing" "isPinned" "Z", Cond.methodLink RX1 42 yX4_count, Cond.instanceMethod yX4_count, Cond.selects RX4 yX4_count yX4_count]
def wsX1_begin_r2 : List Cond := [Cond.initialized RX4, Cond.code yX4_count cX4_count 1 (some .int), Cond.fieldLink RX4 27 "Tenuredale$Roots" "frames" "I", Cond.fieldLink RX4 12 "Tenuredale$Roots" "queue" "LTenuredale$Row;", Cond.methodLink RX4 39 yX5_size, Cond.methodLink RX1 47 yX4_root, Cond.instanceMethod yX4_root, Cond.selects RX4 yX4_root yX4_root, Cond.code yX4_root cX4_root 4 (some (.object "Tenuredale$Thing")), Cond.fieldLink RX4 20 "Tenuredale$Roots" "slots" "[LTenuredale$Thing;", Cond.methodLink RX4 43 yX4_readGlobal, Cond.instanceMethod yX4_readGlobal, Cond.selects RX4 yX4_readGlobal yX4_readGlobal, Cond.code yX4_readGlobal cX4_readGlobal 2 (some (.object "Tenuredale$Thing")), Cond.fieldLink RX4 24 "Tenuredale$Roots" "globals" "[LTenuredale$Thing;", Cond.methodLink RX4 47 yX5_item, Cond.methodLink RX1 50 yX1_grey, Cond.static yX1_grey, Cond.code yX1_grey cX1_grey 1 none]
def wsX1_begin : List Cond := .code yX1_begin cX1_begin 3 none :: ((wsX1_begin_r1 ++ wsX1_begin_r2) ++ wsX10 ++ wsX70 ++ wsX50 ++ wsX40)
def wsX1_greys : List Cond := .code yX1_greys cX1_greys 4 (some .int) :: ([.fieldLink RX1 19 "Tenuredale$Marking" "isOn" "Z", .fieldLink RX1 9 "Tenuredale$Marking" "all" "LTenuredale$Row;", .fieldLink RX1 33 "Tenuredale$Thing" "colour" "I", .methodLink RX1 23 yX5_size, .instanceMethod yX5_size, .selects RX5 yX5_size yX5_size, .initialized RX5, .code yX5_size cX5_size 1 (some .int), .fieldLink RX5 17 "Tenuredale$Row" "size" "I", .methodLink RX1 29 yX5_item, .instanceMethod yX5_item, .selects RX5 yX5_item yX5_item, .code yX5_item cX5_item 2 (some (.object "Tenuredale$Thing")), .fieldLink RX5 11 "Tenuredale$Row" "things" "[LTenuredale$Thing;"] ++ wsX10 ++ wsX70 ++ wsX50)
def wsX1_blackenNext : List Cond := .code yX1_blackenNext cX1_blackenNext 4 (some (.object "Tenuredale$Thing")) :: ([.fieldLink RX1 9 "Tenuredale$Marking" "all" "LTenuredale$Row;", .fieldLink RX1 33 "Tenuredale$Thing" "colour" "I", .fieldLink RX1 57 "Tenuredale$Thing" "kind" "I", .fieldLink RX1 60 "Tenuredale$Thing" "fields" "[LTenuredale$Thing;", .methodLink RX1 23 yX5_size, .instanceMethod yX5_size, .selects RX5 yX5_size yX5_size, .initialized RX5, .code yX5_size cX5_size 1 (some .int), .fieldLink RX5 17 "Tenuredale$Row" "size" "I", .methodLink RX1 29 yX5_item, .instanceMethod yX5_item, .selects RX5 yX5_item yX5_item, .code yX5_item cX5_item 2 (some (.object "Tenuredale$Thing")), .fieldLink RX5 11 "Tenuredale$Row" "things" "[LTenuredale$Thing;", .methodLink RX1 50 yX1_grey, .static yX1_grey, .initialized RX1, .code yX1_grey cX1_grey 1 none] ++ wsX10 ++ wsX70 ++ wsX50)
def wsX1_blackenAll_r1 : List Cond := [Cond.methodLink RX1 39 yX1_greyRoots, Cond.instanceMethod yX1_greyRoots, Cond.selects RX1 yX1_greyRoots yX1_greyRoots, Cond.initialized RX1, Cond.code yX1_greyRoots cX1_greyRoots 3 none, Cond.fieldLink RX1 15 "Tenuredale$Marking" "roots" "LTenuredale$Roots;", Cond.fieldLink RX1 9 "Tenuredale$Marking" "all" "LTenuredale$Row;", Cond.fieldLink RX1 54 "Tenuredale$Thing" "isPinned" "Z", Cond.methodLink RX1 42 yX4_count, Cond.instanceMethod yX4_count, Cond.selects RX4 yX4_count yX4_count, Cond.initialized RX4, Cond.code yX4_count cX4_count 1 (some .int), Cond.fieldLink RX4 27 "Tenuredale$Roots" "frames" "I", Cond.fieldLink RX4 12 "Tenuredale$Roots" "queue" "LTenuredale$Row;", Cond.methodLink RX4 39 yX5_size, Cond.instanceMethod yX5_size, Cond.selects RX5 yX5_size yX5_size, Cond.initialized RX5, Cond.code yX5_size cX5_size 1 (some .int), Cond.fieldLink RX5 17 "Tenuredale$Row" "size" "I", Cond.methodLink RX1 47 yX4_root, Cond.instanceMethod yX4_root, Cond.selects RX4 yX4_root yX4_root]
def wsX1_blackenAll_r2 : List Cond := [Cond.code yX4_root cX4_root 4 (some (.object "Tenuredale$Thing")), Cond.fieldLink RX4 20 "Tenuredale$Roots" "slots" "[LTenuredale$Thing;", Cond.methodLink RX4 43 yX4_readGlobal, Cond.instanceMethod yX4_readGlobal, Cond.selects RX4 yX4_readGlobal yX4_readGlobal, Cond.code yX4_readGlobal cX4_readGlobal 2 (some (.object "Tenuredale$Thing")), Cond.fieldLink RX4 24 "Tenuredale$Roots" "globals" "[LTenuredale$Thing;", Cond.methodLink RX4 47 yX5_item, Cond.instanceMethod yX5_item, Cond.selects RX5 yX5_item yX5_item, Cond.code yX5_item cX5_item 2 (some (.object "Tenuredale$Thing")), Cond.fieldLink RX5 11 "Tenuredale$Row" "things" "[LTenuredale$Thing;", Cond.methodLink RX1 50 yX1_grey, Cond.static yX1_grey, Cond.code yX1_grey cX1_grey 1 none, Cond.fieldLink RX1 33 "Tenuredale$Thing" "colour" "I", Cond.methodLink RX1 23 yX5_size, Cond.methodLink RX1 29 yX5_item, Cond.methodLink RX1 64 yX1_blackenNext, Cond.instanceMethod yX1_blackenNext, Cond.selects RX1 yX1_blackenNext yX1_blackenNext, Cond.code yX1_blackenNext cX1_blackenNext 4 (some (.object "Tenuredale$Thing")), Cond.fieldLink RX1 57 "Tenuredale$Thing" "kind" "I", Cond.fieldLink RX1 60 "Tenuredale$Thing" "fields" "[LTenuredale$Thing;"]
def wsX1_blackenAll : List Cond := .code yX1_blackenAll cX1_blackenAll 2 none :: ((wsX1_blackenAll_r1 ++ wsX1_blackenAll_r2) ++ wsX10 ++ wsX70 ++ wsX40 ++ wsX50)
def wsX1_noteMade : List Cond := .code yX1_noteMade cX1_noteMade 2 none :: ([.fieldLink RX1 19 "Tenuredale$Marking" "isOn" "Z", .fieldLink RX1 33 "Tenuredale$Thing" "colour" "I"] ++ wsX10 ++ wsX70)
def wsX1_noteWritten : List Cond := .code yX1_noteWritten cX1_noteWritten 3 none :: ([.fieldLink RX1 19 "Tenuredale$Marking" "isOn" "Z", .fieldLink RX1 33 "Tenuredale$Thing" "colour" "I", .methodLink RX1 50 yX1_grey, .static yX1_grey, .initialized RX1, .code yX1_grey cX1_grey 1 none] ++ wsX10 ++ wsX70)
def wsX5_init : List Cond := .code yX5_init cX5_init 1 none :: ([.methodLink RX5 3 objectInit, .instanceMethod objectInit, .code objectInit ⟨#[0xb1]⟩ 1 none, .classLink RX5 9 RX7, .fieldLink RX5 11 "Tenuredale$Row" "things" "[LTenuredale$Thing;"] ++ wsX50)
def wsX2_init : List Cond := .code yX2_init cX2_init 5 none :: ([.methodLink RX2 3 objectInit, .instanceMethod objectInit, .code objectInit ⟨#[0xb1]⟩ 1 none, .fieldLink RX2 9 "Tenuredale$MinorCollector" "tenureAge" "I", .classLink RX2 15 RX5, .instantiable RX5 2, .initialized RX5, .fieldLink RX2 18 "Tenuredale$MinorCollector" "sources" "LTenuredale$Row;", .fieldLink RX2 22 "Tenuredale$MinorCollector" "all" "LTenuredale$Row;", .fieldLink RX2 25 "Tenuredale$MinorCollector" "roots" "LTenuredale$Roots;", .fieldLink RX2 29 "Tenuredale$MinorCollector" "places" "LTenuredale$Places;", .fieldLink RX2 33 "Tenuredale$MinorCollector" "tally" "LTenuredale$Tally;", .instanceMethod yX5_init, .code yX5_init cX5_init 1 none, .methodLink RX5 3 objectInit, .classLink RX5 9 RX7, .fieldLink RX5 11 "Tenuredale$Row" "things" "[LTenuredale$Thing;"] ++ wsX20 ++ wsX50)
def wsX3_isCardDirty : List Cond := .code yX3_isCardDirty cX3_isCardDirty 2 (some .boolean) :: ([.fieldLink RX3 31 "Tenuredale$Places" "dirty" "[Z"] ++ wsX30)
def wsX2_addDirty_r1 : List Cond := [Cond.fieldLink RX2 29 "Tenuredale$MinorCollector" "places" "LTenuredale$Places;", Cond.fieldLink RX2 18 "Tenuredale$MinorCollector" "sources" "LTenuredale$Row;", Cond.methodLink RX2 98 yX5_size, Cond.instanceMethod yX5_size, Cond.selects RX5 yX5_size yX5_size, Cond.initialized RX5, Cond.code yX5_size cX5_size 1 (some .int), Cond.fieldLink RX5 17 "Tenuredale$Row" "size" "I", Cond.methodLink RX2 101 yX5_item, Cond.instanceMethod yX5_item, Cond.selects RX5 yX5_item yX5_item, Cond.code yX5_item cX5_item 2 (some (.object "Tenuredale$Thing")), Cond.fieldLink RX5 11 "Tenuredale$Row" "things" "[LTenuredale$Thing;", Cond.methodLink RX2 120 yX7_card, Cond.instanceMethod yX7_card, Cond.selects RX7 yX7_card yX7_card, Cond.initialized RX7, Cond.code yX7_card cX7_card 1 (some .int), Cond.fieldLink RX7 34 "Tenuredale$Thing" "address" "I", Cond.methodLink RX2 123 yX3_isCardDirty, Cond.instanceMethod yX3_isCardDirty, Cond.selects RX3 yX3_isCardDirty yX3_isCardDirty, Cond.initialized RX3, Cond.code yX3_isCardDirty cX3_isCardDirty 2 (some .boolean)]
def wsX2_addDirty_r2 : List Cond := [Cond.fieldLink RX3 31 "Tenuredale$Places" "dirty" "[Z", Cond.methodLink RX2 127 yX5_add, Cond.instanceMethod yX5_add, Cond.selects RX5 yX5_add yX5_add, Cond.code yX5_add cX5_add 2 none]
def wsX2_addDirty : List Cond := .code yX2_addDirty cX2_addDirty 4 none :: ((wsX2_addDirty_r1 ++ wsX2_addDirty_r2) ++ wsX20 ++ wsX50 ++ wsX70 ++ wsX30)
def wsX2_begin_r1 : List Cond := [Cond.fieldLink RX2 18 "Tenuredale$MinorCollector" "sources" "LTenuredale$Row;", Cond.fieldLink RX2 86 "Tenuredale$MinorCollector" "followed" "I", Cond.fieldLink RX2 29 "Tenuredale$MinorCollector" "places" "LTenuredale$Places;", Cond.fieldLink RX2 89 "Tenuredale$Places" "half" "I", Cond.fieldLink RX2 92 "Tenuredale$MinorCollector" "otherHalf" "I", Cond.fieldLink RX2 95 "Tenuredale$MinorCollector" "otherTop" "I", Cond.fieldLink RX2 22 "Tenuredale$MinorCollector" "all" "LTenuredale$Row;", Cond.fieldLink RX2 104 "Tenuredale$Thing" "isMoved" "Z", Cond.fieldLink RX2 110 "Tenuredale$Places" "old" "LTenuredale$Row;", Cond.fieldLink RX2 117 "Tenuredale$Places" "large" "LTenuredale$Row;", Cond.methodLink RX2 83 yX5_clear, Cond.instanceMethod yX5_clear, Cond.selects RX5 yX5_clear yX5_clear, Cond.initialized RX5, Cond.code yX5_clear cX5_clear 1 none, Cond.fieldLink RX5 17 "Tenuredale$Row" "size" "I", Cond.methodLink RX2 98 yX5_size, Cond.instanceMethod yX5_size, Cond.selects RX5 yX5_size yX5_size, Cond.code yX5_size cX5_size 1 (some .int), Cond.methodLink RX2 101 yX5_item, Cond.instanceMethod yX5_item, Cond.selects RX5 yX5_item yX5_item, Cond.code yX5_item cX5_item 2 (some (.object "Tenuredale$Thing"))]
def wsX2_begin_r2 : List Cond := [Cond.fieldLink RX5 11 "Tenuredale$Row" "things" "[LTenuredale$Thing;", Cond.methodLink RX2 113 yX2_addDirty, Cond.instanceMethod yX2_addDirty, Cond.selects RX2 yX2_addDirty yX2_addDirty, Cond.initialized RX2, Cond.code yX2_addDirty cX2_addDirty 4 none, Cond.methodLink RX2 120 yX7_card, Cond.instanceMethod yX7_card, Cond.selects RX7 yX7_card yX7_card, Cond.initialized RX7, Cond.code yX7_card cX7_card 1 (some .int), Cond.fieldLink RX7 34 "Tenuredale$Thing" "address" "I", Cond.methodLink RX2 123 yX3_isCardDirty, Cond.instanceMethod yX3_isCardDirty, Cond.selects RX3 yX3_isCardDirty yX3_isCardDirty, Cond.initialized RX3, Cond.code yX3_isCardDirty cX3_isCardDirty 2 (some .boolean), Cond.fieldLink RX3 31 "Tenuredale$Places" "dirty" "[Z", Cond.methodLink RX2 127 yX5_add, Cond.instanceMethod yX5_add, Cond.selects RX5 yX5_add yX5_add, Cond.code yX5_add cX5_add 2 none]
def wsX2_begin : List Cond := .code yX2_begin cX2_begin 3 none :: ((wsX2_begin_r1 ++ wsX2_begin_r2) ++ wsX20 ++ wsX30 ++ wsX70 ++ wsX50)
def wsX2_isLeft : List Cond := .code yX2_isLeft cX2_isLeft 1 (some .boolean) :: ([.fieldLink RX2 130 "Tenuredale$Thing" "place" "I", .fieldLink RX2 104 "Tenuredale$Thing" "isMoved" "Z"] ++ wsX70)
def wsX2_move_r1 : List Cond := [Cond.fieldLink RX2 104 "Tenuredale$Thing" "isMoved" "Z", Cond.fieldLink RX2 137 "Tenuredale$Thing" "age" "I", Cond.fieldLink RX2 95 "Tenuredale$MinorCollector" "otherTop" "I", Cond.fieldLink RX2 140 "Tenuredale$Thing" "sizeBehindMove" "I", Cond.fieldLink RX2 92 "Tenuredale$MinorCollector" "otherHalf" "I", Cond.fieldLink RX2 9 "Tenuredale$MinorCollector" "tenureAge" "I", Cond.fieldLink RX2 29 "Tenuredale$MinorCollector" "places" "LTenuredale$Places;", Cond.fieldLink RX2 18 "Tenuredale$MinorCollector" "sources" "LTenuredale$Row;", Cond.methodLink RX2 133 yX2_isLeft, Cond.static yX2_isLeft, Cond.initialized RX2, Cond.code yX2_isLeft cX2_isLeft 1 (some .boolean), Cond.fieldLink RX2 130 "Tenuredale$Thing" "place" "I", Cond.methodLink RX2 143 yX3_moveToOld, Cond.instanceMethod yX3_moveToOld, Cond.selects RX3 yX3_moveToOld yX3_moveToOld, Cond.initialized RX3, Cond.code yX3_moveToOld cX3_moveToOld 2 none, Cond.fieldLink RX3 24 "Tenuredale$Places" "oldTop" "I", Cond.fieldLink RX3 18 "Tenuredale$Places" "old" "LTenuredale$Row;", Cond.methodLink RX3 68 yX7_moveTo, Cond.instanceMethod yX7_moveTo, Cond.selects RX7 yX7_moveTo yX7_moveTo, Cond.initialized RX7]
def wsX2_move_r2 : List Cond := [Cond.code yX7_moveTo cX7_moveTo 3 none, Cond.fieldLink RX7 25 "Tenuredale$Thing" "sizeBehindMove" "I", Cond.fieldLink RX7 22 "Tenuredale$Thing" "size" "I", Cond.fieldLink RX7 31 "Tenuredale$Thing" "place" "I", Cond.fieldLink RX7 34 "Tenuredale$Thing" "address" "I", Cond.methodLink RX3 61 yX7_end, Cond.instanceMethod yX7_end, Cond.selects RX7 yX7_end yX7_end, Cond.code yX7_end cX7_end 1 (some .int), Cond.methodLink RX3 76 yX5_add, Cond.instanceMethod yX5_add, Cond.selects RX5 yX5_add yX5_add, Cond.initialized RX5, Cond.code yX5_add cX5_add 2 none, Cond.fieldLink RX5 17 "Tenuredale$Row" "size" "I", Cond.fieldLink RX5 11 "Tenuredale$Row" "things" "[LTenuredale$Thing;", Cond.methodLink RX2 146 yX7_moveTo, Cond.methodLink RX2 150 yX7_end, Cond.methodLink RX2 127 yX5_add]
def wsX2_move : List Cond := .code yX2_move cX2_move 3 none :: ((wsX2_move_r1 ++ wsX2_move_r2) ++ wsX70 ++ wsX20 ++ wsX30 ++ wsX50)
def wsX2_follow_r1 : List Cond := [Cond.fieldLink RX2 86 "Tenuredale$MinorCollector" "followed" "I", Cond.fieldLink RX2 18 "Tenuredale$MinorCollector" "sources" "LTenuredale$Row;", Cond.fieldLink RX2 153 "Tenuredale$Thing" "kind" "I", Cond.fieldLink RX2 156 "Tenuredale$Thing" "fields" "[LTenuredale$Thing;", Cond.methodLink RX2 98 yX5_size, Cond.instanceMethod yX5_size, Cond.selects RX5 yX5_size yX5_size, Cond.initialized RX5, Cond.code yX5_size cX5_size 1 (some .int), Cond.fieldLink RX5 17 "Tenuredale$Row" "size" "I", Cond.methodLink RX2 101 yX5_item, Cond.instanceMethod yX5_item, Cond.selects RX5 yX5_item yX5_item, Cond.code yX5_item cX5_item 2 (some (.object "Tenuredale$Thing")), Cond.fieldLink RX5 11 "Tenuredale$Row" "things" "[LTenuredale$Thing;", Cond.methodLink RX2 50 yX2_move, Cond.instanceMethod yX2_move, Cond.selects RX2 yX2_move yX2_move, Cond.initialized RX2, Cond.code yX2_move cX2_move 3 none, Cond.fieldLink RX2 104 "Tenuredale$Thing" "isMoved" "Z", Cond.fieldLink RX2 137 "Tenuredale$Thing" "age" "I", Cond.fieldLink RX2 95 "Tenuredale$MinorCollector" "otherTop" "I", Cond.fieldLink RX2 140 "Tenuredale$Thing" "sizeBehindMove" "I"]
def wsX2_follow_r2 : List Cond := [Cond.fieldLink RX2 92 "Tenuredale$MinorCollector" "otherHalf" "I", Cond.fieldLink RX2 9 "Tenuredale$MinorCollector" "tenureAge" "I", Cond.fieldLink RX2 29 "Tenuredale$MinorCollector" "places" "LTenuredale$Places;", Cond.methodLink RX2 133 yX2_isLeft, Cond.static yX2_isLeft, Cond.code yX2_isLeft cX2_isLeft 1 (some .boolean), Cond.fieldLink RX2 130 "Tenuredale$Thing" "place" "I", Cond.methodLink RX2 143 yX3_moveToOld, Cond.instanceMethod yX3_moveToOld, Cond.selects RX3 yX3_moveToOld yX3_moveToOld, Cond.initialized RX3, Cond.code yX3_moveToOld cX3_moveToOld 2 none, Cond.fieldLink RX3 24 "Tenuredale$Places" "oldTop" "I", Cond.fieldLink RX3 18 "Tenuredale$Places" "old" "LTenuredale$Row;", Cond.methodLink RX3 68 yX7_moveTo, Cond.instanceMethod yX7_moveTo, Cond.selects RX7 yX7_moveTo yX7_moveTo, Cond.initialized RX7, Cond.code yX7_moveTo cX7_moveTo 3 none, Cond.fieldLink RX7 25 "Tenuredale$Thing" "sizeBehindMove" "I", Cond.fieldLink RX7 22 "Tenuredale$Thing" "size" "I", Cond.fieldLink RX7 31 "Tenuredale$Thing" "place" "I", Cond.fieldLink RX7 34 "Tenuredale$Thing" "address" "I", Cond.methodLink RX3 61 yX7_end]
def wsX2_follow_r3 : List Cond := [Cond.instanceMethod yX7_end, Cond.selects RX7 yX7_end yX7_end, Cond.code yX7_end cX7_end 1 (some .int), Cond.methodLink RX3 76 yX5_add, Cond.instanceMethod yX5_add, Cond.selects RX5 yX5_add yX5_add, Cond.code yX5_add cX5_add 2 none, Cond.methodLink RX2 146 yX7_moveTo, Cond.methodLink RX2 150 yX7_end, Cond.methodLink RX2 127 yX5_add]
def wsX2_follow : List Cond := .code yX2_follow cX2_follow 3 none :: ((wsX2_follow_r1 ++ (wsX2_follow_r2 ++ wsX2_follow_r3)) ++ wsX20 ++ wsX70 ++ wsX50 ++ wsX30)
def wsX2_dropReferents_r1 : List Cond := [Cond.fieldLink RX2 22 "Tenuredale$MinorCollector" "all" "LTenuredale$Row;", Cond.fieldLink RX2 153 "Tenuredale$Thing" "kind" "I", Cond.methodLink RX2 98 yX5_size, Cond.instanceMethod yX5_size, Cond.selects RX5 yX5_size yX5_size, Cond.initialized RX5, Cond.code yX5_size cX5_size 1 (some .int), Cond.fieldLink RX5 17 "Tenuredale$Row" "size" "I", Cond.methodLink RX2 101 yX5_item, Cond.instanceMethod yX5_item, Cond.selects RX5 yX5_item yX5_item, Cond.code yX5_item cX5_item 2 (some (.object "Tenuredale$Thing")), Cond.fieldLink RX5 11 "Tenuredale$Row" "things" "[LTenuredale$Thing;", Cond.methodLink RX2 133 yX2_isLeft, Cond.static yX2_isLeft, Cond.initialized RX2, Cond.code yX2_isLeft cX2_isLeft 1 (some .boolean), Cond.fieldLink RX2 130 "Tenuredale$Thing" "place" "I", Cond.fieldLink RX2 104 "Tenuredale$Thing" "isMoved" "Z", Cond.methodLink RX2 160 yX7_read, Cond.instanceMethod yX7_read, Cond.selects RX7 yX7_read yX7_read, Cond.initialized RX7, Cond.code yX7_read cX7_read 2 (some (.object "Tenuredale$Thing"))]
def wsX2_dropReferents_r2 : List Cond := [Cond.fieldLink RX7 18 "Tenuredale$Thing" "fields" "[LTenuredale$Thing;", Cond.methodLink RX2 163 yX7_write, Cond.instanceMethod yX7_write, Cond.selects RX7 yX7_write yX7_write, Cond.code yX7_write cX7_write 3 none]
def wsX2_dropReferents : List Cond := .code yX2_dropReferents cX2_dropReferents 3 none :: ((wsX2_dropReferents_r1 ++ wsX2_dropReferents_r2) ++ wsX20 ++ wsX70 ++ wsX50)
def wsX2_raiseFinals_r1 : List Cond := [Cond.fieldLink RX2 22 "Tenuredale$MinorCollector" "all" "LTenuredale$Row;", Cond.fieldLink RX2 153 "Tenuredale$Thing" "kind" "I", Cond.fieldLink RX2 25 "Tenuredale$MinorCollector" "roots" "LTenuredale$Roots;", Cond.fieldLink RX2 167 "Tenuredale$Roots" "queue" "LTenuredale$Row;", Cond.methodLink RX2 98 yX5_size, Cond.instanceMethod yX5_size, Cond.selects RX5 yX5_size yX5_size, Cond.initialized RX5, Cond.code yX5_size cX5_size 1 (some .int), Cond.fieldLink RX5 17 "Tenuredale$Row" "size" "I", Cond.methodLink RX2 101 yX5_item, Cond.instanceMethod yX5_item, Cond.selects RX5 yX5_item yX5_item, Cond.code yX5_item cX5_item 2 (some (.object "Tenuredale$Thing")), Cond.fieldLink RX5 11 "Tenuredale$Row" "things" "[LTenuredale$Thing;", Cond.methodLink RX2 133 yX2_isLeft, Cond.static yX2_isLeft, Cond.initialized RX2, Cond.code yX2_isLeft cX2_isLeft 1 (some .boolean), Cond.fieldLink RX2 130 "Tenuredale$Thing" "place" "I", Cond.fieldLink RX2 104 "Tenuredale$Thing" "isMoved" "Z", Cond.methodLink RX2 127 yX5_add, Cond.instanceMethod yX5_add, Cond.selects RX5 yX5_add yX5_add]
def wsX2_raiseFinals_r2 : List Cond := [Cond.code yX5_add cX5_add 2 none, Cond.methodLink RX2 50 yX2_move, Cond.instanceMethod yX2_move, Cond.selects RX2 yX2_move yX2_move, Cond.code yX2_move cX2_move 3 none, Cond.fieldLink RX2 137 "Tenuredale$Thing" "age" "I", Cond.fieldLink RX2 95 "Tenuredale$MinorCollector" "otherTop" "I", Cond.fieldLink RX2 140 "Tenuredale$Thing" "sizeBehindMove" "I", Cond.fieldLink RX2 92 "Tenuredale$MinorCollector" "otherHalf" "I", Cond.fieldLink RX2 9 "Tenuredale$MinorCollector" "tenureAge" "I", Cond.fieldLink RX2 29 "Tenuredale$MinorCollector" "places" "LTenuredale$Places;", Cond.fieldLink RX2 18 "Tenuredale$MinorCollector" "sources" "LTenuredale$Row;", Cond.methodLink RX2 143 yX3_moveToOld, Cond.instanceMethod yX3_moveToOld, Cond.selects RX3 yX3_moveToOld yX3_moveToOld, Cond.initialized RX3, Cond.code yX3_moveToOld cX3_moveToOld 2 none, Cond.fieldLink RX3 24 "Tenuredale$Places" "oldTop" "I", Cond.fieldLink RX3 18 "Tenuredale$Places" "old" "LTenuredale$Row;", Cond.methodLink RX3 68 yX7_moveTo, Cond.instanceMethod yX7_moveTo, Cond.selects RX7 yX7_moveTo yX7_moveTo, Cond.initialized RX7, Cond.code yX7_moveTo cX7_moveTo 3 none]
def wsX2_raiseFinals_r3 : List Cond := [Cond.fieldLink RX7 25 "Tenuredale$Thing" "sizeBehindMove" "I", Cond.fieldLink RX7 22 "Tenuredale$Thing" "size" "I", Cond.fieldLink RX7 31 "Tenuredale$Thing" "place" "I", Cond.fieldLink RX7 34 "Tenuredale$Thing" "address" "I", Cond.methodLink RX3 61 yX7_end, Cond.instanceMethod yX7_end, Cond.selects RX7 yX7_end yX7_end, Cond.code yX7_end cX7_end 1 (some .int), Cond.methodLink RX3 76 yX5_add, Cond.methodLink RX2 146 yX7_moveTo, Cond.methodLink RX2 150 yX7_end]
def wsX2_raiseFinals : List Cond := .code yX2_raiseFinals cX2_raiseFinals 3 none :: ((wsX2_raiseFinals_r1 ++ (wsX2_raiseFinals_r2 ++ wsX2_raiseFinals_r3)) ++ wsX20 ++ wsX70 ++ wsX40 ++ wsX50 ++ wsX30)
def wsX2_leaveHalf_r1 : List Cond := [Cond.fieldLink RX2 29 "Tenuredale$MinorCollector" "places" "LTenuredale$Places;", Cond.fieldLink RX2 170 "Tenuredale$Places" "young" "LTenuredale$Row;", Cond.fieldLink RX2 18 "Tenuredale$MinorCollector" "sources" "LTenuredale$Row;", Cond.fieldLink RX2 130 "Tenuredale$Thing" "place" "I", Cond.fieldLink RX2 92 "Tenuredale$MinorCollector" "otherHalf" "I", Cond.fieldLink RX2 89 "Tenuredale$Places" "half" "I", Cond.fieldLink RX2 95 "Tenuredale$MinorCollector" "otherTop" "I", Cond.fieldLink RX2 176 "Tenuredale$Places" "youngTop" "I", Cond.methodLink RX2 98 yX5_size, Cond.instanceMethod yX5_size, Cond.selects RX5 yX5_size yX5_size, Cond.initialized RX5, Cond.code yX5_size cX5_size 1 (some .int), Cond.fieldLink RX5 17 "Tenuredale$Row" "size" "I", Cond.methodLink RX2 101 yX5_item, Cond.instanceMethod yX5_item, Cond.selects RX5 yX5_item yX5_item, Cond.code yX5_item cX5_item 2 (some (.object "Tenuredale$Thing")), Cond.fieldLink RX5 11 "Tenuredale$Row" "things" "[LTenuredale$Thing;", Cond.methodLink RX2 133 yX2_isLeft, Cond.static yX2_isLeft, Cond.initialized RX2, Cond.code yX2_isLeft cX2_isLeft 1 (some .boolean), Cond.fieldLink RX2 104 "Tenuredale$Thing" "isMoved" "Z"]
def wsX2_leaveHalf_r2 : List Cond := [Cond.methodLink RX2 173 yX7_vanish, Cond.instanceMethod yX7_vanish, Cond.selects RX7 yX7_vanish yX7_vanish, Cond.initialized RX7, Cond.code yX7_vanish cX7_vanish 2 none, Cond.fieldLink RX7 31 "Tenuredale$Thing" "place" "I", Cond.fieldLink RX7 37 "Tenuredale$Thing" "colour" "I", Cond.fieldLink RX7 18 "Tenuredale$Thing" "fields" "[LTenuredale$Thing;", Cond.methodLink RX2 83 yX5_clear, Cond.instanceMethod yX5_clear, Cond.selects RX5 yX5_clear yX5_clear, Cond.code yX5_clear cX5_clear 1 none, Cond.methodLink RX2 127 yX5_add, Cond.instanceMethod yX5_add, Cond.selects RX5 yX5_add yX5_add, Cond.code yX5_add cX5_add 2 none]
def wsX2_leaveHalf : List Cond := .code yX2_leaveHalf cX2_leaveHalf 4 (some .int) :: ((wsX2_leaveHalf_r1 ++ wsX2_leaveHalf_r2) ++ wsX20 ++ wsX30 ++ wsX70 ++ wsX50)
def wsX2_run_r1 : List Cond := [Cond.fieldLink RX2 25 "Tenuredale$MinorCollector" "roots" "LTenuredale$Roots;", Cond.fieldLink RX2 29 "Tenuredale$MinorCollector" "places" "LTenuredale$Places;", Cond.fieldLink RX2 33 "Tenuredale$MinorCollector" "tally" "LTenuredale$Tally;", Cond.fieldLink RX2 71 "Tenuredale$Tally" "minors" "I", Cond.fieldLink RX2 18 "Tenuredale$MinorCollector" "sources" "LTenuredale$Row;", Cond.methodLink RX2 37 yX2_begin, Cond.instanceMethod yX2_begin, Cond.selects RX2 yX2_begin yX2_begin, Cond.initialized RX2, Cond.code yX2_begin cX2_begin 3 none, Cond.fieldLink RX2 86 "Tenuredale$MinorCollector" "followed" "I", Cond.fieldLink RX2 89 "Tenuredale$Places" "half" "I", Cond.fieldLink RX2 92 "Tenuredale$MinorCollector" "otherHalf" "I", Cond.fieldLink RX2 95 "Tenuredale$MinorCollector" "otherTop" "I", Cond.fieldLink RX2 22 "Tenuredale$MinorCollector" "all" "LTenuredale$Row;", Cond.fieldLink RX2 104 "Tenuredale$Thing" "isMoved" "Z", Cond.fieldLink RX2 110 "Tenuredale$Places" "old" "LTenuredale$Row;", Cond.fieldLink RX2 117 "Tenuredale$Places" "large" "LTenuredale$Row;", Cond.methodLink RX2 83 yX5_clear, Cond.instanceMethod yX5_clear, Cond.selects RX5 yX5_clear yX5_clear, Cond.initialized RX5, Cond.code yX5_clear cX5_clear 1 none, Cond.fieldLink RX5 17 "Tenuredale$Row" "size" "I"]
def wsX2_run_r2 : List Cond := [Cond.methodLink RX2 98 yX5_size, Cond.instanceMethod yX5_size, Cond.selects RX5 yX5_size yX5_size, Cond.code yX5_size cX5_size 1 (some .int), Cond.methodLink RX2 101 yX5_item, Cond.instanceMethod yX5_item, Cond.selects RX5 yX5_item yX5_item, Cond.code yX5_item cX5_item 2 (some (.object "Tenuredale$Thing")), Cond.fieldLink RX5 11 "Tenuredale$Row" "things" "[LTenuredale$Thing;", Cond.methodLink RX2 113 yX2_addDirty, Cond.instanceMethod yX2_addDirty, Cond.selects RX2 yX2_addDirty yX2_addDirty, Cond.code yX2_addDirty cX2_addDirty 4 none, Cond.methodLink RX2 120 yX7_card, Cond.instanceMethod yX7_card, Cond.selects RX7 yX7_card yX7_card, Cond.initialized RX7, Cond.code yX7_card cX7_card 1 (some .int), Cond.fieldLink RX7 34 "Tenuredale$Thing" "address" "I", Cond.methodLink RX2 123 yX3_isCardDirty, Cond.instanceMethod yX3_isCardDirty, Cond.selects RX3 yX3_isCardDirty yX3_isCardDirty, Cond.initialized RX3, Cond.code yX3_isCardDirty cX3_isCardDirty 2 (some .boolean)]
def wsX2_run_r3 : List Cond := [Cond.fieldLink RX3 31 "Tenuredale$Places" "dirty" "[Z", Cond.methodLink RX2 127 yX5_add, Cond.instanceMethod yX5_add, Cond.selects RX5 yX5_add yX5_add, Cond.code yX5_add cX5_add 2 none, Cond.methodLink RX2 40 yX4_count, Cond.instanceMethod yX4_count, Cond.selects RX4 yX4_count yX4_count, Cond.initialized RX4, Cond.code yX4_count cX4_count 1 (some .int), Cond.fieldLink RX4 27 "Tenuredale$Roots" "frames" "I", Cond.fieldLink RX4 12 "Tenuredale$Roots" "queue" "LTenuredale$Row;", Cond.methodLink RX4 39 yX5_size, Cond.methodLink RX2 46 yX4_root, Cond.instanceMethod yX4_root, Cond.selects RX4 yX4_root yX4_root, Cond.code yX4_root cX4_root 4 (some (.object "Tenuredale$Thing")), Cond.fieldLink RX4 20 "Tenuredale$Roots" "slots" "[LTenuredale$Thing;", Cond.methodLink RX4 43 yX4_readGlobal, Cond.instanceMethod yX4_readGlobal, Cond.selects RX4 yX4_readGlobal yX4_readGlobal, Cond.code yX4_readGlobal cX4_readGlobal 2 (some (.object "Tenuredale$Thing")), Cond.fieldLink RX4 24 "Tenuredale$Roots" "globals" "[LTenuredale$Thing;", Cond.methodLink RX4 47 yX5_item]
def wsX2_run_r4 : List Cond := [Cond.methodLink RX2 50 yX2_move, Cond.instanceMethod yX2_move, Cond.selects RX2 yX2_move yX2_move, Cond.code yX2_move cX2_move 3 none, Cond.fieldLink RX2 137 "Tenuredale$Thing" "age" "I", Cond.fieldLink RX2 140 "Tenuredale$Thing" "sizeBehindMove" "I", Cond.fieldLink RX2 9 "Tenuredale$MinorCollector" "tenureAge" "I", Cond.methodLink RX2 133 yX2_isLeft, Cond.static yX2_isLeft, Cond.code yX2_isLeft cX2_isLeft 1 (some .boolean), Cond.fieldLink RX2 130 "Tenuredale$Thing" "place" "I", Cond.methodLink RX2 143 yX3_moveToOld, Cond.instanceMethod yX3_moveToOld, Cond.selects RX3 yX3_moveToOld yX3_moveToOld, Cond.code yX3_moveToOld cX3_moveToOld 2 none, Cond.fieldLink RX3 24 "Tenuredale$Places" "oldTop" "I", Cond.fieldLink RX3 18 "Tenuredale$Places" "old" "LTenuredale$Row;", Cond.methodLink RX3 68 yX7_moveTo, Cond.instanceMethod yX7_moveTo, Cond.selects RX7 yX7_moveTo yX7_moveTo, Cond.code yX7_moveTo cX7_moveTo 3 none, Cond.fieldLink RX7 25 "Tenuredale$Thing" "sizeBehindMove" "I", Cond.fieldLink RX7 22 "Tenuredale$Thing" "size" "I", Cond.fieldLink RX7 31 "Tenuredale$Thing" "place" "I"]
def wsX2_run_r5 : List Cond := [Cond.methodLink RX3 61 yX7_end, Cond.instanceMethod yX7_end, Cond.selects RX7 yX7_end yX7_end, Cond.code yX7_end cX7_end 1 (some .int), Cond.methodLink RX3 76 yX5_add, Cond.methodLink RX2 146 yX7_moveTo, Cond.methodLink RX2 150 yX7_end, Cond.methodLink RX2 54 yX2_follow, Cond.instanceMethod yX2_follow, Cond.selects RX2 yX2_follow yX2_follow, Cond.code yX2_follow cX2_follow 3 none, Cond.fieldLink RX2 153 "Tenuredale$Thing" "kind" "I", Cond.fieldLink RX2 156 "Tenuredale$Thing" "fields" "[LTenuredale$Thing;", Cond.methodLink RX2 57 yX2_dropReferents, Cond.instanceMethod yX2_dropReferents, Cond.selects RX2 yX2_dropReferents yX2_dropReferents, Cond.code yX2_dropReferents cX2_dropReferents 3 none, Cond.methodLink RX2 160 yX7_read, Cond.instanceMethod yX7_read, Cond.selects RX7 yX7_read yX7_read, Cond.code yX7_read cX7_read 2 (some (.object "Tenuredale$Thing")), Cond.fieldLink RX7 18 "Tenuredale$Thing" "fields" "[LTenuredale$Thing;", Cond.methodLink RX2 163 yX7_write, Cond.instanceMethod yX7_write]
def wsX2_run_r6 : List Cond := [Cond.selects RX7 yX7_write yX7_write, Cond.code yX7_write cX7_write 3 none, Cond.methodLink RX2 60 yX2_raiseFinals, Cond.instanceMethod yX2_raiseFinals, Cond.selects RX2 yX2_raiseFinals yX2_raiseFinals, Cond.code yX2_raiseFinals cX2_raiseFinals 3 none, Cond.fieldLink RX2 167 "Tenuredale$Roots" "queue" "LTenuredale$Row;", Cond.methodLink RX2 63 yX2_leaveHalf, Cond.instanceMethod yX2_leaveHalf, Cond.selects RX2 yX2_leaveHalf yX2_leaveHalf, Cond.code yX2_leaveHalf cX2_leaveHalf 4 (some .int), Cond.fieldLink RX2 170 "Tenuredale$Places" "young" "LTenuredale$Row;", Cond.fieldLink RX2 176 "Tenuredale$Places" "youngTop" "I", Cond.methodLink RX2 173 yX7_vanish, Cond.instanceMethod yX7_vanish, Cond.selects RX7 yX7_vanish yX7_vanish, Cond.code yX7_vanish cX7_vanish 2 none, Cond.fieldLink RX7 37 "Tenuredale$Thing" "colour" "I", Cond.methodLink RX2 66 yX3_renewCards, Cond.instanceMethod yX3_renewCards, Cond.selects RX3 yX3_renewCards yX3_renewCards, Cond.code yX3_renewCards cX3_renewCards 2 none, Cond.fieldLink RX3 21 "Tenuredale$Places" "large" "LTenuredale$Row;", Cond.methodLink RX3 129 yX3_soilYoungHolders]
def wsX2_run_r7 : List Cond := [Cond.instanceMethod yX3_soilYoungHolders, Cond.selects RX3 yX3_soilYoungHolders yX3_soilYoungHolders, Cond.code yX3_soilYoungHolders cX3_soilYoungHolders 4 none, Cond.methodLink RX3 35 yX5_size, Cond.methodLink RX3 52 yX5_item, Cond.methodLink RX3 92 yX7_hasYoungField, Cond.instanceMethod yX7_hasYoungField, Cond.selects RX7 yX7_hasYoungField yX7_hasYoungField, Cond.code yX7_hasYoungField cX7_hasYoungField 3 (some .boolean), Cond.methodLink RX3 96 yX3_soil, Cond.instanceMethod yX3_soil, Cond.selects RX3 yX3_soil yX3_soil, Cond.code yX3_soil cX3_soil 3 none, Cond.methodLink RX3 133 yX7_card, Cond.methodLink RX2 76 yX5_words, Cond.instanceMethod yX5_words, Cond.selects RX5 yX5_words yX5_words, Cond.code yX5_words cX5_words 4 (some .int), Cond.fieldLink RX5 35 "Tenuredale$Thing" "size" "I", Cond.methodLink RX2 79 yX6_noteTouched, Cond.instanceMethod yX6_noteTouched, Cond.selects RX6 yX6_noteTouched yX6_noteTouched, Cond.initialized RX6, Cond.code yX6_noteTouched cX6_noteTouched 2 none]
def wsX2_run_r8 : List Cond := [Cond.fieldLink RX6 7 "Tenuredale$Tally" "latestTouched" "I", Cond.fieldLink RX6 13 "Tenuredale$Tally" "mostTouched" "I", Cond.methodLink RX6 16 Lib.Math.max.name, Cond.static Lib.Math.max.name, Cond.initialized "java/lang/Math", Cond.code Lib.Math.max.name Lib.Math.max.code 2 (some .int)]
def wsX2_run : List Cond := .code yX2_run cX2_run 2 (some .int) :: ((wsX2_run_r1 ++ (wsX2_run_r2 ++ (wsX2_run_r3 ++ (wsX2_run_r4 ++ (wsX2_run_r5 ++ (wsX2_run_r6 ++ (wsX2_run_r7 ++ wsX2_run_r8))))))) ++ wsX20 ++ wsX60 ++ wsX30 ++ wsX70 ++ wsX50 ++ wsX40)
def wsX3_init : List Cond := .code yX3_init cX3_init 1 none :: ([.methodLink RX3 3 objectInit, .instanceMethod objectInit, .code objectInit ⟨#[0xb1]⟩ 1 none, .classLink RX3 9 RX5, .instantiable RX5 2, .initialized RX5, .fieldLink RX3 12 "Tenuredale$Places" "young" "LTenuredale$Row;", .fieldLink RX3 18 "Tenuredale$Places" "old" "LTenuredale$Row;", .fieldLink RX3 21 "Tenuredale$Places" "large" "LTenuredale$Row;", .fieldLink RX3 24 "Tenuredale$Places" "oldTop" "I", .fieldLink RX3 28 "Tenuredale$Places" "oldWords" "I", .arrayClass .boolean, .fieldLink RX3 31 "Tenuredale$Places" "dirty" "[Z", .instanceMethod yX5_init, .code yX5_init cX5_init 1 none, .methodLink RX5 3 objectInit, .classLink RX5 9 RX7, .fieldLink RX5 11 "Tenuredale$Row" "things" "[LTenuredale$Thing;"] ++ wsX50 ++ wsX30)
def wsX3_things : List Cond := .code yX3_things cX3_things 1 (some .int) :: ([.fieldLink RX3 12 "Tenuredale$Places" "young" "LTenuredale$Row;", .fieldLink RX3 18 "Tenuredale$Places" "old" "LTenuredale$Row;", .fieldLink RX3 21 "Tenuredale$Places" "large" "LTenuredale$Row;", .methodLink RX3 35 yX5_size, .instanceMethod yX5_size, .selects RX5 yX5_size yX5_size, .initialized RX5, .code yX5_size cX5_size 1 (some .int), .fieldLink RX5 17 "Tenuredale$Row" "size" "I"] ++ wsX30 ++ wsX50)
def wsX3_largeGapFor : List Cond := .code yX3_largeGapFor cX3_largeGapFor 5 (some .int) :: ([.fieldLink RX3 21 "Tenuredale$Places" "large" "LTenuredale$Row;", .fieldLink RX3 56 "Tenuredale$Thing" "address" "I", .methodLink RX3 35 yX5_size, .instanceMethod yX5_size, .selects RX5 yX5_size yX5_size, .initialized RX5, .code yX5_size cX5_size 1 (some .int), .fieldLink RX5 17 "Tenuredale$Row" "size" "I", .methodLink RX3 52 yX5_item, .instanceMethod yX5_item, .selects RX5 yX5_item yX5_item, .code yX5_item cX5_item 2 (some (.object "Tenuredale$Thing")), .fieldLink RX5 11 "Tenuredale$Row" "things" "[LTenuredale$Thing;", .methodLink RX3 61 yX7_end, .instanceMethod yX7_end, .selects RX7 yX7_end yX7_end, .initialized RX7, .code yX7_end cX7_end 1 (some .int), .fieldLink RX7 34 "Tenuredale$Thing" "address" "I", .fieldLink RX7 22 "Tenuredale$Thing" "size" "I"] ++ wsX30 ++ wsX70 ++ wsX50)
def wsX3_gapFor_r1 : List Cond := [Cond.fieldLink RX3 46 "Tenuredale$Places" "youngTop" "I", Cond.fieldLink RX3 49 "Tenuredale$Places" "half" "I", Cond.methodLink RX3 42 yX3_largeGapFor, Cond.instanceMethod yX3_largeGapFor, Cond.selects RX3 yX3_largeGapFor yX3_largeGapFor, Cond.initialized RX3, Cond.code yX3_largeGapFor cX3_largeGapFor 5 (some .int), Cond.fieldLink RX3 21 "Tenuredale$Places" "large" "LTenuredale$Row;", Cond.fieldLink RX3 56 "Tenuredale$Thing" "address" "I", Cond.methodLink RX3 35 yX5_size, Cond.instanceMethod yX5_size, Cond.selects RX5 yX5_size yX5_size, Cond.initialized RX5, Cond.code yX5_size cX5_size 1 (some .int), Cond.fieldLink RX5 17 "Tenuredale$Row" "size" "I", Cond.methodLink RX3 52 yX5_item, Cond.instanceMethod yX5_item, Cond.selects RX5 yX5_item yX5_item, Cond.code yX5_item cX5_item 2 (some (.object "Tenuredale$Thing")), Cond.fieldLink RX5 11 "Tenuredale$Row" "things" "[LTenuredale$Thing;", Cond.methodLink RX3 61 yX7_end, Cond.instanceMethod yX7_end, Cond.selects RX7 yX7_end yX7_end, Cond.initialized RX7]
def wsX3_gapFor_r2 : List Cond := [Cond.code yX7_end cX7_end 1 (some .int), Cond.fieldLink RX7 34 "Tenuredale$Thing" "address" "I", Cond.fieldLink RX7 22 "Tenuredale$Thing" "size" "I"]
def wsX3_gapFor : List Cond := .code yX3_gapFor cX3_gapFor 3 (some .int) :: ((wsX3_gapFor_r1 ++ wsX3_gapFor_r2) ++ wsX30 ++ wsX70 ++ wsX50)
def wsX3_largeGaps : List Cond := .code yX3_largeGaps cX3_largeGaps 5 (some .int) :: ([.fieldLink RX3 21 "Tenuredale$Places" "large" "LTenuredale$Row;", .fieldLink RX3 56 "Tenuredale$Thing" "address" "I", .methodLink RX3 35 yX5_size, .instanceMethod yX5_size, .selects RX5 yX5_size yX5_size, .initialized RX5, .code yX5_size cX5_size 1 (some .int), .fieldLink RX5 17 "Tenuredale$Row" "size" "I", .methodLink RX3 52 yX5_item, .instanceMethod yX5_item, .selects RX5 yX5_item yX5_item, .code yX5_item cX5_item 2 (some (.object "Tenuredale$Thing")), .fieldLink RX5 11 "Tenuredale$Row" "things" "[LTenuredale$Thing;", .methodLink RX3 61 yX7_end, .instanceMethod yX7_end, .selects RX7 yX7_end yX7_end, .initialized RX7, .code yX7_end cX7_end 1 (some .int), .fieldLink RX7 34 "Tenuredale$Thing" "address" "I", .fieldLink RX7 22 "Tenuredale$Thing" "size" "I"] ++ wsX30 ++ wsX70 ++ wsX50)
def wsX5_addByAddress : List Cond := .code yX5_addByAddress cX5_addByAddress 4 none :: ([.fieldLink RX5 17 "Tenuredale$Row" "size" "I", .fieldLink RX5 11 "Tenuredale$Row" "things" "[LTenuredale$Thing;", .fieldLink RX5 25 "Tenuredale$Thing" "address" "I", .methodLink RX5 21 yX5_add, .instanceMethod yX5_add, .selects RX5 yX5_add yX5_add, .initialized RX5, .code yX5_add cX5_add 2 none] ++ wsX50 ++ wsX70)
def wsX3_lay_r1 : List Cond := [Cond.fieldLink RX3 64 "Tenuredale$Thing" "fields" "[LTenuredale$Thing;", Cond.fieldLink RX3 21 "Tenuredale$Places" "large" "LTenuredale$Row;", Cond.fieldLink RX3 12 "Tenuredale$Places" "young" "LTenuredale$Row;", Cond.fieldLink RX3 46 "Tenuredale$Places" "youngTop" "I", Cond.methodLink RX3 68 yX7_moveTo, Cond.instanceMethod yX7_moveTo, Cond.selects RX7 yX7_moveTo yX7_moveTo, Cond.initialized RX7, Cond.code yX7_moveTo cX7_moveTo 3 none, Cond.fieldLink RX7 25 "Tenuredale$Thing" "sizeBehindMove" "I", Cond.fieldLink RX7 22 "Tenuredale$Thing" "size" "I", Cond.fieldLink RX7 31 "Tenuredale$Thing" "place" "I", Cond.fieldLink RX7 34 "Tenuredale$Thing" "address" "I", Cond.methodLink RX3 72 yX5_addByAddress, Cond.instanceMethod yX5_addByAddress, Cond.selects RX5 yX5_addByAddress yX5_addByAddress, Cond.initialized RX5, Cond.code yX5_addByAddress cX5_addByAddress 4 none, Cond.fieldLink RX5 17 "Tenuredale$Row" "size" "I", Cond.fieldLink RX5 11 "Tenuredale$Row" "things" "[LTenuredale$Thing;", Cond.fieldLink RX5 25 "Tenuredale$Thing" "address" "I", Cond.methodLink RX5 21 yX5_add, Cond.instanceMethod yX5_add, Cond.selects RX5 yX5_add yX5_add]
def wsX3_lay_r2 : List Cond := [Cond.code yX5_add cX5_add 2 none, Cond.methodLink RX3 76 yX5_add, Cond.methodLink RX3 61 yX7_end, Cond.instanceMethod yX7_end, Cond.selects RX7 yX7_end yX7_end, Cond.code yX7_end cX7_end 1 (some .int)]
def wsX3_lay : List Cond := .code yX3_lay cX3_lay 3 none :: ((wsX3_lay_r1 ++ wsX3_lay_r2) ++ wsX70 ++ wsX30 ++ wsX50)
def wsX3_moveOutOfYoung_r1 : List Cond := [Cond.fieldLink RX3 12 "Tenuredale$Places" "young" "LTenuredale$Row;", Cond.methodLink RX3 85 yX3_moveToOld, Cond.instanceMethod yX3_moveToOld, Cond.selects RX3 yX3_moveToOld yX3_moveToOld, Cond.initialized RX3, Cond.code yX3_moveToOld cX3_moveToOld 2 none, Cond.fieldLink RX3 24 "Tenuredale$Places" "oldTop" "I", Cond.fieldLink RX3 18 "Tenuredale$Places" "old" "LTenuredale$Row;", Cond.methodLink RX3 68 yX7_moveTo, Cond.instanceMethod yX7_moveTo, Cond.selects RX7 yX7_moveTo yX7_moveTo, Cond.initialized RX7, Cond.code yX7_moveTo cX7_moveTo 3 none, Cond.fieldLink RX7 25 "Tenuredale$Thing" "sizeBehindMove" "I", Cond.fieldLink RX7 22 "Tenuredale$Thing" "size" "I", Cond.fieldLink RX7 31 "Tenuredale$Thing" "place" "I", Cond.fieldLink RX7 34 "Tenuredale$Thing" "address" "I", Cond.methodLink RX3 61 yX7_end, Cond.instanceMethod yX7_end, Cond.selects RX7 yX7_end yX7_end, Cond.code yX7_end cX7_end 1 (some .int), Cond.methodLink RX3 76 yX5_add, Cond.instanceMethod yX5_add, Cond.selects RX5 yX5_add yX5_add]
def wsX3_moveOutOfYoung_r2 : List Cond := [Cond.initialized RX5, Cond.code yX5_add cX5_add 2 none, Cond.fieldLink RX5 17 "Tenuredale$Row" "size" "I", Cond.fieldLink RX5 11 "Tenuredale$Row" "things" "[LTenuredale$Thing;", Cond.methodLink RX3 88 yX5_keepOnly, Cond.instanceMethod yX5_keepOnly, Cond.selects RX5 yX5_keepOnly yX5_keepOnly, Cond.code yX5_keepOnly cX5_keepOnly 5 none, Cond.fieldLink RX5 32 "Tenuredale$Thing" "place" "I", Cond.methodLink RX5 21 yX5_add, Cond.methodLink RX3 92 yX7_hasYoungField, Cond.instanceMethod yX7_hasYoungField, Cond.selects RX7 yX7_hasYoungField yX7_hasYoungField, Cond.code yX7_hasYoungField cX7_hasYoungField 3 (some .boolean), Cond.fieldLink RX7 18 "Tenuredale$Thing" "fields" "[LTenuredale$Thing;", Cond.methodLink RX3 96 yX3_soil, Cond.instanceMethod yX3_soil, Cond.selects RX3 yX3_soil yX3_soil, Cond.code yX3_soil cX3_soil 3 none, Cond.fieldLink RX3 31 "Tenuredale$Places" "dirty" "[Z", Cond.methodLink RX3 133 yX7_card, Cond.instanceMethod yX7_card, Cond.selects RX7 yX7_card yX7_card, Cond.code yX7_card cX7_card 1 (some .int)]
def wsX3_moveOutOfYoung : List Cond := .code yX3_moveOutOfYoung cX3_moveOutOfYoung 2 none :: ((wsX3_moveOutOfYoung_r1 ++ wsX3_moveOutOfYoung_r2) ++ wsX30 ++ wsX70 ++ wsX50)
def wsX3_noteWritten : List Cond := .code yX3_noteWritten cX3_noteWritten 3 none :: ([.fieldLink RX3 136 "Tenuredale$Thing" "place" "I", .methodLink RX3 96 yX3_soil, .instanceMethod yX3_soil, .selects RX3 yX3_soil yX3_soil, .initialized RX3, .code yX3_soil cX3_soil 3 none, .fieldLink RX3 31 "Tenuredale$Places" "dirty" "[Z", .methodLink RX3 133 yX7_card, .instanceMethod yX7_card, .selects RX7 yX7_card yX7_card, .initialized RX7, .code yX7_card cX7_card 1 (some .int), .fieldLink RX7 34 "Tenuredale$Thing" "address" "I"] ++ wsX70 ++ wsX30)
def wsX3_dirtyCards : List Cond := .code yX3_dirtyCards cX3_dirtyCards 3 (some .int) :: ([.fieldLink RX3 31 "Tenuredale$Places" "dirty" "[Z"] ++ wsX30)
def wsX4_init : List Cond := .code yX4_init cX4_init 1 none :: ([.methodLink RX4 3 objectInit, .instanceMethod objectInit, .code objectInit ⟨#[0xb1]⟩ 1 none, .classLink RX4 9 RX5, .instantiable RX5 2, .initialized RX5, .fieldLink RX4 12 "Tenuredale$Roots" "queue" "LTenuredale$Row;", .classLink RX4 18 RX7, .fieldLink RX4 20 "Tenuredale$Roots" "slots" "[LTenuredale$Thing;", .fieldLink RX4 24 "Tenuredale$Roots" "globals" "[LTenuredale$Thing;", .fieldLink RX4 27 "Tenuredale$Roots" "frames" "I", .instanceMethod yX5_init, .code yX5_init cX5_init 1 none, .methodLink RX5 3 objectInit, .classLink RX5 9 RX7, .fieldLink RX5 11 "Tenuredale$Row" "things" "[LTenuredale$Thing;"] ++ wsX50 ++ wsX40)
def wsX4_frames : List Cond := .code yX4_frames cX4_frames 1 (some .int) :: ([.fieldLink RX4 27 "Tenuredale$Roots" "frames" "I"] ++ wsX40)
def wsX4_addFrame : List Cond := .code yX4_addFrame cX4_addFrame 1 none :: ([.fieldLink RX4 27 "Tenuredale$Roots" "frames" "I"] ++ wsX40)
def wsX4_indexOf : List Cond := .code yX4_indexOf cX4_indexOf 2 (some .int) :: ([.fieldLink RX4 27 "Tenuredale$Roots" "frames" "I"] ++ wsX40)
def wsX4_writeSlot : List Cond := .code yX4_writeSlot cX4_writeSlot 4 none :: ([.fieldLink RX4 20 "Tenuredale$Roots" "slots" "[LTenuredale$Thing;", .methodLink RX4 35 yX4_indexOf, .instanceMethod yX4_indexOf, .selects RX4 yX4_indexOf yX4_indexOf, .initialized RX4, .code yX4_indexOf cX4_indexOf 2 (some .int), .fieldLink RX4 27 "Tenuredale$Roots" "frames" "I"] ++ wsX40)
def wsX4_dropFrame : List Cond := .code yX4_dropFrame cX4_dropFrame 2 none :: ([.fieldLink RX4 27 "Tenuredale$Roots" "frames" "I", .methodLink RX4 31 yX4_writeSlot, .instanceMethod yX4_writeSlot, .selects RX4 yX4_writeSlot yX4_writeSlot, .initialized RX4, .code yX4_writeSlot cX4_writeSlot 4 none, .fieldLink RX4 20 "Tenuredale$Roots" "slots" "[LTenuredale$Thing;", .methodLink RX4 35 yX4_indexOf, .instanceMethod yX4_indexOf, .selects RX4 yX4_indexOf yX4_indexOf, .code yX4_indexOf cX4_indexOf 2 (some .int)] ++ wsX40)
def wsX4_readSlot : List Cond := .code yX4_readSlot cX4_readSlot 3 (some (.object "Tenuredale$Thing")) :: ([.fieldLink RX4 20 "Tenuredale$Roots" "slots" "[LTenuredale$Thing;", .methodLink RX4 35 yX4_indexOf, .instanceMethod yX4_indexOf, .selects RX4 yX4_indexOf yX4_indexOf, .initialized RX4, .code yX4_indexOf cX4_indexOf 2 (some .int), .fieldLink RX4 27 "Tenuredale$Roots" "frames" "I"] ++ wsX40)
def wsX4_writeGlobal : List Cond := .code yX4_writeGlobal cX4_writeGlobal 3 none :: ([.fieldLink RX4 24 "Tenuredale$Roots" "globals" "[LTenuredale$Thing;"] ++ wsX40)
def wsX5_removeFirst : List Cond := .code yX5_removeFirst cX5_removeFirst 3 (some (.object "Tenuredale$Thing")) :: ([.fieldLink RX5 17 "Tenuredale$Row" "size" "I", .fieldLink RX5 11 "Tenuredale$Row" "things" "[LTenuredale$Thing;", .methodLink RX5 28 yX5_item, .instanceMethod yX5_item, .selects RX5 yX5_item yX5_item, .initialized RX5, .code yX5_item cX5_item 2 (some (.object "Tenuredale$Thing"))] ++ wsX50)
def wsX5_pinned : List Cond := .code yX5_pinned cX5_pinned 4 (some .int) :: ([.fieldLink RX5 17 "Tenuredale$Row" "size" "I", .fieldLink RX5 11 "Tenuredale$Row" "things" "[LTenuredale$Thing;", .fieldLink RX5 36 "Tenuredale$Thing" "isPinned" "Z"] ++ wsX50 ++ wsX70)
def wsX6_init : List Cond := .code yX6_init cX6_init 1 none :: ([.methodLink RX6 1 objectInit, .instanceMethod objectInit, .code objectInit ⟨#[0xb1]⟩ 1 none])
def wsX7_init : List Cond := .code yX7_init cX7_init 4 none :: ([.methodLink RX7 3 objectInit, .instanceMethod objectInit, .code objectInit ⟨#[0xb1]⟩ 1 none, .fieldLink RX7 9 "Tenuredale$Thing" "number" "I", .fieldLink RX7 15 "Tenuredale$Thing" "kind" "I", .classLink RX7 10 RX7, .fieldLink RX7 18 "Tenuredale$Thing" "fields" "[LTenuredale$Thing;", .fieldLink RX7 22 "Tenuredale$Thing" "size" "I", .fieldLink RX7 25 "Tenuredale$Thing" "sizeBehindMove" "I", .fieldLink RX7 28 "Tenuredale$Thing" "hash" "I"] ++ wsX70)
def wsX7_hasField : List Cond := .code yX7_hasField cX7_hasField 2 (some .boolean) :: ([.fieldLink RX7 18 "Tenuredale$Thing" "fields" "[LTenuredale$Thing;"] ++ wsX70)
def wsX7_giveHash : List Cond := .code yX7_giveHash cX7_giveHash 2 none :: ([.fieldLink RX7 28 "Tenuredale$Thing" "hash" "I", .fieldLink RX7 22 "Tenuredale$Thing" "size" "I", .fieldLink RX7 25 "Tenuredale$Thing" "sizeBehindMove" "I"] ++ wsX70)
def wsX8_init : List Cond := .code yX8_init cX8_init 3 none :: ([.methodLink RX8 3 objectInit, .instanceMethod objectInit, .code objectInit ⟨#[0xb1]⟩ 1 none, .classLink RX8 9 RX5, .instantiable RX5 2, .initialized RX5, .fieldLink RX8 12 "Tenuredale$Trace" "marked" "LTenuredale$Row;", .fieldLink RX8 18 "Tenuredale$Trace" "all" "LTenuredale$Row;", .fieldLink RX8 21 "Tenuredale$Trace" "roots" "LTenuredale$Roots;", .instanceMethod yX5_init, .code yX5_init cX5_init 1 none, .methodLink RX5 3 objectInit, .classLink RX5 9 RX7, .fieldLink RX5 11 "Tenuredale$Row" "things" "[LTenuredale$Thing;"] ++ wsX50 ++ wsX80)
def wsX8_cutPairs_r1 : List Cond := [Cond.fieldLink RX8 12 "Tenuredale$Trace" "marked" "LTenuredale$Row;", Cond.fieldLink RX8 84 "Tenuredale$Thing" "kind" "I", Cond.fieldLink RX8 53 "Tenuredale$Thing" "isCut" "Z", Cond.methodLink RX8 40 yX5_size, Cond.instanceMethod yX5_size, Cond.selects RX5 yX5_size yX5_size, Cond.initialized RX5, Cond.code yX5_size cX5_size 1 (some .int), Cond.fieldLink RX5 17 "Tenuredale$Row" "size" "I", Cond.methodLink RX8 44 yX5_item, Cond.instanceMethod yX5_item, Cond.selects RX5 yX5_item yX5_item, Cond.code yX5_item cX5_item 2 (some (.object "Tenuredale$Thing")), Cond.fieldLink RX5 11 "Tenuredale$Row" "things" "[LTenuredale$Thing;", Cond.methodLink RX8 99 yX8_hasMarked, Cond.static yX8_hasMarked, Cond.initialized RX8, Cond.code yX8_hasMarked cX8_hasMarked 3 (some .boolean), Cond.fieldLink RX8 48 "Tenuredale$Thing" "isMarked" "Z", Cond.methodLink RX8 103 yX7_read, Cond.instanceMethod yX7_read, Cond.selects RX7 yX7_read yX7_read, Cond.initialized RX7, Cond.code yX7_read cX7_read 2 (some (.object "Tenuredale$Thing"))]
def wsX8_cutPairs_r2 : List Cond := [Cond.fieldLink RX7 18 "Tenuredale$Thing" "fields" "[LTenuredale$Thing;"]
def wsX8_cutPairs : List Cond := .code yX8_cutPairs cX8_cutPairs 3 none :: ((wsX8_cutPairs_r1 ++ wsX8_cutPairs_r2) ++ wsX80 ++ wsX70 ++ wsX50)
def wsX8_wordsFreed_r1 : List Cond := [Cond.fieldLink RX8 18 "Tenuredale$Trace" "all" "LTenuredale$Row;", Cond.fieldLink RX8 119 "Tenuredale$Thing" "place" "I", Cond.fieldLink RX8 84 "Tenuredale$Thing" "kind" "I", Cond.fieldLink RX8 48 "Tenuredale$Thing" "isMarked" "Z", Cond.fieldLink RX8 122 "Tenuredale$Thing" "size" "I", Cond.methodLink RX8 106 yX8_begin, Cond.instanceMethod yX8_begin, Cond.selects RX8 yX8_begin yX8_begin, Cond.initialized RX8, Cond.code yX8_begin cX8_begin 5 none, Cond.fieldLink RX8 25 "Tenuredale$Trace" "isSoftKept" "Z", Cond.fieldLink RX8 29 "Tenuredale$Trace" "hollow" "LTenuredale$Thing;", Cond.fieldLink RX8 12 "Tenuredale$Trace" "marked" "LTenuredale$Row;", Cond.fieldLink RX8 36 "Tenuredale$Trace" "scanned" "I", Cond.fieldLink RX8 53 "Tenuredale$Thing" "isCut" "Z", Cond.methodLink RX8 33 yX5_clear, Cond.instanceMethod yX5_clear, Cond.selects RX5 yX5_clear yX5_clear, Cond.initialized RX5, Cond.code yX5_clear cX5_clear 1 none, Cond.fieldLink RX5 17 "Tenuredale$Row" "size" "I", Cond.methodLink RX8 40 yX5_size, Cond.instanceMethod yX5_size, Cond.selects RX5 yX5_size yX5_size]
def wsX8_wordsFreed_r2 : List Cond := [Cond.code yX5_size cX5_size 1 (some .int), Cond.methodLink RX8 44 yX5_item, Cond.instanceMethod yX5_item, Cond.selects RX5 yX5_item yX5_item, Cond.code yX5_item cX5_item 2 (some (.object "Tenuredale$Thing")), Cond.fieldLink RX5 11 "Tenuredale$Row" "things" "[LTenuredale$Thing;", Cond.methodLink RX8 110 yX8_markRoots, Cond.instanceMethod yX8_markRoots, Cond.selects RX8 yX8_markRoots yX8_markRoots, Cond.code yX8_markRoots cX8_markRoots 3 none, Cond.fieldLink RX8 21 "Tenuredale$Trace" "roots" "LTenuredale$Roots;", Cond.fieldLink RX8 68 "Tenuredale$Thing" "isPinned" "Z", Cond.methodLink RX8 56 yX4_count, Cond.instanceMethod yX4_count, Cond.selects RX4 yX4_count yX4_count, Cond.initialized RX4, Cond.code yX4_count cX4_count 1 (some .int), Cond.fieldLink RX4 27 "Tenuredale$Roots" "frames" "I", Cond.fieldLink RX4 12 "Tenuredale$Roots" "queue" "LTenuredale$Row;", Cond.methodLink RX4 39 yX5_size, Cond.methodLink RX8 61 yX4_root, Cond.instanceMethod yX4_root, Cond.selects RX4 yX4_root yX4_root, Cond.code yX4_root cX4_root 4 (some (.object "Tenuredale$Thing"))]
def wsX8_wordsFreed_r3 : List Cond := [Cond.fieldLink RX4 20 "Tenuredale$Roots" "slots" "[LTenuredale$Thing;", Cond.methodLink RX4 43 yX4_readGlobal, Cond.instanceMethod yX4_readGlobal, Cond.selects RX4 yX4_readGlobal yX4_readGlobal, Cond.code yX4_readGlobal cX4_readGlobal 2 (some (.object "Tenuredale$Thing")), Cond.fieldLink RX4 24 "Tenuredale$Roots" "globals" "[LTenuredale$Thing;", Cond.methodLink RX4 47 yX5_item, Cond.methodLink RX8 64 yX8_mark, Cond.instanceMethod yX8_mark, Cond.selects RX8 yX8_mark yX8_mark, Cond.code yX8_mark cX8_mark 2 none, Cond.methodLink RX8 74 yX5_add, Cond.instanceMethod yX5_add, Cond.selects RX5 yX5_add yX5_add, Cond.code yX5_add cX5_add 2 none, Cond.methodLink RX8 113 yX8_spread, Cond.instanceMethod yX8_spread, Cond.selects RX8 yX8_spread yX8_spread, Cond.code yX8_spread cX8_spread 2 none, Cond.methodLink RX8 77 yX8_markFieldsOf, Cond.instanceMethod yX8_markFieldsOf, Cond.selects RX8 yX8_markFieldsOf yX8_markFieldsOf, Cond.code yX8_markFieldsOf cX8_markFieldsOf 3 none, Cond.fieldLink RX8 91 "Tenuredale$Thing" "fields" "[LTenuredale$Thing;"]
def wsX8_wordsFreed_r4 : List Cond := [Cond.methodLink RX8 87 yX8_firstStrongField, Cond.instanceMethod yX8_firstStrongField, Cond.selects RX8 yX8_firstStrongField yX8_firstStrongField, Cond.code yX8_firstStrongField cX8_firstStrongField 2 (some .int), Cond.static yX9_isLoose, Cond.initialized RX9, Cond.code yX9_isLoose cX9_isLoose 2 (some .boolean), Cond.methodLink RX8 80 yX8_markValues, Cond.instanceMethod yX8_markValues, Cond.selects RX8 yX8_markValues yX8_markValues, Cond.code yX8_markValues cX8_markValues 4 (some .boolean), Cond.methodLink RX8 99 yX8_hasMarked, Cond.static yX8_hasMarked, Cond.code yX8_hasMarked cX8_hasMarked 3 (some .boolean), Cond.methodLink RX8 103 yX7_read, Cond.instanceMethod yX7_read, Cond.selects RX7 yX7_read yX7_read, Cond.initialized RX7, Cond.code yX7_read cX7_read 2 (some (.object "Tenuredale$Thing")), Cond.fieldLink RX7 18 "Tenuredale$Thing" "fields" "[LTenuredale$Thing;", Cond.methodLink RX8 116 yX8_cutPairs, Cond.instanceMethod yX8_cutPairs, Cond.selects RX8 yX8_cutPairs yX8_cutPairs, Cond.code yX8_cutPairs cX8_cutPairs 3 none]
def wsX8_wordsFreed : List Cond := .code yX8_wordsFreed cX8_wordsFreed 6 (some .int) :: ((wsX8_wordsFreed_r1 ++ (wsX8_wordsFreed_r2 ++ (wsX8_wordsFreed_r3 ++ wsX8_wordsFreed_r4))) ++ wsX80 ++ wsX70 ++ wsX50 ++ wsX40)
def wsX9_init_r1 : List Cond := [Cond.methodLink RX9 1 objectInit, Cond.instanceMethod objectInit, Cond.code objectInit ⟨#[0xb1]⟩ 1 none, Cond.classLink RX9 7 RX5, Cond.instantiable RX5 2, Cond.initialized RX5, Cond.fieldLink RX9 10 "Tenuredale" "all" "LTenuredale$Row;", Cond.classLink RX9 16 RX4, Cond.instantiable RX4 4, Cond.initialized RX4, Cond.fieldLink RX9 19 "Tenuredale" "roots" "LTenuredale$Roots;", Cond.classLink RX9 23 RX3, Cond.instantiable RX3 8, Cond.initialized RX3, Cond.fieldLink RX9 26 "Tenuredale" "places" "LTenuredale$Places;", Cond.classLink RX9 30 RX6, Cond.instantiable RX6 4, Cond.initialized RX6, Cond.fieldLink RX9 33 "Tenuredale" "tally" "LTenuredale$Tally;", Cond.classLink RX9 37 RX1, Cond.instantiable RX1 3, Cond.initialized RX1, Cond.fieldLink RX9 42 "Tenuredale" "marking" "LTenuredale$Marking;", Cond.classLink RX9 46 RX8]
def wsX9_init_r2 : List Cond := [Cond.instantiable RX8 6, Cond.initialized RX8, Cond.fieldLink RX9 49 "Tenuredale" "trace" "LTenuredale$Trace;", Cond.classLink RX9 53 RX2, Cond.instantiable RX2 9, Cond.initialized RX2, Cond.fieldLink RX9 58 "Tenuredale" "minorCollector" "LTenuredale$MinorCollector;", Cond.classLink RX9 62 RX0, Cond.instantiable RX0 6, Cond.initialized RX0, Cond.fieldLink RX9 67 "Tenuredale" "fullCollector" "LTenuredale$FullCollector;", Cond.instanceMethod yX5_init, Cond.code yX5_init cX5_init 1 none, Cond.methodLink RX5 3 objectInit, Cond.classLink RX5 9 RX7, Cond.fieldLink RX5 11 "Tenuredale$Row" "things" "[LTenuredale$Thing;", Cond.instanceMethod yX4_init, Cond.code yX4_init cX4_init 1 none, Cond.methodLink RX4 3 objectInit, Cond.classLink RX4 9 RX5, Cond.fieldLink RX4 12 "Tenuredale$Roots" "queue" "LTenuredale$Row;", Cond.classLink RX4 18 RX7, Cond.fieldLink RX4 20 "Tenuredale$Roots" "slots" "[LTenuredale$Thing;", Cond.fieldLink RX4 24 "Tenuredale$Roots" "globals" "[LTenuredale$Thing;"]
def wsX9_init_r3 : List Cond := [Cond.fieldLink RX4 27 "Tenuredale$Roots" "frames" "I", Cond.instanceMethod yX3_init, Cond.code yX3_init cX3_init 1 none, Cond.methodLink RX3 3 objectInit, Cond.classLink RX3 9 RX5, Cond.fieldLink RX3 12 "Tenuredale$Places" "young" "LTenuredale$Row;", Cond.fieldLink RX3 18 "Tenuredale$Places" "old" "LTenuredale$Row;", Cond.fieldLink RX3 21 "Tenuredale$Places" "large" "LTenuredale$Row;", Cond.fieldLink RX3 24 "Tenuredale$Places" "oldTop" "I", Cond.fieldLink RX3 28 "Tenuredale$Places" "oldWords" "I", Cond.arrayClass .boolean, Cond.fieldLink RX3 31 "Tenuredale$Places" "dirty" "[Z", Cond.instanceMethod yX6_init, Cond.code yX6_init cX6_init 1 none, Cond.methodLink RX6 1 objectInit, Cond.methodLink RX9 39 yX1_init, Cond.instanceMethod yX1_init, Cond.code yX1_init cX1_init 3 none, Cond.methodLink RX1 3 objectInit, Cond.fieldLink RX1 9 "Tenuredale$Marking" "all" "LTenuredale$Row;", Cond.fieldLink RX1 15 "Tenuredale$Marking" "roots" "LTenuredale$Roots;", Cond.methodLink RX9 48 yX8_init, Cond.instanceMethod yX8_init, Cond.code yX8_init cX8_init 3 none]
def wsX9_init_r4 : List Cond := [Cond.methodLink RX8 3 objectInit, Cond.classLink RX8 9 RX5, Cond.fieldLink RX8 12 "Tenuredale$Trace" "marked" "LTenuredale$Row;", Cond.fieldLink RX8 18 "Tenuredale$Trace" "all" "LTenuredale$Row;", Cond.fieldLink RX8 21 "Tenuredale$Trace" "roots" "LTenuredale$Roots;", Cond.methodLink RX9 55 yX2_init, Cond.instanceMethod yX2_init, Cond.code yX2_init cX2_init 5 none, Cond.methodLink RX2 3 objectInit, Cond.fieldLink RX2 9 "Tenuredale$MinorCollector" "tenureAge" "I", Cond.classLink RX2 15 RX5, Cond.fieldLink RX2 18 "Tenuredale$MinorCollector" "sources" "LTenuredale$Row;", Cond.fieldLink RX2 22 "Tenuredale$MinorCollector" "all" "LTenuredale$Row;", Cond.fieldLink RX2 25 "Tenuredale$MinorCollector" "roots" "LTenuredale$Roots;", Cond.fieldLink RX2 29 "Tenuredale$MinorCollector" "places" "LTenuredale$Places;", Cond.fieldLink RX2 33 "Tenuredale$MinorCollector" "tally" "LTenuredale$Tally;", Cond.methodLink RX9 64 yX0_init, Cond.instanceMethod yX0_init, Cond.code yX0_init cX0_init 7 none, Cond.methodLink RX0 3 objectInit, Cond.fieldLink RX0 9 "Tenuredale$FullCollector" "all" "LTenuredale$Row;", Cond.fieldLink RX0 15 "Tenuredale$FullCollector" "roots" "LTenuredale$Roots;", Cond.fieldLink RX0 19 "Tenuredale$FullCollector" "places" "LTenuredale$Places;", Cond.fieldLink RX0 23 "Tenuredale$FullCollector" "tally" "LTenuredale$Tally;"]
def wsX9_init_r5 : List Cond := [Cond.fieldLink RX0 27 "Tenuredale$FullCollector" "marking" "LTenuredale$Marking;", Cond.fieldLink RX0 31 "Tenuredale$FullCollector" "trace" "LTenuredale$Trace;"]
def wsX9_init : List Cond := .code yX9_init cX9_init 1 none :: ((wsX9_init_r1 ++ (wsX9_init_r2 ++ (wsX9_init_r3 ++ (wsX9_init_r4 ++ wsX9_init_r5)))) ++ wsX50 ++ wsX90 ++ wsX40 ++ wsX30 ++ wsX60 ++ wsX10 ++ wsX80 ++ wsX20 ++ wsX00)
def wsX9_push : List Cond := .code yX9_push cX9_push 1 (some .int) :: ([.classLink RX9 75 "java/lang/IllegalStateException", .initialized "java/lang/IllegalStateException", .fieldLink RX9 19 "Tenuredale" "roots" "LTenuredale$Roots;", .methodLink RX9 71 yX4_frames, .instanceMethod yX4_frames, .selects RX4 yX4_frames yX4_frames, .initialized RX4, .code yX4_frames cX4_frames 1 (some .int), .fieldLink RX4 27 "Tenuredale$Roots" "frames" "I", .methodLink RX9 82 yX4_addFrame, .instanceMethod yX4_addFrame, .selects RX4 yX4_addFrame yX4_addFrame, .code yX4_addFrame cX4_addFrame 1 none] ++ wsX90 ++ wsX40 ++ (vx_atS RX9 79 "java/lang/IllegalStateException" ["java/lang/RuntimeException", "java/lang/Exception"]).filter goodWord)
def wsX9_pop : List Cond := .code yX9_pop cX9_pop 1 (some .int) :: ([.classLink RX9 75 "java/lang/IllegalStateException", .initialized "java/lang/IllegalStateException", .fieldLink RX9 19 "Tenuredale" "roots" "LTenuredale$Roots;", .methodLink RX9 71 yX4_frames, .instanceMethod yX4_frames, .selects RX4 yX4_frames yX4_frames, .initialized RX4, .code yX4_frames cX4_frames 1 (some .int), .fieldLink RX4 27 "Tenuredale$Roots" "frames" "I", .methodLink RX9 87 yX4_dropFrame, .instanceMethod yX4_dropFrame, .selects RX4 yX4_dropFrame yX4_dropFrame, .code yX4_dropFrame cX4_dropFrame 2 none, .methodLink RX4 31 yX4_writeSlot, .instanceMethod yX4_writeSlot, .selects RX4 yX4_writeSlot yX4_writeSlot, .code yX4_writeSlot cX4_writeSlot 4 none, .fieldLink RX4 20 "Tenuredale$Roots" "slots" "[LTenuredale$Thing;", .methodLink RX4 35 yX4_indexOf, .instanceMethod yX4_indexOf, .selects RX4 yX4_indexOf yX4_indexOf, .code yX4_indexOf cX4_indexOf 2 (some .int)] ++ wsX90 ++ wsX40 ++ (vx_atS RX9 79 "java/lang/IllegalStateException" ["java/lang/RuntimeException", "java/lang/Exception"]).filter goodWord)
def wsX9_requireSlot : List Cond := .code yX9_requireSlot cX9_requireSlot 1 none :: ([.classLink RX9 170 "java/lang/IndexOutOfBoundsException", .initialized "java/lang/IndexOutOfBoundsException"] ++ (vx_atS RX9 174 "java/lang/IndexOutOfBoundsException" ["java/lang/RuntimeException", "java/lang/Exception"]).filter goodWord)
def wsX9_leastFields : List Cond := .code yX9_leastFields cX9_leastFields 1 (some .int) :: ([])
def wsX9_minor_r1 : List Cond := [Cond.fieldLink RX9 26 "Tenuredale" "places" "LTenuredale$Places;", Cond.fieldLink RX9 58 "Tenuredale" "minorCollector" "LTenuredale$MinorCollector;", Cond.fieldLink RX9 67 "Tenuredale" "fullCollector" "LTenuredale$FullCollector;", Cond.methodLink RX9 218 yX3_canOldTakeYoung, Cond.instanceMethod yX3_canOldTakeYoung, Cond.selects RX3 yX3_canOldTakeYoung yX3_canOldTakeYoung, Cond.initialized RX3, Cond.code yX3_canOldTakeYoung cX3_canOldTakeYoung 4 (some .boolean), Cond.fieldLink RX3 12 "Tenuredale$Places" "young" "LTenuredale$Row;", Cond.fieldLink RX3 79 "Tenuredale$Thing" "sizeBehindMove" "I", Cond.methodLink RX3 35 yX5_size, Cond.instanceMethod yX5_size, Cond.selects RX5 yX5_size yX5_size, Cond.initialized RX5, Cond.code yX5_size cX5_size 1 (some .int), Cond.fieldLink RX5 17 "Tenuredale$Row" "size" "I", Cond.methodLink RX3 52 yX5_item, Cond.instanceMethod yX5_item, Cond.selects RX5 yX5_item yX5_item, Cond.code yX5_item cX5_item 2 (some (.object "Tenuredale$Thing")), Cond.fieldLink RX5 11 "Tenuredale$Row" "things" "[LTenuredale$Thing;", Cond.methodLink RX3 82 yX3_oldRoom, Cond.instanceMethod yX3_oldRoom, Cond.selects RX3 yX3_oldRoom yX3_oldRoom]
def wsX9_minor_r2 : List Cond := [Cond.code yX3_oldRoom cX3_oldRoom 1 (some .int), Cond.fieldLink RX3 28 "Tenuredale$Places" "oldWords" "I", Cond.fieldLink RX3 24 "Tenuredale$Places" "oldTop" "I", Cond.methodLink RX9 222 yX2_run, Cond.instanceMethod yX2_run, Cond.selects RX2 yX2_run yX2_run, Cond.initialized RX2, Cond.code yX2_run cX2_run 2 (some .int), Cond.fieldLink RX2 25 "Tenuredale$MinorCollector" "roots" "LTenuredale$Roots;", Cond.fieldLink RX2 29 "Tenuredale$MinorCollector" "places" "LTenuredale$Places;", Cond.fieldLink RX2 33 "Tenuredale$MinorCollector" "tally" "LTenuredale$Tally;", Cond.fieldLink RX2 71 "Tenuredale$Tally" "minors" "I", Cond.fieldLink RX2 18 "Tenuredale$MinorCollector" "sources" "LTenuredale$Row;", Cond.methodLink RX2 37 yX2_begin, Cond.instanceMethod yX2_begin, Cond.selects RX2 yX2_begin yX2_begin, Cond.code yX2_begin cX2_begin 3 none, Cond.fieldLink RX2 86 "Tenuredale$MinorCollector" "followed" "I", Cond.fieldLink RX2 89 "Tenuredale$Places" "half" "I", Cond.fieldLink RX2 92 "Tenuredale$MinorCollector" "otherHalf" "I", Cond.fieldLink RX2 95 "Tenuredale$MinorCollector" "otherTop" "I", Cond.fieldLink RX2 22 "Tenuredale$MinorCollector" "all" "LTenuredale$Row;", Cond.fieldLink RX2 104 "Tenuredale$Thing" "isMoved" "Z", Cond.fieldLink RX2 110 "Tenuredale$Places" "old" "LTenuredale$Row;"]
def wsX9_minor_r3 : List Cond := [Cond.fieldLink RX2 117 "Tenuredale$Places" "large" "LTenuredale$Row;", Cond.methodLink RX2 83 yX5_clear, Cond.instanceMethod yX5_clear, Cond.selects RX5 yX5_clear yX5_clear, Cond.code yX5_clear cX5_clear 1 none, Cond.methodLink RX2 98 yX5_size, Cond.methodLink RX2 101 yX5_item, Cond.methodLink RX2 113 yX2_addDirty, Cond.instanceMethod yX2_addDirty, Cond.selects RX2 yX2_addDirty yX2_addDirty, Cond.code yX2_addDirty cX2_addDirty 4 none, Cond.methodLink RX2 120 yX7_card, Cond.instanceMethod yX7_card, Cond.selects RX7 yX7_card yX7_card, Cond.initialized RX7, Cond.code yX7_card cX7_card 1 (some .int), Cond.fieldLink RX7 34 "Tenuredale$Thing" "address" "I", Cond.methodLink RX2 123 yX3_isCardDirty, Cond.instanceMethod yX3_isCardDirty, Cond.selects RX3 yX3_isCardDirty yX3_isCardDirty, Cond.code yX3_isCardDirty cX3_isCardDirty 2 (some .boolean), Cond.fieldLink RX3 31 "Tenuredale$Places" "dirty" "[Z", Cond.methodLink RX2 127 yX5_add, Cond.instanceMethod yX5_add]
def wsX9_minor_r4 : List Cond := [Cond.selects RX5 yX5_add yX5_add, Cond.code yX5_add cX5_add 2 none, Cond.methodLink RX2 40 yX4_count, Cond.instanceMethod yX4_count, Cond.selects RX4 yX4_count yX4_count, Cond.initialized RX4, Cond.code yX4_count cX4_count 1 (some .int), Cond.fieldLink RX4 27 "Tenuredale$Roots" "frames" "I", Cond.fieldLink RX4 12 "Tenuredale$Roots" "queue" "LTenuredale$Row;", Cond.methodLink RX4 39 yX5_size, Cond.methodLink RX2 46 yX4_root, Cond.instanceMethod yX4_root, Cond.selects RX4 yX4_root yX4_root, Cond.code yX4_root cX4_root 4 (some (.object "Tenuredale$Thing")), Cond.fieldLink RX4 20 "Tenuredale$Roots" "slots" "[LTenuredale$Thing;", Cond.methodLink RX4 43 yX4_readGlobal, Cond.instanceMethod yX4_readGlobal, Cond.selects RX4 yX4_readGlobal yX4_readGlobal, Cond.code yX4_readGlobal cX4_readGlobal 2 (some (.object "Tenuredale$Thing")), Cond.fieldLink RX4 24 "Tenuredale$Roots" "globals" "[LTenuredale$Thing;", Cond.methodLink RX4 47 yX5_item, Cond.methodLink RX2 50 yX2_move, Cond.instanceMethod yX2_move, Cond.selects RX2 yX2_move yX2_move]
def wsX9_minor_r5 : List Cond := [Cond.code yX2_move cX2_move 3 none, Cond.fieldLink RX2 137 "Tenuredale$Thing" "age" "I", Cond.fieldLink RX2 140 "Tenuredale$Thing" "sizeBehindMove" "I", Cond.fieldLink RX2 9 "Tenuredale$MinorCollector" "tenureAge" "I", Cond.methodLink RX2 133 yX2_isLeft, Cond.static yX2_isLeft, Cond.code yX2_isLeft cX2_isLeft 1 (some .boolean), Cond.fieldLink RX2 130 "Tenuredale$Thing" "place" "I", Cond.methodLink RX2 143 yX3_moveToOld, Cond.instanceMethod yX3_moveToOld, Cond.selects RX3 yX3_moveToOld yX3_moveToOld, Cond.code yX3_moveToOld cX3_moveToOld 2 none, Cond.fieldLink RX3 18 "Tenuredale$Places" "old" "LTenuredale$Row;", Cond.methodLink RX3 68 yX7_moveTo, Cond.instanceMethod yX7_moveTo, Cond.selects RX7 yX7_moveTo yX7_moveTo, Cond.code yX7_moveTo cX7_moveTo 3 none, Cond.fieldLink RX7 25 "Tenuredale$Thing" "sizeBehindMove" "I", Cond.fieldLink RX7 22 "Tenuredale$Thing" "size" "I", Cond.fieldLink RX7 31 "Tenuredale$Thing" "place" "I", Cond.methodLink RX3 61 yX7_end, Cond.instanceMethod yX7_end, Cond.selects RX7 yX7_end yX7_end, Cond.code yX7_end cX7_end 1 (some .int)]
def wsX9_minor_r6 : List Cond := [Cond.methodLink RX3 76 yX5_add, Cond.methodLink RX2 146 yX7_moveTo, Cond.methodLink RX2 150 yX7_end, Cond.methodLink RX2 54 yX2_follow, Cond.instanceMethod yX2_follow, Cond.selects RX2 yX2_follow yX2_follow, Cond.code yX2_follow cX2_follow 3 none, Cond.fieldLink RX2 153 "Tenuredale$Thing" "kind" "I", Cond.fieldLink RX2 156 "Tenuredale$Thing" "fields" "[LTenuredale$Thing;", Cond.methodLink RX2 57 yX2_dropReferents, Cond.instanceMethod yX2_dropReferents, Cond.selects RX2 yX2_dropReferents yX2_dropReferents, Cond.code yX2_dropReferents cX2_dropReferents 3 none, Cond.methodLink RX2 160 yX7_read, Cond.instanceMethod yX7_read, Cond.selects RX7 yX7_read yX7_read, Cond.code yX7_read cX7_read 2 (some (.object "Tenuredale$Thing")), Cond.fieldLink RX7 18 "Tenuredale$Thing" "fields" "[LTenuredale$Thing;", Cond.methodLink RX2 163 yX7_write, Cond.instanceMethod yX7_write, Cond.selects RX7 yX7_write yX7_write, Cond.code yX7_write cX7_write 3 none, Cond.methodLink RX2 60 yX2_raiseFinals, Cond.instanceMethod yX2_raiseFinals]
def wsX9_minor_r7 : List Cond := [Cond.selects RX2 yX2_raiseFinals yX2_raiseFinals, Cond.code yX2_raiseFinals cX2_raiseFinals 3 none, Cond.fieldLink RX2 167 "Tenuredale$Roots" "queue" "LTenuredale$Row;", Cond.methodLink RX2 63 yX2_leaveHalf, Cond.instanceMethod yX2_leaveHalf, Cond.selects RX2 yX2_leaveHalf yX2_leaveHalf, Cond.code yX2_leaveHalf cX2_leaveHalf 4 (some .int), Cond.fieldLink RX2 170 "Tenuredale$Places" "young" "LTenuredale$Row;", Cond.fieldLink RX2 176 "Tenuredale$Places" "youngTop" "I", Cond.methodLink RX2 173 yX7_vanish, Cond.instanceMethod yX7_vanish, Cond.selects RX7 yX7_vanish yX7_vanish, Cond.code yX7_vanish cX7_vanish 2 none, Cond.fieldLink RX7 37 "Tenuredale$Thing" "colour" "I", Cond.methodLink RX2 66 yX3_renewCards, Cond.instanceMethod yX3_renewCards, Cond.selects RX3 yX3_renewCards yX3_renewCards, Cond.code yX3_renewCards cX3_renewCards 2 none, Cond.fieldLink RX3 21 "Tenuredale$Places" "large" "LTenuredale$Row;", Cond.methodLink RX3 129 yX3_soilYoungHolders, Cond.instanceMethod yX3_soilYoungHolders, Cond.selects RX3 yX3_soilYoungHolders yX3_soilYoungHolders, Cond.code yX3_soilYoungHolders cX3_soilYoungHolders 4 none, Cond.methodLink RX3 92 yX7_hasYoungField]
def wsX9_minor_r8 : List Cond := [Cond.instanceMethod yX7_hasYoungField, Cond.selects RX7 yX7_hasYoungField yX7_hasYoungField, Cond.code yX7_hasYoungField cX7_hasYoungField 3 (some .boolean), Cond.methodLink RX3 96 yX3_soil, Cond.instanceMethod yX3_soil, Cond.selects RX3 yX3_soil yX3_soil, Cond.code yX3_soil cX3_soil 3 none, Cond.methodLink RX3 133 yX7_card, Cond.methodLink RX2 76 yX5_words, Cond.instanceMethod yX5_words, Cond.selects RX5 yX5_words yX5_words, Cond.code yX5_words cX5_words 4 (some .int), Cond.fieldLink RX5 35 "Tenuredale$Thing" "size" "I", Cond.methodLink RX2 79 yX6_noteTouched, Cond.instanceMethod yX6_noteTouched, Cond.selects RX6 yX6_noteTouched yX6_noteTouched, Cond.initialized RX6, Cond.code yX6_noteTouched cX6_noteTouched 2 none, Cond.fieldLink RX6 7 "Tenuredale$Tally" "latestTouched" "I", Cond.fieldLink RX6 13 "Tenuredale$Tally" "mostTouched" "I", Cond.methodLink RX6 16 Lib.Math.max.name, Cond.static Lib.Math.max.name, Cond.initialized "java/lang/Math", Cond.code Lib.Math.max.name Lib.Math.max.code 2 (some .int)]
def wsX9_minor_r9 : List Cond := [Cond.methodLink RX9 225 yX0_run, Cond.instanceMethod yX0_run, Cond.selects RX0 yX0_run yX0_run, Cond.initialized RX0, Cond.code yX0_run cX0_run 5 (some .int), Cond.fieldLink RX0 31 "Tenuredale$FullCollector" "trace" "LTenuredale$Trace;", Cond.fieldLink RX0 19 "Tenuredale$FullCollector" "places" "LTenuredale$Places;", Cond.fieldLink RX0 27 "Tenuredale$FullCollector" "marking" "LTenuredale$Marking;", Cond.fieldLink RX0 23 "Tenuredale$FullCollector" "tally" "LTenuredale$Tally;", Cond.fieldLink RX0 74 "Tenuredale$Tally" "fulls" "I", Cond.methodLink RX0 35 yX8_begin, Cond.instanceMethod yX8_begin, Cond.selects RX8 yX8_begin yX8_begin, Cond.initialized RX8, Cond.code yX8_begin cX8_begin 5 none, Cond.fieldLink RX8 25 "Tenuredale$Trace" "isSoftKept" "Z", Cond.fieldLink RX8 29 "Tenuredale$Trace" "hollow" "LTenuredale$Thing;", Cond.fieldLink RX8 12 "Tenuredale$Trace" "marked" "LTenuredale$Row;", Cond.fieldLink RX8 36 "Tenuredale$Trace" "scanned" "I", Cond.fieldLink RX8 18 "Tenuredale$Trace" "all" "LTenuredale$Row;", Cond.fieldLink RX8 48 "Tenuredale$Thing" "isMarked" "Z", Cond.fieldLink RX8 53 "Tenuredale$Thing" "isCut" "Z", Cond.methodLink RX8 33 yX5_clear, Cond.methodLink RX8 40 yX5_size]
def wsX9_minor_r10 : List Cond := [Cond.methodLink RX8 44 yX5_item, Cond.methodLink RX0 41 yX8_markBlack, Cond.instanceMethod yX8_markBlack, Cond.selects RX8 yX8_markBlack yX8_markBlack, Cond.code yX8_markBlack cX8_markBlack 3 none, Cond.fieldLink RX8 71 "Tenuredale$Thing" "colour" "I", Cond.methodLink RX8 64 yX8_mark, Cond.instanceMethod yX8_mark, Cond.selects RX8 yX8_mark yX8_mark, Cond.code yX8_mark cX8_mark 2 none, Cond.methodLink RX8 74 yX5_add, Cond.methodLink RX0 44 yX8_markRoots, Cond.instanceMethod yX8_markRoots, Cond.selects RX8 yX8_markRoots yX8_markRoots, Cond.code yX8_markRoots cX8_markRoots 3 none, Cond.fieldLink RX8 21 "Tenuredale$Trace" "roots" "LTenuredale$Roots;", Cond.fieldLink RX8 68 "Tenuredale$Thing" "isPinned" "Z", Cond.methodLink RX8 56 yX4_count, Cond.methodLink RX8 61 yX4_root, Cond.methodLink RX0 47 yX8_spread, Cond.instanceMethod yX8_spread, Cond.selects RX8 yX8_spread yX8_spread, Cond.code yX8_spread cX8_spread 2 none, Cond.methodLink RX8 77 yX8_markFieldsOf]
def wsX9_minor_r11 : List Cond := [Cond.instanceMethod yX8_markFieldsOf, Cond.selects RX8 yX8_markFieldsOf yX8_markFieldsOf, Cond.code yX8_markFieldsOf cX8_markFieldsOf 3 none, Cond.fieldLink RX8 84 "Tenuredale$Thing" "kind" "I", Cond.fieldLink RX8 91 "Tenuredale$Thing" "fields" "[LTenuredale$Thing;", Cond.methodLink RX8 87 yX8_firstStrongField, Cond.instanceMethod yX8_firstStrongField, Cond.selects RX8 yX8_firstStrongField yX8_firstStrongField, Cond.code yX8_firstStrongField cX8_firstStrongField 2 (some .int), Cond.static yX9_isLoose, Cond.initialized RX9, Cond.code yX9_isLoose cX9_isLoose 2 (some .boolean), Cond.methodLink RX8 80 yX8_markValues, Cond.instanceMethod yX8_markValues, Cond.selects RX8 yX8_markValues yX8_markValues, Cond.code yX8_markValues cX8_markValues 4 (some .boolean), Cond.methodLink RX8 99 yX8_hasMarked, Cond.static yX8_hasMarked, Cond.code yX8_hasMarked cX8_hasMarked 3 (some .boolean), Cond.methodLink RX8 103 yX7_read, Cond.methodLink RX0 50 yX0_dropReferences, Cond.instanceMethod yX0_dropReferences, Cond.selects RX0 yX0_dropReferences yX0_dropReferences, Cond.code yX0_dropReferences cX0_dropReferences 4 none]
def wsX9_minor_r12 : List Cond := [Cond.fieldLink RX0 9 "Tenuredale$FullCollector" "all" "LTenuredale$Row;", Cond.fieldLink RX0 96 "Tenuredale$Thing" "kind" "I", Cond.fieldLink RX0 101 "Tenuredale$Thing" "isMarked" "Z", Cond.methodLink RX0 87 yX5_size, Cond.methodLink RX0 92 yX5_item, Cond.methodLink RX0 105 yX8_hasMarked, Cond.methodLink RX0 109 yX7_write, Cond.methodLink RX0 54 yX0_raiseFinals, Cond.instanceMethod yX0_raiseFinals, Cond.selects RX0 yX0_raiseFinals yX0_raiseFinals, Cond.code yX0_raiseFinals cX0_raiseFinals 3 none, Cond.fieldLink RX0 117 "Tenuredale$Thing" "place" "I", Cond.fieldLink RX0 15 "Tenuredale$FullCollector" "roots" "LTenuredale$Roots;", Cond.fieldLink RX0 120 "Tenuredale$Roots" "queue" "LTenuredale$Row;", Cond.methodLink RX0 125 yX5_add, Cond.methodLink RX0 129 yX8_mark, Cond.methodLink RX0 57 yX0_sweep, Cond.instanceMethod yX0_sweep, Cond.selects RX0 yX0_sweep yX0_sweep, Cond.code yX0_sweep cX0_sweep 4 (some .int), Cond.methodLink RX0 132 yX7_vanish, Cond.methodLink RX0 61 yX3_compact, Cond.instanceMethod yX3_compact, Cond.selects RX3 yX3_compact yX3_compact]
def wsX9_minor_r13 : List Cond := [Cond.code yX3_compact cX3_compact 2 (some .int), Cond.methodLink RX3 88 yX5_keepOnly, Cond.instanceMethod yX5_keepOnly, Cond.selects RX5 yX5_keepOnly yX5_keepOnly, Cond.code yX5_keepOnly cX5_keepOnly 5 none, Cond.fieldLink RX5 32 "Tenuredale$Thing" "place" "I", Cond.methodLink RX5 21 yX5_add, Cond.methodLink RX3 99 yX3_slideOld, Cond.instanceMethod yX3_slideOld, Cond.selects RX3 yX3_slideOld yX3_slideOld, Cond.code yX3_slideOld cX3_slideOld 4 (some .int), Cond.fieldLink RX3 108 "Tenuredale$Thing" "isPinned" "Z", Cond.fieldLink RX3 56 "Tenuredale$Thing" "address" "I", Cond.fieldLink RX3 112 "Tenuredale$Thing" "size" "I", Cond.methodLink RX3 102 yX3_emptyYoung, Cond.instanceMethod yX3_emptyYoung, Cond.selects RX3 yX3_emptyYoung yX3_emptyYoung, Cond.code yX3_emptyYoung cX3_emptyYoung 3 (some .int), Cond.fieldLink RX3 49 "Tenuredale$Places" "half" "I", Cond.fieldLink RX3 46 "Tenuredale$Places" "youngTop" "I", Cond.methodLink RX3 114 yX3_canOldTakeYoung, Cond.methodLink RX3 85 yX3_moveToOld, Cond.methodLink RX3 39 yX5_words, Cond.methodLink RX3 117 yX5_clear]
def wsX9_minor_r14 : List Cond := [Cond.methodLink RX3 105 yX3_resizeOld, Cond.instanceMethod yX3_resizeOld, Cond.selects RX3 yX3_resizeOld yX3_resizeOld, Cond.code yX3_resizeOld cX3_resizeOld 2 none, Cond.methodLink RX3 120 Lib.Math.min.name, Cond.static Lib.Math.min.name, Cond.code Lib.Math.min.name Lib.Math.min.code 2 (some .int), Cond.methodLink RX3 126 Lib.Math.max.name, Cond.methodLink RX0 66 yX3_renewCards, Cond.methodLink RX0 69 yX1_end, Cond.instanceMethod yX1_end, Cond.selects RX1 yX1_end yX1_end, Cond.initialized RX1, Cond.code yX1_end cX1_end 1 none, Cond.fieldLink RX1 19 "Tenuredale$Marking" "isOn" "Z", Cond.methodLink RX0 80 yX3_words, Cond.instanceMethod yX3_words, Cond.selects RX3 yX3_words yX3_words, Cond.code yX3_words cX3_words 1 (some .int), Cond.methodLink RX0 83 yX6_noteTouched]
def wsX9_minor : List Cond := .code yX9_minor cX9_minor 1 (some .int) :: ((wsX9_minor_r1 ++ (wsX9_minor_r2 ++ (wsX9_minor_r3 ++ (wsX9_minor_r4 ++ (wsX9_minor_r5 ++ (wsX9_minor_r6 ++ (wsX9_minor_r7 ++ (wsX9_minor_r8 ++ (wsX9_minor_r9 ++ (wsX9_minor_r10 ++ (wsX9_minor_r11 ++ (wsX9_minor_r12 ++ (wsX9_minor_r13 ++ wsX9_minor_r14))))))))))))) ++ wsX90 ++ wsX30 ++ wsX70 ++ wsX50 ++ wsX20 ++ wsX60 ++ wsX40 ++ wsX00 ++ wsX80 ++ wsX10)
def wsX9_full_r1 : List Cond := [Cond.fieldLink RX9 67 "Tenuredale" "fullCollector" "LTenuredale$FullCollector;", Cond.methodLink RX9 225 yX0_run, Cond.instanceMethod yX0_run, Cond.selects RX0 yX0_run yX0_run, Cond.initialized RX0, Cond.code yX0_run cX0_run 5 (some .int), Cond.fieldLink RX0 31 "Tenuredale$FullCollector" "trace" "LTenuredale$Trace;", Cond.fieldLink RX0 19 "Tenuredale$FullCollector" "places" "LTenuredale$Places;", Cond.fieldLink RX0 27 "Tenuredale$FullCollector" "marking" "LTenuredale$Marking;", Cond.fieldLink RX0 23 "Tenuredale$FullCollector" "tally" "LTenuredale$Tally;", Cond.fieldLink RX0 74 "Tenuredale$Tally" "fulls" "I", Cond.methodLink RX0 35 yX8_begin, Cond.instanceMethod yX8_begin, Cond.selects RX8 yX8_begin yX8_begin, Cond.initialized RX8, Cond.code yX8_begin cX8_begin 5 none, Cond.fieldLink RX8 25 "Tenuredale$Trace" "isSoftKept" "Z", Cond.fieldLink RX8 29 "Tenuredale$Trace" "hollow" "LTenuredale$Thing;", Cond.fieldLink RX8 12 "Tenuredale$Trace" "marked" "LTenuredale$Row;", Cond.fieldLink RX8 36 "Tenuredale$Trace" "scanned" "I", Cond.fieldLink RX8 18 "Tenuredale$Trace" "all" "LTenuredale$Row;", Cond.fieldLink RX8 48 "Tenuredale$Thing" "isMarked" "Z", Cond.fieldLink RX8 53 "Tenuredale$Thing" "isCut" "Z", Cond.methodLink RX8 33 yX5_clear]
def wsX9_full_r2 : List Cond := [Cond.instanceMethod yX5_clear, Cond.selects RX5 yX5_clear yX5_clear, Cond.initialized RX5, Cond.code yX5_clear cX5_clear 1 none, Cond.fieldLink RX5 17 "Tenuredale$Row" "size" "I", Cond.methodLink RX8 40 yX5_size, Cond.instanceMethod yX5_size, Cond.selects RX5 yX5_size yX5_size, Cond.code yX5_size cX5_size 1 (some .int), Cond.methodLink RX8 44 yX5_item, Cond.instanceMethod yX5_item, Cond.selects RX5 yX5_item yX5_item, Cond.code yX5_item cX5_item 2 (some (.object "Tenuredale$Thing")), Cond.fieldLink RX5 11 "Tenuredale$Row" "things" "[LTenuredale$Thing;", Cond.methodLink RX0 41 yX8_markBlack, Cond.instanceMethod yX8_markBlack, Cond.selects RX8 yX8_markBlack yX8_markBlack, Cond.code yX8_markBlack cX8_markBlack 3 none, Cond.fieldLink RX8 71 "Tenuredale$Thing" "colour" "I", Cond.methodLink RX8 64 yX8_mark, Cond.instanceMethod yX8_mark, Cond.selects RX8 yX8_mark yX8_mark, Cond.code yX8_mark cX8_mark 2 none, Cond.methodLink RX8 74 yX5_add]
def wsX9_full_r3 : List Cond := [Cond.instanceMethod yX5_add, Cond.selects RX5 yX5_add yX5_add, Cond.code yX5_add cX5_add 2 none, Cond.methodLink RX0 44 yX8_markRoots, Cond.instanceMethod yX8_markRoots, Cond.selects RX8 yX8_markRoots yX8_markRoots, Cond.code yX8_markRoots cX8_markRoots 3 none, Cond.fieldLink RX8 21 "Tenuredale$Trace" "roots" "LTenuredale$Roots;", Cond.fieldLink RX8 68 "Tenuredale$Thing" "isPinned" "Z", Cond.methodLink RX8 56 yX4_count, Cond.instanceMethod yX4_count, Cond.selects RX4 yX4_count yX4_count, Cond.initialized RX4, Cond.code yX4_count cX4_count 1 (some .int), Cond.fieldLink RX4 27 "Tenuredale$Roots" "frames" "I", Cond.fieldLink RX4 12 "Tenuredale$Roots" "queue" "LTenuredale$Row;", Cond.methodLink RX4 39 yX5_size, Cond.methodLink RX8 61 yX4_root, Cond.instanceMethod yX4_root, Cond.selects RX4 yX4_root yX4_root, Cond.code yX4_root cX4_root 4 (some (.object "Tenuredale$Thing")), Cond.fieldLink RX4 20 "Tenuredale$Roots" "slots" "[LTenuredale$Thing;", Cond.methodLink RX4 43 yX4_readGlobal, Cond.instanceMethod yX4_readGlobal]
def wsX9_full_r4 : List Cond := [Cond.selects RX4 yX4_readGlobal yX4_readGlobal, Cond.code yX4_readGlobal cX4_readGlobal 2 (some (.object "Tenuredale$Thing")), Cond.fieldLink RX4 24 "Tenuredale$Roots" "globals" "[LTenuredale$Thing;", Cond.methodLink RX4 47 yX5_item, Cond.methodLink RX0 47 yX8_spread, Cond.instanceMethod yX8_spread, Cond.selects RX8 yX8_spread yX8_spread, Cond.code yX8_spread cX8_spread 2 none, Cond.methodLink RX8 77 yX8_markFieldsOf, Cond.instanceMethod yX8_markFieldsOf, Cond.selects RX8 yX8_markFieldsOf yX8_markFieldsOf, Cond.code yX8_markFieldsOf cX8_markFieldsOf 3 none, Cond.fieldLink RX8 84 "Tenuredale$Thing" "kind" "I", Cond.fieldLink RX8 91 "Tenuredale$Thing" "fields" "[LTenuredale$Thing;", Cond.methodLink RX8 87 yX8_firstStrongField, Cond.instanceMethod yX8_firstStrongField, Cond.selects RX8 yX8_firstStrongField yX8_firstStrongField, Cond.code yX8_firstStrongField cX8_firstStrongField 2 (some .int), Cond.static yX9_isLoose, Cond.initialized RX9, Cond.code yX9_isLoose cX9_isLoose 2 (some .boolean), Cond.methodLink RX8 80 yX8_markValues, Cond.instanceMethod yX8_markValues, Cond.selects RX8 yX8_markValues yX8_markValues]
def wsX9_full_r5 : List Cond := [Cond.code yX8_markValues cX8_markValues 4 (some .boolean), Cond.methodLink RX8 99 yX8_hasMarked, Cond.static yX8_hasMarked, Cond.code yX8_hasMarked cX8_hasMarked 3 (some .boolean), Cond.methodLink RX8 103 yX7_read, Cond.instanceMethod yX7_read, Cond.selects RX7 yX7_read yX7_read, Cond.initialized RX7, Cond.code yX7_read cX7_read 2 (some (.object "Tenuredale$Thing")), Cond.fieldLink RX7 18 "Tenuredale$Thing" "fields" "[LTenuredale$Thing;", Cond.methodLink RX0 50 yX0_dropReferences, Cond.instanceMethod yX0_dropReferences, Cond.selects RX0 yX0_dropReferences yX0_dropReferences, Cond.code yX0_dropReferences cX0_dropReferences 4 none, Cond.fieldLink RX0 9 "Tenuredale$FullCollector" "all" "LTenuredale$Row;", Cond.fieldLink RX0 96 "Tenuredale$Thing" "kind" "I", Cond.fieldLink RX0 101 "Tenuredale$Thing" "isMarked" "Z", Cond.methodLink RX0 87 yX5_size, Cond.methodLink RX0 92 yX5_item, Cond.methodLink RX0 105 yX8_hasMarked, Cond.methodLink RX0 109 yX7_write, Cond.instanceMethod yX7_write, Cond.selects RX7 yX7_write yX7_write, Cond.code yX7_write cX7_write 3 none]
def wsX9_full_r6 : List Cond := [Cond.methodLink RX0 54 yX0_raiseFinals, Cond.instanceMethod yX0_raiseFinals, Cond.selects RX0 yX0_raiseFinals yX0_raiseFinals, Cond.code yX0_raiseFinals cX0_raiseFinals 3 none, Cond.fieldLink RX0 117 "Tenuredale$Thing" "place" "I", Cond.fieldLink RX0 15 "Tenuredale$FullCollector" "roots" "LTenuredale$Roots;", Cond.fieldLink RX0 120 "Tenuredale$Roots" "queue" "LTenuredale$Row;", Cond.methodLink RX0 125 yX5_add, Cond.methodLink RX0 129 yX8_mark, Cond.methodLink RX0 57 yX0_sweep, Cond.instanceMethod yX0_sweep, Cond.selects RX0 yX0_sweep yX0_sweep, Cond.code yX0_sweep cX0_sweep 4 (some .int), Cond.methodLink RX0 132 yX7_vanish, Cond.instanceMethod yX7_vanish, Cond.selects RX7 yX7_vanish yX7_vanish, Cond.code yX7_vanish cX7_vanish 2 none, Cond.fieldLink RX7 31 "Tenuredale$Thing" "place" "I", Cond.fieldLink RX7 37 "Tenuredale$Thing" "colour" "I", Cond.methodLink RX0 61 yX3_compact, Cond.instanceMethod yX3_compact, Cond.selects RX3 yX3_compact yX3_compact, Cond.initialized RX3, Cond.code yX3_compact cX3_compact 2 (some .int)]
def wsX9_full_r7 : List Cond := [Cond.fieldLink RX3 12 "Tenuredale$Places" "young" "LTenuredale$Row;", Cond.fieldLink RX3 18 "Tenuredale$Places" "old" "LTenuredale$Row;", Cond.fieldLink RX3 21 "Tenuredale$Places" "large" "LTenuredale$Row;", Cond.methodLink RX3 88 yX5_keepOnly, Cond.instanceMethod yX5_keepOnly, Cond.selects RX5 yX5_keepOnly yX5_keepOnly, Cond.code yX5_keepOnly cX5_keepOnly 5 none, Cond.fieldLink RX5 32 "Tenuredale$Thing" "place" "I", Cond.methodLink RX5 21 yX5_add, Cond.methodLink RX3 99 yX3_slideOld, Cond.instanceMethod yX3_slideOld, Cond.selects RX3 yX3_slideOld yX3_slideOld, Cond.code yX3_slideOld cX3_slideOld 4 (some .int), Cond.fieldLink RX3 24 "Tenuredale$Places" "oldTop" "I", Cond.fieldLink RX3 108 "Tenuredale$Thing" "isPinned" "Z", Cond.fieldLink RX3 56 "Tenuredale$Thing" "address" "I", Cond.fieldLink RX3 112 "Tenuredale$Thing" "size" "I", Cond.methodLink RX3 35 yX5_size, Cond.methodLink RX3 52 yX5_item, Cond.methodLink RX3 68 yX7_moveTo, Cond.instanceMethod yX7_moveTo, Cond.selects RX7 yX7_moveTo yX7_moveTo, Cond.code yX7_moveTo cX7_moveTo 3 none, Cond.fieldLink RX7 25 "Tenuredale$Thing" "sizeBehindMove" "I"]
def wsX9_full_r8 : List Cond := [Cond.fieldLink RX7 22 "Tenuredale$Thing" "size" "I", Cond.fieldLink RX7 34 "Tenuredale$Thing" "address" "I", Cond.methodLink RX3 61 yX7_end, Cond.instanceMethod yX7_end, Cond.selects RX7 yX7_end yX7_end, Cond.code yX7_end cX7_end 1 (some .int), Cond.methodLink RX3 102 yX3_emptyYoung, Cond.instanceMethod yX3_emptyYoung, Cond.selects RX3 yX3_emptyYoung yX3_emptyYoung, Cond.code yX3_emptyYoung cX3_emptyYoung 3 (some .int), Cond.fieldLink RX3 49 "Tenuredale$Places" "half" "I", Cond.fieldLink RX3 46 "Tenuredale$Places" "youngTop" "I", Cond.methodLink RX3 114 yX3_canOldTakeYoung, Cond.instanceMethod yX3_canOldTakeYoung, Cond.selects RX3 yX3_canOldTakeYoung yX3_canOldTakeYoung, Cond.code yX3_canOldTakeYoung cX3_canOldTakeYoung 4 (some .boolean), Cond.fieldLink RX3 79 "Tenuredale$Thing" "sizeBehindMove" "I", Cond.methodLink RX3 82 yX3_oldRoom, Cond.instanceMethod yX3_oldRoom, Cond.selects RX3 yX3_oldRoom yX3_oldRoom, Cond.code yX3_oldRoom cX3_oldRoom 1 (some .int), Cond.fieldLink RX3 28 "Tenuredale$Places" "oldWords" "I", Cond.methodLink RX3 85 yX3_moveToOld, Cond.instanceMethod yX3_moveToOld]
def wsX9_full_r9 : List Cond := [Cond.selects RX3 yX3_moveToOld yX3_moveToOld, Cond.code yX3_moveToOld cX3_moveToOld 2 none, Cond.methodLink RX3 76 yX5_add, Cond.methodLink RX3 39 yX5_words, Cond.instanceMethod yX5_words, Cond.selects RX5 yX5_words yX5_words, Cond.code yX5_words cX5_words 4 (some .int), Cond.fieldLink RX5 35 "Tenuredale$Thing" "size" "I", Cond.methodLink RX3 117 yX5_clear, Cond.methodLink RX3 105 yX3_resizeOld, Cond.instanceMethod yX3_resizeOld, Cond.selects RX3 yX3_resizeOld yX3_resizeOld, Cond.code yX3_resizeOld cX3_resizeOld 2 none, Cond.methodLink RX3 120 Lib.Math.min.name, Cond.static Lib.Math.min.name, Cond.initialized "java/lang/Math", Cond.code Lib.Math.min.name Lib.Math.min.code 2 (some .int), Cond.methodLink RX3 126 Lib.Math.max.name, Cond.static Lib.Math.max.name, Cond.code Lib.Math.max.name Lib.Math.max.code 2 (some .int), Cond.methodLink RX0 66 yX3_renewCards, Cond.instanceMethod yX3_renewCards, Cond.selects RX3 yX3_renewCards yX3_renewCards, Cond.code yX3_renewCards cX3_renewCards 2 none]
def wsX9_full_r10 : List Cond := [Cond.fieldLink RX3 31 "Tenuredale$Places" "dirty" "[Z", Cond.methodLink RX3 129 yX3_soilYoungHolders, Cond.instanceMethod yX3_soilYoungHolders, Cond.selects RX3 yX3_soilYoungHolders yX3_soilYoungHolders, Cond.code yX3_soilYoungHolders cX3_soilYoungHolders 4 none, Cond.methodLink RX3 92 yX7_hasYoungField, Cond.instanceMethod yX7_hasYoungField, Cond.selects RX7 yX7_hasYoungField yX7_hasYoungField, Cond.code yX7_hasYoungField cX7_hasYoungField 3 (some .boolean), Cond.methodLink RX3 96 yX3_soil, Cond.instanceMethod yX3_soil, Cond.selects RX3 yX3_soil yX3_soil, Cond.code yX3_soil cX3_soil 3 none, Cond.methodLink RX3 133 yX7_card, Cond.instanceMethod yX7_card, Cond.selects RX7 yX7_card yX7_card, Cond.code yX7_card cX7_card 1 (some .int), Cond.methodLink RX0 69 yX1_end, Cond.instanceMethod yX1_end, Cond.selects RX1 yX1_end yX1_end, Cond.initialized RX1, Cond.code yX1_end cX1_end 1 none, Cond.fieldLink RX1 19 "Tenuredale$Marking" "isOn" "Z", Cond.methodLink RX0 80 yX3_words]
def wsX9_full_r11 : List Cond := [Cond.instanceMethod yX3_words, Cond.selects RX3 yX3_words yX3_words, Cond.code yX3_words cX3_words 1 (some .int), Cond.methodLink RX0 83 yX6_noteTouched, Cond.instanceMethod yX6_noteTouched, Cond.selects RX6 yX6_noteTouched yX6_noteTouched, Cond.initialized RX6, Cond.code yX6_noteTouched cX6_noteTouched 2 none, Cond.fieldLink RX6 7 "Tenuredale$Tally" "latestTouched" "I", Cond.fieldLink RX6 13 "Tenuredale$Tally" "mostTouched" "I", Cond.methodLink RX6 16 Lib.Math.max.name]
def wsX9_full : List Cond := .code yX9_full cX9_full 2 (some .int) :: ((wsX9_full_r1 ++ (wsX9_full_r2 ++ (wsX9_full_r3 ++ (wsX9_full_r4 ++ (wsX9_full_r5 ++ (wsX9_full_r6 ++ (wsX9_full_r7 ++ (wsX9_full_r8 ++ (wsX9_full_r9 ++ (wsX9_full_r10 ++ wsX9_full_r11)))))))))) ++ wsX90 ++ wsX00 ++ wsX60 ++ wsX80 ++ wsX70 ++ wsX50 ++ wsX40 ++ wsX30 ++ wsX10)
def wsX9_make_r1 : List Cond := [Cond.classLink RX9 98 "java/lang/IllegalArgumentException", Cond.initialized "java/lang/IllegalArgumentException", Cond.classLink RX9 75 "java/lang/IllegalStateException", Cond.initialized "java/lang/IllegalStateException", Cond.fieldLink RX9 10 "Tenuredale" "all" "LTenuredale$Row;", Cond.fieldLink RX9 26 "Tenuredale" "places" "LTenuredale$Places;", Cond.classLink RX9 118 RX7, Cond.instantiable RX7 14, Cond.initialized RX7, Cond.fieldLink RX9 42 "Tenuredale" "marking" "LTenuredale$Marking;", Cond.fieldLink RX9 19 "Tenuredale" "roots" "LTenuredale$Roots;", Cond.fieldLink RX9 138 "Tenuredale$Thing" "number" "I", Cond.methodLink RX9 90 yX9_requireSlot, Cond.static yX9_requireSlot, Cond.initialized RX9, Cond.code yX9_requireSlot cX9_requireSlot 1 none, Cond.classLink RX9 170 "java/lang/IndexOutOfBoundsException", Cond.initialized "java/lang/IndexOutOfBoundsException", Cond.methodLink RX9 94 yX9_leastFields, Cond.static yX9_leastFields, Cond.code yX9_leastFields cX9_leastFields 1 (some .int), Cond.methodLink RX9 103 yX5_size, Cond.instanceMethod yX5_size, Cond.selects RX5 yX5_size yX5_size]
def wsX9_make_r2 : List Cond := [Cond.initialized RX5, Cond.code yX5_size cX5_size 1 (some .int), Cond.fieldLink RX5 17 "Tenuredale$Row" "size" "I", Cond.methodLink RX9 108 yX3_gapFor, Cond.instanceMethod yX3_gapFor, Cond.selects RX3 yX3_gapFor yX3_gapFor, Cond.initialized RX3, Cond.code yX3_gapFor cX3_gapFor 3 (some .int), Cond.fieldLink RX3 46 "Tenuredale$Places" "youngTop" "I", Cond.fieldLink RX3 49 "Tenuredale$Places" "half" "I", Cond.methodLink RX3 42 yX3_largeGapFor, Cond.instanceMethod yX3_largeGapFor, Cond.selects RX3 yX3_largeGapFor yX3_largeGapFor, Cond.code yX3_largeGapFor cX3_largeGapFor 5 (some .int), Cond.fieldLink RX3 21 "Tenuredale$Places" "large" "LTenuredale$Row;", Cond.fieldLink RX3 56 "Tenuredale$Thing" "address" "I", Cond.methodLink RX3 35 yX5_size, Cond.methodLink RX3 52 yX5_item, Cond.instanceMethod yX5_item, Cond.selects RX5 yX5_item yX5_item, Cond.code yX5_item cX5_item 2 (some (.object "Tenuredale$Thing")), Cond.fieldLink RX5 11 "Tenuredale$Row" "things" "[LTenuredale$Thing;", Cond.methodLink RX3 61 yX7_end, Cond.instanceMethod yX7_end]
def wsX9_make_r3 : List Cond := [Cond.selects RX7 yX7_end yX7_end, Cond.code yX7_end cX7_end 1 (some .int), Cond.fieldLink RX7 34 "Tenuredale$Thing" "address" "I", Cond.fieldLink RX7 22 "Tenuredale$Thing" "size" "I", Cond.methodLink RX9 111 yX9_minor, Cond.instanceMethod yX9_minor, Cond.selects RX9 yX9_minor yX9_minor, Cond.code yX9_minor cX9_minor 1 (some .int), Cond.fieldLink RX9 58 "Tenuredale" "minorCollector" "LTenuredale$MinorCollector;", Cond.fieldLink RX9 67 "Tenuredale" "fullCollector" "LTenuredale$FullCollector;", Cond.methodLink RX9 218 yX3_canOldTakeYoung, Cond.instanceMethod yX3_canOldTakeYoung, Cond.selects RX3 yX3_canOldTakeYoung yX3_canOldTakeYoung, Cond.code yX3_canOldTakeYoung cX3_canOldTakeYoung 4 (some .boolean), Cond.fieldLink RX3 12 "Tenuredale$Places" "young" "LTenuredale$Row;", Cond.fieldLink RX3 79 "Tenuredale$Thing" "sizeBehindMove" "I", Cond.methodLink RX3 82 yX3_oldRoom, Cond.instanceMethod yX3_oldRoom, Cond.selects RX3 yX3_oldRoom yX3_oldRoom, Cond.code yX3_oldRoom cX3_oldRoom 1 (some .int), Cond.fieldLink RX3 28 "Tenuredale$Places" "oldWords" "I", Cond.fieldLink RX3 24 "Tenuredale$Places" "oldTop" "I", Cond.methodLink RX9 222 yX2_run, Cond.instanceMethod yX2_run]
def wsX9_make_r4 : List Cond := [Cond.selects RX2 yX2_run yX2_run, Cond.initialized RX2, Cond.code yX2_run cX2_run 2 (some .int), Cond.fieldLink RX2 25 "Tenuredale$MinorCollector" "roots" "LTenuredale$Roots;", Cond.fieldLink RX2 29 "Tenuredale$MinorCollector" "places" "LTenuredale$Places;", Cond.fieldLink RX2 33 "Tenuredale$MinorCollector" "tally" "LTenuredale$Tally;", Cond.fieldLink RX2 71 "Tenuredale$Tally" "minors" "I", Cond.fieldLink RX2 18 "Tenuredale$MinorCollector" "sources" "LTenuredale$Row;", Cond.methodLink RX2 37 yX2_begin, Cond.instanceMethod yX2_begin, Cond.selects RX2 yX2_begin yX2_begin, Cond.code yX2_begin cX2_begin 3 none, Cond.fieldLink RX2 86 "Tenuredale$MinorCollector" "followed" "I", Cond.fieldLink RX2 89 "Tenuredale$Places" "half" "I", Cond.fieldLink RX2 92 "Tenuredale$MinorCollector" "otherHalf" "I", Cond.fieldLink RX2 95 "Tenuredale$MinorCollector" "otherTop" "I", Cond.fieldLink RX2 22 "Tenuredale$MinorCollector" "all" "LTenuredale$Row;", Cond.fieldLink RX2 104 "Tenuredale$Thing" "isMoved" "Z", Cond.fieldLink RX2 110 "Tenuredale$Places" "old" "LTenuredale$Row;", Cond.fieldLink RX2 117 "Tenuredale$Places" "large" "LTenuredale$Row;", Cond.methodLink RX2 83 yX5_clear, Cond.instanceMethod yX5_clear, Cond.selects RX5 yX5_clear yX5_clear, Cond.code yX5_clear cX5_clear 1 none]
def wsX9_make_r5 : List Cond := [Cond.methodLink RX2 98 yX5_size, Cond.methodLink RX2 101 yX5_item, Cond.methodLink RX2 113 yX2_addDirty, Cond.instanceMethod yX2_addDirty, Cond.selects RX2 yX2_addDirty yX2_addDirty, Cond.code yX2_addDirty cX2_addDirty 4 none, Cond.methodLink RX2 120 yX7_card, Cond.instanceMethod yX7_card, Cond.selects RX7 yX7_card yX7_card, Cond.code yX7_card cX7_card 1 (some .int), Cond.methodLink RX2 123 yX3_isCardDirty, Cond.instanceMethod yX3_isCardDirty, Cond.selects RX3 yX3_isCardDirty yX3_isCardDirty, Cond.code yX3_isCardDirty cX3_isCardDirty 2 (some .boolean), Cond.fieldLink RX3 31 "Tenuredale$Places" "dirty" "[Z", Cond.methodLink RX2 127 yX5_add, Cond.instanceMethod yX5_add, Cond.selects RX5 yX5_add yX5_add, Cond.code yX5_add cX5_add 2 none, Cond.methodLink RX2 40 yX4_count, Cond.instanceMethod yX4_count, Cond.selects RX4 yX4_count yX4_count, Cond.initialized RX4, Cond.code yX4_count cX4_count 1 (some .int)]
def wsX9_make_r6 : List Cond := [Cond.fieldLink RX4 27 "Tenuredale$Roots" "frames" "I", Cond.fieldLink RX4 12 "Tenuredale$Roots" "queue" "LTenuredale$Row;", Cond.methodLink RX4 39 yX5_size, Cond.methodLink RX2 46 yX4_root, Cond.instanceMethod yX4_root, Cond.selects RX4 yX4_root yX4_root, Cond.code yX4_root cX4_root 4 (some (.object "Tenuredale$Thing")), Cond.fieldLink RX4 20 "Tenuredale$Roots" "slots" "[LTenuredale$Thing;", Cond.methodLink RX4 43 yX4_readGlobal, Cond.instanceMethod yX4_readGlobal, Cond.selects RX4 yX4_readGlobal yX4_readGlobal, Cond.code yX4_readGlobal cX4_readGlobal 2 (some (.object "Tenuredale$Thing")), Cond.fieldLink RX4 24 "Tenuredale$Roots" "globals" "[LTenuredale$Thing;", Cond.methodLink RX4 47 yX5_item, Cond.methodLink RX2 50 yX2_move, Cond.instanceMethod yX2_move, Cond.selects RX2 yX2_move yX2_move, Cond.code yX2_move cX2_move 3 none, Cond.fieldLink RX2 137 "Tenuredale$Thing" "age" "I", Cond.fieldLink RX2 140 "Tenuredale$Thing" "sizeBehindMove" "I", Cond.fieldLink RX2 9 "Tenuredale$MinorCollector" "tenureAge" "I", Cond.methodLink RX2 133 yX2_isLeft, Cond.static yX2_isLeft, Cond.code yX2_isLeft cX2_isLeft 1 (some .boolean)]
def wsX9_make_r7 : List Cond := [Cond.fieldLink RX2 130 "Tenuredale$Thing" "place" "I", Cond.methodLink RX2 143 yX3_moveToOld, Cond.instanceMethod yX3_moveToOld, Cond.selects RX3 yX3_moveToOld yX3_moveToOld, Cond.code yX3_moveToOld cX3_moveToOld 2 none, Cond.fieldLink RX3 18 "Tenuredale$Places" "old" "LTenuredale$Row;", Cond.methodLink RX3 68 yX7_moveTo, Cond.instanceMethod yX7_moveTo, Cond.selects RX7 yX7_moveTo yX7_moveTo, Cond.code yX7_moveTo cX7_moveTo 3 none, Cond.fieldLink RX7 25 "Tenuredale$Thing" "sizeBehindMove" "I", Cond.fieldLink RX7 31 "Tenuredale$Thing" "place" "I", Cond.methodLink RX3 76 yX5_add, Cond.methodLink RX2 146 yX7_moveTo, Cond.methodLink RX2 150 yX7_end, Cond.methodLink RX2 54 yX2_follow, Cond.instanceMethod yX2_follow, Cond.selects RX2 yX2_follow yX2_follow, Cond.code yX2_follow cX2_follow 3 none, Cond.fieldLink RX2 153 "Tenuredale$Thing" "kind" "I", Cond.fieldLink RX2 156 "Tenuredale$Thing" "fields" "[LTenuredale$Thing;", Cond.methodLink RX2 57 yX2_dropReferents, Cond.instanceMethod yX2_dropReferents, Cond.selects RX2 yX2_dropReferents yX2_dropReferents]
def wsX9_make_r8 : List Cond := [Cond.code yX2_dropReferents cX2_dropReferents 3 none, Cond.methodLink RX2 160 yX7_read, Cond.instanceMethod yX7_read, Cond.selects RX7 yX7_read yX7_read, Cond.code yX7_read cX7_read 2 (some (.object "Tenuredale$Thing")), Cond.fieldLink RX7 18 "Tenuredale$Thing" "fields" "[LTenuredale$Thing;", Cond.methodLink RX2 163 yX7_write, Cond.instanceMethod yX7_write, Cond.selects RX7 yX7_write yX7_write, Cond.code yX7_write cX7_write 3 none, Cond.methodLink RX2 60 yX2_raiseFinals, Cond.instanceMethod yX2_raiseFinals, Cond.selects RX2 yX2_raiseFinals yX2_raiseFinals, Cond.code yX2_raiseFinals cX2_raiseFinals 3 none, Cond.fieldLink RX2 167 "Tenuredale$Roots" "queue" "LTenuredale$Row;", Cond.methodLink RX2 63 yX2_leaveHalf, Cond.instanceMethod yX2_leaveHalf, Cond.selects RX2 yX2_leaveHalf yX2_leaveHalf, Cond.code yX2_leaveHalf cX2_leaveHalf 4 (some .int), Cond.fieldLink RX2 170 "Tenuredale$Places" "young" "LTenuredale$Row;", Cond.fieldLink RX2 176 "Tenuredale$Places" "youngTop" "I", Cond.methodLink RX2 173 yX7_vanish, Cond.instanceMethod yX7_vanish, Cond.selects RX7 yX7_vanish yX7_vanish]
def wsX9_make_r9 : List Cond := [Cond.code yX7_vanish cX7_vanish 2 none, Cond.fieldLink RX7 37 "Tenuredale$Thing" "colour" "I", Cond.methodLink RX2 66 yX3_renewCards, Cond.instanceMethod yX3_renewCards, Cond.selects RX3 yX3_renewCards yX3_renewCards, Cond.code yX3_renewCards cX3_renewCards 2 none, Cond.methodLink RX3 129 yX3_soilYoungHolders, Cond.instanceMethod yX3_soilYoungHolders, Cond.selects RX3 yX3_soilYoungHolders yX3_soilYoungHolders, Cond.code yX3_soilYoungHolders cX3_soilYoungHolders 4 none, Cond.methodLink RX3 92 yX7_hasYoungField, Cond.instanceMethod yX7_hasYoungField, Cond.selects RX7 yX7_hasYoungField yX7_hasYoungField, Cond.code yX7_hasYoungField cX7_hasYoungField 3 (some .boolean), Cond.methodLink RX3 96 yX3_soil, Cond.instanceMethod yX3_soil, Cond.selects RX3 yX3_soil yX3_soil, Cond.code yX3_soil cX3_soil 3 none, Cond.methodLink RX3 133 yX7_card, Cond.methodLink RX2 76 yX5_words, Cond.instanceMethod yX5_words, Cond.selects RX5 yX5_words yX5_words, Cond.code yX5_words cX5_words 4 (some .int), Cond.fieldLink RX5 35 "Tenuredale$Thing" "size" "I"]
def wsX9_make_r10 : List Cond := [Cond.methodLink RX2 79 yX6_noteTouched, Cond.instanceMethod yX6_noteTouched, Cond.selects RX6 yX6_noteTouched yX6_noteTouched, Cond.initialized RX6, Cond.code yX6_noteTouched cX6_noteTouched 2 none, Cond.fieldLink RX6 7 "Tenuredale$Tally" "latestTouched" "I", Cond.fieldLink RX6 13 "Tenuredale$Tally" "mostTouched" "I", Cond.methodLink RX6 16 Lib.Math.max.name, Cond.static Lib.Math.max.name, Cond.initialized "java/lang/Math", Cond.code Lib.Math.max.name Lib.Math.max.code 2 (some .int), Cond.methodLink RX9 225 yX0_run, Cond.instanceMethod yX0_run, Cond.selects RX0 yX0_run yX0_run, Cond.initialized RX0, Cond.code yX0_run cX0_run 5 (some .int), Cond.fieldLink RX0 31 "Tenuredale$FullCollector" "trace" "LTenuredale$Trace;", Cond.fieldLink RX0 19 "Tenuredale$FullCollector" "places" "LTenuredale$Places;", Cond.fieldLink RX0 27 "Tenuredale$FullCollector" "marking" "LTenuredale$Marking;", Cond.fieldLink RX0 23 "Tenuredale$FullCollector" "tally" "LTenuredale$Tally;", Cond.fieldLink RX0 74 "Tenuredale$Tally" "fulls" "I", Cond.methodLink RX0 35 yX8_begin, Cond.instanceMethod yX8_begin, Cond.selects RX8 yX8_begin yX8_begin]
def wsX9_make_r11 : List Cond := [Cond.initialized RX8, Cond.code yX8_begin cX8_begin 5 none, Cond.fieldLink RX8 25 "Tenuredale$Trace" "isSoftKept" "Z", Cond.fieldLink RX8 29 "Tenuredale$Trace" "hollow" "LTenuredale$Thing;", Cond.fieldLink RX8 12 "Tenuredale$Trace" "marked" "LTenuredale$Row;", Cond.fieldLink RX8 36 "Tenuredale$Trace" "scanned" "I", Cond.fieldLink RX8 18 "Tenuredale$Trace" "all" "LTenuredale$Row;", Cond.fieldLink RX8 48 "Tenuredale$Thing" "isMarked" "Z", Cond.fieldLink RX8 53 "Tenuredale$Thing" "isCut" "Z", Cond.methodLink RX8 33 yX5_clear, Cond.methodLink RX8 40 yX5_size, Cond.methodLink RX8 44 yX5_item, Cond.methodLink RX0 41 yX8_markBlack, Cond.instanceMethod yX8_markBlack, Cond.selects RX8 yX8_markBlack yX8_markBlack, Cond.code yX8_markBlack cX8_markBlack 3 none, Cond.fieldLink RX8 71 "Tenuredale$Thing" "colour" "I", Cond.methodLink RX8 64 yX8_mark, Cond.instanceMethod yX8_mark, Cond.selects RX8 yX8_mark yX8_mark, Cond.code yX8_mark cX8_mark 2 none, Cond.methodLink RX8 74 yX5_add, Cond.methodLink RX0 44 yX8_markRoots, Cond.instanceMethod yX8_markRoots]
def wsX9_make_r12 : List Cond := [Cond.selects RX8 yX8_markRoots yX8_markRoots, Cond.code yX8_markRoots cX8_markRoots 3 none, Cond.fieldLink RX8 21 "Tenuredale$Trace" "roots" "LTenuredale$Roots;", Cond.fieldLink RX8 68 "Tenuredale$Thing" "isPinned" "Z", Cond.methodLink RX8 56 yX4_count, Cond.methodLink RX8 61 yX4_root, Cond.methodLink RX0 47 yX8_spread, Cond.instanceMethod yX8_spread, Cond.selects RX8 yX8_spread yX8_spread, Cond.code yX8_spread cX8_spread 2 none, Cond.methodLink RX8 77 yX8_markFieldsOf, Cond.instanceMethod yX8_markFieldsOf, Cond.selects RX8 yX8_markFieldsOf yX8_markFieldsOf, Cond.code yX8_markFieldsOf cX8_markFieldsOf 3 none, Cond.fieldLink RX8 84 "Tenuredale$Thing" "kind" "I", Cond.fieldLink RX8 91 "Tenuredale$Thing" "fields" "[LTenuredale$Thing;", Cond.methodLink RX8 87 yX8_firstStrongField, Cond.instanceMethod yX8_firstStrongField, Cond.selects RX8 yX8_firstStrongField yX8_firstStrongField, Cond.code yX8_firstStrongField cX8_firstStrongField 2 (some .int), Cond.static yX9_isLoose, Cond.code yX9_isLoose cX9_isLoose 2 (some .boolean), Cond.methodLink RX8 80 yX8_markValues, Cond.instanceMethod yX8_markValues]
def wsX9_make_r13 : List Cond := [Cond.selects RX8 yX8_markValues yX8_markValues, Cond.code yX8_markValues cX8_markValues 4 (some .boolean), Cond.methodLink RX8 99 yX8_hasMarked, Cond.static yX8_hasMarked, Cond.code yX8_hasMarked cX8_hasMarked 3 (some .boolean), Cond.methodLink RX8 103 yX7_read, Cond.methodLink RX0 50 yX0_dropReferences, Cond.instanceMethod yX0_dropReferences, Cond.selects RX0 yX0_dropReferences yX0_dropReferences, Cond.code yX0_dropReferences cX0_dropReferences 4 none, Cond.fieldLink RX0 9 "Tenuredale$FullCollector" "all" "LTenuredale$Row;", Cond.fieldLink RX0 96 "Tenuredale$Thing" "kind" "I", Cond.fieldLink RX0 101 "Tenuredale$Thing" "isMarked" "Z", Cond.methodLink RX0 87 yX5_size, Cond.methodLink RX0 92 yX5_item, Cond.methodLink RX0 105 yX8_hasMarked, Cond.methodLink RX0 109 yX7_write, Cond.methodLink RX0 54 yX0_raiseFinals, Cond.instanceMethod yX0_raiseFinals, Cond.selects RX0 yX0_raiseFinals yX0_raiseFinals, Cond.code yX0_raiseFinals cX0_raiseFinals 3 none, Cond.fieldLink RX0 117 "Tenuredale$Thing" "place" "I", Cond.fieldLink RX0 15 "Tenuredale$FullCollector" "roots" "LTenuredale$Roots;", Cond.fieldLink RX0 120 "Tenuredale$Roots" "queue" "LTenuredale$Row;"]
def wsX9_make_r14 : List Cond := [Cond.methodLink RX0 125 yX5_add, Cond.methodLink RX0 129 yX8_mark, Cond.methodLink RX0 57 yX0_sweep, Cond.instanceMethod yX0_sweep, Cond.selects RX0 yX0_sweep yX0_sweep, Cond.code yX0_sweep cX0_sweep 4 (some .int), Cond.methodLink RX0 132 yX7_vanish, Cond.methodLink RX0 61 yX3_compact, Cond.instanceMethod yX3_compact, Cond.selects RX3 yX3_compact yX3_compact, Cond.code yX3_compact cX3_compact 2 (some .int), Cond.methodLink RX3 88 yX5_keepOnly, Cond.instanceMethod yX5_keepOnly, Cond.selects RX5 yX5_keepOnly yX5_keepOnly, Cond.code yX5_keepOnly cX5_keepOnly 5 none, Cond.fieldLink RX5 32 "Tenuredale$Thing" "place" "I", Cond.methodLink RX5 21 yX5_add, Cond.methodLink RX3 99 yX3_slideOld, Cond.instanceMethod yX3_slideOld, Cond.selects RX3 yX3_slideOld yX3_slideOld, Cond.code yX3_slideOld cX3_slideOld 4 (some .int), Cond.fieldLink RX3 108 "Tenuredale$Thing" "isPinned" "Z", Cond.fieldLink RX3 112 "Tenuredale$Thing" "size" "I", Cond.methodLink RX3 102 yX3_emptyYoung]
def wsX9_make_r15 : List Cond := [Cond.instanceMethod yX3_emptyYoung, Cond.selects RX3 yX3_emptyYoung yX3_emptyYoung, Cond.code yX3_emptyYoung cX3_emptyYoung 3 (some .int), Cond.methodLink RX3 114 yX3_canOldTakeYoung, Cond.methodLink RX3 85 yX3_moveToOld, Cond.methodLink RX3 39 yX5_words, Cond.methodLink RX3 117 yX5_clear, Cond.methodLink RX3 105 yX3_resizeOld, Cond.instanceMethod yX3_resizeOld, Cond.selects RX3 yX3_resizeOld yX3_resizeOld, Cond.code yX3_resizeOld cX3_resizeOld 2 none, Cond.methodLink RX3 120 Lib.Math.min.name, Cond.static Lib.Math.min.name, Cond.code Lib.Math.min.name Lib.Math.min.code 2 (some .int), Cond.methodLink RX3 126 Lib.Math.max.name, Cond.methodLink RX0 66 yX3_renewCards, Cond.methodLink RX0 69 yX1_end, Cond.instanceMethod yX1_end, Cond.selects RX1 yX1_end yX1_end, Cond.initialized RX1, Cond.code yX1_end cX1_end 1 none, Cond.fieldLink RX1 19 "Tenuredale$Marking" "isOn" "Z", Cond.methodLink RX0 80 yX3_words, Cond.instanceMethod yX3_words]
def wsX9_make_r16 : List Cond := [Cond.selects RX3 yX3_words yX3_words, Cond.code yX3_words cX3_words 1 (some .int), Cond.methodLink RX0 83 yX6_noteTouched, Cond.methodLink RX9 114 yX9_full, Cond.instanceMethod yX9_full, Cond.selects RX9 yX9_full yX9_full, Cond.code yX9_full cX9_full 2 (some .int), Cond.methodLink RX9 120 yX7_init, Cond.instanceMethod yX7_init, Cond.code yX7_init cX7_init 4 none, Cond.methodLink RX7 3 objectInit, Cond.instanceMethod objectInit, Cond.code objectInit ⟨#[0xb1]⟩ 1 none, Cond.fieldLink RX7 9 "Tenuredale$Thing" "number" "I", Cond.fieldLink RX7 15 "Tenuredale$Thing" "kind" "I", Cond.classLink RX7 10 RX7, Cond.fieldLink RX7 28 "Tenuredale$Thing" "hash" "I", Cond.methodLink RX9 123 yX5_add, Cond.methodLink RX9 127 yX3_lay, Cond.instanceMethod yX3_lay, Cond.selects RX3 yX3_lay yX3_lay, Cond.code yX3_lay cX3_lay 3 none, Cond.fieldLink RX3 64 "Tenuredale$Thing" "fields" "[LTenuredale$Thing;", Cond.methodLink RX3 72 yX5_addByAddress]
def wsX9_make_r17 : List Cond := [Cond.instanceMethod yX5_addByAddress, Cond.selects RX5 yX5_addByAddress yX5_addByAddress, Cond.code yX5_addByAddress cX5_addByAddress 4 none, Cond.fieldLink RX5 25 "Tenuredale$Thing" "address" "I", Cond.methodLink RX9 131 yX1_noteMade, Cond.instanceMethod yX1_noteMade, Cond.selects RX1 yX1_noteMade yX1_noteMade, Cond.code yX1_noteMade cX1_noteMade 2 none, Cond.fieldLink RX1 33 "Tenuredale$Thing" "colour" "I", Cond.methodLink RX9 134 yX4_writeSlot, Cond.instanceMethod yX4_writeSlot, Cond.selects RX4 yX4_writeSlot yX4_writeSlot, Cond.code yX4_writeSlot cX4_writeSlot 4 none, Cond.methodLink RX4 35 yX4_indexOf, Cond.instanceMethod yX4_indexOf, Cond.selects RX4 yX4_indexOf yX4_indexOf, Cond.code yX4_indexOf cX4_indexOf 2 (some .int)]
def wsX9_make : List Cond := .code yX9_make cX9_make 6 (some .int) :: ((wsX9_make_r1 ++ (wsX9_make_r2 ++ (wsX9_make_r3 ++ (wsX9_make_r4 ++ (wsX9_make_r5 ++ (wsX9_make_r6 ++ (wsX9_make_r7 ++ (wsX9_make_r8 ++ (wsX9_make_r9 ++ (wsX9_make_r10 ++ (wsX9_make_r11 ++ (wsX9_make_r12 ++ (wsX9_make_r13 ++ (wsX9_make_r14 ++ (wsX9_make_r15 ++ (wsX9_make_r16 ++ wsX9_make_r17)))))))))))))))) ++ wsX90 ++ wsX70 ++ wsX50 ++ wsX30 ++ wsX20 ++ wsX60 ++ wsX40 ++ wsX00 ++ wsX80 ++ wsX10 ++ (vx_atS RX9 102 "java/lang/IllegalArgumentException" ["java/lang/RuntimeException", "java/lang/Exception"]).filter goodWord ++ (vx_atS RX9 79 "java/lang/IllegalStateException" ["java/lang/RuntimeException", "java/lang/Exception"]).filter goodWord ++ (vx_atS RX9 174 "java/lang/IndexOutOfBoundsException" ["java/lang/RuntimeException", "java/lang/Exception"]).filter goodWord)
def wsX9_requireSlotOrNone : List Cond := .code yX9_requireSlotOrNone cX9_requireSlotOrNone 1 none :: ([.methodLink RX9 90 yX9_requireSlot, .static yX9_requireSlot, .initialized RX9, .code yX9_requireSlot cX9_requireSlot 1 none, .classLink RX9 170 "java/lang/IndexOutOfBoundsException", .initialized "java/lang/IndexOutOfBoundsException"] ++ (vx_atS RX9 174 "java/lang/IndexOutOfBoundsException" ["java/lang/RuntimeException", "java/lang/Exception"]).filter goodWord)
def wsX9_occupant : List Cond := .code yX9_occupant cX9_occupant 3 (some (.object "Tenuredale$Thing")) :: ([.classLink RX9 75 "java/lang/IllegalStateException", .initialized "java/lang/IllegalStateException", .fieldLink RX9 19 "Tenuredale" "roots" "LTenuredale$Roots;", .methodLink RX9 155 yX4_readSlot, .instanceMethod yX4_readSlot, .selects RX4 yX4_readSlot yX4_readSlot, .initialized RX4, .code yX4_readSlot cX4_readSlot 3 (some (.object "Tenuredale$Thing")), .fieldLink RX4 20 "Tenuredale$Roots" "slots" "[LTenuredale$Thing;", .methodLink RX4 35 yX4_indexOf, .instanceMethod yX4_indexOf, .selects RX4 yX4_indexOf yX4_indexOf, .code yX4_indexOf cX4_indexOf 2 (some .int), .fieldLink RX4 27 "Tenuredale$Roots" "frames" "I"] ++ wsX90 ++ wsX40 ++ (vx_atS RX9 79 "java/lang/IllegalStateException" ["java/lang/RuntimeException", "java/lang/Exception"]).filter goodWord)
def wsX9_requireField : List Cond := .code yX9_requireField cX9_requireField 2 none :: ([.classLink RX9 170 "java/lang/IndexOutOfBoundsException", .initialized "java/lang/IndexOutOfBoundsException", .methodLink RX9 389 yX7_hasField, .instanceMethod yX7_hasField, .selects RX7 yX7_hasField yX7_hasField, .initialized RX7, .code yX7_hasField cX7_hasField 2 (some .boolean), .fieldLink RX7 18 "Tenuredale$Thing" "fields" "[LTenuredale$Thing;"] ++ wsX70 ++ (vx_atS RX9 174 "java/lang/IndexOutOfBoundsException" ["java/lang/RuntimeException", "java/lang/Exception"]).filter goodWord)
def wsX9_numberOf : List Cond := .code yX9_numberOf cX9_numberOf 1 (some .int) :: ([.fieldLink RX9 138 "Tenuredale$Thing" "number" "I"] ++ wsX70)
def wsX9_set_r1 : List Cond := [Cond.fieldLink RX9 19 "Tenuredale" "roots" "LTenuredale$Roots;", Cond.fieldLink RX9 26 "Tenuredale" "places" "LTenuredale$Places;", Cond.fieldLink RX9 42 "Tenuredale" "marking" "LTenuredale$Marking;", Cond.methodLink RX9 90 yX9_requireSlot, Cond.static yX9_requireSlot, Cond.initialized RX9, Cond.code yX9_requireSlot cX9_requireSlot 1 none, Cond.classLink RX9 170 "java/lang/IndexOutOfBoundsException", Cond.initialized "java/lang/IndexOutOfBoundsException", Cond.methodLink RX9 142 yX9_requireSlotOrNone, Cond.static yX9_requireSlotOrNone, Cond.code yX9_requireSlotOrNone cX9_requireSlotOrNone 1 none, Cond.methodLink RX9 145 yX9_occupant, Cond.instanceMethod yX9_occupant, Cond.selects RX9 yX9_occupant yX9_occupant, Cond.code yX9_occupant cX9_occupant 3 (some (.object "Tenuredale$Thing")), Cond.classLink RX9 75 "java/lang/IllegalStateException", Cond.initialized "java/lang/IllegalStateException", Cond.methodLink RX9 155 yX4_readSlot, Cond.instanceMethod yX4_readSlot, Cond.selects RX4 yX4_readSlot yX4_readSlot, Cond.initialized RX4, Cond.code yX4_readSlot cX4_readSlot 3 (some (.object "Tenuredale$Thing")), Cond.fieldLink RX4 20 "Tenuredale$Roots" "slots" "[LTenuredale$Thing;"]
def wsX9_set_r2 : List Cond := [Cond.methodLink RX4 35 yX4_indexOf, Cond.instanceMethod yX4_indexOf, Cond.selects RX4 yX4_indexOf yX4_indexOf, Cond.code yX4_indexOf cX4_indexOf 2 (some .int), Cond.fieldLink RX4 27 "Tenuredale$Roots" "frames" "I", Cond.methodLink RX9 149 yX9_requireField, Cond.static yX9_requireField, Cond.code yX9_requireField cX9_requireField 2 none, Cond.methodLink RX9 389 yX7_hasField, Cond.instanceMethod yX7_hasField, Cond.selects RX7 yX7_hasField yX7_hasField, Cond.initialized RX7, Cond.code yX7_hasField cX7_hasField 2 (some .boolean), Cond.fieldLink RX7 18 "Tenuredale$Thing" "fields" "[LTenuredale$Thing;", Cond.methodLink RX9 152 yX7_read, Cond.instanceMethod yX7_read, Cond.selects RX7 yX7_read yX7_read, Cond.code yX7_read cX7_read 2 (some (.object "Tenuredale$Thing")), Cond.methodLink RX9 158 yX7_write, Cond.instanceMethod yX7_write, Cond.selects RX7 yX7_write yX7_write, Cond.code yX7_write cX7_write 3 none, Cond.methodLink RX9 161 yX3_noteWritten, Cond.instanceMethod yX3_noteWritten]
def wsX9_set_r3 : List Cond := [Cond.selects RX3 yX3_noteWritten yX3_noteWritten, Cond.initialized RX3, Cond.code yX3_noteWritten cX3_noteWritten 3 none, Cond.fieldLink RX3 136 "Tenuredale$Thing" "place" "I", Cond.methodLink RX3 96 yX3_soil, Cond.instanceMethod yX3_soil, Cond.selects RX3 yX3_soil yX3_soil, Cond.code yX3_soil cX3_soil 3 none, Cond.fieldLink RX3 31 "Tenuredale$Places" "dirty" "[Z", Cond.methodLink RX3 133 yX7_card, Cond.instanceMethod yX7_card, Cond.selects RX7 yX7_card yX7_card, Cond.code yX7_card cX7_card 1 (some .int), Cond.fieldLink RX7 34 "Tenuredale$Thing" "address" "I", Cond.methodLink RX9 165 yX1_noteWritten, Cond.instanceMethod yX1_noteWritten, Cond.selects RX1 yX1_noteWritten yX1_noteWritten, Cond.initialized RX1, Cond.code yX1_noteWritten cX1_noteWritten 3 none, Cond.fieldLink RX1 19 "Tenuredale$Marking" "isOn" "Z", Cond.fieldLink RX1 33 "Tenuredale$Thing" "colour" "I", Cond.methodLink RX1 50 yX1_grey, Cond.static yX1_grey, Cond.code yX1_grey cX1_grey 1 none]
def wsX9_set_r4 : List Cond := [Cond.methodLink RX9 166 yX9_numberOf, Cond.static yX9_numberOf, Cond.code yX9_numberOf cX9_numberOf 1 (some .int), Cond.fieldLink RX9 138 "Tenuredale$Thing" "number" "I"]
def wsX9_set : List Cond := .code yX9_set cX9_set 7 (some .int) :: ((wsX9_set_r1 ++ (wsX9_set_r2 ++ (wsX9_set_r3 ++ wsX9_set_r4))) ++ wsX90 ++ wsX40 ++ wsX70 ++ wsX30 ++ wsX10 ++ (vx_atS RX9 174 "java/lang/IndexOutOfBoundsException" ["java/lang/RuntimeException", "java/lang/Exception"]).filter goodWord ++ (vx_atS RX9 79 "java/lang/IllegalStateException" ["java/lang/RuntimeException", "java/lang/Exception"]).filter goodWord)
def wsX9_get_r1 : List Cond := [Cond.fieldLink RX9 19 "Tenuredale" "roots" "LTenuredale$Roots;", Cond.methodLink RX9 90 yX9_requireSlot, Cond.static yX9_requireSlot, Cond.initialized RX9, Cond.code yX9_requireSlot cX9_requireSlot 1 none, Cond.classLink RX9 170 "java/lang/IndexOutOfBoundsException", Cond.initialized "java/lang/IndexOutOfBoundsException", Cond.methodLink RX9 145 yX9_occupant, Cond.instanceMethod yX9_occupant, Cond.selects RX9 yX9_occupant yX9_occupant, Cond.code yX9_occupant cX9_occupant 3 (some (.object "Tenuredale$Thing")), Cond.classLink RX9 75 "java/lang/IllegalStateException", Cond.initialized "java/lang/IllegalStateException", Cond.methodLink RX9 155 yX4_readSlot, Cond.instanceMethod yX4_readSlot, Cond.selects RX4 yX4_readSlot yX4_readSlot, Cond.initialized RX4, Cond.code yX4_readSlot cX4_readSlot 3 (some (.object "Tenuredale$Thing")), Cond.fieldLink RX4 20 "Tenuredale$Roots" "slots" "[LTenuredale$Thing;", Cond.methodLink RX4 35 yX4_indexOf, Cond.instanceMethod yX4_indexOf, Cond.selects RX4 yX4_indexOf yX4_indexOf, Cond.code yX4_indexOf cX4_indexOf 2 (some .int), Cond.fieldLink RX4 27 "Tenuredale$Roots" "frames" "I"]
def wsX9_get_r2 : List Cond := [Cond.methodLink RX9 149 yX9_requireField, Cond.static yX9_requireField, Cond.code yX9_requireField cX9_requireField 2 none, Cond.methodLink RX9 389 yX7_hasField, Cond.instanceMethod yX7_hasField, Cond.selects RX7 yX7_hasField yX7_hasField, Cond.initialized RX7, Cond.code yX7_hasField cX7_hasField 2 (some .boolean), Cond.fieldLink RX7 18 "Tenuredale$Thing" "fields" "[LTenuredale$Thing;", Cond.methodLink RX9 152 yX7_read, Cond.instanceMethod yX7_read, Cond.selects RX7 yX7_read yX7_read, Cond.code yX7_read cX7_read 2 (some (.object "Tenuredale$Thing")), Cond.methodLink RX9 134 yX4_writeSlot, Cond.instanceMethod yX4_writeSlot, Cond.selects RX4 yX4_writeSlot yX4_writeSlot, Cond.code yX4_writeSlot cX4_writeSlot 4 none, Cond.methodLink RX9 166 yX9_numberOf, Cond.static yX9_numberOf, Cond.code yX9_numberOf cX9_numberOf 1 (some .int), Cond.fieldLink RX9 138 "Tenuredale$Thing" "number" "I"]
def wsX9_get : List Cond := .code yX9_get cX9_get 6 (some .int) :: ((wsX9_get_r1 ++ wsX9_get_r2) ++ wsX90 ++ wsX40 ++ wsX70 ++ (vx_atS RX9 174 "java/lang/IndexOutOfBoundsException" ["java/lang/RuntimeException", "java/lang/Exception"]).filter goodWord ++ (vx_atS RX9 79 "java/lang/IllegalStateException" ["java/lang/RuntimeException", "java/lang/Exception"]).filter goodWord)
def wsX9_put_r1 : List Cond := [Cond.fieldLink RX9 19 "Tenuredale" "roots" "LTenuredale$Roots;", Cond.methodLink RX9 90 yX9_requireSlot, Cond.static yX9_requireSlot, Cond.initialized RX9, Cond.code yX9_requireSlot cX9_requireSlot 1 none, Cond.classLink RX9 170 "java/lang/IndexOutOfBoundsException", Cond.initialized "java/lang/IndexOutOfBoundsException", Cond.methodLink RX9 142 yX9_requireSlotOrNone, Cond.static yX9_requireSlotOrNone, Cond.code yX9_requireSlotOrNone cX9_requireSlotOrNone 1 none, Cond.methodLink RX9 155 yX4_readSlot, Cond.instanceMethod yX4_readSlot, Cond.selects RX4 yX4_readSlot yX4_readSlot, Cond.initialized RX4, Cond.code yX4_readSlot cX4_readSlot 3 (some (.object "Tenuredale$Thing")), Cond.fieldLink RX4 20 "Tenuredale$Roots" "slots" "[LTenuredale$Thing;", Cond.methodLink RX4 35 yX4_indexOf, Cond.instanceMethod yX4_indexOf, Cond.selects RX4 yX4_indexOf yX4_indexOf, Cond.code yX4_indexOf cX4_indexOf 2 (some .int), Cond.fieldLink RX4 27 "Tenuredale$Roots" "frames" "I", Cond.methodLink RX9 134 yX4_writeSlot, Cond.instanceMethod yX4_writeSlot, Cond.selects RX4 yX4_writeSlot yX4_writeSlot]
def wsX9_put_r2 : List Cond := [Cond.code yX4_writeSlot cX4_writeSlot 4 none, Cond.methodLink RX9 166 yX9_numberOf, Cond.static yX9_numberOf, Cond.code yX9_numberOf cX9_numberOf 1 (some .int), Cond.fieldLink RX9 138 "Tenuredale$Thing" "number" "I"]
def wsX9_put : List Cond := .code yX9_put cX9_put 4 (some .int) :: ((wsX9_put_r1 ++ wsX9_put_r2) ++ wsX90 ++ wsX40 ++ wsX70 ++ (vx_atS RX9 174 "java/lang/IndexOutOfBoundsException" ["java/lang/RuntimeException", "java/lang/Exception"]).filter goodWord)
def wsX9_swap_r1 : List Cond := [Cond.classLink RX9 170 "java/lang/IndexOutOfBoundsException", Cond.initialized "java/lang/IndexOutOfBoundsException", Cond.fieldLink RX9 19 "Tenuredale" "roots" "LTenuredale$Roots;", Cond.methodLink RX9 90 yX9_requireSlot, Cond.static yX9_requireSlot, Cond.initialized RX9, Cond.code yX9_requireSlot cX9_requireSlot 1 none, Cond.methodLink RX9 175 yX4_readGlobal, Cond.instanceMethod yX4_readGlobal, Cond.selects RX4 yX4_readGlobal yX4_readGlobal, Cond.initialized RX4, Cond.code yX4_readGlobal cX4_readGlobal 2 (some (.object "Tenuredale$Thing")), Cond.fieldLink RX4 24 "Tenuredale$Roots" "globals" "[LTenuredale$Thing;", Cond.methodLink RX9 155 yX4_readSlot, Cond.instanceMethod yX4_readSlot, Cond.selects RX4 yX4_readSlot yX4_readSlot, Cond.code yX4_readSlot cX4_readSlot 3 (some (.object "Tenuredale$Thing")), Cond.fieldLink RX4 20 "Tenuredale$Roots" "slots" "[LTenuredale$Thing;", Cond.methodLink RX4 35 yX4_indexOf, Cond.instanceMethod yX4_indexOf, Cond.selects RX4 yX4_indexOf yX4_indexOf, Cond.code yX4_indexOf cX4_indexOf 2 (some .int), Cond.fieldLink RX4 27 "Tenuredale$Roots" "frames" "I", Cond.methodLink RX9 178 yX4_writeGlobal]
def wsX9_swap_r2 : List Cond := [Cond.instanceMethod yX4_writeGlobal, Cond.selects RX4 yX4_writeGlobal yX4_writeGlobal, Cond.code yX4_writeGlobal cX4_writeGlobal 3 none, Cond.methodLink RX9 134 yX4_writeSlot, Cond.instanceMethod yX4_writeSlot, Cond.selects RX4 yX4_writeSlot yX4_writeSlot, Cond.code yX4_writeSlot cX4_writeSlot 4 none, Cond.methodLink RX9 166 yX9_numberOf, Cond.static yX9_numberOf, Cond.code yX9_numberOf cX9_numberOf 1 (some .int), Cond.fieldLink RX9 138 "Tenuredale$Thing" "number" "I"]
def wsX9_swap : List Cond := .code yX9_swap cX9_swap 4 (some .int) :: ((wsX9_swap_r1 ++ wsX9_swap_r2) ++ wsX90 ++ wsX40 ++ wsX70 ++ (vx_atS RX9 174 "java/lang/IndexOutOfBoundsException" ["java/lang/RuntimeException", "java/lang/Exception"]).filter goodWord)
def wsX9_hash_r1 : List Cond := [Cond.fieldLink RX9 181 "Tenuredale$Thing" "hash" "I", Cond.fieldLink RX9 184 "Tenuredale" "hashesGiven" "I", Cond.methodLink RX9 90 yX9_requireSlot, Cond.static yX9_requireSlot, Cond.initialized RX9, Cond.code yX9_requireSlot cX9_requireSlot 1 none, Cond.classLink RX9 170 "java/lang/IndexOutOfBoundsException", Cond.initialized "java/lang/IndexOutOfBoundsException", Cond.methodLink RX9 145 yX9_occupant, Cond.instanceMethod yX9_occupant, Cond.selects RX9 yX9_occupant yX9_occupant, Cond.code yX9_occupant cX9_occupant 3 (some (.object "Tenuredale$Thing")), Cond.classLink RX9 75 "java/lang/IllegalStateException", Cond.initialized "java/lang/IllegalStateException", Cond.fieldLink RX9 19 "Tenuredale" "roots" "LTenuredale$Roots;", Cond.methodLink RX9 155 yX4_readSlot, Cond.instanceMethod yX4_readSlot, Cond.selects RX4 yX4_readSlot yX4_readSlot, Cond.initialized RX4, Cond.code yX4_readSlot cX4_readSlot 3 (some (.object "Tenuredale$Thing")), Cond.fieldLink RX4 20 "Tenuredale$Roots" "slots" "[LTenuredale$Thing;", Cond.methodLink RX4 35 yX4_indexOf, Cond.instanceMethod yX4_indexOf, Cond.selects RX4 yX4_indexOf yX4_indexOf]
def wsX9_hash_r2 : List Cond := [Cond.code yX4_indexOf cX4_indexOf 2 (some .int), Cond.fieldLink RX4 27 "Tenuredale$Roots" "frames" "I", Cond.methodLink RX9 187 yX7_giveHash, Cond.instanceMethod yX7_giveHash, Cond.selects RX7 yX7_giveHash yX7_giveHash, Cond.initialized RX7, Cond.code yX7_giveHash cX7_giveHash 2 none, Cond.fieldLink RX7 28 "Tenuredale$Thing" "hash" "I", Cond.fieldLink RX7 22 "Tenuredale$Thing" "size" "I", Cond.fieldLink RX7 25 "Tenuredale$Thing" "sizeBehindMove" "I"]
def wsX9_hash : List Cond := .code yX9_hash cX9_hash 3 (some .int) :: ((wsX9_hash_r1 ++ wsX9_hash_r2) ++ wsX70 ++ wsX90 ++ wsX40 ++ (vx_atS RX9 174 "java/lang/IndexOutOfBoundsException" ["java/lang/RuntimeException", "java/lang/Exception"]).filter goodWord ++ (vx_atS RX9 79 "java/lang/IllegalStateException" ["java/lang/RuntimeException", "java/lang/Exception"]).filter goodWord)
def wsX9_pin_r1 : List Cond := [Cond.classLink RX9 75 "java/lang/IllegalStateException", Cond.initialized "java/lang/IllegalStateException", Cond.fieldLink RX9 190 "Tenuredale$Thing" "isPinned" "Z", Cond.fieldLink RX9 10 "Tenuredale" "all" "LTenuredale$Row;", Cond.fieldLink RX9 199 "Tenuredale$Thing" "place" "I", Cond.fieldLink RX9 26 "Tenuredale" "places" "LTenuredale$Places;", Cond.fieldLink RX9 205 "Tenuredale$Thing" "sizeBehindMove" "I", Cond.methodLink RX9 90 yX9_requireSlot, Cond.static yX9_requireSlot, Cond.initialized RX9, Cond.code yX9_requireSlot cX9_requireSlot 1 none, Cond.classLink RX9 170 "java/lang/IndexOutOfBoundsException", Cond.initialized "java/lang/IndexOutOfBoundsException", Cond.methodLink RX9 145 yX9_occupant, Cond.instanceMethod yX9_occupant, Cond.selects RX9 yX9_occupant yX9_occupant, Cond.code yX9_occupant cX9_occupant 3 (some (.object "Tenuredale$Thing")), Cond.fieldLink RX9 19 "Tenuredale" "roots" "LTenuredale$Roots;", Cond.methodLink RX9 155 yX4_readSlot, Cond.instanceMethod yX4_readSlot, Cond.selects RX4 yX4_readSlot yX4_readSlot, Cond.initialized RX4, Cond.code yX4_readSlot cX4_readSlot 3 (some (.object "Tenuredale$Thing")), Cond.fieldLink RX4 20 "Tenuredale$Roots" "slots" "[LTenuredale$Thing;"]
def wsX9_pin_r2 : List Cond := [Cond.methodLink RX4 35 yX4_indexOf, Cond.instanceMethod yX4_indexOf, Cond.selects RX4 yX4_indexOf yX4_indexOf, Cond.code yX4_indexOf cX4_indexOf 2 (some .int), Cond.fieldLink RX4 27 "Tenuredale$Roots" "frames" "I", Cond.methodLink RX9 194 yX5_pinned, Cond.instanceMethod yX5_pinned, Cond.selects RX5 yX5_pinned yX5_pinned, Cond.initialized RX5, Cond.code yX5_pinned cX5_pinned 4 (some .int), Cond.fieldLink RX5 17 "Tenuredale$Row" "size" "I", Cond.fieldLink RX5 11 "Tenuredale$Row" "things" "[LTenuredale$Thing;", Cond.fieldLink RX5 36 "Tenuredale$Thing" "isPinned" "Z", Cond.methodLink RX9 202 yX3_oldRoom, Cond.instanceMethod yX3_oldRoom, Cond.selects RX3 yX3_oldRoom yX3_oldRoom, Cond.initialized RX3, Cond.code yX3_oldRoom cX3_oldRoom 1 (some .int), Cond.fieldLink RX3 28 "Tenuredale$Places" "oldWords" "I", Cond.fieldLink RX3 24 "Tenuredale$Places" "oldTop" "I", Cond.methodLink RX9 208 yX3_moveOutOfYoung, Cond.instanceMethod yX3_moveOutOfYoung, Cond.selects RX3 yX3_moveOutOfYoung yX3_moveOutOfYoung, Cond.code yX3_moveOutOfYoung cX3_moveOutOfYoung 2 none]
def wsX9_pin_r3 : List Cond := [Cond.fieldLink RX3 12 "Tenuredale$Places" "young" "LTenuredale$Row;", Cond.methodLink RX3 85 yX3_moveToOld, Cond.instanceMethod yX3_moveToOld, Cond.selects RX3 yX3_moveToOld yX3_moveToOld, Cond.code yX3_moveToOld cX3_moveToOld 2 none, Cond.fieldLink RX3 18 "Tenuredale$Places" "old" "LTenuredale$Row;", Cond.methodLink RX3 68 yX7_moveTo, Cond.instanceMethod yX7_moveTo, Cond.selects RX7 yX7_moveTo yX7_moveTo, Cond.initialized RX7, Cond.code yX7_moveTo cX7_moveTo 3 none, Cond.fieldLink RX7 25 "Tenuredale$Thing" "sizeBehindMove" "I", Cond.fieldLink RX7 22 "Tenuredale$Thing" "size" "I", Cond.fieldLink RX7 31 "Tenuredale$Thing" "place" "I", Cond.fieldLink RX7 34 "Tenuredale$Thing" "address" "I", Cond.methodLink RX3 61 yX7_end, Cond.instanceMethod yX7_end, Cond.selects RX7 yX7_end yX7_end, Cond.code yX7_end cX7_end 1 (some .int), Cond.methodLink RX3 76 yX5_add, Cond.instanceMethod yX5_add, Cond.selects RX5 yX5_add yX5_add, Cond.code yX5_add cX5_add 2 none, Cond.methodLink RX3 88 yX5_keepOnly]
def wsX9_pin_r4 : List Cond := [Cond.instanceMethod yX5_keepOnly, Cond.selects RX5 yX5_keepOnly yX5_keepOnly, Cond.code yX5_keepOnly cX5_keepOnly 5 none, Cond.fieldLink RX5 32 "Tenuredale$Thing" "place" "I", Cond.methodLink RX5 21 yX5_add, Cond.methodLink RX3 92 yX7_hasYoungField, Cond.instanceMethod yX7_hasYoungField, Cond.selects RX7 yX7_hasYoungField yX7_hasYoungField, Cond.code yX7_hasYoungField cX7_hasYoungField 3 (some .boolean), Cond.fieldLink RX7 18 "Tenuredale$Thing" "fields" "[LTenuredale$Thing;", Cond.methodLink RX3 96 yX3_soil, Cond.instanceMethod yX3_soil, Cond.selects RX3 yX3_soil yX3_soil, Cond.code yX3_soil cX3_soil 3 none, Cond.fieldLink RX3 31 "Tenuredale$Places" "dirty" "[Z", Cond.methodLink RX3 133 yX7_card, Cond.instanceMethod yX7_card, Cond.selects RX7 yX7_card yX7_card, Cond.code yX7_card cX7_card 1 (some .int)]
def wsX9_pin : List Cond := .code yX9_pin cX9_pin 3 (some .boolean) :: ((wsX9_pin_r1 ++ (wsX9_pin_r2 ++ (wsX9_pin_r3 ++ wsX9_pin_r4))) ++ wsX70 ++ wsX90 ++ wsX40 ++ wsX50 ++ wsX30 ++ (vx_atS RX9 79 "java/lang/IllegalStateException" ["java/lang/RuntimeException", "java/lang/Exception"]).filter goodWord ++ (vx_atS RX9 174 "java/lang/IndexOutOfBoundsException" ["java/lang/RuntimeException", "java/lang/Exception"]).filter goodWord)
def wsX9_unpin_r1 : List Cond := [Cond.fieldLink RX9 190 "Tenuredale$Thing" "isPinned" "Z", Cond.methodLink RX9 90 yX9_requireSlot, Cond.static yX9_requireSlot, Cond.initialized RX9, Cond.code yX9_requireSlot cX9_requireSlot 1 none, Cond.classLink RX9 170 "java/lang/IndexOutOfBoundsException", Cond.initialized "java/lang/IndexOutOfBoundsException", Cond.methodLink RX9 145 yX9_occupant, Cond.instanceMethod yX9_occupant, Cond.selects RX9 yX9_occupant yX9_occupant, Cond.code yX9_occupant cX9_occupant 3 (some (.object "Tenuredale$Thing")), Cond.classLink RX9 75 "java/lang/IllegalStateException", Cond.initialized "java/lang/IllegalStateException", Cond.fieldLink RX9 19 "Tenuredale" "roots" "LTenuredale$Roots;", Cond.methodLink RX9 155 yX4_readSlot, Cond.instanceMethod yX4_readSlot, Cond.selects RX4 yX4_readSlot yX4_readSlot, Cond.initialized RX4, Cond.code yX4_readSlot cX4_readSlot 3 (some (.object "Tenuredale$Thing")), Cond.fieldLink RX4 20 "Tenuredale$Roots" "slots" "[LTenuredale$Thing;", Cond.methodLink RX4 35 yX4_indexOf, Cond.instanceMethod yX4_indexOf, Cond.selects RX4 yX4_indexOf yX4_indexOf, Cond.code yX4_indexOf cX4_indexOf 2 (some .int)]
def wsX9_unpin_r2 : List Cond := [Cond.fieldLink RX4 27 "Tenuredale$Roots" "frames" "I"]
def wsX9_unpin : List Cond := .code yX9_unpin cX9_unpin 4 (some .boolean) :: ((wsX9_unpin_r1 ++ wsX9_unpin_r2) ++ wsX70 ++ wsX90 ++ wsX40 ++ (vx_atS RX9 174 "java/lang/IndexOutOfBoundsException" ["java/lang/RuntimeException", "java/lang/Exception"]).filter goodWord ++ (vx_atS RX9 79 "java/lang/IllegalStateException" ["java/lang/RuntimeException", "java/lang/Exception"]).filter goodWord)
def wsX9_take_r1 : List Cond := [Cond.fieldLink RX9 19 "Tenuredale" "roots" "LTenuredale$Roots;", Cond.fieldLink RX9 211 "Tenuredale$Roots" "queue" "LTenuredale$Row;", Cond.fieldLink RX9 138 "Tenuredale$Thing" "number" "I", Cond.methodLink RX9 90 yX9_requireSlot, Cond.static yX9_requireSlot, Cond.initialized RX9, Cond.code yX9_requireSlot cX9_requireSlot 1 none, Cond.classLink RX9 170 "java/lang/IndexOutOfBoundsException", Cond.initialized "java/lang/IndexOutOfBoundsException", Cond.methodLink RX9 214 yX5_removeFirst, Cond.instanceMethod yX5_removeFirst, Cond.selects RX5 yX5_removeFirst yX5_removeFirst, Cond.initialized RX5, Cond.code yX5_removeFirst cX5_removeFirst 3 (some (.object "Tenuredale$Thing")), Cond.fieldLink RX5 17 "Tenuredale$Row" "size" "I", Cond.fieldLink RX5 11 "Tenuredale$Row" "things" "[LTenuredale$Thing;", Cond.methodLink RX5 28 yX5_item, Cond.instanceMethod yX5_item, Cond.selects RX5 yX5_item yX5_item, Cond.code yX5_item cX5_item 2 (some (.object "Tenuredale$Thing")), Cond.methodLink RX9 134 yX4_writeSlot, Cond.instanceMethod yX4_writeSlot, Cond.selects RX4 yX4_writeSlot yX4_writeSlot, Cond.initialized RX4]
def wsX9_take_r2 : List Cond := [Cond.code yX4_writeSlot cX4_writeSlot 4 none, Cond.fieldLink RX4 20 "Tenuredale$Roots" "slots" "[LTenuredale$Thing;", Cond.methodLink RX4 35 yX4_indexOf, Cond.instanceMethod yX4_indexOf, Cond.selects RX4 yX4_indexOf yX4_indexOf, Cond.code yX4_indexOf cX4_indexOf 2 (some .int), Cond.fieldLink RX4 27 "Tenuredale$Roots" "frames" "I"]
def wsX9_take : List Cond := .code yX9_take cX9_take 3 (some .int) :: ((wsX9_take_r1 ++ wsX9_take_r2) ++ wsX90 ++ wsX40 ++ wsX70 ++ wsX50 ++ (vx_atS RX9 174 "java/lang/IndexOutOfBoundsException" ["java/lang/RuntimeException", "java/lang/Exception"]).filter goodWord)
def wsX9_start_r1 : List Cond := [Cond.classLink RX9 75 "java/lang/IllegalStateException", Cond.initialized "java/lang/IllegalStateException", Cond.fieldLink RX9 42 "Tenuredale" "marking" "LTenuredale$Marking;", Cond.methodLink RX9 228 yX1_isOn, Cond.instanceMethod yX1_isOn, Cond.selects RX1 yX1_isOn yX1_isOn, Cond.initialized RX1, Cond.code yX1_isOn cX1_isOn 1 (some .boolean), Cond.fieldLink RX1 19 "Tenuredale$Marking" "isOn" "Z", Cond.methodLink RX9 233 yX1_begin, Cond.instanceMethod yX1_begin, Cond.selects RX1 yX1_begin yX1_begin, Cond.code yX1_begin cX1_begin 3 none, Cond.fieldLink RX1 9 "Tenuredale$Marking" "all" "LTenuredale$Row;", Cond.fieldLink RX1 33 "Tenuredale$Thing" "colour" "I", Cond.methodLink RX1 23 yX5_size, Cond.instanceMethod yX5_size, Cond.selects RX5 yX5_size yX5_size, Cond.initialized RX5, Cond.code yX5_size cX5_size 1 (some .int), Cond.fieldLink RX5 17 "Tenuredale$Row" "size" "I", Cond.methodLink RX1 29 yX5_item, Cond.instanceMethod yX5_item, Cond.selects RX5 yX5_item yX5_item]
def wsX9_start_r2 : List Cond := [Cond.code yX5_item cX5_item 2 (some (.object "Tenuredale$Thing")), Cond.fieldLink RX5 11 "Tenuredale$Row" "things" "[LTenuredale$Thing;", Cond.methodLink RX1 39 yX1_greyRoots, Cond.instanceMethod yX1_greyRoots, Cond.selects RX1 yX1_greyRoots yX1_greyRoots, Cond.code yX1_greyRoots cX1_greyRoots 3 none, Cond.fieldLink RX1 15 "Tenuredale$Marking" "roots" "LTenuredale$Roots;", Cond.fieldLink RX1 54 "Tenuredale$Thing" "isPinned" "Z", Cond.methodLink RX1 42 yX4_count, Cond.instanceMethod yX4_count, Cond.selects RX4 yX4_count yX4_count, Cond.initialized RX4, Cond.code yX4_count cX4_count 1 (some .int), Cond.fieldLink RX4 27 "Tenuredale$Roots" "frames" "I", Cond.fieldLink RX4 12 "Tenuredale$Roots" "queue" "LTenuredale$Row;", Cond.methodLink RX4 39 yX5_size, Cond.methodLink RX1 47 yX4_root, Cond.instanceMethod yX4_root, Cond.selects RX4 yX4_root yX4_root, Cond.code yX4_root cX4_root 4 (some (.object "Tenuredale$Thing")), Cond.fieldLink RX4 20 "Tenuredale$Roots" "slots" "[LTenuredale$Thing;", Cond.methodLink RX4 43 yX4_readGlobal, Cond.instanceMethod yX4_readGlobal, Cond.selects RX4 yX4_readGlobal yX4_readGlobal]
def wsX9_start_r3 : List Cond := [Cond.code yX4_readGlobal cX4_readGlobal 2 (some (.object "Tenuredale$Thing")), Cond.fieldLink RX4 24 "Tenuredale$Roots" "globals" "[LTenuredale$Thing;", Cond.methodLink RX4 47 yX5_item, Cond.methodLink RX1 50 yX1_grey, Cond.static yX1_grey, Cond.code yX1_grey cX1_grey 1 none, Cond.methodLink RX9 236 yX1_greys, Cond.instanceMethod yX1_greys, Cond.selects RX1 yX1_greys yX1_greys, Cond.code yX1_greys cX1_greys 4 (some .int)]
def wsX9_start : List Cond := .code yX9_start cX9_start 1 (some .int) :: ((wsX9_start_r1 ++ (wsX9_start_r2 ++ wsX9_start_r3)) ++ wsX90 ++ wsX10 ++ wsX70 ++ wsX50 ++ wsX40 ++ (vx_atS RX9 79 "java/lang/IllegalStateException" ["java/lang/RuntimeException", "java/lang/Exception"]).filter goodWord)
def wsX9_requireMarking : List Cond := .code yX9_requireMarking cX9_requireMarking 1 none :: ([.classLink RX9 75 "java/lang/IllegalStateException", .initialized "java/lang/IllegalStateException", .fieldLink RX9 42 "Tenuredale" "marking" "LTenuredale$Marking;", .methodLink RX9 228 yX1_isOn, .instanceMethod yX1_isOn, .selects RX1 yX1_isOn yX1_isOn, .initialized RX1, .code yX1_isOn cX1_isOn 1 (some .boolean), .fieldLink RX1 19 "Tenuredale$Marking" "isOn" "Z"] ++ wsX90 ++ wsX10 ++ (vx_atS RX9 79 "java/lang/IllegalStateException" ["java/lang/RuntimeException", "java/lang/Exception"]).filter goodWord)
def wsX9_step_r1 : List Cond := [Cond.classLink RX9 98 "java/lang/IllegalArgumentException", Cond.initialized "java/lang/IllegalArgumentException", Cond.fieldLink RX9 42 "Tenuredale" "marking" "LTenuredale$Marking;", Cond.fieldLink RX9 33 "Tenuredale" "tally" "LTenuredale$Tally;", Cond.fieldLink RX9 247 "Tenuredale$Thing" "size" "I", Cond.methodLink RX9 241 yX9_requireMarking, Cond.instanceMethod yX9_requireMarking, Cond.selects RX9 yX9_requireMarking yX9_requireMarking, Cond.initialized RX9, Cond.code yX9_requireMarking cX9_requireMarking 1 none, Cond.classLink RX9 75 "java/lang/IllegalStateException", Cond.initialized "java/lang/IllegalStateException", Cond.methodLink RX9 228 yX1_isOn, Cond.instanceMethod yX1_isOn, Cond.selects RX1 yX1_isOn yX1_isOn, Cond.initialized RX1, Cond.code yX1_isOn cX1_isOn 1 (some .boolean), Cond.fieldLink RX1 19 "Tenuredale$Marking" "isOn" "Z", Cond.methodLink RX9 244 yX1_blackenNext, Cond.instanceMethod yX1_blackenNext, Cond.selects RX1 yX1_blackenNext yX1_blackenNext, Cond.code yX1_blackenNext cX1_blackenNext 4 (some (.object "Tenuredale$Thing")), Cond.fieldLink RX1 9 "Tenuredale$Marking" "all" "LTenuredale$Row;", Cond.fieldLink RX1 33 "Tenuredale$Thing" "colour" "I"]
def wsX9_step_r2 : List Cond := [Cond.fieldLink RX1 57 "Tenuredale$Thing" "kind" "I", Cond.fieldLink RX1 60 "Tenuredale$Thing" "fields" "[LTenuredale$Thing;", Cond.methodLink RX1 23 yX5_size, Cond.instanceMethod yX5_size, Cond.selects RX5 yX5_size yX5_size, Cond.initialized RX5, Cond.code yX5_size cX5_size 1 (some .int), Cond.fieldLink RX5 17 "Tenuredale$Row" "size" "I", Cond.methodLink RX1 29 yX5_item, Cond.instanceMethod yX5_item, Cond.selects RX5 yX5_item yX5_item, Cond.code yX5_item cX5_item 2 (some (.object "Tenuredale$Thing")), Cond.fieldLink RX5 11 "Tenuredale$Row" "things" "[LTenuredale$Thing;", Cond.methodLink RX1 50 yX1_grey, Cond.static yX1_grey, Cond.code yX1_grey cX1_grey 1 none, Cond.methodLink RX9 249 yX6_noteTouched, Cond.instanceMethod yX6_noteTouched, Cond.selects RX6 yX6_noteTouched yX6_noteTouched, Cond.initialized RX6, Cond.code yX6_noteTouched cX6_noteTouched 2 none, Cond.fieldLink RX6 7 "Tenuredale$Tally" "latestTouched" "I", Cond.fieldLink RX6 13 "Tenuredale$Tally" "mostTouched" "I", Cond.methodLink RX6 16 Lib.Math.max.name]
def wsX9_step_r3 : List Cond := [Cond.static Lib.Math.max.name, Cond.initialized "java/lang/Math", Cond.code Lib.Math.max.name Lib.Math.max.code 2 (some .int)]
def wsX9_step : List Cond := .code yX9_step cX9_step 4 (some .int) :: ((wsX9_step_r1 ++ (wsX9_step_r2 ++ wsX9_step_r3)) ++ wsX90 ++ wsX70 ++ wsX10 ++ wsX50 ++ wsX60 ++ (vx_atS RX9 102 "java/lang/IllegalArgumentException" ["java/lang/RuntimeException", "java/lang/Exception"]).filter goodWord ++ (vx_atS RX9 79 "java/lang/IllegalStateException" ["java/lang/RuntimeException", "java/lang/Exception"]).filter goodWord)
def wsX9_finish_r1 : List Cond := [Cond.fieldLink RX9 42 "Tenuredale" "marking" "LTenuredale$Marking;", Cond.fieldLink RX9 67 "Tenuredale" "fullCollector" "LTenuredale$FullCollector;", Cond.methodLink RX9 241 yX9_requireMarking, Cond.instanceMethod yX9_requireMarking, Cond.selects RX9 yX9_requireMarking yX9_requireMarking, Cond.initialized RX9, Cond.code yX9_requireMarking cX9_requireMarking 1 none, Cond.classLink RX9 75 "java/lang/IllegalStateException", Cond.initialized "java/lang/IllegalStateException", Cond.methodLink RX9 228 yX1_isOn, Cond.instanceMethod yX1_isOn, Cond.selects RX1 yX1_isOn yX1_isOn, Cond.initialized RX1, Cond.code yX1_isOn cX1_isOn 1 (some .boolean), Cond.fieldLink RX1 19 "Tenuredale$Marking" "isOn" "Z", Cond.methodLink RX9 252 yX1_blackenAll, Cond.instanceMethod yX1_blackenAll, Cond.selects RX1 yX1_blackenAll yX1_blackenAll, Cond.code yX1_blackenAll cX1_blackenAll 2 none, Cond.methodLink RX1 39 yX1_greyRoots, Cond.instanceMethod yX1_greyRoots, Cond.selects RX1 yX1_greyRoots yX1_greyRoots, Cond.code yX1_greyRoots cX1_greyRoots 3 none, Cond.fieldLink RX1 15 "Tenuredale$Marking" "roots" "LTenuredale$Roots;"]
def wsX9_finish_r2 : List Cond := [Cond.fieldLink RX1 9 "Tenuredale$Marking" "all" "LTenuredale$Row;", Cond.fieldLink RX1 54 "Tenuredale$Thing" "isPinned" "Z", Cond.methodLink RX1 42 yX4_count, Cond.instanceMethod yX4_count, Cond.selects RX4 yX4_count yX4_count, Cond.initialized RX4, Cond.code yX4_count cX4_count 1 (some .int), Cond.fieldLink RX4 27 "Tenuredale$Roots" "frames" "I", Cond.fieldLink RX4 12 "Tenuredale$Roots" "queue" "LTenuredale$Row;", Cond.methodLink RX4 39 yX5_size, Cond.instanceMethod yX5_size, Cond.selects RX5 yX5_size yX5_size, Cond.initialized RX5, Cond.code yX5_size cX5_size 1 (some .int), Cond.fieldLink RX5 17 "Tenuredale$Row" "size" "I", Cond.methodLink RX1 47 yX4_root, Cond.instanceMethod yX4_root, Cond.selects RX4 yX4_root yX4_root, Cond.code yX4_root cX4_root 4 (some (.object "Tenuredale$Thing")), Cond.fieldLink RX4 20 "Tenuredale$Roots" "slots" "[LTenuredale$Thing;", Cond.methodLink RX4 43 yX4_readGlobal, Cond.instanceMethod yX4_readGlobal, Cond.selects RX4 yX4_readGlobal yX4_readGlobal, Cond.code yX4_readGlobal cX4_readGlobal 2 (some (.object "Tenuredale$Thing"))]
def wsX9_finish_r3 : List Cond := [Cond.fieldLink RX4 24 "Tenuredale$Roots" "globals" "[LTenuredale$Thing;", Cond.methodLink RX4 47 yX5_item, Cond.instanceMethod yX5_item, Cond.selects RX5 yX5_item yX5_item, Cond.code yX5_item cX5_item 2 (some (.object "Tenuredale$Thing")), Cond.fieldLink RX5 11 "Tenuredale$Row" "things" "[LTenuredale$Thing;", Cond.methodLink RX1 50 yX1_grey, Cond.static yX1_grey, Cond.code yX1_grey cX1_grey 1 none, Cond.fieldLink RX1 33 "Tenuredale$Thing" "colour" "I", Cond.methodLink RX1 23 yX5_size, Cond.methodLink RX1 29 yX5_item, Cond.methodLink RX1 64 yX1_blackenNext, Cond.instanceMethod yX1_blackenNext, Cond.selects RX1 yX1_blackenNext yX1_blackenNext, Cond.code yX1_blackenNext cX1_blackenNext 4 (some (.object "Tenuredale$Thing")), Cond.fieldLink RX1 57 "Tenuredale$Thing" "kind" "I", Cond.fieldLink RX1 60 "Tenuredale$Thing" "fields" "[LTenuredale$Thing;", Cond.methodLink RX9 225 yX0_run, Cond.instanceMethod yX0_run, Cond.selects RX0 yX0_run yX0_run, Cond.initialized RX0, Cond.code yX0_run cX0_run 5 (some .int), Cond.fieldLink RX0 31 "Tenuredale$FullCollector" "trace" "LTenuredale$Trace;"]
def wsX9_finish_r4 : List Cond := [Cond.fieldLink RX0 19 "Tenuredale$FullCollector" "places" "LTenuredale$Places;", Cond.fieldLink RX0 27 "Tenuredale$FullCollector" "marking" "LTenuredale$Marking;", Cond.fieldLink RX0 23 "Tenuredale$FullCollector" "tally" "LTenuredale$Tally;", Cond.fieldLink RX0 74 "Tenuredale$Tally" "fulls" "I", Cond.methodLink RX0 35 yX8_begin, Cond.instanceMethod yX8_begin, Cond.selects RX8 yX8_begin yX8_begin, Cond.initialized RX8, Cond.code yX8_begin cX8_begin 5 none, Cond.fieldLink RX8 25 "Tenuredale$Trace" "isSoftKept" "Z", Cond.fieldLink RX8 29 "Tenuredale$Trace" "hollow" "LTenuredale$Thing;", Cond.fieldLink RX8 12 "Tenuredale$Trace" "marked" "LTenuredale$Row;", Cond.fieldLink RX8 36 "Tenuredale$Trace" "scanned" "I", Cond.fieldLink RX8 18 "Tenuredale$Trace" "all" "LTenuredale$Row;", Cond.fieldLink RX8 48 "Tenuredale$Thing" "isMarked" "Z", Cond.fieldLink RX8 53 "Tenuredale$Thing" "isCut" "Z", Cond.methodLink RX8 33 yX5_clear, Cond.instanceMethod yX5_clear, Cond.selects RX5 yX5_clear yX5_clear, Cond.code yX5_clear cX5_clear 1 none, Cond.methodLink RX8 40 yX5_size, Cond.methodLink RX8 44 yX5_item, Cond.methodLink RX0 41 yX8_markBlack, Cond.instanceMethod yX8_markBlack]
def wsX9_finish_r5 : List Cond := [Cond.selects RX8 yX8_markBlack yX8_markBlack, Cond.code yX8_markBlack cX8_markBlack 3 none, Cond.fieldLink RX8 71 "Tenuredale$Thing" "colour" "I", Cond.methodLink RX8 64 yX8_mark, Cond.instanceMethod yX8_mark, Cond.selects RX8 yX8_mark yX8_mark, Cond.code yX8_mark cX8_mark 2 none, Cond.methodLink RX8 74 yX5_add, Cond.instanceMethod yX5_add, Cond.selects RX5 yX5_add yX5_add, Cond.code yX5_add cX5_add 2 none, Cond.methodLink RX0 44 yX8_markRoots, Cond.instanceMethod yX8_markRoots, Cond.selects RX8 yX8_markRoots yX8_markRoots, Cond.code yX8_markRoots cX8_markRoots 3 none, Cond.fieldLink RX8 21 "Tenuredale$Trace" "roots" "LTenuredale$Roots;", Cond.fieldLink RX8 68 "Tenuredale$Thing" "isPinned" "Z", Cond.methodLink RX8 56 yX4_count, Cond.methodLink RX8 61 yX4_root, Cond.methodLink RX0 47 yX8_spread, Cond.instanceMethod yX8_spread, Cond.selects RX8 yX8_spread yX8_spread, Cond.code yX8_spread cX8_spread 2 none, Cond.methodLink RX8 77 yX8_markFieldsOf]
def wsX9_finish_r6 : List Cond := [Cond.instanceMethod yX8_markFieldsOf, Cond.selects RX8 yX8_markFieldsOf yX8_markFieldsOf, Cond.code yX8_markFieldsOf cX8_markFieldsOf 3 none, Cond.fieldLink RX8 84 "Tenuredale$Thing" "kind" "I", Cond.fieldLink RX8 91 "Tenuredale$Thing" "fields" "[LTenuredale$Thing;", Cond.methodLink RX8 87 yX8_firstStrongField, Cond.instanceMethod yX8_firstStrongField, Cond.selects RX8 yX8_firstStrongField yX8_firstStrongField, Cond.code yX8_firstStrongField cX8_firstStrongField 2 (some .int), Cond.static yX9_isLoose, Cond.code yX9_isLoose cX9_isLoose 2 (some .boolean), Cond.methodLink RX8 80 yX8_markValues, Cond.instanceMethod yX8_markValues, Cond.selects RX8 yX8_markValues yX8_markValues, Cond.code yX8_markValues cX8_markValues 4 (some .boolean), Cond.methodLink RX8 99 yX8_hasMarked, Cond.static yX8_hasMarked, Cond.code yX8_hasMarked cX8_hasMarked 3 (some .boolean), Cond.methodLink RX8 103 yX7_read, Cond.instanceMethod yX7_read, Cond.selects RX7 yX7_read yX7_read, Cond.initialized RX7, Cond.code yX7_read cX7_read 2 (some (.object "Tenuredale$Thing")), Cond.fieldLink RX7 18 "Tenuredale$Thing" "fields" "[LTenuredale$Thing;"]
def wsX9_finish_r7 : List Cond := [Cond.methodLink RX0 50 yX0_dropReferences, Cond.instanceMethod yX0_dropReferences, Cond.selects RX0 yX0_dropReferences yX0_dropReferences, Cond.code yX0_dropReferences cX0_dropReferences 4 none, Cond.fieldLink RX0 9 "Tenuredale$FullCollector" "all" "LTenuredale$Row;", Cond.fieldLink RX0 96 "Tenuredale$Thing" "kind" "I", Cond.fieldLink RX0 101 "Tenuredale$Thing" "isMarked" "Z", Cond.methodLink RX0 87 yX5_size, Cond.methodLink RX0 92 yX5_item, Cond.methodLink RX0 105 yX8_hasMarked, Cond.methodLink RX0 109 yX7_write, Cond.instanceMethod yX7_write, Cond.selects RX7 yX7_write yX7_write, Cond.code yX7_write cX7_write 3 none, Cond.methodLink RX0 54 yX0_raiseFinals, Cond.instanceMethod yX0_raiseFinals, Cond.selects RX0 yX0_raiseFinals yX0_raiseFinals, Cond.code yX0_raiseFinals cX0_raiseFinals 3 none, Cond.fieldLink RX0 117 "Tenuredale$Thing" "place" "I", Cond.fieldLink RX0 15 "Tenuredale$FullCollector" "roots" "LTenuredale$Roots;", Cond.fieldLink RX0 120 "Tenuredale$Roots" "queue" "LTenuredale$Row;", Cond.methodLink RX0 125 yX5_add, Cond.methodLink RX0 129 yX8_mark, Cond.methodLink RX0 57 yX0_sweep]
def wsX9_finish_r8 : List Cond := [Cond.instanceMethod yX0_sweep, Cond.selects RX0 yX0_sweep yX0_sweep, Cond.code yX0_sweep cX0_sweep 4 (some .int), Cond.methodLink RX0 132 yX7_vanish, Cond.instanceMethod yX7_vanish, Cond.selects RX7 yX7_vanish yX7_vanish, Cond.code yX7_vanish cX7_vanish 2 none, Cond.fieldLink RX7 31 "Tenuredale$Thing" "place" "I", Cond.fieldLink RX7 37 "Tenuredale$Thing" "colour" "I", Cond.methodLink RX0 61 yX3_compact, Cond.instanceMethod yX3_compact, Cond.selects RX3 yX3_compact yX3_compact, Cond.initialized RX3, Cond.code yX3_compact cX3_compact 2 (some .int), Cond.fieldLink RX3 12 "Tenuredale$Places" "young" "LTenuredale$Row;", Cond.fieldLink RX3 18 "Tenuredale$Places" "old" "LTenuredale$Row;", Cond.fieldLink RX3 21 "Tenuredale$Places" "large" "LTenuredale$Row;", Cond.methodLink RX3 88 yX5_keepOnly, Cond.instanceMethod yX5_keepOnly, Cond.selects RX5 yX5_keepOnly yX5_keepOnly, Cond.code yX5_keepOnly cX5_keepOnly 5 none, Cond.fieldLink RX5 32 "Tenuredale$Thing" "place" "I", Cond.methodLink RX5 21 yX5_add, Cond.methodLink RX3 99 yX3_slideOld]
def wsX9_finish_r9 : List Cond := [Cond.instanceMethod yX3_slideOld, Cond.selects RX3 yX3_slideOld yX3_slideOld, Cond.code yX3_slideOld cX3_slideOld 4 (some .int), Cond.fieldLink RX3 24 "Tenuredale$Places" "oldTop" "I", Cond.fieldLink RX3 108 "Tenuredale$Thing" "isPinned" "Z", Cond.fieldLink RX3 56 "Tenuredale$Thing" "address" "I", Cond.fieldLink RX3 112 "Tenuredale$Thing" "size" "I", Cond.methodLink RX3 35 yX5_size, Cond.methodLink RX3 52 yX5_item, Cond.methodLink RX3 68 yX7_moveTo, Cond.instanceMethod yX7_moveTo, Cond.selects RX7 yX7_moveTo yX7_moveTo, Cond.code yX7_moveTo cX7_moveTo 3 none, Cond.fieldLink RX7 25 "Tenuredale$Thing" "sizeBehindMove" "I", Cond.fieldLink RX7 22 "Tenuredale$Thing" "size" "I", Cond.fieldLink RX7 34 "Tenuredale$Thing" "address" "I", Cond.methodLink RX3 61 yX7_end, Cond.instanceMethod yX7_end, Cond.selects RX7 yX7_end yX7_end, Cond.code yX7_end cX7_end 1 (some .int), Cond.methodLink RX3 102 yX3_emptyYoung, Cond.instanceMethod yX3_emptyYoung, Cond.selects RX3 yX3_emptyYoung yX3_emptyYoung, Cond.code yX3_emptyYoung cX3_emptyYoung 3 (some .int)]
def wsX9_finish_r10 : List Cond := [Cond.fieldLink RX3 49 "Tenuredale$Places" "half" "I", Cond.fieldLink RX3 46 "Tenuredale$Places" "youngTop" "I", Cond.methodLink RX3 114 yX3_canOldTakeYoung, Cond.instanceMethod yX3_canOldTakeYoung, Cond.selects RX3 yX3_canOldTakeYoung yX3_canOldTakeYoung, Cond.code yX3_canOldTakeYoung cX3_canOldTakeYoung 4 (some .boolean), Cond.fieldLink RX3 79 "Tenuredale$Thing" "sizeBehindMove" "I", Cond.methodLink RX3 82 yX3_oldRoom, Cond.instanceMethod yX3_oldRoom, Cond.selects RX3 yX3_oldRoom yX3_oldRoom, Cond.code yX3_oldRoom cX3_oldRoom 1 (some .int), Cond.fieldLink RX3 28 "Tenuredale$Places" "oldWords" "I", Cond.methodLink RX3 85 yX3_moveToOld, Cond.instanceMethod yX3_moveToOld, Cond.selects RX3 yX3_moveToOld yX3_moveToOld, Cond.code yX3_moveToOld cX3_moveToOld 2 none, Cond.methodLink RX3 76 yX5_add, Cond.methodLink RX3 39 yX5_words, Cond.instanceMethod yX5_words, Cond.selects RX5 yX5_words yX5_words, Cond.code yX5_words cX5_words 4 (some .int), Cond.fieldLink RX5 35 "Tenuredale$Thing" "size" "I", Cond.methodLink RX3 117 yX5_clear, Cond.methodLink RX3 105 yX3_resizeOld]
def wsX9_finish_r11 : List Cond := [Cond.instanceMethod yX3_resizeOld, Cond.selects RX3 yX3_resizeOld yX3_resizeOld, Cond.code yX3_resizeOld cX3_resizeOld 2 none, Cond.methodLink RX3 120 Lib.Math.min.name, Cond.static Lib.Math.min.name, Cond.initialized "java/lang/Math", Cond.code Lib.Math.min.name Lib.Math.min.code 2 (some .int), Cond.methodLink RX3 126 Lib.Math.max.name, Cond.static Lib.Math.max.name, Cond.code Lib.Math.max.name Lib.Math.max.code 2 (some .int), Cond.methodLink RX0 66 yX3_renewCards, Cond.instanceMethod yX3_renewCards, Cond.selects RX3 yX3_renewCards yX3_renewCards, Cond.code yX3_renewCards cX3_renewCards 2 none, Cond.fieldLink RX3 31 "Tenuredale$Places" "dirty" "[Z", Cond.methodLink RX3 129 yX3_soilYoungHolders, Cond.instanceMethod yX3_soilYoungHolders, Cond.selects RX3 yX3_soilYoungHolders yX3_soilYoungHolders, Cond.code yX3_soilYoungHolders cX3_soilYoungHolders 4 none, Cond.methodLink RX3 92 yX7_hasYoungField, Cond.instanceMethod yX7_hasYoungField, Cond.selects RX7 yX7_hasYoungField yX7_hasYoungField, Cond.code yX7_hasYoungField cX7_hasYoungField 3 (some .boolean), Cond.methodLink RX3 96 yX3_soil]
def wsX9_finish_r12 : List Cond := [Cond.instanceMethod yX3_soil, Cond.selects RX3 yX3_soil yX3_soil, Cond.code yX3_soil cX3_soil 3 none, Cond.methodLink RX3 133 yX7_card, Cond.instanceMethod yX7_card, Cond.selects RX7 yX7_card yX7_card, Cond.code yX7_card cX7_card 1 (some .int), Cond.methodLink RX0 69 yX1_end, Cond.instanceMethod yX1_end, Cond.selects RX1 yX1_end yX1_end, Cond.code yX1_end cX1_end 1 none, Cond.methodLink RX0 80 yX3_words, Cond.instanceMethod yX3_words, Cond.selects RX3 yX3_words yX3_words, Cond.code yX3_words cX3_words 1 (some .int), Cond.methodLink RX0 83 yX6_noteTouched, Cond.instanceMethod yX6_noteTouched, Cond.selects RX6 yX6_noteTouched yX6_noteTouched, Cond.initialized RX6, Cond.code yX6_noteTouched cX6_noteTouched 2 none, Cond.fieldLink RX6 7 "Tenuredale$Tally" "latestTouched" "I", Cond.fieldLink RX6 13 "Tenuredale$Tally" "mostTouched" "I", Cond.methodLink RX6 16 Lib.Math.max.name]
def wsX9_finish : List Cond := .code yX9_finish cX9_finish 1 (some .int) :: ((wsX9_finish_r1 ++ (wsX9_finish_r2 ++ (wsX9_finish_r3 ++ (wsX9_finish_r4 ++ (wsX9_finish_r5 ++ (wsX9_finish_r6 ++ (wsX9_finish_r7 ++ (wsX9_finish_r8 ++ (wsX9_finish_r9 ++ (wsX9_finish_r10 ++ (wsX9_finish_r11 ++ wsX9_finish_r12))))))))))) ++ wsX90 ++ wsX10 ++ wsX70 ++ wsX40 ++ wsX50 ++ wsX00 ++ wsX60 ++ wsX80 ++ wsX30 ++ (vx_atS RX9 79 "java/lang/IllegalStateException" ["java/lang/RuntimeException", "java/lang/Exception"]).filter goodWord)
def wsX9_tenure : List Cond := .code yX9_tenure cX9_tenure 3 (some .int) :: ([.classLink RX9 98 "java/lang/IllegalArgumentException", .initialized "java/lang/IllegalArgumentException", .fieldLink RX9 58 "Tenuredale" "minorCollector" "LTenuredale$MinorCollector;", .fieldLink RX9 257 "Tenuredale$MinorCollector" "tenureAge" "I"] ++ wsX90 ++ wsX20 ++ (vx_atS RX9 102 "java/lang/IllegalArgumentException" ["java/lang/RuntimeException", "java/lang/Exception"]).filter goodWord)
def wsX9_at : List Cond := .code yX9_at cX9_at 2 (some .int) :: ([.fieldLink RX9 19 "Tenuredale" "roots" "LTenuredale$Roots;", .methodLink RX9 90 yX9_requireSlot, .static yX9_requireSlot, .initialized RX9, .code yX9_requireSlot cX9_requireSlot 1 none, .classLink RX9 170 "java/lang/IndexOutOfBoundsException", .initialized "java/lang/IndexOutOfBoundsException", .methodLink RX9 155 yX4_readSlot, .instanceMethod yX4_readSlot, .selects RX4 yX4_readSlot yX4_readSlot, .initialized RX4, .code yX4_readSlot cX4_readSlot 3 (some (.object "Tenuredale$Thing")), .fieldLink RX4 20 "Tenuredale$Roots" "slots" "[LTenuredale$Thing;", .methodLink RX4 35 yX4_indexOf, .instanceMethod yX4_indexOf, .selects RX4 yX4_indexOf yX4_indexOf, .code yX4_indexOf cX4_indexOf 2 (some .int), .fieldLink RX4 27 "Tenuredale$Roots" "frames" "I", .methodLink RX9 166 yX9_numberOf, .static yX9_numberOf, .code yX9_numberOf cX9_numberOf 1 (some .int), .fieldLink RX9 138 "Tenuredale$Thing" "number" "I"] ++ wsX90 ++ wsX40 ++ wsX70 ++ (vx_atS RX9 174 "java/lang/IndexOutOfBoundsException" ["java/lang/RuntimeException", "java/lang/Exception"]).filter goodWord)
def wsX9_madeAs : List Cond := .code yX9_madeAs cX9_madeAs 3 (some (.object "Tenuredale$Thing")) :: ([.classLink RX9 170 "java/lang/IndexOutOfBoundsException", .initialized "java/lang/IndexOutOfBoundsException", .fieldLink RX9 10 "Tenuredale" "all" "LTenuredale$Row;", .methodLink RX9 324 yX5_item, .instanceMethod yX5_item, .selects RX5 yX5_item yX5_item, .initialized RX5, .code yX5_item cX5_item 2 (some (.object "Tenuredale$Thing")), .fieldLink RX5 17 "Tenuredale$Row" "size" "I", .fieldLink RX5 11 "Tenuredale$Row" "things" "[LTenuredale$Thing;"] ++ wsX90 ++ wsX50 ++ (vx_atS RX9 174 "java/lang/IndexOutOfBoundsException" ["java/lang/RuntimeException", "java/lang/Exception"]).filter goodWord)
def wsX9_field_r1 : List Cond := [Cond.methodLink RX9 260 yX9_madeAs, Cond.instanceMethod yX9_madeAs, Cond.selects RX9 yX9_madeAs yX9_madeAs, Cond.initialized RX9, Cond.code yX9_madeAs cX9_madeAs 3 (some (.object "Tenuredale$Thing")), Cond.classLink RX9 170 "java/lang/IndexOutOfBoundsException", Cond.initialized "java/lang/IndexOutOfBoundsException", Cond.fieldLink RX9 10 "Tenuredale" "all" "LTenuredale$Row;", Cond.methodLink RX9 324 yX5_item, Cond.instanceMethod yX5_item, Cond.selects RX5 yX5_item yX5_item, Cond.initialized RX5, Cond.code yX5_item cX5_item 2 (some (.object "Tenuredale$Thing")), Cond.fieldLink RX5 17 "Tenuredale$Row" "size" "I", Cond.fieldLink RX5 11 "Tenuredale$Row" "things" "[LTenuredale$Thing;", Cond.methodLink RX9 149 yX9_requireField, Cond.static yX9_requireField, Cond.code yX9_requireField cX9_requireField 2 none, Cond.methodLink RX9 389 yX7_hasField, Cond.instanceMethod yX7_hasField, Cond.selects RX7 yX7_hasField yX7_hasField, Cond.initialized RX7, Cond.code yX7_hasField cX7_hasField 2 (some .boolean), Cond.fieldLink RX7 18 "Tenuredale$Thing" "fields" "[LTenuredale$Thing;"]
def wsX9_field_r2 : List Cond := [Cond.methodLink RX9 152 yX7_read, Cond.instanceMethod yX7_read, Cond.selects RX7 yX7_read yX7_read, Cond.code yX7_read cX7_read 2 (some (.object "Tenuredale$Thing")), Cond.methodLink RX9 166 yX9_numberOf, Cond.static yX9_numberOf, Cond.code yX9_numberOf cX9_numberOf 1 (some .int), Cond.fieldLink RX9 138 "Tenuredale$Thing" "number" "I"]
def wsX9_field : List Cond := .code yX9_field cX9_field 4 (some .int) :: ((wsX9_field_r1 ++ wsX9_field_r2) ++ wsX90 ++ wsX50 ++ wsX70 ++ (vx_atS RX9 174 "java/lang/IndexOutOfBoundsException" ["java/lang/RuntimeException", "java/lang/Exception"]).filter goodWord)
def wsX9_ofObject_r1 : List Cond := [Cond.classLink RX9 98 "java/lang/IllegalArgumentException", Cond.initialized "java/lang/IllegalArgumentException", Cond.fieldLink RX9 199 "Tenuredale$Thing" "place" "I", Cond.fieldLink RX9 265 "Tenuredale$Thing" "address" "I", Cond.fieldLink RX9 247 "Tenuredale$Thing" "size" "I", Cond.fieldLink RX9 268 "Tenuredale$Thing" "age" "I", Cond.fieldLink RX9 181 "Tenuredale$Thing" "hash" "I", Cond.fieldLink RX9 190 "Tenuredale$Thing" "isPinned" "Z", Cond.fieldLink RX9 42 "Tenuredale" "marking" "LTenuredale$Marking;", Cond.fieldLink RX9 271 "Tenuredale$Thing" "colour" "I", Cond.fieldLink RX9 274 "Tenuredale$Thing" "kind" "I", Cond.methodLink RX9 260 yX9_madeAs, Cond.instanceMethod yX9_madeAs, Cond.selects RX9 yX9_madeAs yX9_madeAs, Cond.initialized RX9, Cond.code yX9_madeAs cX9_madeAs 3 (some (.object "Tenuredale$Thing")), Cond.classLink RX9 170 "java/lang/IndexOutOfBoundsException", Cond.initialized "java/lang/IndexOutOfBoundsException", Cond.fieldLink RX9 10 "Tenuredale" "all" "LTenuredale$Row;", Cond.methodLink RX9 324 yX5_item, Cond.instanceMethod yX5_item, Cond.selects RX5 yX5_item yX5_item, Cond.initialized RX5, Cond.code yX5_item cX5_item 2 (some (.object "Tenuredale$Thing"))]
def wsX9_ofObject_r2 : List Cond := [Cond.fieldLink RX5 17 "Tenuredale$Row" "size" "I", Cond.fieldLink RX5 11 "Tenuredale$Row" "things" "[LTenuredale$Thing;", Cond.methodLink RX9 228 yX1_isOn, Cond.instanceMethod yX1_isOn, Cond.selects RX1 yX1_isOn yX1_isOn, Cond.initialized RX1, Cond.code yX1_isOn cX1_isOn 1 (some .boolean), Cond.fieldLink RX1 19 "Tenuredale$Marking" "isOn" "Z"]
def wsX9_ofObject : List Cond := .code yX9_ofObject cX9_ofObject 4 (some .int) :: ((wsX9_ofObject_r1 ++ wsX9_ofObject_r2) ++ wsX70 ++ wsX90 ++ wsX50 ++ wsX10 ++ (vx_atS RX9 102 "java/lang/IllegalArgumentException" ["java/lang/RuntimeException", "java/lang/Exception"]).filter goodWord ++ (vx_atS RX9 174 "java/lang/IndexOutOfBoundsException" ["java/lang/RuntimeException", "java/lang/Exception"]).filter goodWord)
def wsX9_many_r1 : List Cond := [Cond.classLink RX9 98 "java/lang/IllegalArgumentException", Cond.initialized "java/lang/IllegalArgumentException", Cond.fieldLink RX9 10 "Tenuredale" "all" "LTenuredale$Row;", Cond.fieldLink RX9 26 "Tenuredale" "places" "LTenuredale$Places;", Cond.fieldLink RX9 19 "Tenuredale" "roots" "LTenuredale$Roots;", Cond.fieldLink RX9 280 "Tenuredale$Places" "youngTop" "I", Cond.fieldLink RX9 283 "Tenuredale$Places" "half" "I", Cond.fieldLink RX9 286 "Tenuredale$Places" "oldTop" "I", Cond.fieldLink RX9 289 "Tenuredale$Places" "oldWords" "I", Cond.fieldLink RX9 292 "Tenuredale$Places" "large" "LTenuredale$Row;", Cond.fieldLink RX9 211 "Tenuredale$Roots" "queue" "LTenuredale$Row;", Cond.fieldLink RX9 33 "Tenuredale" "tally" "LTenuredale$Tally;", Cond.fieldLink RX9 304 "Tenuredale$Tally" "minors" "I", Cond.fieldLink RX9 307 "Tenuredale$Tally" "fulls" "I", Cond.fieldLink RX9 310 "Tenuredale$Tally" "latestTouched" "I", Cond.fieldLink RX9 313 "Tenuredale$Tally" "mostTouched" "I", Cond.fieldLink RX9 42 "Tenuredale" "marking" "LTenuredale$Marking;", Cond.methodLink RX9 103 yX5_size, Cond.instanceMethod yX5_size, Cond.selects RX5 yX5_size yX5_size, Cond.initialized RX5, Cond.code yX5_size cX5_size 1 (some .int), Cond.fieldLink RX5 17 "Tenuredale$Row" "size" "I", Cond.methodLink RX9 277 yX3_things]
def wsX9_many_r2 : List Cond := [Cond.instanceMethod yX3_things, Cond.selects RX3 yX3_things yX3_things, Cond.initialized RX3, Cond.code yX3_things cX3_things 1 (some .int), Cond.fieldLink RX3 12 "Tenuredale$Places" "young" "LTenuredale$Row;", Cond.fieldLink RX3 18 "Tenuredale$Places" "old" "LTenuredale$Row;", Cond.fieldLink RX3 21 "Tenuredale$Places" "large" "LTenuredale$Row;", Cond.methodLink RX3 35 yX5_size, Cond.methodLink RX9 71 yX4_frames, Cond.instanceMethod yX4_frames, Cond.selects RX4 yX4_frames yX4_frames, Cond.initialized RX4, Cond.code yX4_frames cX4_frames 1 (some .int), Cond.fieldLink RX4 27 "Tenuredale$Roots" "frames" "I", Cond.methodLink RX9 295 yX5_words, Cond.instanceMethod yX5_words, Cond.selects RX5 yX5_words yX5_words, Cond.code yX5_words cX5_words 4 (some .int), Cond.fieldLink RX5 11 "Tenuredale$Row" "things" "[LTenuredale$Thing;", Cond.fieldLink RX5 35 "Tenuredale$Thing" "size" "I", Cond.methodLink RX9 298 yX3_largeGaps, Cond.instanceMethod yX3_largeGaps, Cond.selects RX3 yX3_largeGaps yX3_largeGaps, Cond.code yX3_largeGaps cX3_largeGaps 5 (some .int)]
def wsX9_many_r3 : List Cond := [Cond.fieldLink RX3 56 "Tenuredale$Thing" "address" "I", Cond.methodLink RX3 52 yX5_item, Cond.instanceMethod yX5_item, Cond.selects RX5 yX5_item yX5_item, Cond.code yX5_item cX5_item 2 (some (.object "Tenuredale$Thing")), Cond.methodLink RX3 61 yX7_end, Cond.instanceMethod yX7_end, Cond.selects RX7 yX7_end yX7_end, Cond.initialized RX7, Cond.code yX7_end cX7_end 1 (some .int), Cond.fieldLink RX7 34 "Tenuredale$Thing" "address" "I", Cond.fieldLink RX7 22 "Tenuredale$Thing" "size" "I", Cond.methodLink RX9 301 yX3_dirtyCards, Cond.instanceMethod yX3_dirtyCards, Cond.selects RX3 yX3_dirtyCards yX3_dirtyCards, Cond.code yX3_dirtyCards cX3_dirtyCards 3 (some .int), Cond.fieldLink RX3 31 "Tenuredale$Places" "dirty" "[Z", Cond.methodLink RX9 236 yX1_greys, Cond.instanceMethod yX1_greys, Cond.selects RX1 yX1_greys yX1_greys, Cond.initialized RX1, Cond.code yX1_greys cX1_greys 4 (some .int), Cond.fieldLink RX1 19 "Tenuredale$Marking" "isOn" "Z", Cond.fieldLink RX1 9 "Tenuredale$Marking" "all" "LTenuredale$Row;"]
def wsX9_many_r4 : List Cond := [Cond.fieldLink RX1 33 "Tenuredale$Thing" "colour" "I", Cond.methodLink RX1 23 yX5_size, Cond.methodLink RX1 29 yX5_item]
def wsX9_many : List Cond := .code yX9_many cX9_many 2 (some .int) :: ((wsX9_many_r1 ++ (wsX9_many_r2 ++ (wsX9_many_r3 ++ wsX9_many_r4))) ++ wsX90 ++ wsX30 ++ wsX40 ++ wsX60 ++ wsX50 ++ wsX70 ++ wsX10 ++ (vx_atS RX9 102 "java/lang/IllegalArgumentException" ["java/lang/RuntimeException", "java/lang/Exception"]).filter goodWord)
def wsX9_isDirty : List Cond := .code yX9_isDirty cX9_isDirty 2 (some .boolean) :: ([.classLink RX9 170 "java/lang/IndexOutOfBoundsException", .initialized "java/lang/IndexOutOfBoundsException", .fieldLink RX9 26 "Tenuredale" "places" "LTenuredale$Places;", .methodLink RX9 320 yX3_isCardDirty, .instanceMethod yX3_isCardDirty, .selects RX3 yX3_isCardDirty yX3_isCardDirty, .initialized RX3, .code yX3_isCardDirty cX3_isCardDirty 2 (some .boolean), .fieldLink RX3 31 "Tenuredale$Places" "dirty" "[Z"] ++ wsX90 ++ wsX30 ++ (vx_atS RX9 174 "java/lang/IndexOutOfBoundsException" ["java/lang/RuntimeException", "java/lang/Exception"]).filter goodWord)
def wsX9_queue : List Cond := .code yX9_queue cX9_queue 3 (some .int) :: ([.classLink RX9 170 "java/lang/IndexOutOfBoundsException", .initialized "java/lang/IndexOutOfBoundsException", .fieldLink RX9 19 "Tenuredale" "roots" "LTenuredale$Roots;", .fieldLink RX9 211 "Tenuredale$Roots" "queue" "LTenuredale$Row;", .fieldLink RX9 138 "Tenuredale$Thing" "number" "I", .methodLink RX9 324 yX5_item, .instanceMethod yX5_item, .selects RX5 yX5_item yX5_item, .initialized RX5, .code yX5_item cX5_item 2 (some (.object "Tenuredale$Thing")), .fieldLink RX5 17 "Tenuredale$Row" "size" "I", .fieldLink RX5 11 "Tenuredale$Row" "things" "[LTenuredale$Thing;"] ++ wsX90 ++ wsX40 ++ wsX70 ++ wsX50 ++ (vx_atS RX9 174 "java/lang/IndexOutOfBoundsException" ["java/lang/RuntimeException", "java/lang/Exception"]).filter goodWord)
def wsX9_meanSize_r1 : List Cond := [Cond.fieldLink RX9 26 "Tenuredale" "places" "LTenuredale$Places;", Cond.methodLink RX9 277 yX3_things, Cond.instanceMethod yX3_things, Cond.selects RX3 yX3_things yX3_things, Cond.initialized RX3, Cond.code yX3_things cX3_things 1 (some .int), Cond.fieldLink RX3 12 "Tenuredale$Places" "young" "LTenuredale$Row;", Cond.fieldLink RX3 18 "Tenuredale$Places" "old" "LTenuredale$Row;", Cond.fieldLink RX3 21 "Tenuredale$Places" "large" "LTenuredale$Row;", Cond.methodLink RX3 35 yX5_size, Cond.instanceMethod yX5_size, Cond.selects RX5 yX5_size yX5_size, Cond.initialized RX5, Cond.code yX5_size cX5_size 1 (some .int), Cond.fieldLink RX5 17 "Tenuredale$Row" "size" "I", Cond.methodLink RX9 329 yX3_words, Cond.instanceMethod yX3_words, Cond.selects RX3 yX3_words yX3_words, Cond.code yX3_words cX3_words 1 (some .int), Cond.methodLink RX3 39 yX5_words, Cond.instanceMethod yX5_words, Cond.selects RX5 yX5_words yX5_words, Cond.code yX5_words cX5_words 4 (some .int), Cond.fieldLink RX5 11 "Tenuredale$Row" "things" "[LTenuredale$Thing;"]
def wsX9_meanSize_r2 : List Cond := [Cond.fieldLink RX5 35 "Tenuredale$Thing" "size" "I"]
def wsX9_meanSize : List Cond := .code yX9_meanSize cX9_meanSize 2 (some .double) :: ((wsX9_meanSize_r1 ++ wsX9_meanSize_r2) ++ wsX90 ++ wsX30 ++ wsX50 ++ wsX70)
def wsX9_isReachable_r1 : List Cond := [Cond.fieldLink RX9 49 "Tenuredale" "trace" "LTenuredale$Trace;", Cond.fieldLink RX9 339 "Tenuredale$Thing" "isMarked" "Z", Cond.methodLink RX9 260 yX9_madeAs, Cond.instanceMethod yX9_madeAs, Cond.selects RX9 yX9_madeAs yX9_madeAs, Cond.initialized RX9, Cond.code yX9_madeAs cX9_madeAs 3 (some (.object "Tenuredale$Thing")), Cond.classLink RX9 170 "java/lang/IndexOutOfBoundsException", Cond.initialized "java/lang/IndexOutOfBoundsException", Cond.fieldLink RX9 10 "Tenuredale" "all" "LTenuredale$Row;", Cond.methodLink RX9 324 yX5_item, Cond.instanceMethod yX5_item, Cond.selects RX5 yX5_item yX5_item, Cond.initialized RX5, Cond.code yX5_item cX5_item 2 (some (.object "Tenuredale$Thing")), Cond.fieldLink RX5 17 "Tenuredale$Row" "size" "I", Cond.fieldLink RX5 11 "Tenuredale$Row" "things" "[LTenuredale$Thing;", Cond.methodLink RX9 330 yX8_begin, Cond.instanceMethod yX8_begin, Cond.selects RX8 yX8_begin yX8_begin, Cond.initialized RX8, Cond.code yX8_begin cX8_begin 5 none, Cond.fieldLink RX8 25 "Tenuredale$Trace" "isSoftKept" "Z", Cond.fieldLink RX8 29 "Tenuredale$Trace" "hollow" "LTenuredale$Thing;"]
def wsX9_isReachable_r2 : List Cond := [Cond.fieldLink RX8 12 "Tenuredale$Trace" "marked" "LTenuredale$Row;", Cond.fieldLink RX8 36 "Tenuredale$Trace" "scanned" "I", Cond.fieldLink RX8 18 "Tenuredale$Trace" "all" "LTenuredale$Row;", Cond.fieldLink RX8 48 "Tenuredale$Thing" "isMarked" "Z", Cond.fieldLink RX8 53 "Tenuredale$Thing" "isCut" "Z", Cond.methodLink RX8 33 yX5_clear, Cond.instanceMethod yX5_clear, Cond.selects RX5 yX5_clear yX5_clear, Cond.code yX5_clear cX5_clear 1 none, Cond.methodLink RX8 40 yX5_size, Cond.instanceMethod yX5_size, Cond.selects RX5 yX5_size yX5_size, Cond.code yX5_size cX5_size 1 (some .int), Cond.methodLink RX8 44 yX5_item, Cond.methodLink RX9 333 yX8_markRoots, Cond.instanceMethod yX8_markRoots, Cond.selects RX8 yX8_markRoots yX8_markRoots, Cond.code yX8_markRoots cX8_markRoots 3 none, Cond.fieldLink RX8 21 "Tenuredale$Trace" "roots" "LTenuredale$Roots;", Cond.fieldLink RX8 68 "Tenuredale$Thing" "isPinned" "Z", Cond.methodLink RX8 56 yX4_count, Cond.instanceMethod yX4_count, Cond.selects RX4 yX4_count yX4_count, Cond.initialized RX4]
def wsX9_isReachable_r3 : List Cond := [Cond.code yX4_count cX4_count 1 (some .int), Cond.fieldLink RX4 27 "Tenuredale$Roots" "frames" "I", Cond.fieldLink RX4 12 "Tenuredale$Roots" "queue" "LTenuredale$Row;", Cond.methodLink RX4 39 yX5_size, Cond.methodLink RX8 61 yX4_root, Cond.instanceMethod yX4_root, Cond.selects RX4 yX4_root yX4_root, Cond.code yX4_root cX4_root 4 (some (.object "Tenuredale$Thing")), Cond.fieldLink RX4 20 "Tenuredale$Roots" "slots" "[LTenuredale$Thing;", Cond.methodLink RX4 43 yX4_readGlobal, Cond.instanceMethod yX4_readGlobal, Cond.selects RX4 yX4_readGlobal yX4_readGlobal, Cond.code yX4_readGlobal cX4_readGlobal 2 (some (.object "Tenuredale$Thing")), Cond.fieldLink RX4 24 "Tenuredale$Roots" "globals" "[LTenuredale$Thing;", Cond.methodLink RX4 47 yX5_item, Cond.methodLink RX8 64 yX8_mark, Cond.instanceMethod yX8_mark, Cond.selects RX8 yX8_mark yX8_mark, Cond.code yX8_mark cX8_mark 2 none, Cond.methodLink RX8 74 yX5_add, Cond.instanceMethod yX5_add, Cond.selects RX5 yX5_add yX5_add, Cond.code yX5_add cX5_add 2 none, Cond.methodLink RX9 336 yX8_spread]
def wsX9_isReachable_r4 : List Cond := [Cond.instanceMethod yX8_spread, Cond.selects RX8 yX8_spread yX8_spread, Cond.code yX8_spread cX8_spread 2 none, Cond.methodLink RX8 77 yX8_markFieldsOf, Cond.instanceMethod yX8_markFieldsOf, Cond.selects RX8 yX8_markFieldsOf yX8_markFieldsOf, Cond.code yX8_markFieldsOf cX8_markFieldsOf 3 none, Cond.fieldLink RX8 84 "Tenuredale$Thing" "kind" "I", Cond.fieldLink RX8 91 "Tenuredale$Thing" "fields" "[LTenuredale$Thing;", Cond.methodLink RX8 87 yX8_firstStrongField, Cond.instanceMethod yX8_firstStrongField, Cond.selects RX8 yX8_firstStrongField yX8_firstStrongField, Cond.code yX8_firstStrongField cX8_firstStrongField 2 (some .int), Cond.static yX9_isLoose, Cond.code yX9_isLoose cX9_isLoose 2 (some .boolean), Cond.methodLink RX8 80 yX8_markValues, Cond.instanceMethod yX8_markValues, Cond.selects RX8 yX8_markValues yX8_markValues, Cond.code yX8_markValues cX8_markValues 4 (some .boolean), Cond.methodLink RX8 99 yX8_hasMarked, Cond.static yX8_hasMarked, Cond.code yX8_hasMarked cX8_hasMarked 3 (some .boolean), Cond.methodLink RX8 103 yX7_read, Cond.instanceMethod yX7_read]
def wsX9_isReachable_r5 : List Cond := [Cond.selects RX7 yX7_read yX7_read, Cond.initialized RX7, Cond.code yX7_read cX7_read 2 (some (.object "Tenuredale$Thing")), Cond.fieldLink RX7 18 "Tenuredale$Thing" "fields" "[LTenuredale$Thing;"]
def wsX9_isReachable : List Cond := .code yX9_isReachable cX9_isReachable 3 (some .boolean) :: ((wsX9_isReachable_r1 ++ (wsX9_isReachable_r2 ++ (wsX9_isReachable_r3 ++ (wsX9_isReachable_r4 ++ wsX9_isReachable_r5)))) ++ wsX90 ++ wsX70 ++ wsX50 ++ wsX80 ++ wsX40 ++ (vx_atS RX9 174 "java/lang/IndexOutOfBoundsException" ["java/lang/RuntimeException", "java/lang/Exception"]).filter goodWord)
def wsX9_wouldFree_r1 : List Cond := [Cond.fieldLink RX9 49 "Tenuredale" "trace" "LTenuredale$Trace;", Cond.methodLink RX9 342 yX8_wordsFreed, Cond.instanceMethod yX8_wordsFreed, Cond.selects RX8 yX8_wordsFreed yX8_wordsFreed, Cond.initialized RX8, Cond.code yX8_wordsFreed cX8_wordsFreed 6 (some .int), Cond.fieldLink RX8 18 "Tenuredale$Trace" "all" "LTenuredale$Row;", Cond.fieldLink RX8 119 "Tenuredale$Thing" "place" "I", Cond.fieldLink RX8 84 "Tenuredale$Thing" "kind" "I", Cond.fieldLink RX8 48 "Tenuredale$Thing" "isMarked" "Z", Cond.fieldLink RX8 122 "Tenuredale$Thing" "size" "I", Cond.methodLink RX8 106 yX8_begin, Cond.instanceMethod yX8_begin, Cond.selects RX8 yX8_begin yX8_begin, Cond.code yX8_begin cX8_begin 5 none, Cond.fieldLink RX8 25 "Tenuredale$Trace" "isSoftKept" "Z", Cond.fieldLink RX8 29 "Tenuredale$Trace" "hollow" "LTenuredale$Thing;", Cond.fieldLink RX8 12 "Tenuredale$Trace" "marked" "LTenuredale$Row;", Cond.fieldLink RX8 36 "Tenuredale$Trace" "scanned" "I", Cond.fieldLink RX8 53 "Tenuredale$Thing" "isCut" "Z", Cond.methodLink RX8 33 yX5_clear, Cond.instanceMethod yX5_clear, Cond.selects RX5 yX5_clear yX5_clear, Cond.initialized RX5]
def wsX9_wouldFree_r2 : List Cond := [Cond.code yX5_clear cX5_clear 1 none, Cond.fieldLink RX5 17 "Tenuredale$Row" "size" "I", Cond.methodLink RX8 40 yX5_size, Cond.instanceMethod yX5_size, Cond.selects RX5 yX5_size yX5_size, Cond.code yX5_size cX5_size 1 (some .int), Cond.methodLink RX8 44 yX5_item, Cond.instanceMethod yX5_item, Cond.selects RX5 yX5_item yX5_item, Cond.code yX5_item cX5_item 2 (some (.object "Tenuredale$Thing")), Cond.fieldLink RX5 11 "Tenuredale$Row" "things" "[LTenuredale$Thing;", Cond.methodLink RX8 110 yX8_markRoots, Cond.instanceMethod yX8_markRoots, Cond.selects RX8 yX8_markRoots yX8_markRoots, Cond.code yX8_markRoots cX8_markRoots 3 none, Cond.fieldLink RX8 21 "Tenuredale$Trace" "roots" "LTenuredale$Roots;", Cond.fieldLink RX8 68 "Tenuredale$Thing" "isPinned" "Z", Cond.methodLink RX8 56 yX4_count, Cond.instanceMethod yX4_count, Cond.selects RX4 yX4_count yX4_count, Cond.initialized RX4, Cond.code yX4_count cX4_count 1 (some .int), Cond.fieldLink RX4 27 "Tenuredale$Roots" "frames" "I", Cond.fieldLink RX4 12 "Tenuredale$Roots" "queue" "LTenuredale$Row;"]
def wsX9_wouldFree_r3 : List Cond := [Cond.methodLink RX4 39 yX5_size, Cond.methodLink RX8 61 yX4_root, Cond.instanceMethod yX4_root, Cond.selects RX4 yX4_root yX4_root, Cond.code yX4_root cX4_root 4 (some (.object "Tenuredale$Thing")), Cond.fieldLink RX4 20 "Tenuredale$Roots" "slots" "[LTenuredale$Thing;", Cond.methodLink RX4 43 yX4_readGlobal, Cond.instanceMethod yX4_readGlobal, Cond.selects RX4 yX4_readGlobal yX4_readGlobal, Cond.code yX4_readGlobal cX4_readGlobal 2 (some (.object "Tenuredale$Thing")), Cond.fieldLink RX4 24 "Tenuredale$Roots" "globals" "[LTenuredale$Thing;", Cond.methodLink RX4 47 yX5_item, Cond.methodLink RX8 64 yX8_mark, Cond.instanceMethod yX8_mark, Cond.selects RX8 yX8_mark yX8_mark, Cond.code yX8_mark cX8_mark 2 none, Cond.methodLink RX8 74 yX5_add, Cond.instanceMethod yX5_add, Cond.selects RX5 yX5_add yX5_add, Cond.code yX5_add cX5_add 2 none, Cond.methodLink RX8 113 yX8_spread, Cond.instanceMethod yX8_spread, Cond.selects RX8 yX8_spread yX8_spread, Cond.code yX8_spread cX8_spread 2 none]
def wsX9_wouldFree_r4 : List Cond := [Cond.methodLink RX8 77 yX8_markFieldsOf, Cond.instanceMethod yX8_markFieldsOf, Cond.selects RX8 yX8_markFieldsOf yX8_markFieldsOf, Cond.code yX8_markFieldsOf cX8_markFieldsOf 3 none, Cond.fieldLink RX8 91 "Tenuredale$Thing" "fields" "[LTenuredale$Thing;", Cond.methodLink RX8 87 yX8_firstStrongField, Cond.instanceMethod yX8_firstStrongField, Cond.selects RX8 yX8_firstStrongField yX8_firstStrongField, Cond.code yX8_firstStrongField cX8_firstStrongField 2 (some .int), Cond.static yX9_isLoose, Cond.initialized RX9, Cond.code yX9_isLoose cX9_isLoose 2 (some .boolean), Cond.methodLink RX8 80 yX8_markValues, Cond.instanceMethod yX8_markValues, Cond.selects RX8 yX8_markValues yX8_markValues, Cond.code yX8_markValues cX8_markValues 4 (some .boolean), Cond.methodLink RX8 99 yX8_hasMarked, Cond.static yX8_hasMarked, Cond.code yX8_hasMarked cX8_hasMarked 3 (some .boolean), Cond.methodLink RX8 103 yX7_read, Cond.instanceMethod yX7_read, Cond.selects RX7 yX7_read yX7_read, Cond.initialized RX7, Cond.code yX7_read cX7_read 2 (some (.object "Tenuredale$Thing"))]
def wsX9_wouldFree_r5 : List Cond := [Cond.fieldLink RX7 18 "Tenuredale$Thing" "fields" "[LTenuredale$Thing;", Cond.methodLink RX8 116 yX8_cutPairs, Cond.instanceMethod yX8_cutPairs, Cond.selects RX8 yX8_cutPairs yX8_cutPairs, Cond.code yX8_cutPairs cX8_cutPairs 3 none]
def wsX9_wouldFree : List Cond := .code yX9_wouldFree cX9_wouldFree 2 (some .int) :: ((wsX9_wouldFree_r1 ++ (wsX9_wouldFree_r2 ++ (wsX9_wouldFree_r3 ++ (wsX9_wouldFree_r4 ++ wsX9_wouldFree_r5)))) ++ wsX90 ++ wsX80 ++ wsX70 ++ wsX50 ++ wsX40)
def wsX9_held_r1 : List Cond := [Cond.fieldLink RX9 199 "Tenuredale$Thing" "place" "I", Cond.fieldLink RX9 49 "Tenuredale" "trace" "LTenuredale$Trace;", Cond.methodLink RX9 260 yX9_madeAs, Cond.instanceMethod yX9_madeAs, Cond.selects RX9 yX9_madeAs yX9_madeAs, Cond.initialized RX9, Cond.code yX9_madeAs cX9_madeAs 3 (some (.object "Tenuredale$Thing")), Cond.classLink RX9 170 "java/lang/IndexOutOfBoundsException", Cond.initialized "java/lang/IndexOutOfBoundsException", Cond.fieldLink RX9 10 "Tenuredale" "all" "LTenuredale$Row;", Cond.methodLink RX9 324 yX5_item, Cond.instanceMethod yX5_item, Cond.selects RX5 yX5_item yX5_item, Cond.initialized RX5, Cond.code yX5_item cX5_item 2 (some (.object "Tenuredale$Thing")), Cond.fieldLink RX5 17 "Tenuredale$Row" "size" "I", Cond.fieldLink RX5 11 "Tenuredale$Row" "things" "[LTenuredale$Thing;", Cond.methodLink RX9 342 yX8_wordsFreed, Cond.instanceMethod yX8_wordsFreed, Cond.selects RX8 yX8_wordsFreed yX8_wordsFreed, Cond.initialized RX8, Cond.code yX8_wordsFreed cX8_wordsFreed 6 (some .int), Cond.fieldLink RX8 18 "Tenuredale$Trace" "all" "LTenuredale$Row;", Cond.fieldLink RX8 119 "Tenuredale$Thing" "place" "I"]
def wsX9_held_r2 : List Cond := [Cond.fieldLink RX8 84 "Tenuredale$Thing" "kind" "I", Cond.fieldLink RX8 48 "Tenuredale$Thing" "isMarked" "Z", Cond.fieldLink RX8 122 "Tenuredale$Thing" "size" "I", Cond.methodLink RX8 106 yX8_begin, Cond.instanceMethod yX8_begin, Cond.selects RX8 yX8_begin yX8_begin, Cond.code yX8_begin cX8_begin 5 none, Cond.fieldLink RX8 25 "Tenuredale$Trace" "isSoftKept" "Z", Cond.fieldLink RX8 29 "Tenuredale$Trace" "hollow" "LTenuredale$Thing;", Cond.fieldLink RX8 12 "Tenuredale$Trace" "marked" "LTenuredale$Row;", Cond.fieldLink RX8 36 "Tenuredale$Trace" "scanned" "I", Cond.fieldLink RX8 53 "Tenuredale$Thing" "isCut" "Z", Cond.methodLink RX8 33 yX5_clear, Cond.instanceMethod yX5_clear, Cond.selects RX5 yX5_clear yX5_clear, Cond.code yX5_clear cX5_clear 1 none, Cond.methodLink RX8 40 yX5_size, Cond.instanceMethod yX5_size, Cond.selects RX5 yX5_size yX5_size, Cond.code yX5_size cX5_size 1 (some .int), Cond.methodLink RX8 44 yX5_item, Cond.methodLink RX8 110 yX8_markRoots, Cond.instanceMethod yX8_markRoots, Cond.selects RX8 yX8_markRoots yX8_markRoots]
def wsX9_held_r3 : List Cond := [Cond.code yX8_markRoots cX8_markRoots 3 none, Cond.fieldLink RX8 21 "Tenuredale$Trace" "roots" "LTenuredale$Roots;", Cond.fieldLink RX8 68 "Tenuredale$Thing" "isPinned" "Z", Cond.methodLink RX8 56 yX4_count, Cond.instanceMethod yX4_count, Cond.selects RX4 yX4_count yX4_count, Cond.initialized RX4, Cond.code yX4_count cX4_count 1 (some .int), Cond.fieldLink RX4 27 "Tenuredale$Roots" "frames" "I", Cond.fieldLink RX4 12 "Tenuredale$Roots" "queue" "LTenuredale$Row;", Cond.methodLink RX4 39 yX5_size, Cond.methodLink RX8 61 yX4_root, Cond.instanceMethod yX4_root, Cond.selects RX4 yX4_root yX4_root, Cond.code yX4_root cX4_root 4 (some (.object "Tenuredale$Thing")), Cond.fieldLink RX4 20 "Tenuredale$Roots" "slots" "[LTenuredale$Thing;", Cond.methodLink RX4 43 yX4_readGlobal, Cond.instanceMethod yX4_readGlobal, Cond.selects RX4 yX4_readGlobal yX4_readGlobal, Cond.code yX4_readGlobal cX4_readGlobal 2 (some (.object "Tenuredale$Thing")), Cond.fieldLink RX4 24 "Tenuredale$Roots" "globals" "[LTenuredale$Thing;", Cond.methodLink RX4 47 yX5_item, Cond.methodLink RX8 64 yX8_mark, Cond.instanceMethod yX8_mark]
def wsX9_held_r4 : List Cond := [Cond.selects RX8 yX8_mark yX8_mark, Cond.code yX8_mark cX8_mark 2 none, Cond.methodLink RX8 74 yX5_add, Cond.instanceMethod yX5_add, Cond.selects RX5 yX5_add yX5_add, Cond.code yX5_add cX5_add 2 none, Cond.methodLink RX8 113 yX8_spread, Cond.instanceMethod yX8_spread, Cond.selects RX8 yX8_spread yX8_spread, Cond.code yX8_spread cX8_spread 2 none, Cond.methodLink RX8 77 yX8_markFieldsOf, Cond.instanceMethod yX8_markFieldsOf, Cond.selects RX8 yX8_markFieldsOf yX8_markFieldsOf, Cond.code yX8_markFieldsOf cX8_markFieldsOf 3 none, Cond.fieldLink RX8 91 "Tenuredale$Thing" "fields" "[LTenuredale$Thing;", Cond.methodLink RX8 87 yX8_firstStrongField, Cond.instanceMethod yX8_firstStrongField, Cond.selects RX8 yX8_firstStrongField yX8_firstStrongField, Cond.code yX8_firstStrongField cX8_firstStrongField 2 (some .int), Cond.static yX9_isLoose, Cond.code yX9_isLoose cX9_isLoose 2 (some .boolean), Cond.methodLink RX8 80 yX8_markValues, Cond.instanceMethod yX8_markValues, Cond.selects RX8 yX8_markValues yX8_markValues]
def wsX9_held_r5 : List Cond := [Cond.code yX8_markValues cX8_markValues 4 (some .boolean), Cond.methodLink RX8 99 yX8_hasMarked, Cond.static yX8_hasMarked, Cond.code yX8_hasMarked cX8_hasMarked 3 (some .boolean), Cond.methodLink RX8 103 yX7_read, Cond.instanceMethod yX7_read, Cond.selects RX7 yX7_read yX7_read, Cond.initialized RX7, Cond.code yX7_read cX7_read 2 (some (.object "Tenuredale$Thing")), Cond.fieldLink RX7 18 "Tenuredale$Thing" "fields" "[LTenuredale$Thing;", Cond.methodLink RX8 116 yX8_cutPairs, Cond.instanceMethod yX8_cutPairs, Cond.selects RX8 yX8_cutPairs yX8_cutPairs, Cond.code yX8_cutPairs cX8_cutPairs 3 none, Cond.methodLink RX9 346 yX9_wouldFree, Cond.instanceMethod yX9_wouldFree, Cond.selects RX9 yX9_wouldFree yX9_wouldFree, Cond.code yX9_wouldFree cX9_wouldFree 2 (some .int)]
def wsX9_held : List Cond := .code yX9_held cX9_held 3 (some .int) :: ((wsX9_held_r1 ++ (wsX9_held_r2 ++ (wsX9_held_r3 ++ (wsX9_held_r4 ++ wsX9_held_r5)))) ++ wsX70 ++ wsX90 ++ wsX50 ++ wsX80 ++ wsX40 ++ (vx_atS RX9 174 "java/lang/IndexOutOfBoundsException" ["java/lang/RuntimeException", "java/lang/Exception"]).filter goodWord)
def wsX9_addressFor_r1 : List Cond := [Cond.classLink RX9 98 "java/lang/IllegalArgumentException", Cond.initialized "java/lang/IllegalArgumentException", Cond.fieldLink RX9 26 "Tenuredale" "places" "LTenuredale$Places;", Cond.methodLink RX9 108 yX3_gapFor, Cond.instanceMethod yX3_gapFor, Cond.selects RX3 yX3_gapFor yX3_gapFor, Cond.initialized RX3, Cond.code yX3_gapFor cX3_gapFor 3 (some .int), Cond.fieldLink RX3 46 "Tenuredale$Places" "youngTop" "I", Cond.fieldLink RX3 49 "Tenuredale$Places" "half" "I", Cond.methodLink RX3 42 yX3_largeGapFor, Cond.instanceMethod yX3_largeGapFor, Cond.selects RX3 yX3_largeGapFor yX3_largeGapFor, Cond.code yX3_largeGapFor cX3_largeGapFor 5 (some .int), Cond.fieldLink RX3 21 "Tenuredale$Places" "large" "LTenuredale$Row;", Cond.fieldLink RX3 56 "Tenuredale$Thing" "address" "I", Cond.methodLink RX3 35 yX5_size, Cond.instanceMethod yX5_size, Cond.selects RX5 yX5_size yX5_size, Cond.initialized RX5, Cond.code yX5_size cX5_size 1 (some .int), Cond.fieldLink RX5 17 "Tenuredale$Row" "size" "I", Cond.methodLink RX3 52 yX5_item, Cond.instanceMethod yX5_item]
def wsX9_addressFor_r2 : List Cond := [Cond.selects RX5 yX5_item yX5_item, Cond.code yX5_item cX5_item 2 (some (.object "Tenuredale$Thing")), Cond.fieldLink RX5 11 "Tenuredale$Row" "things" "[LTenuredale$Thing;", Cond.methodLink RX3 61 yX7_end, Cond.instanceMethod yX7_end, Cond.selects RX7 yX7_end yX7_end, Cond.initialized RX7, Cond.code yX7_end cX7_end 1 (some .int), Cond.fieldLink RX7 34 "Tenuredale$Thing" "address" "I", Cond.fieldLink RX7 22 "Tenuredale$Thing" "size" "I"]
def wsX9_addressFor : List Cond := .code yX9_addressFor cX9_addressFor 2 (some .int) :: ((wsX9_addressFor_r1 ++ wsX9_addressFor_r2) ++ wsX90 ++ wsX30 ++ wsX70 ++ wsX50 ++ (vx_atS RX9 102 "java/lang/IllegalArgumentException" ["java/lang/RuntimeException", "java/lang/Exception"]).filter goodWord)
def wsX9_digestOf_r1 : List Cond := [Cond.constantLong RX9 353 (31), Cond.fieldLink RX9 138 "Tenuredale$Thing" "number" "I", Cond.fieldLink RX9 374 "Tenuredale$Thing" "fields" "[LTenuredale$Thing;", Cond.fieldLink RX9 49 "Tenuredale" "trace" "LTenuredale$Trace;", Cond.methodLink RX9 370 yX9_ofObject, Cond.instanceMethod yX9_ofObject, Cond.selects RX9 yX9_ofObject yX9_ofObject, Cond.initialized RX9, Cond.code yX9_ofObject cX9_ofObject 4 (some .int), Cond.classLink RX9 98 "java/lang/IllegalArgumentException", Cond.initialized "java/lang/IllegalArgumentException", Cond.fieldLink RX9 199 "Tenuredale$Thing" "place" "I", Cond.fieldLink RX9 265 "Tenuredale$Thing" "address" "I", Cond.fieldLink RX9 247 "Tenuredale$Thing" "size" "I", Cond.fieldLink RX9 268 "Tenuredale$Thing" "age" "I", Cond.fieldLink RX9 181 "Tenuredale$Thing" "hash" "I", Cond.fieldLink RX9 190 "Tenuredale$Thing" "isPinned" "Z", Cond.fieldLink RX9 42 "Tenuredale" "marking" "LTenuredale$Marking;", Cond.fieldLink RX9 271 "Tenuredale$Thing" "colour" "I", Cond.fieldLink RX9 274 "Tenuredale$Thing" "kind" "I", Cond.methodLink RX9 260 yX9_madeAs, Cond.instanceMethod yX9_madeAs, Cond.selects RX9 yX9_madeAs yX9_madeAs, Cond.code yX9_madeAs cX9_madeAs 3 (some (.object "Tenuredale$Thing"))]
def wsX9_digestOf_r2 : List Cond := [Cond.classLink RX9 170 "java/lang/IndexOutOfBoundsException", Cond.initialized "java/lang/IndexOutOfBoundsException", Cond.fieldLink RX9 10 "Tenuredale" "all" "LTenuredale$Row;", Cond.methodLink RX9 324 yX5_item, Cond.instanceMethod yX5_item, Cond.selects RX5 yX5_item yX5_item, Cond.initialized RX5, Cond.code yX5_item cX5_item 2 (some (.object "Tenuredale$Thing")), Cond.fieldLink RX5 17 "Tenuredale$Row" "size" "I", Cond.fieldLink RX5 11 "Tenuredale$Row" "things" "[LTenuredale$Thing;", Cond.methodLink RX9 228 yX1_isOn, Cond.instanceMethod yX1_isOn, Cond.selects RX1 yX1_isOn yX1_isOn, Cond.initialized RX1, Cond.code yX1_isOn cX1_isOn 1 (some .boolean), Cond.fieldLink RX1 19 "Tenuredale$Marking" "isOn" "Z", Cond.methodLink RX9 152 yX7_read, Cond.instanceMethod yX7_read, Cond.selects RX7 yX7_read yX7_read, Cond.initialized RX7, Cond.code yX7_read cX7_read 2 (some (.object "Tenuredale$Thing")), Cond.fieldLink RX7 18 "Tenuredale$Thing" "fields" "[LTenuredale$Thing;", Cond.methodLink RX9 166 yX9_numberOf, Cond.static yX9_numberOf]
def wsX9_digestOf_r3 : List Cond := [Cond.code yX9_numberOf cX9_numberOf 1 (some .int), Cond.methodLink RX9 378 yX9_isReachable, Cond.instanceMethod yX9_isReachable, Cond.selects RX9 yX9_isReachable yX9_isReachable, Cond.code yX9_isReachable cX9_isReachable 3 (some .boolean), Cond.fieldLink RX9 339 "Tenuredale$Thing" "isMarked" "Z", Cond.methodLink RX9 330 yX8_begin, Cond.instanceMethod yX8_begin, Cond.selects RX8 yX8_begin yX8_begin, Cond.initialized RX8, Cond.code yX8_begin cX8_begin 5 none, Cond.fieldLink RX8 25 "Tenuredale$Trace" "isSoftKept" "Z", Cond.fieldLink RX8 29 "Tenuredale$Trace" "hollow" "LTenuredale$Thing;", Cond.fieldLink RX8 12 "Tenuredale$Trace" "marked" "LTenuredale$Row;", Cond.fieldLink RX8 36 "Tenuredale$Trace" "scanned" "I", Cond.fieldLink RX8 18 "Tenuredale$Trace" "all" "LTenuredale$Row;", Cond.fieldLink RX8 48 "Tenuredale$Thing" "isMarked" "Z", Cond.fieldLink RX8 53 "Tenuredale$Thing" "isCut" "Z", Cond.methodLink RX8 33 yX5_clear, Cond.instanceMethod yX5_clear, Cond.selects RX5 yX5_clear yX5_clear, Cond.code yX5_clear cX5_clear 1 none, Cond.methodLink RX8 40 yX5_size, Cond.instanceMethod yX5_size]
def wsX9_digestOf_r4 : List Cond := [Cond.selects RX5 yX5_size yX5_size, Cond.code yX5_size cX5_size 1 (some .int), Cond.methodLink RX8 44 yX5_item, Cond.methodLink RX9 333 yX8_markRoots, Cond.instanceMethod yX8_markRoots, Cond.selects RX8 yX8_markRoots yX8_markRoots, Cond.code yX8_markRoots cX8_markRoots 3 none, Cond.fieldLink RX8 21 "Tenuredale$Trace" "roots" "LTenuredale$Roots;", Cond.fieldLink RX8 68 "Tenuredale$Thing" "isPinned" "Z", Cond.methodLink RX8 56 yX4_count, Cond.instanceMethod yX4_count, Cond.selects RX4 yX4_count yX4_count, Cond.initialized RX4, Cond.code yX4_count cX4_count 1 (some .int), Cond.fieldLink RX4 27 "Tenuredale$Roots" "frames" "I", Cond.fieldLink RX4 12 "Tenuredale$Roots" "queue" "LTenuredale$Row;", Cond.methodLink RX4 39 yX5_size, Cond.methodLink RX8 61 yX4_root, Cond.instanceMethod yX4_root, Cond.selects RX4 yX4_root yX4_root, Cond.code yX4_root cX4_root 4 (some (.object "Tenuredale$Thing")), Cond.fieldLink RX4 20 "Tenuredale$Roots" "slots" "[LTenuredale$Thing;", Cond.methodLink RX4 43 yX4_readGlobal, Cond.instanceMethod yX4_readGlobal]
def wsX9_digestOf_r5 : List Cond := [Cond.selects RX4 yX4_readGlobal yX4_readGlobal, Cond.code yX4_readGlobal cX4_readGlobal 2 (some (.object "Tenuredale$Thing")), Cond.fieldLink RX4 24 "Tenuredale$Roots" "globals" "[LTenuredale$Thing;", Cond.methodLink RX4 47 yX5_item, Cond.methodLink RX8 64 yX8_mark, Cond.instanceMethod yX8_mark, Cond.selects RX8 yX8_mark yX8_mark, Cond.code yX8_mark cX8_mark 2 none, Cond.methodLink RX8 74 yX5_add, Cond.instanceMethod yX5_add, Cond.selects RX5 yX5_add yX5_add, Cond.code yX5_add cX5_add 2 none, Cond.methodLink RX9 336 yX8_spread, Cond.instanceMethod yX8_spread, Cond.selects RX8 yX8_spread yX8_spread, Cond.code yX8_spread cX8_spread 2 none, Cond.methodLink RX8 77 yX8_markFieldsOf, Cond.instanceMethod yX8_markFieldsOf, Cond.selects RX8 yX8_markFieldsOf yX8_markFieldsOf, Cond.code yX8_markFieldsOf cX8_markFieldsOf 3 none, Cond.fieldLink RX8 84 "Tenuredale$Thing" "kind" "I", Cond.fieldLink RX8 91 "Tenuredale$Thing" "fields" "[LTenuredale$Thing;", Cond.methodLink RX8 87 yX8_firstStrongField, Cond.instanceMethod yX8_firstStrongField]
def wsX9_digestOf_r6 : List Cond := [Cond.selects RX8 yX8_firstStrongField yX8_firstStrongField, Cond.code yX8_firstStrongField cX8_firstStrongField 2 (some .int), Cond.static yX9_isLoose, Cond.code yX9_isLoose cX9_isLoose 2 (some .boolean), Cond.methodLink RX8 80 yX8_markValues, Cond.instanceMethod yX8_markValues, Cond.selects RX8 yX8_markValues yX8_markValues, Cond.code yX8_markValues cX8_markValues 4 (some .boolean), Cond.methodLink RX8 99 yX8_hasMarked, Cond.static yX8_hasMarked, Cond.code yX8_hasMarked cX8_hasMarked 3 (some .boolean), Cond.methodLink RX8 103 yX7_read, Cond.methodLink RX9 342 yX8_wordsFreed, Cond.instanceMethod yX8_wordsFreed, Cond.selects RX8 yX8_wordsFreed yX8_wordsFreed, Cond.code yX8_wordsFreed cX8_wordsFreed 6 (some .int), Cond.fieldLink RX8 119 "Tenuredale$Thing" "place" "I", Cond.fieldLink RX8 122 "Tenuredale$Thing" "size" "I", Cond.methodLink RX8 106 yX8_begin, Cond.methodLink RX8 110 yX8_markRoots, Cond.methodLink RX8 113 yX8_spread, Cond.methodLink RX8 116 yX8_cutPairs, Cond.instanceMethod yX8_cutPairs, Cond.selects RX8 yX8_cutPairs yX8_cutPairs]
def wsX9_digestOf_r7 : List Cond := [Cond.code yX8_cutPairs cX8_cutPairs 3 none]
def wsX9_digestOf : List Cond := .code yX9_digestOf cX9_digestOf 8 (some .long) :: ((wsX9_digestOf_r1 ++ (wsX9_digestOf_r2 ++ (wsX9_digestOf_r3 ++ (wsX9_digestOf_r4 ++ (wsX9_digestOf_r5 ++ (wsX9_digestOf_r6 ++ wsX9_digestOf_r7)))))) ++ wsX70 ++ wsX90 ++ wsX50 ++ wsX10 ++ wsX80 ++ wsX40 ++ (vx_atS RX9 102 "java/lang/IllegalArgumentException" ["java/lang/RuntimeException", "java/lang/Exception"]).filter goodWord ++ (vx_atS RX9 174 "java/lang/IndexOutOfBoundsException" ["java/lang/RuntimeException", "java/lang/Exception"]).filter goodWord)
def wsX9_digest_r1 : List Cond := [Cond.constantLong RX9 351 (58130), Cond.constantLong RX9 353 (31), Cond.fieldLink RX9 19 "Tenuredale" "roots" "LTenuredale$Roots;", Cond.fieldLink RX9 211 "Tenuredale$Roots" "queue" "LTenuredale$Row;", Cond.fieldLink RX9 10 "Tenuredale" "all" "LTenuredale$Row;", Cond.fieldLink RX9 199 "Tenuredale$Thing" "place" "I", Cond.methodLink RX9 355 yX9_many, Cond.instanceMethod yX9_many, Cond.selects RX9 yX9_many yX9_many, Cond.initialized RX9, Cond.code yX9_many cX9_many 2 (some .int), Cond.classLink RX9 98 "java/lang/IllegalArgumentException", Cond.initialized "java/lang/IllegalArgumentException", Cond.fieldLink RX9 26 "Tenuredale" "places" "LTenuredale$Places;", Cond.fieldLink RX9 280 "Tenuredale$Places" "youngTop" "I", Cond.fieldLink RX9 283 "Tenuredale$Places" "half" "I", Cond.fieldLink RX9 286 "Tenuredale$Places" "oldTop" "I", Cond.fieldLink RX9 289 "Tenuredale$Places" "oldWords" "I", Cond.fieldLink RX9 292 "Tenuredale$Places" "large" "LTenuredale$Row;", Cond.fieldLink RX9 33 "Tenuredale" "tally" "LTenuredale$Tally;", Cond.fieldLink RX9 304 "Tenuredale$Tally" "minors" "I", Cond.fieldLink RX9 307 "Tenuredale$Tally" "fulls" "I", Cond.fieldLink RX9 310 "Tenuredale$Tally" "latestTouched" "I", Cond.fieldLink RX9 313 "Tenuredale$Tally" "mostTouched" "I"]
def wsX9_digest_r2 : List Cond := [Cond.fieldLink RX9 42 "Tenuredale" "marking" "LTenuredale$Marking;", Cond.methodLink RX9 103 yX5_size, Cond.instanceMethod yX5_size, Cond.selects RX5 yX5_size yX5_size, Cond.initialized RX5, Cond.code yX5_size cX5_size 1 (some .int), Cond.fieldLink RX5 17 "Tenuredale$Row" "size" "I", Cond.methodLink RX9 277 yX3_things, Cond.instanceMethod yX3_things, Cond.selects RX3 yX3_things yX3_things, Cond.initialized RX3, Cond.code yX3_things cX3_things 1 (some .int), Cond.fieldLink RX3 12 "Tenuredale$Places" "young" "LTenuredale$Row;", Cond.fieldLink RX3 18 "Tenuredale$Places" "old" "LTenuredale$Row;", Cond.fieldLink RX3 21 "Tenuredale$Places" "large" "LTenuredale$Row;", Cond.methodLink RX3 35 yX5_size, Cond.methodLink RX9 71 yX4_frames, Cond.instanceMethod yX4_frames, Cond.selects RX4 yX4_frames yX4_frames, Cond.initialized RX4, Cond.code yX4_frames cX4_frames 1 (some .int), Cond.fieldLink RX4 27 "Tenuredale$Roots" "frames" "I", Cond.methodLink RX9 295 yX5_words, Cond.instanceMethod yX5_words]
def wsX9_digest_r3 : List Cond := [Cond.selects RX5 yX5_words yX5_words, Cond.code yX5_words cX5_words 4 (some .int), Cond.fieldLink RX5 11 "Tenuredale$Row" "things" "[LTenuredale$Thing;", Cond.fieldLink RX5 35 "Tenuredale$Thing" "size" "I", Cond.methodLink RX9 298 yX3_largeGaps, Cond.instanceMethod yX3_largeGaps, Cond.selects RX3 yX3_largeGaps yX3_largeGaps, Cond.code yX3_largeGaps cX3_largeGaps 5 (some .int), Cond.fieldLink RX3 56 "Tenuredale$Thing" "address" "I", Cond.methodLink RX3 52 yX5_item, Cond.instanceMethod yX5_item, Cond.selects RX5 yX5_item yX5_item, Cond.code yX5_item cX5_item 2 (some (.object "Tenuredale$Thing")), Cond.methodLink RX3 61 yX7_end, Cond.instanceMethod yX7_end, Cond.selects RX7 yX7_end yX7_end, Cond.initialized RX7, Cond.code yX7_end cX7_end 1 (some .int), Cond.fieldLink RX7 34 "Tenuredale$Thing" "address" "I", Cond.fieldLink RX7 22 "Tenuredale$Thing" "size" "I", Cond.methodLink RX9 301 yX3_dirtyCards, Cond.instanceMethod yX3_dirtyCards, Cond.selects RX3 yX3_dirtyCards yX3_dirtyCards, Cond.code yX3_dirtyCards cX3_dirtyCards 3 (some .int)]
def wsX9_digest_r4 : List Cond := [Cond.fieldLink RX3 31 "Tenuredale$Places" "dirty" "[Z", Cond.methodLink RX9 236 yX1_greys, Cond.instanceMethod yX1_greys, Cond.selects RX1 yX1_greys yX1_greys, Cond.initialized RX1, Cond.code yX1_greys cX1_greys 4 (some .int), Cond.fieldLink RX1 19 "Tenuredale$Marking" "isOn" "Z", Cond.fieldLink RX1 9 "Tenuredale$Marking" "all" "LTenuredale$Row;", Cond.fieldLink RX1 33 "Tenuredale$Thing" "colour" "I", Cond.methodLink RX1 23 yX5_size, Cond.methodLink RX1 29 yX5_item, Cond.methodLink RX9 358 yX9_queue, Cond.instanceMethod yX9_queue, Cond.selects RX9 yX9_queue yX9_queue, Cond.code yX9_queue cX9_queue 3 (some .int), Cond.classLink RX9 170 "java/lang/IndexOutOfBoundsException", Cond.initialized "java/lang/IndexOutOfBoundsException", Cond.fieldLink RX9 138 "Tenuredale$Thing" "number" "I", Cond.methodLink RX9 324 yX5_item, Cond.methodLink RX9 360 yX9_at, Cond.instanceMethod yX9_at, Cond.selects RX9 yX9_at yX9_at, Cond.code yX9_at cX9_at 2 (some .int), Cond.methodLink RX9 90 yX9_requireSlot]
def wsX9_digest_r5 : List Cond := [Cond.static yX9_requireSlot, Cond.code yX9_requireSlot cX9_requireSlot 1 none, Cond.methodLink RX9 155 yX4_readSlot, Cond.instanceMethod yX4_readSlot, Cond.selects RX4 yX4_readSlot yX4_readSlot, Cond.code yX4_readSlot cX4_readSlot 3 (some (.object "Tenuredale$Thing")), Cond.fieldLink RX4 20 "Tenuredale$Roots" "slots" "[LTenuredale$Thing;", Cond.methodLink RX4 35 yX4_indexOf, Cond.instanceMethod yX4_indexOf, Cond.selects RX4 yX4_indexOf yX4_indexOf, Cond.code yX4_indexOf cX4_indexOf 2 (some .int), Cond.methodLink RX9 166 yX9_numberOf, Cond.static yX9_numberOf, Cond.code yX9_numberOf cX9_numberOf 1 (some .int), Cond.methodLink RX9 346 yX9_wouldFree, Cond.instanceMethod yX9_wouldFree, Cond.selects RX9 yX9_wouldFree yX9_wouldFree, Cond.code yX9_wouldFree cX9_wouldFree 2 (some .int), Cond.fieldLink RX9 49 "Tenuredale" "trace" "LTenuredale$Trace;", Cond.methodLink RX9 342 yX8_wordsFreed, Cond.instanceMethod yX8_wordsFreed, Cond.selects RX8 yX8_wordsFreed yX8_wordsFreed, Cond.initialized RX8, Cond.code yX8_wordsFreed cX8_wordsFreed 6 (some .int)]
def wsX9_digest_r6 : List Cond := [Cond.fieldLink RX8 18 "Tenuredale$Trace" "all" "LTenuredale$Row;", Cond.fieldLink RX8 119 "Tenuredale$Thing" "place" "I", Cond.fieldLink RX8 84 "Tenuredale$Thing" "kind" "I", Cond.fieldLink RX8 48 "Tenuredale$Thing" "isMarked" "Z", Cond.fieldLink RX8 122 "Tenuredale$Thing" "size" "I", Cond.methodLink RX8 106 yX8_begin, Cond.instanceMethod yX8_begin, Cond.selects RX8 yX8_begin yX8_begin, Cond.code yX8_begin cX8_begin 5 none, Cond.fieldLink RX8 25 "Tenuredale$Trace" "isSoftKept" "Z", Cond.fieldLink RX8 29 "Tenuredale$Trace" "hollow" "LTenuredale$Thing;", Cond.fieldLink RX8 12 "Tenuredale$Trace" "marked" "LTenuredale$Row;", Cond.fieldLink RX8 36 "Tenuredale$Trace" "scanned" "I", Cond.fieldLink RX8 53 "Tenuredale$Thing" "isCut" "Z", Cond.methodLink RX8 33 yX5_clear, Cond.instanceMethod yX5_clear, Cond.selects RX5 yX5_clear yX5_clear, Cond.code yX5_clear cX5_clear 1 none, Cond.methodLink RX8 40 yX5_size, Cond.methodLink RX8 44 yX5_item, Cond.methodLink RX8 110 yX8_markRoots, Cond.instanceMethod yX8_markRoots, Cond.selects RX8 yX8_markRoots yX8_markRoots, Cond.code yX8_markRoots cX8_markRoots 3 none]
def wsX9_digest_r7 : List Cond := [Cond.fieldLink RX8 21 "Tenuredale$Trace" "roots" "LTenuredale$Roots;", Cond.fieldLink RX8 68 "Tenuredale$Thing" "isPinned" "Z", Cond.methodLink RX8 56 yX4_count, Cond.instanceMethod yX4_count, Cond.selects RX4 yX4_count yX4_count, Cond.code yX4_count cX4_count 1 (some .int), Cond.fieldLink RX4 12 "Tenuredale$Roots" "queue" "LTenuredale$Row;", Cond.methodLink RX4 39 yX5_size, Cond.methodLink RX8 61 yX4_root, Cond.instanceMethod yX4_root, Cond.selects RX4 yX4_root yX4_root, Cond.code yX4_root cX4_root 4 (some (.object "Tenuredale$Thing")), Cond.methodLink RX4 43 yX4_readGlobal, Cond.instanceMethod yX4_readGlobal, Cond.selects RX4 yX4_readGlobal yX4_readGlobal, Cond.code yX4_readGlobal cX4_readGlobal 2 (some (.object "Tenuredale$Thing")), Cond.fieldLink RX4 24 "Tenuredale$Roots" "globals" "[LTenuredale$Thing;", Cond.methodLink RX4 47 yX5_item, Cond.methodLink RX8 64 yX8_mark, Cond.instanceMethod yX8_mark, Cond.selects RX8 yX8_mark yX8_mark, Cond.code yX8_mark cX8_mark 2 none, Cond.methodLink RX8 74 yX5_add, Cond.instanceMethod yX5_add]
def wsX9_digest_r8 : List Cond := [Cond.selects RX5 yX5_add yX5_add, Cond.code yX5_add cX5_add 2 none, Cond.methodLink RX8 113 yX8_spread, Cond.instanceMethod yX8_spread, Cond.selects RX8 yX8_spread yX8_spread, Cond.code yX8_spread cX8_spread 2 none, Cond.methodLink RX8 77 yX8_markFieldsOf, Cond.instanceMethod yX8_markFieldsOf, Cond.selects RX8 yX8_markFieldsOf yX8_markFieldsOf, Cond.code yX8_markFieldsOf cX8_markFieldsOf 3 none, Cond.fieldLink RX8 91 "Tenuredale$Thing" "fields" "[LTenuredale$Thing;", Cond.methodLink RX8 87 yX8_firstStrongField, Cond.instanceMethod yX8_firstStrongField, Cond.selects RX8 yX8_firstStrongField yX8_firstStrongField, Cond.code yX8_firstStrongField cX8_firstStrongField 2 (some .int), Cond.static yX9_isLoose, Cond.code yX9_isLoose cX9_isLoose 2 (some .boolean), Cond.methodLink RX8 80 yX8_markValues, Cond.instanceMethod yX8_markValues, Cond.selects RX8 yX8_markValues yX8_markValues, Cond.code yX8_markValues cX8_markValues 4 (some .boolean), Cond.methodLink RX8 99 yX8_hasMarked, Cond.static yX8_hasMarked, Cond.code yX8_hasMarked cX8_hasMarked 3 (some .boolean)]
def wsX9_digest_r9 : List Cond := [Cond.methodLink RX8 103 yX7_read, Cond.instanceMethod yX7_read, Cond.selects RX7 yX7_read yX7_read, Cond.code yX7_read cX7_read 2 (some (.object "Tenuredale$Thing")), Cond.fieldLink RX7 18 "Tenuredale$Thing" "fields" "[LTenuredale$Thing;", Cond.methodLink RX8 116 yX8_cutPairs, Cond.instanceMethod yX8_cutPairs, Cond.selects RX8 yX8_cutPairs yX8_cutPairs, Cond.code yX8_cutPairs cX8_cutPairs 3 none, Cond.methodLink RX9 363 yX9_digestOf, Cond.instanceMethod yX9_digestOf, Cond.selects RX9 yX9_digestOf yX9_digestOf, Cond.code yX9_digestOf cX9_digestOf 8 (some .long), Cond.fieldLink RX9 374 "Tenuredale$Thing" "fields" "[LTenuredale$Thing;", Cond.methodLink RX9 370 yX9_ofObject, Cond.instanceMethod yX9_ofObject, Cond.selects RX9 yX9_ofObject yX9_ofObject, Cond.code yX9_ofObject cX9_ofObject 4 (some .int), Cond.fieldLink RX9 265 "Tenuredale$Thing" "address" "I", Cond.fieldLink RX9 247 "Tenuredale$Thing" "size" "I", Cond.fieldLink RX9 268 "Tenuredale$Thing" "age" "I", Cond.fieldLink RX9 181 "Tenuredale$Thing" "hash" "I", Cond.fieldLink RX9 190 "Tenuredale$Thing" "isPinned" "Z", Cond.fieldLink RX9 271 "Tenuredale$Thing" "colour" "I"]
def wsX9_digest_r10 : List Cond := [Cond.fieldLink RX9 274 "Tenuredale$Thing" "kind" "I", Cond.methodLink RX9 260 yX9_madeAs, Cond.instanceMethod yX9_madeAs, Cond.selects RX9 yX9_madeAs yX9_madeAs, Cond.code yX9_madeAs cX9_madeAs 3 (some (.object "Tenuredale$Thing")), Cond.methodLink RX9 228 yX1_isOn, Cond.instanceMethod yX1_isOn, Cond.selects RX1 yX1_isOn yX1_isOn, Cond.code yX1_isOn cX1_isOn 1 (some .boolean), Cond.methodLink RX9 152 yX7_read, Cond.methodLink RX9 378 yX9_isReachable, Cond.instanceMethod yX9_isReachable, Cond.selects RX9 yX9_isReachable yX9_isReachable, Cond.code yX9_isReachable cX9_isReachable 3 (some .boolean), Cond.fieldLink RX9 339 "Tenuredale$Thing" "isMarked" "Z", Cond.methodLink RX9 330 yX8_begin, Cond.methodLink RX9 333 yX8_markRoots, Cond.methodLink RX9 336 yX8_spread, Cond.methodLink RX9 367 yX9_addressFor, Cond.instanceMethod yX9_addressFor, Cond.selects RX9 yX9_addressFor yX9_addressFor, Cond.code yX9_addressFor cX9_addressFor 2 (some .int), Cond.methodLink RX9 108 yX3_gapFor, Cond.instanceMethod yX3_gapFor]
def wsX9_digest_r11 : List Cond := [Cond.selects RX3 yX3_gapFor yX3_gapFor, Cond.code yX3_gapFor cX3_gapFor 3 (some .int), Cond.fieldLink RX3 46 "Tenuredale$Places" "youngTop" "I", Cond.fieldLink RX3 49 "Tenuredale$Places" "half" "I", Cond.methodLink RX3 42 yX3_largeGapFor, Cond.instanceMethod yX3_largeGapFor, Cond.selects RX3 yX3_largeGapFor yX3_largeGapFor, Cond.code yX3_largeGapFor cX3_largeGapFor 5 (some .int)]
def wsX9_digest : List Cond := .code yX9_digest cX9_digest 6 (some .long) :: ((wsX9_digest_r1 ++ (wsX9_digest_r2 ++ (wsX9_digest_r3 ++ (wsX9_digest_r4 ++ (wsX9_digest_r5 ++ (wsX9_digest_r6 ++ (wsX9_digest_r7 ++ (wsX9_digest_r8 ++ (wsX9_digest_r9 ++ (wsX9_digest_r10 ++ wsX9_digest_r11)))))))))) ++ wsX90 ++ wsX40 ++ wsX70 ++ wsX30 ++ wsX60 ++ wsX50 ++ wsX10 ++ wsX80 ++ (vx_atS RX9 102 "java/lang/IllegalArgumentException" ["java/lang/RuntimeException", "java/lang/Exception"]).filter goodWord ++ (vx_atS RX9 174 "java/lang/IndexOutOfBoundsException" ["java/lang/RuntimeException", "java/lang/Exception"]).filter goodWord)
theorem dX0_init_0 : decode cX0_init 0 = .ok (.aload_n 0, 1) := by decide +kernel
theorem dX0_init_1 : decode cX0_init 1 = .ok (.invokespecial 3, 3) := by decide +kernel
theorem dX0_init_4 : decode cX0_init 4 = .ok (.aload_n 0, 1) := by decide +kernel
theorem dX0_init_5 : decode cX0_init 5 = .ok (.aload_n 1, 1) := by decide +kernel
theorem dX0_init_6 : decode cX0_init 6 = .ok (.putfield 9, 3) := by decide +kernel
theorem dX0_init_9 : decode cX0_init 9 = .ok (.aload_n 0, 1) := by decide +kernel
theorem dX0_init_10 : decode cX0_init 10 = .ok (.aload_n 2, 1) := by decide +kernel
theorem dX0_init_11 : decode cX0_init 11 = .ok (.putfield 15, 3) := by decide +kernel
theorem dX0_init_14 : decode cX0_init 14 = .ok (.aload_n 0, 1) := by decide +kernel
theorem dX0_init_15 : decode cX0_init 15 = .ok (.aload_n 3, 1) := by decide +kernel
theorem dX0_init_16 : decode cX0_init 16 = .ok (.putfield 19, 3) := by decide +kernel
theorem dX0_init_19 : decode cX0_init 19 = .ok (.aload_n 0, 1) := by decide +kernel
theorem dX0_init_20 : decode cX0_init 20 = .ok (.aload 4, 2) := by decide +kernel
theorem dX0_init_22 : decode cX0_init 22 = .ok (.putfield 23, 3) := by decide +kernel
theorem dX0_init_25 : decode cX0_init 25 = .ok (.aload_n 0, 1) := by decide +kernel
theorem dX0_init_26 : decode cX0_init 26 = .ok (.aload 5, 2) := by decide +kernel
theorem dX0_init_28 : decode cX0_init 28 = .ok (.putfield 27, 3) := by decide +kernel
theorem dX0_init_31 : decode cX0_init 31 = .ok (.aload_n 0, 1) := by decide +kernel
theorem dX0_init_32 : decode cX0_init 32 = .ok (.aload 6, 2) := by decide +kernel
theorem dX0_init_34 : decode cX0_init 34 = .ok (.putfield 31, 3) := by decide +kernel
theorem dX0_init_37 : decode cX0_init 37 = .ok (.return_, 1) := by decide +kernel
set_option maxRecDepth 20000 in
theorem ggX0_run_X8_begin : GoodIn wsX0_run wsX8_begin := goodIn_r _ [10, 11, 12, 13, 14, 15, 16, 17, 18, 19, 20, 21, 22, 23, 24, 25, 26, 27, 28, 29, 30, 31, 32, 257, 258, 259, 260, 261, 262, 263, 264, 265, 266, 267, 268, 269, 270, 271, 272, 273, 274, 275, 276, 277, 278] (by decide +kernel) (by decide +kernel)
set_option maxRecDepth 20000 in
theorem gX0_run_X8_begin : GoodIn wsX0_run (wsV RX0 35 RX8 yX8_begin wsX8_begin) := goodIn_app (goodIn_of _ (by decide +kernel)) ggX0_run_X8_begin
set_option maxRecDepth 20000 in
theorem ggX0_run_X8_markBlack : GoodIn wsX0_run wsX8_markBlack := goodIn_r _ [36, 15, 37, 13, 14, 24, 25, 26, 21, 27, 23, 28, 29, 30, 31, 32, 38, 39, 40, 9, 41, 16, 42, 43, 44, 45, 257, 258, 259, 260, 261, 262, 263, 264, 265, 266, 267, 268, 269, 270, 271, 272, 273, 274, 275, 276, 277, 278] (by decide +kernel) (by decide +kernel)
set_option maxRecDepth 20000 in
theorem gX0_run_X8_markBlack : GoodIn wsX0_run (wsV RX0 41 RX8 yX8_markBlack wsX8_markBlack) := goodIn_app (goodIn_of _ (by decide +kernel)) ggX0_run_X8_markBlack
set_option maxRecDepth 20000 in
theorem ggX0_run_X8_markRoots : GoodIn wsX0_run wsX8_markRoots := goodIn_r _ [49, 50, 15, 51, 52, 53, 54, 55, 56, 57, 58, 59, 25, 26, 21, 27, 23, 60, 61, 62, 63, 64, 65, 66, 67, 68, 69, 70, 29, 30, 31, 32, 38, 39, 40, 9, 41, 16, 13, 42, 43, 44, 45, 24, 28, 257, 258, 259, 260, 261, 262, 263, 264, 265, 266, 267, 268, 269, 270, 271, 272, 273, 274, 275, 276, 279, 280, 281, 282, 277, 278] (by decide +kernel) (by decide +kernel)
set_option maxRecDepth 20000 in
theorem gX0_run_X8_markRoots : GoodIn wsX0_run (wsV RX0 44 RX8 yX8_markRoots wsX8_markRoots) := goodIn_app (goodIn_of _ (by decide +kernel)) ggX0_run_X8_markRoots
set_option maxRecDepth 20000 in
theorem ggX0_run_X8_spread : GoodIn wsX0_run wsX8_spread := goodIn_r _ [74, 14, 13, 24, 25, 26, 21, 27, 23, 28, 29, 30, 31, 32, 75, 76, 77, 9, 78, 12, 79, 80, 81, 82, 83, 84, 11, 85, 86, 87, 38, 39, 40, 41, 16, 42, 43, 44, 45, 88, 89, 90, 91, 17, 92, 93, 94, 95, 96, 97, 98, 99, 100, 257, 258, 259, 260, 261, 262, 277, 278, 263, 264, 265, 266, 267, 268, 269, 270, 271, 272, 273, 274, 275, 276] (by decide +kernel) (by decide +kernel)
set_option maxRecDepth 20000 in
theorem gX0_run_X8_spread : GoodIn wsX0_run (wsV RX0 47 RX8 yX8_spread wsX8_spread) := goodIn_app (goodIn_of _ (by decide +kernel)) ggX0_run_X8_spread
set_option maxRecDepth 20000 in
theorem ggX0_run_X0_dropReferences : GoodIn wsX0_run wsX0_dropReferences := goodIn_r _ [105, 106, 107, 108, 109, 25, 26, 21, 27, 23, 110, 29, 30, 31, 32, 111, 93, 9, 94, 16, 95, 96, 97, 98, 99, 100, 112, 113, 114, 115, 85, 86, 87, 247, 248, 249, 250, 251, 252, 263, 264, 265, 266, 267, 268, 269, 270, 271, 272, 273, 274, 275, 276, 277, 278] (by decide +kernel) (by decide +kernel)
set_option maxRecDepth 20000 in
theorem gX0_run_X0_dropReferences : GoodIn wsX0_run (wsV RX0 50 RX0 yX0_dropReferences wsX0_dropReferences) := goodIn_app (goodIn_of _ (by decide +kernel)) ggX0_run_X0_dropReferences
set_option maxRecDepth 20000 in
theorem ggX0_run_X0_raiseFinals : GoodIn wsX0_run wsX0_raiseFinals := goodIn_r _ [119, 106, 120, 107, 108, 121, 122, 1, 109, 25, 26, 21, 27, 23, 110, 29, 30, 31, 32, 123, 43, 44, 45, 124, 39, 40, 9, 41, 16, 13, 42, 247, 248, 249, 250, 251, 252, 263, 264, 265, 266, 267, 268, 269, 270, 271, 272, 273, 274, 275, 276, 279, 280, 281, 282, 277, 278, 257, 258, 259, 260, 261, 262] (by decide +kernel) (by decide +kernel)
set_option maxRecDepth 20000 in
theorem gX0_run_X0_raiseFinals : GoodIn wsX0_run (wsV RX0 54 RX0 yX0_raiseFinals wsX0_raiseFinals) := goodIn_app (goodIn_of _ (by decide +kernel)) ggX0_run_X0_raiseFinals
set_option maxRecDepth 20000 in
theorem ggX0_run_X0_sweep : GoodIn wsX0_run wsX0_sweep := goodIn_r _ [128, 106, 120, 108, 109, 25, 26, 21, 27, 23, 110, 29, 30, 31, 32, 129, 130, 131, 98, 132, 133, 134, 100, 247, 248, 249, 250, 251, 252, 263, 264, 265, 266, 267, 268, 269, 270, 271, 272, 273, 274, 275, 276, 277, 278] (by decide +kernel) (by decide +kernel)
set_option maxRecDepth 20000 in
theorem gX0_run_X0_sweep : GoodIn wsX0_run (wsV RX0 57 RX0 yX0_sweep wsX0_sweep) := goodIn_app (goodIn_of _ (by decide +kernel)) ggX0_run_X0_sweep
set_option maxRecDepth 20000 in
theorem ggX0_run_X3_compact : GoodIn wsX0_run wsX3_compact := goodIn_r _ [139, 140, 141, 142, 143, 144, 145, 21, 146, 23, 32, 147, 148, 43, 44, 45, 149, 150, 151, 138, 152, 153, 154, 155, 156, 157, 25, 26, 27, 158, 29, 30, 31, 159, 160, 161, 98, 162, 163, 164, 133, 165, 166, 167, 168, 169, 170, 171, 172, 173, 174, 175, 176, 177, 178, 179, 180, 181, 182, 183, 184, 185, 186, 187, 188, 189, 190, 191, 192, 193, 194, 195, 196, 19, 20, 22, 197, 198, 199, 200, 201, 202, 203, 204, 205, 206, 207, 283, 284, 285, 286, 287, 288, 289, 290, 277, 278, 263, 264, 265, 266, 267, 268, 269, 270, 271, 272, 273, 274, 275, 276] (by decide +kernel) (by decide +kernel)
set_option maxRecDepth 20000 in
theorem gX0_run_X3_compact : GoodIn wsX0_run (wsV RX0 61 RX3 yX3_compact wsX3_compact) := goodIn_app (goodIn_of _ (by decide +kernel)) ggX0_run_X3_compact
set_option maxRecDepth 20000 in
theorem ggX0_run_X3_renewCards : GoodIn wsX0_run wsX3_renewCards := goodIn_r _ [211, 212, 141, 142, 213, 214, 215, 138, 216, 157, 25, 26, 21, 27, 23, 158, 29, 30, 31, 32, 217, 218, 219, 98, 220, 100, 133, 221, 222, 223, 224, 225, 226, 227, 228, 165, 283, 284, 285, 286, 287, 288, 289, 290, 277, 278, 263, 264, 265, 266, 267, 268, 269, 270, 271, 272, 273, 274, 275, 276] (by decide +kernel) (by decide +kernel)
set_option maxRecDepth 20000 in
theorem gX0_run_X3_renewCards : GoodIn wsX0_run (wsV RX0 66 RX3 yX3_renewCards wsX3_renewCards) := goodIn_app (goodIn_of _ (by decide +kernel)) ggX0_run_X3_renewCards
set_option maxRecDepth 20000 in
theorem ggX0_run_X1_end : GoodIn wsX0_run wsX1_end := goodIn_r _ [233, 234, 291, 292, 293] (by decide +kernel) (by decide +kernel)
set_option maxRecDepth 20000 in
theorem gX0_run_X1_end : GoodIn wsX0_run (wsV RX0 69 RX1 yX1_end wsX1_end) := goodIn_app (goodIn_of _ (by decide +kernel)) ggX0_run_X1_end
set_option maxRecDepth 20000 in
theorem ggX0_run_X3_words : GoodIn wsX0_run wsX3_words := goodIn_r _ [238, 140, 141, 142, 191, 192, 193, 21, 194, 23, 32, 195, 283, 284, 285, 286, 287, 288, 289, 290, 277, 278, 263, 264, 265, 266, 267, 268, 269, 270, 271, 272, 273, 274, 275, 276] (by decide +kernel) (by decide +kernel)
set_option maxRecDepth 20000 in
theorem gX0_run_X3_words : GoodIn wsX0_run (wsV RX0 80 RX3 yX3_words wsX3_words) := goodIn_app (goodIn_of _ (by decide +kernel)) ggX0_run_X3_words
set_option maxRecDepth 20000 in
theorem ggX0_run_X6_noteTouched : GoodIn wsX0_run wsX6_noteTouched := goodIn_r _ [243, 244, 245, 246, 206, 203, 207, 253, 254, 255, 256] (by decide +kernel) (by decide +kernel)
set_option maxRecDepth 20000 in
theorem gX0_run_X6_noteTouched : GoodIn wsX0_run (wsV RX0 83 RX6 yX6_noteTouched wsX6_noteTouched) := goodIn_app (goodIn_of _ (by decide +kernel)) ggX0_run_X6_noteTouched
theorem dX0_run_0 : decode cX0_run 0 = .ok (.aload_n 0, 1) := by decide +kernel
theorem dX0_run_1 : decode cX0_run 1 = .ok (.getfield 31, 3) := by decide +kernel
theorem dX0_run_4 : decode cX0_run 4 = .ok (.iload_n 1, 1) := by decide +kernel
theorem dX0_run_5 : decode cX0_run 5 = .ok (.aconst_null, 1) := by decide +kernel
theorem dX0_run_6 : decode cX0_run 6 = .ok (.invokevirtual 35, 3) := by decide +kernel
theorem dX0_run_9 : decode cX0_run 9 = .ok (.iload_n 2, 1) := by decide +kernel
theorem dX0_run_10 : decode cX0_run 10 = .ok (.ifCond .eq 13, 3) := by decide +kernel
theorem dX0_run_13 : decode cX0_run 13 = .ok (.aload_n 0, 1) := by decide +kernel
theorem dX0_run_14 : decode cX0_run 14 = .ok (.getfield 31, 3) := by decide +kernel
theorem dX0_run_17 : decode cX0_run 17 = .ok (.invokevirtual 41, 3) := by decide +kernel
theorem dX0_run_20 : decode cX0_run 20 = .ok (.goto 17, 3) := by decide +kernel
theorem dX0_run_23 : decode cX0_run 23 = .ok (.aload_n 0, 1) := by decide +kernel
theorem dX0_run_24 : decode cX0_run 24 = .ok (.getfield 31, 3) := by decide +kernel
theorem dX0_run_27 : decode cX0_run 27 = .ok (.invokevirtual 44, 3) := by decide +kernel
theorem dX0_run_30 : decode cX0_run 30 = .ok (.aload_n 0, 1) := by decide +kernel
theorem dX0_run_31 : decode cX0_run 31 = .ok (.getfield 31, 3) := by decide +kernel
theorem dX0_run_34 : decode cX0_run 34 = .ok (.invokevirtual 47, 3) := by decide +kernel
theorem dX0_run_37 : decode cX0_run 37 = .ok (.aload_n 0, 1) := by decide +kernel
theorem dX0_run_38 : decode cX0_run 38 = .ok (.iload_n 1, 1) := by decide +kernel
theorem dX0_run_39 : decode cX0_run 39 = .ok (.invokevirtual 50, 3) := by decide +kernel
theorem dX0_run_42 : decode cX0_run 42 = .ok (.aload_n 0, 1) := by decide +kernel
theorem dX0_run_43 : decode cX0_run 43 = .ok (.invokevirtual 54, 3) := by decide +kernel
theorem dX0_run_46 : decode cX0_run 46 = .ok (.aload_n 0, 1) := by decide +kernel
theorem dX0_run_47 : decode cX0_run 47 = .ok (.getfield 31, 3) := by decide +kernel
theorem dX0_run_50 : decode cX0_run 50 = .ok (.invokevirtual 47, 3) := by decide +kernel
theorem dX0_run_53 : decode cX0_run 53 = .ok (.aload_n 0, 1) := by decide +kernel
theorem dX0_run_54 : decode cX0_run 54 = .ok (.iload_n 1, 1) := by decide +kernel
theorem dX0_run_55 : decode cX0_run 55 = .ok (.invokevirtual 50, 3) := by decide +kernel
theorem dX0_run_58 : decode cX0_run 58 = .ok (.aload_n 0, 1) := by decide +kernel
theorem dX0_run_59 : decode cX0_run 59 = .ok (.invokevirtual 57, 3) := by decide +kernel
theorem dX0_run_62 : decode cX0_run 62 = .ok (.istore_n 3, 1) := by decide +kernel
theorem dX0_run_63 : decode cX0_run 63 = .ok (.aload_n 0, 1) := by decide +kernel
theorem dX0_run_64 : decode cX0_run 64 = .ok (.getfield 19, 3) := by decide +kernel
theorem dX0_run_67 : decode cX0_run 67 = .ok (.invokevirtual 61, 3) := by decide +kernel
theorem dX0_run_70 : decode cX0_run 70 = .ok (.istore 4, 2) := by decide +kernel
theorem dX0_run_72 : decode cX0_run 72 = .ok (.aload_n 0, 1) := by decide +kernel
theorem dX0_run_73 : decode cX0_run 73 = .ok (.getfield 19, 3) := by decide +kernel
theorem dX0_run_76 : decode cX0_run 76 = .ok (.invokevirtual 66, 3) := by decide +kernel
theorem dX0_run_79 : decode cX0_run 79 = .ok (.aload_n 0, 1) := by decide +kernel
theorem dX0_run_80 : decode cX0_run 80 = .ok (.getfield 27, 3) := by decide +kernel
theorem dX0_run_83 : decode cX0_run 83 = .ok (.invokevirtual 69, 3) := by decide +kernel
theorem dX0_run_86 : decode cX0_run 86 = .ok (.aload_n 0, 1) := by decide +kernel
theorem dX0_run_87 : decode cX0_run 87 = .ok (.getfield 23, 3) := by decide +kernel
theorem dX0_run_90 : decode cX0_run 90 = .ok (.dup, 1) := by decide +kernel
theorem dX0_run_91 : decode cX0_run 91 = .ok (.getfield 74, 3) := by decide +kernel
theorem dX0_run_94 : decode cX0_run 94 = .ok (.iconst 1, 1) := by decide +kernel
theorem dX0_run_95 : decode cX0_run 95 = .ok (.iadd, 1) := by decide +kernel
theorem dX0_run_96 : decode cX0_run 96 = .ok (.putfield 74, 3) := by decide +kernel
theorem dX0_run_99 : decode cX0_run 99 = .ok (.aload_n 0, 1) := by decide +kernel
theorem dX0_run_100 : decode cX0_run 100 = .ok (.getfield 23, 3) := by decide +kernel
theorem dX0_run_103 : decode cX0_run 103 = .ok (.aload_n 0, 1) := by decide +kernel
theorem dX0_run_104 : decode cX0_run 104 = .ok (.getfield 19, 3) := by decide +kernel
theorem dX0_run_107 : decode cX0_run 107 = .ok (.invokevirtual 80, 3) := by decide +kernel
theorem dX0_run_110 : decode cX0_run 110 = .ok (.iload 4, 2) := by decide +kernel
theorem dX0_run_112 : decode cX0_run 112 = .ok (.iadd, 1) := by decide +kernel
theorem dX0_run_113 : decode cX0_run 113 = .ok (.invokevirtual 83, 3) := by decide +kernel
theorem dX0_run_116 : decode cX0_run 116 = .ok (.iload_n 3, 1) := by decide +kernel
theorem dX0_run_117 : decode cX0_run 117 = .ok (.ireturn, 1) := by decide +kernel
set_option maxRecDepth 20000 in
theorem ggX0_dropReferences_X5_size : GoodIn wsX0_dropReferences wsX5_size := goodIn_r _ [8, 9, 53, 54] (by decide +kernel) (by decide +kernel)
set_option maxRecDepth 20000 in
theorem gX0_dropReferences_X5_size : GoodIn wsX0_dropReferences (wsV RX0 87 RX5 yX5_size wsX5_size) := goodIn_app (goodIn_of _ (by decide +kernel)) ggX0_dropReferences_X5_size
set_option maxRecDepth 20000 in
theorem ggX0_dropReferences_X5_item : GoodIn wsX0_dropReferences wsX5_item := goodIn_r _ [13, 9, 14, 53, 54] (by decide +kernel) (by decide +kernel)
set_option maxRecDepth 20000 in
theorem gX0_dropReferences_X5_item : GoodIn wsX0_dropReferences (wsV RX0 92 RX5 yX5_item wsX5_item) := goodIn_app (goodIn_of _ (by decide +kernel)) ggX0_dropReferences_X5_item
set_option maxRecDepth 20000 in
theorem ggX0_dropReferences_X8_hasMarked : GoodIn wsX0_dropReferences wsX8_hasMarked := goodIn_r _ [18, 19, 20, 21, 22, 23, 24, 25, 39, 40, 41, 42, 43, 44, 45, 46, 47, 48, 49, 50, 51, 52] (by decide +kernel) (by decide +kernel)
set_option maxRecDepth 20000 in
theorem gX0_dropReferences_X8_hasMarked : GoodIn wsX0_dropReferences (va_wsS RX0 105 yX8_hasMarked wsX8_hasMarked) := goodIn_app (goodIn_of _ (by decide +kernel)) ggX0_dropReferences_X8_hasMarked
set_option maxRecDepth 20000 in
theorem ggX0_dropReferences_X7_write : GoodIn wsX0_dropReferences wsX7_write := goodIn_r _ [29, 25, 39, 40, 41, 42, 43, 44, 45, 46, 47, 48, 49, 50, 51, 52] (by decide +kernel) (by decide +kernel)
set_option maxRecDepth 20000 in
theorem gX0_dropReferences_X7_write : GoodIn wsX0_dropReferences (wsV RX0 109 RX7 yX7_write wsX7_write) := goodIn_app (goodIn_of _ (by decide +kernel)) ggX0_dropReferences_X7_write
set_option maxRecDepth 20000 in
theorem ggX0_dropReferences_X9_isLoose : GoodIn wsX0_dropReferences wsX9_isLoose := goodIn_r _ [32] (by decide +kernel) (by decide +kernel)
set_option maxRecDepth 20000 in
theorem gX0_dropReferences_X9_isLoose_n113 : GoodIn wsX0_dropReferences (wsX9_isLoose) := ggX0_dropReferences_X9_isLoose
theorem dX0_dropReferences_0 : decode cX0_dropReferences 0 = .ok (.iconst 0, 1) := by decide +kernel
theorem dX0_dropReferences_1 : decode cX0_dropReferences 1 = .ok (.istore_n 2, 1) := by decide +kernel
theorem dX0_dropReferences_2 : decode cX0_dropReferences 2 = .ok (.iload_n 2, 1) := by decide +kernel
theorem dX0_dropReferences_3 : decode cX0_dropReferences 3 = .ok (.aload_n 0, 1) := by decide +kernel
theorem dX0_dropReferences_4 : decode cX0_dropReferences 4 = .ok (.getfield 9, 3) := by decide +kernel
theorem dX0_dropReferences_7 : decode cX0_dropReferences 7 = .ok (.invokevirtual 87, 3) := by decide +kernel
theorem dX0_dropReferences_10 : decode cX0_dropReferences 10 = .ok (.if_icmp .ge 86, 3) := by decide +kernel
theorem dX0_dropReferences_13 : decode cX0_dropReferences 13 = .ok (.aload_n 0, 1) := by decide +kernel
theorem dX0_dropReferences_14 : decode cX0_dropReferences 14 = .ok (.getfield 9, 3) := by decide +kernel
theorem dX0_dropReferences_17 : decode cX0_dropReferences 17 = .ok (.iload_n 2, 1) := by decide +kernel
theorem dX0_dropReferences_18 : decode cX0_dropReferences 18 = .ok (.invokevirtual 92, 3) := by decide +kernel
theorem dX0_dropReferences_21 : decode cX0_dropReferences 21 = .ok (.astore_n 3, 1) := by decide +kernel
theorem dX0_dropReferences_22 : decode cX0_dropReferences 22 = .ok (.aload_n 3, 1) := by decide +kernel
theorem dX0_dropReferences_23 : decode cX0_dropReferences 23 = .ok (.ifnull 38, 3) := by decide +kernel
theorem dX0_dropReferences_26 : decode cX0_dropReferences 26 = .ok (.aload_n 3, 1) := by decide +kernel
theorem dX0_dropReferences_27 : decode cX0_dropReferences 27 = .ok (.getfield 96, 3) := by decide +kernel
theorem dX0_dropReferences_30 : decode cX0_dropReferences 30 = .ok (.iconst 3, 1) := by decide +kernel
theorem dX0_dropReferences_31 : decode cX0_dropReferences 31 = .ok (.if_icmp .ne 30, 3) := by decide +kernel
theorem dX0_dropReferences_34 : decode cX0_dropReferences 34 = .ok (.aload_n 3, 1) := by decide +kernel
theorem dX0_dropReferences_35 : decode cX0_dropReferences 35 = .ok (.getfield 101, 3) := by decide +kernel
theorem dX0_dropReferences_38 : decode cX0_dropReferences 38 = .ok (.ifCond .eq 23, 3) := by decide +kernel
theorem dX0_dropReferences_41 : decode cX0_dropReferences 41 = .ok (.aload_n 3, 1) := by decide +kernel
theorem dX0_dropReferences_42 : decode cX0_dropReferences 42 = .ok (.iconst 0, 1) := by decide +kernel
theorem dX0_dropReferences_43 : decode cX0_dropReferences 43 = .ok (.invokestatic 105, 3) := by decide +kernel
theorem dX0_dropReferences_46 : decode cX0_dropReferences 46 = .ok (.ifCond .ne 15, 3) := by decide +kernel
theorem dX0_dropReferences_49 : decode cX0_dropReferences 49 = .ok (.aload_n 3, 1) := by decide +kernel
theorem dX0_dropReferences_50 : decode cX0_dropReferences 50 = .ok (.iconst 0, 1) := by decide +kernel
theorem dX0_dropReferences_51 : decode cX0_dropReferences 51 = .ok (.aconst_null, 1) := by decide +kernel
theorem dX0_dropReferences_52 : decode cX0_dropReferences 52 = .ok (.invokevirtual 109, 3) := by decide +kernel
theorem dX0_dropReferences_55 : decode cX0_dropReferences 55 = .ok (.aload_n 3, 1) := by decide +kernel
theorem dX0_dropReferences_56 : decode cX0_dropReferences 56 = .ok (.iconst 1, 1) := by decide +kernel
theorem dX0_dropReferences_57 : decode cX0_dropReferences 57 = .ok (.aconst_null, 1) := by decide +kernel
theorem dX0_dropReferences_58 : decode cX0_dropReferences 58 = .ok (.invokevirtual 109, 3) := by decide +kernel
theorem dX0_dropReferences_61 : decode cX0_dropReferences 61 = .ok (.aload_n 3, 1) := by decide +kernel
theorem dX0_dropReferences_62 : decode cX0_dropReferences 62 = .ok (.ifnull 28, 3) := by decide +kernel
theorem dX0_dropReferences_65 : decode cX0_dropReferences 65 = .ok (.aload_n 3, 1) := by decide +kernel
theorem dX0_dropReferences_66 : decode cX0_dropReferences 66 = .ok (.getfield 96, 3) := by decide +kernel
theorem dX0_dropReferences_69 : decode cX0_dropReferences 69 = .ok (.iload_n 1, 1) := by decide +kernel
theorem dX0_dropReferences_70 : decode cX0_dropReferences 70 = .ok (.invokestatic 113, 3) := by decide +kernel
theorem dX0_dropReferences_73 : decode cX0_dropReferences 73 = .ok (.ifCond .eq 17, 3) := by decide +kernel
theorem dX0_dropReferences_76 : decode cX0_dropReferences 76 = .ok (.aload_n 3, 1) := by decide +kernel
theorem dX0_dropReferences_77 : decode cX0_dropReferences 77 = .ok (.iconst 0, 1) := by decide +kernel
theorem dX0_dropReferences_78 : decode cX0_dropReferences 78 = .ok (.invokestatic 105, 3) := by decide +kernel
theorem dX0_dropReferences_81 : decode cX0_dropReferences 81 = .ok (.ifCond .ne 9, 3) := by decide +kernel
theorem dX0_dropReferences_84 : decode cX0_dropReferences 84 = .ok (.aload_n 3, 1) := by decide +kernel
theorem dX0_dropReferences_85 : decode cX0_dropReferences 85 = .ok (.iconst 0, 1) := by decide +kernel
theorem dX0_dropReferences_86 : decode cX0_dropReferences 86 = .ok (.aconst_null, 1) := by decide +kernel
theorem dX0_dropReferences_87 : decode cX0_dropReferences 87 = .ok (.invokevirtual 109, 3) := by decide +kernel
theorem dX0_dropReferences_90 : decode cX0_dropReferences 90 = .ok (.iinc 2 1, 3) := by decide +kernel
theorem dX0_dropReferences_93 : decode cX0_dropReferences 93 = .ok (.goto (-91), 3) := by decide +kernel
theorem dX0_dropReferences_96 : decode cX0_dropReferences 96 = .ok (.return_, 1) := by decide +kernel
set_option maxRecDepth 20000 in
theorem ggX0_raiseFinals_X5_size : GoodIn wsX0_raiseFinals wsX5_size := goodIn_r _ [12, 13, 55, 56] (by decide +kernel) (by decide +kernel)
set_option maxRecDepth 20000 in
theorem gX0_raiseFinals_X5_size : GoodIn wsX0_raiseFinals (wsV RX0 87 RX5 yX5_size wsX5_size) := goodIn_app (goodIn_of _ (by decide +kernel)) ggX0_raiseFinals_X5_size
set_option maxRecDepth 20000 in
theorem ggX0_raiseFinals_X5_item : GoodIn wsX0_raiseFinals wsX5_item := goodIn_r _ [17, 13, 18, 55, 56] (by decide +kernel) (by decide +kernel)
set_option maxRecDepth 20000 in
theorem gX0_raiseFinals_X5_item : GoodIn wsX0_raiseFinals (wsV RX0 92 RX5 yX5_item wsX5_item) := goodIn_app (goodIn_of _ (by decide +kernel)) ggX0_raiseFinals_X5_item
set_option maxRecDepth 20000 in
theorem ggX0_raiseFinals_X5_add : GoodIn wsX0_raiseFinals wsX5_add := goodIn_r _ [22, 13, 18, 55, 56] (by decide +kernel) (by decide +kernel)
set_option maxRecDepth 20000 in
theorem gX0_raiseFinals_X5_add : GoodIn wsX0_raiseFinals (wsV RX0 125 RX5 yX5_add wsX5_add) := goodIn_app (goodIn_of _ (by decide +kernel)) ggX0_raiseFinals_X5_add
set_option maxRecDepth 20000 in
theorem ggX0_raiseFinals_X8_mark : GoodIn wsX0_raiseFinals wsX8_mark := goodIn_r _ [27, 28, 29, 30, 20, 21, 11, 22, 13, 18, 37, 38, 39, 40, 41, 42, 43, 44, 45, 46, 47, 48, 49, 50, 57, 58, 59, 60, 61, 62, 55, 56] (by decide +kernel) (by decide +kernel)
set_option maxRecDepth 20000 in
theorem gX0_raiseFinals_X8_mark : GoodIn wsX0_raiseFinals (wsV RX0 129 RX8 yX8_mark wsX8_mark) := goodIn_app (goodIn_of _ (by decide +kernel)) ggX0_raiseFinals_X8_mark
theorem dX0_raiseFinals_0 : decode cX0_raiseFinals 0 = .ok (.iconst 0, 1) := by decide +kernel
theorem dX0_raiseFinals_1 : decode cX0_raiseFinals 1 = .ok (.istore_n 1, 1) := by decide +kernel
theorem dX0_raiseFinals_2 : decode cX0_raiseFinals 2 = .ok (.iload_n 1, 1) := by decide +kernel
theorem dX0_raiseFinals_3 : decode cX0_raiseFinals 3 = .ok (.aload_n 0, 1) := by decide +kernel
theorem dX0_raiseFinals_4 : decode cX0_raiseFinals 4 = .ok (.getfield 9, 3) := by decide +kernel
theorem dX0_raiseFinals_7 : decode cX0_raiseFinals 7 = .ok (.invokevirtual 87, 3) := by decide +kernel
theorem dX0_raiseFinals_10 : decode cX0_raiseFinals 10 = .ok (.if_icmp .ge 68, 3) := by decide +kernel
theorem dX0_raiseFinals_13 : decode cX0_raiseFinals 13 = .ok (.aload_n 0, 1) := by decide +kernel
theorem dX0_raiseFinals_14 : decode cX0_raiseFinals 14 = .ok (.getfield 9, 3) := by decide +kernel
theorem dX0_raiseFinals_17 : decode cX0_raiseFinals 17 = .ok (.iload_n 1, 1) := by decide +kernel
theorem dX0_raiseFinals_18 : decode cX0_raiseFinals 18 = .ok (.invokevirtual 92, 3) := by decide +kernel
theorem dX0_raiseFinals_21 : decode cX0_raiseFinals 21 = .ok (.astore_n 2, 1) := by decide +kernel
theorem dX0_raiseFinals_22 : decode cX0_raiseFinals 22 = .ok (.aload_n 2, 1) := by decide +kernel
theorem dX0_raiseFinals_23 : decode cX0_raiseFinals 23 = .ok (.ifnull 49, 3) := by decide +kernel
theorem dX0_raiseFinals_26 : decode cX0_raiseFinals 26 = .ok (.aload_n 2, 1) := by decide +kernel
theorem dX0_raiseFinals_27 : decode cX0_raiseFinals 27 = .ok (.getfield 117, 3) := by decide +kernel
theorem dX0_raiseFinals_30 : decode cX0_raiseFinals 30 = .ok (.ifCond .eq 42, 3) := by decide +kernel
theorem dX0_raiseFinals_33 : decode cX0_raiseFinals 33 = .ok (.aload_n 2, 1) := by decide +kernel
theorem dX0_raiseFinals_34 : decode cX0_raiseFinals 34 = .ok (.getfield 96, 3) := by decide +kernel
theorem dX0_raiseFinals_37 : decode cX0_raiseFinals 37 = .ok (.iconst 4, 1) := by decide +kernel
theorem dX0_raiseFinals_38 : decode cX0_raiseFinals 38 = .ok (.if_icmp .ne 34, 3) := by decide +kernel
theorem dX0_raiseFinals_41 : decode cX0_raiseFinals 41 = .ok (.aload_n 2, 1) := by decide +kernel
theorem dX0_raiseFinals_42 : decode cX0_raiseFinals 42 = .ok (.getfield 101, 3) := by decide +kernel
theorem dX0_raiseFinals_45 : decode cX0_raiseFinals 45 = .ok (.ifCond .ne 27, 3) := by decide +kernel
theorem dX0_raiseFinals_48 : decode cX0_raiseFinals 48 = .ok (.aload_n 2, 1) := by decide +kernel
theorem dX0_raiseFinals_49 : decode cX0_raiseFinals 49 = .ok (.iconst 0, 1) := by decide +kernel
theorem dX0_raiseFinals_50 : decode cX0_raiseFinals 50 = .ok (.putfield 96, 3) := by decide +kernel
theorem dX0_raiseFinals_53 : decode cX0_raiseFinals 53 = .ok (.aload_n 0, 1) := by decide +kernel
theorem dX0_raiseFinals_54 : decode cX0_raiseFinals 54 = .ok (.getfield 15, 3) := by decide +kernel
theorem dX0_raiseFinals_57 : decode cX0_raiseFinals 57 = .ok (.getfield 120, 3) := by decide +kernel
theorem dX0_raiseFinals_60 : decode cX0_raiseFinals 60 = .ok (.aload_n 2, 1) := by decide +kernel
theorem dX0_raiseFinals_61 : decode cX0_raiseFinals 61 = .ok (.invokevirtual 125, 3) := by decide +kernel
theorem dX0_raiseFinals_64 : decode cX0_raiseFinals 64 = .ok (.aload_n 0, 1) := by decide +kernel
theorem dX0_raiseFinals_65 : decode cX0_raiseFinals 65 = .ok (.getfield 31, 3) := by decide +kernel
theorem dX0_raiseFinals_68 : decode cX0_raiseFinals 68 = .ok (.aload_n 2, 1) := by decide +kernel
theorem dX0_raiseFinals_69 : decode cX0_raiseFinals 69 = .ok (.invokevirtual 129, 3) := by decide +kernel
theorem dX0_raiseFinals_72 : decode cX0_raiseFinals 72 = .ok (.iinc 1 1, 3) := by decide +kernel
theorem dX0_raiseFinals_75 : decode cX0_raiseFinals 75 = .ok (.goto (-73), 3) := by decide +kernel
theorem dX0_raiseFinals_78 : decode cX0_raiseFinals 78 = .ok (.return_, 1) := by decide +kernel
set_option maxRecDepth 20000 in
theorem ggX0_sweep_X5_size : GoodIn wsX0_sweep wsX5_size := goodIn_r _ [8, 9, 43, 44] (by decide +kernel) (by decide +kernel)
set_option maxRecDepth 20000 in
theorem gX0_sweep_X5_size : GoodIn wsX0_sweep (wsV RX0 87 RX5 yX5_size wsX5_size) := goodIn_app (goodIn_of _ (by decide +kernel)) ggX0_sweep_X5_size
set_option maxRecDepth 20000 in
theorem ggX0_sweep_X5_item : GoodIn wsX0_sweep wsX5_item := goodIn_r _ [13, 9, 14, 43, 44] (by decide +kernel) (by decide +kernel)
set_option maxRecDepth 20000 in
theorem gX0_sweep_X5_item : GoodIn wsX0_sweep (wsV RX0 92 RX5 yX5_item wsX5_item) := goodIn_app (goodIn_of _ (by decide +kernel)) ggX0_sweep_X5_item
set_option maxRecDepth 20000 in
theorem ggX0_sweep_X7_vanish : GoodIn wsX0_sweep wsX7_vanish := goodIn_r _ [19, 20, 21, 22, 29, 30, 31, 32, 33, 34, 35, 36, 37, 38, 39, 40, 41, 42] (by decide +kernel) (by decide +kernel)
set_option maxRecDepth 20000 in
theorem gX0_sweep_X7_vanish : GoodIn wsX0_sweep (wsV RX0 132 RX7 yX7_vanish wsX7_vanish) := goodIn_app (goodIn_of _ (by decide +kernel)) ggX0_sweep_X7_vanish
theorem dX0_sweep_0 : decode cX0_sweep 0 = .ok (.iconst 0, 1) := by decide +kernel
theorem dX0_sweep_1 : decode cX0_sweep 1 = .ok (.istore_n 1, 1) := by decide +kernel
theorem dX0_sweep_2 : decode cX0_sweep 2 = .ok (.iconst 0, 1) := by decide +kernel
theorem dX0_sweep_3 : decode cX0_sweep 3 = .ok (.istore_n 2, 1) := by decide +kernel
theorem dX0_sweep_4 : decode cX0_sweep 4 = .ok (.iload_n 2, 1) := by decide +kernel
theorem dX0_sweep_5 : decode cX0_sweep 5 = .ok (.aload_n 0, 1) := by decide +kernel
theorem dX0_sweep_6 : decode cX0_sweep 6 = .ok (.getfield 9, 3) := by decide +kernel
theorem dX0_sweep_9 : decode cX0_sweep 9 = .ok (.invokevirtual 87, 3) := by decide +kernel
theorem dX0_sweep_12 : decode cX0_sweep 12 = .ok (.if_icmp .ge 43, 3) := by decide +kernel
theorem dX0_sweep_15 : decode cX0_sweep 15 = .ok (.aload_n 0, 1) := by decide +kernel
theorem dX0_sweep_16 : decode cX0_sweep 16 = .ok (.getfield 9, 3) := by decide +kernel
theorem dX0_sweep_19 : decode cX0_sweep 19 = .ok (.iload_n 2, 1) := by decide +kernel
theorem dX0_sweep_20 : decode cX0_sweep 20 = .ok (.invokevirtual 92, 3) := by decide +kernel
theorem dX0_sweep_23 : decode cX0_sweep 23 = .ok (.astore_n 3, 1) := by decide +kernel
theorem dX0_sweep_24 : decode cX0_sweep 24 = .ok (.aload_n 3, 1) := by decide +kernel
theorem dX0_sweep_25 : decode cX0_sweep 25 = .ok (.ifnull 24, 3) := by decide +kernel
theorem dX0_sweep_28 : decode cX0_sweep 28 = .ok (.aload_n 3, 1) := by decide +kernel
theorem dX0_sweep_29 : decode cX0_sweep 29 = .ok (.getfield 117, 3) := by decide +kernel
theorem dX0_sweep_32 : decode cX0_sweep 32 = .ok (.ifCond .eq 17, 3) := by decide +kernel
theorem dX0_sweep_35 : decode cX0_sweep 35 = .ok (.aload_n 3, 1) := by decide +kernel
theorem dX0_sweep_36 : decode cX0_sweep 36 = .ok (.getfield 101, 3) := by decide +kernel
theorem dX0_sweep_39 : decode cX0_sweep 39 = .ok (.ifCond .ne 10, 3) := by decide +kernel
theorem dX0_sweep_42 : decode cX0_sweep 42 = .ok (.aload_n 3, 1) := by decide +kernel
theorem dX0_sweep_43 : decode cX0_sweep 43 = .ok (.invokevirtual 132, 3) := by decide +kernel
theorem dX0_sweep_46 : decode cX0_sweep 46 = .ok (.iinc 1 1, 3) := by decide +kernel
theorem dX0_sweep_49 : decode cX0_sweep 49 = .ok (.iinc 2 1, 3) := by decide +kernel
theorem dX0_sweep_52 : decode cX0_sweep 52 = .ok (.goto (-48), 3) := by decide +kernel
theorem dX0_sweep_55 : decode cX0_sweep 55 = .ok (.iload_n 1, 1) := by decide +kernel
theorem dX0_sweep_56 : decode cX0_sweep 56 = .ok (.ireturn, 1) := by decide +kernel
theorem dX1_init_0 : decode cX1_init 0 = .ok (.aload_n 0, 1) := by decide +kernel
theorem dX1_init_1 : decode cX1_init 1 = .ok (.invokespecial 3, 3) := by decide +kernel
theorem dX1_init_4 : decode cX1_init 4 = .ok (.aload_n 0, 1) := by decide +kernel
theorem dX1_init_5 : decode cX1_init 5 = .ok (.aload_n 1, 1) := by decide +kernel
theorem dX1_init_6 : decode cX1_init 6 = .ok (.putfield 9, 3) := by decide +kernel
theorem dX1_init_9 : decode cX1_init 9 = .ok (.aload_n 0, 1) := by decide +kernel
theorem dX1_init_10 : decode cX1_init 10 = .ok (.aload_n 2, 1) := by decide +kernel
theorem dX1_init_11 : decode cX1_init 11 = .ok (.putfield 15, 3) := by decide +kernel
theorem dX1_init_14 : decode cX1_init 14 = .ok (.return_, 1) := by decide +kernel
theorem dX1_isOn_0 : decode cX1_isOn 0 = .ok (.aload_n 0, 1) := by decide +kernel
theorem dX1_isOn_1 : decode cX1_isOn 1 = .ok (.getfield 19, 3) := by decide +kernel
theorem dX1_isOn_4 : decode cX1_isOn 4 = .ok (.ireturn, 1) := by decide +kernel
set_option maxRecDepth 20000 in
theorem ggX1_begin_X5_size : GoodIn wsX1_begin wsX5_size := goodIn_r _ [8, 9, 61, 62] (by decide +kernel) (by decide +kernel)
set_option maxRecDepth 20000 in
theorem gX1_begin_X5_size : GoodIn wsX1_begin (wsV RX1 23 RX5 yX5_size wsX5_size) := goodIn_app (goodIn_of _ (by decide +kernel)) ggX1_begin_X5_size
set_option maxRecDepth 20000 in
theorem ggX1_begin_X5_item : GoodIn wsX1_begin wsX5_item := goodIn_r _ [13, 9, 14, 61, 62] (by decide +kernel) (by decide +kernel)
set_option maxRecDepth 20000 in
theorem gX1_begin_X5_item : GoodIn wsX1_begin (wsV RX1 29 RX5 yX5_item wsX5_item) := goodIn_app (goodIn_of _ (by decide +kernel)) ggX1_begin_X5_item
set_option maxRecDepth 20000 in
theorem ggX1_begin_X1_greyRoots : GoodIn wsX1_begin wsX1_greyRoots := goodIn_r _ [19, 20, 1, 21, 22, 23, 24, 25, 26, 27, 28, 29, 5, 6, 7, 8, 9, 30, 31, 32, 33, 34, 35, 36, 37, 38, 39, 40, 11, 12, 13, 14, 41, 42, 18, 43, 2, 4, 10, 44, 45, 46, 47, 48, 49, 50, 51, 52, 53, 54, 55, 56, 57, 58, 59, 60, 63, 64, 65, 66, 61, 62] (by decide +kernel) (by decide +kernel)
set_option maxRecDepth 20000 in
theorem gX1_begin_X1_greyRoots : GoodIn wsX1_begin (wsV RX1 39 RX1 yX1_greyRoots wsX1_greyRoots) := goodIn_app (goodIn_of _ (by decide +kernel)) ggX1_begin_X1_greyRoots
theorem dX1_begin_0 : decode cX1_begin 0 = .ok (.iconst 0, 1) := by decide +kernel
theorem dX1_begin_1 : decode cX1_begin 1 = .ok (.istore_n 1, 1) := by decide +kernel
theorem dX1_begin_2 : decode cX1_begin 2 = .ok (.iload_n 1, 1) := by decide +kernel
theorem dX1_begin_3 : decode cX1_begin 3 = .ok (.aload_n 0, 1) := by decide +kernel
theorem dX1_begin_4 : decode cX1_begin 4 = .ok (.getfield 9, 3) := by decide +kernel
theorem dX1_begin_7 : decode cX1_begin 7 = .ok (.invokevirtual 23, 3) := by decide +kernel
theorem dX1_begin_10 : decode cX1_begin 10 = .ok (.if_icmp .ge 27, 3) := by decide +kernel
theorem dX1_begin_13 : decode cX1_begin 13 = .ok (.aload_n 0, 1) := by decide +kernel
theorem dX1_begin_14 : decode cX1_begin 14 = .ok (.getfield 9, 3) := by decide +kernel
theorem dX1_begin_17 : decode cX1_begin 17 = .ok (.iload_n 1, 1) := by decide +kernel
theorem dX1_begin_18 : decode cX1_begin 18 = .ok (.invokevirtual 29, 3) := by decide +kernel
theorem dX1_begin_21 : decode cX1_begin 21 = .ok (.astore_n 2, 1) := by decide +kernel
theorem dX1_begin_22 : decode cX1_begin 22 = .ok (.aload_n 2, 1) := by decide +kernel
theorem dX1_begin_23 : decode cX1_begin 23 = .ok (.ifnull 8, 3) := by decide +kernel
theorem dX1_begin_26 : decode cX1_begin 26 = .ok (.aload_n 2, 1) := by decide +kernel
theorem dX1_begin_27 : decode cX1_begin 27 = .ok (.iconst 0, 1) := by decide +kernel
theorem dX1_begin_28 : decode cX1_begin 28 = .ok (.putfield 33, 3) := by decide +kernel
theorem dX1_begin_31 : decode cX1_begin 31 = .ok (.iinc 1 1, 3) := by decide +kernel
theorem dX1_begin_34 : decode cX1_begin 34 = .ok (.goto (-32), 3) := by decide +kernel
theorem dX1_begin_37 : decode cX1_begin 37 = .ok (.aload_n 0, 1) := by decide +kernel
theorem dX1_begin_38 : decode cX1_begin 38 = .ok (.iconst 1, 1) := by decide +kernel
theorem dX1_begin_39 : decode cX1_begin 39 = .ok (.putfield 19, 3) := by decide +kernel
theorem dX1_begin_42 : decode cX1_begin 42 = .ok (.aload_n 0, 1) := by decide +kernel
theorem dX1_begin_43 : decode cX1_begin 43 = .ok (.invokevirtual 39, 3) := by decide +kernel
theorem dX1_begin_46 : decode cX1_begin 46 = .ok (.return_, 1) := by decide +kernel
theorem dX1_end_0 : decode cX1_end 0 = .ok (.aload_n 0, 1) := by decide +kernel
theorem dX1_end_1 : decode cX1_end 1 = .ok (.iconst 0, 1) := by decide +kernel
theorem dX1_end_2 : decode cX1_end 2 = .ok (.putfield 19, 3) := by decide +kernel
theorem dX1_end_5 : decode cX1_end 5 = .ok (.return_, 1) := by decide +kernel
set_option maxRecDepth 20000 in
theorem ggX1_greyRoots_X4_count : GoodIn wsX1_greyRoots wsX4_count := goodIn_r _ [8, 9, 10, 11, 12, 13, 14, 15, 16, 56, 57, 58, 59, 60, 61] (by decide +kernel) (by decide +kernel)
set_option maxRecDepth 20000 in
theorem gX1_greyRoots_X4_count : GoodIn wsX1_greyRoots (wsV RX1 42 RX4 yX4_count wsX4_count) := goodIn_app (goodIn_of _ (by decide +kernel)) ggX1_greyRoots_X4_count
set_option maxRecDepth 20000 in
theorem ggX1_greyRoots_X4_root : GoodIn wsX1_greyRoots wsX4_root := goodIn_r _ [20, 9, 21, 10, 22, 23, 24, 7, 25, 26, 27, 28, 29, 14, 30, 16, 31, 56, 57, 58, 59, 60, 61] (by decide +kernel) (by decide +kernel)
set_option maxRecDepth 20000 in
theorem gX1_greyRoots_X4_root : GoodIn wsX1_greyRoots (wsV RX1 47 RX4 yX4_root wsX4_root) := goodIn_app (goodIn_of _ (by decide +kernel)) ggX1_greyRoots_X4_root
set_option maxRecDepth 20000 in
theorem ggX1_greyRoots_X1_grey : GoodIn wsX1_greyRoots wsX1_grey := goodIn_r _ [35, 36, 42, 43, 44, 45, 46, 47, 48, 49, 50, 51, 52, 53, 54, 55] (by decide +kernel) (by decide +kernel)
set_option maxRecDepth 20000 in
theorem gX1_greyRoots_X1_grey : GoodIn wsX1_greyRoots (va_wsS RX1 50 yX1_grey wsX1_grey) := goodIn_app (goodIn_of _ (by decide +kernel)) ggX1_greyRoots_X1_grey
set_option maxRecDepth 20000 in
theorem ggX1_greyRoots_X5_size : GoodIn wsX1_greyRoots wsX5_size := goodIn_r _ [15, 16, 60, 61] (by decide +kernel) (by decide +kernel)
set_option maxRecDepth 20000 in
theorem gX1_greyRoots_X5_size : GoodIn wsX1_greyRoots (wsV RX1 23 RX5 yX5_size wsX5_size) := goodIn_app (goodIn_of _ (by decide +kernel)) ggX1_greyRoots_X5_size
set_option maxRecDepth 20000 in
theorem ggX1_greyRoots_X5_item : GoodIn wsX1_greyRoots wsX5_item := goodIn_r _ [30, 16, 31, 60, 61] (by decide +kernel) (by decide +kernel)
set_option maxRecDepth 20000 in
theorem gX1_greyRoots_X5_item : GoodIn wsX1_greyRoots (wsV RX1 29 RX5 yX5_item wsX5_item) := goodIn_app (goodIn_of _ (by decide +kernel)) ggX1_greyRoots_X5_item
theorem dX1_greyRoots_0 : decode cX1_greyRoots 0 = .ok (.iconst 0, 1) := by decide +kernel
theorem dX1_greyRoots_1 : decode cX1_greyRoots 1 = .ok (.istore_n 1, 1) := by decide +kernel
theorem dX1_greyRoots_2 : decode cX1_greyRoots 2 = .ok (.iload_n 1, 1) := by decide +kernel
theorem dX1_greyRoots_3 : decode cX1_greyRoots 3 = .ok (.aload_n 0, 1) := by decide +kernel
theorem dX1_greyRoots_4 : decode cX1_greyRoots 4 = .ok (.getfield 15, 3) := by decide +kernel
theorem dX1_greyRoots_7 : decode cX1_greyRoots 7 = .ok (.invokevirtual 42, 3) := by decide +kernel
theorem dX1_greyRoots_10 : decode cX1_greyRoots 10 = .ok (.if_icmp .ge 20, 3) := by decide +kernel
theorem dX1_greyRoots_13 : decode cX1_greyRoots 13 = .ok (.aload_n 0, 1) := by decide +kernel
theorem dX1_greyRoots_14 : decode cX1_greyRoots 14 = .ok (.getfield 15, 3) := by decide +kernel
theorem dX1_greyRoots_17 : decode cX1_greyRoots 17 = .ok (.iload_n 1, 1) := by decide +kernel
theorem dX1_greyRoots_18 : decode cX1_greyRoots 18 = .ok (.invokevirtual 47, 3) := by decide +kernel
theorem dX1_greyRoots_21 : decode cX1_greyRoots 21 = .ok (.invokestatic 50, 3) := by decide +kernel
theorem dX1_greyRoots_24 : decode cX1_greyRoots 24 = .ok (.iinc 1 1, 3) := by decide +kernel
theorem dX1_greyRoots_27 : decode cX1_greyRoots 27 = .ok (.goto (-25), 3) := by decide +kernel
theorem dX1_greyRoots_30 : decode cX1_greyRoots 30 = .ok (.iconst 0, 1) := by decide +kernel
theorem dX1_greyRoots_31 : decode cX1_greyRoots 31 = .ok (.istore_n 1, 1) := by decide +kernel
theorem dX1_greyRoots_32 : decode cX1_greyRoots 32 = .ok (.iload_n 1, 1) := by decide +kernel
theorem dX1_greyRoots_33 : decode cX1_greyRoots 33 = .ok (.aload_n 0, 1) := by decide +kernel
theorem dX1_greyRoots_34 : decode cX1_greyRoots 34 = .ok (.getfield 9, 3) := by decide +kernel
theorem dX1_greyRoots_37 : decode cX1_greyRoots 37 = .ok (.invokevirtual 23, 3) := by decide +kernel
theorem dX1_greyRoots_40 : decode cX1_greyRoots 40 = .ok (.if_icmp .ge 33, 3) := by decide +kernel
theorem dX1_greyRoots_43 : decode cX1_greyRoots 43 = .ok (.aload_n 0, 1) := by decide +kernel
theorem dX1_greyRoots_44 : decode cX1_greyRoots 44 = .ok (.getfield 9, 3) := by decide +kernel
theorem dX1_greyRoots_47 : decode cX1_greyRoots 47 = .ok (.iload_n 1, 1) := by decide +kernel
theorem dX1_greyRoots_48 : decode cX1_greyRoots 48 = .ok (.invokevirtual 29, 3) := by decide +kernel
theorem dX1_greyRoots_51 : decode cX1_greyRoots 51 = .ok (.astore_n 2, 1) := by decide +kernel
theorem dX1_greyRoots_52 : decode cX1_greyRoots 52 = .ok (.aload_n 2, 1) := by decide +kernel
theorem dX1_greyRoots_53 : decode cX1_greyRoots 53 = .ok (.ifnull 14, 3) := by decide +kernel
theorem dX1_greyRoots_56 : decode cX1_greyRoots 56 = .ok (.aload_n 2, 1) := by decide +kernel
theorem dX1_greyRoots_57 : decode cX1_greyRoots 57 = .ok (.getfield 54, 3) := by decide +kernel
theorem dX1_greyRoots_60 : decode cX1_greyRoots 60 = .ok (.ifCond .eq 7, 3) := by decide +kernel
theorem dX1_greyRoots_63 : decode cX1_greyRoots 63 = .ok (.aload_n 2, 1) := by decide +kernel
theorem dX1_greyRoots_64 : decode cX1_greyRoots 64 = .ok (.invokestatic 50, 3) := by decide +kernel
theorem dX1_greyRoots_67 : decode cX1_greyRoots 67 = .ok (.iinc 1 1, 3) := by decide +kernel
theorem dX1_greyRoots_70 : decode cX1_greyRoots 70 = .ok (.goto (-38), 3) := by decide +kernel
theorem dX1_greyRoots_73 : decode cX1_greyRoots 73 = .ok (.return_, 1) := by decide +kernel
theorem dX1_grey_0 : decode cX1_grey 0 = .ok (.aload_n 0, 1) := by decide +kernel
theorem dX1_grey_1 : decode cX1_grey 1 = .ok (.ifnull 15, 3) := by decide +kernel
theorem dX1_grey_4 : decode cX1_grey 4 = .ok (.aload_n 0, 1) := by decide +kernel
theorem dX1_grey_5 : decode cX1_grey 5 = .ok (.getfield 33, 3) := by decide +kernel
theorem dX1_grey_8 : decode cX1_grey 8 = .ok (.ifCond .ne 8, 3) := by decide +kernel
theorem dX1_grey_11 : decode cX1_grey 11 = .ok (.aload_n 0, 1) := by decide +kernel
theorem dX1_grey_12 : decode cX1_grey 12 = .ok (.iconst 1, 1) := by decide +kernel
theorem dX1_grey_13 : decode cX1_grey 13 = .ok (.putfield 33, 3) := by decide +kernel
theorem dX1_grey_16 : decode cX1_grey 16 = .ok (.return_, 1) := by decide +kernel
set_option maxRecDepth 20000 in
theorem ggX1_greys_X5_size : GoodIn wsX1_greys wsX5_size := goodIn_r _ [8, 9, 32, 33] (by decide +kernel) (by decide +kernel)
set_option maxRecDepth 20000 in
theorem gX1_greys_X5_size : GoodIn wsX1_greys (wsV RX1 23 RX5 yX5_size wsX5_size) := goodIn_app (goodIn_of _ (by decide +kernel)) ggX1_greys_X5_size
set_option maxRecDepth 20000 in
theorem ggX1_greys_X5_item : GoodIn wsX1_greys wsX5_item := goodIn_r _ [13, 9, 14, 32, 33] (by decide +kernel) (by decide +kernel)
set_option maxRecDepth 20000 in
theorem gX1_greys_X5_item : GoodIn wsX1_greys (wsV RX1 29 RX5 yX5_item wsX5_item) := goodIn_app (goodIn_of _ (by decide +kernel)) ggX1_greys_X5_item
theorem dX1_greys_0 : decode cX1_greys 0 = .ok (.iconst 0, 1) := by decide +kernel
theorem dX1_greys_1 : decode cX1_greys 1 = .ok (.istore_n 1, 1) := by decide +kernel
theorem dX1_greys_2 : decode cX1_greys 2 = .ok (.iconst 0, 1) := by decide +kernel
theorem dX1_greys_3 : decode cX1_greys 3 = .ok (.istore_n 2, 1) := by decide +kernel
theorem dX1_greys_4 : decode cX1_greys 4 = .ok (.aload_n 0, 1) := by decide +kernel
theorem dX1_greys_5 : decode cX1_greys 5 = .ok (.getfield 19, 3) := by decide +kernel
theorem dX1_greys_8 : decode cX1_greys 8 = .ok (.ifCond .eq 44, 3) := by decide +kernel
theorem dX1_greys_11 : decode cX1_greys 11 = .ok (.iload_n 2, 1) := by decide +kernel
theorem dX1_greys_12 : decode cX1_greys 12 = .ok (.aload_n 0, 1) := by decide +kernel
theorem dX1_greys_13 : decode cX1_greys 13 = .ok (.getfield 9, 3) := by decide +kernel
theorem dX1_greys_16 : decode cX1_greys 16 = .ok (.invokevirtual 23, 3) := by decide +kernel
theorem dX1_greys_19 : decode cX1_greys 19 = .ok (.if_icmp .ge 33, 3) := by decide +kernel
theorem dX1_greys_22 : decode cX1_greys 22 = .ok (.aload_n 0, 1) := by decide +kernel
theorem dX1_greys_23 : decode cX1_greys 23 = .ok (.getfield 9, 3) := by decide +kernel
theorem dX1_greys_26 : decode cX1_greys 26 = .ok (.iload_n 2, 1) := by decide +kernel
theorem dX1_greys_27 : decode cX1_greys 27 = .ok (.invokevirtual 29, 3) := by decide +kernel
theorem dX1_greys_30 : decode cX1_greys 30 = .ok (.astore_n 3, 1) := by decide +kernel
theorem dX1_greys_31 : decode cX1_greys 31 = .ok (.aload_n 3, 1) := by decide +kernel
theorem dX1_greys_32 : decode cX1_greys 32 = .ok (.ifnull 14, 3) := by decide +kernel
theorem dX1_greys_35 : decode cX1_greys 35 = .ok (.aload_n 3, 1) := by decide +kernel
theorem dX1_greys_36 : decode cX1_greys 36 = .ok (.getfield 33, 3) := by decide +kernel
theorem dX1_greys_39 : decode cX1_greys 39 = .ok (.iconst 1, 1) := by decide +kernel
theorem dX1_greys_40 : decode cX1_greys 40 = .ok (.if_icmp .ne 6, 3) := by decide +kernel
theorem dX1_greys_43 : decode cX1_greys 43 = .ok (.iinc 1 1, 3) := by decide +kernel
theorem dX1_greys_46 : decode cX1_greys 46 = .ok (.iinc 2 1, 3) := by decide +kernel
theorem dX1_greys_49 : decode cX1_greys 49 = .ok (.goto (-45), 3) := by decide +kernel
theorem dX1_greys_52 : decode cX1_greys 52 = .ok (.iload_n 1, 1) := by decide +kernel
theorem dX1_greys_53 : decode cX1_greys 53 = .ok (.ireturn, 1) := by decide +kernel
set_option maxRecDepth 20000 in
theorem ggX1_blackenNext_X5_size : GoodIn wsX1_blackenNext wsX5_size := goodIn_r _ [9, 10, 37, 38] (by decide +kernel) (by decide +kernel)
set_option maxRecDepth 20000 in
theorem gX1_blackenNext_X5_size : GoodIn wsX1_blackenNext (wsV RX1 23 RX5 yX5_size wsX5_size) := goodIn_app (goodIn_of _ (by decide +kernel)) ggX1_blackenNext_X5_size
set_option maxRecDepth 20000 in
theorem ggX1_blackenNext_X5_item : GoodIn wsX1_blackenNext wsX5_item := goodIn_r _ [14, 10, 15, 37, 38] (by decide +kernel) (by decide +kernel)
set_option maxRecDepth 20000 in
theorem gX1_blackenNext_X5_item : GoodIn wsX1_blackenNext (wsV RX1 29 RX5 yX5_item wsX5_item) := goodIn_app (goodIn_of _ (by decide +kernel)) ggX1_blackenNext_X5_item
set_option maxRecDepth 20000 in
theorem ggX1_blackenNext_X1_grey : GoodIn wsX1_blackenNext wsX1_grey := goodIn_r _ [19, 2, 23, 24, 25, 26, 27, 28, 29, 30, 31, 32, 33, 34, 35, 36] (by decide +kernel) (by decide +kernel)
set_option maxRecDepth 20000 in
theorem gX1_blackenNext_X1_grey : GoodIn wsX1_blackenNext (va_wsS RX1 50 yX1_grey wsX1_grey) := goodIn_app (goodIn_of _ (by decide +kernel)) ggX1_blackenNext_X1_grey
theorem dX1_blackenNext_0 : decode cX1_blackenNext 0 = .ok (.iconst 0, 1) := by decide +kernel
theorem dX1_blackenNext_1 : decode cX1_blackenNext 1 = .ok (.istore_n 1, 1) := by decide +kernel
theorem dX1_blackenNext_2 : decode cX1_blackenNext 2 = .ok (.iload_n 1, 1) := by decide +kernel
theorem dX1_blackenNext_3 : decode cX1_blackenNext 3 = .ok (.aload_n 0, 1) := by decide +kernel
theorem dX1_blackenNext_4 : decode cX1_blackenNext 4 = .ok (.getfield 9, 3) := by decide +kernel
theorem dX1_blackenNext_7 : decode cX1_blackenNext 7 = .ok (.invokevirtual 23, 3) := by decide +kernel
theorem dX1_blackenNext_10 : decode cX1_blackenNext 10 = .ok (.if_icmp .ge 75, 3) := by decide +kernel
theorem dX1_blackenNext_13 : decode cX1_blackenNext 13 = .ok (.aload_n 0, 1) := by decide +kernel
theorem dX1_blackenNext_14 : decode cX1_blackenNext 14 = .ok (.getfield 9, 3) := by decide +kernel
theorem dX1_blackenNext_17 : decode cX1_blackenNext 17 = .ok (.iload_n 1, 1) := by decide +kernel
theorem dX1_blackenNext_18 : decode cX1_blackenNext 18 = .ok (.invokevirtual 29, 3) := by decide +kernel
theorem dX1_blackenNext_21 : decode cX1_blackenNext 21 = .ok (.astore_n 2, 1) := by decide +kernel
theorem dX1_blackenNext_22 : decode cX1_blackenNext 22 = .ok (.aload_n 2, 1) := by decide +kernel
theorem dX1_blackenNext_23 : decode cX1_blackenNext 23 = .ok (.ifnull 56, 3) := by decide +kernel
theorem dX1_blackenNext_26 : decode cX1_blackenNext 26 = .ok (.aload_n 2, 1) := by decide +kernel
theorem dX1_blackenNext_27 : decode cX1_blackenNext 27 = .ok (.getfield 33, 3) := by decide +kernel
theorem dX1_blackenNext_30 : decode cX1_blackenNext 30 = .ok (.iconst 1, 1) := by decide +kernel
theorem dX1_blackenNext_31 : decode cX1_blackenNext 31 = .ok (.if_icmp .ne 48, 3) := by decide +kernel
theorem dX1_blackenNext_34 : decode cX1_blackenNext 34 = .ok (.aload_n 2, 1) := by decide +kernel
theorem dX1_blackenNext_35 : decode cX1_blackenNext 35 = .ok (.iconst 2, 1) := by decide +kernel
theorem dX1_blackenNext_36 : decode cX1_blackenNext 36 = .ok (.putfield 33, 3) := by decide +kernel
theorem dX1_blackenNext_39 : decode cX1_blackenNext 39 = .ok (.aload_n 2, 1) := by decide +kernel
theorem dX1_blackenNext_40 : decode cX1_blackenNext 40 = .ok (.getfield 57, 3) := by decide +kernel
theorem dX1_blackenNext_43 : decode cX1_blackenNext 43 = .ok (.iconst 1, 1) := by decide +kernel
theorem dX1_blackenNext_44 : decode cX1_blackenNext 44 = .ok (.if_icmp .ne 7, 3) := by decide +kernel
theorem dX1_blackenNext_47 : decode cX1_blackenNext 47 = .ok (.iconst 1, 1) := by decide +kernel
theorem dX1_blackenNext_48 : decode cX1_blackenNext 48 = .ok (.goto 4, 3) := by decide +kernel
theorem dX1_blackenNext_51 : decode cX1_blackenNext 51 = .ok (.iconst 0, 1) := by decide +kernel
theorem dX1_blackenNext_52 : decode cX1_blackenNext 52 = .ok (.istore_n 3, 1) := by decide +kernel
theorem dX1_blackenNext_53 : decode cX1_blackenNext 53 = .ok (.iload_n 3, 1) := by decide +kernel
theorem dX1_blackenNext_54 : decode cX1_blackenNext 54 = .ok (.aload_n 2, 1) := by decide +kernel
theorem dX1_blackenNext_55 : decode cX1_blackenNext 55 = .ok (.getfield 60, 3) := by decide +kernel
theorem dX1_blackenNext_58 : decode cX1_blackenNext 58 = .ok (.arraylength, 1) := by decide +kernel
theorem dX1_blackenNext_59 : decode cX1_blackenNext 59 = .ok (.if_icmp .ge 18, 3) := by decide +kernel
theorem dX1_blackenNext_62 : decode cX1_blackenNext 62 = .ok (.aload_n 2, 1) := by decide +kernel
theorem dX1_blackenNext_63 : decode cX1_blackenNext 63 = .ok (.getfield 60, 3) := by decide +kernel
theorem dX1_blackenNext_66 : decode cX1_blackenNext 66 = .ok (.iload_n 3, 1) := by decide +kernel
theorem dX1_blackenNext_67 : decode cX1_blackenNext 67 = .ok (.aaload, 1) := by decide +kernel
theorem dX1_blackenNext_68 : decode cX1_blackenNext 68 = .ok (.invokestatic 50, 3) := by decide +kernel
theorem dX1_blackenNext_71 : decode cX1_blackenNext 71 = .ok (.iinc 3 1, 3) := by decide +kernel
theorem dX1_blackenNext_74 : decode cX1_blackenNext 74 = .ok (.goto (-21), 3) := by decide +kernel
theorem dX1_blackenNext_77 : decode cX1_blackenNext 77 = .ok (.aload_n 2, 1) := by decide +kernel
theorem dX1_blackenNext_78 : decode cX1_blackenNext 78 = .ok (.areturn, 1) := by decide +kernel
theorem dX1_blackenNext_79 : decode cX1_blackenNext 79 = .ok (.iinc 1 1, 3) := by decide +kernel
theorem dX1_blackenNext_82 : decode cX1_blackenNext 82 = .ok (.goto (-80), 3) := by decide +kernel
theorem dX1_blackenNext_85 : decode cX1_blackenNext 85 = .ok (.aconst_null, 1) := by decide +kernel
theorem dX1_blackenNext_86 : decode cX1_blackenNext 86 = .ok (.areturn, 1) := by decide +kernel
set_option maxRecDepth 20000 in
theorem ggX1_blackenAll_X1_greyRoots : GoodIn wsX1_blackenAll wsX1_greyRoots := goodIn_r _ [5, 6, 7, 8, 9, 10, 11, 12, 13, 14, 15, 16, 17, 18, 19, 20, 21, 22, 23, 24, 25, 26, 27, 28, 29, 30, 31, 32, 33, 34, 35, 36, 37, 38, 4, 39, 40, 41, 42, 49, 50, 51, 52, 53, 54, 55, 56, 57, 58, 59, 60, 61, 62, 63, 64, 65, 66, 67, 68, 69, 70, 71] (by decide +kernel) (by decide +kernel)
set_option maxRecDepth 20000 in
theorem gX1_blackenAll_X1_greyRoots : GoodIn wsX1_blackenAll (wsV RX1 39 RX1 yX1_greyRoots wsX1_greyRoots) := goodIn_app (goodIn_of _ (by decide +kernel)) ggX1_blackenAll_X1_greyRoots
set_option maxRecDepth 20000 in
theorem ggX1_blackenAll_X1_blackenNext : GoodIn wsX1_blackenAll wsX1_blackenNext := goodIn_r _ [46, 7, 40, 47, 48, 41, 17, 18, 19, 20, 21, 42, 33, 34, 35, 36, 37, 38, 4, 39, 49, 50, 51, 52, 53, 54, 55, 56, 57, 58, 59, 60, 61, 62, 63, 64, 65, 70, 71] (by decide +kernel) (by decide +kernel)
set_option maxRecDepth 20000 in
theorem gX1_blackenAll_X1_blackenNext : GoodIn wsX1_blackenAll (wsV RX1 64 RX1 yX1_blackenNext wsX1_blackenNext) := goodIn_app (goodIn_of _ (by decide +kernel)) ggX1_blackenAll_X1_blackenNext
theorem dX1_blackenAll_0 : decode cX1_blackenAll 0 = .ok (.aload_n 0, 1) := by decide +kernel
theorem dX1_blackenAll_1 : decode cX1_blackenAll 1 = .ok (.invokevirtual 39, 3) := by decide +kernel
theorem dX1_blackenAll_4 : decode cX1_blackenAll 4 = .ok (.iconst 0, 1) := by decide +kernel
theorem dX1_blackenAll_5 : decode cX1_blackenAll 5 = .ok (.istore_n 1, 1) := by decide +kernel
theorem dX1_blackenAll_6 : decode cX1_blackenAll 6 = .ok (.iload_n 1, 1) := by decide +kernel
theorem dX1_blackenAll_7 : decode cX1_blackenAll 7 = .ok (.sipush 200, 3) := by decide +kernel
theorem dX1_blackenAll_10 : decode cX1_blackenAll 10 = .ok (.if_icmp .ge 17, 3) := by decide +kernel
theorem dX1_blackenAll_13 : decode cX1_blackenAll 13 = .ok (.aload_n 0, 1) := by decide +kernel
theorem dX1_blackenAll_14 : decode cX1_blackenAll 14 = .ok (.invokevirtual 64, 3) := by decide +kernel
theorem dX1_blackenAll_17 : decode cX1_blackenAll 17 = .ok (.ifnonnull 4, 3) := by decide +kernel
theorem dX1_blackenAll_20 : decode cX1_blackenAll 20 = .ok (.return_, 1) := by decide +kernel
theorem dX1_blackenAll_21 : decode cX1_blackenAll 21 = .ok (.iinc 1 1, 3) := by decide +kernel
theorem dX1_blackenAll_24 : decode cX1_blackenAll 24 = .ok (.goto (-18), 3) := by decide +kernel
theorem dX1_blackenAll_27 : decode cX1_blackenAll 27 = .ok (.return_, 1) := by decide +kernel
theorem dX1_noteMade_0 : decode cX1_noteMade 0 = .ok (.aload_n 0, 1) := by decide +kernel
theorem dX1_noteMade_1 : decode cX1_noteMade 1 = .ok (.getfield 19, 3) := by decide +kernel
theorem dX1_noteMade_4 : decode cX1_noteMade 4 = .ok (.ifCond .eq 8, 3) := by decide +kernel
theorem dX1_noteMade_7 : decode cX1_noteMade 7 = .ok (.aload_n 1, 1) := by decide +kernel
theorem dX1_noteMade_8 : decode cX1_noteMade 8 = .ok (.iconst 2, 1) := by decide +kernel
theorem dX1_noteMade_9 : decode cX1_noteMade 9 = .ok (.putfield 33, 3) := by decide +kernel
theorem dX1_noteMade_12 : decode cX1_noteMade 12 = .ok (.return_, 1) := by decide +kernel
set_option maxRecDepth 20000 in
theorem ggX1_noteWritten_X1_grey : GoodIn wsX1_noteWritten wsX1_grey := goodIn_r _ [6, 2, 10, 11, 12, 13, 14, 15, 16, 17, 18, 19, 20, 21, 22, 23] (by decide +kernel) (by decide +kernel)
set_option maxRecDepth 20000 in
theorem gX1_noteWritten_X1_grey : GoodIn wsX1_noteWritten (va_wsS RX1 50 yX1_grey wsX1_grey) := goodIn_app (goodIn_of _ (by decide +kernel)) ggX1_noteWritten_X1_grey
theorem dX1_noteWritten_0 : decode cX1_noteWritten 0 = .ok (.aload_n 0, 1) := by decide +kernel
theorem dX1_noteWritten_1 : decode cX1_noteWritten 1 = .ok (.getfield 19, 3) := by decide +kernel
theorem dX1_noteWritten_4 : decode cX1_noteWritten 4 = .ok (.ifCond .eq 15, 3) := by decide +kernel
theorem dX1_noteWritten_7 : decode cX1_noteWritten 7 = .ok (.aload_n 1, 1) := by decide +kernel
theorem dX1_noteWritten_8 : decode cX1_noteWritten 8 = .ok (.getfield 33, 3) := by decide +kernel
theorem dX1_noteWritten_11 : decode cX1_noteWritten 11 = .ok (.iconst 2, 1) := by decide +kernel
theorem dX1_noteWritten_12 : decode cX1_noteWritten 12 = .ok (.if_icmp .ne 7, 3) := by decide +kernel
theorem dX1_noteWritten_15 : decode cX1_noteWritten 15 = .ok (.aload_n 2, 1) := by decide +kernel
theorem dX1_noteWritten_16 : decode cX1_noteWritten 16 = .ok (.invokestatic 50, 3) := by decide +kernel
theorem dX1_noteWritten_19 : decode cX1_noteWritten 19 = .ok (.return_, 1) := by decide +kernel
set_option maxRecDepth 20000 in
theorem ggX2_init_X5_init : GoodIn wsX2_init wsX5_init := goodIn_r _ [14, 15, 2, 3, 16, 17, 27, 28] (by decide +kernel) (by decide +kernel)
set_option maxRecDepth 20000 in
theorem gX2_init_X5_init_n17 : GoodIn wsX2_init (wsX5_init) := ggX2_init_X5_init
theorem dX2_init_0 : decode cX2_init 0 = .ok (.aload_n 0, 1) := by decide +kernel
theorem dX2_init_1 : decode cX2_init 1 = .ok (.invokespecial 3, 3) := by decide +kernel
theorem dX2_init_4 : decode cX2_init 4 = .ok (.aload_n 0, 1) := by decide +kernel
theorem dX2_init_5 : decode cX2_init 5 = .ok (.iconst 2, 1) := by decide +kernel
theorem dX2_init_6 : decode cX2_init 6 = .ok (.putfield 9, 3) := by decide +kernel
theorem dX2_init_9 : decode cX2_init 9 = .ok (.aload_n 0, 1) := by decide +kernel
theorem dX2_init_10 : decode cX2_init 10 = .ok (.new 15, 3) := by decide +kernel
theorem dX2_init_13 : decode cX2_init 13 = .ok (.dup, 1) := by decide +kernel
theorem dX2_init_14 : decode cX2_init 14 = .ok (.invokespecial 17, 3) := by decide +kernel
theorem dX2_init_17 : decode cX2_init 17 = .ok (.putfield 18, 3) := by decide +kernel
theorem dX2_init_20 : decode cX2_init 20 = .ok (.aload_n 0, 1) := by decide +kernel
theorem dX2_init_21 : decode cX2_init 21 = .ok (.aload_n 1, 1) := by decide +kernel
theorem dX2_init_22 : decode cX2_init 22 = .ok (.putfield 22, 3) := by decide +kernel
theorem dX2_init_25 : decode cX2_init 25 = .ok (.aload_n 0, 1) := by decide +kernel
theorem dX2_init_26 : decode cX2_init 26 = .ok (.aload_n 2, 1) := by decide +kernel
theorem dX2_init_27 : decode cX2_init 27 = .ok (.putfield 25, 3) := by decide +kernel
theorem dX2_init_30 : decode cX2_init 30 = .ok (.aload_n 0, 1) := by decide +kernel
theorem dX2_init_31 : decode cX2_init 31 = .ok (.aload_n 3, 1) := by decide +kernel
theorem dX2_init_32 : decode cX2_init 32 = .ok (.putfield 29, 3) := by decide +kernel
theorem dX2_init_35 : decode cX2_init 35 = .ok (.aload_n 0, 1) := by decide +kernel
theorem dX2_init_36 : decode cX2_init 36 = .ok (.aload 4, 2) := by decide +kernel
theorem dX2_init_38 : decode cX2_init 38 = .ok (.putfield 33, 3) := by decide +kernel
theorem dX2_init_41 : decode cX2_init 41 = .ok (.return_, 1) := by decide +kernel
set_option maxRecDepth 20000 in
theorem ggX2_run_X2_begin : GoodIn wsX2_run wsX2_begin := goodIn_r _ [10, 5, 11, 2, 12, 13, 14, 15, 16, 17, 18, 19, 20, 21, 22, 23, 24, 25, 26, 27, 28, 29, 30, 31, 32, 33, 34, 35, 36, 9, 37, 38, 39, 40, 41, 42, 43, 44, 45, 46, 47, 48, 49, 50, 51, 52, 53, 175, 176, 177, 178, 179, 180, 181, 182, 183, 188, 189, 190, 191, 192, 193, 194, 195, 196, 197, 198, 199, 200, 201, 202, 203, 204, 205, 206, 207, 208, 209, 210, 211] (by decide +kernel) (by decide +kernel)
set_option maxRecDepth 20000 in
theorem gX2_run_X2_begin : GoodIn wsX2_run (wsV RX2 37 RX2 yX2_begin wsX2_begin) := goodIn_app (goodIn_of _ (by decide +kernel)) ggX2_run_X2_begin
set_option maxRecDepth 20000 in
theorem ggX2_run_X4_count : GoodIn wsX2_run wsX4_count := goodIn_r _ [58, 59, 60, 61, 26, 27, 22, 28, 24, 212, 213, 214, 215, 210, 211] (by decide +kernel) (by decide +kernel)
set_option maxRecDepth 20000 in
theorem gX2_run_X4_count : GoodIn wsX2_run (wsV RX2 40 RX4 yX4_count wsX4_count) := goodIn_app (goodIn_of _ (by decide +kernel)) ggX2_run_X4_count
set_option maxRecDepth 20000 in
theorem ggX2_run_X4_root : GoodIn wsX2_run wsX4_root := goodIn_r _ [65, 59, 66, 60, 67, 68, 69, 57, 70, 71, 72, 30, 31, 22, 32, 24, 33, 212, 213, 214, 215, 210, 211] (by decide +kernel) (by decide +kernel)
set_option maxRecDepth 20000 in
theorem gX2_run_X4_root : GoodIn wsX2_run (wsV RX2 46 RX4 yX4_root wsX4_root) := goodIn_app (goodIn_of _ (by decide +kernel)) ggX2_run_X4_root
set_option maxRecDepth 20000 in
theorem ggX2_run_X2_move : GoodIn wsX2_run wsX2_move := goodIn_r _ [76, 16, 77, 14, 78, 13, 79, 2, 5, 80, 81, 9, 82, 83, 84, 85, 86, 47, 87, 88, 89, 90, 91, 92, 41, 93, 94, 95, 96, 43, 97, 98, 99, 100, 101, 51, 52, 22, 53, 24, 33, 102, 103, 50, 196, 197, 198, 199, 200, 201, 202, 203, 204, 205, 206, 207, 208, 209, 175, 176, 177, 178, 179, 180, 181, 182, 183, 188, 189, 190, 191, 192, 193, 194, 195, 210, 211] (by decide +kernel) (by decide +kernel)
set_option maxRecDepth 20000 in
theorem gX2_run_X2_move : GoodIn wsX2_run (wsV RX2 50 RX2 yX2_move wsX2_move) := goodIn_app (goodIn_of _ (by decide +kernel)) ggX2_run_X2_move
set_option maxRecDepth 20000 in
theorem ggX2_run_X2_follow : GoodIn wsX2_run wsX2_follow := goodIn_r _ [107, 11, 5, 108, 109, 25, 26, 27, 22, 28, 24, 29, 30, 31, 32, 33, 73, 74, 75, 9, 76, 16, 77, 14, 78, 13, 79, 2, 80, 81, 82, 83, 84, 85, 86, 47, 87, 88, 89, 90, 91, 92, 41, 93, 94, 95, 96, 43, 97, 98, 99, 100, 101, 51, 52, 53, 102, 103, 50, 175, 176, 177, 178, 179, 180, 181, 182, 183, 196, 197, 198, 199, 200, 201, 202, 203, 204, 205, 206, 207, 208, 209, 210, 211, 188, 189, 190, 191, 192, 193, 194, 195] (by decide +kernel) (by decide +kernel)
set_option maxRecDepth 20000 in
theorem gX2_run_X2_follow : GoodIn wsX2_run (wsV RX2 54 RX2 yX2_follow wsX2_follow) := goodIn_app (goodIn_of _ (by decide +kernel)) ggX2_run_X2_follow
set_option maxRecDepth 20000 in
theorem ggX2_run_X2_dropReferents : GoodIn wsX2_run wsX2_dropReferents := goodIn_r _ [113, 15, 108, 25, 26, 27, 22, 28, 24, 29, 30, 31, 32, 33, 80, 81, 9, 82, 83, 16, 114, 115, 116, 41, 117, 118, 119, 120, 121, 122, 175, 176, 177, 178, 179, 180, 181, 182, 183, 196, 197, 198, 199, 200, 201, 202, 203, 204, 205, 206, 207, 208, 209, 210, 211] (by decide +kernel) (by decide +kernel)
set_option maxRecDepth 20000 in
theorem gX2_run_X2_dropReferents : GoodIn wsX2_run (wsV RX2 57 RX2 yX2_dropReferents wsX2_dropReferents) := goodIn_app (goodIn_of _ (by decide +kernel)) ggX2_run_X2_dropReferents
set_option maxRecDepth 20000 in
theorem ggX2_run_X2_raiseFinals : GoodIn wsX2_run wsX2_raiseFinals := goodIn_r _ [126, 15, 108, 1, 127, 25, 26, 27, 22, 28, 24, 29, 30, 31, 32, 33, 80, 81, 9, 82, 83, 16, 50, 51, 52, 53, 73, 74, 75, 76, 77, 14, 78, 13, 79, 2, 5, 84, 85, 86, 47, 87, 88, 89, 90, 91, 92, 41, 93, 94, 95, 96, 43, 97, 98, 99, 100, 101, 102, 103, 175, 176, 177, 178, 179, 180, 181, 182, 183, 196, 197, 198, 199, 200, 201, 202, 203, 204, 205, 206, 207, 208, 209, 212, 213, 214, 215, 210, 211, 188, 189, 190, 191, 192, 193, 194, 195] (by decide +kernel) (by decide +kernel)
set_option maxRecDepth 20000 in
theorem gX2_run_X2_raiseFinals : GoodIn wsX2_run (wsV RX2 60 RX2 yX2_raiseFinals wsX2_raiseFinals) := goodIn_app (goodIn_of _ (by decide +kernel)) ggX2_run_X2_raiseFinals
set_option maxRecDepth 20000 in
theorem ggX2_run_X2_leaveHalf : GoodIn wsX2_run wsX2_leaveHalf := goodIn_r _ [131, 2, 132, 5, 83, 13, 12, 14, 133, 25, 26, 27, 22, 28, 24, 29, 30, 31, 32, 33, 80, 81, 9, 82, 16, 134, 135, 136, 41, 137, 96, 138, 118, 19, 20, 21, 23, 50, 51, 52, 53, 175, 176, 177, 178, 179, 180, 181, 182, 183, 188, 189, 190, 191, 192, 193, 194, 195, 196, 197, 198, 199, 200, 201, 202, 203, 204, 205, 206, 207, 208, 209, 210, 211] (by decide +kernel) (by decide +kernel)
set_option maxRecDepth 20000 in
theorem gX2_run_X2_leaveHalf : GoodIn wsX2_run (wsV RX2 63 RX2 yX2_leaveHalf wsX2_leaveHalf) := goodIn_app (goodIn_of _ (by decide +kernel)) ggX2_run_X2_leaveHalf
set_option maxRecDepth 20000 in
theorem ggX2_run_X3_renewCards : GoodIn wsX2_run wsX3_renewCards := goodIn_r _ [142, 49, 89, 143, 144, 145, 146, 47, 147, 148, 26, 27, 22, 28, 24, 149, 30, 31, 32, 33, 150, 151, 152, 41, 153, 118, 96, 154, 155, 156, 157, 158, 39, 40, 42, 43, 188, 189, 190, 191, 192, 193, 194, 195, 210, 211, 196, 197, 198, 199, 200, 201, 202, 203, 204, 205, 206, 207, 208, 209] (by decide +kernel) (by decide +kernel)
set_option maxRecDepth 20000 in
theorem gX2_run_X3_renewCards : GoodIn wsX2_run (wsV RX2 66 RX3 yX3_renewCards wsX3_renewCards) := goodIn_app (goodIn_of _ (by decide +kernel)) ggX2_run_X3_renewCards
set_option maxRecDepth 20000 in
theorem ggX2_run_X5_words : GoodIn wsX2_run wsX5_words := goodIn_r _ [162, 24, 33, 163, 210, 211, 196, 197, 198, 199, 200, 201, 202, 203, 204, 205, 206, 207, 208, 209] (by decide +kernel) (by decide +kernel)
set_option maxRecDepth 20000 in
theorem gX2_run_X5_words : GoodIn wsX2_run (wsV RX2 76 RX5 yX5_words wsX5_words) := goodIn_app (goodIn_of _ (by decide +kernel)) ggX2_run_X5_words
set_option maxRecDepth 20000 in
theorem ggX2_run_X6_noteTouched : GoodIn wsX2_run wsX6_noteTouched := goodIn_r _ [168, 169, 170, 171, 172, 173, 174, 184, 185, 186, 187] (by decide +kernel) (by decide +kernel)
set_option maxRecDepth 20000 in
theorem gX2_run_X6_noteTouched : GoodIn wsX2_run (wsV RX2 79 RX6 yX6_noteTouched wsX6_noteTouched) := goodIn_app (goodIn_of _ (by decide +kernel)) ggX2_run_X6_noteTouched
theorem dX2_run_0 : decode cX2_run 0 = .ok (.aload_n 0, 1) := by decide +kernel
theorem dX2_run_1 : decode cX2_run 1 = .ok (.invokevirtual 37, 3) := by decide +kernel
theorem dX2_run_4 : decode cX2_run 4 = .ok (.iconst 0, 1) := by decide +kernel
theorem dX2_run_5 : decode cX2_run 5 = .ok (.istore_n 1, 1) := by decide +kernel
theorem dX2_run_6 : decode cX2_run 6 = .ok (.iload_n 1, 1) := by decide +kernel
theorem dX2_run_7 : decode cX2_run 7 = .ok (.aload_n 0, 1) := by decide +kernel
theorem dX2_run_8 : decode cX2_run 8 = .ok (.getfield 25, 3) := by decide +kernel
theorem dX2_run_11 : decode cX2_run 11 = .ok (.invokevirtual 40, 3) := by decide +kernel
theorem dX2_run_14 : decode cX2_run 14 = .ok (.if_icmp .ge 21, 3) := by decide +kernel
theorem dX2_run_17 : decode cX2_run 17 = .ok (.aload_n 0, 1) := by decide +kernel
theorem dX2_run_18 : decode cX2_run 18 = .ok (.aload_n 0, 1) := by decide +kernel
theorem dX2_run_19 : decode cX2_run 19 = .ok (.getfield 25, 3) := by decide +kernel
theorem dX2_run_22 : decode cX2_run 22 = .ok (.iload_n 1, 1) := by decide +kernel
theorem dX2_run_23 : decode cX2_run 23 = .ok (.invokevirtual 46, 3) := by decide +kernel
theorem dX2_run_26 : decode cX2_run 26 = .ok (.invokevirtual 50, 3) := by decide +kernel
theorem dX2_run_29 : decode cX2_run 29 = .ok (.iinc 1 1, 3) := by decide +kernel
theorem dX2_run_32 : decode cX2_run 32 = .ok (.goto (-26), 3) := by decide +kernel
theorem dX2_run_35 : decode cX2_run 35 = .ok (.aload_n 0, 1) := by decide +kernel
theorem dX2_run_36 : decode cX2_run 36 = .ok (.invokevirtual 54, 3) := by decide +kernel
theorem dX2_run_39 : decode cX2_run 39 = .ok (.aload_n 0, 1) := by decide +kernel
theorem dX2_run_40 : decode cX2_run 40 = .ok (.invokevirtual 57, 3) := by decide +kernel
theorem dX2_run_43 : decode cX2_run 43 = .ok (.aload_n 0, 1) := by decide +kernel
theorem dX2_run_44 : decode cX2_run 44 = .ok (.invokevirtual 60, 3) := by decide +kernel
theorem dX2_run_47 : decode cX2_run 47 = .ok (.aload_n 0, 1) := by decide +kernel
theorem dX2_run_48 : decode cX2_run 48 = .ok (.invokevirtual 54, 3) := by decide +kernel
theorem dX2_run_51 : decode cX2_run 51 = .ok (.aload_n 0, 1) := by decide +kernel
theorem dX2_run_52 : decode cX2_run 52 = .ok (.invokevirtual 57, 3) := by decide +kernel
theorem dX2_run_55 : decode cX2_run 55 = .ok (.aload_n 0, 1) := by decide +kernel
theorem dX2_run_56 : decode cX2_run 56 = .ok (.invokevirtual 63, 3) := by decide +kernel
theorem dX2_run_59 : decode cX2_run 59 = .ok (.istore_n 1, 1) := by decide +kernel
theorem dX2_run_60 : decode cX2_run 60 = .ok (.aload_n 0, 1) := by decide +kernel
theorem dX2_run_61 : decode cX2_run 61 = .ok (.getfield 29, 3) := by decide +kernel
theorem dX2_run_64 : decode cX2_run 64 = .ok (.invokevirtual 66, 3) := by decide +kernel
theorem dX2_run_67 : decode cX2_run 67 = .ok (.aload_n 0, 1) := by decide +kernel
theorem dX2_run_68 : decode cX2_run 68 = .ok (.getfield 33, 3) := by decide +kernel
theorem dX2_run_71 : decode cX2_run 71 = .ok (.dup, 1) := by decide +kernel
theorem dX2_run_72 : decode cX2_run 72 = .ok (.getfield 71, 3) := by decide +kernel
theorem dX2_run_75 : decode cX2_run 75 = .ok (.iconst 1, 1) := by decide +kernel
theorem dX2_run_76 : decode cX2_run 76 = .ok (.iadd, 1) := by decide +kernel
theorem dX2_run_77 : decode cX2_run 77 = .ok (.putfield 71, 3) := by decide +kernel
theorem dX2_run_80 : decode cX2_run 80 = .ok (.aload_n 0, 1) := by decide +kernel
theorem dX2_run_81 : decode cX2_run 81 = .ok (.getfield 33, 3) := by decide +kernel
theorem dX2_run_84 : decode cX2_run 84 = .ok (.aload_n 0, 1) := by decide +kernel
theorem dX2_run_85 : decode cX2_run 85 = .ok (.getfield 18, 3) := by decide +kernel
theorem dX2_run_88 : decode cX2_run 88 = .ok (.invokevirtual 76, 3) := by decide +kernel
theorem dX2_run_91 : decode cX2_run 91 = .ok (.invokevirtual 79, 3) := by decide +kernel
theorem dX2_run_94 : decode cX2_run 94 = .ok (.iload_n 1, 1) := by decide +kernel
theorem dX2_run_95 : decode cX2_run 95 = .ok (.ireturn, 1) := by decide +kernel
set_option maxRecDepth 20000 in
theorem ggX2_begin_X5_clear : GoodIn wsX2_begin wsX5_clear := goodIn_r _ [15, 16, 78, 79] (by decide +kernel) (by decide +kernel)
set_option maxRecDepth 20000 in
theorem gX2_begin_X5_clear : GoodIn wsX2_begin (wsV RX2 83 RX5 yX5_clear wsX5_clear) := goodIn_app (goodIn_of _ (by decide +kernel)) ggX2_begin_X5_clear
set_option maxRecDepth 20000 in
theorem ggX2_begin_X5_size : GoodIn wsX2_begin wsX5_size := goodIn_r _ [20, 16, 78, 79] (by decide +kernel) (by decide +kernel)
set_option maxRecDepth 20000 in
theorem gX2_begin_X5_size : GoodIn wsX2_begin (wsV RX2 98 RX5 yX5_size wsX5_size) := goodIn_app (goodIn_of _ (by decide +kernel)) ggX2_begin_X5_size
set_option maxRecDepth 20000 in
theorem ggX2_begin_X5_item : GoodIn wsX2_begin wsX5_item := goodIn_r _ [24, 16, 25, 78, 79] (by decide +kernel) (by decide +kernel)
set_option maxRecDepth 20000 in
theorem gX2_begin_X5_item : GoodIn wsX2_begin (wsV RX2 101 RX5 yX5_item wsX5_item) := goodIn_app (goodIn_of _ (by decide +kernel)) ggX2_begin_X5_item
set_option maxRecDepth 20000 in
theorem ggX2_begin_X2_addDirty : GoodIn wsX2_begin wsX2_addDirty := goodIn_r _ [30, 3, 1, 17, 18, 19, 14, 20, 16, 21, 22, 23, 24, 25, 31, 32, 33, 34, 35, 36, 37, 38, 39, 40, 41, 42, 43, 44, 45, 46, 47, 48, 49, 50, 51, 52, 53, 54, 55, 78, 79, 64, 65, 66, 67, 68, 69, 70, 71, 72, 73, 74, 75, 76, 77, 56, 57, 58, 59, 60, 61, 62, 63] (by decide +kernel) (by decide +kernel)
set_option maxRecDepth 20000 in
theorem gX2_begin_X2_addDirty : GoodIn wsX2_begin (wsV RX2 113 RX2 yX2_addDirty wsX2_addDirty) := goodIn_app (goodIn_of _ (by decide +kernel)) ggX2_begin_X2_addDirty
theorem dX2_begin_0 : decode cX2_begin 0 = .ok (.aload_n 0, 1) := by decide +kernel
theorem dX2_begin_1 : decode cX2_begin 1 = .ok (.getfield 18, 3) := by decide +kernel
theorem dX2_begin_4 : decode cX2_begin 4 = .ok (.invokevirtual 83, 3) := by decide +kernel
theorem dX2_begin_7 : decode cX2_begin 7 = .ok (.aload_n 0, 1) := by decide +kernel
theorem dX2_begin_8 : decode cX2_begin 8 = .ok (.iconst 0, 1) := by decide +kernel
theorem dX2_begin_9 : decode cX2_begin 9 = .ok (.putfield 86, 3) := by decide +kernel
theorem dX2_begin_12 : decode cX2_begin 12 = .ok (.aload_n 0, 1) := by decide +kernel
theorem dX2_begin_13 : decode cX2_begin 13 = .ok (.aload_n 0, 1) := by decide +kernel
theorem dX2_begin_14 : decode cX2_begin 14 = .ok (.getfield 29, 3) := by decide +kernel
theorem dX2_begin_17 : decode cX2_begin 17 = .ok (.getfield 89, 3) := by decide +kernel
theorem dX2_begin_20 : decode cX2_begin 20 = .ok (.ifCond .ne 8, 3) := by decide +kernel
theorem dX2_begin_23 : decode cX2_begin 23 = .ok (.bipush 40, 2) := by decide +kernel
theorem dX2_begin_25 : decode cX2_begin 25 = .ok (.goto 4, 3) := by decide +kernel
theorem dX2_begin_28 : decode cX2_begin 28 = .ok (.iconst 0, 1) := by decide +kernel
theorem dX2_begin_29 : decode cX2_begin 29 = .ok (.putfield 92, 3) := by decide +kernel
theorem dX2_begin_32 : decode cX2_begin 32 = .ok (.aload_n 0, 1) := by decide +kernel
theorem dX2_begin_33 : decode cX2_begin 33 = .ok (.aload_n 0, 1) := by decide +kernel
theorem dX2_begin_34 : decode cX2_begin 34 = .ok (.getfield 92, 3) := by decide +kernel
theorem dX2_begin_37 : decode cX2_begin 37 = .ok (.putfield 95, 3) := by decide +kernel
theorem dX2_begin_40 : decode cX2_begin 40 = .ok (.iconst 0, 1) := by decide +kernel
theorem dX2_begin_41 : decode cX2_begin 41 = .ok (.istore_n 1, 1) := by decide +kernel
theorem dX2_begin_42 : decode cX2_begin 42 = .ok (.iload_n 1, 1) := by decide +kernel
theorem dX2_begin_43 : decode cX2_begin 43 = .ok (.aload_n 0, 1) := by decide +kernel
theorem dX2_begin_44 : decode cX2_begin 44 = .ok (.getfield 22, 3) := by decide +kernel
theorem dX2_begin_47 : decode cX2_begin 47 = .ok (.invokevirtual 98, 3) := by decide +kernel
theorem dX2_begin_50 : decode cX2_begin 50 = .ok (.if_icmp .ge 27, 3) := by decide +kernel
theorem dX2_begin_53 : decode cX2_begin 53 = .ok (.aload_n 0, 1) := by decide +kernel
theorem dX2_begin_54 : decode cX2_begin 54 = .ok (.getfield 22, 3) := by decide +kernel
theorem dX2_begin_57 : decode cX2_begin 57 = .ok (.iload_n 1, 1) := by decide +kernel
theorem dX2_begin_58 : decode cX2_begin 58 = .ok (.invokevirtual 101, 3) := by decide +kernel
theorem dX2_begin_61 : decode cX2_begin 61 = .ok (.astore_n 2, 1) := by decide +kernel
theorem dX2_begin_62 : decode cX2_begin 62 = .ok (.aload_n 2, 1) := by decide +kernel
theorem dX2_begin_63 : decode cX2_begin 63 = .ok (.ifnull 8, 3) := by decide +kernel
theorem dX2_begin_66 : decode cX2_begin 66 = .ok (.aload_n 2, 1) := by decide +kernel
theorem dX2_begin_67 : decode cX2_begin 67 = .ok (.iconst 0, 1) := by decide +kernel
theorem dX2_begin_68 : decode cX2_begin 68 = .ok (.putfield 104, 3) := by decide +kernel
theorem dX2_begin_71 : decode cX2_begin 71 = .ok (.iinc 1 1, 3) := by decide +kernel
theorem dX2_begin_74 : decode cX2_begin 74 = .ok (.goto (-32), 3) := by decide +kernel
theorem dX2_begin_77 : decode cX2_begin 77 = .ok (.aload_n 0, 1) := by decide +kernel
theorem dX2_begin_78 : decode cX2_begin 78 = .ok (.aload_n 0, 1) := by decide +kernel
theorem dX2_begin_79 : decode cX2_begin 79 = .ok (.getfield 29, 3) := by decide +kernel
theorem dX2_begin_82 : decode cX2_begin 82 = .ok (.getfield 110, 3) := by decide +kernel
theorem dX2_begin_85 : decode cX2_begin 85 = .ok (.invokevirtual 113, 3) := by decide +kernel
theorem dX2_begin_88 : decode cX2_begin 88 = .ok (.aload_n 0, 1) := by decide +kernel
theorem dX2_begin_89 : decode cX2_begin 89 = .ok (.aload_n 0, 1) := by decide +kernel
theorem dX2_begin_90 : decode cX2_begin 90 = .ok (.getfield 29, 3) := by decide +kernel
theorem dX2_begin_93 : decode cX2_begin 93 = .ok (.getfield 117, 3) := by decide +kernel
theorem dX2_begin_96 : decode cX2_begin 96 = .ok (.invokevirtual 113, 3) := by decide +kernel
theorem dX2_begin_99 : decode cX2_begin 99 = .ok (.return_, 1) := by decide +kernel
set_option maxRecDepth 20000 in
theorem ggX2_addDirty_X5_size : GoodIn wsX2_addDirty wsX5_size := goodIn_r _ [7, 8, 39, 40] (by decide +kernel) (by decide +kernel)
set_option maxRecDepth 20000 in
theorem gX2_addDirty_X5_size : GoodIn wsX2_addDirty (wsV RX2 98 RX5 yX5_size wsX5_size) := goodIn_app (goodIn_of _ (by decide +kernel)) ggX2_addDirty_X5_size
set_option maxRecDepth 20000 in
theorem ggX2_addDirty_X5_item : GoodIn wsX2_addDirty wsX5_item := goodIn_r _ [12, 8, 13, 39, 40] (by decide +kernel) (by decide +kernel)
set_option maxRecDepth 20000 in
theorem gX2_addDirty_X5_item : GoodIn wsX2_addDirty (wsV RX2 101 RX5 yX5_item wsX5_item) := goodIn_app (goodIn_of _ (by decide +kernel)) ggX2_addDirty_X5_item
set_option maxRecDepth 20000 in
theorem ggX2_addDirty_X7_card : GoodIn wsX2_addDirty wsX7_card := goodIn_r _ [18, 19, 41, 42, 43, 44, 45, 46, 47, 48, 49, 50, 51, 52, 53, 54] (by decide +kernel) (by decide +kernel)
set_option maxRecDepth 20000 in
theorem gX2_addDirty_X7_card : GoodIn wsX2_addDirty (wsV RX2 120 RX7 yX7_card wsX7_card) := goodIn_app (goodIn_of _ (by decide +kernel)) ggX2_addDirty_X7_card
set_option maxRecDepth 20000 in
theorem ggX2_addDirty_X3_isCardDirty : GoodIn wsX2_addDirty wsX3_isCardDirty := goodIn_r _ [24, 25, 55, 56, 57, 58, 59, 60, 61, 62] (by decide +kernel) (by decide +kernel)
set_option maxRecDepth 20000 in
theorem gX2_addDirty_X3_isCardDirty : GoodIn wsX2_addDirty (wsV RX2 123 RX3 yX3_isCardDirty wsX3_isCardDirty) := goodIn_app (goodIn_of _ (by decide +kernel)) ggX2_addDirty_X3_isCardDirty
set_option maxRecDepth 20000 in
theorem ggX2_addDirty_X5_add : GoodIn wsX2_addDirty wsX5_add := goodIn_r _ [29, 8, 13, 39, 40] (by decide +kernel) (by decide +kernel)
set_option maxRecDepth 20000 in
theorem gX2_addDirty_X5_add : GoodIn wsX2_addDirty (wsV RX2 127 RX5 yX5_add wsX5_add) := goodIn_app (goodIn_of _ (by decide +kernel)) ggX2_addDirty_X5_add
theorem dX2_addDirty_0 : decode cX2_addDirty 0 = .ok (.iconst 0, 1) := by decide +kernel
theorem dX2_addDirty_1 : decode cX2_addDirty 1 = .ok (.istore_n 2, 1) := by decide +kernel
theorem dX2_addDirty_2 : decode cX2_addDirty 2 = .ok (.iload_n 2, 1) := by decide +kernel
theorem dX2_addDirty_3 : decode cX2_addDirty 3 = .ok (.aload_n 1, 1) := by decide +kernel
theorem dX2_addDirty_4 : decode cX2_addDirty 4 = .ok (.invokevirtual 98, 3) := by decide +kernel
theorem dX2_addDirty_7 : decode cX2_addDirty 7 = .ok (.if_icmp .ge 41, 3) := by decide +kernel
theorem dX2_addDirty_10 : decode cX2_addDirty 10 = .ok (.aload_n 1, 1) := by decide +kernel
theorem dX2_addDirty_11 : decode cX2_addDirty 11 = .ok (.iload_n 2, 1) := by decide +kernel
theorem dX2_addDirty_12 : decode cX2_addDirty 12 = .ok (.invokevirtual 101, 3) := by decide +kernel
theorem dX2_addDirty_15 : decode cX2_addDirty 15 = .ok (.astore_n 3, 1) := by decide +kernel
theorem dX2_addDirty_16 : decode cX2_addDirty 16 = .ok (.aload_n 3, 1) := by decide +kernel
theorem dX2_addDirty_17 : decode cX2_addDirty 17 = .ok (.ifnull 25, 3) := by decide +kernel
theorem dX2_addDirty_20 : decode cX2_addDirty 20 = .ok (.aload_n 0, 1) := by decide +kernel
theorem dX2_addDirty_21 : decode cX2_addDirty 21 = .ok (.getfield 29, 3) := by decide +kernel
theorem dX2_addDirty_24 : decode cX2_addDirty 24 = .ok (.aload_n 3, 1) := by decide +kernel
theorem dX2_addDirty_25 : decode cX2_addDirty 25 = .ok (.invokevirtual 120, 3) := by decide +kernel
theorem dX2_addDirty_28 : decode cX2_addDirty 28 = .ok (.invokevirtual 123, 3) := by decide +kernel
theorem dX2_addDirty_31 : decode cX2_addDirty 31 = .ok (.ifCond .eq 11, 3) := by decide +kernel
theorem dX2_addDirty_34 : decode cX2_addDirty 34 = .ok (.aload_n 0, 1) := by decide +kernel
theorem dX2_addDirty_35 : decode cX2_addDirty 35 = .ok (.getfield 18, 3) := by decide +kernel
theorem dX2_addDirty_38 : decode cX2_addDirty 38 = .ok (.aload_n 3, 1) := by decide +kernel
theorem dX2_addDirty_39 : decode cX2_addDirty 39 = .ok (.invokevirtual 127, 3) := by decide +kernel
theorem dX2_addDirty_42 : decode cX2_addDirty 42 = .ok (.iinc 2 1, 3) := by decide +kernel
theorem dX2_addDirty_45 : decode cX2_addDirty 45 = .ok (.goto (-43), 3) := by decide +kernel
theorem dX2_addDirty_48 : decode cX2_addDirty 48 = .ok (.return_, 1) := by decide +kernel
theorem dX2_isLeft_0 : decode cX2_isLeft 0 = .ok (.aload_n 0, 1) := by decide +kernel
theorem dX2_isLeft_1 : decode cX2_isLeft 1 = .ok (.ifnull 22, 3) := by decide +kernel
theorem dX2_isLeft_4 : decode cX2_isLeft 4 = .ok (.aload_n 0, 1) := by decide +kernel
theorem dX2_isLeft_5 : decode cX2_isLeft 5 = .ok (.getfield 130, 3) := by decide +kernel
theorem dX2_isLeft_8 : decode cX2_isLeft 8 = .ok (.iconst 1, 1) := by decide +kernel
theorem dX2_isLeft_9 : decode cX2_isLeft 9 = .ok (.if_icmp .ne 14, 3) := by decide +kernel
theorem dX2_isLeft_12 : decode cX2_isLeft 12 = .ok (.aload_n 0, 1) := by decide +kernel
theorem dX2_isLeft_13 : decode cX2_isLeft 13 = .ok (.getfield 104, 3) := by decide +kernel
theorem dX2_isLeft_16 : decode cX2_isLeft 16 = .ok (.ifCond .ne 7, 3) := by decide +kernel
theorem dX2_isLeft_19 : decode cX2_isLeft 19 = .ok (.iconst 1, 1) := by decide +kernel
theorem dX2_isLeft_20 : decode cX2_isLeft 20 = .ok (.goto 4, 3) := by decide +kernel
theorem dX2_isLeft_23 : decode cX2_isLeft 23 = .ok (.iconst 0, 1) := by decide +kernel
theorem dX2_isLeft_24 : decode cX2_isLeft 24 = .ok (.ireturn, 1) := by decide +kernel
set_option maxRecDepth 20000 in
theorem ggX2_move_X2_isLeft : GoodIn wsX2_move wsX2_isLeft := goodIn_r _ [12, 13, 1, 44, 45, 46, 47, 48, 49, 50, 51, 52, 53, 54, 55, 56, 57] (by decide +kernel) (by decide +kernel)
set_option maxRecDepth 20000 in
theorem gX2_move_X2_isLeft : GoodIn wsX2_move (va_wsS RX2 133 yX2_isLeft wsX2_isLeft) := goodIn_app (goodIn_of _ (by decide +kernel)) ggX2_move_X2_isLeft
set_option maxRecDepth 20000 in
theorem ggX2_move_X3_moveToOld : GoodIn wsX2_move wsX3_moveToOld := goodIn_r _ [18, 19, 20, 21, 22, 23, 24, 25, 26, 27, 28, 29, 30, 31, 32, 33, 34, 35, 36, 37, 38, 39, 40, 67, 68, 69, 70, 71, 72, 73, 74, 44, 45, 46, 47, 48, 49, 50, 51, 52, 53, 54, 55, 56, 57, 75, 76] (by decide +kernel) (by decide +kernel)
set_option maxRecDepth 20000 in
theorem gX2_move_X3_moveToOld : GoodIn wsX2_move (wsV RX2 143 RX3 yX3_moveToOld wsX3_moveToOld) := goodIn_app (goodIn_of _ (by decide +kernel)) ggX2_move_X3_moveToOld
set_option maxRecDepth 20000 in
theorem ggX2_move_X7_moveTo : GoodIn wsX2_move wsX7_moveTo := goodIn_r _ [25, 26, 27, 28, 29, 44, 45, 46, 47, 48, 49, 50, 51, 52, 53, 54, 55, 56, 57] (by decide +kernel) (by decide +kernel)
set_option maxRecDepth 20000 in
theorem gX2_move_X7_moveTo : GoodIn wsX2_move (wsV RX2 146 RX7 yX7_moveTo wsX7_moveTo) := goodIn_app (goodIn_of _ (by decide +kernel)) ggX2_move_X7_moveTo
set_option maxRecDepth 20000 in
theorem ggX2_move_X7_end : GoodIn wsX2_move wsX7_end := goodIn_r _ [33, 29, 27, 44, 45, 46, 47, 48, 49, 50, 51, 52, 53, 54, 55, 56, 57] (by decide +kernel) (by decide +kernel)
set_option maxRecDepth 20000 in
theorem gX2_move_X7_end : GoodIn wsX2_move (wsV RX2 150 RX7 yX7_end wsX7_end) := goodIn_app (goodIn_of _ (by decide +kernel)) ggX2_move_X7_end
set_option maxRecDepth 20000 in
theorem ggX2_move_X5_add : GoodIn wsX2_move wsX5_add := goodIn_r _ [38, 39, 40, 75, 76] (by decide +kernel) (by decide +kernel)
set_option maxRecDepth 20000 in
theorem gX2_move_X5_add : GoodIn wsX2_move (wsV RX2 127 RX5 yX5_add wsX5_add) := goodIn_app (goodIn_of _ (by decide +kernel)) ggX2_move_X5_add
theorem dX2_move_0 : decode cX2_move 0 = .ok (.aload_n 1, 1) := by decide +kernel
theorem dX2_move_1 : decode cX2_move 1 = .ok (.ifnull 10, 3) := by decide +kernel
theorem dX2_move_4 : decode cX2_move 4 = .ok (.aload_n 1, 1) := by decide +kernel
theorem dX2_move_5 : decode cX2_move 5 = .ok (.invokestatic 133, 3) := by decide +kernel
theorem dX2_move_8 : decode cX2_move 8 = .ok (.ifCond .ne 4, 3) := by decide +kernel
theorem dX2_move_11 : decode cX2_move 11 = .ok (.return_, 1) := by decide +kernel
theorem dX2_move_12 : decode cX2_move 12 = .ok (.aload_n 1, 1) := by decide +kernel
theorem dX2_move_13 : decode cX2_move 13 = .ok (.iconst 1, 1) := by decide +kernel
theorem dX2_move_14 : decode cX2_move 14 = .ok (.putfield 104, 3) := by decide +kernel
theorem dX2_move_17 : decode cX2_move 17 = .ok (.aload_n 1, 1) := by decide +kernel
theorem dX2_move_18 : decode cX2_move 18 = .ok (.dup, 1) := by decide +kernel
theorem dX2_move_19 : decode cX2_move 19 = .ok (.getfield 137, 3) := by decide +kernel
theorem dX2_move_22 : decode cX2_move 22 = .ok (.iconst 1, 1) := by decide +kernel
theorem dX2_move_23 : decode cX2_move 23 = .ok (.iadd, 1) := by decide +kernel
theorem dX2_move_24 : decode cX2_move 24 = .ok (.putfield 137, 3) := by decide +kernel
theorem dX2_move_27 : decode cX2_move 27 = .ok (.aload_n 0, 1) := by decide +kernel
theorem dX2_move_28 : decode cX2_move 28 = .ok (.getfield 95, 3) := by decide +kernel
theorem dX2_move_31 : decode cX2_move 31 = .ok (.aload_n 1, 1) := by decide +kernel
theorem dX2_move_32 : decode cX2_move 32 = .ok (.getfield 140, 3) := by decide +kernel
theorem dX2_move_35 : decode cX2_move 35 = .ok (.iadd, 1) := by decide +kernel
theorem dX2_move_36 : decode cX2_move 36 = .ok (.aload_n 0, 1) := by decide +kernel
theorem dX2_move_37 : decode cX2_move 37 = .ok (.getfield 92, 3) := by decide +kernel
theorem dX2_move_40 : decode cX2_move 40 = .ok (.bipush 40, 2) := by decide +kernel
theorem dX2_move_42 : decode cX2_move 42 = .ok (.iadd, 1) := by decide +kernel
theorem dX2_move_43 : decode cX2_move 43 = .ok (.if_icmp .gt 7, 3) := by decide +kernel
theorem dX2_move_46 : decode cX2_move 46 = .ok (.iconst 1, 1) := by decide +kernel
theorem dX2_move_47 : decode cX2_move 47 = .ok (.goto 4, 3) := by decide +kernel
theorem dX2_move_50 : decode cX2_move 50 = .ok (.iconst 0, 1) := by decide +kernel
theorem dX2_move_51 : decode cX2_move 51 = .ok (.istore_n 2, 1) := by decide +kernel
theorem dX2_move_52 : decode cX2_move 52 = .ok (.aload_n 1, 1) := by decide +kernel
theorem dX2_move_53 : decode cX2_move 53 = .ok (.getfield 137, 3) := by decide +kernel
theorem dX2_move_56 : decode cX2_move 56 = .ok (.aload_n 0, 1) := by decide +kernel
theorem dX2_move_57 : decode cX2_move 57 = .ok (.getfield 9, 3) := by decide +kernel
theorem dX2_move_60 : decode cX2_move 60 = .ok (.if_icmp .ge 7, 3) := by decide +kernel
theorem dX2_move_63 : decode cX2_move 63 = .ok (.iload_n 2, 1) := by decide +kernel
theorem dX2_move_64 : decode cX2_move 64 = .ok (.ifCond .ne 14, 3) := by decide +kernel
theorem dX2_move_67 : decode cX2_move 67 = .ok (.aload_n 0, 1) := by decide +kernel
theorem dX2_move_68 : decode cX2_move 68 = .ok (.getfield 29, 3) := by decide +kernel
theorem dX2_move_71 : decode cX2_move 71 = .ok (.aload_n 1, 1) := by decide +kernel
theorem dX2_move_72 : decode cX2_move 72 = .ok (.invokevirtual 143, 3) := by decide +kernel
theorem dX2_move_75 : decode cX2_move 75 = .ok (.goto 20, 3) := by decide +kernel
theorem dX2_move_78 : decode cX2_move 78 = .ok (.aload_n 1, 1) := by decide +kernel
theorem dX2_move_79 : decode cX2_move 79 = .ok (.iconst 1, 1) := by decide +kernel
theorem dX2_move_80 : decode cX2_move 80 = .ok (.aload_n 0, 1) := by decide +kernel
theorem dX2_move_81 : decode cX2_move 81 = .ok (.getfield 95, 3) := by decide +kernel
theorem dX2_move_84 : decode cX2_move 84 = .ok (.invokevirtual 146, 3) := by decide +kernel
theorem dX2_move_87 : decode cX2_move 87 = .ok (.aload_n 0, 1) := by decide +kernel
theorem dX2_move_88 : decode cX2_move 88 = .ok (.aload_n 1, 1) := by decide +kernel
theorem dX2_move_89 : decode cX2_move 89 = .ok (.invokevirtual 150, 3) := by decide +kernel
theorem dX2_move_92 : decode cX2_move 92 = .ok (.putfield 95, 3) := by decide +kernel
theorem dX2_move_95 : decode cX2_move 95 = .ok (.aload_n 0, 1) := by decide +kernel
theorem dX2_move_96 : decode cX2_move 96 = .ok (.getfield 18, 3) := by decide +kernel
theorem dX2_move_99 : decode cX2_move 99 = .ok (.aload_n 1, 1) := by decide +kernel
theorem dX2_move_100 : decode cX2_move 100 = .ok (.invokevirtual 127, 3) := by decide +kernel
theorem dX2_move_103 : decode cX2_move 103 = .ok (.return_, 1) := by decide +kernel
set_option maxRecDepth 20000 in
theorem ggX2_follow_X5_size : GoodIn wsX2_follow wsX5_size := goodIn_r _ [9, 10, 82, 83] (by decide +kernel) (by decide +kernel)
set_option maxRecDepth 20000 in
theorem gX2_follow_X5_size : GoodIn wsX2_follow (wsV RX2 98 RX5 yX5_size wsX5_size) := goodIn_app (goodIn_of _ (by decide +kernel)) ggX2_follow_X5_size
set_option maxRecDepth 20000 in
theorem ggX2_follow_X5_item : GoodIn wsX2_follow wsX5_item := goodIn_r _ [14, 10, 15, 82, 83] (by decide +kernel) (by decide +kernel)
set_option maxRecDepth 20000 in
theorem gX2_follow_X5_item : GoodIn wsX2_follow (wsV RX2 101 RX5 yX5_item wsX5_item) := goodIn_app (goodIn_of _ (by decide +kernel)) ggX2_follow_X5_item
set_option maxRecDepth 20000 in
theorem ggX2_follow_X2_move : GoodIn wsX2_follow wsX2_move := goodIn_r _ [20, 21, 22, 23, 24, 25, 26, 27, 2, 28, 29, 19, 30, 31, 32, 33, 34, 35, 36, 37, 38, 39, 40, 41, 42, 43, 44, 45, 46, 47, 48, 49, 50, 51, 52, 53, 54, 8, 55, 10, 15, 56, 57, 58, 68, 69, 70, 71, 72, 73, 74, 75, 76, 77, 78, 79, 80, 81, 59, 60, 61, 62, 63, 64, 65, 66, 67, 84, 85, 86, 87, 88, 89, 90, 91, 82, 83] (by decide +kernel) (by decide +kernel)
set_option maxRecDepth 20000 in
theorem gX2_follow_X2_move : GoodIn wsX2_follow (wsV RX2 50 RX2 yX2_move wsX2_move) := goodIn_app (goodIn_of _ (by decide +kernel)) ggX2_follow_X2_move
theorem dX2_follow_0 : decode cX2_follow 0 = .ok (.aload_n 0, 1) := by decide +kernel
theorem dX2_follow_1 : decode cX2_follow 1 = .ok (.getfield 86, 3) := by decide +kernel
theorem dX2_follow_4 : decode cX2_follow 4 = .ok (.sipush 200, 3) := by decide +kernel
theorem dX2_follow_7 : decode cX2_follow 7 = .ok (.if_icmp .ge 85, 3) := by decide +kernel
theorem dX2_follow_10 : decode cX2_follow 10 = .ok (.aload_n 0, 1) := by decide +kernel
theorem dX2_follow_11 : decode cX2_follow 11 = .ok (.getfield 86, 3) := by decide +kernel
theorem dX2_follow_14 : decode cX2_follow 14 = .ok (.aload_n 0, 1) := by decide +kernel
theorem dX2_follow_15 : decode cX2_follow 15 = .ok (.getfield 18, 3) := by decide +kernel
theorem dX2_follow_18 : decode cX2_follow 18 = .ok (.invokevirtual 98, 3) := by decide +kernel
theorem dX2_follow_21 : decode cX2_follow 21 = .ok (.if_icmp .ge 71, 3) := by decide +kernel
theorem dX2_follow_24 : decode cX2_follow 24 = .ok (.aload_n 0, 1) := by decide +kernel
theorem dX2_follow_25 : decode cX2_follow 25 = .ok (.getfield 18, 3) := by decide +kernel
theorem dX2_follow_28 : decode cX2_follow 28 = .ok (.aload_n 0, 1) := by decide +kernel
theorem dX2_follow_29 : decode cX2_follow 29 = .ok (.getfield 86, 3) := by decide +kernel
theorem dX2_follow_32 : decode cX2_follow 32 = .ok (.invokevirtual 101, 3) := by decide +kernel
theorem dX2_follow_35 : decode cX2_follow 35 = .ok (.astore_n 1, 1) := by decide +kernel
theorem dX2_follow_36 : decode cX2_follow 36 = .ok (.aload_n 1, 1) := by decide +kernel
theorem dX2_follow_37 : decode cX2_follow 37 = .ok (.ifnull 42, 3) := by decide +kernel
theorem dX2_follow_40 : decode cX2_follow 40 = .ok (.aload_n 1, 1) := by decide +kernel
theorem dX2_follow_41 : decode cX2_follow 41 = .ok (.getfield 153, 3) := by decide +kernel
theorem dX2_follow_44 : decode cX2_follow 44 = .ok (.iconst 1, 1) := by decide +kernel
theorem dX2_follow_45 : decode cX2_follow 45 = .ok (.if_icmp .ne 7, 3) := by decide +kernel
theorem dX2_follow_48 : decode cX2_follow 48 = .ok (.iconst 1, 1) := by decide +kernel
theorem dX2_follow_49 : decode cX2_follow 49 = .ok (.goto 4, 3) := by decide +kernel
theorem dX2_follow_52 : decode cX2_follow 52 = .ok (.iconst 0, 1) := by decide +kernel
theorem dX2_follow_53 : decode cX2_follow 53 = .ok (.istore_n 2, 1) := by decide +kernel
theorem dX2_follow_54 : decode cX2_follow 54 = .ok (.iload_n 2, 1) := by decide +kernel
theorem dX2_follow_55 : decode cX2_follow 55 = .ok (.aload_n 1, 1) := by decide +kernel
theorem dX2_follow_56 : decode cX2_follow 56 = .ok (.getfield 156, 3) := by decide +kernel
theorem dX2_follow_59 : decode cX2_follow 59 = .ok (.arraylength, 1) := by decide +kernel
theorem dX2_follow_60 : decode cX2_follow 60 = .ok (.if_icmp .ge 19, 3) := by decide +kernel
theorem dX2_follow_63 : decode cX2_follow 63 = .ok (.aload_n 0, 1) := by decide +kernel
theorem dX2_follow_64 : decode cX2_follow 64 = .ok (.aload_n 1, 1) := by decide +kernel
theorem dX2_follow_65 : decode cX2_follow 65 = .ok (.getfield 156, 3) := by decide +kernel
theorem dX2_follow_68 : decode cX2_follow 68 = .ok (.iload_n 2, 1) := by decide +kernel
theorem dX2_follow_69 : decode cX2_follow 69 = .ok (.aaload, 1) := by decide +kernel
theorem dX2_follow_70 : decode cX2_follow 70 = .ok (.invokevirtual 50, 3) := by decide +kernel
theorem dX2_follow_73 : decode cX2_follow 73 = .ok (.iinc 2 1, 3) := by decide +kernel
theorem dX2_follow_76 : decode cX2_follow 76 = .ok (.goto (-22), 3) := by decide +kernel
theorem dX2_follow_79 : decode cX2_follow 79 = .ok (.aload_n 0, 1) := by decide +kernel
theorem dX2_follow_80 : decode cX2_follow 80 = .ok (.dup, 1) := by decide +kernel
theorem dX2_follow_81 : decode cX2_follow 81 = .ok (.getfield 86, 3) := by decide +kernel
theorem dX2_follow_84 : decode cX2_follow 84 = .ok (.iconst 1, 1) := by decide +kernel
theorem dX2_follow_85 : decode cX2_follow 85 = .ok (.iadd, 1) := by decide +kernel
theorem dX2_follow_86 : decode cX2_follow 86 = .ok (.putfield 86, 3) := by decide +kernel
theorem dX2_follow_89 : decode cX2_follow 89 = .ok (.goto (-89), 3) := by decide +kernel
theorem dX2_follow_92 : decode cX2_follow 92 = .ok (.return_, 1) := by decide +kernel
set_option maxRecDepth 20000 in
theorem ggX2_dropReferents_X5_size : GoodIn wsX2_dropReferents wsX5_size := goodIn_r _ [7, 8, 53, 54] (by decide +kernel) (by decide +kernel)
set_option maxRecDepth 20000 in
theorem gX2_dropReferents_X5_size : GoodIn wsX2_dropReferents (wsV RX2 98 RX5 yX5_size wsX5_size) := goodIn_app (goodIn_of _ (by decide +kernel)) ggX2_dropReferents_X5_size
set_option maxRecDepth 20000 in
theorem ggX2_dropReferents_X5_item : GoodIn wsX2_dropReferents wsX5_item := goodIn_r _ [12, 8, 13, 53, 54] (by decide +kernel) (by decide +kernel)
set_option maxRecDepth 20000 in
theorem gX2_dropReferents_X5_item : GoodIn wsX2_dropReferents (wsV RX2 101 RX5 yX5_item wsX5_item) := goodIn_app (goodIn_of _ (by decide +kernel)) ggX2_dropReferents_X5_item
set_option maxRecDepth 20000 in
theorem ggX2_dropReferents_X2_isLeft : GoodIn wsX2_dropReferents wsX2_isLeft := goodIn_r _ [17, 18, 19, 39, 40, 41, 42, 43, 44, 45, 46, 47, 48, 49, 50, 51, 52] (by decide +kernel) (by decide +kernel)
set_option maxRecDepth 20000 in
theorem gX2_dropReferents_X2_isLeft : GoodIn wsX2_dropReferents (va_wsS RX2 133 yX2_isLeft wsX2_isLeft) := goodIn_app (goodIn_of _ (by decide +kernel)) ggX2_dropReferents_X2_isLeft
set_option maxRecDepth 20000 in
theorem ggX2_dropReferents_X7_read : GoodIn wsX2_dropReferents wsX7_read := goodIn_r _ [24, 25, 39, 40, 41, 42, 43, 44, 45, 46, 47, 48, 49, 50, 51, 52] (by decide +kernel) (by decide +kernel)
set_option maxRecDepth 20000 in
theorem gX2_dropReferents_X7_read : GoodIn wsX2_dropReferents (wsV RX2 160 RX7 yX7_read wsX7_read) := goodIn_app (goodIn_of _ (by decide +kernel)) ggX2_dropReferents_X7_read
set_option maxRecDepth 20000 in
theorem ggX2_dropReferents_X7_write : GoodIn wsX2_dropReferents wsX7_write := goodIn_r _ [29, 25, 39, 40, 41, 42, 43, 44, 45, 46, 47, 48, 49, 50, 51, 52] (by decide +kernel) (by decide +kernel)
set_option maxRecDepth 20000 in
theorem gX2_dropReferents_X7_write : GoodIn wsX2_dropReferents (wsV RX2 163 RX7 yX7_write wsX7_write) := goodIn_app (goodIn_of _ (by decide +kernel)) ggX2_dropReferents_X7_write
theorem dX2_dropReferents_0 : decode cX2_dropReferents 0 = .ok (.iconst 0, 1) := by decide +kernel
theorem dX2_dropReferents_1 : decode cX2_dropReferents 1 = .ok (.istore_n 1, 1) := by decide +kernel
theorem dX2_dropReferents_2 : decode cX2_dropReferents 2 = .ok (.iload_n 1, 1) := by decide +kernel
theorem dX2_dropReferents_3 : decode cX2_dropReferents 3 = .ok (.aload_n 0, 1) := by decide +kernel
theorem dX2_dropReferents_4 : decode cX2_dropReferents 4 = .ok (.getfield 22, 3) := by decide +kernel
theorem dX2_dropReferents_7 : decode cX2_dropReferents 7 = .ok (.invokevirtual 98, 3) := by decide +kernel
theorem dX2_dropReferents_10 : decode cX2_dropReferents 10 = .ok (.if_icmp .ge 54, 3) := by decide +kernel
theorem dX2_dropReferents_13 : decode cX2_dropReferents 13 = .ok (.aload_n 0, 1) := by decide +kernel
theorem dX2_dropReferents_14 : decode cX2_dropReferents 14 = .ok (.getfield 22, 3) := by decide +kernel
theorem dX2_dropReferents_17 : decode cX2_dropReferents 17 = .ok (.iload_n 1, 1) := by decide +kernel
theorem dX2_dropReferents_18 : decode cX2_dropReferents 18 = .ok (.invokevirtual 101, 3) := by decide +kernel
theorem dX2_dropReferents_21 : decode cX2_dropReferents 21 = .ok (.astore_n 2, 1) := by decide +kernel
theorem dX2_dropReferents_22 : decode cX2_dropReferents 22 = .ok (.aload_n 2, 1) := by decide +kernel
theorem dX2_dropReferents_23 : decode cX2_dropReferents 23 = .ok (.ifnull 35, 3) := by decide +kernel
theorem dX2_dropReferents_26 : decode cX2_dropReferents 26 = .ok (.aload_n 2, 1) := by decide +kernel
theorem dX2_dropReferents_27 : decode cX2_dropReferents 27 = .ok (.getfield 153, 3) := by decide +kernel
theorem dX2_dropReferents_30 : decode cX2_dropReferents 30 = .ok (.iconst 1, 1) := by decide +kernel
theorem dX2_dropReferents_31 : decode cX2_dropReferents 31 = .ok (.if_icmp .ne 27, 3) := by decide +kernel
theorem dX2_dropReferents_34 : decode cX2_dropReferents 34 = .ok (.aload_n 2, 1) := by decide +kernel
theorem dX2_dropReferents_35 : decode cX2_dropReferents 35 = .ok (.invokestatic 133, 3) := by decide +kernel
theorem dX2_dropReferents_38 : decode cX2_dropReferents 38 = .ok (.ifCond .ne 20, 3) := by decide +kernel
theorem dX2_dropReferents_41 : decode cX2_dropReferents 41 = .ok (.aload_n 2, 1) := by decide +kernel
theorem dX2_dropReferents_42 : decode cX2_dropReferents 42 = .ok (.iconst 0, 1) := by decide +kernel
theorem dX2_dropReferents_43 : decode cX2_dropReferents 43 = .ok (.invokevirtual 160, 3) := by decide +kernel
theorem dX2_dropReferents_46 : decode cX2_dropReferents 46 = .ok (.invokestatic 133, 3) := by decide +kernel
theorem dX2_dropReferents_49 : decode cX2_dropReferents 49 = .ok (.ifCond .eq 9, 3) := by decide +kernel
theorem dX2_dropReferents_52 : decode cX2_dropReferents 52 = .ok (.aload_n 2, 1) := by decide +kernel
theorem dX2_dropReferents_53 : decode cX2_dropReferents 53 = .ok (.iconst 0, 1) := by decide +kernel
theorem dX2_dropReferents_54 : decode cX2_dropReferents 54 = .ok (.aconst_null, 1) := by decide +kernel
theorem dX2_dropReferents_55 : decode cX2_dropReferents 55 = .ok (.invokevirtual 163, 3) := by decide +kernel
theorem dX2_dropReferents_58 : decode cX2_dropReferents 58 = .ok (.iinc 1 1, 3) := by decide +kernel
theorem dX2_dropReferents_61 : decode cX2_dropReferents 61 = .ok (.goto (-59), 3) := by decide +kernel
theorem dX2_dropReferents_64 : decode cX2_dropReferents 64 = .ok (.return_, 1) := by decide +kernel
set_option maxRecDepth 20000 in
theorem ggX2_raiseFinals_X5_size : GoodIn wsX2_raiseFinals wsX5_size := goodIn_r _ [9, 10, 87, 88] (by decide +kernel) (by decide +kernel)
set_option maxRecDepth 20000 in
theorem gX2_raiseFinals_X5_size : GoodIn wsX2_raiseFinals (wsV RX2 98 RX5 yX5_size wsX5_size) := goodIn_app (goodIn_of _ (by decide +kernel)) ggX2_raiseFinals_X5_size
set_option maxRecDepth 20000 in
theorem ggX2_raiseFinals_X5_item : GoodIn wsX2_raiseFinals wsX5_item := goodIn_r _ [14, 10, 15, 87, 88] (by decide +kernel) (by decide +kernel)
set_option maxRecDepth 20000 in
theorem gX2_raiseFinals_X5_item : GoodIn wsX2_raiseFinals (wsV RX2 101 RX5 yX5_item wsX5_item) := goodIn_app (goodIn_of _ (by decide +kernel)) ggX2_raiseFinals_X5_item
set_option maxRecDepth 20000 in
theorem ggX2_raiseFinals_X2_isLeft : GoodIn wsX2_raiseFinals wsX2_isLeft := goodIn_r _ [19, 20, 21, 69, 70, 71, 72, 73, 74, 75, 76, 77, 78, 79, 80, 81, 82] (by decide +kernel) (by decide +kernel)
set_option maxRecDepth 20000 in
theorem gX2_raiseFinals_X2_isLeft : GoodIn wsX2_raiseFinals (va_wsS RX2 133 yX2_isLeft wsX2_isLeft) := goodIn_app (goodIn_of _ (by decide +kernel)) ggX2_raiseFinals_X2_isLeft
set_option maxRecDepth 20000 in
theorem ggX2_raiseFinals_X5_add : GoodIn wsX2_raiseFinals wsX5_add := goodIn_r _ [25, 10, 15, 87, 88] (by decide +kernel) (by decide +kernel)
set_option maxRecDepth 20000 in
theorem gX2_raiseFinals_X5_add : GoodIn wsX2_raiseFinals (wsV RX2 127 RX5 yX5_add wsX5_add) := goodIn_app (goodIn_of _ (by decide +kernel)) ggX2_raiseFinals_X5_add
set_option maxRecDepth 20000 in
theorem ggX2_raiseFinals_X2_move : GoodIn wsX2_raiseFinals wsX2_move := goodIn_r _ [29, 21, 30, 31, 32, 33, 34, 35, 36, 16, 17, 18, 19, 20, 37, 38, 39, 40, 41, 42, 43, 44, 45, 46, 47, 48, 49, 50, 51, 52, 53, 54, 55, 56, 57, 23, 24, 8, 25, 10, 15, 58, 59, 22, 69, 70, 71, 72, 73, 74, 75, 76, 77, 78, 79, 80, 81, 82, 60, 61, 62, 63, 64, 65, 66, 67, 68, 89, 90, 91, 92, 93, 94, 95, 96, 87, 88] (by decide +kernel) (by decide +kernel)
set_option maxRecDepth 20000 in
theorem gX2_raiseFinals_X2_move : GoodIn wsX2_raiseFinals (wsV RX2 50 RX2 yX2_move wsX2_move) := goodIn_app (goodIn_of _ (by decide +kernel)) ggX2_raiseFinals_X2_move
theorem dX2_raiseFinals_0 : decode cX2_raiseFinals 0 = .ok (.iconst 0, 1) := by decide +kernel
theorem dX2_raiseFinals_1 : decode cX2_raiseFinals 1 = .ok (.istore_n 1, 1) := by decide +kernel
theorem dX2_raiseFinals_2 : decode cX2_raiseFinals 2 = .ok (.iload_n 1, 1) := by decide +kernel
theorem dX2_raiseFinals_3 : decode cX2_raiseFinals 3 = .ok (.aload_n 0, 1) := by decide +kernel
theorem dX2_raiseFinals_4 : decode cX2_raiseFinals 4 = .ok (.getfield 22, 3) := by decide +kernel
theorem dX2_raiseFinals_7 : decode cX2_raiseFinals 7 = .ok (.invokevirtual 98, 3) := by decide +kernel
theorem dX2_raiseFinals_10 : decode cX2_raiseFinals 10 = .ok (.if_icmp .ge 58, 3) := by decide +kernel
theorem dX2_raiseFinals_13 : decode cX2_raiseFinals 13 = .ok (.aload_n 0, 1) := by decide +kernel
theorem dX2_raiseFinals_14 : decode cX2_raiseFinals 14 = .ok (.getfield 22, 3) := by decide +kernel
theorem dX2_raiseFinals_17 : decode cX2_raiseFinals 17 = .ok (.iload_n 1, 1) := by decide +kernel
theorem dX2_raiseFinals_18 : decode cX2_raiseFinals 18 = .ok (.invokevirtual 101, 3) := by decide +kernel
theorem dX2_raiseFinals_21 : decode cX2_raiseFinals 21 = .ok (.astore_n 2, 1) := by decide +kernel
theorem dX2_raiseFinals_22 : decode cX2_raiseFinals 22 = .ok (.aload_n 2, 1) := by decide +kernel
theorem dX2_raiseFinals_23 : decode cX2_raiseFinals 23 = .ok (.ifnull 39, 3) := by decide +kernel
theorem dX2_raiseFinals_26 : decode cX2_raiseFinals 26 = .ok (.aload_n 2, 1) := by decide +kernel
theorem dX2_raiseFinals_27 : decode cX2_raiseFinals 27 = .ok (.getfield 153, 3) := by decide +kernel
theorem dX2_raiseFinals_30 : decode cX2_raiseFinals 30 = .ok (.iconst 4, 1) := by decide +kernel
theorem dX2_raiseFinals_31 : decode cX2_raiseFinals 31 = .ok (.if_icmp .ne 31, 3) := by decide +kernel
theorem dX2_raiseFinals_34 : decode cX2_raiseFinals 34 = .ok (.aload_n 2, 1) := by decide +kernel
theorem dX2_raiseFinals_35 : decode cX2_raiseFinals 35 = .ok (.invokestatic 133, 3) := by decide +kernel
theorem dX2_raiseFinals_38 : decode cX2_raiseFinals 38 = .ok (.ifCond .eq 24, 3) := by decide +kernel
theorem dX2_raiseFinals_41 : decode cX2_raiseFinals 41 = .ok (.aload_n 2, 1) := by decide +kernel
theorem dX2_raiseFinals_42 : decode cX2_raiseFinals 42 = .ok (.iconst 0, 1) := by decide +kernel
theorem dX2_raiseFinals_43 : decode cX2_raiseFinals 43 = .ok (.putfield 153, 3) := by decide +kernel
theorem dX2_raiseFinals_46 : decode cX2_raiseFinals 46 = .ok (.aload_n 0, 1) := by decide +kernel
theorem dX2_raiseFinals_47 : decode cX2_raiseFinals 47 = .ok (.getfield 25, 3) := by decide +kernel
theorem dX2_raiseFinals_50 : decode cX2_raiseFinals 50 = .ok (.getfield 167, 3) := by decide +kernel
theorem dX2_raiseFinals_53 : decode cX2_raiseFinals 53 = .ok (.aload_n 2, 1) := by decide +kernel
theorem dX2_raiseFinals_54 : decode cX2_raiseFinals 54 = .ok (.invokevirtual 127, 3) := by decide +kernel
theorem dX2_raiseFinals_57 : decode cX2_raiseFinals 57 = .ok (.aload_n 0, 1) := by decide +kernel
theorem dX2_raiseFinals_58 : decode cX2_raiseFinals 58 = .ok (.aload_n 2, 1) := by decide +kernel
theorem dX2_raiseFinals_59 : decode cX2_raiseFinals 59 = .ok (.invokevirtual 50, 3) := by decide +kernel
theorem dX2_raiseFinals_62 : decode cX2_raiseFinals 62 = .ok (.iinc 1 1, 3) := by decide +kernel
theorem dX2_raiseFinals_65 : decode cX2_raiseFinals 65 = .ok (.goto (-63), 3) := by decide +kernel
theorem dX2_raiseFinals_68 : decode cX2_raiseFinals 68 = .ok (.return_, 1) := by decide +kernel
set_option maxRecDepth 20000 in
theorem ggX2_leaveHalf_X5_size : GoodIn wsX2_leaveHalf wsX5_size := goodIn_r _ [13, 14, 72, 73] (by decide +kernel) (by decide +kernel)
set_option maxRecDepth 20000 in
theorem gX2_leaveHalf_X5_size : GoodIn wsX2_leaveHalf (wsV RX2 98 RX5 yX5_size wsX5_size) := goodIn_app (goodIn_of _ (by decide +kernel)) ggX2_leaveHalf_X5_size
set_option maxRecDepth 20000 in
theorem ggX2_leaveHalf_X5_item : GoodIn wsX2_leaveHalf wsX5_item := goodIn_r _ [18, 14, 19, 72, 73] (by decide +kernel) (by decide +kernel)
set_option maxRecDepth 20000 in
theorem gX2_leaveHalf_X5_item : GoodIn wsX2_leaveHalf (wsV RX2 101 RX5 yX5_item wsX5_item) := goodIn_app (goodIn_of _ (by decide +kernel)) ggX2_leaveHalf_X5_item
set_option maxRecDepth 20000 in
theorem ggX2_leaveHalf_X2_isLeft : GoodIn wsX2_leaveHalf wsX2_isLeft := goodIn_r _ [23, 4, 24, 58, 59, 60, 61, 62, 63, 64, 65, 66, 67, 68, 69, 70, 71] (by decide +kernel) (by decide +kernel)
set_option maxRecDepth 20000 in
theorem gX2_leaveHalf_X2_isLeft : GoodIn wsX2_leaveHalf (va_wsS RX2 133 yX2_isLeft wsX2_isLeft) := goodIn_app (goodIn_of _ (by decide +kernel)) ggX2_leaveHalf_X2_isLeft
set_option maxRecDepth 20000 in
theorem ggX2_leaveHalf_X7_vanish : GoodIn wsX2_leaveHalf wsX7_vanish := goodIn_r _ [29, 30, 31, 32, 58, 59, 60, 61, 62, 63, 64, 65, 66, 67, 68, 69, 70, 71] (by decide +kernel) (by decide +kernel)
set_option maxRecDepth 20000 in
theorem gX2_leaveHalf_X7_vanish : GoodIn wsX2_leaveHalf (wsV RX2 173 RX7 yX7_vanish wsX7_vanish) := goodIn_app (goodIn_of _ (by decide +kernel)) ggX2_leaveHalf_X7_vanish
set_option maxRecDepth 20000 in
theorem ggX2_leaveHalf_X5_clear : GoodIn wsX2_leaveHalf wsX5_clear := goodIn_r _ [36, 14, 72, 73] (by decide +kernel) (by decide +kernel)
set_option maxRecDepth 20000 in
theorem gX2_leaveHalf_X5_clear : GoodIn wsX2_leaveHalf (wsV RX2 83 RX5 yX5_clear wsX5_clear) := goodIn_app (goodIn_of _ (by decide +kernel)) ggX2_leaveHalf_X5_clear
set_option maxRecDepth 20000 in
theorem ggX2_leaveHalf_X5_add : GoodIn wsX2_leaveHalf wsX5_add := goodIn_r _ [40, 14, 19, 72, 73] (by decide +kernel) (by decide +kernel)
set_option maxRecDepth 20000 in
theorem gX2_leaveHalf_X5_add : GoodIn wsX2_leaveHalf (wsV RX2 127 RX5 yX5_add wsX5_add) := goodIn_app (goodIn_of _ (by decide +kernel)) ggX2_leaveHalf_X5_add
theorem dX2_leaveHalf_0 : decode cX2_leaveHalf 0 = .ok (.iconst 0, 1) := by decide +kernel
theorem dX2_leaveHalf_1 : decode cX2_leaveHalf 1 = .ok (.istore_n 1, 1) := by decide +kernel
theorem dX2_leaveHalf_2 : decode cX2_leaveHalf 2 = .ok (.iconst 0, 1) := by decide +kernel
theorem dX2_leaveHalf_3 : decode cX2_leaveHalf 3 = .ok (.istore_n 2, 1) := by decide +kernel
theorem dX2_leaveHalf_4 : decode cX2_leaveHalf 4 = .ok (.iload_n 2, 1) := by decide +kernel
theorem dX2_leaveHalf_5 : decode cX2_leaveHalf 5 = .ok (.aload_n 0, 1) := by decide +kernel
theorem dX2_leaveHalf_6 : decode cX2_leaveHalf 6 = .ok (.getfield 29, 3) := by decide +kernel
theorem dX2_leaveHalf_9 : decode cX2_leaveHalf 9 = .ok (.getfield 170, 3) := by decide +kernel
theorem dX2_leaveHalf_12 : decode cX2_leaveHalf 12 = .ok (.invokevirtual 98, 3) := by decide +kernel
theorem dX2_leaveHalf_15 : decode cX2_leaveHalf 15 = .ok (.if_icmp .ge 39, 3) := by decide +kernel
theorem dX2_leaveHalf_18 : decode cX2_leaveHalf 18 = .ok (.aload_n 0, 1) := by decide +kernel
theorem dX2_leaveHalf_19 : decode cX2_leaveHalf 19 = .ok (.getfield 29, 3) := by decide +kernel
theorem dX2_leaveHalf_22 : decode cX2_leaveHalf 22 = .ok (.getfield 170, 3) := by decide +kernel
theorem dX2_leaveHalf_25 : decode cX2_leaveHalf 25 = .ok (.iload_n 2, 1) := by decide +kernel
theorem dX2_leaveHalf_26 : decode cX2_leaveHalf 26 = .ok (.invokevirtual 101, 3) := by decide +kernel
theorem dX2_leaveHalf_29 : decode cX2_leaveHalf 29 = .ok (.astore_n 3, 1) := by decide +kernel
theorem dX2_leaveHalf_30 : decode cX2_leaveHalf 30 = .ok (.aload_n 3, 1) := by decide +kernel
theorem dX2_leaveHalf_31 : decode cX2_leaveHalf 31 = .ok (.ifnull 17, 3) := by decide +kernel
theorem dX2_leaveHalf_34 : decode cX2_leaveHalf 34 = .ok (.aload_n 3, 1) := by decide +kernel
theorem dX2_leaveHalf_35 : decode cX2_leaveHalf 35 = .ok (.invokestatic 133, 3) := by decide +kernel
theorem dX2_leaveHalf_38 : decode cX2_leaveHalf 38 = .ok (.ifCond .eq 10, 3) := by decide +kernel
theorem dX2_leaveHalf_41 : decode cX2_leaveHalf 41 = .ok (.aload_n 3, 1) := by decide +kernel
theorem dX2_leaveHalf_42 : decode cX2_leaveHalf 42 = .ok (.invokevirtual 173, 3) := by decide +kernel
theorem dX2_leaveHalf_45 : decode cX2_leaveHalf 45 = .ok (.iinc 1 1, 3) := by decide +kernel
theorem dX2_leaveHalf_48 : decode cX2_leaveHalf 48 = .ok (.iinc 2 1, 3) := by decide +kernel
theorem dX2_leaveHalf_51 : decode cX2_leaveHalf 51 = .ok (.goto (-47), 3) := by decide +kernel
theorem dX2_leaveHalf_54 : decode cX2_leaveHalf 54 = .ok (.aload_n 0, 1) := by decide +kernel
theorem dX2_leaveHalf_55 : decode cX2_leaveHalf 55 = .ok (.getfield 29, 3) := by decide +kernel
theorem dX2_leaveHalf_58 : decode cX2_leaveHalf 58 = .ok (.getfield 170, 3) := by decide +kernel
theorem dX2_leaveHalf_61 : decode cX2_leaveHalf 61 = .ok (.invokevirtual 83, 3) := by decide +kernel
theorem dX2_leaveHalf_64 : decode cX2_leaveHalf 64 = .ok (.iconst 0, 1) := by decide +kernel
theorem dX2_leaveHalf_65 : decode cX2_leaveHalf 65 = .ok (.istore_n 2, 1) := by decide +kernel
theorem dX2_leaveHalf_66 : decode cX2_leaveHalf 66 = .ok (.iload_n 2, 1) := by decide +kernel
theorem dX2_leaveHalf_67 : decode cX2_leaveHalf 67 = .ok (.aload_n 0, 1) := by decide +kernel
theorem dX2_leaveHalf_68 : decode cX2_leaveHalf 68 = .ok (.getfield 18, 3) := by decide +kernel
theorem dX2_leaveHalf_71 : decode cX2_leaveHalf 71 = .ok (.invokevirtual 98, 3) := by decide +kernel
theorem dX2_leaveHalf_74 : decode cX2_leaveHalf 74 = .ok (.if_icmp .ge 41, 3) := by decide +kernel
theorem dX2_leaveHalf_77 : decode cX2_leaveHalf 77 = .ok (.aload_n 0, 1) := by decide +kernel
theorem dX2_leaveHalf_78 : decode cX2_leaveHalf 78 = .ok (.getfield 18, 3) := by decide +kernel
theorem dX2_leaveHalf_81 : decode cX2_leaveHalf 81 = .ok (.iload_n 2, 1) := by decide +kernel
theorem dX2_leaveHalf_82 : decode cX2_leaveHalf 82 = .ok (.invokevirtual 101, 3) := by decide +kernel
theorem dX2_leaveHalf_85 : decode cX2_leaveHalf 85 = .ok (.astore_n 3, 1) := by decide +kernel
theorem dX2_leaveHalf_86 : decode cX2_leaveHalf 86 = .ok (.aload_n 3, 1) := by decide +kernel
theorem dX2_leaveHalf_87 : decode cX2_leaveHalf 87 = .ok (.ifnull 22, 3) := by decide +kernel
theorem dX2_leaveHalf_90 : decode cX2_leaveHalf 90 = .ok (.aload_n 3, 1) := by decide +kernel
theorem dX2_leaveHalf_91 : decode cX2_leaveHalf 91 = .ok (.getfield 130, 3) := by decide +kernel
theorem dX2_leaveHalf_94 : decode cX2_leaveHalf 94 = .ok (.iconst 1, 1) := by decide +kernel
theorem dX2_leaveHalf_95 : decode cX2_leaveHalf 95 = .ok (.if_icmp .ne 14, 3) := by decide +kernel
theorem dX2_leaveHalf_98 : decode cX2_leaveHalf 98 = .ok (.aload_n 0, 1) := by decide +kernel
theorem dX2_leaveHalf_99 : decode cX2_leaveHalf 99 = .ok (.getfield 29, 3) := by decide +kernel
theorem dX2_leaveHalf_102 : decode cX2_leaveHalf 102 = .ok (.getfield 170, 3) := by decide +kernel
theorem dX2_leaveHalf_105 : decode cX2_leaveHalf 105 = .ok (.aload_n 3, 1) := by decide +kernel
theorem dX2_leaveHalf_106 : decode cX2_leaveHalf 106 = .ok (.invokevirtual 127, 3) := by decide +kernel
theorem dX2_leaveHalf_109 : decode cX2_leaveHalf 109 = .ok (.iinc 2 1, 3) := by decide +kernel
theorem dX2_leaveHalf_112 : decode cX2_leaveHalf 112 = .ok (.goto (-46), 3) := by decide +kernel
theorem dX2_leaveHalf_115 : decode cX2_leaveHalf 115 = .ok (.aload_n 0, 1) := by decide +kernel
theorem dX2_leaveHalf_116 : decode cX2_leaveHalf 116 = .ok (.getfield 29, 3) := by decide +kernel
theorem dX2_leaveHalf_119 : decode cX2_leaveHalf 119 = .ok (.aload_n 0, 1) := by decide +kernel
theorem dX2_leaveHalf_120 : decode cX2_leaveHalf 120 = .ok (.getfield 92, 3) := by decide +kernel
theorem dX2_leaveHalf_123 : decode cX2_leaveHalf 123 = .ok (.putfield 89, 3) := by decide +kernel
theorem dX2_leaveHalf_126 : decode cX2_leaveHalf 126 = .ok (.aload_n 0, 1) := by decide +kernel
theorem dX2_leaveHalf_127 : decode cX2_leaveHalf 127 = .ok (.getfield 29, 3) := by decide +kernel
theorem dX2_leaveHalf_130 : decode cX2_leaveHalf 130 = .ok (.aload_n 0, 1) := by decide +kernel
theorem dX2_leaveHalf_131 : decode cX2_leaveHalf 131 = .ok (.getfield 95, 3) := by decide +kernel
theorem dX2_leaveHalf_134 : decode cX2_leaveHalf 134 = .ok (.putfield 176, 3) := by decide +kernel
theorem dX2_leaveHalf_137 : decode cX2_leaveHalf 137 = .ok (.iload_n 1, 1) := by decide +kernel
theorem dX2_leaveHalf_138 : decode cX2_leaveHalf 138 = .ok (.ireturn, 1) := by decide +kernel
set_option maxRecDepth 20000 in
theorem ggX3_init_X5_init : GoodIn wsX3_init wsX5_init := goodIn_r _ [15, 16, 2, 3, 17, 18, 19, 20] (by decide +kernel) (by decide +kernel)
set_option maxRecDepth 20000 in
theorem gX3_init_X5_init_n11 : GoodIn wsX3_init (wsX5_init) := ggX3_init_X5_init
theorem dX3_init_0 : decode cX3_init 0 = .ok (.aload_n 0, 1) := by decide +kernel
theorem dX3_init_1 : decode cX3_init 1 = .ok (.invokespecial 3, 3) := by decide +kernel
theorem dX3_init_4 : decode cX3_init 4 = .ok (.aload_n 0, 1) := by decide +kernel
theorem dX3_init_5 : decode cX3_init 5 = .ok (.new 9, 3) := by decide +kernel
theorem dX3_init_8 : decode cX3_init 8 = .ok (.dup, 1) := by decide +kernel
theorem dX3_init_9 : decode cX3_init 9 = .ok (.invokespecial 11, 3) := by decide +kernel
theorem dX3_init_12 : decode cX3_init 12 = .ok (.putfield 12, 3) := by decide +kernel
theorem dX3_init_15 : decode cX3_init 15 = .ok (.aload_n 0, 1) := by decide +kernel
theorem dX3_init_16 : decode cX3_init 16 = .ok (.new 9, 3) := by decide +kernel
theorem dX3_init_19 : decode cX3_init 19 = .ok (.dup, 1) := by decide +kernel
theorem dX3_init_20 : decode cX3_init 20 = .ok (.invokespecial 11, 3) := by decide +kernel
theorem dX3_init_23 : decode cX3_init 23 = .ok (.putfield 18, 3) := by decide +kernel
theorem dX3_init_26 : decode cX3_init 26 = .ok (.aload_n 0, 1) := by decide +kernel
theorem dX3_init_27 : decode cX3_init 27 = .ok (.new 9, 3) := by decide +kernel
theorem dX3_init_30 : decode cX3_init 30 = .ok (.dup, 1) := by decide +kernel
theorem dX3_init_31 : decode cX3_init 31 = .ok (.invokespecial 11, 3) := by decide +kernel
theorem dX3_init_34 : decode cX3_init 34 = .ok (.putfield 21, 3) := by decide +kernel
theorem dX3_init_37 : decode cX3_init 37 = .ok (.aload_n 0, 1) := by decide +kernel
theorem dX3_init_38 : decode cX3_init 38 = .ok (.bipush 100, 2) := by decide +kernel
theorem dX3_init_40 : decode cX3_init 40 = .ok (.putfield 24, 3) := by decide +kernel
theorem dX3_init_43 : decode cX3_init 43 = .ok (.aload_n 0, 1) := by decide +kernel
theorem dX3_init_44 : decode cX3_init 44 = .ok (.bipush 60, 2) := by decide +kernel
theorem dX3_init_46 : decode cX3_init 46 = .ok (.putfield 28, 3) := by decide +kernel
theorem dX3_init_49 : decode cX3_init 49 = .ok (.aload_n 0, 1) := by decide +kernel
theorem dX3_init_50 : decode cX3_init 50 = .ok (.bipush 20, 2) := by decide +kernel
theorem dX3_init_52 : decode cX3_init 52 = .ok (.newarray .boolean, 2) := by decide +kernel
theorem dX3_init_54 : decode cX3_init 54 = .ok (.putfield 31, 3) := by decide +kernel
theorem dX3_init_57 : decode cX3_init 57 = .ok (.return_, 1) := by decide +kernel
set_option maxRecDepth 20000 in
theorem ggX3_things_X5_size : GoodIn wsX3_things wsX5_size := goodIn_r _ [8, 9, 18, 19] (by decide +kernel) (by decide +kernel)
set_option maxRecDepth 20000 in
theorem gX3_things_X5_size : GoodIn wsX3_things (wsV RX3 35 RX5 yX5_size wsX5_size) := goodIn_app (goodIn_of _ (by decide +kernel)) ggX3_things_X5_size
theorem dX3_things_0 : decode cX3_things 0 = .ok (.aload_n 0, 1) := by decide +kernel
theorem dX3_things_1 : decode cX3_things 1 = .ok (.getfield 12, 3) := by decide +kernel
theorem dX3_things_4 : decode cX3_things 4 = .ok (.invokevirtual 35, 3) := by decide +kernel
theorem dX3_things_7 : decode cX3_things 7 = .ok (.aload_n 0, 1) := by decide +kernel
theorem dX3_things_8 : decode cX3_things 8 = .ok (.getfield 18, 3) := by decide +kernel
theorem dX3_things_11 : decode cX3_things 11 = .ok (.invokevirtual 35, 3) := by decide +kernel
theorem dX3_things_14 : decode cX3_things 14 = .ok (.iadd, 1) := by decide +kernel
theorem dX3_things_15 : decode cX3_things 15 = .ok (.aload_n 0, 1) := by decide +kernel
theorem dX3_things_16 : decode cX3_things 16 = .ok (.getfield 21, 3) := by decide +kernel
theorem dX3_things_19 : decode cX3_things 19 = .ok (.invokevirtual 35, 3) := by decide +kernel
theorem dX3_things_22 : decode cX3_things 22 = .ok (.iadd, 1) := by decide +kernel
theorem dX3_things_23 : decode cX3_things 23 = .ok (.ireturn, 1) := by decide +kernel
set_option maxRecDepth 20000 in
theorem ggX3_words_X5_words : GoodIn wsX3_words wsX5_words := goodIn_r _ [8, 9, 10, 11, 20, 21, 22, 23, 24, 25, 26, 27, 28, 29, 30, 31, 32, 33, 34, 35] (by decide +kernel) (by decide +kernel)
set_option maxRecDepth 20000 in
theorem gX3_words_X5_words : GoodIn wsX3_words (wsV RX3 39 RX5 yX5_words wsX5_words) := goodIn_app (goodIn_of _ (by decide +kernel)) ggX3_words_X5_words
theorem dX3_words_0 : decode cX3_words 0 = .ok (.aload_n 0, 1) := by decide +kernel
theorem dX3_words_1 : decode cX3_words 1 = .ok (.getfield 12, 3) := by decide +kernel
theorem dX3_words_4 : decode cX3_words 4 = .ok (.invokevirtual 39, 3) := by decide +kernel
theorem dX3_words_7 : decode cX3_words 7 = .ok (.aload_n 0, 1) := by decide +kernel
theorem dX3_words_8 : decode cX3_words 8 = .ok (.getfield 18, 3) := by decide +kernel
theorem dX3_words_11 : decode cX3_words 11 = .ok (.invokevirtual 39, 3) := by decide +kernel
theorem dX3_words_14 : decode cX3_words 14 = .ok (.iadd, 1) := by decide +kernel
theorem dX3_words_15 : decode cX3_words 15 = .ok (.aload_n 0, 1) := by decide +kernel
theorem dX3_words_16 : decode cX3_words 16 = .ok (.getfield 21, 3) := by decide +kernel
theorem dX3_words_19 : decode cX3_words 19 = .ok (.invokevirtual 39, 3) := by decide +kernel
theorem dX3_words_22 : decode cX3_words 22 = .ok (.iadd, 1) := by decide +kernel
theorem dX3_words_23 : decode cX3_words 23 = .ok (.ireturn, 1) := by decide +kernel
set_option maxRecDepth 20000 in
theorem ggX3_gapFor_X3_largeGapFor : GoodIn wsX3_gapFor wsX3_largeGapFor := goodIn_r _ [7, 8, 9, 10, 11, 12, 13, 14, 15, 16, 17, 18, 19, 20, 21, 22, 23, 24, 25, 26, 27, 28, 29, 30, 31, 32, 33, 34, 35, 36, 37, 38, 39, 40, 41, 42, 43, 44, 45, 46, 47, 48, 49, 50, 51] (by decide +kernel) (by decide +kernel)
set_option maxRecDepth 20000 in
theorem gX3_gapFor_X3_largeGapFor : GoodIn wsX3_gapFor (wsV RX3 42 RX3 yX3_largeGapFor wsX3_largeGapFor) := goodIn_app (goodIn_of _ (by decide +kernel)) ggX3_gapFor_X3_largeGapFor
theorem dX3_gapFor_0 : decode cX3_gapFor 0 = .ok (.iconst 2, 1) := by decide +kernel
theorem dX3_gapFor_1 : decode cX3_gapFor 1 = .ok (.iload_n 1, 1) := by decide +kernel
theorem dX3_gapFor_2 : decode cX3_gapFor 2 = .ok (.iadd, 1) := by decide +kernel
theorem dX3_gapFor_3 : decode cX3_gapFor 3 = .ok (.istore_n 2, 1) := by decide +kernel
theorem dX3_gapFor_4 : decode cX3_gapFor 4 = .ok (.iload_n 1, 1) := by decide +kernel
theorem dX3_gapFor_5 : decode cX3_gapFor 5 = .ok (.bipush 12, 2) := by decide +kernel
theorem dX3_gapFor_7 : decode cX3_gapFor 7 = .ok (.if_icmp .lt 9, 3) := by decide +kernel
theorem dX3_gapFor_10 : decode cX3_gapFor 10 = .ok (.aload_n 0, 1) := by decide +kernel
theorem dX3_gapFor_11 : decode cX3_gapFor 11 = .ok (.iload_n 2, 1) := by decide +kernel
theorem dX3_gapFor_12 : decode cX3_gapFor 12 = .ok (.invokevirtual 42, 3) := by decide +kernel
theorem dX3_gapFor_15 : decode cX3_gapFor 15 = .ok (.ireturn, 1) := by decide +kernel
theorem dX3_gapFor_16 : decode cX3_gapFor 16 = .ok (.aload_n 0, 1) := by decide +kernel
theorem dX3_gapFor_17 : decode cX3_gapFor 17 = .ok (.getfield 46, 3) := by decide +kernel
theorem dX3_gapFor_20 : decode cX3_gapFor 20 = .ok (.iload_n 2, 1) := by decide +kernel
theorem dX3_gapFor_21 : decode cX3_gapFor 21 = .ok (.iadd, 1) := by decide +kernel
theorem dX3_gapFor_22 : decode cX3_gapFor 22 = .ok (.aload_n 0, 1) := by decide +kernel
theorem dX3_gapFor_23 : decode cX3_gapFor 23 = .ok (.getfield 49, 3) := by decide +kernel
theorem dX3_gapFor_26 : decode cX3_gapFor 26 = .ok (.bipush 40, 2) := by decide +kernel
theorem dX3_gapFor_28 : decode cX3_gapFor 28 = .ok (.iadd, 1) := by decide +kernel
theorem dX3_gapFor_29 : decode cX3_gapFor 29 = .ok (.if_icmp .gt 10, 3) := by decide +kernel
theorem dX3_gapFor_32 : decode cX3_gapFor 32 = .ok (.aload_n 0, 1) := by decide +kernel
theorem dX3_gapFor_33 : decode cX3_gapFor 33 = .ok (.getfield 46, 3) := by decide +kernel
theorem dX3_gapFor_36 : decode cX3_gapFor 36 = .ok (.goto 4, 3) := by decide +kernel
theorem dX3_gapFor_39 : decode cX3_gapFor 39 = .ok (.iconst (-1), 1) := by decide +kernel
theorem dX3_gapFor_40 : decode cX3_gapFor 40 = .ok (.ireturn, 1) := by decide +kernel
set_option maxRecDepth 20000 in
theorem ggX3_largeGapFor_X5_size : GoodIn wsX3_largeGapFor wsX5_size := goodIn_r _ [7, 8, 43, 44] (by decide +kernel) (by decide +kernel)
set_option maxRecDepth 20000 in
theorem gX3_largeGapFor_X5_size : GoodIn wsX3_largeGapFor (wsV RX3 35 RX5 yX5_size wsX5_size) := goodIn_app (goodIn_of _ (by decide +kernel)) ggX3_largeGapFor_X5_size
set_option maxRecDepth 20000 in
theorem ggX3_largeGapFor_X5_item : GoodIn wsX3_largeGapFor wsX5_item := goodIn_r _ [12, 8, 13, 43, 44] (by decide +kernel) (by decide +kernel)
set_option maxRecDepth 20000 in
theorem gX3_largeGapFor_X5_item : GoodIn wsX3_largeGapFor (wsV RX3 52 RX5 yX5_item wsX5_item) := goodIn_app (goodIn_of _ (by decide +kernel)) ggX3_largeGapFor_X5_item
set_option maxRecDepth 20000 in
theorem ggX3_largeGapFor_X7_end : GoodIn wsX3_largeGapFor wsX7_end := goodIn_r _ [18, 19, 20, 29, 30, 31, 32, 33, 34, 35, 36, 37, 38, 39, 40, 41, 42] (by decide +kernel) (by decide +kernel)
set_option maxRecDepth 20000 in
theorem gX3_largeGapFor_X7_end : GoodIn wsX3_largeGapFor (wsV RX3 61 RX7 yX7_end wsX7_end) := goodIn_app (goodIn_of _ (by decide +kernel)) ggX3_largeGapFor_X7_end
theorem dX3_largeGapFor_0 : decode cX3_largeGapFor 0 = .ok (.sipush 300, 3) := by decide +kernel
theorem dX3_largeGapFor_3 : decode cX3_largeGapFor 3 = .ok (.istore_n 2, 1) := by decide +kernel
theorem dX3_largeGapFor_4 : decode cX3_largeGapFor 4 = .ok (.iconst 0, 1) := by decide +kernel
theorem dX3_largeGapFor_5 : decode cX3_largeGapFor 5 = .ok (.istore_n 3, 1) := by decide +kernel
theorem dX3_largeGapFor_6 : decode cX3_largeGapFor 6 = .ok (.iload_n 3, 1) := by decide +kernel
theorem dX3_largeGapFor_7 : decode cX3_largeGapFor 7 = .ok (.aload_n 0, 1) := by decide +kernel
theorem dX3_largeGapFor_8 : decode cX3_largeGapFor 8 = .ok (.getfield 21, 3) := by decide +kernel
theorem dX3_largeGapFor_11 : decode cX3_largeGapFor 11 = .ok (.invokevirtual 35, 3) := by decide +kernel
theorem dX3_largeGapFor_14 : decode cX3_largeGapFor 14 = .ok (.if_icmp .ge 43, 3) := by decide +kernel
theorem dX3_largeGapFor_17 : decode cX3_largeGapFor 17 = .ok (.aload_n 0, 1) := by decide +kernel
theorem dX3_largeGapFor_18 : decode cX3_largeGapFor 18 = .ok (.getfield 21, 3) := by decide +kernel
theorem dX3_largeGapFor_21 : decode cX3_largeGapFor 21 = .ok (.iload_n 3, 1) := by decide +kernel
theorem dX3_largeGapFor_22 : decode cX3_largeGapFor 22 = .ok (.invokevirtual 52, 3) := by decide +kernel
theorem dX3_largeGapFor_25 : decode cX3_largeGapFor 25 = .ok (.astore 4, 2) := by decide +kernel
theorem dX3_largeGapFor_27 : decode cX3_largeGapFor 27 = .ok (.aload 4, 2) := by decide +kernel
theorem dX3_largeGapFor_29 : decode cX3_largeGapFor 29 = .ok (.ifnull 22, 3) := by decide +kernel
theorem dX3_largeGapFor_32 : decode cX3_largeGapFor 32 = .ok (.aload 4, 2) := by decide +kernel
theorem dX3_largeGapFor_34 : decode cX3_largeGapFor 34 = .ok (.getfield 56, 3) := by decide +kernel
theorem dX3_largeGapFor_37 : decode cX3_largeGapFor 37 = .ok (.iload_n 2, 1) := by decide +kernel
theorem dX3_largeGapFor_38 : decode cX3_largeGapFor 38 = .ok (.isub, 1) := by decide +kernel
theorem dX3_largeGapFor_39 : decode cX3_largeGapFor 39 = .ok (.iload_n 1, 1) := by decide +kernel
theorem dX3_largeGapFor_40 : decode cX3_largeGapFor 40 = .ok (.if_icmp .lt 5, 3) := by decide +kernel
theorem dX3_largeGapFor_43 : decode cX3_largeGapFor 43 = .ok (.iload_n 2, 1) := by decide +kernel
theorem dX3_largeGapFor_44 : decode cX3_largeGapFor 44 = .ok (.ireturn, 1) := by decide +kernel
theorem dX3_largeGapFor_45 : decode cX3_largeGapFor 45 = .ok (.aload 4, 2) := by decide +kernel
theorem dX3_largeGapFor_47 : decode cX3_largeGapFor 47 = .ok (.invokevirtual 61, 3) := by decide +kernel
theorem dX3_largeGapFor_50 : decode cX3_largeGapFor 50 = .ok (.istore_n 2, 1) := by decide +kernel
theorem dX3_largeGapFor_51 : decode cX3_largeGapFor 51 = .ok (.iinc 3 1, 3) := by decide +kernel
theorem dX3_largeGapFor_54 : decode cX3_largeGapFor 54 = .ok (.goto (-48), 3) := by decide +kernel
theorem dX3_largeGapFor_57 : decode cX3_largeGapFor 57 = .ok (.sipush 420, 3) := by decide +kernel
theorem dX3_largeGapFor_60 : decode cX3_largeGapFor 60 = .ok (.iload_n 2, 1) := by decide +kernel
theorem dX3_largeGapFor_61 : decode cX3_largeGapFor 61 = .ok (.isub, 1) := by decide +kernel
theorem dX3_largeGapFor_62 : decode cX3_largeGapFor 62 = .ok (.iload_n 1, 1) := by decide +kernel
theorem dX3_largeGapFor_63 : decode cX3_largeGapFor 63 = .ok (.if_icmp .lt 7, 3) := by decide +kernel
theorem dX3_largeGapFor_66 : decode cX3_largeGapFor 66 = .ok (.iload_n 2, 1) := by decide +kernel
theorem dX3_largeGapFor_67 : decode cX3_largeGapFor 67 = .ok (.goto 4, 3) := by decide +kernel
theorem dX3_largeGapFor_70 : decode cX3_largeGapFor 70 = .ok (.iconst (-1), 1) := by decide +kernel
theorem dX3_largeGapFor_71 : decode cX3_largeGapFor 71 = .ok (.ireturn, 1) := by decide +kernel
set_option maxRecDepth 20000 in
theorem ggX3_largeGaps_X5_size : GoodIn wsX3_largeGaps wsX5_size := goodIn_r _ [7, 8, 43, 44] (by decide +kernel) (by decide +kernel)
set_option maxRecDepth 20000 in
theorem gX3_largeGaps_X5_size : GoodIn wsX3_largeGaps (wsV RX3 35 RX5 yX5_size wsX5_size) := goodIn_app (goodIn_of _ (by decide +kernel)) ggX3_largeGaps_X5_size
set_option maxRecDepth 20000 in
theorem ggX3_largeGaps_X5_item : GoodIn wsX3_largeGaps wsX5_item := goodIn_r _ [12, 8, 13, 43, 44] (by decide +kernel) (by decide +kernel)
set_option maxRecDepth 20000 in
theorem gX3_largeGaps_X5_item : GoodIn wsX3_largeGaps (wsV RX3 52 RX5 yX5_item wsX5_item) := goodIn_app (goodIn_of _ (by decide +kernel)) ggX3_largeGaps_X5_item
set_option maxRecDepth 20000 in
theorem ggX3_largeGaps_X7_end : GoodIn wsX3_largeGaps wsX7_end := goodIn_r _ [18, 19, 20, 29, 30, 31, 32, 33, 34, 35, 36, 37, 38, 39, 40, 41, 42] (by decide +kernel) (by decide +kernel)
set_option maxRecDepth 20000 in
theorem gX3_largeGaps_X7_end : GoodIn wsX3_largeGaps (wsV RX3 61 RX7 yX7_end wsX7_end) := goodIn_app (goodIn_of _ (by decide +kernel)) ggX3_largeGaps_X7_end
theorem dX3_largeGaps_0 : decode cX3_largeGaps 0 = .ok (.iconst 0, 1) := by decide +kernel
theorem dX3_largeGaps_1 : decode cX3_largeGaps 1 = .ok (.istore_n 1, 1) := by decide +kernel
theorem dX3_largeGaps_2 : decode cX3_largeGaps 2 = .ok (.sipush 300, 3) := by decide +kernel
theorem dX3_largeGaps_5 : decode cX3_largeGaps 5 = .ok (.istore_n 2, 1) := by decide +kernel
theorem dX3_largeGaps_6 : decode cX3_largeGaps 6 = .ok (.iconst 0, 1) := by decide +kernel
theorem dX3_largeGaps_7 : decode cX3_largeGaps 7 = .ok (.istore_n 3, 1) := by decide +kernel
theorem dX3_largeGaps_8 : decode cX3_largeGaps 8 = .ok (.iload_n 3, 1) := by decide +kernel
theorem dX3_largeGaps_9 : decode cX3_largeGaps 9 = .ok (.aload_n 0, 1) := by decide +kernel
theorem dX3_largeGaps_10 : decode cX3_largeGaps 10 = .ok (.getfield 21, 3) := by decide +kernel
theorem dX3_largeGaps_13 : decode cX3_largeGaps 13 = .ok (.invokevirtual 35, 3) := by decide +kernel
theorem dX3_largeGaps_16 : decode cX3_largeGaps 16 = .ok (.if_icmp .ge 42, 3) := by decide +kernel
theorem dX3_largeGaps_19 : decode cX3_largeGaps 19 = .ok (.aload_n 0, 1) := by decide +kernel
theorem dX3_largeGaps_20 : decode cX3_largeGaps 20 = .ok (.getfield 21, 3) := by decide +kernel
theorem dX3_largeGaps_23 : decode cX3_largeGaps 23 = .ok (.iload_n 3, 1) := by decide +kernel
theorem dX3_largeGaps_24 : decode cX3_largeGaps 24 = .ok (.invokevirtual 52, 3) := by decide +kernel
theorem dX3_largeGaps_27 : decode cX3_largeGaps 27 = .ok (.astore 4, 2) := by decide +kernel
theorem dX3_largeGaps_29 : decode cX3_largeGaps 29 = .ok (.aload 4, 2) := by decide +kernel
theorem dX3_largeGaps_31 : decode cX3_largeGaps 31 = .ok (.ifnull 21, 3) := by decide +kernel
theorem dX3_largeGaps_34 : decode cX3_largeGaps 34 = .ok (.aload 4, 2) := by decide +kernel
theorem dX3_largeGaps_36 : decode cX3_largeGaps 36 = .ok (.getfield 56, 3) := by decide +kernel
theorem dX3_largeGaps_39 : decode cX3_largeGaps 39 = .ok (.iload_n 2, 1) := by decide +kernel
theorem dX3_largeGaps_40 : decode cX3_largeGaps 40 = .ok (.if_icmp .le 6, 3) := by decide +kernel
theorem dX3_largeGaps_43 : decode cX3_largeGaps 43 = .ok (.iinc 1 1, 3) := by decide +kernel
theorem dX3_largeGaps_46 : decode cX3_largeGaps 46 = .ok (.aload 4, 2) := by decide +kernel
theorem dX3_largeGaps_48 : decode cX3_largeGaps 48 = .ok (.invokevirtual 61, 3) := by decide +kernel
theorem dX3_largeGaps_51 : decode cX3_largeGaps 51 = .ok (.istore_n 2, 1) := by decide +kernel
theorem dX3_largeGaps_52 : decode cX3_largeGaps 52 = .ok (.iinc 3 1, 3) := by decide +kernel
theorem dX3_largeGaps_55 : decode cX3_largeGaps 55 = .ok (.goto (-47), 3) := by decide +kernel
theorem dX3_largeGaps_58 : decode cX3_largeGaps 58 = .ok (.sipush 420, 3) := by decide +kernel
theorem dX3_largeGaps_61 : decode cX3_largeGaps 61 = .ok (.iload_n 2, 1) := by decide +kernel
theorem dX3_largeGaps_62 : decode cX3_largeGaps 62 = .ok (.if_icmp .le 9, 3) := by decide +kernel
theorem dX3_largeGaps_65 : decode cX3_largeGaps 65 = .ok (.iload_n 1, 1) := by decide +kernel
theorem dX3_largeGaps_66 : decode cX3_largeGaps 66 = .ok (.iconst 1, 1) := by decide +kernel
theorem dX3_largeGaps_67 : decode cX3_largeGaps 67 = .ok (.iadd, 1) := by decide +kernel
theorem dX3_largeGaps_68 : decode cX3_largeGaps 68 = .ok (.goto 4, 3) := by decide +kernel
theorem dX3_largeGaps_71 : decode cX3_largeGaps 71 = .ok (.iload_n 1, 1) := by decide +kernel
theorem dX3_largeGaps_72 : decode cX3_largeGaps 72 = .ok (.ireturn, 1) := by decide +kernel
set_option maxRecDepth 20000 in
theorem ggX3_lay_X7_moveTo : GoodIn wsX3_lay wsX7_moveTo := goodIn_r _ [9, 10, 11, 12, 13, 31, 32, 33, 34, 35, 36, 37, 38, 39, 40, 41, 42, 43, 44] (by decide +kernel) (by decide +kernel)
set_option maxRecDepth 20000 in
theorem gX3_lay_X7_moveTo : GoodIn wsX3_lay (wsV RX3 68 RX7 yX7_moveTo wsX7_moveTo) := goodIn_app (goodIn_of _ (by decide +kernel)) ggX3_lay_X7_moveTo
set_option maxRecDepth 20000 in
theorem ggX3_lay_X5_addByAddress : GoodIn wsX3_lay wsX5_addByAddress := goodIn_r _ [18, 19, 20, 21, 22, 23, 24, 17, 25, 53, 54, 31, 32, 33, 34, 35, 36, 37, 38, 39, 40, 41, 42, 43, 44] (by decide +kernel) (by decide +kernel)
set_option maxRecDepth 20000 in
theorem gX3_lay_X5_addByAddress : GoodIn wsX3_lay (wsV RX3 72 RX5 yX5_addByAddress wsX5_addByAddress) := goodIn_app (goodIn_of _ (by decide +kernel)) ggX3_lay_X5_addByAddress
set_option maxRecDepth 20000 in
theorem ggX3_lay_X5_add : GoodIn wsX3_lay wsX5_add := goodIn_r _ [25, 19, 20, 53, 54] (by decide +kernel) (by decide +kernel)
set_option maxRecDepth 20000 in
theorem gX3_lay_X5_add : GoodIn wsX3_lay (wsV RX3 76 RX5 yX5_add wsX5_add) := goodIn_app (goodIn_of _ (by decide +kernel)) ggX3_lay_X5_add
set_option maxRecDepth 20000 in
theorem ggX3_lay_X7_end : GoodIn wsX3_lay wsX7_end := goodIn_r _ [30, 13, 11, 31, 32, 33, 34, 35, 36, 37, 38, 39, 40, 41, 42, 43, 44] (by decide +kernel) (by decide +kernel)
set_option maxRecDepth 20000 in
theorem gX3_lay_X7_end : GoodIn wsX3_lay (wsV RX3 61 RX7 yX7_end wsX7_end) := goodIn_app (goodIn_of _ (by decide +kernel)) ggX3_lay_X7_end
theorem dX3_lay_0 : decode cX3_lay 0 = .ok (.aload_n 1, 1) := by decide +kernel
theorem dX3_lay_1 : decode cX3_lay 1 = .ok (.getfield 64, 3) := by decide +kernel
theorem dX3_lay_4 : decode cX3_lay 4 = .ok (.arraylength, 1) := by decide +kernel
theorem dX3_lay_5 : decode cX3_lay 5 = .ok (.bipush 12, 2) := by decide +kernel
theorem dX3_lay_7 : decode cX3_lay 7 = .ok (.if_icmp .lt 20, 3) := by decide +kernel
theorem dX3_lay_10 : decode cX3_lay 10 = .ok (.aload_n 1, 1) := by decide +kernel
theorem dX3_lay_11 : decode cX3_lay 11 = .ok (.iconst 3, 1) := by decide +kernel
theorem dX3_lay_12 : decode cX3_lay 12 = .ok (.iload_n 2, 1) := by decide +kernel
theorem dX3_lay_13 : decode cX3_lay 13 = .ok (.invokevirtual 68, 3) := by decide +kernel
theorem dX3_lay_16 : decode cX3_lay 16 = .ok (.aload_n 0, 1) := by decide +kernel
theorem dX3_lay_17 : decode cX3_lay 17 = .ok (.getfield 21, 3) := by decide +kernel
theorem dX3_lay_20 : decode cX3_lay 20 = .ok (.aload_n 1, 1) := by decide +kernel
theorem dX3_lay_21 : decode cX3_lay 21 = .ok (.invokevirtual 72, 3) := by decide +kernel
theorem dX3_lay_24 : decode cX3_lay 24 = .ok (.goto 25, 3) := by decide +kernel
theorem dX3_lay_27 : decode cX3_lay 27 = .ok (.aload_n 1, 1) := by decide +kernel
theorem dX3_lay_28 : decode cX3_lay 28 = .ok (.iconst 1, 1) := by decide +kernel
theorem dX3_lay_29 : decode cX3_lay 29 = .ok (.iload_n 2, 1) := by decide +kernel
theorem dX3_lay_30 : decode cX3_lay 30 = .ok (.invokevirtual 68, 3) := by decide +kernel
theorem dX3_lay_33 : decode cX3_lay 33 = .ok (.aload_n 0, 1) := by decide +kernel
theorem dX3_lay_34 : decode cX3_lay 34 = .ok (.getfield 12, 3) := by decide +kernel
theorem dX3_lay_37 : decode cX3_lay 37 = .ok (.aload_n 1, 1) := by decide +kernel
theorem dX3_lay_38 : decode cX3_lay 38 = .ok (.invokevirtual 76, 3) := by decide +kernel
theorem dX3_lay_41 : decode cX3_lay 41 = .ok (.aload_n 0, 1) := by decide +kernel
theorem dX3_lay_42 : decode cX3_lay 42 = .ok (.aload_n 1, 1) := by decide +kernel
theorem dX3_lay_43 : decode cX3_lay 43 = .ok (.invokevirtual 61, 3) := by decide +kernel
theorem dX3_lay_46 : decode cX3_lay 46 = .ok (.putfield 46, 3) := by decide +kernel
theorem dX3_lay_49 : decode cX3_lay 49 = .ok (.return_, 1) := by decide +kernel
theorem dX3_oldRoom_0 : decode cX3_oldRoom 0 = .ok (.bipush 100, 2) := by decide +kernel
theorem dX3_oldRoom_2 : decode cX3_oldRoom 2 = .ok (.aload_n 0, 1) := by decide +kernel
theorem dX3_oldRoom_3 : decode cX3_oldRoom 3 = .ok (.getfield 28, 3) := by decide +kernel
theorem dX3_oldRoom_6 : decode cX3_oldRoom 6 = .ok (.iadd, 1) := by decide +kernel
theorem dX3_oldRoom_7 : decode cX3_oldRoom 7 = .ok (.aload_n 0, 1) := by decide +kernel
theorem dX3_oldRoom_8 : decode cX3_oldRoom 8 = .ok (.getfield 24, 3) := by decide +kernel
theorem dX3_oldRoom_11 : decode cX3_oldRoom 11 = .ok (.isub, 1) := by decide +kernel
theorem dX3_oldRoom_12 : decode cX3_oldRoom 12 = .ok (.ireturn, 1) := by decide +kernel
set_option maxRecDepth 20000 in
theorem ggX3_canOldTakeYoung_X5_size : GoodIn wsX3_canOldTakeYoung wsX5_size := goodIn_r _ [7, 8, 43, 44] (by decide +kernel) (by decide +kernel)
set_option maxRecDepth 20000 in
theorem gX3_canOldTakeYoung_X5_size : GoodIn wsX3_canOldTakeYoung (wsV RX3 35 RX5 yX5_size wsX5_size) := goodIn_app (goodIn_of _ (by decide +kernel)) ggX3_canOldTakeYoung_X5_size
set_option maxRecDepth 20000 in
theorem ggX3_canOldTakeYoung_X5_item : GoodIn wsX3_canOldTakeYoung wsX5_item := goodIn_r _ [12, 8, 13, 43, 44] (by decide +kernel) (by decide +kernel)
set_option maxRecDepth 20000 in
theorem gX3_canOldTakeYoung_X5_item : GoodIn wsX3_canOldTakeYoung (wsV RX3 52 RX5 yX5_item wsX5_item) := goodIn_app (goodIn_of _ (by decide +kernel)) ggX3_canOldTakeYoung_X5_item
set_option maxRecDepth 20000 in
theorem ggX3_canOldTakeYoung_X3_oldRoom : GoodIn wsX3_canOldTakeYoung wsX3_oldRoom := goodIn_r _ [18, 19, 20, 21, 22, 23, 24, 25, 26, 27, 28] (by decide +kernel) (by decide +kernel)
set_option maxRecDepth 20000 in
theorem gX3_canOldTakeYoung_X3_oldRoom : GoodIn wsX3_canOldTakeYoung (wsV RX3 82 RX3 yX3_oldRoom wsX3_oldRoom) := goodIn_app (goodIn_of _ (by decide +kernel)) ggX3_canOldTakeYoung_X3_oldRoom
theorem dX3_canOldTakeYoung_0 : decode cX3_canOldTakeYoung 0 = .ok (.iconst 0, 1) := by decide +kernel
theorem dX3_canOldTakeYoung_1 : decode cX3_canOldTakeYoung 1 = .ok (.istore_n 1, 1) := by decide +kernel
theorem dX3_canOldTakeYoung_2 : decode cX3_canOldTakeYoung 2 = .ok (.iconst 0, 1) := by decide +kernel
theorem dX3_canOldTakeYoung_3 : decode cX3_canOldTakeYoung 3 = .ok (.istore_n 2, 1) := by decide +kernel
theorem dX3_canOldTakeYoung_4 : decode cX3_canOldTakeYoung 4 = .ok (.iload_n 2, 1) := by decide +kernel
theorem dX3_canOldTakeYoung_5 : decode cX3_canOldTakeYoung 5 = .ok (.aload_n 0, 1) := by decide +kernel
theorem dX3_canOldTakeYoung_6 : decode cX3_canOldTakeYoung 6 = .ok (.getfield 12, 3) := by decide +kernel
theorem dX3_canOldTakeYoung_9 : decode cX3_canOldTakeYoung 9 = .ok (.invokevirtual 35, 3) := by decide +kernel
theorem dX3_canOldTakeYoung_12 : decode cX3_canOldTakeYoung 12 = .ok (.if_icmp .ge 29, 3) := by decide +kernel
theorem dX3_canOldTakeYoung_15 : decode cX3_canOldTakeYoung 15 = .ok (.aload_n 0, 1) := by decide +kernel
theorem dX3_canOldTakeYoung_16 : decode cX3_canOldTakeYoung 16 = .ok (.getfield 12, 3) := by decide +kernel
theorem dX3_canOldTakeYoung_19 : decode cX3_canOldTakeYoung 19 = .ok (.iload_n 2, 1) := by decide +kernel
theorem dX3_canOldTakeYoung_20 : decode cX3_canOldTakeYoung 20 = .ok (.invokevirtual 52, 3) := by decide +kernel
theorem dX3_canOldTakeYoung_23 : decode cX3_canOldTakeYoung 23 = .ok (.astore_n 3, 1) := by decide +kernel
theorem dX3_canOldTakeYoung_24 : decode cX3_canOldTakeYoung 24 = .ok (.aload_n 3, 1) := by decide +kernel
theorem dX3_canOldTakeYoung_25 : decode cX3_canOldTakeYoung 25 = .ok (.ifnull 10, 3) := by decide +kernel
theorem dX3_canOldTakeYoung_28 : decode cX3_canOldTakeYoung 28 = .ok (.iload_n 1, 1) := by decide +kernel
theorem dX3_canOldTakeYoung_29 : decode cX3_canOldTakeYoung 29 = .ok (.aload_n 3, 1) := by decide +kernel
theorem dX3_canOldTakeYoung_30 : decode cX3_canOldTakeYoung 30 = .ok (.getfield 79, 3) := by decide +kernel
theorem dX3_canOldTakeYoung_33 : decode cX3_canOldTakeYoung 33 = .ok (.iadd, 1) := by decide +kernel
theorem dX3_canOldTakeYoung_34 : decode cX3_canOldTakeYoung 34 = .ok (.istore_n 1, 1) := by decide +kernel
theorem dX3_canOldTakeYoung_35 : decode cX3_canOldTakeYoung 35 = .ok (.iinc 2 1, 3) := by decide +kernel
theorem dX3_canOldTakeYoung_38 : decode cX3_canOldTakeYoung 38 = .ok (.goto (-34), 3) := by decide +kernel
theorem dX3_canOldTakeYoung_41 : decode cX3_canOldTakeYoung 41 = .ok (.iload_n 1, 1) := by decide +kernel
theorem dX3_canOldTakeYoung_42 : decode cX3_canOldTakeYoung 42 = .ok (.aload_n 0, 1) := by decide +kernel
theorem dX3_canOldTakeYoung_43 : decode cX3_canOldTakeYoung 43 = .ok (.invokevirtual 82, 3) := by decide +kernel
theorem dX3_canOldTakeYoung_46 : decode cX3_canOldTakeYoung 46 = .ok (.if_icmp .gt 7, 3) := by decide +kernel
theorem dX3_canOldTakeYoung_49 : decode cX3_canOldTakeYoung 49 = .ok (.iconst 1, 1) := by decide +kernel
theorem dX3_canOldTakeYoung_50 : decode cX3_canOldTakeYoung 50 = .ok (.goto 4, 3) := by decide +kernel
theorem dX3_canOldTakeYoung_53 : decode cX3_canOldTakeYoung 53 = .ok (.iconst 0, 1) := by decide +kernel
theorem dX3_canOldTakeYoung_54 : decode cX3_canOldTakeYoung 54 = .ok (.ireturn, 1) := by decide +kernel
set_option maxRecDepth 20000 in
theorem ggX3_moveToOld_X7_moveTo : GoodIn wsX3_moveToOld wsX7_moveTo := goodIn_r _ [7, 8, 9, 10, 11, 31, 32, 33, 34, 35, 36, 37, 38, 39, 40, 41, 42, 43, 44] (by decide +kernel) (by decide +kernel)
set_option maxRecDepth 20000 in
theorem gX3_moveToOld_X7_moveTo : GoodIn wsX3_moveToOld (wsV RX3 68 RX7 yX7_moveTo wsX7_moveTo) := goodIn_app (goodIn_of _ (by decide +kernel)) ggX3_moveToOld_X7_moveTo
set_option maxRecDepth 20000 in
theorem ggX3_moveToOld_X7_end : GoodIn wsX3_moveToOld wsX7_end := goodIn_r _ [15, 11, 9, 31, 32, 33, 34, 35, 36, 37, 38, 39, 40, 41, 42, 43, 44] (by decide +kernel) (by decide +kernel)
set_option maxRecDepth 20000 in
theorem gX3_moveToOld_X7_end : GoodIn wsX3_moveToOld (wsV RX3 61 RX7 yX7_end wsX7_end) := goodIn_app (goodIn_of _ (by decide +kernel)) ggX3_moveToOld_X7_end
set_option maxRecDepth 20000 in
theorem ggX3_moveToOld_X5_add : GoodIn wsX3_moveToOld wsX5_add := goodIn_r _ [20, 21, 22, 45, 46] (by decide +kernel) (by decide +kernel)
set_option maxRecDepth 20000 in
theorem gX3_moveToOld_X5_add : GoodIn wsX3_moveToOld (wsV RX3 76 RX5 yX5_add wsX5_add) := goodIn_app (goodIn_of _ (by decide +kernel)) ggX3_moveToOld_X5_add
theorem dX3_moveToOld_0 : decode cX3_moveToOld 0 = .ok (.aload_n 1, 1) := by decide +kernel
theorem dX3_moveToOld_1 : decode cX3_moveToOld 1 = .ok (.iconst 2, 1) := by decide +kernel
theorem dX3_moveToOld_2 : decode cX3_moveToOld 2 = .ok (.aload_n 0, 1) := by decide +kernel
theorem dX3_moveToOld_3 : decode cX3_moveToOld 3 = .ok (.getfield 24, 3) := by decide +kernel
theorem dX3_moveToOld_6 : decode cX3_moveToOld 6 = .ok (.invokevirtual 68, 3) := by decide +kernel
theorem dX3_moveToOld_9 : decode cX3_moveToOld 9 = .ok (.aload_n 0, 1) := by decide +kernel
theorem dX3_moveToOld_10 : decode cX3_moveToOld 10 = .ok (.aload_n 1, 1) := by decide +kernel
theorem dX3_moveToOld_11 : decode cX3_moveToOld 11 = .ok (.invokevirtual 61, 3) := by decide +kernel
theorem dX3_moveToOld_14 : decode cX3_moveToOld 14 = .ok (.putfield 24, 3) := by decide +kernel
theorem dX3_moveToOld_17 : decode cX3_moveToOld 17 = .ok (.aload_n 0, 1) := by decide +kernel
theorem dX3_moveToOld_18 : decode cX3_moveToOld 18 = .ok (.getfield 18, 3) := by decide +kernel
theorem dX3_moveToOld_21 : decode cX3_moveToOld 21 = .ok (.aload_n 1, 1) := by decide +kernel
theorem dX3_moveToOld_22 : decode cX3_moveToOld 22 = .ok (.invokevirtual 76, 3) := by decide +kernel
theorem dX3_moveToOld_25 : decode cX3_moveToOld 25 = .ok (.return_, 1) := by decide +kernel
set_option maxRecDepth 20000 in
theorem ggX3_moveOutOfYoung_X3_moveToOld : GoodIn wsX3_moveOutOfYoung wsX3_moveToOld := goodIn_r _ [6, 7, 8, 9, 10, 11, 12, 13, 14, 15, 16, 17, 18, 19, 20, 21, 22, 23, 24, 25, 26, 27, 28, 49, 50, 51, 52, 53, 54, 55, 56, 57, 58, 59, 60, 61, 62, 63, 64, 65, 66, 67, 68, 69, 70, 71, 72] (by decide +kernel) (by decide +kernel)
set_option maxRecDepth 20000 in
theorem gX3_moveOutOfYoung_X3_moveToOld : GoodIn wsX3_moveOutOfYoung (wsV RX3 85 RX3 yX3_moveToOld wsX3_moveToOld) := goodIn_app (goodIn_of _ (by decide +kernel)) ggX3_moveOutOfYoung_X3_moveToOld
set_option maxRecDepth 20000 in
theorem ggX3_moveOutOfYoung_X5_keepOnly : GoodIn wsX3_moveOutOfYoung wsX5_keepOnly := goodIn_r _ [32, 27, 28, 33, 34, 23, 24, 25, 26, 71, 72, 57, 58, 59, 60, 61, 62, 63, 64, 65, 66, 67, 68, 69, 70] (by decide +kernel) (by decide +kernel)
set_option maxRecDepth 20000 in
theorem gX3_moveOutOfYoung_X5_keepOnly : GoodIn wsX3_moveOutOfYoung (wsV RX3 88 RX5 yX5_keepOnly wsX5_keepOnly) := goodIn_app (goodIn_of _ (by decide +kernel)) ggX3_moveOutOfYoung_X5_keepOnly
set_option maxRecDepth 20000 in
theorem ggX3_moveOutOfYoung_X7_hasYoungField : GoodIn wsX3_moveOutOfYoung wsX7_hasYoungField := goodIn_r _ [38, 39, 16, 57, 58, 59, 60, 61, 62, 63, 64, 65, 66, 67, 68, 69, 70] (by decide +kernel) (by decide +kernel)
set_option maxRecDepth 20000 in
theorem gX3_moveOutOfYoung_X7_hasYoungField : GoodIn wsX3_moveOutOfYoung (wsV RX3 92 RX7 yX7_hasYoungField wsX7_hasYoungField) := goodIn_app (goodIn_of _ (by decide +kernel)) ggX3_moveOutOfYoung_X7_hasYoungField
set_option maxRecDepth 20000 in
theorem ggX3_moveOutOfYoung_X3_soil : GoodIn wsX3_moveOutOfYoung wsX3_soil := goodIn_r _ [43, 44, 45, 46, 47, 12, 48, 17, 49, 50, 51, 52, 53, 54, 55, 56, 57, 58, 59, 60, 61, 62, 63, 64, 65, 66, 67, 68, 69, 70] (by decide +kernel) (by decide +kernel)
set_option maxRecDepth 20000 in
theorem gX3_moveOutOfYoung_X3_soil : GoodIn wsX3_moveOutOfYoung (wsV RX3 96 RX3 yX3_soil wsX3_soil) := goodIn_app (goodIn_of _ (by decide +kernel)) ggX3_moveOutOfYoung_X3_soil
theorem dX3_moveOutOfYoung_0 : decode cX3_moveOutOfYoung 0 = .ok (.aload_n 0, 1) := by decide +kernel
theorem dX3_moveOutOfYoung_1 : decode cX3_moveOutOfYoung 1 = .ok (.aload_n 1, 1) := by decide +kernel
theorem dX3_moveOutOfYoung_2 : decode cX3_moveOutOfYoung 2 = .ok (.invokevirtual 85, 3) := by decide +kernel
theorem dX3_moveOutOfYoung_5 : decode cX3_moveOutOfYoung 5 = .ok (.aload_n 0, 1) := by decide +kernel
theorem dX3_moveOutOfYoung_6 : decode cX3_moveOutOfYoung 6 = .ok (.getfield 12, 3) := by decide +kernel
theorem dX3_moveOutOfYoung_9 : decode cX3_moveOutOfYoung 9 = .ok (.iconst 1, 1) := by decide +kernel
theorem dX3_moveOutOfYoung_10 : decode cX3_moveOutOfYoung 10 = .ok (.invokevirtual 88, 3) := by decide +kernel
theorem dX3_moveOutOfYoung_13 : decode cX3_moveOutOfYoung 13 = .ok (.aload_n 1, 1) := by decide +kernel
theorem dX3_moveOutOfYoung_14 : decode cX3_moveOutOfYoung 14 = .ok (.invokevirtual 92, 3) := by decide +kernel
theorem dX3_moveOutOfYoung_17 : decode cX3_moveOutOfYoung 17 = .ok (.ifCond .eq 8, 3) := by decide +kernel
theorem dX3_moveOutOfYoung_20 : decode cX3_moveOutOfYoung 20 = .ok (.aload_n 0, 1) := by decide +kernel
theorem dX3_moveOutOfYoung_21 : decode cX3_moveOutOfYoung 21 = .ok (.aload_n 1, 1) := by decide +kernel
theorem dX3_moveOutOfYoung_22 : decode cX3_moveOutOfYoung 22 = .ok (.invokevirtual 96, 3) := by decide +kernel
theorem dX3_moveOutOfYoung_25 : decode cX3_moveOutOfYoung 25 = .ok (.return_, 1) := by decide +kernel
set_option maxRecDepth 20000 in
theorem ggX3_compact_X5_keepOnly : GoodIn wsX3_compact wsX5_keepOnly := goodIn_r _ [8, 9, 10, 11, 12, 13, 14, 7, 15, 95, 96, 97, 98, 99, 100, 101, 102, 103, 104, 105, 106, 107, 108, 109, 110] (by decide +kernel) (by decide +kernel)
set_option maxRecDepth 20000 in
theorem gX3_compact_X5_keepOnly : GoodIn wsX3_compact (wsV RX3 88 RX5 yX5_keepOnly wsX5_keepOnly) := goodIn_app (goodIn_of _ (by decide +kernel)) ggX3_compact_X5_keepOnly
set_option maxRecDepth 20000 in
theorem ggX3_compact_X3_slideOld : GoodIn wsX3_compact wsX3_slideOld := goodIn_r _ [20, 21, 2, 22, 23, 24, 25, 26, 27, 7, 28, 9, 29, 30, 31, 32, 10, 33, 34, 35, 36, 37, 38, 39, 40, 41, 42, 43, 44, 45, 87, 88, 89, 90, 91, 92, 93, 94, 97, 98, 99, 100, 101, 102, 103, 104, 105, 106, 107, 108, 109, 110, 95, 96] (by decide +kernel) (by decide +kernel)
set_option maxRecDepth 20000 in
theorem gX3_compact_X3_slideOld : GoodIn wsX3_compact (wsV RX3 99 RX3 yX3_slideOld wsX3_slideOld) := goodIn_app (goodIn_of _ (by decide +kernel)) ggX3_compact_X3_slideOld
set_option maxRecDepth 20000 in
theorem ggX3_compact_X3_emptyYoung : GoodIn wsX3_compact wsX3_emptyYoung := goodIn_r _ [49, 1, 50, 51, 52, 53, 54, 19, 55, 56, 25, 26, 27, 7, 28, 9, 29, 30, 31, 32, 10, 57, 58, 59, 60, 61, 21, 62, 63, 64, 65, 2, 33, 34, 35, 36, 37, 38, 39, 40, 41, 42, 43, 44, 45, 66, 13, 14, 15, 67, 68, 69, 70, 71, 72, 73, 74, 75, 87, 88, 89, 90, 91, 92, 93, 94, 97, 98, 99, 100, 101, 102, 103, 104, 105, 106, 107, 108, 109, 110, 95, 96] (by decide +kernel) (by decide +kernel)
set_option maxRecDepth 20000 in
theorem gX3_compact_X3_emptyYoung : GoodIn wsX3_compact (wsV RX3 102 RX3 yX3_emptyYoung wsX3_emptyYoung) := goodIn_app (goodIn_of _ (by decide +kernel)) ggX3_compact_X3_emptyYoung
set_option maxRecDepth 20000 in
theorem ggX3_compact_X3_resizeOld : GoodIn wsX3_compact wsX3_resizeOld := goodIn_r _ [79, 21, 61, 80, 81, 82, 83, 84, 85, 86, 87, 88, 89, 90, 91, 92, 93, 94] (by decide +kernel) (by decide +kernel)
set_option maxRecDepth 20000 in
theorem gX3_compact_X3_resizeOld : GoodIn wsX3_compact (wsV RX3 105 RX3 yX3_resizeOld wsX3_resizeOld) := goodIn_app (goodIn_of _ (by decide +kernel)) ggX3_compact_X3_resizeOld
theorem dX3_compact_0 : decode cX3_compact 0 = .ok (.aload_n 0, 1) := by decide +kernel
theorem dX3_compact_1 : decode cX3_compact 1 = .ok (.getfield 12, 3) := by decide +kernel
theorem dX3_compact_4 : decode cX3_compact 4 = .ok (.iconst 1, 1) := by decide +kernel
theorem dX3_compact_5 : decode cX3_compact 5 = .ok (.invokevirtual 88, 3) := by decide +kernel
theorem dX3_compact_8 : decode cX3_compact 8 = .ok (.aload_n 0, 1) := by decide +kernel
theorem dX3_compact_9 : decode cX3_compact 9 = .ok (.getfield 18, 3) := by decide +kernel
theorem dX3_compact_12 : decode cX3_compact 12 = .ok (.iconst 2, 1) := by decide +kernel
theorem dX3_compact_13 : decode cX3_compact 13 = .ok (.invokevirtual 88, 3) := by decide +kernel
theorem dX3_compact_16 : decode cX3_compact 16 = .ok (.aload_n 0, 1) := by decide +kernel
theorem dX3_compact_17 : decode cX3_compact 17 = .ok (.getfield 21, 3) := by decide +kernel
theorem dX3_compact_20 : decode cX3_compact 20 = .ok (.iconst 3, 1) := by decide +kernel
theorem dX3_compact_21 : decode cX3_compact 21 = .ok (.invokevirtual 88, 3) := by decide +kernel
theorem dX3_compact_24 : decode cX3_compact 24 = .ok (.aload_n 0, 1) := by decide +kernel
theorem dX3_compact_25 : decode cX3_compact 25 = .ok (.invokevirtual 99, 3) := by decide +kernel
theorem dX3_compact_28 : decode cX3_compact 28 = .ok (.istore_n 1, 1) := by decide +kernel
theorem dX3_compact_29 : decode cX3_compact 29 = .ok (.iload_n 1, 1) := by decide +kernel
theorem dX3_compact_30 : decode cX3_compact 30 = .ok (.aload_n 0, 1) := by decide +kernel
theorem dX3_compact_31 : decode cX3_compact 31 = .ok (.invokevirtual 102, 3) := by decide +kernel
theorem dX3_compact_34 : decode cX3_compact 34 = .ok (.iadd, 1) := by decide +kernel
theorem dX3_compact_35 : decode cX3_compact 35 = .ok (.istore_n 1, 1) := by decide +kernel
theorem dX3_compact_36 : decode cX3_compact 36 = .ok (.aload_n 0, 1) := by decide +kernel
theorem dX3_compact_37 : decode cX3_compact 37 = .ok (.invokevirtual 105, 3) := by decide +kernel
theorem dX3_compact_40 : decode cX3_compact 40 = .ok (.iload_n 1, 1) := by decide +kernel
theorem dX3_compact_41 : decode cX3_compact 41 = .ok (.ireturn, 1) := by decide +kernel
set_option maxRecDepth 20000 in
theorem ggX3_slideOld_X5_size : GoodIn wsX3_slideOld wsX5_size := goodIn_r _ [10, 11, 52, 53] (by decide +kernel) (by decide +kernel)
set_option maxRecDepth 20000 in
theorem gX3_slideOld_X5_size : GoodIn wsX3_slideOld (wsV RX3 35 RX5 yX5_size wsX5_size) := goodIn_app (goodIn_of _ (by decide +kernel)) ggX3_slideOld_X5_size
set_option maxRecDepth 20000 in
theorem ggX3_slideOld_X5_item : GoodIn wsX3_slideOld wsX5_item := goodIn_r _ [15, 11, 16, 52, 53] (by decide +kernel) (by decide +kernel)
set_option maxRecDepth 20000 in
theorem gX3_slideOld_X5_item : GoodIn wsX3_slideOld (wsV RX3 52 RX5 yX5_item wsX5_item) := goodIn_app (goodIn_of _ (by decide +kernel)) ggX3_slideOld_X5_item
set_option maxRecDepth 20000 in
theorem ggX3_slideOld_X7_moveTo : GoodIn wsX3_slideOld wsX7_moveTo := goodIn_r _ [21, 22, 23, 24, 25, 38, 39, 40, 41, 42, 43, 44, 45, 46, 47, 48, 49, 50, 51] (by decide +kernel) (by decide +kernel)
set_option maxRecDepth 20000 in
theorem gX3_slideOld_X7_moveTo : GoodIn wsX3_slideOld (wsV RX3 68 RX7 yX7_moveTo wsX7_moveTo) := goodIn_app (goodIn_of _ (by decide +kernel)) ggX3_slideOld_X7_moveTo
set_option maxRecDepth 20000 in
theorem ggX3_slideOld_X7_end : GoodIn wsX3_slideOld wsX7_end := goodIn_r _ [29, 25, 23, 38, 39, 40, 41, 42, 43, 44, 45, 46, 47, 48, 49, 50, 51] (by decide +kernel) (by decide +kernel)
set_option maxRecDepth 20000 in
theorem gX3_slideOld_X7_end : GoodIn wsX3_slideOld (wsV RX3 61 RX7 yX7_end wsX7_end) := goodIn_app (goodIn_of _ (by decide +kernel)) ggX3_slideOld_X7_end
theorem dX3_slideOld_0 : decode cX3_slideOld 0 = .ok (.iconst 0, 1) := by decide +kernel
theorem dX3_slideOld_1 : decode cX3_slideOld 1 = .ok (.istore_n 1, 1) := by decide +kernel
theorem dX3_slideOld_2 : decode cX3_slideOld 2 = .ok (.aload_n 0, 1) := by decide +kernel
theorem dX3_slideOld_3 : decode cX3_slideOld 3 = .ok (.bipush 100, 2) := by decide +kernel
theorem dX3_slideOld_5 : decode cX3_slideOld 5 = .ok (.putfield 24, 3) := by decide +kernel
theorem dX3_slideOld_8 : decode cX3_slideOld 8 = .ok (.iconst 0, 1) := by decide +kernel
theorem dX3_slideOld_9 : decode cX3_slideOld 9 = .ok (.istore_n 2, 1) := by decide +kernel
theorem dX3_slideOld_10 : decode cX3_slideOld 10 = .ok (.iload_n 2, 1) := by decide +kernel
theorem dX3_slideOld_11 : decode cX3_slideOld 11 = .ok (.aload_n 0, 1) := by decide +kernel
theorem dX3_slideOld_12 : decode cX3_slideOld 12 = .ok (.getfield 18, 3) := by decide +kernel
theorem dX3_slideOld_15 : decode cX3_slideOld 15 = .ok (.invokevirtual 35, 3) := by decide +kernel
theorem dX3_slideOld_18 : decode cX3_slideOld 18 = .ok (.if_icmp .ge 64, 3) := by decide +kernel
theorem dX3_slideOld_21 : decode cX3_slideOld 21 = .ok (.aload_n 0, 1) := by decide +kernel
theorem dX3_slideOld_22 : decode cX3_slideOld 22 = .ok (.getfield 18, 3) := by decide +kernel
theorem dX3_slideOld_25 : decode cX3_slideOld 25 = .ok (.iload_n 2, 1) := by decide +kernel
theorem dX3_slideOld_26 : decode cX3_slideOld 26 = .ok (.invokevirtual 52, 3) := by decide +kernel
theorem dX3_slideOld_29 : decode cX3_slideOld 29 = .ok (.astore_n 3, 1) := by decide +kernel
theorem dX3_slideOld_30 : decode cX3_slideOld 30 = .ok (.aload_n 3, 1) := by decide +kernel
theorem dX3_slideOld_31 : decode cX3_slideOld 31 = .ok (.ifnull 45, 3) := by decide +kernel
theorem dX3_slideOld_34 : decode cX3_slideOld 34 = .ok (.aload_n 3, 1) := by decide +kernel
theorem dX3_slideOld_35 : decode cX3_slideOld 35 = .ok (.getfield 108, 3) := by decide +kernel
theorem dX3_slideOld_38 : decode cX3_slideOld 38 = .ok (.ifCond .ne 30, 3) := by decide +kernel
theorem dX3_slideOld_41 : decode cX3_slideOld 41 = .ok (.aload_n 3, 1) := by decide +kernel
theorem dX3_slideOld_42 : decode cX3_slideOld 42 = .ok (.getfield 56, 3) := by decide +kernel
theorem dX3_slideOld_45 : decode cX3_slideOld 45 = .ok (.aload_n 0, 1) := by decide +kernel
theorem dX3_slideOld_46 : decode cX3_slideOld 46 = .ok (.getfield 24, 3) := by decide +kernel
theorem dX3_slideOld_49 : decode cX3_slideOld 49 = .ok (.if_icmp .eq 19, 3) := by decide +kernel
theorem dX3_slideOld_52 : decode cX3_slideOld 52 = .ok (.aload_n 3, 1) := by decide +kernel
theorem dX3_slideOld_53 : decode cX3_slideOld 53 = .ok (.iconst 2, 1) := by decide +kernel
theorem dX3_slideOld_54 : decode cX3_slideOld 54 = .ok (.aload_n 0, 1) := by decide +kernel
theorem dX3_slideOld_55 : decode cX3_slideOld 55 = .ok (.getfield 24, 3) := by decide +kernel
theorem dX3_slideOld_58 : decode cX3_slideOld 58 = .ok (.invokevirtual 68, 3) := by decide +kernel
theorem dX3_slideOld_61 : decode cX3_slideOld 61 = .ok (.iload_n 1, 1) := by decide +kernel
theorem dX3_slideOld_62 : decode cX3_slideOld 62 = .ok (.aload_n 3, 1) := by decide +kernel
theorem dX3_slideOld_63 : decode cX3_slideOld 63 = .ok (.getfield 112, 3) := by decide +kernel
theorem dX3_slideOld_66 : decode cX3_slideOld 66 = .ok (.iadd, 1) := by decide +kernel
theorem dX3_slideOld_67 : decode cX3_slideOld 67 = .ok (.istore_n 1, 1) := by decide +kernel
theorem dX3_slideOld_68 : decode cX3_slideOld 68 = .ok (.aload_n 0, 1) := by decide +kernel
theorem dX3_slideOld_69 : decode cX3_slideOld 69 = .ok (.aload_n 3, 1) := by decide +kernel
theorem dX3_slideOld_70 : decode cX3_slideOld 70 = .ok (.invokevirtual 61, 3) := by decide +kernel
theorem dX3_slideOld_73 : decode cX3_slideOld 73 = .ok (.putfield 24, 3) := by decide +kernel
theorem dX3_slideOld_76 : decode cX3_slideOld 76 = .ok (.iinc 2 1, 3) := by decide +kernel
theorem dX3_slideOld_79 : decode cX3_slideOld 79 = .ok (.goto (-69), 3) := by decide +kernel
theorem dX3_slideOld_82 : decode cX3_slideOld 82 = .ok (.iload_n 1, 1) := by decide +kernel
theorem dX3_slideOld_83 : decode cX3_slideOld 83 = .ok (.ireturn, 1) := by decide +kernel
set_option maxRecDepth 20000 in
theorem ggX3_emptyYoung_X3_canOldTakeYoung : GoodIn wsX3_emptyYoung wsX3_canOldTakeYoung := goodIn_r _ [8, 1, 9, 10, 11, 12, 13, 14, 15, 16, 17, 18, 19, 20, 21, 22, 23, 7, 24, 25, 26, 58, 59, 60, 61, 62, 63, 64, 65, 66, 67, 68, 69, 70, 71, 72, 73, 74, 75, 76, 77, 78, 79, 80, 81] (by decide +kernel) (by decide +kernel)
set_option maxRecDepth 20000 in
theorem gX3_emptyYoung_X3_canOldTakeYoung : GoodIn wsX3_emptyYoung (wsV RX3 114 RX3 yX3_canOldTakeYoung wsX3_canOldTakeYoung) := goodIn_app (goodIn_of _ (by decide +kernel)) ggX3_emptyYoung_X3_canOldTakeYoung
set_option maxRecDepth 20000 in
theorem ggX3_emptyYoung_X5_size : GoodIn wsX3_emptyYoung wsX5_size := goodIn_r _ [14, 15, 80, 81] (by decide +kernel) (by decide +kernel)
set_option maxRecDepth 20000 in
theorem gX3_emptyYoung_X5_size : GoodIn wsX3_emptyYoung (wsV RX3 35 RX5 yX5_size wsX5_size) := goodIn_app (goodIn_of _ (by decide +kernel)) ggX3_emptyYoung_X5_size
set_option maxRecDepth 20000 in
theorem ggX3_emptyYoung_X5_item : GoodIn wsX3_emptyYoung wsX5_item := goodIn_r _ [19, 15, 20, 80, 81] (by decide +kernel) (by decide +kernel)
set_option maxRecDepth 20000 in
theorem gX3_emptyYoung_X5_item : GoodIn wsX3_emptyYoung (wsV RX3 52 RX5 yX5_item wsX5_item) := goodIn_app (goodIn_of _ (by decide +kernel)) ggX3_emptyYoung_X5_item
set_option maxRecDepth 20000 in
theorem ggX3_emptyYoung_X3_moveToOld : GoodIn wsX3_emptyYoung wsX3_moveToOld := goodIn_r _ [30, 26, 31, 32, 33, 34, 35, 36, 37, 38, 39, 40, 41, 42, 43, 44, 45, 46, 47, 13, 48, 15, 20, 58, 59, 60, 61, 62, 63, 64, 65, 66, 67, 68, 69, 70, 71, 72, 73, 74, 75, 76, 77, 78, 79, 80, 81] (by decide +kernel) (by decide +kernel)
set_option maxRecDepth 20000 in
theorem gX3_emptyYoung_X3_moveToOld : GoodIn wsX3_emptyYoung (wsV RX3 85 RX3 yX3_moveToOld wsX3_moveToOld) := goodIn_app (goodIn_of _ (by decide +kernel)) ggX3_emptyYoung_X3_moveToOld
set_option maxRecDepth 20000 in
theorem ggX3_emptyYoung_X5_words : GoodIn wsX3_emptyYoung wsX5_words := goodIn_r _ [52, 15, 20, 53, 80, 81, 66, 67, 68, 69, 70, 71, 72, 73, 74, 75, 76, 77, 78, 79] (by decide +kernel) (by decide +kernel)
set_option maxRecDepth 20000 in
theorem gX3_emptyYoung_X5_words : GoodIn wsX3_emptyYoung (wsV RX3 39 RX5 yX5_words wsX5_words) := goodIn_app (goodIn_of _ (by decide +kernel)) ggX3_emptyYoung_X5_words
set_option maxRecDepth 20000 in
theorem ggX3_emptyYoung_X5_clear : GoodIn wsX3_emptyYoung wsX5_clear := goodIn_r _ [57, 15, 80, 81] (by decide +kernel) (by decide +kernel)
set_option maxRecDepth 20000 in
theorem gX3_emptyYoung_X5_clear : GoodIn wsX3_emptyYoung (wsV RX3 117 RX5 yX5_clear wsX5_clear) := goodIn_app (goodIn_of _ (by decide +kernel)) ggX3_emptyYoung_X5_clear
theorem dX3_emptyYoung_0 : decode cX3_emptyYoung 0 = .ok (.aload_n 0, 1) := by decide +kernel
theorem dX3_emptyYoung_1 : decode cX3_emptyYoung 1 = .ok (.invokevirtual 114, 3) := by decide +kernel
theorem dX3_emptyYoung_4 : decode cX3_emptyYoung 4 = .ok (.ifCond .ne 5, 3) := by decide +kernel
theorem dX3_emptyYoung_7 : decode cX3_emptyYoung 7 = .ok (.iconst 0, 1) := by decide +kernel
theorem dX3_emptyYoung_8 : decode cX3_emptyYoung 8 = .ok (.ireturn, 1) := by decide +kernel
theorem dX3_emptyYoung_9 : decode cX3_emptyYoung 9 = .ok (.iconst 0, 1) := by decide +kernel
theorem dX3_emptyYoung_10 : decode cX3_emptyYoung 10 = .ok (.istore_n 1, 1) := by decide +kernel
theorem dX3_emptyYoung_11 : decode cX3_emptyYoung 11 = .ok (.iload_n 1, 1) := by decide +kernel
theorem dX3_emptyYoung_12 : decode cX3_emptyYoung 12 = .ok (.aload_n 0, 1) := by decide +kernel
theorem dX3_emptyYoung_13 : decode cX3_emptyYoung 13 = .ok (.getfield 12, 3) := by decide +kernel
theorem dX3_emptyYoung_16 : decode cX3_emptyYoung 16 = .ok (.invokevirtual 35, 3) := by decide +kernel
theorem dX3_emptyYoung_19 : decode cX3_emptyYoung 19 = .ok (.if_icmp .ge 27, 3) := by decide +kernel
theorem dX3_emptyYoung_22 : decode cX3_emptyYoung 22 = .ok (.aload_n 0, 1) := by decide +kernel
theorem dX3_emptyYoung_23 : decode cX3_emptyYoung 23 = .ok (.getfield 12, 3) := by decide +kernel
theorem dX3_emptyYoung_26 : decode cX3_emptyYoung 26 = .ok (.iload_n 1, 1) := by decide +kernel
theorem dX3_emptyYoung_27 : decode cX3_emptyYoung 27 = .ok (.invokevirtual 52, 3) := by decide +kernel
theorem dX3_emptyYoung_30 : decode cX3_emptyYoung 30 = .ok (.astore_n 2, 1) := by decide +kernel
theorem dX3_emptyYoung_31 : decode cX3_emptyYoung 31 = .ok (.aload_n 2, 1) := by decide +kernel
theorem dX3_emptyYoung_32 : decode cX3_emptyYoung 32 = .ok (.ifnull 8, 3) := by decide +kernel
theorem dX3_emptyYoung_35 : decode cX3_emptyYoung 35 = .ok (.aload_n 0, 1) := by decide +kernel
theorem dX3_emptyYoung_36 : decode cX3_emptyYoung 36 = .ok (.aload_n 2, 1) := by decide +kernel
theorem dX3_emptyYoung_37 : decode cX3_emptyYoung 37 = .ok (.invokevirtual 85, 3) := by decide +kernel
theorem dX3_emptyYoung_40 : decode cX3_emptyYoung 40 = .ok (.iinc 1 1, 3) := by decide +kernel
theorem dX3_emptyYoung_43 : decode cX3_emptyYoung 43 = .ok (.goto (-32), 3) := by decide +kernel
theorem dX3_emptyYoung_46 : decode cX3_emptyYoung 46 = .ok (.aload_n 0, 1) := by decide +kernel
theorem dX3_emptyYoung_47 : decode cX3_emptyYoung 47 = .ok (.getfield 12, 3) := by decide +kernel
theorem dX3_emptyYoung_50 : decode cX3_emptyYoung 50 = .ok (.invokevirtual 39, 3) := by decide +kernel
theorem dX3_emptyYoung_53 : decode cX3_emptyYoung 53 = .ok (.istore_n 1, 1) := by decide +kernel
theorem dX3_emptyYoung_54 : decode cX3_emptyYoung 54 = .ok (.aload_n 0, 1) := by decide +kernel
theorem dX3_emptyYoung_55 : decode cX3_emptyYoung 55 = .ok (.getfield 12, 3) := by decide +kernel
theorem dX3_emptyYoung_58 : decode cX3_emptyYoung 58 = .ok (.invokevirtual 117, 3) := by decide +kernel
theorem dX3_emptyYoung_61 : decode cX3_emptyYoung 61 = .ok (.aload_n 0, 1) := by decide +kernel
theorem dX3_emptyYoung_62 : decode cX3_emptyYoung 62 = .ok (.iconst 0, 1) := by decide +kernel
theorem dX3_emptyYoung_63 : decode cX3_emptyYoung 63 = .ok (.putfield 49, 3) := by decide +kernel
theorem dX3_emptyYoung_66 : decode cX3_emptyYoung 66 = .ok (.aload_n 0, 1) := by decide +kernel
theorem dX3_emptyYoung_67 : decode cX3_emptyYoung 67 = .ok (.iconst 0, 1) := by decide +kernel
theorem dX3_emptyYoung_68 : decode cX3_emptyYoung 68 = .ok (.putfield 46, 3) := by decide +kernel
theorem dX3_emptyYoung_71 : decode cX3_emptyYoung 71 = .ok (.iload_n 1, 1) := by decide +kernel
theorem dX3_emptyYoung_72 : decode cX3_emptyYoung 72 = .ok (.ireturn, 1) := by decide +kernel
theorem dX3_resizeOld_0 : decode cX3_resizeOld 0 = .ok (.aload_n 0, 1) := by decide +kernel
theorem dX3_resizeOld_1 : decode cX3_resizeOld 1 = .ok (.getfield 24, 3) := by decide +kernel
theorem dX3_resizeOld_4 : decode cX3_resizeOld 4 = .ok (.bipush 100, 2) := by decide +kernel
theorem dX3_resizeOld_6 : decode cX3_resizeOld 6 = .ok (.isub, 1) := by decide +kernel
theorem dX3_resizeOld_7 : decode cX3_resizeOld 7 = .ok (.istore_n 1, 1) := by decide +kernel
theorem dX3_resizeOld_8 : decode cX3_resizeOld 8 = .ok (.iload_n 1, 1) := by decide +kernel
theorem dX3_resizeOld_9 : decode cX3_resizeOld 9 = .ok (.iconst 4, 1) := by decide +kernel
theorem dX3_resizeOld_10 : decode cX3_resizeOld 10 = .ok (.imul, 1) := by decide +kernel
theorem dX3_resizeOld_11 : decode cX3_resizeOld 11 = .ok (.aload_n 0, 1) := by decide +kernel
theorem dX3_resizeOld_12 : decode cX3_resizeOld 12 = .ok (.getfield 28, 3) := by decide +kernel
theorem dX3_resizeOld_15 : decode cX3_resizeOld 15 = .ok (.iconst 3, 1) := by decide +kernel
theorem dX3_resizeOld_16 : decode cX3_resizeOld 16 = .ok (.imul, 1) := by decide +kernel
theorem dX3_resizeOld_17 : decode cX3_resizeOld 17 = .ok (.if_icmp .le 23, 3) := by decide +kernel
theorem dX3_resizeOld_20 : decode cX3_resizeOld 20 = .ok (.aload_n 0, 1) := by decide +kernel
theorem dX3_resizeOld_21 : decode cX3_resizeOld 21 = .ok (.sipush 180, 3) := by decide +kernel
theorem dX3_resizeOld_24 : decode cX3_resizeOld 24 = .ok (.aload_n 0, 1) := by decide +kernel
theorem dX3_resizeOld_25 : decode cX3_resizeOld 25 = .ok (.getfield 28, 3) := by decide +kernel
theorem dX3_resizeOld_28 : decode cX3_resizeOld 28 = .ok (.bipush 30, 2) := by decide +kernel
theorem dX3_resizeOld_30 : decode cX3_resizeOld 30 = .ok (.iadd, 1) := by decide +kernel
theorem dX3_resizeOld_31 : decode cX3_resizeOld 31 = .ok (.invokestatic 120, 3) := by decide +kernel
theorem dX3_resizeOld_34 : decode cX3_resizeOld 34 = .ok (.putfield 28, 3) := by decide +kernel
theorem dX3_resizeOld_37 : decode cX3_resizeOld 37 = .ok (.goto 33, 3) := by decide +kernel
theorem dX3_resizeOld_40 : decode cX3_resizeOld 40 = .ok (.iload_n 1, 1) := by decide +kernel
theorem dX3_resizeOld_41 : decode cX3_resizeOld 41 = .ok (.iconst 4, 1) := by decide +kernel
theorem dX3_resizeOld_42 : decode cX3_resizeOld 42 = .ok (.imul, 1) := by decide +kernel
theorem dX3_resizeOld_43 : decode cX3_resizeOld 43 = .ok (.aload_n 0, 1) := by decide +kernel
theorem dX3_resizeOld_44 : decode cX3_resizeOld 44 = .ok (.getfield 28, 3) := by decide +kernel
theorem dX3_resizeOld_47 : decode cX3_resizeOld 47 = .ok (.if_icmp .ge 23, 3) := by decide +kernel
theorem dX3_resizeOld_50 : decode cX3_resizeOld 50 = .ok (.aload_n 0, 1) := by decide +kernel
theorem dX3_resizeOld_51 : decode cX3_resizeOld 51 = .ok (.bipush 60, 2) := by decide +kernel
theorem dX3_resizeOld_53 : decode cX3_resizeOld 53 = .ok (.iload_n 1, 1) := by decide +kernel
theorem dX3_resizeOld_54 : decode cX3_resizeOld 54 = .ok (.invokestatic 126, 3) := by decide +kernel
theorem dX3_resizeOld_57 : decode cX3_resizeOld 57 = .ok (.aload_n 0, 1) := by decide +kernel
theorem dX3_resizeOld_58 : decode cX3_resizeOld 58 = .ok (.getfield 28, 3) := by decide +kernel
theorem dX3_resizeOld_61 : decode cX3_resizeOld 61 = .ok (.bipush 30, 2) := by decide +kernel
theorem dX3_resizeOld_63 : decode cX3_resizeOld 63 = .ok (.isub, 1) := by decide +kernel
theorem dX3_resizeOld_64 : decode cX3_resizeOld 64 = .ok (.invokestatic 126, 3) := by decide +kernel
theorem dX3_resizeOld_67 : decode cX3_resizeOld 67 = .ok (.putfield 28, 3) := by decide +kernel
theorem dX3_resizeOld_70 : decode cX3_resizeOld 70 = .ok (.return_, 1) := by decide +kernel
set_option maxRecDepth 20000 in
theorem ggX3_renewCards_X3_soilYoungHolders : GoodIn wsX3_renewCards wsX3_soilYoungHolders := goodIn_r _ [8, 9, 10, 11, 12, 13, 14, 15, 16, 17, 18, 19, 20, 21, 22, 23, 24, 25, 26, 27, 28, 29, 7, 30, 1, 31, 32, 33, 34, 35, 44, 45, 46, 47, 48, 49, 50, 51, 52, 53, 54, 55, 56, 57, 58, 59, 36, 37, 38, 39, 40, 41, 42, 43] (by decide +kernel) (by decide +kernel)
set_option maxRecDepth 20000 in
theorem gX3_renewCards_X3_soilYoungHolders : GoodIn wsX3_renewCards (wsV RX3 129 RX3 yX3_soilYoungHolders wsX3_soilYoungHolders) := goodIn_app (goodIn_of _ (by decide +kernel)) ggX3_renewCards_X3_soilYoungHolders
theorem dX3_renewCards_0 : decode cX3_renewCards 0 = .ok (.iconst 0, 1) := by decide +kernel
theorem dX3_renewCards_1 : decode cX3_renewCards 1 = .ok (.istore_n 1, 1) := by decide +kernel
theorem dX3_renewCards_2 : decode cX3_renewCards 2 = .ok (.iload_n 1, 1) := by decide +kernel
theorem dX3_renewCards_3 : decode cX3_renewCards 3 = .ok (.aload_n 0, 1) := by decide +kernel
theorem dX3_renewCards_4 : decode cX3_renewCards 4 = .ok (.getfield 31, 3) := by decide +kernel
theorem dX3_renewCards_7 : decode cX3_renewCards 7 = .ok (.arraylength, 1) := by decide +kernel
theorem dX3_renewCards_8 : decode cX3_renewCards 8 = .ok (.if_icmp .ge 16, 3) := by decide +kernel
theorem dX3_renewCards_11 : decode cX3_renewCards 11 = .ok (.aload_n 0, 1) := by decide +kernel
theorem dX3_renewCards_12 : decode cX3_renewCards 12 = .ok (.getfield 31, 3) := by decide +kernel
theorem dX3_renewCards_15 : decode cX3_renewCards 15 = .ok (.iload_n 1, 1) := by decide +kernel
theorem dX3_renewCards_16 : decode cX3_renewCards 16 = .ok (.iconst 0, 1) := by decide +kernel
theorem dX3_renewCards_17 : decode cX3_renewCards 17 = .ok (.bastore, 1) := by decide +kernel
theorem dX3_renewCards_18 : decode cX3_renewCards 18 = .ok (.iinc 1 1, 3) := by decide +kernel
theorem dX3_renewCards_21 : decode cX3_renewCards 21 = .ok (.goto (-19), 3) := by decide +kernel
theorem dX3_renewCards_24 : decode cX3_renewCards 24 = .ok (.aload_n 0, 1) := by decide +kernel
theorem dX3_renewCards_25 : decode cX3_renewCards 25 = .ok (.aload_n 0, 1) := by decide +kernel
theorem dX3_renewCards_26 : decode cX3_renewCards 26 = .ok (.getfield 18, 3) := by decide +kernel
theorem dX3_renewCards_29 : decode cX3_renewCards 29 = .ok (.invokevirtual 129, 3) := by decide +kernel
theorem dX3_renewCards_32 : decode cX3_renewCards 32 = .ok (.aload_n 0, 1) := by decide +kernel
theorem dX3_renewCards_33 : decode cX3_renewCards 33 = .ok (.aload_n 0, 1) := by decide +kernel
theorem dX3_renewCards_34 : decode cX3_renewCards 34 = .ok (.getfield 21, 3) := by decide +kernel
theorem dX3_renewCards_37 : decode cX3_renewCards 37 = .ok (.invokevirtual 129, 3) := by decide +kernel
theorem dX3_renewCards_40 : decode cX3_renewCards 40 = .ok (.return_, 1) := by decide +kernel
set_option maxRecDepth 20000 in
theorem ggX3_soilYoungHolders_X5_size : GoodIn wsX3_soilYoungHolders wsX5_size := goodIn_r _ [5, 6, 30, 31] (by decide +kernel) (by decide +kernel)
set_option maxRecDepth 20000 in
theorem gX3_soilYoungHolders_X5_size : GoodIn wsX3_soilYoungHolders (wsV RX3 35 RX5 yX5_size wsX5_size) := goodIn_app (goodIn_of _ (by decide +kernel)) ggX3_soilYoungHolders_X5_size
set_option maxRecDepth 20000 in
theorem ggX3_soilYoungHolders_X5_item : GoodIn wsX3_soilYoungHolders wsX5_item := goodIn_r _ [10, 6, 11, 30, 31] (by decide +kernel) (by decide +kernel)
set_option maxRecDepth 20000 in
theorem gX3_soilYoungHolders_X5_item : GoodIn wsX3_soilYoungHolders (wsV RX3 52 RX5 yX5_item wsX5_item) := goodIn_app (goodIn_of _ (by decide +kernel)) ggX3_soilYoungHolders_X5_item
set_option maxRecDepth 20000 in
theorem ggX3_soilYoungHolders_X7_hasYoungField : GoodIn wsX3_soilYoungHolders wsX7_hasYoungField := goodIn_r _ [16, 17, 18, 32, 33, 34, 35, 36, 37, 38, 39, 40, 41, 42, 43, 44, 45] (by decide +kernel) (by decide +kernel)
set_option maxRecDepth 20000 in
theorem gX3_soilYoungHolders_X7_hasYoungField : GoodIn wsX3_soilYoungHolders (wsV RX3 92 RX7 yX7_hasYoungField wsX7_hasYoungField) := goodIn_app (goodIn_of _ (by decide +kernel)) ggX3_soilYoungHolders_X7_hasYoungField
set_option maxRecDepth 20000 in
theorem ggX3_soilYoungHolders_X3_soil : GoodIn wsX3_soilYoungHolders wsX3_soil := goodIn_r _ [23, 24, 25, 26, 27, 15, 28, 29, 46, 47, 48, 49, 50, 51, 52, 53, 32, 33, 34, 35, 36, 37, 38, 39, 40, 41, 42, 43, 44, 45] (by decide +kernel) (by decide +kernel)
set_option maxRecDepth 20000 in
theorem gX3_soilYoungHolders_X3_soil : GoodIn wsX3_soilYoungHolders (wsV RX3 96 RX3 yX3_soil wsX3_soil) := goodIn_app (goodIn_of _ (by decide +kernel)) ggX3_soilYoungHolders_X3_soil
theorem dX3_soilYoungHolders_0 : decode cX3_soilYoungHolders 0 = .ok (.iconst 0, 1) := by decide +kernel
theorem dX3_soilYoungHolders_1 : decode cX3_soilYoungHolders 1 = .ok (.istore_n 2, 1) := by decide +kernel
theorem dX3_soilYoungHolders_2 : decode cX3_soilYoungHolders 2 = .ok (.iload_n 2, 1) := by decide +kernel
theorem dX3_soilYoungHolders_3 : decode cX3_soilYoungHolders 3 = .ok (.aload_n 1, 1) := by decide +kernel
theorem dX3_soilYoungHolders_4 : decode cX3_soilYoungHolders 4 = .ok (.invokevirtual 35, 3) := by decide +kernel
theorem dX3_soilYoungHolders_7 : decode cX3_soilYoungHolders 7 = .ok (.if_icmp .ge 31, 3) := by decide +kernel
theorem dX3_soilYoungHolders_10 : decode cX3_soilYoungHolders 10 = .ok (.aload_n 1, 1) := by decide +kernel
theorem dX3_soilYoungHolders_11 : decode cX3_soilYoungHolders 11 = .ok (.iload_n 2, 1) := by decide +kernel
theorem dX3_soilYoungHolders_12 : decode cX3_soilYoungHolders 12 = .ok (.invokevirtual 52, 3) := by decide +kernel
theorem dX3_soilYoungHolders_15 : decode cX3_soilYoungHolders 15 = .ok (.astore_n 3, 1) := by decide +kernel
theorem dX3_soilYoungHolders_16 : decode cX3_soilYoungHolders 16 = .ok (.aload_n 3, 1) := by decide +kernel
theorem dX3_soilYoungHolders_17 : decode cX3_soilYoungHolders 17 = .ok (.ifnull 15, 3) := by decide +kernel
theorem dX3_soilYoungHolders_20 : decode cX3_soilYoungHolders 20 = .ok (.aload_n 3, 1) := by decide +kernel
theorem dX3_soilYoungHolders_21 : decode cX3_soilYoungHolders 21 = .ok (.invokevirtual 92, 3) := by decide +kernel
theorem dX3_soilYoungHolders_24 : decode cX3_soilYoungHolders 24 = .ok (.ifCond .eq 8, 3) := by decide +kernel
theorem dX3_soilYoungHolders_27 : decode cX3_soilYoungHolders 27 = .ok (.aload_n 0, 1) := by decide +kernel
theorem dX3_soilYoungHolders_28 : decode cX3_soilYoungHolders 28 = .ok (.aload_n 3, 1) := by decide +kernel
theorem dX3_soilYoungHolders_29 : decode cX3_soilYoungHolders 29 = .ok (.invokevirtual 96, 3) := by decide +kernel
theorem dX3_soilYoungHolders_32 : decode cX3_soilYoungHolders 32 = .ok (.iinc 2 1, 3) := by decide +kernel
theorem dX3_soilYoungHolders_35 : decode cX3_soilYoungHolders 35 = .ok (.goto (-33), 3) := by decide +kernel
theorem dX3_soilYoungHolders_38 : decode cX3_soilYoungHolders 38 = .ok (.return_, 1) := by decide +kernel
set_option maxRecDepth 20000 in
theorem ggX3_soil_X7_card : GoodIn wsX3_soil wsX7_card := goodIn_r _ [6, 7, 16, 17, 18, 19, 20, 21, 22, 23, 24, 25, 26, 27, 28, 29] (by decide +kernel) (by decide +kernel)
set_option maxRecDepth 20000 in
theorem gX3_soil_X7_card : GoodIn wsX3_soil (wsV RX3 133 RX7 yX7_card wsX7_card) := goodIn_app (goodIn_of _ (by decide +kernel)) ggX3_soil_X7_card
theorem dX3_soil_0 : decode cX3_soil 0 = .ok (.aload_n 1, 1) := by decide +kernel
theorem dX3_soil_1 : decode cX3_soil 1 = .ok (.invokevirtual 133, 3) := by decide +kernel
theorem dX3_soil_4 : decode cX3_soil 4 = .ok (.istore_n 2, 1) := by decide +kernel
theorem dX3_soil_5 : decode cX3_soil 5 = .ok (.iload_n 2, 1) := by decide +kernel
theorem dX3_soil_6 : decode cX3_soil 6 = .ok (.ifCond .lt 19, 3) := by decide +kernel
theorem dX3_soil_9 : decode cX3_soil 9 = .ok (.iload_n 2, 1) := by decide +kernel
theorem dX3_soil_10 : decode cX3_soil 10 = .ok (.aload_n 0, 1) := by decide +kernel
theorem dX3_soil_11 : decode cX3_soil 11 = .ok (.getfield 31, 3) := by decide +kernel
theorem dX3_soil_14 : decode cX3_soil 14 = .ok (.arraylength, 1) := by decide +kernel
theorem dX3_soil_15 : decode cX3_soil 15 = .ok (.if_icmp .ge 10, 3) := by decide +kernel
theorem dX3_soil_18 : decode cX3_soil 18 = .ok (.aload_n 0, 1) := by decide +kernel
theorem dX3_soil_19 : decode cX3_soil 19 = .ok (.getfield 31, 3) := by decide +kernel
theorem dX3_soil_22 : decode cX3_soil 22 = .ok (.iload_n 2, 1) := by decide +kernel
theorem dX3_soil_23 : decode cX3_soil 23 = .ok (.iconst 1, 1) := by decide +kernel
theorem dX3_soil_24 : decode cX3_soil 24 = .ok (.bastore, 1) := by decide +kernel
theorem dX3_soil_25 : decode cX3_soil 25 = .ok (.return_, 1) := by decide +kernel
set_option maxRecDepth 20000 in
theorem ggX3_noteWritten_X3_soil : GoodIn wsX3_noteWritten wsX3_soil := goodIn_r _ [6, 7, 8, 9, 10, 11, 12, 13, 28, 29, 30, 31, 32, 33, 34, 35, 14, 15, 16, 17, 18, 19, 20, 21, 22, 23, 24, 25, 26, 27] (by decide +kernel) (by decide +kernel)
set_option maxRecDepth 20000 in
theorem gX3_noteWritten_X3_soil : GoodIn wsX3_noteWritten (wsV RX3 96 RX3 yX3_soil wsX3_soil) := goodIn_app (goodIn_of _ (by decide +kernel)) ggX3_noteWritten_X3_soil
theorem dX3_noteWritten_0 : decode cX3_noteWritten 0 = .ok (.aload_n 1, 1) := by decide +kernel
theorem dX3_noteWritten_1 : decode cX3_noteWritten 1 = .ok (.getfield 136, 3) := by decide +kernel
theorem dX3_noteWritten_4 : decode cX3_noteWritten 4 = .ok (.iconst 1, 1) := by decide +kernel
theorem dX3_noteWritten_5 : decode cX3_noteWritten 5 = .ok (.if_icmp .eq 20, 3) := by decide +kernel
theorem dX3_noteWritten_8 : decode cX3_noteWritten 8 = .ok (.aload_n 2, 1) := by decide +kernel
theorem dX3_noteWritten_9 : decode cX3_noteWritten 9 = .ok (.ifnull 16, 3) := by decide +kernel
theorem dX3_noteWritten_12 : decode cX3_noteWritten 12 = .ok (.aload_n 2, 1) := by decide +kernel
theorem dX3_noteWritten_13 : decode cX3_noteWritten 13 = .ok (.getfield 136, 3) := by decide +kernel
theorem dX3_noteWritten_16 : decode cX3_noteWritten 16 = .ok (.iconst 1, 1) := by decide +kernel
theorem dX3_noteWritten_17 : decode cX3_noteWritten 17 = .ok (.if_icmp .ne 8, 3) := by decide +kernel
theorem dX3_noteWritten_20 : decode cX3_noteWritten 20 = .ok (.aload_n 0, 1) := by decide +kernel
theorem dX3_noteWritten_21 : decode cX3_noteWritten 21 = .ok (.aload_n 1, 1) := by decide +kernel
theorem dX3_noteWritten_22 : decode cX3_noteWritten 22 = .ok (.invokevirtual 96, 3) := by decide +kernel
theorem dX3_noteWritten_25 : decode cX3_noteWritten 25 = .ok (.return_, 1) := by decide +kernel
theorem dX3_isCardDirty_0 : decode cX3_isCardDirty 0 = .ok (.iload_n 1, 1) := by decide +kernel
theorem dX3_isCardDirty_1 : decode cX3_isCardDirty 1 = .ok (.ifCond .lt 25, 3) := by decide +kernel
theorem dX3_isCardDirty_4 : decode cX3_isCardDirty 4 = .ok (.iload_n 1, 1) := by decide +kernel
theorem dX3_isCardDirty_5 : decode cX3_isCardDirty 5 = .ok (.aload_n 0, 1) := by decide +kernel
theorem dX3_isCardDirty_6 : decode cX3_isCardDirty 6 = .ok (.getfield 31, 3) := by decide +kernel
theorem dX3_isCardDirty_9 : decode cX3_isCardDirty 9 = .ok (.arraylength, 1) := by decide +kernel
theorem dX3_isCardDirty_10 : decode cX3_isCardDirty 10 = .ok (.if_icmp .ge 16, 3) := by decide +kernel
theorem dX3_isCardDirty_13 : decode cX3_isCardDirty 13 = .ok (.aload_n 0, 1) := by decide +kernel
theorem dX3_isCardDirty_14 : decode cX3_isCardDirty 14 = .ok (.getfield 31, 3) := by decide +kernel
theorem dX3_isCardDirty_17 : decode cX3_isCardDirty 17 = .ok (.iload_n 1, 1) := by decide +kernel
theorem dX3_isCardDirty_18 : decode cX3_isCardDirty 18 = .ok (.baload, 1) := by decide +kernel
theorem dX3_isCardDirty_19 : decode cX3_isCardDirty 19 = .ok (.ifCond .eq 7, 3) := by decide +kernel
theorem dX3_isCardDirty_22 : decode cX3_isCardDirty 22 = .ok (.iconst 1, 1) := by decide +kernel
theorem dX3_isCardDirty_23 : decode cX3_isCardDirty 23 = .ok (.goto 4, 3) := by decide +kernel
theorem dX3_isCardDirty_26 : decode cX3_isCardDirty 26 = .ok (.iconst 0, 1) := by decide +kernel
theorem dX3_isCardDirty_27 : decode cX3_isCardDirty 27 = .ok (.ireturn, 1) := by decide +kernel
theorem dX3_dirtyCards_0 : decode cX3_dirtyCards 0 = .ok (.iconst 0, 1) := by decide +kernel
theorem dX3_dirtyCards_1 : decode cX3_dirtyCards 1 = .ok (.istore_n 1, 1) := by decide +kernel
theorem dX3_dirtyCards_2 : decode cX3_dirtyCards 2 = .ok (.iconst 0, 1) := by decide +kernel
theorem dX3_dirtyCards_3 : decode cX3_dirtyCards 3 = .ok (.istore_n 2, 1) := by decide +kernel
theorem dX3_dirtyCards_4 : decode cX3_dirtyCards 4 = .ok (.iload_n 2, 1) := by decide +kernel
theorem dX3_dirtyCards_5 : decode cX3_dirtyCards 5 = .ok (.aload_n 0, 1) := by decide +kernel
theorem dX3_dirtyCards_6 : decode cX3_dirtyCards 6 = .ok (.getfield 31, 3) := by decide +kernel
theorem dX3_dirtyCards_9 : decode cX3_dirtyCards 9 = .ok (.arraylength, 1) := by decide +kernel
theorem dX3_dirtyCards_10 : decode cX3_dirtyCards 10 = .ok (.if_icmp .ge 21, 3) := by decide +kernel
theorem dX3_dirtyCards_13 : decode cX3_dirtyCards 13 = .ok (.aload_n 0, 1) := by decide +kernel
theorem dX3_dirtyCards_14 : decode cX3_dirtyCards 14 = .ok (.getfield 31, 3) := by decide +kernel
theorem dX3_dirtyCards_17 : decode cX3_dirtyCards 17 = .ok (.iload_n 2, 1) := by decide +kernel
theorem dX3_dirtyCards_18 : decode cX3_dirtyCards 18 = .ok (.baload, 1) := by decide +kernel
theorem dX3_dirtyCards_19 : decode cX3_dirtyCards 19 = .ok (.ifCond .eq 6, 3) := by decide +kernel
theorem dX3_dirtyCards_22 : decode cX3_dirtyCards 22 = .ok (.iinc 1 1, 3) := by decide +kernel
theorem dX3_dirtyCards_25 : decode cX3_dirtyCards 25 = .ok (.iinc 2 1, 3) := by decide +kernel
theorem dX3_dirtyCards_28 : decode cX3_dirtyCards 28 = .ok (.goto (-24), 3) := by decide +kernel
theorem dX3_dirtyCards_31 : decode cX3_dirtyCards 31 = .ok (.iload_n 1, 1) := by decide +kernel
theorem dX3_dirtyCards_32 : decode cX3_dirtyCards 32 = .ok (.ireturn, 1) := by decide +kernel
set_option maxRecDepth 20000 in
theorem ggX4_init_X5_init : GoodIn wsX4_init wsX5_init := goodIn_r _ [13, 14, 2, 3, 15, 16, 17, 18] (by decide +kernel) (by decide +kernel)
set_option maxRecDepth 20000 in
theorem gX4_init_X5_init_n11 : GoodIn wsX4_init (wsX5_init) := ggX4_init_X5_init
theorem dX4_init_0 : decode cX4_init 0 = .ok (.aload_n 0, 1) := by decide +kernel
theorem dX4_init_1 : decode cX4_init 1 = .ok (.invokespecial 3, 3) := by decide +kernel
theorem dX4_init_4 : decode cX4_init 4 = .ok (.aload_n 0, 1) := by decide +kernel
theorem dX4_init_5 : decode cX4_init 5 = .ok (.new 9, 3) := by decide +kernel
theorem dX4_init_8 : decode cX4_init 8 = .ok (.dup, 1) := by decide +kernel
theorem dX4_init_9 : decode cX4_init 9 = .ok (.invokespecial 11, 3) := by decide +kernel
theorem dX4_init_12 : decode cX4_init 12 = .ok (.putfield 12, 3) := by decide +kernel
theorem dX4_init_15 : decode cX4_init 15 = .ok (.aload_n 0, 1) := by decide +kernel
theorem dX4_init_16 : decode cX4_init 16 = .ok (.bipush 32, 2) := by decide +kernel
theorem dX4_init_18 : decode cX4_init 18 = .ok (.anewarray 18, 3) := by decide +kernel
theorem dX4_init_21 : decode cX4_init 21 = .ok (.putfield 20, 3) := by decide +kernel
theorem dX4_init_24 : decode cX4_init 24 = .ok (.aload_n 0, 1) := by decide +kernel
theorem dX4_init_25 : decode cX4_init 25 = .ok (.iconst 4, 1) := by decide +kernel
theorem dX4_init_26 : decode cX4_init 26 = .ok (.anewarray 18, 3) := by decide +kernel
theorem dX4_init_29 : decode cX4_init 29 = .ok (.putfield 24, 3) := by decide +kernel
theorem dX4_init_32 : decode cX4_init 32 = .ok (.aload_n 0, 1) := by decide +kernel
theorem dX4_init_33 : decode cX4_init 33 = .ok (.iconst 1, 1) := by decide +kernel
theorem dX4_init_34 : decode cX4_init 34 = .ok (.putfield 27, 3) := by decide +kernel
theorem dX4_init_37 : decode cX4_init 37 = .ok (.return_, 1) := by decide +kernel
theorem dX4_frames_0 : decode cX4_frames 0 = .ok (.aload_n 0, 1) := by decide +kernel
theorem dX4_frames_1 : decode cX4_frames 1 = .ok (.getfield 27, 3) := by decide +kernel
theorem dX4_frames_4 : decode cX4_frames 4 = .ok (.ireturn, 1) := by decide +kernel
theorem dX4_addFrame_0 : decode cX4_addFrame 0 = .ok (.aload_n 0, 1) := by decide +kernel
theorem dX4_addFrame_1 : decode cX4_addFrame 1 = .ok (.getfield 27, 3) := by decide +kernel
theorem dX4_addFrame_4 : decode cX4_addFrame 4 = .ok (.bipush 8, 2) := by decide +kernel
theorem dX4_addFrame_6 : decode cX4_addFrame 6 = .ok (.if_icmp .ge 13, 3) := by decide +kernel
theorem dX4_addFrame_9 : decode cX4_addFrame 9 = .ok (.aload_n 0, 1) := by decide +kernel
theorem dX4_addFrame_10 : decode cX4_addFrame 10 = .ok (.dup, 1) := by decide +kernel
theorem dX4_addFrame_11 : decode cX4_addFrame 11 = .ok (.getfield 27, 3) := by decide +kernel
theorem dX4_addFrame_14 : decode cX4_addFrame 14 = .ok (.iconst 1, 1) := by decide +kernel
theorem dX4_addFrame_15 : decode cX4_addFrame 15 = .ok (.iadd, 1) := by decide +kernel
theorem dX4_addFrame_16 : decode cX4_addFrame 16 = .ok (.putfield 27, 3) := by decide +kernel
theorem dX4_addFrame_19 : decode cX4_addFrame 19 = .ok (.return_, 1) := by decide +kernel
set_option maxRecDepth 20000 in
theorem ggX4_dropFrame_X4_writeSlot : GoodIn wsX4_dropFrame wsX4_writeSlot := goodIn_r _ [6, 7, 8, 9, 10, 5, 11, 1, 12, 13, 14, 15] (by decide +kernel) (by decide +kernel)
set_option maxRecDepth 20000 in
theorem gX4_dropFrame_X4_writeSlot : GoodIn wsX4_dropFrame (wsV RX4 31 RX4 yX4_writeSlot wsX4_writeSlot) := goodIn_app (goodIn_of _ (by decide +kernel)) ggX4_dropFrame_X4_writeSlot
theorem dX4_dropFrame_0 : decode cX4_dropFrame 0 = .ok (.iconst 0, 1) := by decide +kernel
theorem dX4_dropFrame_1 : decode cX4_dropFrame 1 = .ok (.istore_n 1, 1) := by decide +kernel
theorem dX4_dropFrame_2 : decode cX4_dropFrame 2 = .ok (.iload_n 1, 1) := by decide +kernel
theorem dX4_dropFrame_3 : decode cX4_dropFrame 3 = .ok (.iconst 4, 1) := by decide +kernel
theorem dX4_dropFrame_4 : decode cX4_dropFrame 4 = .ok (.if_icmp .ge 15, 3) := by decide +kernel
theorem dX4_dropFrame_7 : decode cX4_dropFrame 7 = .ok (.aload_n 0, 1) := by decide +kernel
theorem dX4_dropFrame_8 : decode cX4_dropFrame 8 = .ok (.iload_n 1, 1) := by decide +kernel
theorem dX4_dropFrame_9 : decode cX4_dropFrame 9 = .ok (.aconst_null, 1) := by decide +kernel
theorem dX4_dropFrame_10 : decode cX4_dropFrame 10 = .ok (.invokevirtual 31, 3) := by decide +kernel
theorem dX4_dropFrame_13 : decode cX4_dropFrame 13 = .ok (.iinc 1 1, 3) := by decide +kernel
theorem dX4_dropFrame_16 : decode cX4_dropFrame 16 = .ok (.goto (-14), 3) := by decide +kernel
theorem dX4_dropFrame_19 : decode cX4_dropFrame 19 = .ok (.aload_n 0, 1) := by decide +kernel
theorem dX4_dropFrame_20 : decode cX4_dropFrame 20 = .ok (.getfield 27, 3) := by decide +kernel
theorem dX4_dropFrame_23 : decode cX4_dropFrame 23 = .ok (.iconst 1, 1) := by decide +kernel
theorem dX4_dropFrame_24 : decode cX4_dropFrame 24 = .ok (.if_icmp .le 13, 3) := by decide +kernel
theorem dX4_dropFrame_27 : decode cX4_dropFrame 27 = .ok (.aload_n 0, 1) := by decide +kernel
theorem dX4_dropFrame_28 : decode cX4_dropFrame 28 = .ok (.dup, 1) := by decide +kernel
theorem dX4_dropFrame_29 : decode cX4_dropFrame 29 = .ok (.getfield 27, 3) := by decide +kernel
theorem dX4_dropFrame_32 : decode cX4_dropFrame 32 = .ok (.iconst 1, 1) := by decide +kernel
theorem dX4_dropFrame_33 : decode cX4_dropFrame 33 = .ok (.isub, 1) := by decide +kernel
theorem dX4_dropFrame_34 : decode cX4_dropFrame 34 = .ok (.putfield 27, 3) := by decide +kernel
theorem dX4_dropFrame_37 : decode cX4_dropFrame 37 = .ok (.return_, 1) := by decide +kernel
theorem dX4_indexOf_0 : decode cX4_indexOf 0 = .ok (.iload_n 1, 1) := by decide +kernel
theorem dX4_indexOf_1 : decode cX4_indexOf 1 = .ok (.ifCond .lt 8, 3) := by decide +kernel
theorem dX4_indexOf_4 : decode cX4_indexOf 4 = .ok (.iload_n 1, 1) := by decide +kernel
theorem dX4_indexOf_5 : decode cX4_indexOf 5 = .ok (.iconst 4, 1) := by decide +kernel
theorem dX4_indexOf_6 : decode cX4_indexOf 6 = .ok (.if_icmp .lt 7, 3) := by decide +kernel
theorem dX4_indexOf_9 : decode cX4_indexOf 9 = .ok (.iconst (-1), 1) := by decide +kernel
theorem dX4_indexOf_10 : decode cX4_indexOf 10 = .ok (.goto 13, 3) := by decide +kernel
theorem dX4_indexOf_13 : decode cX4_indexOf 13 = .ok (.aload_n 0, 1) := by decide +kernel
theorem dX4_indexOf_14 : decode cX4_indexOf 14 = .ok (.getfield 27, 3) := by decide +kernel
theorem dX4_indexOf_17 : decode cX4_indexOf 17 = .ok (.iconst 1, 1) := by decide +kernel
theorem dX4_indexOf_18 : decode cX4_indexOf 18 = .ok (.isub, 1) := by decide +kernel
theorem dX4_indexOf_19 : decode cX4_indexOf 19 = .ok (.iconst 4, 1) := by decide +kernel
theorem dX4_indexOf_20 : decode cX4_indexOf 20 = .ok (.imul, 1) := by decide +kernel
theorem dX4_indexOf_21 : decode cX4_indexOf 21 = .ok (.iload_n 1, 1) := by decide +kernel
theorem dX4_indexOf_22 : decode cX4_indexOf 22 = .ok (.iadd, 1) := by decide +kernel
theorem dX4_indexOf_23 : decode cX4_indexOf 23 = .ok (.ireturn, 1) := by decide +kernel
set_option maxRecDepth 20000 in
theorem ggX4_readSlot_X4_indexOf : GoodIn wsX4_readSlot wsX4_indexOf := goodIn_r _ [6, 7, 8, 9, 10, 11] (by decide +kernel) (by decide +kernel)
set_option maxRecDepth 20000 in
theorem gX4_readSlot_X4_indexOf : GoodIn wsX4_readSlot (wsV RX4 35 RX4 yX4_indexOf wsX4_indexOf) := goodIn_app (goodIn_of _ (by decide +kernel)) ggX4_readSlot_X4_indexOf
theorem dX4_readSlot_0 : decode cX4_readSlot 0 = .ok (.aload_n 0, 1) := by decide +kernel
theorem dX4_readSlot_1 : decode cX4_readSlot 1 = .ok (.iload_n 1, 1) := by decide +kernel
theorem dX4_readSlot_2 : decode cX4_readSlot 2 = .ok (.invokevirtual 35, 3) := by decide +kernel
theorem dX4_readSlot_5 : decode cX4_readSlot 5 = .ok (.istore_n 2, 1) := by decide +kernel
theorem dX4_readSlot_6 : decode cX4_readSlot 6 = .ok (.iload_n 2, 1) := by decide +kernel
theorem dX4_readSlot_7 : decode cX4_readSlot 7 = .ok (.ifCond .lt 21, 3) := by decide +kernel
theorem dX4_readSlot_10 : decode cX4_readSlot 10 = .ok (.iload_n 2, 1) := by decide +kernel
theorem dX4_readSlot_11 : decode cX4_readSlot 11 = .ok (.aload_n 0, 1) := by decide +kernel
theorem dX4_readSlot_12 : decode cX4_readSlot 12 = .ok (.getfield 20, 3) := by decide +kernel
theorem dX4_readSlot_15 : decode cX4_readSlot 15 = .ok (.arraylength, 1) := by decide +kernel
theorem dX4_readSlot_16 : decode cX4_readSlot 16 = .ok (.if_icmp .ge 12, 3) := by decide +kernel
theorem dX4_readSlot_19 : decode cX4_readSlot 19 = .ok (.aload_n 0, 1) := by decide +kernel
theorem dX4_readSlot_20 : decode cX4_readSlot 20 = .ok (.getfield 20, 3) := by decide +kernel
theorem dX4_readSlot_23 : decode cX4_readSlot 23 = .ok (.iload_n 2, 1) := by decide +kernel
theorem dX4_readSlot_24 : decode cX4_readSlot 24 = .ok (.aaload, 1) := by decide +kernel
theorem dX4_readSlot_25 : decode cX4_readSlot 25 = .ok (.goto 4, 3) := by decide +kernel
theorem dX4_readSlot_28 : decode cX4_readSlot 28 = .ok (.aconst_null, 1) := by decide +kernel
theorem dX4_readSlot_29 : decode cX4_readSlot 29 = .ok (.areturn, 1) := by decide +kernel
set_option maxRecDepth 20000 in
theorem ggX4_writeSlot_X4_indexOf : GoodIn wsX4_writeSlot wsX4_indexOf := goodIn_r _ [6, 7, 8, 9, 10, 11] (by decide +kernel) (by decide +kernel)
set_option maxRecDepth 20000 in
theorem gX4_writeSlot_X4_indexOf : GoodIn wsX4_writeSlot (wsV RX4 35 RX4 yX4_indexOf wsX4_indexOf) := goodIn_app (goodIn_of _ (by decide +kernel)) ggX4_writeSlot_X4_indexOf
theorem dX4_writeSlot_0 : decode cX4_writeSlot 0 = .ok (.aload_n 0, 1) := by decide +kernel
theorem dX4_writeSlot_1 : decode cX4_writeSlot 1 = .ok (.iload_n 1, 1) := by decide +kernel
theorem dX4_writeSlot_2 : decode cX4_writeSlot 2 = .ok (.invokevirtual 35, 3) := by decide +kernel
theorem dX4_writeSlot_5 : decode cX4_writeSlot 5 = .ok (.istore_n 3, 1) := by decide +kernel
theorem dX4_writeSlot_6 : decode cX4_writeSlot 6 = .ok (.iload_n 3, 1) := by decide +kernel
theorem dX4_writeSlot_7 : decode cX4_writeSlot 7 = .ok (.ifCond .lt 19, 3) := by decide +kernel
theorem dX4_writeSlot_10 : decode cX4_writeSlot 10 = .ok (.iload_n 3, 1) := by decide +kernel
theorem dX4_writeSlot_11 : decode cX4_writeSlot 11 = .ok (.aload_n 0, 1) := by decide +kernel
theorem dX4_writeSlot_12 : decode cX4_writeSlot 12 = .ok (.getfield 20, 3) := by decide +kernel
theorem dX4_writeSlot_15 : decode cX4_writeSlot 15 = .ok (.arraylength, 1) := by decide +kernel
theorem dX4_writeSlot_16 : decode cX4_writeSlot 16 = .ok (.if_icmp .ge 10, 3) := by decide +kernel
theorem dX4_writeSlot_19 : decode cX4_writeSlot 19 = .ok (.aload_n 0, 1) := by decide +kernel
theorem dX4_writeSlot_20 : decode cX4_writeSlot 20 = .ok (.getfield 20, 3) := by decide +kernel
theorem dX4_writeSlot_23 : decode cX4_writeSlot 23 = .ok (.iload_n 3, 1) := by decide +kernel
theorem dX4_writeSlot_24 : decode cX4_writeSlot 24 = .ok (.aload_n 2, 1) := by decide +kernel
theorem dX4_writeSlot_25 : decode cX4_writeSlot 25 = .ok (.aastore, 1) := by decide +kernel
theorem dX4_writeSlot_26 : decode cX4_writeSlot 26 = .ok (.return_, 1) := by decide +kernel
theorem dX4_readGlobal_0 : decode cX4_readGlobal 0 = .ok (.iload_n 1, 1) := by decide +kernel
theorem dX4_readGlobal_1 : decode cX4_readGlobal 1 = .ok (.ifCond .lt 21, 3) := by decide +kernel
theorem dX4_readGlobal_4 : decode cX4_readGlobal 4 = .ok (.iload_n 1, 1) := by decide +kernel
theorem dX4_readGlobal_5 : decode cX4_readGlobal 5 = .ok (.aload_n 0, 1) := by decide +kernel
theorem dX4_readGlobal_6 : decode cX4_readGlobal 6 = .ok (.getfield 24, 3) := by decide +kernel
theorem dX4_readGlobal_9 : decode cX4_readGlobal 9 = .ok (.arraylength, 1) := by decide +kernel
theorem dX4_readGlobal_10 : decode cX4_readGlobal 10 = .ok (.if_icmp .ge 12, 3) := by decide +kernel
theorem dX4_readGlobal_13 : decode cX4_readGlobal 13 = .ok (.aload_n 0, 1) := by decide +kernel
theorem dX4_readGlobal_14 : decode cX4_readGlobal 14 = .ok (.getfield 24, 3) := by decide +kernel
theorem dX4_readGlobal_17 : decode cX4_readGlobal 17 = .ok (.iload_n 1, 1) := by decide +kernel
theorem dX4_readGlobal_18 : decode cX4_readGlobal 18 = .ok (.aaload, 1) := by decide +kernel
theorem dX4_readGlobal_19 : decode cX4_readGlobal 19 = .ok (.goto 4, 3) := by decide +kernel
theorem dX4_readGlobal_22 : decode cX4_readGlobal 22 = .ok (.aconst_null, 1) := by decide +kernel
theorem dX4_readGlobal_23 : decode cX4_readGlobal 23 = .ok (.areturn, 1) := by decide +kernel
theorem dX4_writeGlobal_0 : decode cX4_writeGlobal 0 = .ok (.iload_n 1, 1) := by decide +kernel
theorem dX4_writeGlobal_1 : decode cX4_writeGlobal 1 = .ok (.ifCond .lt 19, 3) := by decide +kernel
theorem dX4_writeGlobal_4 : decode cX4_writeGlobal 4 = .ok (.iload_n 1, 1) := by decide +kernel
theorem dX4_writeGlobal_5 : decode cX4_writeGlobal 5 = .ok (.aload_n 0, 1) := by decide +kernel
theorem dX4_writeGlobal_6 : decode cX4_writeGlobal 6 = .ok (.getfield 24, 3) := by decide +kernel
theorem dX4_writeGlobal_9 : decode cX4_writeGlobal 9 = .ok (.arraylength, 1) := by decide +kernel
theorem dX4_writeGlobal_10 : decode cX4_writeGlobal 10 = .ok (.if_icmp .ge 10, 3) := by decide +kernel
theorem dX4_writeGlobal_13 : decode cX4_writeGlobal 13 = .ok (.aload_n 0, 1) := by decide +kernel
theorem dX4_writeGlobal_14 : decode cX4_writeGlobal 14 = .ok (.getfield 24, 3) := by decide +kernel
theorem dX4_writeGlobal_17 : decode cX4_writeGlobal 17 = .ok (.iload_n 1, 1) := by decide +kernel
theorem dX4_writeGlobal_18 : decode cX4_writeGlobal 18 = .ok (.aload_n 2, 1) := by decide +kernel
theorem dX4_writeGlobal_19 : decode cX4_writeGlobal 19 = .ok (.aastore, 1) := by decide +kernel
theorem dX4_writeGlobal_20 : decode cX4_writeGlobal 20 = .ok (.return_, 1) := by decide +kernel
set_option maxRecDepth 20000 in
theorem ggX4_count_X5_size : GoodIn wsX4_count wsX5_size := goodIn_r _ [7, 8, 13, 14] (by decide +kernel) (by decide +kernel)
set_option maxRecDepth 20000 in
theorem gX4_count_X5_size : GoodIn wsX4_count (wsV RX4 39 RX5 yX5_size wsX5_size) := goodIn_app (goodIn_of _ (by decide +kernel)) ggX4_count_X5_size
theorem dX4_count_0 : decode cX4_count 0 = .ok (.aload_n 0, 1) := by decide +kernel
theorem dX4_count_1 : decode cX4_count 1 = .ok (.getfield 27, 3) := by decide +kernel
theorem dX4_count_4 : decode cX4_count 4 = .ok (.iconst 4, 1) := by decide +kernel
theorem dX4_count_5 : decode cX4_count 5 = .ok (.imul, 1) := by decide +kernel
theorem dX4_count_6 : decode cX4_count 6 = .ok (.iconst 4, 1) := by decide +kernel
theorem dX4_count_7 : decode cX4_count 7 = .ok (.iadd, 1) := by decide +kernel
theorem dX4_count_8 : decode cX4_count 8 = .ok (.aload_n 0, 1) := by decide +kernel
theorem dX4_count_9 : decode cX4_count 9 = .ok (.getfield 12, 3) := by decide +kernel
theorem dX4_count_12 : decode cX4_count 12 = .ok (.invokevirtual 39, 3) := by decide +kernel
theorem dX4_count_15 : decode cX4_count 15 = .ok (.iadd, 1) := by decide +kernel
theorem dX4_count_16 : decode cX4_count 16 = .ok (.ireturn, 1) := by decide +kernel
set_option maxRecDepth 20000 in
theorem ggX4_root_X4_readGlobal : GoodIn wsX4_root wsX4_readGlobal := goodIn_r _ [8, 9, 17, 18, 19, 20] (by decide +kernel) (by decide +kernel)
set_option maxRecDepth 20000 in
theorem gX4_root_X4_readGlobal : GoodIn wsX4_root (wsV RX4 43 RX4 yX4_readGlobal wsX4_readGlobal) := goodIn_app (goodIn_of _ (by decide +kernel)) ggX4_root_X4_readGlobal
set_option maxRecDepth 20000 in
theorem ggX4_root_X5_item : GoodIn wsX4_root wsX5_item := goodIn_r _ [14, 15, 16, 21, 22] (by decide +kernel) (by decide +kernel)
set_option maxRecDepth 20000 in
theorem gX4_root_X5_item : GoodIn wsX4_root (wsV RX4 47 RX5 yX5_item wsX5_item) := goodIn_app (goodIn_of _ (by decide +kernel)) ggX4_root_X5_item
theorem dX4_root_0 : decode cX4_root 0 = .ok (.aload_n 0, 1) := by decide +kernel
theorem dX4_root_1 : decode cX4_root 1 = .ok (.getfield 27, 3) := by decide +kernel
theorem dX4_root_4 : decode cX4_root 4 = .ok (.iconst 4, 1) := by decide +kernel
theorem dX4_root_5 : decode cX4_root 5 = .ok (.imul, 1) := by decide +kernel
theorem dX4_root_6 : decode cX4_root 6 = .ok (.istore_n 2, 1) := by decide +kernel
theorem dX4_root_7 : decode cX4_root 7 = .ok (.iload_n 1, 1) := by decide +kernel
theorem dX4_root_8 : decode cX4_root 8 = .ok (.iload_n 2, 1) := by decide +kernel
theorem dX4_root_9 : decode cX4_root 9 = .ok (.if_icmp .ge 27, 3) := by decide +kernel
theorem dX4_root_12 : decode cX4_root 12 = .ok (.iload_n 1, 1) := by decide +kernel
theorem dX4_root_13 : decode cX4_root 13 = .ok (.ifCond .lt 21, 3) := by decide +kernel
theorem dX4_root_16 : decode cX4_root 16 = .ok (.iload_n 1, 1) := by decide +kernel
theorem dX4_root_17 : decode cX4_root 17 = .ok (.aload_n 0, 1) := by decide +kernel
theorem dX4_root_18 : decode cX4_root 18 = .ok (.getfield 20, 3) := by decide +kernel
theorem dX4_root_21 : decode cX4_root 21 = .ok (.arraylength, 1) := by decide +kernel
theorem dX4_root_22 : decode cX4_root 22 = .ok (.if_icmp .ge 12, 3) := by decide +kernel
theorem dX4_root_25 : decode cX4_root 25 = .ok (.aload_n 0, 1) := by decide +kernel
theorem dX4_root_26 : decode cX4_root 26 = .ok (.getfield 20, 3) := by decide +kernel
theorem dX4_root_29 : decode cX4_root 29 = .ok (.iload_n 1, 1) := by decide +kernel
theorem dX4_root_30 : decode cX4_root 30 = .ok (.aaload, 1) := by decide +kernel
theorem dX4_root_31 : decode cX4_root 31 = .ok (.goto 4, 3) := by decide +kernel
theorem dX4_root_34 : decode cX4_root 34 = .ok (.aconst_null, 1) := by decide +kernel
theorem dX4_root_35 : decode cX4_root 35 = .ok (.areturn, 1) := by decide +kernel
theorem dX4_root_36 : decode cX4_root 36 = .ok (.iload_n 1, 1) := by decide +kernel
theorem dX4_root_37 : decode cX4_root 37 = .ok (.iload_n 2, 1) := by decide +kernel
theorem dX4_root_38 : decode cX4_root 38 = .ok (.isub, 1) := by decide +kernel
theorem dX4_root_39 : decode cX4_root 39 = .ok (.istore_n 3, 1) := by decide +kernel
theorem dX4_root_40 : decode cX4_root 40 = .ok (.iload_n 3, 1) := by decide +kernel
theorem dX4_root_41 : decode cX4_root 41 = .ok (.iconst 4, 1) := by decide +kernel
theorem dX4_root_42 : decode cX4_root 42 = .ok (.if_icmp .ge 11, 3) := by decide +kernel
theorem dX4_root_45 : decode cX4_root 45 = .ok (.aload_n 0, 1) := by decide +kernel
theorem dX4_root_46 : decode cX4_root 46 = .ok (.iload_n 3, 1) := by decide +kernel
theorem dX4_root_47 : decode cX4_root 47 = .ok (.invokevirtual 43, 3) := by decide +kernel
theorem dX4_root_50 : decode cX4_root 50 = .ok (.goto 13, 3) := by decide +kernel
theorem dX4_root_53 : decode cX4_root 53 = .ok (.aload_n 0, 1) := by decide +kernel
theorem dX4_root_54 : decode cX4_root 54 = .ok (.getfield 12, 3) := by decide +kernel
theorem dX4_root_57 : decode cX4_root 57 = .ok (.iload_n 3, 1) := by decide +kernel
theorem dX4_root_58 : decode cX4_root 58 = .ok (.iconst 4, 1) := by decide +kernel
theorem dX4_root_59 : decode cX4_root 59 = .ok (.isub, 1) := by decide +kernel
theorem dX4_root_60 : decode cX4_root 60 = .ok (.invokevirtual 47, 3) := by decide +kernel
theorem dX4_root_63 : decode cX4_root 63 = .ok (.areturn, 1) := by decide +kernel
theorem dX5_init_0 : decode cX5_init 0 = .ok (.aload_n 0, 1) := by decide +kernel
theorem dX5_init_1 : decode cX5_init 1 = .ok (.invokespecial 3, 3) := by decide +kernel
theorem dX5_init_4 : decode cX5_init 4 = .ok (.aload_n 0, 1) := by decide +kernel
theorem dX5_init_5 : decode cX5_init 5 = .ok (.sipush 200, 3) := by decide +kernel
theorem dX5_init_8 : decode cX5_init 8 = .ok (.anewarray 9, 3) := by decide +kernel
theorem dX5_init_11 : decode cX5_init 11 = .ok (.putfield 11, 3) := by decide +kernel
theorem dX5_init_14 : decode cX5_init 14 = .ok (.return_, 1) := by decide +kernel
theorem dX5_size_0 : decode cX5_size 0 = .ok (.aload_n 0, 1) := by decide +kernel
theorem dX5_size_1 : decode cX5_size 1 = .ok (.getfield 17, 3) := by decide +kernel
theorem dX5_size_4 : decode cX5_size 4 = .ok (.ireturn, 1) := by decide +kernel
theorem dX5_item_0 : decode cX5_item 0 = .ok (.iload_n 1, 1) := by decide +kernel
theorem dX5_item_1 : decode cX5_item 1 = .ok (.ifCond .lt 29, 3) := by decide +kernel
theorem dX5_item_4 : decode cX5_item 4 = .ok (.iload_n 1, 1) := by decide +kernel
theorem dX5_item_5 : decode cX5_item 5 = .ok (.aload_n 0, 1) := by decide +kernel
theorem dX5_item_6 : decode cX5_item 6 = .ok (.getfield 17, 3) := by decide +kernel
theorem dX5_item_9 : decode cX5_item 9 = .ok (.if_icmp .ge 21, 3) := by decide +kernel
theorem dX5_item_12 : decode cX5_item 12 = .ok (.iload_n 1, 1) := by decide +kernel
theorem dX5_item_13 : decode cX5_item 13 = .ok (.aload_n 0, 1) := by decide +kernel
theorem dX5_item_14 : decode cX5_item 14 = .ok (.getfield 11, 3) := by decide +kernel
theorem dX5_item_17 : decode cX5_item 17 = .ok (.arraylength, 1) := by decide +kernel
theorem dX5_item_18 : decode cX5_item 18 = .ok (.if_icmp .ge 12, 3) := by decide +kernel
theorem dX5_item_21 : decode cX5_item 21 = .ok (.aload_n 0, 1) := by decide +kernel
theorem dX5_item_22 : decode cX5_item 22 = .ok (.getfield 11, 3) := by decide +kernel
theorem dX5_item_25 : decode cX5_item 25 = .ok (.iload_n 1, 1) := by decide +kernel
theorem dX5_item_26 : decode cX5_item 26 = .ok (.aaload, 1) := by decide +kernel
theorem dX5_item_27 : decode cX5_item 27 = .ok (.goto 4, 3) := by decide +kernel
theorem dX5_item_30 : decode cX5_item 30 = .ok (.aconst_null, 1) := by decide +kernel
theorem dX5_item_31 : decode cX5_item 31 = .ok (.areturn, 1) := by decide +kernel
theorem dX5_add_0 : decode cX5_add 0 = .ok (.aload_n 0, 1) := by decide +kernel
theorem dX5_add_1 : decode cX5_add 1 = .ok (.getfield 17, 3) := by decide +kernel
theorem dX5_add_4 : decode cX5_add 4 = .ok (.ifCond .lt 35, 3) := by decide +kernel
theorem dX5_add_7 : decode cX5_add 7 = .ok (.aload_n 0, 1) := by decide +kernel
theorem dX5_add_8 : decode cX5_add 8 = .ok (.getfield 17, 3) := by decide +kernel
theorem dX5_add_11 : decode cX5_add 11 = .ok (.aload_n 0, 1) := by decide +kernel
theorem dX5_add_12 : decode cX5_add 12 = .ok (.getfield 11, 3) := by decide +kernel
theorem dX5_add_15 : decode cX5_add 15 = .ok (.arraylength, 1) := by decide +kernel
theorem dX5_add_16 : decode cX5_add 16 = .ok (.if_icmp .ge 23, 3) := by decide +kernel
theorem dX5_add_19 : decode cX5_add 19 = .ok (.aload_n 0, 1) := by decide +kernel
theorem dX5_add_20 : decode cX5_add 20 = .ok (.getfield 11, 3) := by decide +kernel
theorem dX5_add_23 : decode cX5_add 23 = .ok (.aload_n 0, 1) := by decide +kernel
theorem dX5_add_24 : decode cX5_add 24 = .ok (.getfield 17, 3) := by decide +kernel
theorem dX5_add_27 : decode cX5_add 27 = .ok (.aload_n 1, 1) := by decide +kernel
theorem dX5_add_28 : decode cX5_add 28 = .ok (.aastore, 1) := by decide +kernel
theorem dX5_add_29 : decode cX5_add 29 = .ok (.aload_n 0, 1) := by decide +kernel
theorem dX5_add_30 : decode cX5_add 30 = .ok (.dup, 1) := by decide +kernel
theorem dX5_add_31 : decode cX5_add 31 = .ok (.getfield 17, 3) := by decide +kernel
theorem dX5_add_34 : decode cX5_add 34 = .ok (.iconst 1, 1) := by decide +kernel
theorem dX5_add_35 : decode cX5_add 35 = .ok (.iadd, 1) := by decide +kernel
theorem dX5_add_36 : decode cX5_add 36 = .ok (.putfield 17, 3) := by decide +kernel
theorem dX5_add_39 : decode cX5_add 39 = .ok (.return_, 1) := by decide +kernel
set_option maxRecDepth 20000 in
theorem ggX5_addByAddress_X5_add : GoodIn wsX5_addByAddress wsX5_add := goodIn_r _ [8, 1, 2, 9, 10] (by decide +kernel) (by decide +kernel)
set_option maxRecDepth 20000 in
theorem gX5_addByAddress_X5_add : GoodIn wsX5_addByAddress (wsV RX5 21 RX5 yX5_add wsX5_add) := goodIn_app (goodIn_of _ (by decide +kernel)) ggX5_addByAddress_X5_add
theorem dX5_addByAddress_0 : decode cX5_addByAddress 0 = .ok (.aload_n 0, 1) := by decide +kernel
theorem dX5_addByAddress_1 : decode cX5_addByAddress 1 = .ok (.aload_n 1, 1) := by decide +kernel
theorem dX5_addByAddress_2 : decode cX5_addByAddress 2 = .ok (.invokevirtual 21, 3) := by decide +kernel
theorem dX5_addByAddress_5 : decode cX5_addByAddress 5 = .ok (.aload_n 0, 1) := by decide +kernel
theorem dX5_addByAddress_6 : decode cX5_addByAddress 6 = .ok (.getfield 17, 3) := by decide +kernel
theorem dX5_addByAddress_9 : decode cX5_addByAddress 9 = .ok (.iconst 1, 1) := by decide +kernel
theorem dX5_addByAddress_10 : decode cX5_addByAddress 10 = .ok (.isub, 1) := by decide +kernel
theorem dX5_addByAddress_11 : decode cX5_addByAddress 11 = .ok (.istore_n 2, 1) := by decide +kernel
theorem dX5_addByAddress_12 : decode cX5_addByAddress 12 = .ok (.iload_n 2, 1) := by decide +kernel
theorem dX5_addByAddress_13 : decode cX5_addByAddress 13 = .ok (.ifCond .le 59, 3) := by decide +kernel
theorem dX5_addByAddress_16 : decode cX5_addByAddress 16 = .ok (.iload_n 2, 1) := by decide +kernel
theorem dX5_addByAddress_17 : decode cX5_addByAddress 17 = .ok (.aload_n 0, 1) := by decide +kernel
theorem dX5_addByAddress_18 : decode cX5_addByAddress 18 = .ok (.getfield 11, 3) := by decide +kernel
theorem dX5_addByAddress_21 : decode cX5_addByAddress 21 = .ok (.arraylength, 1) := by decide +kernel
theorem dX5_addByAddress_22 : decode cX5_addByAddress 22 = .ok (.if_icmp .ge 50, 3) := by decide +kernel
theorem dX5_addByAddress_25 : decode cX5_addByAddress 25 = .ok (.aload_n 0, 1) := by decide +kernel
theorem dX5_addByAddress_26 : decode cX5_addByAddress 26 = .ok (.getfield 11, 3) := by decide +kernel
theorem dX5_addByAddress_29 : decode cX5_addByAddress 29 = .ok (.iload_n 2, 1) := by decide +kernel
theorem dX5_addByAddress_30 : decode cX5_addByAddress 30 = .ok (.iconst 1, 1) := by decide +kernel
theorem dX5_addByAddress_31 : decode cX5_addByAddress 31 = .ok (.isub, 1) := by decide +kernel
theorem dX5_addByAddress_32 : decode cX5_addByAddress 32 = .ok (.aaload, 1) := by decide +kernel
theorem dX5_addByAddress_33 : decode cX5_addByAddress 33 = .ok (.astore_n 3, 1) := by decide +kernel
theorem dX5_addByAddress_34 : decode cX5_addByAddress 34 = .ok (.aload_n 3, 1) := by decide +kernel
theorem dX5_addByAddress_35 : decode cX5_addByAddress 35 = .ok (.ifnull 14, 3) := by decide +kernel
theorem dX5_addByAddress_38 : decode cX5_addByAddress 38 = .ok (.aload_n 3, 1) := by decide +kernel
theorem dX5_addByAddress_39 : decode cX5_addByAddress 39 = .ok (.getfield 25, 3) := by decide +kernel
theorem dX5_addByAddress_42 : decode cX5_addByAddress 42 = .ok (.aload_n 1, 1) := by decide +kernel
theorem dX5_addByAddress_43 : decode cX5_addByAddress 43 = .ok (.getfield 25, 3) := by decide +kernel
theorem dX5_addByAddress_46 : decode cX5_addByAddress 46 = .ok (.if_icmp .gt 4, 3) := by decide +kernel
theorem dX5_addByAddress_49 : decode cX5_addByAddress 49 = .ok (.return_, 1) := by decide +kernel
theorem dX5_addByAddress_50 : decode cX5_addByAddress 50 = .ok (.aload_n 0, 1) := by decide +kernel
theorem dX5_addByAddress_51 : decode cX5_addByAddress 51 = .ok (.getfield 11, 3) := by decide +kernel
theorem dX5_addByAddress_54 : decode cX5_addByAddress 54 = .ok (.iload_n 2, 1) := by decide +kernel
theorem dX5_addByAddress_55 : decode cX5_addByAddress 55 = .ok (.aload_n 3, 1) := by decide +kernel
theorem dX5_addByAddress_56 : decode cX5_addByAddress 56 = .ok (.aastore, 1) := by decide +kernel
theorem dX5_addByAddress_57 : decode cX5_addByAddress 57 = .ok (.aload_n 0, 1) := by decide +kernel
theorem dX5_addByAddress_58 : decode cX5_addByAddress 58 = .ok (.getfield 11, 3) := by decide +kernel
theorem dX5_addByAddress_61 : decode cX5_addByAddress 61 = .ok (.iload_n 2, 1) := by decide +kernel
theorem dX5_addByAddress_62 : decode cX5_addByAddress 62 = .ok (.iconst 1, 1) := by decide +kernel
theorem dX5_addByAddress_63 : decode cX5_addByAddress 63 = .ok (.isub, 1) := by decide +kernel
theorem dX5_addByAddress_64 : decode cX5_addByAddress 64 = .ok (.aload_n 1, 1) := by decide +kernel
theorem dX5_addByAddress_65 : decode cX5_addByAddress 65 = .ok (.aastore, 1) := by decide +kernel
theorem dX5_addByAddress_66 : decode cX5_addByAddress 66 = .ok (.iinc 2 (-1), 3) := by decide +kernel
theorem dX5_addByAddress_69 : decode cX5_addByAddress 69 = .ok (.goto (-57), 3) := by decide +kernel
theorem dX5_addByAddress_72 : decode cX5_addByAddress 72 = .ok (.return_, 1) := by decide +kernel
set_option maxRecDepth 20000 in
theorem ggX5_removeFirst_X5_item : GoodIn wsX5_removeFirst wsX5_item := goodIn_r _ [7, 1, 2, 8, 9] (by decide +kernel) (by decide +kernel)
set_option maxRecDepth 20000 in
theorem gX5_removeFirst_X5_item : GoodIn wsX5_removeFirst (wsV RX5 28 RX5 yX5_item wsX5_item) := goodIn_app (goodIn_of _ (by decide +kernel)) ggX5_removeFirst_X5_item
theorem dX5_removeFirst_0 : decode cX5_removeFirst 0 = .ok (.aload_n 0, 1) := by decide +kernel
theorem dX5_removeFirst_1 : decode cX5_removeFirst 1 = .ok (.iconst 0, 1) := by decide +kernel
theorem dX5_removeFirst_2 : decode cX5_removeFirst 2 = .ok (.invokevirtual 28, 3) := by decide +kernel
theorem dX5_removeFirst_5 : decode cX5_removeFirst 5 = .ok (.astore_n 1, 1) := by decide +kernel
theorem dX5_removeFirst_6 : decode cX5_removeFirst 6 = .ok (.aload_n 1, 1) := by decide +kernel
theorem dX5_removeFirst_7 : decode cX5_removeFirst 7 = .ok (.ifnull 52, 3) := by decide +kernel
theorem dX5_removeFirst_10 : decode cX5_removeFirst 10 = .ok (.iconst 1, 1) := by decide +kernel
theorem dX5_removeFirst_11 : decode cX5_removeFirst 11 = .ok (.istore_n 2, 1) := by decide +kernel
theorem dX5_removeFirst_12 : decode cX5_removeFirst 12 = .ok (.iload_n 2, 1) := by decide +kernel
theorem dX5_removeFirst_13 : decode cX5_removeFirst 13 = .ok (.aload_n 0, 1) := by decide +kernel
theorem dX5_removeFirst_14 : decode cX5_removeFirst 14 = .ok (.getfield 17, 3) := by decide +kernel
theorem dX5_removeFirst_17 : decode cX5_removeFirst 17 = .ok (.if_icmp .ge 32, 3) := by decide +kernel
theorem dX5_removeFirst_20 : decode cX5_removeFirst 20 = .ok (.iload_n 2, 1) := by decide +kernel
theorem dX5_removeFirst_21 : decode cX5_removeFirst 21 = .ok (.aload_n 0, 1) := by decide +kernel
theorem dX5_removeFirst_22 : decode cX5_removeFirst 22 = .ok (.getfield 11, 3) := by decide +kernel
theorem dX5_removeFirst_25 : decode cX5_removeFirst 25 = .ok (.arraylength, 1) := by decide +kernel
theorem dX5_removeFirst_26 : decode cX5_removeFirst 26 = .ok (.if_icmp .ge 23, 3) := by decide +kernel
theorem dX5_removeFirst_29 : decode cX5_removeFirst 29 = .ok (.aload_n 0, 1) := by decide +kernel
theorem dX5_removeFirst_30 : decode cX5_removeFirst 30 = .ok (.getfield 11, 3) := by decide +kernel
theorem dX5_removeFirst_33 : decode cX5_removeFirst 33 = .ok (.iload_n 2, 1) := by decide +kernel
theorem dX5_removeFirst_34 : decode cX5_removeFirst 34 = .ok (.iconst 1, 1) := by decide +kernel
theorem dX5_removeFirst_35 : decode cX5_removeFirst 35 = .ok (.isub, 1) := by decide +kernel
theorem dX5_removeFirst_36 : decode cX5_removeFirst 36 = .ok (.aload_n 0, 1) := by decide +kernel
theorem dX5_removeFirst_37 : decode cX5_removeFirst 37 = .ok (.getfield 11, 3) := by decide +kernel
theorem dX5_removeFirst_40 : decode cX5_removeFirst 40 = .ok (.iload_n 2, 1) := by decide +kernel
theorem dX5_removeFirst_41 : decode cX5_removeFirst 41 = .ok (.aaload, 1) := by decide +kernel
theorem dX5_removeFirst_42 : decode cX5_removeFirst 42 = .ok (.aastore, 1) := by decide +kernel
theorem dX5_removeFirst_43 : decode cX5_removeFirst 43 = .ok (.iinc 2 1, 3) := by decide +kernel
theorem dX5_removeFirst_46 : decode cX5_removeFirst 46 = .ok (.goto (-34), 3) := by decide +kernel
theorem dX5_removeFirst_49 : decode cX5_removeFirst 49 = .ok (.aload_n 0, 1) := by decide +kernel
theorem dX5_removeFirst_50 : decode cX5_removeFirst 50 = .ok (.dup, 1) := by decide +kernel
theorem dX5_removeFirst_51 : decode cX5_removeFirst 51 = .ok (.getfield 17, 3) := by decide +kernel
theorem dX5_removeFirst_54 : decode cX5_removeFirst 54 = .ok (.iconst 1, 1) := by decide +kernel
theorem dX5_removeFirst_55 : decode cX5_removeFirst 55 = .ok (.isub, 1) := by decide +kernel
theorem dX5_removeFirst_56 : decode cX5_removeFirst 56 = .ok (.putfield 17, 3) := by decide +kernel
theorem dX5_removeFirst_59 : decode cX5_removeFirst 59 = .ok (.aload_n 1, 1) := by decide +kernel
theorem dX5_removeFirst_60 : decode cX5_removeFirst 60 = .ok (.areturn, 1) := by decide +kernel
set_option maxRecDepth 20000 in
theorem ggX5_keepOnly_X5_add : GoodIn wsX5_keepOnly wsX5_add := goodIn_r _ [8, 1, 2, 9, 10] (by decide +kernel) (by decide +kernel)
set_option maxRecDepth 20000 in
theorem gX5_keepOnly_X5_add : GoodIn wsX5_keepOnly (wsV RX5 21 RX5 yX5_add wsX5_add) := goodIn_app (goodIn_of _ (by decide +kernel)) ggX5_keepOnly_X5_add
theorem dX5_keepOnly_0 : decode cX5_keepOnly 0 = .ok (.aload_n 0, 1) := by decide +kernel
theorem dX5_keepOnly_1 : decode cX5_keepOnly 1 = .ok (.getfield 17, 3) := by decide +kernel
theorem dX5_keepOnly_4 : decode cX5_keepOnly 4 = .ok (.istore_n 2, 1) := by decide +kernel
theorem dX5_keepOnly_5 : decode cX5_keepOnly 5 = .ok (.aload_n 0, 1) := by decide +kernel
theorem dX5_keepOnly_6 : decode cX5_keepOnly 6 = .ok (.iconst 0, 1) := by decide +kernel
theorem dX5_keepOnly_7 : decode cX5_keepOnly 7 = .ok (.putfield 17, 3) := by decide +kernel
theorem dX5_keepOnly_10 : decode cX5_keepOnly 10 = .ok (.iconst 0, 1) := by decide +kernel
theorem dX5_keepOnly_11 : decode cX5_keepOnly 11 = .ok (.istore_n 3, 1) := by decide +kernel
theorem dX5_keepOnly_12 : decode cX5_keepOnly 12 = .ok (.iload_n 3, 1) := by decide +kernel
theorem dX5_keepOnly_13 : decode cX5_keepOnly 13 = .ok (.iload_n 2, 1) := by decide +kernel
theorem dX5_keepOnly_14 : decode cX5_keepOnly 14 = .ok (.if_icmp .ge 46, 3) := by decide +kernel
theorem dX5_keepOnly_17 : decode cX5_keepOnly 17 = .ok (.iload_n 3, 1) := by decide +kernel
theorem dX5_keepOnly_18 : decode cX5_keepOnly 18 = .ok (.aload_n 0, 1) := by decide +kernel
theorem dX5_keepOnly_19 : decode cX5_keepOnly 19 = .ok (.getfield 11, 3) := by decide +kernel
theorem dX5_keepOnly_22 : decode cX5_keepOnly 22 = .ok (.arraylength, 1) := by decide +kernel
theorem dX5_keepOnly_23 : decode cX5_keepOnly 23 = .ok (.if_icmp .ge 37, 3) := by decide +kernel
theorem dX5_keepOnly_26 : decode cX5_keepOnly 26 = .ok (.aload_n 0, 1) := by decide +kernel
theorem dX5_keepOnly_27 : decode cX5_keepOnly 27 = .ok (.getfield 11, 3) := by decide +kernel
theorem dX5_keepOnly_30 : decode cX5_keepOnly 30 = .ok (.iload_n 3, 1) := by decide +kernel
theorem dX5_keepOnly_31 : decode cX5_keepOnly 31 = .ok (.aaload, 1) := by decide +kernel
theorem dX5_keepOnly_32 : decode cX5_keepOnly 32 = .ok (.astore 4, 2) := by decide +kernel
theorem dX5_keepOnly_34 : decode cX5_keepOnly 34 = .ok (.aload 4, 2) := by decide +kernel
theorem dX5_keepOnly_36 : decode cX5_keepOnly 36 = .ok (.ifnull 18, 3) := by decide +kernel
theorem dX5_keepOnly_39 : decode cX5_keepOnly 39 = .ok (.aload 4, 2) := by decide +kernel
theorem dX5_keepOnly_41 : decode cX5_keepOnly 41 = .ok (.getfield 32, 3) := by decide +kernel
theorem dX5_keepOnly_44 : decode cX5_keepOnly 44 = .ok (.iload_n 1, 1) := by decide +kernel
theorem dX5_keepOnly_45 : decode cX5_keepOnly 45 = .ok (.if_icmp .ne 9, 3) := by decide +kernel
theorem dX5_keepOnly_48 : decode cX5_keepOnly 48 = .ok (.aload_n 0, 1) := by decide +kernel
theorem dX5_keepOnly_49 : decode cX5_keepOnly 49 = .ok (.aload 4, 2) := by decide +kernel
theorem dX5_keepOnly_51 : decode cX5_keepOnly 51 = .ok (.invokevirtual 21, 3) := by decide +kernel
theorem dX5_keepOnly_54 : decode cX5_keepOnly 54 = .ok (.iinc 3 1, 3) := by decide +kernel
theorem dX5_keepOnly_57 : decode cX5_keepOnly 57 = .ok (.goto (-45), 3) := by decide +kernel
theorem dX5_keepOnly_60 : decode cX5_keepOnly 60 = .ok (.return_, 1) := by decide +kernel
theorem dX5_clear_0 : decode cX5_clear 0 = .ok (.aload_n 0, 1) := by decide +kernel
theorem dX5_clear_1 : decode cX5_clear 1 = .ok (.iconst 0, 1) := by decide +kernel
theorem dX5_clear_2 : decode cX5_clear 2 = .ok (.putfield 17, 3) := by decide +kernel
theorem dX5_clear_5 : decode cX5_clear 5 = .ok (.return_, 1) := by decide +kernel
theorem dX5_words_0 : decode cX5_words 0 = .ok (.iconst 0, 1) := by decide +kernel
theorem dX5_words_1 : decode cX5_words 1 = .ok (.istore_n 1, 1) := by decide +kernel
theorem dX5_words_2 : decode cX5_words 2 = .ok (.iconst 0, 1) := by decide +kernel
theorem dX5_words_3 : decode cX5_words 3 = .ok (.istore_n 2, 1) := by decide +kernel
theorem dX5_words_4 : decode cX5_words 4 = .ok (.iload_n 2, 1) := by decide +kernel
theorem dX5_words_5 : decode cX5_words 5 = .ok (.aload_n 0, 1) := by decide +kernel
theorem dX5_words_6 : decode cX5_words 6 = .ok (.getfield 17, 3) := by decide +kernel
theorem dX5_words_9 : decode cX5_words 9 = .ok (.if_icmp .ge 36, 3) := by decide +kernel
theorem dX5_words_12 : decode cX5_words 12 = .ok (.iload_n 2, 1) := by decide +kernel
theorem dX5_words_13 : decode cX5_words 13 = .ok (.aload_n 0, 1) := by decide +kernel
theorem dX5_words_14 : decode cX5_words 14 = .ok (.getfield 11, 3) := by decide +kernel
theorem dX5_words_17 : decode cX5_words 17 = .ok (.arraylength, 1) := by decide +kernel
theorem dX5_words_18 : decode cX5_words 18 = .ok (.if_icmp .ge 27, 3) := by decide +kernel
theorem dX5_words_21 : decode cX5_words 21 = .ok (.aload_n 0, 1) := by decide +kernel
theorem dX5_words_22 : decode cX5_words 22 = .ok (.getfield 11, 3) := by decide +kernel
theorem dX5_words_25 : decode cX5_words 25 = .ok (.iload_n 2, 1) := by decide +kernel
theorem dX5_words_26 : decode cX5_words 26 = .ok (.aaload, 1) := by decide +kernel
theorem dX5_words_27 : decode cX5_words 27 = .ok (.astore_n 3, 1) := by decide +kernel
theorem dX5_words_28 : decode cX5_words 28 = .ok (.aload_n 3, 1) := by decide +kernel
theorem dX5_words_29 : decode cX5_words 29 = .ok (.ifnull 10, 3) := by decide +kernel
theorem dX5_words_32 : decode cX5_words 32 = .ok (.iload_n 1, 1) := by decide +kernel
theorem dX5_words_33 : decode cX5_words 33 = .ok (.aload_n 3, 1) := by decide +kernel
theorem dX5_words_34 : decode cX5_words 34 = .ok (.getfield 35, 3) := by decide +kernel
theorem dX5_words_37 : decode cX5_words 37 = .ok (.iadd, 1) := by decide +kernel
theorem dX5_words_38 : decode cX5_words 38 = .ok (.istore_n 1, 1) := by decide +kernel
theorem dX5_words_39 : decode cX5_words 39 = .ok (.iinc 2 1, 3) := by decide +kernel
theorem dX5_words_42 : decode cX5_words 42 = .ok (.goto (-38), 3) := by decide +kernel
theorem dX5_words_45 : decode cX5_words 45 = .ok (.iload_n 1, 1) := by decide +kernel
theorem dX5_words_46 : decode cX5_words 46 = .ok (.ireturn, 1) := by decide +kernel
theorem dX5_pinned_0 : decode cX5_pinned 0 = .ok (.iconst 0, 1) := by decide +kernel
theorem dX5_pinned_1 : decode cX5_pinned 1 = .ok (.istore_n 1, 1) := by decide +kernel
theorem dX5_pinned_2 : decode cX5_pinned 2 = .ok (.iconst 0, 1) := by decide +kernel
theorem dX5_pinned_3 : decode cX5_pinned 3 = .ok (.istore_n 2, 1) := by decide +kernel
theorem dX5_pinned_4 : decode cX5_pinned 4 = .ok (.iload_n 2, 1) := by decide +kernel
theorem dX5_pinned_5 : decode cX5_pinned 5 = .ok (.aload_n 0, 1) := by decide +kernel
theorem dX5_pinned_6 : decode cX5_pinned 6 = .ok (.getfield 17, 3) := by decide +kernel
theorem dX5_pinned_9 : decode cX5_pinned 9 = .ok (.if_icmp .ge 39, 3) := by decide +kernel
theorem dX5_pinned_12 : decode cX5_pinned 12 = .ok (.iload_n 2, 1) := by decide +kernel
theorem dX5_pinned_13 : decode cX5_pinned 13 = .ok (.aload_n 0, 1) := by decide +kernel
theorem dX5_pinned_14 : decode cX5_pinned 14 = .ok (.getfield 11, 3) := by decide +kernel
theorem dX5_pinned_17 : decode cX5_pinned 17 = .ok (.arraylength, 1) := by decide +kernel
theorem dX5_pinned_18 : decode cX5_pinned 18 = .ok (.if_icmp .ge 30, 3) := by decide +kernel
theorem dX5_pinned_21 : decode cX5_pinned 21 = .ok (.aload_n 0, 1) := by decide +kernel
theorem dX5_pinned_22 : decode cX5_pinned 22 = .ok (.getfield 11, 3) := by decide +kernel
theorem dX5_pinned_25 : decode cX5_pinned 25 = .ok (.iload_n 2, 1) := by decide +kernel
theorem dX5_pinned_26 : decode cX5_pinned 26 = .ok (.aaload, 1) := by decide +kernel
theorem dX5_pinned_27 : decode cX5_pinned 27 = .ok (.astore_n 3, 1) := by decide +kernel
theorem dX5_pinned_28 : decode cX5_pinned 28 = .ok (.aload_n 3, 1) := by decide +kernel
theorem dX5_pinned_29 : decode cX5_pinned 29 = .ok (.ifnull 13, 3) := by decide +kernel
theorem dX5_pinned_32 : decode cX5_pinned 32 = .ok (.aload_n 3, 1) := by decide +kernel
theorem dX5_pinned_33 : decode cX5_pinned 33 = .ok (.getfield 36, 3) := by decide +kernel
theorem dX5_pinned_36 : decode cX5_pinned 36 = .ok (.ifCond .eq 6, 3) := by decide +kernel
theorem dX5_pinned_39 : decode cX5_pinned 39 = .ok (.iinc 1 1, 3) := by decide +kernel
theorem dX5_pinned_42 : decode cX5_pinned 42 = .ok (.iinc 2 1, 3) := by decide +kernel
theorem dX5_pinned_45 : decode cX5_pinned 45 = .ok (.goto (-41), 3) := by decide +kernel
theorem dX5_pinned_48 : decode cX5_pinned 48 = .ok (.iload_n 1, 1) := by decide +kernel
theorem dX5_pinned_49 : decode cX5_pinned 49 = .ok (.ireturn, 1) := by decide +kernel
theorem dX6_init_0 : decode cX6_init 0 = .ok (.aload_n 0, 1) := by decide +kernel
theorem dX6_init_1 : decode cX6_init 1 = .ok (.invokespecial 1, 3) := by decide +kernel
theorem dX6_init_4 : decode cX6_init 4 = .ok (.return_, 1) := by decide +kernel
theorem dX6_noteTouched_0 : decode cX6_noteTouched 0 = .ok (.aload_n 0, 1) := by decide +kernel
theorem dX6_noteTouched_1 : decode cX6_noteTouched 1 = .ok (.iload_n 1, 1) := by decide +kernel
theorem dX6_noteTouched_2 : decode cX6_noteTouched 2 = .ok (.putfield 7, 3) := by decide +kernel
theorem dX6_noteTouched_5 : decode cX6_noteTouched 5 = .ok (.aload_n 0, 1) := by decide +kernel
theorem dX6_noteTouched_6 : decode cX6_noteTouched 6 = .ok (.aload_n 0, 1) := by decide +kernel
theorem dX6_noteTouched_7 : decode cX6_noteTouched 7 = .ok (.getfield 13, 3) := by decide +kernel
theorem dX6_noteTouched_10 : decode cX6_noteTouched 10 = .ok (.iload_n 1, 1) := by decide +kernel
theorem dX6_noteTouched_11 : decode cX6_noteTouched 11 = .ok (.invokestatic 16, 3) := by decide +kernel
theorem dX6_noteTouched_14 : decode cX6_noteTouched 14 = .ok (.putfield 13, 3) := by decide +kernel
theorem dX6_noteTouched_17 : decode cX6_noteTouched 17 = .ok (.return_, 1) := by decide +kernel
theorem dX7_init_0 : decode cX7_init 0 = .ok (.aload_n 0, 1) := by decide +kernel
theorem dX7_init_1 : decode cX7_init 1 = .ok (.invokespecial 3, 3) := by decide +kernel
theorem dX7_init_4 : decode cX7_init 4 = .ok (.aload_n 0, 1) := by decide +kernel
theorem dX7_init_5 : decode cX7_init 5 = .ok (.iload_n 1, 1) := by decide +kernel
theorem dX7_init_6 : decode cX7_init 6 = .ok (.putfield 9, 3) := by decide +kernel
theorem dX7_init_9 : decode cX7_init 9 = .ok (.aload_n 0, 1) := by decide +kernel
theorem dX7_init_10 : decode cX7_init 10 = .ok (.iload_n 2, 1) := by decide +kernel
theorem dX7_init_11 : decode cX7_init 11 = .ok (.putfield 15, 3) := by decide +kernel
theorem dX7_init_14 : decode cX7_init 14 = .ok (.aload_n 0, 1) := by decide +kernel
theorem dX7_init_15 : decode cX7_init 15 = .ok (.iload_n 3, 1) := by decide +kernel
theorem dX7_init_16 : decode cX7_init 16 = .ok (.anewarray 10, 3) := by decide +kernel
theorem dX7_init_19 : decode cX7_init 19 = .ok (.putfield 18, 3) := by decide +kernel
theorem dX7_init_22 : decode cX7_init 22 = .ok (.aload_n 0, 1) := by decide +kernel
theorem dX7_init_23 : decode cX7_init 23 = .ok (.iconst 2, 1) := by decide +kernel
theorem dX7_init_24 : decode cX7_init 24 = .ok (.iload_n 3, 1) := by decide +kernel
theorem dX7_init_25 : decode cX7_init 25 = .ok (.iadd, 1) := by decide +kernel
theorem dX7_init_26 : decode cX7_init 26 = .ok (.putfield 22, 3) := by decide +kernel
theorem dX7_init_29 : decode cX7_init 29 = .ok (.aload_n 0, 1) := by decide +kernel
theorem dX7_init_30 : decode cX7_init 30 = .ok (.aload_n 0, 1) := by decide +kernel
theorem dX7_init_31 : decode cX7_init 31 = .ok (.getfield 22, 3) := by decide +kernel
theorem dX7_init_34 : decode cX7_init 34 = .ok (.putfield 25, 3) := by decide +kernel
theorem dX7_init_37 : decode cX7_init 37 = .ok (.aload_n 0, 1) := by decide +kernel
theorem dX7_init_38 : decode cX7_init 38 = .ok (.iconst (-1), 1) := by decide +kernel
theorem dX7_init_39 : decode cX7_init 39 = .ok (.putfield 28, 3) := by decide +kernel
theorem dX7_init_42 : decode cX7_init 42 = .ok (.return_, 1) := by decide +kernel
theorem dX7_hasField_0 : decode cX7_hasField 0 = .ok (.iload_n 1, 1) := by decide +kernel
theorem dX7_hasField_1 : decode cX7_hasField 1 = .ok (.ifCond .lt 16, 3) := by decide +kernel
theorem dX7_hasField_4 : decode cX7_hasField 4 = .ok (.iload_n 1, 1) := by decide +kernel
theorem dX7_hasField_5 : decode cX7_hasField 5 = .ok (.aload_n 0, 1) := by decide +kernel
theorem dX7_hasField_6 : decode cX7_hasField 6 = .ok (.getfield 18, 3) := by decide +kernel
theorem dX7_hasField_9 : decode cX7_hasField 9 = .ok (.arraylength, 1) := by decide +kernel
theorem dX7_hasField_10 : decode cX7_hasField 10 = .ok (.if_icmp .ge 7, 3) := by decide +kernel
theorem dX7_hasField_13 : decode cX7_hasField 13 = .ok (.iconst 1, 1) := by decide +kernel
theorem dX7_hasField_14 : decode cX7_hasField 14 = .ok (.goto 4, 3) := by decide +kernel
theorem dX7_hasField_17 : decode cX7_hasField 17 = .ok (.iconst 0, 1) := by decide +kernel
theorem dX7_hasField_18 : decode cX7_hasField 18 = .ok (.ireturn, 1) := by decide +kernel
theorem dX7_read_0 : decode cX7_read 0 = .ok (.iload_n 1, 1) := by decide +kernel
theorem dX7_read_1 : decode cX7_read 1 = .ok (.ifCond .lt 21, 3) := by decide +kernel
theorem dX7_read_4 : decode cX7_read 4 = .ok (.iload_n 1, 1) := by decide +kernel
theorem dX7_read_5 : decode cX7_read 5 = .ok (.aload_n 0, 1) := by decide +kernel
theorem dX7_read_6 : decode cX7_read 6 = .ok (.getfield 18, 3) := by decide +kernel
theorem dX7_read_9 : decode cX7_read 9 = .ok (.arraylength, 1) := by decide +kernel
theorem dX7_read_10 : decode cX7_read 10 = .ok (.if_icmp .ge 12, 3) := by decide +kernel
theorem dX7_read_13 : decode cX7_read 13 = .ok (.aload_n 0, 1) := by decide +kernel
theorem dX7_read_14 : decode cX7_read 14 = .ok (.getfield 18, 3) := by decide +kernel
theorem dX7_read_17 : decode cX7_read 17 = .ok (.iload_n 1, 1) := by decide +kernel
theorem dX7_read_18 : decode cX7_read 18 = .ok (.aaload, 1) := by decide +kernel
theorem dX7_read_19 : decode cX7_read 19 = .ok (.goto 4, 3) := by decide +kernel
theorem dX7_read_22 : decode cX7_read 22 = .ok (.aconst_null, 1) := by decide +kernel
theorem dX7_read_23 : decode cX7_read 23 = .ok (.areturn, 1) := by decide +kernel
theorem dX7_write_0 : decode cX7_write 0 = .ok (.iload_n 1, 1) := by decide +kernel
theorem dX7_write_1 : decode cX7_write 1 = .ok (.ifCond .lt 19, 3) := by decide +kernel
theorem dX7_write_4 : decode cX7_write 4 = .ok (.iload_n 1, 1) := by decide +kernel
theorem dX7_write_5 : decode cX7_write 5 = .ok (.aload_n 0, 1) := by decide +kernel
theorem dX7_write_6 : decode cX7_write 6 = .ok (.getfield 18, 3) := by decide +kernel
theorem dX7_write_9 : decode cX7_write 9 = .ok (.arraylength, 1) := by decide +kernel
theorem dX7_write_10 : decode cX7_write 10 = .ok (.if_icmp .ge 10, 3) := by decide +kernel
theorem dX7_write_13 : decode cX7_write 13 = .ok (.aload_n 0, 1) := by decide +kernel
theorem dX7_write_14 : decode cX7_write 14 = .ok (.getfield 18, 3) := by decide +kernel
theorem dX7_write_17 : decode cX7_write 17 = .ok (.iload_n 1, 1) := by decide +kernel
theorem dX7_write_18 : decode cX7_write 18 = .ok (.aload_n 2, 1) := by decide +kernel
theorem dX7_write_19 : decode cX7_write 19 = .ok (.aastore, 1) := by decide +kernel
theorem dX7_write_20 : decode cX7_write 20 = .ok (.return_, 1) := by decide +kernel
theorem dX7_hasYoungField_0 : decode cX7_hasYoungField 0 = .ok (.iconst 0, 1) := by decide +kernel
theorem dX7_hasYoungField_1 : decode cX7_hasYoungField 1 = .ok (.istore_n 1, 1) := by decide +kernel
theorem dX7_hasYoungField_2 : decode cX7_hasYoungField 2 = .ok (.iload_n 1, 1) := by decide +kernel
theorem dX7_hasYoungField_3 : decode cX7_hasYoungField 3 = .ok (.aload_n 0, 1) := by decide +kernel
theorem dX7_hasYoungField_4 : decode cX7_hasYoungField 4 = .ok (.getfield 18, 3) := by decide +kernel
theorem dX7_hasYoungField_7 : decode cX7_hasYoungField 7 = .ok (.arraylength, 1) := by decide +kernel
theorem dX7_hasYoungField_8 : decode cX7_hasYoungField 8 = .ok (.if_icmp .ge 30, 3) := by decide +kernel
theorem dX7_hasYoungField_11 : decode cX7_hasYoungField 11 = .ok (.aload_n 0, 1) := by decide +kernel
theorem dX7_hasYoungField_12 : decode cX7_hasYoungField 12 = .ok (.getfield 18, 3) := by decide +kernel
theorem dX7_hasYoungField_15 : decode cX7_hasYoungField 15 = .ok (.iload_n 1, 1) := by decide +kernel
theorem dX7_hasYoungField_16 : decode cX7_hasYoungField 16 = .ok (.aaload, 1) := by decide +kernel
theorem dX7_hasYoungField_17 : decode cX7_hasYoungField 17 = .ok (.astore_n 2, 1) := by decide +kernel
theorem dX7_hasYoungField_18 : decode cX7_hasYoungField 18 = .ok (.aload_n 2, 1) := by decide +kernel
theorem dX7_hasYoungField_19 : decode cX7_hasYoungField 19 = .ok (.ifnull 13, 3) := by decide +kernel
theorem dX7_hasYoungField_22 : decode cX7_hasYoungField 22 = .ok (.aload_n 2, 1) := by decide +kernel
theorem dX7_hasYoungField_23 : decode cX7_hasYoungField 23 = .ok (.getfield 31, 3) := by decide +kernel
theorem dX7_hasYoungField_26 : decode cX7_hasYoungField 26 = .ok (.iconst 1, 1) := by decide +kernel
theorem dX7_hasYoungField_27 : decode cX7_hasYoungField 27 = .ok (.if_icmp .ne 5, 3) := by decide +kernel
theorem dX7_hasYoungField_30 : decode cX7_hasYoungField 30 = .ok (.iconst 1, 1) := by decide +kernel
theorem dX7_hasYoungField_31 : decode cX7_hasYoungField 31 = .ok (.ireturn, 1) := by decide +kernel
theorem dX7_hasYoungField_32 : decode cX7_hasYoungField 32 = .ok (.iinc 1 1, 3) := by decide +kernel
theorem dX7_hasYoungField_35 : decode cX7_hasYoungField 35 = .ok (.goto (-33), 3) := by decide +kernel
theorem dX7_hasYoungField_38 : decode cX7_hasYoungField 38 = .ok (.iconst 0, 1) := by decide +kernel
theorem dX7_hasYoungField_39 : decode cX7_hasYoungField 39 = .ok (.ireturn, 1) := by decide +kernel
theorem dX7_end_0 : decode cX7_end 0 = .ok (.aload_n 0, 1) := by decide +kernel
theorem dX7_end_1 : decode cX7_end 1 = .ok (.getfield 34, 3) := by decide +kernel
theorem dX7_end_4 : decode cX7_end 4 = .ok (.aload_n 0, 1) := by decide +kernel
theorem dX7_end_5 : decode cX7_end 5 = .ok (.getfield 22, 3) := by decide +kernel
theorem dX7_end_8 : decode cX7_end 8 = .ok (.iadd, 1) := by decide +kernel
theorem dX7_end_9 : decode cX7_end 9 = .ok (.ireturn, 1) := by decide +kernel
theorem dX7_card_0 : decode cX7_card 0 = .ok (.aload_n 0, 1) := by decide +kernel
theorem dX7_card_1 : decode cX7_card 1 = .ok (.getfield 34, 3) := by decide +kernel
theorem dX7_card_4 : decode cX7_card 4 = .ok (.bipush 100, 2) := by decide +kernel
theorem dX7_card_6 : decode cX7_card 6 = .ok (.isub, 1) := by decide +kernel
theorem dX7_card_7 : decode cX7_card 7 = .ok (.bipush 16, 2) := by decide +kernel
theorem dX7_card_9 : decode cX7_card 9 = .ok (.idiv, 1) := by decide +kernel
theorem dX7_card_10 : decode cX7_card 10 = .ok (.ireturn, 1) := by decide +kernel
theorem dX7_giveHash_0 : decode cX7_giveHash 0 = .ok (.aload_n 0, 1) := by decide +kernel
theorem dX7_giveHash_1 : decode cX7_giveHash 1 = .ok (.iload_n 1, 1) := by decide +kernel
theorem dX7_giveHash_2 : decode cX7_giveHash 2 = .ok (.putfield 28, 3) := by decide +kernel
theorem dX7_giveHash_5 : decode cX7_giveHash 5 = .ok (.aload_n 0, 1) := by decide +kernel
theorem dX7_giveHash_6 : decode cX7_giveHash 6 = .ok (.aload_n 0, 1) := by decide +kernel
theorem dX7_giveHash_7 : decode cX7_giveHash 7 = .ok (.getfield 22, 3) := by decide +kernel
theorem dX7_giveHash_10 : decode cX7_giveHash 10 = .ok (.iconst 1, 1) := by decide +kernel
theorem dX7_giveHash_11 : decode cX7_giveHash 11 = .ok (.iadd, 1) := by decide +kernel
theorem dX7_giveHash_12 : decode cX7_giveHash 12 = .ok (.putfield 25, 3) := by decide +kernel
theorem dX7_giveHash_15 : decode cX7_giveHash 15 = .ok (.return_, 1) := by decide +kernel
theorem dX7_moveTo_0 : decode cX7_moveTo 0 = .ok (.aload_n 0, 1) := by decide +kernel
theorem dX7_moveTo_1 : decode cX7_moveTo 1 = .ok (.aload_n 0, 1) := by decide +kernel
theorem dX7_moveTo_2 : decode cX7_moveTo 2 = .ok (.getfield 25, 3) := by decide +kernel
theorem dX7_moveTo_5 : decode cX7_moveTo 5 = .ok (.putfield 22, 3) := by decide +kernel
theorem dX7_moveTo_8 : decode cX7_moveTo 8 = .ok (.aload_n 0, 1) := by decide +kernel
theorem dX7_moveTo_9 : decode cX7_moveTo 9 = .ok (.iload_n 1, 1) := by decide +kernel
theorem dX7_moveTo_10 : decode cX7_moveTo 10 = .ok (.putfield 31, 3) := by decide +kernel
theorem dX7_moveTo_13 : decode cX7_moveTo 13 = .ok (.aload_n 0, 1) := by decide +kernel
theorem dX7_moveTo_14 : decode cX7_moveTo 14 = .ok (.iload_n 2, 1) := by decide +kernel
theorem dX7_moveTo_15 : decode cX7_moveTo 15 = .ok (.putfield 34, 3) := by decide +kernel
theorem dX7_moveTo_18 : decode cX7_moveTo 18 = .ok (.return_, 1) := by decide +kernel
theorem dX7_vanish_0 : decode cX7_vanish 0 = .ok (.aload_n 0, 1) := by decide +kernel
theorem dX7_vanish_1 : decode cX7_vanish 1 = .ok (.iconst 0, 1) := by decide +kernel
theorem dX7_vanish_2 : decode cX7_vanish 2 = .ok (.putfield 31, 3) := by decide +kernel
theorem dX7_vanish_5 : decode cX7_vanish 5 = .ok (.aload_n 0, 1) := by decide +kernel
theorem dX7_vanish_6 : decode cX7_vanish 6 = .ok (.iconst 0, 1) := by decide +kernel
theorem dX7_vanish_7 : decode cX7_vanish 7 = .ok (.putfield 37, 3) := by decide +kernel
theorem dX7_vanish_10 : decode cX7_vanish 10 = .ok (.iconst 0, 1) := by decide +kernel
theorem dX7_vanish_11 : decode cX7_vanish 11 = .ok (.istore_n 1, 1) := by decide +kernel
theorem dX7_vanish_12 : decode cX7_vanish 12 = .ok (.iload_n 1, 1) := by decide +kernel
theorem dX7_vanish_13 : decode cX7_vanish 13 = .ok (.aload_n 0, 1) := by decide +kernel
theorem dX7_vanish_14 : decode cX7_vanish 14 = .ok (.getfield 18, 3) := by decide +kernel
theorem dX7_vanish_17 : decode cX7_vanish 17 = .ok (.arraylength, 1) := by decide +kernel
theorem dX7_vanish_18 : decode cX7_vanish 18 = .ok (.if_icmp .ge 16, 3) := by decide +kernel
theorem dX7_vanish_21 : decode cX7_vanish 21 = .ok (.aload_n 0, 1) := by decide +kernel
theorem dX7_vanish_22 : decode cX7_vanish 22 = .ok (.getfield 18, 3) := by decide +kernel
theorem dX7_vanish_25 : decode cX7_vanish 25 = .ok (.iload_n 1, 1) := by decide +kernel
theorem dX7_vanish_26 : decode cX7_vanish 26 = .ok (.aconst_null, 1) := by decide +kernel
theorem dX7_vanish_27 : decode cX7_vanish 27 = .ok (.aastore, 1) := by decide +kernel
theorem dX7_vanish_28 : decode cX7_vanish 28 = .ok (.iinc 1 1, 3) := by decide +kernel
theorem dX7_vanish_31 : decode cX7_vanish 31 = .ok (.goto (-19), 3) := by decide +kernel
theorem dX7_vanish_34 : decode cX7_vanish 34 = .ok (.return_, 1) := by decide +kernel
set_option maxRecDepth 20000 in
theorem ggX8_init_X5_init : GoodIn wsX8_init wsX5_init := goodIn_r _ [11, 12, 2, 3, 13, 14, 15, 16] (by decide +kernel) (by decide +kernel)
set_option maxRecDepth 20000 in
theorem gX8_init_X5_init_n11 : GoodIn wsX8_init (wsX5_init) := ggX8_init_X5_init
theorem dX8_init_0 : decode cX8_init 0 = .ok (.aload_n 0, 1) := by decide +kernel
theorem dX8_init_1 : decode cX8_init 1 = .ok (.invokespecial 3, 3) := by decide +kernel
theorem dX8_init_4 : decode cX8_init 4 = .ok (.aload_n 0, 1) := by decide +kernel
theorem dX8_init_5 : decode cX8_init 5 = .ok (.new 9, 3) := by decide +kernel
theorem dX8_init_8 : decode cX8_init 8 = .ok (.dup, 1) := by decide +kernel
theorem dX8_init_9 : decode cX8_init 9 = .ok (.invokespecial 11, 3) := by decide +kernel
theorem dX8_init_12 : decode cX8_init 12 = .ok (.putfield 12, 3) := by decide +kernel
theorem dX8_init_15 : decode cX8_init 15 = .ok (.aload_n 0, 1) := by decide +kernel
theorem dX8_init_16 : decode cX8_init 16 = .ok (.aload_n 1, 1) := by decide +kernel
theorem dX8_init_17 : decode cX8_init 17 = .ok (.putfield 18, 3) := by decide +kernel
theorem dX8_init_20 : decode cX8_init 20 = .ok (.aload_n 0, 1) := by decide +kernel
theorem dX8_init_21 : decode cX8_init 21 = .ok (.aload_n 2, 1) := by decide +kernel
theorem dX8_init_22 : decode cX8_init 22 = .ok (.putfield 21, 3) := by decide +kernel
theorem dX8_init_25 : decode cX8_init 25 = .ok (.return_, 1) := by decide +kernel
set_option maxRecDepth 20000 in
theorem ggX8_begin_X5_clear : GoodIn wsX8_begin wsX5_clear := goodIn_r _ [12, 13, 43, 44] (by decide +kernel) (by decide +kernel)
set_option maxRecDepth 20000 in
theorem gX8_begin_X5_clear : GoodIn wsX8_begin (wsV RX8 33 RX5 yX5_clear wsX5_clear) := goodIn_app (goodIn_of _ (by decide +kernel)) ggX8_begin_X5_clear
set_option maxRecDepth 20000 in
theorem ggX8_begin_X5_size : GoodIn wsX8_begin wsX5_size := goodIn_r _ [17, 13, 43, 44] (by decide +kernel) (by decide +kernel)
set_option maxRecDepth 20000 in
theorem gX8_begin_X5_size : GoodIn wsX8_begin (wsV RX8 40 RX5 yX5_size wsX5_size) := goodIn_app (goodIn_of _ (by decide +kernel)) ggX8_begin_X5_size
set_option maxRecDepth 20000 in
theorem ggX8_begin_X5_item : GoodIn wsX8_begin wsX5_item := goodIn_r _ [21, 13, 22, 43, 44] (by decide +kernel) (by decide +kernel)
set_option maxRecDepth 20000 in
theorem gX8_begin_X5_item : GoodIn wsX8_begin (wsV RX8 44 RX5 yX5_item wsX5_item) := goodIn_app (goodIn_of _ (by decide +kernel)) ggX8_begin_X5_item
theorem dX8_begin_0 : decode cX8_begin 0 = .ok (.aload_n 0, 1) := by decide +kernel
theorem dX8_begin_1 : decode cX8_begin 1 = .ok (.iload_n 1, 1) := by decide +kernel
theorem dX8_begin_2 : decode cX8_begin 2 = .ok (.putfield 25, 3) := by decide +kernel
theorem dX8_begin_5 : decode cX8_begin 5 = .ok (.aload_n 0, 1) := by decide +kernel
theorem dX8_begin_6 : decode cX8_begin 6 = .ok (.aload_n 2, 1) := by decide +kernel
theorem dX8_begin_7 : decode cX8_begin 7 = .ok (.putfield 29, 3) := by decide +kernel
theorem dX8_begin_10 : decode cX8_begin 10 = .ok (.aload_n 0, 1) := by decide +kernel
theorem dX8_begin_11 : decode cX8_begin 11 = .ok (.getfield 12, 3) := by decide +kernel
theorem dX8_begin_14 : decode cX8_begin 14 = .ok (.invokevirtual 33, 3) := by decide +kernel
theorem dX8_begin_17 : decode cX8_begin 17 = .ok (.aload_n 0, 1) := by decide +kernel
theorem dX8_begin_18 : decode cX8_begin 18 = .ok (.iconst 0, 1) := by decide +kernel
theorem dX8_begin_19 : decode cX8_begin 19 = .ok (.putfield 36, 3) := by decide +kernel
theorem dX8_begin_22 : decode cX8_begin 22 = .ok (.iconst 0, 1) := by decide +kernel
theorem dX8_begin_23 : decode cX8_begin 23 = .ok (.istore_n 3, 1) := by decide +kernel
theorem dX8_begin_24 : decode cX8_begin 24 = .ok (.iload_n 3, 1) := by decide +kernel
theorem dX8_begin_25 : decode cX8_begin 25 = .ok (.aload_n 0, 1) := by decide +kernel
theorem dX8_begin_26 : decode cX8_begin 26 = .ok (.getfield 18, 3) := by decide +kernel
theorem dX8_begin_29 : decode cX8_begin 29 = .ok (.invokevirtual 40, 3) := by decide +kernel
theorem dX8_begin_32 : decode cX8_begin 32 = .ok (.if_icmp .ge 36, 3) := by decide +kernel
theorem dX8_begin_35 : decode cX8_begin 35 = .ok (.aload_n 0, 1) := by decide +kernel
theorem dX8_begin_36 : decode cX8_begin 36 = .ok (.getfield 18, 3) := by decide +kernel
theorem dX8_begin_39 : decode cX8_begin 39 = .ok (.iload_n 3, 1) := by decide +kernel
theorem dX8_begin_40 : decode cX8_begin 40 = .ok (.invokevirtual 44, 3) := by decide +kernel
theorem dX8_begin_43 : decode cX8_begin 43 = .ok (.astore 4, 2) := by decide +kernel
theorem dX8_begin_45 : decode cX8_begin 45 = .ok (.aload 4, 2) := by decide +kernel
theorem dX8_begin_47 : decode cX8_begin 47 = .ok (.ifnull 15, 3) := by decide +kernel
theorem dX8_begin_50 : decode cX8_begin 50 = .ok (.aload 4, 2) := by decide +kernel
theorem dX8_begin_52 : decode cX8_begin 52 = .ok (.iconst 0, 1) := by decide +kernel
theorem dX8_begin_53 : decode cX8_begin 53 = .ok (.putfield 48, 3) := by decide +kernel
theorem dX8_begin_56 : decode cX8_begin 56 = .ok (.aload 4, 2) := by decide +kernel
theorem dX8_begin_58 : decode cX8_begin 58 = .ok (.iconst 0, 1) := by decide +kernel
theorem dX8_begin_59 : decode cX8_begin 59 = .ok (.putfield 53, 3) := by decide +kernel
theorem dX8_begin_62 : decode cX8_begin 62 = .ok (.iinc 3 1, 3) := by decide +kernel
theorem dX8_begin_65 : decode cX8_begin 65 = .ok (.goto (-41), 3) := by decide +kernel
theorem dX8_begin_68 : decode cX8_begin 68 = .ok (.return_, 1) := by decide +kernel
set_option maxRecDepth 20000 in
theorem ggX8_markRoots_X4_count : GoodIn wsX8_markRoots wsX4_count := goodIn_r _ [8, 9, 10, 11, 12, 13, 14, 15, 16, 65, 66, 67, 68, 69, 70] (by decide +kernel) (by decide +kernel)
set_option maxRecDepth 20000 in
theorem gX8_markRoots_X4_count : GoodIn wsX8_markRoots (wsV RX8 56 RX4 yX4_count wsX4_count) := goodIn_app (goodIn_of _ (by decide +kernel)) ggX8_markRoots_X4_count
set_option maxRecDepth 20000 in
theorem ggX8_markRoots_X4_root : GoodIn wsX8_markRoots wsX4_root := goodIn_r _ [20, 9, 21, 10, 22, 23, 24, 7, 25, 26, 27, 28, 29, 14, 30, 16, 31, 65, 66, 67, 68, 69, 70] (by decide +kernel) (by decide +kernel)
set_option maxRecDepth 20000 in
theorem gX8_markRoots_X4_root : GoodIn wsX8_markRoots (wsV RX8 61 RX4 yX4_root wsX4_root) := goodIn_app (goodIn_of _ (by decide +kernel)) ggX8_markRoots_X4_root
set_option maxRecDepth 20000 in
theorem ggX8_markRoots_X8_mark : GoodIn wsX8_markRoots wsX8_mark := goodIn_r _ [36, 37, 38, 39, 40, 41, 14, 42, 16, 31, 51, 52, 53, 54, 55, 56, 57, 58, 59, 60, 61, 62, 63, 64, 45, 46, 47, 48, 49, 50, 69, 70] (by decide +kernel) (by decide +kernel)
set_option maxRecDepth 20000 in
theorem gX8_markRoots_X8_mark : GoodIn wsX8_markRoots (wsV RX8 64 RX8 yX8_mark wsX8_mark) := goodIn_app (goodIn_of _ (by decide +kernel)) ggX8_markRoots_X8_mark
set_option maxRecDepth 20000 in
theorem ggX8_markRoots_X5_size : GoodIn wsX8_markRoots wsX5_size := goodIn_r _ [15, 16, 69, 70] (by decide +kernel) (by decide +kernel)
set_option maxRecDepth 20000 in
theorem gX8_markRoots_X5_size : GoodIn wsX8_markRoots (wsV RX8 40 RX5 yX5_size wsX5_size) := goodIn_app (goodIn_of _ (by decide +kernel)) ggX8_markRoots_X5_size
set_option maxRecDepth 20000 in
theorem ggX8_markRoots_X5_item : GoodIn wsX8_markRoots wsX5_item := goodIn_r _ [30, 16, 31, 69, 70] (by decide +kernel) (by decide +kernel)
set_option maxRecDepth 20000 in
theorem gX8_markRoots_X5_item : GoodIn wsX8_markRoots (wsV RX8 44 RX5 yX5_item wsX5_item) := goodIn_app (goodIn_of _ (by decide +kernel)) ggX8_markRoots_X5_item
theorem dX8_markRoots_0 : decode cX8_markRoots 0 = .ok (.iconst 0, 1) := by decide +kernel
theorem dX8_markRoots_1 : decode cX8_markRoots 1 = .ok (.istore_n 1, 1) := by decide +kernel
theorem dX8_markRoots_2 : decode cX8_markRoots 2 = .ok (.iload_n 1, 1) := by decide +kernel
theorem dX8_markRoots_3 : decode cX8_markRoots 3 = .ok (.aload_n 0, 1) := by decide +kernel
theorem dX8_markRoots_4 : decode cX8_markRoots 4 = .ok (.getfield 21, 3) := by decide +kernel
theorem dX8_markRoots_7 : decode cX8_markRoots 7 = .ok (.invokevirtual 56, 3) := by decide +kernel
theorem dX8_markRoots_10 : decode cX8_markRoots 10 = .ok (.if_icmp .ge 21, 3) := by decide +kernel
theorem dX8_markRoots_13 : decode cX8_markRoots 13 = .ok (.aload_n 0, 1) := by decide +kernel
theorem dX8_markRoots_14 : decode cX8_markRoots 14 = .ok (.aload_n 0, 1) := by decide +kernel
theorem dX8_markRoots_15 : decode cX8_markRoots 15 = .ok (.getfield 21, 3) := by decide +kernel
theorem dX8_markRoots_18 : decode cX8_markRoots 18 = .ok (.iload_n 1, 1) := by decide +kernel
theorem dX8_markRoots_19 : decode cX8_markRoots 19 = .ok (.invokevirtual 61, 3) := by decide +kernel
theorem dX8_markRoots_22 : decode cX8_markRoots 22 = .ok (.invokevirtual 64, 3) := by decide +kernel
theorem dX8_markRoots_25 : decode cX8_markRoots 25 = .ok (.iinc 1 1, 3) := by decide +kernel
theorem dX8_markRoots_28 : decode cX8_markRoots 28 = .ok (.goto (-26), 3) := by decide +kernel
theorem dX8_markRoots_31 : decode cX8_markRoots 31 = .ok (.iconst 0, 1) := by decide +kernel
theorem dX8_markRoots_32 : decode cX8_markRoots 32 = .ok (.istore_n 1, 1) := by decide +kernel
theorem dX8_markRoots_33 : decode cX8_markRoots 33 = .ok (.iload_n 1, 1) := by decide +kernel
theorem dX8_markRoots_34 : decode cX8_markRoots 34 = .ok (.aload_n 0, 1) := by decide +kernel
theorem dX8_markRoots_35 : decode cX8_markRoots 35 = .ok (.getfield 18, 3) := by decide +kernel
theorem dX8_markRoots_38 : decode cX8_markRoots 38 = .ok (.invokevirtual 40, 3) := by decide +kernel
theorem dX8_markRoots_41 : decode cX8_markRoots 41 = .ok (.if_icmp .ge 34, 3) := by decide +kernel
theorem dX8_markRoots_44 : decode cX8_markRoots 44 = .ok (.aload_n 0, 1) := by decide +kernel
theorem dX8_markRoots_45 : decode cX8_markRoots 45 = .ok (.getfield 18, 3) := by decide +kernel
theorem dX8_markRoots_48 : decode cX8_markRoots 48 = .ok (.iload_n 1, 1) := by decide +kernel
theorem dX8_markRoots_49 : decode cX8_markRoots 49 = .ok (.invokevirtual 44, 3) := by decide +kernel
theorem dX8_markRoots_52 : decode cX8_markRoots 52 = .ok (.astore_n 2, 1) := by decide +kernel
theorem dX8_markRoots_53 : decode cX8_markRoots 53 = .ok (.aload_n 2, 1) := by decide +kernel
theorem dX8_markRoots_54 : decode cX8_markRoots 54 = .ok (.ifnull 15, 3) := by decide +kernel
theorem dX8_markRoots_57 : decode cX8_markRoots 57 = .ok (.aload_n 2, 1) := by decide +kernel
theorem dX8_markRoots_58 : decode cX8_markRoots 58 = .ok (.getfield 68, 3) := by decide +kernel
theorem dX8_markRoots_61 : decode cX8_markRoots 61 = .ok (.ifCond .eq 8, 3) := by decide +kernel
theorem dX8_markRoots_64 : decode cX8_markRoots 64 = .ok (.aload_n 0, 1) := by decide +kernel
theorem dX8_markRoots_65 : decode cX8_markRoots 65 = .ok (.aload_n 2, 1) := by decide +kernel
theorem dX8_markRoots_66 : decode cX8_markRoots 66 = .ok (.invokevirtual 64, 3) := by decide +kernel
theorem dX8_markRoots_69 : decode cX8_markRoots 69 = .ok (.iinc 1 1, 3) := by decide +kernel
theorem dX8_markRoots_72 : decode cX8_markRoots 72 = .ok (.goto (-39), 3) := by decide +kernel
theorem dX8_markRoots_75 : decode cX8_markRoots 75 = .ok (.return_, 1) := by decide +kernel
set_option maxRecDepth 20000 in
theorem ggX8_markBlack_X5_size : GoodIn wsX8_markBlack wsX5_size := goodIn_r _ [9, 10, 46, 47] (by decide +kernel) (by decide +kernel)
set_option maxRecDepth 20000 in
theorem gX8_markBlack_X5_size : GoodIn wsX8_markBlack (wsV RX8 40 RX5 yX5_size wsX5_size) := goodIn_app (goodIn_of _ (by decide +kernel)) ggX8_markBlack_X5_size
set_option maxRecDepth 20000 in
theorem ggX8_markBlack_X5_item : GoodIn wsX8_markBlack wsX5_item := goodIn_r _ [14, 10, 15, 46, 47] (by decide +kernel) (by decide +kernel)
set_option maxRecDepth 20000 in
theorem gX8_markBlack_X5_item : GoodIn wsX8_markBlack (wsV RX8 44 RX5 yX5_item wsX5_item) := goodIn_app (goodIn_of _ (by decide +kernel)) ggX8_markBlack_X5_item
set_option maxRecDepth 20000 in
theorem ggX8_markBlack_X8_mark : GoodIn wsX8_markBlack wsX8_mark := goodIn_r _ [20, 21, 3, 22, 23, 24, 8, 25, 10, 15, 32, 33, 34, 35, 36, 37, 38, 39, 40, 41, 42, 43, 44, 45, 26, 27, 28, 29, 30, 31, 46, 47] (by decide +kernel) (by decide +kernel)
set_option maxRecDepth 20000 in
theorem gX8_markBlack_X8_mark : GoodIn wsX8_markBlack (wsV RX8 64 RX8 yX8_mark wsX8_mark) := goodIn_app (goodIn_of _ (by decide +kernel)) ggX8_markBlack_X8_mark
theorem dX8_markBlack_0 : decode cX8_markBlack 0 = .ok (.iconst 0, 1) := by decide +kernel
theorem dX8_markBlack_1 : decode cX8_markBlack 1 = .ok (.istore_n 1, 1) := by decide +kernel
theorem dX8_markBlack_2 : decode cX8_markBlack 2 = .ok (.iload_n 1, 1) := by decide +kernel
theorem dX8_markBlack_3 : decode cX8_markBlack 3 = .ok (.aload_n 0, 1) := by decide +kernel
theorem dX8_markBlack_4 : decode cX8_markBlack 4 = .ok (.getfield 18, 3) := by decide +kernel
theorem dX8_markBlack_7 : decode cX8_markBlack 7 = .ok (.invokevirtual 40, 3) := by decide +kernel
theorem dX8_markBlack_10 : decode cX8_markBlack 10 = .ok (.if_icmp .ge 35, 3) := by decide +kernel
theorem dX8_markBlack_13 : decode cX8_markBlack 13 = .ok (.aload_n 0, 1) := by decide +kernel
theorem dX8_markBlack_14 : decode cX8_markBlack 14 = .ok (.getfield 18, 3) := by decide +kernel
theorem dX8_markBlack_17 : decode cX8_markBlack 17 = .ok (.iload_n 1, 1) := by decide +kernel
theorem dX8_markBlack_18 : decode cX8_markBlack 18 = .ok (.invokevirtual 44, 3) := by decide +kernel
theorem dX8_markBlack_21 : decode cX8_markBlack 21 = .ok (.astore_n 2, 1) := by decide +kernel
theorem dX8_markBlack_22 : decode cX8_markBlack 22 = .ok (.aload_n 2, 1) := by decide +kernel
theorem dX8_markBlack_23 : decode cX8_markBlack 23 = .ok (.ifnull 16, 3) := by decide +kernel
theorem dX8_markBlack_26 : decode cX8_markBlack 26 = .ok (.aload_n 2, 1) := by decide +kernel
theorem dX8_markBlack_27 : decode cX8_markBlack 27 = .ok (.getfield 71, 3) := by decide +kernel
theorem dX8_markBlack_30 : decode cX8_markBlack 30 = .ok (.iconst 2, 1) := by decide +kernel
theorem dX8_markBlack_31 : decode cX8_markBlack 31 = .ok (.if_icmp .ne 8, 3) := by decide +kernel
theorem dX8_markBlack_34 : decode cX8_markBlack 34 = .ok (.aload_n 0, 1) := by decide +kernel
theorem dX8_markBlack_35 : decode cX8_markBlack 35 = .ok (.aload_n 2, 1) := by decide +kernel
theorem dX8_markBlack_36 : decode cX8_markBlack 36 = .ok (.invokevirtual 64, 3) := by decide +kernel
theorem dX8_markBlack_39 : decode cX8_markBlack 39 = .ok (.iinc 1 1, 3) := by decide +kernel
theorem dX8_markBlack_42 : decode cX8_markBlack 42 = .ok (.goto (-40), 3) := by decide +kernel
theorem dX8_markBlack_45 : decode cX8_markBlack 45 = .ok (.aload_n 0, 1) := by decide +kernel
theorem dX8_markBlack_46 : decode cX8_markBlack 46 = .ok (.aload_n 0, 1) := by decide +kernel
theorem dX8_markBlack_47 : decode cX8_markBlack 47 = .ok (.getfield 12, 3) := by decide +kernel
theorem dX8_markBlack_50 : decode cX8_markBlack 50 = .ok (.invokevirtual 40, 3) := by decide +kernel
theorem dX8_markBlack_53 : decode cX8_markBlack 53 = .ok (.putfield 36, 3) := by decide +kernel
theorem dX8_markBlack_56 : decode cX8_markBlack 56 = .ok (.return_, 1) := by decide +kernel
set_option maxRecDepth 20000 in
theorem ggX8_mark_X5_add : GoodIn wsX8_mark wsX5_add := goodIn_r _ [7, 8, 9, 30, 31] (by decide +kernel) (by decide +kernel)
set_option maxRecDepth 20000 in
theorem gX8_mark_X5_add : GoodIn wsX8_mark (wsV RX8 74 RX5 yX5_add wsX5_add) := goodIn_app (goodIn_of _ (by decide +kernel)) ggX8_mark_X5_add
theorem dX8_mark_0 : decode cX8_mark 0 = .ok (.aload_n 1, 1) := by decide +kernel
theorem dX8_mark_1 : decode cX8_mark 1 = .ok (.ifnull 23, 3) := by decide +kernel
theorem dX8_mark_4 : decode cX8_mark 4 = .ok (.aload_n 1, 1) := by decide +kernel
theorem dX8_mark_5 : decode cX8_mark 5 = .ok (.getfield 48, 3) := by decide +kernel
theorem dX8_mark_8 : decode cX8_mark 8 = .ok (.ifCond .ne 16, 3) := by decide +kernel
theorem dX8_mark_11 : decode cX8_mark 11 = .ok (.aload_n 1, 1) := by decide +kernel
theorem dX8_mark_12 : decode cX8_mark 12 = .ok (.iconst 1, 1) := by decide +kernel
theorem dX8_mark_13 : decode cX8_mark 13 = .ok (.putfield 48, 3) := by decide +kernel
theorem dX8_mark_16 : decode cX8_mark 16 = .ok (.aload_n 0, 1) := by decide +kernel
theorem dX8_mark_17 : decode cX8_mark 17 = .ok (.getfield 12, 3) := by decide +kernel
theorem dX8_mark_20 : decode cX8_mark 20 = .ok (.aload_n 1, 1) := by decide +kernel
theorem dX8_mark_21 : decode cX8_mark 21 = .ok (.invokevirtual 74, 3) := by decide +kernel
theorem dX8_mark_24 : decode cX8_mark 24 = .ok (.return_, 1) := by decide +kernel
set_option maxRecDepth 20000 in
theorem ggX8_spread_X5_size : GoodIn wsX8_spread wsX5_size := goodIn_r _ [7, 8, 59, 60] (by decide +kernel) (by decide +kernel)
set_option maxRecDepth 20000 in
theorem gX8_spread_X5_size : GoodIn wsX8_spread (wsV RX8 40 RX5 yX5_size wsX5_size) := goodIn_app (goodIn_of _ (by decide +kernel)) ggX8_spread_X5_size
set_option maxRecDepth 20000 in
theorem ggX8_spread_X5_item : GoodIn wsX8_spread wsX5_item := goodIn_r _ [12, 8, 13, 59, 60] (by decide +kernel) (by decide +kernel)
set_option maxRecDepth 20000 in
theorem gX8_spread_X5_item : GoodIn wsX8_spread (wsV RX8 44 RX5 yX5_item wsX5_item) := goodIn_app (goodIn_of _ (by decide +kernel)) ggX8_spread_X5_item
set_option maxRecDepth 20000 in
theorem ggX8_spread_X8_markFieldsOf : GoodIn wsX8_spread wsX8_markFieldsOf := goodIn_r _ [18, 19, 20, 21, 22, 23, 24, 17, 25, 26, 27, 28, 29, 30, 31, 32, 33, 34, 2, 35, 36, 37, 6, 38, 8, 13, 53, 54, 55, 56, 57, 58, 61, 62, 63, 64, 65, 66, 67, 68, 69, 70, 71, 72, 73, 74, 59, 60] (by decide +kernel) (by decide +kernel)
set_option maxRecDepth 20000 in
theorem gX8_spread_X8_markFieldsOf : GoodIn wsX8_spread (wsV RX8 77 RX8 yX8_markFieldsOf wsX8_markFieldsOf) := goodIn_app (goodIn_of _ (by decide +kernel)) ggX8_spread_X8_markFieldsOf
set_option maxRecDepth 20000 in
theorem ggX8_spread_X8_markValues : GoodIn wsX8_spread wsX8_markValues := goodIn_r _ [42, 2, 20, 19, 43, 3, 4, 5, 6, 7, 8, 9, 10, 11, 12, 13, 44, 45, 17, 46, 34, 47, 48, 49, 50, 51, 52, 30, 31, 32, 33, 35, 36, 37, 38, 53, 54, 55, 56, 57, 58, 61, 62, 63, 64, 65, 66, 67, 68, 69, 70, 71, 72, 73, 74, 59, 60] (by decide +kernel) (by decide +kernel)
set_option maxRecDepth 20000 in
theorem gX8_spread_X8_markValues : GoodIn wsX8_spread (wsV RX8 80 RX8 yX8_markValues wsX8_markValues) := goodIn_app (goodIn_of _ (by decide +kernel)) ggX8_spread_X8_markValues
theorem dX8_spread_0 : decode cX8_spread 0 = .ok (.iconst 0, 1) := by decide +kernel
theorem dX8_spread_1 : decode cX8_spread 1 = .ok (.istore_n 1, 1) := by decide +kernel
theorem dX8_spread_2 : decode cX8_spread 2 = .ok (.iload_n 1, 1) := by decide +kernel
theorem dX8_spread_3 : decode cX8_spread 3 = .ok (.sipush 200, 3) := by decide +kernel
theorem dX8_spread_6 : decode cX8_spread 6 = .ok (.if_icmp .gt 69, 3) := by decide +kernel
theorem dX8_spread_9 : decode cX8_spread 9 = .ok (.aload_n 0, 1) := by decide +kernel
theorem dX8_spread_10 : decode cX8_spread 10 = .ok (.getfield 36, 3) := by decide +kernel
theorem dX8_spread_13 : decode cX8_spread 13 = .ok (.sipush 200, 3) := by decide +kernel
theorem dX8_spread_16 : decode cX8_spread 16 = .ok (.if_icmp .ge 45, 3) := by decide +kernel
theorem dX8_spread_19 : decode cX8_spread 19 = .ok (.aload_n 0, 1) := by decide +kernel
theorem dX8_spread_20 : decode cX8_spread 20 = .ok (.getfield 36, 3) := by decide +kernel
theorem dX8_spread_23 : decode cX8_spread 23 = .ok (.aload_n 0, 1) := by decide +kernel
theorem dX8_spread_24 : decode cX8_spread 24 = .ok (.getfield 12, 3) := by decide +kernel
theorem dX8_spread_27 : decode cX8_spread 27 = .ok (.invokevirtual 40, 3) := by decide +kernel
theorem dX8_spread_30 : decode cX8_spread 30 = .ok (.if_icmp .ge 31, 3) := by decide +kernel
theorem dX8_spread_33 : decode cX8_spread 33 = .ok (.aload_n 0, 1) := by decide +kernel
theorem dX8_spread_34 : decode cX8_spread 34 = .ok (.aload_n 0, 1) := by decide +kernel
theorem dX8_spread_35 : decode cX8_spread 35 = .ok (.getfield 12, 3) := by decide +kernel
theorem dX8_spread_38 : decode cX8_spread 38 = .ok (.aload_n 0, 1) := by decide +kernel
theorem dX8_spread_39 : decode cX8_spread 39 = .ok (.getfield 36, 3) := by decide +kernel
theorem dX8_spread_42 : decode cX8_spread 42 = .ok (.invokevirtual 44, 3) := by decide +kernel
theorem dX8_spread_45 : decode cX8_spread 45 = .ok (.invokevirtual 77, 3) := by decide +kernel
theorem dX8_spread_48 : decode cX8_spread 48 = .ok (.aload_n 0, 1) := by decide +kernel
theorem dX8_spread_49 : decode cX8_spread 49 = .ok (.dup, 1) := by decide +kernel
theorem dX8_spread_50 : decode cX8_spread 50 = .ok (.getfield 36, 3) := by decide +kernel
theorem dX8_spread_53 : decode cX8_spread 53 = .ok (.iconst 1, 1) := by decide +kernel
theorem dX8_spread_54 : decode cX8_spread 54 = .ok (.iadd, 1) := by decide +kernel
theorem dX8_spread_55 : decode cX8_spread 55 = .ok (.putfield 36, 3) := by decide +kernel
theorem dX8_spread_58 : decode cX8_spread 58 = .ok (.goto (-49), 3) := by decide +kernel
theorem dX8_spread_61 : decode cX8_spread 61 = .ok (.aload_n 0, 1) := by decide +kernel
theorem dX8_spread_62 : decode cX8_spread 62 = .ok (.invokevirtual 80, 3) := by decide +kernel
theorem dX8_spread_65 : decode cX8_spread 65 = .ok (.ifCond .ne 4, 3) := by decide +kernel
theorem dX8_spread_68 : decode cX8_spread 68 = .ok (.return_, 1) := by decide +kernel
theorem dX8_spread_69 : decode cX8_spread 69 = .ok (.iinc 1 1, 3) := by decide +kernel
theorem dX8_spread_72 : decode cX8_spread 72 = .ok (.goto (-70), 3) := by decide +kernel
theorem dX8_spread_75 : decode cX8_spread 75 = .ok (.return_, 1) := by decide +kernel
set_option maxRecDepth 20000 in
theorem ggX8_markFieldsOf_X8_firstStrongField : GoodIn wsX8_markFieldsOf wsX8_firstStrongField := goodIn_r _ [8, 9, 10, 11, 12, 26, 27, 28, 29, 30, 31] (by decide +kernel) (by decide +kernel)
set_option maxRecDepth 20000 in
theorem gX8_markFieldsOf_X8_firstStrongField : GoodIn wsX8_markFieldsOf (wsV RX8 87 RX8 yX8_firstStrongField wsX8_firstStrongField) := goodIn_app (goodIn_of _ (by decide +kernel)) ggX8_markFieldsOf_X8_firstStrongField
set_option maxRecDepth 20000 in
theorem ggX8_markFieldsOf_X8_mark : GoodIn wsX8_markFieldsOf wsX8_mark := goodIn_r _ [16, 17, 18, 19, 20, 21, 22, 23, 24, 25, 32, 33, 34, 35, 36, 37, 38, 39, 40, 41, 42, 43, 44, 45, 26, 27, 28, 29, 30, 31, 46, 47] (by decide +kernel) (by decide +kernel)
set_option maxRecDepth 20000 in
theorem gX8_markFieldsOf_X8_mark : GoodIn wsX8_markFieldsOf (wsV RX8 64 RX8 yX8_mark wsX8_mark) := goodIn_app (goodIn_of _ (by decide +kernel)) ggX8_markFieldsOf_X8_mark
theorem dX8_markFieldsOf_0 : decode cX8_markFieldsOf 0 = .ok (.aload_n 1, 1) := by decide +kernel
theorem dX8_markFieldsOf_1 : decode cX8_markFieldsOf 1 = .ok (.ifnull 11, 3) := by decide +kernel
theorem dX8_markFieldsOf_4 : decode cX8_markFieldsOf 4 = .ok (.aload_n 1, 1) := by decide +kernel
theorem dX8_markFieldsOf_5 : decode cX8_markFieldsOf 5 = .ok (.aload_n 0, 1) := by decide +kernel
theorem dX8_markFieldsOf_6 : decode cX8_markFieldsOf 6 = .ok (.getfield 29, 3) := by decide +kernel
theorem dX8_markFieldsOf_9 : decode cX8_markFieldsOf 9 = .ok (.if_acmp .ne 4, 3) := by decide +kernel
theorem dX8_markFieldsOf_12 : decode cX8_markFieldsOf 12 = .ok (.return_, 1) := by decide +kernel
theorem dX8_markFieldsOf_13 : decode cX8_markFieldsOf 13 = .ok (.aload_n 0, 1) := by decide +kernel
theorem dX8_markFieldsOf_14 : decode cX8_markFieldsOf 14 = .ok (.aload_n 1, 1) := by decide +kernel
theorem dX8_markFieldsOf_15 : decode cX8_markFieldsOf 15 = .ok (.getfield 84, 3) := by decide +kernel
theorem dX8_markFieldsOf_18 : decode cX8_markFieldsOf 18 = .ok (.invokevirtual 87, 3) := by decide +kernel
theorem dX8_markFieldsOf_21 : decode cX8_markFieldsOf 21 = .ok (.istore_n 2, 1) := by decide +kernel
theorem dX8_markFieldsOf_22 : decode cX8_markFieldsOf 22 = .ok (.iload_n 2, 1) := by decide +kernel
theorem dX8_markFieldsOf_23 : decode cX8_markFieldsOf 23 = .ok (.aload_n 1, 1) := by decide +kernel
theorem dX8_markFieldsOf_24 : decode cX8_markFieldsOf 24 = .ok (.getfield 91, 3) := by decide +kernel
theorem dX8_markFieldsOf_27 : decode cX8_markFieldsOf 27 = .ok (.arraylength, 1) := by decide +kernel
theorem dX8_markFieldsOf_28 : decode cX8_markFieldsOf 28 = .ok (.if_icmp .ge 19, 3) := by decide +kernel
theorem dX8_markFieldsOf_31 : decode cX8_markFieldsOf 31 = .ok (.aload_n 0, 1) := by decide +kernel
theorem dX8_markFieldsOf_32 : decode cX8_markFieldsOf 32 = .ok (.aload_n 1, 1) := by decide +kernel
theorem dX8_markFieldsOf_33 : decode cX8_markFieldsOf 33 = .ok (.getfield 91, 3) := by decide +kernel
theorem dX8_markFieldsOf_36 : decode cX8_markFieldsOf 36 = .ok (.iload_n 2, 1) := by decide +kernel
theorem dX8_markFieldsOf_37 : decode cX8_markFieldsOf 37 = .ok (.aaload, 1) := by decide +kernel
theorem dX8_markFieldsOf_38 : decode cX8_markFieldsOf 38 = .ok (.invokevirtual 64, 3) := by decide +kernel
theorem dX8_markFieldsOf_41 : decode cX8_markFieldsOf 41 = .ok (.iinc 2 1, 3) := by decide +kernel
theorem dX8_markFieldsOf_44 : decode cX8_markFieldsOf 44 = .ok (.goto (-22), 3) := by decide +kernel
theorem dX8_markFieldsOf_47 : decode cX8_markFieldsOf 47 = .ok (.return_, 1) := by decide +kernel
set_option maxRecDepth 20000 in
theorem ggX8_firstStrongField_X9_isLoose : GoodIn wsX8_firstStrongField wsX9_isLoose := goodIn_r _ [4] (by decide +kernel) (by decide +kernel)
set_option maxRecDepth 20000 in
theorem gX8_firstStrongField_X9_isLoose_n95 : GoodIn wsX8_firstStrongField (wsX9_isLoose) := ggX8_firstStrongField_X9_isLoose
theorem dX8_firstStrongField_0 : decode cX8_firstStrongField 0 = .ok (.iload_n 1, 1) := by decide +kernel
theorem dX8_firstStrongField_1 : decode cX8_firstStrongField 1 = .ok (.iconst 3, 1) := by decide +kernel
theorem dX8_firstStrongField_2 : decode cX8_firstStrongField 2 = .ok (.if_icmp .ne 5, 3) := by decide +kernel
theorem dX8_firstStrongField_5 : decode cX8_firstStrongField 5 = .ok (.iconst 2, 1) := by decide +kernel
theorem dX8_firstStrongField_6 : decode cX8_firstStrongField 6 = .ok (.ireturn, 1) := by decide +kernel
theorem dX8_firstStrongField_7 : decode cX8_firstStrongField 7 = .ok (.iload_n 1, 1) := by decide +kernel
theorem dX8_firstStrongField_8 : decode cX8_firstStrongField 8 = .ok (.aload_n 0, 1) := by decide +kernel
theorem dX8_firstStrongField_9 : decode cX8_firstStrongField 9 = .ok (.getfield 25, 3) := by decide +kernel
theorem dX8_firstStrongField_12 : decode cX8_firstStrongField 12 = .ok (.invokestatic 95, 3) := by decide +kernel
theorem dX8_firstStrongField_15 : decode cX8_firstStrongField 15 = .ok (.ifCond .eq 7, 3) := by decide +kernel
theorem dX8_firstStrongField_18 : decode cX8_firstStrongField 18 = .ok (.iconst 1, 1) := by decide +kernel
theorem dX8_firstStrongField_19 : decode cX8_firstStrongField 19 = .ok (.goto 4, 3) := by decide +kernel
theorem dX8_firstStrongField_22 : decode cX8_firstStrongField 22 = .ok (.iconst 0, 1) := by decide +kernel
theorem dX8_firstStrongField_23 : decode cX8_firstStrongField 23 = .ok (.ireturn, 1) := by decide +kernel
set_option maxRecDepth 20000 in
theorem ggX8_markValues_X5_size : GoodIn wsX8_markValues wsX5_size := goodIn_r _ [9, 10, 55, 56] (by decide +kernel) (by decide +kernel)
set_option maxRecDepth 20000 in
theorem gX8_markValues_X5_size : GoodIn wsX8_markValues (wsV RX8 40 RX5 yX5_size wsX5_size) := goodIn_app (goodIn_of _ (by decide +kernel)) ggX8_markValues_X5_size
set_option maxRecDepth 20000 in
theorem ggX8_markValues_X5_item : GoodIn wsX8_markValues wsX5_item := goodIn_r _ [14, 10, 15, 55, 56] (by decide +kernel) (by decide +kernel)
set_option maxRecDepth 20000 in
theorem gX8_markValues_X5_item : GoodIn wsX8_markValues (wsV RX8 44 RX5 yX5_item wsX5_item) := goodIn_app (goodIn_of _ (by decide +kernel)) ggX8_markValues_X5_item
set_option maxRecDepth 20000 in
theorem ggX8_markValues_X8_hasMarked : GoodIn wsX8_markValues wsX8_hasMarked := goodIn_r _ [19, 20, 21, 22, 23, 24, 25, 26, 41, 42, 43, 44, 45, 46, 47, 48, 49, 50, 51, 52, 53, 54] (by decide +kernel) (by decide +kernel)
set_option maxRecDepth 20000 in
theorem gX8_markValues_X8_hasMarked : GoodIn wsX8_markValues (va_wsS RX8 99 yX8_hasMarked wsX8_hasMarked) := goodIn_app (goodIn_of _ (by decide +kernel)) ggX8_markValues_X8_hasMarked
set_option maxRecDepth 20000 in
theorem ggX8_markValues_X7_read : GoodIn wsX8_markValues wsX7_read := goodIn_r _ [25, 26, 41, 42, 43, 44, 45, 46, 47, 48, 49, 50, 51, 52, 53, 54] (by decide +kernel) (by decide +kernel)
set_option maxRecDepth 20000 in
theorem gX8_markValues_X7_read : GoodIn wsX8_markValues (wsV RX8 103 RX7 yX7_read wsX7_read) := goodIn_app (goodIn_of _ (by decide +kernel)) ggX8_markValues_X7_read
set_option maxRecDepth 20000 in
theorem ggX8_markValues_X8_mark : GoodIn wsX8_markValues wsX8_mark := goodIn_r _ [30, 20, 1, 31, 32, 33, 8, 34, 10, 15, 41, 42, 43, 44, 45, 46, 47, 48, 49, 50, 51, 52, 53, 54, 35, 36, 37, 38, 39, 40, 55, 56] (by decide +kernel) (by decide +kernel)
set_option maxRecDepth 20000 in
theorem gX8_markValues_X8_mark : GoodIn wsX8_markValues (wsV RX8 64 RX8 yX8_mark wsX8_mark) := goodIn_app (goodIn_of _ (by decide +kernel)) ggX8_markValues_X8_mark
theorem dX8_markValues_0 : decode cX8_markValues 0 = .ok (.aload_n 0, 1) := by decide +kernel
theorem dX8_markValues_1 : decode cX8_markValues 1 = .ok (.getfield 12, 3) := by decide +kernel
theorem dX8_markValues_4 : decode cX8_markValues 4 = .ok (.invokevirtual 40, 3) := by decide +kernel
theorem dX8_markValues_7 : decode cX8_markValues 7 = .ok (.istore_n 1, 1) := by decide +kernel
theorem dX8_markValues_8 : decode cX8_markValues 8 = .ok (.iconst 0, 1) := by decide +kernel
theorem dX8_markValues_9 : decode cX8_markValues 9 = .ok (.istore_n 2, 1) := by decide +kernel
theorem dX8_markValues_10 : decode cX8_markValues 10 = .ok (.iload_n 2, 1) := by decide +kernel
theorem dX8_markValues_11 : decode cX8_markValues 11 = .ok (.iload_n 1, 1) := by decide +kernel
theorem dX8_markValues_12 : decode cX8_markValues 12 = .ok (.if_icmp .ge 62, 3) := by decide +kernel
theorem dX8_markValues_15 : decode cX8_markValues 15 = .ok (.aload_n 0, 1) := by decide +kernel
theorem dX8_markValues_16 : decode cX8_markValues 16 = .ok (.getfield 12, 3) := by decide +kernel
theorem dX8_markValues_19 : decode cX8_markValues 19 = .ok (.iload_n 2, 1) := by decide +kernel
theorem dX8_markValues_20 : decode cX8_markValues 20 = .ok (.invokevirtual 44, 3) := by decide +kernel
theorem dX8_markValues_23 : decode cX8_markValues 23 = .ok (.astore_n 3, 1) := by decide +kernel
theorem dX8_markValues_24 : decode cX8_markValues 24 = .ok (.aload_n 3, 1) := by decide +kernel
theorem dX8_markValues_25 : decode cX8_markValues 25 = .ok (.ifnull 43, 3) := by decide +kernel
theorem dX8_markValues_28 : decode cX8_markValues 28 = .ok (.aload_n 3, 1) := by decide +kernel
theorem dX8_markValues_29 : decode cX8_markValues 29 = .ok (.getfield 84, 3) := by decide +kernel
theorem dX8_markValues_32 : decode cX8_markValues 32 = .ok (.iconst 3, 1) := by decide +kernel
theorem dX8_markValues_33 : decode cX8_markValues 33 = .ok (.if_icmp .ne 35, 3) := by decide +kernel
theorem dX8_markValues_36 : decode cX8_markValues 36 = .ok (.aload_n 3, 1) := by decide +kernel
theorem dX8_markValues_37 : decode cX8_markValues 37 = .ok (.aload_n 0, 1) := by decide +kernel
theorem dX8_markValues_38 : decode cX8_markValues 38 = .ok (.getfield 29, 3) := by decide +kernel
theorem dX8_markValues_41 : decode cX8_markValues 41 = .ok (.if_acmp .eq 27, 3) := by decide +kernel
theorem dX8_markValues_44 : decode cX8_markValues 44 = .ok (.aload_n 3, 1) := by decide +kernel
theorem dX8_markValues_45 : decode cX8_markValues 45 = .ok (.getfield 53, 3) := by decide +kernel
theorem dX8_markValues_48 : decode cX8_markValues 48 = .ok (.ifCond .ne 20, 3) := by decide +kernel
theorem dX8_markValues_51 : decode cX8_markValues 51 = .ok (.aload_n 3, 1) := by decide +kernel
theorem dX8_markValues_52 : decode cX8_markValues 52 = .ok (.iconst 0, 1) := by decide +kernel
theorem dX8_markValues_53 : decode cX8_markValues 53 = .ok (.invokestatic 99, 3) := by decide +kernel
theorem dX8_markValues_56 : decode cX8_markValues 56 = .ok (.ifCond .eq 12, 3) := by decide +kernel
theorem dX8_markValues_59 : decode cX8_markValues 59 = .ok (.aload_n 0, 1) := by decide +kernel
theorem dX8_markValues_60 : decode cX8_markValues 60 = .ok (.aload_n 3, 1) := by decide +kernel
theorem dX8_markValues_61 : decode cX8_markValues 61 = .ok (.iconst 1, 1) := by decide +kernel
theorem dX8_markValues_62 : decode cX8_markValues 62 = .ok (.invokevirtual 103, 3) := by decide +kernel
theorem dX8_markValues_65 : decode cX8_markValues 65 = .ok (.invokevirtual 64, 3) := by decide +kernel
theorem dX8_markValues_68 : decode cX8_markValues 68 = .ok (.iinc 2 1, 3) := by decide +kernel
theorem dX8_markValues_71 : decode cX8_markValues 71 = .ok (.goto (-61), 3) := by decide +kernel
theorem dX8_markValues_74 : decode cX8_markValues 74 = .ok (.aload_n 0, 1) := by decide +kernel
theorem dX8_markValues_75 : decode cX8_markValues 75 = .ok (.getfield 12, 3) := by decide +kernel
theorem dX8_markValues_78 : decode cX8_markValues 78 = .ok (.invokevirtual 40, 3) := by decide +kernel
theorem dX8_markValues_81 : decode cX8_markValues 81 = .ok (.iload_n 1, 1) := by decide +kernel
theorem dX8_markValues_82 : decode cX8_markValues 82 = .ok (.if_icmp .le 7, 3) := by decide +kernel
theorem dX8_markValues_85 : decode cX8_markValues 85 = .ok (.iconst 1, 1) := by decide +kernel
theorem dX8_markValues_86 : decode cX8_markValues 86 = .ok (.goto 4, 3) := by decide +kernel
theorem dX8_markValues_89 : decode cX8_markValues 89 = .ok (.iconst 0, 1) := by decide +kernel
theorem dX8_markValues_90 : decode cX8_markValues 90 = .ok (.ireturn, 1) := by decide +kernel
set_option maxRecDepth 20000 in
theorem ggX8_hasMarked_X7_read : GoodIn wsX8_hasMarked wsX7_read := goodIn_r _ [6, 7, 8, 9, 10, 11, 12, 13, 14, 15, 16, 17, 18, 19, 20, 21] (by decide +kernel) (by decide +kernel)
set_option maxRecDepth 20000 in
theorem gX8_hasMarked_X7_read : GoodIn wsX8_hasMarked (wsV RX8 103 RX7 yX7_read wsX7_read) := goodIn_app (goodIn_of _ (by decide +kernel)) ggX8_hasMarked_X7_read
theorem dX8_hasMarked_0 : decode cX8_hasMarked 0 = .ok (.aload_n 0, 1) := by decide +kernel
theorem dX8_hasMarked_1 : decode cX8_hasMarked 1 = .ok (.iload_n 1, 1) := by decide +kernel
theorem dX8_hasMarked_2 : decode cX8_hasMarked 2 = .ok (.invokevirtual 103, 3) := by decide +kernel
theorem dX8_hasMarked_5 : decode cX8_hasMarked 5 = .ok (.astore_n 2, 1) := by decide +kernel
theorem dX8_hasMarked_6 : decode cX8_hasMarked 6 = .ok (.aload_n 2, 1) := by decide +kernel
theorem dX8_hasMarked_7 : decode cX8_hasMarked 7 = .ok (.ifnull 14, 3) := by decide +kernel
theorem dX8_hasMarked_10 : decode cX8_hasMarked 10 = .ok (.aload_n 2, 1) := by decide +kernel
theorem dX8_hasMarked_11 : decode cX8_hasMarked 11 = .ok (.getfield 48, 3) := by decide +kernel
theorem dX8_hasMarked_14 : decode cX8_hasMarked 14 = .ok (.ifCond .eq 7, 3) := by decide +kernel
theorem dX8_hasMarked_17 : decode cX8_hasMarked 17 = .ok (.iconst 1, 1) := by decide +kernel
theorem dX8_hasMarked_18 : decode cX8_hasMarked 18 = .ok (.goto 4, 3) := by decide +kernel
theorem dX8_hasMarked_21 : decode cX8_hasMarked 21 = .ok (.iconst 0, 1) := by decide +kernel
theorem dX8_hasMarked_22 : decode cX8_hasMarked 22 = .ok (.ireturn, 1) := by decide +kernel
set_option maxRecDepth 20000 in
theorem ggX8_wordsFreed_X8_begin : GoodIn wsX8_wordsFreed wsX8_begin := goodIn_r _ [10, 11, 12, 13, 14, 1, 4, 15, 16, 17, 18, 19, 20, 21, 22, 23, 24, 25, 26, 27, 28, 29, 30, 97, 98, 99, 100, 101, 102, 103, 104, 105, 106, 107, 108, 109, 110, 111, 112, 113, 114, 115, 116, 117, 118] (by decide +kernel) (by decide +kernel)
set_option maxRecDepth 20000 in
theorem gX8_wordsFreed_X8_begin : GoodIn wsX8_wordsFreed (wsV RX8 106 RX8 yX8_begin wsX8_begin) := goodIn_app (goodIn_of _ (by decide +kernel)) ggX8_wordsFreed_X8_begin
set_option maxRecDepth 20000 in
theorem ggX8_wordsFreed_X8_markRoots : GoodIn wsX8_wordsFreed wsX8_markRoots := goodIn_r _ [34, 35, 1, 36, 37, 38, 39, 40, 41, 42, 43, 44, 23, 24, 19, 25, 21, 45, 46, 47, 48, 49, 50, 51, 52, 53, 54, 55, 27, 28, 29, 30, 56, 57, 58, 9, 59, 4, 13, 60, 61, 62, 63, 22, 26, 97, 98, 99, 100, 101, 102, 103, 104, 105, 106, 107, 108, 109, 110, 111, 112, 113, 114, 115, 116, 119, 120, 121, 122, 117, 118] (by decide +kernel) (by decide +kernel)
set_option maxRecDepth 20000 in
theorem gX8_wordsFreed_X8_markRoots : GoodIn wsX8_wordsFreed (wsV RX8 110 RX8 yX8_markRoots wsX8_markRoots) := goodIn_app (goodIn_of _ (by decide +kernel)) ggX8_wordsFreed_X8_markRoots
set_option maxRecDepth 20000 in
theorem ggX8_wordsFreed_X8_spread : GoodIn wsX8_wordsFreed wsX8_spread := goodIn_r _ [67, 14, 13, 22, 23, 24, 19, 25, 21, 26, 27, 28, 29, 30, 68, 69, 70, 9, 71, 12, 3, 72, 73, 74, 75, 76, 11, 77, 78, 79, 56, 57, 58, 59, 4, 60, 61, 62, 63, 80, 81, 82, 83, 15, 84, 85, 86, 87, 88, 89, 90, 91, 92, 97, 98, 99, 100, 101, 102, 117, 118, 103, 104, 105, 106, 107, 108, 109, 110, 111, 112, 113, 114, 115, 116] (by decide +kernel) (by decide +kernel)
set_option maxRecDepth 20000 in
theorem gX8_wordsFreed_X8_spread : GoodIn wsX8_wordsFreed (wsV RX8 113 RX8 yX8_spread wsX8_spread) := goodIn_app (goodIn_of _ (by decide +kernel)) ggX8_wordsFreed_X8_spread
set_option maxRecDepth 20000 in
theorem ggX8_wordsFreed_X8_cutPairs : GoodIn wsX8_wordsFreed wsX8_cutPairs := goodIn_r _ [96, 13, 3, 15, 22, 23, 24, 19, 25, 21, 26, 27, 28, 29, 30, 84, 85, 9, 86, 4, 87, 88, 89, 90, 91, 92, 97, 98, 99, 100, 101, 102, 103, 104, 105, 106, 107, 108, 109, 110, 111, 112, 113, 114, 115, 116, 117, 118] (by decide +kernel) (by decide +kernel)
set_option maxRecDepth 20000 in
theorem gX8_wordsFreed_X8_cutPairs : GoodIn wsX8_wordsFreed (wsV RX8 116 RX8 yX8_cutPairs wsX8_cutPairs) := goodIn_app (goodIn_of _ (by decide +kernel)) ggX8_wordsFreed_X8_cutPairs
set_option maxRecDepth 20000 in
theorem ggX8_wordsFreed_X5_size : GoodIn wsX8_wordsFreed wsX5_size := goodIn_r _ [25, 21, 117, 118] (by decide +kernel) (by decide +kernel)
set_option maxRecDepth 20000 in
theorem gX8_wordsFreed_X5_size : GoodIn wsX8_wordsFreed (wsV RX8 40 RX5 yX5_size wsX5_size) := goodIn_app (goodIn_of _ (by decide +kernel)) ggX8_wordsFreed_X5_size
set_option maxRecDepth 20000 in
theorem ggX8_wordsFreed_X5_item : GoodIn wsX8_wordsFreed wsX5_item := goodIn_r _ [29, 21, 30, 117, 118] (by decide +kernel) (by decide +kernel)
set_option maxRecDepth 20000 in
theorem gX8_wordsFreed_X5_item : GoodIn wsX8_wordsFreed (wsV RX8 44 RX5 yX5_item wsX5_item) := goodIn_app (goodIn_of _ (by decide +kernel)) ggX8_wordsFreed_X5_item
set_option maxRecDepth 20000 in
theorem ggX8_wordsFreed_X8_mark : GoodIn wsX8_wordsFreed wsX8_mark := goodIn_r _ [59, 4, 13, 60, 61, 62, 19, 63, 21, 30, 103, 104, 105, 106, 107, 108, 109, 110, 111, 112, 113, 114, 115, 116, 97, 98, 99, 100, 101, 102, 117, 118] (by decide +kernel) (by decide +kernel)
set_option maxRecDepth 20000 in
theorem gX8_wordsFreed_X8_mark : GoodIn wsX8_wordsFreed (wsV RX8 64 RX8 yX8_mark wsX8_mark) := goodIn_app (goodIn_of _ (by decide +kernel)) ggX8_wordsFreed_X8_mark
theorem dX8_wordsFreed_0 : decode cX8_wordsFreed 0 = .ok (.aload_n 0, 1) := by decide +kernel
theorem dX8_wordsFreed_1 : decode cX8_wordsFreed 1 = .ok (.iload_n 1, 1) := by decide +kernel
theorem dX8_wordsFreed_2 : decode cX8_wordsFreed 2 = .ok (.aload_n 2, 1) := by decide +kernel
theorem dX8_wordsFreed_3 : decode cX8_wordsFreed 3 = .ok (.invokevirtual 106, 3) := by decide +kernel
theorem dX8_wordsFreed_6 : decode cX8_wordsFreed 6 = .ok (.aload_n 0, 1) := by decide +kernel
theorem dX8_wordsFreed_7 : decode cX8_wordsFreed 7 = .ok (.invokevirtual 110, 3) := by decide +kernel
theorem dX8_wordsFreed_10 : decode cX8_wordsFreed 10 = .ok (.aload_n 0, 1) := by decide +kernel
theorem dX8_wordsFreed_11 : decode cX8_wordsFreed 11 = .ok (.invokevirtual 113, 3) := by decide +kernel
theorem dX8_wordsFreed_14 : decode cX8_wordsFreed 14 = .ok (.aload_n 0, 1) := by decide +kernel
theorem dX8_wordsFreed_15 : decode cX8_wordsFreed 15 = .ok (.invokevirtual 116, 3) := by decide +kernel
theorem dX8_wordsFreed_18 : decode cX8_wordsFreed 18 = .ok (.iconst 0, 1) := by decide +kernel
theorem dX8_wordsFreed_19 : decode cX8_wordsFreed 19 = .ok (.istore_n 3, 1) := by decide +kernel
theorem dX8_wordsFreed_20 : decode cX8_wordsFreed 20 = .ok (.iload_n 3, 1) := by decide +kernel
theorem dX8_wordsFreed_21 : decode cX8_wordsFreed 21 = .ok (.aload_n 0, 1) := by decide +kernel
theorem dX8_wordsFreed_22 : decode cX8_wordsFreed 22 = .ok (.getfield 18, 3) := by decide +kernel
theorem dX8_wordsFreed_25 : decode cX8_wordsFreed 25 = .ok (.invokevirtual 40, 3) := by decide +kernel
theorem dX8_wordsFreed_28 : decode cX8_wordsFreed 28 = .ok (.if_icmp .ge 47, 3) := by decide +kernel
theorem dX8_wordsFreed_31 : decode cX8_wordsFreed 31 = .ok (.aload_n 0, 1) := by decide +kernel
theorem dX8_wordsFreed_32 : decode cX8_wordsFreed 32 = .ok (.getfield 18, 3) := by decide +kernel
theorem dX8_wordsFreed_35 : decode cX8_wordsFreed 35 = .ok (.iload_n 3, 1) := by decide +kernel
theorem dX8_wordsFreed_36 : decode cX8_wordsFreed 36 = .ok (.invokevirtual 44, 3) := by decide +kernel
theorem dX8_wordsFreed_39 : decode cX8_wordsFreed 39 = .ok (.astore 4, 2) := by decide +kernel
theorem dX8_wordsFreed_41 : decode cX8_wordsFreed 41 = .ok (.aload 4, 2) := by decide +kernel
theorem dX8_wordsFreed_43 : decode cX8_wordsFreed 43 = .ok (.ifnull 26, 3) := by decide +kernel
theorem dX8_wordsFreed_46 : decode cX8_wordsFreed 46 = .ok (.aload 4, 2) := by decide +kernel
theorem dX8_wordsFreed_48 : decode cX8_wordsFreed 48 = .ok (.getfield 119, 3) := by decide +kernel
theorem dX8_wordsFreed_51 : decode cX8_wordsFreed 51 = .ok (.ifCond .eq 18, 3) := by decide +kernel
theorem dX8_wordsFreed_54 : decode cX8_wordsFreed 54 = .ok (.aload 4, 2) := by decide +kernel
theorem dX8_wordsFreed_56 : decode cX8_wordsFreed 56 = .ok (.getfield 84, 3) := by decide +kernel
theorem dX8_wordsFreed_59 : decode cX8_wordsFreed 59 = .ok (.iconst 4, 1) := by decide +kernel
theorem dX8_wordsFreed_60 : decode cX8_wordsFreed 60 = .ok (.if_icmp .ne 9, 3) := by decide +kernel
theorem dX8_wordsFreed_63 : decode cX8_wordsFreed 63 = .ok (.aload_n 0, 1) := by decide +kernel
theorem dX8_wordsFreed_64 : decode cX8_wordsFreed 64 = .ok (.aload 4, 2) := by decide +kernel
theorem dX8_wordsFreed_66 : decode cX8_wordsFreed 66 = .ok (.invokevirtual 64, 3) := by decide +kernel
theorem dX8_wordsFreed_69 : decode cX8_wordsFreed 69 = .ok (.iinc 3 1, 3) := by decide +kernel
theorem dX8_wordsFreed_72 : decode cX8_wordsFreed 72 = .ok (.goto (-52), 3) := by decide +kernel
theorem dX8_wordsFreed_75 : decode cX8_wordsFreed 75 = .ok (.aload_n 0, 1) := by decide +kernel
theorem dX8_wordsFreed_76 : decode cX8_wordsFreed 76 = .ok (.invokevirtual 113, 3) := by decide +kernel
theorem dX8_wordsFreed_79 : decode cX8_wordsFreed 79 = .ok (.iconst 0, 1) := by decide +kernel
theorem dX8_wordsFreed_80 : decode cX8_wordsFreed 80 = .ok (.istore_n 3, 1) := by decide +kernel
theorem dX8_wordsFreed_81 : decode cX8_wordsFreed 81 = .ok (.iconst 0, 1) := by decide +kernel
theorem dX8_wordsFreed_82 : decode cX8_wordsFreed 82 = .ok (.istore 4, 2) := by decide +kernel
theorem dX8_wordsFreed_84 : decode cX8_wordsFreed 84 = .ok (.iload 4, 2) := by decide +kernel
theorem dX8_wordsFreed_86 : decode cX8_wordsFreed 86 = .ok (.aload_n 0, 1) := by decide +kernel
theorem dX8_wordsFreed_87 : decode cX8_wordsFreed 87 = .ok (.getfield 18, 3) := by decide +kernel
theorem dX8_wordsFreed_90 : decode cX8_wordsFreed 90 = .ok (.invokevirtual 40, 3) := by decide +kernel
theorem dX8_wordsFreed_93 : decode cX8_wordsFreed 93 = .ok (.if_icmp .ge 49, 3) := by decide +kernel
theorem dX8_wordsFreed_96 : decode cX8_wordsFreed 96 = .ok (.aload_n 0, 1) := by decide +kernel
theorem dX8_wordsFreed_97 : decode cX8_wordsFreed 97 = .ok (.getfield 18, 3) := by decide +kernel
theorem dX8_wordsFreed_100 : decode cX8_wordsFreed 100 = .ok (.iload 4, 2) := by decide +kernel
theorem dX8_wordsFreed_102 : decode cX8_wordsFreed 102 = .ok (.invokevirtual 44, 3) := by decide +kernel
theorem dX8_wordsFreed_105 : decode cX8_wordsFreed 105 = .ok (.astore 5, 2) := by decide +kernel
theorem dX8_wordsFreed_107 : decode cX8_wordsFreed 107 = .ok (.aload 5, 2) := by decide +kernel
theorem dX8_wordsFreed_109 : decode cX8_wordsFreed 109 = .ok (.ifnull 27, 3) := by decide +kernel
theorem dX8_wordsFreed_112 : decode cX8_wordsFreed 112 = .ok (.aload 5, 2) := by decide +kernel
theorem dX8_wordsFreed_114 : decode cX8_wordsFreed 114 = .ok (.getfield 119, 3) := by decide +kernel
theorem dX8_wordsFreed_117 : decode cX8_wordsFreed 117 = .ok (.ifCond .eq 19, 3) := by decide +kernel
theorem dX8_wordsFreed_120 : decode cX8_wordsFreed 120 = .ok (.aload 5, 2) := by decide +kernel
theorem dX8_wordsFreed_122 : decode cX8_wordsFreed 122 = .ok (.getfield 48, 3) := by decide +kernel
theorem dX8_wordsFreed_125 : decode cX8_wordsFreed 125 = .ok (.ifCond .ne 11, 3) := by decide +kernel
theorem dX8_wordsFreed_128 : decode cX8_wordsFreed 128 = .ok (.iload_n 3, 1) := by decide +kernel
theorem dX8_wordsFreed_129 : decode cX8_wordsFreed 129 = .ok (.aload 5, 2) := by decide +kernel
theorem dX8_wordsFreed_131 : decode cX8_wordsFreed 131 = .ok (.getfield 122, 3) := by decide +kernel
theorem dX8_wordsFreed_134 : decode cX8_wordsFreed 134 = .ok (.iadd, 1) := by decide +kernel
theorem dX8_wordsFreed_135 : decode cX8_wordsFreed 135 = .ok (.istore_n 3, 1) := by decide +kernel
theorem dX8_wordsFreed_136 : decode cX8_wordsFreed 136 = .ok (.iinc 4 1, 3) := by decide +kernel
theorem dX8_wordsFreed_139 : decode cX8_wordsFreed 139 = .ok (.goto (-55), 3) := by decide +kernel
theorem dX8_wordsFreed_142 : decode cX8_wordsFreed 142 = .ok (.iload_n 3, 1) := by decide +kernel
theorem dX8_wordsFreed_143 : decode cX8_wordsFreed 143 = .ok (.ireturn, 1) := by decide +kernel
set_option maxRecDepth 20000 in
theorem ggX8_cutPairs_X5_size : GoodIn wsX8_cutPairs wsX5_size := goodIn_r _ [8, 9, 46, 47] (by decide +kernel) (by decide +kernel)
set_option maxRecDepth 20000 in
theorem gX8_cutPairs_X5_size : GoodIn wsX8_cutPairs (wsV RX8 40 RX5 yX5_size wsX5_size) := goodIn_app (goodIn_of _ (by decide +kernel)) ggX8_cutPairs_X5_size
set_option maxRecDepth 20000 in
theorem ggX8_cutPairs_X5_item : GoodIn wsX8_cutPairs wsX5_item := goodIn_r _ [13, 9, 14, 46, 47] (by decide +kernel) (by decide +kernel)
set_option maxRecDepth 20000 in
theorem gX8_cutPairs_X5_item : GoodIn wsX8_cutPairs (wsV RX8 44 RX5 yX5_item wsX5_item) := goodIn_app (goodIn_of _ (by decide +kernel)) ggX8_cutPairs_X5_item
set_option maxRecDepth 20000 in
theorem ggX8_cutPairs_X8_hasMarked : GoodIn wsX8_cutPairs wsX8_hasMarked := goodIn_r _ [18, 19, 20, 21, 22, 23, 24, 25, 32, 33, 34, 35, 36, 37, 38, 39, 40, 41, 42, 43, 44, 45] (by decide +kernel) (by decide +kernel)
set_option maxRecDepth 20000 in
theorem gX8_cutPairs_X8_hasMarked : GoodIn wsX8_cutPairs (va_wsS RX8 99 yX8_hasMarked wsX8_hasMarked) := goodIn_app (goodIn_of _ (by decide +kernel)) ggX8_cutPairs_X8_hasMarked
theorem dX8_cutPairs_0 : decode cX8_cutPairs 0 = .ok (.iconst 0, 1) := by decide +kernel
theorem dX8_cutPairs_1 : decode cX8_cutPairs 1 = .ok (.istore_n 1, 1) := by decide +kernel
theorem dX8_cutPairs_2 : decode cX8_cutPairs 2 = .ok (.iload_n 1, 1) := by decide +kernel
theorem dX8_cutPairs_3 : decode cX8_cutPairs 3 = .ok (.aload_n 0, 1) := by decide +kernel
theorem dX8_cutPairs_4 : decode cX8_cutPairs 4 = .ok (.getfield 12, 3) := by decide +kernel
theorem dX8_cutPairs_7 : decode cX8_cutPairs 7 = .ok (.invokevirtual 40, 3) := by decide +kernel
theorem dX8_cutPairs_10 : decode cX8_cutPairs 10 = .ok (.if_icmp .ge 43, 3) := by decide +kernel
theorem dX8_cutPairs_13 : decode cX8_cutPairs 13 = .ok (.aload_n 0, 1) := by decide +kernel
theorem dX8_cutPairs_14 : decode cX8_cutPairs 14 = .ok (.getfield 12, 3) := by decide +kernel
theorem dX8_cutPairs_17 : decode cX8_cutPairs 17 = .ok (.iload_n 1, 1) := by decide +kernel
theorem dX8_cutPairs_18 : decode cX8_cutPairs 18 = .ok (.invokevirtual 44, 3) := by decide +kernel
theorem dX8_cutPairs_21 : decode cX8_cutPairs 21 = .ok (.astore_n 2, 1) := by decide +kernel
theorem dX8_cutPairs_22 : decode cX8_cutPairs 22 = .ok (.aload_n 2, 1) := by decide +kernel
theorem dX8_cutPairs_23 : decode cX8_cutPairs 23 = .ok (.ifnull 24, 3) := by decide +kernel
theorem dX8_cutPairs_26 : decode cX8_cutPairs 26 = .ok (.aload_n 2, 1) := by decide +kernel
theorem dX8_cutPairs_27 : decode cX8_cutPairs 27 = .ok (.getfield 84, 3) := by decide +kernel
theorem dX8_cutPairs_30 : decode cX8_cutPairs 30 = .ok (.iconst 3, 1) := by decide +kernel
theorem dX8_cutPairs_31 : decode cX8_cutPairs 31 = .ok (.if_icmp .ne 16, 3) := by decide +kernel
theorem dX8_cutPairs_34 : decode cX8_cutPairs 34 = .ok (.aload_n 2, 1) := by decide +kernel
theorem dX8_cutPairs_35 : decode cX8_cutPairs 35 = .ok (.iconst 0, 1) := by decide +kernel
theorem dX8_cutPairs_36 : decode cX8_cutPairs 36 = .ok (.invokestatic 99, 3) := by decide +kernel
theorem dX8_cutPairs_39 : decode cX8_cutPairs 39 = .ok (.ifCond .ne 8, 3) := by decide +kernel
theorem dX8_cutPairs_42 : decode cX8_cutPairs 42 = .ok (.aload_n 2, 1) := by decide +kernel
theorem dX8_cutPairs_43 : decode cX8_cutPairs 43 = .ok (.iconst 1, 1) := by decide +kernel
theorem dX8_cutPairs_44 : decode cX8_cutPairs 44 = .ok (.putfield 53, 3) := by decide +kernel
theorem dX8_cutPairs_47 : decode cX8_cutPairs 47 = .ok (.iinc 1 1, 3) := by decide +kernel
theorem dX8_cutPairs_50 : decode cX8_cutPairs 50 = .ok (.goto (-48), 3) := by decide +kernel
theorem dX8_cutPairs_53 : decode cX8_cutPairs 53 = .ok (.return_, 1) := by decide +kernel
set_option maxRecDepth 20000 in
theorem ggX9_init_X5_init : GoodIn wsX9_init wsX5_init := goodIn_r _ [37, 38, 2, 3, 39, 40, 99, 100] (by decide +kernel) (by decide +kernel)
set_option maxRecDepth 20000 in
theorem gX9_init_X5_init_n9 : GoodIn wsX9_init (wsX5_init) := ggX9_init_X5_init
set_option maxRecDepth 20000 in
theorem ggX9_init_X4_init : GoodIn wsX9_init wsX4_init := goodIn_r _ [42, 43, 2, 3, 44, 5, 6, 45, 46, 47, 48, 49, 36, 37, 38, 39, 40, 99, 100, 110, 111, 112, 113] (by decide +kernel) (by decide +kernel)
set_option maxRecDepth 20000 in
theorem gX9_init_X4_init_n18 : GoodIn wsX9_init (wsX4_init) := ggX9_init_X4_init
set_option maxRecDepth 20000 in
theorem ggX9_init_X3_init : GoodIn wsX9_init wsX3_init := goodIn_r _ [51, 52, 2, 3, 53, 5, 6, 54, 55, 56, 57, 58, 59, 60, 36, 37, 38, 39, 40, 99, 100, 114, 115, 116, 117, 118, 119, 120, 121] (by decide +kernel) (by decide +kernel)
set_option maxRecDepth 20000 in
theorem gX9_init_X3_init_n25 : GoodIn wsX9_init (wsX3_init) := ggX9_init_X3_init
set_option maxRecDepth 20000 in
theorem ggX9_init_X6_init : GoodIn wsX9_init wsX6_init := goodIn_r _ [62, 63, 2, 3] (by decide +kernel) (by decide +kernel)
set_option maxRecDepth 20000 in
theorem gX9_init_X6_init_n32 : GoodIn wsX9_init (wsX6_init) := ggX9_init_X6_init
set_option maxRecDepth 20000 in
theorem ggX9_init_X1_init : GoodIn wsX9_init wsX1_init := goodIn_r _ [66, 67, 2, 3, 68, 69, 126, 127, 128] (by decide +kernel) (by decide +kernel)
set_option maxRecDepth 20000 in
theorem gX9_init_X1_init : GoodIn wsX9_init (wsX1_init) := ggX9_init_X1_init
set_option maxRecDepth 20000 in
theorem ggX9_init_X8_init : GoodIn wsX9_init wsX8_init := goodIn_r _ [72, 73, 2, 3, 74, 5, 6, 75, 76, 77, 36, 37, 38, 39, 40, 99, 100, 129, 130, 131, 132, 133, 134] (by decide +kernel) (by decide +kernel)
set_option maxRecDepth 20000 in
theorem gX9_init_X8_init : GoodIn wsX9_init (wsX8_init) := ggX9_init_X8_init
set_option maxRecDepth 20000 in
theorem ggX9_init_X2_init : GoodIn wsX9_init wsX2_init := goodIn_r _ [80, 81, 2, 3, 82, 83, 5, 6, 84, 85, 86, 87, 88, 36, 37, 38, 39, 40, 135, 136, 137, 138, 139, 140, 141, 142, 143, 99, 100] (by decide +kernel) (by decide +kernel)
set_option maxRecDepth 20000 in
theorem gX9_init_X2_init : GoodIn wsX9_init (wsX2_init) := ggX9_init_X2_init
set_option maxRecDepth 20000 in
theorem ggX9_init_X0_init : GoodIn wsX9_init wsX0_init := goodIn_r _ [91, 92, 2, 3, 93, 94, 95, 96, 97, 98, 144, 145, 146, 147, 148, 149] (by decide +kernel) (by decide +kernel)
set_option maxRecDepth 20000 in
theorem gX9_init_X0_init : GoodIn wsX9_init (wsX0_init) := ggX9_init_X0_init
theorem dX9_init_0 : decode cX9_init 0 = .ok (.aload_n 0, 1) := by decide +kernel
theorem dX9_init_1 : decode cX9_init 1 = .ok (.invokespecial 1, 3) := by decide +kernel
theorem dX9_init_4 : decode cX9_init 4 = .ok (.aload_n 0, 1) := by decide +kernel
theorem dX9_init_5 : decode cX9_init 5 = .ok (.new 7, 3) := by decide +kernel
theorem dX9_init_8 : decode cX9_init 8 = .ok (.dup, 1) := by decide +kernel
theorem dX9_init_9 : decode cX9_init 9 = .ok (.invokespecial 9, 3) := by decide +kernel
theorem dX9_init_12 : decode cX9_init 12 = .ok (.putfield 10, 3) := by decide +kernel
theorem dX9_init_15 : decode cX9_init 15 = .ok (.aload_n 0, 1) := by decide +kernel
theorem dX9_init_16 : decode cX9_init 16 = .ok (.new 16, 3) := by decide +kernel
theorem dX9_init_19 : decode cX9_init 19 = .ok (.dup, 1) := by decide +kernel
theorem dX9_init_20 : decode cX9_init 20 = .ok (.invokespecial 18, 3) := by decide +kernel
theorem dX9_init_23 : decode cX9_init 23 = .ok (.putfield 19, 3) := by decide +kernel
theorem dX9_init_26 : decode cX9_init 26 = .ok (.aload_n 0, 1) := by decide +kernel
theorem dX9_init_27 : decode cX9_init 27 = .ok (.new 23, 3) := by decide +kernel
theorem dX9_init_30 : decode cX9_init 30 = .ok (.dup, 1) := by decide +kernel
theorem dX9_init_31 : decode cX9_init 31 = .ok (.invokespecial 25, 3) := by decide +kernel
theorem dX9_init_34 : decode cX9_init 34 = .ok (.putfield 26, 3) := by decide +kernel
theorem dX9_init_37 : decode cX9_init 37 = .ok (.aload_n 0, 1) := by decide +kernel
theorem dX9_init_38 : decode cX9_init 38 = .ok (.new 30, 3) := by decide +kernel
theorem dX9_init_41 : decode cX9_init 41 = .ok (.dup, 1) := by decide +kernel
theorem dX9_init_42 : decode cX9_init 42 = .ok (.invokespecial 32, 3) := by decide +kernel
theorem dX9_init_45 : decode cX9_init 45 = .ok (.putfield 33, 3) := by decide +kernel
theorem dX9_init_48 : decode cX9_init 48 = .ok (.aload_n 0, 1) := by decide +kernel
theorem dX9_init_49 : decode cX9_init 49 = .ok (.new 37, 3) := by decide +kernel
theorem dX9_init_52 : decode cX9_init 52 = .ok (.dup, 1) := by decide +kernel
theorem dX9_init_53 : decode cX9_init 53 = .ok (.aload_n 0, 1) := by decide +kernel
theorem dX9_init_54 : decode cX9_init 54 = .ok (.getfield 10, 3) := by decide +kernel
theorem dX9_init_57 : decode cX9_init 57 = .ok (.aload_n 0, 1) := by decide +kernel
theorem dX9_init_58 : decode cX9_init 58 = .ok (.getfield 19, 3) := by decide +kernel
theorem dX9_init_61 : decode cX9_init 61 = .ok (.invokespecial 39, 3) := by decide +kernel
theorem dX9_init_64 : decode cX9_init 64 = .ok (.putfield 42, 3) := by decide +kernel
theorem dX9_init_67 : decode cX9_init 67 = .ok (.aload_n 0, 1) := by decide +kernel
theorem dX9_init_68 : decode cX9_init 68 = .ok (.new 46, 3) := by decide +kernel
theorem dX9_init_71 : decode cX9_init 71 = .ok (.dup, 1) := by decide +kernel
theorem dX9_init_72 : decode cX9_init 72 = .ok (.aload_n 0, 1) := by decide +kernel
theorem dX9_init_73 : decode cX9_init 73 = .ok (.getfield 10, 3) := by decide +kernel
theorem dX9_init_76 : decode cX9_init 76 = .ok (.aload_n 0, 1) := by decide +kernel
theorem dX9_init_77 : decode cX9_init 77 = .ok (.getfield 19, 3) := by decide +kernel
theorem dX9_init_80 : decode cX9_init 80 = .ok (.invokespecial 48, 3) := by decide +kernel
theorem dX9_init_83 : decode cX9_init 83 = .ok (.putfield 49, 3) := by decide +kernel
theorem dX9_init_86 : decode cX9_init 86 = .ok (.aload_n 0, 1) := by decide +kernel
theorem dX9_init_87 : decode cX9_init 87 = .ok (.new 53, 3) := by decide +kernel
theorem dX9_init_90 : decode cX9_init 90 = .ok (.dup, 1) := by decide +kernel
theorem dX9_init_91 : decode cX9_init 91 = .ok (.aload_n 0, 1) := by decide +kernel
theorem dX9_init_92 : decode cX9_init 92 = .ok (.getfield 10, 3) := by decide +kernel
theorem dX9_init_95 : decode cX9_init 95 = .ok (.aload_n 0, 1) := by decide +kernel
theorem dX9_init_96 : decode cX9_init 96 = .ok (.getfield 19, 3) := by decide +kernel
theorem dX9_init_99 : decode cX9_init 99 = .ok (.aload_n 0, 1) := by decide +kernel
theorem dX9_init_100 : decode cX9_init 100 = .ok (.getfield 26, 3) := by decide +kernel
theorem dX9_init_103 : decode cX9_init 103 = .ok (.aload_n 0, 1) := by decide +kernel
theorem dX9_init_104 : decode cX9_init 104 = .ok (.getfield 33, 3) := by decide +kernel
theorem dX9_init_107 : decode cX9_init 107 = .ok (.invokespecial 55, 3) := by decide +kernel
theorem dX9_init_110 : decode cX9_init 110 = .ok (.putfield 58, 3) := by decide +kernel
theorem dX9_init_113 : decode cX9_init 113 = .ok (.aload_n 0, 1) := by decide +kernel
theorem dX9_init_114 : decode cX9_init 114 = .ok (.new 62, 3) := by decide +kernel
theorem dX9_init_117 : decode cX9_init 117 = .ok (.dup, 1) := by decide +kernel
theorem dX9_init_118 : decode cX9_init 118 = .ok (.aload_n 0, 1) := by decide +kernel
theorem dX9_init_119 : decode cX9_init 119 = .ok (.getfield 10, 3) := by decide +kernel
theorem dX9_init_122 : decode cX9_init 122 = .ok (.aload_n 0, 1) := by decide +kernel
theorem dX9_init_123 : decode cX9_init 123 = .ok (.getfield 19, 3) := by decide +kernel
theorem dX9_init_126 : decode cX9_init 126 = .ok (.aload_n 0, 1) := by decide +kernel
theorem dX9_init_127 : decode cX9_init 127 = .ok (.getfield 26, 3) := by decide +kernel
theorem dX9_init_130 : decode cX9_init 130 = .ok (.aload_n 0, 1) := by decide +kernel
theorem dX9_init_131 : decode cX9_init 131 = .ok (.getfield 33, 3) := by decide +kernel
theorem dX9_init_134 : decode cX9_init 134 = .ok (.aload_n 0, 1) := by decide +kernel
theorem dX9_init_135 : decode cX9_init 135 = .ok (.getfield 42, 3) := by decide +kernel
theorem dX9_init_138 : decode cX9_init 138 = .ok (.aload_n 0, 1) := by decide +kernel
theorem dX9_init_139 : decode cX9_init 139 = .ok (.getfield 49, 3) := by decide +kernel
theorem dX9_init_142 : decode cX9_init 142 = .ok (.invokespecial 64, 3) := by decide +kernel
theorem dX9_init_145 : decode cX9_init 145 = .ok (.putfield 67, 3) := by decide +kernel
theorem dX9_init_148 : decode cX9_init 148 = .ok (.return_, 1) := by decide +kernel
set_option maxRecDepth 20000 in
theorem ggX9_push_X4_frames : GoodIn wsX9_push wsX4_frames := goodIn_r _ [8, 9, 23, 24, 25, 26] (by decide +kernel) (by decide +kernel)
set_option maxRecDepth 20000 in
theorem gX9_push_X4_frames : GoodIn wsX9_push (wsV RX9 71 RX4 yX4_frames wsX4_frames) := goodIn_app (goodIn_of _ (by decide +kernel)) ggX9_push_X4_frames
set_option maxRecDepth 20000 in
theorem ggX9_push_X4_addFrame : GoodIn wsX9_push wsX4_addFrame := goodIn_r _ [13, 9, 23, 24, 25, 26] (by decide +kernel) (by decide +kernel)
set_option maxRecDepth 20000 in
theorem gX9_push_X4_addFrame : GoodIn wsX9_push (wsV RX9 82 RX4 yX4_addFrame wsX4_addFrame) := goodIn_app (goodIn_of _ (by decide +kernel)) ggX9_push_X4_addFrame
theorem dX9_push_0 : decode cX9_push 0 = .ok (.aload_n 0, 1) := by decide +kernel
theorem dX9_push_1 : decode cX9_push 1 = .ok (.getfield 19, 3) := by decide +kernel
theorem dX9_push_4 : decode cX9_push 4 = .ok (.invokevirtual 71, 3) := by decide +kernel
theorem dX9_push_7 : decode cX9_push 7 = .ok (.bipush 8, 2) := by decide +kernel
theorem dX9_push_9 : decode cX9_push 9 = .ok (.if_icmp .lt 13, 3) := by decide +kernel
theorem dX9_push_12 : decode cX9_push 12 = .ok (.new 75, 3) := by decide +kernel
theorem dX9_push_15 : decode cX9_push 15 = .ok (.dup, 1) := by decide +kernel
theorem dX9_push_16 : decode cX9_push 16 = .ok (.ldc 77, 2) := by decide +kernel
theorem dX9_push_18 : decode cX9_push 18 = .ok (.invokespecial 79, 3) := by decide +kernel
theorem dX9_push_21 : decode cX9_push 21 = .ok (.athrow, 1) := by decide +kernel
theorem dX9_push_22 : decode cX9_push 22 = .ok (.aload_n 0, 1) := by decide +kernel
theorem dX9_push_23 : decode cX9_push 23 = .ok (.getfield 19, 3) := by decide +kernel
theorem dX9_push_26 : decode cX9_push 26 = .ok (.invokevirtual 82, 3) := by decide +kernel
theorem dX9_push_29 : decode cX9_push 29 = .ok (.aload_n 0, 1) := by decide +kernel
theorem dX9_push_30 : decode cX9_push 30 = .ok (.getfield 19, 3) := by decide +kernel
theorem dX9_push_33 : decode cX9_push 33 = .ok (.invokevirtual 71, 3) := by decide +kernel
theorem dX9_push_36 : decode cX9_push 36 = .ok (.ireturn, 1) := by decide +kernel
set_option maxRecDepth 20000 in
theorem ggX9_pop_X4_frames : GoodIn wsX9_pop wsX4_frames := goodIn_r _ [8, 9, 32, 33, 34, 35] (by decide +kernel) (by decide +kernel)
set_option maxRecDepth 20000 in
theorem gX9_pop_X4_frames : GoodIn wsX9_pop (wsV RX9 71 RX4 yX4_frames wsX4_frames) := goodIn_app (goodIn_of _ (by decide +kernel)) ggX9_pop_X4_frames
set_option maxRecDepth 20000 in
theorem ggX9_pop_X4_dropFrame : GoodIn wsX9_pop wsX4_dropFrame := goodIn_r _ [13, 9, 14, 15, 16, 7, 17, 18, 19, 20, 21, 22, 32, 33, 34, 35] (by decide +kernel) (by decide +kernel)
set_option maxRecDepth 20000 in
theorem gX9_pop_X4_dropFrame : GoodIn wsX9_pop (wsV RX9 87 RX4 yX4_dropFrame wsX4_dropFrame) := goodIn_app (goodIn_of _ (by decide +kernel)) ggX9_pop_X4_dropFrame
theorem dX9_pop_0 : decode cX9_pop 0 = .ok (.aload_n 0, 1) := by decide +kernel
theorem dX9_pop_1 : decode cX9_pop 1 = .ok (.getfield 19, 3) := by decide +kernel
theorem dX9_pop_4 : decode cX9_pop 4 = .ok (.invokevirtual 71, 3) := by decide +kernel
theorem dX9_pop_7 : decode cX9_pop 7 = .ok (.iconst 1, 1) := by decide +kernel
theorem dX9_pop_8 : decode cX9_pop 8 = .ok (.if_icmp .gt 13, 3) := by decide +kernel
theorem dX9_pop_11 : decode cX9_pop 11 = .ok (.new 75, 3) := by decide +kernel
theorem dX9_pop_14 : decode cX9_pop 14 = .ok (.dup, 1) := by decide +kernel
theorem dX9_pop_15 : decode cX9_pop 15 = .ok (.ldc 85, 2) := by decide +kernel
theorem dX9_pop_17 : decode cX9_pop 17 = .ok (.invokespecial 79, 3) := by decide +kernel
theorem dX9_pop_20 : decode cX9_pop 20 = .ok (.athrow, 1) := by decide +kernel
theorem dX9_pop_21 : decode cX9_pop 21 = .ok (.aload_n 0, 1) := by decide +kernel
theorem dX9_pop_22 : decode cX9_pop 22 = .ok (.getfield 19, 3) := by decide +kernel
theorem dX9_pop_25 : decode cX9_pop 25 = .ok (.invokevirtual 87, 3) := by decide +kernel
theorem dX9_pop_28 : decode cX9_pop 28 = .ok (.aload_n 0, 1) := by decide +kernel
theorem dX9_pop_29 : decode cX9_pop 29 = .ok (.getfield 19, 3) := by decide +kernel
theorem dX9_pop_32 : decode cX9_pop 32 = .ok (.invokevirtual 71, 3) := by decide +kernel
theorem dX9_pop_35 : decode cX9_pop 35 = .ok (.ireturn, 1) := by decide +kernel
set_option maxRecDepth 20000 in
theorem ggX9_make_X9_requireSlot : GoodIn wsX9_make wsX9_requireSlot := goodIn_ca (goodIn_r _ [16, 17, 18] (by decide +kernel) (by decide +kernel)) (goodIn_sub (fun _ h => List.mem_cons_of_mem _ (List.mem_append_right _ h)) (by decide +kernel))
set_option maxRecDepth 20000 in
theorem gX9_make_X9_requireSlot : GoodIn wsX9_make (va_wsS RX9 90 yX9_requireSlot wsX9_requireSlot) := goodIn_app (goodIn_of _ (by decide +kernel)) ggX9_make_X9_requireSlot
set_option maxRecDepth 20000 in
theorem ggX9_make_X9_leastFields : GoodIn wsX9_make wsX9_leastFields := goodIn_r _ [21] (by decide +kernel) (by decide +kernel)
set_option maxRecDepth 20000 in
theorem gX9_make_X9_leastFields : GoodIn wsX9_make (va_wsS RX9 94 yX9_leastFields wsX9_leastFields) := goodIn_app (goodIn_of _ (by decide +kernel)) ggX9_make_X9_leastFields
set_option maxRecDepth 20000 in
theorem ggX9_make_X5_size : GoodIn wsX9_make wsX5_size := goodIn_r _ [26, 27, 425, 426] (by decide +kernel) (by decide +kernel)
set_option maxRecDepth 20000 in
theorem gX9_make_X5_size : GoodIn wsX9_make (wsV RX9 103 RX5 yX5_size wsX5_size) := goodIn_app (goodIn_of _ (by decide +kernel)) ggX9_make_X5_size
set_option maxRecDepth 20000 in
theorem ggX9_make_X3_gapFor : GoodIn wsX9_make wsX3_gapFor := goodIn_r _ [32, 33, 34, 35, 36, 37, 31, 38, 39, 40, 41, 23, 24, 25, 26, 27, 42, 43, 44, 45, 46, 47, 48, 49, 9, 50, 51, 52, 427, 428, 429, 430, 431, 432, 433, 434, 411, 412, 413, 414, 415, 416, 417, 418, 419, 420, 421, 422, 423, 424, 425, 426] (by decide +kernel) (by decide +kernel)
set_option maxRecDepth 20000 in
theorem gX9_make_X3_gapFor : GoodIn wsX9_make (wsV RX9 108 RX3 yX3_gapFor wsX3_gapFor) := goodIn_app (goodIn_of _ (by decide +kernel)) ggX9_make_X3_gapFor
set_option maxRecDepth 20000 in
theorem ggX9_make_X9_minor : GoodIn wsX9_make wsX9_minor := goodIn_r _ [56, 6, 57, 58, 59, 60, 61, 31, 62, 63, 64, 41, 23, 24, 25, 26, 27, 42, 43, 44, 45, 46, 65, 66, 67, 68, 69, 70, 71, 72, 73, 74, 75, 76, 77, 78, 79, 80, 81, 82, 83, 84, 85, 86, 87, 88, 89, 90, 91, 92, 93, 94, 95, 96, 97, 98, 99, 100, 101, 102, 103, 104, 105, 9, 106, 51, 107, 108, 109, 110, 111, 112, 113, 114, 115, 116, 117, 118, 119, 120, 121, 122, 123, 124, 125, 126, 127, 128, 129, 130, 131, 132, 133, 134, 135, 136, 137, 138, 139, 140, 141, 142, 143, 144, 145, 146, 147, 148, 149, 150, 151, 152, 153, 154, 155, 52, 156, 47, 48, 49, 50, 157, 158, 159, 160, 161, 162, 163, 164, 165, 166, 167, 168, 169, 170, 171, 172, 173, 174, 175, 176, 177, 178, 179, 180, 181, 182, 183, 184, 185, 186, 187, 188, 189, 190, 191, 192, 193, 194, 195, 196, 197, 198, 39, 199, 200, 201, 202, 203, 204, 205, 206, 207, 208, 209, 210, 211, 212, 213, 214, 215, 216, 217, 218, 219, 220, 221, 222, 223, 224, 225, 226, 227, 228, 229, 230, 231, 232, 233, 234, 235, 236, 237, 238, 239, 240, 241, 242, 243, 244, 245, 246, 247, 248, 249, 250, 251, 252, 253, 254, 255, 256, 257, 258, 259, 260, 261, 262, 263, 264, 265, 266, 267, 268, 269, 270, 271, 272, 273, 274, 275, 276, 277, 278, 279, 280, 281, 282, 283, 284, 285, 15, 286, 287, 288, 289, 290, 291, 292, 293, 294, 295, 296, 297, 298, 299, 300, 301, 302, 303, 304, 305, 306, 307, 308, 309, 310, 311, 312, 313, 314, 315, 316, 317, 318, 319, 320, 321, 322, 323, 324, 325, 326, 327, 328, 329, 330, 331, 332, 333, 334, 40, 335, 336, 337, 338, 339, 34, 33, 340, 341, 342, 343, 344, 345, 346, 347, 348, 349, 350, 351, 352, 353, 354, 355, 356, 357, 358, 359, 360, 361, 362, 363, 402, 403, 404, 405, 406, 407, 408, 409, 410, 427, 428, 429, 430, 431, 432, 433, 434, 411, 412, 413, 414, 415, 416, 417, 418, 419, 420, 421, 422, 423, 424, 425, 426, 435, 436, 437, 438, 439, 440, 441, 442, 443, 444, 445, 446, 447, 448, 449, 450, 451, 452, 453, 454, 455, 456, 457, 458, 459, 460, 461, 462, 463, 464, 465, 466] (by decide +kernel) (by decide +kernel)
set_option maxRecDepth 20000 in
theorem gX9_make_X9_minor : GoodIn wsX9_make (wsV RX9 111 RX9 yX9_minor wsX9_minor) := goodIn_app (goodIn_of _ (by decide +kernel)) ggX9_make_X9_minor
set_option maxRecDepth 20000 in
theorem ggX9_make_X9_full : GoodIn wsX9_make wsX9_full := goodIn_r _ [367, 58, 228, 229, 230, 231, 232, 233, 234, 235, 236, 237, 238, 239, 240, 241, 242, 243, 244, 245, 246, 247, 248, 249, 250, 94, 95, 25, 96, 27, 251, 23, 24, 26, 252, 43, 44, 45, 46, 253, 254, 255, 256, 257, 258, 259, 260, 261, 262, 113, 114, 115, 263, 264, 265, 266, 267, 268, 269, 117, 118, 119, 120, 121, 122, 123, 270, 125, 126, 127, 128, 129, 130, 131, 132, 133, 134, 271, 272, 273, 274, 275, 276, 277, 278, 279, 280, 281, 282, 283, 284, 285, 15, 286, 287, 288, 289, 290, 291, 292, 293, 294, 171, 172, 9, 173, 174, 295, 296, 297, 298, 299, 300, 301, 302, 303, 304, 305, 176, 177, 178, 306, 307, 308, 309, 310, 311, 312, 313, 314, 315, 316, 317, 318, 319, 191, 192, 193, 156, 194, 320, 321, 322, 31, 323, 63, 150, 39, 324, 325, 326, 327, 328, 329, 330, 331, 332, 333, 70, 334, 40, 335, 41, 42, 151, 152, 153, 154, 155, 52, 51, 47, 48, 49, 50, 336, 337, 338, 339, 34, 33, 340, 60, 61, 62, 64, 65, 66, 67, 68, 69, 341, 147, 148, 149, 157, 342, 213, 214, 215, 216, 343, 344, 345, 346, 347, 348, 349, 226, 350, 351, 225, 227, 352, 196, 197, 198, 111, 199, 200, 201, 202, 203, 204, 205, 206, 207, 208, 209, 210, 211, 104, 105, 106, 353, 354, 355, 356, 357, 358, 359, 360, 361, 362, 363, 218, 219, 220, 221, 222, 223, 224, 402, 403, 404, 405, 406, 407, 408, 409, 410, 452, 453, 454, 455, 456, 457, 444, 445, 446, 447, 458, 459, 460, 461, 462, 463, 411, 412, 413, 414, 415, 416, 417, 418, 419, 420, 421, 422, 423, 424, 425, 426, 448, 449, 450, 451, 427, 428, 429, 430, 431, 432, 433, 434, 464, 465, 466] (by decide +kernel) (by decide +kernel)
set_option maxRecDepth 20000 in
theorem gX9_make_X9_full : GoodIn wsX9_make (wsV RX9 114 RX9 yX9_full wsX9_full) := goodIn_app (goodIn_of _ (by decide +kernel)) ggX9_make_X9_full
set_option maxRecDepth 20000 in
theorem ggX9_make_X7_init : GoodIn wsX9_make wsX7_init := goodIn_r _ [370, 371, 372, 373, 374, 375, 376, 174, 52, 155, 377, 411, 412, 413, 414, 415, 416, 417, 418, 419, 420, 421, 422, 423, 424] (by decide +kernel) (by decide +kernel)
set_option maxRecDepth 20000 in
theorem gX9_make_X7_init : GoodIn wsX9_make (wsX7_init) := ggX9_make_X7_init
set_option maxRecDepth 20000 in
theorem ggX9_make_X5_add : GoodIn wsX9_make wsX5_add := goodIn_r _ [115, 27, 46, 425, 426] (by decide +kernel) (by decide +kernel)
set_option maxRecDepth 20000 in
theorem gX9_make_X5_add : GoodIn wsX9_make (wsV RX9 123 RX5 yX5_add wsX5_add) := goodIn_app (goodIn_of _ (by decide +kernel)) ggX9_make_X5_add
set_option maxRecDepth 20000 in
theorem ggX9_make_X3_lay : GoodIn wsX9_make wsX3_lay := goodIn_r _ [382, 383, 39, 63, 33, 151, 152, 153, 9, 154, 155, 52, 156, 51, 384, 385, 386, 25, 387, 27, 46, 388, 329, 113, 114, 115, 157, 47, 48, 49, 50, 411, 412, 413, 414, 415, 416, 417, 418, 419, 420, 421, 422, 423, 424, 427, 428, 429, 430, 431, 432, 433, 434, 425, 426] (by decide +kernel) (by decide +kernel)
set_option maxRecDepth 20000 in
theorem gX9_make_X3_lay : GoodIn wsX9_make (wsV RX9 127 RX3 yX3_lay wsX3_lay) := goodIn_app (goodIn_of _ (by decide +kernel)) ggX9_make_X3_lay
set_option maxRecDepth 20000 in
theorem ggX9_make_X1_noteMade : GoodIn wsX9_make wsX1_noteMade := goodIn_r _ [392, 358, 393, 464, 465, 466, 411, 412, 413, 414, 415, 416, 417, 418, 419, 420, 421, 422, 423, 424] (by decide +kernel) (by decide +kernel)
set_option maxRecDepth 20000 in
theorem gX9_make_X1_noteMade : GoodIn wsX9_make (wsV RX9 131 RX1 yX1_noteMade wsX1_noteMade) := goodIn_app (goodIn_of _ (by decide +kernel)) ggX9_make_X1_noteMade
set_option maxRecDepth 20000 in
theorem ggX9_make_X4_writeSlot : GoodIn wsX9_make wsX4_writeSlot := goodIn_r _ [397, 128, 398, 399, 400, 119, 401, 121, 448, 449, 450, 451] (by decide +kernel) (by decide +kernel)
set_option maxRecDepth 20000 in
theorem gX9_make_X4_writeSlot : GoodIn wsX9_make (wsV RX9 134 RX4 yX4_writeSlot wsX4_writeSlot) := goodIn_app (goodIn_of _ (by decide +kernel)) ggX9_make_X4_writeSlot
theorem dX9_make_0 : decode cX9_make 0 = .ok (.iload_n 1, 1) := by decide +kernel
theorem dX9_make_1 : decode cX9_make 1 = .ok (.invokestatic 90, 3) := by decide +kernel
theorem dX9_make_4 : decode cX9_make 4 = .ok (.iload_n 2, 1) := by decide +kernel
theorem dX9_make_5 : decode cX9_make 5 = .ok (.ifCond .lt 22, 3) := by decide +kernel
theorem dX9_make_8 : decode cX9_make 8 = .ok (.iload_n 2, 1) := by decide +kernel
theorem dX9_make_9 : decode cX9_make 9 = .ok (.iconst 4, 1) := by decide +kernel
theorem dX9_make_10 : decode cX9_make 10 = .ok (.if_icmp .gt 17, 3) := by decide +kernel
theorem dX9_make_13 : decode cX9_make 13 = .ok (.iload_n 3, 1) := by decide +kernel
theorem dX9_make_14 : decode cX9_make 14 = .ok (.iload_n 2, 1) := by decide +kernel
theorem dX9_make_15 : decode cX9_make 15 = .ok (.invokestatic 94, 3) := by decide +kernel
theorem dX9_make_18 : decode cX9_make 18 = .ok (.if_icmp .lt 9, 3) := by decide +kernel
theorem dX9_make_21 : decode cX9_make 21 = .ok (.iload_n 3, 1) := by decide +kernel
theorem dX9_make_22 : decode cX9_make 22 = .ok (.bipush 20, 2) := by decide +kernel
theorem dX9_make_24 : decode cX9_make 24 = .ok (.if_icmp .le 13, 3) := by decide +kernel
theorem dX9_make_27 : decode cX9_make 27 = .ok (.new 98, 3) := by decide +kernel
theorem dX9_make_30 : decode cX9_make 30 = .ok (.dup, 1) := by decide +kernel
theorem dX9_make_31 : decode cX9_make 31 = .ok (.ldc 100, 2) := by decide +kernel
theorem dX9_make_33 : decode cX9_make 33 = .ok (.invokespecial 102, 3) := by decide +kernel
theorem dX9_make_36 : decode cX9_make 36 = .ok (.athrow, 1) := by decide +kernel
theorem dX9_make_37 : decode cX9_make 37 = .ok (.aload_n 0, 1) := by decide +kernel
theorem dX9_make_38 : decode cX9_make 38 = .ok (.getfield 10, 3) := by decide +kernel
theorem dX9_make_41 : decode cX9_make 41 = .ok (.invokevirtual 103, 3) := by decide +kernel
theorem dX9_make_44 : decode cX9_make 44 = .ok (.sipush 200, 3) := by decide +kernel
theorem dX9_make_47 : decode cX9_make 47 = .ok (.if_icmp .lt 13, 3) := by decide +kernel
theorem dX9_make_50 : decode cX9_make 50 = .ok (.new 75, 3) := by decide +kernel
theorem dX9_make_53 : decode cX9_make 53 = .ok (.dup, 1) := by decide +kernel
theorem dX9_make_54 : decode cX9_make 54 = .ok (.ldc 106, 2) := by decide +kernel
theorem dX9_make_56 : decode cX9_make 56 = .ok (.invokespecial 79, 3) := by decide +kernel
theorem dX9_make_59 : decode cX9_make 59 = .ok (.athrow, 1) := by decide +kernel
theorem dX9_make_60 : decode cX9_make 60 = .ok (.aload_n 0, 1) := by decide +kernel
theorem dX9_make_61 : decode cX9_make 61 = .ok (.getfield 26, 3) := by decide +kernel
theorem dX9_make_64 : decode cX9_make 64 = .ok (.iload_n 3, 1) := by decide +kernel
theorem dX9_make_65 : decode cX9_make 65 = .ok (.invokevirtual 108, 3) := by decide +kernel
theorem dX9_make_68 : decode cX9_make 68 = .ok (.istore 4, 2) := by decide +kernel
theorem dX9_make_70 : decode cX9_make 70 = .ok (.iload 4, 2) := by decide +kernel
theorem dX9_make_72 : decode cX9_make 72 = .ok (.iconst (-1), 1) := by decide +kernel
theorem dX9_make_73 : decode cX9_make 73 = .ok (.if_icmp .ne 24, 3) := by decide +kernel
theorem dX9_make_76 : decode cX9_make 76 = .ok (.iload_n 3, 1) := by decide +kernel
theorem dX9_make_77 : decode cX9_make 77 = .ok (.bipush 12, 2) := by decide +kernel
theorem dX9_make_79 : decode cX9_make 79 = .ok (.if_icmp .ge 18, 3) := by decide +kernel
theorem dX9_make_82 : decode cX9_make 82 = .ok (.aload_n 0, 1) := by decide +kernel
theorem dX9_make_83 : decode cX9_make 83 = .ok (.invokevirtual 111, 3) := by decide +kernel
theorem dX9_make_86 : decode cX9_make 86 = .ok (.pop, 1) := by decide +kernel
theorem dX9_make_87 : decode cX9_make 87 = .ok (.aload_n 0, 1) := by decide +kernel
theorem dX9_make_88 : decode cX9_make 88 = .ok (.getfield 26, 3) := by decide +kernel
theorem dX9_make_91 : decode cX9_make 91 = .ok (.iload_n 3, 1) := by decide +kernel
theorem dX9_make_92 : decode cX9_make 92 = .ok (.invokevirtual 108, 3) := by decide +kernel
theorem dX9_make_95 : decode cX9_make 95 = .ok (.istore 4, 2) := by decide +kernel
theorem dX9_make_97 : decode cX9_make 97 = .ok (.iload 4, 2) := by decide +kernel
theorem dX9_make_99 : decode cX9_make 99 = .ok (.iconst (-1), 1) := by decide +kernel
theorem dX9_make_100 : decode cX9_make 100 = .ok (.if_icmp .ne 19, 3) := by decide +kernel
theorem dX9_make_103 : decode cX9_make 103 = .ok (.aload_n 0, 1) := by decide +kernel
theorem dX9_make_104 : decode cX9_make 104 = .ok (.iconst 1, 1) := by decide +kernel
theorem dX9_make_105 : decode cX9_make 105 = .ok (.invokevirtual 114, 3) := by decide +kernel
theorem dX9_make_108 : decode cX9_make 108 = .ok (.pop, 1) := by decide +kernel
theorem dX9_make_109 : decode cX9_make 109 = .ok (.aload_n 0, 1) := by decide +kernel
theorem dX9_make_110 : decode cX9_make 110 = .ok (.getfield 26, 3) := by decide +kernel
theorem dX9_make_113 : decode cX9_make 113 = .ok (.iload_n 3, 1) := by decide +kernel
theorem dX9_make_114 : decode cX9_make 114 = .ok (.invokevirtual 108, 3) := by decide +kernel
theorem dX9_make_117 : decode cX9_make 117 = .ok (.istore 4, 2) := by decide +kernel
theorem dX9_make_119 : decode cX9_make 119 = .ok (.iload 4, 2) := by decide +kernel
theorem dX9_make_121 : decode cX9_make 121 = .ok (.iconst (-1), 1) := by decide +kernel
theorem dX9_make_122 : decode cX9_make 122 = .ok (.if_icmp .ne 19, 3) := by decide +kernel
theorem dX9_make_125 : decode cX9_make 125 = .ok (.aload_n 0, 1) := by decide +kernel
theorem dX9_make_126 : decode cX9_make 126 = .ok (.iconst 0, 1) := by decide +kernel
theorem dX9_make_127 : decode cX9_make 127 = .ok (.invokevirtual 114, 3) := by decide +kernel
theorem dX9_make_130 : decode cX9_make 130 = .ok (.pop, 1) := by decide +kernel
theorem dX9_make_131 : decode cX9_make 131 = .ok (.aload_n 0, 1) := by decide +kernel
theorem dX9_make_132 : decode cX9_make 132 = .ok (.getfield 26, 3) := by decide +kernel
theorem dX9_make_135 : decode cX9_make 135 = .ok (.iload_n 3, 1) := by decide +kernel
theorem dX9_make_136 : decode cX9_make 136 = .ok (.invokevirtual 108, 3) := by decide +kernel
theorem dX9_make_139 : decode cX9_make 139 = .ok (.istore 4, 2) := by decide +kernel
theorem dX9_make_141 : decode cX9_make 141 = .ok (.iload 4, 2) := by decide +kernel
theorem dX9_make_143 : decode cX9_make 143 = .ok (.iconst (-1), 1) := by decide +kernel
theorem dX9_make_144 : decode cX9_make 144 = .ok (.if_icmp .ne 5, 3) := by decide +kernel
theorem dX9_make_147 : decode cX9_make 147 = .ok (.iconst (-1), 1) := by decide +kernel
theorem dX9_make_148 : decode cX9_make 148 = .ok (.ireturn, 1) := by decide +kernel
theorem dX9_make_149 : decode cX9_make 149 = .ok (.new 118, 3) := by decide +kernel
theorem dX9_make_152 : decode cX9_make 152 = .ok (.dup, 1) := by decide +kernel
theorem dX9_make_153 : decode cX9_make 153 = .ok (.aload_n 0, 1) := by decide +kernel
theorem dX9_make_154 : decode cX9_make 154 = .ok (.getfield 10, 3) := by decide +kernel
theorem dX9_make_157 : decode cX9_make 157 = .ok (.invokevirtual 103, 3) := by decide +kernel
theorem dX9_make_160 : decode cX9_make 160 = .ok (.iload_n 2, 1) := by decide +kernel
theorem dX9_make_161 : decode cX9_make 161 = .ok (.iload_n 3, 1) := by decide +kernel
theorem dX9_make_162 : decode cX9_make 162 = .ok (.invokespecial 120, 3) := by decide +kernel
theorem dX9_make_165 : decode cX9_make 165 = .ok (.astore 5, 2) := by decide +kernel
theorem dX9_make_167 : decode cX9_make 167 = .ok (.aload_n 0, 1) := by decide +kernel
theorem dX9_make_168 : decode cX9_make 168 = .ok (.getfield 10, 3) := by decide +kernel
theorem dX9_make_171 : decode cX9_make 171 = .ok (.aload 5, 2) := by decide +kernel
theorem dX9_make_173 : decode cX9_make 173 = .ok (.invokevirtual 123, 3) := by decide +kernel
theorem dX9_make_176 : decode cX9_make 176 = .ok (.aload_n 0, 1) := by decide +kernel
theorem dX9_make_177 : decode cX9_make 177 = .ok (.getfield 26, 3) := by decide +kernel
theorem dX9_make_180 : decode cX9_make 180 = .ok (.aload 5, 2) := by decide +kernel
theorem dX9_make_182 : decode cX9_make 182 = .ok (.iload 4, 2) := by decide +kernel
theorem dX9_make_184 : decode cX9_make 184 = .ok (.invokevirtual 127, 3) := by decide +kernel
theorem dX9_make_187 : decode cX9_make 187 = .ok (.aload_n 0, 1) := by decide +kernel
theorem dX9_make_188 : decode cX9_make 188 = .ok (.getfield 42, 3) := by decide +kernel
theorem dX9_make_191 : decode cX9_make 191 = .ok (.aload 5, 2) := by decide +kernel
theorem dX9_make_193 : decode cX9_make 193 = .ok (.invokevirtual 131, 3) := by decide +kernel
theorem dX9_make_196 : decode cX9_make 196 = .ok (.aload_n 0, 1) := by decide +kernel
theorem dX9_make_197 : decode cX9_make 197 = .ok (.getfield 19, 3) := by decide +kernel
theorem dX9_make_200 : decode cX9_make 200 = .ok (.iload_n 1, 1) := by decide +kernel
theorem dX9_make_201 : decode cX9_make 201 = .ok (.aload 5, 2) := by decide +kernel
theorem dX9_make_203 : decode cX9_make 203 = .ok (.invokevirtual 134, 3) := by decide +kernel
theorem dX9_make_206 : decode cX9_make 206 = .ok (.aload 5, 2) := by decide +kernel
theorem dX9_make_208 : decode cX9_make 208 = .ok (.getfield 138, 3) := by decide +kernel
theorem dX9_make_211 : decode cX9_make 211 = .ok (.ireturn, 1) := by decide +kernel
set_option maxRecDepth 20000 in
theorem ggX9_set_X9_requireSlot : GoodIn wsX9_set wsX9_requireSlot := goodIn_ca (goodIn_r _ [7, 8, 9] (by decide +kernel) (by decide +kernel)) (goodIn_sub (fun _ h => List.mem_cons_of_mem _ (List.mem_append_left _ (List.mem_append_right _ h))) (by decide +kernel))
set_option maxRecDepth 20000 in
theorem gX9_set_X9_requireSlot : GoodIn wsX9_set (va_wsS RX9 90 yX9_requireSlot wsX9_requireSlot) := goodIn_app (goodIn_of _ (by decide +kernel)) ggX9_set_X9_requireSlot
set_option maxRecDepth 20000 in
theorem ggX9_set_X9_requireSlotOrNone : GoodIn wsX9_set wsX9_requireSlotOrNone := goodIn_ca (goodIn_r _ [12, 4, 5, 6, 7, 8, 9] (by decide +kernel) (by decide +kernel)) (goodIn_sub (fun _ h => List.mem_cons_of_mem _ (List.mem_append_left _ (List.mem_append_right _ h))) (by decide +kernel))
set_option maxRecDepth 20000 in
theorem gX9_set_X9_requireSlotOrNone : GoodIn wsX9_set (va_wsS RX9 142 yX9_requireSlotOrNone wsX9_requireSlotOrNone) := goodIn_app (goodIn_of _ (by decide +kernel)) ggX9_set_X9_requireSlotOrNone
set_option maxRecDepth 20000 in
theorem ggX9_set_X9_occupant : GoodIn wsX9_set wsX9_occupant := goodIn_ca (goodIn_r _ [16, 17, 18, 1, 19, 20, 21, 22, 23, 24, 25, 26, 27, 28, 29, 77, 78, 79, 80, 81, 82, 83, 84, 85, 86, 87, 88, 89] (by decide +kernel) (by decide +kernel)) (goodIn_sub (fun _ h => List.mem_cons_of_mem _ (List.mem_append_right _ h)) (by decide +kernel))
set_option maxRecDepth 20000 in
theorem gX9_set_X9_occupant : GoodIn wsX9_set (wsV RX9 145 RX9 yX9_occupant wsX9_occupant) := goodIn_app (goodIn_of _ (by decide +kernel)) ggX9_set_X9_occupant
set_option maxRecDepth 20000 in
theorem ggX9_set_X9_requireField : GoodIn wsX9_set wsX9_requireField := goodIn_ca (goodIn_r _ [32, 8, 9, 33, 34, 35, 36, 37, 38, 90, 91, 92, 93, 94, 95, 96, 97, 98, 99, 100, 101, 102, 103] (by decide +kernel) (by decide +kernel)) (goodIn_sub (fun _ h => List.mem_cons_of_mem _ (List.mem_append_left _ (List.mem_append_right _ h))) (by decide +kernel))
set_option maxRecDepth 20000 in
theorem gX9_set_X9_requireField : GoodIn wsX9_set (va_wsS RX9 149 yX9_requireField wsX9_requireField) := goodIn_app (goodIn_of _ (by decide +kernel)) ggX9_set_X9_requireField
set_option maxRecDepth 20000 in
theorem ggX9_set_X7_read : GoodIn wsX9_set wsX7_read := goodIn_r _ [42, 38, 90, 91, 92, 93, 94, 95, 96, 97, 98, 99, 100, 101, 102, 103] (by decide +kernel) (by decide +kernel)
set_option maxRecDepth 20000 in
theorem gX9_set_X7_read : GoodIn wsX9_set (wsV RX9 152 RX7 yX7_read wsX7_read) := goodIn_app (goodIn_of _ (by decide +kernel)) ggX9_set_X7_read
set_option maxRecDepth 20000 in
theorem ggX9_set_X4_readSlot : GoodIn wsX9_set wsX4_readSlot := goodIn_r _ [23, 24, 25, 26, 27, 22, 28, 29, 86, 87, 88, 89] (by decide +kernel) (by decide +kernel)
set_option maxRecDepth 20000 in
theorem gX9_set_X4_readSlot : GoodIn wsX9_set (wsV RX9 155 RX4 yX4_readSlot wsX4_readSlot) := goodIn_app (goodIn_of _ (by decide +kernel)) ggX9_set_X4_readSlot
set_option maxRecDepth 20000 in
theorem ggX9_set_X7_write : GoodIn wsX9_set wsX7_write := goodIn_r _ [46, 38, 90, 91, 92, 93, 94, 95, 96, 97, 98, 99, 100, 101, 102, 103] (by decide +kernel) (by decide +kernel)
set_option maxRecDepth 20000 in
theorem gX9_set_X7_write : GoodIn wsX9_set (wsV RX9 158 RX7 yX7_write wsX7_write) := goodIn_app (goodIn_of _ (by decide +kernel)) ggX9_set_X7_write
set_option maxRecDepth 20000 in
theorem ggX9_set_X3_noteWritten : GoodIn wsX9_set wsX3_noteWritten := goodIn_r _ [51, 52, 53, 54, 55, 50, 56, 57, 58, 59, 60, 36, 61, 62, 90, 91, 92, 93, 94, 95, 96, 97, 98, 99, 100, 101, 102, 103, 104, 105, 106, 107, 108, 109, 110, 111] (by decide +kernel) (by decide +kernel)
set_option maxRecDepth 20000 in
theorem gX9_set_X3_noteWritten : GoodIn wsX9_set (wsV RX9 161 RX3 yX3_noteWritten wsX3_noteWritten) := goodIn_app (goodIn_of _ (by decide +kernel)) ggX9_set_X3_noteWritten
set_option maxRecDepth 20000 in
theorem ggX9_set_X1_noteWritten : GoodIn wsX9_set wsX1_noteWritten := goodIn_r _ [67, 68, 69, 70, 71, 66, 72, 112, 113, 114, 90, 91, 92, 93, 94, 95, 96, 97, 98, 99, 100, 101, 102, 103] (by decide +kernel) (by decide +kernel)
set_option maxRecDepth 20000 in
theorem gX9_set_X1_noteWritten : GoodIn wsX9_set (wsV RX9 165 RX1 yX1_noteWritten wsX1_noteWritten) := goodIn_app (goodIn_of _ (by decide +kernel)) ggX9_set_X1_noteWritten
set_option maxRecDepth 20000 in
theorem ggX9_set_X9_numberOf : GoodIn wsX9_set wsX9_numberOf := goodIn_r _ [75, 76, 90, 91, 92, 93, 94, 95, 96, 97, 98, 99, 100, 101, 102, 103] (by decide +kernel) (by decide +kernel)
set_option maxRecDepth 20000 in
theorem gX9_set_X9_numberOf : GoodIn wsX9_set (va_wsS RX9 166 yX9_numberOf wsX9_numberOf) := goodIn_app (goodIn_of _ (by decide +kernel)) ggX9_set_X9_numberOf
theorem dX9_set_0 : decode cX9_set 0 = .ok (.iload_n 1, 1) := by decide +kernel
theorem dX9_set_1 : decode cX9_set 1 = .ok (.invokestatic 90, 3) := by decide +kernel
theorem dX9_set_4 : decode cX9_set 4 = .ok (.iload_n 3, 1) := by decide +kernel
theorem dX9_set_5 : decode cX9_set 5 = .ok (.invokestatic 142, 3) := by decide +kernel
theorem dX9_set_8 : decode cX9_set 8 = .ok (.aload_n 0, 1) := by decide +kernel
theorem dX9_set_9 : decode cX9_set 9 = .ok (.iload_n 1, 1) := by decide +kernel
theorem dX9_set_10 : decode cX9_set 10 = .ok (.invokevirtual 145, 3) := by decide +kernel
theorem dX9_set_13 : decode cX9_set 13 = .ok (.astore 4, 2) := by decide +kernel
theorem dX9_set_15 : decode cX9_set 15 = .ok (.aload 4, 2) := by decide +kernel
theorem dX9_set_17 : decode cX9_set 17 = .ok (.iload_n 2, 1) := by decide +kernel
theorem dX9_set_18 : decode cX9_set 18 = .ok (.invokestatic 149, 3) := by decide +kernel
theorem dX9_set_21 : decode cX9_set 21 = .ok (.aload 4, 2) := by decide +kernel
theorem dX9_set_23 : decode cX9_set 23 = .ok (.iload_n 2, 1) := by decide +kernel
theorem dX9_set_24 : decode cX9_set 24 = .ok (.invokevirtual 152, 3) := by decide +kernel
theorem dX9_set_27 : decode cX9_set 27 = .ok (.astore 5, 2) := by decide +kernel
theorem dX9_set_29 : decode cX9_set 29 = .ok (.aload_n 0, 1) := by decide +kernel
theorem dX9_set_30 : decode cX9_set 30 = .ok (.getfield 19, 3) := by decide +kernel
theorem dX9_set_33 : decode cX9_set 33 = .ok (.iload_n 3, 1) := by decide +kernel
theorem dX9_set_34 : decode cX9_set 34 = .ok (.invokevirtual 155, 3) := by decide +kernel
theorem dX9_set_37 : decode cX9_set 37 = .ok (.astore 6, 2) := by decide +kernel
theorem dX9_set_39 : decode cX9_set 39 = .ok (.aload 4, 2) := by decide +kernel
theorem dX9_set_41 : decode cX9_set 41 = .ok (.iload_n 2, 1) := by decide +kernel
theorem dX9_set_42 : decode cX9_set 42 = .ok (.aload 6, 2) := by decide +kernel
theorem dX9_set_44 : decode cX9_set 44 = .ok (.invokevirtual 158, 3) := by decide +kernel
theorem dX9_set_47 : decode cX9_set 47 = .ok (.aload_n 0, 1) := by decide +kernel
theorem dX9_set_48 : decode cX9_set 48 = .ok (.getfield 26, 3) := by decide +kernel
theorem dX9_set_51 : decode cX9_set 51 = .ok (.aload 4, 2) := by decide +kernel
theorem dX9_set_53 : decode cX9_set 53 = .ok (.aload 6, 2) := by decide +kernel
theorem dX9_set_55 : decode cX9_set 55 = .ok (.invokevirtual 161, 3) := by decide +kernel
theorem dX9_set_58 : decode cX9_set 58 = .ok (.aload_n 0, 1) := by decide +kernel
theorem dX9_set_59 : decode cX9_set 59 = .ok (.getfield 42, 3) := by decide +kernel
theorem dX9_set_62 : decode cX9_set 62 = .ok (.aload 4, 2) := by decide +kernel
theorem dX9_set_64 : decode cX9_set 64 = .ok (.aload 6, 2) := by decide +kernel
theorem dX9_set_66 : decode cX9_set 66 = .ok (.invokevirtual 165, 3) := by decide +kernel
theorem dX9_set_69 : decode cX9_set 69 = .ok (.aload 5, 2) := by decide +kernel
theorem dX9_set_71 : decode cX9_set 71 = .ok (.invokestatic 166, 3) := by decide +kernel
theorem dX9_set_74 : decode cX9_set 74 = .ok (.ireturn, 1) := by decide +kernel
set_option maxRecDepth 20000 in
theorem ggX9_get_X9_requireSlot : GoodIn wsX9_get wsX9_requireSlot := goodIn_ca (goodIn_r _ [5, 6, 7] (by decide +kernel) (by decide +kernel)) (goodIn_sub (fun _ h => List.mem_cons_of_mem _ (List.mem_append_left _ (List.mem_append_right _ h))) (by decide +kernel))
set_option maxRecDepth 20000 in
theorem gX9_get_X9_requireSlot : GoodIn wsX9_get (va_wsS RX9 90 yX9_requireSlot wsX9_requireSlot) := goodIn_app (goodIn_of _ (by decide +kernel)) ggX9_get_X9_requireSlot
set_option maxRecDepth 20000 in
theorem ggX9_get_X9_occupant : GoodIn wsX9_get wsX9_occupant := goodIn_ca (goodIn_r _ [11, 12, 13, 1, 14, 15, 16, 17, 18, 19, 20, 21, 22, 23, 24, 46, 47, 48, 49, 50, 51, 52, 53, 54, 55, 56, 57, 58] (by decide +kernel) (by decide +kernel)) (goodIn_sub (fun _ h => List.mem_cons_of_mem _ (List.mem_append_right _ h)) (by decide +kernel))
set_option maxRecDepth 20000 in
theorem gX9_get_X9_occupant : GoodIn wsX9_get (wsV RX9 145 RX9 yX9_occupant wsX9_occupant) := goodIn_app (goodIn_of _ (by decide +kernel)) ggX9_get_X9_occupant
set_option maxRecDepth 20000 in
theorem ggX9_get_X9_requireField : GoodIn wsX9_get wsX9_requireField := goodIn_ca (goodIn_r _ [27, 6, 7, 28, 29, 30, 31, 32, 33, 59, 60, 61, 62, 63, 64, 65, 66, 67, 68, 69, 70, 71, 72] (by decide +kernel) (by decide +kernel)) (goodIn_sub (fun _ h => List.mem_cons_of_mem _ (List.mem_append_left _ (List.mem_append_right _ h))) (by decide +kernel))
set_option maxRecDepth 20000 in
theorem gX9_get_X9_requireField : GoodIn wsX9_get (va_wsS RX9 149 yX9_requireField wsX9_requireField) := goodIn_app (goodIn_of _ (by decide +kernel)) ggX9_get_X9_requireField
set_option maxRecDepth 20000 in
theorem ggX9_get_X7_read : GoodIn wsX9_get wsX7_read := goodIn_r _ [37, 33, 59, 60, 61, 62, 63, 64, 65, 66, 67, 68, 69, 70, 71, 72] (by decide +kernel) (by decide +kernel)
set_option maxRecDepth 20000 in
theorem gX9_get_X7_read : GoodIn wsX9_get (wsV RX9 152 RX7 yX7_read wsX7_read) := goodIn_app (goodIn_of _ (by decide +kernel)) ggX9_get_X7_read
set_option maxRecDepth 20000 in
theorem ggX9_get_X4_writeSlot : GoodIn wsX9_get wsX4_writeSlot := goodIn_r _ [41, 19, 20, 21, 22, 17, 23, 24, 55, 56, 57, 58] (by decide +kernel) (by decide +kernel)
set_option maxRecDepth 20000 in
theorem gX9_get_X4_writeSlot : GoodIn wsX9_get (wsV RX9 134 RX4 yX4_writeSlot wsX4_writeSlot) := goodIn_app (goodIn_of _ (by decide +kernel)) ggX9_get_X4_writeSlot
set_option maxRecDepth 20000 in
theorem ggX9_get_X9_numberOf : GoodIn wsX9_get wsX9_numberOf := goodIn_r _ [44, 45, 59, 60, 61, 62, 63, 64, 65, 66, 67, 68, 69, 70, 71, 72] (by decide +kernel) (by decide +kernel)
set_option maxRecDepth 20000 in
theorem gX9_get_X9_numberOf : GoodIn wsX9_get (va_wsS RX9 166 yX9_numberOf wsX9_numberOf) := goodIn_app (goodIn_of _ (by decide +kernel)) ggX9_get_X9_numberOf
theorem dX9_get_0 : decode cX9_get 0 = .ok (.iload_n 1, 1) := by decide +kernel
theorem dX9_get_1 : decode cX9_get 1 = .ok (.invokestatic 90, 3) := by decide +kernel
theorem dX9_get_4 : decode cX9_get 4 = .ok (.iload_n 3, 1) := by decide +kernel
theorem dX9_get_5 : decode cX9_get 5 = .ok (.invokestatic 90, 3) := by decide +kernel
theorem dX9_get_8 : decode cX9_get 8 = .ok (.aload_n 0, 1) := by decide +kernel
theorem dX9_get_9 : decode cX9_get 9 = .ok (.iload_n 1, 1) := by decide +kernel
theorem dX9_get_10 : decode cX9_get 10 = .ok (.invokevirtual 145, 3) := by decide +kernel
theorem dX9_get_13 : decode cX9_get 13 = .ok (.astore 4, 2) := by decide +kernel
theorem dX9_get_15 : decode cX9_get 15 = .ok (.aload 4, 2) := by decide +kernel
theorem dX9_get_17 : decode cX9_get 17 = .ok (.iload_n 2, 1) := by decide +kernel
theorem dX9_get_18 : decode cX9_get 18 = .ok (.invokestatic 149, 3) := by decide +kernel
theorem dX9_get_21 : decode cX9_get 21 = .ok (.aload 4, 2) := by decide +kernel
theorem dX9_get_23 : decode cX9_get 23 = .ok (.iload_n 2, 1) := by decide +kernel
theorem dX9_get_24 : decode cX9_get 24 = .ok (.invokevirtual 152, 3) := by decide +kernel
theorem dX9_get_27 : decode cX9_get 27 = .ok (.astore 5, 2) := by decide +kernel
theorem dX9_get_29 : decode cX9_get 29 = .ok (.aload_n 0, 1) := by decide +kernel
theorem dX9_get_30 : decode cX9_get 30 = .ok (.getfield 19, 3) := by decide +kernel
theorem dX9_get_33 : decode cX9_get 33 = .ok (.iload_n 3, 1) := by decide +kernel
theorem dX9_get_34 : decode cX9_get 34 = .ok (.aload 5, 2) := by decide +kernel
theorem dX9_get_36 : decode cX9_get 36 = .ok (.invokevirtual 134, 3) := by decide +kernel
theorem dX9_get_39 : decode cX9_get 39 = .ok (.aload 5, 2) := by decide +kernel
theorem dX9_get_41 : decode cX9_get 41 = .ok (.invokestatic 166, 3) := by decide +kernel
theorem dX9_get_44 : decode cX9_get 44 = .ok (.ireturn, 1) := by decide +kernel
set_option maxRecDepth 20000 in
theorem ggX9_put_X9_requireSlot : GoodIn wsX9_put wsX9_requireSlot := goodIn_ca (goodIn_r _ [5, 6, 7] (by decide +kernel) (by decide +kernel)) (goodIn_sub (fun _ h => List.mem_cons_of_mem _ (List.mem_append_right _ h)) (by decide +kernel))
set_option maxRecDepth 20000 in
theorem gX9_put_X9_requireSlot : GoodIn wsX9_put (va_wsS RX9 90 yX9_requireSlot wsX9_requireSlot) := goodIn_app (goodIn_of _ (by decide +kernel)) ggX9_put_X9_requireSlot
set_option maxRecDepth 20000 in
theorem ggX9_put_X9_requireSlotOrNone : GoodIn wsX9_put wsX9_requireSlotOrNone := goodIn_ca (goodIn_r _ [10, 2, 3, 4, 5, 6, 7] (by decide +kernel) (by decide +kernel)) (goodIn_sub (fun _ h => List.mem_cons_of_mem _ (List.mem_append_right _ h)) (by decide +kernel))
set_option maxRecDepth 20000 in
theorem gX9_put_X9_requireSlotOrNone : GoodIn wsX9_put (va_wsS RX9 142 yX9_requireSlotOrNone wsX9_requireSlotOrNone) := goodIn_app (goodIn_of _ (by decide +kernel)) ggX9_put_X9_requireSlotOrNone
set_option maxRecDepth 20000 in
theorem ggX9_put_X4_readSlot : GoodIn wsX9_put wsX4_readSlot := goodIn_r _ [15, 16, 17, 18, 19, 14, 20, 21, 39, 40, 41, 42] (by decide +kernel) (by decide +kernel)
set_option maxRecDepth 20000 in
theorem gX9_put_X4_readSlot : GoodIn wsX9_put (wsV RX9 155 RX4 yX4_readSlot wsX4_readSlot) := goodIn_app (goodIn_of _ (by decide +kernel)) ggX9_put_X4_readSlot
set_option maxRecDepth 20000 in
theorem ggX9_put_X4_writeSlot : GoodIn wsX9_put wsX4_writeSlot := goodIn_r _ [25, 16, 17, 18, 19, 14, 20, 21, 39, 40, 41, 42] (by decide +kernel) (by decide +kernel)
set_option maxRecDepth 20000 in
theorem gX9_put_X4_writeSlot : GoodIn wsX9_put (wsV RX9 134 RX4 yX4_writeSlot wsX4_writeSlot) := goodIn_app (goodIn_of _ (by decide +kernel)) ggX9_put_X4_writeSlot
set_option maxRecDepth 20000 in
theorem ggX9_put_X9_numberOf : GoodIn wsX9_put wsX9_numberOf := goodIn_r _ [28, 29, 43, 44, 45, 46, 47, 48, 49, 50, 51, 52, 53, 54, 55, 56] (by decide +kernel) (by decide +kernel)
set_option maxRecDepth 20000 in
theorem gX9_put_X9_numberOf : GoodIn wsX9_put (va_wsS RX9 166 yX9_numberOf wsX9_numberOf) := goodIn_app (goodIn_of _ (by decide +kernel)) ggX9_put_X9_numberOf
theorem dX9_put_0 : decode cX9_put 0 = .ok (.iload_n 1, 1) := by decide +kernel
theorem dX9_put_1 : decode cX9_put 1 = .ok (.invokestatic 90, 3) := by decide +kernel
theorem dX9_put_4 : decode cX9_put 4 = .ok (.iload_n 2, 1) := by decide +kernel
theorem dX9_put_5 : decode cX9_put 5 = .ok (.invokestatic 142, 3) := by decide +kernel
theorem dX9_put_8 : decode cX9_put 8 = .ok (.aload_n 0, 1) := by decide +kernel
theorem dX9_put_9 : decode cX9_put 9 = .ok (.getfield 19, 3) := by decide +kernel
theorem dX9_put_12 : decode cX9_put 12 = .ok (.iload_n 1, 1) := by decide +kernel
theorem dX9_put_13 : decode cX9_put 13 = .ok (.invokevirtual 155, 3) := by decide +kernel
theorem dX9_put_16 : decode cX9_put 16 = .ok (.astore_n 3, 1) := by decide +kernel
theorem dX9_put_17 : decode cX9_put 17 = .ok (.aload_n 0, 1) := by decide +kernel
theorem dX9_put_18 : decode cX9_put 18 = .ok (.getfield 19, 3) := by decide +kernel
theorem dX9_put_21 : decode cX9_put 21 = .ok (.iload_n 1, 1) := by decide +kernel
theorem dX9_put_22 : decode cX9_put 22 = .ok (.aload_n 0, 1) := by decide +kernel
theorem dX9_put_23 : decode cX9_put 23 = .ok (.getfield 19, 3) := by decide +kernel
theorem dX9_put_26 : decode cX9_put 26 = .ok (.iload_n 2, 1) := by decide +kernel
theorem dX9_put_27 : decode cX9_put 27 = .ok (.invokevirtual 155, 3) := by decide +kernel
theorem dX9_put_30 : decode cX9_put 30 = .ok (.invokevirtual 134, 3) := by decide +kernel
theorem dX9_put_33 : decode cX9_put 33 = .ok (.aload_n 3, 1) := by decide +kernel
theorem dX9_put_34 : decode cX9_put 34 = .ok (.invokestatic 166, 3) := by decide +kernel
theorem dX9_put_37 : decode cX9_put 37 = .ok (.ireturn, 1) := by decide +kernel
set_option maxRecDepth 20000 in
theorem ggX9_swap_X9_requireSlot : GoodIn wsX9_swap wsX9_requireSlot := goodIn_ca (goodIn_r _ [7, 1, 2] (by decide +kernel) (by decide +kernel)) (goodIn_sub (fun _ h => List.mem_cons_of_mem _ (List.mem_append_right _ h)) (by decide +kernel))
set_option maxRecDepth 20000 in
theorem gX9_swap_X9_requireSlot : GoodIn wsX9_swap (va_wsS RX9 90 yX9_requireSlot wsX9_requireSlot) := goodIn_app (goodIn_of _ (by decide +kernel)) ggX9_swap_X9_requireSlot
set_option maxRecDepth 20000 in
theorem ggX9_swap_X4_readGlobal : GoodIn wsX9_swap wsX4_readGlobal := goodIn_r _ [12, 13, 45, 46, 47, 48] (by decide +kernel) (by decide +kernel)
set_option maxRecDepth 20000 in
theorem gX9_swap_X4_readGlobal : GoodIn wsX9_swap (wsV RX9 175 RX4 yX4_readGlobal wsX4_readGlobal) := goodIn_app (goodIn_of _ (by decide +kernel)) ggX9_swap_X4_readGlobal
set_option maxRecDepth 20000 in
theorem ggX9_swap_X4_readSlot : GoodIn wsX9_swap wsX4_readSlot := goodIn_r _ [17, 18, 19, 20, 21, 11, 22, 23, 45, 46, 47, 48] (by decide +kernel) (by decide +kernel)
set_option maxRecDepth 20000 in
theorem gX9_swap_X4_readSlot : GoodIn wsX9_swap (wsV RX9 155 RX4 yX4_readSlot wsX4_readSlot) := goodIn_app (goodIn_of _ (by decide +kernel)) ggX9_swap_X4_readSlot
set_option maxRecDepth 20000 in
theorem ggX9_swap_X4_writeGlobal : GoodIn wsX9_swap wsX4_writeGlobal := goodIn_r _ [27, 13, 45, 46, 47, 48] (by decide +kernel) (by decide +kernel)
set_option maxRecDepth 20000 in
theorem gX9_swap_X4_writeGlobal : GoodIn wsX9_swap (wsV RX9 178 RX4 yX4_writeGlobal wsX4_writeGlobal) := goodIn_app (goodIn_of _ (by decide +kernel)) ggX9_swap_X4_writeGlobal
set_option maxRecDepth 20000 in
theorem ggX9_swap_X4_writeSlot : GoodIn wsX9_swap wsX4_writeSlot := goodIn_r _ [31, 18, 19, 20, 21, 11, 22, 23, 45, 46, 47, 48] (by decide +kernel) (by decide +kernel)
set_option maxRecDepth 20000 in
theorem gX9_swap_X4_writeSlot : GoodIn wsX9_swap (wsV RX9 134 RX4 yX4_writeSlot wsX4_writeSlot) := goodIn_app (goodIn_of _ (by decide +kernel)) ggX9_swap_X4_writeSlot
set_option maxRecDepth 20000 in
theorem ggX9_swap_X9_numberOf : GoodIn wsX9_swap wsX9_numberOf := goodIn_r _ [34, 35, 49, 50, 51, 52, 53, 54, 55, 56, 57, 58, 59, 60, 61, 62] (by decide +kernel) (by decide +kernel)
set_option maxRecDepth 20000 in
theorem gX9_swap_X9_numberOf : GoodIn wsX9_swap (va_wsS RX9 166 yX9_numberOf wsX9_numberOf) := goodIn_app (goodIn_of _ (by decide +kernel)) ggX9_swap_X9_numberOf
theorem dX9_swap_0 : decode cX9_swap 0 = .ok (.iload_n 1, 1) := by decide +kernel
theorem dX9_swap_1 : decode cX9_swap 1 = .ok (.invokestatic 90, 3) := by decide +kernel
theorem dX9_swap_4 : decode cX9_swap 4 = .ok (.iload_n 2, 1) := by decide +kernel
theorem dX9_swap_5 : decode cX9_swap 5 = .ok (.ifCond .lt 8, 3) := by decide +kernel
theorem dX9_swap_8 : decode cX9_swap 8 = .ok (.iload_n 2, 1) := by decide +kernel
theorem dX9_swap_9 : decode cX9_swap 9 = .ok (.iconst 4, 1) := by decide +kernel
theorem dX9_swap_10 : decode cX9_swap 10 = .ok (.if_icmp .lt 13, 3) := by decide +kernel
theorem dX9_swap_13 : decode cX9_swap 13 = .ok (.new 170, 3) := by decide +kernel
theorem dX9_swap_16 : decode cX9_swap 16 = .ok (.dup, 1) := by decide +kernel
theorem dX9_swap_17 : decode cX9_swap 17 = .ok (.ldc 172, 2) := by decide +kernel
theorem dX9_swap_19 : decode cX9_swap 19 = .ok (.invokespecial 174, 3) := by decide +kernel
theorem dX9_swap_22 : decode cX9_swap 22 = .ok (.athrow, 1) := by decide +kernel
theorem dX9_swap_23 : decode cX9_swap 23 = .ok (.aload_n 0, 1) := by decide +kernel
theorem dX9_swap_24 : decode cX9_swap 24 = .ok (.getfield 19, 3) := by decide +kernel
theorem dX9_swap_27 : decode cX9_swap 27 = .ok (.iload_n 2, 1) := by decide +kernel
theorem dX9_swap_28 : decode cX9_swap 28 = .ok (.invokevirtual 175, 3) := by decide +kernel
theorem dX9_swap_31 : decode cX9_swap 31 = .ok (.astore_n 3, 1) := by decide +kernel
theorem dX9_swap_32 : decode cX9_swap 32 = .ok (.aload_n 0, 1) := by decide +kernel
theorem dX9_swap_33 : decode cX9_swap 33 = .ok (.getfield 19, 3) := by decide +kernel
theorem dX9_swap_36 : decode cX9_swap 36 = .ok (.iload_n 2, 1) := by decide +kernel
theorem dX9_swap_37 : decode cX9_swap 37 = .ok (.aload_n 0, 1) := by decide +kernel
theorem dX9_swap_38 : decode cX9_swap 38 = .ok (.getfield 19, 3) := by decide +kernel
theorem dX9_swap_41 : decode cX9_swap 41 = .ok (.iload_n 1, 1) := by decide +kernel
theorem dX9_swap_42 : decode cX9_swap 42 = .ok (.invokevirtual 155, 3) := by decide +kernel
theorem dX9_swap_45 : decode cX9_swap 45 = .ok (.invokevirtual 178, 3) := by decide +kernel
theorem dX9_swap_48 : decode cX9_swap 48 = .ok (.aload_n 0, 1) := by decide +kernel
theorem dX9_swap_49 : decode cX9_swap 49 = .ok (.getfield 19, 3) := by decide +kernel
theorem dX9_swap_52 : decode cX9_swap 52 = .ok (.iload_n 1, 1) := by decide +kernel
theorem dX9_swap_53 : decode cX9_swap 53 = .ok (.aload_n 3, 1) := by decide +kernel
theorem dX9_swap_54 : decode cX9_swap 54 = .ok (.invokevirtual 134, 3) := by decide +kernel
theorem dX9_swap_57 : decode cX9_swap 57 = .ok (.aload_n 3, 1) := by decide +kernel
theorem dX9_swap_58 : decode cX9_swap 58 = .ok (.invokestatic 166, 3) := by decide +kernel
theorem dX9_swap_61 : decode cX9_swap 61 = .ok (.ireturn, 1) := by decide +kernel
set_option maxRecDepth 20000 in
theorem ggX9_hash_X9_requireSlot : GoodIn wsX9_hash wsX9_requireSlot := goodIn_ca (goodIn_r _ [6, 7, 8] (by decide +kernel) (by decide +kernel)) (goodIn_sub (fun _ h => List.mem_cons_of_mem _ (List.mem_append_left _ (List.mem_append_right _ h))) (by decide +kernel))
set_option maxRecDepth 20000 in
theorem gX9_hash_X9_requireSlot : GoodIn wsX9_hash (va_wsS RX9 90 yX9_requireSlot wsX9_requireSlot) := goodIn_app (goodIn_of _ (by decide +kernel)) ggX9_hash_X9_requireSlot
set_option maxRecDepth 20000 in
theorem ggX9_hash_X9_occupant : GoodIn wsX9_hash wsX9_occupant := goodIn_ca (goodIn_r _ [12, 13, 14, 15, 16, 17, 18, 19, 20, 21, 22, 23, 24, 25, 26, 49, 50, 51, 52, 53, 54, 55, 56, 57, 58, 59, 60, 61] (by decide +kernel) (by decide +kernel)) (goodIn_sub (fun _ h => List.mem_cons_of_mem _ (List.mem_append_right _ h)) (by decide +kernel))
set_option maxRecDepth 20000 in
theorem gX9_hash_X9_occupant : GoodIn wsX9_hash (wsV RX9 145 RX9 yX9_occupant wsX9_occupant) := goodIn_app (goodIn_of _ (by decide +kernel)) ggX9_hash_X9_occupant
set_option maxRecDepth 20000 in
theorem ggX9_hash_X7_giveHash : GoodIn wsX9_hash wsX7_giveHash := goodIn_r _ [31, 32, 33, 34, 35, 36, 37, 38, 39, 40, 41, 42, 43, 44, 45, 46, 47, 48] (by decide +kernel) (by decide +kernel)
set_option maxRecDepth 20000 in
theorem gX9_hash_X7_giveHash : GoodIn wsX9_hash (wsV RX9 187 RX7 yX7_giveHash wsX7_giveHash) := goodIn_app (goodIn_of _ (by decide +kernel)) ggX9_hash_X7_giveHash
theorem dX9_hash_0 : decode cX9_hash 0 = .ok (.iload_n 1, 1) := by decide +kernel
theorem dX9_hash_1 : decode cX9_hash 1 = .ok (.invokestatic 90, 3) := by decide +kernel
theorem dX9_hash_4 : decode cX9_hash 4 = .ok (.aload_n 0, 1) := by decide +kernel
theorem dX9_hash_5 : decode cX9_hash 5 = .ok (.iload_n 1, 1) := by decide +kernel
theorem dX9_hash_6 : decode cX9_hash 6 = .ok (.invokevirtual 145, 3) := by decide +kernel
theorem dX9_hash_9 : decode cX9_hash 9 = .ok (.astore_n 2, 1) := by decide +kernel
theorem dX9_hash_10 : decode cX9_hash 10 = .ok (.aload_n 2, 1) := by decide +kernel
theorem dX9_hash_11 : decode cX9_hash 11 = .ok (.getfield 181, 3) := by decide +kernel
theorem dX9_hash_14 : decode cX9_hash 14 = .ok (.iconst (-1), 1) := by decide +kernel
theorem dX9_hash_15 : decode cX9_hash 15 = .ok (.if_icmp .ne 21, 3) := by decide +kernel
theorem dX9_hash_18 : decode cX9_hash 18 = .ok (.aload_n 2, 1) := by decide +kernel
theorem dX9_hash_19 : decode cX9_hash 19 = .ok (.aload_n 0, 1) := by decide +kernel
theorem dX9_hash_20 : decode cX9_hash 20 = .ok (.getfield 184, 3) := by decide +kernel
theorem dX9_hash_23 : decode cX9_hash 23 = .ok (.invokevirtual 187, 3) := by decide +kernel
theorem dX9_hash_26 : decode cX9_hash 26 = .ok (.aload_n 0, 1) := by decide +kernel
theorem dX9_hash_27 : decode cX9_hash 27 = .ok (.dup, 1) := by decide +kernel
theorem dX9_hash_28 : decode cX9_hash 28 = .ok (.getfield 184, 3) := by decide +kernel
theorem dX9_hash_31 : decode cX9_hash 31 = .ok (.iconst 1, 1) := by decide +kernel
theorem dX9_hash_32 : decode cX9_hash 32 = .ok (.iadd, 1) := by decide +kernel
theorem dX9_hash_33 : decode cX9_hash 33 = .ok (.putfield 184, 3) := by decide +kernel
theorem dX9_hash_36 : decode cX9_hash 36 = .ok (.aload_n 2, 1) := by decide +kernel
theorem dX9_hash_37 : decode cX9_hash 37 = .ok (.getfield 181, 3) := by decide +kernel
theorem dX9_hash_40 : decode cX9_hash 40 = .ok (.ireturn, 1) := by decide +kernel
set_option maxRecDepth 20000 in
theorem ggX9_pin_X9_requireSlot : GoodIn wsX9_pin wsX9_requireSlot := goodIn_ca (goodIn_r _ [11, 12, 13] (by decide +kernel) (by decide +kernel)) (goodIn_sub (fun _ h => List.mem_cons_of_mem _ (List.mem_append_right _ h)) (by decide +kernel))
set_option maxRecDepth 20000 in
theorem gX9_pin_X9_requireSlot : GoodIn wsX9_pin (va_wsS RX9 90 yX9_requireSlot wsX9_requireSlot) := goodIn_app (goodIn_of _ (by decide +kernel)) ggX9_pin_X9_requireSlot
set_option maxRecDepth 20000 in
theorem ggX9_pin_X9_occupant : GoodIn wsX9_pin wsX9_occupant := goodIn_ca (goodIn_r _ [17, 1, 2, 18, 19, 20, 21, 22, 23, 24, 25, 26, 27, 28, 29, 106, 107, 108, 109, 110, 111, 112, 113, 114, 115, 116, 117, 118] (by decide +kernel) (by decide +kernel)) (goodIn_sub (fun _ h => List.mem_cons_of_mem _ (List.mem_append_left _ (List.mem_append_right _ h))) (by decide +kernel))
set_option maxRecDepth 20000 in
theorem gX9_pin_X9_occupant : GoodIn wsX9_pin (wsV RX9 145 RX9 yX9_occupant wsX9_occupant) := goodIn_app (goodIn_of _ (by decide +kernel)) ggX9_pin_X9_occupant
set_option maxRecDepth 20000 in
theorem ggX9_pin_X5_pinned : GoodIn wsX9_pin wsX5_pinned := goodIn_r _ [34, 35, 36, 37, 119, 120, 92, 93, 94, 95, 96, 97, 98, 99, 100, 101, 102, 103, 104, 105] (by decide +kernel) (by decide +kernel)
set_option maxRecDepth 20000 in
theorem gX9_pin_X5_pinned : GoodIn wsX9_pin (wsV RX9 194 RX5 yX5_pinned wsX5_pinned) := goodIn_app (goodIn_of _ (by decide +kernel)) ggX9_pin_X5_pinned
set_option maxRecDepth 20000 in
theorem ggX9_pin_X3_oldRoom : GoodIn wsX9_pin wsX3_oldRoom := goodIn_r _ [42, 43, 44, 121, 122, 123, 124, 125, 126, 127, 128] (by decide +kernel) (by decide +kernel)
set_option maxRecDepth 20000 in
theorem gX9_pin_X3_oldRoom : GoodIn wsX9_pin (wsV RX9 202 RX3 yX3_oldRoom wsX3_oldRoom) := goodIn_app (goodIn_of _ (by decide +kernel)) ggX9_pin_X3_oldRoom
set_option maxRecDepth 20000 in
theorem ggX9_pin_X3_moveOutOfYoung : GoodIn wsX9_pin wsX3_moveOutOfYoung := goodIn_r _ [48, 49, 50, 51, 52, 41, 53, 44, 54, 55, 56, 57, 58, 59, 60, 61, 62, 63, 64, 65, 66, 67, 68, 69, 70, 33, 71, 35, 36, 72, 73, 74, 75, 76, 77, 78, 79, 80, 81, 82, 83, 84, 85, 86, 87, 88, 89, 90, 91, 121, 122, 123, 124, 125, 126, 127, 128, 92, 93, 94, 95, 96, 97, 98, 99, 100, 101, 102, 103, 104, 105, 119, 120] (by decide +kernel) (by decide +kernel)
set_option maxRecDepth 20000 in
theorem gX9_pin_X3_moveOutOfYoung : GoodIn wsX9_pin (wsV RX9 208 RX3 yX3_moveOutOfYoung wsX3_moveOutOfYoung) := goodIn_app (goodIn_of _ (by decide +kernel)) ggX9_pin_X3_moveOutOfYoung
theorem dX9_pin_0 : decode cX9_pin 0 = .ok (.iload_n 1, 1) := by decide +kernel
theorem dX9_pin_1 : decode cX9_pin 1 = .ok (.invokestatic 90, 3) := by decide +kernel
theorem dX9_pin_4 : decode cX9_pin 4 = .ok (.aload_n 0, 1) := by decide +kernel
theorem dX9_pin_5 : decode cX9_pin 5 = .ok (.iload_n 1, 1) := by decide +kernel
theorem dX9_pin_6 : decode cX9_pin 6 = .ok (.invokevirtual 145, 3) := by decide +kernel
theorem dX9_pin_9 : decode cX9_pin 9 = .ok (.astore_n 2, 1) := by decide +kernel
theorem dX9_pin_10 : decode cX9_pin 10 = .ok (.aload_n 2, 1) := by decide +kernel
theorem dX9_pin_11 : decode cX9_pin 11 = .ok (.getfield 190, 3) := by decide +kernel
theorem dX9_pin_14 : decode cX9_pin 14 = .ok (.ifCond .ne 24, 3) := by decide +kernel
theorem dX9_pin_17 : decode cX9_pin 17 = .ok (.aload_n 0, 1) := by decide +kernel
theorem dX9_pin_18 : decode cX9_pin 18 = .ok (.getfield 10, 3) := by decide +kernel
theorem dX9_pin_21 : decode cX9_pin 21 = .ok (.invokevirtual 194, 3) := by decide +kernel
theorem dX9_pin_24 : decode cX9_pin 24 = .ok (.iconst 4, 1) := by decide +kernel
theorem dX9_pin_25 : decode cX9_pin 25 = .ok (.if_icmp .lt 13, 3) := by decide +kernel
theorem dX9_pin_28 : decode cX9_pin 28 = .ok (.new 75, 3) := by decide +kernel
theorem dX9_pin_31 : decode cX9_pin 31 = .ok (.dup, 1) := by decide +kernel
theorem dX9_pin_32 : decode cX9_pin 32 = .ok (.ldc 197, 2) := by decide +kernel
theorem dX9_pin_34 : decode cX9_pin 34 = .ok (.invokespecial 79, 3) := by decide +kernel
theorem dX9_pin_37 : decode cX9_pin 37 = .ok (.athrow, 1) := by decide +kernel
theorem dX9_pin_38 : decode cX9_pin 38 = .ok (.aload_n 2, 1) := by decide +kernel
theorem dX9_pin_39 : decode cX9_pin 39 = .ok (.getfield 199, 3) := by decide +kernel
theorem dX9_pin_42 : decode cX9_pin 42 = .ok (.iconst 1, 1) := by decide +kernel
theorem dX9_pin_43 : decode cX9_pin 43 = .ok (.if_icmp .ne 27, 3) := by decide +kernel
theorem dX9_pin_46 : decode cX9_pin 46 = .ok (.aload_n 0, 1) := by decide +kernel
theorem dX9_pin_47 : decode cX9_pin 47 = .ok (.getfield 26, 3) := by decide +kernel
theorem dX9_pin_50 : decode cX9_pin 50 = .ok (.invokevirtual 202, 3) := by decide +kernel
theorem dX9_pin_53 : decode cX9_pin 53 = .ok (.aload_n 2, 1) := by decide +kernel
theorem dX9_pin_54 : decode cX9_pin 54 = .ok (.getfield 205, 3) := by decide +kernel
theorem dX9_pin_57 : decode cX9_pin 57 = .ok (.if_icmp .ge 5, 3) := by decide +kernel
theorem dX9_pin_60 : decode cX9_pin 60 = .ok (.iconst 0, 1) := by decide +kernel
theorem dX9_pin_61 : decode cX9_pin 61 = .ok (.ireturn, 1) := by decide +kernel
theorem dX9_pin_62 : decode cX9_pin 62 = .ok (.aload_n 0, 1) := by decide +kernel
theorem dX9_pin_63 : decode cX9_pin 63 = .ok (.getfield 26, 3) := by decide +kernel
theorem dX9_pin_66 : decode cX9_pin 66 = .ok (.aload_n 2, 1) := by decide +kernel
theorem dX9_pin_67 : decode cX9_pin 67 = .ok (.invokevirtual 208, 3) := by decide +kernel
theorem dX9_pin_70 : decode cX9_pin 70 = .ok (.aload_n 2, 1) := by decide +kernel
theorem dX9_pin_71 : decode cX9_pin 71 = .ok (.iconst 1, 1) := by decide +kernel
theorem dX9_pin_72 : decode cX9_pin 72 = .ok (.putfield 190, 3) := by decide +kernel
theorem dX9_pin_75 : decode cX9_pin 75 = .ok (.iconst 1, 1) := by decide +kernel
theorem dX9_pin_76 : decode cX9_pin 76 = .ok (.ireturn, 1) := by decide +kernel
set_option maxRecDepth 20000 in
theorem ggX9_unpin_X9_requireSlot : GoodIn wsX9_unpin wsX9_requireSlot := goodIn_ca (goodIn_r _ [5, 6, 7] (by decide +kernel) (by decide +kernel)) (goodIn_sub (fun _ h => List.mem_cons_of_mem _ (List.mem_append_left _ (List.mem_append_right _ h))) (by decide +kernel))
set_option maxRecDepth 20000 in
theorem gX9_unpin_X9_requireSlot : GoodIn wsX9_unpin (va_wsS RX9 90 yX9_requireSlot wsX9_requireSlot) := goodIn_app (goodIn_of _ (by decide +kernel)) ggX9_unpin_X9_requireSlot
set_option maxRecDepth 20000 in
theorem ggX9_unpin_X9_occupant : GoodIn wsX9_unpin wsX9_occupant := goodIn_ca (goodIn_r _ [11, 12, 13, 14, 15, 16, 17, 18, 19, 20, 21, 22, 23, 24, 25, 40, 41, 42, 43, 44, 45, 46, 47, 48, 49, 50, 51, 52] (by decide +kernel) (by decide +kernel)) (goodIn_sub (fun _ h => List.mem_cons_of_mem _ (List.mem_append_right _ h)) (by decide +kernel))
set_option maxRecDepth 20000 in
theorem gX9_unpin_X9_occupant : GoodIn wsX9_unpin (wsV RX9 145 RX9 yX9_occupant wsX9_occupant) := goodIn_app (goodIn_of _ (by decide +kernel)) ggX9_unpin_X9_occupant
theorem dX9_unpin_0 : decode cX9_unpin 0 = .ok (.iload_n 1, 1) := by decide +kernel
theorem dX9_unpin_1 : decode cX9_unpin 1 = .ok (.invokestatic 90, 3) := by decide +kernel
theorem dX9_unpin_4 : decode cX9_unpin 4 = .ok (.aload_n 0, 1) := by decide +kernel
theorem dX9_unpin_5 : decode cX9_unpin 5 = .ok (.iload_n 1, 1) := by decide +kernel
theorem dX9_unpin_6 : decode cX9_unpin 6 = .ok (.invokevirtual 145, 3) := by decide +kernel
theorem dX9_unpin_9 : decode cX9_unpin 9 = .ok (.astore_n 2, 1) := by decide +kernel
theorem dX9_unpin_10 : decode cX9_unpin 10 = .ok (.aload_n 2, 1) := by decide +kernel
theorem dX9_unpin_11 : decode cX9_unpin 11 = .ok (.getfield 190, 3) := by decide +kernel
theorem dX9_unpin_14 : decode cX9_unpin 14 = .ok (.istore_n 3, 1) := by decide +kernel
theorem dX9_unpin_15 : decode cX9_unpin 15 = .ok (.aload_n 2, 1) := by decide +kernel
theorem dX9_unpin_16 : decode cX9_unpin 16 = .ok (.iconst 0, 1) := by decide +kernel
theorem dX9_unpin_17 : decode cX9_unpin 17 = .ok (.putfield 190, 3) := by decide +kernel
theorem dX9_unpin_20 : decode cX9_unpin 20 = .ok (.iload_n 3, 1) := by decide +kernel
theorem dX9_unpin_21 : decode cX9_unpin 21 = .ok (.ireturn, 1) := by decide +kernel
set_option maxRecDepth 20000 in
theorem ggX9_take_X9_requireSlot : GoodIn wsX9_take wsX9_requireSlot := goodIn_ca (goodIn_r _ [7, 8, 9] (by decide +kernel) (by decide +kernel)) (goodIn_sub (fun _ h => List.mem_cons_of_mem _ (List.mem_append_right _ h)) (by decide +kernel))
set_option maxRecDepth 20000 in
theorem gX9_take_X9_requireSlot : GoodIn wsX9_take (va_wsS RX9 90 yX9_requireSlot wsX9_requireSlot) := goodIn_app (goodIn_of _ (by decide +kernel)) ggX9_take_X9_requireSlot
set_option maxRecDepth 20000 in
theorem ggX9_take_X5_removeFirst : GoodIn wsX9_take wsX5_removeFirst := goodIn_r _ [14, 15, 16, 17, 18, 19, 13, 20, 59, 60] (by decide +kernel) (by decide +kernel)
set_option maxRecDepth 20000 in
theorem gX9_take_X5_removeFirst : GoodIn wsX9_take (wsV RX9 214 RX5 yX5_removeFirst wsX5_removeFirst) := goodIn_app (goodIn_of _ (by decide +kernel)) ggX9_take_X5_removeFirst
set_option maxRecDepth 20000 in
theorem ggX9_take_X4_writeSlot : GoodIn wsX9_take wsX4_writeSlot := goodIn_r _ [25, 26, 27, 28, 29, 24, 30, 31, 41, 42, 43, 44] (by decide +kernel) (by decide +kernel)
set_option maxRecDepth 20000 in
theorem gX9_take_X4_writeSlot : GoodIn wsX9_take (wsV RX9 134 RX4 yX4_writeSlot wsX4_writeSlot) := goodIn_app (goodIn_of _ (by decide +kernel)) ggX9_take_X4_writeSlot
theorem dX9_take_0 : decode cX9_take 0 = .ok (.iload_n 1, 1) := by decide +kernel
theorem dX9_take_1 : decode cX9_take 1 = .ok (.invokestatic 90, 3) := by decide +kernel
theorem dX9_take_4 : decode cX9_take 4 = .ok (.aload_n 0, 1) := by decide +kernel
theorem dX9_take_5 : decode cX9_take 5 = .ok (.getfield 19, 3) := by decide +kernel
theorem dX9_take_8 : decode cX9_take 8 = .ok (.getfield 211, 3) := by decide +kernel
theorem dX9_take_11 : decode cX9_take 11 = .ok (.invokevirtual 214, 3) := by decide +kernel
theorem dX9_take_14 : decode cX9_take 14 = .ok (.astore_n 2, 1) := by decide +kernel
theorem dX9_take_15 : decode cX9_take 15 = .ok (.aload_n 2, 1) := by decide +kernel
theorem dX9_take_16 : decode cX9_take 16 = .ok (.ifnonnull 5, 3) := by decide +kernel
theorem dX9_take_19 : decode cX9_take 19 = .ok (.iconst (-1), 1) := by decide +kernel
theorem dX9_take_20 : decode cX9_take 20 = .ok (.ireturn, 1) := by decide +kernel
theorem dX9_take_21 : decode cX9_take 21 = .ok (.aload_n 0, 1) := by decide +kernel
theorem dX9_take_22 : decode cX9_take 22 = .ok (.getfield 19, 3) := by decide +kernel
theorem dX9_take_25 : decode cX9_take 25 = .ok (.iload_n 1, 1) := by decide +kernel
theorem dX9_take_26 : decode cX9_take 26 = .ok (.aload_n 2, 1) := by decide +kernel
theorem dX9_take_27 : decode cX9_take 27 = .ok (.invokevirtual 134, 3) := by decide +kernel
theorem dX9_take_30 : decode cX9_take 30 = .ok (.aload_n 2, 1) := by decide +kernel
theorem dX9_take_31 : decode cX9_take 31 = .ok (.getfield 138, 3) := by decide +kernel
theorem dX9_take_34 : decode cX9_take 34 = .ok (.ireturn, 1) := by decide +kernel
set_option maxRecDepth 20000 in
theorem ggX9_minor_X3_canOldTakeYoung : GoodIn wsX9_minor wsX3_canOldTakeYoung := goodIn_r _ [8, 9, 10, 11, 12, 13, 14, 15, 16, 17, 18, 19, 20, 21, 22, 23, 24, 7, 25, 26, 27, 342, 343, 344, 345, 346, 347, 348, 349, 350, 351, 352, 353, 354, 355, 356, 357, 358, 359, 360, 361, 362, 363, 364, 365] (by decide +kernel) (by decide +kernel)
set_option maxRecDepth 20000 in
theorem gX9_minor_X3_canOldTakeYoung : GoodIn wsX9_minor (wsV RX9 218 RX3 yX3_canOldTakeYoung wsX3_canOldTakeYoung) := goodIn_app (goodIn_of _ (by decide +kernel)) ggX9_minor_X3_canOldTakeYoung
set_option maxRecDepth 20000 in
theorem ggX9_minor_X2_run : GoodIn wsX9_minor wsX2_run := goodIn_r _ [32, 33, 34, 35, 36, 37, 38, 39, 40, 31, 41, 42, 43, 44, 45, 46, 47, 48, 49, 50, 51, 52, 14, 53, 16, 54, 12, 13, 15, 55, 18, 19, 20, 21, 56, 57, 58, 59, 60, 61, 62, 63, 64, 65, 66, 67, 68, 7, 69, 70, 71, 72, 73, 74, 75, 76, 77, 78, 79, 80, 81, 82, 83, 84, 85, 86, 87, 88, 89, 90, 91, 92, 93, 94, 95, 96, 97, 98, 99, 100, 101, 102, 103, 104, 105, 106, 107, 108, 27, 109, 110, 111, 112, 113, 114, 115, 116, 117, 118, 119, 120, 121, 122, 123, 124, 125, 126, 127, 128, 129, 130, 131, 132, 133, 134, 135, 136, 137, 138, 139, 140, 141, 142, 143, 144, 145, 146, 147, 148, 149, 150, 151, 152, 153, 154, 155, 156, 157, 158, 159, 160, 161, 162, 163, 164, 165, 166, 167, 11, 17, 168, 169, 170, 171, 172, 173, 174, 175, 176, 177, 178, 179, 180, 181, 182, 183, 184, 185, 186, 187, 188, 189, 190, 191, 192, 366, 367, 368, 369, 370, 371, 372, 373, 374, 375, 376, 377, 378, 342, 343, 344, 345, 346, 347, 348, 349, 350, 351, 352, 353, 354, 355, 356, 357, 358, 359, 360, 361, 362, 363, 364, 365, 379, 380, 381, 382] (by decide +kernel) (by decide +kernel)
set_option maxRecDepth 20000 in
theorem gX9_minor_X2_run : GoodIn wsX9_minor (wsV RX9 222 RX2 yX2_run wsX2_run) := goodIn_app (goodIn_of _ (by decide +kernel)) ggX9_minor_X2_run
set_option maxRecDepth 20000 in
theorem ggX9_minor_X0_run : GoodIn wsX9_minor wsX0_run := goodIn_r _ [197, 198, 199, 200, 201, 202, 203, 204, 205, 206, 207, 208, 209, 210, 211, 212, 213, 214, 215, 51, 52, 14, 53, 16, 216, 12, 13, 15, 217, 18, 19, 20, 21, 218, 219, 220, 221, 222, 223, 224, 225, 226, 227, 72, 73, 74, 228, 229, 230, 231, 232, 233, 234, 76, 77, 78, 79, 80, 81, 82, 235, 84, 85, 86, 87, 88, 89, 90, 91, 92, 93, 236, 237, 238, 239, 240, 241, 242, 243, 244, 245, 246, 247, 248, 249, 250, 251, 252, 253, 254, 255, 256, 257, 258, 259, 260, 135, 136, 63, 137, 138, 261, 262, 263, 196, 264, 265, 266, 267, 268, 269, 270, 271, 140, 141, 142, 272, 273, 274, 275, 276, 277, 278, 279, 280, 281, 282, 283, 284, 285, 155, 156, 157, 116, 158, 286, 287, 288, 7, 289, 9, 109, 163, 290, 291, 292, 293, 294, 295, 296, 297, 298, 299, 27, 300, 301, 302, 11, 17, 110, 111, 112, 113, 114, 115, 65, 117, 118, 119, 120, 303, 304, 305, 306, 307, 308, 309, 5, 6, 8, 10, 22, 23, 24, 25, 26, 310, 106, 107, 108, 121, 311, 178, 179, 180, 181, 312, 313, 314, 315, 316, 317, 318, 191, 319, 320, 190, 192, 321, 160, 161, 162, 70, 164, 165, 166, 167, 168, 169, 170, 171, 172, 173, 174, 175, 176, 61, 62, 64, 322, 323, 324, 325, 326, 327, 328, 329, 330, 331, 332, 183, 184, 185, 186, 187, 188, 189, 383, 384, 385, 386, 387, 388, 375, 376, 377, 378, 389, 390, 391, 392, 393, 394, 350, 351, 352, 353, 354, 355, 356, 357, 358, 359, 360, 361, 362, 363, 364, 365, 379, 380, 381, 382, 342, 343, 344, 345, 346, 347, 348, 349, 395, 396, 397] (by decide +kernel) (by decide +kernel)
set_option maxRecDepth 20000 in
theorem gX9_minor_X0_run : GoodIn wsX9_minor (wsV RX9 225 RX0 yX0_run wsX0_run) := goodIn_app (goodIn_of _ (by decide +kernel)) ggX9_minor_X0_run
theorem dX9_minor_0 : decode cX9_minor 0 = .ok (.aload_n 0, 1) := by decide +kernel
theorem dX9_minor_1 : decode cX9_minor 1 = .ok (.getfield 26, 3) := by decide +kernel
theorem dX9_minor_4 : decode cX9_minor 4 = .ok (.invokevirtual 218, 3) := by decide +kernel
theorem dX9_minor_7 : decode cX9_minor 7 = .ok (.ifCond .eq 13, 3) := by decide +kernel
theorem dX9_minor_10 : decode cX9_minor 10 = .ok (.aload_n 0, 1) := by decide +kernel
theorem dX9_minor_11 : decode cX9_minor 11 = .ok (.getfield 58, 3) := by decide +kernel
theorem dX9_minor_14 : decode cX9_minor 14 = .ok (.invokevirtual 222, 3) := by decide +kernel
theorem dX9_minor_17 : decode cX9_minor 17 = .ok (.goto 12, 3) := by decide +kernel
theorem dX9_minor_20 : decode cX9_minor 20 = .ok (.aload_n 0, 1) := by decide +kernel
theorem dX9_minor_21 : decode cX9_minor 21 = .ok (.getfield 67, 3) := by decide +kernel
theorem dX9_minor_24 : decode cX9_minor 24 = .ok (.iconst 1, 1) := by decide +kernel
theorem dX9_minor_25 : decode cX9_minor 25 = .ok (.iconst 0, 1) := by decide +kernel
theorem dX9_minor_26 : decode cX9_minor 26 = .ok (.invokevirtual 225, 3) := by decide +kernel
theorem dX9_minor_29 : decode cX9_minor 29 = .ok (.ireturn, 1) := by decide +kernel
set_option maxRecDepth 20000 in
theorem ggX9_full_X0_run : GoodIn wsX9_full wsX0_run := goodIn_r _ [6, 7, 8, 9, 10, 11, 12, 13, 14, 15, 16, 17, 18, 19, 20, 21, 22, 23, 24, 25, 26, 27, 28, 29, 30, 31, 32, 33, 34, 35, 36, 37, 38, 39, 40, 41, 42, 43, 44, 45, 46, 47, 48, 49, 50, 51, 52, 53, 54, 55, 56, 57, 58, 59, 60, 61, 62, 63, 64, 65, 66, 67, 68, 69, 70, 71, 72, 73, 74, 75, 76, 77, 78, 79, 80, 81, 82, 83, 84, 85, 86, 87, 88, 89, 90, 91, 92, 93, 94, 95, 96, 97, 98, 99, 100, 101, 102, 103, 104, 105, 106, 107, 108, 109, 5, 110, 111, 112, 113, 114, 115, 116, 117, 118, 119, 120, 121, 122, 123, 124, 125, 126, 127, 128, 129, 130, 131, 132, 133, 134, 135, 136, 137, 138, 139, 140, 141, 142, 143, 144, 145, 146, 147, 148, 149, 150, 151, 152, 153, 154, 155, 156, 157, 158, 159, 160, 161, 162, 163, 164, 165, 166, 167, 168, 169, 170, 171, 172, 173, 174, 175, 176, 177, 178, 179, 180, 181, 182, 183, 184, 185, 186, 187, 188, 189, 190, 191, 192, 193, 194, 195, 196, 197, 198, 199, 200, 201, 202, 203, 204, 205, 206, 207, 208, 209, 210, 211, 212, 213, 214, 215, 216, 217, 218, 219, 220, 221, 222, 223, 224, 225, 226, 227, 228, 229, 230, 231, 232, 233, 234, 235, 236, 237, 238, 239, 240, 241, 242, 243, 244, 245, 246, 247, 248, 249, 250, 251, 261, 262, 263, 264, 265, 266, 267, 268, 269, 270, 271, 272, 273, 274, 275, 276, 277, 278, 279, 280, 281, 282, 283, 284, 285, 286, 287, 288, 289, 290, 291, 292, 293, 294, 295, 296, 297, 298, 299, 300, 301, 302, 303, 304, 305, 306, 307] (by decide +kernel) (by decide +kernel)
set_option maxRecDepth 20000 in
theorem gX9_full_X0_run : GoodIn wsX9_full (wsV RX9 225 RX0 yX0_run wsX0_run) := goodIn_app (goodIn_of _ (by decide +kernel)) ggX9_full_X0_run
theorem dX9_full_0 : decode cX9_full 0 = .ok (.aload_n 0, 1) := by decide +kernel
theorem dX9_full_1 : decode cX9_full 1 = .ok (.getfield 67, 3) := by decide +kernel
theorem dX9_full_4 : decode cX9_full 4 = .ok (.iload_n 1, 1) := by decide +kernel
theorem dX9_full_5 : decode cX9_full 5 = .ok (.iconst 0, 1) := by decide +kernel
theorem dX9_full_6 : decode cX9_full 6 = .ok (.invokevirtual 225, 3) := by decide +kernel
theorem dX9_full_9 : decode cX9_full 9 = .ok (.ireturn, 1) := by decide +kernel
set_option maxRecDepth 20000 in
theorem ggX9_start_X1_isOn : GoodIn wsX9_start wsX1_isOn := goodIn_r _ [8, 9, 68, 69, 70] (by decide +kernel) (by decide +kernel)
set_option maxRecDepth 20000 in
theorem gX9_start_X1_isOn : GoodIn wsX9_start (wsV RX9 228 RX1 yX1_isOn wsX1_isOn) := goodIn_app (goodIn_of _ (by decide +kernel)) ggX9_start_X1_isOn
set_option maxRecDepth 20000 in
theorem ggX9_start_X1_begin : GoodIn wsX9_start wsX1_begin := goodIn_r _ [13, 14, 15, 9, 16, 17, 18, 19, 20, 21, 22, 23, 24, 25, 26, 27, 28, 29, 7, 30, 31, 32, 33, 34, 35, 36, 37, 38, 39, 40, 41, 42, 43, 44, 45, 46, 47, 48, 49, 50, 51, 52, 53, 54, 68, 69, 70, 71, 72, 73, 74, 75, 76, 77, 78, 79, 80, 81, 82, 83, 84, 85, 86, 87, 88, 89, 90] (by decide +kernel) (by decide +kernel)
set_option maxRecDepth 20000 in
theorem gX9_start_X1_begin : GoodIn wsX9_start (wsV RX9 233 RX1 yX1_begin wsX1_begin) := goodIn_app (goodIn_of _ (by decide +kernel)) ggX9_start_X1_begin
set_option maxRecDepth 20000 in
theorem ggX9_start_X1_greys : GoodIn wsX9_start wsX1_greys := goodIn_r _ [58, 9, 14, 15, 16, 17, 18, 19, 20, 21, 22, 23, 24, 25, 26, 68, 69, 70, 71, 72, 73, 74, 75, 76, 77, 78, 79, 80, 81, 82, 83, 84, 85, 86] (by decide +kernel) (by decide +kernel)
set_option maxRecDepth 20000 in
theorem gX9_start_X1_greys : GoodIn wsX9_start (wsV RX9 236 RX1 yX1_greys wsX1_greys) := goodIn_app (goodIn_of _ (by decide +kernel)) ggX9_start_X1_greys
theorem dX9_start_0 : decode cX9_start 0 = .ok (.aload_n 0, 1) := by decide +kernel
theorem dX9_start_1 : decode cX9_start 1 = .ok (.getfield 42, 3) := by decide +kernel
theorem dX9_start_4 : decode cX9_start 4 = .ok (.invokevirtual 228, 3) := by decide +kernel
theorem dX9_start_7 : decode cX9_start 7 = .ok (.ifCond .eq 13, 3) := by decide +kernel
theorem dX9_start_10 : decode cX9_start 10 = .ok (.new 75, 3) := by decide +kernel
theorem dX9_start_13 : decode cX9_start 13 = .ok (.dup, 1) := by decide +kernel
theorem dX9_start_14 : decode cX9_start 14 = .ok (.ldc 231, 2) := by decide +kernel
theorem dX9_start_16 : decode cX9_start 16 = .ok (.invokespecial 79, 3) := by decide +kernel
theorem dX9_start_19 : decode cX9_start 19 = .ok (.athrow, 1) := by decide +kernel
theorem dX9_start_20 : decode cX9_start 20 = .ok (.aload_n 0, 1) := by decide +kernel
theorem dX9_start_21 : decode cX9_start 21 = .ok (.getfield 42, 3) := by decide +kernel
theorem dX9_start_24 : decode cX9_start 24 = .ok (.invokevirtual 233, 3) := by decide +kernel
theorem dX9_start_27 : decode cX9_start 27 = .ok (.aload_n 0, 1) := by decide +kernel
theorem dX9_start_28 : decode cX9_start 28 = .ok (.getfield 42, 3) := by decide +kernel
theorem dX9_start_31 : decode cX9_start 31 = .ok (.invokevirtual 236, 3) := by decide +kernel
theorem dX9_start_34 : decode cX9_start 34 = .ok (.ireturn, 1) := by decide +kernel
set_option maxRecDepth 20000 in
theorem ggX9_step_X9_requireMarking : GoodIn wsX9_step wsX9_requireMarking := goodIn_ca (goodIn_r _ [10, 11, 12, 3, 13, 14, 15, 16, 17, 18, 52, 53, 54, 55, 56, 57, 58, 59, 60, 75, 76, 77] (by decide +kernel) (by decide +kernel)) (goodIn_sub (fun _ h => List.mem_cons_of_mem _ (List.mem_append_right _ h)) (by decide +kernel))
set_option maxRecDepth 20000 in
theorem gX9_step_X9_requireMarking : GoodIn wsX9_step (wsV RX9 241 RX9 yX9_requireMarking wsX9_requireMarking) := goodIn_app (goodIn_of _ (by decide +kernel)) ggX9_step_X9_requireMarking
set_option maxRecDepth 20000 in
theorem ggX9_step_X1_blackenNext : GoodIn wsX9_step wsX1_blackenNext := goodIn_r _ [22, 23, 24, 25, 26, 27, 28, 29, 30, 31, 32, 33, 34, 35, 36, 37, 38, 39, 16, 40, 75, 76, 77, 61, 62, 63, 64, 65, 66, 67, 68, 69, 70, 71, 72, 73, 74, 78, 79] (by decide +kernel) (by decide +kernel)
set_option maxRecDepth 20000 in
theorem gX9_step_X1_blackenNext : GoodIn wsX9_step (wsV RX9 244 RX1 yX1_blackenNext wsX1_blackenNext) := goodIn_app (goodIn_of _ (by decide +kernel)) ggX9_step_X1_blackenNext
set_option maxRecDepth 20000 in
theorem ggX9_step_X6_noteTouched : GoodIn wsX9_step wsX6_noteTouched := goodIn_r _ [45, 46, 47, 48, 49, 50, 51, 80, 81, 82, 83] (by decide +kernel) (by decide +kernel)
set_option maxRecDepth 20000 in
theorem gX9_step_X6_noteTouched : GoodIn wsX9_step (wsV RX9 249 RX6 yX6_noteTouched wsX6_noteTouched) := goodIn_app (goodIn_of _ (by decide +kernel)) ggX9_step_X6_noteTouched
theorem dX9_step_0 : decode cX9_step 0 = .ok (.iload_n 1, 1) := by decide +kernel
theorem dX9_step_1 : decode cX9_step 1 = .ok (.iconst 1, 1) := by decide +kernel
theorem dX9_step_2 : decode cX9_step 2 = .ok (.if_icmp .lt 9, 3) := by decide +kernel
theorem dX9_step_5 : decode cX9_step 5 = .ok (.iload_n 1, 1) := by decide +kernel
theorem dX9_step_6 : decode cX9_step 6 = .ok (.bipush 50, 2) := by decide +kernel
theorem dX9_step_8 : decode cX9_step 8 = .ok (.if_icmp .le 13, 3) := by decide +kernel
theorem dX9_step_11 : decode cX9_step 11 = .ok (.new 98, 3) := by decide +kernel
theorem dX9_step_14 : decode cX9_step 14 = .ok (.dup, 1) := by decide +kernel
theorem dX9_step_15 : decode cX9_step 15 = .ok (.ldc 239, 2) := by decide +kernel
theorem dX9_step_17 : decode cX9_step 17 = .ok (.invokespecial 102, 3) := by decide +kernel
theorem dX9_step_20 : decode cX9_step 20 = .ok (.athrow, 1) := by decide +kernel
theorem dX9_step_21 : decode cX9_step 21 = .ok (.aload_n 0, 1) := by decide +kernel
theorem dX9_step_22 : decode cX9_step 22 = .ok (.invokevirtual 241, 3) := by decide +kernel
theorem dX9_step_25 : decode cX9_step 25 = .ok (.iconst 0, 1) := by decide +kernel
theorem dX9_step_26 : decode cX9_step 26 = .ok (.istore_n 2, 1) := by decide +kernel
theorem dX9_step_27 : decode cX9_step 27 = .ok (.iload_n 2, 1) := by decide +kernel
theorem dX9_step_28 : decode cX9_step 28 = .ok (.iload_n 1, 1) := by decide +kernel
theorem dX9_step_29 : decode cX9_step 29 = .ok (.if_icmp .ge 34, 3) := by decide +kernel
theorem dX9_step_32 : decode cX9_step 32 = .ok (.aload_n 0, 1) := by decide +kernel
theorem dX9_step_33 : decode cX9_step 33 = .ok (.getfield 42, 3) := by decide +kernel
theorem dX9_step_36 : decode cX9_step 36 = .ok (.invokevirtual 244, 3) := by decide +kernel
theorem dX9_step_39 : decode cX9_step 39 = .ok (.astore_n 3, 1) := by decide +kernel
theorem dX9_step_40 : decode cX9_step 40 = .ok (.aload_n 3, 1) := by decide +kernel
theorem dX9_step_41 : decode cX9_step 41 = .ok (.ifnonnull 5, 3) := by decide +kernel
theorem dX9_step_44 : decode cX9_step 44 = .ok (.iload_n 2, 1) := by decide +kernel
theorem dX9_step_45 : decode cX9_step 45 = .ok (.ireturn, 1) := by decide +kernel
theorem dX9_step_46 : decode cX9_step 46 = .ok (.aload_n 0, 1) := by decide +kernel
theorem dX9_step_47 : decode cX9_step 47 = .ok (.getfield 33, 3) := by decide +kernel
theorem dX9_step_50 : decode cX9_step 50 = .ok (.aload_n 3, 1) := by decide +kernel
theorem dX9_step_51 : decode cX9_step 51 = .ok (.getfield 247, 3) := by decide +kernel
theorem dX9_step_54 : decode cX9_step 54 = .ok (.invokevirtual 249, 3) := by decide +kernel
theorem dX9_step_57 : decode cX9_step 57 = .ok (.iinc 2 1, 3) := by decide +kernel
theorem dX9_step_60 : decode cX9_step 60 = .ok (.goto (-33), 3) := by decide +kernel
theorem dX9_step_63 : decode cX9_step 63 = .ok (.iload_n 2, 1) := by decide +kernel
theorem dX9_step_64 : decode cX9_step 64 = .ok (.ireturn, 1) := by decide +kernel
set_option maxRecDepth 20000 in
theorem ggX9_finish_X9_requireMarking : GoodIn wsX9_finish wsX9_requireMarking := goodIn_ca (goodIn_r _ [7, 8, 9, 1, 10, 11, 12, 13, 14, 15, 288, 289, 290, 291, 292, 293, 294, 295, 296, 297, 298, 299] (by decide +kernel) (by decide +kernel)) (goodIn_sub (fun _ h => List.mem_cons_of_mem _ (List.mem_append_right _ h)) (by decide +kernel))
set_option maxRecDepth 20000 in
theorem gX9_finish_X9_requireMarking : GoodIn wsX9_finish (wsV RX9 241 RX9 yX9_requireMarking wsX9_requireMarking) := goodIn_app (goodIn_of _ (by decide +kernel)) ggX9_finish_X9_requireMarking
set_option maxRecDepth 20000 in
theorem ggX9_finish_X1_blackenAll : GoodIn wsX9_finish wsX1_blackenAll := goodIn_r _ [19, 20, 21, 22, 13, 23, 24, 25, 26, 27, 28, 29, 30, 31, 32, 33, 34, 35, 36, 37, 38, 39, 40, 41, 42, 43, 44, 45, 46, 47, 48, 49, 50, 51, 52, 53, 54, 55, 56, 57, 58, 59, 60, 61, 62, 63, 64, 65, 66, 297, 298, 299, 300, 301, 302, 303, 304, 305, 306, 307, 308, 309, 310, 311, 312, 313, 314, 315, 316, 317, 318, 319] (by decide +kernel) (by decide +kernel)
set_option maxRecDepth 20000 in
theorem gX9_finish_X1_blackenAll : GoodIn wsX9_finish (wsV RX9 252 RX1 yX1_blackenAll wsX1_blackenAll) := goodIn_app (goodIn_of _ (by decide +kernel)) ggX9_finish_X1_blackenAll
set_option maxRecDepth 20000 in
theorem ggX9_finish_X0_run : GoodIn wsX9_finish wsX0_run := goodIn_r _ [71, 72, 73, 74, 75, 76, 77, 78, 79, 80, 81, 82, 83, 84, 85, 86, 87, 88, 89, 90, 91, 37, 92, 39, 93, 35, 36, 38, 94, 51, 52, 53, 54, 95, 96, 97, 98, 99, 100, 101, 102, 103, 104, 105, 106, 107, 108, 109, 110, 111, 112, 113, 114, 28, 29, 30, 31, 32, 33, 34, 115, 41, 42, 43, 44, 45, 46, 47, 48, 49, 50, 116, 117, 118, 119, 120, 121, 122, 123, 124, 125, 126, 127, 128, 129, 130, 6, 131, 132, 133, 134, 135, 136, 137, 138, 139, 140, 141, 142, 143, 144, 145, 146, 147, 70, 148, 149, 150, 151, 152, 153, 154, 155, 156, 157, 158, 159, 160, 161, 162, 163, 164, 165, 166, 167, 168, 169, 170, 171, 172, 173, 174, 175, 176, 177, 178, 179, 180, 181, 182, 183, 184, 185, 186, 187, 188, 189, 190, 191, 192, 193, 194, 195, 196, 197, 198, 199, 200, 201, 202, 203, 204, 205, 206, 207, 208, 209, 210, 211, 212, 213, 214, 215, 216, 217, 218, 219, 220, 221, 222, 223, 224, 225, 226, 227, 228, 229, 230, 231, 232, 233, 234, 235, 236, 237, 238, 239, 240, 241, 242, 243, 244, 245, 246, 247, 248, 249, 250, 251, 252, 253, 254, 255, 256, 257, 258, 259, 260, 261, 262, 263, 264, 265, 266, 267, 268, 269, 270, 271, 272, 273, 274, 13, 275, 15, 276, 277, 278, 279, 280, 281, 282, 283, 284, 285, 286, 287, 320, 321, 322, 323, 324, 325, 326, 327, 328, 329, 330, 331, 332, 333, 334, 335, 300, 301, 302, 303, 304, 305, 306, 307, 308, 309, 310, 311, 312, 313, 318, 319, 314, 315, 316, 317, 336, 337, 338, 339, 340, 341, 342, 343, 297, 298, 299] (by decide +kernel) (by decide +kernel)
set_option maxRecDepth 20000 in
theorem gX9_finish_X0_run : GoodIn wsX9_finish (wsV RX9 225 RX0 yX0_run wsX0_run) := goodIn_app (goodIn_of _ (by decide +kernel)) ggX9_finish_X0_run
theorem dX9_finish_0 : decode cX9_finish 0 = .ok (.aload_n 0, 1) := by decide +kernel
theorem dX9_finish_1 : decode cX9_finish 1 = .ok (.invokevirtual 241, 3) := by decide +kernel
theorem dX9_finish_4 : decode cX9_finish 4 = .ok (.aload_n 0, 1) := by decide +kernel
theorem dX9_finish_5 : decode cX9_finish 5 = .ok (.getfield 42, 3) := by decide +kernel
theorem dX9_finish_8 : decode cX9_finish 8 = .ok (.invokevirtual 252, 3) := by decide +kernel
theorem dX9_finish_11 : decode cX9_finish 11 = .ok (.aload_n 0, 1) := by decide +kernel
theorem dX9_finish_12 : decode cX9_finish 12 = .ok (.getfield 67, 3) := by decide +kernel
theorem dX9_finish_15 : decode cX9_finish 15 = .ok (.iconst 1, 1) := by decide +kernel
theorem dX9_finish_16 : decode cX9_finish 16 = .ok (.iconst 1, 1) := by decide +kernel
theorem dX9_finish_17 : decode cX9_finish 17 = .ok (.invokevirtual 225, 3) := by decide +kernel
theorem dX9_finish_20 : decode cX9_finish 20 = .ok (.ireturn, 1) := by decide +kernel
theorem dX9_tenure_0 : decode cX9_tenure 0 = .ok (.iload_n 1, 1) := by decide +kernel
theorem dX9_tenure_1 : decode cX9_tenure 1 = .ok (.iconst 1, 1) := by decide +kernel
theorem dX9_tenure_2 : decode cX9_tenure 2 = .ok (.if_icmp .lt 9, 3) := by decide +kernel
theorem dX9_tenure_5 : decode cX9_tenure 5 = .ok (.iload_n 1, 1) := by decide +kernel
theorem dX9_tenure_6 : decode cX9_tenure 6 = .ok (.bipush 9, 2) := by decide +kernel
theorem dX9_tenure_8 : decode cX9_tenure 8 = .ok (.if_icmp .le 13, 3) := by decide +kernel
theorem dX9_tenure_11 : decode cX9_tenure 11 = .ok (.new 98, 3) := by decide +kernel
theorem dX9_tenure_14 : decode cX9_tenure 14 = .ok (.dup, 1) := by decide +kernel
theorem dX9_tenure_15 : decode cX9_tenure 15 = .ok (.ldc 255, 2) := by decide +kernel
theorem dX9_tenure_17 : decode cX9_tenure 17 = .ok (.invokespecial 102, 3) := by decide +kernel
theorem dX9_tenure_20 : decode cX9_tenure 20 = .ok (.athrow, 1) := by decide +kernel
theorem dX9_tenure_21 : decode cX9_tenure 21 = .ok (.aload_n 0, 1) := by decide +kernel
theorem dX9_tenure_22 : decode cX9_tenure 22 = .ok (.getfield 58, 3) := by decide +kernel
theorem dX9_tenure_25 : decode cX9_tenure 25 = .ok (.getfield 257, 3) := by decide +kernel
theorem dX9_tenure_28 : decode cX9_tenure 28 = .ok (.istore_n 2, 1) := by decide +kernel
theorem dX9_tenure_29 : decode cX9_tenure 29 = .ok (.aload_n 0, 1) := by decide +kernel
theorem dX9_tenure_30 : decode cX9_tenure 30 = .ok (.getfield 58, 3) := by decide +kernel
theorem dX9_tenure_33 : decode cX9_tenure 33 = .ok (.iload_n 1, 1) := by decide +kernel
theorem dX9_tenure_34 : decode cX9_tenure 34 = .ok (.putfield 257, 3) := by decide +kernel
theorem dX9_tenure_37 : decode cX9_tenure 37 = .ok (.iload_n 2, 1) := by decide +kernel
theorem dX9_tenure_38 : decode cX9_tenure 38 = .ok (.ireturn, 1) := by decide +kernel
set_option maxRecDepth 20000 in
theorem ggX9_at_X9_requireSlot : GoodIn wsX9_at wsX9_requireSlot := goodIn_ca (goodIn_r _ [5, 6, 7] (by decide +kernel) (by decide +kernel)) (goodIn_sub (fun _ h => List.mem_cons_of_mem _ (List.mem_append_right _ h)) (by decide +kernel))
set_option maxRecDepth 20000 in
theorem gX9_at_X9_requireSlot : GoodIn wsX9_at (va_wsS RX9 90 yX9_requireSlot wsX9_requireSlot) := goodIn_app (goodIn_of _ (by decide +kernel)) ggX9_at_X9_requireSlot
set_option maxRecDepth 20000 in
theorem ggX9_at_X4_readSlot : GoodIn wsX9_at wsX4_readSlot := goodIn_r _ [12, 13, 14, 15, 16, 11, 17, 18, 32, 33, 34, 35] (by decide +kernel) (by decide +kernel)
set_option maxRecDepth 20000 in
theorem gX9_at_X4_readSlot : GoodIn wsX9_at (wsV RX9 155 RX4 yX4_readSlot wsX4_readSlot) := goodIn_app (goodIn_of _ (by decide +kernel)) ggX9_at_X4_readSlot
set_option maxRecDepth 20000 in
theorem ggX9_at_X9_numberOf : GoodIn wsX9_at wsX9_numberOf := goodIn_r _ [21, 22, 36, 37, 38, 39, 40, 41, 42, 43, 44, 45, 46, 47, 48, 49] (by decide +kernel) (by decide +kernel)
set_option maxRecDepth 20000 in
theorem gX9_at_X9_numberOf : GoodIn wsX9_at (va_wsS RX9 166 yX9_numberOf wsX9_numberOf) := goodIn_app (goodIn_of _ (by decide +kernel)) ggX9_at_X9_numberOf
theorem dX9_at_0 : decode cX9_at 0 = .ok (.iload_n 1, 1) := by decide +kernel
theorem dX9_at_1 : decode cX9_at 1 = .ok (.invokestatic 90, 3) := by decide +kernel
theorem dX9_at_4 : decode cX9_at 4 = .ok (.aload_n 0, 1) := by decide +kernel
theorem dX9_at_5 : decode cX9_at 5 = .ok (.getfield 19, 3) := by decide +kernel
theorem dX9_at_8 : decode cX9_at 8 = .ok (.iload_n 1, 1) := by decide +kernel
theorem dX9_at_9 : decode cX9_at 9 = .ok (.invokevirtual 155, 3) := by decide +kernel
theorem dX9_at_12 : decode cX9_at 12 = .ok (.invokestatic 166, 3) := by decide +kernel
theorem dX9_at_15 : decode cX9_at 15 = .ok (.ireturn, 1) := by decide +kernel
set_option maxRecDepth 20000 in
theorem ggX9_field_X9_madeAs : GoodIn wsX9_field wsX9_madeAs := goodIn_ca (goodIn_r _ [5, 6, 7, 8, 9, 10, 11, 12, 13, 14, 15, 33, 34, 35, 36, 37, 38, 39, 40, 41, 42, 43] (by decide +kernel) (by decide +kernel)) (goodIn_sub (fun _ h => List.mem_cons_of_mem _ (List.mem_append_right _ h)) (by decide +kernel))
set_option maxRecDepth 20000 in
theorem gX9_field_X9_madeAs : GoodIn wsX9_field (wsV RX9 260 RX9 yX9_madeAs wsX9_madeAs) := goodIn_app (goodIn_of _ (by decide +kernel)) ggX9_field_X9_madeAs
set_option maxRecDepth 20000 in
theorem ggX9_field_X9_requireField : GoodIn wsX9_field wsX9_requireField := goodIn_ca (goodIn_r _ [18, 6, 7, 19, 20, 21, 22, 23, 24, 44, 45, 46, 47, 48, 49, 50, 51, 52, 53, 54, 55, 56, 57] (by decide +kernel) (by decide +kernel)) (goodIn_sub (fun _ h => List.mem_cons_of_mem _ (List.mem_append_right _ h)) (by decide +kernel))
set_option maxRecDepth 20000 in
theorem gX9_field_X9_requireField : GoodIn wsX9_field (va_wsS RX9 149 yX9_requireField wsX9_requireField) := goodIn_app (goodIn_of _ (by decide +kernel)) ggX9_field_X9_requireField
set_option maxRecDepth 20000 in
theorem ggX9_field_X7_read : GoodIn wsX9_field wsX7_read := goodIn_r _ [28, 24, 44, 45, 46, 47, 48, 49, 50, 51, 52, 53, 54, 55, 56, 57] (by decide +kernel) (by decide +kernel)
set_option maxRecDepth 20000 in
theorem gX9_field_X7_read : GoodIn wsX9_field (wsV RX9 152 RX7 yX7_read wsX7_read) := goodIn_app (goodIn_of _ (by decide +kernel)) ggX9_field_X7_read
set_option maxRecDepth 20000 in
theorem ggX9_field_X9_numberOf : GoodIn wsX9_field wsX9_numberOf := goodIn_r _ [31, 32, 44, 45, 46, 47, 48, 49, 50, 51, 52, 53, 54, 55, 56, 57] (by decide +kernel) (by decide +kernel)
set_option maxRecDepth 20000 in
theorem gX9_field_X9_numberOf : GoodIn wsX9_field (va_wsS RX9 166 yX9_numberOf wsX9_numberOf) := goodIn_app (goodIn_of _ (by decide +kernel)) ggX9_field_X9_numberOf
theorem dX9_field_0 : decode cX9_field 0 = .ok (.aload_n 0, 1) := by decide +kernel
theorem dX9_field_1 : decode cX9_field 1 = .ok (.iload_n 1, 1) := by decide +kernel
theorem dX9_field_2 : decode cX9_field 2 = .ok (.invokevirtual 260, 3) := by decide +kernel
theorem dX9_field_5 : decode cX9_field 5 = .ok (.astore_n 3, 1) := by decide +kernel
theorem dX9_field_6 : decode cX9_field 6 = .ok (.aload_n 3, 1) := by decide +kernel
theorem dX9_field_7 : decode cX9_field 7 = .ok (.iload_n 2, 1) := by decide +kernel
theorem dX9_field_8 : decode cX9_field 8 = .ok (.invokestatic 149, 3) := by decide +kernel
theorem dX9_field_11 : decode cX9_field 11 = .ok (.aload_n 3, 1) := by decide +kernel
theorem dX9_field_12 : decode cX9_field 12 = .ok (.iload_n 2, 1) := by decide +kernel
theorem dX9_field_13 : decode cX9_field 13 = .ok (.invokevirtual 152, 3) := by decide +kernel
theorem dX9_field_16 : decode cX9_field 16 = .ok (.invokestatic 166, 3) := by decide +kernel
theorem dX9_field_19 : decode cX9_field 19 = .ok (.ireturn, 1) := by decide +kernel
set_option maxRecDepth 20000 in
theorem ggX9_ofObject_X9_madeAs : GoodIn wsX9_ofObject wsX9_madeAs := goodIn_ca (goodIn_r _ [16, 17, 18, 19, 20, 21, 22, 23, 24, 25, 26, 47, 48, 49, 50, 51, 52, 53, 54, 55, 56, 57] (by decide +kernel) (by decide +kernel)) (goodIn_sub (fun _ h => List.mem_cons_of_mem _ (List.mem_append_right _ h)) (by decide +kernel))
set_option maxRecDepth 20000 in
theorem gX9_ofObject_X9_madeAs : GoodIn wsX9_ofObject (wsV RX9 260 RX9 yX9_madeAs wsX9_madeAs) := goodIn_app (goodIn_of _ (by decide +kernel)) ggX9_ofObject_X9_madeAs
set_option maxRecDepth 20000 in
theorem ggX9_ofObject_X1_isOn : GoodIn wsX9_ofObject wsX1_isOn := goodIn_r _ [31, 32, 58, 59, 60] (by decide +kernel) (by decide +kernel)
set_option maxRecDepth 20000 in
theorem gX9_ofObject_X1_isOn : GoodIn wsX9_ofObject (wsV RX9 228 RX1 yX1_isOn wsX1_isOn) := goodIn_app (goodIn_of _ (by decide +kernel)) ggX9_ofObject_X1_isOn
theorem dX9_ofObject_0 : decode cX9_ofObject 0 = .ok (.aload_n 0, 1) := by decide +kernel
theorem dX9_ofObject_1 : decode cX9_ofObject 1 = .ok (.iload_n 1, 1) := by decide +kernel
theorem dX9_ofObject_2 : decode cX9_ofObject 2 = .ok (.invokevirtual 260, 3) := by decide +kernel
theorem dX9_ofObject_5 : decode cX9_ofObject 5 = .ok (.astore_n 3, 1) := by decide +kernel
theorem dX9_ofObject_6 : decode cX9_ofObject 6 = .ok (.iload_n 2, 1) := by decide +kernel
theorem dX9_ofObject_7 : decode cX9_ofObject 7 = .ok (.ifCond .lt 9, 3) := by decide +kernel
theorem dX9_ofObject_10 : decode cX9_ofObject 10 = .ok (.iload_n 2, 1) := by decide +kernel
theorem dX9_ofObject_11 : decode cX9_ofObject 11 = .ok (.bipush 8, 2) := by decide +kernel
theorem dX9_ofObject_13 : decode cX9_ofObject 13 = .ok (.if_icmp .lt 14, 3) := by decide +kernel
theorem dX9_ofObject_16 : decode cX9_ofObject 16 = .ok (.new 98, 3) := by decide +kernel
theorem dX9_ofObject_19 : decode cX9_ofObject 19 = .ok (.dup, 1) := by decide +kernel
theorem dX9_ofObject_20 : decode cX9_ofObject 20 = .ok (.ldc_w 263, 3) := by decide +kernel
theorem dX9_ofObject_23 : decode cX9_ofObject 23 = .ok (.invokespecial 102, 3) := by decide +kernel
theorem dX9_ofObject_26 : decode cX9_ofObject 26 = .ok (.athrow, 1) := by decide +kernel
theorem dX9_ofObject_27 : decode cX9_ofObject 27 = .ok (.iload_n 2, 1) := by decide +kernel
theorem dX9_ofObject_28 : decode cX9_ofObject 28 = .ok (.ifCond .ne 8, 3) := by decide +kernel
theorem dX9_ofObject_31 : decode cX9_ofObject 31 = .ok (.aload_n 3, 1) := by decide +kernel
theorem dX9_ofObject_32 : decode cX9_ofObject 32 = .ok (.getfield 199, 3) := by decide +kernel
theorem dX9_ofObject_35 : decode cX9_ofObject 35 = .ok (.ireturn, 1) := by decide +kernel
theorem dX9_ofObject_36 : decode cX9_ofObject 36 = .ok (.aload_n 3, 1) := by decide +kernel
theorem dX9_ofObject_37 : decode cX9_ofObject 37 = .ok (.getfield 199, 3) := by decide +kernel
theorem dX9_ofObject_40 : decode cX9_ofObject 40 = .ok (.ifCond .ne 5, 3) := by decide +kernel
theorem dX9_ofObject_43 : decode cX9_ofObject 43 = .ok (.iconst (-1), 1) := by decide +kernel
theorem dX9_ofObject_44 : decode cX9_ofObject 44 = .ok (.ireturn, 1) := by decide +kernel
theorem dX9_ofObject_45 : decode cX9_ofObject 45 = .ok (.iload_n 2, 1) := by decide +kernel
theorem dX9_ofObject_46 : decode cX9_ofObject 46 = .ok (.tableswitch 90 1 6 #[38, 43, 48, 53, 58, 71], 38) := by decide +kernel
theorem dX9_ofObject_84 : decode cX9_ofObject 84 = .ok (.aload_n 3, 1) := by decide +kernel
theorem dX9_ofObject_85 : decode cX9_ofObject 85 = .ok (.getfield 265, 3) := by decide +kernel
theorem dX9_ofObject_88 : decode cX9_ofObject 88 = .ok (.ireturn, 1) := by decide +kernel
theorem dX9_ofObject_89 : decode cX9_ofObject 89 = .ok (.aload_n 3, 1) := by decide +kernel
theorem dX9_ofObject_90 : decode cX9_ofObject 90 = .ok (.getfield 247, 3) := by decide +kernel
theorem dX9_ofObject_93 : decode cX9_ofObject 93 = .ok (.ireturn, 1) := by decide +kernel
theorem dX9_ofObject_94 : decode cX9_ofObject 94 = .ok (.aload_n 3, 1) := by decide +kernel
theorem dX9_ofObject_95 : decode cX9_ofObject 95 = .ok (.getfield 268, 3) := by decide +kernel
theorem dX9_ofObject_98 : decode cX9_ofObject 98 = .ok (.ireturn, 1) := by decide +kernel
theorem dX9_ofObject_99 : decode cX9_ofObject 99 = .ok (.aload_n 3, 1) := by decide +kernel
theorem dX9_ofObject_100 : decode cX9_ofObject 100 = .ok (.getfield 181, 3) := by decide +kernel
theorem dX9_ofObject_103 : decode cX9_ofObject 103 = .ok (.ireturn, 1) := by decide +kernel
theorem dX9_ofObject_104 : decode cX9_ofObject 104 = .ok (.aload_n 3, 1) := by decide +kernel
theorem dX9_ofObject_105 : decode cX9_ofObject 105 = .ok (.getfield 190, 3) := by decide +kernel
theorem dX9_ofObject_108 : decode cX9_ofObject 108 = .ok (.ifCond .eq 7, 3) := by decide +kernel
theorem dX9_ofObject_111 : decode cX9_ofObject 111 = .ok (.iconst 1, 1) := by decide +kernel
theorem dX9_ofObject_112 : decode cX9_ofObject 112 = .ok (.goto 4, 3) := by decide +kernel
theorem dX9_ofObject_115 : decode cX9_ofObject 115 = .ok (.iconst 0, 1) := by decide +kernel
theorem dX9_ofObject_116 : decode cX9_ofObject 116 = .ok (.ireturn, 1) := by decide +kernel
theorem dX9_ofObject_117 : decode cX9_ofObject 117 = .ok (.aload_n 0, 1) := by decide +kernel
theorem dX9_ofObject_118 : decode cX9_ofObject 118 = .ok (.getfield 42, 3) := by decide +kernel
theorem dX9_ofObject_121 : decode cX9_ofObject 121 = .ok (.invokevirtual 228, 3) := by decide +kernel
theorem dX9_ofObject_124 : decode cX9_ofObject 124 = .ok (.ifCond .eq 10, 3) := by decide +kernel
theorem dX9_ofObject_127 : decode cX9_ofObject 127 = .ok (.aload_n 3, 1) := by decide +kernel
theorem dX9_ofObject_128 : decode cX9_ofObject 128 = .ok (.getfield 271, 3) := by decide +kernel
theorem dX9_ofObject_131 : decode cX9_ofObject 131 = .ok (.goto 4, 3) := by decide +kernel
theorem dX9_ofObject_134 : decode cX9_ofObject 134 = .ok (.iconst (-1), 1) := by decide +kernel
theorem dX9_ofObject_135 : decode cX9_ofObject 135 = .ok (.ireturn, 1) := by decide +kernel
theorem dX9_ofObject_136 : decode cX9_ofObject 136 = .ok (.aload_n 3, 1) := by decide +kernel
theorem dX9_ofObject_137 : decode cX9_ofObject 137 = .ok (.getfield 274, 3) := by decide +kernel
theorem dX9_ofObject_140 : decode cX9_ofObject 140 = .ok (.ireturn, 1) := by decide +kernel
set_option maxRecDepth 20000 in
theorem ggX9_many_X5_size : GoodIn wsX9_many wsX5_size := goodIn_r _ [22, 23, 101, 102] (by decide +kernel) (by decide +kernel)
set_option maxRecDepth 20000 in
theorem gX9_many_X5_size : GoodIn wsX9_many (wsV RX9 103 RX5 yX5_size wsX5_size) := goodIn_app (goodIn_of _ (by decide +kernel)) ggX9_many_X5_size
set_option maxRecDepth 20000 in
theorem ggX9_many_X3_things : GoodIn wsX9_many wsX3_things := goodIn_r _ [28, 29, 30, 31, 32, 19, 20, 21, 22, 23, 85, 86, 87, 88, 89, 90, 91, 92, 101, 102] (by decide +kernel) (by decide +kernel)
set_option maxRecDepth 20000 in
theorem gX9_many_X3_things : GoodIn wsX9_many (wsV RX9 277 RX3 yX3_things wsX3_things) := goodIn_app (goodIn_of _ (by decide +kernel)) ggX9_many_X3_things
set_option maxRecDepth 20000 in
theorem ggX9_many_X4_frames : GoodIn wsX9_many wsX4_frames := goodIn_r _ [37, 38, 93, 94, 95, 96] (by decide +kernel) (by decide +kernel)
set_option maxRecDepth 20000 in
theorem gX9_many_X4_frames : GoodIn wsX9_many (wsV RX9 71 RX4 yX4_frames wsX4_frames) := goodIn_app (goodIn_of _ (by decide +kernel)) ggX9_many_X4_frames
set_option maxRecDepth 20000 in
theorem ggX9_many_X5_words : GoodIn wsX9_many wsX5_words := goodIn_r _ [42, 23, 43, 44, 101, 102, 103, 104, 105, 106, 107, 108, 109, 110, 111, 112, 113, 114, 115, 116] (by decide +kernel) (by decide +kernel)
set_option maxRecDepth 20000 in
theorem gX9_many_X5_words : GoodIn wsX9_many (wsV RX9 295 RX5 yX5_words wsX5_words) := goodIn_app (goodIn_of _ (by decide +kernel)) ggX9_many_X5_words
set_option maxRecDepth 20000 in
theorem ggX9_many_X3_largeGaps : GoodIn wsX9_many wsX3_largeGaps := goodIn_r _ [48, 31, 49, 32, 19, 20, 21, 22, 23, 50, 51, 52, 53, 43, 54, 55, 56, 57, 58, 59, 60, 85, 86, 87, 88, 89, 90, 91, 92, 103, 104, 105, 106, 107, 108, 109, 110, 111, 112, 113, 114, 115, 116, 101, 102] (by decide +kernel) (by decide +kernel)
set_option maxRecDepth 20000 in
theorem gX9_many_X3_largeGaps : GoodIn wsX9_many (wsV RX9 298 RX3 yX3_largeGaps wsX3_largeGaps) := goodIn_app (goodIn_of _ (by decide +kernel)) ggX9_many_X3_largeGaps
set_option maxRecDepth 20000 in
theorem ggX9_many_X3_dirtyCards : GoodIn wsX9_many wsX3_dirtyCards := goodIn_r _ [64, 65, 85, 86, 87, 88, 89, 90, 91, 92] (by decide +kernel) (by decide +kernel)
set_option maxRecDepth 20000 in
theorem gX9_many_X3_dirtyCards : GoodIn wsX9_many (wsV RX9 301 RX3 yX3_dirtyCards wsX3_dirtyCards) := goodIn_app (goodIn_of _ (by decide +kernel)) ggX9_many_X3_dirtyCards
set_option maxRecDepth 20000 in
theorem ggX9_many_X1_greys : GoodIn wsX9_many wsX1_greys := goodIn_r _ [70, 71, 72, 73, 74, 19, 20, 21, 22, 23, 75, 51, 52, 53, 43, 117, 118, 119, 103, 104, 105, 106, 107, 108, 109, 110, 111, 112, 113, 114, 115, 116, 101, 102] (by decide +kernel) (by decide +kernel)
set_option maxRecDepth 20000 in
theorem gX9_many_X1_greys : GoodIn wsX9_many (wsV RX9 236 RX1 yX1_greys wsX1_greys) := goodIn_app (goodIn_of _ (by decide +kernel)) ggX9_many_X1_greys
theorem dX9_many_0 : decode cX9_many 0 = .ok (.iload_n 1, 1) := by decide +kernel
theorem dX9_many_1 : decode cX9_many 1 = .ok (.tableswitch 224 0 15 #[79, 87, 95, 103, 119, 127, 138, 146, 157, 165, 173, 184, 192, 200, 208, 216], 79) := by decide +kernel
theorem dX9_many_80 : decode cX9_many 80 = .ok (.aload_n 0, 1) := by decide +kernel
theorem dX9_many_81 : decode cX9_many 81 = .ok (.getfield 10, 3) := by decide +kernel
theorem dX9_many_84 : decode cX9_many 84 = .ok (.invokevirtual 103, 3) := by decide +kernel
theorem dX9_many_87 : decode cX9_many 87 = .ok (.ireturn, 1) := by decide +kernel
theorem dX9_many_88 : decode cX9_many 88 = .ok (.aload_n 0, 1) := by decide +kernel
theorem dX9_many_89 : decode cX9_many 89 = .ok (.getfield 26, 3) := by decide +kernel
theorem dX9_many_92 : decode cX9_many 92 = .ok (.invokevirtual 277, 3) := by decide +kernel
theorem dX9_many_95 : decode cX9_many 95 = .ok (.ireturn, 1) := by decide +kernel
theorem dX9_many_96 : decode cX9_many 96 = .ok (.aload_n 0, 1) := by decide +kernel
theorem dX9_many_97 : decode cX9_many 97 = .ok (.getfield 19, 3) := by decide +kernel
theorem dX9_many_100 : decode cX9_many 100 = .ok (.invokevirtual 71, 3) := by decide +kernel
theorem dX9_many_103 : decode cX9_many 103 = .ok (.ireturn, 1) := by decide +kernel
theorem dX9_many_104 : decode cX9_many 104 = .ok (.aload_n 0, 1) := by decide +kernel
theorem dX9_many_105 : decode cX9_many 105 = .ok (.getfield 26, 3) := by decide +kernel
theorem dX9_many_108 : decode cX9_many 108 = .ok (.getfield 280, 3) := by decide +kernel
theorem dX9_many_111 : decode cX9_many 111 = .ok (.aload_n 0, 1) := by decide +kernel
theorem dX9_many_112 : decode cX9_many 112 = .ok (.getfield 26, 3) := by decide +kernel
theorem dX9_many_115 : decode cX9_many 115 = .ok (.getfield 283, 3) := by decide +kernel
theorem dX9_many_118 : decode cX9_many 118 = .ok (.isub, 1) := by decide +kernel
theorem dX9_many_119 : decode cX9_many 119 = .ok (.ireturn, 1) := by decide +kernel
theorem dX9_many_120 : decode cX9_many 120 = .ok (.aload_n 0, 1) := by decide +kernel
theorem dX9_many_121 : decode cX9_many 121 = .ok (.getfield 26, 3) := by decide +kernel
theorem dX9_many_124 : decode cX9_many 124 = .ok (.getfield 283, 3) := by decide +kernel
theorem dX9_many_127 : decode cX9_many 127 = .ok (.ireturn, 1) := by decide +kernel
theorem dX9_many_128 : decode cX9_many 128 = .ok (.aload_n 0, 1) := by decide +kernel
theorem dX9_many_129 : decode cX9_many 129 = .ok (.getfield 26, 3) := by decide +kernel
theorem dX9_many_132 : decode cX9_many 132 = .ok (.getfield 286, 3) := by decide +kernel
theorem dX9_many_135 : decode cX9_many 135 = .ok (.bipush 100, 2) := by decide +kernel
theorem dX9_many_137 : decode cX9_many 137 = .ok (.isub, 1) := by decide +kernel
theorem dX9_many_138 : decode cX9_many 138 = .ok (.ireturn, 1) := by decide +kernel
theorem dX9_many_139 : decode cX9_many 139 = .ok (.aload_n 0, 1) := by decide +kernel
theorem dX9_many_140 : decode cX9_many 140 = .ok (.getfield 26, 3) := by decide +kernel
theorem dX9_many_143 : decode cX9_many 143 = .ok (.getfield 289, 3) := by decide +kernel
theorem dX9_many_146 : decode cX9_many 146 = .ok (.ireturn, 1) := by decide +kernel
theorem dX9_many_147 : decode cX9_many 147 = .ok (.aload_n 0, 1) := by decide +kernel
theorem dX9_many_148 : decode cX9_many 148 = .ok (.getfield 26, 3) := by decide +kernel
theorem dX9_many_151 : decode cX9_many 151 = .ok (.getfield 292, 3) := by decide +kernel
theorem dX9_many_154 : decode cX9_many 154 = .ok (.invokevirtual 295, 3) := by decide +kernel
theorem dX9_many_157 : decode cX9_many 157 = .ok (.ireturn, 1) := by decide +kernel
theorem dX9_many_158 : decode cX9_many 158 = .ok (.aload_n 0, 1) := by decide +kernel
theorem dX9_many_159 : decode cX9_many 159 = .ok (.getfield 26, 3) := by decide +kernel
theorem dX9_many_162 : decode cX9_many 162 = .ok (.invokevirtual 298, 3) := by decide +kernel
theorem dX9_many_165 : decode cX9_many 165 = .ok (.ireturn, 1) := by decide +kernel
theorem dX9_many_166 : decode cX9_many 166 = .ok (.aload_n 0, 1) := by decide +kernel
theorem dX9_many_167 : decode cX9_many 167 = .ok (.getfield 26, 3) := by decide +kernel
theorem dX9_many_170 : decode cX9_many 170 = .ok (.invokevirtual 301, 3) := by decide +kernel
theorem dX9_many_173 : decode cX9_many 173 = .ok (.ireturn, 1) := by decide +kernel
theorem dX9_many_174 : decode cX9_many 174 = .ok (.aload_n 0, 1) := by decide +kernel
theorem dX9_many_175 : decode cX9_many 175 = .ok (.getfield 19, 3) := by decide +kernel
theorem dX9_many_178 : decode cX9_many 178 = .ok (.getfield 211, 3) := by decide +kernel
theorem dX9_many_181 : decode cX9_many 181 = .ok (.invokevirtual 103, 3) := by decide +kernel
theorem dX9_many_184 : decode cX9_many 184 = .ok (.ireturn, 1) := by decide +kernel
theorem dX9_many_185 : decode cX9_many 185 = .ok (.aload_n 0, 1) := by decide +kernel
theorem dX9_many_186 : decode cX9_many 186 = .ok (.getfield 33, 3) := by decide +kernel
theorem dX9_many_189 : decode cX9_many 189 = .ok (.getfield 304, 3) := by decide +kernel
theorem dX9_many_192 : decode cX9_many 192 = .ok (.ireturn, 1) := by decide +kernel
theorem dX9_many_193 : decode cX9_many 193 = .ok (.aload_n 0, 1) := by decide +kernel
theorem dX9_many_194 : decode cX9_many 194 = .ok (.getfield 33, 3) := by decide +kernel
theorem dX9_many_197 : decode cX9_many 197 = .ok (.getfield 307, 3) := by decide +kernel
theorem dX9_many_200 : decode cX9_many 200 = .ok (.ireturn, 1) := by decide +kernel
theorem dX9_many_201 : decode cX9_many 201 = .ok (.aload_n 0, 1) := by decide +kernel
theorem dX9_many_202 : decode cX9_many 202 = .ok (.getfield 33, 3) := by decide +kernel
theorem dX9_many_205 : decode cX9_many 205 = .ok (.getfield 310, 3) := by decide +kernel
theorem dX9_many_208 : decode cX9_many 208 = .ok (.ireturn, 1) := by decide +kernel
theorem dX9_many_209 : decode cX9_many 209 = .ok (.aload_n 0, 1) := by decide +kernel
theorem dX9_many_210 : decode cX9_many 210 = .ok (.getfield 33, 3) := by decide +kernel
theorem dX9_many_213 : decode cX9_many 213 = .ok (.getfield 313, 3) := by decide +kernel
theorem dX9_many_216 : decode cX9_many 216 = .ok (.ireturn, 1) := by decide +kernel
theorem dX9_many_217 : decode cX9_many 217 = .ok (.aload_n 0, 1) := by decide +kernel
theorem dX9_many_218 : decode cX9_many 218 = .ok (.getfield 42, 3) := by decide +kernel
theorem dX9_many_221 : decode cX9_many 221 = .ok (.invokevirtual 236, 3) := by decide +kernel
theorem dX9_many_224 : decode cX9_many 224 = .ok (.ireturn, 1) := by decide +kernel
theorem dX9_many_225 : decode cX9_many 225 = .ok (.new 98, 3) := by decide +kernel
theorem dX9_many_228 : decode cX9_many 228 = .ok (.dup, 1) := by decide +kernel
theorem dX9_many_229 : decode cX9_many 229 = .ok (.ldc_w 316, 3) := by decide +kernel
theorem dX9_many_232 : decode cX9_many 232 = .ok (.invokespecial 102, 3) := by decide +kernel
theorem dX9_many_235 : decode cX9_many 235 = .ok (.athrow, 1) := by decide +kernel
set_option maxRecDepth 20000 in
theorem ggX9_isDirty_X3_isCardDirty : GoodIn wsX9_isDirty wsX3_isCardDirty := goodIn_r _ [8, 9, 19, 20, 21, 22, 23, 24, 25, 26] (by decide +kernel) (by decide +kernel)
set_option maxRecDepth 20000 in
theorem gX9_isDirty_X3_isCardDirty : GoodIn wsX9_isDirty (wsV RX9 320 RX3 yX3_isCardDirty wsX3_isCardDirty) := goodIn_app (goodIn_of _ (by decide +kernel)) ggX9_isDirty_X3_isCardDirty
theorem dX9_isDirty_0 : decode cX9_isDirty 0 = .ok (.iload_n 1, 1) := by decide +kernel
theorem dX9_isDirty_1 : decode cX9_isDirty 1 = .ok (.ifCond .lt 9, 3) := by decide +kernel
theorem dX9_isDirty_4 : decode cX9_isDirty 4 = .ok (.iload_n 1, 1) := by decide +kernel
theorem dX9_isDirty_5 : decode cX9_isDirty 5 = .ok (.bipush 20, 2) := by decide +kernel
theorem dX9_isDirty_7 : decode cX9_isDirty 7 = .ok (.if_icmp .lt 14, 3) := by decide +kernel
theorem dX9_isDirty_10 : decode cX9_isDirty 10 = .ok (.new 170, 3) := by decide +kernel
theorem dX9_isDirty_13 : decode cX9_isDirty 13 = .ok (.dup, 1) := by decide +kernel
theorem dX9_isDirty_14 : decode cX9_isDirty 14 = .ok (.ldc_w 318, 3) := by decide +kernel
theorem dX9_isDirty_17 : decode cX9_isDirty 17 = .ok (.invokespecial 174, 3) := by decide +kernel
theorem dX9_isDirty_20 : decode cX9_isDirty 20 = .ok (.athrow, 1) := by decide +kernel
theorem dX9_isDirty_21 : decode cX9_isDirty 21 = .ok (.aload_n 0, 1) := by decide +kernel
theorem dX9_isDirty_22 : decode cX9_isDirty 22 = .ok (.getfield 26, 3) := by decide +kernel
theorem dX9_isDirty_25 : decode cX9_isDirty 25 = .ok (.iload_n 1, 1) := by decide +kernel
theorem dX9_isDirty_26 : decode cX9_isDirty 26 = .ok (.invokevirtual 320, 3) := by decide +kernel
theorem dX9_isDirty_29 : decode cX9_isDirty 29 = .ok (.ireturn, 1) := by decide +kernel
set_option maxRecDepth 20000 in
theorem ggX9_queue_X5_item : GoodIn wsX9_queue wsX5_item := goodIn_r _ [10, 11, 12, 40, 41] (by decide +kernel) (by decide +kernel)
set_option maxRecDepth 20000 in
theorem gX9_queue_X5_item : GoodIn wsX9_queue (wsV RX9 324 RX5 yX5_item wsX5_item) := goodIn_app (goodIn_of _ (by decide +kernel)) ggX9_queue_X5_item
theorem dX9_queue_0 : decode cX9_queue 0 = .ok (.aload_n 0, 1) := by decide +kernel
theorem dX9_queue_1 : decode cX9_queue 1 = .ok (.getfield 19, 3) := by decide +kernel
theorem dX9_queue_4 : decode cX9_queue 4 = .ok (.getfield 211, 3) := by decide +kernel
theorem dX9_queue_7 : decode cX9_queue 7 = .ok (.iload_n 1, 1) := by decide +kernel
theorem dX9_queue_8 : decode cX9_queue 8 = .ok (.invokevirtual 324, 3) := by decide +kernel
theorem dX9_queue_11 : decode cX9_queue 11 = .ok (.astore_n 2, 1) := by decide +kernel
theorem dX9_queue_12 : decode cX9_queue 12 = .ok (.aload_n 2, 1) := by decide +kernel
theorem dX9_queue_13 : decode cX9_queue 13 = .ok (.ifnonnull 14, 3) := by decide +kernel
theorem dX9_queue_16 : decode cX9_queue 16 = .ok (.new 170, 3) := by decide +kernel
theorem dX9_queue_19 : decode cX9_queue 19 = .ok (.dup, 1) := by decide +kernel
theorem dX9_queue_20 : decode cX9_queue 20 = .ok (.ldc_w 327, 3) := by decide +kernel
theorem dX9_queue_23 : decode cX9_queue 23 = .ok (.invokespecial 174, 3) := by decide +kernel
theorem dX9_queue_26 : decode cX9_queue 26 = .ok (.athrow, 1) := by decide +kernel
theorem dX9_queue_27 : decode cX9_queue 27 = .ok (.aload_n 2, 1) := by decide +kernel
theorem dX9_queue_28 : decode cX9_queue 28 = .ok (.getfield 138, 3) := by decide +kernel
theorem dX9_queue_31 : decode cX9_queue 31 = .ok (.ireturn, 1) := by decide +kernel
set_option maxRecDepth 20000 in
theorem ggX9_meanSize_X3_things : GoodIn wsX9_meanSize wsX3_things := goodIn_r _ [6, 7, 8, 9, 10, 11, 12, 13, 14, 15, 35, 36, 37, 38, 39, 40, 41, 42, 43, 44] (by decide +kernel) (by decide +kernel)
set_option maxRecDepth 20000 in
theorem gX9_meanSize_X3_things : GoodIn wsX9_meanSize (wsV RX9 277 RX3 yX3_things wsX3_things) := goodIn_app (goodIn_of _ (by decide +kernel)) ggX9_meanSize_X3_things
set_option maxRecDepth 20000 in
theorem ggX9_meanSize_X3_words : GoodIn wsX9_meanSize wsX3_words := goodIn_r _ [19, 7, 8, 9, 20, 21, 22, 13, 23, 15, 24, 25, 35, 36, 37, 38, 39, 40, 41, 42, 43, 44, 45, 46, 47, 48, 49, 50, 51, 52, 53, 54, 55, 56, 57, 58] (by decide +kernel) (by decide +kernel)
set_option maxRecDepth 20000 in
theorem gX9_meanSize_X3_words : GoodIn wsX9_meanSize (wsV RX9 329 RX3 yX3_words wsX3_words) := goodIn_app (goodIn_of _ (by decide +kernel)) ggX9_meanSize_X3_words
theorem dX9_meanSize_0 : decode cX9_meanSize 0 = .ok (.aload_n 0, 1) := by decide +kernel
theorem dX9_meanSize_1 : decode cX9_meanSize 1 = .ok (.getfield 26, 3) := by decide +kernel
theorem dX9_meanSize_4 : decode cX9_meanSize 4 = .ok (.invokevirtual 277, 3) := by decide +kernel
theorem dX9_meanSize_7 : decode cX9_meanSize 7 = .ok (.istore_n 1, 1) := by decide +kernel
theorem dX9_meanSize_8 : decode cX9_meanSize 8 = .ok (.iload_n 1, 1) := by decide +kernel
theorem dX9_meanSize_9 : decode cX9_meanSize 9 = .ok (.ifCond .ne 7, 3) := by decide +kernel
theorem dX9_meanSize_12 : decode cX9_meanSize 12 = .ok (.dconst 0, 1) := by decide +kernel
theorem dX9_meanSize_13 : decode cX9_meanSize 13 = .ok (.goto 14, 3) := by decide +kernel
theorem dX9_meanSize_16 : decode cX9_meanSize 16 = .ok (.aload_n 0, 1) := by decide +kernel
theorem dX9_meanSize_17 : decode cX9_meanSize 17 = .ok (.getfield 26, 3) := by decide +kernel
theorem dX9_meanSize_20 : decode cX9_meanSize 20 = .ok (.invokevirtual 329, 3) := by decide +kernel
theorem dX9_meanSize_23 : decode cX9_meanSize 23 = .ok (.i2d, 1) := by decide +kernel
theorem dX9_meanSize_24 : decode cX9_meanSize 24 = .ok (.iload_n 1, 1) := by decide +kernel
theorem dX9_meanSize_25 : decode cX9_meanSize 25 = .ok (.i2d, 1) := by decide +kernel
theorem dX9_meanSize_26 : decode cX9_meanSize 26 = .ok (.ddiv, 1) := by decide +kernel
theorem dX9_meanSize_27 : decode cX9_meanSize 27 = .ok (.dreturn, 1) := by decide +kernel
set_option maxRecDepth 20000 in
theorem ggX9_isReachable_X9_madeAs : GoodIn wsX9_isReachable wsX9_madeAs := goodIn_ca (goodIn_r _ [7, 8, 9, 10, 11, 12, 13, 14, 15, 16, 17, 101, 102, 103, 104, 105, 106, 107, 108, 109, 124, 125] (by decide +kernel) (by decide +kernel)) (goodIn_sub (fun _ h => List.mem_cons_of_mem _ (List.mem_append_right _ h)) (by decide +kernel))
set_option maxRecDepth 20000 in
theorem gX9_isReachable_X9_madeAs : GoodIn wsX9_isReachable (wsV RX9 260 RX9 yX9_madeAs wsX9_madeAs) := goodIn_app (goodIn_of _ (by decide +kernel)) ggX9_isReachable_X9_madeAs
set_option maxRecDepth 20000 in
theorem ggX9_isReachable_X8_begin : GoodIn wsX9_isReachable wsX8_begin := goodIn_r _ [22, 23, 24, 25, 26, 27, 28, 29, 30, 31, 32, 14, 33, 16, 34, 35, 36, 37, 38, 12, 13, 15, 17, 126, 127, 128, 129, 130, 131, 110, 111, 112, 113, 114, 115, 116, 117, 118, 119, 120, 121, 122, 123, 124, 125] (by decide +kernel) (by decide +kernel)
set_option maxRecDepth 20000 in
theorem gX9_isReachable_X8_begin : GoodIn wsX9_isReachable (wsV RX9 330 RX8 yX8_begin wsX8_begin) := goodIn_app (goodIn_of _ (by decide +kernel)) ggX9_isReachable_X8_begin
set_option maxRecDepth 20000 in
theorem ggX9_isReachable_X8_markRoots : GoodIn wsX9_isReachable wsX8_markRoots := goodIn_r _ [42, 43, 27, 44, 45, 46, 47, 48, 49, 50, 51, 52, 35, 36, 14, 37, 16, 53, 54, 55, 56, 57, 58, 59, 60, 61, 62, 63, 12, 13, 15, 17, 64, 65, 66, 21, 67, 28, 25, 68, 69, 70, 71, 34, 38, 126, 127, 128, 129, 130, 131, 110, 111, 112, 113, 114, 115, 116, 117, 118, 119, 120, 121, 122, 123, 132, 133, 134, 135, 124, 125] (by decide +kernel) (by decide +kernel)
set_option maxRecDepth 20000 in
theorem gX9_isReachable_X8_markRoots : GoodIn wsX9_isReachable (wsV RX9 333 RX8 yX8_markRoots wsX8_markRoots) := goodIn_app (goodIn_of _ (by decide +kernel)) ggX9_isReachable_X8_markRoots
set_option maxRecDepth 20000 in
theorem ggX9_isReachable_X8_spread : GoodIn wsX9_isReachable wsX8_spread := goodIn_r _ [75, 26, 25, 34, 35, 36, 14, 37, 16, 38, 12, 13, 15, 17, 76, 77, 78, 21, 79, 24, 80, 81, 82, 83, 84, 85, 23, 86, 6, 87, 64, 65, 66, 67, 28, 68, 69, 70, 71, 88, 89, 90, 91, 29, 92, 93, 94, 95, 96, 97, 98, 99, 100, 126, 127, 128, 129, 130, 131, 124, 125, 110, 111, 112, 113, 114, 115, 116, 117, 118, 119, 120, 121, 122, 123] (by decide +kernel) (by decide +kernel)
set_option maxRecDepth 20000 in
theorem gX9_isReachable_X8_spread : GoodIn wsX9_isReachable (wsV RX9 336 RX8 yX8_spread wsX8_spread) := goodIn_app (goodIn_of _ (by decide +kernel)) ggX9_isReachable_X8_spread
theorem dX9_isReachable_0 : decode cX9_isReachable 0 = .ok (.aload_n 0, 1) := by decide +kernel
theorem dX9_isReachable_1 : decode cX9_isReachable 1 = .ok (.iload_n 1, 1) := by decide +kernel
theorem dX9_isReachable_2 : decode cX9_isReachable 2 = .ok (.invokevirtual 260, 3) := by decide +kernel
theorem dX9_isReachable_5 : decode cX9_isReachable 5 = .ok (.astore_n 2, 1) := by decide +kernel
theorem dX9_isReachable_6 : decode cX9_isReachable 6 = .ok (.aload_n 0, 1) := by decide +kernel
theorem dX9_isReachable_7 : decode cX9_isReachable 7 = .ok (.getfield 49, 3) := by decide +kernel
theorem dX9_isReachable_10 : decode cX9_isReachable 10 = .ok (.iconst 1, 1) := by decide +kernel
theorem dX9_isReachable_11 : decode cX9_isReachable 11 = .ok (.aconst_null, 1) := by decide +kernel
theorem dX9_isReachable_12 : decode cX9_isReachable 12 = .ok (.invokevirtual 330, 3) := by decide +kernel
theorem dX9_isReachable_15 : decode cX9_isReachable 15 = .ok (.aload_n 0, 1) := by decide +kernel
theorem dX9_isReachable_16 : decode cX9_isReachable 16 = .ok (.getfield 49, 3) := by decide +kernel
theorem dX9_isReachable_19 : decode cX9_isReachable 19 = .ok (.invokevirtual 333, 3) := by decide +kernel
theorem dX9_isReachable_22 : decode cX9_isReachable 22 = .ok (.aload_n 0, 1) := by decide +kernel
theorem dX9_isReachable_23 : decode cX9_isReachable 23 = .ok (.getfield 49, 3) := by decide +kernel
theorem dX9_isReachable_26 : decode cX9_isReachable 26 = .ok (.invokevirtual 336, 3) := by decide +kernel
theorem dX9_isReachable_29 : decode cX9_isReachable 29 = .ok (.aload_n 2, 1) := by decide +kernel
theorem dX9_isReachable_30 : decode cX9_isReachable 30 = .ok (.getfield 339, 3) := by decide +kernel
theorem dX9_isReachable_33 : decode cX9_isReachable 33 = .ok (.ireturn, 1) := by decide +kernel
set_option maxRecDepth 20000 in
theorem ggX9_wouldFree_X8_wordsFreed : GoodIn wsX9_wouldFree wsX8_wordsFreed := goodIn_r _ [6, 7, 8, 9, 10, 11, 12, 13, 14, 5, 15, 16, 17, 18, 19, 20, 21, 22, 23, 24, 25, 26, 27, 28, 29, 30, 31, 32, 33, 34, 35, 36, 37, 38, 39, 40, 41, 42, 43, 44, 45, 46, 47, 48, 49, 50, 51, 52, 53, 54, 55, 56, 57, 58, 59, 60, 61, 62, 63, 64, 65, 66, 67, 68, 69, 70, 71, 72, 73, 74, 75, 76, 77, 78, 79, 80, 81, 82, 83, 84, 85, 86, 87, 88, 89, 90, 91, 92, 93, 94, 95, 96, 97, 98, 99, 100, 101, 111, 112, 113, 114, 115, 116, 117, 118, 119, 120, 121, 122, 123, 124, 125, 126, 127, 128, 129, 130, 131, 132, 133, 134, 135, 136] (by decide +kernel) (by decide +kernel)
set_option maxRecDepth 20000 in
theorem gX9_wouldFree_X8_wordsFreed : GoodIn wsX9_wouldFree (wsV RX9 342 RX8 yX8_wordsFreed wsX8_wordsFreed) := goodIn_app (goodIn_of _ (by decide +kernel)) ggX9_wouldFree_X8_wordsFreed
theorem dX9_wouldFree_0 : decode cX9_wouldFree 0 = .ok (.aload_n 0, 1) := by decide +kernel
theorem dX9_wouldFree_1 : decode cX9_wouldFree 1 = .ok (.getfield 49, 3) := by decide +kernel
theorem dX9_wouldFree_4 : decode cX9_wouldFree 4 = .ok (.iload_n 1, 1) := by decide +kernel
theorem dX9_wouldFree_5 : decode cX9_wouldFree 5 = .ok (.aconst_null, 1) := by decide +kernel
theorem dX9_wouldFree_6 : decode cX9_wouldFree 6 = .ok (.invokevirtual 342, 3) := by decide +kernel
theorem dX9_wouldFree_9 : decode cX9_wouldFree 9 = .ok (.ireturn, 1) := by decide +kernel
set_option maxRecDepth 20000 in
theorem ggX9_held_X9_madeAs : GoodIn wsX9_held wsX9_madeAs := goodIn_ca (goodIn_r _ [7, 8, 9, 10, 11, 12, 13, 14, 15, 16, 17, 129, 130, 131, 132, 133, 134, 135, 136, 137, 138, 139] (by decide +kernel) (by decide +kernel)) (goodIn_sub (fun _ h => List.mem_cons_of_mem _ (List.mem_append_right _ h)) (by decide +kernel))
set_option maxRecDepth 20000 in
theorem gX9_held_X9_madeAs : GoodIn wsX9_held (wsV RX9 260 RX9 yX9_madeAs wsX9_madeAs) := goodIn_app (goodIn_of _ (by decide +kernel)) ggX9_held_X9_madeAs
set_option maxRecDepth 20000 in
theorem ggX9_held_X8_wordsFreed : GoodIn wsX9_held wsX8_wordsFreed := goodIn_r _ [22, 23, 24, 25, 26, 27, 28, 29, 30, 21, 31, 32, 33, 34, 35, 36, 37, 38, 39, 14, 40, 16, 41, 42, 43, 44, 45, 12, 13, 15, 17, 46, 47, 48, 49, 50, 51, 52, 53, 54, 55, 56, 57, 58, 59, 60, 61, 62, 63, 64, 65, 66, 67, 68, 69, 70, 71, 72, 73, 74, 75, 76, 77, 78, 79, 80, 81, 82, 83, 84, 85, 86, 87, 88, 89, 90, 91, 92, 6, 93, 94, 95, 96, 97, 98, 99, 100, 101, 102, 103, 104, 105, 106, 107, 108, 109, 110, 140, 141, 142, 143, 144, 145, 115, 116, 117, 118, 119, 120, 121, 122, 123, 124, 125, 126, 127, 128, 138, 139, 146, 147, 148, 149] (by decide +kernel) (by decide +kernel)
set_option maxRecDepth 20000 in
theorem gX9_held_X8_wordsFreed : GoodIn wsX9_held (wsV RX9 342 RX8 yX8_wordsFreed wsX8_wordsFreed) := goodIn_app (goodIn_of _ (by decide +kernel)) ggX9_held_X8_wordsFreed
set_option maxRecDepth 20000 in
theorem ggX9_held_X9_wouldFree : GoodIn wsX9_held wsX9_wouldFree := goodIn_r _ [114, 2, 18, 19, 20, 21, 22, 23, 24, 25, 26, 27, 28, 29, 30, 31, 32, 33, 34, 35, 36, 37, 38, 39, 14, 40, 16, 41, 42, 43, 44, 45, 12, 13, 15, 17, 46, 47, 48, 49, 50, 51, 52, 53, 54, 55, 56, 57, 58, 59, 60, 61, 62, 63, 64, 65, 66, 67, 68, 69, 70, 71, 72, 73, 74, 75, 76, 77, 78, 79, 80, 81, 82, 83, 84, 85, 86, 87, 88, 89, 90, 91, 92, 6, 93, 94, 95, 96, 97, 98, 99, 100, 101, 102, 103, 104, 105, 106, 107, 108, 109, 110, 129, 130, 131, 132, 133, 134, 135, 136, 137, 140, 141, 142, 143, 144, 145, 115, 116, 117, 118, 119, 120, 121, 122, 123, 124, 125, 126, 127, 128, 138, 139, 146, 147, 148, 149] (by decide +kernel) (by decide +kernel)
set_option maxRecDepth 20000 in
theorem gX9_held_X9_wouldFree : GoodIn wsX9_held (wsV RX9 346 RX9 yX9_wouldFree wsX9_wouldFree) := goodIn_app (goodIn_of _ (by decide +kernel)) ggX9_held_X9_wouldFree
theorem dX9_held_0 : decode cX9_held 0 = .ok (.aload_n 0, 1) := by decide +kernel
theorem dX9_held_1 : decode cX9_held 1 = .ok (.iload_n 1, 1) := by decide +kernel
theorem dX9_held_2 : decode cX9_held 2 = .ok (.invokevirtual 260, 3) := by decide +kernel
theorem dX9_held_5 : decode cX9_held 5 = .ok (.astore_n 2, 1) := by decide +kernel
theorem dX9_held_6 : decode cX9_held 6 = .ok (.aload_n 2, 1) := by decide +kernel
theorem dX9_held_7 : decode cX9_held 7 = .ok (.getfield 199, 3) := by decide +kernel
theorem dX9_held_10 : decode cX9_held 10 = .ok (.ifCond .ne 7, 3) := by decide +kernel
theorem dX9_held_13 : decode cX9_held 13 = .ok (.iconst 0, 1) := by decide +kernel
theorem dX9_held_14 : decode cX9_held 14 = .ok (.goto 18, 3) := by decide +kernel
theorem dX9_held_17 : decode cX9_held 17 = .ok (.aload_n 0, 1) := by decide +kernel
theorem dX9_held_18 : decode cX9_held 18 = .ok (.getfield 49, 3) := by decide +kernel
theorem dX9_held_21 : decode cX9_held 21 = .ok (.iconst 1, 1) := by decide +kernel
theorem dX9_held_22 : decode cX9_held 22 = .ok (.aload_n 2, 1) := by decide +kernel
theorem dX9_held_23 : decode cX9_held 23 = .ok (.invokevirtual 342, 3) := by decide +kernel
theorem dX9_held_26 : decode cX9_held 26 = .ok (.aload_n 0, 1) := by decide +kernel
theorem dX9_held_27 : decode cX9_held 27 = .ok (.iconst 1, 1) := by decide +kernel
theorem dX9_held_28 : decode cX9_held 28 = .ok (.invokevirtual 346, 3) := by decide +kernel
theorem dX9_held_31 : decode cX9_held 31 = .ok (.isub, 1) := by decide +kernel
theorem dX9_held_32 : decode cX9_held 32 = .ok (.ireturn, 1) := by decide +kernel
set_option maxRecDepth 20000 in
theorem ggX9_addressFor_X3_gapFor : GoodIn wsX9_addressFor wsX3_gapFor := goodIn_r _ [8, 9, 10, 11, 12, 13, 7, 14, 15, 16, 17, 18, 19, 20, 21, 22, 23, 24, 25, 26, 27, 28, 29, 30, 31, 32, 33, 34, 44, 45, 46, 47, 48, 49, 50, 51, 52, 53, 54, 55, 56, 57, 58, 59, 60, 61, 62, 63, 64, 65, 66, 67] (by decide +kernel) (by decide +kernel)
set_option maxRecDepth 20000 in
theorem gX9_addressFor_X3_gapFor : GoodIn wsX9_addressFor (wsV RX9 108 RX3 yX3_gapFor wsX3_gapFor) := goodIn_app (goodIn_of _ (by decide +kernel)) ggX9_addressFor_X3_gapFor
theorem dX9_addressFor_0 : decode cX9_addressFor 0 = .ok (.iload_n 1, 1) := by decide +kernel
theorem dX9_addressFor_1 : decode cX9_addressFor 1 = .ok (.ifCond .lt 9, 3) := by decide +kernel
theorem dX9_addressFor_4 : decode cX9_addressFor 4 = .ok (.iload_n 1, 1) := by decide +kernel
theorem dX9_addressFor_5 : decode cX9_addressFor 5 = .ok (.bipush 20, 2) := by decide +kernel
theorem dX9_addressFor_7 : decode cX9_addressFor 7 = .ok (.if_icmp .le 14, 3) := by decide +kernel
theorem dX9_addressFor_10 : decode cX9_addressFor 10 = .ok (.new 98, 3) := by decide +kernel
theorem dX9_addressFor_13 : decode cX9_addressFor 13 = .ok (.dup, 1) := by decide +kernel
theorem dX9_addressFor_14 : decode cX9_addressFor 14 = .ok (.ldc_w 349, 3) := by decide +kernel
theorem dX9_addressFor_17 : decode cX9_addressFor 17 = .ok (.invokespecial 102, 3) := by decide +kernel
theorem dX9_addressFor_20 : decode cX9_addressFor 20 = .ok (.athrow, 1) := by decide +kernel
theorem dX9_addressFor_21 : decode cX9_addressFor 21 = .ok (.aload_n 0, 1) := by decide +kernel
theorem dX9_addressFor_22 : decode cX9_addressFor 22 = .ok (.getfield 26, 3) := by decide +kernel
theorem dX9_addressFor_25 : decode cX9_addressFor 25 = .ok (.iload_n 1, 1) := by decide +kernel
theorem dX9_addressFor_26 : decode cX9_addressFor 26 = .ok (.invokevirtual 108, 3) := by decide +kernel
theorem dX9_addressFor_29 : decode cX9_addressFor 29 = .ok (.ireturn, 1) := by decide +kernel
set_option maxRecDepth 20000 in
theorem ggX9_digest_X9_many : GoodIn wsX9_digest wsX9_many := goodIn_ca (goodIn_r _ [11, 12, 13, 5, 14, 3, 15, 16, 17, 18, 19, 4, 20, 21, 22, 23, 24, 25, 26, 27, 28, 29, 30, 31, 32, 33, 34, 35, 36, 37, 38, 39, 40, 41, 42, 43, 44, 45, 46, 47, 48, 49, 50, 51, 52, 53, 54, 55, 56, 57, 58, 59, 60, 61, 62, 63, 64, 65, 66, 67, 68, 69, 70, 71, 72, 73, 74, 75, 76, 77, 78, 79, 80, 81, 82, 83, 249, 250, 251, 252, 253, 254, 255, 256, 257, 276, 277, 278, 279, 280, 281, 282, 283, 258, 259, 260, 261, 284, 285, 286, 287, 288, 289, 262, 263, 264, 265, 266, 267, 268, 269, 270, 271, 272, 273, 274, 275, 290, 291, 292] (by decide +kernel) (by decide +kernel)) (goodIn_sub (fun _ h => List.mem_cons_of_mem _ (List.mem_append_left _ (List.mem_append_right _ h))) (by decide +kernel))
set_option maxRecDepth 20000 in
theorem gX9_digest_X9_many : GoodIn wsX9_digest (wsV RX9 355 RX9 yX9_many wsX9_many) := goodIn_app (goodIn_of _ (by decide +kernel)) ggX9_digest_X9_many
set_option maxRecDepth 20000 in
theorem ggX9_digest_X5_size : GoodIn wsX9_digest wsX5_size := goodIn_r _ [30, 31, 288, 289] (by decide +kernel) (by decide +kernel)
set_option maxRecDepth 20000 in
theorem gX9_digest_X5_size : GoodIn wsX9_digest (wsV RX9 103 RX5 yX5_size wsX5_size) := goodIn_app (goodIn_of _ (by decide +kernel)) ggX9_digest_X5_size
set_option maxRecDepth 20000 in
theorem ggX9_digest_X9_queue : GoodIn wsX9_digest wsX9_queue := goodIn_ca (goodIn_r _ [87, 88, 89, 3, 4, 90, 91, 59, 60, 29, 61, 31, 51, 249, 250, 251, 252, 253, 254, 255, 256, 257, 258, 259, 260, 261, 262, 263, 264, 265, 266, 267, 268, 269, 270, 271, 272, 273, 274, 275, 288, 289] (by decide +kernel) (by decide +kernel)) (goodIn_sub (fun _ h => List.mem_cons_of_mem _ (List.mem_append_right _ h)) (by decide +kernel))
set_option maxRecDepth 20000 in
theorem gX9_digest_X9_queue : GoodIn wsX9_digest (wsV RX9 358 RX9 yX9_queue wsX9_queue) := goodIn_app (goodIn_of _ (by decide +kernel)) ggX9_digest_X9_queue
set_option maxRecDepth 20000 in
theorem ggX9_digest_X9_at : GoodIn wsX9_digest wsX9_at := goodIn_ca (goodIn_r _ [95, 3, 96, 97, 10, 98, 88, 89, 99, 100, 101, 44, 102, 103, 104, 105, 106, 107, 46, 108, 109, 110, 90, 249, 250, 251, 252, 253, 254, 255, 256, 257, 258, 259, 260, 261, 262, 263, 264, 265, 266, 267, 268, 269, 270, 271, 272, 273, 274, 275] (by decide +kernel) (by decide +kernel)) (goodIn_sub (fun _ h => List.mem_cons_of_mem _ (List.mem_append_right _ h)) (by decide +kernel))
set_option maxRecDepth 20000 in
theorem gX9_digest_X9_at : GoodIn wsX9_digest (wsV RX9 360 RX9 yX9_at wsX9_at) := goodIn_app (goodIn_of _ (by decide +kernel)) ggX9_digest_X9_at
set_option maxRecDepth 20000 in
theorem ggX9_digest_X9_wouldFree : GoodIn wsX9_digest wsX9_wouldFree := goodIn_r _ [114, 115, 116, 117, 118, 119, 120, 121, 122, 123, 124, 125, 126, 127, 128, 129, 130, 131, 132, 133, 134, 135, 136, 137, 29, 138, 31, 139, 27, 28, 30, 140, 59, 60, 61, 51, 141, 142, 143, 144, 145, 146, 147, 148, 149, 44, 150, 46, 151, 152, 153, 154, 155, 156, 103, 157, 158, 159, 160, 161, 162, 163, 164, 165, 166, 167, 168, 169, 170, 171, 172, 173, 174, 175, 176, 177, 178, 179, 180, 181, 182, 183, 184, 10, 185, 186, 187, 188, 189, 190, 191, 192, 193, 194, 195, 65, 196, 197, 198, 199, 200, 201, 249, 250, 251, 252, 253, 254, 255, 256, 257, 293, 294, 295, 296, 297, 298, 262, 263, 264, 265, 266, 267, 268, 269, 270, 271, 272, 273, 274, 275, 288, 289, 258, 259, 260, 261] (by decide +kernel) (by decide +kernel)
set_option maxRecDepth 20000 in
theorem gX9_digest_X9_wouldFree : GoodIn wsX9_digest (wsV RX9 346 RX9 yX9_wouldFree wsX9_wouldFree) := goodIn_app (goodIn_of _ (by decide +kernel)) ggX9_digest_X9_wouldFree
set_option maxRecDepth 20000 in
theorem ggX9_digest_X5_item : GoodIn wsX9_digest wsX5_item := goodIn_r _ [61, 31, 51, 288, 289] (by decide +kernel) (by decide +kernel)
set_option maxRecDepth 20000 in
theorem gX9_digest_X5_item : GoodIn wsX9_digest (wsV RX9 324 RX5 yX5_item wsX5_item) := goodIn_app (goodIn_of _ (by decide +kernel)) ggX9_digest_X5_item
set_option maxRecDepth 20000 in
theorem ggX9_digest_X9_digestOf : GoodIn wsX9_digest wsX9_digestOf := goodIn_ca (goodIn_ca (goodIn_r _ [205, 2, 90, 206, 115, 207, 208, 209, 10, 210, 12, 13, 6, 211, 212, 213, 214, 215, 25, 216, 217, 218, 219, 220, 221, 88, 89, 5, 91, 59, 60, 29, 61, 31, 51, 222, 223, 224, 77, 225, 79, 226, 194, 195, 65, 196, 197, 108, 109, 110, 227, 228, 229, 230, 231, 232, 127, 128, 119, 129, 130, 131, 132, 133, 121, 124, 134, 135, 136, 137, 138, 139, 27, 28, 30, 140, 233, 142, 143, 144, 145, 146, 147, 148, 149, 44, 150, 46, 151, 152, 153, 154, 155, 156, 103, 157, 158, 159, 160, 161, 162, 163, 164, 165, 166, 167, 168, 169, 170, 234, 172, 173, 174, 175, 176, 177, 178, 123, 179, 180, 181, 182, 183, 184, 185, 186, 187, 188, 189, 190, 191, 192, 193, 116, 117, 118, 120, 122, 125, 126, 141, 171, 198, 199, 200, 201, 262, 263, 264, 265, 266, 267, 268, 269, 270, 271, 272, 273, 274, 275, 249, 250, 251, 252, 253, 254, 255, 256, 257, 288, 289, 290, 291, 292, 293, 294, 295, 296, 297, 298, 258, 259, 260, 261] (by decide +kernel) (by decide +kernel)) (goodIn_sub (fun _ h => List.mem_cons_of_mem _ (List.mem_append_left _ (List.mem_append_right _ h))) (by decide +kernel))) (goodIn_sub (fun _ h => List.mem_cons_of_mem _ (List.mem_append_right _ h)) (by decide +kernel))
set_option maxRecDepth 20000 in
theorem gX9_digest_X9_digestOf : GoodIn wsX9_digest (wsV RX9 363 RX9 yX9_digestOf wsX9_digestOf) := goodIn_app (goodIn_of _ (by decide +kernel)) ggX9_digest_X9_digestOf
set_option maxRecDepth 20000 in
theorem ggX9_digest_X9_addressFor : GoodIn wsX9_digest wsX9_addressFor := goodIn_ca (goodIn_r _ [238, 12, 13, 14, 239, 240, 241, 35, 242, 243, 244, 245, 246, 247, 248, 39, 57, 40, 27, 28, 29, 30, 31, 58, 59, 60, 61, 51, 62, 63, 64, 65, 66, 67, 68, 249, 250, 251, 252, 253, 254, 255, 256, 257, 276, 277, 278, 279, 280, 281, 282, 283, 262, 263, 264, 265, 266, 267, 268, 269, 270, 271, 272, 273, 274, 275, 288, 289] (by decide +kernel) (by decide +kernel)) (goodIn_sub (fun _ h => List.mem_cons_of_mem _ (List.mem_append_left _ (List.mem_append_right _ h))) (by decide +kernel))
set_option maxRecDepth 20000 in
theorem gX9_digest_X9_addressFor : GoodIn wsX9_digest (wsV RX9 367 RX9 yX9_addressFor wsX9_addressFor) := goodIn_app (goodIn_of _ (by decide +kernel)) ggX9_digest_X9_addressFor
theorem dX9_digest_0 : decode cX9_digest 0 = .ok (.ldc2_w 351, 3) := by decide +kernel
theorem dX9_digest_3 : decode cX9_digest 3 = .ok (.lstore_n 1, 1) := by decide +kernel
theorem dX9_digest_4 : decode cX9_digest 4 = .ok (.iconst 0, 1) := by decide +kernel
theorem dX9_digest_5 : decode cX9_digest 5 = .ok (.istore_n 3, 1) := by decide +kernel
theorem dX9_digest_6 : decode cX9_digest 6 = .ok (.iload_n 3, 1) := by decide +kernel
theorem dX9_digest_7 : decode cX9_digest 7 = .ok (.bipush 16, 2) := by decide +kernel
theorem dX9_digest_9 : decode cX9_digest 9 = .ok (.if_icmp .ge 22, 3) := by decide +kernel
theorem dX9_digest_12 : decode cX9_digest 12 = .ok (.lload_n 1, 1) := by decide +kernel
theorem dX9_digest_13 : decode cX9_digest 13 = .ok (.ldc2_w 353, 3) := by decide +kernel
theorem dX9_digest_16 : decode cX9_digest 16 = .ok (.lmul, 1) := by decide +kernel
theorem dX9_digest_17 : decode cX9_digest 17 = .ok (.aload_n 0, 1) := by decide +kernel
theorem dX9_digest_18 : decode cX9_digest 18 = .ok (.iload_n 3, 1) := by decide +kernel
theorem dX9_digest_19 : decode cX9_digest 19 = .ok (.invokevirtual 355, 3) := by decide +kernel
theorem dX9_digest_22 : decode cX9_digest 22 = .ok (.i2l, 1) := by decide +kernel
theorem dX9_digest_23 : decode cX9_digest 23 = .ok (.ladd, 1) := by decide +kernel
theorem dX9_digest_24 : decode cX9_digest 24 = .ok (.lstore_n 1, 1) := by decide +kernel
theorem dX9_digest_25 : decode cX9_digest 25 = .ok (.iinc 3 1, 3) := by decide +kernel
theorem dX9_digest_28 : decode cX9_digest 28 = .ok (.goto (-22), 3) := by decide +kernel
theorem dX9_digest_31 : decode cX9_digest 31 = .ok (.iconst 0, 1) := by decide +kernel
theorem dX9_digest_32 : decode cX9_digest 32 = .ok (.istore_n 3, 1) := by decide +kernel
theorem dX9_digest_33 : decode cX9_digest 33 = .ok (.iload_n 3, 1) := by decide +kernel
theorem dX9_digest_34 : decode cX9_digest 34 = .ok (.aload_n 0, 1) := by decide +kernel
theorem dX9_digest_35 : decode cX9_digest 35 = .ok (.getfield 19, 3) := by decide +kernel
theorem dX9_digest_38 : decode cX9_digest 38 = .ok (.getfield 211, 3) := by decide +kernel
theorem dX9_digest_41 : decode cX9_digest 41 = .ok (.invokevirtual 103, 3) := by decide +kernel
theorem dX9_digest_44 : decode cX9_digest 44 = .ok (.if_icmp .ge 22, 3) := by decide +kernel
theorem dX9_digest_47 : decode cX9_digest 47 = .ok (.lload_n 1, 1) := by decide +kernel
theorem dX9_digest_48 : decode cX9_digest 48 = .ok (.ldc2_w 353, 3) := by decide +kernel
theorem dX9_digest_51 : decode cX9_digest 51 = .ok (.lmul, 1) := by decide +kernel
theorem dX9_digest_52 : decode cX9_digest 52 = .ok (.aload_n 0, 1) := by decide +kernel
theorem dX9_digest_53 : decode cX9_digest 53 = .ok (.iload_n 3, 1) := by decide +kernel
theorem dX9_digest_54 : decode cX9_digest 54 = .ok (.invokevirtual 358, 3) := by decide +kernel
theorem dX9_digest_57 : decode cX9_digest 57 = .ok (.i2l, 1) := by decide +kernel
theorem dX9_digest_58 : decode cX9_digest 58 = .ok (.ladd, 1) := by decide +kernel
theorem dX9_digest_59 : decode cX9_digest 59 = .ok (.lstore_n 1, 1) := by decide +kernel
theorem dX9_digest_60 : decode cX9_digest 60 = .ok (.iinc 3 1, 3) := by decide +kernel
theorem dX9_digest_63 : decode cX9_digest 63 = .ok (.goto (-30), 3) := by decide +kernel
theorem dX9_digest_66 : decode cX9_digest 66 = .ok (.iconst 0, 1) := by decide +kernel
theorem dX9_digest_67 : decode cX9_digest 67 = .ok (.istore_n 3, 1) := by decide +kernel
theorem dX9_digest_68 : decode cX9_digest 68 = .ok (.iload_n 3, 1) := by decide +kernel
theorem dX9_digest_69 : decode cX9_digest 69 = .ok (.iconst 4, 1) := by decide +kernel
theorem dX9_digest_70 : decode cX9_digest 70 = .ok (.if_icmp .ge 22, 3) := by decide +kernel
theorem dX9_digest_73 : decode cX9_digest 73 = .ok (.lload_n 1, 1) := by decide +kernel
theorem dX9_digest_74 : decode cX9_digest 74 = .ok (.ldc2_w 353, 3) := by decide +kernel
theorem dX9_digest_77 : decode cX9_digest 77 = .ok (.lmul, 1) := by decide +kernel
theorem dX9_digest_78 : decode cX9_digest 78 = .ok (.aload_n 0, 1) := by decide +kernel
theorem dX9_digest_79 : decode cX9_digest 79 = .ok (.iload_n 3, 1) := by decide +kernel
theorem dX9_digest_80 : decode cX9_digest 80 = .ok (.invokevirtual 360, 3) := by decide +kernel
theorem dX9_digest_83 : decode cX9_digest 83 = .ok (.i2l, 1) := by decide +kernel
theorem dX9_digest_84 : decode cX9_digest 84 = .ok (.ladd, 1) := by decide +kernel
theorem dX9_digest_85 : decode cX9_digest 85 = .ok (.lstore_n 1, 1) := by decide +kernel
theorem dX9_digest_86 : decode cX9_digest 86 = .ok (.iinc 3 1, 3) := by decide +kernel
theorem dX9_digest_89 : decode cX9_digest 89 = .ok (.goto (-21), 3) := by decide +kernel
theorem dX9_digest_92 : decode cX9_digest 92 = .ok (.aload_n 0, 1) := by decide +kernel
theorem dX9_digest_93 : decode cX9_digest 93 = .ok (.iconst 1, 1) := by decide +kernel
theorem dX9_digest_94 : decode cX9_digest 94 = .ok (.invokevirtual 346, 3) := by decide +kernel
theorem dX9_digest_97 : decode cX9_digest 97 = .ok (.istore_n 3, 1) := by decide +kernel
theorem dX9_digest_98 : decode cX9_digest 98 = .ok (.iconst 0, 1) := by decide +kernel
theorem dX9_digest_99 : decode cX9_digest 99 = .ok (.istore 4, 2) := by decide +kernel
theorem dX9_digest_101 : decode cX9_digest 101 = .ok (.iload 4, 2) := by decide +kernel
theorem dX9_digest_103 : decode cX9_digest 103 = .ok (.aload_n 0, 1) := by decide +kernel
theorem dX9_digest_104 : decode cX9_digest 104 = .ok (.getfield 10, 3) := by decide +kernel
theorem dX9_digest_107 : decode cX9_digest 107 = .ok (.invokevirtual 103, 3) := by decide +kernel
theorem dX9_digest_110 : decode cX9_digest 110 = .ok (.if_icmp .ge 42, 3) := by decide +kernel
theorem dX9_digest_113 : decode cX9_digest 113 = .ok (.aload_n 0, 1) := by decide +kernel
theorem dX9_digest_114 : decode cX9_digest 114 = .ok (.getfield 10, 3) := by decide +kernel
theorem dX9_digest_117 : decode cX9_digest 117 = .ok (.iload 4, 2) := by decide +kernel
theorem dX9_digest_119 : decode cX9_digest 119 = .ok (.invokevirtual 324, 3) := by decide +kernel
theorem dX9_digest_122 : decode cX9_digest 122 = .ok (.astore 5, 2) := by decide +kernel
theorem dX9_digest_124 : decode cX9_digest 124 = .ok (.aload 5, 2) := by decide +kernel
theorem dX9_digest_126 : decode cX9_digest 126 = .ok (.ifnull 20, 3) := by decide +kernel
theorem dX9_digest_129 : decode cX9_digest 129 = .ok (.aload 5, 2) := by decide +kernel
theorem dX9_digest_131 : decode cX9_digest 131 = .ok (.getfield 199, 3) := by decide +kernel
theorem dX9_digest_134 : decode cX9_digest 134 = .ok (.ifCond .eq 12, 3) := by decide +kernel
theorem dX9_digest_137 : decode cX9_digest 137 = .ok (.aload_n 0, 1) := by decide +kernel
theorem dX9_digest_138 : decode cX9_digest 138 = .ok (.aload 5, 2) := by decide +kernel
theorem dX9_digest_140 : decode cX9_digest 140 = .ok (.lload_n 1, 1) := by decide +kernel
theorem dX9_digest_141 : decode cX9_digest 141 = .ok (.iload_n 3, 1) := by decide +kernel
theorem dX9_digest_142 : decode cX9_digest 142 = .ok (.invokevirtual 363, 3) := by decide +kernel
theorem dX9_digest_145 : decode cX9_digest 145 = .ok (.lstore_n 1, 1) := by decide +kernel
theorem dX9_digest_146 : decode cX9_digest 146 = .ok (.iinc 4 1, 3) := by decide +kernel
theorem dX9_digest_149 : decode cX9_digest 149 = .ok (.goto (-48), 3) := by decide +kernel
theorem dX9_digest_152 : decode cX9_digest 152 = .ok (.lload_n 1, 1) := by decide +kernel
theorem dX9_digest_153 : decode cX9_digest 153 = .ok (.ldc2_w 353, 3) := by decide +kernel
theorem dX9_digest_156 : decode cX9_digest 156 = .ok (.lmul, 1) := by decide +kernel
theorem dX9_digest_157 : decode cX9_digest 157 = .ok (.iload_n 3, 1) := by decide +kernel
theorem dX9_digest_158 : decode cX9_digest 158 = .ok (.i2l, 1) := by decide +kernel
theorem dX9_digest_159 : decode cX9_digest 159 = .ok (.ladd, 1) := by decide +kernel
theorem dX9_digest_160 : decode cX9_digest 160 = .ok (.lstore_n 1, 1) := by decide +kernel
theorem dX9_digest_161 : decode cX9_digest 161 = .ok (.lload_n 1, 1) := by decide +kernel
theorem dX9_digest_162 : decode cX9_digest 162 = .ok (.ldc2_w 353, 3) := by decide +kernel
theorem dX9_digest_165 : decode cX9_digest 165 = .ok (.lmul, 1) := by decide +kernel
theorem dX9_digest_166 : decode cX9_digest 166 = .ok (.aload_n 0, 1) := by decide +kernel
theorem dX9_digest_167 : decode cX9_digest 167 = .ok (.iconst 0, 1) := by decide +kernel
theorem dX9_digest_168 : decode cX9_digest 168 = .ok (.invokevirtual 346, 3) := by decide +kernel
theorem dX9_digest_171 : decode cX9_digest 171 = .ok (.i2l, 1) := by decide +kernel
theorem dX9_digest_172 : decode cX9_digest 172 = .ok (.ladd, 1) := by decide +kernel
theorem dX9_digest_173 : decode cX9_digest 173 = .ok (.lstore_n 1, 1) := by decide +kernel
theorem dX9_digest_174 : decode cX9_digest 174 = .ok (.lload_n 1, 1) := by decide +kernel
theorem dX9_digest_175 : decode cX9_digest 175 = .ok (.ldc2_w 353, 3) := by decide +kernel
theorem dX9_digest_178 : decode cX9_digest 178 = .ok (.lmul, 1) := by decide +kernel
theorem dX9_digest_179 : decode cX9_digest 179 = .ok (.aload_n 0, 1) := by decide +kernel
theorem dX9_digest_180 : decode cX9_digest 180 = .ok (.iconst 4, 1) := by decide +kernel
theorem dX9_digest_181 : decode cX9_digest 181 = .ok (.invokevirtual 367, 3) := by decide +kernel
theorem dX9_digest_184 : decode cX9_digest 184 = .ok (.i2l, 1) := by decide +kernel
theorem dX9_digest_185 : decode cX9_digest 185 = .ok (.ladd, 1) := by decide +kernel
theorem dX9_digest_186 : decode cX9_digest 186 = .ok (.lreturn, 1) := by decide +kernel
set_option maxRecDepth 20000 in
theorem ggX9_digestOf_X9_ofObject : GoodIn wsX9_digestOf wsX9_ofObject := goodIn_ca (goodIn_ca (goodIn_r _ [9, 10, 11, 12, 13, 14, 15, 16, 17, 18, 19, 20, 21, 22, 23, 8, 24, 25, 26, 27, 28, 29, 30, 31, 32, 33, 34, 35, 36, 37, 38, 39, 40, 146, 147, 148, 149, 150, 151, 152, 153, 154, 155, 156, 157, 158, 159, 160, 161, 162, 163, 164, 165, 166, 167, 168, 169, 170, 171, 172, 173] (by decide +kernel) (by decide +kernel)) (goodIn_sub (fun _ h => List.mem_cons_of_mem _ (List.mem_append_left _ (List.mem_append_right _ h))) (by decide +kernel))) (goodIn_sub (fun _ h => List.mem_cons_of_mem _ (List.mem_append_right _ h)) (by decide +kernel))
set_option maxRecDepth 20000 in
theorem gX9_digestOf_X9_ofObject : GoodIn wsX9_digestOf (wsV RX9 370 RX9 yX9_ofObject wsX9_ofObject) := goodIn_app (goodIn_of _ (by decide +kernel)) ggX9_digestOf_X9_ofObject
set_option maxRecDepth 20000 in
theorem ggX9_digestOf_X7_read : GoodIn wsX9_digestOf wsX7_read := goodIn_r _ [45, 46, 146, 147, 148, 149, 150, 151, 152, 153, 154, 155, 156, 157, 158, 159] (by decide +kernel) (by decide +kernel)
set_option maxRecDepth 20000 in
theorem gX9_digestOf_X7_read : GoodIn wsX9_digestOf (wsV RX9 152 RX7 yX7_read wsX7_read) := goodIn_app (goodIn_of _ (by decide +kernel)) ggX9_digestOf_X7_read
set_option maxRecDepth 20000 in
theorem ggX9_digestOf_X9_numberOf : GoodIn wsX9_digestOf wsX9_numberOf := goodIn_r _ [49, 2, 146, 147, 148, 149, 150, 151, 152, 153, 154, 155, 156, 157, 158, 159] (by decide +kernel) (by decide +kernel)
set_option maxRecDepth 20000 in
theorem gX9_digestOf_X9_numberOf : GoodIn wsX9_digestOf (va_wsS RX9 166 yX9_numberOf wsX9_numberOf) := goodIn_app (goodIn_of _ (by decide +kernel)) ggX9_digestOf_X9_numberOf
set_option maxRecDepth 20000 in
theorem ggX9_digestOf_X9_isReachable : GoodIn wsX9_digestOf wsX9_isReachable := goodIn_ca (goodIn_r _ [53, 4, 54, 21, 22, 23, 8, 24, 25, 26, 27, 28, 29, 30, 31, 32, 33, 34, 55, 56, 57, 58, 59, 60, 61, 62, 63, 64, 65, 66, 67, 68, 69, 70, 71, 72, 73, 74, 75, 76, 77, 78, 79, 80, 81, 82, 83, 84, 85, 86, 87, 88, 89, 90, 91, 92, 93, 94, 95, 96, 97, 98, 99, 100, 101, 102, 103, 104, 105, 106, 107, 108, 109, 110, 111, 112, 113, 114, 115, 116, 117, 118, 119, 120, 121, 122, 123, 124, 125, 126, 127, 128, 129, 130, 131, 132, 42, 43, 44, 45, 46, 160, 161, 162, 163, 164, 165, 166, 167, 168, 146, 147, 148, 149, 150, 151, 152, 153, 154, 155, 156, 157, 158, 159, 169, 170, 174, 175, 176, 177, 178, 179, 180, 181, 182, 183] (by decide +kernel) (by decide +kernel)) (goodIn_sub (fun _ h => List.mem_cons_of_mem _ (List.mem_append_right _ h)) (by decide +kernel))
set_option maxRecDepth 20000 in
theorem gX9_digestOf_X9_isReachable : GoodIn wsX9_digestOf (wsV RX9 378 RX9 yX9_isReachable wsX9_isReachable) := goodIn_app (goodIn_of _ (by decide +kernel)) ggX9_digestOf_X9_isReachable
set_option maxRecDepth 20000 in
theorem ggX9_digestOf_X8_wordsFreed : GoodIn wsX9_digestOf wsX8_wordsFreed := goodIn_r _ [136, 64, 137, 117, 65, 138, 139, 56, 57, 58, 59, 60, 61, 62, 63, 66, 67, 68, 69, 31, 70, 33, 71, 72, 73, 74, 75, 29, 30, 32, 34, 140, 77, 78, 79, 80, 81, 82, 83, 84, 85, 86, 87, 88, 89, 90, 91, 92, 93, 94, 95, 96, 97, 98, 99, 100, 101, 102, 103, 104, 105, 106, 107, 108, 141, 110, 111, 112, 113, 114, 115, 116, 118, 119, 120, 121, 122, 123, 8, 124, 125, 126, 127, 128, 129, 130, 131, 132, 42, 43, 44, 45, 46, 142, 143, 144, 145, 174, 175, 176, 177, 178, 179, 146, 147, 148, 149, 150, 151, 152, 153, 154, 155, 156, 157, 158, 159, 169, 170, 180, 181, 182, 183] (by decide +kernel) (by decide +kernel)
set_option maxRecDepth 20000 in
theorem gX9_digestOf_X8_wordsFreed : GoodIn wsX9_digestOf (wsV RX9 342 RX8 yX8_wordsFreed wsX8_wordsFreed) := goodIn_app (goodIn_of _ (by decide +kernel)) ggX9_digestOf_X8_wordsFreed
theorem dX9_digestOf_0 : decode cX9_digestOf 0 = .ok (.lload_n 2, 1) := by decide +kernel
theorem dX9_digestOf_1 : decode cX9_digestOf 1 = .ok (.ldc2_w 353, 3) := by decide +kernel
theorem dX9_digestOf_4 : decode cX9_digestOf 4 = .ok (.lmul, 1) := by decide +kernel
theorem dX9_digestOf_5 : decode cX9_digestOf 5 = .ok (.aload_n 1, 1) := by decide +kernel
theorem dX9_digestOf_6 : decode cX9_digestOf 6 = .ok (.getfield 138, 3) := by decide +kernel
theorem dX9_digestOf_9 : decode cX9_digestOf 9 = .ok (.i2l, 1) := by decide +kernel
theorem dX9_digestOf_10 : decode cX9_digestOf 10 = .ok (.ladd, 1) := by decide +kernel
theorem dX9_digestOf_11 : decode cX9_digestOf 11 = .ok (.lstore 5, 2) := by decide +kernel
theorem dX9_digestOf_13 : decode cX9_digestOf 13 = .ok (.iconst 0, 1) := by decide +kernel
theorem dX9_digestOf_14 : decode cX9_digestOf 14 = .ok (.istore 7, 2) := by decide +kernel
theorem dX9_digestOf_16 : decode cX9_digestOf 16 = .ok (.iload 7, 2) := by decide +kernel
theorem dX9_digestOf_18 : decode cX9_digestOf 18 = .ok (.bipush 8, 2) := by decide +kernel
theorem dX9_digestOf_20 : decode cX9_digestOf 20 = .ok (.if_icmp .ge 29, 3) := by decide +kernel
theorem dX9_digestOf_23 : decode cX9_digestOf 23 = .ok (.lload 5, 2) := by decide +kernel
theorem dX9_digestOf_25 : decode cX9_digestOf 25 = .ok (.ldc2_w 353, 3) := by decide +kernel
theorem dX9_digestOf_28 : decode cX9_digestOf 28 = .ok (.lmul, 1) := by decide +kernel
theorem dX9_digestOf_29 : decode cX9_digestOf 29 = .ok (.aload_n 0, 1) := by decide +kernel
theorem dX9_digestOf_30 : decode cX9_digestOf 30 = .ok (.aload_n 1, 1) := by decide +kernel
theorem dX9_digestOf_31 : decode cX9_digestOf 31 = .ok (.getfield 138, 3) := by decide +kernel
theorem dX9_digestOf_34 : decode cX9_digestOf 34 = .ok (.iload 7, 2) := by decide +kernel
theorem dX9_digestOf_36 : decode cX9_digestOf 36 = .ok (.invokevirtual 370, 3) := by decide +kernel
theorem dX9_digestOf_39 : decode cX9_digestOf 39 = .ok (.i2l, 1) := by decide +kernel
theorem dX9_digestOf_40 : decode cX9_digestOf 40 = .ok (.ladd, 1) := by decide +kernel
theorem dX9_digestOf_41 : decode cX9_digestOf 41 = .ok (.lstore 5, 2) := by decide +kernel
theorem dX9_digestOf_43 : decode cX9_digestOf 43 = .ok (.iinc 7 1, 3) := by decide +kernel
theorem dX9_digestOf_46 : decode cX9_digestOf 46 = .ok (.goto (-30), 3) := by decide +kernel
theorem dX9_digestOf_49 : decode cX9_digestOf 49 = .ok (.iconst 0, 1) := by decide +kernel
theorem dX9_digestOf_50 : decode cX9_digestOf 50 = .ok (.istore 7, 2) := by decide +kernel
theorem dX9_digestOf_52 : decode cX9_digestOf 52 = .ok (.iload 7, 2) := by decide +kernel
theorem dX9_digestOf_54 : decode cX9_digestOf 54 = .ok (.aload_n 1, 1) := by decide +kernel
theorem dX9_digestOf_55 : decode cX9_digestOf 55 = .ok (.getfield 374, 3) := by decide +kernel
theorem dX9_digestOf_58 : decode cX9_digestOf 58 = .ok (.arraylength, 1) := by decide +kernel
theorem dX9_digestOf_59 : decode cX9_digestOf 59 = .ok (.if_icmp .ge 28, 3) := by decide +kernel
theorem dX9_digestOf_62 : decode cX9_digestOf 62 = .ok (.lload 5, 2) := by decide +kernel
theorem dX9_digestOf_64 : decode cX9_digestOf 64 = .ok (.ldc2_w 353, 3) := by decide +kernel
theorem dX9_digestOf_67 : decode cX9_digestOf 67 = .ok (.lmul, 1) := by decide +kernel
theorem dX9_digestOf_68 : decode cX9_digestOf 68 = .ok (.aload_n 1, 1) := by decide +kernel
theorem dX9_digestOf_69 : decode cX9_digestOf 69 = .ok (.iload 7, 2) := by decide +kernel
theorem dX9_digestOf_71 : decode cX9_digestOf 71 = .ok (.invokevirtual 152, 3) := by decide +kernel
theorem dX9_digestOf_74 : decode cX9_digestOf 74 = .ok (.invokestatic 166, 3) := by decide +kernel
theorem dX9_digestOf_77 : decode cX9_digestOf 77 = .ok (.i2l, 1) := by decide +kernel
theorem dX9_digestOf_78 : decode cX9_digestOf 78 = .ok (.ladd, 1) := by decide +kernel
theorem dX9_digestOf_79 : decode cX9_digestOf 79 = .ok (.lstore 5, 2) := by decide +kernel
theorem dX9_digestOf_81 : decode cX9_digestOf 81 = .ok (.iinc 7 1, 3) := by decide +kernel
theorem dX9_digestOf_84 : decode cX9_digestOf 84 = .ok (.goto (-32), 3) := by decide +kernel
theorem dX9_digestOf_87 : decode cX9_digestOf 87 = .ok (.lload 5, 2) := by decide +kernel
theorem dX9_digestOf_89 : decode cX9_digestOf 89 = .ok (.ldc2_w 353, 3) := by decide +kernel
theorem dX9_digestOf_92 : decode cX9_digestOf 92 = .ok (.lmul, 1) := by decide +kernel
theorem dX9_digestOf_93 : decode cX9_digestOf 93 = .ok (.aload_n 0, 1) := by decide +kernel
theorem dX9_digestOf_94 : decode cX9_digestOf 94 = .ok (.aload_n 1, 1) := by decide +kernel
theorem dX9_digestOf_95 : decode cX9_digestOf 95 = .ok (.getfield 138, 3) := by decide +kernel
theorem dX9_digestOf_98 : decode cX9_digestOf 98 = .ok (.invokevirtual 378, 3) := by decide +kernel
theorem dX9_digestOf_101 : decode cX9_digestOf 101 = .ok (.ifCond .eq 7, 3) := by decide +kernel
theorem dX9_digestOf_104 : decode cX9_digestOf 104 = .ok (.iconst 1, 1) := by decide +kernel
theorem dX9_digestOf_105 : decode cX9_digestOf 105 = .ok (.goto 4, 3) := by decide +kernel
theorem dX9_digestOf_108 : decode cX9_digestOf 108 = .ok (.iconst 0, 1) := by decide +kernel
theorem dX9_digestOf_109 : decode cX9_digestOf 109 = .ok (.i2l, 1) := by decide +kernel
theorem dX9_digestOf_110 : decode cX9_digestOf 110 = .ok (.ladd, 1) := by decide +kernel
theorem dX9_digestOf_111 : decode cX9_digestOf 111 = .ok (.lstore 5, 2) := by decide +kernel
theorem dX9_digestOf_113 : decode cX9_digestOf 113 = .ok (.lload 5, 2) := by decide +kernel
theorem dX9_digestOf_115 : decode cX9_digestOf 115 = .ok (.ldc2_w 353, 3) := by decide +kernel
theorem dX9_digestOf_118 : decode cX9_digestOf 118 = .ok (.lmul, 1) := by decide +kernel
theorem dX9_digestOf_119 : decode cX9_digestOf 119 = .ok (.aload_n 0, 1) := by decide +kernel
theorem dX9_digestOf_120 : decode cX9_digestOf 120 = .ok (.getfield 49, 3) := by decide +kernel
theorem dX9_digestOf_123 : decode cX9_digestOf 123 = .ok (.iconst 1, 1) := by decide +kernel
theorem dX9_digestOf_124 : decode cX9_digestOf 124 = .ok (.aload_n 1, 1) := by decide +kernel
theorem dX9_digestOf_125 : decode cX9_digestOf 125 = .ok (.invokevirtual 342, 3) := by decide +kernel
theorem dX9_digestOf_128 : decode cX9_digestOf 128 = .ok (.iload 4, 2) := by decide +kernel
theorem dX9_digestOf_130 : decode cX9_digestOf 130 = .ok (.isub, 1) := by decide +kernel
theorem dX9_digestOf_131 : decode cX9_digestOf 131 = .ok (.i2l, 1) := by decide +kernel
theorem dX9_digestOf_132 : decode cX9_digestOf 132 = .ok (.ladd, 1) := by decide +kernel
theorem dX9_digestOf_133 : decode cX9_digestOf 133 = .ok (.lreturn, 1) := by decide +kernel
set_option maxRecDepth 20000 in
theorem ggX9_madeAs_X5_item : GoodIn wsX9_madeAs wsX5_item := goodIn_r _ [8, 9, 10, 20, 21] (by decide +kernel) (by decide +kernel)
set_option maxRecDepth 20000 in
theorem gX9_madeAs_X5_item : GoodIn wsX9_madeAs (wsV RX9 324 RX5 yX5_item wsX5_item) := goodIn_app (goodIn_of _ (by decide +kernel)) ggX9_madeAs_X5_item
theorem dX9_madeAs_0 : decode cX9_madeAs 0 = .ok (.aload_n 0, 1) := by decide +kernel
theorem dX9_madeAs_1 : decode cX9_madeAs 1 = .ok (.getfield 10, 3) := by decide +kernel
theorem dX9_madeAs_4 : decode cX9_madeAs 4 = .ok (.iload_n 1, 1) := by decide +kernel
theorem dX9_madeAs_5 : decode cX9_madeAs 5 = .ok (.invokevirtual 324, 3) := by decide +kernel
theorem dX9_madeAs_8 : decode cX9_madeAs 8 = .ok (.astore_n 2, 1) := by decide +kernel
theorem dX9_madeAs_9 : decode cX9_madeAs 9 = .ok (.aload_n 2, 1) := by decide +kernel
theorem dX9_madeAs_10 : decode cX9_madeAs 10 = .ok (.ifnonnull 14, 3) := by decide +kernel
theorem dX9_madeAs_13 : decode cX9_madeAs 13 = .ok (.new 170, 3) := by decide +kernel
theorem dX9_madeAs_16 : decode cX9_madeAs 16 = .ok (.dup, 1) := by decide +kernel
theorem dX9_madeAs_17 : decode cX9_madeAs 17 = .ok (.ldc_w 381, 3) := by decide +kernel
theorem dX9_madeAs_20 : decode cX9_madeAs 20 = .ok (.invokespecial 174, 3) := by decide +kernel
theorem dX9_madeAs_23 : decode cX9_madeAs 23 = .ok (.athrow, 1) := by decide +kernel
theorem dX9_madeAs_24 : decode cX9_madeAs 24 = .ok (.aload_n 2, 1) := by decide +kernel
theorem dX9_madeAs_25 : decode cX9_madeAs 25 = .ok (.areturn, 1) := by decide +kernel
set_option maxRecDepth 20000 in
theorem ggX9_occupant_X4_readSlot : GoodIn wsX9_occupant wsX4_readSlot := goodIn_r _ [8, 9, 10, 11, 12, 7, 13, 14, 24, 25, 26, 27] (by decide +kernel) (by decide +kernel)
set_option maxRecDepth 20000 in
theorem gX9_occupant_X4_readSlot : GoodIn wsX9_occupant (wsV RX9 155 RX4 yX4_readSlot wsX4_readSlot) := goodIn_app (goodIn_of _ (by decide +kernel)) ggX9_occupant_X4_readSlot
theorem dX9_occupant_0 : decode cX9_occupant 0 = .ok (.aload_n 0, 1) := by decide +kernel
theorem dX9_occupant_1 : decode cX9_occupant 1 = .ok (.getfield 19, 3) := by decide +kernel
theorem dX9_occupant_4 : decode cX9_occupant 4 = .ok (.iload_n 1, 1) := by decide +kernel
theorem dX9_occupant_5 : decode cX9_occupant 5 = .ok (.invokevirtual 155, 3) := by decide +kernel
theorem dX9_occupant_8 : decode cX9_occupant 8 = .ok (.astore_n 2, 1) := by decide +kernel
theorem dX9_occupant_9 : decode cX9_occupant 9 = .ok (.aload_n 2, 1) := by decide +kernel
theorem dX9_occupant_10 : decode cX9_occupant 10 = .ok (.ifnonnull 14, 3) := by decide +kernel
theorem dX9_occupant_13 : decode cX9_occupant 13 = .ok (.new 75, 3) := by decide +kernel
theorem dX9_occupant_16 : decode cX9_occupant 16 = .ok (.dup, 1) := by decide +kernel
theorem dX9_occupant_17 : decode cX9_occupant 17 = .ok (.ldc_w 383, 3) := by decide +kernel
theorem dX9_occupant_20 : decode cX9_occupant 20 = .ok (.invokespecial 79, 3) := by decide +kernel
theorem dX9_occupant_23 : decode cX9_occupant 23 = .ok (.athrow, 1) := by decide +kernel
theorem dX9_occupant_24 : decode cX9_occupant 24 = .ok (.aload_n 2, 1) := by decide +kernel
theorem dX9_occupant_25 : decode cX9_occupant 25 = .ok (.areturn, 1) := by decide +kernel
set_option maxRecDepth 20000 in
theorem ggX9_requireMarking_X1_isOn : GoodIn wsX9_requireMarking wsX1_isOn := goodIn_r _ [8, 9, 19, 20, 21] (by decide +kernel) (by decide +kernel)
set_option maxRecDepth 20000 in
theorem gX9_requireMarking_X1_isOn : GoodIn wsX9_requireMarking (wsV RX9 228 RX1 yX1_isOn wsX1_isOn) := goodIn_app (goodIn_of _ (by decide +kernel)) ggX9_requireMarking_X1_isOn
theorem dX9_requireMarking_0 : decode cX9_requireMarking 0 = .ok (.aload_n 0, 1) := by decide +kernel
theorem dX9_requireMarking_1 : decode cX9_requireMarking 1 = .ok (.getfield 42, 3) := by decide +kernel
theorem dX9_requireMarking_4 : decode cX9_requireMarking 4 = .ok (.invokevirtual 228, 3) := by decide +kernel
theorem dX9_requireMarking_7 : decode cX9_requireMarking 7 = .ok (.ifCond .ne 14, 3) := by decide +kernel
theorem dX9_requireMarking_10 : decode cX9_requireMarking 10 = .ok (.new 75, 3) := by decide +kernel
theorem dX9_requireMarking_13 : decode cX9_requireMarking 13 = .ok (.dup, 1) := by decide +kernel
theorem dX9_requireMarking_14 : decode cX9_requireMarking 14 = .ok (.ldc_w 385, 3) := by decide +kernel
theorem dX9_requireMarking_17 : decode cX9_requireMarking 17 = .ok (.invokespecial 79, 3) := by decide +kernel
theorem dX9_requireMarking_20 : decode cX9_requireMarking 20 = .ok (.athrow, 1) := by decide +kernel
theorem dX9_requireMarking_21 : decode cX9_requireMarking 21 = .ok (.return_, 1) := by decide +kernel
theorem dX9_requireSlot_0 : decode cX9_requireSlot 0 = .ok (.iload_n 0, 1) := by decide +kernel
theorem dX9_requireSlot_1 : decode cX9_requireSlot 1 = .ok (.ifCond .lt 8, 3) := by decide +kernel
theorem dX9_requireSlot_4 : decode cX9_requireSlot 4 = .ok (.iload_n 0, 1) := by decide +kernel
theorem dX9_requireSlot_5 : decode cX9_requireSlot 5 = .ok (.iconst 4, 1) := by decide +kernel
theorem dX9_requireSlot_6 : decode cX9_requireSlot 6 = .ok (.if_icmp .lt 14, 3) := by decide +kernel
theorem dX9_requireSlot_9 : decode cX9_requireSlot 9 = .ok (.new 170, 3) := by decide +kernel
theorem dX9_requireSlot_12 : decode cX9_requireSlot 12 = .ok (.dup, 1) := by decide +kernel
theorem dX9_requireSlot_13 : decode cX9_requireSlot 13 = .ok (.ldc_w 387, 3) := by decide +kernel
theorem dX9_requireSlot_16 : decode cX9_requireSlot 16 = .ok (.invokespecial 174, 3) := by decide +kernel
theorem dX9_requireSlot_19 : decode cX9_requireSlot 19 = .ok (.athrow, 1) := by decide +kernel
theorem dX9_requireSlot_20 : decode cX9_requireSlot 20 = .ok (.return_, 1) := by decide +kernel
set_option maxRecDepth 20000 in
theorem ggX9_requireSlotOrNone_X9_requireSlot : GoodIn wsX9_requireSlotOrNone wsX9_requireSlot := goodIn_ca (goodIn_r _ [4, 5, 6] (by decide +kernel) (by decide +kernel)) (goodIn_sub (fun _ h => List.mem_cons_of_mem _ (List.mem_append_right _ h)) (by decide +kernel))
set_option maxRecDepth 20000 in
theorem gX9_requireSlotOrNone_X9_requireSlot : GoodIn wsX9_requireSlotOrNone (va_wsS RX9 90 yX9_requireSlot wsX9_requireSlot) := goodIn_app (goodIn_of _ (by decide +kernel)) ggX9_requireSlotOrNone_X9_requireSlot
theorem dX9_requireSlotOrNone_0 : decode cX9_requireSlotOrNone 0 = .ok (.iload_n 0, 1) := by decide +kernel
theorem dX9_requireSlotOrNone_1 : decode cX9_requireSlotOrNone 1 = .ok (.iconst (-1), 1) := by decide +kernel
theorem dX9_requireSlotOrNone_2 : decode cX9_requireSlotOrNone 2 = .ok (.if_icmp .eq 7, 3) := by decide +kernel
theorem dX9_requireSlotOrNone_5 : decode cX9_requireSlotOrNone 5 = .ok (.iload_n 0, 1) := by decide +kernel
theorem dX9_requireSlotOrNone_6 : decode cX9_requireSlotOrNone 6 = .ok (.invokestatic 90, 3) := by decide +kernel
theorem dX9_requireSlotOrNone_9 : decode cX9_requireSlotOrNone 9 = .ok (.return_, 1) := by decide +kernel
set_option maxRecDepth 20000 in
theorem ggX9_requireField_X7_hasField : GoodIn wsX9_requireField wsX7_hasField := goodIn_r _ [7, 8, 9, 10, 11, 12, 13, 14, 15, 16, 17, 18, 19, 20, 21, 22] (by decide +kernel) (by decide +kernel)
set_option maxRecDepth 20000 in
theorem gX9_requireField_X7_hasField : GoodIn wsX9_requireField (wsV RX9 389 RX7 yX7_hasField wsX7_hasField) := goodIn_app (goodIn_of _ (by decide +kernel)) ggX9_requireField_X7_hasField
theorem dX9_requireField_0 : decode cX9_requireField 0 = .ok (.aload_n 0, 1) := by decide +kernel
theorem dX9_requireField_1 : decode cX9_requireField 1 = .ok (.iload_n 1, 1) := by decide +kernel
theorem dX9_requireField_2 : decode cX9_requireField 2 = .ok (.invokevirtual 389, 3) := by decide +kernel
theorem dX9_requireField_5 : decode cX9_requireField 5 = .ok (.ifCond .ne 14, 3) := by decide +kernel
theorem dX9_requireField_8 : decode cX9_requireField 8 = .ok (.new 170, 3) := by decide +kernel
theorem dX9_requireField_11 : decode cX9_requireField 11 = .ok (.dup, 1) := by decide +kernel
theorem dX9_requireField_12 : decode cX9_requireField 12 = .ok (.ldc_w 392, 3) := by decide +kernel
theorem dX9_requireField_15 : decode cX9_requireField 15 = .ok (.invokespecial 174, 3) := by decide +kernel
theorem dX9_requireField_18 : decode cX9_requireField 18 = .ok (.athrow, 1) := by decide +kernel
theorem dX9_requireField_19 : decode cX9_requireField 19 = .ok (.return_, 1) := by decide +kernel
theorem dX9_leastFields_0 : decode cX9_leastFields 0 = .ok (.iload_n 0, 1) := by decide +kernel
theorem dX9_leastFields_1 : decode cX9_leastFields 1 = .ok (.iconst 3, 1) := by decide +kernel
theorem dX9_leastFields_2 : decode cX9_leastFields 2 = .ok (.if_icmp .ne 5, 3) := by decide +kernel
theorem dX9_leastFields_5 : decode cX9_leastFields 5 = .ok (.iconst 2, 1) := by decide +kernel
theorem dX9_leastFields_6 : decode cX9_leastFields 6 = .ok (.ireturn, 1) := by decide +kernel
theorem dX9_leastFields_7 : decode cX9_leastFields 7 = .ok (.iload_n 0, 1) := by decide +kernel
theorem dX9_leastFields_8 : decode cX9_leastFields 8 = .ok (.iconst 1, 1) := by decide +kernel
theorem dX9_leastFields_9 : decode cX9_leastFields 9 = .ok (.if_icmp .eq 8, 3) := by decide +kernel
theorem dX9_leastFields_12 : decode cX9_leastFields 12 = .ok (.iload_n 0, 1) := by decide +kernel
theorem dX9_leastFields_13 : decode cX9_leastFields 13 = .ok (.iconst 2, 1) := by decide +kernel
theorem dX9_leastFields_14 : decode cX9_leastFields 14 = .ok (.if_icmp .ne 7, 3) := by decide +kernel
theorem dX9_leastFields_17 : decode cX9_leastFields 17 = .ok (.iconst 1, 1) := by decide +kernel
theorem dX9_leastFields_18 : decode cX9_leastFields 18 = .ok (.goto 4, 3) := by decide +kernel
theorem dX9_leastFields_21 : decode cX9_leastFields 21 = .ok (.iconst 0, 1) := by decide +kernel
theorem dX9_leastFields_22 : decode cX9_leastFields 22 = .ok (.ireturn, 1) := by decide +kernel
theorem dX9_isLoose_0 : decode cX9_isLoose 0 = .ok (.iload_n 0, 1) := by decide +kernel
theorem dX9_isLoose_1 : decode cX9_isLoose 1 = .ok (.iconst 1, 1) := by decide +kernel
theorem dX9_isLoose_2 : decode cX9_isLoose 2 = .ok (.if_icmp .eq 12, 3) := by decide +kernel
theorem dX9_isLoose_5 : decode cX9_isLoose 5 = .ok (.iload_n 0, 1) := by decide +kernel
theorem dX9_isLoose_6 : decode cX9_isLoose 6 = .ok (.iconst 2, 1) := by decide +kernel
theorem dX9_isLoose_7 : decode cX9_isLoose 7 = .ok (.if_icmp .ne 11, 3) := by decide +kernel
theorem dX9_isLoose_10 : decode cX9_isLoose 10 = .ok (.iload_n 1, 1) := by decide +kernel
theorem dX9_isLoose_11 : decode cX9_isLoose 11 = .ok (.ifCond .ne 7, 3) := by decide +kernel
theorem dX9_isLoose_14 : decode cX9_isLoose 14 = .ok (.iconst 1, 1) := by decide +kernel
theorem dX9_isLoose_15 : decode cX9_isLoose 15 = .ok (.goto 4, 3) := by decide +kernel
theorem dX9_isLoose_18 : decode cX9_isLoose 18 = .ok (.iconst 0, 1) := by decide +kernel
theorem dX9_isLoose_19 : decode cX9_isLoose 19 = .ok (.ireturn, 1) := by decide +kernel
theorem dX9_numberOf_0 : decode cX9_numberOf 0 = .ok (.aload_n 0, 1) := by decide +kernel
theorem dX9_numberOf_1 : decode cX9_numberOf 1 = .ok (.ifnonnull 7, 3) := by decide +kernel
theorem dX9_numberOf_4 : decode cX9_numberOf 4 = .ok (.iconst (-1), 1) := by decide +kernel
theorem dX9_numberOf_5 : decode cX9_numberOf 5 = .ok (.goto 7, 3) := by decide +kernel
theorem dX9_numberOf_8 : decode cX9_numberOf 8 = .ok (.aload_n 0, 1) := by decide +kernel
theorem dX9_numberOf_9 : decode cX9_numberOf 9 = .ok (.getfield 138, 3) := by decide +kernel
theorem dX9_numberOf_12 : decode cX9_numberOf 12 = .ok (.ireturn, 1) := by decide +kernel
end
section
/-! THE STATE OF THE CLASS. One value cSt: scalars; fields of things; rows of references; lengths; references of things; cards. ga: addresses, n: how many things. -/
abbrev cSt : Type := (Nat → Int32) × (Nat → Nat → Int32) × (Nat → Nat → Option Nat) × (Nat → Nat) × (Nat → Nat → Option Nat) × (Nat → Int32)
def gIf (M : cSt) : Nat → Int32 := M.1
def gTf (M : cSt) : Nat → Nat → Int32 := M.2.1
def gRf (M : cSt) : Nat → Nat → Option Nat := M.2.2.1
def gLf (M : cSt) : Nat → Nat := M.2.2.2.1
def gFf (M : cSt) : Nat → Nat → Option Nat := M.2.2.2.2.1
def gZf (M : cSt) : Nat → Int32 := M.2.2.2.2.2
abbrev gI (M : cSt) (j : Nat) : Int32 := gIf M j
abbrev gT (M : cSt) (k : Nat) : Nat → Int32 := gTf M k
abbrev gR (M : cSt) (r : Nat) : Nat → Option Nat := gRf M r
abbrev gL (M : cSt) (k : Nat) : Nat := gLf M k
abbrev gF (M : cSt) (k : Nat) : Nat → Option Nat := gFf M k
abbrev gZ (M : cSt) (j : Nat) : Int32 := gZf M j
def sI (M : cSt) (j : Nat) (v : Int32) : cSt := (va_up (gIf M) j v, gTf M, gRf M, gLf M, gFf M, gZf M)
def sT (M : cSt) (k f : Nat) (v : Int32) : cSt := (gIf M, va_up (gTf M) k (va_up (gTf M k) f v), gRf M, gLf M, gFf M, gZf M)
def sR (M : cSt) (r j : Nat) (v : Option Nat) : cSt := (gIf M, gTf M, va_up (gRf M) r (va_up (gRf M r) j v), gLf M, gFf M, gZf M)
def sF (M : cSt) (k j : Nat) (v : Option Nat) : cSt := (gIf M, gTf M, gRf M, gLf M, va_up (gFf M) k (va_up (gFf M k) j v), gZf M)
def sZ (M : cSt) (j : Nat) (v : Int32) : cSt := (gIf M, gTf M, gRf M, gLf M, gFf M, va_up (gZf M) j v)
theorem gIf_sI (M : cSt) (j : Nat) (v : Int32) : gIf (sI M j v) = va_up (gIf M) j v := rfl
theorem gTf_sI (M : cSt) (j : Nat) (v : Int32) : gTf (sI M j v) = gTf M := rfl
theorem gRf_sI (M : cSt) (j : Nat) (v : Int32) : gRf (sI M j v) = gRf M := rfl
theorem gLf_sI (M : cSt) (j : Nat) (v : Int32) : gLf (sI M j v) = gLf M := rfl
theorem gFf_sI (M : cSt) (j : Nat) (v : Int32) : gFf (sI M j v) = gFf M := rfl
theorem gZf_sI (M : cSt) (j : Nat) (v : Int32) : gZf (sI M j v) = gZf M := rfl
theorem gIf_sT (M : cSt) (k f : Nat) (v : Int32) : gIf (sT M k f v) = gIf M := rfl
theorem gTf_sT (M : cSt) (k f : Nat) (v : Int32) : gTf (sT M k f v) = va_up (gTf M) k (va_up (gTf M k) f v) := rfl
theorem gRf_sT (M : cSt) (k f : Nat) (v : Int32) : gRf (sT M k f v) = gRf M := rfl
theorem gLf_sT (M : cSt) (k f : Nat) (v : Int32) : gLf (sT M k f v) = gLf M := rfl
theorem gFf_sT (M : cSt) (k f : Nat) (v : Int32) : gFf (sT M k f v) = gFf M := rfl
theorem gZf_sT (M : cSt) (k f : Nat) (v : Int32) : gZf (sT M k f v) = gZf M := rfl
theorem gIf_sR (M : cSt) (r j : Nat) (v : Option Nat) : gIf (sR M r j v) = gIf M := rfl
theorem gTf_sR (M : cSt) (r j : Nat) (v : Option Nat) : gTf (sR M r j v) = gTf M := rfl
theorem gRf_sR (M : cSt) (r j : Nat) (v : Option Nat) : gRf (sR M r j v) = va_up (gRf M) r (va_up (gRf M r) j v) := rfl
theorem gLf_sR (M : cSt) (r j : Nat) (v : Option Nat) : gLf (sR M r j v) = gLf M := rfl
theorem gFf_sR (M : cSt) (r j : Nat) (v : Option Nat) : gFf (sR M r j v) = gFf M := rfl
theorem gZf_sR (M : cSt) (r j : Nat) (v : Option Nat) : gZf (sR M r j v) = gZf M := rfl
theorem gIf_sF (M : cSt) (k j : Nat) (v : Option Nat) : gIf (sF M k j v) = gIf M := rfl
theorem gTf_sF (M : cSt) (k j : Nat) (v : Option Nat) : gTf (sF M k j v) = gTf M := rfl
theorem gRf_sF (M : cSt) (k j : Nat) (v : Option Nat) : gRf (sF M k j v) = gRf M := rfl
theorem gLf_sF (M : cSt) (k j : Nat) (v : Option Nat) : gLf (sF M k j v) = gLf M := rfl
theorem gFf_sF (M : cSt) (k j : Nat) (v : Option Nat) : gFf (sF M k j v) = va_up (gFf M) k (va_up (gFf M k) j v) := rfl
theorem gZf_sF (M : cSt) (k j : Nat) (v : Option Nat) : gZf (sF M k j v) = gZf M := rfl
theorem gIf_sZ (M : cSt) (j : Nat) (v : Int32) : gIf (sZ M j v) = gIf M := rfl
theorem gTf_sZ (M : cSt) (j : Nat) (v : Int32) : gTf (sZ M j v) = gTf M := rfl
theorem gRf_sZ (M : cSt) (j : Nat) (v : Int32) : gRf (sZ M j v) = gRf M := rfl
theorem gLf_sZ (M : cSt) (j : Nat) (v : Int32) : gLf (sZ M j v) = gLf M := rfl
theorem gFf_sZ (M : cSt) (j : Nat) (v : Int32) : gFf (sZ M j v) = gFf M := rfl
theorem gZf_sZ (M : cSt) (j : Nat) (v : Int32) : gZf (sZ M j v) = va_up (gZf M) j v := rfl

/-- a reference to a thing, by its number -/
def ctv (ga : Nat → Nat) (o : Option Nat) : Value := va_rf (o.map (fun k => ga (25 + 2 * k)))
/-- a row of references, by the addresses -/
def crf (ga : Nat → Nat) (f : Nat → Option Nat) : Nat → Option Nat := fun j => (f j).map (fun k => ga (25 + 2 * k))
def cEth (ga : Nat → Nat) (M : cSt) (k : Nat) : va_E := .inr (7, [.int (gT M k 0), .ref (ga (26 + 2 * k)), .int (gT M k 2), .int (gT M k 3), .int (gT M k 4), .int (gT M k 5), .int (gT M k 6), .int (gT M k 7), .int (gT M k 8), .int (gT M k 9), .int (gT M k 10), .int (gT M k 11), .int (gT M k 12), .int (gT M k 13)])
def cEfl (ga : Nat → Nat) (cT : ClassId) (M : cSt) (k : Nat) : va_E := .inl (cT, gL M k, .inr (.inr (.inr (.inr (crf ga (gF M k))))))
def cErw (ga : Nat → Nat) (cT : ClassId) (M : cSt) (r len : Nat) : va_E := .inl (cT, len, .inr (.inr (.inr (.inr (crf ga (gR M r))))))
def cEro (ga : Nat → Nat) (M : cSt) (r : Nat) : va_E := .inr (5, [.ref (ga (15 + r)), .int (gI M (10 + r))])
/-- what the world's cell i holds -/
def cE (ga : Nat → Nat) (cT cZ : ClassId) (M : cSt) : Nat → va_E
  | 0 => .inr (9, [.ref (ga 8), .ref (ga 1), .ref (ga 2), .ref (ga 3), .ref (ga 4), .ref (ga 5), .ref (ga 6), .ref (ga 7), .int (gI M 0)])
  | 1 => .inr (4, [.ref (ga 9), .ref (ga 22), .ref (ga 23), .int (gI M 1)])
  | 2 => .inr (3, [.ref (ga 10), .ref (ga 11), .ref (ga 12), .int (gI M 2), .int (gI M 3), .int (gI M 4), .int (gI M 5), .ref (ga 24)])
  | 3 => .inr (6, [.int (gI M 6), .int (gI M 7), .int (gI M 8), .int (gI M 9)])
  | 4 => .inr (1, [.ref (ga 8), .ref (ga 1), .int (gI M 17)])
  | 5 => .inr (8, [.ref (ga 8), .ref (ga 1), .ref (ga 13), .int (gI M 18), .int (gI M 19), ctv ga (gR M 9 0)])
  | 6 => .inr (2, [.int (gI M 20), .ref (ga 8), .ref (ga 1), .ref (ga 2), .ref (ga 3), .ref (ga 14), .int (gI M 21), .int (gI M 22), .int (gI M 23)])
  | 7 => .inr (0, [.ref (ga 8), .ref (ga 1), .ref (ga 2), .ref (ga 3), .ref (ga 4), .ref (ga 5)])
  | 8 => cEro ga M 0
  | 9 => cEro ga M 1
  | 10 => cEro ga M 2
  | 11 => cEro ga M 3
  | 12 => cEro ga M 4
  | 13 => cEro ga M 5
  | 14 => cEro ga M 6
  | 15 => cErw ga cT M 0 200
  | 16 => cErw ga cT M 1 200
  | 17 => cErw ga cT M 2 200
  | 18 => cErw ga cT M 3 200
  | 19 => cErw ga cT M 4 200
  | 20 => cErw ga cT M 5 200
  | 21 => cErw ga cT M 6 200
  | 22 => cErw ga cT M 7 32
  | 23 => cErw ga cT M 8 4
  | 24 => .inl (cZ, 20, .inl (gZf M))
  | n + 25 => if n % 2 = 0 then cEth ga M (n / 2) else cEfl ga cT M (n / 2)

theorem E_th (ga : Nat → Nat) (cT cZ : ClassId) (M : cSt) (k : Nat) : cE ga cT cZ M (25 + 2 * k) = cEth ga M k := by
  rw [Nat.add_comm 25]
  show (if (2 * k) % 2 = 0 then cEth ga M ((2 * k) / 2) else cEfl ga cT M ((2 * k) / 2)) = _
  rw [if_pos (by omega), show 2 * k / 2 = k by omega]
theorem E_fl (ga : Nat → Nat) (cT cZ : ClassId) (M : cSt) (k : Nat) : cE ga cT cZ M (26 + 2 * k) = cEfl ga cT M k := by
  rw [show 26 + 2 * k = (2 * k + 1) + 25 by omega]
  show (if (2 * k + 1) % 2 = 0 then cEth ga M ((2 * k + 1) / 2) else cEfl ga cT M ((2 * k + 1) / 2)) = _
  rw [if_neg (by omega), show (2 * k + 1) / 2 = k by omega]
theorem E_ro (ga : Nat → Nat) (cT cZ : ClassId) (M : cSt) {r : Nat} (h : r < 7) : cE ga cT cZ M (8 + r) = cEro ga M r := by
  rcases (show r = 0 ∨ r = 1 ∨ r = 2 ∨ r = 3 ∨ r = 4 ∨ r = 5 ∨ r = 6 by omega) with rfl | rfl | rfl | rfl | rfl | rfl | rfl <;> rfl
theorem E_rw (ga : Nat → Nat) (cT cZ : ClassId) (M : cSt) {r : Nat} (h : r < 7) : cE ga cT cZ M (15 + r) = cErw ga cT M r 200 := by
  rcases (show r = 0 ∨ r = 1 ∨ r = 2 ∨ r = 3 ∨ r = 4 ∨ r = 5 ∨ r = 6 by omega) with rfl | rfl | rfl | rfl | rfl | rfl | rfl <;> rfl
/-- the index of a cell: one of the fixed ones, or a thing, or a thing's row -/
theorem ix_cases (i : Nat) : i < 25 ∨ (∃ k, i = 25 + 2 * k) ∨ ∃ k, i = 26 + 2 * k := by
  rcases Nat.lt_or_ge i 25 with h | h
  · exact Or.inl h
  · rcases Nat.mod_two_eq_zero_or_one (i - 25) with e | e
    · exact Or.inr (Or.inl ⟨(i - 25) / 2, by omega⟩)
    · exact Or.inr (Or.inr ⟨(i - 26) / 2, by omega⟩)
/-- the world -/
def wld (ga : Nat → Nat) (n : Nat) (cT cZ : ClassId) (M : cSt) : va_W := (List.range (25 + 2 * n)).map (fun i => (ga i, cE ga cT cZ M i))
theorem wld_get {ga : Nat → Nat} {n : Nat} {cT cZ : ClassId} {M : cSt} {i : Nat} {x : va_E} (h : i < 25 + 2 * n) (hx : cE ga cT cZ M i = x) : (wld ga n cT cZ M)[i]? = some (ga i, x) := by
  rw [wld, List.getElem?_map, List.getElem?_range h, ← hx]; rfl
theorem wld_inv {ga : Nat → Nat} {n : Nat} {cT cZ : ClassId} {M : cSt} {i : Nat} {q : Nat × va_E} (h : (wld ga n cT cZ M)[i]? = some q) : i < 25 + 2 * n ∧ q = (ga i, cE ga cT cZ M i) := by
  rw [wld, List.getElem?_map] at h
  rcases Nat.lt_or_ge i (25 + 2 * n) with hl | hl
  · rw [List.getElem?_range hl] at h; exact ⟨hl, (Option.some.inj h).symm⟩
  · rw [List.getElem?_eq_none (by rw [List.length_range]; exact hl)] at h; cases h
theorem wld_set {ga : Nat → Nat} {n : Nat} {cT cZ : ClassId} {M : cSt} {M' : cSt} {i : Nat} {x : va_E} (hx : cE ga cT cZ M' i = x) (ho : ∀ j, j ≠ i → cE ga cT cZ M' j = cE ga cT cZ M j) : (wld ga n cT cZ M).set i (ga i, x) = wld ga n cT cZ M' := by
  refine List.ext_getElem? (fun j => ?_)
  rw [List.getElem?_set]
  by_cases hij : i = j
  · subst hij
    rw [if_pos rfl]
    by_cases hl : i < 25 + 2 * n
    · rw [if_pos (by rw [wld, List.length_map, List.length_range]; exact hl), wld_get (M := M') hl hx]
    · rw [if_neg (by rw [wld, List.length_map, List.length_range]; exact hl), List.getElem?_eq_none (by rw [wld, List.length_map, List.length_range]; omega)]
  · rw [if_neg hij]
    by_cases hl : j < 25 + 2 * n
    · rw [wld_get hl rfl, wld_get (M := M') hl (ho j (fun e => hij e.symm))]
    · rw [List.getElem?_eq_none (by rw [wld, List.length_map, List.length_range]; omega), List.getElem?_eq_none (by rw [wld, List.length_map, List.length_range]; omega)]
theorem wld_D {ga : Nat → Nat} {n : Nat} {cT cZ : ClassId} {M : cSt} {M' : cSt} {A : Nat → Prop} (h : va_D A (wld ga n cT cZ M)) : va_D A (wld ga n cT cZ M') := by
  refine ⟨fun i j p q hi hj e => ?_, fun k q hk => ?_⟩
  · obtain ⟨a1, a2⟩ := wld_inv hi; obtain ⟨b1, b2⟩ := wld_inv hj
    refine h.1 i j _ _ (wld_get a1 rfl) (wld_get b1 rfl) ?_
    rw [a2, b2] at e; exact e
  · obtain ⟨a1, a2⟩ := wld_inv hk
    rw [a2]; exact h.2 k (ga k, cE ga cT cZ M k) (wld_get a1 rfl)
/-- which cells the class may write: its own, and new ones -/
def cAA (ga : Nat → Nat) (n sz : Nat) : Nat → Prop := fun q => (∃ i, i < 25 + 2 * n ∧ q = ga i) ∨ sz ≤ q
theorem wld_self {ga : Nat → Nat} {n : Nat} {cT cZ : ClassId} {M : cSt} {A : Nat → Prop} {sz : Nat} (h : va_D A (wld ga n cT cZ M)) : va_D (cAA ga n sz) (wld ga n cT cZ M) :=
  ⟨h.1, fun k q hk => by obtain ⟨a1, a2⟩ := wld_inv hk; rw [a2]; exact Or.inl ⟨k, a1, rfl⟩⟩
theorem wld_free {ga : Nat → Nat} {n : Nat} {cT cZ : ClassId} {M : cSt} {A : Nat → Prop} {H0 H : Heap} {locs : List Loc} (hD : va_D A (wld ga n cT cZ M)) (hS : va_S A H0 H locs) (hA : ∀ q, H0.size ≤ q → A q) : ∀ q, cAA ga n H.size q → A q := by
  intro q h
  rcases h with ⟨i, hi, rfl⟩ | h
  · exact hD.2 i _ (wld_get (M := M) (cT := cT) (cZ := cZ) hi rfl)
  · exact hA q (Nat.le_trans hS.1 h)
theorem wld_inj {ga : Nat → Nat} {n : Nat} {cT cZ : ClassId} {M : cSt} {A : Nat → Prop} (h : va_D A (wld ga n cT cZ M)) {i j : Nat} (hi : i < 25 + 2 * n) (hj : j < 25 + 2 * n) (e : ga i = ga j) : i = j :=
  h.1 i j _ _ (wld_get hi rfl) (wld_get hj rfl) e

theorem Ei_0 (ga : Nat → Nat) (cT cZ : ClassId) (M : cSt) (v : Int32) : cE ga cT cZ (sI M 0 v) 0 = .inr (9, [.ref (ga 8), .ref (ga 1), .ref (ga 2), .ref (ga 3), .ref (ga 4), .ref (ga 5), .ref (ga 6), .ref (ga 7), .int v]) := rfl
theorem Eo_0 (ga : Nat → Nat) (cT cZ : ClassId) (M : cSt) (v : Int32) : ∀ i, i ≠ 0 → cE ga cT cZ (sI M 0 v) i = cE ga cT cZ M i
  | 0, h => absurd rfl h
  | 1, h => rfl
  | 2, h => rfl
  | 3, h => rfl
  | 4, h => rfl
  | 5, h => rfl
  | 6, h => rfl
  | 7, h => rfl
  | 8, h => rfl
  | 9, h => rfl
  | 10, h => rfl
  | 11, h => rfl
  | 12, h => rfl
  | 13, h => rfl
  | 14, h => rfl
  | 15, h => rfl
  | 16, h => rfl
  | 17, h => rfl
  | 18, h => rfl
  | 19, h => rfl
  | 20, h => rfl
  | 21, h => rfl
  | 22, h => rfl
  | 23, h => rfl
  | 24, h => rfl
  | _ + 25, _ => rfl
theorem wI_0 {ga : Nat → Nat} {n : Nat} {cT cZ : ClassId} {M : cSt} {v : Int32} : (wld ga n cT cZ M).set 0 (ga 0, .inr (9, [.ref (ga 8), .ref (ga 1), .ref (ga 2), .ref (ga 3), .ref (ga 4), .ref (ga 5), .ref (ga 6), .ref (ga 7), .int v])) = wld ga n cT cZ (sI M 0 v) := wld_set (i := 0) (Ei_0 ga cT cZ M v) (Eo_0 ga cT cZ M v)
theorem Ei_1 (ga : Nat → Nat) (cT cZ : ClassId) (M : cSt) (v : Int32) : cE ga cT cZ (sI M 1 v) 1 = .inr (4, [.ref (ga 9), .ref (ga 22), .ref (ga 23), .int v]) := rfl
theorem Eo_1 (ga : Nat → Nat) (cT cZ : ClassId) (M : cSt) (v : Int32) : ∀ i, i ≠ 1 → cE ga cT cZ (sI M 1 v) i = cE ga cT cZ M i
  | 0, h => rfl
  | 1, h => absurd rfl h
  | 2, h => rfl
  | 3, h => rfl
  | 4, h => rfl
  | 5, h => rfl
  | 6, h => rfl
  | 7, h => rfl
  | 8, h => rfl
  | 9, h => rfl
  | 10, h => rfl
  | 11, h => rfl
  | 12, h => rfl
  | 13, h => rfl
  | 14, h => rfl
  | 15, h => rfl
  | 16, h => rfl
  | 17, h => rfl
  | 18, h => rfl
  | 19, h => rfl
  | 20, h => rfl
  | 21, h => rfl
  | 22, h => rfl
  | 23, h => rfl
  | 24, h => rfl
  | _ + 25, _ => rfl
theorem wI_1 {ga : Nat → Nat} {n : Nat} {cT cZ : ClassId} {M : cSt} {v : Int32} : (wld ga n cT cZ M).set 1 (ga 1, .inr (4, [.ref (ga 9), .ref (ga 22), .ref (ga 23), .int v])) = wld ga n cT cZ (sI M 1 v) := wld_set (i := 1) (Ei_1 ga cT cZ M v) (Eo_1 ga cT cZ M v)
theorem Ei_2 (ga : Nat → Nat) (cT cZ : ClassId) (M : cSt) (v : Int32) : cE ga cT cZ (sI M 2 v) 2 = .inr (3, [.ref (ga 10), .ref (ga 11), .ref (ga 12), .int v, .int (gI M 3), .int (gI M 4), .int (gI M 5), .ref (ga 24)]) := rfl
theorem Eo_2 (ga : Nat → Nat) (cT cZ : ClassId) (M : cSt) (v : Int32) : ∀ i, i ≠ 2 → cE ga cT cZ (sI M 2 v) i = cE ga cT cZ M i
  | 0, h => rfl
  | 1, h => rfl
  | 2, h => absurd rfl h
  | 3, h => rfl
  | 4, h => rfl
  | 5, h => rfl
  | 6, h => rfl
  | 7, h => rfl
  | 8, h => rfl
  | 9, h => rfl
  | 10, h => rfl
  | 11, h => rfl
  | 12, h => rfl
  | 13, h => rfl
  | 14, h => rfl
  | 15, h => rfl
  | 16, h => rfl
  | 17, h => rfl
  | 18, h => rfl
  | 19, h => rfl
  | 20, h => rfl
  | 21, h => rfl
  | 22, h => rfl
  | 23, h => rfl
  | 24, h => rfl
  | _ + 25, _ => rfl
theorem wI_2 {ga : Nat → Nat} {n : Nat} {cT cZ : ClassId} {M : cSt} {v : Int32} : (wld ga n cT cZ M).set 2 (ga 2, .inr (3, [.ref (ga 10), .ref (ga 11), .ref (ga 12), .int v, .int (gI M 3), .int (gI M 4), .int (gI M 5), .ref (ga 24)])) = wld ga n cT cZ (sI M 2 v) := wld_set (i := 2) (Ei_2 ga cT cZ M v) (Eo_2 ga cT cZ M v)
theorem Ei_3 (ga : Nat → Nat) (cT cZ : ClassId) (M : cSt) (v : Int32) : cE ga cT cZ (sI M 3 v) 2 = .inr (3, [.ref (ga 10), .ref (ga 11), .ref (ga 12), .int (gI M 2), .int v, .int (gI M 4), .int (gI M 5), .ref (ga 24)]) := rfl
theorem Eo_3 (ga : Nat → Nat) (cT cZ : ClassId) (M : cSt) (v : Int32) : ∀ i, i ≠ 2 → cE ga cT cZ (sI M 3 v) i = cE ga cT cZ M i
  | 0, h => rfl
  | 1, h => rfl
  | 2, h => absurd rfl h
  | 3, h => rfl
  | 4, h => rfl
  | 5, h => rfl
  | 6, h => rfl
  | 7, h => rfl
  | 8, h => rfl
  | 9, h => rfl
  | 10, h => rfl
  | 11, h => rfl
  | 12, h => rfl
  | 13, h => rfl
  | 14, h => rfl
  | 15, h => rfl
  | 16, h => rfl
  | 17, h => rfl
  | 18, h => rfl
  | 19, h => rfl
  | 20, h => rfl
  | 21, h => rfl
  | 22, h => rfl
  | 23, h => rfl
  | 24, h => rfl
  | _ + 25, _ => rfl
theorem wI_3 {ga : Nat → Nat} {n : Nat} {cT cZ : ClassId} {M : cSt} {v : Int32} : (wld ga n cT cZ M).set 2 (ga 2, .inr (3, [.ref (ga 10), .ref (ga 11), .ref (ga 12), .int (gI M 2), .int v, .int (gI M 4), .int (gI M 5), .ref (ga 24)])) = wld ga n cT cZ (sI M 3 v) := wld_set (i := 2) (Ei_3 ga cT cZ M v) (Eo_3 ga cT cZ M v)
theorem Ei_4 (ga : Nat → Nat) (cT cZ : ClassId) (M : cSt) (v : Int32) : cE ga cT cZ (sI M 4 v) 2 = .inr (3, [.ref (ga 10), .ref (ga 11), .ref (ga 12), .int (gI M 2), .int (gI M 3), .int v, .int (gI M 5), .ref (ga 24)]) := rfl
theorem Eo_4 (ga : Nat → Nat) (cT cZ : ClassId) (M : cSt) (v : Int32) : ∀ i, i ≠ 2 → cE ga cT cZ (sI M 4 v) i = cE ga cT cZ M i
  | 0, h => rfl
  | 1, h => rfl
  | 2, h => absurd rfl h
  | 3, h => rfl
  | 4, h => rfl
  | 5, h => rfl
  | 6, h => rfl
  | 7, h => rfl
  | 8, h => rfl
  | 9, h => rfl
  | 10, h => rfl
  | 11, h => rfl
  | 12, h => rfl
  | 13, h => rfl
  | 14, h => rfl
  | 15, h => rfl
  | 16, h => rfl
  | 17, h => rfl
  | 18, h => rfl
  | 19, h => rfl
  | 20, h => rfl
  | 21, h => rfl
  | 22, h => rfl
  | 23, h => rfl
  | 24, h => rfl
  | _ + 25, _ => rfl
theorem wI_4 {ga : Nat → Nat} {n : Nat} {cT cZ : ClassId} {M : cSt} {v : Int32} : (wld ga n cT cZ M).set 2 (ga 2, .inr (3, [.ref (ga 10), .ref (ga 11), .ref (ga 12), .int (gI M 2), .int (gI M 3), .int v, .int (gI M 5), .ref (ga 24)])) = wld ga n cT cZ (sI M 4 v) := wld_set (i := 2) (Ei_4 ga cT cZ M v) (Eo_4 ga cT cZ M v)
theorem Ei_5 (ga : Nat → Nat) (cT cZ : ClassId) (M : cSt) (v : Int32) : cE ga cT cZ (sI M 5 v) 2 = .inr (3, [.ref (ga 10), .ref (ga 11), .ref (ga 12), .int (gI M 2), .int (gI M 3), .int (gI M 4), .int v, .ref (ga 24)]) := rfl
theorem Eo_5 (ga : Nat → Nat) (cT cZ : ClassId) (M : cSt) (v : Int32) : ∀ i, i ≠ 2 → cE ga cT cZ (sI M 5 v) i = cE ga cT cZ M i
  | 0, h => rfl
  | 1, h => rfl
  | 2, h => absurd rfl h
  | 3, h => rfl
  | 4, h => rfl
  | 5, h => rfl
  | 6, h => rfl
  | 7, h => rfl
  | 8, h => rfl
  | 9, h => rfl
  | 10, h => rfl
  | 11, h => rfl
  | 12, h => rfl
  | 13, h => rfl
  | 14, h => rfl
  | 15, h => rfl
  | 16, h => rfl
  | 17, h => rfl
  | 18, h => rfl
  | 19, h => rfl
  | 20, h => rfl
  | 21, h => rfl
  | 22, h => rfl
  | 23, h => rfl
  | 24, h => rfl
  | _ + 25, _ => rfl
theorem wI_5 {ga : Nat → Nat} {n : Nat} {cT cZ : ClassId} {M : cSt} {v : Int32} : (wld ga n cT cZ M).set 2 (ga 2, .inr (3, [.ref (ga 10), .ref (ga 11), .ref (ga 12), .int (gI M 2), .int (gI M 3), .int (gI M 4), .int v, .ref (ga 24)])) = wld ga n cT cZ (sI M 5 v) := wld_set (i := 2) (Ei_5 ga cT cZ M v) (Eo_5 ga cT cZ M v)
theorem Ei_6 (ga : Nat → Nat) (cT cZ : ClassId) (M : cSt) (v : Int32) : cE ga cT cZ (sI M 6 v) 3 = .inr (6, [.int v, .int (gI M 7), .int (gI M 8), .int (gI M 9)]) := rfl
theorem Eo_6 (ga : Nat → Nat) (cT cZ : ClassId) (M : cSt) (v : Int32) : ∀ i, i ≠ 3 → cE ga cT cZ (sI M 6 v) i = cE ga cT cZ M i
  | 0, h => rfl
  | 1, h => rfl
  | 2, h => rfl
  | 3, h => absurd rfl h
  | 4, h => rfl
  | 5, h => rfl
  | 6, h => rfl
  | 7, h => rfl
  | 8, h => rfl
  | 9, h => rfl
  | 10, h => rfl
  | 11, h => rfl
  | 12, h => rfl
  | 13, h => rfl
  | 14, h => rfl
  | 15, h => rfl
  | 16, h => rfl
  | 17, h => rfl
  | 18, h => rfl
  | 19, h => rfl
  | 20, h => rfl
  | 21, h => rfl
  | 22, h => rfl
  | 23, h => rfl
  | 24, h => rfl
  | _ + 25, _ => rfl
theorem wI_6 {ga : Nat → Nat} {n : Nat} {cT cZ : ClassId} {M : cSt} {v : Int32} : (wld ga n cT cZ M).set 3 (ga 3, .inr (6, [.int v, .int (gI M 7), .int (gI M 8), .int (gI M 9)])) = wld ga n cT cZ (sI M 6 v) := wld_set (i := 3) (Ei_6 ga cT cZ M v) (Eo_6 ga cT cZ M v)
theorem Ei_7 (ga : Nat → Nat) (cT cZ : ClassId) (M : cSt) (v : Int32) : cE ga cT cZ (sI M 7 v) 3 = .inr (6, [.int (gI M 6), .int v, .int (gI M 8), .int (gI M 9)]) := rfl
theorem Eo_7 (ga : Nat → Nat) (cT cZ : ClassId) (M : cSt) (v : Int32) : ∀ i, i ≠ 3 → cE ga cT cZ (sI M 7 v) i = cE ga cT cZ M i
  | 0, h => rfl
  | 1, h => rfl
  | 2, h => rfl
  | 3, h => absurd rfl h
  | 4, h => rfl
  | 5, h => rfl
  | 6, h => rfl
  | 7, h => rfl
  | 8, h => rfl
  | 9, h => rfl
  | 10, h => rfl
  | 11, h => rfl
  | 12, h => rfl
  | 13, h => rfl
  | 14, h => rfl
  | 15, h => rfl
  | 16, h => rfl
  | 17, h => rfl
  | 18, h => rfl
  | 19, h => rfl
  | 20, h => rfl
  | 21, h => rfl
  | 22, h => rfl
  | 23, h => rfl
  | 24, h => rfl
  | _ + 25, _ => rfl
theorem wI_7 {ga : Nat → Nat} {n : Nat} {cT cZ : ClassId} {M : cSt} {v : Int32} : (wld ga n cT cZ M).set 3 (ga 3, .inr (6, [.int (gI M 6), .int v, .int (gI M 8), .int (gI M 9)])) = wld ga n cT cZ (sI M 7 v) := wld_set (i := 3) (Ei_7 ga cT cZ M v) (Eo_7 ga cT cZ M v)
theorem Ei_8 (ga : Nat → Nat) (cT cZ : ClassId) (M : cSt) (v : Int32) : cE ga cT cZ (sI M 8 v) 3 = .inr (6, [.int (gI M 6), .int (gI M 7), .int v, .int (gI M 9)]) := rfl
theorem Eo_8 (ga : Nat → Nat) (cT cZ : ClassId) (M : cSt) (v : Int32) : ∀ i, i ≠ 3 → cE ga cT cZ (sI M 8 v) i = cE ga cT cZ M i
  | 0, h => rfl
  | 1, h => rfl
  | 2, h => rfl
  | 3, h => absurd rfl h
  | 4, h => rfl
  | 5, h => rfl
  | 6, h => rfl
  | 7, h => rfl
  | 8, h => rfl
  | 9, h => rfl
  | 10, h => rfl
  | 11, h => rfl
  | 12, h => rfl
  | 13, h => rfl
  | 14, h => rfl
  | 15, h => rfl
  | 16, h => rfl
  | 17, h => rfl
  | 18, h => rfl
  | 19, h => rfl
  | 20, h => rfl
  | 21, h => rfl
  | 22, h => rfl
  | 23, h => rfl
  | 24, h => rfl
  | _ + 25, _ => rfl
theorem wI_8 {ga : Nat → Nat} {n : Nat} {cT cZ : ClassId} {M : cSt} {v : Int32} : (wld ga n cT cZ M).set 3 (ga 3, .inr (6, [.int (gI M 6), .int (gI M 7), .int v, .int (gI M 9)])) = wld ga n cT cZ (sI M 8 v) := wld_set (i := 3) (Ei_8 ga cT cZ M v) (Eo_8 ga cT cZ M v)
theorem Ei_9 (ga : Nat → Nat) (cT cZ : ClassId) (M : cSt) (v : Int32) : cE ga cT cZ (sI M 9 v) 3 = .inr (6, [.int (gI M 6), .int (gI M 7), .int (gI M 8), .int v]) := rfl
theorem Eo_9 (ga : Nat → Nat) (cT cZ : ClassId) (M : cSt) (v : Int32) : ∀ i, i ≠ 3 → cE ga cT cZ (sI M 9 v) i = cE ga cT cZ M i
  | 0, h => rfl
  | 1, h => rfl
  | 2, h => rfl
  | 3, h => absurd rfl h
  | 4, h => rfl
  | 5, h => rfl
  | 6, h => rfl
  | 7, h => rfl
  | 8, h => rfl
  | 9, h => rfl
  | 10, h => rfl
  | 11, h => rfl
  | 12, h => rfl
  | 13, h => rfl
  | 14, h => rfl
  | 15, h => rfl
  | 16, h => rfl
  | 17, h => rfl
  | 18, h => rfl
  | 19, h => rfl
  | 20, h => rfl
  | 21, h => rfl
  | 22, h => rfl
  | 23, h => rfl
  | 24, h => rfl
  | _ + 25, _ => rfl
theorem wI_9 {ga : Nat → Nat} {n : Nat} {cT cZ : ClassId} {M : cSt} {v : Int32} : (wld ga n cT cZ M).set 3 (ga 3, .inr (6, [.int (gI M 6), .int (gI M 7), .int (gI M 8), .int v])) = wld ga n cT cZ (sI M 9 v) := wld_set (i := 3) (Ei_9 ga cT cZ M v) (Eo_9 ga cT cZ M v)
theorem Ei_17 (ga : Nat → Nat) (cT cZ : ClassId) (M : cSt) (v : Int32) : cE ga cT cZ (sI M 17 v) 4 = .inr (1, [.ref (ga 8), .ref (ga 1), .int v]) := rfl
theorem Eo_17 (ga : Nat → Nat) (cT cZ : ClassId) (M : cSt) (v : Int32) : ∀ i, i ≠ 4 → cE ga cT cZ (sI M 17 v) i = cE ga cT cZ M i
  | 0, h => rfl
  | 1, h => rfl
  | 2, h => rfl
  | 3, h => rfl
  | 4, h => absurd rfl h
  | 5, h => rfl
  | 6, h => rfl
  | 7, h => rfl
  | 8, h => rfl
  | 9, h => rfl
  | 10, h => rfl
  | 11, h => rfl
  | 12, h => rfl
  | 13, h => rfl
  | 14, h => rfl
  | 15, h => rfl
  | 16, h => rfl
  | 17, h => rfl
  | 18, h => rfl
  | 19, h => rfl
  | 20, h => rfl
  | 21, h => rfl
  | 22, h => rfl
  | 23, h => rfl
  | 24, h => rfl
  | _ + 25, _ => rfl
theorem wI_17 {ga : Nat → Nat} {n : Nat} {cT cZ : ClassId} {M : cSt} {v : Int32} : (wld ga n cT cZ M).set 4 (ga 4, .inr (1, [.ref (ga 8), .ref (ga 1), .int v])) = wld ga n cT cZ (sI M 17 v) := wld_set (i := 4) (Ei_17 ga cT cZ M v) (Eo_17 ga cT cZ M v)
theorem Ei_18 (ga : Nat → Nat) (cT cZ : ClassId) (M : cSt) (v : Int32) : cE ga cT cZ (sI M 18 v) 5 = .inr (8, [.ref (ga 8), .ref (ga 1), .ref (ga 13), .int v, .int (gI M 19), ctv ga (gR M 9 0)]) := rfl
theorem Eo_18 (ga : Nat → Nat) (cT cZ : ClassId) (M : cSt) (v : Int32) : ∀ i, i ≠ 5 → cE ga cT cZ (sI M 18 v) i = cE ga cT cZ M i
  | 0, h => rfl
  | 1, h => rfl
  | 2, h => rfl
  | 3, h => rfl
  | 4, h => rfl
  | 5, h => absurd rfl h
  | 6, h => rfl
  | 7, h => rfl
  | 8, h => rfl
  | 9, h => rfl
  | 10, h => rfl
  | 11, h => rfl
  | 12, h => rfl
  | 13, h => rfl
  | 14, h => rfl
  | 15, h => rfl
  | 16, h => rfl
  | 17, h => rfl
  | 18, h => rfl
  | 19, h => rfl
  | 20, h => rfl
  | 21, h => rfl
  | 22, h => rfl
  | 23, h => rfl
  | 24, h => rfl
  | _ + 25, _ => rfl
theorem wI_18 {ga : Nat → Nat} {n : Nat} {cT cZ : ClassId} {M : cSt} {v : Int32} : (wld ga n cT cZ M).set 5 (ga 5, .inr (8, [.ref (ga 8), .ref (ga 1), .ref (ga 13), .int v, .int (gI M 19), ctv ga (gR M 9 0)])) = wld ga n cT cZ (sI M 18 v) := wld_set (i := 5) (Ei_18 ga cT cZ M v) (Eo_18 ga cT cZ M v)
theorem Ei_19 (ga : Nat → Nat) (cT cZ : ClassId) (M : cSt) (v : Int32) : cE ga cT cZ (sI M 19 v) 5 = .inr (8, [.ref (ga 8), .ref (ga 1), .ref (ga 13), .int (gI M 18), .int v, ctv ga (gR M 9 0)]) := rfl
theorem Eo_19 (ga : Nat → Nat) (cT cZ : ClassId) (M : cSt) (v : Int32) : ∀ i, i ≠ 5 → cE ga cT cZ (sI M 19 v) i = cE ga cT cZ M i
  | 0, h => rfl
  | 1, h => rfl
  | 2, h => rfl
  | 3, h => rfl
  | 4, h => rfl
  | 5, h => absurd rfl h
  | 6, h => rfl
  | 7, h => rfl
  | 8, h => rfl
  | 9, h => rfl
  | 10, h => rfl
  | 11, h => rfl
  | 12, h => rfl
  | 13, h => rfl
  | 14, h => rfl
  | 15, h => rfl
  | 16, h => rfl
  | 17, h => rfl
  | 18, h => rfl
  | 19, h => rfl
  | 20, h => rfl
  | 21, h => rfl
  | 22, h => rfl
  | 23, h => rfl
  | 24, h => rfl
  | _ + 25, _ => rfl
theorem wI_19 {ga : Nat → Nat} {n : Nat} {cT cZ : ClassId} {M : cSt} {v : Int32} : (wld ga n cT cZ M).set 5 (ga 5, .inr (8, [.ref (ga 8), .ref (ga 1), .ref (ga 13), .int (gI M 18), .int v, ctv ga (gR M 9 0)])) = wld ga n cT cZ (sI M 19 v) := wld_set (i := 5) (Ei_19 ga cT cZ M v) (Eo_19 ga cT cZ M v)
theorem Ei_20 (ga : Nat → Nat) (cT cZ : ClassId) (M : cSt) (v : Int32) : cE ga cT cZ (sI M 20 v) 6 = .inr (2, [.int v, .ref (ga 8), .ref (ga 1), .ref (ga 2), .ref (ga 3), .ref (ga 14), .int (gI M 21), .int (gI M 22), .int (gI M 23)]) := rfl
theorem Eo_20 (ga : Nat → Nat) (cT cZ : ClassId) (M : cSt) (v : Int32) : ∀ i, i ≠ 6 → cE ga cT cZ (sI M 20 v) i = cE ga cT cZ M i
  | 0, h => rfl
  | 1, h => rfl
  | 2, h => rfl
  | 3, h => rfl
  | 4, h => rfl
  | 5, h => rfl
  | 6, h => absurd rfl h
  | 7, h => rfl
  | 8, h => rfl
  | 9, h => rfl
  | 10, h => rfl
  | 11, h => rfl
  | 12, h => rfl
  | 13, h => rfl
  | 14, h => rfl
  | 15, h => rfl
  | 16, h => rfl
  | 17, h => rfl
  | 18, h => rfl
  | 19, h => rfl
  | 20, h => rfl
  | 21, h => rfl
  | 22, h => rfl
  | 23, h => rfl
  | 24, h => rfl
  | _ + 25, _ => rfl
theorem wI_20 {ga : Nat → Nat} {n : Nat} {cT cZ : ClassId} {M : cSt} {v : Int32} : (wld ga n cT cZ M).set 6 (ga 6, .inr (2, [.int v, .ref (ga 8), .ref (ga 1), .ref (ga 2), .ref (ga 3), .ref (ga 14), .int (gI M 21), .int (gI M 22), .int (gI M 23)])) = wld ga n cT cZ (sI M 20 v) := wld_set (i := 6) (Ei_20 ga cT cZ M v) (Eo_20 ga cT cZ M v)
theorem Ei_21 (ga : Nat → Nat) (cT cZ : ClassId) (M : cSt) (v : Int32) : cE ga cT cZ (sI M 21 v) 6 = .inr (2, [.int (gI M 20), .ref (ga 8), .ref (ga 1), .ref (ga 2), .ref (ga 3), .ref (ga 14), .int v, .int (gI M 22), .int (gI M 23)]) := rfl
theorem Eo_21 (ga : Nat → Nat) (cT cZ : ClassId) (M : cSt) (v : Int32) : ∀ i, i ≠ 6 → cE ga cT cZ (sI M 21 v) i = cE ga cT cZ M i
  | 0, h => rfl
  | 1, h => rfl
  | 2, h => rfl
  | 3, h => rfl
  | 4, h => rfl
  | 5, h => rfl
  | 6, h => absurd rfl h
  | 7, h => rfl
  | 8, h => rfl
  | 9, h => rfl
  | 10, h => rfl
  | 11, h => rfl
  | 12, h => rfl
  | 13, h => rfl
  | 14, h => rfl
  | 15, h => rfl
  | 16, h => rfl
  | 17, h => rfl
  | 18, h => rfl
  | 19, h => rfl
  | 20, h => rfl
  | 21, h => rfl
  | 22, h => rfl
  | 23, h => rfl
  | 24, h => rfl
  | _ + 25, _ => rfl
theorem wI_21 {ga : Nat → Nat} {n : Nat} {cT cZ : ClassId} {M : cSt} {v : Int32} : (wld ga n cT cZ M).set 6 (ga 6, .inr (2, [.int (gI M 20), .ref (ga 8), .ref (ga 1), .ref (ga 2), .ref (ga 3), .ref (ga 14), .int v, .int (gI M 22), .int (gI M 23)])) = wld ga n cT cZ (sI M 21 v) := wld_set (i := 6) (Ei_21 ga cT cZ M v) (Eo_21 ga cT cZ M v)
theorem Ei_22 (ga : Nat → Nat) (cT cZ : ClassId) (M : cSt) (v : Int32) : cE ga cT cZ (sI M 22 v) 6 = .inr (2, [.int (gI M 20), .ref (ga 8), .ref (ga 1), .ref (ga 2), .ref (ga 3), .ref (ga 14), .int (gI M 21), .int v, .int (gI M 23)]) := rfl
theorem Eo_22 (ga : Nat → Nat) (cT cZ : ClassId) (M : cSt) (v : Int32) : ∀ i, i ≠ 6 → cE ga cT cZ (sI M 22 v) i = cE ga cT cZ M i
  | 0, h => rfl
  | 1, h => rfl
  | 2, h => rfl
  | 3, h => rfl
  | 4, h => rfl
  | 5, h => rfl
  | 6, h => absurd rfl h
  | 7, h => rfl
  | 8, h => rfl
  | 9, h => rfl
  | 10, h => rfl
  | 11, h => rfl
  | 12, h => rfl
  | 13, h => rfl
  | 14, h => rfl
  | 15, h => rfl
  | 16, h => rfl
  | 17, h => rfl
  | 18, h => rfl
  | 19, h => rfl
  | 20, h => rfl
  | 21, h => rfl
  | 22, h => rfl
  | 23, h => rfl
  | 24, h => rfl
  | _ + 25, _ => rfl
theorem wI_22 {ga : Nat → Nat} {n : Nat} {cT cZ : ClassId} {M : cSt} {v : Int32} : (wld ga n cT cZ M).set 6 (ga 6, .inr (2, [.int (gI M 20), .ref (ga 8), .ref (ga 1), .ref (ga 2), .ref (ga 3), .ref (ga 14), .int (gI M 21), .int v, .int (gI M 23)])) = wld ga n cT cZ (sI M 22 v) := wld_set (i := 6) (Ei_22 ga cT cZ M v) (Eo_22 ga cT cZ M v)
theorem Ei_23 (ga : Nat → Nat) (cT cZ : ClassId) (M : cSt) (v : Int32) : cE ga cT cZ (sI M 23 v) 6 = .inr (2, [.int (gI M 20), .ref (ga 8), .ref (ga 1), .ref (ga 2), .ref (ga 3), .ref (ga 14), .int (gI M 21), .int (gI M 22), .int v]) := rfl
theorem Eo_23 (ga : Nat → Nat) (cT cZ : ClassId) (M : cSt) (v : Int32) : ∀ i, i ≠ 6 → cE ga cT cZ (sI M 23 v) i = cE ga cT cZ M i
  | 0, h => rfl
  | 1, h => rfl
  | 2, h => rfl
  | 3, h => rfl
  | 4, h => rfl
  | 5, h => rfl
  | 6, h => absurd rfl h
  | 7, h => rfl
  | 8, h => rfl
  | 9, h => rfl
  | 10, h => rfl
  | 11, h => rfl
  | 12, h => rfl
  | 13, h => rfl
  | 14, h => rfl
  | 15, h => rfl
  | 16, h => rfl
  | 17, h => rfl
  | 18, h => rfl
  | 19, h => rfl
  | 20, h => rfl
  | 21, h => rfl
  | 22, h => rfl
  | 23, h => rfl
  | 24, h => rfl
  | _ + 25, _ => rfl
theorem wI_23 {ga : Nat → Nat} {n : Nat} {cT cZ : ClassId} {M : cSt} {v : Int32} : (wld ga n cT cZ M).set 6 (ga 6, .inr (2, [.int (gI M 20), .ref (ga 8), .ref (ga 1), .ref (ga 2), .ref (ga 3), .ref (ga 14), .int (gI M 21), .int (gI M 22), .int v])) = wld ga n cT cZ (sI M 23 v) := wld_set (i := 6) (Ei_23 ga cT cZ M v) (Eo_23 ga cT cZ M v)
theorem Eor_0 (ga : Nat → Nat) (cT cZ : ClassId) (M : cSt) (v : Int32) : ∀ i, i ≠ 8 → cE ga cT cZ (sI M 10 v) i = cE ga cT cZ M i
  | 0, h => rfl
  | 1, h => rfl
  | 2, h => rfl
  | 3, h => rfl
  | 4, h => rfl
  | 5, h => rfl
  | 6, h => rfl
  | 7, h => rfl
  | 8, h => absurd rfl h
  | 9, h => rfl
  | 10, h => rfl
  | 11, h => rfl
  | 12, h => rfl
  | 13, h => rfl
  | 14, h => rfl
  | 15, h => rfl
  | 16, h => rfl
  | 17, h => rfl
  | 18, h => rfl
  | 19, h => rfl
  | 20, h => rfl
  | 21, h => rfl
  | 22, h => rfl
  | 23, h => rfl
  | 24, h => rfl
  | _ + 25, _ => rfl
theorem Eor_1 (ga : Nat → Nat) (cT cZ : ClassId) (M : cSt) (v : Int32) : ∀ i, i ≠ 9 → cE ga cT cZ (sI M 11 v) i = cE ga cT cZ M i
  | 0, h => rfl
  | 1, h => rfl
  | 2, h => rfl
  | 3, h => rfl
  | 4, h => rfl
  | 5, h => rfl
  | 6, h => rfl
  | 7, h => rfl
  | 8, h => rfl
  | 9, h => absurd rfl h
  | 10, h => rfl
  | 11, h => rfl
  | 12, h => rfl
  | 13, h => rfl
  | 14, h => rfl
  | 15, h => rfl
  | 16, h => rfl
  | 17, h => rfl
  | 18, h => rfl
  | 19, h => rfl
  | 20, h => rfl
  | 21, h => rfl
  | 22, h => rfl
  | 23, h => rfl
  | 24, h => rfl
  | _ + 25, _ => rfl
theorem Eor_2 (ga : Nat → Nat) (cT cZ : ClassId) (M : cSt) (v : Int32) : ∀ i, i ≠ 10 → cE ga cT cZ (sI M 12 v) i = cE ga cT cZ M i
  | 0, h => rfl
  | 1, h => rfl
  | 2, h => rfl
  | 3, h => rfl
  | 4, h => rfl
  | 5, h => rfl
  | 6, h => rfl
  | 7, h => rfl
  | 8, h => rfl
  | 9, h => rfl
  | 10, h => absurd rfl h
  | 11, h => rfl
  | 12, h => rfl
  | 13, h => rfl
  | 14, h => rfl
  | 15, h => rfl
  | 16, h => rfl
  | 17, h => rfl
  | 18, h => rfl
  | 19, h => rfl
  | 20, h => rfl
  | 21, h => rfl
  | 22, h => rfl
  | 23, h => rfl
  | 24, h => rfl
  | _ + 25, _ => rfl
theorem Eor_3 (ga : Nat → Nat) (cT cZ : ClassId) (M : cSt) (v : Int32) : ∀ i, i ≠ 11 → cE ga cT cZ (sI M 13 v) i = cE ga cT cZ M i
  | 0, h => rfl
  | 1, h => rfl
  | 2, h => rfl
  | 3, h => rfl
  | 4, h => rfl
  | 5, h => rfl
  | 6, h => rfl
  | 7, h => rfl
  | 8, h => rfl
  | 9, h => rfl
  | 10, h => rfl
  | 11, h => absurd rfl h
  | 12, h => rfl
  | 13, h => rfl
  | 14, h => rfl
  | 15, h => rfl
  | 16, h => rfl
  | 17, h => rfl
  | 18, h => rfl
  | 19, h => rfl
  | 20, h => rfl
  | 21, h => rfl
  | 22, h => rfl
  | 23, h => rfl
  | 24, h => rfl
  | _ + 25, _ => rfl
theorem Eor_4 (ga : Nat → Nat) (cT cZ : ClassId) (M : cSt) (v : Int32) : ∀ i, i ≠ 12 → cE ga cT cZ (sI M 14 v) i = cE ga cT cZ M i
  | 0, h => rfl
  | 1, h => rfl
  | 2, h => rfl
  | 3, h => rfl
  | 4, h => rfl
  | 5, h => rfl
  | 6, h => rfl
  | 7, h => rfl
  | 8, h => rfl
  | 9, h => rfl
  | 10, h => rfl
  | 11, h => rfl
  | 12, h => absurd rfl h
  | 13, h => rfl
  | 14, h => rfl
  | 15, h => rfl
  | 16, h => rfl
  | 17, h => rfl
  | 18, h => rfl
  | 19, h => rfl
  | 20, h => rfl
  | 21, h => rfl
  | 22, h => rfl
  | 23, h => rfl
  | 24, h => rfl
  | _ + 25, _ => rfl
theorem Eor_5 (ga : Nat → Nat) (cT cZ : ClassId) (M : cSt) (v : Int32) : ∀ i, i ≠ 13 → cE ga cT cZ (sI M 15 v) i = cE ga cT cZ M i
  | 0, h => rfl
  | 1, h => rfl
  | 2, h => rfl
  | 3, h => rfl
  | 4, h => rfl
  | 5, h => rfl
  | 6, h => rfl
  | 7, h => rfl
  | 8, h => rfl
  | 9, h => rfl
  | 10, h => rfl
  | 11, h => rfl
  | 12, h => rfl
  | 13, h => absurd rfl h
  | 14, h => rfl
  | 15, h => rfl
  | 16, h => rfl
  | 17, h => rfl
  | 18, h => rfl
  | 19, h => rfl
  | 20, h => rfl
  | 21, h => rfl
  | 22, h => rfl
  | 23, h => rfl
  | 24, h => rfl
  | _ + 25, _ => rfl
theorem Eor_6 (ga : Nat → Nat) (cT cZ : ClassId) (M : cSt) (v : Int32) : ∀ i, i ≠ 14 → cE ga cT cZ (sI M 16 v) i = cE ga cT cZ M i
  | 0, h => rfl
  | 1, h => rfl
  | 2, h => rfl
  | 3, h => rfl
  | 4, h => rfl
  | 5, h => rfl
  | 6, h => rfl
  | 7, h => rfl
  | 8, h => rfl
  | 9, h => rfl
  | 10, h => rfl
  | 11, h => rfl
  | 12, h => rfl
  | 13, h => rfl
  | 14, h => absurd rfl h
  | 15, h => rfl
  | 16, h => rfl
  | 17, h => rfl
  | 18, h => rfl
  | 19, h => rfl
  | 20, h => rfl
  | 21, h => rfl
  | 22, h => rfl
  | 23, h => rfl
  | 24, h => rfl
  | _ + 25, _ => rfl
theorem Eor (ga : Nat → Nat) (cT cZ : ClassId) (M : cSt) (v : Int32) {r : Nat} (h : r < 7) : ∀ i, i ≠ 8 + r → cE ga cT cZ (sI M (10 + r) v) i = cE ga cT cZ M i := by
  rcases (show r = 0 ∨ r = 1 ∨ r = 2 ∨ r = 3 ∨ r = 4 ∨ r = 5 ∨ r = 6 by omega) with rfl | rfl | rfl | rfl | rfl | rfl | rfl
  · exact Eor_0 ga cT cZ M v
  · exact Eor_1 ga cT cZ M v
  · exact Eor_2 ga cT cZ M v
  · exact Eor_3 ga cT cZ M v
  · exact Eor_4 ga cT cZ M v
  · exact Eor_5 ga cT cZ M v
  · exact Eor_6 ga cT cZ M v
theorem wIr {ga : Nat → Nat} {n : Nat} {cT cZ : ClassId} {M : cSt} {v : Int32} {r : Nat} (h : r < 7) : (wld ga n cT cZ M).set (8 + r) (ga (8 + r), .inr (5, [.ref (ga (15 + r)), .int v])) = wld ga n cT cZ (sI M (10 + r) v) :=
  wld_set (i := 8 + r) ((E_ro ga cT cZ _ h).trans (by simp [cEro, gI, gIf_sI, va_up])) (Eor ga cT cZ M v h)
theorem Erow_0 (ga : Nat → Nat) (cT cZ : ClassId) (M : cSt) (a : Nat) (v : Option Nat) : ∀ i, i ≠ 15 → cE ga cT cZ (sR M 0 a v) i = cE ga cT cZ M i
  | 0, h => rfl
  | 1, h => rfl
  | 2, h => rfl
  | 3, h => rfl
  | 4, h => rfl
  | 5, h => rfl
  | 6, h => rfl
  | 7, h => rfl
  | 8, h => rfl
  | 9, h => rfl
  | 10, h => rfl
  | 11, h => rfl
  | 12, h => rfl
  | 13, h => rfl
  | 14, h => rfl
  | 15, h => absurd rfl h
  | 16, h => rfl
  | 17, h => rfl
  | 18, h => rfl
  | 19, h => rfl
  | 20, h => rfl
  | 21, h => rfl
  | 22, h => rfl
  | 23, h => rfl
  | 24, h => rfl
  | _ + 25, _ => rfl
theorem Erow_1 (ga : Nat → Nat) (cT cZ : ClassId) (M : cSt) (a : Nat) (v : Option Nat) : ∀ i, i ≠ 16 → cE ga cT cZ (sR M 1 a v) i = cE ga cT cZ M i
  | 0, h => rfl
  | 1, h => rfl
  | 2, h => rfl
  | 3, h => rfl
  | 4, h => rfl
  | 5, h => rfl
  | 6, h => rfl
  | 7, h => rfl
  | 8, h => rfl
  | 9, h => rfl
  | 10, h => rfl
  | 11, h => rfl
  | 12, h => rfl
  | 13, h => rfl
  | 14, h => rfl
  | 15, h => rfl
  | 16, h => absurd rfl h
  | 17, h => rfl
  | 18, h => rfl
  | 19, h => rfl
  | 20, h => rfl
  | 21, h => rfl
  | 22, h => rfl
  | 23, h => rfl
  | 24, h => rfl
  | _ + 25, _ => rfl
theorem Erow_2 (ga : Nat → Nat) (cT cZ : ClassId) (M : cSt) (a : Nat) (v : Option Nat) : ∀ i, i ≠ 17 → cE ga cT cZ (sR M 2 a v) i = cE ga cT cZ M i
  | 0, h => rfl
  | 1, h => rfl
  | 2, h => rfl
  | 3, h => rfl
  | 4, h => rfl
  | 5, h => rfl
  | 6, h => rfl
  | 7, h => rfl
  | 8, h => rfl
  | 9, h => rfl
  | 10, h => rfl
  | 11, h => rfl
  | 12, h => rfl
  | 13, h => rfl
  | 14, h => rfl
  | 15, h => rfl
  | 16, h => rfl
  | 17, h => absurd rfl h
  | 18, h => rfl
  | 19, h => rfl
  | 20, h => rfl
  | 21, h => rfl
  | 22, h => rfl
  | 23, h => rfl
  | 24, h => rfl
  | _ + 25, _ => rfl
theorem Erow_3 (ga : Nat → Nat) (cT cZ : ClassId) (M : cSt) (a : Nat) (v : Option Nat) : ∀ i, i ≠ 18 → cE ga cT cZ (sR M 3 a v) i = cE ga cT cZ M i
  | 0, h => rfl
  | 1, h => rfl
  | 2, h => rfl
  | 3, h => rfl
  | 4, h => rfl
  | 5, h => rfl
  | 6, h => rfl
  | 7, h => rfl
  | 8, h => rfl
  | 9, h => rfl
  | 10, h => rfl
  | 11, h => rfl
  | 12, h => rfl
  | 13, h => rfl
  | 14, h => rfl
  | 15, h => rfl
  | 16, h => rfl
  | 17, h => rfl
  | 18, h => absurd rfl h
  | 19, h => rfl
  | 20, h => rfl
  | 21, h => rfl
  | 22, h => rfl
  | 23, h => rfl
  | 24, h => rfl
  | _ + 25, _ => rfl
theorem Erow_4 (ga : Nat → Nat) (cT cZ : ClassId) (M : cSt) (a : Nat) (v : Option Nat) : ∀ i, i ≠ 19 → cE ga cT cZ (sR M 4 a v) i = cE ga cT cZ M i
  | 0, h => rfl
  | 1, h => rfl
  | 2, h => rfl
  | 3, h => rfl
  | 4, h => rfl
  | 5, h => rfl
  | 6, h => rfl
  | 7, h => rfl
  | 8, h => rfl
  | 9, h => rfl
  | 10, h => rfl
  | 11, h => rfl
  | 12, h => rfl
  | 13, h => rfl
  | 14, h => rfl
  | 15, h => rfl
  | 16, h => rfl
  | 17, h => rfl
  | 18, h => rfl
  | 19, h => absurd rfl h
  | 20, h => rfl
  | 21, h => rfl
  | 22, h => rfl
  | 23, h => rfl
  | 24, h => rfl
  | _ + 25, _ => rfl
theorem Erow_5 (ga : Nat → Nat) (cT cZ : ClassId) (M : cSt) (a : Nat) (v : Option Nat) : ∀ i, i ≠ 20 → cE ga cT cZ (sR M 5 a v) i = cE ga cT cZ M i
  | 0, h => rfl
  | 1, h => rfl
  | 2, h => rfl
  | 3, h => rfl
  | 4, h => rfl
  | 5, h => rfl
  | 6, h => rfl
  | 7, h => rfl
  | 8, h => rfl
  | 9, h => rfl
  | 10, h => rfl
  | 11, h => rfl
  | 12, h => rfl
  | 13, h => rfl
  | 14, h => rfl
  | 15, h => rfl
  | 16, h => rfl
  | 17, h => rfl
  | 18, h => rfl
  | 19, h => rfl
  | 20, h => absurd rfl h
  | 21, h => rfl
  | 22, h => rfl
  | 23, h => rfl
  | 24, h => rfl
  | _ + 25, _ => rfl
theorem Erow_6 (ga : Nat → Nat) (cT cZ : ClassId) (M : cSt) (a : Nat) (v : Option Nat) : ∀ i, i ≠ 21 → cE ga cT cZ (sR M 6 a v) i = cE ga cT cZ M i
  | 0, h => rfl
  | 1, h => rfl
  | 2, h => rfl
  | 3, h => rfl
  | 4, h => rfl
  | 5, h => rfl
  | 6, h => rfl
  | 7, h => rfl
  | 8, h => rfl
  | 9, h => rfl
  | 10, h => rfl
  | 11, h => rfl
  | 12, h => rfl
  | 13, h => rfl
  | 14, h => rfl
  | 15, h => rfl
  | 16, h => rfl
  | 17, h => rfl
  | 18, h => rfl
  | 19, h => rfl
  | 20, h => rfl
  | 21, h => absurd rfl h
  | 22, h => rfl
  | 23, h => rfl
  | 24, h => rfl
  | _ + 25, _ => rfl
theorem Erow_7 (ga : Nat → Nat) (cT cZ : ClassId) (M : cSt) (a : Nat) (v : Option Nat) : ∀ i, i ≠ 22 → cE ga cT cZ (sR M 7 a v) i = cE ga cT cZ M i
  | 0, h => rfl
  | 1, h => rfl
  | 2, h => rfl
  | 3, h => rfl
  | 4, h => rfl
  | 5, h => rfl
  | 6, h => rfl
  | 7, h => rfl
  | 8, h => rfl
  | 9, h => rfl
  | 10, h => rfl
  | 11, h => rfl
  | 12, h => rfl
  | 13, h => rfl
  | 14, h => rfl
  | 15, h => rfl
  | 16, h => rfl
  | 17, h => rfl
  | 18, h => rfl
  | 19, h => rfl
  | 20, h => rfl
  | 21, h => rfl
  | 22, h => absurd rfl h
  | 23, h => rfl
  | 24, h => rfl
  | _ + 25, _ => rfl
theorem Erow_8 (ga : Nat → Nat) (cT cZ : ClassId) (M : cSt) (a : Nat) (v : Option Nat) : ∀ i, i ≠ 23 → cE ga cT cZ (sR M 8 a v) i = cE ga cT cZ M i
  | 0, h => rfl
  | 1, h => rfl
  | 2, h => rfl
  | 3, h => rfl
  | 4, h => rfl
  | 5, h => rfl
  | 6, h => rfl
  | 7, h => rfl
  | 8, h => rfl
  | 9, h => rfl
  | 10, h => rfl
  | 11, h => rfl
  | 12, h => rfl
  | 13, h => rfl
  | 14, h => rfl
  | 15, h => rfl
  | 16, h => rfl
  | 17, h => rfl
  | 18, h => rfl
  | 19, h => rfl
  | 20, h => rfl
  | 21, h => rfl
  | 22, h => rfl
  | 23, h => absurd rfl h
  | 24, h => rfl
  | _ + 25, _ => rfl
theorem rf_up (ga : Nat → Nat) (f : Nat → Option Nat) (a : Nat) (v : Option Nat) : va_up (crf ga f) a (v.map (fun k => ga (25 + 2 * k))) = crf ga (va_up f a v) := by
  funext j; unfold crf va_up; by_cases h : j = a
  · rw [if_pos h, if_pos h]
  · rw [if_neg h, if_neg h]
theorem Erow (ga : Nat → Nat) (cT cZ : ClassId) (M : cSt) (a : Nat) (v : Option Nat) {r : Nat} (h : r < 9) : ∀ i, i ≠ 15 + r → cE ga cT cZ (sR M r a v) i = cE ga cT cZ M i := by
  rcases (show r = 0 ∨ r = 1 ∨ r = 2 ∨ r = 3 ∨ r = 4 ∨ r = 5 ∨ r = 6 ∨ r = 7 ∨ r = 8 by omega) with rfl | rfl | rfl | rfl | rfl | rfl | rfl | rfl | rfl
  · exact Erow_0 ga cT cZ M a v
  · exact Erow_1 ga cT cZ M a v
  · exact Erow_2 ga cT cZ M a v
  · exact Erow_3 ga cT cZ M a v
  · exact Erow_4 ga cT cZ M a v
  · exact Erow_5 ga cT cZ M a v
  · exact Erow_6 ga cT cZ M a v
  · exact Erow_7 ga cT cZ M a v
  · exact Erow_8 ga cT cZ M a v
theorem Erw_sR (ga : Nat → Nat) (cT : ClassId) (M : cSt) (r len a : Nat) (v : Option Nat) : cErw ga cT (sR M r a v) r len = .inl (cT, len, .inr (.inr (.inr (.inr (va_up (crf ga (gR M r)) a (v.map (fun k => ga (25 + 2 * k)))))))) := by
  rw [rf_up]
  show (Sum.inl (cT, len, Sum.inr (Sum.inr (Sum.inr (Sum.inr (crf ga (gRf (sR M r a v) r)))))) : va_E) = _
  rw [show gRf (sR M r a v) r = va_up (gRf M r) a v from by rw [gRf_sR]; unfold va_up; rw [if_pos rfl]]
/-- writing a place of a row's array -/
theorem wRr {ga : Nat → Nat} {n : Nat} {cT cZ : ClassId} {M : cSt} {a : Nat} {v : Option Nat} {r : Nat} (h : r < 7) : (wld ga n cT cZ M).set (15 + r) (ga (15 + r), .inl (cT, 200, .inr (.inr (.inr (.inr (va_up (crf ga (gR M r)) a (v.map (fun k => ga (25 + 2 * k))))))))) = wld ga n cT cZ (sR M r a v) :=
  wld_set (i := 15 + r) ((E_rw ga cT cZ _ h).trans (Erw_sR ga cT M r 200 a v)) (Erow ga cT cZ M a v (by omega))
theorem wR7 {ga : Nat → Nat} {n : Nat} {cT cZ : ClassId} {M : cSt} {a : Nat} {v : Option Nat} : (wld ga n cT cZ M).set 22 (ga 22, .inl (cT, 32, .inr (.inr (.inr (.inr (va_up (crf ga (gR M 7)) a (v.map (fun k => ga (25 + 2 * k))))))))) = wld ga n cT cZ (sR M 7 a v) :=
  wld_set (i := 22) (Erw_sR ga cT M 7 32 a v) (Erow ga cT cZ M a v (r := 7) (by omega))
theorem wR8 {ga : Nat → Nat} {n : Nat} {cT cZ : ClassId} {M : cSt} {a : Nat} {v : Option Nat} : (wld ga n cT cZ M).set 23 (ga 23, .inl (cT, 4, .inr (.inr (.inr (.inr (va_up (crf ga (gR M 8)) a (v.map (fun k => ga (25 + 2 * k))))))))) = wld ga n cT cZ (sR M 8 a v) :=
  wld_set (i := 23) (Erw_sR ga cT M 8 4 a v) (Erow ga cT cZ M a v (r := 8) (by omega))
theorem Ehol (ga : Nat → Nat) (cT cZ : ClassId) (M : cSt) (v : Option Nat) : ∀ i, i ≠ 5 → cE ga cT cZ (sR M 9 0 v) i = cE ga cT cZ M i
  | 0, h => rfl
  | 1, h => rfl
  | 2, h => rfl
  | 3, h => rfl
  | 4, h => rfl
  | 5, h => absurd rfl h
  | 6, h => rfl
  | 7, h => rfl
  | 8, h => rfl
  | 9, h => rfl
  | 10, h => rfl
  | 11, h => rfl
  | 12, h => rfl
  | 13, h => rfl
  | 14, h => rfl
  | 15, h => rfl
  | 16, h => rfl
  | 17, h => rfl
  | 18, h => rfl
  | 19, h => rfl
  | 20, h => rfl
  | 21, h => rfl
  | 22, h => rfl
  | 23, h => rfl
  | 24, h => rfl
  | _ + 25, _ => rfl
theorem wHol {ga : Nat → Nat} {n : Nat} {cT cZ : ClassId} {M : cSt} {v : Option Nat} : (wld ga n cT cZ M).set 5 (ga 5, .inr (8, [.ref (ga 8), .ref (ga 1), .ref (ga 13), .int (gI M 18), .int (gI M 19), ctv ga v])) = wld ga n cT cZ (sR M 9 0 v) := wld_set (i := 5) rfl (Ehol ga cT cZ M v)
theorem Ecar (ga : Nat → Nat) (cT cZ : ClassId) (M : cSt) (a : Nat) (v : Int32) : ∀ i, i ≠ 24 → cE ga cT cZ (sZ M a v) i = cE ga cT cZ M i
  | 0, h => rfl
  | 1, h => rfl
  | 2, h => rfl
  | 3, h => rfl
  | 4, h => rfl
  | 5, h => rfl
  | 6, h => rfl
  | 7, h => rfl
  | 8, h => rfl
  | 9, h => rfl
  | 10, h => rfl
  | 11, h => rfl
  | 12, h => rfl
  | 13, h => rfl
  | 14, h => rfl
  | 15, h => rfl
  | 16, h => rfl
  | 17, h => rfl
  | 18, h => rfl
  | 19, h => rfl
  | 20, h => rfl
  | 21, h => rfl
  | 22, h => rfl
  | 23, h => rfl
  | 24, h => absurd rfl h
  | _ + 25, _ => rfl
theorem wZ {ga : Nat → Nat} {n : Nat} {cT cZ : ClassId} {M : cSt} {a : Nat} {v : Int32} : (wld ga n cT cZ M).set 24 (ga 24, .inl (cZ, 20, .inl (va_up (gZf M) a v))) = wld ga n cT cZ (sZ M a v) := wld_set (i := 24) rfl (Ecar ga cT cZ M a v)
theorem E_lt25 (ga : Nat → Nat) (cT cZ : ClassId) {M M' : cSt} (hI : gIf M' = gIf M) (hR : gRf M' = gRf M) (hZ : gZf M' = gZf M) : ∀ i, i < 25 → cE ga cT cZ M' i = cE ga cT cZ M i
  | 0, _ => by simp only [cE, cEro, cErw, gI, gR, hI, hR, hZ]
  | 1, _ => by simp only [cE, cEro, cErw, gI, gR, hI, hR, hZ]
  | 2, _ => by simp only [cE, cEro, cErw, gI, gR, hI, hR, hZ]
  | 3, _ => by simp only [cE, cEro, cErw, gI, gR, hI, hR, hZ]
  | 4, _ => by simp only [cE, cEro, cErw, gI, gR, hI, hR, hZ]
  | 5, _ => by simp only [cE, cEro, cErw, gI, gR, hI, hR, hZ]
  | 6, _ => by simp only [cE, cEro, cErw, gI, gR, hI, hR, hZ]
  | 7, _ => by simp only [cE, cEro, cErw, gI, gR, hI, hR, hZ]
  | 8, _ => by simp only [cE, cEro, cErw, gI, gR, hI, hR, hZ]
  | 9, _ => by simp only [cE, cEro, cErw, gI, gR, hI, hR, hZ]
  | 10, _ => by simp only [cE, cEro, cErw, gI, gR, hI, hR, hZ]
  | 11, _ => by simp only [cE, cEro, cErw, gI, gR, hI, hR, hZ]
  | 12, _ => by simp only [cE, cEro, cErw, gI, gR, hI, hR, hZ]
  | 13, _ => by simp only [cE, cEro, cErw, gI, gR, hI, hR, hZ]
  | 14, _ => by simp only [cE, cEro, cErw, gI, gR, hI, hR, hZ]
  | 15, _ => by simp only [cE, cEro, cErw, gI, gR, hI, hR, hZ]
  | 16, _ => by simp only [cE, cEro, cErw, gI, gR, hI, hR, hZ]
  | 17, _ => by simp only [cE, cEro, cErw, gI, gR, hI, hR, hZ]
  | 18, _ => by simp only [cE, cEro, cErw, gI, gR, hI, hR, hZ]
  | 19, _ => by simp only [cE, cEro, cErw, gI, gR, hI, hR, hZ]
  | 20, _ => by simp only [cE, cEro, cErw, gI, gR, hI, hR, hZ]
  | 21, _ => by simp only [cE, cEro, cErw, gI, gR, hI, hR, hZ]
  | 22, _ => by simp only [cE, cEro, cErw, gI, gR, hI, hR, hZ]
  | 23, _ => by simp only [cE, cEro, cErw, gI, gR, hI, hR, hZ]
  | 24, _ => by simp only [cE, cEro, cErw, gI, gR, hI, hR, hZ]
  | n + 25, h => absurd h (by omega)
theorem wT_0 {ga : Nat → Nat} {n : Nat} {cT cZ : ClassId} {M : cSt} {k : Nat} {v : Int32} : (wld ga n cT cZ M).set (25 + 2 * k) (ga (25 + 2 * k), .inr (7, [.int v, .ref (ga (26 + 2 * k)), .int (gT M k 2), .int (gT M k 3), .int (gT M k 4), .int (gT M k 5), .int (gT M k 6), .int (gT M k 7), .int (gT M k 8), .int (gT M k 9), .int (gT M k 10), .int (gT M k 11), .int (gT M k 12), .int (gT M k 13)])) = wld ga n cT cZ (sT M k 0 v) := by
  refine wld_set (i := 25 + 2 * k) ((E_th ga cT cZ _ k).trans (by simp [cEth, gT, gTf_sT, va_up])) (fun j hj => ?_)
  rcases ix_cases j with h | ⟨q, rfl⟩ | ⟨q, rfl⟩
  · exact E_lt25 ga cT cZ (M := M) (M' := sT M k 0 v) rfl rfl rfl j h
  · rw [E_th, E_th]; have hq : q ≠ k := fun e => hj (by rw [e])
    simp [cEth, gT, gTf_sT, va_up, hq]
  · rw [E_fl, E_fl]; rfl
theorem wT_2 {ga : Nat → Nat} {n : Nat} {cT cZ : ClassId} {M : cSt} {k : Nat} {v : Int32} : (wld ga n cT cZ M).set (25 + 2 * k) (ga (25 + 2 * k), .inr (7, [.int (gT M k 0), .ref (ga (26 + 2 * k)), .int v, .int (gT M k 3), .int (gT M k 4), .int (gT M k 5), .int (gT M k 6), .int (gT M k 7), .int (gT M k 8), .int (gT M k 9), .int (gT M k 10), .int (gT M k 11), .int (gT M k 12), .int (gT M k 13)])) = wld ga n cT cZ (sT M k 2 v) := by
  refine wld_set (i := 25 + 2 * k) ((E_th ga cT cZ _ k).trans (by simp [cEth, gT, gTf_sT, va_up])) (fun j hj => ?_)
  rcases ix_cases j with h | ⟨q, rfl⟩ | ⟨q, rfl⟩
  · exact E_lt25 ga cT cZ (M := M) (M' := sT M k 2 v) rfl rfl rfl j h
  · rw [E_th, E_th]; have hq : q ≠ k := fun e => hj (by rw [e])
    simp [cEth, gT, gTf_sT, va_up, hq]
  · rw [E_fl, E_fl]; rfl
theorem wT_3 {ga : Nat → Nat} {n : Nat} {cT cZ : ClassId} {M : cSt} {k : Nat} {v : Int32} : (wld ga n cT cZ M).set (25 + 2 * k) (ga (25 + 2 * k), .inr (7, [.int (gT M k 0), .ref (ga (26 + 2 * k)), .int (gT M k 2), .int v, .int (gT M k 4), .int (gT M k 5), .int (gT M k 6), .int (gT M k 7), .int (gT M k 8), .int (gT M k 9), .int (gT M k 10), .int (gT M k 11), .int (gT M k 12), .int (gT M k 13)])) = wld ga n cT cZ (sT M k 3 v) := by
  refine wld_set (i := 25 + 2 * k) ((E_th ga cT cZ _ k).trans (by simp [cEth, gT, gTf_sT, va_up])) (fun j hj => ?_)
  rcases ix_cases j with h | ⟨q, rfl⟩ | ⟨q, rfl⟩
  · exact E_lt25 ga cT cZ (M := M) (M' := sT M k 3 v) rfl rfl rfl j h
  · rw [E_th, E_th]; have hq : q ≠ k := fun e => hj (by rw [e])
    simp [cEth, gT, gTf_sT, va_up, hq]
  · rw [E_fl, E_fl]; rfl
theorem wT_4 {ga : Nat → Nat} {n : Nat} {cT cZ : ClassId} {M : cSt} {k : Nat} {v : Int32} : (wld ga n cT cZ M).set (25 + 2 * k) (ga (25 + 2 * k), .inr (7, [.int (gT M k 0), .ref (ga (26 + 2 * k)), .int (gT M k 2), .int (gT M k 3), .int v, .int (gT M k 5), .int (gT M k 6), .int (gT M k 7), .int (gT M k 8), .int (gT M k 9), .int (gT M k 10), .int (gT M k 11), .int (gT M k 12), .int (gT M k 13)])) = wld ga n cT cZ (sT M k 4 v) := by
  refine wld_set (i := 25 + 2 * k) ((E_th ga cT cZ _ k).trans (by simp [cEth, gT, gTf_sT, va_up])) (fun j hj => ?_)
  rcases ix_cases j with h | ⟨q, rfl⟩ | ⟨q, rfl⟩
  · exact E_lt25 ga cT cZ (M := M) (M' := sT M k 4 v) rfl rfl rfl j h
  · rw [E_th, E_th]; have hq : q ≠ k := fun e => hj (by rw [e])
    simp [cEth, gT, gTf_sT, va_up, hq]
  · rw [E_fl, E_fl]; rfl
theorem wT_5 {ga : Nat → Nat} {n : Nat} {cT cZ : ClassId} {M : cSt} {k : Nat} {v : Int32} : (wld ga n cT cZ M).set (25 + 2 * k) (ga (25 + 2 * k), .inr (7, [.int (gT M k 0), .ref (ga (26 + 2 * k)), .int (gT M k 2), .int (gT M k 3), .int (gT M k 4), .int v, .int (gT M k 6), .int (gT M k 7), .int (gT M k 8), .int (gT M k 9), .int (gT M k 10), .int (gT M k 11), .int (gT M k 12), .int (gT M k 13)])) = wld ga n cT cZ (sT M k 5 v) := by
  refine wld_set (i := 25 + 2 * k) ((E_th ga cT cZ _ k).trans (by simp [cEth, gT, gTf_sT, va_up])) (fun j hj => ?_)
  rcases ix_cases j with h | ⟨q, rfl⟩ | ⟨q, rfl⟩
  · exact E_lt25 ga cT cZ (M := M) (M' := sT M k 5 v) rfl rfl rfl j h
  · rw [E_th, E_th]; have hq : q ≠ k := fun e => hj (by rw [e])
    simp [cEth, gT, gTf_sT, va_up, hq]
  · rw [E_fl, E_fl]; rfl
theorem wT_6 {ga : Nat → Nat} {n : Nat} {cT cZ : ClassId} {M : cSt} {k : Nat} {v : Int32} : (wld ga n cT cZ M).set (25 + 2 * k) (ga (25 + 2 * k), .inr (7, [.int (gT M k 0), .ref (ga (26 + 2 * k)), .int (gT M k 2), .int (gT M k 3), .int (gT M k 4), .int (gT M k 5), .int v, .int (gT M k 7), .int (gT M k 8), .int (gT M k 9), .int (gT M k 10), .int (gT M k 11), .int (gT M k 12), .int (gT M k 13)])) = wld ga n cT cZ (sT M k 6 v) := by
  refine wld_set (i := 25 + 2 * k) ((E_th ga cT cZ _ k).trans (by simp [cEth, gT, gTf_sT, va_up])) (fun j hj => ?_)
  rcases ix_cases j with h | ⟨q, rfl⟩ | ⟨q, rfl⟩
  · exact E_lt25 ga cT cZ (M := M) (M' := sT M k 6 v) rfl rfl rfl j h
  · rw [E_th, E_th]; have hq : q ≠ k := fun e => hj (by rw [e])
    simp [cEth, gT, gTf_sT, va_up, hq]
  · rw [E_fl, E_fl]; rfl
theorem wT_7 {ga : Nat → Nat} {n : Nat} {cT cZ : ClassId} {M : cSt} {k : Nat} {v : Int32} : (wld ga n cT cZ M).set (25 + 2 * k) (ga (25 + 2 * k), .inr (7, [.int (gT M k 0), .ref (ga (26 + 2 * k)), .int (gT M k 2), .int (gT M k 3), .int (gT M k 4), .int (gT M k 5), .int (gT M k 6), .int v, .int (gT M k 8), .int (gT M k 9), .int (gT M k 10), .int (gT M k 11), .int (gT M k 12), .int (gT M k 13)])) = wld ga n cT cZ (sT M k 7 v) := by
  refine wld_set (i := 25 + 2 * k) ((E_th ga cT cZ _ k).trans (by simp [cEth, gT, gTf_sT, va_up])) (fun j hj => ?_)
  rcases ix_cases j with h | ⟨q, rfl⟩ | ⟨q, rfl⟩
  · exact E_lt25 ga cT cZ (M := M) (M' := sT M k 7 v) rfl rfl rfl j h
  · rw [E_th, E_th]; have hq : q ≠ k := fun e => hj (by rw [e])
    simp [cEth, gT, gTf_sT, va_up, hq]
  · rw [E_fl, E_fl]; rfl
theorem wT_8 {ga : Nat → Nat} {n : Nat} {cT cZ : ClassId} {M : cSt} {k : Nat} {v : Int32} : (wld ga n cT cZ M).set (25 + 2 * k) (ga (25 + 2 * k), .inr (7, [.int (gT M k 0), .ref (ga (26 + 2 * k)), .int (gT M k 2), .int (gT M k 3), .int (gT M k 4), .int (gT M k 5), .int (gT M k 6), .int (gT M k 7), .int v, .int (gT M k 9), .int (gT M k 10), .int (gT M k 11), .int (gT M k 12), .int (gT M k 13)])) = wld ga n cT cZ (sT M k 8 v) := by
  refine wld_set (i := 25 + 2 * k) ((E_th ga cT cZ _ k).trans (by simp [cEth, gT, gTf_sT, va_up])) (fun j hj => ?_)
  rcases ix_cases j with h | ⟨q, rfl⟩ | ⟨q, rfl⟩
  · exact E_lt25 ga cT cZ (M := M) (M' := sT M k 8 v) rfl rfl rfl j h
  · rw [E_th, E_th]; have hq : q ≠ k := fun e => hj (by rw [e])
    simp [cEth, gT, gTf_sT, va_up, hq]
  · rw [E_fl, E_fl]; rfl
theorem wT_9 {ga : Nat → Nat} {n : Nat} {cT cZ : ClassId} {M : cSt} {k : Nat} {v : Int32} : (wld ga n cT cZ M).set (25 + 2 * k) (ga (25 + 2 * k), .inr (7, [.int (gT M k 0), .ref (ga (26 + 2 * k)), .int (gT M k 2), .int (gT M k 3), .int (gT M k 4), .int (gT M k 5), .int (gT M k 6), .int (gT M k 7), .int (gT M k 8), .int v, .int (gT M k 10), .int (gT M k 11), .int (gT M k 12), .int (gT M k 13)])) = wld ga n cT cZ (sT M k 9 v) := by
  refine wld_set (i := 25 + 2 * k) ((E_th ga cT cZ _ k).trans (by simp [cEth, gT, gTf_sT, va_up])) (fun j hj => ?_)
  rcases ix_cases j with h | ⟨q, rfl⟩ | ⟨q, rfl⟩
  · exact E_lt25 ga cT cZ (M := M) (M' := sT M k 9 v) rfl rfl rfl j h
  · rw [E_th, E_th]; have hq : q ≠ k := fun e => hj (by rw [e])
    simp [cEth, gT, gTf_sT, va_up, hq]
  · rw [E_fl, E_fl]; rfl
theorem wT_10 {ga : Nat → Nat} {n : Nat} {cT cZ : ClassId} {M : cSt} {k : Nat} {v : Int32} : (wld ga n cT cZ M).set (25 + 2 * k) (ga (25 + 2 * k), .inr (7, [.int (gT M k 0), .ref (ga (26 + 2 * k)), .int (gT M k 2), .int (gT M k 3), .int (gT M k 4), .int (gT M k 5), .int (gT M k 6), .int (gT M k 7), .int (gT M k 8), .int (gT M k 9), .int v, .int (gT M k 11), .int (gT M k 12), .int (gT M k 13)])) = wld ga n cT cZ (sT M k 10 v) := by
  refine wld_set (i := 25 + 2 * k) ((E_th ga cT cZ _ k).trans (by simp [cEth, gT, gTf_sT, va_up])) (fun j hj => ?_)
  rcases ix_cases j with h | ⟨q, rfl⟩ | ⟨q, rfl⟩
  · exact E_lt25 ga cT cZ (M := M) (M' := sT M k 10 v) rfl rfl rfl j h
  · rw [E_th, E_th]; have hq : q ≠ k := fun e => hj (by rw [e])
    simp [cEth, gT, gTf_sT, va_up, hq]
  · rw [E_fl, E_fl]; rfl
theorem wT_11 {ga : Nat → Nat} {n : Nat} {cT cZ : ClassId} {M : cSt} {k : Nat} {v : Int32} : (wld ga n cT cZ M).set (25 + 2 * k) (ga (25 + 2 * k), .inr (7, [.int (gT M k 0), .ref (ga (26 + 2 * k)), .int (gT M k 2), .int (gT M k 3), .int (gT M k 4), .int (gT M k 5), .int (gT M k 6), .int (gT M k 7), .int (gT M k 8), .int (gT M k 9), .int (gT M k 10), .int v, .int (gT M k 12), .int (gT M k 13)])) = wld ga n cT cZ (sT M k 11 v) := by
  refine wld_set (i := 25 + 2 * k) ((E_th ga cT cZ _ k).trans (by simp [cEth, gT, gTf_sT, va_up])) (fun j hj => ?_)
  rcases ix_cases j with h | ⟨q, rfl⟩ | ⟨q, rfl⟩
  · exact E_lt25 ga cT cZ (M := M) (M' := sT M k 11 v) rfl rfl rfl j h
  · rw [E_th, E_th]; have hq : q ≠ k := fun e => hj (by rw [e])
    simp [cEth, gT, gTf_sT, va_up, hq]
  · rw [E_fl, E_fl]; rfl
theorem wT_12 {ga : Nat → Nat} {n : Nat} {cT cZ : ClassId} {M : cSt} {k : Nat} {v : Int32} : (wld ga n cT cZ M).set (25 + 2 * k) (ga (25 + 2 * k), .inr (7, [.int (gT M k 0), .ref (ga (26 + 2 * k)), .int (gT M k 2), .int (gT M k 3), .int (gT M k 4), .int (gT M k 5), .int (gT M k 6), .int (gT M k 7), .int (gT M k 8), .int (gT M k 9), .int (gT M k 10), .int (gT M k 11), .int v, .int (gT M k 13)])) = wld ga n cT cZ (sT M k 12 v) := by
  refine wld_set (i := 25 + 2 * k) ((E_th ga cT cZ _ k).trans (by simp [cEth, gT, gTf_sT, va_up])) (fun j hj => ?_)
  rcases ix_cases j with h | ⟨q, rfl⟩ | ⟨q, rfl⟩
  · exact E_lt25 ga cT cZ (M := M) (M' := sT M k 12 v) rfl rfl rfl j h
  · rw [E_th, E_th]; have hq : q ≠ k := fun e => hj (by rw [e])
    simp [cEth, gT, gTf_sT, va_up, hq]
  · rw [E_fl, E_fl]; rfl
theorem wT_13 {ga : Nat → Nat} {n : Nat} {cT cZ : ClassId} {M : cSt} {k : Nat} {v : Int32} : (wld ga n cT cZ M).set (25 + 2 * k) (ga (25 + 2 * k), .inr (7, [.int (gT M k 0), .ref (ga (26 + 2 * k)), .int (gT M k 2), .int (gT M k 3), .int (gT M k 4), .int (gT M k 5), .int (gT M k 6), .int (gT M k 7), .int (gT M k 8), .int (gT M k 9), .int (gT M k 10), .int (gT M k 11), .int (gT M k 12), .int v])) = wld ga n cT cZ (sT M k 13 v) := by
  refine wld_set (i := 25 + 2 * k) ((E_th ga cT cZ _ k).trans (by simp [cEth, gT, gTf_sT, va_up])) (fun j hj => ?_)
  rcases ix_cases j with h | ⟨q, rfl⟩ | ⟨q, rfl⟩
  · exact E_lt25 ga cT cZ (M := M) (M' := sT M k 13 v) rfl rfl rfl j h
  · rw [E_th, E_th]; have hq : q ≠ k := fun e => hj (by rw [e])
    simp [cEth, gT, gTf_sT, va_up, hq]
  · rw [E_fl, E_fl]; rfl
theorem wF {ga : Nat → Nat} {n : Nat} {cT cZ : ClassId} {M : cSt} {k a : Nat} {v : Option Nat} : (wld ga n cT cZ M).set (26 + 2 * k) (ga (26 + 2 * k), .inl (cT, gL M k, .inr (.inr (.inr (.inr (va_up (crf ga (gF M k)) a (v.map (fun k => ga (25 + 2 * k))))))))) = wld ga n cT cZ (sF M k a v) := by
  refine wld_set (i := 26 + 2 * k) ((E_fl ga cT cZ _ k).trans ?_) (fun j hj => ?_)
  · rw [rf_up]
    show (Sum.inl (cT, gL (sF M k a v) k, Sum.inr (Sum.inr (Sum.inr (Sum.inr (crf ga (gFf (sF M k a v) k)))))) : va_E) = _
    rw [show gFf (sF M k a v) k = va_up (gFf M k) a v from by rw [gFf_sF]; unfold va_up; rw [if_pos rfl]]
    rfl
  · rcases ix_cases j with h | ⟨q, rfl⟩ | ⟨q, rfl⟩
    · exact E_lt25 ga cT cZ (M := M) (M' := sF M k a v) rfl rfl rfl j h
    · rw [E_th, E_th]; rfl
    · rw [E_fl, E_fl]; have hq : q ≠ k := fun e => hj (by rw [e])
      simp [cEfl, gL, gF, gLf_sF, gFf_sF, va_up, hq]
end
section
/-! WHAT A METHOD OF THE CLASS NEEDS AND GIVES: contracts over the class's whole world, and the rows for calls by them. -/
abbrev cl : List vw_C := [(RX0, TX0, 6), (RX1, TX1, 3), (RX2, TX2, 9), (RX3, TX3, 8), (RX4, TX4, 4), (RX5, TX5, 2), (RX6, TX6, 4), (RX7, TX7, 14), (RX8, TX8, 6), (RX9, TX9, 9)]
abbrev ctys (cT cZ : ClassId) : List (ClassId × FieldType) := [(cT, .object "Tenuredale$Thing"), (cZ, .boolean)]
/-- references are to things that are there; rows are within their arrays; truth values are 0 or 1 -/
def cWF (n : Nat) (M : cSt) : Prop :=
  (∀ r j k, gR M r j = some k → k < n) ∧ (∀ k j q, gF M k j = some q → q < n) ∧ (∀ r, r < 7 → ∃ c, c ≤ 200 ∧ gI M (10 + r) = nI c) ∧ (∃ c, 1 ≤ c ∧ c ≤ 8 ∧ gI M 1 = nI c) ∧ (∀ k, gL M k ≤ 20) ∧
  (∀ k f, f = 9 ∨ f = 11 ∨ f = 12 ∨ f = 13 → gT M k f = 0 ∨ gT M k f = 1) ∧ (∀ j, gZ M j = 0 ∨ gZ M j = 1) ∧ (gI M 17 = 0 ∨ gI M 17 = 1) ∧ (gI M 19 = 0 ∨ gI M 19 = 1)
theorem wf_sI {n : Nat} {M : cSt} (h : cWF n M) {j : Nat} (v : Int32) (hj : j ≠ 1 ∧ j ≠ 17 ∧ j ≠ 19 ∧ (j < 10 ∨ 17 ≤ j)) : cWF n (sI M j v) := by
  obtain ⟨h1, h2, h3, h4, h5, h6, h7, h8, h9⟩ := h
  have e : ∀ i, i ≠ j → gI (sI M j v) i = gI M i := fun i hi => by show va_up (gIf M) j v i = _; unfold va_up; rw [if_neg hi]
  refine ⟨h1, h2, fun r hr => ?_, ?_, h5, h6, h7, ?_, ?_⟩
  · rw [e _ (by omega)]; exact h3 r hr
  · rw [e _ (by omega)]; exact h4
  · rw [e _ (by omega)]; exact h8
  · rw [e _ (by omega)]; exact h9
theorem wf_sIrow {n : Nat} {M : cSt} (h : cWF n M) {r c : Nat} (hr : r < 7) (hc : c ≤ 200) : cWF n (sI M (10 + r) (nI c)) := by
  obtain ⟨h1, h2, h3, h4, h5, h6, h7, h8, h9⟩ := h
  have e : ∀ i, i ≠ 10 + r → gI (sI M (10 + r) (nI c)) i = gI M i := fun i hi => by show va_up (gIf M) (10 + r) (nI c) i = _; unfold va_up; rw [if_neg hi]
  refine ⟨h1, h2, fun q hq => ?_, ?_, h5, h6, h7, ?_, ?_⟩
  · by_cases hqr : q = r
    · subst hqr
      exact ⟨c, hc, by show va_up (gIf M) (10 + q) (nI c) (10 + q) = _; unfold va_up; rw [if_pos rfl]⟩
    · rw [e _ (by omega)]; exact h3 q hq
  · rw [e _ (by omega)]; exact h4
  · rw [e _ (by omega)]; exact h8
  · rw [e _ (by omega)]; exact h9
theorem wf_sI1 {n : Nat} {M : cSt} (h : cWF n M) {c : Nat} (h1c : 1 ≤ c) (hc : c ≤ 8) : cWF n (sI M 1 (nI c)) := by
  obtain ⟨h1, h2, h3, h4, h5, h6, h7, h8, h9⟩ := h
  have e : ∀ i, i ≠ 1 → gI (sI M 1 (nI c)) i = gI M i := fun i hi => by show va_up (gIf M) 1 (nI c) i = _; unfold va_up; rw [if_neg hi]
  refine ⟨h1, h2, fun q hq => ?_, ⟨c, h1c, hc, rfl⟩, h5, h6, h7, ?_, ?_⟩
  · rw [e _ (by omega)]; exact h3 q hq
  · rw [e _ (by omega)]; exact h8
  · rw [e _ (by omega)]; exact h9
theorem wf_sIb {n : Nat} {M : cSt} (h : cWF n M) {j : Nat} {v : Int32} (hj : j = 17 ∨ j = 19) (hv : v = 0 ∨ v = 1) : cWF n (sI M j v) := by
  obtain ⟨h1, h2, h3, h4, h5, h6, h7, h8, h9⟩ := h
  have e : ∀ i, i ≠ j → gI (sI M j v) i = gI M i := fun i hi => by show va_up (gIf M) j v i = _; unfold va_up; rw [if_neg hi]
  have e2 : gI (sI M j v) j = v := by show va_up (gIf M) j v j = _; unfold va_up; rw [if_pos rfl]
  refine ⟨h1, h2, fun q hq => ?_, ?_, h5, h6, h7, ?_, ?_⟩
  · rw [e _ (by omega)]; exact h3 q hq
  · rw [e _ (by omega)]; exact h4
  · rcases hj with rfl | rfl
    · rw [e2]; exact hv
    · rw [e _ (by omega)]; exact h8
  · rcases hj with rfl | rfl
    · rw [e _ (by omega)]; exact h9
    · rw [e2]; exact hv
theorem wf_sT {n : Nat} {M : cSt} (h : cWF n M) (k f : Nat) (v : Int32) (hf : (f ≠ 9 ∧ f ≠ 11 ∧ f ≠ 12 ∧ f ≠ 13) ∨ v = 0 ∨ v = 1) : cWF n (sT M k f v) := by
  obtain ⟨h1, h2, h3, h4, h5, h6, h7, h8, h9⟩ := h
  refine ⟨h1, h2, h3, h4, h5, fun q g hg => ?_, h7, h8, h9⟩
  show va_up (gTf M) k (va_up (gTf M k) f v) q g = 0 ∨ va_up (gTf M) k (va_up (gTf M k) f v) q g = 1
  unfold va_up
  by_cases hq : q = k
  · rw [if_pos hq]
    by_cases hgf : g = f
    · rw [if_pos hgf]; rcases hf with hf | hf
      · exact absurd hg (by omega)
      · exact hf
    · rw [if_neg hgf]; exact h6 k g hg
  · rw [if_neg hq]; exact h6 q g hg
theorem wf_sR {n : Nat} {M : cSt} (h : cWF n M) (r j : Nat) {v : Option Nat} (hv : ∀ k, v = some k → k < n) : cWF n (sR M r j v) := by
  obtain ⟨h1, h2, h3, h4, h5, h6, h7, h8, h9⟩ := h
  refine ⟨fun q i k => ?_, h2, h3, h4, h5, h6, h7, h8, h9⟩
  show va_up (gRf M) r (va_up (gRf M r) j v) q i = some k → k < n
  unfold va_up
  by_cases hq : q = r
  · rw [if_pos hq]
    by_cases hi : i = j
    · rw [if_pos hi]; exact hv k
    · rw [if_neg hi]; exact h1 r i k
  · rw [if_neg hq]; exact h1 q i k
theorem wf_sF {n : Nat} {M : cSt} (h : cWF n M) (r j : Nat) {v : Option Nat} (hv : ∀ k, v = some k → k < n) : cWF n (sF M r j v) := by
  obtain ⟨h1, h2, h3, h4, h5, h6, h7, h8, h9⟩ := h
  refine ⟨h1, fun q i k => ?_, h3, h4, h5, h6, h7, h8, h9⟩
  show va_up (gFf M) r (va_up (gFf M r) j v) q i = some k → k < n
  unfold va_up
  by_cases hq : q = r
  · rw [if_pos hq]
    by_cases hi : i = j
    · rw [if_pos hi]; exact hv k
    · rw [if_neg hi]; exact h2 r i k
  · rw [if_neg hq]; exact h2 q i k
theorem wf_sZ {n : Nat} {M : cSt} (h : cWF n M) (j : Nat) {v : Int32} (hv : v = 0 ∨ v = 1) : cWF n (sZ M j v) := by
  obtain ⟨h1, h2, h3, h4, h5, h6, h7, h8, h9⟩ := h
  refine ⟨h1, h2, h3, h4, h5, h6, fun q => ?_, h8, h9⟩
  show va_up (gZf M) j v q = 0 ∨ va_up (gZf M) j v q = 1
  unfold va_up
  by_cases hq : q = j
  · rw [if_pos hq]; exact hv
  · rw [if_neg hq]; exact h7 q
/-- what a reading method needs -/
def cPu (ga : Nat → Nat) (n : Nat) (cT cZ : ClassId) (D : va_G) (M : cSt) (U : State) : Prop := va_P D cl (wld ga n cT cZ M) U.heap ∧ va_K D cl (ctys cT cZ) U ∧ va_D (fun _ => True) (wld ga n cT cZ M)
/-- what a writing method needs: the heap's size besides -/
def cPr (ga : Nat → Nat) (n : Nat) (cT cZ : ClassId) (D : va_G) (M : cSt) (sz : Nat) (U : State) : Prop := U.heap.size = sz ∧ cPu ga n cT cZ D M U
/-- what a writing method leaves -/
def cB (ga : Nat → Nat) (n : Nat) (cT cZ : ClassId) (D : va_G) (A : Nat → Prop) (M : cSt) (t : State) : Prop := va_P D cl (wld ga n cT cZ M) t.heap ∧ va_K D cl (ctys cT cZ) t ∧ va_D A (wld ga n cT cZ M)
theorem cPu.blind {av : List Value} {ga : Nat → Nat} {n : Nat} {cT cZ : ClassId} {D : va_G} {M : cSt} : FrameBlind (va_Pc av (cPu ga n cT cZ D M)) := fun a U g mk q => by
  obtain ⟨q0, qP, qK, qD⟩ := q; exact ⟨q0, qP, va_K.moved (u := U) (U := U.calling g mk a) (Vm.Alike.refl U.vm) qK, qD⟩
theorem cPr.blind {av : List Value} {ga : Nat → Nat} {n : Nat} {cT cZ : ClassId} {D : va_G} {M : cSt} {sz : Nat} : FrameBlind (va_Pc av (cPr ga n cT cZ D M sz)) := fun a U g mk q => by
  obtain ⟨q0, q1, qP, qK, qD⟩ := q; exact ⟨q0, q1, qP, va_K.moved (u := U) (U := U.calling g mk a) (Vm.Alike.refl U.vm) qK, qD⟩
theorem cP_eq {D : va_G} {ws ws' : va_W} {H : Heap} (e : ws = ws') (h : va_P D cl ws H) : va_P D cl ws' H := e ▸ h
theorem cD_eq {A : Nat → Prop} {ws ws' : va_W} (e : ws = ws') (h : va_D A ws) : va_D A ws' := e ▸ h
theorem vin_of {i : Int32} {k : Nat} {z : Int32} (hk : k < 2 ^ 31) (hz : z = nI k) (h0 : ¬ i < 0) (h1 : ¬ z ≤ i) : vp_in i k := by
  obtain ⟨j, hj, rfl⟩ := nI_of h0
  refine vp_in_nI ?_ hk
  rw [hz] at h1
  exact Nat.lt_of_not_le (fun h => h1 (nI_le h hj))
section CCALL
variable {p : Program} {l : Launch} {e : Env} {R : Room} {s : State} {m : MethodId} {args : Array Value} {below : List Frame} {meth : Method} {c : Code} {H : Heap} {locs : List Loc} {cells slots : Nat} {Q : State → Prop}
variable {ga : Nat → Nat} {n : Nat} {cT cZ : ClassId} {D : va_G} {M : cSt} {y : MethodName} {bytes cc : ByteArray} {maxL nL nA index ci i : Nat} {ret : Option FieldType} {ws : List Cond} {rm : Room} {Ts : List Cond} {own C : String} {As rest st : List Value} {fs : List Value} {q : vw_C} {ls : Array Slot} {pc : Nat} {A : Nat → Prop} {H0 : Heap}
/-- a reference that may be null, split -/
theorem w_split {o : Option Nat} {f : Nat → Nat} (hN : o = none → W p l e R s m args below meth c H locs cells slots Q (F0 m pc ls (.null :: rest))) (hS : ∀ k, o = some k → W p l e R s m args below meth c H locs cells slots Q (F0 m pc ls (.ref (f k) :: rest))) : W p l e R s m args below meth c H locs cells slots Q (F0 m pc ls (va_rf (o.map f) :: rest)) := by
  cases o with
  | none => exact hN rfl
  | some k => exact hS k rfl
theorem pre_u (hK : va_K D cl (ctys cT cZ) s) (hP : va_P D cl (wld ga n cT cZ M) H) (hD : va_D A (wld ga n cT cZ M)) {U : State} (hU : U.heap = H) (hW : s.WarmedH U.vm) : cPu ga n cT cZ D M U := ⟨by rw [hU]; exact hP, va_K.moved hW.alike hK, hD.weaken (fun _ _ _ _ => trivial)⟩
theorem pre_r (hK : va_K D cl (ctys cT cZ) s) (hP : va_P D cl (wld ga n cT cZ M) H) (hD : va_D A (wld ga n cT cZ M)) {U : State} (hU : U.heap = H) (hW : s.WarmedH U.vm) : cPr ga n cT cZ D M H.size U := ⟨by rw [hU], pre_u hK hP hD hU hW⟩
/-- reading calls -/
theorem kV_i {post : Int32 → Prop} (S : CallFix p m c cc nL s args Ts own) (hM : Met l y ws rm (va_Pc (.ref (ga i) :: As) (cPu ga n cT cZ D M)) (vp_Si post) 0 0 (fun _ => False)) (cw : CallW R s args own C index y bytes maxL ret ws rm 0 0 nA) (hK : va_K D cl (ctys cT cZ) s) (hP : va_P D cl (wld ga n cT cZ M) H) (hD : va_D A (wld ga n cT cZ M)) (hi : i < 25 + 2 * n) (he : cE ga cT cZ M i = .inr (ci, fs)) (hc : cl[ci]? = some q) (hq : q.1 = C) (hn : As.length = nA) (hls : ls.size = nL) (hst : st = As.reverse ++ .ref (ga i) :: rest) (hW : (rest.map fun v => v.category).sum ≤ 8) (hdg : decode cc pc = .ok (.invokevirtual index, 3)) (hf : cells ≤ R.cells ∧ slots ≤ R.slots)
    (kk : ∀ r : Int32, post r → W p l e R s m args below meth c H locs cells slots Q (F0 m (pc + 3) ls (.int r :: rest))) : W p l e R s m args below meth c H locs cells slots Q (F0 m pc ls st) := by
  subst hq
  exact vp_callSi (W.runV (As := As) (rest := rest) S hM cw ⟨cPu.blind, va_recv hK hP hc (wld_get hi he), fun U hU hW => ⟨rfl, pre_u hK hP hD hU hW⟩⟩ rfl hn hls hst (by simpa using hW) hdg hf) kk
theorem kV_q {post : Option Nat → Prop} (S : CallFix p m c cc nL s args Ts own) (hM : Met l y ws rm (va_Pc (.ref (ga i) :: As) (cPu ga n cT cZ D M)) (va_Sq (fun r => ∃ o, r = o.map (fun k => ga (25 + 2 * k)) ∧ post o)) 0 0 (fun _ => False)) (cw : CallW R s args own C index y bytes maxL ret ws rm 0 0 nA) (hK : va_K D cl (ctys cT cZ) s) (hP : va_P D cl (wld ga n cT cZ M) H) (hD : va_D A (wld ga n cT cZ M)) (hi : i < 25 + 2 * n) (he : cE ga cT cZ M i = .inr (ci, fs)) (hc : cl[ci]? = some q) (hq : q.1 = C) (hn : As.length = nA) (hls : ls.size = nL) (hst : st = As.reverse ++ .ref (ga i) :: rest) (hW : (rest.map fun v => v.category).sum ≤ 8) (hdg : decode cc pc = .ok (.invokevirtual index, 3)) (hf : cells ≤ R.cells ∧ slots ≤ R.slots)
    (kk : ∀ o : Option Nat, post o → W p l e R s m args below meth c H locs cells slots Q (F0 m (pc + 3) ls (va_rf (o.map (fun k => ga (25 + 2 * k))) :: rest))) : W p l e R s m args below meth c H locs cells slots Q (F0 m pc ls st) := by
  subst hq
  exact va_csq (W.runV (As := As) (rest := rest) S hM cw ⟨cPu.blind, va_recv hK hP hc (wld_get hi he), fun U hU hW => ⟨rfl, pre_u hK hP hD hU hW⟩⟩ rfl hn hls hst (by simpa using hW) hdg hf) (fun r h => by obtain ⟨o, rfl, h2⟩ := h; exact kk o h2)
theorem kS_i {post : Int32 → Prop} (S : CallFix p m c cc nL s args Ts own) (hM : Met l y ws rm (va_Pc As (cPu ga n cT cZ D M)) (vp_Si post) 0 0 (fun _ => False)) (cw : CallB R s args own index y bytes maxL ret ws rm 0 0 nA ∧ (Cond.static y).before args s = true) (hK : va_K D cl (ctys cT cZ) s) (hP : va_P D cl (wld ga n cT cZ M) H) (hD : va_D A (wld ga n cT cZ M)) (hn : As.length = nA) (hls : ls.size = nL) (hst : st = As.reverse ++ rest) (hW : (rest.map fun v => v.category).sum ≤ 8) (hdg : decode cc pc = .ok (.invokestatic index, 3)) (hf : cells ≤ R.cells ∧ slots ≤ R.slots)
    (kk : ∀ r : Int32, post r → W p l e R s m args below meth c H locs cells slots Q (F0 m (pc + 3) ls (.int r :: rest))) : W p l e R s m args below meth c H locs cells slots Q (F0 m pc ls st) :=
  vp_callSi (W.runS (As := As) (rest := rest) S hM cw ⟨cPu.blind, fun U hU hW => ⟨rfl, pre_u hK hP hD hU hW⟩⟩ rfl hn hls hst (by simpa using hW) hdg hf) kk
/-- writing calls -/
theorem kV_v {post : cSt → Prop} (S : CallFix p m c cc nL s args Ts own) (hM : Met l y ws rm (va_Pc (.ref (ga i) :: As) (cPr ga n cT cZ D M H.size)) (va_Qv post (cB ga n cT cZ D (cAA ga n H.size)) (cAA ga n H.size)) 0 0 (cAA ga n H.size)) (cw : CallW R s args own C index y bytes maxL ret ws rm 0 0 nA) (hK : va_K D cl (ctys cT cZ) s) (hP : va_P D cl (wld ga n cT cZ M) H) (hD : va_D A (wld ga n cT cZ M)) (hS : va_S A H0 H locs) (hA : ∀ q, H0.size ≤ q → A q) (hi : i < 25 + 2 * n) (he : cE ga cT cZ M i = .inr (ci, fs)) (hc : cl[ci]? = some q) (hq : q.1 = C) (hn : As.length = nA) (hls : ls.size = nL) (hst : st = As.reverse ++ .ref (ga i) :: rest) (hW : (rest.map fun v => v.category).sum ≤ 8) (hdg : decode cc pc = .ok (.invokevirtual index, 3)) (hf : cells ≤ R.cells ∧ slots ≤ R.slots)
    (kk : ∀ (M1 : cSt) (H1 : Heap) (locs1 : List Loc), post M1 → va_P D cl (wld ga n cT cZ M1) H1 → va_D A (wld ga n cT cZ M1) → va_S A H0 H1 locs1 → W p l e R s m args below meth c H1 locs1 cells slots Q (F0 m (pc + 3) ls rest)) : W p l e R s m args below meth c H locs cells slots Q (F0 m pc ls st) := by
  subst hq
  have hF := wld_free hD hS hA
  refine va_callv (va_runV (As := As) (rest := rest) S hM cw ⟨cPr.blind, va_recv hK hP hc (wld_get hi he), fun U hU hW => ⟨rfl, pre_r hK hP hD hU hW⟩⟩ rfl hn hls hst (by simpa using hW) hdg hf) hS (fun q _ h => hF q h) hF (fun u t H1 locs1 ht hvm hw hB hz1 hk1 hS1 => ?_)
  obtain ⟨hP1, -, -⟩ := hB
  rw [ht] at hP1
  exact kk u H1 locs1 hw hP1 (wld_D hD) hS1
theorem kV_wi {post : Int32 → cSt → Prop} (S : CallFix p m c cc nL s args Ts own) (hM : Met l y ws rm (va_Pc (.ref (ga i) :: As) (cPr ga n cT cZ D M H.size)) (va_Qi post (cB ga n cT cZ D (cAA ga n H.size)) (cAA ga n H.size)) 0 0 (cAA ga n H.size)) (cw : CallW R s args own C index y bytes maxL ret ws rm 0 0 nA) (hK : va_K D cl (ctys cT cZ) s) (hP : va_P D cl (wld ga n cT cZ M) H) (hD : va_D A (wld ga n cT cZ M)) (hS : va_S A H0 H locs) (hA : ∀ q, H0.size ≤ q → A q) (hi : i < 25 + 2 * n) (he : cE ga cT cZ M i = .inr (ci, fs)) (hc : cl[ci]? = some q) (hq : q.1 = C) (hn : As.length = nA) (hls : ls.size = nL) (hst : st = As.reverse ++ .ref (ga i) :: rest) (hW : (rest.map fun v => v.category).sum ≤ 8) (hdg : decode cc pc = .ok (.invokevirtual index, 3)) (hf : cells ≤ R.cells ∧ slots ≤ R.slots)
    (kk : ∀ (r : Int32) (M1 : cSt) (H1 : Heap) (locs1 : List Loc), post r M1 → va_P D cl (wld ga n cT cZ M1) H1 → va_D A (wld ga n cT cZ M1) → va_S A H0 H1 locs1 → W p l e R s m args below meth c H1 locs1 cells slots Q (F0 m (pc + 3) ls (.int r :: rest))) : W p l e R s m args below meth c H locs cells slots Q (F0 m pc ls st) := by
  subst hq
  have hF := wld_free hD hS hA
  refine va_calli (va_runV (As := As) (rest := rest) S hM cw ⟨cPr.blind, va_recv hK hP hc (wld_get hi he), fun U hU hW => ⟨rfl, pre_r hK hP hD hU hW⟩⟩ rfl hn hls hst (by simpa using hW) hdg hf) hS (fun q _ h => hF q h) hF (fun r u t H1 locs1 ht hvm hw hB hz1 hk1 hS1 => ?_)
  obtain ⟨hP1, -, -⟩ := hB
  rw [ht] at hP1
  exact kk r u H1 locs1 hw hP1 (wld_D hD) hS1
theorem kV_wq {post : Option Nat → cSt → Prop} (S : CallFix p m c cc nL s args Ts own) (hM : Met l y ws rm (va_Pc (.ref (ga i) :: As) (cPr ga n cT cZ D M H.size)) (va_Qq (fun r u => ∃ o, r = o.map (fun k => ga (25 + 2 * k)) ∧ post o u) (cB ga n cT cZ D (cAA ga n H.size)) (cAA ga n H.size)) 0 0 (cAA ga n H.size)) (cw : CallW R s args own C index y bytes maxL ret ws rm 0 0 nA) (hK : va_K D cl (ctys cT cZ) s) (hP : va_P D cl (wld ga n cT cZ M) H) (hD : va_D A (wld ga n cT cZ M)) (hS : va_S A H0 H locs) (hA : ∀ q, H0.size ≤ q → A q) (hi : i < 25 + 2 * n) (he : cE ga cT cZ M i = .inr (ci, fs)) (hc : cl[ci]? = some q) (hq : q.1 = C) (hn : As.length = nA) (hls : ls.size = nL) (hst : st = As.reverse ++ .ref (ga i) :: rest) (hW : (rest.map fun v => v.category).sum ≤ 8) (hdg : decode cc pc = .ok (.invokevirtual index, 3)) (hf : cells ≤ R.cells ∧ slots ≤ R.slots)
    (kk : ∀ (o : Option Nat) (M1 : cSt) (H1 : Heap) (locs1 : List Loc), post o M1 → va_P D cl (wld ga n cT cZ M1) H1 → va_D A (wld ga n cT cZ M1) → va_S A H0 H1 locs1 → W p l e R s m args below meth c H1 locs1 cells slots Q (F0 m (pc + 3) ls (va_rf (o.map (fun k => ga (25 + 2 * k))) :: rest))) : W p l e R s m args below meth c H locs cells slots Q (F0 m pc ls st) := by
  subst hq
  have hF := wld_free hD hS hA
  refine va_callq (va_runV (As := As) (rest := rest) S hM cw ⟨cPr.blind, va_recv hK hP hc (wld_get hi he), fun U hU hW => ⟨rfl, pre_r hK hP hD hU hW⟩⟩ rfl hn hls hst (by simpa using hW) hdg hf) hS (fun q _ h => hF q h) hF (fun r u t H1 locs1 ht hvm hw hB hz1 hk1 hS1 => ?_)
  obtain ⟨hP1, -, -⟩ := hB
  rw [ht] at hP1
  obtain ⟨o, rfl, h2⟩ := hw
  exact kk o u H1 locs1 h2 hP1 (wld_D hD) hS1
theorem kS_v {post : cSt → Prop} (S : CallFix p m c cc nL s args Ts own) (hM : Met l y ws rm (va_Pc As (cPr ga n cT cZ D M H.size)) (va_Qv post (cB ga n cT cZ D (cAA ga n H.size)) (cAA ga n H.size)) 0 0 (cAA ga n H.size)) (cw : CallB R s args own index y bytes maxL ret ws rm 0 0 nA ∧ (Cond.static y).before args s = true) (hK : va_K D cl (ctys cT cZ) s) (hP : va_P D cl (wld ga n cT cZ M) H) (hD : va_D A (wld ga n cT cZ M)) (hS : va_S A H0 H locs) (hA : ∀ q, H0.size ≤ q → A q) (hn : As.length = nA) (hls : ls.size = nL) (hst : st = As.reverse ++ rest) (hW : (rest.map fun v => v.category).sum ≤ 8) (hdg : decode cc pc = .ok (.invokestatic index, 3)) (hf : cells ≤ R.cells ∧ slots ≤ R.slots)
    (kk : ∀ (M1 : cSt) (H1 : Heap) (locs1 : List Loc), post M1 → va_P D cl (wld ga n cT cZ M1) H1 → va_D A (wld ga n cT cZ M1) → va_S A H0 H1 locs1 → W p l e R s m args below meth c H1 locs1 cells slots Q (F0 m (pc + 3) ls rest)) : W p l e R s m args below meth c H locs cells slots Q (F0 m pc ls st) := by
  have hF := wld_free hD hS hA
  refine va_callv (va_runS (As := As) (rest := rest) S hM cw ⟨cPr.blind, fun U hU hW => ⟨rfl, pre_r hK hP hD hU hW⟩⟩ rfl hn hls hst (by simpa using hW) hdg hf) hS (fun q _ h => hF q h) hF (fun u t H1 locs1 ht hvm hw hB hz1 hk1 hS1 => ?_)
  obtain ⟨hP1, -, -⟩ := hB
  rw [ht] at hP1
  exact kk u H1 locs1 hw hP1 (wld_D hD) hS1
end CCALL
end
section
/-! What the methods of Row, Thing and Tally do, in the words of the state; and small rows for the walks. -/
section CW2
variable {p : Program} {l : Launch} {e : Env} {R : Room} {s : State} {m : MethodId} {args : Array Value} {below : List Frame} {meth : Method} {c : Code} {H : Heap} {locs : List Loc} {cells slots : Nat} {Q : State → Prop} {pc : Nat} {ls : Array Slot} {rest st : List Value}
theorem w_toeq {x y : Int32} (h : x = y) (k : W p l e R s m args below meth c H locs cells slots Q (F0 m pc ls (.int y :: rest))) : W p l e R s m args below meth c H locs cells slots Q (F0 m pc ls (.int x :: rest)) := by rw [h]; exact k
theorem w_loop {σ : Type} (I : σ → Heap → List Loc → Array Slot → Prop) (μ : σ → Nat) (hs : ∀ (x : σ) (H : Heap) (locs : List Loc) (ls : Array Slot), I x H locs ls → (∀ (y : σ) (H' : Heap) (locs' : List Loc) (ls' : Array Slot), μ y < μ x → I y H' locs' ls' → W p l e R s m args below meth c H' locs' cells slots Q (F0 m pc ls' st)) → W p l e R s m args below meth c H locs cells slots Q (F0 m pc ls st)) (x : σ) (h : I x H locs ls) : W p l e R s m args below meth c H locs cells slots Q (F0 m pc ls st) := by
  have key : ∀ (q : Nat) (x : σ) (H : Heap) (locs : List Loc) (ls : Array Slot), μ x < q → I x H locs ls → W p l e R s m args below meth c H locs cells slots Q (F0 m pc ls st) := by
    intro q
    induction q with
    | zero => intro x H locs ls h; exact absurd h (Nat.not_lt_zero _)
    | succ q ih => intro x H locs ls h hI; exact hs x H locs ls hI (fun y H' locs' ls' hy hI' => ih y H' locs' ls' (by omega) hI')
  exact key (μ x + 1) x H locs ls (Nat.lt_succ_self _) h
theorem w_loopP {σ : Type} (I : σ → Array Slot → Prop) (μ : σ → Nat) (hs : ∀ (x : σ) (ls : Array Slot), I x ls → (∀ (y : σ) (ls' : Array Slot), μ y < μ x → I y ls' → W p l e R s m args below meth c H locs cells slots Q (F0 m pc ls' st)) → W p l e R s m args below meth c H locs cells slots Q (F0 m pc ls st)) (x : σ) (h : I x ls) : W p l e R s m args below meth c H locs cells slots Q (F0 m pc ls st) := by
  have key : ∀ (q : Nat) (x : σ) (ls : Array Slot), μ x < q → I x ls → W p l e R s m args below meth c H locs cells slots Q (F0 m pc ls st) := by
    intro q
    induction q with
    | zero => intro x ls h; exact absurd h (Nat.not_lt_zero _)
    | succ q ih => intro x ls h hI; exact hs x ls hI (fun y ls' hy hI' => ih y ls' (by omega) hI')
  exact key (μ x + 1) x ls (Nat.lt_succ_self _) h
end CW2
/-- how many a row holds -/
def rc (M : cSt) (r : Nat) : Nat := (gI M (10 + r)).toNatClampNeg
theorem wf_rc {n : Nat} {M : cSt} (h : cWF n M) {r : Nat} (hr : r < 7) : gI M (10 + r) = nI (rc M r) ∧ rc M r ≤ 200 := by
  obtain ⟨c, hc, e⟩ := h.2.2.1 r hr
  have : rc M r = c := by unfold rc; rw [e]; exact nI_clamp (by omega)
  rw [this]; exact ⟨e, hc⟩
theorem cg_i {x y : Int32} (h : x = y) : some (Value.int x) = some (Value.int y) := by rw [h]
theorem nar_b {v : Int32} (h : v = 0 ∨ v = 1) : narrow .boolean (.int v) = .int v := by rcases h with rfl | rfl <;> rfl
theorem fit_b {v : Int32} (h : v = 0 ∨ v = 1) : fits .boolean (.int v) = true := by rcases h with rfl | rfl <;> rfl
theorem nar_z {v : Int32} (h : v = 0 ∨ v = 1) : vp_nar .boolean v = v := by rcases h with rfl | rfl <;> rfl
theorem upd_up (f : Nat → Int32) (k : Nat) (x : Int32) : upd f k x = va_up f k x := rfl
theorem rc_sI (M : cSt) (r c : Nat) (hc : c < 2 ^ 31) : rc (sI M (10 + r) (nI c)) r = c := by
  unfold rc; rw [show gI (sI M (10 + r) (nI c)) (10 + r) = nI c from by show va_up (gIf M) (10 + r) (nI c) (10 + r) = _; unfold va_up; rw [if_pos rfl]]
  exact nI_clamp hc
theorem rc_sI_ne (M : cSt) (r j : Nat) (v : Int32) (h : 10 + r ≠ j) : rc (sI M j v) r = rc M r := by
  unfold rc; rw [show gI (sI M j v) (10 + r) = gI M (10 + r) from by show va_up (gIf M) j v (10 + r) = _; unfold va_up; rw [if_neg h]]
theorem rc_sR (M : cSt) (r q j : Nat) (v : Option Nat) : rc (sR M q j v) r = rc M r := rfl
theorem rc_sT (M : cSt) (r k f : Nat) (v : Int32) : rc (sT M k f v) r = rc M r := rfl
theorem rc_sF (M : cSt) (r k f : Nat) (v : Option Nat) : rc (sF M k f v) r = rc M r := rfl
theorem rc_sZ (M : cSt) (r k : Nat) (v : Int32) : rc (sZ M k v) r = rc M r := rfl
/-- a counted loop -/
def nfo {σ : Type} (f : Nat → σ → σ) : Nat → σ → σ
  | 0, x => x
  | j + 1, x => f j (nfo f j x)
theorem nfo_s {σ : Type} (f : Nat → σ → σ) (j : Nat) (x : σ) : nfo f (j + 1) x = f j (nfo f j x) := rfl
theorem nfo_0 {σ : Type} (f : Nat → σ → σ) (x : σ) : nfo f 0 x = x := rfl
def anyb (f : Nat → Bool) : Nat → Bool
  | 0 => false
  | j + 1 => anyb f j || f j
theorem anyb_f {f : Nat → Bool} : ∀ {j : Nat}, anyb f j = false → f j = false → anyb f (j + 1) = false := fun {j} h1 h2 => by show (anyb f j || f j) = false; rw [h1, h2]; rfl
theorem anyb_t {f : Nat → Bool} {j : Nat} : ∀ {k : Nat}, j < k → f j = true → anyb f k = true := by
  intro k
  induction k with
  | zero => intro h; omega
  | succ k ih =>
    intro h hf
    show (anyb f k || f k) = true
    by_cases hj : j = k
    · subst hj; rw [hf, Bool.or_true]
    · rw [ih (by omega) hf, Bool.true_or]
def bI (b : Bool) : Int32 := if b then nI 1 else nI 0
-- Row
def f_item (M : cSt) (r : Nat) (i : Int32) : Option Nat := if i < 0 then none else if i.toNatClampNeg < rc M r then gR M r i.toNatClampNeg else none
theorem f_item_nI (M : cSt) (r j : Nat) (hj : j < 2 ^ 31) : f_item M r (nI j) = if j < rc M r then gR M r j else none := by
  unfold f_item; rw [if_neg (nI_pos hj), nI_clamp hj]
def f_add (M : cSt) (r k : Nat) : cSt := if rc M r < 200 then sI (sR M r (rc M r) (some k)) (10 + r) (nI (rc M r + 1)) else M
def f_words (M : cSt) (r : Nat) : Int32 := nfo (fun j w => match gR M r j with | some k => w + gT M k 5 | none => w) (rc M r) (nI 0)
def f_pinned (M : cSt) (r : Nat) : Nat := nfo (fun j w => match gR M r j with | some k => if gT M k 9 = 0 then w else w + 1 | none => w) (rc M r) 0
def f_keep (pl : Int32) (r j : Nat) (M : cSt) : cSt := match gR M r j with | some k => if gT M k 3 = pl then f_add M r k else M | none => M
def f_keepOnly (M : cSt) (r : Nat) (pl : Int32) : cSt := nfo (f_keep pl r) (rc M r) (sI M (10 + r) (nI 0))
def f_clear (M : cSt) (r : Nat) : cSt := sI M (10 + r) (nI 0)
def f_shift (r j : Nat) (M : cSt) : cSt := sR M r j (gR M r (j + 1))
def f_removeFirst (M : cSt) (r : Nat) : cSt := if (f_item M r (nI 0)).isSome then sI (nfo (f_shift r) (rc M r - 1) M) (10 + r) (nI (rc M r - 1)) else M
/-- one step down of a thing that comes in by address: from j + 1 to j -/
def f_sink (M : cSt) (r k : Nat) : Nat → cSt
  | 0 => M
  | j + 1 => match gR M r j with
    | none => M
    | some q => if gT M q 4 ≤ gT M k 4 then M else f_sink (sR (sR M r (j + 1) (some q)) r j (some k)) r k j
def f_addBy (M : cSt) (r k : Nat) : cSt := f_sink (f_add M r k) r k (rc (f_add M r k) r - 1)
-- Thing
def f_hasField (M : cSt) (k : Nat) (i : Int32) : Int32 := if i < 0 then nI 0 else if i.toNatClampNeg < gL M k then nI 1 else nI 0
def f_read (M : cSt) (k : Nat) (i : Int32) : Option Nat := if i < 0 then none else if i.toNatClampNeg < gL M k then gF M k i.toNatClampNeg else none
def f_write (M : cSt) (k : Nat) (i : Int32) (o : Option Nat) : cSt := if i < 0 then M else if i.toNatClampNeg < gL M k then sF M k i.toNatClampNeg o else M
def isYf (M : cSt) (k j : Nat) : Bool := match gF M k j with | some q => decide (gT M q 3 = nI 1) | none => false
def f_hasYoung (M : cSt) (k : Nat) : Int32 := bI (anyb (isYf M k) (gL M k))
def f_end (M : cSt) (k : Nat) : Int32 := gT M k 4 + gT M k 5
def f_card (M : cSt) (k : Nat) : Int32 := (gT M k 4 - nI 100) / nI 16
def f_giveHash (M : cSt) (k : Nat) (h : Int32) : cSt := sT (sT M k 8 h) k 6 (gT M k 5 + nI 1)
def f_moveTo (M : cSt) (k : Nat) (pl a : Int32) : cSt := sT (sT (sT M k 5 (gT M k 6)) k 3 pl) k 4 a
def f_vanish (M : cSt) (k : Nat) : cSt := nfo (fun j M => sF M k j none) (gL M k) (sT (sT M k 3 (nI 0)) k 10 (nI 0))
-- Tally
def f_note (M : cSt) (v : Int32) : cSt := sI (sI M 8 v) 9 (if gI M 9 < v then v else gI M 9)
end
section
set_option maxHeartbeats 4000000 in
set_option maxRecDepth 100000 in
/-- Tenuredale$Row.size -/
theorem cX5_size_ok (l : Launch) (ga : Nat → Nat) (n : Nat) (cT cZ : ClassId) (D : va_G) (M : cSt) (hw : cWF n M) (ro : Nat) (hro : ro < 7)  : Met l yX5_size wsX5_size ({ frames := 0, cells := 0, slots := 0, locals := 0 }) (va_Pc [.ref (ga (8 + ro))] (cPu ga n cT cZ D M)) (vp_Si (fun z9 => z9 = gI M (10 + ro))) 0 0 (fun _ => False) := by
  refine Met.ofW (cc := cX5_size) (maxL := 1) (ret := (some .int)) (by decide) rfl ?_
  intro p e s m args below meth c s₁ B hml hv
  obtain ⟨rfl, hP, hK, hD⟩ := hv
  have hx := B.exec
  have hb := B.bytes
  have hr := B.returns
  have hts := atoms_spec (ws := wsX5_size) B.pre
  have hown : s.vm.findClass RX5 = some m.cls := findClass_of_methodNamed B.named
  have hlocks := B.notSynchronized
  have hin5 : ∀ w ∈ u_ws RX5 TX5 2, w ∈ wsX5_size := by decide +kernel
  have hl := lv_entry ([.ref (ga (8 + ro))]) (n := 1) (Nat.le_of_ble_eq_true rfl)
  rw [lg_entry_eq]
  generalize (lg_sl ([.ref (ga (8 + ro))]) ++ List.replicate (1 - (lg_sl ([.ref (ga (8 + ro))])).length) Slot.unset).toArray = ls at hl ⊢
  have hl : lv_has ls 1 [(0, .ref (ga (8 + ro)))] := hl
  refine lv_aload_n hx hb dX5_size_0 rfl (lv_at hl 0 rfl) ?_
  have hb_1 := (wf_rc hw (r := ro) hro).2
  refine va_get (D := D) (cl := cl) (ci := 5) (v := .int (nI (rc M ro))) (C := RX5) (T := TX5) (N := 2) hx hb hts hin5 hown hK hP (8 + ro) (wld_get (by omega) (E_ro ga cT cZ M hro)) rfl 1 (by decide) (hts (.fieldLink RX5 17 "Tenuredale$Row" "size" "I") (by decide +kernel)) (fun _ h9 => h9) (cg_i (wf_rc hw (r := ro) hro).1) dX5_size_1 ?_
  exact W.iret (v := nI (rc M ro)) hx hb hr (fun t ht hW => ⟨_, rfl, (by exact (wf_rc hw hro).1.symm), ht⟩) (fun q h => by cases h) dX5_size_4
end
