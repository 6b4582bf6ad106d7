section
-- ===== PART A: goes FIRST, ahead of the names: the tables' words, and 'selects' of the private methods out of them =====
/-- a private method of a class that the tables say can be made, by its rows of tables_1 -/
def lw_okq (q : MethodName × Nat) : Prop := (q.1.cls ≠ "java/lang/invoke/MethodHandle" ∧ q.1.cls ≠ "java/lang/invoke/VarHandle") ∧ Cond.instantiable q.1.cls q.2 ∈ tables_1 ∧ Cond.privateMethod q.1 ∈ tables_1 ∧ Cond.instanceMethod q.1 ∈ tables_1
theorem lw_p0 : lw_okq (⟨"java/lang/Throwable", "fillInStackTrace", "(I)Ljava/lang/Throwable;"⟩, 6) := ⟨⟨by decide +kernel, by decide +kernel⟩, List.mem_of_getElem? (i := 312) (by decide +kernel), List.mem_of_getElem? (i := 310) (by decide +kernel), List.mem_of_getElem? (i := 311) (by decide +kernel)⟩
theorem lw_p1 : lw_okq (⟨"Tenuredale$Roots", "indexOf", "(I)I"⟩, 4) := ⟨⟨by decide +kernel, by decide +kernel⟩, List.mem_of_getElem? (i := 42) (by decide +kernel), List.mem_of_getElem? (i := 359) (by decide +kernel), List.mem_of_getElem? (i := 360) (by decide +kernel)⟩
theorem lw_p2 : lw_okq (⟨"Tenuredale$Places", "largeGapFor", "(I)I"⟩, 8) := ⟨⟨by decide +kernel, by decide +kernel⟩, List.mem_of_getElem? (i := 67) (by decide +kernel), List.mem_of_getElem? (i := 414) (by decide +kernel), List.mem_of_getElem? (i := 415) (by decide +kernel)⟩
theorem lw_p3 : lw_okq (⟨"Tenuredale$MinorCollector", "begin", "()V"⟩, 9) := ⟨⟨by decide +kernel, by decide +kernel⟩, List.mem_of_getElem? (i := 177) (by decide +kernel), List.mem_of_getElem? (i := 443) (by decide +kernel), List.mem_of_getElem? (i := 444) (by decide +kernel)⟩
theorem lw_p4 : lw_okq (⟨"Tenuredale$MinorCollector", "addDirty", "(LTenuredale$Row;)V"⟩, 9) := ⟨⟨by decide +kernel, by decide +kernel⟩, List.mem_of_getElem? (i := 177) (by decide +kernel), List.mem_of_getElem? (i := 453) (by decide +kernel), List.mem_of_getElem? (i := 454) (by decide +kernel)⟩
theorem lw_p5 : lw_okq (⟨"Tenuredale$MinorCollector", "move", "(LTenuredale$Thing;)V"⟩, 9) := ⟨⟨by decide +kernel, by decide +kernel⟩, List.mem_of_getElem? (i := 177) (by decide +kernel), List.mem_of_getElem? (i := 483) (by decide +kernel), List.mem_of_getElem? (i := 484) (by decide +kernel)⟩
theorem lw_p6 : lw_okq (⟨"Tenuredale$MinorCollector", "follow", "()V"⟩, 9) := ⟨⟨by decide +kernel, by decide +kernel⟩, List.mem_of_getElem? (i := 177) (by decide +kernel), List.mem_of_getElem? (i := 501) (by decide +kernel), List.mem_of_getElem? (i := 502) (by decide +kernel)⟩
theorem lw_p7 : lw_okq (⟨"Tenuredale$MinorCollector", "dropReferents", "()V"⟩, 9) := ⟨⟨by decide +kernel, by decide +kernel⟩, List.mem_of_getElem? (i := 177) (by decide +kernel), List.mem_of_getElem? (i := 505) (by decide +kernel), List.mem_of_getElem? (i := 506) (by decide +kernel)⟩
theorem lw_p8 : lw_okq (⟨"Tenuredale$MinorCollector", "raiseFinals", "()V"⟩, 9) := ⟨⟨by decide +kernel, by decide +kernel⟩, List.mem_of_getElem? (i := 177) (by decide +kernel), List.mem_of_getElem? (i := 517) (by decide +kernel), List.mem_of_getElem? (i := 518) (by decide +kernel)⟩
theorem lw_p9 : lw_okq (⟨"Tenuredale$MinorCollector", "leaveHalf", "()I"⟩, 9) := ⟨⟨by decide +kernel, by decide +kernel⟩, List.mem_of_getElem? (i := 177) (by decide +kernel), List.mem_of_getElem? (i := 521) (by decide +kernel), List.mem_of_getElem? (i := 522) (by decide +kernel)⟩
theorem lw_p10 : lw_okq (⟨"Tenuredale$Places", "soilYoungHolders", "(LTenuredale$Row;)V"⟩, 8) := ⟨⟨by decide +kernel, by decide +kernel⟩, List.mem_of_getElem? (i := 67) (by decide +kernel), List.mem_of_getElem? (i := 533) (by decide +kernel), List.mem_of_getElem? (i := 534) (by decide +kernel)⟩
theorem lw_p11 : lw_okq (⟨"Tenuredale$Places", "soil", "(LTenuredale$Thing;)V"⟩, 8) := ⟨⟨by decide +kernel, by decide +kernel⟩, List.mem_of_getElem? (i := 67) (by decide +kernel), List.mem_of_getElem? (i := 541) (by decide +kernel), List.mem_of_getElem? (i := 542) (by decide +kernel)⟩
theorem lw_p12 : lw_okq (⟨"Tenuredale$Trace", "markFieldsOf", "(LTenuredale$Thing;)V"⟩, 6) := ⟨⟨by decide +kernel, by decide +kernel⟩, List.mem_of_getElem? (i := 150) (by decide +kernel), List.mem_of_getElem? (i := 587) (by decide +kernel), List.mem_of_getElem? (i := 588) (by decide +kernel)⟩
theorem lw_p13 : lw_okq (⟨"Tenuredale$Trace", "firstStrongField", "(I)I"⟩, 6) := ⟨⟨by decide +kernel, by decide +kernel⟩, List.mem_of_getElem? (i := 150) (by decide +kernel), List.mem_of_getElem? (i := 591) (by decide +kernel), List.mem_of_getElem? (i := 592) (by decide +kernel)⟩
theorem lw_p14 : lw_okq (⟨"Tenuredale$Trace", "markValues", "()Z"⟩, 6) := ⟨⟨by decide +kernel, by decide +kernel⟩, List.mem_of_getElem? (i := 150) (by decide +kernel), List.mem_of_getElem? (i := 598) (by decide +kernel), List.mem_of_getElem? (i := 599) (by decide +kernel)⟩
theorem lw_p15 : lw_okq (⟨"Tenuredale$FullCollector", "dropReferences", "(Z)V"⟩, 6) := ⟨⟨by decide +kernel, by decide +kernel⟩, List.mem_of_getElem? (i := 213) (by decide +kernel), List.mem_of_getElem? (i := 606) (by decide +kernel), List.mem_of_getElem? (i := 607) (by decide +kernel)⟩
def lw_privs_1 : List (MethodName × Nat) := [(⟨"java/lang/Throwable", "fillInStackTrace", "(I)Ljava/lang/Throwable;"⟩, 6), (⟨"Tenuredale$Roots", "indexOf", "(I)I"⟩, 4), (⟨"Tenuredale$Places", "largeGapFor", "(I)I"⟩, 8), (⟨"Tenuredale$MinorCollector", "begin", "()V"⟩, 9), (⟨"Tenuredale$MinorCollector", "addDirty", "(LTenuredale$Row;)V"⟩, 9), (⟨"Tenuredale$MinorCollector", "move", "(LTenuredale$Thing;)V"⟩, 9), (⟨"Tenuredale$MinorCollector", "follow", "()V"⟩, 9), (⟨"Tenuredale$MinorCollector", "dropReferents", "()V"⟩, 9), (⟨"Tenuredale$MinorCollector", "raiseFinals", "()V"⟩, 9), (⟨"Tenuredale$MinorCollector", "leaveHalf", "()I"⟩, 9), (⟨"Tenuredale$Places", "soilYoungHolders", "(LTenuredale$Row;)V"⟩, 8), (⟨"Tenuredale$Places", "soil", "(LTenuredale$Thing;)V"⟩, 8), (⟨"Tenuredale$Trace", "markFieldsOf", "(LTenuredale$Thing;)V"⟩, 6), (⟨"Tenuredale$Trace", "firstStrongField", "(I)I"⟩, 6), (⟨"Tenuredale$Trace", "markValues", "()Z"⟩, 6), (⟨"Tenuredale$FullCollector", "dropReferences", "(Z)V"⟩, 6)]
theorem lw_r1 : ∀ q ∈ lw_privs_1, lw_okq q := List.forall_mem_cons.mpr ⟨lw_p0, List.forall_mem_cons.mpr ⟨lw_p1, List.forall_mem_cons.mpr ⟨lw_p2, List.forall_mem_cons.mpr ⟨lw_p3, List.forall_mem_cons.mpr ⟨lw_p4, List.forall_mem_cons.mpr ⟨lw_p5, List.forall_mem_cons.mpr ⟨lw_p6, List.forall_mem_cons.mpr ⟨lw_p7, List.forall_mem_cons.mpr ⟨lw_p8, List.forall_mem_cons.mpr ⟨lw_p9, List.forall_mem_cons.mpr ⟨lw_p10, List.forall_mem_cons.mpr ⟨lw_p11, List.forall_mem_cons.mpr ⟨lw_p12, List.forall_mem_cons.mpr ⟨lw_p13, List.forall_mem_cons.mpr ⟨lw_p14, List.forall_mem_cons.mpr ⟨lw_p15, fun _ h => absurd h List.not_mem_nil⟩⟩⟩⟩⟩⟩⟩⟩⟩⟩⟩⟩⟩⟩⟩⟩
theorem lw_p16 : lw_okq (⟨"Tenuredale$FullCollector", "raiseFinals", "()V"⟩, 6) := ⟨⟨by decide +kernel, by decide +kernel⟩, List.mem_of_getElem? (i := 213) (by decide +kernel), List.mem_of_getElem? (i := 615) (by decide +kernel), List.mem_of_getElem? (i := 616) (by decide +kernel)⟩
theorem lw_p17 : lw_okq (⟨"Tenuredale$FullCollector", "sweep", "()I"⟩, 6) := ⟨⟨by decide +kernel, by decide +kernel⟩, List.mem_of_getElem? (i := 213) (by decide +kernel), List.mem_of_getElem? (i := 621) (by decide +kernel), List.mem_of_getElem? (i := 622) (by decide +kernel)⟩
theorem lw_p18 : lw_okq (⟨"Tenuredale$Places", "slideOld", "()I"⟩, 8) := ⟨⟨by decide +kernel, by decide +kernel⟩, List.mem_of_getElem? (i := 67) (by decide +kernel), List.mem_of_getElem? (i := 635) (by decide +kernel), List.mem_of_getElem? (i := 636) (by decide +kernel)⟩
theorem lw_p19 : lw_okq (⟨"Tenuredale$Places", "emptyYoung", "()I"⟩, 8) := ⟨⟨by decide +kernel, by decide +kernel⟩, List.mem_of_getElem? (i := 67) (by decide +kernel), List.mem_of_getElem? (i := 639) (by decide +kernel), List.mem_of_getElem? (i := 640) (by decide +kernel)⟩
theorem lw_p20 : lw_okq (⟨"Tenuredale$Places", "resizeOld", "()V"⟩, 8) := ⟨⟨by decide +kernel, by decide +kernel⟩, List.mem_of_getElem? (i := 67) (by decide +kernel), List.mem_of_getElem? (i := 647) (by decide +kernel), List.mem_of_getElem? (i := 648) (by decide +kernel)⟩
theorem lw_p21 : lw_okq (⟨"Tenuredale", "occupant", "(I)LTenuredale$Thing;"⟩, 9) := ⟨⟨by decide +kernel, by decide +kernel⟩, List.mem_of_getElem? (i := 19) (by decide +kernel), List.mem_of_getElem? (i := 775) (by decide +kernel), List.mem_of_getElem? (i := 776) (by decide +kernel)⟩
theorem lw_p22 : lw_okq (⟨"Tenuredale", "madeAs", "(I)LTenuredale$Thing;"⟩, 9) := ⟨⟨by decide +kernel, by decide +kernel⟩, List.mem_of_getElem? (i := 19) (by decide +kernel), List.mem_of_getElem? (i := 853) (by decide +kernel), List.mem_of_getElem? (i := 854) (by decide +kernel)⟩
theorem lw_p23 : lw_okq (⟨"Tenuredale$Trace", "cutPairs", "()V"⟩, 6) := ⟨⟨by decide +kernel, by decide +kernel⟩, List.mem_of_getElem? (i := 150) (by decide +kernel), List.mem_of_getElem? (i := 923) (by decide +kernel), List.mem_of_getElem? (i := 924) (by decide +kernel)⟩
theorem lw_p24 : lw_okq (⟨"Tenuredale", "digestOf", "(LTenuredale$Thing;JI)J"⟩, 9) := ⟨⟨by decide +kernel, by decide +kernel⟩, List.mem_of_getElem? (i := 19) (by decide +kernel), List.mem_of_getElem? (i := 927) (by decide +kernel), List.mem_of_getElem? (i := 928) (by decide +kernel)⟩
def lw_privs_2 : List (MethodName × Nat) := [(⟨"Tenuredale$FullCollector", "raiseFinals", "()V"⟩, 6), (⟨"Tenuredale$FullCollector", "sweep", "()I"⟩, 6), (⟨"Tenuredale$Places", "slideOld", "()I"⟩, 8), (⟨"Tenuredale$Places", "emptyYoung", "()I"⟩, 8), (⟨"Tenuredale$Places", "resizeOld", "()V"⟩, 8), (⟨"Tenuredale", "occupant", "(I)LTenuredale$Thing;"⟩, 9), (⟨"Tenuredale", "madeAs", "(I)LTenuredale$Thing;"⟩, 9), (⟨"Tenuredale$Trace", "cutPairs", "()V"⟩, 6), (⟨"Tenuredale", "digestOf", "(LTenuredale$Thing;JI)J"⟩, 9)]
theorem lw_r2 : ∀ q ∈ lw_privs_2, lw_okq q := List.forall_mem_cons.mpr ⟨lw_p16, List.forall_mem_cons.mpr ⟨lw_p17, List.forall_mem_cons.mpr ⟨lw_p18, List.forall_mem_cons.mpr ⟨lw_p19, List.forall_mem_cons.mpr ⟨lw_p20, List.forall_mem_cons.mpr ⟨lw_p21, List.forall_mem_cons.mpr ⟨lw_p22, List.forall_mem_cons.mpr ⟨lw_p23, List.forall_mem_cons.mpr ⟨lw_p24, fun _ h => absurd h List.not_mem_nil⟩⟩⟩⟩⟩⟩⟩⟩⟩
def lw_privs : List (MethodName × Nat) := lw_privs_1 ++ (lw_privs_2)
def lw_tbl : List Cond := k2_sels lw_privs ++ tables_1
theorem lw_privs_ok : ∀ q ∈ lw_privs, lw_okq q := by
  show ∀ q ∈ lw_privs_1 ++ (lw_privs_2), lw_okq q
  exact List.forall_mem_append.mpr ⟨lw_r1, lw_r2⟩
-- ===== end of PART A; then your names; then what follows =====
end
section
/-! ===== BEGIN words of one list among another's, by their places ===== -/
theorem goodIn_r {big : List Cond} (ws : List Cond) (ps : List Nat) (hp : ws = ps.filterMap (fun i => big[i]?)) (h : ws.all goodWord = true) : GoodIn big ws := by
  intro w hw
  have h1 := List.all_eq_true.mp h w hw
  rw [hp] at hw
  obtain ⟨i, -, hi⟩ := List.mem_filterMap.mp hw
  have hm : w ∈ big := by first | exact List.mem_of_getElem? hi | exact List.getElem?_mem hi
  exact ⟨hm, good_of_word h1⟩
theorem goodIn_app {big a b : List Cond} (ha : GoodIn big a) (hb : GoodIn big b) : GoodIn big (a ++ b) := fun w h => (List.mem_append.mp h).elim (ha w) (hb w)
theorem goodIn_ca {big a b : List Cond} {c : Cond} (ha : GoodIn big (c :: a)) (hb : GoodIn big b) : GoodIn big (c :: (a ++ b)) := fun w h => (List.mem_cons.mp h).elim (fun e => ha w (List.mem_cons.mpr (Or.inl e))) (fun h => (List.mem_append.mp h).elim (fun h => ha w (List.mem_cons.mpr (Or.inr h))) (hb w))
theorem goodIn_sub {big ws : List Cond} (hm : ∀ w ∈ ws, w ∈ big) (h : ws.all goodWord = true) : GoodIn big ws := fun w hw => ⟨hm w hw, good_of_word (List.all_eq_true.mp h w hw)⟩
/-! ===== END ===== -/

/-! ===== BEGIN exceptions that leave a method, and their catching by the caller (launches without stack traces) ===== -/
section VXA
/-! The laws vx_back, vx_callV, vx_callS, vx_callSW, vx_throw0, vx_throwS follow proofs of the library, with one case more: JvmDerived/Free/Laws.lean (Back.of_free), Shelf42/LK1.lean (callV, callS), Shelf/KitTraced.lean (throwNew0V, throwNewS). -/
/-- where a method has thrown q: the class by its name, the cell, what was written, the world -/
def vx_T (XC : String → State → State → Prop) (st : State) (q : Addr) (t : State) (mc ms : Nat) (free : Addr → Prop) : Prop :=
  ∃ (E : String) (ce : Cell) (L : List Loc), XC E st t ∧ t.heap[q]? = some ce ∧ ce.vm = .none ∧ st.vm.findClass E = some ce.cls ∧ st.WarmedH t.vm ∧ st.sameButNew ({ t with vm := st.vm } : State) L mc ms ∧ ∀ z ∈ L, free z.base
def vx_Q (Qc : Array Value → State → Outcome → State → Prop) (XC : String → State → State → Prop) (mc ms : Nat) (free : Addr → Prop) : Array Value → State → Outcome → State → Prop := fun a st o t =>
  (Qc a st o t ∧ ∃ L, FrameEnd st o t L mc ms ∧ ∀ q ∈ L, free q.base) ∨ ∃ q, o = .threw q ∧ vx_T XC st q t mc ms free
/-- a callee that returns or throws -/
def vx_Met (l : Launch) (y : MethodName) (ws : List Cond) (rm : Room) (Pc : Array Value → State → Prop) (Qc : Array Value → State → Outcome → State → Prop) (XC : String → State → State → Prop) (mc ms : Nat) (free : Addr → Prop) : Prop :=
  MetFree l y (headSpec ws rm) Pc (fun _ _ _ _ _ => True) (vx_Q Qc XC mc ms free)
def vx_Post (XC : String → State → State → Prop) (mc ms : Nat) (free : Addr → Prop) : Pt → Array Value → Addr → Pt → Prop := fun A a q B =>
  ∃ (g : JFrame) (mk : MethodId) (t : State) (L : List Loc) (E : String) (ce : Cell), B.U.heap = t.heap ∧ B.U.vm = t.vm ∧ XC E (A.U.calling g mk a) t ∧ t.heap[q]? = some ce ∧ ce.vm = .none ∧ A.U.vm.findClass E = some ce.cls ∧ B.locs = A.locs ++ L ∧ (∀ z ∈ L, free z.base) ∧ B.cells = A.cells + mc ∧ B.slots = A.slots + ms
def vx_Back (l : Launch) (R : Room) (p : Program) (e : Env) (below : List Frame) (s : State) (sargs : Array Value) (y : MethodName) (len W9 : Nat)
    (Pre : Pt → Array Value → Prop) (Post : Pt → Array Value → Option Value → Pt → Prop) (PostX : Pt → Array Value → Addr → Pt → Prop) : Prop :=
  ∀ (m : MethodId) (meth : Method) (c : Code) (A : Pt) (g : JFrame) (ig : Instr) (mk : MethodId) (a : Array Value),
    Stand p l e R s m sargs below meth c A.U A.locs A.cells A.slots → g.method = m → g.locals.size = c.maxLocals → decode c.code g.pc = .ok (ig, len) →
    2 * g.monitorRoom + (g.stack.map fun v => v.category).sum ≤ W9 → A.U.methodNamed? y = some mk → Pre A a →
    (∃ (v : Option Value) (B : Pt), Stand p l e R s m sargs below meth c B.U B.locs B.cells B.slots ∧ Post A a v B ∧
      Steps p.tables e below (doInvoke e (A.U.setTop g) [] mk a).1 (B.U.setTop { g with pc := g.pc + len, stack := v.toList ++ g.stack })) ∨
    (∃ (q : Addr) (B : Pt), Stand p l e R s m sargs below meth c B.U B.locs B.cells B.slots ∧ PostX A a q B ∧
      Steps p.tables e below (doInvoke e (A.U.setTop g) [] mk a).1 ((B.U.setTop g).pushFrame (.throwing q)))
section Payer
variable {l : Launch} {R : Room} {p : Program} {e : Env} {below : List Frame} {s : State} {sargs : Array Value} {y : MethodName} {len W9 : Nat}
theorem vx_back {ws : List Cond} {rm : Room} {Pc : Array Value → State → Prop} {Qc : Array Value → State → Outcome → State → Prop} {XC : String → State → State → Prop} {mc ms : Nat} {free : Addr → Prop} {bytes : ByteArray} {maxL : Nat} {ret : Option FieldType}
    (hM : vx_Met l y ws rm Pc Qc XC mc ms free) (hblind : FrameBlind Pc) (hrc : rm.cells = mc) (hrs : rm.slots = ms)
    (hframes : rm.frames + 1 ≤ R.frames) (hlocals : W9 + (maxL + 11) + rm.locals ≤ R.locals)
    (hws : ∀ w ∈ ws, ∀ a' U, s.WarmedH U.vm → w.before a' U = true) (hcode : Cond.code y bytes maxL ret ∈ ws) (hinit : ∀ a' U, s.WarmedH U.vm → (Cond.initialized y.cls).before a' U = true) :
    vx_Back l R p e below s sargs y len W9 (PreOf R mc ms Pc) (PostOf Qc mc ms free) (vx_Post XC mc ms free) := by
  intro m meth c A g ig mk a X hg hsize hdg hW hn hp
  have h1 : (headSpec ws rm).pre.before a A.U = true := atoms_intro fun w hw => hws w hw _ _ X.warmed
  have h2 : (Cond.code y bytes maxL ret).before a A.U = true := hws _ hcode _ _ X.warmed
  have h3 : (Cond.initialized y.cls).before a A.U = true := hinit _ _ X.warmed
  have h4 : A.cells + (headSpec ws rm).room.cells ≤ R.cells := by rw [show (headSpec ws rm).room.cells = mc from hrc]; exact hp.1
  have h5 : A.slots + (headSpec ws rm).room.slots ≤ R.slots := by rw [show (headSpec ws rm).room.slots = ms from hrs]; exact hp.2.1
  have hPc : Pc a (A.U.calling g mk a) := hblind _ _ _ _ hp.2.2
  obtain ⟨U, Ls, c0, s0⟩ := A
  dsimp only [Pt.U, Pt.locs, Pt.cells, Pt.slots] at h1 h2 h3 h4 h5 X hn hPc ⊢
  obtain ⟨methY, cY, hmY, hcY, -, hlY, -, -, -, -⟩ := Cond.code_spec hn h2
  obtain ⟨kY, hkY, -⟩ := className_of_methodNamed hn
  have hinitY : kY.init = .initialized := Cond.initialized_spec (findClass_of_methodNamed hn) hkY h3
  have h : At U g.method c below := by rw [hg]; exact X.here
  have hlocals9 : W9 + (maxL + 11) + (headSpec ws rm).room.locals ≤ R.locals := hlocals
  have happ : (headSpec ws rm).appliesLoose y e.platform (U.calling g mk a) = true :=
    Spec.appliesLoose_calling (g := g) h hdg hn hkY hinitY
      (X.room_calling (g := g) (R' := (headSpec ws rm).room) hsize hmY hcY hframes (by rw [hlY]; omega) h4 h5) h1
  obtain ⟨mid, hmid⟩ := h.above
  have hfr : (U.setTop g).frames = (.java g :: mid) ++ below := by rw [State.frames_setTop' g h.top, hmid]; rfl
  obtain ⟨o, s₂, hsteps, -, hend, hq⟩ := Steps.callFree hM p X.admits X.cas X.clock (acts := []) hfr happ hPc trivial
  have hq' : vx_Q Qc XC mc ms free a (U.calling g mk a) o s₂ := hq
  rw [State.frames_setTop' g h.top] at hend
  obtain ⟨g₀, hg0⟩ := Option.isSome_iff_exists.mp h.top
  obtain ⟨r, hr⟩ := State.topJava?_eq_some.mp hg0
  have hr' : (({ U with heap := s₂.heap, slotsUsed := s₂.slotsUsed } : State).setVm s₂.vm).frames = .java g₀ :: r := hr
  rcases hq' with ⟨hqc, L, hfe, hL⟩ | ⟨q, rfl, E, ce, L, hx, hce, hcv, hcl, hW₂, hsm, hL⟩
  · obtain ⟨⟨v, rfl⟩, hW₂, e2, q2, q3, q4, q5, q6⟩ := id hfe
    have e3 : s₂ = ({ (U.calling g mk a).setFrames s₂.frames with heap := s₂.heap, slotsUsed := s₂.slotsUsed } : State).setVm s₂.vm := by
      have : s₂ = ({ s₂ with vm := (U.calling g mk a).vm } : State).setVm s₂.vm := rfl
      rw [e2] at this
      exact this
    obtain ⟨c₂, i₂, len₂, hc₂, hd₂, hf₂⟩ := hend
    have hW' : U.WarmedH s₂.vm := hW₂
    have hcc : c₂ = c := by
      have h1 : s₂.code? g.method = U.code? g.method := by
        rw [State.code?_eq, State.code?_eq, hW'.alike.method?]
      exact Option.some.inj (hc₂.symm.trans (h1.trans h.code))
    subst hcc
    have hlen : len₂ = len := by rw [hdg] at hd₂; cases hd₂; rfl
    subst hlen
    have hs₂ : s₂ = (({ U with heap := s₂.heap, slotsUsed := s₂.slotsUsed } : State).setVm s₂.vm).setTop { g with pc := g.pc + len₂, stack := v.toList ++ g.stack } := by
      refine e3.trans ?_
      rw [hf₂, State.calling_eq h.top, State.setFrames_setFrames, State.setTop_of_frames _ hr', hr]
      rfl
    have hsame : U.sameButNew ({ U with heap := s₂.heap, slotsUsed := s₂.slotsUsed } : State) L mc ms := by
      refine ⟨?_, q2, q3, q4, q5, q6⟩
      obtain ⟨t, ht, -⟩ := State.frames_cons hr
      show ({ U with heap := s₂.heap, slotsUsed := s₂.slotsUsed } : State) = { U.setFrames U.frames with heap := s₂.heap, slotsUsed := s₂.slotsUsed }
      rw [State.setFrames_self ht]
    subst hg
    refine Or.inl ⟨v, ⟨(({ U with heap := s₂.heap, slotsUsed := s₂.slotsUsed } : State).setVm s₂.vm), Ls ++ L, c0 + mc, s0 + ms⟩,
      ⟨X.admits, X.cas, X.clock, X.frames, X.room, X.hears, X.method, X.code, (X.here.setHeapUsed s₂.heap s₂.slotsUsed).setVm hW'.alike, X.tail, State.WarmedH.trans X.warmed hW', X.limits, X.bytes, X.same.trans (hsame.setVm s.vm)⟩,
      ⟨g, mk, s₂, L, rfl, rfl, hqc, rfl, hL, rfl, rfl⟩, ?_⟩
    show Steps p.tables e below _ ((({ U with heap := s₂.heap, slotsUsed := s₂.slotsUsed } : State).setVm s₂.vm).setTop { g with pc := g.pc + len₂, stack := v.toList ++ g.stack })
    rw [← hs₂]
    exact hsteps
  · obtain ⟨e2, q2, q3, q4, q5, q6⟩ := id hsm
    have e3 : s₂ = ({ (U.calling g mk a).setFrames s₂.frames with heap := s₂.heap, slotsUsed := s₂.slotsUsed } : State).setVm s₂.vm := by
      have : s₂ = ({ s₂ with vm := (U.calling g mk a).vm } : State).setVm s₂.vm := rfl
      rw [e2] at this
      exact this
    have hf₂ : s₂.frames = .throwing q :: .java g :: U.frames.tail := hend
    have hW' : U.WarmedH s₂.vm := hW₂
    have hs₂ : s₂ = ((({ U with heap := s₂.heap, slotsUsed := s₂.slotsUsed } : State).setVm s₂.vm).setTop g).pushFrame (.throwing q) := by
      refine e3.trans ?_
      rw [hf₂, State.calling_eq h.top, State.setFrames_setFrames, State.pushFrame, State.frames_setTop _ hr', State.setTop_of_frames _ hr', State.setFrames_setFrames, hr]
      rfl
    have hsame : U.sameButNew ({ U with heap := s₂.heap, slotsUsed := s₂.slotsUsed } : State) L mc ms := by
      refine ⟨?_, q2, q3, q4, q5, q6⟩
      obtain ⟨t, ht, -⟩ := State.frames_cons hr
      show ({ U with heap := s₂.heap, slotsUsed := s₂.slotsUsed } : State) = { U.setFrames U.frames with heap := s₂.heap, slotsUsed := s₂.slotsUsed }
      rw [State.setFrames_self ht]
    subst hg
    refine Or.inr ⟨q, ⟨(({ U with heap := s₂.heap, slotsUsed := s₂.slotsUsed } : State).setVm s₂.vm), Ls ++ L, c0 + mc, s0 + ms⟩,
      ⟨X.admits, X.cas, X.clock, X.frames, X.room, X.hears, X.method, X.code, (X.here.setHeapUsed s₂.heap s₂.slotsUsed).setVm hW'.alike, X.tail, State.WarmedH.trans X.warmed hW', X.limits, X.bytes, X.same.trans (hsame.setVm s.vm)⟩,
      ⟨g, mk, s₂, L, E, ce, rfl, rfl, hx, hce, hcv, hcl, rfl, hL, rfl, rfl⟩, ?_⟩
    show Steps p.tables e below _ (((({ U with heap := s₂.heap, slotsUsed := s₂.slotsUsed } : State).setVm s₂.vm).setTop g).pushFrame (.throwing q))
    rw [← hs₂]
    exact hsteps
end Payer
section Calls
variable {p : Program} {l : Launch} {e : Env} {R : Room} {s : State} {m : MethodId} {args : Array Value} {below : List Frame} {meth : Method} {c : Code} {T : State} {locs : List Loc} {cells slots : Nat}
theorem vx_callV (X : Stand p l e R s m args below meth c T locs cells slots) (hexec : p.tables.exec = Jvm.exec) {own C : String} {index : Nat} {y : MethodName} {bytes : ByteArray} {maxL : Nat} {ret : Option FieldType}
    (hown : s.vm.findClass own = some m.cls) (hlink : (Cond.methodLink own index y).before args s = true) (hinst : (Cond.instanceMethod y).before args s = true) (hsel : (Cond.selects C y y).before args s = true)
    (hcode : (Cond.code y bytes maxL ret).before args s = true) (hy : y.cls ≠ "java/lang/invoke/MethodHandle" ∧ y.cls ≠ "java/lang/invoke/VarHandle")
    {W9 : Nat} {Pre : Pt → Array Value → Prop} {Post : Pt → Array Value → Option Value → Pt → Prop} {PostX : Pt → Array Value → Addr → Pt → Prop} (hK : vx_Back l R p e below s args y 3 W9 Pre Post PostX)
    {b : Addr} {cellB : Cell} (hcell : T.heap[b]? = some cellB) (hobj : cellB.vm.isStatics = false) (hcls : s.vm.findClass C = some cellB.cls)
    {g : JFrame} (hg : g.method = m) (hsize : g.locals.size = c.maxLocals) {argsL rest : List Value} (hlen : ∀ sig, parseMethodDescriptor y.desc = some sig → argsL.length = sig.parameters.length)
    (hstack : g.stack = argsL.reverse ++ .ref b :: rest) (hW : 2 * g.monitorRoom + (rest.map fun v => v.category).sum ≤ W9) (hdg : decode c.code g.pc = .ok (.invokevirtual index, 3))
    (hpre : ∀ vm₁, s.WarmedH vm₁ → Pre ⟨T.setVm vm₁, locs, cells, slots⟩ (Value.ref b :: argsL).toArray) :
    (∃ (v : Option Value) (vm₁ : Vm) (B : Pt), s.WarmedH vm₁ ∧ Stand p l e R s m args below meth c B.U B.locs B.cells B.slots ∧ Post ⟨T.setVm vm₁, locs, cells, slots⟩ (Value.ref b :: argsL).toArray v B ∧
      ∀ target, Steps p.tables e below (B.U.setTop { g with pc := g.pc + 3, stack := v.toList ++ rest }) target → Steps p.tables e below (T.setTop g) target) ∨
    (∃ (q : Addr) (vm₁ : Vm) (B : Pt), s.WarmedH vm₁ ∧ Stand p l e R s m args below meth c B.U B.locs B.cells B.slots ∧ PostX ⟨T.setVm vm₁, locs, cells, slots⟩ (Value.ref b :: argsL).toArray q B ∧
      Steps p.tables e below (T.setTop g) ((B.U.setTop { g with stack := rest }).pushFrame (.throwing q))) := by
  obtain ⟨mk, methM, hnamed, hmethM, hstM, habM⟩ := Cond.instanceMethod_spec hinst
  obtain ⟨methM', cM, hmethM', -, -, -, -, -, -, hsigM⟩ := Cond.code_spec hnamed hcode
  cases hmethM.symm.trans hmethM'
  obtain ⟨c2, r2, m2, q1, q2, q3, q4, kP, hkP, hkPi⟩ := Cond.selects_spec hsel
  cases hcls.symm.trans q1
  cases (State.methodFound?_of_named hnamed hy).symm.trans q2
  cases hnamed.symm.trans q3
  have hselP : selectMethod e.platform s.vm cellB.cls mk = .method mk := by rw [Launch.admits_selectMethod X.admits]; exact q4
  obtain ⟨vm₁, X₁, hstep₁⟩ := X.invokevirtual hexec hown hlink hnamed hmethM hstM hkP hkPi hy (a := b) (cell := cellB) hcell
    (fun z h => by rw [h] at hobj; cases hobj) hselP hmethM habM hkP hkPi (g := g) hg (argsL := argsL) (rest := rest) (hlen _ hsigM) hstack hdg
  rcases hK m meth c ⟨T.setVm vm₁, locs, cells, slots⟩ { g with stack := rest } (.invokevirtual index) mk (Value.ref b :: argsL).toArray X₁ hg hsize hdg hW (X₁.named hnamed) (hpre vm₁ X₁.warmed) with ⟨v, B, X', hpost, hsteps⟩ | ⟨q, B, X', hpost, hsteps⟩
  · exact Or.inl ⟨v, vm₁, B, X₁.warmed, X', hpost, fun target h => hstep₁ _ fun acts => by rw [doInvoke_state]; exact hsteps.trans h⟩
  · exact Or.inr ⟨q, vm₁, B, X₁.warmed, X', hpost, hstep₁ _ fun acts => by rw [doInvoke_state]; exact hsteps⟩
theorem vx_callS (X : Stand p l e R s m args below meth c T locs cells slots) (hexec : p.tables.exec = Jvm.exec) {own : String} {index : Nat} {y : MethodName} {bytes : ByteArray} {maxL : Nat} {ret : Option FieldType}
    (hown : s.vm.findClass own = some m.cls) (hlink : (Cond.methodLink own index y).before args s = true) (hstat : (Cond.static y).before args s = true) (hinit : (Cond.initialized y.cls).before args s = true)
    (hcode : (Cond.code y bytes maxL ret).before args s = true) (hy : y.cls ≠ "java/lang/invoke/MethodHandle" ∧ y.cls ≠ "java/lang/invoke/VarHandle")
    {W9 : Nat} {Pre : Pt → Array Value → Prop} {Post : Pt → Array Value → Option Value → Pt → Prop} {PostX : Pt → Array Value → Addr → Pt → Prop} (hK : vx_Back l R p e below s args y 3 W9 Pre Post PostX)
    {g : JFrame} (hg : g.method = m) (hsize : g.locals.size = c.maxLocals) {argsL rest : List Value} (hlen : ∀ sig, parseMethodDescriptor y.desc = some sig → argsL.length = sig.parameters.length)
    (hstack : g.stack = argsL.reverse ++ rest) (hW : 2 * g.monitorRoom + (rest.map fun v => v.category).sum ≤ W9) (hdg : decode c.code g.pc = .ok (.invokestatic index, 3))
    (hpre : ∀ vm₁, s.WarmedH vm₁ → Pre ⟨T.setVm vm₁, locs, cells, slots⟩ argsL.toArray) :
    (∃ (v : Option Value) (vm₁ : Vm) (B : Pt), s.WarmedH vm₁ ∧ Stand p l e R s m args below meth c B.U B.locs B.cells B.slots ∧ Post ⟨T.setVm vm₁, locs, cells, slots⟩ argsL.toArray v B ∧
      ∀ target, Steps p.tables e below (B.U.setTop { g with pc := g.pc + 3, stack := v.toList ++ rest }) target → Steps p.tables e below (T.setTop g) target) ∨
    (∃ (q : Addr) (vm₁ : Vm) (B : Pt), s.WarmedH vm₁ ∧ Stand p l e R s m args below meth c B.U B.locs B.cells B.slots ∧ PostX ⟨T.setVm vm₁, locs, cells, slots⟩ argsL.toArray q B ∧
      Steps p.tables e below (T.setTop g) ((B.U.setTop { g with stack := rest }).pushFrame (.throwing q))) := by
  obtain ⟨mk, hnamed⟩ := Cond.code_named hcode
  obtain ⟨methM, cM, hmethM, -, -, -, -, -, -, hsigM⟩ := Cond.code_spec hnamed hcode
  have hstatic : methM.isStatic = true := Cond.static_spec hnamed hmethM hstat
  obtain ⟨kP, hkP, -⟩ := className_of_methodNamed hnamed
  have hinitP : kP.init = .initialized := Cond.initialized_spec (findClass_of_methodNamed hnamed) hkP hinit
  obtain ⟨vm₁, X₁, hstep₁⟩ := X.invokestatic hexec hown hlink hnamed hmethM hstatic hkP hinitP hy (g := g) hg (argsL := argsL) (rest := rest) (hlen _ hsigM) hstack hdg
  rcases hK m meth c ⟨T.setVm vm₁, locs, cells, slots⟩ { g with stack := rest } (.invokestatic index) mk argsL.toArray X₁ hg hsize hdg hW (X₁.named hnamed) (hpre vm₁ X₁.warmed) with ⟨v, B, X', hpost, hsteps⟩ | ⟨q, B, X', hpost, hsteps⟩
  · exact Or.inl ⟨v, vm₁, B, X₁.warmed, X', hpost, fun target h => hstep₁ _ fun acts => by rw [doInvoke_state]; exact hsteps.trans h⟩
  · exact Or.inr ⟨q, vm₁, B, X₁.warmed, X', hpost, hstep₁ _ fun acts => by rw [doInvoke_state]; exact hsteps⟩
end Calls
theorem vx_cls {s : State} {T : State} {vm₁ : Vm} {E : String} {k : ClassId} (hW : s.WarmedH vm₁) (h : (T.setVm vm₁).vm.findClass E = some k) : s.vm.findClass E = some k := by
  have h1 : vm₁.findClass E = some k := h
  rw [hW.alike.findClass] at h1
  exact h1
/-- the method's frame g, with q thrown over it -/
def vx_W (p : Program) (l : Launch) (e : Env) (R : Room) (s : State) (m : MethodId) (args : Array Value) (below : List Frame) (meth : Method) (c : Code) (H : Heap) (locs : List Loc) (cells slots : Nat) (Q : State → Prop) (g : JFrame) (q : Addr) : Prop :=
  ∀ T : State, T.heap = H → Stand p l e R s m args below meth c T locs cells slots → ∃ t, Steps p.tables e below ((T.setTop g).pushFrame (.throwing q)) t ∧ Q t
def vx_Run (p : Program) (l : Launch) (e : Env) (R : Room) (s : State) (m : MethodId) (args : Array Value) (below : List Frame) (meth : Method) (c : Code) (H : Heap) (locs : List Loc) (cells slots mc ms : Nat) (g : JFrame) (rest : List Value) (Qa : State → Outcome → State → Prop) (XC : String → State → State → Prop) (free : Addr → Prop) : Prop :=
  ∀ T : State, T.heap = H → Stand p l e R s m args below meth c T locs cells slots →
    (∃ (v : Option Value) (st₀ t T' : State) (L : List Loc), st₀.heap = H ∧ Stand p l e R s m args below meth c T' (locs ++ L) (cells + mc) (slots + ms) ∧ (∀ q ∈ L, free q.base) ∧ T'.heap = t.heap ∧ T'.vm = t.vm ∧ Qa st₀ (.returned v) t ∧
      Goes p e below T g T' { g with pc := g.pc + 3, stack := v.toList ++ rest }) ∨
    (∃ (q : Addr) (st₀ t T' : State) (L : List Loc) (E : String) (ce : Cell), st₀.heap = H ∧ Stand p l e R s m args below meth c T' (locs ++ L) (cells + mc) (slots + ms) ∧ (∀ z ∈ L, free z.base) ∧ T'.heap = t.heap ∧ T'.vm = t.vm ∧ XC E st₀ t ∧ t.heap[q]? = some ce ∧ ce.vm = .none ∧ s.vm.findClass E = some ce.cls ∧
      Steps p.tables e below (T.setTop g) ((T'.setTop { g with stack := rest }).pushFrame (.throwing q)))
def vx_X {S : Type} (px : S → Prop) (B : String → S → State → Prop) (A : Nat → Prop) : String → State → State → Prop := fun E st t => ∃ u : S, px u ∧ B E u t ∧ va_F A st t
section Runs
variable {p : Program} {l : Launch} {e : Env} {R : Room} {s : State} {m : MethodId} {args : Array Value} {below : List Frame} {meth : Method} {c : Code} {H : Heap} {locs : List Loc} {cells slots : Nat}
variable {y : MethodName} {bytes cc : ByteArray} {maxL nL mc ms n index : Nat} {ret : Option FieldType} {ws : List Cond} {rm : Room} {Pc : Array Value → State → Prop} {Qc : Array Value → State → Outcome → State → Prop} {XC : String → State → State → Prop} {free : Addr → Prop} {Ts : List Cond} {own C : String} {b : Addr} {As rest : List Value} {g : JFrame}
theorem vx_callBack (cb : CallB R s args own index y bytes maxL ret ws rm mc ms n) (hM : vx_Met l y ws rm Pc Qc XC mc ms free) (hbl : FrameBlind Pc) : vx_Back l R p e below s args y 3 8 (PreOf R mc ms Pc) (PostOf Qc mc ms free) (vx_Post XC mc ms free) := by
  obtain ⟨hrc, hrs, hfr, hlo, hws, hcw, -, hini, -⟩ := cb
  exact vx_back (bytes := bytes) (maxL := maxL) (ret := ret) hM hbl hrc hrs hfr hlo hws hcw (fun a' U hW => word_at hW (Or.inl (by first | rfl | simp [Cond.onTables, Cond.keeps, Cond.steady])) hini)
theorem vx_runV (S : CallFix p m c cc nL s args Ts own) (hM : vx_Met l y ws rm Pc Qc XC mc ms free) (cw : CallW R s args own C index y bytes maxL ret ws rm mc ms n) (hp : PreV s H C b Pc As)
    (hg : g.method = m) (hn : As.length = n) (hsize : g.locals.size = nL) (hstack : g.stack = As.reverse ++ .ref b :: rest) (hW : 2 * g.monitorRoom + (rest.map fun v => v.category).sum ≤ 8) (hdg : decode cc g.pc = .ok (.invokevirtual index, 3)) (hf : cells + mc ≤ R.cells ∧ slots + ms ≤ R.slots) :
    vx_Run p l e R s m args below meth c H locs cells slots mc ms g rest (Qc (Value.ref b :: As).toArray) XC free := by
  have hK : vx_Back l R p e below s args y 3 8 (PreOf R mc ms Pc) (PostOf Qc mc ms free) (vx_Post XC mc ms free) := vx_callBack cw.1 hM hp.1
  obtain ⟨⟨-, -, -, -, -, -, hcode, -, hy, hlen, hl⟩, hin, hse⟩ := cw
  obtain ⟨hx, hb, hml, ho, -⟩ := S
  obtain ⟨-, ⟨cellB, hcB, hoB, hclB⟩, hPc⟩ := hp
  intro T hT X
  rcases vx_callV X hx (C := C) (bytes := bytes) (maxL := maxL) (ret := ret) ho hl hin hse hcode hy hK (by rw [hT]; exact hcB) hoB hclB hg (hsize.trans hml.symm) (argsL := As) (rest := rest) (fun sig h => hn.trans (hlen sig h)) hstack hW (by rw [hb]; exact hdg)
    (fun vm₁ hW₁ => ⟨hf.1, hf.2, hPc (T.setVm vm₁) hT hW₁⟩) with ⟨v, vm₁, ⟨U', l2, c2, s2⟩, hW₁, X', ⟨g', mk, t, L, e1, e2, hq, h1, hL, h2, h3⟩, st⟩ | ⟨q, vm₁, ⟨U', l2, c2, s2⟩, hW₁, X', ⟨g', mk, t, L, E, ce, e1, e2, hq, hce, hcv, hcl, h1, hL, h2, h3⟩, st⟩
  · dsimp only [Pt.U, Pt.locs, Pt.cells, Pt.slots] at X' e1 e2 h1 h2 h3 st
    subst h1; subst h2; subst h3
    exact Or.inl ⟨v, (T.setVm vm₁).calling g' mk (Value.ref b :: As).toArray, t, U', L, hT, X', hL, e1, e2, hq, st⟩
  · dsimp only [Pt.U, Pt.locs, Pt.cells, Pt.slots] at X' e1 e2 h1 h2 h3 st hcl
    subst h1; subst h2; subst h3
    exact Or.inr ⟨q, (T.setVm vm₁).calling g' mk (Value.ref b :: As).toArray, t, U', L, E, ce, hT, X', hL, e1, e2, hq, hce, hcv, vx_cls hW₁ hcl, st⟩
theorem vx_runS (S : CallFix p m c cc nL s args Ts own) (hM : vx_Met l y ws rm Pc Qc XC mc ms free) (cw : CallB R s args own index y bytes maxL ret ws rm mc ms n ∧ (Cond.static y).before args s = true) (hp : PreS s H Pc As)
    (hg : g.method = m) (hn : As.length = n) (hsize : g.locals.size = nL) (hstack : g.stack = As.reverse ++ rest) (hW : 2 * g.monitorRoom + (rest.map fun v => v.category).sum ≤ 8) (hdg : decode cc g.pc = .ok (.invokestatic index, 3)) (hf : cells + mc ≤ R.cells ∧ slots + ms ≤ R.slots) :
    vx_Run p l e R s m args below meth c H locs cells slots mc ms g rest (Qc As.toArray) XC free := by
  have hK : vx_Back l R p e below s args y 3 8 (PreOf R mc ms Pc) (PostOf Qc mc ms free) (vx_Post XC mc ms free) := vx_callBack cw.1 hM hp.1
  obtain ⟨⟨-, -, -, -, -, -, hcode, hini, hy, hlen, hl⟩, hstt⟩ := cw
  obtain ⟨hx, hb, hml, ho, -⟩ := S
  intro T hT X
  rcases vx_callS X hx (bytes := bytes) (maxL := maxL) (ret := ret) ho hl hstt hini hcode hy hK hg (hsize.trans hml.symm) (argsL := As) (rest := rest) (fun sig h => hn.trans (hlen sig h)) hstack hW (by rw [hb]; exact hdg)
    (fun vm₁ hW₁ => ⟨hf.1, hf.2, hp.2 (T.setVm vm₁) hT hW₁⟩) with ⟨v, vm₁, ⟨U', l2, c2, s2⟩, hW₁, X', ⟨g', mk, t, L, e1, e2, hq, h1, hL, h2, h3⟩, st⟩ | ⟨q, vm₁, ⟨U', l2, c2, s2⟩, hW₁, X', ⟨g', mk, t, L, E, ce, e1, e2, hq, hce, hcv, hcl, h1, hL, h2, h3⟩, st⟩
  · dsimp only [Pt.U, Pt.locs, Pt.cells, Pt.slots] at X' e1 e2 h1 h2 h3 st
    subst h1; subst h2; subst h3
    exact Or.inl ⟨v, (T.setVm vm₁).calling g' mk As.toArray, t, U', L, hT, X', hL, e1, e2, hq, st⟩
  · dsimp only [Pt.U, Pt.locs, Pt.cells, Pt.slots] at X' e1 e2 h1 h2 h3 st hcl
    subst h1; subst h2; subst h3
    exact Or.inr ⟨q, (T.setVm vm₁).calling g' mk As.toArray, t, U', L, E, ce, hT, X', hL, e1, e2, hq, hce, hcv, vx_cls hW₁ hcl, st⟩
end Runs
section Rows
variable {p : Program} {l : Launch} {e : Env} {R : Room} {s : State} {m : MethodId} {args : Array Value} {below : List Frame} {meth : Method} {c : Code} {H : Heap} {locs : List Loc} {cells slots : Nat} {Q : State → Prop}
variable {mc ms : Nat} {free : Addr → Prop} {A0 A1 : Nat → Prop} {H0 : Heap} {a : Array Value} {pc : Nat} {ls : Array Slot} {st0 rest : List Value}
theorem vx_keep {st₀ t T' : State} {L : List Loc} (h0 : st₀.heap = H) (e1 : T'.heap = t.heap) (hS : va_S A0 H0 H locs) (hA : ∀ q, q < H.size → A1 q → A0 q) (hf : ∀ q, free q → A0 q) (hL : ∀ q ∈ L, free q.base) (hF : va_F A1 st₀ t) :
    H.size ≤ T'.heap.size ∧ (∀ q : Nat, q < H.size → ¬ A1 q → T'.heap[q]? = H[q]?) ∧ va_S A0 H0 T'.heap (locs ++ L) := by
  obtain ⟨hz, hk⟩ := hF
  rw [h0] at hz hk
  exact ⟨by rw [e1]; exact hz, fun q h1 h2 => by rw [e1]; exact hk q h1 h2,
    ⟨Nat.le_trans hS.1 (by rw [e1]; exact hz), fun q h1 h2 => by rw [e1, hk q (Nat.lt_of_lt_of_le h1 hS.1) (fun z => h2 (hA q (Nat.lt_of_lt_of_le h1 hS.1) z))]; exact hS.2.1 q h1 h2, fun q hq => by
      rcases List.mem_append.mp hq with h | h
      · exact hS.2.2 q h
      · exact hf _ (hL q h)⟩⟩
theorem vx_calli {S SX : Type} {post : Int32 → S → Prop} {px : SX → Prop} {B : S → State → Prop} {BX : String → SX → State → Prop} {AX : Nat → Prop} (hr : vx_Run p l e R s m args below meth c H locs cells slots mc ms (F0 m pc ls st0) rest (va_Qi post B A1 a) (vx_X px BX AX) free) (hS : va_S A0 H0 H locs) (hA : ∀ q, q < H.size → A1 q → A0 q) (hf : ∀ q, free q → A0 q) (hAX : ∀ q, q < H.size → AX q → A0 q)
    (kx : ∀ (E : String) (ce : Cell) (q9 : Addr) (u : SX) (t : State) (H1 : Heap) (locs1 : List Loc), t.heap = H1 → s.vm.Alike t.vm → px u → BX E u t → H.size ≤ H1.size → (∀ q : Nat, q < H.size → ¬ AX q → H1[q]? = H[q]?) → va_S A0 H0 H1 locs1 → H1[q9]? = some ce → ce.vm = .none → s.vm.findClass E = some ce.cls → vx_W p l e R s m args below meth c H1 locs1 (cells + mc) (slots + ms) Q (F0 m pc ls rest) q9)
    (kk : ∀ (r : Int32) (u : S) (t : State) (H1 : Heap) (locs1 : List Loc), t.heap = H1 → s.vm.Alike t.vm → post r u → B u t → H.size ≤ H1.size → (∀ q : Nat, q < H.size → ¬ A1 q → H1[q]? = H[q]?) → va_S A0 H0 H1 locs1 → W p l e R s m args below meth c H1 locs1 (cells + mc) (slots + ms) Q (F0 m (pc + 3) ls (.int r :: rest))) : W p l e R s m args below meth c H locs cells slots Q (F0 m pc ls st0) := by
  intro T hT X
  rcases hr T hT X with ⟨v, st₀, t, T', L, h0, X', hL, e1, e2, ⟨⟨r, u, hv, hp, hb⟩, hF⟩, st⟩ | ⟨q, st₀, t, T', L, E, ce, h0, X', hL, e1, e2, ⟨u, hp, hb, hF⟩, hce, hcv, hcl, st⟩
  · cases hv
    obtain ⟨k1, k2, k3⟩ := vx_keep h0 e1 hS hA hf hL hF
    obtain ⟨t2, a1, b1⟩ := kk r u t T'.heap (locs ++ L) e1.symm (by rw [← e2]; exact X'.warmed.alike) hp hb k1 k2 k3 T' rfl X'
    exact ⟨t2, st t2 a1, b1⟩
  · obtain ⟨k1, k2, k3⟩ := vx_keep h0 e1 hS hAX hf hL hF
    obtain ⟨t2, a1, b1⟩ := kx E ce q u t T'.heap (locs ++ L) e1.symm (by rw [← e2]; exact X'.warmed.alike) hp hb k1 k2 k3 (by rw [e1]; exact hce) hcv hcl T' rfl X'
    exact ⟨t2, st.trans a1, b1⟩
theorem vx_calll {S SX : Type} {post : Int64 → S → Prop} {px : SX → Prop} {B : S → State → Prop} {BX : String → SX → State → Prop} {AX : Nat → Prop} (hr : vx_Run p l e R s m args below meth c H locs cells slots mc ms (F0 m pc ls st0) rest (va_Ql post B A1 a) (vx_X px BX AX) free) (hS : va_S A0 H0 H locs) (hA : ∀ q, q < H.size → A1 q → A0 q) (hf : ∀ q, free q → A0 q) (hAX : ∀ q, q < H.size → AX q → A0 q)
    (kx : ∀ (E : String) (ce : Cell) (q9 : Addr) (u : SX) (t : State) (H1 : Heap) (locs1 : List Loc), t.heap = H1 → s.vm.Alike t.vm → px u → BX E u t → H.size ≤ H1.size → (∀ q : Nat, q < H.size → ¬ AX q → H1[q]? = H[q]?) → va_S A0 H0 H1 locs1 → H1[q9]? = some ce → ce.vm = .none → s.vm.findClass E = some ce.cls → vx_W p l e R s m args below meth c H1 locs1 (cells + mc) (slots + ms) Q (F0 m pc ls rest) q9)
    (kk : ∀ (r : Int64) (u : S) (t : State) (H1 : Heap) (locs1 : List Loc), t.heap = H1 → s.vm.Alike t.vm → post r u → B u t → H.size ≤ H1.size → (∀ q : Nat, q < H.size → ¬ A1 q → H1[q]? = H[q]?) → va_S A0 H0 H1 locs1 → W p l e R s m args below meth c H1 locs1 (cells + mc) (slots + ms) Q (F0 m (pc + 3) ls (.long r :: rest))) : W p l e R s m args below meth c H locs cells slots Q (F0 m pc ls st0) := by
  intro T hT X
  rcases hr T hT X with ⟨v, st₀, t, T', L, h0, X', hL, e1, e2, ⟨⟨r, u, hv, hp, hb⟩, hF⟩, st⟩ | ⟨q, st₀, t, T', L, E, ce, h0, X', hL, e1, e2, ⟨u, hp, hb, hF⟩, hce, hcv, hcl, st⟩
  · cases hv
    obtain ⟨k1, k2, k3⟩ := vx_keep h0 e1 hS hA hf hL hF
    obtain ⟨t2, a1, b1⟩ := kk r u t T'.heap (locs ++ L) e1.symm (by rw [← e2]; exact X'.warmed.alike) hp hb k1 k2 k3 T' rfl X'
    exact ⟨t2, st t2 a1, b1⟩
  · obtain ⟨k1, k2, k3⟩ := vx_keep h0 e1 hS hAX hf hL hF
    obtain ⟨t2, a1, b1⟩ := kx E ce q u t T'.heap (locs ++ L) e1.symm (by rw [← e2]; exact X'.warmed.alike) hp hb k1 k2 k3 (by rw [e1]; exact hce) hcv hcl T' rfl X'
    exact ⟨t2, st.trans a1, b1⟩
theorem vx_callf {S SX : Type} {post : UInt32 → S → Prop} {px : SX → Prop} {B : S → State → Prop} {BX : String → SX → State → Prop} {AX : Nat → Prop} (hr : vx_Run p l e R s m args below meth c H locs cells slots mc ms (F0 m pc ls st0) rest (va_Qf post B A1 a) (vx_X px BX AX) free) (hS : va_S A0 H0 H locs) (hA : ∀ q, q < H.size → A1 q → A0 q) (hf : ∀ q, free q → A0 q) (hAX : ∀ q, q < H.size → AX q → A0 q)
    (kx : ∀ (E : String) (ce : Cell) (q9 : Addr) (u : SX) (t : State) (H1 : Heap) (locs1 : List Loc), t.heap = H1 → s.vm.Alike t.vm → px u → BX E u t → H.size ≤ H1.size → (∀ q : Nat, q < H.size → ¬ AX q → H1[q]? = H[q]?) → va_S A0 H0 H1 locs1 → H1[q9]? = some ce → ce.vm = .none → s.vm.findClass E = some ce.cls → vx_W p l e R s m args below meth c H1 locs1 (cells + mc) (slots + ms) Q (F0 m pc ls rest) q9)
    (kk : ∀ (r : UInt32) (u : S) (t : State) (H1 : Heap) (locs1 : List Loc), t.heap = H1 → s.vm.Alike t.vm → post r u → B u t → H.size ≤ H1.size → (∀ q : Nat, q < H.size → ¬ A1 q → H1[q]? = H[q]?) → va_S A0 H0 H1 locs1 → W p l e R s m args below meth c H1 locs1 (cells + mc) (slots + ms) Q (F0 m (pc + 3) ls (.float r :: rest))) : W p l e R s m args below meth c H locs cells slots Q (F0 m pc ls st0) := by
  intro T hT X
  rcases hr T hT X with ⟨v, st₀, t, T', L, h0, X', hL, e1, e2, ⟨⟨r, u, hv, hp, hb⟩, hF⟩, st⟩ | ⟨q, st₀, t, T', L, E, ce, h0, X', hL, e1, e2, ⟨u, hp, hb, hF⟩, hce, hcv, hcl, st⟩
  · cases hv
    obtain ⟨k1, k2, k3⟩ := vx_keep h0 e1 hS hA hf hL hF
    obtain ⟨t2, a1, b1⟩ := kk r u t T'.heap (locs ++ L) e1.symm (by rw [← e2]; exact X'.warmed.alike) hp hb k1 k2 k3 T' rfl X'
    exact ⟨t2, st t2 a1, b1⟩
  · obtain ⟨k1, k2, k3⟩ := vx_keep h0 e1 hS hAX hf hL hF
    obtain ⟨t2, a1, b1⟩ := kx E ce q u t T'.heap (locs ++ L) e1.symm (by rw [← e2]; exact X'.warmed.alike) hp hb k1 k2 k3 (by rw [e1]; exact hce) hcv hcl T' rfl X'
    exact ⟨t2, st.trans a1, b1⟩
theorem vx_calld {S SX : Type} {post : UInt64 → S → Prop} {px : SX → Prop} {B : S → State → Prop} {BX : String → SX → State → Prop} {AX : Nat → Prop} (hr : vx_Run p l e R s m args below meth c H locs cells slots mc ms (F0 m pc ls st0) rest (va_Qd post B A1 a) (vx_X px BX AX) free) (hS : va_S A0 H0 H locs) (hA : ∀ q, q < H.size → A1 q → A0 q) (hf : ∀ q, free q → A0 q) (hAX : ∀ q, q < H.size → AX q → A0 q)
    (kx : ∀ (E : String) (ce : Cell) (q9 : Addr) (u : SX) (t : State) (H1 : Heap) (locs1 : List Loc), t.heap = H1 → s.vm.Alike t.vm → px u → BX E u t → H.size ≤ H1.size → (∀ q : Nat, q < H.size → ¬ AX q → H1[q]? = H[q]?) → va_S A0 H0 H1 locs1 → H1[q9]? = some ce → ce.vm = .none → s.vm.findClass E = some ce.cls → vx_W p l e R s m args below meth c H1 locs1 (cells + mc) (slots + ms) Q (F0 m pc ls rest) q9)
    (kk : ∀ (r : UInt64) (u : S) (t : State) (H1 : Heap) (locs1 : List Loc), t.heap = H1 → s.vm.Alike t.vm → post r u → B u t → H.size ≤ H1.size → (∀ q : Nat, q < H.size → ¬ A1 q → H1[q]? = H[q]?) → va_S A0 H0 H1 locs1 → W p l e R s m args below meth c H1 locs1 (cells + mc) (slots + ms) Q (F0 m (pc + 3) ls (.double r :: rest))) : W p l e R s m args below meth c H locs cells slots Q (F0 m pc ls st0) := by
  intro T hT X
  rcases hr T hT X with ⟨v, st₀, t, T', L, h0, X', hL, e1, e2, ⟨⟨r, u, hv, hp, hb⟩, hF⟩, st⟩ | ⟨q, st₀, t, T', L, E, ce, h0, X', hL, e1, e2, ⟨u, hp, hb, hF⟩, hce, hcv, hcl, st⟩
  · cases hv
    obtain ⟨k1, k2, k3⟩ := vx_keep h0 e1 hS hA hf hL hF
    obtain ⟨t2, a1, b1⟩ := kk r u t T'.heap (locs ++ L) e1.symm (by rw [← e2]; exact X'.warmed.alike) hp hb k1 k2 k3 T' rfl X'
    exact ⟨t2, st t2 a1, b1⟩
  · obtain ⟨k1, k2, k3⟩ := vx_keep h0 e1 hS hAX hf hL hF
    obtain ⟨t2, a1, b1⟩ := kx E ce q u t T'.heap (locs ++ L) e1.symm (by rw [← e2]; exact X'.warmed.alike) hp hb k1 k2 k3 (by rw [e1]; exact hce) hcv hcl T' rfl X'
    exact ⟨t2, st.trans a1, b1⟩
theorem vx_callv {S SX : Type} {post : S → Prop} {px : SX → Prop} {B : S → State → Prop} {BX : String → SX → State → Prop} {AX : Nat → Prop} (hr : vx_Run p l e R s m args below meth c H locs cells slots mc ms (F0 m pc ls st0) rest (va_Qv post B A1 a) (vx_X px BX AX) free) (hS : va_S A0 H0 H locs) (hA : ∀ q, q < H.size → A1 q → A0 q) (hf : ∀ q, free q → A0 q) (hAX : ∀ q, q < H.size → AX q → A0 q)
    (kx : ∀ (E : String) (ce : Cell) (q9 : Addr) (u : SX) (t : State) (H1 : Heap) (locs1 : List Loc), t.heap = H1 → s.vm.Alike t.vm → px u → BX E u t → H.size ≤ H1.size → (∀ q : Nat, q < H.size → ¬ AX q → H1[q]? = H[q]?) → va_S A0 H0 H1 locs1 → H1[q9]? = some ce → ce.vm = .none → s.vm.findClass E = some ce.cls → vx_W p l e R s m args below meth c H1 locs1 (cells + mc) (slots + ms) Q (F0 m pc ls rest) q9)
    (kk : ∀ (u : S) (t : State) (H1 : Heap) (locs1 : List Loc), t.heap = H1 → s.vm.Alike t.vm → post u → B u t → H.size ≤ H1.size → (∀ q : Nat, q < H.size → ¬ A1 q → H1[q]? = H[q]?) → va_S A0 H0 H1 locs1 → W p l e R s m args below meth c H1 locs1 (cells + mc) (slots + ms) Q (F0 m (pc + 3) ls (rest))) : W p l e R s m args below meth c H locs cells slots Q (F0 m pc ls st0) := by
  intro T hT X
  rcases hr T hT X with ⟨v, st₀, t, T', L, h0, X', hL, e1, e2, ⟨⟨u, hv, hp, hb⟩, hF⟩, st⟩ | ⟨q, st₀, t, T', L, E, ce, h0, X', hL, e1, e2, ⟨u, hp, hb, hF⟩, hce, hcv, hcl, st⟩
  · cases hv
    obtain ⟨k1, k2, k3⟩ := vx_keep h0 e1 hS hA hf hL hF
    obtain ⟨t2, a1, b1⟩ := kk u t T'.heap (locs ++ L) e1.symm (by rw [← e2]; exact X'.warmed.alike) hp hb k1 k2 k3 T' rfl X'
    exact ⟨t2, st t2 a1, b1⟩
  · obtain ⟨k1, k2, k3⟩ := vx_keep h0 e1 hS hAX hf hL hF
    obtain ⟨t2, a1, b1⟩ := kx E ce q u t T'.heap (locs ++ L) e1.symm (by rw [← e2]; exact X'.warmed.alike) hp hb k1 k2 k3 (by rw [e1]; exact hce) hcv hcl T' rfl X'
    exact ⟨t2, st.trans a1, b1⟩
/-- caught by the row x of this method's table; the rows ahead don't take it -/
theorem vx_catch {own name : String} {E : String} {ce : Cell} {q : Addr} (hown : s.vm.findClass own = some m.cls) (pre : List ExceptionTableEntry) (x : ExceptionTableEntry) (suf : List ExceptionTableEntry) (hsplit : c.exceptionTable.toList = pre ++ x :: suf)
    (hpass : ∀ z ∈ pre, covers z pc = false ∨ (z.catchType ≠ 0 ∧ ∃ nm : String, (Cond.classLink own z.catchType nm).before args s = true ∧ va_Nc E nm s)) (hx : covers x pc = true) (h0 : x.catchType ≠ 0)
    (hlink : (Cond.classLink own x.catchType name).before args s = true) (hcast : (Cond.castable E name).before args s = true) (hcell : H[q]? = some ce) (hv : ce.vm = .none) (hcl : s.vm.findClass E = some ce.cls)
    (kk : W p l e R s m args below meth c H locs cells slots Q (F0 m x.handlerPc ls [.ref q])) : vx_W p l e R s m args below meth c H locs cells slots Q (F0 m pc ls rest) q := by
  intro T hT X
  have hpl : e.platform.magicAccessors = ({} : Platform).magicAccessors := by rw [X.admits.platform]
  obtain ⟨c3, c4, hc3, hc4, hasg⟩ := Cond.castable_spec hcast
  cases Option.some.inj (hc3.symm.trans hcl)
  obtain ⟨c5, hc5, hcl5⟩ := Cond.classLink_spec hown hlink e.platform hpl
  cases Option.some.inj (hc4.symm.trans hc5)
  obtain ⟨vm', X', st⟩ := X.thenCaughtThrough q (g := F0 m pc ls rest) rfl (Steps.refl _) (by rw [hT]; exact hcell) (by rw [hv]; rfl) (by obtain ⟨k9, h9, -⟩ := Vm.findClass_spec hcl; exact ⟨k9, h9⟩) pre x suf hsplit
    (fun z hz => by
      rcases hpass z hz with h | ⟨hz0, nm, hl1, hn1⟩
      · exact Or.inl h
      · obtain ⟨c6, hc6, hcl6⟩ := Cond.classLink_spec hown hl1 e.platform hpl
        obtain ⟨a8, b8, h1, h2, h3⟩ := hn1
        cases Option.some.inj (h1.symm.trans hcl)
        cases Option.some.inj (h2.symm.trans hc6)
        exact Or.inr ⟨hz0, _, hcl6, h3⟩) hx (Or.inr ⟨h0, c4, hcl5, hasg⟩)
  obtain ⟨t, a1, b1⟩ := kk (T.setVm vm') hT X'
  exact ⟨t, st.trans a1, b1⟩
end Rows
section Ends
variable {p : Program} {l : Launch} {e : Env} {R : Room} {s : State} {m : MethodId} {args : Array Value} {below : List Frame} {meth : Method} {c : Code} {H : Heap} {locs : List Loc} {cells slots : Nat} {Q : State → Prop}
variable {mc ms : Nat} {free : Addr → Prop} {A0 A1 : Nat → Prop} {H0 : Heap} {a : Array Value} {ls : Array Slot} {st0 rest : List Value}
variable {Qc : Array Value → State → Outcome → State → Prop} {XC : String → State → State → Prop}
/-- what a body that may throw owes at its end -/
def vx_MQ (below : List Frame) (Qc : Array Value → State → Outcome → State → Prop) (XC : String → State → State → Prop) (a : Array Value) (s : State) (mc ms : Nat) (free : Addr → Prop) : State → Prop := fun t =>
  ∃ o, t.status = .running ∧ Ended t below o ∧ vx_Q Qc XC mc ms free a s o t
theorem vx_ret {g : JFrame} {mc ms : Nat} (k : W p l e R s m args below meth c H locs cells slots (MQ below Qc args s mc ms free) g) : W p l e R s m args below meth c H locs cells slots (vx_MQ below Qc XC args s mc ms free) g := by
  intro T hT X
  obtain ⟨t, a1, o, b1, b2, b3, b4⟩ := k T hT X
  exact ⟨t, a1, o, b1, b2, Or.inl ⟨b3, b4⟩⟩
/-- not caught here: it goes on to the caller -/
theorem vx_widen {g : JFrame} {q : Addr} {k n : Nat} (h1 : cells ≤ k) (h2 : slots ≤ n) (kk : vx_W p l e R s m args below meth c H locs k n Q g q) : vx_W p l e R s m args below meth c H locs cells slots Q g q := fun T hT X => kk T hT (stand_widen X h1 h2)
theorem vx_out {pc : Nat} {E : String} {ce : Cell} {q : Addr} {mc ms : Nat} (hout : ∀ x ∈ c.exceptionTable.toList, covers x pc = false) (hlocks : meth.locks = false) (hcell : H[q]? = some ce) (hv : ce.vm = .none) (hcl : s.vm.findClass E = some ce.cls)
    (hx : ∀ t : State, t.heap = H → s.vm.Alike t.vm → XC E s t) (hf : ∀ z ∈ locs, free z.base) (hc : cells ≤ mc) (hs : slots ≤ ms) :
    vx_W p l e R s m args below meth c H locs cells slots (vx_MQ below Qc XC args s mc ms free) (F0 m pc ls rest) q := by
  intro T hT X
  obtain ⟨st1, hrun, hend, hW, hsm⟩ := X.leaveThrown q (g := F0 m pc ls rest) rfl rfl rfl hout hlocks
  have hcell9 : (T.setFrames (.throwing q :: below)).heap[q]? = some ce := by
    show T.heap[q]? = some ce
    rw [hT]; exact hcell
  exact ⟨_, st1, .threw q, hrun, hend, Or.inr ⟨q, rfl, E, ce, locs, hx _ hT hW.alike, hcell9, hv, hcl, hW, hsm.mono hc hs, hf⟩⟩
theorem vx_frame {U : State} {k n : Nat} (h : s.sameButNew ({ U with vm := s.vm } : State) locs k n) : s.heap.size ≤ U.heap.size ∧ ∀ q : Nat, q < s.heap.size → (∀ z ∈ locs, z.base ≠ q) → U.heap[q]? = s.heap[q]? := by
  obtain ⟨-, h2, -, -, -, h6⟩ := h
  refine ⟨h2, fun q hq hz => ?_⟩
  obtain ⟨c9, e1, e2, e3, e4⟩ := h6 q _ (Array.getElem?_eq_getElem hq)
  have hs : c9.slots = (s.heap[q]).slots := Array.ext_getElem? fun i => e4 i fun hm => hz _ hm rfl
  have h9 : c9 = s.heap[q] := by
    rw [hs] at e2
    exact e2
  have e5 : U.heap[q]? = some c9 := e1
  rw [e5, h9, Array.getElem?_eq_getElem hq]
/-- the words of a throw but the four that speak of the heap -/
def vx_no (w : Cond) : Bool := decide (w ≠ .isRef (.static Bundle.tN "UNASSIGNED_STACK" Bundle.steD)) && decide (w ≠ .isRef (.static Bundle.tN "SUPPRESSED_SENTINEL" Bundle.listD)) && decide (w ≠ .laysStatic Bundle.tN "UNASSIGNED_STACK" Bundle.steD) && decide (w ≠ .laysStatic Bundle.tN "SUPPRESSED_SENTINEL" Bundle.listD)
def vx_at0 (own : String) (ic : Nat) (X : String) (names : List String) : List Cond := (Bundle.ownAtoms0 own ic X names).filter vx_no
def vx_atS (own : String) (ic : Nat) (X : String) (names : List String) : List Cond := (Bundle.ownAtoms own ic X names).filter vx_no
/-- a word that the tables alone decide, or a good one -/
def vx_ot (w : Cond) : Bool := w.onTables || goodWord w
theorem vx_ot_at {args a' : Array Value} {s U : State} {w : Cond} (hW : s.WarmedH U.vm) (hvm : s.vm = U.vm) (hg : vx_ot w = true) (h : w.before args s = true) : w.before a' U = true := by
  simp only [vx_ot, Bool.or_eq_true] at hg
  rcases hg with hg | hg
  · exact va_tabs hg hvm h
  · exact word_at hW (good_of_word hg) h
/-- a list's words: the good ones out of the method's own list, the others by premises of their own -/
theorem vx_hat {args : Array Value} {s : State} {L B : List Cond} (h1 : ∀ w ∈ L.filter goodWord, w.before args s = true) (h2 : ∀ w ∈ L.filter (fun w => !goodWord w), w ∈ B) (h3 : ∀ w ∈ B, w.before args s = true) : ∀ w ∈ L, w.before args s = true := by
  intro w hw
  by_cases g : goodWord w = true
  · exact h1 w (List.mem_filter.mpr ⟨hw, g⟩)
  · refine h3 w (h2 w (List.mem_filter.mpr ⟨hw, ?_⟩))
    show (!goodWord w) = true
    cases hgw : goodWord w
    · rfl
    · exact absurd hgw g
theorem vx_c {args : Array Value} {s : State} {w : Cond} {B : List Cond} (h : w.before args s = true) (t : ∀ w ∈ B, w.before args s = true) : ∀ w' ∈ w :: B, w'.before args s = true := fun w' h' => (List.mem_cons.mp h').elim (fun e => by rw [e]; exact h) (t w')
theorem vx_n {args : Array Value} {s : State} : ∀ w ∈ ([] : List Cond), w.before args s = true := fun _ h => nomatch h
theorem vx_own {args : Array Value} {s : State} {L : List Cond} (h1 : ∀ w ∈ L.filter vx_no, w.before args s = true)
    (hU : (Cond.isRef (.static Bundle.tN "UNASSIGNED_STACK" Bundle.steD)).before args s = true) (hN : (Cond.isRef (.static Bundle.tN "SUPPRESSED_SENTINEL" Bundle.listD)).before args s = true)
    (lU : (Cond.laysStatic Bundle.tN "UNASSIGNED_STACK" Bundle.steD).before args s = true) (lN : (Cond.laysStatic Bundle.tN "SUPPRESSED_SENTINEL" Bundle.listD).before args s = true) : ∀ w ∈ L, w.before args s = true := by
  intro w hw
  by_cases e1 : w = .isRef (.static Bundle.tN "UNASSIGNED_STACK" Bundle.steD)
  · rw [e1]; exact hU
  · by_cases e2 : w = .isRef (.static Bundle.tN "SUPPRESSED_SENTINEL" Bundle.listD)
    · rw [e2]; exact hN
    · by_cases e3 : w = .laysStatic Bundle.tN "UNASSIGNED_STACK" Bundle.steD
      · rw [e3]; exact lU
      · by_cases e4 : w = .laysStatic Bundle.tN "SUPPRESSED_SENTINEL" Bundle.listD
        · rw [e4]; exact lN
        · exact h1 w (List.mem_filter.mpr ⟨hw, by unfold vx_no; rw [decide_eq_true e1, decide_eq_true e2, decide_eq_true e3, decide_eq_true e4]; rfl⟩)
/-- where a static field lies, its class's statics cell in H -/
def vx_L (C n d : String) (A : Nat → Prop) (U : State) (H : Heap) : Prop := ∃ (c : ClassId) (k : Class) (i : Nat) (f : Field) (a : Nat) (cell : Cell), U.vm.findClass C = some c ∧ U.fieldFound? C n d = some (c, k, i, f) ∧ f.isStatic = true ∧ k.statics = some a ∧ H[a]? = some cell ∧ cell.vm.isStatics = true ∧ cell.cls = c ∧ f.slot < cell.slots.size ∧ k.staticTypes[f.slot]? = some f.type ∧ ¬ A a
theorem vx_L.moved {C n d : String} {A : Nat → Prop} {u U : State} {H : Heap} (hvm : u.vm.Alike U.vm) (h : vx_L C n d A u H) : vx_L C n d A U H := by
  obtain ⟨c, k, i, f, a, cell, h1, h2, h3, h4, h5, h6, h7, h8, h9, h10⟩ := h
  obtain ⟨k', hi', he⟩ := State.fieldFound?_setVm hvm h2
  exact ⟨c, k', i, f, a, cell, by rw [hvm.findClass]; exact h1, hi', h3, by rw [he]; exact h4, h5, h6, h7, h8, by rw [he]; exact h9, h10⟩
theorem vx_L.kept {C n d : String} {A : Nat → Prop} {U : State} {H H1 : Heap} (h : vx_L C n d A U H) (hq : ∀ a : Nat, a < H.size → ¬ A a → H1[a]? = H[a]?) : vx_L C n d A U H1 := by
  obtain ⟨c, k, i, f, a, cell, h1, h2, h3, h4, h5, h6, h7, h8, h9, h10⟩ := h
  exact ⟨c, k, i, f, a, cell, h1, h2, h3, h4, by rw [hq a (Array.getElem?_eq_some_iff.mp h5).1 h10]; exact h5, h6, h7, h8, h9, h10⟩
theorem vx_L.narrow {C n d : String} {A B : Nat → Prop} {U : State} {H : Heap} (h : vx_L C n d A U H) (hAB : ∀ q, B q → A q) : vx_L C n d B U H := by
  obtain ⟨c, k, i, f, a, cell, h1, h2, h3, h4, h5, h6, h7, h8, h9, h10⟩ := h
  exact ⟨c, k, i, f, a, cell, h1, h2, h3, h4, h5, h6, h7, h8, h9, fun z => h10 (hAB _ z)⟩
theorem vx_L.word {C n d : String} {A : Nat → Prop} {s : State} {args : Array Value} (h : vx_L C n d A s s.heap) : (Cond.laysStatic C n d).before args s = true := by
  obtain ⟨c, k, i, f, a, cell, h1, h2, h3, h4, h5, h6, h7, h8, h9, -⟩ := h
  show (Cond.laysStatic C n d).holds args s none s [] = true
  exact Cond.laysStatic_of h1 h2 h3 h4 h5 h6 h7 h8 h9
/-- .. and what it holds: null or some reference -/
def vx_Zq (C n d : String) (A : Nat → Prop) (U : State) (H : Heap) : Prop := va_Zq C n d A U H ∧ vx_L C n d A U H
theorem vx_Zq.moved {C n d : String} {A : Nat → Prop} {u U : State} {H : Heap} (hvm : u.vm.Alike U.vm) (h : vx_Zq C n d A u H) : vx_Zq C n d A U H := ⟨va_Zq.moved hvm h.1, vx_L.moved hvm h.2⟩
theorem vx_Zq.kept {C n d : String} {A : Nat → Prop} {U : State} {H H1 : Heap} (h : vx_Zq C n d A U H) (hq : ∀ a : Nat, a < H.size → ¬ A a → H1[a]? = H[a]?) : vx_Zq C n d A U H1 := ⟨va_Zq.kept h.1 hq, vx_L.kept h.2 hq⟩
theorem vx_Zq.narrow {C n d : String} {A B : Nat → Prop} {U : State} {H : Heap} (h : vx_Zq C n d A U H) (hAB : ∀ q, B q → A q) : vx_Zq C n d B U H := ⟨va_Zq.narrow h.1 hAB, vx_L.narrow h.2 hAB⟩
theorem vx_Zqof {args : Array Value} {s : State} {C n d : String} {A : Nat → Prop} (hl : (Cond.laysStatic C n d).before args s = true) (hini : (Cond.initialized C).before args s = true) (h : (Cond.isRef (.static C n d)).before args s = true) (hA : ∀ a : Nat, a < s.heap.size → ¬ A a) : vx_Zq C n d A s s.heap := by
  refine ⟨va_Zqof hl hini h hA, ?_⟩
  obtain ⟨c, k, i, f, a, cell, h1, h2, h3, h4, h5, h6, h7, h8, h9⟩ := Cond.laysStatic_spec hl
  exact ⟨c, k, i, f, a, cell, h1, h2, h3, h4, h5, h6, h7, h8, h9, hA a (Array.getElem?_eq_some_iff.mp h5).1⟩
theorem vx_isRef {C n d : String} {v : Value} {A : Nat → Prop} {s : State} {args : Array Value} (h : va_Z C n d v A s s.heap) (hv : v.isRef = true) : (Cond.isRef (.static C n d)).before args s = true := by
  obtain ⟨cf, kf, fi, f, a, cell, h1, h2, h3, h4, h5, h6, h7, -⟩ := h
  have he : (Term.static C n d).eval args s none [] s = some v := by
    simp [Term.eval, State.fieldNamed?, h1, h2, h4, h5, h6, h7]
  simp only [Cond.before, Cond.holds, Cond.value, he]
  cases v <;> simp_all [Value.isRef]
theorem vx_isRefq {C n d : String} {A : Nat → Prop} {s : State} {args : Array Value} (h : va_Zq C n d A s s.heap) : (Cond.isRef (.static C n d)).before args s = true := by
  rcases h with h | ⟨t, h⟩
  · exact vx_isRef h rfl
  · exact vx_isRef h rfl
/-- the same frame, seen from here: as if the method were called anew in this heap -/
theorem vx_rebase {T : State} (X : Stand p l e R s m args below meth c T locs cells slots) {R' : Room} (hf : R'.frames ≤ R.frames) (hl : R'.locals ≤ R.locals) (hc : cells + R'.cells ≤ R.cells) (hs : slots + R'.slots ≤ R.slots) :
    Stand p l e R' ((T.setVm s.vm).setFrames (.invoking m args :: below)) m args below meth c T [] 0 0 := by
  have htop : (T.setVm s.vm).topJava?.isSome := X.here.top
  have hF : ((T.setVm s.vm).setFrames (.invoking m args :: below)).frames = .invoking m args :: below := State.frames_setFrames _ (State.cur_lt_of_top htop)
  obtain ⟨g₀, hg0⟩ := Option.isSome_iff_exists.mp htop
  obtain ⟨r, hr⟩ := State.topJava?_eq_some.mp hg0
  have hl9 : e.platform.stackLimits (T.setVm s.vm).me = e.platform.stackLimits s.me := X.limits
  have hb9 : (T.setVm s.vm).me.stackBytes = s.me.stackBytes := X.bytes
  refine ⟨X.admits, X.cas, X.clock, hF, ?_, X.hears, X.method, X.code, X.here, X.tail, X.warmed, ?_, ?_, ?_⟩
  · have h := X.room
    have hU : ((T.setVm s.vm).setFrames (.invoking m args :: below)).localsInUse = s.localsInUse := by
      rw [State.localsInUse_invoking hF (meth := meth) (c := c) X.method X.code, State.localsInUse_invoking X.frames X.method X.code]
    simp only [State.hasRoom, Bool.and_eq_true, decide_eq_true_eq] at h ⊢
    obtain ⟨⟨⟨⟨h1, h2, h3, h4, h5, h6⟩, h7⟩, h8⟩, h9⟩ := h
    rw [X.frames, List.length_cons] at h2 h3
    have q1 := X.heapSize
    have q2 := X.used
    simp only [hF, hU, List.length_cons, State.stackLimits_setFrames, State.stackBytes_setFrames, hl9, hb9]
    refine ⟨⟨⟨⟨by omega, by omega, by omega, by omega, by omega, h6⟩, ?_⟩, ?_⟩, X.book⟩
    · show T.heap.size + R'.cells ≤ e.platform.maxCells
      omega
    · show T.slotsUsed + R'.slots ≤ e.platform.maxSlots
      omega
  · rw [State.stackLimits_setFrames]; rfl
  · rw [State.stackBytes_setFrames]; rfl
  · refine ⟨?_, Nat.le_refl _, Nat.le_refl _, ?_, ?_, fun a c9 h9 => ⟨c9, h9, rfl, rfl, fun _ _ => rfl⟩⟩
    · obtain ⟨t, ht, -⟩ := State.frames_cons hr
      show T.setVm s.vm = { ((T.setVm s.vm).setFrames (.invoking m args :: below)).setFrames (T.setVm s.vm).frames with heap := T.heap, slotsUsed := T.slotsUsed }
      rw [State.setFrames_setFrames, State.setFrames_self ht]
      rfl
    · show T.slotsUsed = T.slotsUsed + ((T.heap.toList.drop T.heap.size).map (·.slots.size)).sum
      rw [List.drop_eq_nil_of_le (Nat.le_of_eq Array.length_toList)]
      rfl
    · show ((T.heap.toList.drop T.heap.size).map (·.slots.size)).sum ≤ 0
      rw [List.drop_eq_nil_of_le (Nat.le_of_eq Array.length_toList)]
      exact Nat.le_refl _
/-- 'throw new E()': new; dup; invokespecial; athrow -/
theorem vx_throw0 {cc : ByteArray} {pc : Nat} (hexec : p.tables.exec = Jvm.exec) (hb : c.code = cc) (hl : l.stackTraces = false) {own cls : String} {names : List String} {ik ic mc ms : Nat} {A : Nat → Prop}
    (hown : s.vm.findClass own = some m.cls) (hcls : Bundle.fit cls = true) (hnames : ∀ n ∈ names, Bundle.fit n = true)
    (hk : (Cond.classLink own ik cls).before args s = true) (hini : (Cond.initialized cls).before args s = true) (hat : ∀ w ∈ vx_at0 own ic cls names, w.before args s = true)
    (hgood : ∀ w ∈ Cond.classLink own ik cls :: Cond.initialized cls :: vx_at0 own ic cls names, vx_ot w = true)
    (hU : vx_Zq Bundle.tN "UNASSIGNED_STACK" Bundle.steD A s s.heap) (hN : vx_Zq Bundle.tN "SUPPRESSED_SENTINEL" Bundle.listD A s s.heap) (hS : va_S A s.heap H locs) (hsize : ls.size = c.maxLocals)
    (d0 : decode cc pc = .ok (.new ik, 3)) (d3 : decode cc (pc + 3) = .ok (.dup, 1)) (d4 : decode cc (pc + 4) = .ok (.invokespecial ic, 3)) (d7 : decode cc (pc + 7) = .ok (.athrow, 1))
    (hout : ∀ x ∈ c.exceptionTable.toList, covers x (pc + 7) = false)
    (hRframes : names.length + 3 < R.frames) (hRlocals : (rest.map fun v => v.category).sum + (13 * (names.length + 1) + 42) ≤ R.locals) (hRcells : cells + 1 ≤ R.cells) (hRslots : slots + 6 ≤ R.slots) (hlocks : meth.locks = false)
    (hx : ∀ t : State, s.vm.Alike t.vm → H.size ≤ t.heap.size → (∀ q : Nat, q < H.size → t.heap[q]? = H[q]?) → XC cls s t)
    (hf : ∀ z ∈ locs, free z.base) (hc : cells + 1 ≤ mc) (hs : slots + 6 ≤ ms) :
    W p l e R s m args below meth c H locs cells slots (vx_MQ below Qc XC args s mc ms free) (F0 m pc ls rest) := by
  intro T hT X
  have htr : e.platform.stackTraces = false := (show e.platform.stackTraces = l.stackTraces by rw [X.admits.platform]).trans hl
  have Y := vx_rebase X (R' := { frames := R.frames, locals := R.locals, cells := 1, slots := 6 }) (Nat.le_refl _) (Nat.le_refl _) hRcells hRslots
  obtain ⟨s', hA⟩ : ∃ z, z = (T.setVm s.vm).setFrames (.invoking m args :: below) := ⟨_, rfl⟩
  rw [← hA] at Y
  have hvm : s'.vm = s.vm := by rw [hA]; rfl
  have hhp : s'.heap = H := by rw [hA]; exact hT
  have hW0 : s.WarmedH s'.vm := by rw [hvm]; exact State.WarmedH.refl s
  have hat' : ∀ w ∈ vx_at0 own ic cls names, w.before args s' = true := fun w hw => vx_ot_at hW0 hvm.symm (hgood w (List.mem_cons_of_mem _ (List.mem_cons_of_mem _ hw))) (hat w hw)
  have hk' : (Cond.classLink own ik cls).before args s' = true := vx_ot_at hW0 hvm.symm (hgood _ List.mem_cons_self) hk
  have hini' : (Cond.initialized cls).before args s' = true := vx_ot_at hW0 hvm.symm (hgood _ (List.mem_cons_of_mem _ List.mem_cons_self)) hini
  have hU' : vx_Zq Bundle.tN "UNASSIGNED_STACK" Bundle.steD A s' s'.heap := by rw [hhp]; exact vx_Zq.moved hW0.alike (hU.kept hS.2.1)
  have hN' : vx_Zq Bundle.tN "SUPPRESSED_SENTINEL" Bundle.listD A s' s'.heap := by rw [hhp]; exact vx_Zq.moved hW0.alike (hN.kept hS.2.1)
  have h : ∀ w ∈ Bundle.ownAtoms0 own ic cls names, w.before args s' = true := vx_own hat' (vx_isRefq hU'.1) (vx_isRefq hN'.1) hU'.2.word hN'.2.word
  have hown' : s'.vm.findClass own = some m.cls := by rw [hvm]; exact hown
  have hins : (Cond.instantiable cls 6).before args s' = true := h _ (by simp [Bundle.ownAtoms0])
  obtain ⟨vm₁, cX, kX, hfX, hkX, -, -, X₁, st1⟩ := Y.newCold hexec (own := own) (C := cls) (index := ik) (n := 6) hown' hk' hins hini'
    (g := F0 m pc ls rest) rfl (by rw [hb]; exact d0) (Nat.le_refl _) (Nat.le_refl _)
  generalize hT1 : (T.setVm vm₁).pushCell { cls := cX, slots := kX.instanceTypes.map defaultValue, vm := .none } = T1 at X₁ st1
  have hcat : (Value.ref T.heap.size).category = 1 := rfl
  have hcellA : T1.heap[T.heap.size]? = some (freshCell cX kX) := by rw [← hT1]; exact State.heap_pushCell_size _ _
  have d3' : decode c.code (pc + 3) = .ok (.dup, 1) := by rw [hb]; exact d3
  obtain ⟨U, hsteps, hrun, hend, hW, hsame, ce, hce, hO⟩ := X₁.ctorThrow0 hexec htr (own := own) (cls := cls) (names := names) (ic := ic) hown' hcls hnames h (fun x hx => nomatch hx) hfX hkX hcellA (by rw [hhp, hT]; exact Nat.le_refl _)
    (g := { method := m, pc := pc + 4, locals := ls, stack := .ref T.heap.size :: .ref T.heap.size :: rest, locked := none }) rfl hsize rfl rfl (rest := rest) rfl
    (by rw [hb]; exact d4) (by rw [hb]; exact d7) hout hRframes (by simp only [List.map_cons, List.sum_cons, hcat]; omega) hlocks
  obtain ⟨f1, f2⟩ := vx_frame hsame
  rw [hhp] at f1 f2
  have hWs : s.WarmedH U.vm := State.WarmedH.trans hW0 hW
  have hcl : s.vm.findClass cls = some ce.cls := by
    have h9 := hO.cls
    rw [hvm] at h9
    exact h9
  have hall : s.sameButNew ({ U with vm := s.vm } : State) locs mc ms := by
    subst hA
    obtain ⟨e1, e2⟩ := hsame
    rw [State.setFrames_setFrames] at e1
    have h2 : (T.setVm s.vm).sameButNew ({ U with vm := s.vm } : State) [] (0 + 1) (0 + 6) := ⟨e1, e2⟩
    have h3 := X.same.trans h2
    rw [List.append_nil] at h3
    exact h3.mono hc hs
  refine ⟨U, ?_, .threw T.heap.size, hrun, hend, Or.inr ⟨T.heap.size, rfl, cls, ce, locs, hx U hWs.alike f1 (fun q hq => f2 q hq (fun z hz => nomatch hz)), hce, hO.vm, hcl, hWs, hall, hf⟩⟩
  refine st1 _ ?_
  show Steps p.tables e below (T1.setTop { method := m, pc := pc + 3, locals := ls, stack := .ref T.heap.size :: rest, locked := none }) _
  jvm_step X₁.here [X₁.here.top, hexec, d3', Value.category]
  exact hsteps
/-- 'throw new E("text")': new; dup; ldc; invokespecial; athrow -/
theorem vx_throwS {cc : ByteArray} {pc : Nat} (hexec : p.tables.exec = Jvm.exec) (hb : c.code = cc) (hl : l.stackTraces = false) {own cls text : String} {names : List String} {ik is ic mc ms sa : Nat} {A : Nat → Prop}
    (hown : s.vm.findClass own = some m.cls) (hcls : Bundle.fit cls = true) (hnames : ∀ n ∈ names, Bundle.fit n = true)
    (hk : (Cond.classLink own ik cls).before args s = true) (hini : (Cond.initialized cls).before args s = true) (hstr : vk_R own is text sa s) (hat : ∀ w ∈ vx_atS own ic cls names, w.before args s = true)
    (hgood : ∀ w ∈ Cond.classLink own ik cls :: Cond.initialized cls :: vx_atS own ic cls names, vx_ot w = true)
    (hU : vx_Zq Bundle.tN "UNASSIGNED_STACK" Bundle.steD A s s.heap) (hN : vx_Zq Bundle.tN "SUPPRESSED_SENTINEL" Bundle.listD A s s.heap) (hS : va_S A s.heap H locs) (hsize : ls.size = c.maxLocals)
    (d0 : decode cc pc = .ok (.new ik, 3)) (d3 : decode cc (pc + 3) = .ok (.dup, 1)) (d4 : decode cc (pc + 4) = .ok (.ldc is, 2)) (d6 : decode cc (pc + 6) = .ok (.invokespecial ic, 3)) (d9 : decode cc (pc + 9) = .ok (.athrow, 1))
    (hout : ∀ x ∈ c.exceptionTable.toList, covers x (pc + 9) = false)
    (hRframes : names.length + 3 < R.frames) (hRlocals : (rest.map fun v => v.category).sum + (13 * (names.length + 1) + 43) ≤ R.locals) (hRcells : cells + 1 ≤ R.cells) (hRslots : slots + 6 ≤ R.slots) (hlocks : meth.locks = false)
    (hx : ∀ t : State, s.vm.Alike t.vm → H.size ≤ t.heap.size → (∀ q : Nat, q < H.size → t.heap[q]? = H[q]?) → XC cls s t)
    (hf : ∀ z ∈ locs, free z.base) (hc : cells + 1 ≤ mc) (hs : slots + 6 ≤ ms) :
    W p l e R s m args below meth c H locs cells slots (vx_MQ below Qc XC args s mc ms free) (F0 m pc ls rest) := by
  intro T hT X
  have htr : e.platform.stackTraces = false := (show e.platform.stackTraces = l.stackTraces by rw [X.admits.platform]).trans hl
  have Y := vx_rebase X (R' := { frames := R.frames, locals := R.locals, cells := 1, slots := 6 }) (Nat.le_refl _) (Nat.le_refl _) hRcells hRslots
  obtain ⟨s', hA⟩ : ∃ z, z = (T.setVm s.vm).setFrames (.invoking m args :: below) := ⟨_, rfl⟩
  rw [← hA] at Y
  have hvm : s'.vm = s.vm := by rw [hA]; rfl
  have hhp : s'.heap = H := by rw [hA]; exact hT
  have hW0 : s.WarmedH s'.vm := by rw [hvm]; exact State.WarmedH.refl s
  have hat' : ∀ w ∈ vx_atS own ic cls names, w.before args s' = true := fun w hw => vx_ot_at hW0 hvm.symm (hgood w (List.mem_cons_of_mem _ (List.mem_cons_of_mem _ hw))) (hat w hw)
  have hk' : (Cond.classLink own ik cls).before args s' = true := vx_ot_at hW0 hvm.symm (hgood _ List.mem_cons_self) hk
  have hini' : (Cond.initialized cls).before args s' = true := vx_ot_at hW0 hvm.symm (hgood _ (List.mem_cons_of_mem _ List.mem_cons_self)) hini
  have hU' : vx_Zq Bundle.tN "UNASSIGNED_STACK" Bundle.steD A s' s'.heap := by rw [hhp]; exact vx_Zq.moved hW0.alike (hU.kept hS.2.1)
  have hN' : vx_Zq Bundle.tN "SUPPRESSED_SENTINEL" Bundle.listD A s' s'.heap := by rw [hhp]; exact vx_Zq.moved hW0.alike (hN.kept hS.2.1)
  have h : ∀ w ∈ Bundle.ownAtoms own ic cls names, w.before args s' = true := vx_own hat' (vx_isRefq hU'.1) (vx_isRefq hN'.1) hU'.2.word hN'.2.word
  have hown' : s'.vm.findClass own = some m.cls := by rw [hvm]; exact hown
  have hins : (Cond.instantiable cls 6).before args s' = true := h _ (by simp [Bundle.ownAtoms])
  obtain ⟨vm₁, cX, kX, hfX, hkX, -, -, X₁, st1⟩ := Y.newCold hexec (own := own) (C := cls) (index := ik) (n := 6) hown' hk' hins hini'
    (g := F0 m pc ls rest) rfl (by rw [hb]; exact d0) (Nat.le_refl _) (Nat.le_refl _)
  generalize hT1 : (T.setVm vm₁).pushCell { cls := cX, slots := kX.instanceTypes.map defaultValue, vm := .none } = T1 at X₁ st1
  have hcat : (Value.ref T.heap.size).category = 1 := rfl
  have hcellA : T1.heap[T.heap.size]? = some (freshCell cX kX) := by rw [← hT1]; exact State.heap_pushCell_size _ _
  have d3' : decode c.code (pc + 3) = .ok (.dup, 1) := by rw [hb]; exact d3
  have d4' : decode c.code (pc + 4) = .ok (.ldc is, 2) := by rw [hb]; exact d4
  have hstr' : vk_R own is text sa s' := vk_R.warm hW0 hstr
  obtain ⟨U, hsteps, hrun, hend, hW, hsame, ce, hce, hO⟩ := X₁.ctorThrowS hexec htr (own := own) (cls := cls) (names := names) (ic := ic) hown' hcls hnames h (fun x hx => nomatch hx) hfX hkX hcellA (by rw [hhp, hT]; exact Nat.le_refl _) (msg := .ref sa) rfl
    (g := { method := m, pc := pc + 6, locals := ls, stack := .ref sa :: .ref T.heap.size :: .ref T.heap.size :: rest, locked := none }) rfl hsize rfl rfl (rest := rest) rfl
    (by rw [hb]; exact d6) (by rw [hb]; exact d9) hout hRframes (by simp only [List.map_cons, List.sum_cons, hcat]; omega) hlocks
  obtain ⟨f1, f2⟩ := vx_frame hsame
  rw [hhp] at f1 f2
  have hWs : s.WarmedH U.vm := State.WarmedH.trans hW0 hW
  have hcl : s.vm.findClass cls = some ce.cls := by
    have h9 := hO.cls
    rw [hvm] at h9
    exact h9
  have hall : s.sameButNew ({ U with vm := s.vm } : State) locs mc ms := by
    subst hA
    obtain ⟨e1, e2⟩ := hsame
    rw [State.setFrames_setFrames] at e1
    have h2 : (T.setVm s.vm).sameButNew ({ U with vm := s.vm } : State) [] (0 + 1) (0 + 6) := ⟨e1, e2⟩
    have h3 := X.same.trans h2
    rw [List.append_nil] at h3
    exact h3.mono hc hs
  refine ⟨U, ?_, .threw T.heap.size, hrun, hend, Or.inr ⟨T.heap.size, rfl, cls, ce, locs, hx U hWs.alike f1 (fun q hq => f2 q hq (fun z hz => nomatch hz)), hce, hO.vm, hcl, hWs, hall, hf⟩⟩
  refine st1 _ ?_
  show Steps p.tables e below (T1.setTop { method := m, pc := pc + 3, locals := ls, stack := .ref T.heap.size :: rest, locked := none }) _
  jvm_step X₁.here [X₁.here.top, hexec, d3', Value.category]
  exact X₁.ldcString hexec (own := own) (text := text) (index := is) (a := sa) hown' hstr'.1 hstr'.2
    (g := { method := m, pc := pc + 4, locals := ls, stack := .ref T.heap.size :: .ref T.heap.size :: rest, locked := none }) rfl d4' _ hsteps
/-- 'throw new E("text")', the text by a wide index -/
theorem vx_throwSW {cc : ByteArray} {pc : Nat} (hexec : p.tables.exec = Jvm.exec) (hb : c.code = cc) (hl : l.stackTraces = false) {own cls text : String} {names : List String} {ik is ic mc ms sa : Nat} {A : Nat → Prop}
    (hown : s.vm.findClass own = some m.cls) (hcls : Bundle.fit cls = true) (hnames : ∀ n ∈ names, Bundle.fit n = true)
    (hk : (Cond.classLink own ik cls).before args s = true) (hini : (Cond.initialized cls).before args s = true) (hstr : vk_R own is text sa s) (hat : ∀ w ∈ vx_atS own ic cls names, w.before args s = true)
    (hgood : ∀ w ∈ Cond.classLink own ik cls :: Cond.initialized cls :: vx_atS own ic cls names, vx_ot w = true)
    (hU : vx_Zq Bundle.tN "UNASSIGNED_STACK" Bundle.steD A s s.heap) (hN : vx_Zq Bundle.tN "SUPPRESSED_SENTINEL" Bundle.listD A s s.heap) (hS : va_S A s.heap H locs) (hsize : ls.size = c.maxLocals)
    (d0 : decode cc pc = .ok (.new ik, 3)) (d3 : decode cc (pc + 3) = .ok (.dup, 1)) (d4 : decode cc (pc + 4) = .ok (.ldc_w is, 3)) (d7 : decode cc (pc + 7) = .ok (.invokespecial ic, 3)) (d10 : decode cc (pc + 10) = .ok (.athrow, 1))
    (hout : ∀ x ∈ c.exceptionTable.toList, covers x (pc + 10) = false)
    (hRframes : names.length + 3 < R.frames) (hRlocals : (rest.map fun v => v.category).sum + (13 * (names.length + 1) + 43) ≤ R.locals) (hRcells : cells + 1 ≤ R.cells) (hRslots : slots + 6 ≤ R.slots) (hlocks : meth.locks = false)
    (hx : ∀ t : State, s.vm.Alike t.vm → H.size ≤ t.heap.size → (∀ q : Nat, q < H.size → t.heap[q]? = H[q]?) → XC cls s t)
    (hf : ∀ z ∈ locs, free z.base) (hc : cells + 1 ≤ mc) (hs : slots + 6 ≤ ms) :
    W p l e R s m args below meth c H locs cells slots (vx_MQ below Qc XC args s mc ms free) (F0 m pc ls rest) := by
  intro T hT X
  have htr : e.platform.stackTraces = false := (show e.platform.stackTraces = l.stackTraces by rw [X.admits.platform]).trans hl
  have Y := vx_rebase X (R' := { frames := R.frames, locals := R.locals, cells := 1, slots := 6 }) (Nat.le_refl _) (Nat.le_refl _) hRcells hRslots
  obtain ⟨s', hA⟩ : ∃ z, z = (T.setVm s.vm).setFrames (.invoking m args :: below) := ⟨_, rfl⟩
  rw [← hA] at Y
  have hvm : s'.vm = s.vm := by rw [hA]; rfl
  have hhp : s'.heap = H := by rw [hA]; exact hT
  have hW0 : s.WarmedH s'.vm := by rw [hvm]; exact State.WarmedH.refl s
  have hat' : ∀ w ∈ vx_atS own ic cls names, w.before args s' = true := fun w hw => vx_ot_at hW0 hvm.symm (hgood w (List.mem_cons_of_mem _ (List.mem_cons_of_mem _ hw))) (hat w hw)
  have hk' : (Cond.classLink own ik cls).before args s' = true := vx_ot_at hW0 hvm.symm (hgood _ List.mem_cons_self) hk
  have hini' : (Cond.initialized cls).before args s' = true := vx_ot_at hW0 hvm.symm (hgood _ (List.mem_cons_of_mem _ List.mem_cons_self)) hini
  have hU' : vx_Zq Bundle.tN "UNASSIGNED_STACK" Bundle.steD A s' s'.heap := by rw [hhp]; exact vx_Zq.moved hW0.alike (hU.kept hS.2.1)
  have hN' : vx_Zq Bundle.tN "SUPPRESSED_SENTINEL" Bundle.listD A s' s'.heap := by rw [hhp]; exact vx_Zq.moved hW0.alike (hN.kept hS.2.1)
  have h : ∀ w ∈ Bundle.ownAtoms own ic cls names, w.before args s' = true := vx_own hat' (vx_isRefq hU'.1) (vx_isRefq hN'.1) hU'.2.word hN'.2.word
  have hown' : s'.vm.findClass own = some m.cls := by rw [hvm]; exact hown
  have hins : (Cond.instantiable cls 6).before args s' = true := h _ (by simp [Bundle.ownAtoms])
  obtain ⟨vm₁, cX, kX, hfX, hkX, -, -, X₁, st1⟩ := Y.newCold hexec (own := own) (C := cls) (index := ik) (n := 6) hown' hk' hins hini'
    (g := F0 m pc ls rest) rfl (by rw [hb]; exact d0) (Nat.le_refl _) (Nat.le_refl _)
  generalize hT1 : (T.setVm vm₁).pushCell { cls := cX, slots := kX.instanceTypes.map defaultValue, vm := .none } = T1 at X₁ st1
  have hcat : (Value.ref T.heap.size).category = 1 := rfl
  have hcellA : T1.heap[T.heap.size]? = some (freshCell cX kX) := by rw [← hT1]; exact State.heap_pushCell_size _ _
  have d3' : decode c.code (pc + 3) = .ok (.dup, 1) := by rw [hb]; exact d3
  have d4' : decode c.code (pc + 4) = .ok (.ldc_w is, 3) := by rw [hb]; exact d4
  have hstr' : vk_R own is text sa s' := vk_R.warm hW0 hstr
  obtain ⟨U, hsteps, hrun, hend, hW, hsame, ce, hce, hO⟩ := X₁.ctorThrowS hexec htr (own := own) (cls := cls) (names := names) (ic := ic) hown' hcls hnames h (fun x hx => nomatch hx) hfX hkX hcellA (by rw [hhp, hT]; exact Nat.le_refl _) (msg := .ref sa) rfl
    (g := { method := m, pc := pc + 7, locals := ls, stack := .ref sa :: .ref T.heap.size :: .ref T.heap.size :: rest, locked := none }) rfl hsize rfl rfl (rest := rest) rfl
    (by rw [hb]; exact d7) (by rw [hb]; exact d10) hout hRframes (by simp only [List.map_cons, List.sum_cons, hcat]; omega) hlocks
  obtain ⟨f1, f2⟩ := vx_frame hsame
  rw [hhp] at f1 f2
  have hWs : s.WarmedH U.vm := State.WarmedH.trans hW0 hW
  have hcl : s.vm.findClass cls = some ce.cls := by
    have h9 := hO.cls
    rw [hvm] at h9
    exact h9
  have hall : s.sameButNew ({ U with vm := s.vm } : State) locs mc ms := by
    subst hA
    obtain ⟨e1, e2⟩ := hsame
    rw [State.setFrames_setFrames] at e1
    have h2 : (T.setVm s.vm).sameButNew ({ U with vm := s.vm } : State) [] (0 + 1) (0 + 6) := ⟨e1, e2⟩
    have h3 := X.same.trans h2
    rw [List.append_nil] at h3
    exact h3.mono hc hs
  refine ⟨U, ?_, .threw T.heap.size, hrun, hend, Or.inr ⟨T.heap.size, rfl, cls, ce, locs, hx U hWs.alike f1 (fun q hq => f2 q hq (fun z hz => nomatch hz)), hce, hO.vm, hcl, hWs, hall, hf⟩⟩
  refine st1 _ ?_
  show Steps p.tables e below (T1.setTop { method := m, pc := pc + 3, locals := ls, stack := .ref T.heap.size :: rest, locked := none }) _
  jvm_step X₁.here [X₁.here.top, hexec, d3', Value.category]
  exact X₁.ldcStringW hexec (own := own) (text := text) (index := is) (a := sa) hown' hstr'.1 hstr'.2
    (g := { method := m, pc := pc + 4, locals := ls, stack := .ref T.heap.size :: .ref T.heap.size :: rest, locked := none }) rfl d4' _ hsteps
end Ends
section Bodies
variable {l : Launch}
theorem vx_ofW {y : MethodName} {ws ws' : List Cond} {rm : Room} {Pc : Array Value → State → Prop} {Qc : Array Value → State → Outcome → State → Prop} {XC : String → State → State → Prop} {mc ms : Nat} {free : Addr → Prop} {cc : ByteArray} {maxL : Nat} {ret : Option FieldType}
    (hy : plainName y.cls = true) (hw : ws = Cond.code y cc maxL ret :: ws')
    (body : ∀ p e s m args below meth c s₁, BodyLoose p l y (headSpec ws rm) cc maxL ret e s m args below meth c s₁ → c.maxLocals = maxL → (∀ x ∈ c.exceptionTable.toList, False) → Pc args s →
      W p l e (headSpec ws rm).room s m args below meth c s.heap [] 0 0 (vx_MQ below Qc XC args s mc ms free) (entryFrame m args maxL)) : vx_Met l y ws rm Pc Qc XC mc ms free := by
  refine MetFree.of_bodyS (code := cc) (maxLocals := maxL) (ret := ret) hy ?_ ?_
  · intro args s m h hn
    obtain ⟨meth, c, h1, h2, h3, h4, h5, h6, -, -⟩ := Cond.code_spec hn (atoms_spec (ws := ws) h _ (by rw [hw]; exact List.mem_cons_self))
    exact ⟨meth, c, h1, h2, h3, h4, h5, h6⟩
  · intro p e s m args below meth c s₁ B hml hP _
    have hh0 : s₁.heap = s.heap := by rw [B.state]; rfl
    have ht : ∀ x ∈ c.exceptionTable.toList, False := by
      obtain ⟨meth9, c9, h1, h2, -, -, -, -, h7, -⟩ := Cond.code_spec B.named (atoms_spec (ws := ws) B.pre _ (by rw [hw]; exact List.mem_cons_self))
      cases Option.some.inj (h1.symm.trans B.method)
      cases Option.some.inj (h2.symm.trans (Stand.of_body B).code)
      intro x hx
      rw [Array.isEmpty_iff.mp h7] at hx
      cases hx
    obtain ⟨t, a1, o, b1, b2, b3⟩ := body p e s m args below meth c s₁ B hml ht hP s₁ hh0 (Stand.of_body B)
    exact ⟨t, o, a1, b1, b2, b3⟩
/-- the table of a body with handlers -/
theorem vx_table {p : Program} {x y : MethodName} {S : Spec} {cc bytes : ByteArray} {maxL maxL' : Nat} {ret ret' : Option FieldType} {e : Env} {s s₁ : State} {m : MethodId} {args : Array Value} {below : List Frame} {meth : Method} {c : Code} {hh : List (Nat × Nat × Nat × Nat)}
    (B : BodyLoose p l y S cc maxL ret e s m args below meth c s₁) (h : (Cond.codeWith y bytes maxL' ret' hh).before args s = true) : c.exceptionTable.toList = tableOf hh := by
  obtain ⟨m9, meth9, c9, hn9, h1, h2, -, -, h6, -⟩ := Cond.codeWith_spec h
  cases Option.some.inj (hn9.symm.trans B.named)
  cases Option.some.inj (h1.symm.trans B.method)
  cases Option.some.inj (h2.symm.trans (Stand.of_body B).code)
  rw [← h6, table_eq]
end Bodies
end VXA
/-! ===== END ===== -/
/-! ===== BEGIN a static call of a method with an exception table ===== -/
section VXS
variable {p : Program} {l : Launch} {e : Env} {R : Room} {s : State} {m : MethodId} {args : Array Value} {below : List Frame} {meth : Method} {c : Code} {T : State} {H : Heap} {locs : List Loc} {cells slots : Nat}
abbrev vx_CSW (R : Room) (s : State) (args : Array Value) (own : String) (index : Nat) (y : MethodName) (bytes : ByteArray) (maxL : Nat) (ret : Option FieldType) (hh : List (Nat × Nat × Nat × Nat)) (ws : List Cond) (rm : Room) (mc ms n : Nat) : Prop :=
  (rm.cells = mc ∧ rm.slots = ms ∧ rm.frames + 1 ≤ R.frames ∧ 8 + (maxL + 11) + rm.locals ≤ R.locals ∧ (∀ w ∈ ws, ∀ (a' : Array Value) (U : State), s.WarmedH U.vm → w.before a' U = true) ∧ Cond.codeWith y bytes maxL ret hh ∈ ws) ∧
  (Cond.codeWith y bytes maxL ret hh).before args s = true ∧ (Cond.initialized y.cls).before args s = true ∧ (y.cls ≠ "java/lang/invoke/MethodHandle" ∧ y.cls ≠ "java/lang/invoke/VarHandle") ∧
  (∀ sig, parseMethodDescriptor y.desc = some sig → n = sig.parameters.length) ∧ (Cond.methodLink own index y).before args s = true ∧ (Cond.static y).before args s = true
theorem vx_cwSW {own : String} {index maxL mc ms : Nat} {y : MethodName} {bytes : ByteArray} {ret : Option FieldType} {hh : List (Nat × Nat × Nat × Nat)} {Ts ws ws' : List Cond} {rm : Room} (n : Nat) (ht : ∀ w ∈ Ts, w.before args s = true) (hT : GoodIn Ts (va_wsS own index y ws)) (hw : ws = Cond.codeWith y bytes maxL ret hh :: ws') (hrc : rm.cells = mc) (hrs : rm.slots = ms)
    (hd : y.cls ≠ "java/lang/invoke/MethodHandle" ∧ y.cls ≠ "java/lang/invoke/VarHandle" ∧ (parseMethodDescriptor y.desc).map (fun d => d.parameters.length) = some n) (hR : rm.frames + 1 ≤ R.frames ∧ 8 + (maxL + 11) + rm.locals ≤ R.locals) :
    vx_CSW R s args own index y bytes maxL ret hh ws rm mc ms n := by
  have ok : ∀ w ∈ va_wsS own index y ws, w.before args s = true := fun w h => ht w (hT w h).1
  have hG : GoodIn Ts ws := fun w h => hT w (by unfold va_wsS; exact List.mem_append_right _ h)
  have hc : Cond.codeWith y bytes maxL ret hh ∈ ws := by rw [hw]; exact List.mem_cons_self
  refine ⟨⟨hrc, hrs, hR.1, hR.2, pay_in ht hG, hc⟩, ht _ (hG _ hc).1, ok _ (by simp [va_wsS]), ⟨hd.1, hd.2.1⟩, fun sig h => ?_, ok _ (by simp [va_wsS]), ok _ (by simp [va_wsS])⟩
  have h2 := hd.2.2
  rw [h] at h2
  exact (Option.some.inj h2).symm
theorem vx_callSW (X : Stand p l e R s m args below meth c T locs cells slots) (hexec : p.tables.exec = Jvm.exec) {own : String} {index : Nat} {y : MethodName} {bytes : ByteArray} {maxL : Nat} {ret : Option FieldType} {hh : List (Nat × Nat × Nat × Nat)}
    (hown : s.vm.findClass own = some m.cls) (hlink : (Cond.methodLink own index y).before args s = true) (hstat : (Cond.static y).before args s = true) (hinit : (Cond.initialized y.cls).before args s = true)
    (hcode : (Cond.codeWith y bytes maxL ret hh).before args s = true) (hy : y.cls ≠ "java/lang/invoke/MethodHandle" ∧ y.cls ≠ "java/lang/invoke/VarHandle")
    {W9 : Nat} {Pre : Pt → Array Value → Prop} {Post : Pt → Array Value → Option Value → Pt → Prop} (hK : Back l R p e below s args y 3 W9 Pre Post)
    {g : JFrame} (hg : g.method = m) (hsize : g.locals.size = c.maxLocals) {argsL rest : List Value} (hlen : ∀ sig, parseMethodDescriptor y.desc = some sig → argsL.length = sig.parameters.length)
    (hstack : g.stack = argsL.reverse ++ rest) (hW : 2 * g.monitorRoom + (rest.map fun v => v.category).sum ≤ W9) (hdg : decode c.code g.pc = .ok (.invokestatic index, 3))
    (hpre : ∀ vm₁, s.WarmedH vm₁ → Pre ⟨T.setVm vm₁, locs, cells, slots⟩ argsL.toArray) :
    ∃ (v : Option Value) (vm₁ : Vm) (B : Pt), s.WarmedH vm₁ ∧ Stand p l e R s m args below meth c B.U B.locs B.cells B.slots ∧ Post ⟨T.setVm vm₁, locs, cells, slots⟩ argsL.toArray v B ∧
      ∀ target, Steps p.tables e below (B.U.setTop { g with pc := g.pc + 3, stack := v.toList ++ rest }) target → Steps p.tables e below (T.setTop g) target := by
  obtain ⟨mk, methM, cM, hnamed, hmethM, -, -, -, -, -, -, hsigM⟩ := Cond.codeWith_spec hcode
  have hstatic : methM.isStatic = true := Cond.static_spec hnamed hmethM hstat
  obtain ⟨kP, hkP, -⟩ := className_of_methodNamed hnamed
  have hinitP : kP.init = .initialized := Cond.initialized_spec (findClass_of_methodNamed hnamed) hkP hinit
  obtain ⟨vm₁, X₁, hstep₁⟩ := X.invokestatic hexec hown hlink hnamed hmethM hstatic hkP hinitP hy (g := g) hg (argsL := argsL) (rest := rest) (hlen _ hsigM) hstack hdg
  obtain ⟨v, B, X', hpost, hsteps⟩ := hK m meth c ⟨T.setVm vm₁, locs, cells, slots⟩ { g with stack := rest } (.invokestatic index) mk argsL.toArray X₁ hg hsize hdg hW (X₁.named hnamed) (hpre vm₁ X₁.warmed)
  exact ⟨v, vm₁, B, X₁.warmed, X', hpost, fun target h => hstep₁ _ fun acts => by rw [doInvoke_state]; exact hsteps.trans h⟩
theorem vx_runSW {y : MethodName} {bytes cc : ByteArray} {maxL nL mc ms n index : Nat} {ret : Option FieldType} {hh : List (Nat × Nat × Nat × Nat)} {ws : List Cond} {rm : Room} {Pc : Array Value → State → Prop} {Qc : Array Value → State → Outcome → State → Prop} {free : Addr → Prop} {Ts : List Cond} {own : String} {As rest : List Value} {g : JFrame}
    (S : CallFix p m c cc nL s args Ts own) (hM : Met l y ws rm Pc Qc mc ms free) (cw : vx_CSW R s args own index y bytes maxL ret hh ws rm mc ms n) (hp : PreS s H Pc As)
    (hg : g.method = m) (hn : As.length = n) (hsize : g.locals.size = nL) (hstack : g.stack = As.reverse ++ rest) (hW : 2 * g.monitorRoom + (rest.map fun v => v.category).sum ≤ 8) (hdg : decode cc g.pc = .ok (.invokestatic index, 3)) (hf : cells + mc ≤ R.cells ∧ slots + ms ≤ R.slots) :
    va_Run p l e R s m args below meth c H locs cells slots mc ms g rest (Qc As.toArray) (free) := by
  obtain ⟨⟨hrc, hrs, hfr, hlo, hws, hcw⟩, hcode, hini, hy, hlen, hl, hstt⟩ := cw
  have hK : Back l R p e below s args y 3 8 (PreOf R mc ms Pc) (PostOf Qc mc ms free) := va_backW (hh := hh) (bytes := bytes) (maxL := maxL) (ret := ret) hM hp.1 hrc hrs hfr hlo hws hcw (fun a' U hW => word_at hW (Or.inl (by first | rfl | simp [Cond.onTables, Cond.keeps, Cond.steady])) hini)
  obtain ⟨hx, hb, hml, ho, -⟩ := S
  intro T hT X
  obtain ⟨v, vm₁, ⟨U', l2, c2, s2⟩, hW₁, X', ⟨g', mk, t, L, e1, e2, hq, h1, hL, h2, h3⟩, st⟩ := vx_callSW X hx (hh := hh) (bytes := bytes) (maxL := maxL) (ret := ret) ho hl hstt hini hcode hy hK hg (hsize.trans hml.symm) (argsL := As) (rest := rest) (fun sig h => hn.trans (hlen sig h)) hstack hW (by rw [hb]; exact hdg)
    (fun vm₁ hW₁ => ⟨hf.1, hf.2, hp.2 (T.setVm vm₁) hT hW₁⟩)
  dsimp only [Pt.U, Pt.locs, Pt.cells, Pt.slots] at X' e1 e2 h1 h2 h3 st
  subst h1; subst h2; subst h3
  exact ⟨v, (T.setVm vm₁).calling g' mk As.toArray, t, U', L, hT, X', hL, e1, e2, hq, st⟩
/-- not caught here, past rows that name other classes: it goes on to the caller -/
theorem vx_outP {p : Program} {l : Launch} {e : Env} {R : Room} {s : State} {m : MethodId} {args : Array Value} {below : List Frame} {meth : Method} {c : Code} {H : Heap} {locs : List Loc} {cells slots : Nat} {free : Addr → Prop} {ls : Array Slot} {rest : List Value} {Qc : Array Value → State → Outcome → State → Prop} {XC : String → State → State → Prop}
    {pc : Nat} {own E : String} {ce : Cell} {q : Addr} {mc ms : Nat} (hown : s.vm.findClass own = some m.cls) (hlocks : meth.locks = false)
    (hpass : ∀ z ∈ c.exceptionTable.toList, covers z pc = false ∨ (z.catchType ≠ 0 ∧ ∃ nm : String, (Cond.classLink own z.catchType nm).before args s = true ∧ va_Nc E nm s)) (hcell : H[q]? = some ce) (hv : ce.vm = .none) (hcl : s.vm.findClass E = some ce.cls)
    (hx : ∀ t : State, t.heap = H → s.vm.Alike t.vm → XC E s t) (hf : ∀ z ∈ locs, free z.base) (hc : cells ≤ mc) (hs : slots ≤ ms) :
    vx_W p l e R s m args below meth c H locs cells slots (vx_MQ below Qc XC args s mc ms free) (F0 m pc ls rest) q := by
  intro T hT X
  have hpl : e.platform.magicAccessors = ({} : Platform).magicAccessors := by rw [X.admits.platform]
  obtain ⟨vm', hW', X', st⟩ := X.outThrough hlocks q (g := F0 m pc ls rest) rfl rfl rfl (cell := ce) (by rw [hT]; exact hcell) (by rw [hv]; rfl)
    (by obtain ⟨k9, h9, -⟩ := Vm.findClass_spec hcl; exact ⟨k9, h9⟩) (fun z hz => by
      rcases hpass z hz with h | ⟨hz0, nm, hl1, hn1⟩
      · exact Or.inl h
      · obtain ⟨c6, hc6, hcl6⟩ := Cond.classLink_spec hown hl1 e.platform hpl
        obtain ⟨a8, b8, h1, h2, h3⟩ := hn1
        cases Option.some.inj (h1.symm.trans hcl)
        cases Option.some.inj (h2.symm.trans hc6)
        exact Or.inr ⟨hz0, _, hcl6, h3⟩)
  obtain ⟨g₀, hfr⟩ := X'.frames_eq
  have hcell9 : ((T.setVm vm').setFrames (.throwing q :: below)).heap[q]? = some ce := by
    show T.heap[q]? = some ce
    rw [hT]; exact hcell
  have hend : Ended ((T.setVm vm').setFrames (.throwing q :: below)) below (.threw q) := State.frames_setFrames _ (State.cur_lt_of_frames hfr)
  refine ⟨(T.setVm vm').setFrames (.throwing q :: below), ?_, .threw q, X'.here.running, hend, Or.inr ⟨q, rfl, E, ce, locs, hx _ hT (X'.ends _).1.alike, hcell9, hv, hcl, (X'.ends _).1, (X'.ends _).2.mono hc hs, hf⟩⟩
  rw [X.pushThrowing_eq]
  exact st
/-- a thing of a world lies in the heap -/
theorem vx_lt {D : va_G} {cl : List vw_C} {ws : va_W} {H1 : Heap} (h : va_P D cl ws H1) {k : Nat} {q : Nat × va_E} (hk : ws[k]? = some q) : q.1 < H1.size := (h k q hk).lt
end VXS
/-! ===== END ===== -/
/-! ===== BEGIN methods with a table of their own: called by a name, returning or throwing ===== -/
section VXH
/-! vx_backW, vx_callVX, vx_callSX, vx_callVW, vx_runVW, vx_runVX, vx_runSX, vx_ofWH follow the same proofs as their sisters above (Free/Laws.lean, Shelf42/LK1.lean); vx_outP calls Shelf42/NT130.lean (outThrough). -/
section
variable {l : Launch} {R : Room} {p : Program} {e : Env} {below : List Frame} {s : State} {sargs : Array Value} {y : MethodName} {len W9 : Nat}
theorem vx_backW {ws : List Cond} {rm : Room} {Pc : Array Value → State → Prop} {Qc : Array Value → State → Outcome → State → Prop} {XC : String → State → State → Prop} {mc ms : Nat} {free : Addr → Prop} {bytes : ByteArray} {maxL : Nat} {ret : Option FieldType} {hh : List (Nat × Nat × Nat × Nat)}
    (hM : vx_Met l y ws rm Pc Qc XC mc ms free) (hblind : FrameBlind Pc) (hrc : rm.cells = mc) (hrs : rm.slots = ms)
    (hframes : rm.frames + 1 ≤ R.frames) (hlocals : W9 + (maxL + 11) + rm.locals ≤ R.locals)
    (hws : ∀ w ∈ ws, ∀ a' U, s.WarmedH U.vm → w.before a' U = true) (hcode : Cond.codeWith y bytes maxL ret hh ∈ ws) (hinit : ∀ a' U, s.WarmedH U.vm → (Cond.initialized y.cls).before a' U = true) :
    vx_Back l R p e below s sargs y len W9 (PreOf R mc ms Pc) (PostOf Qc mc ms free) (vx_Post XC mc ms free) := by
  intro m meth c A g ig mk a X hg hsize hdg hW hn hp
  have h1 : (headSpec ws rm).pre.before a A.U = true := atoms_intro fun w hw => hws w hw _ _ X.warmed
  have h2 : (Cond.codeWith y bytes maxL ret hh).before a A.U = true := hws _ hcode _ _ X.warmed
  have h3 : (Cond.initialized y.cls).before a A.U = true := hinit _ _ X.warmed
  have h4 : A.cells + (headSpec ws rm).room.cells ≤ R.cells := by rw [show (headSpec ws rm).room.cells = mc from hrc]; exact hp.1
  have h5 : A.slots + (headSpec ws rm).room.slots ≤ R.slots := by rw [show (headSpec ws rm).room.slots = ms from hrs]; exact hp.2.1
  have hPc : Pc a (A.U.calling g mk a) := hblind _ _ _ _ hp.2.2
  obtain ⟨U, Ls, c0, s0⟩ := A
  dsimp only [Pt.U, Pt.locs, Pt.cells, Pt.slots] at h1 h2 h3 h4 h5 X hn hPc ⊢
  obtain ⟨m9, methY, cY, hn9, hmY, hcY, -, hlY, -⟩ := Cond.codeWith_spec h2
  cases Option.some.inj (hn9.symm.trans hn)
  obtain ⟨kY, hkY, -⟩ := className_of_methodNamed hn
  have hinitY : kY.init = .initialized := Cond.initialized_spec (findClass_of_methodNamed hn) hkY h3
  have h : At U g.method c below := by rw [hg]; exact X.here
  have hlocals9 : W9 + (maxL + 11) + (headSpec ws rm).room.locals ≤ R.locals := hlocals
  have happ : (headSpec ws rm).appliesLoose y e.platform (U.calling g mk a) = true :=
    Spec.appliesLoose_calling (g := g) h hdg hn hkY hinitY
      (X.room_calling (g := g) (R' := (headSpec ws rm).room) hsize hmY hcY hframes (by rw [hlY]; omega) h4 h5) h1
  obtain ⟨mid, hmid⟩ := h.above
  have hfr : (U.setTop g).frames = (.java g :: mid) ++ below := by rw [State.frames_setTop' g h.top, hmid]; rfl
  obtain ⟨o, s₂, hsteps, -, hend, hq⟩ := Steps.callFree hM p X.admits X.cas X.clock (acts := []) hfr happ hPc trivial
  have hq' : vx_Q Qc XC mc ms free a (U.calling g mk a) o s₂ := hq
  rw [State.frames_setTop' g h.top] at hend
  obtain ⟨g₀, hg0⟩ := Option.isSome_iff_exists.mp h.top
  obtain ⟨r, hr⟩ := State.topJava?_eq_some.mp hg0
  have hr' : (({ U with heap := s₂.heap, slotsUsed := s₂.slotsUsed } : State).setVm s₂.vm).frames = .java g₀ :: r := hr
  rcases hq' with ⟨hqc, L, hfe, hL⟩ | ⟨q, rfl, E, ce, L, hx, hce, hcv, hcl, hW₂, hsm, hL⟩
  · obtain ⟨⟨v, rfl⟩, hW₂, e2, q2, q3, q4, q5, q6⟩ := id hfe
    have e3 : s₂ = ({ (U.calling g mk a).setFrames s₂.frames with heap := s₂.heap, slotsUsed := s₂.slotsUsed } : State).setVm s₂.vm := by
      have : s₂ = ({ s₂ with vm := (U.calling g mk a).vm } : State).setVm s₂.vm := rfl
      rw [e2] at this
      exact this
    obtain ⟨c₂, i₂, len₂, hc₂, hd₂, hf₂⟩ := hend
    have hW' : U.WarmedH s₂.vm := hW₂
    have hcc : c₂ = c := by
      have h1 : s₂.code? g.method = U.code? g.method := by
        rw [State.code?_eq, State.code?_eq, hW'.alike.method?]
      exact Option.some.inj (hc₂.symm.trans (h1.trans h.code))
    subst hcc
    have hlen : len₂ = len := by rw [hdg] at hd₂; cases hd₂; rfl
    subst hlen
    have hs₂ : s₂ = (({ U with heap := s₂.heap, slotsUsed := s₂.slotsUsed } : State).setVm s₂.vm).setTop { g with pc := g.pc + len₂, stack := v.toList ++ g.stack } := by
      refine e3.trans ?_
      rw [hf₂, State.calling_eq h.top, State.setFrames_setFrames, State.setTop_of_frames _ hr', hr]
      rfl
    have hsame : U.sameButNew ({ U with heap := s₂.heap, slotsUsed := s₂.slotsUsed } : State) L mc ms := by
      refine ⟨?_, q2, q3, q4, q5, q6⟩
      obtain ⟨t, ht, -⟩ := State.frames_cons hr
      show ({ U with heap := s₂.heap, slotsUsed := s₂.slotsUsed } : State) = { U.setFrames U.frames with heap := s₂.heap, slotsUsed := s₂.slotsUsed }
      rw [State.setFrames_self ht]
    subst hg
    refine Or.inl ⟨v, ⟨(({ U with heap := s₂.heap, slotsUsed := s₂.slotsUsed } : State).setVm s₂.vm), Ls ++ L, c0 + mc, s0 + ms⟩,
      ⟨X.admits, X.cas, X.clock, X.frames, X.room, X.hears, X.method, X.code, (X.here.setHeapUsed s₂.heap s₂.slotsUsed).setVm hW'.alike, X.tail, State.WarmedH.trans X.warmed hW', X.limits, X.bytes, X.same.trans (hsame.setVm s.vm)⟩,
      ⟨g, mk, s₂, L, rfl, rfl, hqc, rfl, hL, rfl, rfl⟩, ?_⟩
    show Steps p.tables e below _ ((({ U with heap := s₂.heap, slotsUsed := s₂.slotsUsed } : State).setVm s₂.vm).setTop { g with pc := g.pc + len₂, stack := v.toList ++ g.stack })
    rw [← hs₂]
    exact hsteps
  · obtain ⟨e2, q2, q3, q4, q5, q6⟩ := id hsm
    have e3 : s₂ = ({ (U.calling g mk a).setFrames s₂.frames with heap := s₂.heap, slotsUsed := s₂.slotsUsed } : State).setVm s₂.vm := by
      have : s₂ = ({ s₂ with vm := (U.calling g mk a).vm } : State).setVm s₂.vm := rfl
      rw [e2] at this
      exact this
    have hf₂ : s₂.frames = .throwing q :: .java g :: U.frames.tail := hend
    have hW' : U.WarmedH s₂.vm := hW₂
    have hs₂ : s₂ = ((({ U with heap := s₂.heap, slotsUsed := s₂.slotsUsed } : State).setVm s₂.vm).setTop g).pushFrame (.throwing q) := by
      refine e3.trans ?_
      rw [hf₂, State.calling_eq h.top, State.setFrames_setFrames, State.pushFrame, State.frames_setTop _ hr', State.setTop_of_frames _ hr', State.setFrames_setFrames, hr]
      rfl
    have hsame : U.sameButNew ({ U with heap := s₂.heap, slotsUsed := s₂.slotsUsed } : State) L mc ms := by
      refine ⟨?_, q2, q3, q4, q5, q6⟩
      obtain ⟨t, ht, -⟩ := State.frames_cons hr
      show ({ U with heap := s₂.heap, slotsUsed := s₂.slotsUsed } : State) = { U.setFrames U.frames with heap := s₂.heap, slotsUsed := s₂.slotsUsed }
      rw [State.setFrames_self ht]
    subst hg
    refine Or.inr ⟨q, ⟨(({ U with heap := s₂.heap, slotsUsed := s₂.slotsUsed } : State).setVm s₂.vm), Ls ++ L, c0 + mc, s0 + ms⟩,
      ⟨X.admits, X.cas, X.clock, X.frames, X.room, X.hears, X.method, X.code, (X.here.setHeapUsed s₂.heap s₂.slotsUsed).setVm hW'.alike, X.tail, State.WarmedH.trans X.warmed hW', X.limits, X.bytes, X.same.trans (hsame.setVm s.vm)⟩,
      ⟨g, mk, s₂, L, E, ce, rfl, rfl, hx, hce, hcv, hcl, rfl, hL, rfl, rfl⟩, ?_⟩
    show Steps p.tables e below _ (((({ U with heap := s₂.heap, slotsUsed := s₂.slotsUsed } : State).setVm s₂.vm).setTop g).pushFrame (.throwing q))
    rw [← hs₂]
    exact hsteps
end
variable {p : Program} {l : Launch} {e : Env} {R : Room} {s : State} {m : MethodId} {args : Array Value} {below : List Frame} {meth : Method} {c : Code} {T : State} {H : Heap} {locs : List Loc} {cells slots : Nat}
theorem vx_callVX (X : Stand p l e R s m args below meth c T locs cells slots) (hexec : p.tables.exec = Jvm.exec) {own C : String} {index : Nat} {y : MethodName} {bytes : ByteArray} {maxL : Nat} {ret : Option FieldType} {hh : List (Nat × Nat × Nat × Nat)}
    (hown : s.vm.findClass own = some m.cls) (hlink : (Cond.methodLink own index y).before args s = true) (hinst : (Cond.instanceMethod y).before args s = true) (hsel : (Cond.selects C y y).before args s = true)
    (hcode : (Cond.codeWith y bytes maxL ret hh).before args s = true) (hy : y.cls ≠ "java/lang/invoke/MethodHandle" ∧ y.cls ≠ "java/lang/invoke/VarHandle")
    {W9 : Nat} {Pre : Pt → Array Value → Prop} {Post : Pt → Array Value → Option Value → Pt → Prop} {PostX : Pt → Array Value → Addr → Pt → Prop} (hK : vx_Back l R p e below s args y 3 W9 Pre Post PostX)
    {b : Addr} {cellB : Cell} (hcell : T.heap[b]? = some cellB) (hobj : cellB.vm.isStatics = false) (hcls : s.vm.findClass C = some cellB.cls)
    {g : JFrame} (hg : g.method = m) (hsize : g.locals.size = c.maxLocals) {argsL rest : List Value} (hlen : ∀ sig, parseMethodDescriptor y.desc = some sig → argsL.length = sig.parameters.length)
    (hstack : g.stack = argsL.reverse ++ .ref b :: rest) (hW : 2 * g.monitorRoom + (rest.map fun v => v.category).sum ≤ W9) (hdg : decode c.code g.pc = .ok (.invokevirtual index, 3))
    (hpre : ∀ vm₁, s.WarmedH vm₁ → Pre ⟨T.setVm vm₁, locs, cells, slots⟩ (Value.ref b :: argsL).toArray) :
    (∃ (v : Option Value) (vm₁ : Vm) (B : Pt), s.WarmedH vm₁ ∧ Stand p l e R s m args below meth c B.U B.locs B.cells B.slots ∧ Post ⟨T.setVm vm₁, locs, cells, slots⟩ (Value.ref b :: argsL).toArray v B ∧
      ∀ target, Steps p.tables e below (B.U.setTop { g with pc := g.pc + 3, stack := v.toList ++ rest }) target → Steps p.tables e below (T.setTop g) target) ∨
    (∃ (q : Addr) (vm₁ : Vm) (B : Pt), s.WarmedH vm₁ ∧ Stand p l e R s m args below meth c B.U B.locs B.cells B.slots ∧ PostX ⟨T.setVm vm₁, locs, cells, slots⟩ (Value.ref b :: argsL).toArray q B ∧
      Steps p.tables e below (T.setTop g) ((B.U.setTop { g with stack := rest }).pushFrame (.throwing q))) := by
  obtain ⟨mk, methM, hnamed, hmethM, hstM, habM⟩ := Cond.instanceMethod_spec hinst
  obtain ⟨m8, methM', cM, hn8, hmethM', -, -, -, -, -, -, hsigM⟩ := Cond.codeWith_spec hcode
  cases Option.some.inj (hn8.symm.trans hnamed)
  cases hmethM.symm.trans hmethM'
  obtain ⟨c2, r2, m2, q1, q2, q3, q4, kP, hkP, hkPi⟩ := Cond.selects_spec hsel
  cases hcls.symm.trans q1
  cases (State.methodFound?_of_named hnamed hy).symm.trans q2
  cases hnamed.symm.trans q3
  have hselP : selectMethod e.platform s.vm cellB.cls mk = .method mk := by rw [Launch.admits_selectMethod X.admits]; exact q4
  obtain ⟨vm₁, X₁, hstep₁⟩ := X.invokevirtual hexec hown hlink hnamed hmethM hstM hkP hkPi hy (a := b) (cell := cellB) hcell
    (fun z h => by rw [h] at hobj; cases hobj) hselP hmethM habM hkP hkPi (g := g) hg (argsL := argsL) (rest := rest) (hlen _ hsigM) hstack hdg
  rcases hK m meth c ⟨T.setVm vm₁, locs, cells, slots⟩ { g with stack := rest } (.invokevirtual index) mk (Value.ref b :: argsL).toArray X₁ hg hsize hdg hW (X₁.named hnamed) (hpre vm₁ X₁.warmed) with ⟨v, B, X', hpost, hsteps⟩ | ⟨q, B, X', hpost, hsteps⟩
  · exact Or.inl ⟨v, vm₁, B, X₁.warmed, X', hpost, fun target h => hstep₁ _ fun acts => by rw [doInvoke_state]; exact hsteps.trans h⟩
  · exact Or.inr ⟨q, vm₁, B, X₁.warmed, X', hpost, hstep₁ _ fun acts => by rw [doInvoke_state]; exact hsteps⟩
theorem vx_callSX (X : Stand p l e R s m args below meth c T locs cells slots) (hexec : p.tables.exec = Jvm.exec) {own : String} {index : Nat} {y : MethodName} {bytes : ByteArray} {maxL : Nat} {ret : Option FieldType} {hh : List (Nat × Nat × Nat × Nat)}
    (hown : s.vm.findClass own = some m.cls) (hlink : (Cond.methodLink own index y).before args s = true) (hstat : (Cond.static y).before args s = true) (hinit : (Cond.initialized y.cls).before args s = true)
    (hcode : (Cond.codeWith y bytes maxL ret hh).before args s = true) (hy : y.cls ≠ "java/lang/invoke/MethodHandle" ∧ y.cls ≠ "java/lang/invoke/VarHandle")
    {W9 : Nat} {Pre : Pt → Array Value → Prop} {Post : Pt → Array Value → Option Value → Pt → Prop} {PostX : Pt → Array Value → Addr → Pt → Prop} (hK : vx_Back l R p e below s args y 3 W9 Pre Post PostX)
    {g : JFrame} (hg : g.method = m) (hsize : g.locals.size = c.maxLocals) {argsL rest : List Value} (hlen : ∀ sig, parseMethodDescriptor y.desc = some sig → argsL.length = sig.parameters.length)
    (hstack : g.stack = argsL.reverse ++ rest) (hW : 2 * g.monitorRoom + (rest.map fun v => v.category).sum ≤ W9) (hdg : decode c.code g.pc = .ok (.invokestatic index, 3))
    (hpre : ∀ vm₁, s.WarmedH vm₁ → Pre ⟨T.setVm vm₁, locs, cells, slots⟩ argsL.toArray) :
    (∃ (v : Option Value) (vm₁ : Vm) (B : Pt), s.WarmedH vm₁ ∧ Stand p l e R s m args below meth c B.U B.locs B.cells B.slots ∧ Post ⟨T.setVm vm₁, locs, cells, slots⟩ argsL.toArray v B ∧
      ∀ target, Steps p.tables e below (B.U.setTop { g with pc := g.pc + 3, stack := v.toList ++ rest }) target → Steps p.tables e below (T.setTop g) target) ∨
    (∃ (q : Addr) (vm₁ : Vm) (B : Pt), s.WarmedH vm₁ ∧ Stand p l e R s m args below meth c B.U B.locs B.cells B.slots ∧ PostX ⟨T.setVm vm₁, locs, cells, slots⟩ argsL.toArray q B ∧
      Steps p.tables e below (T.setTop g) ((B.U.setTop { g with stack := rest }).pushFrame (.throwing q))) := by
  obtain ⟨mk, methM, cM, hnamed, hmethM, -, -, -, -, -, -, hsigM⟩ := Cond.codeWith_spec hcode
  have hstatic : methM.isStatic = true := Cond.static_spec hnamed hmethM hstat
  obtain ⟨kP, hkP, -⟩ := className_of_methodNamed hnamed
  have hinitP : kP.init = .initialized := Cond.initialized_spec (findClass_of_methodNamed hnamed) hkP hinit
  obtain ⟨vm₁, X₁, hstep₁⟩ := X.invokestatic hexec hown hlink hnamed hmethM hstatic hkP hinitP hy (g := g) hg (argsL := argsL) (rest := rest) (hlen _ hsigM) hstack hdg
  rcases hK m meth c ⟨T.setVm vm₁, locs, cells, slots⟩ { g with stack := rest } (.invokestatic index) mk argsL.toArray X₁ hg hsize hdg hW (X₁.named hnamed) (hpre vm₁ X₁.warmed) with ⟨v, B, X', hpost, hsteps⟩ | ⟨q, B, X', hpost, hsteps⟩
  · exact Or.inl ⟨v, vm₁, B, X₁.warmed, X', hpost, fun target h => hstep₁ _ fun acts => by rw [doInvoke_state]; exact hsteps.trans h⟩
  · exact Or.inr ⟨q, vm₁, B, X₁.warmed, X', hpost, hstep₁ _ fun acts => by rw [doInvoke_state]; exact hsteps⟩
theorem vx_callVW (X : Stand p l e R s m args below meth c T locs cells slots) (hexec : p.tables.exec = Jvm.exec) {own C : String} {index : Nat} {y : MethodName} {bytes : ByteArray} {maxL : Nat} {ret : Option FieldType} {hh : List (Nat × Nat × Nat × Nat)}
    (hown : s.vm.findClass own = some m.cls) (hlink : (Cond.methodLink own index y).before args s = true) (hinst : (Cond.instanceMethod y).before args s = true) (hsel : (Cond.selects C y y).before args s = true)
    (hcode : (Cond.codeWith y bytes maxL ret hh).before args s = true) (hy : y.cls ≠ "java/lang/invoke/MethodHandle" ∧ y.cls ≠ "java/lang/invoke/VarHandle")
    {W9 : Nat} {Pre : Pt → Array Value → Prop} {Post : Pt → Array Value → Option Value → Pt → Prop} (hK : Back l R p e below s args y 3 W9 Pre Post)
    {b : Addr} {cellB : Cell} (hcell : T.heap[b]? = some cellB) (hobj : cellB.vm.isStatics = false) (hcls : s.vm.findClass C = some cellB.cls)
    {g : JFrame} (hg : g.method = m) (hsize : g.locals.size = c.maxLocals) {argsL rest : List Value} (hlen : ∀ sig, parseMethodDescriptor y.desc = some sig → argsL.length = sig.parameters.length)
    (hstack : g.stack = argsL.reverse ++ .ref b :: rest) (hW : 2 * g.monitorRoom + (rest.map fun v => v.category).sum ≤ W9) (hdg : decode c.code g.pc = .ok (.invokevirtual index, 3))
    (hpre : ∀ vm₁, s.WarmedH vm₁ → Pre ⟨T.setVm vm₁, locs, cells, slots⟩ (Value.ref b :: argsL).toArray) :
    ∃ (v : Option Value) (vm₁ : Vm) (B : Pt), s.WarmedH vm₁ ∧ Stand p l e R s m args below meth c B.U B.locs B.cells B.slots ∧ Post ⟨T.setVm vm₁, locs, cells, slots⟩ (Value.ref b :: argsL).toArray v B ∧
      ∀ target, Steps p.tables e below (B.U.setTop { g with pc := g.pc + 3, stack := v.toList ++ rest }) target → Steps p.tables e below (T.setTop g) target := by
  obtain ⟨mk, methM, hnamed, hmethM, hstM, habM⟩ := Cond.instanceMethod_spec hinst
  obtain ⟨m8, methM', cM, hn8, hmethM', -, -, -, -, -, -, hsigM⟩ := Cond.codeWith_spec hcode
  cases Option.some.inj (hn8.symm.trans hnamed)
  cases hmethM.symm.trans hmethM'
  obtain ⟨c2, r2, m2, q1, q2, q3, q4, kP, hkP, hkPi⟩ := Cond.selects_spec hsel
  cases hcls.symm.trans q1
  cases (State.methodFound?_of_named hnamed hy).symm.trans q2
  cases hnamed.symm.trans q3
  have hselP : selectMethod e.platform s.vm cellB.cls mk = .method mk := by rw [Launch.admits_selectMethod X.admits]; exact q4
  obtain ⟨vm₁, X₁, hstep₁⟩ := X.invokevirtual hexec hown hlink hnamed hmethM hstM hkP hkPi hy (a := b) (cell := cellB) hcell
    (fun z h => by rw [h] at hobj; cases hobj) hselP hmethM habM hkP hkPi (g := g) hg (argsL := argsL) (rest := rest) (hlen _ hsigM) hstack hdg
  obtain ⟨v, B, X', hpost, hsteps⟩ := hK m meth c ⟨T.setVm vm₁, locs, cells, slots⟩ { g with stack := rest } (.invokevirtual index) mk (Value.ref b :: argsL).toArray X₁ hg hsize hdg hW (X₁.named hnamed) (hpre vm₁ X₁.warmed)
  exact ⟨v, vm₁, B, X₁.warmed, X', hpost, fun target h => hstep₁ _ fun acts => by rw [doInvoke_state]; exact hsteps.trans h⟩
abbrev vx_CVW (R : Room) (s : State) (args : Array Value) (own C : String) (index : Nat) (y : MethodName) (bytes : ByteArray) (maxL : Nat) (ret : Option FieldType) (hh : List (Nat × Nat × Nat × Nat)) (ws : List Cond) (rm : Room) (mc ms n : Nat) : Prop :=
  (rm.cells = mc ∧ rm.slots = ms ∧ rm.frames + 1 ≤ R.frames ∧ 8 + (maxL + 11) + rm.locals ≤ R.locals ∧ (∀ w ∈ ws, ∀ (a' : Array Value) (U : State), s.WarmedH U.vm → w.before a' U = true) ∧ Cond.codeWith y bytes maxL ret hh ∈ ws) ∧
  (Cond.codeWith y bytes maxL ret hh).before args s = true ∧ (Cond.initialized y.cls).before args s = true ∧ (y.cls ≠ "java/lang/invoke/MethodHandle" ∧ y.cls ≠ "java/lang/invoke/VarHandle") ∧
  (∀ sig, parseMethodDescriptor y.desc = some sig → n = sig.parameters.length) ∧ (Cond.methodLink own index y).before args s = true ∧ (Cond.instanceMethod y).before args s = true ∧ (Cond.selects C y y).before args s = true
theorem vx_cwVW {own C : String} {index maxL mc ms : Nat} {y : MethodName} {bytes : ByteArray} {ret : Option FieldType} {hh : List (Nat × Nat × Nat × Nat)} {Ts ws ws' : List Cond} {rm : Room} (n : Nat) (ht : ∀ w ∈ Ts, w.before args s = true) (hT : GoodIn Ts (wsV own index C y ws)) (hw : ws = Cond.codeWith y bytes maxL ret hh :: ws') (hrc : rm.cells = mc) (hrs : rm.slots = ms)
    (hd : y.cls = C ∧ y.cls ≠ "java/lang/invoke/MethodHandle" ∧ y.cls ≠ "java/lang/invoke/VarHandle" ∧ (parseMethodDescriptor y.desc).map (fun d => d.parameters.length) = some n) (hR : rm.frames + 1 ≤ R.frames ∧ 8 + (maxL + 11) + rm.locals ≤ R.locals) :
    vx_CVW R s args own C index y bytes maxL ret hh ws rm mc ms n := by
  obtain ⟨hC, hd⟩ := hd
  subst hC
  have ok : ∀ w ∈ wsV own index y.cls y ws, w.before args s = true := fun w h => ht w (hT w h).1
  have hG : GoodIn Ts ws := fun w h => hT w (by unfold wsV; exact List.mem_append_right _ h)
  have hc : Cond.codeWith y bytes maxL ret hh ∈ ws := by rw [hw]; exact List.mem_cons_self
  refine ⟨⟨hrc, hrs, hR.1, hR.2, pay_in ht hG, hc⟩, ht _ (hG _ hc).1, ok _ (by simp [wsV]), ⟨hd.1, hd.2.1⟩, fun sig h => ?_, ok _ (by simp [wsV]), ok _ (by simp [wsV]), ok _ (by simp [wsV])⟩
  have h2 := hd.2.2
  rw [h] at h2
  exact (Option.some.inj h2).symm
theorem vx_runVW {y : MethodName} {bytes cc : ByteArray} {maxL nL mc ms n index : Nat} {ret : Option FieldType} {hh : List (Nat × Nat × Nat × Nat)} {ws : List Cond} {rm : Room} {Pc : Array Value → State → Prop} {Qc : Array Value → State → Outcome → State → Prop} {free : Addr → Prop} {Ts : List Cond} {own C : String} {b : Addr} {As rest : List Value} {g : JFrame}
    (S : CallFix p m c cc nL s args Ts own) (hM : Met l y ws rm Pc Qc mc ms free) (cw : vx_CVW R s args own C index y bytes maxL ret hh ws rm mc ms n) (hp : PreV s H C b Pc As)
    (hg : g.method = m) (hn : As.length = n) (hsize : g.locals.size = nL) (hstack : g.stack = As.reverse ++ .ref b :: rest) (hW : 2 * g.monitorRoom + (rest.map fun v => v.category).sum ≤ 8) (hdg : decode cc g.pc = .ok (.invokevirtual index, 3)) (hf : cells + mc ≤ R.cells ∧ slots + ms ≤ R.slots) :
    va_Run p l e R s m args below meth c H locs cells slots mc ms g rest (Qc (Value.ref b :: As).toArray) free := by
  obtain ⟨⟨hrc, hrs, hfr, hlo, hws, hcw⟩, hcode, hini, hy, hlen, hl, hin, hse⟩ := cw
  have hK : Back l R p e below s args y 3 8 (PreOf R mc ms Pc) (PostOf Qc mc ms free) := va_backW (hh := hh) (bytes := bytes) (maxL := maxL) (ret := ret) hM hp.1 hrc hrs hfr hlo hws hcw (fun a' U hW => word_at hW (Or.inl (by first | rfl | simp [Cond.onTables, Cond.keeps, Cond.steady])) hini)
  obtain ⟨hx, hb, hml, ho, -⟩ := S
  obtain ⟨-, ⟨cellB, hcB, hoB, hclB⟩, hPc⟩ := hp
  intro T hT X
  obtain ⟨v, vm₁, ⟨U', l2, c2, s2⟩, hW₁, X', ⟨g', mk, t, L, e1, e2, hq, h1, hL, h2, h3⟩, st⟩ := vx_callVW X hx (C := C) (hh := hh) (bytes := bytes) (maxL := maxL) (ret := ret) ho hl hin hse hcode hy hK (by rw [hT]; exact hcB) hoB hclB hg (hsize.trans hml.symm) (argsL := As) (rest := rest) (fun sig h => hn.trans (hlen sig h)) hstack hW (by rw [hb]; exact hdg)
    (fun vm₁ hW₁ => ⟨hf.1, hf.2, hPc (T.setVm vm₁) hT hW₁⟩)
  dsimp only [Pt.U, Pt.locs, Pt.cells, Pt.slots] at X' e1 e2 h1 h2 h3 st
  subst h1; subst h2; subst h3
  exact ⟨v, (T.setVm vm₁).calling g' mk (Value.ref b :: As).toArray, t, U', L, hT, X', hL, e1, e2, hq, st⟩
section
variable {y : MethodName} {bytes cc : ByteArray} {maxL nL mc ms n index : Nat} {ret : Option FieldType} {ws : List Cond} {rm : Room} {Pc : Array Value → State → Prop} {Qc : Array Value → State → Outcome → State → Prop} {XC : String → State → State → Prop} {free : Addr → Prop} {Ts : List Cond} {own C : String} {b : Addr} {As rest : List Value} {g : JFrame}
theorem vx_runVX {hh : List (Nat × Nat × Nat × Nat)} (S : CallFix p m c cc nL s args Ts own) (hM : vx_Met l y ws rm Pc Qc XC mc ms free) (cw : vx_CVW R s args own C index y bytes maxL ret hh ws rm mc ms n) (hp : PreV s H C b Pc As)
    (hg : g.method = m) (hn : As.length = n) (hsize : g.locals.size = nL) (hstack : g.stack = As.reverse ++ .ref b :: rest) (hW : 2 * g.monitorRoom + (rest.map fun v => v.category).sum ≤ 8) (hdg : decode cc g.pc = .ok (.invokevirtual index, 3)) (hf : cells + mc ≤ R.cells ∧ slots + ms ≤ R.slots) :
    vx_Run p l e R s m args below meth c H locs cells slots mc ms g rest (Qc (Value.ref b :: As).toArray) XC free := by
  obtain ⟨⟨hrc, hrs, hfr, hlo, hws, hcw⟩, hcode, hini, hy, hlen, hl, hin, hse⟩ := cw
  have hK : vx_Back l R p e below s args y 3 8 (PreOf R mc ms Pc) (PostOf Qc mc ms free) (vx_Post XC mc ms free) := vx_backW (hh := hh) (bytes := bytes) (maxL := maxL) (ret := ret) hM hp.1 hrc hrs hfr hlo hws hcw (fun a' U hW => word_at hW (Or.inl (by first | rfl | simp [Cond.onTables, Cond.keeps, Cond.steady])) hini)
  obtain ⟨hx, hb, hml, ho, -⟩ := S
  obtain ⟨-, ⟨cellB, hcB, hoB, hclB⟩, hPc⟩ := hp
  intro T hT X
  rcases vx_callVX X hx (C := C) (hh := hh) (bytes := bytes) (maxL := maxL) (ret := ret) ho hl hin hse hcode hy hK (by rw [hT]; exact hcB) hoB hclB hg (hsize.trans hml.symm) (argsL := As) (rest := rest) (fun sig h => hn.trans (hlen sig h)) hstack hW (by rw [hb]; exact hdg)
    (fun vm₁ hW₁ => ⟨hf.1, hf.2, hPc (T.setVm vm₁) hT hW₁⟩) with ⟨v, vm₁, ⟨U', l2, c2, s2⟩, hW₁, X', ⟨g', mk, t, L, e1, e2, hq, h1, hL, h2, h3⟩, st⟩ | ⟨q, vm₁, ⟨U', l2, c2, s2⟩, hW₁, X', ⟨g', mk, t, L, E, ce, e1, e2, hq, hce, hcv, hcl, h1, hL, h2, h3⟩, st⟩
  · dsimp only [Pt.U, Pt.locs, Pt.cells, Pt.slots] at X' e1 e2 h1 h2 h3 st
    subst h1; subst h2; subst h3
    exact Or.inl ⟨v, (T.setVm vm₁).calling g' mk (Value.ref b :: As).toArray, t, U', L, hT, X', hL, e1, e2, hq, st⟩
  · dsimp only [Pt.U, Pt.locs, Pt.cells, Pt.slots] at X' e1 e2 h1 h2 h3 st hcl
    subst h1; subst h2; subst h3
    exact Or.inr ⟨q, (T.setVm vm₁).calling g' mk (Value.ref b :: As).toArray, t, U', L, E, ce, hT, X', hL, e1, e2, hq, hce, hcv, vx_cls hW₁ hcl, st⟩
theorem vx_runSX {hh : List (Nat × Nat × Nat × Nat)} (S : CallFix p m c cc nL s args Ts own) (hM : vx_Met l y ws rm Pc Qc XC mc ms free) (cw : vx_CSW R s args own index y bytes maxL ret hh ws rm mc ms n) (hp : PreS s H Pc As)
    (hg : g.method = m) (hn : As.length = n) (hsize : g.locals.size = nL) (hstack : g.stack = As.reverse ++ rest) (hW : 2 * g.monitorRoom + (rest.map fun v => v.category).sum ≤ 8) (hdg : decode cc g.pc = .ok (.invokestatic index, 3)) (hf : cells + mc ≤ R.cells ∧ slots + ms ≤ R.slots) :
    vx_Run p l e R s m args below meth c H locs cells slots mc ms g rest (Qc As.toArray) XC free := by
  obtain ⟨⟨hrc, hrs, hfr, hlo, hws, hcw⟩, hcode, hini, hy, hlen, hl, hstt⟩ := cw
  have hK : vx_Back l R p e below s args y 3 8 (PreOf R mc ms Pc) (PostOf Qc mc ms free) (vx_Post XC mc ms free) := vx_backW (hh := hh) (bytes := bytes) (maxL := maxL) (ret := ret) hM hp.1 hrc hrs hfr hlo hws hcw (fun a' U hW => word_at hW (Or.inl (by first | rfl | simp [Cond.onTables, Cond.keeps, Cond.steady])) hini)
  obtain ⟨hx, hb, hml, ho, -⟩ := S
  intro T hT X
  rcases vx_callSX X hx (hh := hh) (bytes := bytes) (maxL := maxL) (ret := ret) ho hl hstt hini hcode hy hK hg (hsize.trans hml.symm) (argsL := As) (rest := rest) (fun sig h => hn.trans (hlen sig h)) hstack hW (by rw [hb]; exact hdg)
    (fun vm₁ hW₁ => ⟨hf.1, hf.2, hp.2 (T.setVm vm₁) hT hW₁⟩) with ⟨v, vm₁, ⟨U', l2, c2, s2⟩, hW₁, X', ⟨g', mk, t, L, e1, e2, hq, h1, hL, h2, h3⟩, st⟩ | ⟨q, vm₁, ⟨U', l2, c2, s2⟩, hW₁, X', ⟨g', mk, t, L, E, ce, e1, e2, hq, hce, hcv, hcl, h1, hL, h2, h3⟩, st⟩
  · dsimp only [Pt.U, Pt.locs, Pt.cells, Pt.slots] at X' e1 e2 h1 h2 h3 st
    subst h1; subst h2; subst h3
    exact Or.inl ⟨v, (T.setVm vm₁).calling g' mk As.toArray, t, U', L, hT, X', hL, e1, e2, hq, st⟩
  · dsimp only [Pt.U, Pt.locs, Pt.cells, Pt.slots] at X' e1 e2 h1 h2 h3 st hcl
    subst h1; subst h2; subst h3
    exact Or.inr ⟨q, (T.setVm vm₁).calling g' mk As.toArray, t, U', L, E, ce, hT, X', hL, e1, e2, hq, hce, hcv, vx_cls hW₁ hcl, st⟩
end
end VXH
theorem vx_ofWH {l : Launch} {y : MethodName} {ws ws' : List Cond} {rm : Room} {Pc : Array Value → State → Prop} {Qc : Array Value → State → Outcome → State → Prop} {XC : String → State → State → Prop} {mc ms : Nat} {free : Addr → Prop} {cc : ByteArray} {maxL : Nat} {ret : Option FieldType} {hh : List (Nat × Nat × Nat × Nat)}
    (hy : plainName y.cls = true) (hw : ws = Cond.codeWith y cc maxL ret hh :: ws')
    (body : ∀ p e s m args below meth c s₁, BodyLoose p l y (headSpec ws rm) cc maxL ret e s m args below meth c s₁ → c.maxLocals = maxL → Pc args s →
      W p l e (headSpec ws rm).room s m args below meth c s.heap [] 0 0 (vx_MQ below Qc XC args s mc ms free) (entryFrame m args maxL)) : vx_Met l y ws rm Pc Qc XC mc ms free := by
  refine MetFree.of_bodyS (code := cc) (maxLocals := maxL) (ret := ret) hy ?_ ?_
  · intro args s m h hn
    obtain ⟨m9, meth, c, hn9, h1, h2, h3, h4, -, h5, h6, -⟩ := Cond.codeWith_spec (atoms_spec (ws := ws) h _ (by rw [hw]; exact List.mem_cons_self))
    cases hn.symm.trans hn9
    exact ⟨meth, c, h1, h2, h3, h4, h5, h6⟩
  · intro p e s m args below meth c s₁ B hml hP _
    have hh0 : s₁.heap = s.heap := by rw [B.state]; rfl
    obtain ⟨t, a1, o, b1, b2, b3⟩ := body p e s m args below meth c s₁ B hml hP s₁ hh0 (Stand.of_body B)
    exact ⟨t, o, a1, b1, b2, b3⟩
/-! ===== END ===== -/
end
section
/-! NAMES: the classes that objects are of, in the order of cl; types of arrays; texts of exceptions. Written by wip/p32/head.py out of the printed names. -/
def RX0 : String := "Tenuredale$FullCollector"
def RX1 : String := "Tenuredale$Marking"
def RX2 : String := "Tenuredale$MinorCollector"
def RX3 : String := "Tenuredale$Places"
def RX4 : String := "Tenuredale$Roots"
def RX5 : String := "Tenuredale$Row"
def RX6 : String := "Tenuredale$Tally"
def RX7 : String := "Tenuredale$Thing"
def RX8 : String := "Tenuredale$Trace"
def RX9 : String := "Tenuredale"
def RJx145de : String := "java/io/Serializable"
def RJ9 : String := "java/lang/Math"
def RJ0 : String := "java/lang/String"
def RL : String := "TenuredaleLaw"
def TX0 : u_T := fun k => match k with
  | 0 => ("Tenuredale$FullCollector", "all", "LTenuredale$Row;", true)
  | 1 => ("Tenuredale$FullCollector", "roots", "LTenuredale$Roots;", true)
  | 2 => ("Tenuredale$FullCollector", "places", "LTenuredale$Places;", true)
  | 3 => ("Tenuredale$FullCollector", "tally", "LTenuredale$Tally;", true)
  | 4 => ("Tenuredale$FullCollector", "marking", "LTenuredale$Marking;", true)
  | _ => ("Tenuredale$FullCollector", "trace", "LTenuredale$Trace;", true)
def tyX0 : Nat → FieldType := fun k => match k with
  | 0 => .object "Tenuredale$Row"
  | 1 => .object "Tenuredale$Roots"
  | 2 => .object "Tenuredale$Places"
  | 3 => .object "Tenuredale$Tally"
  | 4 => .object "Tenuredale$Marking"
  | _ => .object "Tenuredale$Trace"
def TX1 : u_T := fun k => match k with
  | 0 => ("Tenuredale$Marking", "all", "LTenuredale$Row;", true)
  | 1 => ("Tenuredale$Marking", "roots", "LTenuredale$Roots;", true)
  | _ => ("Tenuredale$Marking", "isOn", "Z", false)
def tyX1 : Nat → FieldType := fun k => match k with
  | 0 => .object "Tenuredale$Row"
  | 1 => .object "Tenuredale$Roots"
  | _ => .boolean
def TX2 : u_T := fun k => match k with
  | 0 => ("Tenuredale$MinorCollector", "tenureAge", "I", false)
  | 1 => ("Tenuredale$MinorCollector", "all", "LTenuredale$Row;", true)
  | 2 => ("Tenuredale$MinorCollector", "roots", "LTenuredale$Roots;", true)
  | 3 => ("Tenuredale$MinorCollector", "places", "LTenuredale$Places;", true)
  | 4 => ("Tenuredale$MinorCollector", "tally", "LTenuredale$Tally;", true)
  | 5 => ("Tenuredale$MinorCollector", "sources", "LTenuredale$Row;", true)
  | 6 => ("Tenuredale$MinorCollector", "followed", "I", false)
  | 7 => ("Tenuredale$MinorCollector", "otherHalf", "I", false)
  | _ => ("Tenuredale$MinorCollector", "otherTop", "I", false)
def tyX2 : Nat → FieldType := fun k => match k with
  | 0 => .int
  | 1 => .object "Tenuredale$Row"
  | 2 => .object "Tenuredale$Roots"
  | 3 => .object "Tenuredale$Places"
  | 4 => .object "Tenuredale$Tally"
  | 5 => .object "Tenuredale$Row"
  | 6 => .int
  | 7 => .int
  | _ => .int
def TX3 : u_T := fun k => match k with
  | 0 => ("Tenuredale$Places", "young", "LTenuredale$Row;", true)
  | 1 => ("Tenuredale$Places", "old", "LTenuredale$Row;", true)
  | 2 => ("Tenuredale$Places", "large", "LTenuredale$Row;", true)
  | 3 => ("Tenuredale$Places", "half", "I", false)
  | 4 => ("Tenuredale$Places", "youngTop", "I", false)
  | 5 => ("Tenuredale$Places", "oldTop", "I", false)
  | 6 => ("Tenuredale$Places", "oldWords", "I", false)
  | _ => ("Tenuredale$Places", "dirty", "[Z", true)
def tyX3 : Nat → FieldType := fun k => match k with
  | 0 => .object "Tenuredale$Row"
  | 1 => .object "Tenuredale$Row"
  | 2 => .object "Tenuredale$Row"
  | 3 => .int
  | 4 => .int
  | 5 => .int
  | 6 => .int
  | _ => .array .boolean
def TX4 : u_T := fun k => match k with
  | 0 => ("Tenuredale$Roots", "queue", "LTenuredale$Row;", true)
  | 1 => ("Tenuredale$Roots", "slots", "[LTenuredale$Thing;", true)
  | 2 => ("Tenuredale$Roots", "globals", "[LTenuredale$Thing;", true)
  | _ => ("Tenuredale$Roots", "frames", "I", false)
def tyX4 : Nat → FieldType := fun k => match k with
  | 0 => .object "Tenuredale$Row"
  | 1 => .array (.object "Tenuredale$Thing")
  | 2 => .array (.object "Tenuredale$Thing")
  | _ => .int
def TX5 : u_T := fun k => match k with
  | 0 => ("Tenuredale$Row", "things", "[LTenuredale$Thing;", true)
  | _ => ("Tenuredale$Row", "size", "I", false)
def tyX5 : Nat → FieldType := fun k => match k with
  | 0 => .array (.object "Tenuredale$Thing")
  | _ => .int
def TX6 : u_T := fun k => match k with
  | 0 => ("Tenuredale$Tally", "minors", "I", false)
  | 1 => ("Tenuredale$Tally", "fulls", "I", false)
  | 2 => ("Tenuredale$Tally", "latestTouched", "I", false)
  | _ => ("Tenuredale$Tally", "mostTouched", "I", false)
def tyX6 : Nat → FieldType := fun k => match k with
  | 0 => .int
  | 1 => .int
  | 2 => .int
  | _ => .int
def TX7 : u_T := fun k => match k with
  | 0 => ("Tenuredale$Thing", "number", "I", true)
  | 1 => ("Tenuredale$Thing", "fields", "[LTenuredale$Thing;", true)
  | 2 => ("Tenuredale$Thing", "kind", "I", false)
  | 3 => ("Tenuredale$Thing", "place", "I", false)
  | 4 => ("Tenuredale$Thing", "address", "I", false)
  | 5 => ("Tenuredale$Thing", "size", "I", false)
  | 6 => ("Tenuredale$Thing", "sizeBehindMove", "I", false)
  | 7 => ("Tenuredale$Thing", "age", "I", false)
  | 8 => ("Tenuredale$Thing", "hash", "I", false)
  | 9 => ("Tenuredale$Thing", "isPinned", "Z", false)
  | 10 => ("Tenuredale$Thing", "colour", "I", false)
  | 11 => ("Tenuredale$Thing", "isMoved", "Z", false)
  | 12 => ("Tenuredale$Thing", "isMarked", "Z", false)
  | _ => ("Tenuredale$Thing", "isCut", "Z", false)
def tyX7 : Nat → FieldType := fun k => match k with
  | 0 => .int
  | 1 => .array (.object "Tenuredale$Thing")
  | 2 => .int
  | 3 => .int
  | 4 => .int
  | 5 => .int
  | 6 => .int
  | 7 => .int
  | 8 => .int
  | 9 => .boolean
  | 10 => .int
  | 11 => .boolean
  | 12 => .boolean
  | _ => .boolean
def TX8 : u_T := fun k => match k with
  | 0 => ("Tenuredale$Trace", "all", "LTenuredale$Row;", true)
  | 1 => ("Tenuredale$Trace", "roots", "LTenuredale$Roots;", true)
  | 2 => ("Tenuredale$Trace", "marked", "LTenuredale$Row;", true)
  | 3 => ("Tenuredale$Trace", "scanned", "I", false)
  | 4 => ("Tenuredale$Trace", "isSoftKept", "Z", false)
  | _ => ("Tenuredale$Trace", "hollow", "LTenuredale$Thing;", false)
def tyX8 : Nat → FieldType := fun k => match k with
  | 0 => .object "Tenuredale$Row"
  | 1 => .object "Tenuredale$Roots"
  | 2 => .object "Tenuredale$Row"
  | 3 => .int
  | 4 => .boolean
  | _ => .object "Tenuredale$Thing"
def TX9 : u_T := fun k => match k with
  | 0 => ("Tenuredale", "all", "LTenuredale$Row;", true)
  | 1 => ("Tenuredale", "roots", "LTenuredale$Roots;", true)
  | 2 => ("Tenuredale", "places", "LTenuredale$Places;", true)
  | 3 => ("Tenuredale", "tally", "LTenuredale$Tally;", true)
  | 4 => ("Tenuredale", "marking", "LTenuredale$Marking;", true)
  | 5 => ("Tenuredale", "trace", "LTenuredale$Trace;", true)
  | 6 => ("Tenuredale", "minorCollector", "LTenuredale$MinorCollector;", true)
  | 7 => ("Tenuredale", "fullCollector", "LTenuredale$FullCollector;", true)
  | _ => ("Tenuredale", "hashesGiven", "I", false)
def tyX9 : Nat → FieldType := fun k => match k with
  | 0 => .object "Tenuredale$Row"
  | 1 => .object "Tenuredale$Roots"
  | 2 => .object "Tenuredale$Places"
  | 3 => .object "Tenuredale$Tally"
  | 4 => .object "Tenuredale$Marking"
  | 5 => .object "Tenuredale$Trace"
  | 6 => .object "Tenuredale$MinorCollector"
  | 7 => .object "Tenuredale$FullCollector"
  | _ => .int
abbrev cl : List vw_C := [(RX0, TX0, 6), (RX1, TX1, 3), (RX2, TX2, 9), (RX3, TX3, 8), (RX4, TX4, 4), (RX5, TX5, 2), (RX6, TX6, 4), (RX7, TX7, 14), (RX8, TX8, 6), (RX9, TX9, 9)]
/-- the classes of arrays -/
abbrev tys (K : Nat → ClassId) : List (ClassId × FieldType) := [(K 0, .object "Tenuredale$Thing"), (K 1, .boolean), (K 2, .int)]
/-- texts: the class whose pool has it, its place there, the text -/
def lw_strs : List (String × Nat × String) := [("Tenuredale", 77, "there are 8 FRAMES"), ("Tenuredale", 85, "it is the only FRAME"), ("Tenuredale", 387, "no such SLOT"), ("Tenuredale", 100, "no such KIND, or not with so many FIELDS"), ("Tenuredale", 106, "200 OBJECTS were made"), ("Tenuredale", 383, "the SLOT is NONE"), ("Tenuredale", 392, "the OBJECT has no such FIELD"), ("Tenuredale", 172, "no such GLOBAL"), ("Tenuredale", 197, "4 others are PINNED"), ("Tenuredale", 381, "there was no such OBJECT"), ("Tenuredale", 263, "what is not 0 to 7"), ("Tenuredale", 316, "what is not 0 to 15"), ("Tenuredale", 327, "no such place in the QUEUE"), ("Tenuredale", 349, "fields is not 0 to 20"), ("Tenuredale", 318, "no such CARD")]
end
section
/-! WHAT EVERY CONTRACT OF THIS CLAIM SPEAKS OF: the tables' words as two lists, the ground besides, a method's start and end, its body's start, the rows for calls. -/
/-- words that warming keeps by laws of their own -/
def ambWord : Cond → Bool
  | .methodLinkNest .. => true
  | .fieldLinkNest .. => true
  | .declares _ => true
  | .castable .. => true
  | _ => false
def lw_gw : List Cond := lw_tbl.filter goodWord
def lw_aw : List Cond := lw_tbl.filter ambWord
theorem gw_of {w : Cond} (h : w ∈ lw_tbl) (g : goodWord w = true) : w ∈ lw_gw := List.mem_filter.mpr ⟨h, g⟩
theorem aw_of {w : Cond} (h : w ∈ lw_tbl) (g : ambWord w = true) : w ∈ lw_aw := List.mem_filter.mpr ⟨h, g⟩
theorem gw_good {w : Cond} (h : w ∈ lw_gw) : (w.onTables && w.keeps) = true ∨ ∃ ty, w = .arrayClass ty := good_of_word (List.mem_filter.mp h).2
theorem in_s {w : Cond} (h : w ∈ k2_sels lw_privs) : w ∈ lw_tbl := List.mem_append_left _ h
theorem in_t {w : Cond} (h : w ∈ tables_1) : w ∈ lw_tbl := List.mem_append_right _ h
theorem in_t1 {w : Cond} (h : w ∈ tables_1_1) : w ∈ lw_tbl := in_t (List.mem_append_left _ h)
theorem in_t2 {w : Cond} (h : w ∈ tables_1_2) : w ∈ lw_tbl := in_t (List.mem_append_right _ (List.mem_append_left _ h))
theorem in_t3 {w : Cond} (h : w ∈ tables_1_3) : w ∈ lw_tbl := in_t (List.mem_append_right _ (List.mem_append_right _ (List.mem_append_left _ h)))
theorem in_t4 {w : Cond} (h : w ∈ tables_1_4) : w ∈ lw_tbl := in_t (List.mem_append_right _ (List.mem_append_right _ (List.mem_append_right _ (List.mem_append_left _ h))))
theorem in_t5 {w : Cond} (h : w ∈ tables_1_5) : w ∈ lw_tbl := in_t (List.mem_append_right _ (List.mem_append_right _ (List.mem_append_right _ (List.mem_append_right _ h))))
/-- a callee's words among a caller's: its code, and the good ones of the tables -/
theorem gi {Ts : List Cond} (hT : ∀ w ∈ lw_gw, w ∈ Ts) {c0 : Cond} (hc : c0 ∈ lw_gw) : GoodIn Ts (c0 :: lw_gw) := fun w h => by
  rcases List.mem_cons.mp h with rfl | h
  · exact ⟨hT _ hc, gw_good hc⟩
  · exact ⟨hT _ h, gw_good h⟩
theorem gi_app {Ts a : List Cond} (hT : ∀ w ∈ lw_gw, w ∈ Ts) (ha : ∀ w ∈ a, w ∈ lw_gw) {c0 : Cond} (hc : c0 ∈ lw_gw) : GoodIn Ts (a ++ (c0 :: lw_gw)) := fun w h => by
  rcases List.mem_append.mp h with h | h
  · exact ⟨hT _ (ha _ h), gw_good (ha _ h)⟩
  · exact gi hT hc w h
theorem ms_1 {P : Cond → Prop} {a : Cond} (h : P a) : ∀ w ∈ [a], P w := fun w hw => by rw [List.mem_singleton.mp hw]; exact h
theorem ms_c {P : Cond → Prop} {a : Cond} {l : List Cond} (h : P a) (t : ∀ w ∈ l, P w) : ∀ w ∈ a :: l, P w := fun w hw => by
  rcases List.mem_cons.mp hw with rfl | hw
  · exact h
  · exact t w hw
theorem ms_0 {P : Cond → Prop} : ∀ w ∈ ([] : List Cond), P w := fun w hw => nomatch hw
/-- the ground besides the words of the tables -/
def Amb (G : Nat → Nat) (A : Nat → Prop) (U : State) (H : Heap) : Prop :=
  (∀ w ∈ lw_aw, va_Nw w U) ∧ (∀ q ∈ lw_strs, ∃ a, vk_R q.1 q.2.1 q.2.2 a U) ∧ va_AO "Tenuredale$Thing" U ∧
  (vx_Zq Bundle.tN "UNASSIGNED_STACK" Bundle.steD A U H ∧ vx_Zq Bundle.tN "SUPPRESSED_SENTINEL" Bundle.listD A U H)
theorem aw_warm {w : Cond} (hw : ambWord w = true) {s U : State} (hW : s.WarmedH U.vm) (h : va_Nw w s) : va_Nw w U := by
  cases w <;> first | exact va_Nw.warmM hW h | exact va_Nw.warmF hW h | exact va_Nw.warmD hW h | exact va_Nw.warmC hW h | exact absurd hw (by simp [ambWord])
theorem aw_onT {w : Cond} (hw : ambWord w = true) : w.onTables = true := by
  cases w <;> first | rfl | exact absurd hw (by simp [ambWord])
theorem Amb.to {G : Nat → Nat} {A A' : Nat → Prop} {s U : State} {H : Heap} {locs : List Loc} (h : Amb G A s s.heap) (hS : va_S A s.heap H locs) (hF : ∀ q, A' q → A q) (hU : U.heap = H) (hW : s.WarmedH U.vm) : Amb G A' U U.heap := by
  obtain ⟨h1, h2, h3, h5, h6⟩ := h
  have hk : ∀ a : Nat, a < s.heap.size → ¬ A a → U.heap[a]? = s.heap[a]? := fun a x y => by rw [hU]; exact hS.2.1 a x y
  have hv := hW.alike
  refine ⟨fun w hw => aw_warm (List.mem_filter.mp hw).2 hW (h1 w hw), fun q hq => ?_, h3.moved hv, ((h5.moved hv).kept hk).narrow hF, ((h6.moved hv).kept hk).narrow hF⟩
  obtain ⟨a, ha⟩ := h2 q hq
  exact ⟨a, ha.warm hW⟩
theorem Amb.same {G : Nat → Nat} {A : Nat → Prop} {u U : State} {H : Heap} (hv : u.vm = U.vm) (h : Amb G A u H) : Amb G A U H := by
  obtain ⟨h1, h2, h3, h5, h6⟩ := h
  have hv' : u.vm.Alike U.vm := hv ▸ Vm.Alike.refl u.vm
  refine ⟨fun w hw => va_Nw.same (aw_onT (List.mem_filter.mp hw).2) hv (h1 w hw), fun q hq => ?_, h3.moved hv', h5.moved hv', h6.moved hv'⟩
  obtain ⟨a, ha⟩ := h2 q hq
  exact ⟨a, ha.same hv.symm⟩
/-- a method's start: the cells wc, the heap's size, the ground -/
def cPre (G : Nat → Nat) (D : va_G) (K : Nat → ClassId) (wc : va_W) (sz : Nat) (U : State) : Prop := U.heap.size = sz ∧ va_P D cl wc U.heap ∧ va_K D cl (tys K) U ∧ va_D (fun _ => True) wc ∧ Amb G (va_A wc sz) U U.heap
/-- its end: the cells w1 of the new addresses u -/
def cB (D : va_G) (w1 : (Nat → Nat) → va_W) (A : Nat → Prop) (u : Nat → Nat) (t : State) : Prop := va_P D cl (w1 u) t.heap ∧ va_D A (w1 u)
abbrev QSpec : Type := Array Value → State → Outcome → State → Prop
abbrev CQv (D : va_G) (w1 : (Nat → Nat) → va_W) (A : Nat → Prop) : QSpec := va_Qv (fun _ : Nat → Nat => True) (cB D w1 A) A
abbrev CQi (r : Int32) (D : va_G) (w1 : (Nat → Nat) → va_W) (A : Nat → Prop) : QSpec := va_Qi (fun z (_ : Nat → Nat) => z = r) (cB D w1 A) A
abbrev CQl (r : Int64) (D : va_G) (w1 : (Nat → Nat) → va_W) (A : Nat → Prop) : QSpec := va_Ql (fun z (_ : Nat → Nat) => z = r) (cB D w1 A) A
abbrev CQd (r : UInt64) (D : va_G) (w1 : (Nat → Nat) → va_W) (A : Nat → Prop) : QSpec := va_Qd (fun z (_ : Nat → Nat) => z = r) (cB D w1 A) A
abbrev CQq (r : (Nat → Nat) → Option Nat) (D : va_G) (w1 : (Nat → Nat) → va_W) (A : Nat → Prop) : QSpec := va_Qq (fun z (u : Nat → Nat) => z = r u) (cB D w1 A) A
abbrev CX (cls : String) (A : Nat → Prop) : String → State → State → Prop := vx_X (fun _ : Unit => True) (fun E _ _ => E = cls) A
abbrev CQ0 (A : Nat → Prop) : QSpec := va_Qv (fun _ : Unit => False) (fun _ _ => True) A
/-- a contract; one that throws -/
abbrev CM (l : Launch) (y : MethodName) (bytes : ByteArray) (maxL : Nat) (ret : Option FieldType) (rm : Room) (G : Nat → Nat) (D : va_G) (K : Nat → ClassId) (av : List Value) (wc : va_W) (sz : Nat) (Q : (Nat → Prop) → QSpec) : Prop :=
  Met l y (.code y bytes maxL ret :: lw_gw) rm (va_Pc av (cPre G D K wc sz)) (Q (va_A wc sz)) rm.cells rm.slots (va_A wc sz)
abbrev CMX (l : Launch) (y : MethodName) (bytes : ByteArray) (maxL : Nat) (ret : Option FieldType) (rm : Room) (G : Nat → Nat) (D : va_G) (K : Nat → ClassId) (av : List Value) (wc : va_W) (sz : Nat) (cls : String) : Prop :=
  vx_Met l y (.code y bytes maxL ret :: lw_gw) rm (va_Pc av (cPre G D K wc sz)) (CQ0 (va_A wc sz)) (CX cls (va_A wc sz)) rm.cells rm.slots (va_A wc sz)
theorem cPre.blind {av : List Value} {G : Nat → Nat} {D : va_G} {K : Nat → ClassId} {wc : va_W} {sz : Nat} : FrameBlind (va_Pc av (cPre G D K wc sz)) := fun a U g mk q => by
  obtain ⟨q0, q1, qP, qK, qD, qA⟩ := q
  exact ⟨q0, q1, qP, va_K.moved (u := U) (U := U.calling g mk a) (Vm.Alike.refl U.vm) qK, qD, Amb.same (u := U) (U := U.calling g mk a) rfl qA⟩
theorem cPre.of {G : Nat → Nat} {D : va_G} {K : Nat → ClassId} {wl wc : va_W} {s U : State} {H : Heap} {locs : List Loc} {A : Nat → Prop} (hK : va_K D cl (tys K) s) (hP : va_P D cl wl H) (hD : va_D A wl) (hS : va_S A s.heap H locs) (hA : ∀ q, s.heap.size ≤ q → A q) (hm : Amb G A s s.heap) (isC : List Nat) (hC : isC.map (fun i => wl[i]?) = wc.map some) (hn : va_nd isC = true) (hU : U.heap = H) (hW : s.WarmedH U.vm) : cPre G D K wc H.size U := by
  have hF := va_free hD hS hA isC hC
  refine ⟨by rw [hU], ?_, va_K.moved hW.alike hK, (hD.sub isC hn hC).weaken (fun _ _ _ _ => trivial), Amb.to hm hS hF hU hW⟩
  rw [hU]
  intro k q hk
  have h1 : (isC.map (fun i => wl[i]?))[k]? = some (some q) := by rw [hC, List.getElem?_map, hk]; rfl
  rw [List.getElem?_map] at h1
  cases hi : isC[k]? with
  | none => rw [hi] at h1; cases h1
  | some i => rw [hi] at h1; exact hP i q (Option.some.inj h1)
/-- a contract's body, from its first instruction -/
theorem CM_of {l : Launch} {y : MethodName} {bytes : ByteArray} {maxL : Nat} {ret : Option FieldType} {rm : Room} {G : Nat → Nat} {D : va_G} {K : Nat → ClassId} {av : List Value} {wc : va_W} {sz : Nat} {Q : (Nat → Prop) → QSpec} {lv0 : List (Nat × Value)} (hy : plainName y.cls = true) (hlen : (lg_sl av).length ≤ maxL) (hlv : lv_args 0 av = lv0)
    (body : ∀ (p : Program) (e : Env) (s : State) (m : MethodId) (args : Array Value) (below : List Frame) (meth : Method) (c : Code) (A : Nat → Prop) (ls : Array Slot), p.tables.exec = Jvm.exec → c.code = bytes → meth.sig.returnType = ret → c.maxLocals = maxL → s.vm.findClass y.cls = some m.cls → (∀ w ∈ lw_gw, w.before args s = true) → meth.locks = false → meth.name = y.name →
      va_P D cl wc s.heap → va_K D cl (tys K) s → va_D A wc → va_S A s.heap s.heap [] → (∀ q : Nat, s.heap.size ≤ q → A q) → Amb G A s s.heap → lv_has ls maxL lv0 → W p l e rm s m args below meth c s.heap [] 0 0 (MQ below (Q A) args s rm.cells rm.slots A) (F0 m 0 ls [])) : CM l y bytes maxL ret rm G D K av wc sz Q := by
  refine Met.ofW (cc := bytes) (maxL := maxL) (ret := ret) hy rfl ?_
  intro p e s m args below meth c s₁ B hml hv
  obtain ⟨rfl, hsz, hP, hK, hD0, hm⟩ := hv
  have hts := atoms_spec (ws := .code y bytes maxL ret :: lw_gw) B.pre
  subst hsz
  have hl := lv_entry av (n := maxL) hlen
  rw [hlv] at hl
  rw [lg_entry_eq]
  exact body p e s m _ below meth c _ _ B.exec B.bytes B.returns hml (findClass_of_methodNamed B.named) (fun w hw => hts w (List.mem_cons_of_mem _ hw)) B.notSynchronized (name_of_methodNamed B.named B.method).1 hP hK hD0.self va_S.rf (fun q h => Or.inr h) hm hl
theorem CMX_of {l : Launch} {y : MethodName} {bytes : ByteArray} {maxL : Nat} {ret : Option FieldType} {rm : Room} {G : Nat → Nat} {D : va_G} {K : Nat → ClassId} {av : List Value} {wc : va_W} {sz : Nat} {cls : String} {lv0 : List (Nat × Value)} (hy : plainName y.cls = true) (hlen : (lg_sl av).length ≤ maxL) (hlv : lv_args 0 av = lv0)
    (body : ∀ (p : Program) (e : Env) (s : State) (m : MethodId) (args : Array Value) (below : List Frame) (meth : Method) (c : Code) (A : Nat → Prop) (ls : Array Slot), p.tables.exec = Jvm.exec → c.code = bytes → (∀ x ∈ c.exceptionTable.toList, False) → c.maxLocals = maxL → s.vm.findClass y.cls = some m.cls → (∀ w ∈ lw_gw, w.before args s = true) → meth.locks = false → meth.name = y.name →
      va_P D cl wc s.heap → va_K D cl (tys K) s → va_D A wc → va_S A s.heap s.heap [] → (∀ q : Nat, s.heap.size ≤ q → A q) → Amb G A s s.heap → lv_has ls maxL lv0 → W p l e rm s m args below meth c s.heap [] 0 0 (vx_MQ below (CQ0 A) (CX cls A) args s rm.cells rm.slots A) (F0 m 0 ls [])) : CMX l y bytes maxL ret rm G D K av wc sz cls := by
  refine vx_ofW (cc := bytes) (maxL := maxL) (ret := ret) hy rfl ?_
  intro p e s m args below meth c s₁ B hml ht hv
  obtain ⟨rfl, hsz, hP, hK, hD0, hm⟩ := hv
  have hts := atoms_spec (ws := .code y bytes maxL ret :: lw_gw) B.pre
  subst hsz
  have hl := lv_entry av (n := maxL) hlen
  rw [hlv] at hl
  rw [lg_entry_eq]
  exact body p e s m _ below meth c _ _ B.exec B.bytes ht hml (findClass_of_methodNamed B.named) (fun w hw => hts w (List.mem_cons_of_mem _ hw)) B.notSynchronized (name_of_methodNamed B.named B.method).1 hP hK hD0.self va_S.rf (fun q h => Or.inr h) hm hl
end
section
/-! THE ROWS: fields, arrays, new cells, calls, returns, throws, over a list of cells wl that is written out after each. -/
def COK (C : String) (T : u_T) (N : Nat) (ty : Nat → FieldType) : Prop := (∀ w ∈ u_ws C T N, w ∈ lw_gw) ∧ (∀ k, k < N → parseFieldDescriptor (T k).2.2.1 = some (ty k)) ∧ (∀ a, a < N → ∀ b, b < N → a ≠ b → (T a).2.1 ≠ (T b).2.1)
def MOK (y : MethodName) (bytes : ByteArray) (maxL : Nat) (ret : Option FieldType) (n : Nat) : Prop := Cond.code y bytes maxL ret ∈ lw_gw ∧ Cond.initialized y.cls ∈ lw_gw ∧ (y.cls ≠ "java/lang/invoke/MethodHandle" ∧ y.cls ≠ "java/lang/invoke/VarHandle" ∧ (parseMethodDescriptor y.desc).map (fun d => d.parameters.length) = some n)
theorem w_toeq {p : Program} {l : Launch} {e : Env} {R : Room} {s : State} {m : MethodId} {args : Array Value} {below : List Frame} {meth : Method} {c : Code} {H : Heap} {locs : List Loc} {cells slots : Nat} {Q : State → Prop} {pc : Nat} {ls : Array Slot} {rest : List Value} {x y : Int32} (h : x = y) (k : W p l e R s m args below meth c H locs cells slots Q (F0 m pc ls (.int y :: rest))) : W p l e R s m args below meth c H locs cells slots Q (F0 m pc ls (.int x :: rest)) := h ▸ k
theorem w_toeql {p : Program} {l : Launch} {e : Env} {R : Room} {s : State} {m : MethodId} {args : Array Value} {below : List Frame} {meth : Method} {c : Code} {H : Heap} {locs : List Loc} {cells slots : Nat} {Q : State → Prop} {pc : Nat} {ls : Array Slot} {rest : List Value} {x y : Int64} (h : x = y) (k : W p l e R s m args below meth c H locs cells slots Q (F0 m pc ls (.long y :: rest))) : W p l e R s m args below meth c H locs cells slots Q (F0 m pc ls (.long x :: rest)) := h ▸ k
theorem w_tov {p : Program} {l : Launch} {e : Env} {R : Room} {s : State} {m : MethodId} {args : Array Value} {below : List Frame} {meth : Method} {c : Code} {H : Heap} {locs : List Loc} {cells slots : Nat} {Q : State → Prop} {pc : Nat} {ls : Array Slot} {rest : List Value} {x y : Value} (h : x = y) (k : W p l e R s m args below meth c H locs cells slots Q (F0 m pc ls (y :: rest))) : W p l e R s m args below meth c H locs cells slots Q (F0 m pc ls (x :: rest)) := h ▸ k
theorem nar_01 {v : Int32} (h : v = nI 0 ∨ v = nI 1) : narrow .boolean (.int v) = .int v := by rcases h with rfl | rfl <;> rfl
theorem fit_01 {v : Int32} (h : v = nI 0 ∨ v = nI 1) : fits .boolean (.int v) = true := by rcases h with rfl | rfl <;> rfl
section ROWS
variable {p : Program} {l : Launch} {e : Env} {R : Room} {s : State} {m : MethodId} {args : Array Value} {below : List Frame} {meth : Method} {c : Code} {H : Heap} {locs : List Loc} {cells slots : Nat} {Q : State → Prop}
variable {G : Nat → Nat} {D : va_G} {K : Nat → ClassId} {wl wc wr ws' : va_W} {A : Nat → Prop} {cc : ByteArray} {pc : Nat} {ls : Array Slot} {rest st : List Value} {a : Nat}
theorem va_P.to {H1 : Heap} (h : va_P D cl wl H1) (e : wl = ws') : va_P D cl ws' H1 := e ▸ h
theorem va_D.to {A : Nat → Prop} (h : va_D A wl) (e : wl = ws') : va_D A ws' := e ▸ h
theorem r_get (hx : p.tables.exec = Jvm.exec) (hb : c.code = cc) {own ref C : String} {T : u_T} {N ci index : Nat} {ty : Nat → FieldType} (hts : ∀ w ∈ lw_gw, w.before args s = true) (ok : COK C T N ty) (hown : s.vm.findClass own = some m.cls) (hK : va_K D cl (tys K) s) (hP : va_P D cl wl H) (q0 : Nat) {fs : List Value} (he : wl[q0]? = some (a, .inr (ci, fs))) (hc : cl[ci]? = some (C, T, N)) (k : Nat) (hk : k < N) (hlink : Cond.fieldLink own index ref (T k).2.1 (T k).2.2.1 ∈ lw_gw) (hsame : ∀ x, s.fieldFound? (T k).1 (T k).2.1 (T k).2.2.1 = some x → s.fieldFound? ref (T k).2.1 (T k).2.2.1 = some x) {v : Value} (hv : fs[k]? = some v) (hdg : decode cc pc = .ok (.getfield index, 3))
    (kk : W p l e R s m args below meth c H locs cells slots Q (F0 m (pc + 3) ls (v :: rest))) : W p l e R s m args below meth c H locs cells slots Q (F0 m pc ls (.ref a :: rest)) :=
  va_get hx hb hts ok.1 hown hK hP q0 he hc k hk (hts _ hlink) hsame hv hdg kk
theorem r_put (hx : p.tables.exec = Jvm.exec) (hb : c.code = cc) {own ref C : String} {T : u_T} {N ci index : Nat} {ty : Nat → FieldType} (hts : ∀ w ∈ lw_gw, w.before args s = true) (ok : COK C T N ty) (hown : s.vm.findClass own = some m.cls) (hK : va_K D cl (tys K) s) (hP : va_P D cl wl H) (hD : va_D A wl) (hS : va_S A s.heap H locs) (q0 : Nat) {fs : List Value} (he : wl[q0]? = some (a, .inr (ci, fs))) (hc : cl[ci]? = some (C, T, N)) (k : Nat) (hk : k < N) (hlink : Cond.fieldLink own index ref (T k).2.1 (T k).2.2.1 ∈ lw_gw) (hsame : ∀ x, s.fieldFound? (T k).1 (T k).2.1 (T k).2.2.1 = some x → s.fieldFound? ref (T k).2.1 (T k).2.2.1 = some x) (hfin : (T k).2.2.2 = false) {v : Value} (hn : narrow (ty k) v = v) (hfit : fits (ty k) v = true) (hl : k < fs.length) (hdg : decode cc pc = .ok (.putfield index, 3)) (e1 : wl.set q0 (a, .inr (ci, fs.set k v)) = ws')
    (kk : ∀ (H1 : Heap) (locs1 : List Loc), va_P D cl ws' H1 → va_D A ws' → va_S A s.heap H1 locs1 → W p l e R s m args below meth c H1 locs1 cells slots Q (F0 m (pc + 3) ls rest)) : W p l e R s m args below meth c H locs cells slots Q (F0 m pc ls (v :: .ref a :: rest)) := by
  subst e1
  exact va_put hx hb hts ok.1 ty ok.2.1 ok.2.2 hown hK hP hD hS q0 he hc k hk (hts _ hlink) hsame hfin (ok.2.1 k hk) hn hfit hl hdg kk
theorem r_putF (hx : p.tables.exec = Jvm.exec) (hb : c.code = cc) {own ref C : String} {T : u_T} {N ci index : Nat} {ty : Nat → FieldType} (hts : ∀ w ∈ lw_gw, w.before args s = true) (ok : COK C T N ty) (hown : s.vm.findClass own = some m.cls) (hK : va_K D cl (tys K) s) (hP : va_P D cl wl H) (hD : va_D A wl) (hS : va_S A s.heap H locs) (q0 : Nat) {fs : List Value} (he : wl[q0]? = some (a, .inr (ci, fs))) (hc : cl[ci]? = some (C, T, N)) (k : Nat) (hk : k < N) (hlink : Cond.fieldLink own index ref (T k).2.1 (T k).2.2.1 ∈ lw_gw) (hsame : ∀ x, s.fieldFound? (T k).1 (T k).2.1 (T k).2.2.1 = some x → s.fieldFound? ref (T k).2.1 (T k).2.2.1 = some x) (hfin : (T k).2.2.2 = true) (hin : meth.name = "<init>") (hdecl : (T k).1 = own) {v : Value} (hn : narrow (ty k) v = v) (hfit : fits (ty k) v = true) (hl : k < fs.length) (hdg : decode cc pc = .ok (.putfield index, 3)) (e1 : wl.set q0 (a, .inr (ci, fs.set k v)) = ws')
    (kk : ∀ (H1 : Heap) (locs1 : List Loc), va_P D cl ws' H1 → va_D A ws' → va_S A s.heap H1 locs1 → W p l e R s m args below meth c H1 locs1 cells slots Q (F0 m (pc + 3) ls rest)) : W p l e R s m args below meth c H locs cells slots Q (F0 m pc ls (v :: .ref a :: rest)) := by
  subst e1
  exact va_putF hx hb hts ok.1 ty ok.2.1 ok.2.2 hown hK hP hD hS q0 he hc k hk (hts _ hlink) hsame hfin hin hdecl (ok.2.1 k hk) hn hfit hl hdg kk
theorem r_new (hx : p.tables.exec = Jvm.exec) (hb : c.code = cc) {own C : String} {T : u_T} {N ci index : Nat} {ty : Nat → FieldType} (hts : ∀ w ∈ lw_gw, w.before args s = true) (ok : COK C T N ty) (hown : s.vm.findClass own = some m.cls) (hcl : Cond.classLink own index C ∈ lw_gw) (hinst : Cond.instantiable C N ∈ lw_gw) (hini : Cond.initialized C ∈ lw_gw) (hK : va_K D cl (tys K) s) (hP : va_P D cl wl H) (hD : va_D A wl) (hS : va_S A s.heap H locs) (hA : ∀ q, s.heap.size ≤ q → A q) (hc : cl[ci]? = some (C, T, N)) {fs : List Value} (hfs : ∀ j, j < N → defaultValue (ty j) = vp_V fs j) (hcells : cells + 1 ≤ R.cells) (hslots : slots + N ≤ R.slots) (hdg : decode cc pc = .ok (.new index, 3)) {w2 : Nat → va_W} (e1 : ∀ q, wl ++ [(q, .inr (ci, fs))] = w2 q)
    (kk : ∀ (q : Nat) (H1 : Heap), va_P D cl (w2 q) H1 → va_D A (w2 q) → va_S A s.heap H1 locs → W p l e R s m args below meth c H1 locs (cells + 1) (slots + N) Q (F0 m (pc + 3) ls (.ref q :: rest))) : W p l e R s m args below meth c H locs cells slots Q (F0 m pc ls rest) :=
  va_new hx hb hts ok.1 ty ok.2.1 hown (hts _ hcl) (hts _ hinst) (hts _ hini) hK hP hD hS hA hc hfs hcells hslots hdg (fun q H1 h1 h2 h3 => kk q H1 (e1 q ▸ h1) (e1 q ▸ h2) h3)
theorem ra_uniq {U : State} {c1 c2 : ClassId} {ty : FieldType} (h1 : va_RA U c1 ty) (h2 : va_RA U c2 ty) : c1 = c2 := by
  cases ty with
  | object C =>
    obtain ⟨_, _, -, -, -, e1⟩ := h1
    obtain ⟨_, _, -, -, -, e2⟩ := h2
    exact Option.some.inj (e1.symm.trans e2)
  | _ => exact Option.some.inj (Eq.trans (Eq.symm h1) h2)
theorem r_newa (hx : p.tables.exec = Jvm.exec) (hb : c.code = cc) {atype : ArrayType} (hts : ∀ w ∈ lw_gw, w.before args s = true) (harr : Cond.arrayClass (newarray.typeOf atype) ∈ lw_gw) {ty : FieldType} (hty : newarray.typeOf atype = ty) (hK : va_K D cl (tys K) s) (hP : va_P D cl wl H) (hD : va_D A wl) (hS : va_S A s.heap H locs) (hA : ∀ q, s.heap.size ≤ q → A q) (t0 : Nat) {cA : ClassId} (ht : (tys K)[t0]? = some (cA, ty)) {n : Int32} {N : Nat} {a0 : vp_A} (ha : ∀ cA : ClassId, vp_cell cA a0 = arrV cA N (fun _ => defaultValue ty)) (hn : ¬ n < 0) (hN : n.toNatClampNeg = N) (hby : N * componentBytes ty ≤ 536870912) (hcells : cells + 1 ≤ R.cells) (hslots : slots + N ≤ R.slots) (hdg : decode cc pc = .ok (.newarray atype, 2)) {w2 : Nat → va_W} (e1 : ∀ q, wl ++ [(q, .inl (cA, a0))] = w2 q)
    (kk : ∀ (q : Nat) (H1 : Heap), va_P D cl (w2 q) H1 → va_D A (w2 q) → va_S A s.heap H1 locs → W p l e R s m args below meth c H1 locs (cells + 1) (slots + N) Q (F0 m (pc + 2) ls (.ref q :: rest))) : W p l e R s m args below meth c H locs cells slots Q (F0 m pc ls (.int n :: rest)) :=
  va_newa hx hb (hts _ harr) hty hK hP hD hS hA ha hn hN hby hcells hslots hdg (fun q c2 H1 hK2 h1 h2 h3 => by
    have e2 : c2 = cA := ra_uniq (hK2.2 (tys K).length (c2, ty) (by rw [List.getElem?_append_right (Nat.le_refl _), Nat.sub_self]; rfl)).2 (hK.2 t0 _ ht).2
    subst e2
    exact kk q H1 (e1 q ▸ h1) (e1 q ▸ h2) h3)
theorem r_newq (hx : p.tables.exec = Jvm.exec) (hb : c.code = cc) {own C : String} {index : Nat} (hts : ∀ w ∈ lw_gw, w.before args s = true) (hown : s.vm.findClass own = some m.cls) (hcl : Cond.classLink own index C ∈ lw_gw) (hao : va_AO C s) (hK : va_K D cl (tys K) s) (hP : va_P D cl wl H) (hD : va_D A wl) (hS : va_S A s.heap H locs) (hA : ∀ q, s.heap.size ≤ q → A q) (t0 : Nat) {cA : ClassId} (ht : (tys K)[t0]? = some (cA, .object C)) {n : Int32} {N : Nat} (hn : ¬ n < 0) (hN : n.toNatClampNeg = N) (hby : N * 4 ≤ 536870912) (hcells : cells + 1 ≤ R.cells) (hslots : slots + N ≤ R.slots) (hdg : decode cc pc = .ok (.anewarray index, 3)) {w2 : Nat → va_W} (e1 : ∀ q, wl ++ [(q, .inl (cA, N, .inr (.inr (.inr (.inr (fun _ => none))))))] = w2 q)
    (kk : ∀ (q : Nat) (H1 : Heap), va_P D cl (w2 q) H1 → va_D A (w2 q) → va_S A s.heap H1 locs → W p l e R s m args below meth c H1 locs (cells + 1) (slots + N) Q (F0 m (pc + 3) ls (.ref q :: rest))) : W p l e R s m args below meth c H locs cells slots Q (F0 m pc ls (.int n :: rest)) :=
  va_newq hx hb hown (hts _ hcl) hao hK hP hD hS hA hn hN hby hcells hslots hdg (fun q c2 H1 hK2 h1 h2 h3 => by
    have e2 : c2 = cA := ra_uniq (hK2.2 (tys K).length (c2, .object C) (by rw [List.getElem?_append_right (Nat.le_refl _), Nat.sub_self]; rfl)).2 (hK.2 t0 _ ht).2
    subst e2
    exact kk q H1 (e1 q ▸ h1) (e1 q ▸ h2) h3)
theorem r_oinit (hx : p.tables.exec = Jvm.exec) (hb : c.code = cc) (hts : ∀ w ∈ lw_gw, w.before args s = true) {own : String} (hown : s.vm.findClass own = some m.cls) {idx : Nat} (hlink : Cond.methodLink own idx Lib.objectInit ∈ lw_gw) (hinst : Cond.instanceMethod Lib.objectInit ∈ lw_gw) (hcode : Cond.code Lib.objectInit ⟨#[0xb1]⟩ 1 none ∈ lw_gw) {nL : Nat} (hml : c.maxLocals = nL) (hls : ls.size = nL) (hdg : decode cc pc = .ok (.invokespecial idx, 3)) (hf : 1 ≤ R.frames) (hl : (rest.map fun v => v.category).sum + 12 ≤ R.locals)
    (k : W p l e R s m args below meth c H locs cells slots Q (F0 m (pc + 3) ls rest)) : W p l e R s m args below meth c H locs cells slots Q (F0 m pc ls (.ref a :: rest)) :=
  W.objInit hx hb hown (hts _ hlink) (hts _ hinst) (hts _ hcode) rfl (by rw [hml]; exact hls) rfl hdg hf (by show 2 * 0 + _ + 12 ≤ _; omega) k
/-- returns -/
theorem e_v (hx : p.tables.exec = Jvm.exec) (hb : c.code = cc) (hr : meth.sig.returnType = none) (hlk : meth.locks = false) (hP : va_P D cl wl H) (hD : va_D A wl) (hS : va_S A s.heap H locs) {w1 : (Nat → Nat) → va_W} (u : Nat → Nat) (e1 : wl = w1 u) {mc ms : Nat} (h1 : cells ≤ mc) (h2 : slots ≤ ms) (hdg : decode cc pc = .ok (.return_, 1)) : W p l e R s m args below meth c H locs cells slots (MQ below (CQv D w1 A) args s mc ms A) (F0 m pc ls []) :=
  W.widen h1 h2 (W.vret hx hb hr (fun t ht _ => ⟨⟨u, rfl, trivial, by rw [ht]; exact hP.to e1, hD.to e1⟩, hS.F ht⟩) hS.2.2 hdg hlk)
theorem e_i (hx : p.tables.exec = Jvm.exec) (hb : c.code = cc) (hr : meth.sig.returnType = some .int) (hlk : meth.locks = false) (hP : va_P D cl wl H) (hD : va_D A wl) (hS : va_S A s.heap H locs) {w1 : (Nat → Nat) → va_W} (u : Nat → Nat) (e1 : wl = w1 u) {mc ms : Nat} (h1 : cells ≤ mc) (h2 : slots ≤ ms) {v r : Int32} (hv : v = r) (hdg : decode cc pc = .ok (.ireturn, 1)) : W p l e R s m args below meth c H locs cells slots (MQ below (CQi r D w1 A) args s mc ms A) (F0 m pc ls [.int v]) :=
  W.widen h1 h2 (W.iret hx hb hr (fun t ht _ => ⟨⟨_, u, rfl, hv, by rw [ht]; exact hP.to e1, hD.to e1⟩, hS.F ht⟩) hS.2.2 hdg hlk)
theorem e_z (hx : p.tables.exec = Jvm.exec) (hb : c.code = cc) (hr : meth.sig.returnType = some .boolean) (hlk : meth.locks = false) (hP : va_P D cl wl H) (hD : va_D A wl) (hS : va_S A s.heap H locs) {w1 : (Nat → Nat) → va_W} (u : Nat → Nat) (e1 : wl = w1 u) {mc ms : Nat} (h1 : cells ≤ mc) (h2 : slots ≤ ms) {v r : Int32} (hv : v = r) (h01 : v = nI 0 ∨ v = nI 1) (hdg : decode cc pc = .ok (.ireturn, 1)) : W p l e R s m args below meth c H locs cells slots (MQ below (CQi r D w1 A) args s mc ms A) (F0 m pc ls [.int v]) :=
  W.widen h1 h2 (W.zret hx hb hr (nar_01 h01) (fun t ht _ => ⟨⟨_, u, rfl, hv, by rw [ht]; exact hP.to e1, hD.to e1⟩, hS.F ht⟩) hS.2.2 hdg hlk)
theorem e_l (hx : p.tables.exec = Jvm.exec) (hb : c.code = cc) (hr : meth.sig.returnType = some .long) (hlk : meth.locks = false) (hP : va_P D cl wl H) (hD : va_D A wl) (hS : va_S A s.heap H locs) {w1 : (Nat → Nat) → va_W} (u : Nat → Nat) (e1 : wl = w1 u) {mc ms : Nat} (h1 : cells ≤ mc) (h2 : slots ≤ ms) {v r : Int64} (hv : v = r) (hdg : decode cc pc = .ok (.lreturn, 1)) : W p l e R s m args below meth c H locs cells slots (MQ below (CQl r D w1 A) args s mc ms A) (F0 m pc ls [.long v]) :=
  W.widen h1 h2 (W.lret hx hb hr (fun t ht _ => ⟨⟨_, u, rfl, hv, by rw [ht]; exact hP.to e1, hD.to e1⟩, hS.F ht⟩) hS.2.2 hdg hlk)
theorem e_d (hx : p.tables.exec = Jvm.exec) (hb : c.code = cc) (hr : meth.sig.returnType = some .double) (hlk : meth.locks = false) (hP : va_P D cl wl H) (hD : va_D A wl) (hS : va_S A s.heap H locs) {w1 : (Nat → Nat) → va_W} (u : Nat → Nat) (e1 : wl = w1 u) {mc ms : Nat} (h1 : cells ≤ mc) (h2 : slots ≤ ms) {v r : UInt64} (hv : v = r) (hdg : decode cc pc = .ok (.dreturn, 1)) : W p l e R s m args below meth c H locs cells slots (MQ below (CQd r D w1 A) args s mc ms A) (F0 m pc ls [.double v]) :=
  W.widen h1 h2 (W.dret hx hb hr (fun t ht _ => ⟨⟨_, u, rfl, hv, by rw [ht]; exact hP.to e1, hD.to e1⟩, hS.F ht⟩) hS.2.2 hdg hlk)
theorem e_q (hx : p.tables.exec = Jvm.exec) (hb : c.code = cc) {rt : FieldType} (hr : meth.sig.returnType = some rt) (hrt : (∃ n, rt = .object n) ∨ ∃ t, rt = .array t) (hlk : meth.locks = false) (hP : va_P D cl wl H) (hD : va_D A wl) (hS : va_S A s.heap H locs) {w1 : (Nat → Nat) → va_W} (u : Nat → Nat) (e1 : wl = w1 u) {mc ms : Nat} (h1 : cells ≤ mc) (h2 : slots ≤ ms) {v : Value} {r : (Nat → Nat) → Option Nat} (hv : v = va_rf (r u)) (hdg : decode cc pc = .ok (.areturn, 1)) : W p l e R s m args below meth c H locs cells slots (MQ below (CQq r D w1 A) args s mc ms A) (F0 m pc ls [v]) := by
  subst hv
  exact W.widen h1 h2 (W.aret hx hb hr hrt (va_rf_or _) (fun t ht _ => ⟨⟨_, u, rfl, rfl, by rw [ht]; exact hP.to e1, hD.to e1⟩, hS.F ht⟩) hS.2.2 hdg hlk)
/-- a receiver out of the cells -/
theorem rcv (hK : va_K D cl (tys K) s) (hP : va_P D cl wl H) (q0 : Nat) {ci : Nat} {fs : List Value} {q : vw_C} {C : String} (he : wl[q0]? = some (a, .inr (ci, fs))) (hc : cl[ci]? = some q) (hq : q.1 = C) : ∃ cell : Cell, H[a]? = some cell ∧ cell.vm.isStatics = false ∧ s.vm.findClass C = some cell.cls := by
  subst hq
  exact va_recv hK hP hc he
section CALLS
variable {y : MethodName} {bytes : ByteArray} {maxL nL index n : Nat} {ret : Option FieldType} {rm : Room} {QQ : (Nat → Prop) → QSpec} {own cls : String} {b : Nat} {As : List Value}
theorem run_V (hx : p.tables.exec = Jvm.exec) (hb : c.code = cc) (hml : c.maxLocals = nL) (hown : s.vm.findClass own = some m.cls) (hts : ∀ w ∈ lw_gw, w.before args s = true) (hK : va_K D cl (tys K) s) (hP : va_P D cl wl H) (hD : va_D A wl) (hS : va_S A s.heap H locs) (hA : ∀ q, s.heap.size ≤ q → A q) (hm : Amb G A s s.heap)
    (hM : CM l y bytes maxL ret rm G D K (.ref b :: As) wc H.size QQ) (isC : List Nat) (hC : isC.map (fun i => wl[i]?) = wc.map some) (hn : va_nd isC = true) (ok : MOK y bytes maxL ret n) (h1 : Cond.methodLink own index y ∈ lw_gw) (h2 : Cond.instanceMethod y ∈ lw_gw) (h3 : Cond.selects y.cls y y ∈ lw_gw) (hrc : ∃ cell : Cell, H[b]? = some cell ∧ cell.vm.isStatics = false ∧ s.vm.findClass y.cls = some cell.cls)
    (hR : rm.frames + 1 ≤ R.frames ∧ 8 + (maxL + 11) + rm.locals ≤ R.locals) (hlen : As.length = n) (hls : ls.size = nL) (hst : st = As.reverse ++ .ref b :: rest) (hW : (rest.map fun v => v.category).sum ≤ 8) (hdg : decode cc pc = .ok (.invokevirtual index, 3)) (hf : cells + rm.cells ≤ R.cells ∧ slots + rm.slots ≤ R.slots) :
    va_Run p l e R s m args below meth c H locs cells slots rm.cells rm.slots (F0 m pc ls st) rest (QQ (va_A wc H.size) (Value.ref b :: As).toArray) (va_A wc H.size) :=
  va_runV (Ts := lw_gw) ⟨hx, hb, hml, hown, hts⟩ hM (cwV n hts (gi_app (fun _ h => h) (ms_c h1 (ms_c h2 (ms_c h3 (ms_c ok.2.1 ms_0)))) ok.1) rfl rfl rfl ⟨rfl, ok.2.2⟩ hR) ⟨cPre.blind, hrc, fun U hU hWu => ⟨rfl, cPre.of hK hP hD hS hA hm isC hC hn hU hWu⟩⟩ rfl hlen hls hst (lv_room hW) hdg hf
theorem run_S (hx : p.tables.exec = Jvm.exec) (hb : c.code = cc) (hml : c.maxLocals = nL) (hown : s.vm.findClass own = some m.cls) (hts : ∀ w ∈ lw_gw, w.before args s = true) (hK : va_K D cl (tys K) s) (hP : va_P D cl wl H) (hD : va_D A wl) (hS : va_S A s.heap H locs) (hA : ∀ q, s.heap.size ≤ q → A q) (hm : Amb G A s s.heap)
    (hM : CM l y bytes maxL ret rm G D K As wc H.size QQ) (isC : List Nat) (hC : isC.map (fun i => wl[i]?) = wc.map some) (hn : va_nd isC = true) (ok : MOK y bytes maxL ret n) (h1 : Cond.methodLink own index y ∈ lw_gw) (h2 : Cond.static y ∈ lw_gw)
    (hR : rm.frames + 1 ≤ R.frames ∧ 8 + (maxL + 11) + rm.locals ≤ R.locals) (hlen : As.length = n) (hls : ls.size = nL) (hst : st = As.reverse ++ rest) (hW : (rest.map fun v => v.category).sum ≤ 8) (hdg : decode cc pc = .ok (.invokestatic index, 3)) (hf : cells + rm.cells ≤ R.cells ∧ slots + rm.slots ≤ R.slots) :
    va_Run p l e R s m args below meth c H locs cells slots rm.cells rm.slots (F0 m pc ls st) rest (QQ (va_A wc H.size) As.toArray) (va_A wc H.size) :=
  va_runS (Ts := lw_gw) ⟨hx, hb, hml, hown, hts⟩ hM (va_cwS n hts (gi_app (fun _ h => h) (ms_c h1 (ms_c h2 (ms_c ok.2.1 ms_0))) ok.1) rfl rfl rfl ok.2.2 hR) ⟨cPre.blind, fun U hU hWu => ⟨rfl, cPre.of hK hP hD hS hA hm isC hC hn hU hWu⟩⟩ rfl hlen hls hst (lv_room hW) hdg hf
theorem run_I (hx : p.tables.exec = Jvm.exec) (hb : c.code = cc) (hml : c.maxLocals = nL) (hown : s.vm.findClass own = some m.cls) (hts : ∀ w ∈ lw_gw, w.before args s = true) (hK : va_K D cl (tys K) s) (hP : va_P D cl wl H) (hD : va_D A wl) (hS : va_S A s.heap H locs) (hA : ∀ q, s.heap.size ≤ q → A q) (hm : Amb G A s s.heap)
    (hM : CM l y bytes maxL none rm G D K (.ref b :: As) wc H.size QQ) (isC : List Nat) (hC : isC.map (fun i => wl[i]?) = wc.map some) (hn : va_nd isC = true) (ok : MOK y bytes maxL none n) (h1 : Cond.methodLink own index y ∈ lw_gw) (h2 : Cond.instanceMethod y ∈ lw_gw) (hy : y.name = "<init>")
    (hR : rm.frames + 1 ≤ R.frames ∧ 8 + (maxL + 11) + rm.locals ≤ R.locals) (hlen : As.length = n) (hls : ls.size = nL) (hst : st = As.reverse ++ .ref b :: rest) (hW : (rest.map fun v => v.category).sum ≤ 8) (hdg : decode cc pc = .ok (.invokespecial index, 3)) (hf : cells + rm.cells ≤ R.cells ∧ slots + rm.slots ≤ R.slots) :
    va_Run p l e R s m args below meth c H locs cells slots rm.cells rm.slots (F0 m pc ls st) rest (QQ (va_A wc H.size) (Value.ref b :: As).toArray) (va_A wc H.size) :=
  va_runI (Ts := lw_gw) ⟨hx, hb, hml, hown, hts⟩ hM (cwI n hts (gi (fun _ h => h) ok.1) rfl rfl rfl (hts _ ok.2.1) (hts _ h1) (hts _ h2) hy ok.2.2 hR) ⟨cPre.blind, fun U hU hWu => ⟨rfl, cPre.of hK hP hD hS hA hm isC hC hn hU hWu⟩⟩ rfl hlen hls hst (lv_room hW) hdg hf
theorem run_IN (hx : p.tables.exec = Jvm.exec) (hb : c.code = cc) (hml : c.maxLocals = nL) (hown : s.vm.findClass own = some m.cls) (hts : ∀ w ∈ lw_gw, w.before args s = true) (hK : va_K D cl (tys K) s) (hP : va_P D cl wl H) (hD : va_D A wl) (hS : va_S A s.heap H locs) (hA : ∀ q, s.heap.size ≤ q → A q) (hm : Amb G A s s.heap) {host : String}
    (hM : CM l y bytes maxL none rm G D K (.ref b :: As) wc H.size QQ) (isC : List Nat) (hC : isC.map (fun i => wl[i]?) = wc.map some) (hn : va_nd isC = true) (ok : MOK y bytes maxL none n) (h1 : Cond.methodLinkNest own index y host ∈ lw_aw) (h2 : Cond.instanceMethod y ∈ lw_gw) (hy : y.name = "<init>")
    (hR : rm.frames + 1 ≤ R.frames ∧ 8 + (maxL + 11) + rm.locals ≤ R.locals) (hlen : As.length = n) (hls : ls.size = nL) (hst : st = As.reverse ++ .ref b :: rest) (hW : (rest.map fun v => v.category).sum ≤ 8) (hdg : decode cc pc = .ok (.invokespecial index, 3)) (hf : cells + rm.cells ≤ R.cells ∧ slots + rm.slots ≤ R.slots) :
    va_Run p l e R s m args below meth c H locs cells slots rm.cells rm.slots (F0 m pc ls st) rest (QQ (va_A wc H.size) (Value.ref b :: As).toArray) (va_A wc H.size) :=
  va_runIN (Ts := lw_gw) ⟨hx, hb, hml, hown, hts⟩ hM ⟨va_cnB n hts (gi (fun _ h => h) ok.1) rfl rfl rfl (hm.1 _ h1) (hts _ ok.2.1) ok.2.2 hR, hy, hts _ h2⟩ ⟨cPre.blind, fun U hU hWu => ⟨rfl, cPre.of hK hP hD hS hA hm isC hC hn hU hWu⟩⟩ rfl hlen hls hst (lv_room hW) hdg hf
theorem run_SN (hx : p.tables.exec = Jvm.exec) (hb : c.code = cc) (hml : c.maxLocals = nL) (hown : s.vm.findClass own = some m.cls) (hts : ∀ w ∈ lw_gw, w.before args s = true) (hK : va_K D cl (tys K) s) (hP : va_P D cl wl H) (hD : va_D A wl) (hS : va_S A s.heap H locs) (hA : ∀ q, s.heap.size ≤ q → A q) (hm : Amb G A s s.heap) {host : String}
    (hM : CM l y bytes maxL ret rm G D K As wc H.size QQ) (isC : List Nat) (hC : isC.map (fun i => wl[i]?) = wc.map some) (hn : va_nd isC = true) (ok : MOK y bytes maxL ret n) (h1 : Cond.methodLinkNest own index y host ∈ lw_aw) (h2 : Cond.static y ∈ lw_gw)
    (hR : rm.frames + 1 ≤ R.frames ∧ 8 + (maxL + 11) + rm.locals ≤ R.locals) (hlen : As.length = n) (hls : ls.size = nL) (hst : st = As.reverse ++ rest) (hW : (rest.map fun v => v.category).sum ≤ 8) (hdg : decode cc pc = .ok (.invokestatic index, 3)) (hf : cells + rm.cells ≤ R.cells ∧ slots + rm.slots ≤ R.slots) :
    va_Run p l e R s m args below meth c H locs cells slots rm.cells rm.slots (F0 m pc ls st) rest (QQ (va_A wc H.size) As.toArray) (va_A wc H.size) :=
  va_runSN (Ts := lw_gw) ⟨hx, hb, hml, hown, hts⟩ hM ⟨va_cnB n hts (gi (fun _ h => h) ok.1) rfl rfl rfl (hm.1 _ h1) (hts _ ok.2.1) ok.2.2 hR, hts _ h2, trivial⟩ ⟨cPre.blind, fun U hU hWu => ⟨rfl, cPre.of hK hP hD hS hA hm isC hC hn hU hWu⟩⟩ rfl hlen hls hst (lv_room hW) hdg hf
theorem run_VN (hx : p.tables.exec = Jvm.exec) (hb : c.code = cc) (hml : c.maxLocals = nL) (hown : s.vm.findClass own = some m.cls) (hts : ∀ w ∈ lw_gw, w.before args s = true) (hK : va_K D cl (tys K) s) (hP : va_P D cl wl H) (hD : va_D A wl) (hS : va_S A s.heap H locs) (hA : ∀ q, s.heap.size ≤ q → A q) (hm : Amb G A s s.heap) {host : String}
    (hM : CM l y bytes maxL ret rm G D K (.ref b :: As) wc H.size QQ) (isC : List Nat) (hC : isC.map (fun i => wl[i]?) = wc.map some) (hn : va_nd isC = true) (ok : MOK y bytes maxL ret n) (h1 : Cond.methodLinkNest own index y host ∈ lw_aw) (h2 : Cond.instanceMethod y ∈ lw_gw) (h3 : Cond.selects y.cls y y ∈ lw_gw) (hrc : ∃ cell : Cell, H[b]? = some cell ∧ cell.vm.isStatics = false ∧ s.vm.findClass y.cls = some cell.cls)
    (hR : rm.frames + 1 ≤ R.frames ∧ 8 + (maxL + 11) + rm.locals ≤ R.locals) (hlen : As.length = n) (hls : ls.size = nL) (hst : st = As.reverse ++ .ref b :: rest) (hW : (rest.map fun v => v.category).sum ≤ 8) (hdg : decode cc pc = .ok (.invokevirtual index, 3)) (hf : cells + rm.cells ≤ R.cells ∧ slots + rm.slots ≤ R.slots) :
    va_Run p l e R s m args below meth c H locs cells slots rm.cells rm.slots (F0 m pc ls st) rest (QQ (va_A wc H.size) (Value.ref b :: As).toArray) (va_A wc H.size) :=
  va_runVN (Ts := lw_gw) ⟨hx, hb, hml, hown, hts⟩ hM ⟨va_cnB n hts (gi (fun _ h => h) ok.1) rfl rfl rfl (hm.1 _ h1) (hts _ ok.2.1) ok.2.2 hR, hts _ h2, hts _ h3⟩ ⟨cPre.blind, hrc, fun U hU hWu => ⟨rfl, cPre.of hK hP hD hS hA hm isC hC hn hU hWu⟩⟩ rfl hlen hls hst (lv_room hW) hdg hf
/-- what comes behind a call -/
theorem k_v {mc ms : Nat} {av : Array Value} {w1 : (Nat → Nat) → va_W} (hr : va_Run p l e R s m args below meth c H locs cells slots mc ms (F0 m pc ls st) rest (CQv D w1 (va_A wc H.size) av) (va_A wc H.size)) (hP : va_P D cl wl H) (hD : va_D A wl) (hS : va_S A s.heap H locs) (hA : ∀ q, s.heap.size ≤ q → A q) (isC isR : List Nat) (hC : isC.map (fun i => wl[i]?) = wc.map some) (hR : isR.map (fun i => wl[i]?) = wr.map some) (hn : va_nd isR = true) (hdis : ∀ i ∈ isR, i ∉ isC)
    {w2 : (Nat → Nat) → va_W} (e2 : ∀ u, wr ++ w1 u = w2 u) (kk : ∀ (u : Nat → Nat) (H1 : Heap) (locs1 : List Loc), va_P D cl (w2 u) H1 → va_D A (w2 u) → va_S A s.heap H1 locs1 → W p l e R s m args below meth c H1 locs1 (cells + mc) (slots + ms) Q (F0 m (pc + 3) ls rest)) : W p l e R s m args below meth c H locs cells slots Q (F0 m pc ls st) := by
  have hF := va_free hD hS hA isC hC
  refine va_callv hr hS (fun q _ h => hF q h) hF (fun u t H1 locs1 ht hvm hw hB hz1 hk1 hS1 => ?_)
  obtain ⟨hP1, hD1⟩ := hB
  rw [ht] at hP1
  obtain ⟨h1, h2⟩ := va_join hP hD isC isR hC hR hn hdis hk1 hF hP1 hD1
  exact kk u H1 locs1 (h1.to (e2 u)) (h2.to (e2 u)) hS1
theorem k_i {mc ms : Nat} {av : Array Value} {w1 : (Nat → Nat) → va_W} {r : Int32} (hr : va_Run p l e R s m args below meth c H locs cells slots mc ms (F0 m pc ls st) rest (CQi r D w1 (va_A wc H.size) av) (va_A wc H.size)) (hP : va_P D cl wl H) (hD : va_D A wl) (hS : va_S A s.heap H locs) (hA : ∀ q, s.heap.size ≤ q → A q) (isC isR : List Nat) (hC : isC.map (fun i => wl[i]?) = wc.map some) (hR : isR.map (fun i => wl[i]?) = wr.map some) (hn : va_nd isR = true) (hdis : ∀ i ∈ isR, i ∉ isC)
    {w2 : (Nat → Nat) → va_W} (e2 : ∀ u, wr ++ w1 u = w2 u) (kk : ∀ (u : Nat → Nat) (H1 : Heap) (locs1 : List Loc), va_P D cl (w2 u) H1 → va_D A (w2 u) → va_S A s.heap H1 locs1 → W p l e R s m args below meth c H1 locs1 (cells + mc) (slots + ms) Q (F0 m (pc + 3) ls (.int r :: rest))) : W p l e R s m args below meth c H locs cells slots Q (F0 m pc ls st) := by
  have hF := va_free hD hS hA isC hC
  refine va_calli hr hS (fun q _ h => hF q h) hF (fun z u t H1 locs1 ht hvm hw hB hz1 hk1 hS1 => ?_)
  obtain ⟨hP1, hD1⟩ := hB
  rw [ht] at hP1
  obtain ⟨h1, h2⟩ := va_join hP hD isC isR hC hR hn hdis hk1 hF hP1 hD1
  rw [hw]
  exact kk u H1 locs1 (h1.to (e2 u)) (h2.to (e2 u)) hS1
theorem k_l {mc ms : Nat} {av : Array Value} {w1 : (Nat → Nat) → va_W} {r : Int64} (hr : va_Run p l e R s m args below meth c H locs cells slots mc ms (F0 m pc ls st) rest (CQl r D w1 (va_A wc H.size) av) (va_A wc H.size)) (hP : va_P D cl wl H) (hD : va_D A wl) (hS : va_S A s.heap H locs) (hA : ∀ q, s.heap.size ≤ q → A q) (isC isR : List Nat) (hC : isC.map (fun i => wl[i]?) = wc.map some) (hR : isR.map (fun i => wl[i]?) = wr.map some) (hn : va_nd isR = true) (hdis : ∀ i ∈ isR, i ∉ isC)
    {w2 : (Nat → Nat) → va_W} (e2 : ∀ u, wr ++ w1 u = w2 u) (kk : ∀ (u : Nat → Nat) (H1 : Heap) (locs1 : List Loc), va_P D cl (w2 u) H1 → va_D A (w2 u) → va_S A s.heap H1 locs1 → W p l e R s m args below meth c H1 locs1 (cells + mc) (slots + ms) Q (F0 m (pc + 3) ls (.long r :: rest))) : W p l e R s m args below meth c H locs cells slots Q (F0 m pc ls st) := by
  have hF := va_free hD hS hA isC hC
  refine va_calll hr hS (fun q _ h => hF q h) hF (fun z u t H1 locs1 ht hvm hw hB hz1 hk1 hS1 => ?_)
  obtain ⟨hP1, hD1⟩ := hB
  rw [ht] at hP1
  obtain ⟨h1, h2⟩ := va_join hP hD isC isR hC hR hn hdis hk1 hF hP1 hD1
  rw [hw]
  exact kk u H1 locs1 (h1.to (e2 u)) (h2.to (e2 u)) hS1
theorem k_d {mc ms : Nat} {av : Array Value} {w1 : (Nat → Nat) → va_W} {r : UInt64} (hr : va_Run p l e R s m args below meth c H locs cells slots mc ms (F0 m pc ls st) rest (CQd r D w1 (va_A wc H.size) av) (va_A wc H.size)) (hP : va_P D cl wl H) (hD : va_D A wl) (hS : va_S A s.heap H locs) (hA : ∀ q, s.heap.size ≤ q → A q) (isC isR : List Nat) (hC : isC.map (fun i => wl[i]?) = wc.map some) (hR : isR.map (fun i => wl[i]?) = wr.map some) (hn : va_nd isR = true) (hdis : ∀ i ∈ isR, i ∉ isC)
    {w2 : (Nat → Nat) → va_W} (e2 : ∀ u, wr ++ w1 u = w2 u) (kk : ∀ (u : Nat → Nat) (H1 : Heap) (locs1 : List Loc), va_P D cl (w2 u) H1 → va_D A (w2 u) → va_S A s.heap H1 locs1 → W p l e R s m args below meth c H1 locs1 (cells + mc) (slots + ms) Q (F0 m (pc + 3) ls (.double r :: rest))) : W p l e R s m args below meth c H locs cells slots Q (F0 m pc ls st) := by
  have hF := va_free hD hS hA isC hC
  refine va_calld hr hS (fun q _ h => hF q h) hF (fun z u t H1 locs1 ht hvm hw hB hz1 hk1 hS1 => ?_)
  obtain ⟨hP1, hD1⟩ := hB
  rw [ht] at hP1
  obtain ⟨h1, h2⟩ := va_join hP hD isC isR hC hR hn hdis hk1 hF hP1 hD1
  rw [hw]
  exact kk u H1 locs1 (h1.to (e2 u)) (h2.to (e2 u)) hS1
theorem k_q {mc ms : Nat} {av : Array Value} {w1 : (Nat → Nat) → va_W} {r : (Nat → Nat) → Option Nat} (hr : va_Run p l e R s m args below meth c H locs cells slots mc ms (F0 m pc ls st) rest (CQq r D w1 (va_A wc H.size) av) (va_A wc H.size)) (hP : va_P D cl wl H) (hD : va_D A wl) (hS : va_S A s.heap H locs) (hA : ∀ q, s.heap.size ≤ q → A q) (isC isR : List Nat) (hC : isC.map (fun i => wl[i]?) = wc.map some) (hR : isR.map (fun i => wl[i]?) = wr.map some) (hn : va_nd isR = true) (hdis : ∀ i ∈ isR, i ∉ isC)
    {w2 : (Nat → Nat) → va_W} (e2 : ∀ u, wr ++ w1 u = w2 u) (kk : ∀ (u : Nat → Nat) (H1 : Heap) (locs1 : List Loc), va_P D cl (w2 u) H1 → va_D A (w2 u) → va_S A s.heap H1 locs1 → W p l e R s m args below meth c H1 locs1 (cells + mc) (slots + ms) Q (F0 m (pc + 3) ls (va_rf (r u) :: rest))) : W p l e R s m args below meth c H locs cells slots Q (F0 m pc ls st) := by
  have hF := va_free hD hS hA isC hC
  refine va_callq hr hS (fun q _ h => hF q h) hF (fun z u t H1 locs1 ht hvm hw hB hz1 hk1 hS1 => ?_)
  obtain ⟨hP1, hD1⟩ := hB
  rw [ht] at hP1
  obtain ⟨h1, h2⟩ := va_join hP hD isC isR hC hR hn hdis hk1 hF hP1 hD1
  rw [hw]
  exact kk u H1 locs1 (h1.to (e2 u)) (h2.to (e2 u)) hS1
end CALLS
end ROWS
/-! arrays, throws, calls that throw -/
section ROWS2
variable {p : Program} {l : Launch} {e : Env} {R : Room} {s : State} {m : MethodId} {args : Array Value} {below : List Frame} {meth : Method} {c : Code} {H : Heap} {locs : List Loc} {cells slots : Nat} {Q : State → Prop}
variable {G : Nat → Nat} {D : va_G} {K : Nat → ClassId} {wl wc wr ws' : va_W} {A : Nat → Prop} {cc : ByteArray} {pc : Nat} {ls : Array Slot} {rest st : List Value} {a : Nat}
theorem r_alen (hx : p.tables.exec = Jvm.exec) (hb : c.code = cc) (hK : va_K D cl (tys K) s) (hP : va_P D cl wl H) (q0 t0 : Nat) {cA : ClassId} {x : vp_A} (ha : wl[q0]? = some (a, .inl (cA, x))) {ty : FieldType} (ht : (tys K)[t0]? = some (cA, ty)) {n : Nat} (hn : x.1 = n) (hdg : decode cc pc = .ok (.arraylength, 1))
    (kk : W p l e R s m args below meth c H locs cells slots Q (F0 m (pc + 1) ls (.int (nI n) :: rest))) : W p l e R s m args below meth c H locs cells slots Q (F0 m pc ls (.ref a :: rest)) :=
  va_alen hx hb hK hP q0 t0 ha ht (by rw [hn]; rfl) hdg kk
theorem r_iald (hx : p.tables.exec = Jvm.exec) (hb : c.code = cc) (hK : va_K D cl (tys K) s) (hP : va_P D cl wl H) (q0 t0 : Nat) {cA : ClassId} {N k : Nat} {f : Nat → Int32} (ha : wl[q0]? = some (a, .inl (cA, N, .inl f))) (ht : (tys K)[t0]? = some (cA, .int)) (hk : k < N) (hN : N < 2 ^ 31) {v : Int32} (hv : f k = v) (hdg : decode cc pc = .ok (.iaload, 1))
    (kk : W p l e R s m args below meth c H locs cells slots Q (F0 m (pc + 1) ls (.int v :: rest))) : W p l e R s m args below meth c H locs cells slots Q (F0 m pc ls (.int (nI k) :: .ref a :: rest)) := by
  refine va_iald hx hb hK hP q0 t0 ha ht (vp_in_nI hk hN) hdg ?_
  rw [nI_clamp (Nat.lt_trans hk hN), hv]; exact kk
theorem r_zald (hx : p.tables.exec = Jvm.exec) (hb : c.code = cc) (hK : va_K D cl (tys K) s) (hP : va_P D cl wl H) (q0 t0 : Nat) {cA : ClassId} {N k : Nat} {f : Nat → Int32} (ha : wl[q0]? = some (a, .inl (cA, N, .inl f))) (ht : (tys K)[t0]? = some (cA, .boolean)) (hk : k < N) (hN : N < 2 ^ 31) {v : Int32} (hv : f k = v) (hdg : decode cc pc = .ok (.baload, 1))
    (kk : W p l e R s m args below meth c H locs cells slots Q (F0 m (pc + 1) ls (.int v :: rest))) : W p l e R s m args below meth c H locs cells slots Q (F0 m pc ls (.int (nI k) :: .ref a :: rest)) := by
  refine va_zald hx hb hK hP q0 t0 ha ht (vp_in_nI hk hN) hdg ?_
  rw [nI_clamp (Nat.lt_trans hk hN), hv]; exact kk
theorem r_aald (hx : p.tables.exec = Jvm.exec) (hb : c.code = cc) (hK : va_K D cl (tys K) s) (hP : va_P D cl wl H) (q0 t0 : Nat) {cA : ClassId} {C : String} {N k : Nat} {f : Nat → Option Nat} (ha : wl[q0]? = some (a, .inl (cA, N, .inr (.inr (.inr (.inr f)))))) (ht : (tys K)[t0]? = some (cA, .object C)) (hk : k < N) (hN : N < 2 ^ 31) {v : Value} (hv : va_rf (f k) = v) (hdg : decode cc pc = .ok (.aaload, 1))
    (kk : W p l e R s m args below meth c H locs cells slots Q (F0 m (pc + 1) ls (v :: rest))) : W p l e R s m args below meth c H locs cells slots Q (F0 m pc ls (.int (nI k) :: .ref a :: rest)) := by
  refine va_aldq hx hb hK hP q0 t0 ha ht (vp_in_nI hk hN) hdg ?_
  rw [nI_clamp (Nat.lt_trans hk hN), hv]; exact kk
theorem r_iast (hx : p.tables.exec = Jvm.exec) (hb : c.code = cc) (hK : va_K D cl (tys K) s) (hP : va_P D cl wl H) (hD : va_D A wl) (hS : va_S A s.heap H locs) (q0 t0 : Nat) {cA : ClassId} {N k : Nat} {f : Nat → Int32} (ha : wl[q0]? = some (a, .inl (cA, N, .inl f))) (ht : (tys K)[t0]? = some (cA, .int)) (hk : k < N) (hN : N < 2 ^ 31) {v : Int32} (hdg : decode cc pc = .ok (.iastore, 1)) (e1 : wl.set q0 (a, .inl (cA, N, .inl (upd f k v))) = ws')
    (kk : ∀ (H1 : Heap) (locs1 : List Loc), va_P D cl ws' H1 → va_D A ws' → va_S A s.heap H1 locs1 → W p l e R s m args below meth c H1 locs1 cells slots Q (F0 m (pc + 1) ls rest)) : W p l e R s m args below meth c H locs cells slots Q (F0 m pc ls (.int v :: .int (nI k) :: .ref a :: rest)) := by
  subst e1
  refine va_iast hx hb hK hP hD hS q0 t0 ha ht (vp_in_nI hk hN) hdg ?_
  rw [nI_clamp (Nat.lt_trans hk hN)]; exact kk
theorem r_zast (hx : p.tables.exec = Jvm.exec) (hb : c.code = cc) (hK : va_K D cl (tys K) s) (hP : va_P D cl wl H) (hD : va_D A wl) (hS : va_S A s.heap H locs) (q0 t0 : Nat) {cA : ClassId} {N k : Nat} {f : Nat → Int32} (ha : wl[q0]? = some (a, .inl (cA, N, .inl f))) (ht : (tys K)[t0]? = some (cA, .boolean)) (hk : k < N) (hN : N < 2 ^ 31) {v : Int32} (hv : v = nI 0 ∨ v = nI 1) (hdg : decode cc pc = .ok (.bastore, 1)) (e1 : wl.set q0 (a, .inl (cA, N, .inl (upd f k v))) = ws')
    (kk : ∀ (H1 : Heap) (locs1 : List Loc), va_P D cl ws' H1 → va_D A ws' → va_S A s.heap H1 locs1 → W p l e R s m args below meth c H1 locs1 cells slots Q (F0 m (pc + 1) ls rest)) : W p l e R s m args below meth c H locs cells slots Q (F0 m pc ls (.int v :: .int (nI k) :: .ref a :: rest)) := by
  subst e1
  refine va_zast hx hb hK hP hD hS q0 t0 ha ht (vp_in_nI hk hN) hdg ?_
  have h9 : vp_nar .boolean v = v := Value.int.inj (nar_01 hv)
  rw [nI_clamp (Nat.lt_trans hk hN), h9]; exact kk
theorem r_aastN (hx : p.tables.exec = Jvm.exec) (hb : c.code = cc) (hK : va_K D cl (tys K) s) (hP : va_P D cl wl H) (hD : va_D A wl) (hS : va_S A s.heap H locs) (q0 t0 : Nat) {cA : ClassId} {C : String} {N k : Nat} {f : Nat → Option Nat} (ha : wl[q0]? = some (a, .inl (cA, N, .inr (.inr (.inr (.inr f)))))) (ht : (tys K)[t0]? = some (cA, .object C)) (hk : k < N) (hN : N < 2 ^ 31) (hdg : decode cc pc = .ok (.aastore, 1)) (e1 : wl.set q0 (a, .inl (cA, N, .inr (.inr (.inr (.inr (va_up f k none)))))) = ws')
    (kk : ∀ (H1 : Heap) (locs1 : List Loc), va_P D cl ws' H1 → va_D A ws' → va_S A s.heap H1 locs1 → W p l e R s m args below meth c H1 locs1 cells slots Q (F0 m (pc + 1) ls rest)) : W p l e R s m args below meth c H locs cells slots Q (F0 m pc ls (.null :: .int (nI k) :: .ref a :: rest)) := by
  subst e1
  refine va_astqN hx hb hK hP hD hS q0 t0 ha ht (vp_in_nI hk hN) hdg ?_
  rw [nI_clamp (Nat.lt_trans hk hN)]; exact kk
/-- any thing that may stand in such an array -/
theorem r_aast (hx : p.tables.exec = Jvm.exec) (hb : c.code = cc) (hK : va_K D cl (tys K) s) (hP : va_P D cl wl H) (hD : va_D A wl) (hS : va_S A s.heap H locs) (q0 t0 : Nat) {cA : ClassId} {C : String} {N k v : Nat} {f : Nat → Option Nat} (ha : wl[q0]? = some (a, .inl (cA, N, .inr (.inr (.inr (.inr f)))))) (ht : (tys K)[t0]? = some (cA, .object C)) (hr : va_Any C s H v) (hk : k < N) (hN : N < 2 ^ 31) (hdg : decode cc pc = .ok (.aastore, 1)) (e1 : wl.set q0 (a, .inl (cA, N, .inr (.inr (.inr (.inr (va_up f k (some v))))))) = ws')
    (kk : ∀ (H1 : Heap) (locs1 : List Loc), va_P D cl ws' H1 → va_D A ws' → va_S A s.heap H1 locs1 → W p l e R s m args below meth c H1 locs1 cells slots Q (F0 m (pc + 1) ls rest)) : W p l e R s m args below meth c H locs cells slots Q (F0 m pc ls (.ref v :: .int (nI k) :: .ref a :: rest)) := by
  subst e1
  refine va_astqM hx hb hK hP hD hS q0 t0 ha ht hr (vp_in_nI hk hN) hdg ?_
  rw [nI_clamp (Nat.lt_trans hk hN)]; exact kk
theorem any_S (hK : va_K D cl (tys K) s) (hP : va_P D cl wl H) (q0 : Nat) {ci : Nat} {fs : List Value} {q : vw_C} {C : String} (he : wl[q0]? = some (a, .inr (ci, fs))) (hc : cl[ci]? = some q) (hq : q.1 = C) : va_Any C s H a := by
  subst hq
  exact va_rAny hK hP he hc (fun comp c0 h1 h2 => vb_asgS comp c0 h1 h2)
theorem any_C (hm : Amb G A s s.heap) (hK : va_K D cl (tys K) s) (hP : va_P D cl wl H) (q0 : Nat) {ci : Nat} {fs : List Value} {q : vw_C} {C E : String} (he : wl[q0]? = some (a, .inr (ci, fs))) (hc : cl[ci]? = some q) (hq : q.1 = C) (hw : Cond.castable C E ∈ lw_aw) : va_Any E s H a := by
  subst hq
  exact va_rAny hK hP he hc (fun comp c0 h1 h2 => vb_asgC (hm.1 _ hw) comp c0 h1 h2)
theorem hat_of {L : List Cond} (ps : List Nat) (h1 : L = ps.filterMap (fun i => lw_tbl[i]?)) (h2 : L.all (fun w => goodWord w || ambWord w) = true) : ∀ w ∈ L, w ∈ lw_gw ∨ w ∈ lw_aw := fun w hw => by
  have h3 := List.all_eq_true.mp h2 w hw
  have h4 : w ∈ lw_tbl := by
    rw [h1] at hw
    obtain ⟨i, -, hi⟩ := List.mem_filterMap.mp hw
    exact List.mem_of_getElem? hi
  simp only [Bool.or_eq_true] at h3
  exact h3.elim (fun h => Or.inl (gw_of h4 h)) (fun h => Or.inr (aw_of h4 h))
theorem amb_bef (hts : ∀ w ∈ lw_gw, w.before args s = true) (hm : Amb G A s s.heap) {w : Cond} (h : w ∈ lw_gw ∨ w ∈ lw_aw) : w.before args s = true :=
  h.elim (hts w) (fun h => (hm.1 w h).use (aw_onT (List.mem_filter.mp h).2))
theorem amb_ot {w : Cond} (h : w ∈ lw_gw ∨ w ∈ lw_aw) : vx_ot w = true := by
  unfold vx_ot
  rcases h with h | h
  · rw [(List.mem_filter.mp h).2, Bool.or_true]
  · rw [aw_onT (List.mem_filter.mp h).2, Bool.true_or]
theorem x_throw (hx : p.tables.exec = Jvm.exec) (hb : c.code = cc) (hl0 : l.stackTraces = false) {own cls text : String} {names : List String} {ik is ic mc ms nL : Nat} (htab : ∀ x ∈ c.exceptionTable.toList, False) (hml : c.maxLocals = nL) (hown : s.vm.findClass own = some m.cls) (hts : ∀ w ∈ lw_gw, w.before args s = true) (hlk : meth.locks = false) (hS : va_S A s.heap H locs) (hm : Amb G A s s.heap) (hls : ls.size = nL) (hcls : Bundle.fit cls = true) (hnames : ∀ n ∈ names, Bundle.fit n = true) (hk : Cond.classLink own ik cls ∈ lw_gw) (hini : Cond.initialized cls ∈ lw_gw) (hstr : (own, is, text) ∈ lw_strs) (hat : ∀ w ∈ vx_atS own ic cls names, w ∈ lw_gw ∨ w ∈ lw_aw)
    (d0 : decode cc pc = .ok (.new ik, 3)) (d3 : decode cc (pc + 3) = .ok (.dup, 1)) (d4 : decode cc (pc + 4) = .ok (.ldc is, 2)) (d6 : decode cc (pc + 6) = .ok (.invokespecial ic, 3)) (d9 : decode cc (pc + 9) = .ok (.athrow, 1)) (hf : names.length + 3 < R.frames) (hlo : (rest.map fun v => v.category).sum + (13 * (names.length + 1) + 43) ≤ R.locals) (hc : cells + 1 ≤ R.cells) (hs : slots + 6 ≤ R.slots) (h1 : cells + 1 ≤ mc) (h2 : slots + 6 ≤ ms) :
    W p l e R s m args below meth c H locs cells slots (vx_MQ below (CQ0 A) (CX cls A) args s mc ms A) (F0 m pc ls rest) := by
  obtain ⟨sa, hsa⟩ := hm.2.1 _ hstr
  refine vx_throwS hx hb hl0 hown hcls hnames (hts _ hk) (hts _ hini) hsa (fun w hw => amb_bef hts hm (hat w hw)) ?_ hm.2.2.2.1 hm.2.2.2.2 hS (by rw [hml]; exact hls) d0 d3 d4 d6 d9 (fun x hx9 => (htab x hx9).elim) hf hlo hc hs hlk ?_ hS.2.2 h1 h2
  · intro w hw
    rcases List.mem_cons.mp hw with rfl | hw
    · rfl
    rcases List.mem_cons.mp hw with rfl | hw
    · rfl
    exact amb_ot (hat w hw)
  · intro t _ hz hq
    exact ⟨(), trivial, rfl, Nat.le_trans hS.1 hz, fun q h3 h4 => (hq q (Nat.lt_of_lt_of_le h3 hS.1)).trans (hS.2.1 q h3 h4)⟩
theorem x_throwW (hx : p.tables.exec = Jvm.exec) (hb : c.code = cc) (hl0 : l.stackTraces = false) {own cls text : String} {names : List String} {ik is ic mc ms nL : Nat} (htab : ∀ x ∈ c.exceptionTable.toList, False) (hml : c.maxLocals = nL) (hown : s.vm.findClass own = some m.cls) (hts : ∀ w ∈ lw_gw, w.before args s = true) (hlk : meth.locks = false) (hS : va_S A s.heap H locs) (hm : Amb G A s s.heap) (hls : ls.size = nL) (hcls : Bundle.fit cls = true) (hnames : ∀ n ∈ names, Bundle.fit n = true) (hk : Cond.classLink own ik cls ∈ lw_gw) (hini : Cond.initialized cls ∈ lw_gw) (hstr : (own, is, text) ∈ lw_strs) (hat : ∀ w ∈ vx_atS own ic cls names, w ∈ lw_gw ∨ w ∈ lw_aw)
    (d0 : decode cc pc = .ok (.new ik, 3)) (d3 : decode cc (pc + 3) = .ok (.dup, 1)) (d4 : decode cc (pc + 4) = .ok (.ldc_w is, 3)) (d7 : decode cc (pc + 7) = .ok (.invokespecial ic, 3)) (d10 : decode cc (pc + 10) = .ok (.athrow, 1)) (hf : names.length + 3 < R.frames) (hlo : (rest.map fun v => v.category).sum + (13 * (names.length + 1) + 43) ≤ R.locals) (hc : cells + 1 ≤ R.cells) (hs : slots + 6 ≤ R.slots) (h1 : cells + 1 ≤ mc) (h2 : slots + 6 ≤ ms) :
    W p l e R s m args below meth c H locs cells slots (vx_MQ below (CQ0 A) (CX cls A) args s mc ms A) (F0 m pc ls rest) := by
  obtain ⟨sa, hsa⟩ := hm.2.1 _ hstr
  refine vx_throwSW hx hb hl0 hown hcls hnames (hts _ hk) (hts _ hini) hsa (fun w hw => amb_bef hts hm (hat w hw)) ?_ hm.2.2.2.1 hm.2.2.2.2 hS (by rw [hml]; exact hls) d0 d3 d4 d7 d10 (fun x hx9 => (htab x hx9).elim) hf hlo hc hs hlk ?_ hS.2.2 h1 h2
  · intro w hw
    rcases List.mem_cons.mp hw with rfl | hw
    · rfl
    rcases List.mem_cons.mp hw with rfl | hw
    · rfl
    exact amb_ot (hat w hw)
  · intro t _ hz hq
    exact ⟨(), trivial, rfl, Nat.le_trans hS.1 hz, fun q h3 h4 => (hq q (Nat.lt_of_lt_of_le h3 hS.1)).trans (hS.2.1 q h3 h4)⟩
section XCALLS
variable {y : MethodName} {bytes : ByteArray} {maxL nL index n : Nat} {ret : Option FieldType} {rm : Room} {own cls : String} {b : Nat} {As : List Value}
theorem xun_V (hx : p.tables.exec = Jvm.exec) (hb : c.code = cc) (hml : c.maxLocals = nL) (hown : s.vm.findClass own = some m.cls) (hts : ∀ w ∈ lw_gw, w.before args s = true) (hK : va_K D cl (tys K) s) (hP : va_P D cl wl H) (hD : va_D A wl) (hS : va_S A s.heap H locs) (hA : ∀ q, s.heap.size ≤ q → A q) (hm : Amb G A s s.heap)
    (hM : CMX l y bytes maxL ret rm G D K (.ref b :: As) wc H.size cls) (isC : List Nat) (hC : isC.map (fun i => wl[i]?) = wc.map some) (hn : va_nd isC = true) (ok : MOK y bytes maxL ret n) (h1 : Cond.methodLink own index y ∈ lw_gw) (h2 : Cond.instanceMethod y ∈ lw_gw) (h3 : Cond.selects y.cls y y ∈ lw_gw) (hrc : ∃ cell : Cell, H[b]? = some cell ∧ cell.vm.isStatics = false ∧ s.vm.findClass y.cls = some cell.cls)
    (hR : rm.frames + 1 ≤ R.frames ∧ 8 + (maxL + 11) + rm.locals ≤ R.locals) (hlen : As.length = n) (hls : ls.size = nL) (hst : st = As.reverse ++ .ref b :: rest) (hW : (rest.map fun v => v.category).sum ≤ 8) (hdg : decode cc pc = .ok (.invokevirtual index, 3)) (hf : cells + rm.cells ≤ R.cells ∧ slots + rm.slots ≤ R.slots) :
    vx_Run p l e R s m args below meth c H locs cells slots rm.cells rm.slots (F0 m pc ls st) rest (CQ0 (va_A wc H.size) (Value.ref b :: As).toArray) (CX cls (va_A wc H.size)) (va_A wc H.size) :=
  vx_runV (Ts := lw_gw) ⟨hx, hb, hml, hown, hts⟩ hM (cwV n hts (gi_app (fun _ h => h) (ms_c h1 (ms_c h2 (ms_c h3 (ms_c ok.2.1 ms_0)))) ok.1) rfl rfl rfl ⟨rfl, ok.2.2⟩ hR) ⟨cPre.blind, hrc, fun U hU hWu => ⟨rfl, cPre.of hK hP hD hS hA hm isC hC hn hU hWu⟩⟩ rfl hlen hls hst (lv_room hW) hdg hf
theorem xun_S (hx : p.tables.exec = Jvm.exec) (hb : c.code = cc) (hml : c.maxLocals = nL) (hown : s.vm.findClass own = some m.cls) (hts : ∀ w ∈ lw_gw, w.before args s = true) (hK : va_K D cl (tys K) s) (hP : va_P D cl wl H) (hD : va_D A wl) (hS : va_S A s.heap H locs) (hA : ∀ q, s.heap.size ≤ q → A q) (hm : Amb G A s s.heap)
    (hM : CMX l y bytes maxL ret rm G D K As wc H.size cls) (isC : List Nat) (hC : isC.map (fun i => wl[i]?) = wc.map some) (hn : va_nd isC = true) (ok : MOK y bytes maxL ret n) (h1 : Cond.methodLink own index y ∈ lw_gw) (h2 : Cond.static y ∈ lw_gw)
    (hR : rm.frames + 1 ≤ R.frames ∧ 8 + (maxL + 11) + rm.locals ≤ R.locals) (hlen : As.length = n) (hls : ls.size = nL) (hst : st = As.reverse ++ rest) (hW : (rest.map fun v => v.category).sum ≤ 8) (hdg : decode cc pc = .ok (.invokestatic index, 3)) (hf : cells + rm.cells ≤ R.cells ∧ slots + rm.slots ≤ R.slots) :
    vx_Run p l e R s m args below meth c H locs cells slots rm.cells rm.slots (F0 m pc ls st) rest (CQ0 (va_A wc H.size) As.toArray) (CX cls (va_A wc H.size)) (va_A wc H.size) :=
  vx_runS (Ts := lw_gw) ⟨hx, hb, hml, hown, hts⟩ hM (va_cwS n hts (gi_app (fun _ h => h) (ms_c h1 (ms_c h2 (ms_c ok.2.1 ms_0))) ok.1) rfl rfl rfl ok.2.2 hR) ⟨cPre.blind, fun U hU hWu => ⟨rfl, cPre.of hK hP hD hS hA hm isC hC hn hU hWu⟩⟩ rfl hlen hls hst (lv_room hW) hdg hf
/-- a callee throws, and nothing here catches it -/
theorem k_x {mc ms MC MS : Nat} {av : Array Value} (hr : vx_Run p l e R s m args below meth c H locs cells slots mc ms (F0 m pc ls st) rest (CQ0 (va_A wc H.size) av) (CX cls (va_A wc H.size)) (va_A wc H.size)) (htab : ∀ x ∈ c.exceptionTable.toList, False) (hlk : meth.locks = false) (hD : va_D A wl) (hS : va_S A s.heap H locs) (hA : ∀ q, s.heap.size ≤ q → A q) (isC : List Nat) (hC : isC.map (fun i => wl[i]?) = wc.map some) (h1 : cells + mc ≤ MC) (h2 : slots + ms ≤ MS) :
    W p l e R s m args below meth c H locs cells slots (vx_MQ below (CQ0 A) (CX cls A) args s MC MS A) (F0 m pc ls st) := by
  have hF := va_free hD hS hA isC hC
  refine vx_callv hr hS (fun q _ h => hF q h) hF (fun q _ h => hF q h) (fun E ce q9 u t H1 locs1 ht hvm hw hB hz1 hk1 hS1 hce hcv hcl => ?_) (fun u t H1 locs1 ht hvm hw hB hz1 hk1 hS1 => hw.elim)
  subst hB
  exact vx_out (fun x hx9 => (htab x hx9).elim) hlk hce hcv hcl (fun t2 ht2 _ => ⟨(), trivial, rfl, hS1.F ht2⟩) hS1.2.2 h1 h2
end XCALLS
end ROWS2
end
section
/-! more rows: words of a class, numbers below 0 -/
theorem usw_of {C : String} {T : u_T} {N : Nat} (ps : List Nat) (h1 : u_ws C T N = ps.filterMap (fun i => tables_1[i]?)) (h2 : (u_ws C T N).all goodWord = true) : ∀ w ∈ u_ws C T N, w ∈ lw_gw := fun w hw => by
  have h3 := List.all_eq_true.mp h2 w hw
  rw [h1] at hw
  obtain ⟨i, -, hi⟩ := List.mem_filterMap.mp hw
  exact gw_of (in_t (List.mem_of_getElem? hi)) h3
theorem z_lt {x : Int32} {n : Nat} (h : x < 0) (hn : n < 2 ^ 31) : x < nI n := by
  rw [Int32.lt_iff_toInt_lt] at h ⊢
  rw [nI_toInt hn]
  have h0 : (0 : Int32).toInt = 0 := by decide +kernel
  omega
theorem ng_lt {x : Int32} (h : x < 0) {n : Nat} (hn : n < 2 ^ 31) : x < nI n := z_lt h hn
theorem ng_le {x : Int32} (h : x < 0) {n : Nat} (hn : n < 2 ^ 31) : x ≤ nI n := Int32.le_of_lt (z_lt h hn)
theorem ng_eqN {x : Int32} (h : x < 0) {n : Nat} (hn : n < 2 ^ 31) : ¬ x = nI n := fun e => by
  have h1 := z_lt h hn
  rw [e] at h1
  exact Int32.lt_irrefl h1
theorem gn_ltN {x : Int32} (h : x < 0) {n : Nat} (hn : n < 2 ^ 31) : ¬ nI n < x := Int32.not_lt.mpr (ng_le h hn)
theorem gn_leN {x : Int32} (h : x < 0) {n : Nat} (hn : n < 2 ^ 31) : ¬ nI n ≤ x := Int32.not_le.mpr (z_lt h hn)
theorem gn_eqN {x : Int32} (h : x < 0) {n : Nat} (hn : n < 2 ^ 31) : ¬ nI n = x := fun e => ng_eqN h hn e.symm
theorem x_toInt {x : Int32} (h : x < 0) {k : Int} (hk : 0 ≤ k) : x.toInt < k := by
  rw [Int32.lt_iff_toInt_lt] at h
  have h0 : (0 : Int32).toInt = 0 := by decide +kernel
  omega
end
section
/-! NUMBERS AS Int: an int cell holds iI z; sums without bounds, comparisons within the range. -/
/-- an int cell holds a number so -/
def iI (z : Int) : Int32 := Int32.ofInt z
abbrev inR (z : Int) : Prop := -2147483648 ≤ z ∧ z < 2147483648
theorem inR_iff {z : Int} : inR z ↔ -2147483648 ≤ z ∧ z < 2147483648 := Iff.rfl
theorem iI_toInt {z : Int} (h : inR z) : (iI z).toInt = z := Int32.toInt_ofInt_of_le h.1 h.2
theorem iI_add (a b : Int) : iI a + iI b = iI (a + b) := (Int32.ofInt_add a b).symm
theorem iI_mul (a b : Int) : iI a * iI b = iI (a * b) := (Int32.ofInt_mul a b).symm
theorem iI_neg (a : Int) : -(iI a) = iI (-a) := (Int32.ofInt_neg a).symm
theorem iI_sub (a b : Int) : iI a - iI b = iI (a - b) := by
  rw [Int32.sub_eq_add_neg, iI_neg, iI_add, Int.sub_eq_add_neg]
theorem iI_of (v : Int32) : v = iI v.toInt := (Int32.ofInt_toInt v).symm
theorem iI_inj {a b : Int} (ha : inR a) (hb : inR b) : iI a = iI b ↔ a = b := by
  rw [← Int32.toInt_inj, iI_toInt ha, iI_toInt hb]
theorem iI_lt {a b : Int} (ha : inR a) (hb : inR b) : iI a < iI b ↔ a < b := by
  rw [Int32.lt_iff_toInt_lt, iI_toInt ha, iI_toInt hb]
theorem iI_le {a b : Int} (ha : inR a) (hb : inR b) : iI a ≤ iI b ↔ a ≤ b := by
  rw [Int32.le_iff_toInt_le, iI_toInt ha, iI_toInt hb]
theorem iI_0 : iI 0 = 0 := by decide +kernel
theorem iI_lt0 {a : Int} (ha : inR a) : iI a < 0 ↔ a < 0 := by
  rw [← iI_0]; exact iI_lt ha ⟨by decide, by decide⟩
theorem nI_iI {n : Nat} (h : n < 2 ^ 31) : nI n = iI (n : Int) := by
  rw [← Int32.toInt_inj, nI_toInt h, iI_toInt ⟨by omega, by omega⟩]
theorem iI_clamp {a : Int} (h0 : 0 ≤ a) (h1 : a < 2147483648) : (iI a).toNatClampNeg = a.toNat := by
  have e : iI a = nI a.toNat := by rw [nI_iI (by omega)]; congr 1; omega
  rw [e, nI_clamp (by omega)]
/-- an index within an array -/
theorem iI_in {a : Int} {N : Nat} (h0 : 0 ≤ a) (h1 : a < N) (hN : N < 2 ^ 31) : vp_in (iI a) N := by
  have e : iI a = nI a.toNat := by rw [nI_iI (by omega)]; congr 1; omega
  rw [e]; exact vp_in_nI (by omega) hN
end
section
/-! THE STATE OF THE CLASS. One value cSt: scalars; fields of things; rows of references; lengths; references of things; cards. ga: addresses, n: how many things. -/
abbrev cSt : Type := (Nat → Int) × (Nat → Nat → Int) × (Nat → Nat → Option Nat) × (Nat → Nat) × (Nat → Nat → Option Nat) × (Nat → Int)
def gIf (M : cSt) : Nat → Int := M.1
def gTf (M : cSt) : Nat → Nat → Int := M.2.1
def gRf (M : cSt) : Nat → Nat → Option Nat := M.2.2.1
def gLf (M : cSt) : Nat → Nat := M.2.2.2.1
def gFf (M : cSt) : Nat → Nat → Option Nat := M.2.2.2.2.1
def gZf (M : cSt) : Nat → Int := M.2.2.2.2.2
abbrev gI (M : cSt) (j : Nat) : Int := gIf M j
abbrev gT (M : cSt) (k : Nat) : Nat → Int := gTf M k
abbrev gR (M : cSt) (r : Nat) : Nat → Option Nat := gRf M r
abbrev gL (M : cSt) (k : Nat) : Nat := gLf M k
abbrev gF (M : cSt) (k : Nat) : Nat → Option Nat := gFf M k
abbrev gZ (M : cSt) (j : Nat) : Int := gZf M j
/-- the cards, as the array holds them -/
def cz (M : cSt) : Nat → Int32 := fun j => iI (gZf M j)
def sI (M : cSt) (j : Nat) (v : Int) : cSt := (va_up (gIf M) j v, gTf M, gRf M, gLf M, gFf M, gZf M)
def sT (M : cSt) (k f : Nat) (v : Int) : cSt := (gIf M, va_up (gTf M) k (va_up (gTf M k) f v), gRf M, gLf M, gFf M, gZf M)
def sR (M : cSt) (r j : Nat) (v : Option Nat) : cSt := (gIf M, gTf M, va_up (gRf M) r (va_up (gRf M r) j v), gLf M, gFf M, gZf M)
def sF (M : cSt) (k j : Nat) (v : Option Nat) : cSt := (gIf M, gTf M, gRf M, gLf M, va_up (gFf M) k (va_up (gFf M k) j v), gZf M)
def sZ (M : cSt) (j : Nat) (v : Int) : cSt := (gIf M, gTf M, gRf M, gLf M, gFf M, va_up (gZf M) j v)
theorem gIf_sI (M : cSt) (j : Nat) (v : Int) : gIf (sI M j v) = va_up (gIf M) j v := rfl
theorem gTf_sI (M : cSt) (j : Nat) (v : Int) : gTf (sI M j v) = gTf M := rfl
theorem gRf_sI (M : cSt) (j : Nat) (v : Int) : gRf (sI M j v) = gRf M := rfl
theorem gLf_sI (M : cSt) (j : Nat) (v : Int) : gLf (sI M j v) = gLf M := rfl
theorem gFf_sI (M : cSt) (j : Nat) (v : Int) : gFf (sI M j v) = gFf M := rfl
theorem gZf_sI (M : cSt) (j : Nat) (v : Int) : gZf (sI M j v) = gZf M := rfl
theorem gIf_sT (M : cSt) (k f : Nat) (v : Int) : gIf (sT M k f v) = gIf M := rfl
theorem gTf_sT (M : cSt) (k f : Nat) (v : Int) : gTf (sT M k f v) = va_up (gTf M) k (va_up (gTf M k) f v) := rfl
theorem gRf_sT (M : cSt) (k f : Nat) (v : Int) : gRf (sT M k f v) = gRf M := rfl
theorem gLf_sT (M : cSt) (k f : Nat) (v : Int) : gLf (sT M k f v) = gLf M := rfl
theorem gFf_sT (M : cSt) (k f : Nat) (v : Int) : gFf (sT M k f v) = gFf M := rfl
theorem gZf_sT (M : cSt) (k f : Nat) (v : Int) : gZf (sT M k f v) = gZf M := rfl
theorem gIf_sR (M : cSt) (r j : Nat) (v : Option Nat) : gIf (sR M r j v) = gIf M := rfl
theorem gTf_sR (M : cSt) (r j : Nat) (v : Option Nat) : gTf (sR M r j v) = gTf M := rfl
theorem gRf_sR (M : cSt) (r j : Nat) (v : Option Nat) : gRf (sR M r j v) = va_up (gRf M) r (va_up (gRf M r) j v) := rfl
theorem gLf_sR (M : cSt) (r j : Nat) (v : Option Nat) : gLf (sR M r j v) = gLf M := rfl
theorem gFf_sR (M : cSt) (r j : Nat) (v : Option Nat) : gFf (sR M r j v) = gFf M := rfl
theorem gZf_sR (M : cSt) (r j : Nat) (v : Option Nat) : gZf (sR M r j v) = gZf M := rfl
theorem gIf_sF (M : cSt) (k j : Nat) (v : Option Nat) : gIf (sF M k j v) = gIf M := rfl
theorem gTf_sF (M : cSt) (k j : Nat) (v : Option Nat) : gTf (sF M k j v) = gTf M := rfl
theorem gRf_sF (M : cSt) (k j : Nat) (v : Option Nat) : gRf (sF M k j v) = gRf M := rfl
theorem gLf_sF (M : cSt) (k j : Nat) (v : Option Nat) : gLf (sF M k j v) = gLf M := rfl
theorem gFf_sF (M : cSt) (k j : Nat) (v : Option Nat) : gFf (sF M k j v) = va_up (gFf M) k (va_up (gFf M k) j v) := rfl
theorem gZf_sF (M : cSt) (k j : Nat) (v : Option Nat) : gZf (sF M k j v) = gZf M := rfl
theorem gIf_sZ (M : cSt) (j : Nat) (v : Int) : gIf (sZ M j v) = gIf M := rfl
theorem gTf_sZ (M : cSt) (j : Nat) (v : Int) : gTf (sZ M j v) = gTf M := rfl
theorem gRf_sZ (M : cSt) (j : Nat) (v : Int) : gRf (sZ M j v) = gRf M := rfl
theorem gLf_sZ (M : cSt) (j : Nat) (v : Int) : gLf (sZ M j v) = gLf M := rfl
theorem gFf_sZ (M : cSt) (j : Nat) (v : Int) : gFf (sZ M j v) = gFf M := rfl
theorem gZf_sZ (M : cSt) (j : Nat) (v : Int) : gZf (sZ M j v) = va_up (gZf M) j v := rfl

/-- a reference to a thing, by its number -/
def ctv (ga : Nat → Nat) (o : Option Nat) : Value := va_rf (o.map (fun k => ga (25 + 2 * k)))
/-- a row of references, by the addresses -/
def crf (ga : Nat → Nat) (f : Nat → Option Nat) : Nat → Option Nat := fun j => (f j).map (fun k => ga (25 + 2 * k))
def cEth (ga : Nat → Nat) (M : cSt) (k : Nat) : va_E := .inr (7, [.int (iI (gT M k 0)), .ref (ga (26 + 2 * k)), .int (iI (gT M k 2)), .int (iI (gT M k 3)), .int (iI (gT M k 4)), .int (iI (gT M k 5)), .int (iI (gT M k 6)), .int (iI (gT M k 7)), .int (iI (gT M k 8)), .int (iI (gT M k 9)), .int (iI (gT M k 10)), .int (iI (gT M k 11)), .int (iI (gT M k 12)), .int (iI (gT M k 13))])
def cEfl (ga : Nat → Nat) (cT : ClassId) (M : cSt) (k : Nat) : va_E := .inl (cT, gL M k, .inr (.inr (.inr (.inr (crf ga (gF M k))))))
def cErw (ga : Nat → Nat) (cT : ClassId) (M : cSt) (r len : Nat) : va_E := .inl (cT, len, .inr (.inr (.inr (.inr (crf ga (gR M r))))))
def cEro (ga : Nat → Nat) (M : cSt) (r : Nat) : va_E := .inr (5, [.ref (ga (15 + r)), .int (iI (gI M (10 + r)))])
/-- what the world's cell i holds -/
def cE (ga : Nat → Nat) (cT cZ : ClassId) (M : cSt) : Nat → va_E
  | 0 => .inr (9, [.ref (ga 8), .ref (ga 1), .ref (ga 2), .ref (ga 3), .ref (ga 4), .ref (ga 5), .ref (ga 6), .ref (ga 7), .int (iI (gI M 0))])
  | 1 => .inr (4, [.ref (ga 9), .ref (ga 22), .ref (ga 23), .int (iI (gI M 1))])
  | 2 => .inr (3, [.ref (ga 10), .ref (ga 11), .ref (ga 12), .int (iI (gI M 2)), .int (iI (gI M 3)), .int (iI (gI M 4)), .int (iI (gI M 5)), .ref (ga 24)])
  | 3 => .inr (6, [.int (iI (gI M 6)), .int (iI (gI M 7)), .int (iI (gI M 8)), .int (iI (gI M 9))])
  | 4 => .inr (1, [.ref (ga 8), .ref (ga 1), .int (iI (gI M 17))])
  | 5 => .inr (8, [.ref (ga 8), .ref (ga 1), .ref (ga 13), .int (iI (gI M 18)), .int (iI (gI M 19)), ctv ga (gR M 9 0)])
  | 6 => .inr (2, [.int (iI (gI M 20)), .ref (ga 8), .ref (ga 1), .ref (ga 2), .ref (ga 3), .ref (ga 14), .int (iI (gI M 21)), .int (iI (gI M 22)), .int (iI (gI M 23))])
  | 7 => .inr (0, [.ref (ga 8), .ref (ga 1), .ref (ga 2), .ref (ga 3), .ref (ga 4), .ref (ga 5)])
  | 8 => cEro ga M 0
  | 9 => cEro ga M 1
  | 10 => cEro ga M 2
  | 11 => cEro ga M 3
  | 12 => cEro ga M 4
  | 13 => cEro ga M 5
  | 14 => cEro ga M 6
  | 15 => cErw ga cT M 0 200
  | 16 => cErw ga cT M 1 200
  | 17 => cErw ga cT M 2 200
  | 18 => cErw ga cT M 3 200
  | 19 => cErw ga cT M 4 200
  | 20 => cErw ga cT M 5 200
  | 21 => cErw ga cT M 6 200
  | 22 => cErw ga cT M 7 32
  | 23 => cErw ga cT M 8 4
  | 24 => .inl (cZ, 20, .inl (cz M))
  | n + 25 => if n % 2 = 0 then cEth ga M (n / 2) else cEfl ga cT M (n / 2)

theorem E_th (ga : Nat → Nat) (cT cZ : ClassId) (M : cSt) (k : Nat) : cE ga cT cZ M (25 + 2 * k) = cEth ga M k := by
  rw [Nat.add_comm 25]
  show (if (2 * k) % 2 = 0 then cEth ga M ((2 * k) / 2) else cEfl ga cT M ((2 * k) / 2)) = _
  rw [if_pos (by omega), show 2 * k / 2 = k by omega]
theorem E_fl (ga : Nat → Nat) (cT cZ : ClassId) (M : cSt) (k : Nat) : cE ga cT cZ M (26 + 2 * k) = cEfl ga cT M k := by
  rw [show 26 + 2 * k = (2 * k + 1) + 25 by omega]
  show (if (2 * k + 1) % 2 = 0 then cEth ga M ((2 * k + 1) / 2) else cEfl ga cT M ((2 * k + 1) / 2)) = _
  rw [if_neg (by omega), show (2 * k + 1) / 2 = k by omega]
theorem E_ro (ga : Nat → Nat) (cT cZ : ClassId) (M : cSt) {r : Nat} (h : r < 7) : cE ga cT cZ M (8 + r) = cEro ga M r := by
  rcases (show r = 0 ∨ r = 1 ∨ r = 2 ∨ r = 3 ∨ r = 4 ∨ r = 5 ∨ r = 6 by omega) with rfl | rfl | rfl | rfl | rfl | rfl | rfl <;> rfl
theorem E_rw (ga : Nat → Nat) (cT cZ : ClassId) (M : cSt) {r : Nat} (h : r < 7) : cE ga cT cZ M (15 + r) = cErw ga cT M r 200 := by
  rcases (show r = 0 ∨ r = 1 ∨ r = 2 ∨ r = 3 ∨ r = 4 ∨ r = 5 ∨ r = 6 by omega) with rfl | rfl | rfl | rfl | rfl | rfl | rfl <;> rfl
/-- the index of a cell: one of the fixed ones, or a thing, or a thing's row -/
theorem ix_cases (i : Nat) : i < 25 ∨ (∃ k, i = 25 + 2 * k) ∨ ∃ k, i = 26 + 2 * k := by
  rcases Nat.lt_or_ge i 25 with h | h
  · exact Or.inl h
  · rcases Nat.mod_two_eq_zero_or_one (i - 25) with e | e
    · exact Or.inr (Or.inl ⟨(i - 25) / 2, by omega⟩)
    · exact Or.inr (Or.inr ⟨(i - 26) / 2, by omega⟩)
/-- the world -/
def wld (ga : Nat → Nat) (n : Nat) (cT cZ : ClassId) (M : cSt) : va_W := (List.range (25 + 2 * n)).map (fun i => (ga i, cE ga cT cZ M i))
theorem wld_get {ga : Nat → Nat} {n : Nat} {cT cZ : ClassId} {M : cSt} {i : Nat} {x : va_E} (h : i < 25 + 2 * n) (hx : cE ga cT cZ M i = x) : (wld ga n cT cZ M)[i]? = some (ga i, x) := by
  rw [wld, List.getElem?_map, List.getElem?_range h, ← hx]; rfl
theorem wld_inv {ga : Nat → Nat} {n : Nat} {cT cZ : ClassId} {M : cSt} {i : Nat} {q : Nat × va_E} (h : (wld ga n cT cZ M)[i]? = some q) : i < 25 + 2 * n ∧ q = (ga i, cE ga cT cZ M i) := by
  rw [wld, List.getElem?_map] at h
  rcases Nat.lt_or_ge i (25 + 2 * n) with hl | hl
  · rw [List.getElem?_range hl] at h; exact ⟨hl, (Option.some.inj h).symm⟩
  · rw [List.getElem?_eq_none (by rw [List.length_range]; exact hl)] at h; cases h
theorem wld_set {ga : Nat → Nat} {n : Nat} {cT cZ : ClassId} {M : cSt} {M' : cSt} {i : Nat} {x : va_E} (hx : cE ga cT cZ M' i = x) (ho : ∀ j, j ≠ i → cE ga cT cZ M' j = cE ga cT cZ M j) : (wld ga n cT cZ M).set i (ga i, x) = wld ga n cT cZ M' := by
  refine List.ext_getElem? (fun j => ?_)
  rw [List.getElem?_set]
  by_cases hij : i = j
  · subst hij
    rw [if_pos rfl]
    by_cases hl : i < 25 + 2 * n
    · rw [if_pos (by rw [wld, List.length_map, List.length_range]; exact hl), wld_get (M := M') hl hx]
    · rw [if_neg (by rw [wld, List.length_map, List.length_range]; exact hl), List.getElem?_eq_none (by rw [wld, List.length_map, List.length_range]; omega)]
  · rw [if_neg hij]
    by_cases hl : j < 25 + 2 * n
    · rw [wld_get hl rfl, wld_get (M := M') hl (ho j (fun e => hij e.symm))]
    · rw [List.getElem?_eq_none (by rw [wld, List.length_map, List.length_range]; omega), List.getElem?_eq_none (by rw [wld, List.length_map, List.length_range]; omega)]
theorem wld_D {ga : Nat → Nat} {n : Nat} {cT cZ : ClassId} {M : cSt} {M' : cSt} {A : Nat → Prop} (h : va_D A (wld ga n cT cZ M)) : va_D A (wld ga n cT cZ M') := by
  refine ⟨fun i j p q hi hj e => ?_, fun k q hk => ?_⟩
  · obtain ⟨a1, a2⟩ := wld_inv hi; obtain ⟨b1, b2⟩ := wld_inv hj
    refine h.1 i j _ _ (wld_get a1 rfl) (wld_get b1 rfl) ?_
    rw [a2, b2] at e; exact e
  · obtain ⟨a1, a2⟩ := wld_inv hk
    rw [a2]; exact h.2 k (ga k, cE ga cT cZ M k) (wld_get a1 rfl)
/-- which cells the class may write: its own, and new ones -/
def cAA (ga : Nat → Nat) (n sz : Nat) : Nat → Prop := fun q => (∃ i, i < 25 + 2 * n ∧ q = ga i) ∨ sz ≤ q
theorem wld_self {ga : Nat → Nat} {n : Nat} {cT cZ : ClassId} {M : cSt} {A : Nat → Prop} {sz : Nat} (h : va_D A (wld ga n cT cZ M)) : va_D (cAA ga n sz) (wld ga n cT cZ M) :=
  ⟨h.1, fun k q hk => by obtain ⟨a1, a2⟩ := wld_inv hk; rw [a2]; exact Or.inl ⟨k, a1, rfl⟩⟩
theorem wld_free {ga : Nat → Nat} {n : Nat} {cT cZ : ClassId} {M : cSt} {A : Nat → Prop} {H0 H : Heap} {locs : List Loc} (hD : va_D A (wld ga n cT cZ M)) (hS : va_S A H0 H locs) (hA : ∀ q, H0.size ≤ q → A q) : ∀ q, cAA ga n H.size q → A q := by
  intro q h
  rcases h with ⟨i, hi, rfl⟩ | h
  · exact hD.2 i _ (wld_get (M := M) (cT := cT) (cZ := cZ) hi rfl)
  · exact hA q (Nat.le_trans hS.1 h)
theorem wld_inj {ga : Nat → Nat} {n : Nat} {cT cZ : ClassId} {M : cSt} {A : Nat → Prop} (h : va_D A (wld ga n cT cZ M)) {i j : Nat} (hi : i < 25 + 2 * n) (hj : j < 25 + 2 * n) (e : ga i = ga j) : i = j :=
  h.1 i j _ _ (wld_get hi rfl) (wld_get hj rfl) e

theorem Ei_0 (ga : Nat → Nat) (cT cZ : ClassId) (M : cSt) (v : Int) : cE ga cT cZ (sI M 0 v) 0 = .inr (9, [.ref (ga 8), .ref (ga 1), .ref (ga 2), .ref (ga 3), .ref (ga 4), .ref (ga 5), .ref (ga 6), .ref (ga 7), .int (iI v)]) := rfl
theorem Eo_0 (ga : Nat → Nat) (cT cZ : ClassId) (M : cSt) (v : Int) : ∀ i, i ≠ 0 → cE ga cT cZ (sI M 0 v) i = cE ga cT cZ M i
  | 0, h => absurd rfl h
  | 1, h => rfl
  | 2, h => rfl
  | 3, h => rfl
  | 4, h => rfl
  | 5, h => rfl
  | 6, h => rfl
  | 7, h => rfl
  | 8, h => rfl
  | 9, h => rfl
  | 10, h => rfl
  | 11, h => rfl
  | 12, h => rfl
  | 13, h => rfl
  | 14, h => rfl
  | 15, h => rfl
  | 16, h => rfl
  | 17, h => rfl
  | 18, h => rfl
  | 19, h => rfl
  | 20, h => rfl
  | 21, h => rfl
  | 22, h => rfl
  | 23, h => rfl
  | 24, h => rfl
  | _ + 25, _ => rfl
theorem wI_0 {ga : Nat → Nat} {n : Nat} {cT cZ : ClassId} {M : cSt} {v : Int} : (wld ga n cT cZ M).set 0 (ga 0, .inr (9, [.ref (ga 8), .ref (ga 1), .ref (ga 2), .ref (ga 3), .ref (ga 4), .ref (ga 5), .ref (ga 6), .ref (ga 7), .int (iI v)])) = wld ga n cT cZ (sI M 0 v) := wld_set (i := 0) (Ei_0 ga cT cZ M v) (Eo_0 ga cT cZ M v)
theorem Ei_1 (ga : Nat → Nat) (cT cZ : ClassId) (M : cSt) (v : Int) : cE ga cT cZ (sI M 1 v) 1 = .inr (4, [.ref (ga 9), .ref (ga 22), .ref (ga 23), .int (iI v)]) := rfl
theorem Eo_1 (ga : Nat → Nat) (cT cZ : ClassId) (M : cSt) (v : Int) : ∀ i, i ≠ 1 → cE ga cT cZ (sI M 1 v) i = cE ga cT cZ M i
  | 0, h => rfl
  | 1, h => absurd rfl h
  | 2, h => rfl
  | 3, h => rfl
  | 4, h => rfl
  | 5, h => rfl
  | 6, h => rfl
  | 7, h => rfl
  | 8, h => rfl
  | 9, h => rfl
  | 10, h => rfl
  | 11, h => rfl
  | 12, h => rfl
  | 13, h => rfl
  | 14, h => rfl
  | 15, h => rfl
  | 16, h => rfl
  | 17, h => rfl
  | 18, h => rfl
  | 19, h => rfl
  | 20, h => rfl
  | 21, h => rfl
  | 22, h => rfl
  | 23, h => rfl
  | 24, h => rfl
  | _ + 25, _ => rfl
theorem wI_1 {ga : Nat → Nat} {n : Nat} {cT cZ : ClassId} {M : cSt} {v : Int} : (wld ga n cT cZ M).set 1 (ga 1, .inr (4, [.ref (ga 9), .ref (ga 22), .ref (ga 23), .int (iI v)])) = wld ga n cT cZ (sI M 1 v) := wld_set (i := 1) (Ei_1 ga cT cZ M v) (Eo_1 ga cT cZ M v)
theorem Ei_2 (ga : Nat → Nat) (cT cZ : ClassId) (M : cSt) (v : Int) : cE ga cT cZ (sI M 2 v) 2 = .inr (3, [.ref (ga 10), .ref (ga 11), .ref (ga 12), .int (iI v), .int (iI (gI M 3)), .int (iI (gI M 4)), .int (iI (gI M 5)), .ref (ga 24)]) := rfl
theorem Eo_2 (ga : Nat → Nat) (cT cZ : ClassId) (M : cSt) (v : Int) : ∀ i, i ≠ 2 → cE ga cT cZ (sI M 2 v) i = cE ga cT cZ M i
  | 0, h => rfl
  | 1, h => rfl
  | 2, h => absurd rfl h
  | 3, h => rfl
  | 4, h => rfl
  | 5, h => rfl
  | 6, h => rfl
  | 7, h => rfl
  | 8, h => rfl
  | 9, h => rfl
  | 10, h => rfl
  | 11, h => rfl
  | 12, h => rfl
  | 13, h => rfl
  | 14, h => rfl
  | 15, h => rfl
  | 16, h => rfl
  | 17, h => rfl
  | 18, h => rfl
  | 19, h => rfl
  | 20, h => rfl
  | 21, h => rfl
  | 22, h => rfl
  | 23, h => rfl
  | 24, h => rfl
  | _ + 25, _ => rfl
theorem wI_2 {ga : Nat → Nat} {n : Nat} {cT cZ : ClassId} {M : cSt} {v : Int} : (wld ga n cT cZ M).set 2 (ga 2, .inr (3, [.ref (ga 10), .ref (ga 11), .ref (ga 12), .int (iI v), .int (iI (gI M 3)), .int (iI (gI M 4)), .int (iI (gI M 5)), .ref (ga 24)])) = wld ga n cT cZ (sI M 2 v) := wld_set (i := 2) (Ei_2 ga cT cZ M v) (Eo_2 ga cT cZ M v)
theorem Ei_3 (ga : Nat → Nat) (cT cZ : ClassId) (M : cSt) (v : Int) : cE ga cT cZ (sI M 3 v) 2 = .inr (3, [.ref (ga 10), .ref (ga 11), .ref (ga 12), .int (iI (gI M 2)), .int (iI v), .int (iI (gI M 4)), .int (iI (gI M 5)), .ref (ga 24)]) := rfl
theorem Eo_3 (ga : Nat → Nat) (cT cZ : ClassId) (M : cSt) (v : Int) : ∀ i, i ≠ 2 → cE ga cT cZ (sI M 3 v) i = cE ga cT cZ M i
  | 0, h => rfl
  | 1, h => rfl
  | 2, h => absurd rfl h
  | 3, h => rfl
  | 4, h => rfl
  | 5, h => rfl
  | 6, h => rfl
  | 7, h => rfl
  | 8, h => rfl
  | 9, h => rfl
  | 10, h => rfl
  | 11, h => rfl
  | 12, h => rfl
  | 13, h => rfl
  | 14, h => rfl
  | 15, h => rfl
  | 16, h => rfl
  | 17, h => rfl
  | 18, h => rfl
  | 19, h => rfl
  | 20, h => rfl
  | 21, h => rfl
  | 22, h => rfl
  | 23, h => rfl
  | 24, h => rfl
  | _ + 25, _ => rfl
theorem wI_3 {ga : Nat → Nat} {n : Nat} {cT cZ : ClassId} {M : cSt} {v : Int} : (wld ga n cT cZ M).set 2 (ga 2, .inr (3, [.ref (ga 10), .ref (ga 11), .ref (ga 12), .int (iI (gI M 2)), .int (iI v), .int (iI (gI M 4)), .int (iI (gI M 5)), .ref (ga 24)])) = wld ga n cT cZ (sI M 3 v) := wld_set (i := 2) (Ei_3 ga cT cZ M v) (Eo_3 ga cT cZ M v)
theorem Ei_4 (ga : Nat → Nat) (cT cZ : ClassId) (M : cSt) (v : Int) : cE ga cT cZ (sI M 4 v) 2 = .inr (3, [.ref (ga 10), .ref (ga 11), .ref (ga 12), .int (iI (gI M 2)), .int (iI (gI M 3)), .int (iI v), .int (iI (gI M 5)), .ref (ga 24)]) := rfl
theorem Eo_4 (ga : Nat → Nat) (cT cZ : ClassId) (M : cSt) (v : Int) : ∀ i, i ≠ 2 → cE ga cT cZ (sI M 4 v) i = cE ga cT cZ M i
  | 0, h => rfl
  | 1, h => rfl
  | 2, h => absurd rfl h
  | 3, h => rfl
  | 4, h => rfl
  | 5, h => rfl
  | 6, h => rfl
  | 7, h => rfl
  | 8, h => rfl
  | 9, h => rfl
  | 10, h => rfl
  | 11, h => rfl
  | 12, h => rfl
  | 13, h => rfl
  | 14, h => rfl
  | 15, h => rfl
  | 16, h => rfl
  | 17, h => rfl
  | 18, h => rfl
  | 19, h => rfl
  | 20, h => rfl
  | 21, h => rfl
  | 22, h => rfl
  | 23, h => rfl
  | 24, h => rfl
  | _ + 25, _ => rfl
theorem wI_4 {ga : Nat → Nat} {n : Nat} {cT cZ : ClassId} {M : cSt} {v : Int} : (wld ga n cT cZ M).set 2 (ga 2, .inr (3, [.ref (ga 10), .ref (ga 11), .ref (ga 12), .int (iI (gI M 2)), .int (iI (gI M 3)), .int (iI v), .int (iI (gI M 5)), .ref (ga 24)])) = wld ga n cT cZ (sI M 4 v) := wld_set (i := 2) (Ei_4 ga cT cZ M v) (Eo_4 ga cT cZ M v)
theorem Ei_5 (ga : Nat → Nat) (cT cZ : ClassId) (M : cSt) (v : Int) : cE ga cT cZ (sI M 5 v) 2 = .inr (3, [.ref (ga 10), .ref (ga 11), .ref (ga 12), .int (iI (gI M 2)), .int (iI (gI M 3)), .int (iI (gI M 4)), .int (iI v), .ref (ga 24)]) := rfl
theorem Eo_5 (ga : Nat → Nat) (cT cZ : ClassId) (M : cSt) (v : Int) : ∀ i, i ≠ 2 → cE ga cT cZ (sI M 5 v) i = cE ga cT cZ M i
  | 0, h => rfl
  | 1, h => rfl
  | 2, h => absurd rfl h
  | 3, h => rfl
  | 4, h => rfl
  | 5, h => rfl
  | 6, h => rfl
  | 7, h => rfl
  | 8, h => rfl
  | 9, h => rfl
  | 10, h => rfl
  | 11, h => rfl
  | 12, h => rfl
  | 13, h => rfl
  | 14, h => rfl
  | 15, h => rfl
  | 16, h => rfl
  | 17, h => rfl
  | 18, h => rfl
  | 19, h => rfl
  | 20, h => rfl
  | 21, h => rfl
  | 22, h => rfl
  | 23, h => rfl
  | 24, h => rfl
  | _ + 25, _ => rfl
theorem wI_5 {ga : Nat → Nat} {n : Nat} {cT cZ : ClassId} {M : cSt} {v : Int} : (wld ga n cT cZ M).set 2 (ga 2, .inr (3, [.ref (ga 10), .ref (ga 11), .ref (ga 12), .int (iI (gI M 2)), .int (iI (gI M 3)), .int (iI (gI M 4)), .int (iI v), .ref (ga 24)])) = wld ga n cT cZ (sI M 5 v) := wld_set (i := 2) (Ei_5 ga cT cZ M v) (Eo_5 ga cT cZ M v)
theorem Ei_6 (ga : Nat → Nat) (cT cZ : ClassId) (M : cSt) (v : Int) : cE ga cT cZ (sI M 6 v) 3 = .inr (6, [.int (iI v), .int (iI (gI M 7)), .int (iI (gI M 8)), .int (iI (gI M 9))]) := rfl
theorem Eo_6 (ga : Nat → Nat) (cT cZ : ClassId) (M : cSt) (v : Int) : ∀ i, i ≠ 3 → cE ga cT cZ (sI M 6 v) i = cE ga cT cZ M i
  | 0, h => rfl
  | 1, h => rfl
  | 2, h => rfl
  | 3, h => absurd rfl h
  | 4, h => rfl
  | 5, h => rfl
  | 6, h => rfl
  | 7, h => rfl
  | 8, h => rfl
  | 9, h => rfl
  | 10, h => rfl
  | 11, h => rfl
  | 12, h => rfl
  | 13, h => rfl
  | 14, h => rfl
  | 15, h => rfl
  | 16, h => rfl
  | 17, h => rfl
  | 18, h => rfl
  | 19, h => rfl
  | 20, h => rfl
  | 21, h => rfl
  | 22, h => rfl
  | 23, h => rfl
  | 24, h => rfl
  | _ + 25, _ => rfl
theorem wI_6 {ga : Nat → Nat} {n : Nat} {cT cZ : ClassId} {M : cSt} {v : Int} : (wld ga n cT cZ M).set 3 (ga 3, .inr (6, [.int (iI v), .int (iI (gI M 7)), .int (iI (gI M 8)), .int (iI (gI M 9))])) = wld ga n cT cZ (sI M 6 v) := wld_set (i := 3) (Ei_6 ga cT cZ M v) (Eo_6 ga cT cZ M v)
theorem Ei_7 (ga : Nat → Nat) (cT cZ : ClassId) (M : cSt) (v : Int) : cE ga cT cZ (sI M 7 v) 3 = .inr (6, [.int (iI (gI M 6)), .int (iI v), .int (iI (gI M 8)), .int (iI (gI M 9))]) := rfl
theorem Eo_7 (ga : Nat → Nat) (cT cZ : ClassId) (M : cSt) (v : Int) : ∀ i, i ≠ 3 → cE ga cT cZ (sI M 7 v) i = cE ga cT cZ M i
  | 0, h => rfl
  | 1, h => rfl
  | 2, h => rfl
  | 3, h => absurd rfl h
  | 4, h => rfl
  | 5, h => rfl
  | 6, h => rfl
  | 7, h => rfl
  | 8, h => rfl
  | 9, h => rfl
  | 10, h => rfl
  | 11, h => rfl
  | 12, h => rfl
  | 13, h => rfl
  | 14, h => rfl
  | 15, h => rfl
  | 16, h => rfl
  | 17, h => rfl
  | 18, h => rfl
  | 19, h => rfl
  | 20, h => rfl
  | 21, h => rfl
  | 22, h => rfl
  | 23, h => rfl
  | 24, h => rfl
  | _ + 25, _ => rfl
theorem wI_7 {ga : Nat → Nat} {n : Nat} {cT cZ : ClassId} {M : cSt} {v : Int} : (wld ga n cT cZ M).set 3 (ga 3, .inr (6, [.int (iI (gI M 6)), .int (iI v), .int (iI (gI M 8)), .int (iI (gI M 9))])) = wld ga n cT cZ (sI M 7 v) := wld_set (i := 3) (Ei_7 ga cT cZ M v) (Eo_7 ga cT cZ M v)
theorem Ei_8 (ga : Nat → Nat) (cT cZ : ClassId) (M : cSt) (v : Int) : cE ga cT cZ (sI M 8 v) 3 = .inr (6, [.int (iI (gI M 6)), .int (iI (gI M 7)), .int (iI v), .int (iI (gI M 9))]) := rfl
theorem Eo_8 (ga : Nat → Nat) (cT cZ : ClassId) (M : cSt) (v : Int) : ∀ i, i ≠ 3 → cE ga cT cZ (sI M 8 v) i = cE ga cT cZ M i
  | 0, h => rfl
  | 1, h => rfl
  | 2, h => rfl
  | 3, h => absurd rfl h
  | 4, h => rfl
  | 5, h => rfl
  | 6, h => rfl
  | 7, h => rfl
  | 8, h => rfl
  | 9, h => rfl
  | 10, h => rfl
  | 11, h => rfl
  | 12, h => rfl
  | 13, h => rfl
  | 14, h => rfl
  | 15, h => rfl
  | 16, h => rfl
  | 17, h => rfl
  | 18, h => rfl
  | 19, h => rfl
  | 20, h => rfl
  | 21, h => rfl
  | 22, h => rfl
  | 23, h => rfl
  | 24, h => rfl
  | _ + 25, _ => rfl
theorem wI_8 {ga : Nat → Nat} {n : Nat} {cT cZ : ClassId} {M : cSt} {v : Int} : (wld ga n cT cZ M).set 3 (ga 3, .inr (6, [.int (iI (gI M 6)), .int (iI (gI M 7)), .int (iI v), .int (iI (gI M 9))])) = wld ga n cT cZ (sI M 8 v) := wld_set (i := 3) (Ei_8 ga cT cZ M v) (Eo_8 ga cT cZ M v)
theorem Ei_9 (ga : Nat → Nat) (cT cZ : ClassId) (M : cSt) (v : Int) : cE ga cT cZ (sI M 9 v) 3 = .inr (6, [.int (iI (gI M 6)), .int (iI (gI M 7)), .int (iI (gI M 8)), .int (iI v)]) := rfl
theorem Eo_9 (ga : Nat → Nat) (cT cZ : ClassId) (M : cSt) (v : Int) : ∀ i, i ≠ 3 → cE ga cT cZ (sI M 9 v) i = cE ga cT cZ M i
  | 0, h => rfl
  | 1, h => rfl
  | 2, h => rfl
  | 3, h => absurd rfl h
  | 4, h => rfl
  | 5, h => rfl
  | 6, h => rfl
  | 7, h => rfl
  | 8, h => rfl
  | 9, h => rfl
  | 10, h => rfl
  | 11, h => rfl
  | 12, h => rfl
  | 13, h => rfl
  | 14, h => rfl
  | 15, h => rfl
  | 16, h => rfl
  | 17, h => rfl
  | 18, h => rfl
  | 19, h => rfl
  | 20, h => rfl
  | 21, h => rfl
  | 22, h => rfl
  | 23, h => rfl
  | 24, h => rfl
  | _ + 25, _ => rfl
theorem wI_9 {ga : Nat → Nat} {n : Nat} {cT cZ : ClassId} {M : cSt} {v : Int} : (wld ga n cT cZ M).set 3 (ga 3, .inr (6, [.int (iI (gI M 6)), .int (iI (gI M 7)), .int (iI (gI M 8)), .int (iI v)])) = wld ga n cT cZ (sI M 9 v) := wld_set (i := 3) (Ei_9 ga cT cZ M v) (Eo_9 ga cT cZ M v)
theorem Ei_17 (ga : Nat → Nat) (cT cZ : ClassId) (M : cSt) (v : Int) : cE ga cT cZ (sI M 17 v) 4 = .inr (1, [.ref (ga 8), .ref (ga 1), .int (iI v)]) := rfl
theorem Eo_17 (ga : Nat → Nat) (cT cZ : ClassId) (M : cSt) (v : Int) : ∀ i, i ≠ 4 → cE ga cT cZ (sI M 17 v) i = cE ga cT cZ M i
  | 0, h => rfl
  | 1, h => rfl
  | 2, h => rfl
  | 3, h => rfl
  | 4, h => absurd rfl h
  | 5, h => rfl
  | 6, h => rfl
  | 7, h => rfl
  | 8, h => rfl
  | 9, h => rfl
  | 10, h => rfl
  | 11, h => rfl
  | 12, h => rfl
  | 13, h => rfl
  | 14, h => rfl
  | 15, h => rfl
  | 16, h => rfl
  | 17, h => rfl
  | 18, h => rfl
  | 19, h => rfl
  | 20, h => rfl
  | 21, h => rfl
  | 22, h => rfl
  | 23, h => rfl
  | 24, h => rfl
  | _ + 25, _ => rfl
theorem wI_17 {ga : Nat → Nat} {n : Nat} {cT cZ : ClassId} {M : cSt} {v : Int} : (wld ga n cT cZ M).set 4 (ga 4, .inr (1, [.ref (ga 8), .ref (ga 1), .int (iI v)])) = wld ga n cT cZ (sI M 17 v) := wld_set (i := 4) (Ei_17 ga cT cZ M v) (Eo_17 ga cT cZ M v)
theorem Ei_18 (ga : Nat → Nat) (cT cZ : ClassId) (M : cSt) (v : Int) : cE ga cT cZ (sI M 18 v) 5 = .inr (8, [.ref (ga 8), .ref (ga 1), .ref (ga 13), .int (iI v), .int (iI (gI M 19)), ctv ga (gR M 9 0)]) := rfl
theorem Eo_18 (ga : Nat → Nat) (cT cZ : ClassId) (M : cSt) (v : Int) : ∀ i, i ≠ 5 → cE ga cT cZ (sI M 18 v) i = cE ga cT cZ M i
  | 0, h => rfl
  | 1, h => rfl
  | 2, h => rfl
  | 3, h => rfl
  | 4, h => rfl
  | 5, h => absurd rfl h
  | 6, h => rfl
  | 7, h => rfl
  | 8, h => rfl
  | 9, h => rfl
  | 10, h => rfl
  | 11, h => rfl
  | 12, h => rfl
  | 13, h => rfl
  | 14, h => rfl
  | 15, h => rfl
  | 16, h => rfl
  | 17, h => rfl
  | 18, h => rfl
  | 19, h => rfl
  | 20, h => rfl
  | 21, h => rfl
  | 22, h => rfl
  | 23, h => rfl
  | 24, h => rfl
  | _ + 25, _ => rfl
theorem wI_18 {ga : Nat → Nat} {n : Nat} {cT cZ : ClassId} {M : cSt} {v : Int} : (wld ga n cT cZ M).set 5 (ga 5, .inr (8, [.ref (ga 8), .ref (ga 1), .ref (ga 13), .int (iI v), .int (iI (gI M 19)), ctv ga (gR M 9 0)])) = wld ga n cT cZ (sI M 18 v) := wld_set (i := 5) (Ei_18 ga cT cZ M v) (Eo_18 ga cT cZ M v)
theorem Ei_19 (ga : Nat → Nat) (cT cZ : ClassId) (M : cSt) (v : Int) : cE ga cT cZ (sI M 19 v) 5 = .inr (8, [.ref (ga 8), .ref (ga 1), .ref (ga 13), .int (iI (gI M 18)), .int (iI v), ctv ga (gR M 9 0)]) := rfl
theorem Eo_19 (ga : Nat → Nat) (cT cZ : ClassId) (M : cSt) (v : Int) : ∀ i, i ≠ 5 → cE ga cT cZ (sI M 19 v) i = cE ga cT cZ M i
  | 0, h => rfl
  | 1, h => rfl
  | 2, h => rfl
  | 3, h => rfl
  | 4, h => rfl
  | 5, h => absurd rfl h
  | 6, h => rfl
  | 7, h => rfl
  | 8, h => rfl
  | 9, h => rfl
  | 10, h => rfl
  | 11, h => rfl
  | 12, h => rfl
  | 13, h => rfl
  | 14, h => rfl
  | 15, h => rfl
  | 16, h => rfl
  | 17, h => rfl
  | 18, h => rfl
  | 19, h => rfl
  | 20, h => rfl
  | 21, h => rfl
  | 22, h => rfl
  | 23, h => rfl
  | 24, h => rfl
  | _ + 25, _ => rfl
theorem wI_19 {ga : Nat → Nat} {n : Nat} {cT cZ : ClassId} {M : cSt} {v : Int} : (wld ga n cT cZ M).set 5 (ga 5, .inr (8, [.ref (ga 8), .ref (ga 1), .ref (ga 13), .int (iI (gI M 18)), .int (iI v), ctv ga (gR M 9 0)])) = wld ga n cT cZ (sI M 19 v) := wld_set (i := 5) (Ei_19 ga cT cZ M v) (Eo_19 ga cT cZ M v)
theorem Ei_20 (ga : Nat → Nat) (cT cZ : ClassId) (M : cSt) (v : Int) : cE ga cT cZ (sI M 20 v) 6 = .inr (2, [.int (iI v), .ref (ga 8), .ref (ga 1), .ref (ga 2), .ref (ga 3), .ref (ga 14), .int (iI (gI M 21)), .int (iI (gI M 22)), .int (iI (gI M 23))]) := rfl
theorem Eo_20 (ga : Nat → Nat) (cT cZ : ClassId) (M : cSt) (v : Int) : ∀ i, i ≠ 6 → cE ga cT cZ (sI M 20 v) i = cE ga cT cZ M i
  | 0, h => rfl
  | 1, h => rfl
  | 2, h => rfl
  | 3, h => rfl
  | 4, h => rfl
  | 5, h => rfl
  | 6, h => absurd rfl h
  | 7, h => rfl
  | 8, h => rfl
  | 9, h => rfl
  | 10, h => rfl
  | 11, h => rfl
  | 12, h => rfl
  | 13, h => rfl
  | 14, h => rfl
  | 15, h => rfl
  | 16, h => rfl
  | 17, h => rfl
  | 18, h => rfl
  | 19, h => rfl
  | 20, h => rfl
  | 21, h => rfl
  | 22, h => rfl
  | 23, h => rfl
  | 24, h => rfl
  | _ + 25, _ => rfl
theorem wI_20 {ga : Nat → Nat} {n : Nat} {cT cZ : ClassId} {M : cSt} {v : Int} : (wld ga n cT cZ M).set 6 (ga 6, .inr (2, [.int (iI v), .ref (ga 8), .ref (ga 1), .ref (ga 2), .ref (ga 3), .ref (ga 14), .int (iI (gI M 21)), .int (iI (gI M 22)), .int (iI (gI M 23))])) = wld ga n cT cZ (sI M 20 v) := wld_set (i := 6) (Ei_20 ga cT cZ M v) (Eo_20 ga cT cZ M v)
theorem Ei_21 (ga : Nat → Nat) (cT cZ : ClassId) (M : cSt) (v : Int) : cE ga cT cZ (sI M 21 v) 6 = .inr (2, [.int (iI (gI M 20)), .ref (ga 8), .ref (ga 1), .ref (ga 2), .ref (ga 3), .ref (ga 14), .int (iI v), .int (iI (gI M 22)), .int (iI (gI M 23))]) := rfl
theorem Eo_21 (ga : Nat → Nat) (cT cZ : ClassId) (M : cSt) (v : Int) : ∀ i, i ≠ 6 → cE ga cT cZ (sI M 21 v) i = cE ga cT cZ M i
  | 0, h => rfl
  | 1, h => rfl
  | 2, h => rfl
  | 3, h => rfl
  | 4, h => rfl
  | 5, h => rfl
  | 6, h => absurd rfl h
  | 7, h => rfl
  | 8, h => rfl
  | 9, h => rfl
  | 10, h => rfl
  | 11, h => rfl
  | 12, h => rfl
  | 13, h => rfl
  | 14, h => rfl
  | 15, h => rfl
  | 16, h => rfl
  | 17, h => rfl
  | 18, h => rfl
  | 19, h => rfl
  | 20, h => rfl
  | 21, h => rfl
  | 22, h => rfl
  | 23, h => rfl
  | 24, h => rfl
  | _ + 25, _ => rfl
theorem wI_21 {ga : Nat → Nat} {n : Nat} {cT cZ : ClassId} {M : cSt} {v : Int} : (wld ga n cT cZ M).set 6 (ga 6, .inr (2, [.int (iI (gI M 20)), .ref (ga 8), .ref (ga 1), .ref (ga 2), .ref (ga 3), .ref (ga 14), .int (iI v), .int (iI (gI M 22)), .int (iI (gI M 23))])) = wld ga n cT cZ (sI M 21 v) := wld_set (i := 6) (Ei_21 ga cT cZ M v) (Eo_21 ga cT cZ M v)
theorem Ei_22 (ga : Nat → Nat) (cT cZ : ClassId) (M : cSt) (v : Int) : cE ga cT cZ (sI M 22 v) 6 = .inr (2, [.int (iI (gI M 20)), .ref (ga 8), .ref (ga 1), .ref (ga 2), .ref (ga 3), .ref (ga 14), .int (iI (gI M 21)), .int (iI v), .int (iI (gI M 23))]) := rfl
theorem Eo_22 (ga : Nat → Nat) (cT cZ : ClassId) (M : cSt) (v : Int) : ∀ i, i ≠ 6 → cE ga cT cZ (sI M 22 v) i = cE ga cT cZ M i
  | 0, h => rfl
  | 1, h => rfl
  | 2, h => rfl
  | 3, h => rfl
  | 4, h => rfl
  | 5, h => rfl
  | 6, h => absurd rfl h
  | 7, h => rfl
  | 8, h => rfl
  | 9, h => rfl
  | 10, h => rfl
  | 11, h => rfl
  | 12, h => rfl
  | 13, h => rfl
  | 14, h => rfl
  | 15, h => rfl
  | 16, h => rfl
  | 17, h => rfl
  | 18, h => rfl
  | 19, h => rfl
  | 20, h => rfl
  | 21, h => rfl
  | 22, h => rfl
  | 23, h => rfl
  | 24, h => rfl
  | _ + 25, _ => rfl
theorem wI_22 {ga : Nat → Nat} {n : Nat} {cT cZ : ClassId} {M : cSt} {v : Int} : (wld ga n cT cZ M).set 6 (ga 6, .inr (2, [.int (iI (gI M 20)), .ref (ga 8), .ref (ga 1), .ref (ga 2), .ref (ga 3), .ref (ga 14), .int (iI (gI M 21)), .int (iI v), .int (iI (gI M 23))])) = wld ga n cT cZ (sI M 22 v) := wld_set (i := 6) (Ei_22 ga cT cZ M v) (Eo_22 ga cT cZ M v)
theorem Ei_23 (ga : Nat → Nat) (cT cZ : ClassId) (M : cSt) (v : Int) : cE ga cT cZ (sI M 23 v) 6 = .inr (2, [.int (iI (gI M 20)), .ref (ga 8), .ref (ga 1), .ref (ga 2), .ref (ga 3), .ref (ga 14), .int (iI (gI M 21)), .int (iI (gI M 22)), .int (iI v)]) := rfl
theorem Eo_23 (ga : Nat → Nat) (cT cZ : ClassId) (M : cSt) (v : Int) : ∀ i, i ≠ 6 → cE ga cT cZ (sI M 23 v) i = cE ga cT cZ M i
  | 0, h => rfl
  | 1, h => rfl
  | 2, h => rfl
  | 3, h => rfl
  | 4, h => rfl
  | 5, h => rfl
  | 6, h => absurd rfl h
  | 7, h => rfl
  | 8, h => rfl
  | 9, h => rfl
  | 10, h => rfl
  | 11, h => rfl
  | 12, h => rfl
  | 13, h => rfl
  | 14, h => rfl
  | 15, h => rfl
  | 16, h => rfl
  | 17, h => rfl
  | 18, h => rfl
  | 19, h => rfl
  | 20, h => rfl
  | 21, h => rfl
  | 22, h => rfl
  | 23, h => rfl
  | 24, h => rfl
  | _ + 25, _ => rfl
theorem wI_23 {ga : Nat → Nat} {n : Nat} {cT cZ : ClassId} {M : cSt} {v : Int} : (wld ga n cT cZ M).set 6 (ga 6, .inr (2, [.int (iI (gI M 20)), .ref (ga 8), .ref (ga 1), .ref (ga 2), .ref (ga 3), .ref (ga 14), .int (iI (gI M 21)), .int (iI (gI M 22)), .int (iI v)])) = wld ga n cT cZ (sI M 23 v) := wld_set (i := 6) (Ei_23 ga cT cZ M v) (Eo_23 ga cT cZ M v)
theorem Eor_0 (ga : Nat → Nat) (cT cZ : ClassId) (M : cSt) (v : Int) : ∀ i, i ≠ 8 → cE ga cT cZ (sI M 10 v) i = cE ga cT cZ M i
  | 0, h => rfl
  | 1, h => rfl
  | 2, h => rfl
  | 3, h => rfl
  | 4, h => rfl
  | 5, h => rfl
  | 6, h => rfl
  | 7, h => rfl
  | 8, h => absurd rfl h
  | 9, h => rfl
  | 10, h => rfl
  | 11, h => rfl
  | 12, h => rfl
  | 13, h => rfl
  | 14, h => rfl
  | 15, h => rfl
  | 16, h => rfl
  | 17, h => rfl
  | 18, h => rfl
  | 19, h => rfl
  | 20, h => rfl
  | 21, h => rfl
  | 22, h => rfl
  | 23, h => rfl
  | 24, h => rfl
  | _ + 25, _ => rfl
theorem Eor_1 (ga : Nat → Nat) (cT cZ : ClassId) (M : cSt) (v : Int) : ∀ i, i ≠ 9 → cE ga cT cZ (sI M 11 v) i = cE ga cT cZ M i
  | 0, h => rfl
  | 1, h => rfl
  | 2, h => rfl
  | 3, h => rfl
  | 4, h => rfl
  | 5, h => rfl
  | 6, h => rfl
  | 7, h => rfl
  | 8, h => rfl
  | 9, h => absurd rfl h
  | 10, h => rfl
  | 11, h => rfl
  | 12, h => rfl
  | 13, h => rfl
  | 14, h => rfl
  | 15, h => rfl
  | 16, h => rfl
  | 17, h => rfl
  | 18, h => rfl
  | 19, h => rfl
  | 20, h => rfl
  | 21, h => rfl
  | 22, h => rfl
  | 23, h => rfl
  | 24, h => rfl
  | _ + 25, _ => rfl
theorem Eor_2 (ga : Nat → Nat) (cT cZ : ClassId) (M : cSt) (v : Int) : ∀ i, i ≠ 10 → cE ga cT cZ (sI M 12 v) i = cE ga cT cZ M i
  | 0, h => rfl
  | 1, h => rfl
  | 2, h => rfl
  | 3, h => rfl
  | 4, h => rfl
  | 5, h => rfl
  | 6, h => rfl
  | 7, h => rfl
  | 8, h => rfl
  | 9, h => rfl
  | 10, h => absurd rfl h
  | 11, h => rfl
  | 12, h => rfl
  | 13, h => rfl
  | 14, h => rfl
  | 15, h => rfl
  | 16, h => rfl
  | 17, h => rfl
  | 18, h => rfl
  | 19, h => rfl
  | 20, h => rfl
  | 21, h => rfl
  | 22, h => rfl
  | 23, h => rfl
  | 24, h => rfl
  | _ + 25, _ => rfl
theorem Eor_3 (ga : Nat → Nat) (cT cZ : ClassId) (M : cSt) (v : Int) : ∀ i, i ≠ 11 → cE ga cT cZ (sI M 13 v) i = cE ga cT cZ M i
  | 0, h => rfl
  | 1, h => rfl
  | 2, h => rfl
  | 3, h => rfl
  | 4, h => rfl
  | 5, h => rfl
  | 6, h => rfl
  | 7, h => rfl
  | 8, h => rfl
  | 9, h => rfl
  | 10, h => rfl
  | 11, h => absurd rfl h
  | 12, h => rfl
  | 13, h => rfl
  | 14, h => rfl
  | 15, h => rfl
  | 16, h => rfl
  | 17, h => rfl
  | 18, h => rfl
  | 19, h => rfl
  | 20, h => rfl
  | 21, h => rfl
  | 22, h => rfl
  | 23, h => rfl
  | 24, h => rfl
  | _ + 25, _ => rfl
theorem Eor_4 (ga : Nat → Nat) (cT cZ : ClassId) (M : cSt) (v : Int) : ∀ i, i ≠ 12 → cE ga cT cZ (sI M 14 v) i = cE ga cT cZ M i
  | 0, h => rfl
  | 1, h => rfl
  | 2, h => rfl
  | 3, h => rfl
  | 4, h => rfl
  | 5, h => rfl
  | 6, h => rfl
  | 7, h => rfl
  | 8, h => rfl
  | 9, h => rfl
  | 10, h => rfl
  | 11, h => rfl
  | 12, h => absurd rfl h
  | 13, h => rfl
  | 14, h => rfl
  | 15, h => rfl
  | 16, h => rfl
  | 17, h => rfl
  | 18, h => rfl
  | 19, h => rfl
  | 20, h => rfl
  | 21, h => rfl
  | 22, h => rfl
  | 23, h => rfl
  | 24, h => rfl
  | _ + 25, _ => rfl
theorem Eor_5 (ga : Nat → Nat) (cT cZ : ClassId) (M : cSt) (v : Int) : ∀ i, i ≠ 13 → cE ga cT cZ (sI M 15 v) i = cE ga cT cZ M i
  | 0, h => rfl
  | 1, h => rfl
  | 2, h => rfl
  | 3, h => rfl
  | 4, h => rfl
  | 5, h => rfl
  | 6, h => rfl
  | 7, h => rfl
  | 8, h => rfl
  | 9, h => rfl
  | 10, h => rfl
  | 11, h => rfl
  | 12, h => rfl
  | 13, h => absurd rfl h
  | 14, h => rfl
  | 15, h => rfl
  | 16, h => rfl
  | 17, h => rfl
  | 18, h => rfl
  | 19, h => rfl
  | 20, h => rfl
  | 21, h => rfl
  | 22, h => rfl
  | 23, h => rfl
  | 24, h => rfl
  | _ + 25, _ => rfl
theorem Eor_6 (ga : Nat → Nat) (cT cZ : ClassId) (M : cSt) (v : Int) : ∀ i, i ≠ 14 → cE ga cT cZ (sI M 16 v) i = cE ga cT cZ M i
  | 0, h => rfl
  | 1, h => rfl
  | 2, h => rfl
  | 3, h => rfl
  | 4, h => rfl
  | 5, h => rfl
  | 6, h => rfl
  | 7, h => rfl
  | 8, h => rfl
  | 9, h => rfl
  | 10, h => rfl
  | 11, h => rfl
  | 12, h => rfl
  | 13, h => rfl
  | 14, h => absurd rfl h
  | 15, h => rfl
  | 16, h => rfl
  | 17, h => rfl
  | 18, h => rfl
  | 19, h => rfl
  | 20, h => rfl
  | 21, h => rfl
  | 22, h => rfl
  | 23, h => rfl
  | 24, h => rfl
  | _ + 25, _ => rfl
theorem Eor (ga : Nat → Nat) (cT cZ : ClassId) (M : cSt) (v : Int) {r : Nat} (h : r < 7) : ∀ i, i ≠ 8 + r → cE ga cT cZ (sI M (10 + r) v) i = cE ga cT cZ M i := by
  rcases (show r = 0 ∨ r = 1 ∨ r = 2 ∨ r = 3 ∨ r = 4 ∨ r = 5 ∨ r = 6 by omega) with rfl | rfl | rfl | rfl | rfl | rfl | rfl
  · exact Eor_0 ga cT cZ M v
  · exact Eor_1 ga cT cZ M v
  · exact Eor_2 ga cT cZ M v
  · exact Eor_3 ga cT cZ M v
  · exact Eor_4 ga cT cZ M v
  · exact Eor_5 ga cT cZ M v
  · exact Eor_6 ga cT cZ M v
theorem wIr {ga : Nat → Nat} {n : Nat} {cT cZ : ClassId} {M : cSt} {v : Int} {r : Nat} (h : r < 7) : (wld ga n cT cZ M).set (8 + r) (ga (8 + r), .inr (5, [.ref (ga (15 + r)), .int (iI v)])) = wld ga n cT cZ (sI M (10 + r) v) :=
  wld_set (i := 8 + r) ((E_ro ga cT cZ _ h).trans (by simp [cEro, gI, gIf_sI, va_up])) (Eor ga cT cZ M v h)
theorem Erow_0 (ga : Nat → Nat) (cT cZ : ClassId) (M : cSt) (a : Nat) (v : Option Nat) : ∀ i, i ≠ 15 → cE ga cT cZ (sR M 0 a v) i = cE ga cT cZ M i
  | 0, h => rfl
  | 1, h => rfl
  | 2, h => rfl
  | 3, h => rfl
  | 4, h => rfl
  | 5, h => rfl
  | 6, h => rfl
  | 7, h => rfl
  | 8, h => rfl
  | 9, h => rfl
  | 10, h => rfl
  | 11, h => rfl
  | 12, h => rfl
  | 13, h => rfl
  | 14, h => rfl
  | 15, h => absurd rfl h
  | 16, h => rfl
  | 17, h => rfl
  | 18, h => rfl
  | 19, h => rfl
  | 20, h => rfl
  | 21, h => rfl
  | 22, h => rfl
  | 23, h => rfl
  | 24, h => rfl
  | _ + 25, _ => rfl
theorem Erow_1 (ga : Nat → Nat) (cT cZ : ClassId) (M : cSt) (a : Nat) (v : Option Nat) : ∀ i, i ≠ 16 → cE ga cT cZ (sR M 1 a v) i = cE ga cT cZ M i
  | 0, h => rfl
  | 1, h => rfl
  | 2, h => rfl
  | 3, h => rfl
  | 4, h => rfl
  | 5, h => rfl
  | 6, h => rfl
  | 7, h => rfl
  | 8, h => rfl
  | 9, h => rfl
  | 10, h => rfl
  | 11, h => rfl
  | 12, h => rfl
  | 13, h => rfl
  | 14, h => rfl
  | 15, h => rfl
  | 16, h => absurd rfl h
  | 17, h => rfl
  | 18, h => rfl
  | 19, h => rfl
  | 20, h => rfl
  | 21, h => rfl
  | 22, h => rfl
  | 23, h => rfl
  | 24, h => rfl
  | _ + 25, _ => rfl
theorem Erow_2 (ga : Nat → Nat) (cT cZ : ClassId) (M : cSt) (a : Nat) (v : Option Nat) : ∀ i, i ≠ 17 → cE ga cT cZ (sR M 2 a v) i = cE ga cT cZ M i
  | 0, h => rfl
  | 1, h => rfl
  | 2, h => rfl
  | 3, h => rfl
  | 4, h => rfl
  | 5, h => rfl
  | 6, h => rfl
  | 7, h => rfl
  | 8, h => rfl
  | 9, h => rfl
  | 10, h => rfl
  | 11, h => rfl
  | 12, h => rfl
  | 13, h => rfl
  | 14, h => rfl
  | 15, h => rfl
  | 16, h => rfl
  | 17, h => absurd rfl h
  | 18, h => rfl
  | 19, h => rfl
  | 20, h => rfl
  | 21, h => rfl
  | 22, h => rfl
  | 23, h => rfl
  | 24, h => rfl
  | _ + 25, _ => rfl
theorem Erow_3 (ga : Nat → Nat) (cT cZ : ClassId) (M : cSt) (a : Nat) (v : Option Nat) : ∀ i, i ≠ 18 → cE ga cT cZ (sR M 3 a v) i = cE ga cT cZ M i
  | 0, h => rfl
  | 1, h => rfl
  | 2, h => rfl
  | 3, h => rfl
  | 4, h => rfl
  | 5, h => rfl
  | 6, h => rfl
  | 7, h => rfl
  | 8, h => rfl
  | 9, h => rfl
  | 10, h => rfl
  | 11, h => rfl
  | 12, h => rfl
  | 13, h => rfl
  | 14, h => rfl
  | 15, h => rfl
  | 16, h => rfl
  | 17, h => rfl
  | 18, h => absurd rfl h
  | 19, h => rfl
  | 20, h => rfl
  | 21, h => rfl
  | 22, h => rfl
  | 23, h => rfl
  | 24, h => rfl
  | _ + 25, _ => rfl
theorem Erow_4 (ga : Nat → Nat) (cT cZ : ClassId) (M : cSt) (a : Nat) (v : Option Nat) : ∀ i, i ≠ 19 → cE ga cT cZ (sR M 4 a v) i = cE ga cT cZ M i
  | 0, h => rfl
  | 1, h => rfl
  | 2, h => rfl
  | 3, h => rfl
  | 4, h => rfl
  | 5, h => rfl
  | 6, h => rfl
  | 7, h => rfl
  | 8, h => rfl
  | 9, h => rfl
  | 10, h => rfl
  | 11, h => rfl
  | 12, h => rfl
  | 13, h => rfl
  | 14, h => rfl
  | 15, h => rfl
  | 16, h => rfl
  | 17, h => rfl
  | 18, h => rfl
  | 19, h => absurd rfl h
  | 20, h => rfl
  | 21, h => rfl
  | 22, h => rfl
  | 23, h => rfl
  | 24, h => rfl
  | _ + 25, _ => rfl
theorem Erow_5 (ga : Nat → Nat) (cT cZ : ClassId) (M : cSt) (a : Nat) (v : Option Nat) : ∀ i, i ≠ 20 → cE ga cT cZ (sR M 5 a v) i = cE ga cT cZ M i
  | 0, h => rfl
  | 1, h => rfl
  | 2, h => rfl
  | 3, h => rfl
  | 4, h => rfl
  | 5, h => rfl
  | 6, h => rfl
  | 7, h => rfl
  | 8, h => rfl
  | 9, h => rfl
  | 10, h => rfl
  | 11, h => rfl
  | 12, h => rfl
  | 13, h => rfl
  | 14, h => rfl
  | 15, h => rfl
  | 16, h => rfl
  | 17, h => rfl
  | 18, h => rfl
  | 19, h => rfl
  | 20, h => absurd rfl h
  | 21, h => rfl
  | 22, h => rfl
  | 23, h => rfl
  | 24, h => rfl
  | _ + 25, _ => rfl
theorem Erow_6 (ga : Nat → Nat) (cT cZ : ClassId) (M : cSt) (a : Nat) (v : Option Nat) : ∀ i, i ≠ 21 → cE ga cT cZ (sR M 6 a v) i = cE ga cT cZ M i
  | 0, h => rfl
  | 1, h => rfl
  | 2, h => rfl
  | 3, h => rfl
  | 4, h => rfl
  | 5, h => rfl
  | 6, h => rfl
  | 7, h => rfl
  | 8, h => rfl
  | 9, h => rfl
  | 10, h => rfl
  | 11, h => rfl
  | 12, h => rfl
  | 13, h => rfl
  | 14, h => rfl
  | 15, h => rfl
  | 16, h => rfl
  | 17, h => rfl
  | 18, h => rfl
  | 19, h => rfl
  | 20, h => rfl
  | 21, h => absurd rfl h
  | 22, h => rfl
  | 23, h => rfl
  | 24, h => rfl
  | _ + 25, _ => rfl
theorem Erow_7 (ga : Nat → Nat) (cT cZ : ClassId) (M : cSt) (a : Nat) (v : Option Nat) : ∀ i, i ≠ 22 → cE ga cT cZ (sR M 7 a v) i = cE ga cT cZ M i
  | 0, h => rfl
  | 1, h => rfl
  | 2, h => rfl
  | 3, h => rfl
  | 4, h => rfl
  | 5, h => rfl
  | 6, h => rfl
  | 7, h => rfl
  | 8, h => rfl
  | 9, h => rfl
  | 10, h => rfl
  | 11, h => rfl
  | 12, h => rfl
  | 13, h => rfl
  | 14, h => rfl
  | 15, h => rfl
  | 16, h => rfl
  | 17, h => rfl
  | 18, h => rfl
  | 19, h => rfl
  | 20, h => rfl
  | 21, h => rfl
  | 22, h => absurd rfl h
  | 23, h => rfl
  | 24, h => rfl
  | _ + 25, _ => rfl
theorem Erow_8 (ga : Nat → Nat) (cT cZ : ClassId) (M : cSt) (a : Nat) (v : Option Nat) : ∀ i, i ≠ 23 → cE ga cT cZ (sR M 8 a v) i = cE ga cT cZ M i
  | 0, h => rfl
  | 1, h => rfl
  | 2, h => rfl
  | 3, h => rfl
  | 4, h => rfl
  | 5, h => rfl
  | 6, h => rfl
  | 7, h => rfl
  | 8, h => rfl
  | 9, h => rfl
  | 10, h => rfl
  | 11, h => rfl
  | 12, h => rfl
  | 13, h => rfl
  | 14, h => rfl
  | 15, h => rfl
  | 16, h => rfl
  | 17, h => rfl
  | 18, h => rfl
  | 19, h => rfl
  | 20, h => rfl
  | 21, h => rfl
  | 22, h => rfl
  | 23, h => absurd rfl h
  | 24, h => rfl
  | _ + 25, _ => rfl
theorem rf_up (ga : Nat → Nat) (f : Nat → Option Nat) (a : Nat) (v : Option Nat) : va_up (crf ga f) a (v.map (fun k => ga (25 + 2 * k))) = crf ga (va_up f a v) := by
  funext j; unfold crf va_up; by_cases h : j = a
  · rw [if_pos h, if_pos h]
  · rw [if_neg h, if_neg h]
theorem Erow (ga : Nat → Nat) (cT cZ : ClassId) (M : cSt) (a : Nat) (v : Option Nat) {r : Nat} (h : r < 9) : ∀ i, i ≠ 15 + r → cE ga cT cZ (sR M r a v) i = cE ga cT cZ M i := by
  rcases (show r = 0 ∨ r = 1 ∨ r = 2 ∨ r = 3 ∨ r = 4 ∨ r = 5 ∨ r = 6 ∨ r = 7 ∨ r = 8 by omega) with rfl | rfl | rfl | rfl | rfl | rfl | rfl | rfl | rfl
  · exact Erow_0 ga cT cZ M a v
  · exact Erow_1 ga cT cZ M a v
  · exact Erow_2 ga cT cZ M a v
  · exact Erow_3 ga cT cZ M a v
  · exact Erow_4 ga cT cZ M a v
  · exact Erow_5 ga cT cZ M a v
  · exact Erow_6 ga cT cZ M a v
  · exact Erow_7 ga cT cZ M a v
  · exact Erow_8 ga cT cZ M a v
theorem Erw_sR (ga : Nat → Nat) (cT : ClassId) (M : cSt) (r len a : Nat) (v : Option Nat) : cErw ga cT (sR M r a v) r len = .inl (cT, len, .inr (.inr (.inr (.inr (va_up (crf ga (gR M r)) a (v.map (fun k => ga (25 + 2 * k)))))))) := by
  rw [rf_up]
  show (Sum.inl (cT, len, Sum.inr (Sum.inr (Sum.inr (Sum.inr (crf ga (gRf (sR M r a v) r)))))) : va_E) = _
  rw [show gRf (sR M r a v) r = va_up (gRf M r) a v from by rw [gRf_sR]; unfold va_up; rw [if_pos rfl]]
/-- writing a place of a row's array -/
theorem wRr {ga : Nat → Nat} {n : Nat} {cT cZ : ClassId} {M : cSt} {a : Nat} {v : Option Nat} {r : Nat} (h : r < 7) : (wld ga n cT cZ M).set (15 + r) (ga (15 + r), .inl (cT, 200, .inr (.inr (.inr (.inr (va_up (crf ga (gR M r)) a (v.map (fun k => ga (25 + 2 * k))))))))) = wld ga n cT cZ (sR M r a v) :=
  wld_set (i := 15 + r) ((E_rw ga cT cZ _ h).trans (Erw_sR ga cT M r 200 a v)) (Erow ga cT cZ M a v (by omega))
theorem wR7 {ga : Nat → Nat} {n : Nat} {cT cZ : ClassId} {M : cSt} {a : Nat} {v : Option Nat} : (wld ga n cT cZ M).set 22 (ga 22, .inl (cT, 32, .inr (.inr (.inr (.inr (va_up (crf ga (gR M 7)) a (v.map (fun k => ga (25 + 2 * k))))))))) = wld ga n cT cZ (sR M 7 a v) :=
  wld_set (i := 22) (Erw_sR ga cT M 7 32 a v) (Erow ga cT cZ M a v (r := 7) (by omega))
theorem wR8 {ga : Nat → Nat} {n : Nat} {cT cZ : ClassId} {M : cSt} {a : Nat} {v : Option Nat} : (wld ga n cT cZ M).set 23 (ga 23, .inl (cT, 4, .inr (.inr (.inr (.inr (va_up (crf ga (gR M 8)) a (v.map (fun k => ga (25 + 2 * k))))))))) = wld ga n cT cZ (sR M 8 a v) :=
  wld_set (i := 23) (Erw_sR ga cT M 8 4 a v) (Erow ga cT cZ M a v (r := 8) (by omega))
theorem Ehol (ga : Nat → Nat) (cT cZ : ClassId) (M : cSt) (v : Option Nat) : ∀ i, i ≠ 5 → cE ga cT cZ (sR M 9 0 v) i = cE ga cT cZ M i
  | 0, h => rfl
  | 1, h => rfl
  | 2, h => rfl
  | 3, h => rfl
  | 4, h => rfl
  | 5, h => absurd rfl h
  | 6, h => rfl
  | 7, h => rfl
  | 8, h => rfl
  | 9, h => rfl
  | 10, h => rfl
  | 11, h => rfl
  | 12, h => rfl
  | 13, h => rfl
  | 14, h => rfl
  | 15, h => rfl
  | 16, h => rfl
  | 17, h => rfl
  | 18, h => rfl
  | 19, h => rfl
  | 20, h => rfl
  | 21, h => rfl
  | 22, h => rfl
  | 23, h => rfl
  | 24, h => rfl
  | _ + 25, _ => rfl
theorem wHol {ga : Nat → Nat} {n : Nat} {cT cZ : ClassId} {M : cSt} {v : Option Nat} : (wld ga n cT cZ M).set 5 (ga 5, .inr (8, [.ref (ga 8), .ref (ga 1), .ref (ga 13), .int (iI (gI M 18)), .int (iI (gI M 19)), ctv ga v])) = wld ga n cT cZ (sR M 9 0 v) := wld_set (i := 5) rfl (Ehol ga cT cZ M v)
theorem Ecar (ga : Nat → Nat) (cT cZ : ClassId) (M : cSt) (a : Nat) (v : Int) : ∀ i, i ≠ 24 → cE ga cT cZ (sZ M a v) i = cE ga cT cZ M i
  | 0, h => rfl
  | 1, h => rfl
  | 2, h => rfl
  | 3, h => rfl
  | 4, h => rfl
  | 5, h => rfl
  | 6, h => rfl
  | 7, h => rfl
  | 8, h => rfl
  | 9, h => rfl
  | 10, h => rfl
  | 11, h => rfl
  | 12, h => rfl
  | 13, h => rfl
  | 14, h => rfl
  | 15, h => rfl
  | 16, h => rfl
  | 17, h => rfl
  | 18, h => rfl
  | 19, h => rfl
  | 20, h => rfl
  | 21, h => rfl
  | 22, h => rfl
  | 23, h => rfl
  | 24, h => absurd rfl h
  | _ + 25, _ => rfl
theorem Ezz (ga : Nat → Nat) (cT cZ : ClassId) (M : cSt) (a : Nat) (v : Int) : cE ga cT cZ (sZ M a v) 24 = .inl (cZ, 20, .inl (va_up (cz M) a (iI v))) := by
  show (Sum.inl (cZ, 20, Sum.inl (cz (sZ M a v))) : va_E) = _
  rw [show cz (sZ M a v) = va_up (cz M) a (iI v) from funext fun j => by
    show iI (gZf (sZ M a v) j) = _
    rw [gZf_sZ]; unfold va_up; by_cases h : j = a
    · rw [if_pos h, if_pos h]
    · rw [if_neg h, if_neg h]; rfl]
theorem wZ {ga : Nat → Nat} {n : Nat} {cT cZ : ClassId} {M : cSt} {a : Nat} {v : Int} : (wld ga n cT cZ M).set 24 (ga 24, .inl (cZ, 20, .inl (va_up (cz M) a (iI v)))) = wld ga n cT cZ (sZ M a v) := wld_set (i := 24) (Ezz ga cT cZ M a v) (Ecar ga cT cZ M a v)
theorem E_lt25 (ga : Nat → Nat) (cT cZ : ClassId) {M M' : cSt} (hI : gIf M' = gIf M) (hR : gRf M' = gRf M) (hZ : gZf M' = gZf M) : ∀ i, i < 25 → cE ga cT cZ M' i = cE ga cT cZ M i
  | 0, _ => by simp only [cE, cEro, cErw, gI, gR, hI, hR, hZ]
  | 1, _ => by simp only [cE, cEro, cErw, gI, gR, hI, hR, hZ]
  | 2, _ => by simp only [cE, cEro, cErw, gI, gR, hI, hR, hZ]
  | 3, _ => by simp only [cE, cEro, cErw, gI, gR, hI, hR, hZ]
  | 4, _ => by simp only [cE, cEro, cErw, gI, gR, hI, hR, hZ]
  | 5, _ => by simp only [cE, cEro, cErw, gI, gR, hI, hR, hZ]
  | 6, _ => by simp only [cE, cEro, cErw, gI, gR, hI, hR, hZ]
  | 7, _ => by simp only [cE, cEro, cErw, gI, gR, hI, hR, hZ]
  | 8, _ => by simp only [cE, cEro, cErw, gI, gR, hI, hR, hZ]
  | 9, _ => by simp only [cE, cEro, cErw, gI, gR, hI, hR, hZ]
  | 10, _ => by simp only [cE, cEro, cErw, gI, gR, hI, hR, hZ]
  | 11, _ => by simp only [cE, cEro, cErw, gI, gR, hI, hR, hZ]
  | 12, _ => by simp only [cE, cEro, cErw, gI, gR, hI, hR, hZ]
  | 13, _ => by simp only [cE, cEro, cErw, gI, gR, hI, hR, hZ]
  | 14, _ => by simp only [cE, cEro, cErw, gI, gR, hI, hR, hZ]
  | 15, _ => by simp only [cE, cEro, cErw, gI, gR, hI, hR, hZ]
  | 16, _ => by simp only [cE, cEro, cErw, gI, gR, hI, hR, hZ]
  | 17, _ => by simp only [cE, cEro, cErw, gI, gR, hI, hR, hZ]
  | 18, _ => by simp only [cE, cEro, cErw, gI, gR, hI, hR, hZ]
  | 19, _ => by simp only [cE, cEro, cErw, gI, gR, hI, hR, hZ]
  | 20, _ => by simp only [cE, cEro, cErw, gI, gR, hI, hR, hZ]
  | 21, _ => by simp only [cE, cEro, cErw, gI, gR, hI, hR, hZ]
  | 22, _ => by simp only [cE, cEro, cErw, gI, gR, hI, hR, hZ]
  | 23, _ => by simp only [cE, cEro, cErw, gI, gR, hI, hR, hZ]
  | 24, _ => by rw [show cE ga cT cZ M' 24 = .inl (cZ, 20, .inl (cz M')) from rfl, show cE ga cT cZ M 24 = .inl (cZ, 20, .inl (cz M)) from rfl, show cz M' = cz M from funext fun j => by show iI (gZf M' j) = iI (gZf M j); rw [hZ]]
  | n + 25, h => absurd h (by omega)
theorem wT_0 {ga : Nat → Nat} {n : Nat} {cT cZ : ClassId} {M : cSt} {k : Nat} {v : Int} : (wld ga n cT cZ M).set (25 + 2 * k) (ga (25 + 2 * k), .inr (7, [.int (iI v), .ref (ga (26 + 2 * k)), .int (iI (gT M k 2)), .int (iI (gT M k 3)), .int (iI (gT M k 4)), .int (iI (gT M k 5)), .int (iI (gT M k 6)), .int (iI (gT M k 7)), .int (iI (gT M k 8)), .int (iI (gT M k 9)), .int (iI (gT M k 10)), .int (iI (gT M k 11)), .int (iI (gT M k 12)), .int (iI (gT M k 13))])) = wld ga n cT cZ (sT M k 0 v) := by
  refine wld_set (i := 25 + 2 * k) ((E_th ga cT cZ _ k).trans (by simp [cEth, gT, gTf_sT, va_up])) (fun j hj => ?_)
  rcases ix_cases j with h | ⟨q, rfl⟩ | ⟨q, rfl⟩
  · exact E_lt25 ga cT cZ (M := M) (M' := sT M k 0 v) rfl rfl rfl j h
  · rw [E_th, E_th]; have hq : q ≠ k := fun e => hj (by rw [e])
    simp [cEth, gT, gTf_sT, va_up, hq]
  · rw [E_fl, E_fl]; rfl
theorem wT_2 {ga : Nat → Nat} {n : Nat} {cT cZ : ClassId} {M : cSt} {k : Nat} {v : Int} : (wld ga n cT cZ M).set (25 + 2 * k) (ga (25 + 2 * k), .inr (7, [.int (iI (gT M k 0)), .ref (ga (26 + 2 * k)), .int (iI v), .int (iI (gT M k 3)), .int (iI (gT M k 4)), .int (iI (gT M k 5)), .int (iI (gT M k 6)), .int (iI (gT M k 7)), .int (iI (gT M k 8)), .int (iI (gT M k 9)), .int (iI (gT M k 10)), .int (iI (gT M k 11)), .int (iI (gT M k 12)), .int (iI (gT M k 13))])) = wld ga n cT cZ (sT M k 2 v) := by
  refine wld_set (i := 25 + 2 * k) ((E_th ga cT cZ _ k).trans (by simp [cEth, gT, gTf_sT, va_up])) (fun j hj => ?_)
  rcases ix_cases j with h | ⟨q, rfl⟩ | ⟨q, rfl⟩
  · exact E_lt25 ga cT cZ (M := M) (M' := sT M k 2 v) rfl rfl rfl j h
  · rw [E_th, E_th]; have hq : q ≠ k := fun e => hj (by rw [e])
    simp [cEth, gT, gTf_sT, va_up, hq]
  · rw [E_fl, E_fl]; rfl
theorem wT_3 {ga : Nat → Nat} {n : Nat} {cT cZ : ClassId} {M : cSt} {k : Nat} {v : Int} : (wld ga n cT cZ M).set (25 + 2 * k) (ga (25 + 2 * k), .inr (7, [.int (iI (gT M k 0)), .ref (ga (26 + 2 * k)), .int (iI (gT M k 2)), .int (iI v), .int (iI (gT M k 4)), .int (iI (gT M k 5)), .int (iI (gT M k 6)), .int (iI (gT M k 7)), .int (iI (gT M k 8)), .int (iI (gT M k 9)), .int (iI (gT M k 10)), .int (iI (gT M k 11)), .int (iI (gT M k 12)), .int (iI (gT M k 13))])) = wld ga n cT cZ (sT M k 3 v) := by
  refine wld_set (i := 25 + 2 * k) ((E_th ga cT cZ _ k).trans (by simp [cEth, gT, gTf_sT, va_up])) (fun j hj => ?_)
  rcases ix_cases j with h | ⟨q, rfl⟩ | ⟨q, rfl⟩
  · exact E_lt25 ga cT cZ (M := M) (M' := sT M k 3 v) rfl rfl rfl j h
  · rw [E_th, E_th]; have hq : q ≠ k := fun e => hj (by rw [e])
    simp [cEth, gT, gTf_sT, va_up, hq]
  · rw [E_fl, E_fl]; rfl
theorem wT_4 {ga : Nat → Nat} {n : Nat} {cT cZ : ClassId} {M : cSt} {k : Nat} {v : Int} : (wld ga n cT cZ M).set (25 + 2 * k) (ga (25 + 2 * k), .inr (7, [.int (iI (gT M k 0)), .ref (ga (26 + 2 * k)), .int (iI (gT M k 2)), .int (iI (gT M k 3)), .int (iI v), .int (iI (gT M k 5)), .int (iI (gT M k 6)), .int (iI (gT M k 7)), .int (iI (gT M k 8)), .int (iI (gT M k 9)), .int (iI (gT M k 10)), .int (iI (gT M k 11)), .int (iI (gT M k 12)), .int (iI (gT M k 13))])) = wld ga n cT cZ (sT M k 4 v) := by
  refine wld_set (i := 25 + 2 * k) ((E_th ga cT cZ _ k).trans (by simp [cEth, gT, gTf_sT, va_up])) (fun j hj => ?_)
  rcases ix_cases j with h | ⟨q, rfl⟩ | ⟨q, rfl⟩
  · exact E_lt25 ga cT cZ (M := M) (M' := sT M k 4 v) rfl rfl rfl j h
  · rw [E_th, E_th]; have hq : q ≠ k := fun e => hj (by rw [e])
    simp [cEth, gT, gTf_sT, va_up, hq]
  · rw [E_fl, E_fl]; rfl
theorem wT_5 {ga : Nat → Nat} {n : Nat} {cT cZ : ClassId} {M : cSt} {k : Nat} {v : Int} : (wld ga n cT cZ M).set (25 + 2 * k) (ga (25 + 2 * k), .inr (7, [.int (iI (gT M k 0)), .ref (ga (26 + 2 * k)), .int (iI (gT M k 2)), .int (iI (gT M k 3)), .int (iI (gT M k 4)), .int (iI v), .int (iI (gT M k 6)), .int (iI (gT M k 7)), .int (iI (gT M k 8)), .int (iI (gT M k 9)), .int (iI (gT M k 10)), .int (iI (gT M k 11)), .int (iI (gT M k 12)), .int (iI (gT M k 13))])) = wld ga n cT cZ (sT M k 5 v) := by
  refine wld_set (i := 25 + 2 * k) ((E_th ga cT cZ _ k).trans (by simp [cEth, gT, gTf_sT, va_up])) (fun j hj => ?_)
  rcases ix_cases j with h | ⟨q, rfl⟩ | ⟨q, rfl⟩
  · exact E_lt25 ga cT cZ (M := M) (M' := sT M k 5 v) rfl rfl rfl j h
  · rw [E_th, E_th]; have hq : q ≠ k := fun e => hj (by rw [e])
    simp [cEth, gT, gTf_sT, va_up, hq]
  · rw [E_fl, E_fl]; rfl
theorem wT_6 {ga : Nat → Nat} {n : Nat} {cT cZ : ClassId} {M : cSt} {k : Nat} {v : Int} : (wld ga n cT cZ M).set (25 + 2 * k) (ga (25 + 2 * k), .inr (7, [.int (iI (gT M k 0)), .ref (ga (26 + 2 * k)), .int (iI (gT M k 2)), .int (iI (gT M k 3)), .int (iI (gT M k 4)), .int (iI (gT M k 5)), .int (iI v), .int (iI (gT M k 7)), .int (iI (gT M k 8)), .int (iI (gT M k 9)), .int (iI (gT M k 10)), .int (iI (gT M k 11)), .int (iI (gT M k 12)), .int (iI (gT M k 13))])) = wld ga n cT cZ (sT M k 6 v) := by
  refine wld_set (i := 25 + 2 * k) ((E_th ga cT cZ _ k).trans (by simp [cEth, gT, gTf_sT, va_up])) (fun j hj => ?_)
  rcases ix_cases j with h | ⟨q, rfl⟩ | ⟨q, rfl⟩
  · exact E_lt25 ga cT cZ (M := M) (M' := sT M k 6 v) rfl rfl rfl j h
  · rw [E_th, E_th]; have hq : q ≠ k := fun e => hj (by rw [e])
    simp [cEth, gT, gTf_sT, va_up, hq]
  · rw [E_fl, E_fl]; rfl
theorem wT_7 {ga : Nat → Nat} {n : Nat} {cT cZ : ClassId} {M : cSt} {k : Nat} {v : Int} : (wld ga n cT cZ M).set (25 + 2 * k) (ga (25 + 2 * k), .inr (7, [.int (iI (gT M k 0)), .ref (ga (26 + 2 * k)), .int (iI (gT M k 2)), .int (iI (gT M k 3)), .int (iI (gT M k 4)), .int (iI (gT M k 5)), .int (iI (gT M k 6)), .int (iI v), .int (iI (gT M k 8)), .int (iI (gT M k 9)), .int (iI (gT M k 10)), .int (iI (gT M k 11)), .int (iI (gT M k 12)), .int (iI (gT M k 13))])) = wld ga n cT cZ (sT M k 7 v) := by
  refine wld_set (i := 25 + 2 * k) ((E_th ga cT cZ _ k).trans (by simp [cEth, gT, gTf_sT, va_up])) (fun j hj => ?_)
  rcases ix_cases j with h | ⟨q, rfl⟩ | ⟨q, rfl⟩
  · exact E_lt25 ga cT cZ (M := M) (M' := sT M k 7 v) rfl rfl rfl j h
  · rw [E_th, E_th]; have hq : q ≠ k := fun e => hj (by rw [e])
    simp [cEth, gT, gTf_sT, va_up, hq]
  · rw [E_fl, E_fl]; rfl
theorem wT_8 {ga : Nat → Nat} {n : Nat} {cT cZ : ClassId} {M : cSt} {k : Nat} {v : Int} : (wld ga n cT cZ M).set (25 + 2 * k) (ga (25 + 2 * k), .inr (7, [.int (iI (gT M k 0)), .ref (ga (26 + 2 * k)), .int (iI (gT M k 2)), .int (iI (gT M k 3)), .int (iI (gT M k 4)), .int (iI (gT M k 5)), .int (iI (gT M k 6)), .int (iI (gT M k 7)), .int (iI v), .int (iI (gT M k 9)), .int (iI (gT M k 10)), .int (iI (gT M k 11)), .int (iI (gT M k 12)), .int (iI (gT M k 13))])) = wld ga n cT cZ (sT M k 8 v) := by
  refine wld_set (i := 25 + 2 * k) ((E_th ga cT cZ _ k).trans (by simp [cEth, gT, gTf_sT, va_up])) (fun j hj => ?_)
  rcases ix_cases j with h | ⟨q, rfl⟩ | ⟨q, rfl⟩
  · exact E_lt25 ga cT cZ (M := M) (M' := sT M k 8 v) rfl rfl rfl j h
  · rw [E_th, E_th]; have hq : q ≠ k := fun e => hj (by rw [e])
    simp [cEth, gT, gTf_sT, va_up, hq]
  · rw [E_fl, E_fl]; rfl
theorem wT_9 {ga : Nat → Nat} {n : Nat} {cT cZ : ClassId} {M : cSt} {k : Nat} {v : Int} : (wld ga n cT cZ M).set (25 + 2 * k) (ga (25 + 2 * k), .inr (7, [.int (iI (gT M k 0)), .ref (ga (26 + 2 * k)), .int (iI (gT M k 2)), .int (iI (gT M k 3)), .int (iI (gT M k 4)), .int (iI (gT M k 5)), .int (iI (gT M k 6)), .int (iI (gT M k 7)), .int (iI (gT M k 8)), .int (iI v), .int (iI (gT M k 10)), .int (iI (gT M k 11)), .int (iI (gT M k 12)), .int (iI (gT M k 13))])) = wld ga n cT cZ (sT M k 9 v) := by
  refine wld_set (i := 25 + 2 * k) ((E_th ga cT cZ _ k).trans (by simp [cEth, gT, gTf_sT, va_up])) (fun j hj => ?_)
  rcases ix_cases j with h | ⟨q, rfl⟩ | ⟨q, rfl⟩
  · exact E_lt25 ga cT cZ (M := M) (M' := sT M k 9 v) rfl rfl rfl j h
  · rw [E_th, E_th]; have hq : q ≠ k := fun e => hj (by rw [e])
    simp [cEth, gT, gTf_sT, va_up, hq]
  · rw [E_fl, E_fl]; rfl
theorem wT_10 {ga : Nat → Nat} {n : Nat} {cT cZ : ClassId} {M : cSt} {k : Nat} {v : Int} : (wld ga n cT cZ M).set (25 + 2 * k) (ga (25 + 2 * k), .inr (7, [.int (iI (gT M k 0)), .ref (ga (26 + 2 * k)), .int (iI (gT M k 2)), .int (iI (gT M k 3)), .int (iI (gT M k 4)), .int (iI (gT M k 5)), .int (iI (gT M k 6)), .int (iI (gT M k 7)), .int (iI (gT M k 8)), .int (iI (gT M k 9)), .int (iI v), .int (iI (gT M k 11)), .int (iI (gT M k 12)), .int (iI (gT M k 13))])) = wld ga n cT cZ (sT M k 10 v) := by
  refine wld_set (i := 25 + 2 * k) ((E_th ga cT cZ _ k).trans (by simp [cEth, gT, gTf_sT, va_up])) (fun j hj => ?_)
  rcases ix_cases j with h | ⟨q, rfl⟩ | ⟨q, rfl⟩
  · exact E_lt25 ga cT cZ (M := M) (M' := sT M k 10 v) rfl rfl rfl j h
  · rw [E_th, E_th]; have hq : q ≠ k := fun e => hj (by rw [e])
    simp [cEth, gT, gTf_sT, va_up, hq]
  · rw [E_fl, E_fl]; rfl
theorem wT_11 {ga : Nat → Nat} {n : Nat} {cT cZ : ClassId} {M : cSt} {k : Nat} {v : Int} : (wld ga n cT cZ M).set (25 + 2 * k) (ga (25 + 2 * k), .inr (7, [.int (iI (gT M k 0)), .ref (ga (26 + 2 * k)), .int (iI (gT M k 2)), .int (iI (gT M k 3)), .int (iI (gT M k 4)), .int (iI (gT M k 5)), .int (iI (gT M k 6)), .int (iI (gT M k 7)), .int (iI (gT M k 8)), .int (iI (gT M k 9)), .int (iI (gT M k 10)), .int (iI v), .int (iI (gT M k 12)), .int (iI (gT M k 13))])) = wld ga n cT cZ (sT M k 11 v) := by
  refine wld_set (i := 25 + 2 * k) ((E_th ga cT cZ _ k).trans (by simp [cEth, gT, gTf_sT, va_up])) (fun j hj => ?_)
  rcases ix_cases j with h | ⟨q, rfl⟩ | ⟨q, rfl⟩
  · exact E_lt25 ga cT cZ (M := M) (M' := sT M k 11 v) rfl rfl rfl j h
  · rw [E_th, E_th]; have hq : q ≠ k := fun e => hj (by rw [e])
    simp [cEth, gT, gTf_sT, va_up, hq]
  · rw [E_fl, E_fl]; rfl
theorem wT_12 {ga : Nat → Nat} {n : Nat} {cT cZ : ClassId} {M : cSt} {k : Nat} {v : Int} : (wld ga n cT cZ M).set (25 + 2 * k) (ga (25 + 2 * k), .inr (7, [.int (iI (gT M k 0)), .ref (ga (26 + 2 * k)), .int (iI (gT M k 2)), .int (iI (gT M k 3)), .int (iI (gT M k 4)), .int (iI (gT M k 5)), .int (iI (gT M k 6)), .int (iI (gT M k 7)), .int (iI (gT M k 8)), .int (iI (gT M k 9)), .int (iI (gT M k 10)), .int (iI (gT M k 11)), .int (iI v), .int (iI (gT M k 13))])) = wld ga n cT cZ (sT M k 12 v) := by
  refine wld_set (i := 25 + 2 * k) ((E_th ga cT cZ _ k).trans (by simp [cEth, gT, gTf_sT, va_up])) (fun j hj => ?_)
  rcases ix_cases j with h | ⟨q, rfl⟩ | ⟨q, rfl⟩
  · exact E_lt25 ga cT cZ (M := M) (M' := sT M k 12 v) rfl rfl rfl j h
  · rw [E_th, E_th]; have hq : q ≠ k := fun e => hj (by rw [e])
    simp [cEth, gT, gTf_sT, va_up, hq]
  · rw [E_fl, E_fl]; rfl
theorem wT_13 {ga : Nat → Nat} {n : Nat} {cT cZ : ClassId} {M : cSt} {k : Nat} {v : Int} : (wld ga n cT cZ M).set (25 + 2 * k) (ga (25 + 2 * k), .inr (7, [.int (iI (gT M k 0)), .ref (ga (26 + 2 * k)), .int (iI (gT M k 2)), .int (iI (gT M k 3)), .int (iI (gT M k 4)), .int (iI (gT M k 5)), .int (iI (gT M k 6)), .int (iI (gT M k 7)), .int (iI (gT M k 8)), .int (iI (gT M k 9)), .int (iI (gT M k 10)), .int (iI (gT M k 11)), .int (iI (gT M k 12)), .int (iI v)])) = wld ga n cT cZ (sT M k 13 v) := by
  refine wld_set (i := 25 + 2 * k) ((E_th ga cT cZ _ k).trans (by simp [cEth, gT, gTf_sT, va_up])) (fun j hj => ?_)
  rcases ix_cases j with h | ⟨q, rfl⟩ | ⟨q, rfl⟩
  · exact E_lt25 ga cT cZ (M := M) (M' := sT M k 13 v) rfl rfl rfl j h
  · rw [E_th, E_th]; have hq : q ≠ k := fun e => hj (by rw [e])
    simp [cEth, gT, gTf_sT, va_up, hq]
  · rw [E_fl, E_fl]; rfl
theorem wF {ga : Nat → Nat} {n : Nat} {cT cZ : ClassId} {M : cSt} {k a : Nat} {v : Option Nat} : (wld ga n cT cZ M).set (26 + 2 * k) (ga (26 + 2 * k), .inl (cT, gL M k, .inr (.inr (.inr (.inr (va_up (crf ga (gF M k)) a (v.map (fun k => ga (25 + 2 * k))))))))) = wld ga n cT cZ (sF M k a v) := by
  refine wld_set (i := 26 + 2 * k) ((E_fl ga cT cZ _ k).trans ?_) (fun j hj => ?_)
  · rw [rf_up]
    show (Sum.inl (cT, gL (sF M k a v) k, Sum.inr (Sum.inr (Sum.inr (Sum.inr (crf ga (gFf (sF M k a v) k)))))) : va_E) = _
    rw [show gFf (sF M k a v) k = va_up (gFf M k) a v from by rw [gFf_sF]; unfold va_up; rw [if_pos rfl]]
    rfl
  · rcases ix_cases j with h | ⟨q, rfl⟩ | ⟨q, rfl⟩
    · exact E_lt25 ga cT cZ (M := M) (M' := sF M k a v) rfl rfl rfl j h
    · rw [E_th, E_th]; rfl
    · rw [E_fl, E_fl]; have hq : q ≠ k := fun e => hj (by rw [e])
      simp [cEfl, gL, gF, gLf_sF, gFf_sF, va_up, hq]
end
section
/-! CALLS over the whole world of the class: the callee has all of it. -/
theorem full_C (wl : va_W) : (List.range wl.length).map (fun i => wl[i]?) = wl.map some := by
  refine List.ext_getElem? (fun k => ?_)
  rw [List.getElem?_map, List.getElem?_map]
  by_cases h : k < wl.length
  · rw [List.getElem?_range h]; show some (wl[k]?) = _; rw [List.getElem?_eq_getElem h]; rfl
  · rw [List.getElem?_eq_none (by rw [List.length_range]; omega), List.getElem?_eq_none (by omega)]; rfl
theorem full_n : ∀ (L : List Nat), L.Nodup → va_nd L = true
  | [], _ => rfl
  | a :: L, h => by
    rw [List.nodup_cons] at h
    have := full_n L h.2
    simp [va_nd, h.1, this]
section GK
variable {p : Program} {l : Launch} {e : Env} {R : Room} {s : State} {m : MethodId} {args : Array Value} {below : List Frame} {meth : Method} {c : Code} {H : Heap} {locs : List Loc} {cells slots : Nat} {Q : State → Prop}
variable {D : va_G} {wl : va_W} {A : Nat → Prop} {pc : Nat} {ls : Array Slot} {rest st : List Value} {mc ms : Nat} {av : Array Value} {w1 : (Nat → Nat) → va_W}
theorem gk_v (hr : va_Run p l e R s m args below meth c H locs cells slots mc ms (F0 m pc ls st) rest (CQv D w1 (va_A wl H.size) av) (va_A wl H.size)) (hP : va_P D cl wl H) (hD : va_D A wl) (hS : va_S A s.heap H locs) (hA : ∀ q, s.heap.size ≤ q → A q)
    (kk : ∀ (u : Nat → Nat) (H1 : Heap) (locs1 : List Loc), va_P D cl (w1 u) H1 → va_D A (w1 u) → va_S A s.heap H1 locs1 → W p l e R s m args below meth c H1 locs1 (cells + mc) (slots + ms) Q (F0 m (pc + 3) ls rest)) : W p l e R s m args below meth c H locs cells slots Q (F0 m pc ls st) :=
  k_v (wr := []) hr hP hD hS hA (List.range wl.length) [] (full_C wl) rfl rfl (fun _ h => nomatch h) (fun _ => rfl) kk
theorem gk_i {r : Int32} (hr : va_Run p l e R s m args below meth c H locs cells slots mc ms (F0 m pc ls st) rest (CQi r D w1 (va_A wl H.size) av) (va_A wl H.size)) (hP : va_P D cl wl H) (hD : va_D A wl) (hS : va_S A s.heap H locs) (hA : ∀ q, s.heap.size ≤ q → A q)
    (kk : ∀ (u : Nat → Nat) (H1 : Heap) (locs1 : List Loc), va_P D cl (w1 u) H1 → va_D A (w1 u) → va_S A s.heap H1 locs1 → W p l e R s m args below meth c H1 locs1 (cells + mc) (slots + ms) Q (F0 m (pc + 3) ls (.int r :: rest))) : W p l e R s m args below meth c H locs cells slots Q (F0 m pc ls st) :=
  k_i (wr := []) hr hP hD hS hA (List.range wl.length) [] (full_C wl) rfl rfl (fun _ h => nomatch h) (fun _ => rfl) kk
theorem gk_l {r : Int64} (hr : va_Run p l e R s m args below meth c H locs cells slots mc ms (F0 m pc ls st) rest (CQl r D w1 (va_A wl H.size) av) (va_A wl H.size)) (hP : va_P D cl wl H) (hD : va_D A wl) (hS : va_S A s.heap H locs) (hA : ∀ q, s.heap.size ≤ q → A q)
    (kk : ∀ (u : Nat → Nat) (H1 : Heap) (locs1 : List Loc), va_P D cl (w1 u) H1 → va_D A (w1 u) → va_S A s.heap H1 locs1 → W p l e R s m args below meth c H1 locs1 (cells + mc) (slots + ms) Q (F0 m (pc + 3) ls (.long r :: rest))) : W p l e R s m args below meth c H locs cells slots Q (F0 m pc ls st) :=
  k_l (wr := []) hr hP hD hS hA (List.range wl.length) [] (full_C wl) rfl rfl (fun _ h => nomatch h) (fun _ => rfl) kk
theorem gk_q {r : (Nat → Nat) → Option Nat} (hr : va_Run p l e R s m args below meth c H locs cells slots mc ms (F0 m pc ls st) rest (CQq r D w1 (va_A wl H.size) av) (va_A wl H.size)) (hP : va_P D cl wl H) (hD : va_D A wl) (hS : va_S A s.heap H locs) (hA : ∀ q, s.heap.size ≤ q → A q)
    (kk : ∀ (u : Nat → Nat) (H1 : Heap) (locs1 : List Loc), va_P D cl (w1 u) H1 → va_D A (w1 u) → va_S A s.heap H1 locs1 → W p l e R s m args below meth c H1 locs1 (cells + mc) (slots + ms) Q (F0 m (pc + 3) ls (va_rf (r u) :: rest))) : W p l e R s m args below meth c H locs cells slots Q (F0 m pc ls st) :=
  k_q (wr := []) hr hP hD hS hA (List.range wl.length) [] (full_C wl) rfl rfl (fun _ h => nomatch h) (fun _ => rfl) kk
end GK
/-! PURE METHODS in Option: 'none' where a road is not taken into account -/
/-- a call, or an operation that may have no result -/
def ob {α β : Type} (o : Option α) (k : α → Option β) : Option β := match o with | none => none | some a => k a
theorem ob_some {α β : Type} {o : Option α} {k : α → Option β} {r : β} (h : ob o k = some r) : ∃ a, o = some a ∧ k a = some r := by
  cases o with
  | none => cases h
  | some a => exact ⟨a, rfl, h⟩
theorem ob_of {α β : Type} {o : Option α} {k : α → Option β} {a : α} (h : o = some a) : ob o k = k a := by rw [h]; rfl
/-- a guard -/
def og {β : Type} (c : Prop) [Decidable c] (k : Option β) : Option β := if c then k else none
theorem og_some {β : Type} {c : Prop} [Decidable c] {k : Option β} {r : β} (h : og c k = some r) : c ∧ k = some r := by
  unfold og at h
  by_cases hc : c
  · rw [if_pos hc] at h; exact ⟨hc, h⟩
  · rw [if_neg hc] at h; cases h
theorem og_of {β : Type} {c : Prop} [Decidable c] {k : Option β} (hc : c) : og c k = k := if_pos hc
end
section
/-! A NEW THING: the world of one more; a case on a reference. -/
/-- a case on a reference -/
def on {β : Type} (e : Option Nat) (a : β) (b : Nat → β) : β := match e with | none => a | some k => b k
theorem on_cases {β : Type} {e : Option Nat} {a : β} {b : Nat → β} {x : β} (h : on e a b = x) : (e = none ∧ a = x) ∨ ∃ k, e = some k ∧ b k = x := by
  cases e with
  | none => exact Or.inl ⟨rfl, h⟩
  | some k => exact Or.inr ⟨k, rfl, h⟩
theorem on_none {β : Type} {e : Option Nat} {a : β} {b : Nat → β} (h : e = none) : on e a b = a := by rw [h]; rfl
theorem on_of {β : Type} {e : Option Nat} {a : β} {b : Nat → β} {k : Nat} (h : e = some k) : on e a b = b k := by rw [h]; rfl
theorem ctv_some (ga : Nat → Nat) {e : Option Nat} {k : Nat} (h : e = some k) : ctv ga e = .ref (ga (25 + 2 * k)) := by rw [h]; rfl
theorem ctv_none (ga : Nat → Nat) {e : Option Nat} (h : e = none) : ctv ga e = .null := by rw [h]; rfl
/-- references lead to things that were made -/
def cRf (n : Nat) (M : cSt) : Prop := (∀ r j k, gR M r j = some k → k < n) ∧ (∀ k j q, gF M k j = some q → q < n)
theorem crf_ga {n : Nat} {ga ga' : Nat → Nat} (h : ∀ i, i < 25 + 2 * n → ga i = ga' i) {f : Nat → Option Nat} (hf : ∀ j k, f j = some k → k < n) : crf ga f = crf ga' f := by
  funext j
  unfold crf
  cases hj : f j with
  | none => rfl
  | some k => show some (ga (25 + 2 * k)) = some (ga' (25 + 2 * k)); rw [h _ (by have := hf j k hj; omega)]
theorem ctv_ga {n : Nat} {ga ga' : Nat → Nat} (h : ∀ i, i < 25 + 2 * n → ga i = ga' i) {o : Option Nat} (ho : ∀ k, o = some k → k < n) : ctv ga o = ctv ga' o := by
  cases o with
  | none => rfl
  | some k => show Value.ref (ga (25 + 2 * k)) = Value.ref (ga' (25 + 2 * k)); rw [h _ (by have := ho k rfl; omega)]
theorem cE_ga {n : Nat} {ga ga' : Nat → Nat} (cT cZ : ClassId) {M : cSt} (h : ∀ i, i < 25 + 2 * n → ga i = ga' i) (hw : cRf n M) : ∀ i, i < 25 + 2 * n → cE ga cT cZ M i = cE ga' cT cZ M i := by
  intro i hi
  have hr : ∀ r, crf ga (gR M r) = crf ga' (gR M r) := fun r => crf_ga h (hw.1 r)
  rcases ix_cases i with h9 | ⟨k, rfl⟩ | ⟨k, rfl⟩
  · have hs : ∀ j, j < 25 → ga j = ga' j := fun j hj => h j (by omega)
    have hc : ctv ga (gR M 9 0) = ctv ga' (gR M 9 0) := ctv_ga h (hw.1 9 0)
    rcases (show i = 0 ∨ i = 1 ∨ i = 2 ∨ i = 3 ∨ i = 4 ∨ i = 5 ∨ i = 6 ∨ i = 7 ∨ i = 8 ∨ i = 9 ∨ i = 10 ∨ i = 11 ∨ i = 12 ∨ i = 13 ∨ i = 14 ∨ i = 15 ∨ i = 16 ∨ i = 17 ∨ i = 18 ∨ i = 19 ∨ i = 20 ∨ i = 21 ∨ i = 22 ∨ i = 23 ∨ i = 24 by omega) with rfl | rfl | rfl | rfl | rfl | rfl | rfl | rfl | rfl | rfl | rfl | rfl | rfl | rfl | rfl | rfl | rfl | rfl | rfl | rfl | rfl | rfl | rfl | rfl | rfl
    · simp only [cE, cEro, cErw, Nat.reduceAdd, hr, hc, hs 0 (by decide), hs 1 (by decide), hs 2 (by decide), hs 3 (by decide), hs 4 (by decide), hs 5 (by decide), hs 6 (by decide), hs 7 (by decide), hs 8 (by decide), hs 9 (by decide), hs 10 (by decide), hs 11 (by decide), hs 12 (by decide), hs 13 (by decide), hs 14 (by decide), hs 15 (by decide), hs 16 (by decide), hs 17 (by decide), hs 18 (by decide), hs 19 (by decide), hs 20 (by decide), hs 21 (by decide), hs 22 (by decide), hs 23 (by decide), hs 24 (by decide)]
    · simp only [cE, cEro, cErw, Nat.reduceAdd, hr, hc, hs 0 (by decide), hs 1 (by decide), hs 2 (by decide), hs 3 (by decide), hs 4 (by decide), hs 5 (by decide), hs 6 (by decide), hs 7 (by decide), hs 8 (by decide), hs 9 (by decide), hs 10 (by decide), hs 11 (by decide), hs 12 (by decide), hs 13 (by decide), hs 14 (by decide), hs 15 (by decide), hs 16 (by decide), hs 17 (by decide), hs 18 (by decide), hs 19 (by decide), hs 20 (by decide), hs 21 (by decide), hs 22 (by decide), hs 23 (by decide), hs 24 (by decide)]
    · simp only [cE, cEro, cErw, Nat.reduceAdd, hr, hc, hs 0 (by decide), hs 1 (by decide), hs 2 (by decide), hs 3 (by decide), hs 4 (by decide), hs 5 (by decide), hs 6 (by decide), hs 7 (by decide), hs 8 (by decide), hs 9 (by decide), hs 10 (by decide), hs 11 (by decide), hs 12 (by decide), hs 13 (by decide), hs 14 (by decide), hs 15 (by decide), hs 16 (by decide), hs 17 (by decide), hs 18 (by decide), hs 19 (by decide), hs 20 (by decide), hs 21 (by decide), hs 22 (by decide), hs 23 (by decide), hs 24 (by decide)]
    · simp only [cE, cEro, cErw, Nat.reduceAdd, hr, hc, hs 0 (by decide), hs 1 (by decide), hs 2 (by decide), hs 3 (by decide), hs 4 (by decide), hs 5 (by decide), hs 6 (by decide), hs 7 (by decide), hs 8 (by decide), hs 9 (by decide), hs 10 (by decide), hs 11 (by decide), hs 12 (by decide), hs 13 (by decide), hs 14 (by decide), hs 15 (by decide), hs 16 (by decide), hs 17 (by decide), hs 18 (by decide), hs 19 (by decide), hs 20 (by decide), hs 21 (by decide), hs 22 (by decide), hs 23 (by decide), hs 24 (by decide)]
    · simp only [cE, cEro, cErw, Nat.reduceAdd, hr, hc, hs 0 (by decide), hs 1 (by decide), hs 2 (by decide), hs 3 (by decide), hs 4 (by decide), hs 5 (by decide), hs 6 (by decide), hs 7 (by decide), hs 8 (by decide), hs 9 (by decide), hs 10 (by decide), hs 11 (by decide), hs 12 (by decide), hs 13 (by decide), hs 14 (by decide), hs 15 (by decide), hs 16 (by decide), hs 17 (by decide), hs 18 (by decide), hs 19 (by decide), hs 20 (by decide), hs 21 (by decide), hs 22 (by decide), hs 23 (by decide), hs 24 (by decide)]
    · simp only [cE, cEro, cErw, Nat.reduceAdd, hr, hc, hs 0 (by decide), hs 1 (by decide), hs 2 (by decide), hs 3 (by decide), hs 4 (by decide), hs 5 (by decide), hs 6 (by decide), hs 7 (by decide), hs 8 (by decide), hs 9 (by decide), hs 10 (by decide), hs 11 (by decide), hs 12 (by decide), hs 13 (by decide), hs 14 (by decide), hs 15 (by decide), hs 16 (by decide), hs 17 (by decide), hs 18 (by decide), hs 19 (by decide), hs 20 (by decide), hs 21 (by decide), hs 22 (by decide), hs 23 (by decide), hs 24 (by decide)]
    · simp only [cE, cEro, cErw, Nat.reduceAdd, hr, hc, hs 0 (by decide), hs 1 (by decide), hs 2 (by decide), hs 3 (by decide), hs 4 (by decide), hs 5 (by decide), hs 6 (by decide), hs 7 (by decide), hs 8 (by decide), hs 9 (by decide), hs 10 (by decide), hs 11 (by decide), hs 12 (by decide), hs 13 (by decide), hs 14 (by decide), hs 15 (by decide), hs 16 (by decide), hs 17 (by decide), hs 18 (by decide), hs 19 (by decide), hs 20 (by decide), hs 21 (by decide), hs 22 (by decide), hs 23 (by decide), hs 24 (by decide)]
    · simp only [cE, cEro, cErw, Nat.reduceAdd, hr, hc, hs 0 (by decide), hs 1 (by decide), hs 2 (by decide), hs 3 (by decide), hs 4 (by decide), hs 5 (by decide), hs 6 (by decide), hs 7 (by decide), hs 8 (by decide), hs 9 (by decide), hs 10 (by decide), hs 11 (by decide), hs 12 (by decide), hs 13 (by decide), hs 14 (by decide), hs 15 (by decide), hs 16 (by decide), hs 17 (by decide), hs 18 (by decide), hs 19 (by decide), hs 20 (by decide), hs 21 (by decide), hs 22 (by decide), hs 23 (by decide), hs 24 (by decide)]
    · simp only [cE, cEro, cErw, Nat.reduceAdd, hr, hc, hs 0 (by decide), hs 1 (by decide), hs 2 (by decide), hs 3 (by decide), hs 4 (by decide), hs 5 (by decide), hs 6 (by decide), hs 7 (by decide), hs 8 (by decide), hs 9 (by decide), hs 10 (by decide), hs 11 (by decide), hs 12 (by decide), hs 13 (by decide), hs 14 (by decide), hs 15 (by decide), hs 16 (by decide), hs 17 (by decide), hs 18 (by decide), hs 19 (by decide), hs 20 (by decide), hs 21 (by decide), hs 22 (by decide), hs 23 (by decide), hs 24 (by decide)]
    · simp only [cE, cEro, cErw, Nat.reduceAdd, hr, hc, hs 0 (by decide), hs 1 (by decide), hs 2 (by decide), hs 3 (by decide), hs 4 (by decide), hs 5 (by decide), hs 6 (by decide), hs 7 (by decide), hs 8 (by decide), hs 9 (by decide), hs 10 (by decide), hs 11 (by decide), hs 12 (by decide), hs 13 (by decide), hs 14 (by decide), hs 15 (by decide), hs 16 (by decide), hs 17 (by decide), hs 18 (by decide), hs 19 (by decide), hs 20 (by decide), hs 21 (by decide), hs 22 (by decide), hs 23 (by decide), hs 24 (by decide)]
    · simp only [cE, cEro, cErw, Nat.reduceAdd, hr, hc, hs 0 (by decide), hs 1 (by decide), hs 2 (by decide), hs 3 (by decide), hs 4 (by decide), hs 5 (by decide), hs 6 (by decide), hs 7 (by decide), hs 8 (by decide), hs 9 (by decide), hs 10 (by decide), hs 11 (by decide), hs 12 (by decide), hs 13 (by decide), hs 14 (by decide), hs 15 (by decide), hs 16 (by decide), hs 17 (by decide), hs 18 (by decide), hs 19 (by decide), hs 20 (by decide), hs 21 (by decide), hs 22 (by decide), hs 23 (by decide), hs 24 (by decide)]
    · simp only [cE, cEro, cErw, Nat.reduceAdd, hr, hc, hs 0 (by decide), hs 1 (by decide), hs 2 (by decide), hs 3 (by decide), hs 4 (by decide), hs 5 (by decide), hs 6 (by decide), hs 7 (by decide), hs 8 (by decide), hs 9 (by decide), hs 10 (by decide), hs 11 (by decide), hs 12 (by decide), hs 13 (by decide), hs 14 (by decide), hs 15 (by decide), hs 16 (by decide), hs 17 (by decide), hs 18 (by decide), hs 19 (by decide), hs 20 (by decide), hs 21 (by decide), hs 22 (by decide), hs 23 (by decide), hs 24 (by decide)]
    · simp only [cE, cEro, cErw, Nat.reduceAdd, hr, hc, hs 0 (by decide), hs 1 (by decide), hs 2 (by decide), hs 3 (by decide), hs 4 (by decide), hs 5 (by decide), hs 6 (by decide), hs 7 (by decide), hs 8 (by decide), hs 9 (by decide), hs 10 (by decide), hs 11 (by decide), hs 12 (by decide), hs 13 (by decide), hs 14 (by decide), hs 15 (by decide), hs 16 (by decide), hs 17 (by decide), hs 18 (by decide), hs 19 (by decide), hs 20 (by decide), hs 21 (by decide), hs 22 (by decide), hs 23 (by decide), hs 24 (by decide)]
    · simp only [cE, cEro, cErw, Nat.reduceAdd, hr, hc, hs 0 (by decide), hs 1 (by decide), hs 2 (by decide), hs 3 (by decide), hs 4 (by decide), hs 5 (by decide), hs 6 (by decide), hs 7 (by decide), hs 8 (by decide), hs 9 (by decide), hs 10 (by decide), hs 11 (by decide), hs 12 (by decide), hs 13 (by decide), hs 14 (by decide), hs 15 (by decide), hs 16 (by decide), hs 17 (by decide), hs 18 (by decide), hs 19 (by decide), hs 20 (by decide), hs 21 (by decide), hs 22 (by decide), hs 23 (by decide), hs 24 (by decide)]
    · simp only [cE, cEro, cErw, Nat.reduceAdd, hr, hc, hs 0 (by decide), hs 1 (by decide), hs 2 (by decide), hs 3 (by decide), hs 4 (by decide), hs 5 (by decide), hs 6 (by decide), hs 7 (by decide), hs 8 (by decide), hs 9 (by decide), hs 10 (by decide), hs 11 (by decide), hs 12 (by decide), hs 13 (by decide), hs 14 (by decide), hs 15 (by decide), hs 16 (by decide), hs 17 (by decide), hs 18 (by decide), hs 19 (by decide), hs 20 (by decide), hs 21 (by decide), hs 22 (by decide), hs 23 (by decide), hs 24 (by decide)]
    · simp only [cE, cEro, cErw, Nat.reduceAdd, hr, hc, hs 0 (by decide), hs 1 (by decide), hs 2 (by decide), hs 3 (by decide), hs 4 (by decide), hs 5 (by decide), hs 6 (by decide), hs 7 (by decide), hs 8 (by decide), hs 9 (by decide), hs 10 (by decide), hs 11 (by decide), hs 12 (by decide), hs 13 (by decide), hs 14 (by decide), hs 15 (by decide), hs 16 (by decide), hs 17 (by decide), hs 18 (by decide), hs 19 (by decide), hs 20 (by decide), hs 21 (by decide), hs 22 (by decide), hs 23 (by decide), hs 24 (by decide)]
    · simp only [cE, cEro, cErw, Nat.reduceAdd, hr, hc, hs 0 (by decide), hs 1 (by decide), hs 2 (by decide), hs 3 (by decide), hs 4 (by decide), hs 5 (by decide), hs 6 (by decide), hs 7 (by decide), hs 8 (by decide), hs 9 (by decide), hs 10 (by decide), hs 11 (by decide), hs 12 (by decide), hs 13 (by decide), hs 14 (by decide), hs 15 (by decide), hs 16 (by decide), hs 17 (by decide), hs 18 (by decide), hs 19 (by decide), hs 20 (by decide), hs 21 (by decide), hs 22 (by decide), hs 23 (by decide), hs 24 (by decide)]
    · simp only [cE, cEro, cErw, Nat.reduceAdd, hr, hc, hs 0 (by decide), hs 1 (by decide), hs 2 (by decide), hs 3 (by decide), hs 4 (by decide), hs 5 (by decide), hs 6 (by decide), hs 7 (by decide), hs 8 (by decide), hs 9 (by decide), hs 10 (by decide), hs 11 (by decide), hs 12 (by decide), hs 13 (by decide), hs 14 (by decide), hs 15 (by decide), hs 16 (by decide), hs 17 (by decide), hs 18 (by decide), hs 19 (by decide), hs 20 (by decide), hs 21 (by decide), hs 22 (by decide), hs 23 (by decide), hs 24 (by decide)]
    · simp only [cE, cEro, cErw, Nat.reduceAdd, hr, hc, hs 0 (by decide), hs 1 (by decide), hs 2 (by decide), hs 3 (by decide), hs 4 (by decide), hs 5 (by decide), hs 6 (by decide), hs 7 (by decide), hs 8 (by decide), hs 9 (by decide), hs 10 (by decide), hs 11 (by decide), hs 12 (by decide), hs 13 (by decide), hs 14 (by decide), hs 15 (by decide), hs 16 (by decide), hs 17 (by decide), hs 18 (by decide), hs 19 (by decide), hs 20 (by decide), hs 21 (by decide), hs 22 (by decide), hs 23 (by decide), hs 24 (by decide)]
    · simp only [cE, cEro, cErw, Nat.reduceAdd, hr, hc, hs 0 (by decide), hs 1 (by decide), hs 2 (by decide), hs 3 (by decide), hs 4 (by decide), hs 5 (by decide), hs 6 (by decide), hs 7 (by decide), hs 8 (by decide), hs 9 (by decide), hs 10 (by decide), hs 11 (by decide), hs 12 (by decide), hs 13 (by decide), hs 14 (by decide), hs 15 (by decide), hs 16 (by decide), hs 17 (by decide), hs 18 (by decide), hs 19 (by decide), hs 20 (by decide), hs 21 (by decide), hs 22 (by decide), hs 23 (by decide), hs 24 (by decide)]
    · simp only [cE, cEro, cErw, Nat.reduceAdd, hr, hc, hs 0 (by decide), hs 1 (by decide), hs 2 (by decide), hs 3 (by decide), hs 4 (by decide), hs 5 (by decide), hs 6 (by decide), hs 7 (by decide), hs 8 (by decide), hs 9 (by decide), hs 10 (by decide), hs 11 (by decide), hs 12 (by decide), hs 13 (by decide), hs 14 (by decide), hs 15 (by decide), hs 16 (by decide), hs 17 (by decide), hs 18 (by decide), hs 19 (by decide), hs 20 (by decide), hs 21 (by decide), hs 22 (by decide), hs 23 (by decide), hs 24 (by decide)]
    · simp only [cE, cEro, cErw, Nat.reduceAdd, hr, hc, hs 0 (by decide), hs 1 (by decide), hs 2 (by decide), hs 3 (by decide), hs 4 (by decide), hs 5 (by decide), hs 6 (by decide), hs 7 (by decide), hs 8 (by decide), hs 9 (by decide), hs 10 (by decide), hs 11 (by decide), hs 12 (by decide), hs 13 (by decide), hs 14 (by decide), hs 15 (by decide), hs 16 (by decide), hs 17 (by decide), hs 18 (by decide), hs 19 (by decide), hs 20 (by decide), hs 21 (by decide), hs 22 (by decide), hs 23 (by decide), hs 24 (by decide)]
    · simp only [cE, cEro, cErw, Nat.reduceAdd, hr, hc, hs 0 (by decide), hs 1 (by decide), hs 2 (by decide), hs 3 (by decide), hs 4 (by decide), hs 5 (by decide), hs 6 (by decide), hs 7 (by decide), hs 8 (by decide), hs 9 (by decide), hs 10 (by decide), hs 11 (by decide), hs 12 (by decide), hs 13 (by decide), hs 14 (by decide), hs 15 (by decide), hs 16 (by decide), hs 17 (by decide), hs 18 (by decide), hs 19 (by decide), hs 20 (by decide), hs 21 (by decide), hs 22 (by decide), hs 23 (by decide), hs 24 (by decide)]
    · simp only [cE, cEro, cErw, Nat.reduceAdd, hr, hc, hs 0 (by decide), hs 1 (by decide), hs 2 (by decide), hs 3 (by decide), hs 4 (by decide), hs 5 (by decide), hs 6 (by decide), hs 7 (by decide), hs 8 (by decide), hs 9 (by decide), hs 10 (by decide), hs 11 (by decide), hs 12 (by decide), hs 13 (by decide), hs 14 (by decide), hs 15 (by decide), hs 16 (by decide), hs 17 (by decide), hs 18 (by decide), hs 19 (by decide), hs 20 (by decide), hs 21 (by decide), hs 22 (by decide), hs 23 (by decide), hs 24 (by decide)]
    · rfl
  · rw [E_th, E_th]; unfold cEth; rw [h _ (show 26 + 2 * k < 25 + 2 * n by omega)]
  · rw [E_fl, E_fl]; unfold cEfl; rw [crf_ga h (hw.2 k)]
/-- the addresses with those of one more thing -/
def ga_up (ga : Nat → Nat) (n q0 q1 : Nat) : Nat → Nat := fun i => if i = 25 + 2 * n then q0 else if i = 26 + 2 * n then q1 else ga i
theorem ga_up_lt {ga : Nat → Nat} {n q0 q1 i : Nat} (h : i < 25 + 2 * n) : ga i = ga_up ga n q0 q1 i := by
  unfold ga_up; rw [if_neg (by omega), if_neg (by omega)]
theorem ga_up_0 (ga : Nat → Nat) (n q0 q1 : Nat) : ga_up ga n q0 q1 (25 + 2 * n) = q0 := by unfold ga_up; rw [if_pos rfl]
theorem ga_up_1 (ga : Nat → Nat) (n q0 q1 : Nat) : ga_up ga n q0 q1 (26 + 2 * n) = q1 := by unfold ga_up; rw [if_neg (by omega), if_pos rfl]
theorem wld_snoc {ga : Nat → Nat} {n q0 q1 : Nat} {cT cZ : ClassId} {M : cSt} (hw : cRf n M) : wld ga n cT cZ M ++ [(q0, cEth (ga_up ga n q0 q1) M n), (q1, cEfl (ga_up ga n q0 q1) cT M n)] = wld (ga_up ga n q0 q1) (n + 1) cT cZ M := by
  refine List.ext_getElem? (fun j => ?_)
  have hlen : (wld ga n cT cZ M).length = 25 + 2 * n := by rw [wld, List.length_map, List.length_range]
  rcases Nat.lt_or_ge j (25 + 2 * n) with hl | hl
  · rw [List.getElem?_append_left (by omega), wld_get hl rfl, wld_get (ga := ga_up ga n q0 q1) (by omega) rfl, ← cE_ga cT cZ (fun i hi => ga_up_lt hi) hw j hl, ← ga_up_lt hl]
  · rw [List.getElem?_append_right (by omega), hlen]
    rcases (show j = 25 + 2 * n ∨ j = 26 + 2 * n ∨ 27 + 2 * n ≤ j by omega) with rfl | rfl | h3
    · rw [wld_get (ga := ga_up ga n q0 q1) (by omega) (E_th _ cT cZ M n), ga_up_0, Nat.sub_self]; rfl
    · rw [wld_get (ga := ga_up ga n q0 q1) (by omega) (E_fl _ cT cZ M n), ga_up_1, show 26 + 2 * n - (25 + 2 * n) = 1 by omega]; rfl
    · rw [List.getElem?_eq_none (by simp only [List.length_cons, List.length_nil]; omega), List.getElem?_eq_none (by rw [wld, List.length_map, List.length_range]; omega)]
end
section
/-! ROWS over references to things, numbers as Int, the cells of the class's world. Written by wip/p32/rows.py. -/
theorem ctv_cat (ga : Nat → Nat) (o : Option Nat) : (ctv ga o).category = 1 := by cases o <;> rfl
theorem it_T {α : Type} {c : Prop} [Decidable c] {A B x : α} (h : (if c then A else B) = x) (hc : c) : A = x := by rw [if_pos hc] at h; exact h
theorem it_F {α : Type} {c : Prop} [Decidable c] {A B x : α} (h : (if c then A else B) = x) (hc : ¬ c) : B = x := by rw [if_neg hc] at h; exact h
/-- a loop's exit, or an answer out of it -/
def os {α β : Type} (o : α ⊕ β) (k : α → Option β) : Option β := match o with | .inl y => k y | .inr y => some y
theorem os_l {α β : Type} {o : α ⊕ β} {k : α → Option β} {x : β} {y : α} (h : os o k = some x) (e : o = .inl y) : k y = some x := by rw [e] at h; exact h
theorem os_r {α β : Type} {o : α ⊕ β} {k : α → Option β} {x y : β} (h : os o k = some x) (e : o = .inr y) : y = x := by rw [e] at h; exact Option.some.inj h
/-- the same out of a loop within a loop -/
def oi {α β γ : Type} (o : α ⊕ β) (k : α → Option (γ ⊕ β)) : Option (γ ⊕ β) := match o with | .inl y => k y | .inr y => some (.inr y)
theorem oi_l {α β γ : Type} {o : α ⊕ β} {k : α → Option (γ ⊕ β)} {x : γ ⊕ β} {y : α} (h : oi o k = some x) (e : o = .inl y) : k y = some x := by rw [e] at h; exact h
theorem oi_r {α β γ : Type} {o : α ⊕ β} {k : α → Option (γ ⊕ β)} {x : γ ⊕ β} {y : β} (h : oi o k = some x) (e : o = .inr y) : x = .inr y := by rw [e] at h; exact (Option.some.inj h).symm
/-- locals: those that a store leaves -/
def lv_ok (i : Nat) : List (Nat × Value) → Prop
  | [] => True
  | q :: r => (q.1 ≠ i ∧ (q.1 + 1 ≠ i ∨ q.2.category = 1)) ∧ lv_ok i r
theorem lv_ok_mem {i : Nat} : ∀ {l : List (Nat × Value)}, lv_ok i l → ∀ q ∈ l, q.1 ≠ i ∧ (q.1 + 1 ≠ i ∨ q.2.category = 1)
  | [], _, _, h => absurd h List.not_mem_nil
  | _ :: _, h, q, hq => by
    rcases List.mem_cons.mp hq with rfl | hq
    · exact h.1
    · exact lv_ok_mem h.2 q hq
theorem lv_pk {ls : Array Slot} {nL : Nat} {l l' : List (Nat × Value)} (h : lv_has ls nL l) (is : List Nat) (hl : is.map (fun k => l[k]?) = l'.map some) : lv_has ls nL l' := by
  refine ⟨h.1, h.2.1, fun q hq => h.2.2 q ?_⟩
  have h1 : some q ∈ is.map (fun k => l[k]?) := by rw [hl]; exact List.mem_map_of_mem hq
  obtain ⟨k, -, hk⟩ := List.mem_map.mp h1
  exact List.mem_of_getElem? hk
theorem lv_keep {ls : Array Slot} {nL i : Nat} {v : Value} {l l' : List (Nat × Value)} (h : lv_has ls nL ((i, v) :: l.filter (fun q => !(q.1 == i) && !(q.1 + 1 == i && q.2.category == 2)))) (is : List Nat) (hl : is.map (fun k => l[k]?) = l'.map some) (hc : lv_ok i l') : lv_has ls nL ((i, v) :: l') := by
  refine ⟨h.1, h.2.1, fun q hq => h.2.2 q ?_⟩
  rcases List.mem_cons.mp hq with rfl | hq
  · exact List.mem_cons_self
  · refine List.mem_cons_of_mem _ (List.mem_filter.mpr ⟨?_, ?_⟩)
    · have h1 : some q ∈ is.map (fun k => l[k]?) := by rw [hl]; exact List.mem_map_of_mem hq
      obtain ⟨k, -, hk⟩ := List.mem_map.mp h1
      exact List.mem_of_getElem? hk
    · obtain ⟨h2, h3⟩ := lv_ok_mem hc q hq
      rcases h3 with h3 | h3 <;> simp [h2, h3]
theorem b01 {z : Int} (h : z = 0 ∨ z = 1) : iI z = nI 0 ∨ iI z = nI 1 := h.elim (fun e => Or.inl (by rw [e]; decide +kernel)) (fun e => Or.inr (by rw [e]; decide +kernel))
theorem nar_b {z : Int} (h : z = 0 ∨ z = 1) : narrow .boolean (.int (iI z)) = .int (iI z) := nar_01 (b01 h)
theorem fit_b {z : Int} (h : z = 0 ∨ z = 1) : fits .boolean (.int (iI z)) = true := fit_01 (b01 h)
theorem iI_div {a b : Int} (ha : inR a) (hb : inR b) (h0 : 0 < b) : iI a / iI b = iI (a.tdiv b) := by
  rw [← Int32.toInt_inj, Int32.toInt_div_of_ne_right _ _ (by
    intro h
    have := congrArg Int32.toInt h
    rw [iI_toInt hb] at this
    have h1 : (-1 : Int32).toInt = -1 := by decide +kernel
    omega), iI_toInt ha, iI_toInt hb, iI_toInt]
  have h1 : (a.tdiv b).natAbs ≤ a.natAbs := by rw [Int.natAbs_tdiv]; exact Nat.div_le_self _ _
  obtain ⟨h2, h3⟩ := ha
  refine ⟨by omega, ?_⟩
  rcases Int.le_total 0 a with h4 | h4
  · have := Int.tdiv_le_self b h4; omega
  · have h5 := Int.tdiv_nonneg (a := -a) (b := b) (by omega) (by omega); rw [Int.neg_tdiv] at h5; omega
theorem iI_ne0 {b : Int} (hb : inR b) (h : b ≠ 0) : ¬ iI b = 0 := fun e => h ((iI_inj hb ⟨by decide, by decide⟩).mp (e.trans iI_0.symm))
section ROWS
variable {p : Program} {l : Launch} {e : Env} {R : Room} {s : State} {m : MethodId} {args : Array Value} {below : List Frame} {meth : Method} {c : Code} {H : Heap} {locs : List Loc} {cells slots : Nat} {Q : State → Prop} {cc : ByteArray} {pc : Nat} {ls : Array Slot} {rest : List Value}
theorem t_aload (hx : p.tables.exec = Jvm.exec) (hb : c.code = cc) {i : Nat} {ga : Nat → Nat} {o : Option Nat} (hdg : decode cc pc = .ok (.aload i, 2)) (hl : ls[i]? = some (.val (ctv ga o))) (kk : W p l e R s m args below meth c H locs cells slots Q (F0 m (pc + 2) ls (ctv ga o :: rest))) : W p l e R s m args below meth c H locs cells slots Q (F0 m (pc) ls (rest)) := by
  cases o with
  | none => exact lv_aloadN hx hb hdg hl kk
  | some x => exact lv_aload hx hb hdg hl kk
theorem x_istore (hx : p.tables.exec = Jvm.exec) (hb : c.code = cc) {i : Nat} {nL : Nat} {x : Int32} {lv lv' : List (Nat × Value)} (hdg : decode cc pc = .ok (.istore i, 2)) (h : lv_has ls nL lv) (hn : i < nL) (is : List Nat) (hl : is.map (fun k => lv[k]?) = lv'.map some) (hc : lv_ok i lv') (kk : ∀ ls' : Array Slot, lv_has ls' nL ((i, .int x) :: lv') → W p l e R s m args below meth c H locs cells slots Q (F0 m (pc + 2) ls' (rest))) : W p l e R s m args below meth c H locs cells slots Q (F0 m (pc) ls (.int x :: rest)) := lv_istore hx hb hdg h hn rfl (fun ls' h' => kk ls' (lv_keep h' is hl hc))
theorem x_astore (hx : p.tables.exec = Jvm.exec) (hb : c.code = cc) {i : Nat} {nL : Nat} {x : Nat} {lv lv' : List (Nat × Value)} (hdg : decode cc pc = .ok (.astore i, 2)) (h : lv_has ls nL lv) (hn : i < nL) (is : List Nat) (hl : is.map (fun k => lv[k]?) = lv'.map some) (hc : lv_ok i lv') (kk : ∀ ls' : Array Slot, lv_has ls' nL ((i, .ref x) :: lv') → W p l e R s m args below meth c H locs cells slots Q (F0 m (pc + 2) ls' (rest))) : W p l e R s m args below meth c H locs cells slots Q (F0 m (pc) ls (.ref x :: rest)) := lv_astore hx hb hdg h hn rfl (fun ls' h' => kk ls' (lv_keep h' is hl hc))
theorem x_astoreN (hx : p.tables.exec = Jvm.exec) (hb : c.code = cc) {i : Nat} {nL : Nat}  {lv lv' : List (Nat × Value)} (hdg : decode cc pc = .ok (.astore i, 2)) (h : lv_has ls nL lv) (hn : i < nL) (is : List Nat) (hl : is.map (fun k => lv[k]?) = lv'.map some) (hc : lv_ok i lv') (kk : ∀ ls' : Array Slot, lv_has ls' nL ((i, .null) :: lv') → W p l e R s m args below meth c H locs cells slots Q (F0 m (pc + 2) ls' (rest))) : W p l e R s m args below meth c H locs cells slots Q (F0 m (pc) ls (.null :: rest)) := lv_astoreN hx hb hdg h hn rfl (fun ls' h' => kk ls' (lv_keep h' is hl hc))
theorem t_astore (hx : p.tables.exec = Jvm.exec) (hb : c.code = cc) {i : Nat} {nL : Nat} {ga : Nat → Nat} {o : Option Nat} {lv lv' : List (Nat × Value)} (hdg : decode cc pc = .ok (.astore i, 2)) (h : lv_has ls nL lv) (hn : i < nL) (is : List Nat) (hl : is.map (fun k => lv[k]?) = lv'.map some) (hc : lv_ok i lv') (kk : ∀ ls' : Array Slot, lv_has ls' nL ((i, ctv ga o) :: lv') → W p l e R s m args below meth c H locs cells slots Q (F0 m (pc + 2) ls' (rest))) : W p l e R s m args below meth c H locs cells slots Q (F0 m (pc) ls (ctv ga o :: rest)) := by
  cases o with
  | none => exact x_astoreN hx hb hdg h hn is hl hc kk
  | some y => exact x_astore hx hb hdg h hn is hl hc kk
theorem t_aload_n (hx : p.tables.exec = Jvm.exec) (hb : c.code = cc) {k : Fin 4} {i : Nat} {ga : Nat → Nat} {o : Option Nat} (hdg : decode cc pc = .ok (.aload_n k, 1)) (hi : (k : Nat) = i) (hl : ls[i]? = some (.val (ctv ga o))) (kk : W p l e R s m args below meth c H locs cells slots Q (F0 m (pc + 1) ls (ctv ga o :: rest))) : W p l e R s m args below meth c H locs cells slots Q (F0 m (pc) ls (rest)) := by
  cases o with
  | none => exact lv_aload_nN hx hb hdg hi hl kk
  | some x => exact lv_aload_n hx hb hdg hi hl kk
theorem x_istore_n (hx : p.tables.exec = Jvm.exec) (hb : c.code = cc) {k : Fin 4} {i : Nat} {nL : Nat} {x : Int32} {lv lv' : List (Nat × Value)} (hdg : decode cc pc = .ok (.istore_n k, 1)) (hi : (k : Nat) = i) (h : lv_has ls nL lv) (hn : i < nL) (is : List Nat) (hl : is.map (fun k => lv[k]?) = lv'.map some) (hc : lv_ok i lv') (kk : ∀ ls' : Array Slot, lv_has ls' nL ((i, .int x) :: lv') → W p l e R s m args below meth c H locs cells slots Q (F0 m (pc + 1) ls' (rest))) : W p l e R s m args below meth c H locs cells slots Q (F0 m (pc) ls (.int x :: rest)) := lv_istore_n hx hb hdg hi h hn rfl (fun ls' h' => kk ls' (lv_keep h' is hl hc))
theorem x_astore_n (hx : p.tables.exec = Jvm.exec) (hb : c.code = cc) {k : Fin 4} {i : Nat} {nL : Nat} {x : Nat} {lv lv' : List (Nat × Value)} (hdg : decode cc pc = .ok (.astore_n k, 1)) (hi : (k : Nat) = i) (h : lv_has ls nL lv) (hn : i < nL) (is : List Nat) (hl : is.map (fun k => lv[k]?) = lv'.map some) (hc : lv_ok i lv') (kk : ∀ ls' : Array Slot, lv_has ls' nL ((i, .ref x) :: lv') → W p l e R s m args below meth c H locs cells slots Q (F0 m (pc + 1) ls' (rest))) : W p l e R s m args below meth c H locs cells slots Q (F0 m (pc) ls (.ref x :: rest)) := lv_astore_n hx hb hdg hi h hn rfl (fun ls' h' => kk ls' (lv_keep h' is hl hc))
theorem x_astore_nN (hx : p.tables.exec = Jvm.exec) (hb : c.code = cc) {k : Fin 4} {i : Nat} {nL : Nat}  {lv lv' : List (Nat × Value)} (hdg : decode cc pc = .ok (.astore_n k, 1)) (hi : (k : Nat) = i) (h : lv_has ls nL lv) (hn : i < nL) (is : List Nat) (hl : is.map (fun k => lv[k]?) = lv'.map some) (hc : lv_ok i lv') (kk : ∀ ls' : Array Slot, lv_has ls' nL ((i, .null) :: lv') → W p l e R s m args below meth c H locs cells slots Q (F0 m (pc + 1) ls' (rest))) : W p l e R s m args below meth c H locs cells slots Q (F0 m (pc) ls (.null :: rest)) := lv_astore_nN hx hb hdg hi h hn rfl (fun ls' h' => kk ls' (lv_keep h' is hl hc))
theorem t_astore_n (hx : p.tables.exec = Jvm.exec) (hb : c.code = cc) {k : Fin 4} {i : Nat} {nL : Nat} {ga : Nat → Nat} {o : Option Nat} {lv lv' : List (Nat × Value)} (hdg : decode cc pc = .ok (.astore_n k, 1)) (hi : (k : Nat) = i) (h : lv_has ls nL lv) (hn : i < nL) (is : List Nat) (hl : is.map (fun k => lv[k]?) = lv'.map some) (hc : lv_ok i lv') (kk : ∀ ls' : Array Slot, lv_has ls' nL ((i, ctv ga o) :: lv') → W p l e R s m args below meth c H locs cells slots Q (F0 m (pc + 1) ls' (rest))) : W p l e R s m args below meth c H locs cells slots Q (F0 m (pc) ls (ctv ga o :: rest)) := by
  cases o with
  | none => exact x_astore_nN hx hb hdg hi h hn is hl hc kk
  | some y => exact x_astore_n hx hb hdg hi h hn is hl hc kk
theorem x_iinc (hx : p.tables.exec = Jvm.exec) (hb : c.code = cc) {i nL k : Nat} {n : Int} {x v : Int32} {lv lv' : List (Nat × Value)} (hdg : decode cc pc = .ok (.iinc i n, 3)) (h : lv_has ls nL lv) (hk : lv[k]? = some (i, .int x)) (hv : x + Int32.ofInt n = v) (hn : i < nL) (is : List Nat) (hl : is.map (fun k => lv[k]?) = lv'.map some) (hc : lv_ok i lv') (kk : ∀ ls' : Array Slot, lv_has ls' nL ((i, .int v) :: lv') → W p l e R s m args below meth c H locs cells slots Q (F0 m (pc + 3) ls' (rest))) : W p l e R s m args below meth c H locs cells slots Q (F0 m (pc) ls (rest)) := lv_iinc hx hb hdg h hk hv hn rfl (fun ls' h' => kk ls' (lv_keep h' is hl hc))
theorem i_icmp_lt_T (hx : p.tables.exec = Jvm.exec) (hb : c.code = cc) {a b : Int} (g1 : inR a) (g2 : inR b) {off : Int} {tgt : Nat} (hdg : decode cc pc = .ok (.if_icmp .lt off, 3)) (ht : (pc : Int) + off = (tgt : Int)) (hc : a < b) (kk : W p l e R s m args below meth c H locs cells slots Q (F0 m (tgt) ls (rest))) : W p l e R s m args below meth c H locs cells slots Q (F0 m (pc) ls (.int (iI b) :: .int (iI a) :: rest)) := lv_icmp_lt hx hb hdg ht (fun _ => kk) (fun h9 => absurd ((iI_lt g1 g2).mpr hc) h9)
theorem i_if_lt_T (hx : p.tables.exec = Jvm.exec) (hb : c.code = cc) {a : Int} (g1 : inR a) {off : Int} {tgt : Nat} (hdg : decode cc pc = .ok (.ifCond .lt off, 3)) (ht : (pc : Int) + off = (tgt : Int)) (hc : a < 0) (kk : W p l e R s m args below meth c H locs cells slots Q (F0 m (tgt) ls (rest))) : W p l e R s m args below meth c H locs cells slots Q (F0 m (pc) ls (.int (iI a) :: rest)) := by
  have g2 : inR 0 := ⟨by decide, by decide⟩
  have hz := iI_0
  refine lv_if_lt hx hb hdg ht ?_ ?_ <;> rw [← hz]
  · exact fun _ => kk
  · exact (fun h9 => absurd ((iI_lt g1 g2).mpr hc) h9)
theorem i_icmp_lt_F (hx : p.tables.exec = Jvm.exec) (hb : c.code = cc) {a b : Int} (g1 : inR a) (g2 : inR b) {off : Int} {tgt : Nat} (hdg : decode cc pc = .ok (.if_icmp .lt off, 3)) (ht : (pc : Int) + off = (tgt : Int)) (hc : ¬ a < b) (kk : W p l e R s m args below meth c H locs cells slots Q (F0 m (pc + 3) ls (rest))) : W p l e R s m args below meth c H locs cells slots Q (F0 m (pc) ls (.int (iI b) :: .int (iI a) :: rest)) := lv_icmp_lt hx hb hdg ht (fun h9 => absurd h9 (fun h9 => absurd ((iI_lt g1 g2).mp h9) hc)) (fun _ => kk)
theorem i_if_lt_F (hx : p.tables.exec = Jvm.exec) (hb : c.code = cc) {a : Int} (g1 : inR a) {off : Int} {tgt : Nat} (hdg : decode cc pc = .ok (.ifCond .lt off, 3)) (ht : (pc : Int) + off = (tgt : Int)) (hc : ¬ a < 0) (kk : W p l e R s m args below meth c H locs cells slots Q (F0 m (pc + 3) ls (rest))) : W p l e R s m args below meth c H locs cells slots Q (F0 m (pc) ls (.int (iI a) :: rest)) := by
  have g2 : inR 0 := ⟨by decide, by decide⟩
  have hz := iI_0
  refine lv_if_lt hx hb hdg ht ?_ ?_ <;> rw [← hz]
  · exact (fun h9 => absurd h9 (fun h9 => absurd ((iI_lt g1 g2).mp h9) hc))
  · exact fun _ => kk
theorem i_icmp_ge_T (hx : p.tables.exec = Jvm.exec) (hb : c.code = cc) {a b : Int} (g1 : inR a) (g2 : inR b) {off : Int} {tgt : Nat} (hdg : decode cc pc = .ok (.if_icmp .ge off, 3)) (ht : (pc : Int) + off = (tgt : Int)) (hc : ¬ a < b) (kk : W p l e R s m args below meth c H locs cells slots Q (F0 m (tgt) ls (rest))) : W p l e R s m args below meth c H locs cells slots Q (F0 m (pc) ls (.int (iI b) :: .int (iI a) :: rest)) := lv_icmp_ge hx hb hdg ht (fun _ => kk) (fun h9 => absurd ((iI_le g2 g1).mpr (by omega)) h9)
theorem i_if_ge_T (hx : p.tables.exec = Jvm.exec) (hb : c.code = cc) {a : Int} (g1 : inR a) {off : Int} {tgt : Nat} (hdg : decode cc pc = .ok (.ifCond .ge off, 3)) (ht : (pc : Int) + off = (tgt : Int)) (hc : ¬ a < 0) (kk : W p l e R s m args below meth c H locs cells slots Q (F0 m (tgt) ls (rest))) : W p l e R s m args below meth c H locs cells slots Q (F0 m (pc) ls (.int (iI a) :: rest)) := by
  have g2 : inR 0 := ⟨by decide, by decide⟩
  have hz := iI_0
  refine lv_if_ge hx hb hdg ht ?_ ?_ <;> rw [← hz]
  · exact fun _ => kk
  · exact (fun h9 => absurd ((iI_le g2 g1).mpr (by omega)) h9)
theorem i_icmp_ge_F (hx : p.tables.exec = Jvm.exec) (hb : c.code = cc) {a b : Int} (g1 : inR a) (g2 : inR b) {off : Int} {tgt : Nat} (hdg : decode cc pc = .ok (.if_icmp .ge off, 3)) (ht : (pc : Int) + off = (tgt : Int)) (hc : a < b) (kk : W p l e R s m args below meth c H locs cells slots Q (F0 m (pc + 3) ls (rest))) : W p l e R s m args below meth c H locs cells slots Q (F0 m (pc) ls (.int (iI b) :: .int (iI a) :: rest)) := lv_icmp_ge hx hb hdg ht (fun h9 => absurd h9 (fun h9 => absurd ((iI_le g2 g1).mp h9) (by omega))) (fun _ => kk)
theorem i_if_ge_F (hx : p.tables.exec = Jvm.exec) (hb : c.code = cc) {a : Int} (g1 : inR a) {off : Int} {tgt : Nat} (hdg : decode cc pc = .ok (.ifCond .ge off, 3)) (ht : (pc : Int) + off = (tgt : Int)) (hc : a < 0) (kk : W p l e R s m args below meth c H locs cells slots Q (F0 m (pc + 3) ls (rest))) : W p l e R s m args below meth c H locs cells slots Q (F0 m (pc) ls (.int (iI a) :: rest)) := by
  have g2 : inR 0 := ⟨by decide, by decide⟩
  have hz := iI_0
  refine lv_if_ge hx hb hdg ht ?_ ?_ <;> rw [← hz]
  · exact (fun h9 => absurd h9 (fun h9 => absurd ((iI_le g2 g1).mp h9) (by omega)))
  · exact fun _ => kk
theorem i_icmp_gt_T (hx : p.tables.exec = Jvm.exec) (hb : c.code = cc) {a b : Int} (g1 : inR a) (g2 : inR b) {off : Int} {tgt : Nat} (hdg : decode cc pc = .ok (.if_icmp .gt off, 3)) (ht : (pc : Int) + off = (tgt : Int)) (hc : b < a) (kk : W p l e R s m args below meth c H locs cells slots Q (F0 m (tgt) ls (rest))) : W p l e R s m args below meth c H locs cells slots Q (F0 m (pc) ls (.int (iI b) :: .int (iI a) :: rest)) := lv_icmp_gt hx hb hdg ht (fun _ => kk) (fun h9 => absurd ((iI_lt g2 g1).mpr hc) h9)
theorem i_if_gt_T (hx : p.tables.exec = Jvm.exec) (hb : c.code = cc) {a : Int} (g1 : inR a) {off : Int} {tgt : Nat} (hdg : decode cc pc = .ok (.ifCond .gt off, 3)) (ht : (pc : Int) + off = (tgt : Int)) (hc : 0 < a) (kk : W p l e R s m args below meth c H locs cells slots Q (F0 m (tgt) ls (rest))) : W p l e R s m args below meth c H locs cells slots Q (F0 m (pc) ls (.int (iI a) :: rest)) := by
  have g2 : inR 0 := ⟨by decide, by decide⟩
  have hz := iI_0
  refine lv_if_gt hx hb hdg ht ?_ ?_ <;> rw [← hz]
  · exact fun _ => kk
  · exact (fun h9 => absurd ((iI_lt g2 g1).mpr hc) h9)
theorem i_icmp_gt_F (hx : p.tables.exec = Jvm.exec) (hb : c.code = cc) {a b : Int} (g1 : inR a) (g2 : inR b) {off : Int} {tgt : Nat} (hdg : decode cc pc = .ok (.if_icmp .gt off, 3)) (ht : (pc : Int) + off = (tgt : Int)) (hc : ¬ b < a) (kk : W p l e R s m args below meth c H locs cells slots Q (F0 m (pc + 3) ls (rest))) : W p l e R s m args below meth c H locs cells slots Q (F0 m (pc) ls (.int (iI b) :: .int (iI a) :: rest)) := lv_icmp_gt hx hb hdg ht (fun h9 => absurd h9 (fun h9 => absurd ((iI_lt g2 g1).mp h9) hc)) (fun _ => kk)
theorem i_if_gt_F (hx : p.tables.exec = Jvm.exec) (hb : c.code = cc) {a : Int} (g1 : inR a) {off : Int} {tgt : Nat} (hdg : decode cc pc = .ok (.ifCond .gt off, 3)) (ht : (pc : Int) + off = (tgt : Int)) (hc : ¬ 0 < a) (kk : W p l e R s m args below meth c H locs cells slots Q (F0 m (pc + 3) ls (rest))) : W p l e R s m args below meth c H locs cells slots Q (F0 m (pc) ls (.int (iI a) :: rest)) := by
  have g2 : inR 0 := ⟨by decide, by decide⟩
  have hz := iI_0
  refine lv_if_gt hx hb hdg ht ?_ ?_ <;> rw [← hz]
  · exact (fun h9 => absurd h9 (fun h9 => absurd ((iI_lt g2 g1).mp h9) hc))
  · exact fun _ => kk
theorem i_icmp_le_T (hx : p.tables.exec = Jvm.exec) (hb : c.code = cc) {a b : Int} (g1 : inR a) (g2 : inR b) {off : Int} {tgt : Nat} (hdg : decode cc pc = .ok (.if_icmp .le off, 3)) (ht : (pc : Int) + off = (tgt : Int)) (hc : ¬ b < a) (kk : W p l e R s m args below meth c H locs cells slots Q (F0 m (tgt) ls (rest))) : W p l e R s m args below meth c H locs cells slots Q (F0 m (pc) ls (.int (iI b) :: .int (iI a) :: rest)) := lv_icmp_le hx hb hdg ht (fun _ => kk) (fun h9 => absurd ((iI_le g1 g2).mpr (by omega)) h9)
theorem i_if_le_T (hx : p.tables.exec = Jvm.exec) (hb : c.code = cc) {a : Int} (g1 : inR a) {off : Int} {tgt : Nat} (hdg : decode cc pc = .ok (.ifCond .le off, 3)) (ht : (pc : Int) + off = (tgt : Int)) (hc : ¬ 0 < a) (kk : W p l e R s m args below meth c H locs cells slots Q (F0 m (tgt) ls (rest))) : W p l e R s m args below meth c H locs cells slots Q (F0 m (pc) ls (.int (iI a) :: rest)) := by
  have g2 : inR 0 := ⟨by decide, by decide⟩
  have hz := iI_0
  refine lv_if_le hx hb hdg ht ?_ ?_ <;> rw [← hz]
  · exact fun _ => kk
  · exact (fun h9 => absurd ((iI_le g1 g2).mpr (by omega)) h9)
theorem i_icmp_le_F (hx : p.tables.exec = Jvm.exec) (hb : c.code = cc) {a b : Int} (g1 : inR a) (g2 : inR b) {off : Int} {tgt : Nat} (hdg : decode cc pc = .ok (.if_icmp .le off, 3)) (ht : (pc : Int) + off = (tgt : Int)) (hc : b < a) (kk : W p l e R s m args below meth c H locs cells slots Q (F0 m (pc + 3) ls (rest))) : W p l e R s m args below meth c H locs cells slots Q (F0 m (pc) ls (.int (iI b) :: .int (iI a) :: rest)) := lv_icmp_le hx hb hdg ht (fun h9 => absurd h9 (fun h9 => absurd ((iI_le g1 g2).mp h9) (by omega))) (fun _ => kk)
theorem i_if_le_F (hx : p.tables.exec = Jvm.exec) (hb : c.code = cc) {a : Int} (g1 : inR a) {off : Int} {tgt : Nat} (hdg : decode cc pc = .ok (.ifCond .le off, 3)) (ht : (pc : Int) + off = (tgt : Int)) (hc : 0 < a) (kk : W p l e R s m args below meth c H locs cells slots Q (F0 m (pc + 3) ls (rest))) : W p l e R s m args below meth c H locs cells slots Q (F0 m (pc) ls (.int (iI a) :: rest)) := by
  have g2 : inR 0 := ⟨by decide, by decide⟩
  have hz := iI_0
  refine lv_if_le hx hb hdg ht ?_ ?_ <;> rw [← hz]
  · exact (fun h9 => absurd h9 (fun h9 => absurd ((iI_le g1 g2).mp h9) (by omega)))
  · exact fun _ => kk
theorem i_icmp_eq_T (hx : p.tables.exec = Jvm.exec) (hb : c.code = cc) {a b : Int} (g1 : inR a) (g2 : inR b) {off : Int} {tgt : Nat} (hdg : decode cc pc = .ok (.if_icmp .eq off, 3)) (ht : (pc : Int) + off = (tgt : Int)) (hc : a = b) (kk : W p l e R s m args below meth c H locs cells slots Q (F0 m (tgt) ls (rest))) : W p l e R s m args below meth c H locs cells slots Q (F0 m (pc) ls (.int (iI b) :: .int (iI a) :: rest)) := lv_icmp_eq hx hb hdg ht (fun _ => kk) (fun h9 => absurd ((iI_inj g1 g2).mpr hc) h9)
theorem i_if_eq_T (hx : p.tables.exec = Jvm.exec) (hb : c.code = cc) {a : Int} (g1 : inR a) {off : Int} {tgt : Nat} (hdg : decode cc pc = .ok (.ifCond .eq off, 3)) (ht : (pc : Int) + off = (tgt : Int)) (hc : a = 0) (kk : W p l e R s m args below meth c H locs cells slots Q (F0 m (tgt) ls (rest))) : W p l e R s m args below meth c H locs cells slots Q (F0 m (pc) ls (.int (iI a) :: rest)) := by
  have g2 : inR 0 := ⟨by decide, by decide⟩
  have hz := iI_0
  refine lv_if_eq hx hb hdg ht ?_ ?_ <;> rw [← hz]
  · exact fun _ => kk
  · exact (fun h9 => absurd ((iI_inj g1 g2).mpr hc) h9)
theorem i_icmp_eq_F (hx : p.tables.exec = Jvm.exec) (hb : c.code = cc) {a b : Int} (g1 : inR a) (g2 : inR b) {off : Int} {tgt : Nat} (hdg : decode cc pc = .ok (.if_icmp .eq off, 3)) (ht : (pc : Int) + off = (tgt : Int)) (hc : ¬ a = b) (kk : W p l e R s m args below meth c H locs cells slots Q (F0 m (pc + 3) ls (rest))) : W p l e R s m args below meth c H locs cells slots Q (F0 m (pc) ls (.int (iI b) :: .int (iI a) :: rest)) := lv_icmp_eq hx hb hdg ht (fun h9 => absurd h9 (fun h9 => absurd ((iI_inj g1 g2).mp h9) hc)) (fun _ => kk)
theorem i_if_eq_F (hx : p.tables.exec = Jvm.exec) (hb : c.code = cc) {a : Int} (g1 : inR a) {off : Int} {tgt : Nat} (hdg : decode cc pc = .ok (.ifCond .eq off, 3)) (ht : (pc : Int) + off = (tgt : Int)) (hc : ¬ a = 0) (kk : W p l e R s m args below meth c H locs cells slots Q (F0 m (pc + 3) ls (rest))) : W p l e R s m args below meth c H locs cells slots Q (F0 m (pc) ls (.int (iI a) :: rest)) := by
  have g2 : inR 0 := ⟨by decide, by decide⟩
  have hz := iI_0
  refine lv_if_eq hx hb hdg ht ?_ ?_ <;> rw [← hz]
  · exact (fun h9 => absurd h9 (fun h9 => absurd ((iI_inj g1 g2).mp h9) hc))
  · exact fun _ => kk
theorem i_icmp_ne_T (hx : p.tables.exec = Jvm.exec) (hb : c.code = cc) {a b : Int} (g1 : inR a) (g2 : inR b) {off : Int} {tgt : Nat} (hdg : decode cc pc = .ok (.if_icmp .ne off, 3)) (ht : (pc : Int) + off = (tgt : Int)) (hc : ¬ a = b) (kk : W p l e R s m args below meth c H locs cells slots Q (F0 m (tgt) ls (rest))) : W p l e R s m args below meth c H locs cells slots Q (F0 m (pc) ls (.int (iI b) :: .int (iI a) :: rest)) := lv_icmp_ne hx hb hdg ht (fun _ => kk) (fun h9 => absurd h9 (fun h9 => hc ((iI_inj g1 g2).mp h9)))
theorem i_if_ne_T (hx : p.tables.exec = Jvm.exec) (hb : c.code = cc) {a : Int} (g1 : inR a) {off : Int} {tgt : Nat} (hdg : decode cc pc = .ok (.ifCond .ne off, 3)) (ht : (pc : Int) + off = (tgt : Int)) (hc : ¬ a = 0) (kk : W p l e R s m args below meth c H locs cells slots Q (F0 m (tgt) ls (rest))) : W p l e R s m args below meth c H locs cells slots Q (F0 m (pc) ls (.int (iI a) :: rest)) := by
  have g2 : inR 0 := ⟨by decide, by decide⟩
  have hz := iI_0
  refine lv_if_ne hx hb hdg ht ?_ ?_ <;> rw [← hz]
  · exact fun _ => kk
  · exact (fun h9 => absurd h9 (fun h9 => hc ((iI_inj g1 g2).mp h9)))
theorem i_icmp_ne_F (hx : p.tables.exec = Jvm.exec) (hb : c.code = cc) {a b : Int} (g1 : inR a) (g2 : inR b) {off : Int} {tgt : Nat} (hdg : decode cc pc = .ok (.if_icmp .ne off, 3)) (ht : (pc : Int) + off = (tgt : Int)) (hc : a = b) (kk : W p l e R s m args below meth c H locs cells slots Q (F0 m (pc + 3) ls (rest))) : W p l e R s m args below meth c H locs cells slots Q (F0 m (pc) ls (.int (iI b) :: .int (iI a) :: rest)) := lv_icmp_ne hx hb hdg ht (fun h9 => absurd ((iI_inj g1 g2).mpr hc) h9) (fun _ => kk)
theorem i_if_ne_F (hx : p.tables.exec = Jvm.exec) (hb : c.code = cc) {a : Int} (g1 : inR a) {off : Int} {tgt : Nat} (hdg : decode cc pc = .ok (.ifCond .ne off, 3)) (ht : (pc : Int) + off = (tgt : Int)) (hc : a = 0) (kk : W p l e R s m args below meth c H locs cells slots Q (F0 m (pc + 3) ls (rest))) : W p l e R s m args below meth c H locs cells slots Q (F0 m (pc) ls (.int (iI a) :: rest)) := by
  have g2 : inR 0 := ⟨by decide, by decide⟩
  have hz := iI_0
  refine lv_if_ne hx hb hdg ht ?_ ?_ <;> rw [← hz]
  · exact (fun h9 => absurd ((iI_inj g1 g2).mpr hc) h9)
  · exact fun _ => kk
theorem i_aald (hx : p.tables.exec = Jvm.exec) (hb : c.code = cc) {D : va_G} {K : Nat → ClassId} {wl : va_W} {a : Nat} (q0 t0 : Nat) {cA : ClassId} (hK : va_K D cl (tys K) s) (hP : va_P D cl wl H) {C : String} {N : Nat} {i : Int} {f : Nat → Option Nat} (ha : wl[q0]? = some (a, .inl (cA, N, .inr (.inr (.inr (.inr f)))))) (ht : (tys K)[t0]? = some (cA, .object C)) (h0 : 0 ≤ i) (h1 : i < (N : Int)) (hN : N < 2147483648) {v : Value} (hv : va_rf (f i.toNat) = v) (hdg : decode cc pc = .ok (.aaload, 1)) (kk : W p l e R s m args below meth c H locs cells slots Q (F0 m (pc + 1) ls (v :: rest))) : W p l e R s m args below meth c H locs cells slots Q (F0 m (pc) ls (.int (iI i) :: .ref a :: rest)) := by
  have e0 : iI i = nI i.toNat := by rw [nI_iI (by omega)]; congr 1; omega
  rw [e0]
  exact r_aald hx hb hK hP q0 t0 ha ht (k := i.toNat) (by omega) hN hv hdg kk
theorem i_zald (hx : p.tables.exec = Jvm.exec) (hb : c.code = cc) {D : va_G} {K : Nat → ClassId} {wl : va_W} {a : Nat} (q0 t0 : Nat) {cA : ClassId} (hK : va_K D cl (tys K) s) (hP : va_P D cl wl H) {N : Nat} {i : Int} {f : Nat → Int32} (ha : wl[q0]? = some (a, .inl (cA, N, .inl f))) (ht : (tys K)[t0]? = some (cA, .boolean)) (h0 : 0 ≤ i) (h1 : i < (N : Int)) (hN : N < 2147483648) {v : Int32} (hv : f i.toNat = v) (hdg : decode cc pc = .ok (.baload, 1)) (kk : W p l e R s m args below meth c H locs cells slots Q (F0 m (pc + 1) ls (.int v :: rest))) : W p l e R s m args below meth c H locs cells slots Q (F0 m (pc) ls (.int (iI i) :: .ref a :: rest)) := by
  have e0 : iI i = nI i.toNat := by rw [nI_iI (by omega)]; congr 1; omega
  rw [e0]
  exact r_zald hx hb hK hP q0 t0 ha ht (k := i.toNat) (by omega) hN hv hdg kk
theorem i_aast (hx : p.tables.exec = Jvm.exec) (hb : c.code = cc) {D : va_G} {K : Nat → ClassId} {wl ws' : va_W} {A : Nat → Prop} {a : Nat} (q0 t0 : Nat) {cA : ClassId} (hK : va_K D cl (tys K) s) (hP : va_P D cl wl H) (hD : va_D A wl) (hS : va_S A s.heap H locs) {C : String} {N : Nat} {i : Int} {v : Nat} {f : Nat → Option Nat} (ha : wl[q0]? = some (a, .inl (cA, N, .inr (.inr (.inr (.inr f)))))) (ht : (tys K)[t0]? = some (cA, .object C)) (hr : va_Any C s H v) (h0 : 0 ≤ i) (h1 : i < (N : Int)) (hN : N < 2147483648) (hdg : decode cc pc = .ok (.aastore, 1)) (e1 : wl.set q0 (a, .inl (cA, N, .inr (.inr (.inr (.inr (va_up f i.toNat (some v))))))) = ws') (kk : ∀ (H1 : Heap) (locs1 : List Loc), va_P D cl ws' H1 → va_D A ws' → va_S A s.heap H1 locs1 → W p l e R s m args below meth c H1 locs1 cells slots Q (F0 m (pc + 1) ls rest)) : W p l e R s m args below meth c H locs cells slots Q (F0 m (pc) ls (.ref v :: .int (iI i) :: .ref a :: rest)) := by
  have e0 : iI i = nI i.toNat := by rw [nI_iI (by omega)]; congr 1; omega
  rw [e0]
  exact r_aast hx hb hK hP hD hS q0 t0 ha ht hr (k := i.toNat) (by omega) hN hdg e1 kk
theorem i_aastN (hx : p.tables.exec = Jvm.exec) (hb : c.code = cc) {D : va_G} {K : Nat → ClassId} {wl ws' : va_W} {A : Nat → Prop} {a : Nat} (q0 t0 : Nat) {cA : ClassId} (hK : va_K D cl (tys K) s) (hP : va_P D cl wl H) (hD : va_D A wl) (hS : va_S A s.heap H locs) {C : String} {N : Nat} {i : Int} {f : Nat → Option Nat} (ha : wl[q0]? = some (a, .inl (cA, N, .inr (.inr (.inr (.inr f)))))) (ht : (tys K)[t0]? = some (cA, .object C)) (h0 : 0 ≤ i) (h1 : i < (N : Int)) (hN : N < 2147483648) (hdg : decode cc pc = .ok (.aastore, 1)) (e1 : wl.set q0 (a, .inl (cA, N, .inr (.inr (.inr (.inr (va_up f i.toNat none)))))) = ws') (kk : ∀ (H1 : Heap) (locs1 : List Loc), va_P D cl ws' H1 → va_D A ws' → va_S A s.heap H1 locs1 → W p l e R s m args below meth c H1 locs1 cells slots Q (F0 m (pc + 1) ls rest)) : W p l e R s m args below meth c H locs cells slots Q (F0 m (pc) ls (.null :: .int (iI i) :: .ref a :: rest)) := by
  have e0 : iI i = nI i.toNat := by rw [nI_iI (by omega)]; congr 1; omega
  rw [e0]
  exact r_aastN hx hb hK hP hD hS q0 t0 ha ht (k := i.toNat) (by omega) hN hdg e1 kk
theorem i_zast (hx : p.tables.exec = Jvm.exec) (hb : c.code = cc) {D : va_G} {K : Nat → ClassId} {wl ws' : va_W} {A : Nat → Prop} {a : Nat} (q0 t0 : Nat) {cA : ClassId} (hK : va_K D cl (tys K) s) (hP : va_P D cl wl H) (hD : va_D A wl) (hS : va_S A s.heap H locs) {N : Nat} {i z : Int} {f : Nat → Int32} (ha : wl[q0]? = some (a, .inl (cA, N, .inl f))) (ht : (tys K)[t0]? = some (cA, .boolean)) (h0 : 0 ≤ i) (h1 : i < (N : Int)) (hN : N < 2147483648) (hz : z = 0 ∨ z = 1) (hdg : decode cc pc = .ok (.bastore, 1)) (e1 : wl.set q0 (a, .inl (cA, N, .inl (va_up f i.toNat (iI z)))) = ws') (kk : ∀ (H1 : Heap) (locs1 : List Loc), va_P D cl ws' H1 → va_D A ws' → va_S A s.heap H1 locs1 → W p l e R s m args below meth c H1 locs1 cells slots Q (F0 m (pc + 1) ls rest)) : W p l e R s m args below meth c H locs cells slots Q (F0 m (pc) ls (.int (iI z) :: .int (iI i) :: .ref a :: rest)) := by
  have e0 : iI i = nI i.toNat := by rw [nI_iI (by omega)]; congr 1; omega
  rw [e0]
  exact r_zast hx hb hK hP hD hS q0 t0 ha ht (k := i.toNat) (by omega) hN (b01 hz) hdg e1 kk
theorem i_alen (hx : p.tables.exec = Jvm.exec) (hb : c.code = cc) {D : va_G} {K : Nat → ClassId} {wl : va_W} {a : Nat} (q0 t0 : Nat) {cA : ClassId} (hK : va_K D cl (tys K) s) (hP : va_P D cl wl H) {x : vp_A} (ha : wl[q0]? = some (a, .inl (cA, x))) {ty : FieldType} (ht : (tys K)[t0]? = some (cA, ty)) {n : Nat} (hn : x.1 = n) (h1 : n < 2147483648) (hdg : decode cc pc = .ok (.arraylength, 1)) (kk : W p l e R s m args below meth c H locs cells slots Q (F0 m (pc + 1) ls (.int (iI (n : Int)) :: rest))) : W p l e R s m args below meth c H locs cells slots Q (F0 m (pc) ls (.ref a :: rest)) := r_alen hx hb hK hP q0 t0 ha ht hn hdg (by rw [nI_iI h1]; exact kk)
theorem i_tableIn (hx : p.tables.exec = Jvm.exec) (hb : c.code = cc) {dflt lo hi : Int} {offs : Array Int} {len : Nat} {a : Int} (g1 : inR a) {off : Int} {tgt : Nat} (v : Int) (hdg : decode cc pc = .ok (.tableswitch dflt lo hi offs, len)) (hv : a = v) (h1 : ¬ v < lo) (h2 : ¬ hi < v) (ho : offs[(v - lo).toNat]? = some off) (ht : (pc : Int) + off = (tgt : Int)) (kk : W p l e R s m args below meth c H locs cells slots Q (F0 m (tgt) ls (rest))) : W p l e R s m args below meth c H locs cells slots Q (F0 m (pc) ls (.int (iI a) :: rest)) := by
  have e0 := iI_toInt g1
  rw [hv] at e0
  rw [hv]
  exact lv_tableIn hx hb hdg (by rw [e0]; exact h1) (by rw [e0]; exact h2) (by rw [e0]; exact ho) ht kk
theorem i_tableOut (hx : p.tables.exec = Jvm.exec) (hb : c.code = cc) {dflt lo hi : Int} {offs : Array Int} {len : Nat} {a : Int} (g1 : inR a) {tgt : Nat} (hdg : decode cc pc = .ok (.tableswitch dflt lo hi offs, len)) (h1 : a < lo ∨ hi < a) (ht : (pc : Int) + dflt = (tgt : Int)) (kk : W p l e R s m args below meth c H locs cells slots Q (F0 m (tgt) ls (rest))) : W p l e R s m args below meth c H locs cells slots Q (F0 m (pc) ls (.int (iI a) :: rest)) := lv_tableOut hx hb hdg (by rw [iI_toInt g1]; exact h1) ht kk
end ROWS
theorem go_0 {ga : Nat → Nat} {n : Nat} {cT cZ : ClassId} {M : cSt} : (wld ga n cT cZ M)[0]? = some (ga 0, .inr (9, [.ref (ga 8), .ref (ga 1), .ref (ga 2), .ref (ga 3), .ref (ga 4), .ref (ga 5), .ref (ga 6), .ref (ga 7), .int (iI (gI M 0))])) := wld_get (by omega) rfl
theorem go_1 {ga : Nat → Nat} {n : Nat} {cT cZ : ClassId} {M : cSt} : (wld ga n cT cZ M)[1]? = some (ga 1, .inr (4, [.ref (ga 9), .ref (ga 22), .ref (ga 23), .int (iI (gI M 1))])) := wld_get (by omega) rfl
theorem go_2 {ga : Nat → Nat} {n : Nat} {cT cZ : ClassId} {M : cSt} : (wld ga n cT cZ M)[2]? = some (ga 2, .inr (3, [.ref (ga 10), .ref (ga 11), .ref (ga 12), .int (iI (gI M 2)), .int (iI (gI M 3)), .int (iI (gI M 4)), .int (iI (gI M 5)), .ref (ga 24)])) := wld_get (by omega) rfl
theorem go_3 {ga : Nat → Nat} {n : Nat} {cT cZ : ClassId} {M : cSt} : (wld ga n cT cZ M)[3]? = some (ga 3, .inr (6, [.int (iI (gI M 6)), .int (iI (gI M 7)), .int (iI (gI M 8)), .int (iI (gI M 9))])) := wld_get (by omega) rfl
theorem go_4 {ga : Nat → Nat} {n : Nat} {cT cZ : ClassId} {M : cSt} : (wld ga n cT cZ M)[4]? = some (ga 4, .inr (1, [.ref (ga 8), .ref (ga 1), .int (iI (gI M 17))])) := wld_get (by omega) rfl
theorem go_5 {ga : Nat → Nat} {n : Nat} {cT cZ : ClassId} {M : cSt} : (wld ga n cT cZ M)[5]? = some (ga 5, .inr (8, [.ref (ga 8), .ref (ga 1), .ref (ga 13), .int (iI (gI M 18)), .int (iI (gI M 19)), ctv ga (gR M 9 0)])) := wld_get (by omega) rfl
theorem go_6 {ga : Nat → Nat} {n : Nat} {cT cZ : ClassId} {M : cSt} : (wld ga n cT cZ M)[6]? = some (ga 6, .inr (2, [.int (iI (gI M 20)), .ref (ga 8), .ref (ga 1), .ref (ga 2), .ref (ga 3), .ref (ga 14), .int (iI (gI M 21)), .int (iI (gI M 22)), .int (iI (gI M 23))])) := wld_get (by omega) rfl
theorem go_7 {ga : Nat → Nat} {n : Nat} {cT cZ : ClassId} {M : cSt} : (wld ga n cT cZ M)[7]? = some (ga 7, .inr (0, [.ref (ga 8), .ref (ga 1), .ref (ga 2), .ref (ga 3), .ref (ga 4), .ref (ga 5)])) := wld_get (by omega) rfl
theorem go_22 {ga : Nat → Nat} {n : Nat} {cT cZ : ClassId} {M : cSt} : (wld ga n cT cZ M)[22]? = some (ga 22, .inl (cT, 32, .inr (.inr (.inr (.inr (crf ga (gR M 7))))))) := wld_get (by omega) rfl
theorem go_23 {ga : Nat → Nat} {n : Nat} {cT cZ : ClassId} {M : cSt} : (wld ga n cT cZ M)[23]? = some (ga 23, .inl (cT, 4, .inr (.inr (.inr (.inr (crf ga (gR M 8))))))) := wld_get (by omega) rfl
theorem go_24 {ga : Nat → Nat} {n : Nat} {cT cZ : ClassId} {M : cSt} : (wld ga n cT cZ M)[24]? = some (ga 24, .inl (cZ, 20, .inl (cz M))) := wld_get (by omega) rfl
theorem go_ro {ga : Nat → Nat} {n : Nat} {cT cZ : ClassId} {M : cSt} {r : Nat} (h : r < 7) : (wld ga n cT cZ M)[8 + r]? = some (ga (8 + r), .inr (5, [.ref (ga (15 + r)), .int (iI (gI M (10 + r)))])) := wld_get (by omega) (E_ro ga cT cZ M h)
theorem go_rw {ga : Nat → Nat} {n : Nat} {cT cZ : ClassId} {M : cSt} {r : Nat} (h : r < 7) : (wld ga n cT cZ M)[15 + r]? = some (ga (15 + r), .inl (cT, 200, .inr (.inr (.inr (.inr (crf ga (gR M r))))))) := wld_get (by omega) (E_rw ga cT cZ M h)
theorem go_th {ga : Nat → Nat} {n : Nat} {cT cZ : ClassId} {M : cSt} {k : Nat} (h : k < n) : (wld ga n cT cZ M)[25 + 2 * k]? = some (ga (25 + 2 * k), .inr (7, [.int (iI (gT M k 0)), .ref (ga (26 + 2 * k)), .int (iI (gT M k 2)), .int (iI (gT M k 3)), .int (iI (gT M k 4)), .int (iI (gT M k 5)), .int (iI (gT M k 6)), .int (iI (gT M k 7)), .int (iI (gT M k 8)), .int (iI (gT M k 9)), .int (iI (gT M k 10)), .int (iI (gT M k 11)), .int (iI (gT M k 12)), .int (iI (gT M k 13))])) := wld_get (by omega) (E_th ga cT cZ M k)
theorem go_fl {ga : Nat → Nat} {n : Nat} {cT cZ : ClassId} {M : cSt} {k : Nat} (h : k < n) : (wld ga n cT cZ M)[26 + 2 * k]? = some (ga (26 + 2 * k), .inl (cT, gL M k, .inr (.inr (.inr (.inr (crf ga (gF M k))))))) := wld_get (by omega) (E_fl ga cT cZ M k)
def fu : Nat := 500
theorem nar_c (ga : Nat → Nat) (o : Option Nat) : narrow (.object "Tenuredale$Thing") (ctv ga o) = ctv ga o := by cases o <;> rfl
theorem fit_c (ga : Nat → Nat) (o : Option Nat) : fits (.object "Tenuredale$Thing") (ctv ga o) = true := by cases o <;> rfl
theorem iI_max {a b : Int} (ha : inR a) (hb : inR b) : (if iI a < iI b then iI b else iI a) = iI (max a b) := by
  by_cases h : a < b
  · rw [if_pos ((iI_lt ha hb).mpr h)]; congr 1; omega
  · rw [if_neg (fun h9 => h ((iI_lt ha hb).mp h9))]; congr 1; omega
theorem iI_min {a b : Int} (ha : inR a) (hb : inR b) : (if iI b < iI a then iI b else iI a) = iI (min a b) := by
  by_cases h : b < a
  · rw [if_pos ((iI_lt hb ha).mpr h)]; congr 1; omega
  · rw [if_neg (fun h9 => h ((iI_lt hb ha).mp h9))]; congr 1; omega
theorem ga_inj {ga : Nat → Nat} {n : Nat} {cT cZ : ClassId} {M : cSt} {A : Nat → Prop} (hD : va_D A (wld ga n cT cZ M)) {a b : Nat} (ha : a < n) (hb : b < n) (e : ga (25 + 2 * a) = ga (25 + 2 * b)) : a = b := by
  have := wld_inj hD (i := 25 + 2 * a) (j := 25 + 2 * b) (by omega) (by omega) e
  omega
theorem a_acmp_eq_T {p : Program} {l : Launch} {e : Env} {R : Room} {s : State} {m : MethodId} {args : Array Value} {below : List Frame} {meth : Method} {c : Code} {H : Heap} {locs : List Loc} {cells slots : Nat} {Q : State → Prop} {cc : ByteArray} {pc : Nat} {ls : Array Slot} {rest : List Value} (hx : p.tables.exec = Jvm.exec) (hb : c.code = cc) {ga : Nat → Nat} {n : Nat} {cT cZ : ClassId} {M : cSt} {A : Nat → Prop} (hD : va_D A (wld ga n cT cZ M)) {a b : Nat} (ha : a < n) (hb9 : b < n) {off : Int} {tgt : Nat} (hdg : decode cc pc = .ok (.if_acmp .eq off, 3)) (ht : (pc : Int) + off = (tgt : Int)) (hc : a = b) (kk : W p l e R s m args below meth c H locs cells slots Q (F0 m (tgt) ls (rest))) : W p l e R s m args below meth c H locs cells slots Q (F0 m (pc) ls (.ref (ga (25 + 2 * b)) :: .ref (ga (25 + 2 * a)) :: rest)) := lv_acmp_eq (rx := some (ga (25 + 2 * a))) (ry := some (ga (25 + 2 * b))) hx hb hdg ht (fun _ => kk) (fun h9 => absurd (by rw [hc]) h9)
theorem a_acmp_eq_F {p : Program} {l : Launch} {e : Env} {R : Room} {s : State} {m : MethodId} {args : Array Value} {below : List Frame} {meth : Method} {c : Code} {H : Heap} {locs : List Loc} {cells slots : Nat} {Q : State → Prop} {cc : ByteArray} {pc : Nat} {ls : Array Slot} {rest : List Value} (hx : p.tables.exec = Jvm.exec) (hb : c.code = cc) {ga : Nat → Nat} {n : Nat} {cT cZ : ClassId} {M : cSt} {A : Nat → Prop} (hD : va_D A (wld ga n cT cZ M)) {a b : Nat} (ha : a < n) (hb9 : b < n) {off : Int} {tgt : Nat} (hdg : decode cc pc = .ok (.if_acmp .eq off, 3)) (ht : (pc : Int) + off = (tgt : Int)) (hc : ¬ a = b) (kk : W p l e R s m args below meth c H locs cells slots Q (F0 m (pc + 3) ls (rest))) : W p l e R s m args below meth c H locs cells slots Q (F0 m (pc) ls (.ref (ga (25 + 2 * b)) :: .ref (ga (25 + 2 * a)) :: rest)) := lv_acmp_eq (rx := some (ga (25 + 2 * a))) (ry := some (ga (25 + 2 * b))) hx hb hdg ht (fun h9 => absurd h9 (fun h9 => hc (ga_inj hD ha hb9 (Option.some.inj h9)))) (fun _ => kk)
theorem a_acmp_ne_T {p : Program} {l : Launch} {e : Env} {R : Room} {s : State} {m : MethodId} {args : Array Value} {below : List Frame} {meth : Method} {c : Code} {H : Heap} {locs : List Loc} {cells slots : Nat} {Q : State → Prop} {cc : ByteArray} {pc : Nat} {ls : Array Slot} {rest : List Value} (hx : p.tables.exec = Jvm.exec) (hb : c.code = cc) {ga : Nat → Nat} {n : Nat} {cT cZ : ClassId} {M : cSt} {A : Nat → Prop} (hD : va_D A (wld ga n cT cZ M)) {a b : Nat} (ha : a < n) (hb9 : b < n) {off : Int} {tgt : Nat} (hdg : decode cc pc = .ok (.if_acmp .ne off, 3)) (ht : (pc : Int) + off = (tgt : Int)) (hc : ¬ a = b) (kk : W p l e R s m args below meth c H locs cells slots Q (F0 m (tgt) ls (rest))) : W p l e R s m args below meth c H locs cells slots Q (F0 m (pc) ls (.ref (ga (25 + 2 * b)) :: .ref (ga (25 + 2 * a)) :: rest)) := lv_acmp_ne (rx := some (ga (25 + 2 * a))) (ry := some (ga (25 + 2 * b))) hx hb hdg ht (fun _ => kk) (fun h9 => absurd h9 (fun h9 => hc (ga_inj hD ha hb9 (Option.some.inj h9))))
theorem a_acmp_ne_F {p : Program} {l : Launch} {e : Env} {R : Room} {s : State} {m : MethodId} {args : Array Value} {below : List Frame} {meth : Method} {c : Code} {H : Heap} {locs : List Loc} {cells slots : Nat} {Q : State → Prop} {cc : ByteArray} {pc : Nat} {ls : Array Slot} {rest : List Value} (hx : p.tables.exec = Jvm.exec) (hb : c.code = cc) {ga : Nat → Nat} {n : Nat} {cT cZ : ClassId} {M : cSt} {A : Nat → Prop} (hD : va_D A (wld ga n cT cZ M)) {a b : Nat} (ha : a < n) (hb9 : b < n) {off : Int} {tgt : Nat} (hdg : decode cc pc = .ok (.if_acmp .ne off, 3)) (ht : (pc : Int) + off = (tgt : Int)) (hc : a = b) (kk : W p l e R s m args below meth c H locs cells slots Q (F0 m (pc + 3) ls (rest))) : W p l e R s m args below meth c H locs cells slots Q (F0 m (pc) ls (.ref (ga (25 + 2 * b)) :: .ref (ga (25 + 2 * a)) :: rest)) := lv_acmp_ne (rx := some (ga (25 + 2 * a))) (ry := some (ga (25 + 2 * b))) hx hb hdg ht (fun h9 => absurd (by rw [hc]) h9) (fun _ => kk)
end
section
/-! WORDS OF THE TABLES BY THEIR PLACES, DECODED INSTRUCTIONS, WHAT A CLASS AND A METHOD NEED. Written by wip/p1/sx.py. -/
abbrev cX5_size : ByteArray := prog_7_method_2_code
abbrev cX5_item : ByteArray := prog_7_method_3_code
abbrev cX5_add : ByteArray := prog_7_method_4_code
abbrev cX5_addByAddress : ByteArray := prog_7_method_5_code
abbrev cX5_keepOnly : ByteArray := prog_7_method_7_code
abbrev cX5_clear : ByteArray := prog_7_method_8_code
abbrev cX5_words : ByteArray := prog_7_method_9_code
abbrev cX5_pinned : ByteArray := prog_7_method_10_code
def yX5_size : MethodName := ⟨RX5, "size", "()I"⟩
def yX5_item : MethodName := ⟨RX5, "item", "(I)LTenuredale$Thing;"⟩
def yX5_add : MethodName := ⟨RX5, "add", "(LTenuredale$Thing;)V"⟩
def yX5_addByAddress : MethodName := ⟨RX5, "addByAddress", "(LTenuredale$Thing;)V"⟩
def yX5_keepOnly : MethodName := ⟨RX5, "keepOnly", "(I)V"⟩
def yX5_clear : MethodName := ⟨RX5, "clear", "()V"⟩
def yX5_words : MethodName := ⟨RX5, "words", "()I"⟩
def yX5_pinned : MethodName := ⟨RX5, "pinned", "()I"⟩
theorem w_2 : Cond.initialized RX5 ∈ lw_gw := gw_of (in_t1 (List.mem_of_getElem? (i := 2) (by decide +kernel))) rfl
theorem w_34 : Cond.fieldLink RX5 11 "Tenuredale$Row" "things" "[LTenuredale$Thing;" ∈ lw_gw := gw_of (in_t1 (List.mem_of_getElem? (i := 34) (by decide +kernel))) rfl
theorem w_35 : Cond.fieldLink RX5 17 "Tenuredale$Row" "size" "I" ∈ lw_gw := gw_of (in_t1 (List.mem_of_getElem? (i := 35) (by decide +kernel))) rfl
theorem w_407 : Cond.code yX5_size cX5_size 1 (some FieldType.int) ∈ lw_gw := gw_of (in_t2 (List.mem_of_getElem? (i := 167) (by decide +kernel))) rfl
theorem w_421 : Cond.code yX5_item cX5_item 2 (some (FieldType.object "Tenuredale$Thing")) ∈ lw_gw := gw_of (in_t2 (List.mem_of_getElem? (i := 181) (by decide +kernel))) rfl
theorem w_449 : Cond.code yX5_clear cX5_clear 1 (none : Option FieldType) ∈ lw_gw := gw_of (in_t2 (List.mem_of_getElem? (i := 209) (by decide +kernel))) rfl
theorem w_465 : Cond.instanceMethod yX5_add ∈ lw_gw := gw_of (in_t2 (List.mem_of_getElem? (i := 225) (by decide +kernel))) rfl
theorem w_466 : Cond.selects RX5 yX5_add yX5_add ∈ lw_gw := gw_of (in_t2 (List.mem_of_getElem? (i := 226) (by decide +kernel))) rfl
theorem w_467 : Cond.code yX5_add cX5_add 2 (none : Option FieldType) ∈ lw_gw := gw_of (in_t2 (List.mem_of_getElem? (i := 227) (by decide +kernel))) rfl
theorem w_548 : Cond.code yX5_words cX5_words 4 (some FieldType.int) ∈ lw_gw := gw_of (in_t3 (List.mem_of_getElem? (i := 68) (by decide +kernel))) rfl
theorem w_632 : Cond.code yX5_keepOnly cX5_keepOnly 5 (none : Option FieldType) ∈ lw_gw := gw_of (in_t3 (List.mem_of_getElem? (i := 152) (by decide +kernel))) rfl
theorem w_633 : Cond.methodLink RX5 21 yX5_add ∈ lw_gw := gw_of (in_t3 (List.mem_of_getElem? (i := 153) (by decide +kernel))) rfl
theorem w_690 : Cond.fieldLink RX5 32 "Tenuredale$Thing" "place" "I" ∈ lw_gw := gw_of (in_t3 (List.mem_of_getElem? (i := 210) (by decide +kernel))) rfl
theorem w_695 : Cond.fieldLink RX5 25 "Tenuredale$Thing" "address" "I" ∈ lw_gw := gw_of (in_t3 (List.mem_of_getElem? (i := 215) (by decide +kernel))) rfl
theorem w_699 : Cond.fieldLink RX5 35 "Tenuredale$Thing" "size" "I" ∈ lw_gw := gw_of (in_t3 (List.mem_of_getElem? (i := 219) (by decide +kernel))) rfl
theorem w_713 : Cond.fieldLink RX5 36 "Tenuredale$Thing" "isPinned" "Z" ∈ lw_gw := gw_of (in_t3 (List.mem_of_getElem? (i := 233) (by decide +kernel))) rfl
theorem w_761 : Cond.code yX5_addByAddress cX5_addByAddress 4 (none : Option FieldType) ∈ lw_gw := gw_of (in_t4 (List.mem_of_getElem? (i := 41) (by decide +kernel))) rfl
theorem w_836 : Cond.code yX5_pinned cX5_pinned 4 (some FieldType.int) ∈ lw_gw := gw_of (in_t4 (List.mem_of_getElem? (i := 116) (by decide +kernel))) rfl
theorem dX5_addByAddress_0 : decode cX5_addByAddress 0 = .ok (.aload_n 0, 1) := by decide +kernel
theorem dX5_addByAddress_1 : decode cX5_addByAddress 1 = .ok (.aload_n 1, 1) := by decide +kernel
theorem dX5_addByAddress_10 : decode cX5_addByAddress 10 = .ok (.isub, 1) := by decide +kernel
theorem dX5_addByAddress_11 : decode cX5_addByAddress 11 = .ok (.istore_n 2, 1) := by decide +kernel
theorem dX5_addByAddress_12 : decode cX5_addByAddress 12 = .ok (.iload_n 2, 1) := by decide +kernel
theorem dX5_addByAddress_13 : decode cX5_addByAddress 13 = .ok (.ifCond .le 59, 3) := by decide +kernel
theorem dX5_addByAddress_16 : decode cX5_addByAddress 16 = .ok (.iload_n 2, 1) := by decide +kernel
theorem dX5_addByAddress_17 : decode cX5_addByAddress 17 = .ok (.aload_n 0, 1) := by decide +kernel
theorem dX5_addByAddress_18 : decode cX5_addByAddress 18 = .ok (.getfield 11, 3) := by decide +kernel
theorem dX5_addByAddress_2 : decode cX5_addByAddress 2 = .ok (.invokevirtual 21, 3) := by decide +kernel
theorem dX5_addByAddress_21 : decode cX5_addByAddress 21 = .ok (.arraylength, 1) := by decide +kernel
theorem dX5_addByAddress_22 : decode cX5_addByAddress 22 = .ok (.if_icmp .ge 50, 3) := by decide +kernel
theorem dX5_addByAddress_25 : decode cX5_addByAddress 25 = .ok (.aload_n 0, 1) := by decide +kernel
theorem dX5_addByAddress_26 : decode cX5_addByAddress 26 = .ok (.getfield 11, 3) := by decide +kernel
theorem dX5_addByAddress_29 : decode cX5_addByAddress 29 = .ok (.iload_n 2, 1) := by decide +kernel
theorem dX5_addByAddress_30 : decode cX5_addByAddress 30 = .ok (.iconst 1, 1) := by decide +kernel
theorem dX5_addByAddress_31 : decode cX5_addByAddress 31 = .ok (.isub, 1) := by decide +kernel
theorem dX5_addByAddress_32 : decode cX5_addByAddress 32 = .ok (.aaload, 1) := by decide +kernel
theorem dX5_addByAddress_33 : decode cX5_addByAddress 33 = .ok (.astore_n 3, 1) := by decide +kernel
theorem dX5_addByAddress_34 : decode cX5_addByAddress 34 = .ok (.aload_n 3, 1) := by decide +kernel
theorem dX5_addByAddress_35 : decode cX5_addByAddress 35 = .ok (.ifnull 14, 3) := by decide +kernel
theorem dX5_addByAddress_38 : decode cX5_addByAddress 38 = .ok (.aload_n 3, 1) := by decide +kernel
theorem dX5_addByAddress_39 : decode cX5_addByAddress 39 = .ok (.getfield 25, 3) := by decide +kernel
theorem dX5_addByAddress_42 : decode cX5_addByAddress 42 = .ok (.aload_n 1, 1) := by decide +kernel
theorem dX5_addByAddress_43 : decode cX5_addByAddress 43 = .ok (.getfield 25, 3) := by decide +kernel
theorem dX5_addByAddress_46 : decode cX5_addByAddress 46 = .ok (.if_icmp .gt 4, 3) := by decide +kernel
theorem dX5_addByAddress_49 : decode cX5_addByAddress 49 = .ok (.return_, 1) := by decide +kernel
theorem dX5_addByAddress_5 : decode cX5_addByAddress 5 = .ok (.aload_n 0, 1) := by decide +kernel
theorem dX5_addByAddress_50 : decode cX5_addByAddress 50 = .ok (.aload_n 0, 1) := by decide +kernel
theorem dX5_addByAddress_51 : decode cX5_addByAddress 51 = .ok (.getfield 11, 3) := by decide +kernel
theorem dX5_addByAddress_54 : decode cX5_addByAddress 54 = .ok (.iload_n 2, 1) := by decide +kernel
theorem dX5_addByAddress_55 : decode cX5_addByAddress 55 = .ok (.aload_n 3, 1) := by decide +kernel
theorem dX5_addByAddress_56 : decode cX5_addByAddress 56 = .ok (.aastore, 1) := by decide +kernel
theorem dX5_addByAddress_57 : decode cX5_addByAddress 57 = .ok (.aload_n 0, 1) := by decide +kernel
theorem dX5_addByAddress_58 : decode cX5_addByAddress 58 = .ok (.getfield 11, 3) := by decide +kernel
theorem dX5_addByAddress_6 : decode cX5_addByAddress 6 = .ok (.getfield 17, 3) := by decide +kernel
theorem dX5_addByAddress_61 : decode cX5_addByAddress 61 = .ok (.iload_n 2, 1) := by decide +kernel
theorem dX5_addByAddress_62 : decode cX5_addByAddress 62 = .ok (.iconst 1, 1) := by decide +kernel
theorem dX5_addByAddress_63 : decode cX5_addByAddress 63 = .ok (.isub, 1) := by decide +kernel
theorem dX5_addByAddress_64 : decode cX5_addByAddress 64 = .ok (.aload_n 1, 1) := by decide +kernel
theorem dX5_addByAddress_65 : decode cX5_addByAddress 65 = .ok (.aastore, 1) := by decide +kernel
theorem dX5_addByAddress_66 : decode cX5_addByAddress 66 = .ok (.iinc 2 (-1), 3) := by decide +kernel
theorem dX5_addByAddress_69 : decode cX5_addByAddress 69 = .ok (.goto (-57), 3) := by decide +kernel
theorem dX5_addByAddress_72 : decode cX5_addByAddress 72 = .ok (.return_, 1) := by decide +kernel
theorem dX5_addByAddress_9 : decode cX5_addByAddress 9 = .ok (.iconst 1, 1) := by decide +kernel
theorem dX5_add_0 : decode cX5_add 0 = .ok (.aload_n 0, 1) := by decide +kernel
theorem dX5_add_1 : decode cX5_add 1 = .ok (.getfield 17, 3) := by decide +kernel
theorem dX5_add_11 : decode cX5_add 11 = .ok (.aload_n 0, 1) := by decide +kernel
theorem dX5_add_12 : decode cX5_add 12 = .ok (.getfield 11, 3) := by decide +kernel
theorem dX5_add_15 : decode cX5_add 15 = .ok (.arraylength, 1) := by decide +kernel
theorem dX5_add_16 : decode cX5_add 16 = .ok (.if_icmp .ge 23, 3) := by decide +kernel
theorem dX5_add_19 : decode cX5_add 19 = .ok (.aload_n 0, 1) := by decide +kernel
theorem dX5_add_20 : decode cX5_add 20 = .ok (.getfield 11, 3) := by decide +kernel
theorem dX5_add_23 : decode cX5_add 23 = .ok (.aload_n 0, 1) := by decide +kernel
theorem dX5_add_24 : decode cX5_add 24 = .ok (.getfield 17, 3) := by decide +kernel
theorem dX5_add_27 : decode cX5_add 27 = .ok (.aload_n 1, 1) := by decide +kernel
theorem dX5_add_28 : decode cX5_add 28 = .ok (.aastore, 1) := by decide +kernel
theorem dX5_add_29 : decode cX5_add 29 = .ok (.aload_n 0, 1) := by decide +kernel
theorem dX5_add_30 : decode cX5_add 30 = .ok (.dup, 1) := by decide +kernel
theorem dX5_add_31 : decode cX5_add 31 = .ok (.getfield 17, 3) := by decide +kernel
theorem dX5_add_34 : decode cX5_add 34 = .ok (.iconst 1, 1) := by decide +kernel
theorem dX5_add_35 : decode cX5_add 35 = .ok (.iadd, 1) := by decide +kernel
theorem dX5_add_36 : decode cX5_add 36 = .ok (.putfield 17, 3) := by decide +kernel
theorem dX5_add_39 : decode cX5_add 39 = .ok (.return_, 1) := by decide +kernel
theorem dX5_add_4 : decode cX5_add 4 = .ok (.ifCond .lt 35, 3) := by decide +kernel
theorem dX5_add_7 : decode cX5_add 7 = .ok (.aload_n 0, 1) := by decide +kernel
theorem dX5_add_8 : decode cX5_add 8 = .ok (.getfield 17, 3) := by decide +kernel
theorem dX5_clear_0 : decode cX5_clear 0 = .ok (.aload_n 0, 1) := by decide +kernel
theorem dX5_clear_1 : decode cX5_clear 1 = .ok (.iconst 0, 1) := by decide +kernel
theorem dX5_clear_2 : decode cX5_clear 2 = .ok (.putfield 17, 3) := by decide +kernel
theorem dX5_clear_5 : decode cX5_clear 5 = .ok (.return_, 1) := by decide +kernel
theorem dX5_item_0 : decode cX5_item 0 = .ok (.iload_n 1, 1) := by decide +kernel
theorem dX5_item_1 : decode cX5_item 1 = .ok (.ifCond .lt 29, 3) := by decide +kernel
theorem dX5_item_12 : decode cX5_item 12 = .ok (.iload_n 1, 1) := by decide +kernel
theorem dX5_item_13 : decode cX5_item 13 = .ok (.aload_n 0, 1) := by decide +kernel
theorem dX5_item_14 : decode cX5_item 14 = .ok (.getfield 11, 3) := by decide +kernel
theorem dX5_item_17 : decode cX5_item 17 = .ok (.arraylength, 1) := by decide +kernel
theorem dX5_item_18 : decode cX5_item 18 = .ok (.if_icmp .ge 12, 3) := by decide +kernel
theorem dX5_item_21 : decode cX5_item 21 = .ok (.aload_n 0, 1) := by decide +kernel
theorem dX5_item_22 : decode cX5_item 22 = .ok (.getfield 11, 3) := by decide +kernel
theorem dX5_item_25 : decode cX5_item 25 = .ok (.iload_n 1, 1) := by decide +kernel
theorem dX5_item_26 : decode cX5_item 26 = .ok (.aaload, 1) := by decide +kernel
theorem dX5_item_27 : decode cX5_item 27 = .ok (.goto 4, 3) := by decide +kernel
theorem dX5_item_30 : decode cX5_item 30 = .ok (.aconst_null, 1) := by decide +kernel
theorem dX5_item_31 : decode cX5_item 31 = .ok (.areturn, 1) := by decide +kernel
theorem dX5_item_4 : decode cX5_item 4 = .ok (.iload_n 1, 1) := by decide +kernel
theorem dX5_item_5 : decode cX5_item 5 = .ok (.aload_n 0, 1) := by decide +kernel
theorem dX5_item_6 : decode cX5_item 6 = .ok (.getfield 17, 3) := by decide +kernel
theorem dX5_item_9 : decode cX5_item 9 = .ok (.if_icmp .ge 21, 3) := by decide +kernel
theorem dX5_keepOnly_0 : decode cX5_keepOnly 0 = .ok (.aload_n 0, 1) := by decide +kernel
theorem dX5_keepOnly_1 : decode cX5_keepOnly 1 = .ok (.getfield 17, 3) := by decide +kernel
theorem dX5_keepOnly_10 : decode cX5_keepOnly 10 = .ok (.iconst 0, 1) := by decide +kernel
theorem dX5_keepOnly_11 : decode cX5_keepOnly 11 = .ok (.istore_n 3, 1) := by decide +kernel
theorem dX5_keepOnly_12 : decode cX5_keepOnly 12 = .ok (.iload_n 3, 1) := by decide +kernel
theorem dX5_keepOnly_13 : decode cX5_keepOnly 13 = .ok (.iload_n 2, 1) := by decide +kernel
theorem dX5_keepOnly_14 : decode cX5_keepOnly 14 = .ok (.if_icmp .ge 46, 3) := by decide +kernel
theorem dX5_keepOnly_17 : decode cX5_keepOnly 17 = .ok (.iload_n 3, 1) := by decide +kernel
theorem dX5_keepOnly_18 : decode cX5_keepOnly 18 = .ok (.aload_n 0, 1) := by decide +kernel
theorem dX5_keepOnly_19 : decode cX5_keepOnly 19 = .ok (.getfield 11, 3) := by decide +kernel
theorem dX5_keepOnly_22 : decode cX5_keepOnly 22 = .ok (.arraylength, 1) := by decide +kernel
theorem dX5_keepOnly_23 : decode cX5_keepOnly 23 = .ok (.if_icmp .ge 37, 3) := by decide +kernel
theorem dX5_keepOnly_26 : decode cX5_keepOnly 26 = .ok (.aload_n 0, 1) := by decide +kernel
theorem dX5_keepOnly_27 : decode cX5_keepOnly 27 = .ok (.getfield 11, 3) := by decide +kernel
theorem dX5_keepOnly_30 : decode cX5_keepOnly 30 = .ok (.iload_n 3, 1) := by decide +kernel
theorem dX5_keepOnly_31 : decode cX5_keepOnly 31 = .ok (.aaload, 1) := by decide +kernel
theorem dX5_keepOnly_32 : decode cX5_keepOnly 32 = .ok (.astore 4, 2) := by decide +kernel
theorem dX5_keepOnly_34 : decode cX5_keepOnly 34 = .ok (.aload 4, 2) := by decide +kernel
theorem dX5_keepOnly_36 : decode cX5_keepOnly 36 = .ok (.ifnull 18, 3) := by decide +kernel
theorem dX5_keepOnly_39 : decode cX5_keepOnly 39 = .ok (.aload 4, 2) := by decide +kernel
theorem dX5_keepOnly_4 : decode cX5_keepOnly 4 = .ok (.istore_n 2, 1) := by decide +kernel
theorem dX5_keepOnly_41 : decode cX5_keepOnly 41 = .ok (.getfield 32, 3) := by decide +kernel
theorem dX5_keepOnly_44 : decode cX5_keepOnly 44 = .ok (.iload_n 1, 1) := by decide +kernel
theorem dX5_keepOnly_45 : decode cX5_keepOnly 45 = .ok (.if_icmp .ne 9, 3) := by decide +kernel
theorem dX5_keepOnly_48 : decode cX5_keepOnly 48 = .ok (.aload_n 0, 1) := by decide +kernel
theorem dX5_keepOnly_49 : decode cX5_keepOnly 49 = .ok (.aload 4, 2) := by decide +kernel
theorem dX5_keepOnly_5 : decode cX5_keepOnly 5 = .ok (.aload_n 0, 1) := by decide +kernel
theorem dX5_keepOnly_51 : decode cX5_keepOnly 51 = .ok (.invokevirtual 21, 3) := by decide +kernel
theorem dX5_keepOnly_54 : decode cX5_keepOnly 54 = .ok (.iinc 3 1, 3) := by decide +kernel
theorem dX5_keepOnly_57 : decode cX5_keepOnly 57 = .ok (.goto (-45), 3) := by decide +kernel
theorem dX5_keepOnly_6 : decode cX5_keepOnly 6 = .ok (.iconst 0, 1) := by decide +kernel
theorem dX5_keepOnly_60 : decode cX5_keepOnly 60 = .ok (.return_, 1) := by decide +kernel
theorem dX5_keepOnly_7 : decode cX5_keepOnly 7 = .ok (.putfield 17, 3) := by decide +kernel
theorem dX5_pinned_0 : decode cX5_pinned 0 = .ok (.iconst 0, 1) := by decide +kernel
theorem dX5_pinned_1 : decode cX5_pinned 1 = .ok (.istore_n 1, 1) := by decide +kernel
theorem dX5_pinned_12 : decode cX5_pinned 12 = .ok (.iload_n 2, 1) := by decide +kernel
theorem dX5_pinned_13 : decode cX5_pinned 13 = .ok (.aload_n 0, 1) := by decide +kernel
theorem dX5_pinned_14 : decode cX5_pinned 14 = .ok (.getfield 11, 3) := by decide +kernel
theorem dX5_pinned_17 : decode cX5_pinned 17 = .ok (.arraylength, 1) := by decide +kernel
theorem dX5_pinned_18 : decode cX5_pinned 18 = .ok (.if_icmp .ge 30, 3) := by decide +kernel
theorem dX5_pinned_2 : decode cX5_pinned 2 = .ok (.iconst 0, 1) := by decide +kernel
theorem dX5_pinned_21 : decode cX5_pinned 21 = .ok (.aload_n 0, 1) := by decide +kernel
theorem dX5_pinned_22 : decode cX5_pinned 22 = .ok (.getfield 11, 3) := by decide +kernel
theorem dX5_pinned_25 : decode cX5_pinned 25 = .ok (.iload_n 2, 1) := by decide +kernel
theorem dX5_pinned_26 : decode cX5_pinned 26 = .ok (.aaload, 1) := by decide +kernel
theorem dX5_pinned_27 : decode cX5_pinned 27 = .ok (.astore_n 3, 1) := by decide +kernel
theorem dX5_pinned_28 : decode cX5_pinned 28 = .ok (.aload_n 3, 1) := by decide +kernel
theorem dX5_pinned_29 : decode cX5_pinned 29 = .ok (.ifnull 13, 3) := by decide +kernel
theorem dX5_pinned_3 : decode cX5_pinned 3 = .ok (.istore_n 2, 1) := by decide +kernel
theorem dX5_pinned_32 : decode cX5_pinned 32 = .ok (.aload_n 3, 1) := by decide +kernel
theorem dX5_pinned_33 : decode cX5_pinned 33 = .ok (.getfield 36, 3) := by decide +kernel
theorem dX5_pinned_36 : decode cX5_pinned 36 = .ok (.ifCond .eq 6, 3) := by decide +kernel
theorem dX5_pinned_39 : decode cX5_pinned 39 = .ok (.iinc 1 1, 3) := by decide +kernel
theorem dX5_pinned_4 : decode cX5_pinned 4 = .ok (.iload_n 2, 1) := by decide +kernel
theorem dX5_pinned_42 : decode cX5_pinned 42 = .ok (.iinc 2 1, 3) := by decide +kernel
theorem dX5_pinned_45 : decode cX5_pinned 45 = .ok (.goto (-41), 3) := by decide +kernel
theorem dX5_pinned_48 : decode cX5_pinned 48 = .ok (.iload_n 1, 1) := by decide +kernel
theorem dX5_pinned_49 : decode cX5_pinned 49 = .ok (.ireturn, 1) := by decide +kernel
theorem dX5_pinned_5 : decode cX5_pinned 5 = .ok (.aload_n 0, 1) := by decide +kernel
theorem dX5_pinned_6 : decode cX5_pinned 6 = .ok (.getfield 17, 3) := by decide +kernel
theorem dX5_pinned_9 : decode cX5_pinned 9 = .ok (.if_icmp .ge 39, 3) := by decide +kernel
theorem dX5_size_0 : decode cX5_size 0 = .ok (.aload_n 0, 1) := by decide +kernel
theorem dX5_size_1 : decode cX5_size 1 = .ok (.getfield 17, 3) := by decide +kernel
theorem dX5_size_4 : decode cX5_size 4 = .ok (.ireturn, 1) := by decide +kernel
theorem dX5_words_0 : decode cX5_words 0 = .ok (.iconst 0, 1) := by decide +kernel
theorem dX5_words_1 : decode cX5_words 1 = .ok (.istore_n 1, 1) := by decide +kernel
theorem dX5_words_12 : decode cX5_words 12 = .ok (.iload_n 2, 1) := by decide +kernel
theorem dX5_words_13 : decode cX5_words 13 = .ok (.aload_n 0, 1) := by decide +kernel
theorem dX5_words_14 : decode cX5_words 14 = .ok (.getfield 11, 3) := by decide +kernel
theorem dX5_words_17 : decode cX5_words 17 = .ok (.arraylength, 1) := by decide +kernel
theorem dX5_words_18 : decode cX5_words 18 = .ok (.if_icmp .ge 27, 3) := by decide +kernel
theorem dX5_words_2 : decode cX5_words 2 = .ok (.iconst 0, 1) := by decide +kernel
theorem dX5_words_21 : decode cX5_words 21 = .ok (.aload_n 0, 1) := by decide +kernel
theorem dX5_words_22 : decode cX5_words 22 = .ok (.getfield 11, 3) := by decide +kernel
theorem dX5_words_25 : decode cX5_words 25 = .ok (.iload_n 2, 1) := by decide +kernel
theorem dX5_words_26 : decode cX5_words 26 = .ok (.aaload, 1) := by decide +kernel
theorem dX5_words_27 : decode cX5_words 27 = .ok (.astore_n 3, 1) := by decide +kernel
theorem dX5_words_28 : decode cX5_words 28 = .ok (.aload_n 3, 1) := by decide +kernel
theorem dX5_words_29 : decode cX5_words 29 = .ok (.ifnull 10, 3) := by decide +kernel
theorem dX5_words_3 : decode cX5_words 3 = .ok (.istore_n 2, 1) := by decide +kernel
theorem dX5_words_32 : decode cX5_words 32 = .ok (.iload_n 1, 1) := by decide +kernel
theorem dX5_words_33 : decode cX5_words 33 = .ok (.aload_n 3, 1) := by decide +kernel
theorem dX5_words_34 : decode cX5_words 34 = .ok (.getfield 35, 3) := by decide +kernel
theorem dX5_words_37 : decode cX5_words 37 = .ok (.iadd, 1) := by decide +kernel
theorem dX5_words_38 : decode cX5_words 38 = .ok (.istore_n 1, 1) := by decide +kernel
theorem dX5_words_39 : decode cX5_words 39 = .ok (.iinc 2 1, 3) := by decide +kernel
theorem dX5_words_4 : decode cX5_words 4 = .ok (.iload_n 2, 1) := by decide +kernel
theorem dX5_words_42 : decode cX5_words 42 = .ok (.goto (-38), 3) := by decide +kernel
theorem dX5_words_45 : decode cX5_words 45 = .ok (.iload_n 1, 1) := by decide +kernel
theorem dX5_words_46 : decode cX5_words 46 = .ok (.ireturn, 1) := by decide +kernel
theorem dX5_words_5 : decode cX5_words 5 = .ok (.aload_n 0, 1) := by decide +kernel
theorem dX5_words_6 : decode cX5_words 6 = .ok (.getfield 17, 3) := by decide +kernel
theorem dX5_words_9 : decode cX5_words 9 = .ok (.if_icmp .ge 36, 3) := by decide +kernel
theorem mok_yX5_add : MOK yX5_add cX5_add 2 (none : Option FieldType) 1 := ⟨w_467, w_2, by decide +kernel, by decide +kernel, by decide +kernel⟩
theorem mok_yX5_addByAddress : MOK yX5_addByAddress cX5_addByAddress 4 (none : Option FieldType) 1 := ⟨w_761, w_2, by decide +kernel, by decide +kernel, by decide +kernel⟩
theorem mok_yX5_clear : MOK yX5_clear cX5_clear 1 (none : Option FieldType) 0 := ⟨w_449, w_2, by decide +kernel, by decide +kernel, by decide +kernel⟩
theorem mok_yX5_item : MOK yX5_item cX5_item 2 (some (FieldType.object "Tenuredale$Thing")) 1 := ⟨w_421, w_2, by decide +kernel, by decide +kernel, by decide +kernel⟩
theorem mok_yX5_keepOnly : MOK yX5_keepOnly cX5_keepOnly 5 (none : Option FieldType) 1 := ⟨w_632, w_2, by decide +kernel, by decide +kernel, by decide +kernel⟩
theorem mok_yX5_pinned : MOK yX5_pinned cX5_pinned 4 (some FieldType.int) 0 := ⟨w_836, w_2, by decide +kernel, by decide +kernel, by decide +kernel⟩
theorem mok_yX5_size : MOK yX5_size cX5_size 1 (some FieldType.int) 0 := ⟨w_407, w_2, by decide +kernel, by decide +kernel, by decide +kernel⟩
theorem mok_yX5_words : MOK yX5_words cX5_words 4 (some FieldType.int) 0 := ⟨w_548, w_2, by decide +kernel, by decide +kernel, by decide +kernel⟩
theorem pn_RX5 : plainName RX5 = true := by decide +kernel
theorem ok_RX0 : COK RX0 TX0 6 tyX0 := ⟨usw_of [224, 226, 228, 230, 232, 234] (by decide +kernel) (by decide +kernel), by decide +kernel, by decide +kernel⟩
theorem df_RX0 : ∀ j, j < 6 → defaultValue (tyX0 j) = vp_V [.null, .null, .null, .null, .null, .null] j := fun j hj => by
  rcases (show j = 0 ∨ j = 1 ∨ j = 2 ∨ j = 3 ∨ j = 4 ∨ j = 5 by omega) with rfl | rfl | rfl | rfl | rfl | rfl <;> rfl
theorem ok_RX1 : COK RX1 TX1 3 tyX1 := ⟨usw_of [142, 144, 146] (by decide +kernel) (by decide +kernel), by decide +kernel, by decide +kernel⟩
theorem df_RX1 : ∀ j, j < 3 → defaultValue (tyX1 j) = vp_V [.null, .null, .int (nI 0)] j := fun j hj => by
  rcases (show j = 0 ∨ j = 1 ∨ j = 2 by omega) with rfl | rfl | rfl <;> rfl
theorem ok_RX2 : COK RX2 TX2 9 tyX2 := ⟨usw_of [193, 195, 197, 199, 201, 203, 205, 207, 209] (by decide +kernel) (by decide +kernel), by decide +kernel, by decide +kernel⟩
theorem df_RX2 : ∀ j, j < 9 → defaultValue (tyX2 j) = vp_V [.int (nI 0), .null, .null, .null, .null, .null, .int (nI 0), .int (nI 0), .int (nI 0)] j := fun j hj => by
  rcases (show j = 0 ∨ j = 1 ∨ j = 2 ∨ j = 3 ∨ j = 4 ∨ j = 5 ∨ j = 6 ∨ j = 7 ∨ j = 8 by omega) with rfl | rfl | rfl | rfl | rfl | rfl | rfl | rfl | rfl <;> rfl
theorem ok_RX3 : COK RX3 TX3 8 tyX3 := ⟨usw_of [92, 94, 96, 98, 100, 102, 104, 106] (by decide +kernel) (by decide +kernel), by decide +kernel, by decide +kernel⟩
theorem df_RX3 : ∀ j, j < 8 → defaultValue (tyX3 j) = vp_V [.null, .null, .null, .int (nI 0), .int (nI 0), .int (nI 0), .int (nI 0), .null] j := fun j hj => by
  rcases (show j = 0 ∨ j = 1 ∨ j = 2 ∨ j = 3 ∨ j = 4 ∨ j = 5 ∨ j = 6 ∨ j = 7 by omega) with rfl | rfl | rfl | rfl | rfl | rfl | rfl | rfl <;> rfl
theorem ok_RX4 : COK RX4 TX4 4 tyX4 := ⟨usw_of [57, 59, 61, 63] (by decide +kernel) (by decide +kernel), by decide +kernel, by decide +kernel⟩
theorem df_RX4 : ∀ j, j < 4 → defaultValue (tyX4 j) = vp_V [.null, .null, .null, .int (nI 0)] j := fun j hj => by
  rcases (show j = 0 ∨ j = 1 ∨ j = 2 ∨ j = 3 by omega) with rfl | rfl | rfl | rfl <;> rfl
theorem ok_RX5 : COK RX5 TX5 2 tyX5 := ⟨usw_of [36, 38] (by decide +kernel) (by decide +kernel), by decide +kernel, by decide +kernel⟩
theorem df_RX5 : ∀ j, j < 2 → defaultValue (tyX5 j) = vp_V [.null, .int (nI 0)] j := fun j hj => by
  rcases (show j = 0 ∨ j = 1 by omega) with rfl | rfl <;> rfl
theorem ok_RX6 : COK RX6 TX6 4 tyX6 := ⟨usw_of [124, 126, 128, 130] (by decide +kernel) (by decide +kernel), by decide +kernel, by decide +kernel⟩
theorem df_RX6 : ∀ j, j < 4 → defaultValue (tyX6 j) = vp_V [.int (nI 0), .int (nI 0), .int (nI 0), .int (nI 0)] j := fun j hj => by
  rcases (show j = 0 ∨ j = 1 ∨ j = 2 ∨ j = 3 by omega) with rfl | rfl | rfl | rfl <;> rfl
theorem ok_RX7 : COK RX7 TX7 14 tyX7 := ⟨usw_of [724, 726, 728, 730, 732, 734, 736, 738, 740, 742, 744, 746, 748, 750] (by decide +kernel) (by decide +kernel), by decide +kernel, by decide +kernel⟩
theorem df_RX7 : ∀ j, j < 14 → defaultValue (tyX7 j) = vp_V [.int (nI 0), .null, .int (nI 0), .int (nI 0), .int (nI 0), .int (nI 0), .int (nI 0), .int (nI 0), .int (nI 0), .int (nI 0), .int (nI 0), .int (nI 0), .int (nI 0), .int (nI 0)] j := fun j hj => by
  rcases (show j = 0 ∨ j = 1 ∨ j = 2 ∨ j = 3 ∨ j = 4 ∨ j = 5 ∨ j = 6 ∨ j = 7 ∨ j = 8 ∨ j = 9 ∨ j = 10 ∨ j = 11 ∨ j = 12 ∨ j = 13 by omega) with rfl | rfl | rfl | rfl | rfl | rfl | rfl | rfl | rfl | rfl | rfl | rfl | rfl | rfl <;> rfl
theorem ok_RX8 : COK RX8 TX8 6 tyX8 := ⟨usw_of [163, 165, 167, 169, 171, 173] (by decide +kernel) (by decide +kernel), by decide +kernel, by decide +kernel⟩
theorem df_RX8 : ∀ j, j < 6 → defaultValue (tyX8 j) = vp_V [.null, .null, .null, .int (nI 0), .int (nI 0), .null] j := fun j hj => by
  rcases (show j = 0 ∨ j = 1 ∨ j = 2 ∨ j = 3 ∨ j = 4 ∨ j = 5 by omega) with rfl | rfl | rfl | rfl | rfl | rfl <;> rfl
theorem ok_RX9 : COK RX9 TX9 9 tyX9 := ⟨usw_of [246, 248, 250, 252, 254, 256, 258, 260, 262] (by decide +kernel) (by decide +kernel), by decide +kernel, by decide +kernel⟩
theorem df_RX9 : ∀ j, j < 9 → defaultValue (tyX9 j) = vp_V [.null, .null, .null, .null, .null, .null, .null, .null, .int (nI 0)] j := fun j hj => by
  rcases (show j = 0 ∨ j = 1 ∨ j = 2 ∨ j = 3 ∨ j = 4 ∨ j = 5 ∨ j = 6 ∨ j = 7 ∨ j = 8 by omega) with rfl | rfl | rfl | rfl | rfl | rfl | rfl | rfl | rfl <;> rfl
end
section
/-! METHODS as functions, with their contracts, written by wip/p32/sx2.py -/
def f_Row_size (n : Nat) (M : cSt) (r0 : Nat) : Option (Int) := some (gI M (10 + r0))
set_option maxHeartbeats 4000000 in
set_option maxRecDepth 100000 in
theorem C_Row_size (l : Launch) (G : Nat → Nat) (D : va_G) (K : Nat → ClassId) (sz : Nat) (ga : Nat → Nat) (n : Nat) (M : cSt) (r0 : Nat) (hr0 : r0 < 7) {x : Int} (h : f_Row_size n M r0 = some x) : CM l yX5_size cX5_size 1 (some FieldType.int) ({ frames := 0, cells := 0, slots := 0, locals := 0 } : Room) G D K [.ref (ga (8 + r0))] (wld ga n (K 0) (K 1) M) sz (CQi (iI x) D (fun _ => wld ga n (K 0) (K 1) M)) := by
  refine CM_of (lv0 := [(0, .ref (ga (8 + r0)))]) pn_RX5 (Nat.le_of_ble_eq_true rfl) rfl (fun p e s m args below meth c A ls hx hb hr hml hown hts hlk hnm hP hK hD hS hA hm hl => ?_)
  have hown : s.vm.findClass RX5 = some m.cls := hown
  unfold f_Row_size at h
  refine lv_aload_n hx hb dX5_size_0 rfl (lv_at hl 0 rfl) ?_
  refine r_get hx hb hts ok_RX5 hown hK hP (8 + r0) (go_ro hr0) rfl 1 (by decide) w_35 (fun _ h9 => h9) rfl dX5_size_1 ?_
  obtain rfl := Option.some.inj h
  exact e_i hx hb hr hlk hP hD hS (fun _ => 0) rfl (Nat.le_of_ble_eq_true rfl) (Nat.le_of_ble_eq_true rfl) rfl dX5_size_4
def f_Row_item (n : Nat) (M : cSt) (r0 : Nat) (a1 : Int) : Option (Option Nat) := og (inR a1) (if a1 < 0 then some none else og (inR (gI M (10 + r0))) (if a1 < gI M (10 + r0) then if a1 < 200 then og (0 ≤ a1 ∧ a1 < 200) (some (gR M r0 (a1.toNat))) else some none else some none))
set_option maxHeartbeats 4000000 in
set_option maxRecDepth 100000 in
theorem C_Row_item (l : Launch) (G : Nat → Nat) (D : va_G) (K : Nat → ClassId) (sz : Nat) (ga : Nat → Nat) (n : Nat) (M : cSt) (r0 : Nat) (hr0 : r0 < 7) (a1 : Int) {x : Option Nat} (h : f_Row_item n M r0 a1 = some x) : CM l yX5_item cX5_item 2 (some (FieldType.object "Tenuredale$Thing")) ({ frames := 0, cells := 0, slots := 0, locals := 0 } : Room) G D K [.ref (ga (8 + r0)), .int (iI a1)] (wld ga n (K 0) (K 1) M) sz (CQq (fun _ => x.map (fun k => ga (25 + 2 * k))) D (fun _ => wld ga n (K 0) (K 1) M)) := by
  refine CM_of (lv0 := [(0, .ref (ga (8 + r0))), (1, .int (iI a1))]) pn_RX5 (Nat.le_of_ble_eq_true rfl) rfl (fun p e s m args below meth c A ls hx hb hr hml hown hts hlk hnm hP hK hD hS hA hm hl => ?_)
  have hown : s.vm.findClass RX5 = some m.cls := hown
  unfold f_Row_item at h
  refine lv_iload_n hx hb dX5_item_0 rfl (lv_at hl 1 rfl) ?_
  obtain ⟨g1, h⟩ := og_some h
  by_cases c2 : a1 < 0
  · replace h := it_T h c2
    refine i_if_lt_T hx hb g1 (tgt := 30) dX5_item_1 (by decide) c2 ?_
    refine lv_null hx hb dX5_item_30 ?_
    obtain rfl := Option.some.inj h
    exact e_q hx hb hr (Or.inl ⟨_, rfl⟩) hlk hP hD hS (fun _ => 0) rfl (Nat.le_of_ble_eq_true rfl) (Nat.le_of_ble_eq_true rfl) (v := .null) (r := fun _ => (none : Option Nat).map (fun k => ga (25 + 2 * k))) rfl dX5_item_31
  · replace h := it_F h c2
    refine i_if_lt_F hx hb g1 (tgt := 30) dX5_item_1 (by decide) c2 ?_
    refine lv_iload_n hx hb dX5_item_4 rfl (lv_at hl 1 rfl) ?_
    refine lv_aload_n hx hb dX5_item_5 rfl (lv_at hl 0 rfl) ?_
    refine r_get hx hb hts ok_RX5 hown hK hP (8 + r0) (go_ro hr0) rfl 1 (by decide) w_35 (fun _ h9 => h9) rfl dX5_item_6 ?_
    obtain ⟨g3, h⟩ := og_some h
    by_cases c4 : a1 < gI M (10 + r0)
    · replace h := it_T h c4
      refine i_icmp_ge_F hx hb g1 g3 (tgt := 30) dX5_item_9 (by decide) c4 ?_
      refine lv_iload_n hx hb dX5_item_12 rfl (lv_at hl 1 rfl) ?_
      refine lv_aload_n hx hb dX5_item_13 rfl (lv_at hl 0 rfl) ?_
      refine r_get hx hb hts ok_RX5 hown hK hP (8 + r0) (go_ro hr0) rfl 0 (by decide) w_34 (fun _ h9 => h9) rfl dX5_item_14 ?_
      refine i_alen hx hb (15 + r0) 0 hK hP (go_rw hr0) rfl rfl (Nat.le_of_ble_eq_true rfl) dX5_item_17 ?_
      refine w_toeq (show iI ((200 : Nat) : Int) = iI 200 from rfl) ?_
      by_cases c5 : a1 < 200
      · replace h := it_T h c5
        refine i_icmp_ge_F hx hb g1 ⟨by decide, by decide⟩ (tgt := 30) dX5_item_18 (by decide) c5 ?_
        refine lv_aload_n hx hb dX5_item_21 rfl (lv_at hl 0 rfl) ?_
        refine r_get hx hb hts ok_RX5 hown hK hP (8 + r0) (go_ro hr0) rfl 0 (by decide) w_34 (fun _ h9 => h9) rfl dX5_item_22 ?_
        refine lv_iload_n hx hb dX5_item_25 rfl (lv_at hl 1 rfl) ?_
        obtain ⟨g6, h⟩ := og_some h
        refine i_aald hx hb (15 + r0) 0 hK hP (go_rw hr0) rfl g6.1 g6.2 (Nat.le_of_ble_eq_true rfl) (v := ctv ga (gR M r0 (a1.toNat))) rfl dX5_item_26 ?_
        refine lv_goto (tgt := 31) hx hb dX5_item_27 (by decide) ?_
        obtain rfl := Option.some.inj h
        exact e_q hx hb hr (Or.inl ⟨_, rfl⟩) hlk hP hD hS (fun _ => 0) rfl (Nat.le_of_ble_eq_true rfl) (Nat.le_of_ble_eq_true rfl) (v := ctv ga (gR M r0 (a1.toNat))) (r := fun _ => ((gR M r0 (a1.toNat)) : Option Nat).map (fun k => ga (25 + 2 * k))) rfl dX5_item_31
      · replace h := it_F h c5
        refine i_icmp_ge_T hx hb g1 ⟨by decide, by decide⟩ (tgt := 30) dX5_item_18 (by decide) c5 ?_
        refine lv_null hx hb dX5_item_30 ?_
        obtain rfl := Option.some.inj h
        exact e_q hx hb hr (Or.inl ⟨_, rfl⟩) hlk hP hD hS (fun _ => 0) rfl (Nat.le_of_ble_eq_true rfl) (Nat.le_of_ble_eq_true rfl) (v := .null) (r := fun _ => (none : Option Nat).map (fun k => ga (25 + 2 * k))) rfl dX5_item_31
    · replace h := it_F h c4
      refine i_icmp_ge_T hx hb g1 g3 (tgt := 30) dX5_item_9 (by decide) c4 ?_
      refine lv_null hx hb dX5_item_30 ?_
      obtain rfl := Option.some.inj h
      exact e_q hx hb hr (Or.inl ⟨_, rfl⟩) hlk hP hD hS (fun _ => 0) rfl (Nat.le_of_ble_eq_true rfl) (Nat.le_of_ble_eq_true rfl) (v := .null) (r := fun _ => (none : Option Nat).map (fun k => ga (25 + 2 * k))) rfl dX5_item_31
def f_Row_add (n : Nat) (M : cSt) (r0 : Nat) (t1 : Option Nat) : Option (cSt) := og (inR (gI M (10 + r0))) (if gI M (10 + r0) < 0 then some M else if gI M (10 + r0) < 200 then on t1 (og (0 ≤ gI M (10 + r0) ∧ gI M (10 + r0) < 200) (some (sI (sR M r0 ((gI M (10 + r0)).toNat) none) (10 + r0) (gI (sR M r0 ((gI M (10 + r0)).toNat) none) (10 + r0) + 1)))) (fun k4 => og (k4 < n) (og (0 ≤ gI M (10 + r0) ∧ gI M (10 + r0) < 200) (some (sI (sR M r0 ((gI M (10 + r0)).toNat) (some k4)) (10 + r0) (gI (sR M r0 ((gI M (10 + r0)).toNat) (some k4)) (10 + r0) + 1))))) else some M)
set_option maxHeartbeats 4000000 in
set_option maxRecDepth 100000 in
theorem C_Row_add (l : Launch) (G : Nat → Nat) (D : va_G) (K : Nat → ClassId) (sz : Nat) (ga : Nat → Nat) (n : Nat) (M : cSt) (r0 : Nat) (hr0 : r0 < 7) (t1 : Option Nat) {x : cSt} (h : f_Row_add n M r0 t1 = some x) : CM l yX5_add cX5_add 2 (none : Option FieldType) ({ frames := 0, cells := 0, slots := 0, locals := 0 } : Room) G D K [.ref (ga (8 + r0)), ctv ga t1] (wld ga n (K 0) (K 1) M) sz (CQv D (fun _ => wld ga n (K 0) (K 1) x)) := by
  refine CM_of (lv0 := [(0, .ref (ga (8 + r0))), (1, ctv ga t1)]) pn_RX5 (by cases t1 <;> exact (Nat.le_of_ble_eq_true rfl)) (by cases t1 <;> rfl) (fun p e s m args below meth c A ls hx hb hr hml hown hts hlk hnm hP hK hD hS hA hm hl => ?_)
  have hown : s.vm.findClass RX5 = some m.cls := hown
  unfold f_Row_add at h
  refine lv_aload_n hx hb dX5_add_0 rfl (lv_at hl 0 rfl) ?_
  refine r_get hx hb hts ok_RX5 hown hK hP (8 + r0) (go_ro hr0) rfl 1 (by decide) w_35 (fun _ h9 => h9) rfl dX5_add_1 ?_
  obtain ⟨g1, h⟩ := og_some h
  by_cases c2 : gI M (10 + r0) < 0
  · replace h := it_T h c2
    refine i_if_lt_T hx hb g1 (tgt := 39) dX5_add_4 (by decide) c2 ?_
    obtain rfl := Option.some.inj h
    exact e_v hx hb hr hlk hP hD hS (fun _ => 0) rfl (Nat.le_of_ble_eq_true rfl) (Nat.le_of_ble_eq_true rfl) dX5_add_39
  · replace h := it_F h c2
    refine i_if_lt_F hx hb g1 (tgt := 39) dX5_add_4 (by decide) c2 ?_
    refine lv_aload_n hx hb dX5_add_7 rfl (lv_at hl 0 rfl) ?_
    refine r_get hx hb hts ok_RX5 hown hK hP (8 + r0) (go_ro hr0) rfl 1 (by decide) w_35 (fun _ h9 => h9) rfl dX5_add_8 ?_
    refine lv_aload_n hx hb dX5_add_11 rfl (lv_at hl 0 rfl) ?_
    refine r_get hx hb hts ok_RX5 hown hK hP (8 + r0) (go_ro hr0) rfl 0 (by decide) w_34 (fun _ h9 => h9) rfl dX5_add_12 ?_
    refine i_alen hx hb (15 + r0) 0 hK hP (go_rw hr0) rfl rfl (Nat.le_of_ble_eq_true rfl) dX5_add_15 ?_
    refine w_toeq (show iI ((200 : Nat) : Int) = iI 200 from rfl) ?_
    by_cases c3 : gI M (10 + r0) < 200
    · replace h := it_T h c3
      refine i_icmp_ge_F hx hb g1 ⟨by decide, by decide⟩ (tgt := 39) dX5_add_16 (by decide) c3 ?_
      refine lv_aload_n hx hb dX5_add_19 rfl (lv_at hl 0 rfl) ?_
      refine r_get hx hb hts ok_RX5 hown hK hP (8 + r0) (go_ro hr0) rfl 0 (by decide) w_34 (fun _ h9 => h9) rfl dX5_add_20 ?_
      refine lv_aload_n hx hb dX5_add_23 rfl (lv_at hl 0 rfl) ?_
      refine r_get hx hb hts ok_RX5 hown hK hP (8 + r0) (go_ro hr0) rfl 1 (by decide) w_35 (fun _ h9 => h9) rfl dX5_add_24 ?_
      refine t_aload_n hx hb dX5_add_27 rfl (lv_at hl 1 rfl) ?_
      rcases on_cases h with ⟨t4, h⟩ | ⟨k4, t4, h⟩
      · rw [ctv_none ga t4]
        obtain ⟨g5, h⟩ := og_some h
        refine i_aastN hx hb (15 + r0) 0 (ws' := wld ga n (K 0) (K 1) (sR M r0 ((gI M (10 + r0)).toNat) none)) hK hP hD hS (go_rw hr0) rfl g5.1 g5.2 (Nat.le_of_ble_eq_true rfl) dX5_add_28 (wRr (v := none) hr0) (fun H locs hP hD hS => ?_)
        refine lv_aload_n hx hb dX5_add_29 rfl (lv_at hl 0 rfl) ?_
        refine lv_dup hx hb dX5_add_30 rfl ?_
        refine r_get hx hb hts ok_RX5 hown hK hP (8 + r0) (go_ro hr0) rfl 1 (by decide) w_35 (fun _ h9 => h9) rfl dX5_add_31 ?_
        refine lv_iconst (v := iI 1) hx hb dX5_add_34 rfl ?_
        refine lv_iadd hx hb dX5_add_35 ?_
        refine w_toeq (iI_add (gI (sR M r0 ((gI M (10 + r0)).toNat) none) (10 + r0)) 1) ?_
        refine r_put hx hb hts ok_RX5 hown hK hP hD hS (8 + r0) (go_ro hr0) rfl 1 (by decide) w_35 (fun _ h9 => h9) rfl (v := .int (iI (gI (sR M r0 ((gI M (10 + r0)).toNat) none) (10 + r0) + 1))) rfl rfl (Nat.le_of_ble_eq_true rfl) dX5_add_36 (ws' := wld ga n (K 0) (K 1) (sI (sR M r0 ((gI M (10 + r0)).toNat) none) (10 + r0) (gI (sR M r0 ((gI M (10 + r0)).toNat) none) (10 + r0) + 1))) (wIr hr0) (fun H locs hP hD hS => ?_)
        obtain rfl := Option.some.inj h
        exact e_v hx hb hr hlk hP hD hS (fun _ => 0) rfl (Nat.le_of_ble_eq_true rfl) (Nat.le_of_ble_eq_true rfl) dX5_add_39
      · obtain ⟨hk4, h⟩ := og_some h
        rw [ctv_some ga t4]
        obtain ⟨g6, h⟩ := og_some h
        refine i_aast hx hb (15 + r0) 0 (ws' := wld ga n (K 0) (K 1) (sR M r0 ((gI M (10 + r0)).toNat) (some k4))) hK hP hD hS (go_rw hr0) rfl (any_S hK hP (25 + 2 * k4) (go_th hk4) rfl rfl) g6.1 g6.2 (Nat.le_of_ble_eq_true rfl) dX5_add_28 (wRr (v := (some k4)) hr0) (fun H locs hP hD hS => ?_)
        refine lv_aload_n hx hb dX5_add_29 rfl (lv_at hl 0 rfl) ?_
        refine lv_dup hx hb dX5_add_30 rfl ?_
        refine r_get hx hb hts ok_RX5 hown hK hP (8 + r0) (go_ro hr0) rfl 1 (by decide) w_35 (fun _ h9 => h9) rfl dX5_add_31 ?_
        refine lv_iconst (v := iI 1) hx hb dX5_add_34 rfl ?_
        refine lv_iadd hx hb dX5_add_35 ?_
        refine w_toeq (iI_add (gI (sR M r0 ((gI M (10 + r0)).toNat) (some k4)) (10 + r0)) 1) ?_
        refine r_put hx hb hts ok_RX5 hown hK hP hD hS (8 + r0) (go_ro hr0) rfl 1 (by decide) w_35 (fun _ h9 => h9) rfl (v := .int (iI (gI (sR M r0 ((gI M (10 + r0)).toNat) (some k4)) (10 + r0) + 1))) rfl rfl (Nat.le_of_ble_eq_true rfl) dX5_add_36 (ws' := wld ga n (K 0) (K 1) (sI (sR M r0 ((gI M (10 + r0)).toNat) (some k4)) (10 + r0) (gI (sR M r0 ((gI M (10 + r0)).toNat) (some k4)) (10 + r0) + 1))) (wIr hr0) (fun H locs hP hD hS => ?_)
        obtain rfl := Option.some.inj h
        exact e_v hx hb hr hlk hP hD hS (fun _ => 0) rfl (Nat.le_of_ble_eq_true rfl) (Nat.le_of_ble_eq_true rfl) dX5_add_39
    · replace h := it_F h c3
      refine i_icmp_ge_T hx hb g1 ⟨by decide, by decide⟩ (tgt := 39) dX5_add_16 (by decide) c3 ?_
      obtain rfl := Option.some.inj h
      exact e_v hx hb hr hlk hP hD hS (fun _ => 0) rfl (Nat.le_of_ble_eq_true rfl) (Nat.le_of_ble_eq_true rfl) dX5_add_39
def s_Row_addByAddress_12 (rec : cSt → Int → Option ((cSt) ⊕ (cSt))) (n : Nat) (r0 : Nat) (v1 : Option Nat) (M : cSt) (v2 : Int) : Option ((cSt) ⊕ (cSt)) := og (inR v2) (if 0 < v2 then if v2 < 200 then og (0 ≤ (v2 - 1) ∧ (v2 - 1) < 200) (on (gR M r0 ((v2 - 1).toNat)) (some (.inr M)) (fun k6 => og (k6 < n) (on v1 none (fun k7 => og (k7 < n) (og (inR (gT M k6 4)) (og (inR (gT M k7 4)) (if gT M k7 4 < gT M k6 4 then og (0 ≤ v2 ∧ v2 < 200) (rec (sR (sR M r0 (v2.toNat) (some k6)) r0 ((v2 - 1).toNat) (some k7)) (v2 + (-1))) else some (.inr M)))))))) else some (.inl M) else some (.inl M))
def g_Row_addByAddress_12 (n : Nat) (r0 : Nat) (v1 : Option Nat) : Nat → cSt → Int → Option ((cSt) ⊕ (cSt))
  | 0 => fun _ _ => none
  | q + 1 => s_Row_addByAddress_12 (g_Row_addByAddress_12 n r0 v1 q) n r0 v1
set_option maxHeartbeats 4000000 in
set_option maxRecDepth 100000 in
theorem L_Row_addByAddress_12 {p : Program} {l : Launch} {G : Nat → Nat} {D : va_G} {K : Nat → ClassId} {e : Env} {s : State} {m : MethodId} {args : Array Value} {below : List Frame} {meth : Method} {c : Code} {A : Nat → Prop} (hx : p.tables.exec = Jvm.exec) (hb : c.code = cX5_addByAddress) (hr : meth.sig.returnType = (none : Option FieldType)) (hml : c.maxLocals = 4) (hown : s.vm.findClass RX5 = some m.cls) (hts : ∀ w ∈ lw_gw, w.before args s = true) (hlk : meth.locks = false) (hK : va_K D cl (tys K) s) (hA : ∀ q : Nat, s.heap.size ≤ q → A q) (hm : Amb G A s s.heap) {x : cSt} (ga : Nat → Nat) (n : Nat) (r0 : Nat) (hr0 : r0 < 7) (v1 : Option Nat) : ∀ (q : Nat) (M : cSt) (v2 : Int) (out : (cSt) ⊕ (cSt)), g_Row_addByAddress_12 n r0 v1 q M v2 = some out → ∀ (ls : Array Slot) (H : Heap) (locs : List Loc), va_P D cl (wld ga n (K 0) (K 1) M) H → va_D A (wld ga n (K 0) (K 1) M) → va_S A s.heap H locs → lv_has ls 4 [(0, .ref (ga (8 + r0))), (1, ctv ga v1), (2, .int (iI v2))] → (∀ (y : (cSt)), out = .inl y → ∀ (ls : Array Slot) (H : Heap) (locs : List Loc), va_P D cl (wld ga n (K 0) (K 1) y) H → va_D A (wld ga n (K 0) (K 1) y) → va_S A s.heap H locs → lv_has ls 4 [] → W p l e ({ frames := 1, cells := 0, slots := 0, locals := 21 } : Room) s m args below meth c H locs 0 0 (MQ below ((CQv D (fun _ => wld ga n (K 0) (K 1) x)) A) args s 0 0 A) (F0 m 72 ls [])) → (∀ y : cSt, out = .inr y → y = x) → W p l e ({ frames := 1, cells := 0, slots := 0, locals := 21 } : Room) s m args below meth c H locs 0 0 (MQ below ((CQv D (fun _ => wld ga n (K 0) (K 1) x)) A) args s 0 0 A) (F0 m 12 ls []) := by
  intro q
  induction q with
  | zero =>
    intro M v2 out h
    cases (show none = some out from h)
  | succ q ih =>
    intro M v2 out h ls H locs hP hD hS hl kk hrt
    replace h : s_Row_addByAddress_12 (g_Row_addByAddress_12 n r0 v1 q) n r0 v1 M v2 = some out := h
    unfold s_Row_addByAddress_12 at h
    refine lv_iload_n hx hb dX5_addByAddress_12 rfl (lv_at hl 2 rfl) ?_
    obtain ⟨g2, h⟩ := og_some h
    by_cases c3 : 0 < v2
    · replace h := it_T h c3
      refine i_if_le_F hx hb g2 (tgt := 72) dX5_addByAddress_13 (by decide) c3 ?_
      refine lv_iload_n hx hb dX5_addByAddress_16 rfl (lv_at hl 2 rfl) ?_
      refine lv_aload_n hx hb dX5_addByAddress_17 rfl (lv_at hl 0 rfl) ?_
      refine r_get hx hb hts ok_RX5 hown hK hP (8 + r0) (go_ro hr0) rfl 0 (by decide) w_34 (fun _ h9 => h9) rfl dX5_addByAddress_18 ?_
      refine i_alen hx hb (15 + r0) 0 hK hP (go_rw hr0) rfl rfl (Nat.le_of_ble_eq_true rfl) dX5_addByAddress_21 ?_
      refine w_toeq (show iI ((200 : Nat) : Int) = iI 200 from rfl) ?_
      by_cases c4 : v2 < 200
      · replace h := it_T h c4
        refine i_icmp_ge_F hx hb g2 ⟨by decide, by decide⟩ (tgt := 72) dX5_addByAddress_22 (by decide) c4 ?_
        refine lv_aload_n hx hb dX5_addByAddress_25 rfl (lv_at hl 0 rfl) ?_
        refine r_get hx hb hts ok_RX5 hown hK hP (8 + r0) (go_ro hr0) rfl 0 (by decide) w_34 (fun _ h9 => h9) rfl dX5_addByAddress_26 ?_
        refine lv_iload_n hx hb dX5_addByAddress_29 rfl (lv_at hl 2 rfl) ?_
        refine lv_iconst (v := iI 1) hx hb dX5_addByAddress_30 rfl ?_
        refine lv_isub hx hb dX5_addByAddress_31 ?_
        refine w_toeq (iI_sub v2 1) ?_
        obtain ⟨g5, h⟩ := og_some h
        refine i_aald hx hb (15 + r0) 0 hK hP (go_rw hr0) rfl g5.1 g5.2 (Nat.le_of_ble_eq_true rfl) (v := ctv ga (gR M r0 ((v2 - 1).toNat))) rfl dX5_addByAddress_32 ?_
        refine t_astore_n hx hb dX5_addByAddress_33 rfl hl (by decide) [0, 1, 2] (lv' := [(0, .ref (ga (8 + r0))), (1, ctv ga v1), (2, .int (iI v2))]) rfl (⟨⟨Nat.ne_of_beq_eq_false rfl, Or.inl (Nat.ne_of_beq_eq_false rfl)⟩, ⟨⟨Nat.ne_of_beq_eq_false rfl, Or.inl (Nat.ne_of_beq_eq_false rfl)⟩, ⟨⟨Nat.ne_of_beq_eq_false rfl, Or.inr rfl⟩, trivial⟩⟩⟩) (fun ls hl => ?_)
        refine t_aload_n hx hb dX5_addByAddress_34 rfl (lv_at hl 0 rfl) ?_
        rcases on_cases h with ⟨t6, h⟩ | ⟨k6, t6, h⟩
        · rw [ctv_none ga t6]
          refine lv_ifnullN (tgt := 49) hx hb dX5_addByAddress_35 (by decide) ?_
          obtain rfl := Option.some.inj h
          obtain rfl := hrt _ rfl
          exact e_v hx hb hr hlk hP hD hS (fun _ => 0) rfl (Nat.le_of_ble_eq_true rfl) (Nat.le_of_ble_eq_true rfl) dX5_addByAddress_49
        · obtain ⟨hk6, h⟩ := og_some h
          rw [ctv_some ga t6]
          refine lv_ifnull hx hb dX5_addByAddress_35 ?_
          refine t_aload_n hx hb dX5_addByAddress_38 rfl (lv_at hl 0 rfl) ?_
          rw [ctv_some ga t6]
          refine r_get hx hb hts ok_RX7 hown hK hP (25 + 2 * k6) (go_th hk6) rfl 4 (by decide) w_695 (fun _ h9 => h9) rfl dX5_addByAddress_39 ?_
          refine t_aload_n hx hb dX5_addByAddress_42 rfl (lv_at hl 2 rfl) ?_
          rcases on_cases h with ⟨t7, h⟩ | ⟨k7, t7, h⟩
          · cases h
          · obtain ⟨hk7, h⟩ := og_some h
            rw [ctv_some ga t7]
            refine r_get hx hb hts ok_RX7 hown hK hP (25 + 2 * k7) (go_th hk7) rfl 4 (by decide) w_695 (fun _ h9 => h9) rfl dX5_addByAddress_43 ?_
            obtain ⟨g8, h⟩ := og_some h
            obtain ⟨g9, h⟩ := og_some h
            by_cases c10 : gT M k7 4 < gT M k6 4
            · replace h := it_T h c10
              refine i_icmp_gt_T hx hb g8 g9 (tgt := 50) dX5_addByAddress_46 (by decide) c10 ?_
              refine lv_aload_n hx hb dX5_addByAddress_50 rfl (lv_at hl 1 rfl) ?_
              refine r_get hx hb hts ok_RX5 hown hK hP (8 + r0) (go_ro hr0) rfl 0 (by decide) w_34 (fun _ h9 => h9) rfl dX5_addByAddress_51 ?_
              refine lv_iload_n hx hb dX5_addByAddress_54 rfl (lv_at hl 3 rfl) ?_
              refine t_aload_n hx hb dX5_addByAddress_55 rfl (lv_at hl 0 rfl) ?_
              rw [ctv_some ga t6]
              obtain ⟨g11, h⟩ := og_some h
              refine i_aast hx hb (15 + r0) 0 (ws' := wld ga n (K 0) (K 1) (sR M r0 (v2.toNat) (some k6))) hK hP hD hS (go_rw hr0) rfl (any_S hK hP (25 + 2 * k6) (go_th hk6) rfl rfl) g11.1 g11.2 (Nat.le_of_ble_eq_true rfl) dX5_addByAddress_56 (wRr (v := (some k6)) hr0) (fun H locs hP hD hS => ?_)
              refine lv_aload_n hx hb dX5_addByAddress_57 rfl (lv_at hl 1 rfl) ?_
              refine r_get hx hb hts ok_RX5 hown hK hP (8 + r0) (go_ro hr0) rfl 0 (by decide) w_34 (fun _ h9 => h9) rfl dX5_addByAddress_58 ?_
              refine lv_iload_n hx hb dX5_addByAddress_61 rfl (lv_at hl 3 rfl) ?_
              refine lv_iconst (v := iI 1) hx hb dX5_addByAddress_62 rfl ?_
              refine lv_isub hx hb dX5_addByAddress_63 ?_
              refine w_toeq (iI_sub v2 1) ?_
              refine t_aload_n hx hb dX5_addByAddress_64 rfl (lv_at hl 2 rfl) ?_
              rw [ctv_some ga t7]
              refine i_aast hx hb (15 + r0) 0 (ws' := wld ga n (K 0) (K 1) (sR (sR M r0 (v2.toNat) (some k6)) r0 ((v2 - 1).toNat) (some k7))) hK hP hD hS (go_rw hr0) rfl (any_S hK hP (25 + 2 * k7) (go_th hk7) rfl rfl) g5.1 g5.2 (Nat.le_of_ble_eq_true rfl) dX5_addByAddress_65 (wRr (v := (some k7)) hr0) (fun H locs hP hD hS => ?_)
              refine x_iinc (v := iI (v2 + (-1))) hx hb dX5_addByAddress_66 hl (k := 3) rfl (iI_add v2 (-1)) (by decide) [0, 1, 2] (lv' := [(3, ctv ga (gR M r0 ((v2 - 1).toNat))), (0, .ref (ga (8 + r0))), (1, ctv ga v1)]) rfl (⟨⟨Nat.ne_of_beq_eq_false rfl, Or.inl (Nat.ne_of_beq_eq_false rfl)⟩, ⟨⟨Nat.ne_of_beq_eq_false rfl, Or.inl (Nat.ne_of_beq_eq_false rfl)⟩, ⟨⟨Nat.ne_of_beq_eq_false rfl, Or.inr (ctv_cat _ _)⟩, trivial⟩⟩⟩) (fun ls hl => ?_)
              refine lv_goto (tgt := 12) hx hb dX5_addByAddress_69 (by decide) ?_
              exact ih (sR (sR M r0 (v2.toNat) (some k6)) r0 ((v2 - 1).toNat) (some k7)) (v2 + (-1)) _ h _ _ _ hP hD hS (lv_pk hl [2, 3, 0] rfl) kk hrt
            · replace h := it_F h c10
              refine i_icmp_gt_F hx hb g8 g9 (tgt := 50) dX5_addByAddress_46 (by decide) c10 ?_
              obtain rfl := Option.some.inj h
              obtain rfl := hrt _ rfl
              exact e_v hx hb hr hlk hP hD hS (fun _ => 0) rfl (Nat.le_of_ble_eq_true rfl) (Nat.le_of_ble_eq_true rfl) dX5_addByAddress_49
      · replace h := it_F h c4
        refine i_icmp_ge_T hx hb g2 ⟨by decide, by decide⟩ (tgt := 72) dX5_addByAddress_22 (by decide) c4 ?_
        obtain rfl := Option.some.inj h
        exact kk _ rfl _ _ _ hP hD hS (lv_pk hl [] rfl)
    · replace h := it_F h c3
      refine i_if_le_T hx hb g2 (tgt := 72) dX5_addByAddress_13 (by decide) c3 ?_
      obtain rfl := Option.some.inj h
      exact kk _ rfl _ _ _ hP hD hS (lv_pk hl [] rfl)
def f_Row_addByAddress (n : Nat) (M : cSt) (r0 : Nat) (t1 : Option Nat) : Option (cSt) := ob (f_Row_add n M r0 t1) (fun x1 => ob (g_Row_addByAddress_12 n r0 t1 fu x1 (gI x1 (10 + r0) - 1)) (fun x12 => os x12 (fun y12 => some y12)))
set_option maxHeartbeats 4000000 in
set_option maxRecDepth 100000 in
theorem C_Row_addByAddress (l : Launch) (G : Nat → Nat) (D : va_G) (K : Nat → ClassId) (sz : Nat) (ga : Nat → Nat) (n : Nat) (M : cSt) (r0 : Nat) (hr0 : r0 < 7) (t1 : Option Nat) {x : cSt} (h : f_Row_addByAddress n M r0 t1 = some x) : CM l yX5_addByAddress cX5_addByAddress 4 (none : Option FieldType) ({ frames := 1, cells := 0, slots := 0, locals := 21 } : Room) G D K [.ref (ga (8 + r0)), ctv ga t1] (wld ga n (K 0) (K 1) M) sz (CQv D (fun _ => wld ga n (K 0) (K 1) x)) := by
  refine CM_of (lv0 := [(0, .ref (ga (8 + r0))), (1, ctv ga t1)]) pn_RX5 (by cases t1 <;> exact (Nat.le_of_ble_eq_true rfl)) (by cases t1 <;> rfl) (fun p e s m args below meth c A ls hx hb hr hml hown hts hlk hnm hP hK hD hS hA hm hl => ?_)
  have hown : s.vm.findClass RX5 = some m.cls := hown
  unfold f_Row_addByAddress at h
  refine lv_aload_n hx hb dX5_addByAddress_0 rfl (lv_at hl 0 rfl) ?_
  refine t_aload_n hx hb dX5_addByAddress_1 rfl (lv_at hl 1 rfl) ?_
  obtain ⟨x1, ex1, h⟩ := ob_some h
  refine gk_v (run_V (rest := []) hx hb hml hown hts hK hP hD hS hA hm (C_Row_add l G D K s.heap.size ga n M r0 hr0 t1 ex1) _ (full_C _) (full_n _ List.nodup_range) mok_yX5_add w_633 w_465 w_466 (rcv hK hP (8 + r0) (go_ro hr0) rfl rfl) ⟨Nat.le_of_ble_eq_true rfl, Nat.le_of_ble_eq_true rfl⟩ rfl hl.1 rfl (Nat.le_of_ble_eq_true rfl) dX5_addByAddress_2 ⟨(Nat.le_of_ble_eq_true rfl), (Nat.le_of_ble_eq_true rfl)⟩) hP hD hS hA (fun u H locs (hP : va_P D cl (wld ga n (K 0) (K 1) x1) H) (hD : va_D A (wld ga n (K 0) (K 1) x1)) hS => ?_)
  refine lv_aload_n hx hb dX5_addByAddress_5 rfl (lv_at hl 0 rfl) ?_
  refine r_get hx hb hts ok_RX5 hown hK hP (8 + r0) (go_ro hr0) rfl 1 (by decide) w_35 (fun _ h9 => h9) rfl dX5_addByAddress_6 ?_
  refine lv_iconst (v := iI 1) hx hb dX5_addByAddress_9 rfl ?_
  refine lv_isub hx hb dX5_addByAddress_10 ?_
  refine w_toeq (iI_sub (gI x1 (10 + r0)) 1) ?_
  refine x_istore_n hx hb dX5_addByAddress_11 rfl hl (by decide) [0, 1] (lv' := [(0, .ref (ga (8 + r0))), (1, ctv ga t1)]) rfl (⟨⟨Nat.ne_of_beq_eq_false rfl, Or.inl (Nat.ne_of_beq_eq_false rfl)⟩, ⟨⟨Nat.ne_of_beq_eq_false rfl, Or.inr (ctv_cat _ _)⟩, trivial⟩⟩) (fun ls hl => ?_)
  obtain ⟨x12, ex12, h⟩ := ob_some h
  refine L_Row_addByAddress_12 hx hb hr hml hown hts hlk hK hA hm ga n r0 hr0 t1  fu x1 (gI x1 (10 + r0) - 1) _ ex12 _ _ _ hP hD hS (lv_pk hl [1, 2, 0] rfl) (fun y12 ty12 ls H locs (hP : va_P D cl (wld ga n (K 0) (K 1) y12) H) (hD : va_D A (wld ga n (K 0) (K 1) y12)) hS (hl : lv_has ls 4 []) => ?_) (fun y12 ty12 => os_r h ty12)
  replace h := os_l h ty12
  obtain rfl := Option.some.inj h
  exact e_v hx hb hr hlk hP hD hS (fun _ => 0) rfl (Nat.le_of_ble_eq_true rfl) (Nat.le_of_ble_eq_true rfl) dX5_addByAddress_72
def s_Row_keepOnly_12 (rec : cSt → Int → Option (cSt)) (n : Nat) (r0 : Nat) (v1 : Int) (v2 : Int) (M : cSt) (v3 : Int) : Option (cSt) := og (inR v3) (og (inR v2) (if v3 < v2 then if v3 < 200 then og (0 ≤ v3 ∧ v3 < 200) (on (gR M r0 (v3.toNat)) (rec M (v3 + 1)) (fun k6 => og (k6 < n) (og (inR (gT M k6 3)) (og (inR v1) (if gT M k6 3 = v1 then ob (f_Row_add n M r0 (some k6)) (fun x10 => rec x10 (v3 + 1)) else rec M (v3 + 1)))))) else some M else some M))
def g_Row_keepOnly_12 (n : Nat) (r0 : Nat) (v1 : Int) (v2 : Int) : Nat → cSt → Int → Option (cSt)
  | 0 => fun _ _ => none
  | q + 1 => s_Row_keepOnly_12 (g_Row_keepOnly_12 n r0 v1 v2 q) n r0 v1 v2
set_option maxHeartbeats 4000000 in
set_option maxRecDepth 100000 in
theorem L_Row_keepOnly_12 {p : Program} {l : Launch} {G : Nat → Nat} {D : va_G} {K : Nat → ClassId} {e : Env} {s : State} {m : MethodId} {args : Array Value} {below : List Frame} {meth : Method} {c : Code} {A : Nat → Prop} (hx : p.tables.exec = Jvm.exec) (hb : c.code = cX5_keepOnly) (hr : meth.sig.returnType = (none : Option FieldType)) (hml : c.maxLocals = 5) (hown : s.vm.findClass RX5 = some m.cls) (hts : ∀ w ∈ lw_gw, w.before args s = true) (hlk : meth.locks = false) (hK : va_K D cl (tys K) s) (hA : ∀ q : Nat, s.heap.size ≤ q → A q) (hm : Amb G A s s.heap) {Q : State → Prop} (ga : Nat → Nat) (n : Nat) (r0 : Nat) (hr0 : r0 < 7) (v1 : Int) (v2 : Int) : ∀ (q : Nat) (M : cSt) (v3 : Int) (out : cSt), g_Row_keepOnly_12 n r0 v1 v2 q M v3 = some out → ∀ (ls : Array Slot) (H : Heap) (locs : List Loc), va_P D cl (wld ga n (K 0) (K 1) M) H → va_D A (wld ga n (K 0) (K 1) M) → va_S A s.heap H locs → lv_has ls 5 [(0, .ref (ga (8 + r0))), (1, .int (iI v1)), (2, .int (iI v2)), (3, .int (iI v3))] → (∀ (ls : Array Slot) (H : Heap) (locs : List Loc), va_P D cl (wld ga n (K 0) (K 1) out) H → va_D A (wld ga n (K 0) (K 1) out) → va_S A s.heap H locs → lv_has ls 5 [] → W p l e ({ frames := 1, cells := 0, slots := 0, locals := 21 } : Room) s m args below meth c H locs 0 0 Q (F0 m 60 ls [])) → W p l e ({ frames := 1, cells := 0, slots := 0, locals := 21 } : Room) s m args below meth c H locs 0 0 Q (F0 m 12 ls []) := by
  intro q
  induction q with
  | zero =>
    intro M v3 out h
    cases (show none = some out from h)
  | succ q ih =>
    intro M v3 out h ls H locs hP hD hS hl kk
    replace h : s_Row_keepOnly_12 (g_Row_keepOnly_12 n r0 v1 v2 q) n r0 v1 v2 M v3 = some out := h
    unfold s_Row_keepOnly_12 at h
    refine lv_iload_n hx hb dX5_keepOnly_12 rfl (lv_at hl 3 rfl) ?_
    refine lv_iload_n hx hb dX5_keepOnly_13 rfl (lv_at hl 2 rfl) ?_
    obtain ⟨g1, h⟩ := og_some h
    obtain ⟨g2, h⟩ := og_some h
    by_cases c3 : v3 < v2
    · replace h := it_T h c3
      refine i_icmp_ge_F hx hb g1 g2 (tgt := 60) dX5_keepOnly_14 (by decide) c3 ?_
      refine lv_iload_n hx hb dX5_keepOnly_17 rfl (lv_at hl 3 rfl) ?_
      refine lv_aload_n hx hb dX5_keepOnly_18 rfl (lv_at hl 0 rfl) ?_
      refine r_get hx hb hts ok_RX5 hown hK hP (8 + r0) (go_ro hr0) rfl 0 (by decide) w_34 (fun _ h9 => h9) rfl dX5_keepOnly_19 ?_
      refine i_alen hx hb (15 + r0) 0 hK hP (go_rw hr0) rfl rfl (Nat.le_of_ble_eq_true rfl) dX5_keepOnly_22 ?_
      refine w_toeq (show iI ((200 : Nat) : Int) = iI 200 from rfl) ?_
      by_cases c4 : v3 < 200
      · replace h := it_T h c4
        refine i_icmp_ge_F hx hb g1 ⟨by decide, by decide⟩ (tgt := 60) dX5_keepOnly_23 (by decide) c4 ?_
        refine lv_aload_n hx hb dX5_keepOnly_26 rfl (lv_at hl 0 rfl) ?_
        refine r_get hx hb hts ok_RX5 hown hK hP (8 + r0) (go_ro hr0) rfl 0 (by decide) w_34 (fun _ h9 => h9) rfl dX5_keepOnly_27 ?_
        refine lv_iload_n hx hb dX5_keepOnly_30 rfl (lv_at hl 3 rfl) ?_
        obtain ⟨g5, h⟩ := og_some h
        refine i_aald hx hb (15 + r0) 0 hK hP (go_rw hr0) rfl g5.1 g5.2 (Nat.le_of_ble_eq_true rfl) (v := ctv ga (gR M r0 (v3.toNat))) rfl dX5_keepOnly_31 ?_
        refine t_astore hx hb dX5_keepOnly_32 hl (by decide) [0, 1, 2, 3] (lv' := [(0, .ref (ga (8 + r0))), (1, .int (iI v1)), (2, .int (iI v2)), (3, .int (iI v3))]) rfl (⟨⟨Nat.ne_of_beq_eq_false rfl, Or.inl (Nat.ne_of_beq_eq_false rfl)⟩, ⟨⟨Nat.ne_of_beq_eq_false rfl, Or.inl (Nat.ne_of_beq_eq_false rfl)⟩, ⟨⟨Nat.ne_of_beq_eq_false rfl, Or.inl (Nat.ne_of_beq_eq_false rfl)⟩, ⟨⟨Nat.ne_of_beq_eq_false rfl, Or.inr rfl⟩, trivial⟩⟩⟩⟩) (fun ls hl => ?_)
        refine t_aload hx hb dX5_keepOnly_34 (lv_at hl 0 rfl) ?_
        rcases on_cases h with ⟨t6, h⟩ | ⟨k6, t6, h⟩
        · rw [ctv_none ga t6]
          refine lv_ifnullN (tgt := 54) hx hb dX5_keepOnly_36 (by decide) ?_
          refine x_iinc (v := iI (v3 + 1)) hx hb dX5_keepOnly_54 hl (k := 4) rfl (iI_add v3 1) (by decide) [0, 1, 2, 3] (lv' := [(4, ctv ga (gR M r0 (v3.toNat))), (0, .ref (ga (8 + r0))), (1, .int (iI v1)), (2, .int (iI v2))]) rfl (⟨⟨Nat.ne_of_beq_eq_false rfl, Or.inl (Nat.ne_of_beq_eq_false rfl)⟩, ⟨⟨Nat.ne_of_beq_eq_false rfl, Or.inl (Nat.ne_of_beq_eq_false rfl)⟩, ⟨⟨Nat.ne_of_beq_eq_false rfl, Or.inl (Nat.ne_of_beq_eq_false rfl)⟩, ⟨⟨Nat.ne_of_beq_eq_false rfl, Or.inr rfl⟩, trivial⟩⟩⟩⟩) (fun ls hl => ?_)
          refine lv_goto (tgt := 12) hx hb dX5_keepOnly_57 (by decide) ?_
          exact ih M (v3 + 1) _ h _ _ _ hP hD hS (lv_pk hl [2, 3, 4, 0] rfl) kk
        · obtain ⟨hk6, h⟩ := og_some h
          rw [ctv_some ga t6]
          refine lv_ifnull hx hb dX5_keepOnly_36 ?_
          refine t_aload hx hb dX5_keepOnly_39 (lv_at hl 0 rfl) ?_
          rw [ctv_some ga t6]
          refine r_get hx hb hts ok_RX7 hown hK hP (25 + 2 * k6) (go_th hk6) rfl 3 (by decide) w_690 (fun _ h9 => h9) rfl dX5_keepOnly_41 ?_
          refine lv_iload_n hx hb dX5_keepOnly_44 rfl (lv_at hl 2 rfl) ?_
          obtain ⟨g7, h⟩ := og_some h
          obtain ⟨g8, h⟩ := og_some h
          by_cases c9 : gT M k6 3 = v1
          · replace h := it_T h c9
            refine i_icmp_ne_F hx hb g7 g8 (tgt := 54) dX5_keepOnly_45 (by decide) c9 ?_
            refine lv_aload_n hx hb dX5_keepOnly_48 rfl (lv_at hl 1 rfl) ?_
            refine t_aload hx hb dX5_keepOnly_49 (lv_at hl 0 rfl) ?_
            rw [ctv_some ga t6]
            obtain ⟨x10, ex10, h⟩ := ob_some h
            refine gk_v (run_V (rest := []) hx hb hml hown hts hK hP hD hS hA hm (C_Row_add l G D K H.size ga n M r0 hr0 (some k6) ex10) _ (full_C _) (full_n _ List.nodup_range) mok_yX5_add w_633 w_465 w_466 (rcv hK hP (8 + r0) (go_ro hr0) rfl rfl) ⟨Nat.le_of_ble_eq_true rfl, Nat.le_of_ble_eq_true rfl⟩ rfl hl.1 rfl (Nat.le_of_ble_eq_true rfl) dX5_keepOnly_51 ⟨(Nat.le_of_ble_eq_true rfl), (Nat.le_of_ble_eq_true rfl)⟩) hP hD hS hA (fun u H locs (hP : va_P D cl (wld ga n (K 0) (K 1) x10) H) (hD : va_D A (wld ga n (K 0) (K 1) x10)) hS => ?_)
            refine x_iinc (v := iI (v3 + 1)) hx hb dX5_keepOnly_54 hl (k := 4) rfl (iI_add v3 1) (by decide) [0, 1, 2, 3] (lv' := [(4, ctv ga (gR M r0 (v3.toNat))), (0, .ref (ga (8 + r0))), (1, .int (iI v1)), (2, .int (iI v2))]) rfl (⟨⟨Nat.ne_of_beq_eq_false rfl, Or.inl (Nat.ne_of_beq_eq_false rfl)⟩, ⟨⟨Nat.ne_of_beq_eq_false rfl, Or.inl (Nat.ne_of_beq_eq_false rfl)⟩, ⟨⟨Nat.ne_of_beq_eq_false rfl, Or.inl (Nat.ne_of_beq_eq_false rfl)⟩, ⟨⟨Nat.ne_of_beq_eq_false rfl, Or.inr rfl⟩, trivial⟩⟩⟩⟩) (fun ls hl => ?_)
            refine lv_goto (tgt := 12) hx hb dX5_keepOnly_57 (by decide) ?_
            exact ih x10 (v3 + 1) _ h _ _ _ hP hD hS (lv_pk hl [2, 3, 4, 0] rfl) kk
          · replace h := it_F h c9
            refine i_icmp_ne_T hx hb g7 g8 (tgt := 54) dX5_keepOnly_45 (by decide) c9 ?_
            refine x_iinc (v := iI (v3 + 1)) hx hb dX5_keepOnly_54 hl (k := 4) rfl (iI_add v3 1) (by decide) [0, 1, 2, 3] (lv' := [(4, ctv ga (gR M r0 (v3.toNat))), (0, .ref (ga (8 + r0))), (1, .int (iI v1)), (2, .int (iI v2))]) rfl (⟨⟨Nat.ne_of_beq_eq_false rfl, Or.inl (Nat.ne_of_beq_eq_false rfl)⟩, ⟨⟨Nat.ne_of_beq_eq_false rfl, Or.inl (Nat.ne_of_beq_eq_false rfl)⟩, ⟨⟨Nat.ne_of_beq_eq_false rfl, Or.inl (Nat.ne_of_beq_eq_false rfl)⟩, ⟨⟨Nat.ne_of_beq_eq_false rfl, Or.inr rfl⟩, trivial⟩⟩⟩⟩) (fun ls hl => ?_)
            refine lv_goto (tgt := 12) hx hb dX5_keepOnly_57 (by decide) ?_
            exact ih M (v3 + 1) _ h _ _ _ hP hD hS (lv_pk hl [2, 3, 4, 0] rfl) kk
      · replace h := it_F h c4
        refine i_icmp_ge_T hx hb g1 ⟨by decide, by decide⟩ (tgt := 60) dX5_keepOnly_23 (by decide) c4 ?_
        obtain rfl := Option.some.inj h
        exact kk _ _ _ hP hD hS (lv_pk hl [] rfl)
    · replace h := it_F h c3
      refine i_icmp_ge_T hx hb g1 g2 (tgt := 60) dX5_keepOnly_14 (by decide) c3 ?_
      obtain rfl := Option.some.inj h
      exact kk _ _ _ hP hD hS (lv_pk hl [] rfl)
def f_Row_keepOnly (n : Nat) (M : cSt) (r0 : Nat) (a1 : Int) : Option (cSt) := ob (g_Row_keepOnly_12 n r0 a1 (gI M (10 + r0)) fu (sI M (10 + r0) 0) 0) (fun x11 => some x11)
set_option maxHeartbeats 4000000 in
set_option maxRecDepth 100000 in
theorem C_Row_keepOnly (l : Launch) (G : Nat → Nat) (D : va_G) (K : Nat → ClassId) (sz : Nat) (ga : Nat → Nat) (n : Nat) (M : cSt) (r0 : Nat) (hr0 : r0 < 7) (a1 : Int) {x : cSt} (h : f_Row_keepOnly n M r0 a1 = some x) : CM l yX5_keepOnly cX5_keepOnly 5 (none : Option FieldType) ({ frames := 1, cells := 0, slots := 0, locals := 21 } : Room) G D K [.ref (ga (8 + r0)), .int (iI a1)] (wld ga n (K 0) (K 1) M) sz (CQv D (fun _ => wld ga n (K 0) (K 1) x)) := by
  refine CM_of (lv0 := [(0, .ref (ga (8 + r0))), (1, .int (iI a1))]) pn_RX5 (Nat.le_of_ble_eq_true rfl) rfl (fun p e s m args below meth c A ls hx hb hr hml hown hts hlk hnm hP hK hD hS hA hm hl => ?_)
  have hown : s.vm.findClass RX5 = some m.cls := hown
  unfold f_Row_keepOnly at h
  refine lv_aload_n hx hb dX5_keepOnly_0 rfl (lv_at hl 0 rfl) ?_
  refine r_get hx hb hts ok_RX5 hown hK hP (8 + r0) (go_ro hr0) rfl 1 (by decide) w_35 (fun _ h9 => h9) rfl dX5_keepOnly_1 ?_
  refine x_istore_n hx hb dX5_keepOnly_4 rfl hl (by decide) [0, 1] (lv' := [(0, .ref (ga (8 + r0))), (1, .int (iI a1))]) rfl (⟨⟨Nat.ne_of_beq_eq_false rfl, Or.inl (Nat.ne_of_beq_eq_false rfl)⟩, ⟨⟨Nat.ne_of_beq_eq_false rfl, Or.inr rfl⟩, trivial⟩⟩) (fun ls hl => ?_)
  refine lv_aload_n hx hb dX5_keepOnly_5 rfl (lv_at hl 1 rfl) ?_
  refine lv_iconst (v := iI 0) hx hb dX5_keepOnly_6 rfl ?_
  refine r_put hx hb hts ok_RX5 hown hK hP hD hS (8 + r0) (go_ro hr0) rfl 1 (by decide) w_35 (fun _ h9 => h9) rfl (v := .int (iI 0)) rfl rfl (Nat.le_of_ble_eq_true rfl) dX5_keepOnly_7 (ws' := wld ga n (K 0) (K 1) (sI M (10 + r0) 0)) (wIr hr0) (fun H locs hP hD hS => ?_)
  refine lv_iconst (v := iI 0) hx hb dX5_keepOnly_10 rfl ?_
  refine x_istore_n hx hb dX5_keepOnly_11 rfl hl (by decide) [0, 1, 2] (lv' := [(2, .int (iI (gI M (10 + r0)))), (0, .ref (ga (8 + r0))), (1, .int (iI a1))]) rfl (⟨⟨Nat.ne_of_beq_eq_false rfl, Or.inr rfl⟩, ⟨⟨Nat.ne_of_beq_eq_false rfl, Or.inl (Nat.ne_of_beq_eq_false rfl)⟩, ⟨⟨Nat.ne_of_beq_eq_false rfl, Or.inl (Nat.ne_of_beq_eq_false rfl)⟩, trivial⟩⟩⟩) (fun ls hl => ?_)
  obtain ⟨x11, ex11, h⟩ := ob_some h
  refine L_Row_keepOnly_12 hx hb hr hml hown hts hlk hK hA hm ga n r0 hr0 a1 (gI M (10 + r0))  fu (sI M (10 + r0) 0) 0 _ ex11 _ _ _ hP hD hS (lv_pk hl [2, 3, 1, 0] rfl) (fun ls H locs (hP : va_P D cl (wld ga n (K 0) (K 1) x11) H) (hD : va_D A (wld ga n (K 0) (K 1) x11)) hS (hl : lv_has ls 5 []) => ?_)
  obtain rfl := Option.some.inj h
  exact e_v hx hb hr hlk hP hD hS (fun _ => 0) rfl (Nat.le_of_ble_eq_true rfl) (Nat.le_of_ble_eq_true rfl) dX5_keepOnly_60
def f_Row_clear (n : Nat) (M : cSt) (r0 : Nat) : Option (cSt) := some (sI M (10 + r0) 0)
set_option maxHeartbeats 4000000 in
set_option maxRecDepth 100000 in
theorem C_Row_clear (l : Launch) (G : Nat → Nat) (D : va_G) (K : Nat → ClassId) (sz : Nat) (ga : Nat → Nat) (n : Nat) (M : cSt) (r0 : Nat) (hr0 : r0 < 7) {x : cSt} (h : f_Row_clear n M r0 = some x) : CM l yX5_clear cX5_clear 1 (none : Option FieldType) ({ frames := 0, cells := 0, slots := 0, locals := 0 } : Room) G D K [.ref (ga (8 + r0))] (wld ga n (K 0) (K 1) M) sz (CQv D (fun _ => wld ga n (K 0) (K 1) x)) := by
  refine CM_of (lv0 := [(0, .ref (ga (8 + r0)))]) pn_RX5 (Nat.le_of_ble_eq_true rfl) rfl (fun p e s m args below meth c A ls hx hb hr hml hown hts hlk hnm hP hK hD hS hA hm hl => ?_)
  have hown : s.vm.findClass RX5 = some m.cls := hown
  unfold f_Row_clear at h
  refine lv_aload_n hx hb dX5_clear_0 rfl (lv_at hl 0 rfl) ?_
  refine lv_iconst (v := iI 0) hx hb dX5_clear_1 rfl ?_
  refine r_put hx hb hts ok_RX5 hown hK hP hD hS (8 + r0) (go_ro hr0) rfl 1 (by decide) w_35 (fun _ h9 => h9) rfl (v := .int (iI 0)) rfl rfl (Nat.le_of_ble_eq_true rfl) dX5_clear_2 (ws' := wld ga n (K 0) (K 1) (sI M (10 + r0) 0)) (wIr hr0) (fun H locs hP hD hS => ?_)
  obtain rfl := Option.some.inj h
  exact e_v hx hb hr hlk hP hD hS (fun _ => 0) rfl (Nat.le_of_ble_eq_true rfl) (Nat.le_of_ble_eq_true rfl) dX5_clear_5
def s_Row_words_4 (rec : Int → Int → Option (Int)) (n : Nat) (M : cSt) (r0 : Nat) (v1 : Int) (v2 : Int) : Option (Int) := og (inR v2) (og (inR (gI M (10 + r0))) (if v2 < gI M (10 + r0) then if v2 < 200 then og (0 ≤ v2 ∧ v2 < 200) (on (gR M r0 (v2.toNat)) (rec v1 (v2 + 1)) (fun k6 => og (k6 < n) (rec (v1 + gT M k6 5) (v2 + 1)))) else some v1 else some v1))
def g_Row_words_4 (n : Nat) (M : cSt) (r0 : Nat) : Nat → Int → Int → Option (Int)
  | 0 => fun _ _ => none
  | q + 1 => s_Row_words_4 (g_Row_words_4 n M r0 q) n M r0
set_option maxHeartbeats 4000000 in
set_option maxRecDepth 100000 in
theorem L_Row_words_4 {p : Program} {l : Launch} {G : Nat → Nat} {D : va_G} {K : Nat → ClassId} {e : Env} {s : State} {m : MethodId} {args : Array Value} {below : List Frame} {meth : Method} {c : Code} {A : Nat → Prop} (hx : p.tables.exec = Jvm.exec) (hb : c.code = cX5_words) (hr : meth.sig.returnType = (some FieldType.int)) (hml : c.maxLocals = 4) (hown : s.vm.findClass RX5 = some m.cls) (hts : ∀ w ∈ lw_gw, w.before args s = true) (hlk : meth.locks = false) (hK : va_K D cl (tys K) s) (hA : ∀ q : Nat, s.heap.size ≤ q → A q) (hm : Amb G A s s.heap) {Q : State → Prop} (ga : Nat → Nat) (n : Nat) (M : cSt) (r0 : Nat) (hr0 : r0 < 7) : ∀ (q : Nat) (v1 : Int) (v2 : Int) (out : Int), g_Row_words_4 n M r0 q v1 v2 = some out → ∀ (ls : Array Slot) (H : Heap) (locs : List Loc), va_P D cl (wld ga n (K 0) (K 1) M) H → va_D A (wld ga n (K 0) (K 1) M) → va_S A s.heap H locs → lv_has ls 4 [(0, .ref (ga (8 + r0))), (1, .int (iI v1)), (2, .int (iI v2))] → (∀ (ls : Array Slot) (H : Heap) (locs : List Loc), va_P D cl (wld ga n (K 0) (K 1) M) H → va_D A (wld ga n (K 0) (K 1) M) → va_S A s.heap H locs → lv_has ls 4 [(1, .int (iI out))] → W p l e ({ frames := 0, cells := 0, slots := 0, locals := 0 } : Room) s m args below meth c H locs 0 0 Q (F0 m 45 ls [])) → W p l e ({ frames := 0, cells := 0, slots := 0, locals := 0 } : Room) s m args below meth c H locs 0 0 Q (F0 m 4 ls []) := by
  intro q
  induction q with
  | zero =>
    intro v1 v2 out h
    cases (show none = some out from h)
  | succ q ih =>
    intro v1 v2 out h ls H locs hP hD hS hl kk
    replace h : s_Row_words_4 (g_Row_words_4 n M r0 q) n M r0 v1 v2 = some out := h
    unfold s_Row_words_4 at h
    refine lv_iload_n hx hb dX5_words_4 rfl (lv_at hl 2 rfl) ?_
    refine lv_aload_n hx hb dX5_words_5 rfl (lv_at hl 0 rfl) ?_
    refine r_get hx hb hts ok_RX5 hown hK hP (8 + r0) (go_ro hr0) rfl 1 (by decide) w_35 (fun _ h9 => h9) rfl dX5_words_6 ?_
    obtain ⟨g1, h⟩ := og_some h
    obtain ⟨g2, h⟩ := og_some h
    by_cases c3 : v2 < gI M (10 + r0)
    · replace h := it_T h c3
      refine i_icmp_ge_F hx hb g1 g2 (tgt := 45) dX5_words_9 (by decide) c3 ?_
      refine lv_iload_n hx hb dX5_words_12 rfl (lv_at hl 2 rfl) ?_
      refine lv_aload_n hx hb dX5_words_13 rfl (lv_at hl 0 rfl) ?_
      refine r_get hx hb hts ok_RX5 hown hK hP (8 + r0) (go_ro hr0) rfl 0 (by decide) w_34 (fun _ h9 => h9) rfl dX5_words_14 ?_
      refine i_alen hx hb (15 + r0) 0 hK hP (go_rw hr0) rfl rfl (Nat.le_of_ble_eq_true rfl) dX5_words_17 ?_
      refine w_toeq (show iI ((200 : Nat) : Int) = iI 200 from rfl) ?_
      by_cases c4 : v2 < 200
      · replace h := it_T h c4
        refine i_icmp_ge_F hx hb g1 ⟨by decide, by decide⟩ (tgt := 45) dX5_words_18 (by decide) c4 ?_
        refine lv_aload_n hx hb dX5_words_21 rfl (lv_at hl 0 rfl) ?_
        refine r_get hx hb hts ok_RX5 hown hK hP (8 + r0) (go_ro hr0) rfl 0 (by decide) w_34 (fun _ h9 => h9) rfl dX5_words_22 ?_
        refine lv_iload_n hx hb dX5_words_25 rfl (lv_at hl 2 rfl) ?_
        obtain ⟨g5, h⟩ := og_some h
        refine i_aald hx hb (15 + r0) 0 hK hP (go_rw hr0) rfl g5.1 g5.2 (Nat.le_of_ble_eq_true rfl) (v := ctv ga (gR M r0 (v2.toNat))) rfl dX5_words_26 ?_
        refine t_astore_n hx hb dX5_words_27 rfl hl (by decide) [0, 1, 2] (lv' := [(0, .ref (ga (8 + r0))), (1, .int (iI v1)), (2, .int (iI v2))]) rfl (⟨⟨Nat.ne_of_beq_eq_false rfl, Or.inl (Nat.ne_of_beq_eq_false rfl)⟩, ⟨⟨Nat.ne_of_beq_eq_false rfl, Or.inl (Nat.ne_of_beq_eq_false rfl)⟩, ⟨⟨Nat.ne_of_beq_eq_false rfl, Or.inr rfl⟩, trivial⟩⟩⟩) (fun ls hl => ?_)
        refine t_aload_n hx hb dX5_words_28 rfl (lv_at hl 0 rfl) ?_
        rcases on_cases h with ⟨t6, h⟩ | ⟨k6, t6, h⟩
        · rw [ctv_none ga t6]
          refine lv_ifnullN (tgt := 39) hx hb dX5_words_29 (by decide) ?_
          refine x_iinc (v := iI (v2 + 1)) hx hb dX5_words_39 hl (k := 3) rfl (iI_add v2 1) (by decide) [0, 1, 2] (lv' := [(3, ctv ga (gR M r0 (v2.toNat))), (0, .ref (ga (8 + r0))), (1, .int (iI v1))]) rfl (⟨⟨Nat.ne_of_beq_eq_false rfl, Or.inl (Nat.ne_of_beq_eq_false rfl)⟩, ⟨⟨Nat.ne_of_beq_eq_false rfl, Or.inl (Nat.ne_of_beq_eq_false rfl)⟩, ⟨⟨Nat.ne_of_beq_eq_false rfl, Or.inr rfl⟩, trivial⟩⟩⟩) (fun ls hl => ?_)
          refine lv_goto (tgt := 4) hx hb dX5_words_42 (by decide) ?_
          exact ih v1 (v2 + 1) _ h _ _ _ hP hD hS (lv_pk hl [2, 3, 0] rfl) kk
        · obtain ⟨hk6, h⟩ := og_some h
          rw [ctv_some ga t6]
          refine lv_ifnull hx hb dX5_words_29 ?_
          refine lv_iload_n hx hb dX5_words_32 rfl (lv_at hl 2 rfl) ?_
          refine t_aload_n hx hb dX5_words_33 rfl (lv_at hl 0 rfl) ?_
          rw [ctv_some ga t6]
          refine r_get hx hb hts ok_RX7 hown hK hP (25 + 2 * k6) (go_th hk6) rfl 5 (by decide) w_699 (fun _ h9 => h9) rfl dX5_words_34 ?_
          refine lv_iadd hx hb dX5_words_37 ?_
          refine w_toeq (iI_add v1 (gT M k6 5)) ?_
          refine x_istore_n hx hb dX5_words_38 rfl hl (by decide) [0, 1, 3] (lv' := [(3, ctv ga (gR M r0 (v2.toNat))), (0, .ref (ga (8 + r0))), (2, .int (iI v2))]) rfl (⟨⟨Nat.ne_of_beq_eq_false rfl, Or.inl (Nat.ne_of_beq_eq_false rfl)⟩, ⟨⟨Nat.ne_of_beq_eq_false rfl, Or.inr rfl⟩, ⟨⟨Nat.ne_of_beq_eq_false rfl, Or.inl (Nat.ne_of_beq_eq_false rfl)⟩, trivial⟩⟩⟩) (fun ls hl => ?_)
          refine x_iinc (v := iI (v2 + 1)) hx hb dX5_words_39 hl (k := 3) rfl (iI_add v2 1) (by decide) [0, 1, 2] (lv' := [(1, .int (iI (v1 + gT M k6 5))), (3, ctv ga (gR M r0 (v2.toNat))), (0, .ref (ga (8 + r0)))]) rfl (⟨⟨Nat.ne_of_beq_eq_false rfl, Or.inr rfl⟩, ⟨⟨Nat.ne_of_beq_eq_false rfl, Or.inl (Nat.ne_of_beq_eq_false rfl)⟩, ⟨⟨Nat.ne_of_beq_eq_false rfl, Or.inl (Nat.ne_of_beq_eq_false rfl)⟩, trivial⟩⟩⟩) (fun ls hl => ?_)
          refine lv_goto (tgt := 4) hx hb dX5_words_42 (by decide) ?_
          exact ih (v1 + gT M k6 5) (v2 + 1) _ h _ _ _ hP hD hS (lv_pk hl [3, 1, 0] rfl) kk
      · replace h := it_F h c4
        refine i_icmp_ge_T hx hb g1 ⟨by decide, by decide⟩ (tgt := 45) dX5_words_18 (by decide) c4 ?_
        obtain rfl := Option.some.inj h
        exact kk _ _ _ hP hD hS (lv_pk hl [1] rfl)
    · replace h := it_F h c3
      refine i_icmp_ge_T hx hb g1 g2 (tgt := 45) dX5_words_9 (by decide) c3 ?_
      obtain rfl := Option.some.inj h
      exact kk _ _ _ hP hD hS (lv_pk hl [1] rfl)
def f_Row_words (n : Nat) (M : cSt) (r0 : Nat) : Option (Int) := ob (g_Row_words_4 n M r0 fu 0 0) (fun x7 => some x7)
set_option maxHeartbeats 4000000 in
set_option maxRecDepth 100000 in
theorem C_Row_words (l : Launch) (G : Nat → Nat) (D : va_G) (K : Nat → ClassId) (sz : Nat) (ga : Nat → Nat) (n : Nat) (M : cSt) (r0 : Nat) (hr0 : r0 < 7) {x : Int} (h : f_Row_words n M r0 = some x) : CM l yX5_words cX5_words 4 (some FieldType.int) ({ frames := 0, cells := 0, slots := 0, locals := 0 } : Room) G D K [.ref (ga (8 + r0))] (wld ga n (K 0) (K 1) M) sz (CQi (iI x) D (fun _ => wld ga n (K 0) (K 1) M)) := by
  refine CM_of (lv0 := [(0, .ref (ga (8 + r0)))]) pn_RX5 (Nat.le_of_ble_eq_true rfl) rfl (fun p e s m args below meth c A ls hx hb hr hml hown hts hlk hnm hP hK hD hS hA hm hl => ?_)
  have hown : s.vm.findClass RX5 = some m.cls := hown
  unfold f_Row_words at h
  refine lv_iconst (v := iI 0) hx hb dX5_words_0 rfl ?_
  refine x_istore_n hx hb dX5_words_1 rfl hl (by decide) [0] (lv' := [(0, .ref (ga (8 + r0)))]) rfl (⟨⟨Nat.ne_of_beq_eq_false rfl, Or.inr rfl⟩, trivial⟩) (fun ls hl => ?_)
  refine lv_iconst (v := iI 0) hx hb dX5_words_2 rfl ?_
  refine x_istore_n hx hb dX5_words_3 rfl hl (by decide) [0, 1] (lv' := [(1, .int (iI 0)), (0, .ref (ga (8 + r0)))]) rfl (⟨⟨Nat.ne_of_beq_eq_false rfl, Or.inr rfl⟩, ⟨⟨Nat.ne_of_beq_eq_false rfl, Or.inl (Nat.ne_of_beq_eq_false rfl)⟩, trivial⟩⟩) (fun ls hl => ?_)
  obtain ⟨x7, ex7, h⟩ := ob_some h
  refine L_Row_words_4 hx hb hr hml hown hts hlk hK hA hm ga n M r0 hr0  fu 0 0 _ ex7 _ _ _ hP hD hS (lv_pk hl [2, 1, 0] rfl) (fun ls H locs (hP : va_P D cl (wld ga n (K 0) (K 1) M) H) (hD : va_D A (wld ga n (K 0) (K 1) M)) hS (hl : lv_has ls 4 [(1, .int (iI x7))]) => ?_)
  refine lv_iload_n hx hb dX5_words_45 rfl (lv_at hl 0 rfl) ?_
  obtain rfl := Option.some.inj h
  exact e_i hx hb hr hlk hP hD hS (fun _ => 0) rfl (Nat.le_of_ble_eq_true rfl) (Nat.le_of_ble_eq_true rfl) rfl dX5_words_46
def s_Row_pinned_4 (rec : Int → Int → Option (Int)) (n : Nat) (M : cSt) (r0 : Nat) (v1 : Int) (v2 : Int) : Option (Int) := og (inR v2) (og (inR (gI M (10 + r0))) (if v2 < gI M (10 + r0) then if v2 < 200 then og (0 ≤ v2 ∧ v2 < 200) (on (gR M r0 (v2.toNat)) (rec v1 (v2 + 1)) (fun k6 => og (k6 < n) (og (inR (gT M k6 9)) (if gT M k6 9 = 0 then rec v1 (v2 + 1) else rec (v1 + 1) (v2 + 1))))) else some v1 else some v1))
def g_Row_pinned_4 (n : Nat) (M : cSt) (r0 : Nat) : Nat → Int → Int → Option (Int)
  | 0 => fun _ _ => none
  | q + 1 => s_Row_pinned_4 (g_Row_pinned_4 n M r0 q) n M r0
set_option maxHeartbeats 4000000 in
set_option maxRecDepth 100000 in
theorem L_Row_pinned_4 {p : Program} {l : Launch} {G : Nat → Nat} {D : va_G} {K : Nat → ClassId} {e : Env} {s : State} {m : MethodId} {args : Array Value} {below : List Frame} {meth : Method} {c : Code} {A : Nat → Prop} (hx : p.tables.exec = Jvm.exec) (hb : c.code = cX5_pinned) (hr : meth.sig.returnType = (some FieldType.int)) (hml : c.maxLocals = 4) (hown : s.vm.findClass RX5 = some m.cls) (hts : ∀ w ∈ lw_gw, w.before args s = true) (hlk : meth.locks = false) (hK : va_K D cl (tys K) s) (hA : ∀ q : Nat, s.heap.size ≤ q → A q) (hm : Amb G A s s.heap) {Q : State → Prop} (ga : Nat → Nat) (n : Nat) (M : cSt) (r0 : Nat) (hr0 : r0 < 7) : ∀ (q : Nat) (v1 : Int) (v2 : Int) (out : Int), g_Row_pinned_4 n M r0 q v1 v2 = some out → ∀ (ls : Array Slot) (H : Heap) (locs : List Loc), va_P D cl (wld ga n (K 0) (K 1) M) H → va_D A (wld ga n (K 0) (K 1) M) → va_S A s.heap H locs → lv_has ls 4 [(0, .ref (ga (8 + r0))), (1, .int (iI v1)), (2, .int (iI v2))] → (∀ (ls : Array Slot) (H : Heap) (locs : List Loc), va_P D cl (wld ga n (K 0) (K 1) M) H → va_D A (wld ga n (K 0) (K 1) M) → va_S A s.heap H locs → lv_has ls 4 [(1, .int (iI out))] → W p l e ({ frames := 0, cells := 0, slots := 0, locals := 0 } : Room) s m args below meth c H locs 0 0 Q (F0 m 48 ls [])) → W p l e ({ frames := 0, cells := 0, slots := 0, locals := 0 } : Room) s m args below meth c H locs 0 0 Q (F0 m 4 ls []) := by
  intro q
  induction q with
  | zero =>
    intro v1 v2 out h
    cases (show none = some out from h)
  | succ q ih =>
    intro v1 v2 out h ls H locs hP hD hS hl kk
    replace h : s_Row_pinned_4 (g_Row_pinned_4 n M r0 q) n M r0 v1 v2 = some out := h
    unfold s_Row_pinned_4 at h
    refine lv_iload_n hx hb dX5_pinned_4 rfl (lv_at hl 2 rfl) ?_
    refine lv_aload_n hx hb dX5_pinned_5 rfl (lv_at hl 0 rfl) ?_
    refine r_get hx hb hts ok_RX5 hown hK hP (8 + r0) (go_ro hr0) rfl 1 (by decide) w_35 (fun _ h9 => h9) rfl dX5_pinned_6 ?_
    obtain ⟨g1, h⟩ := og_some h
    obtain ⟨g2, h⟩ := og_some h
    by_cases c3 : v2 < gI M (10 + r0)
    · replace h := it_T h c3
      refine i_icmp_ge_F hx hb g1 g2 (tgt := 48) dX5_pinned_9 (by decide) c3 ?_
      refine lv_iload_n hx hb dX5_pinned_12 rfl (lv_at hl 2 rfl) ?_
      refine lv_aload_n hx hb dX5_pinned_13 rfl (lv_at hl 0 rfl) ?_
      refine r_get hx hb hts ok_RX5 hown hK hP (8 + r0) (go_ro hr0) rfl 0 (by decide) w_34 (fun _ h9 => h9) rfl dX5_pinned_14 ?_
      refine i_alen hx hb (15 + r0) 0 hK hP (go_rw hr0) rfl rfl (Nat.le_of_ble_eq_true rfl) dX5_pinned_17 ?_
      refine w_toeq (show iI ((200 : Nat) : Int) = iI 200 from rfl) ?_
      by_cases c4 : v2 < 200
      · replace h := it_T h c4
        refine i_icmp_ge_F hx hb g1 ⟨by decide, by decide⟩ (tgt := 48) dX5_pinned_18 (by decide) c4 ?_
        refine lv_aload_n hx hb dX5_pinned_21 rfl (lv_at hl 0 rfl) ?_
        refine r_get hx hb hts ok_RX5 hown hK hP (8 + r0) (go_ro hr0) rfl 0 (by decide) w_34 (fun _ h9 => h9) rfl dX5_pinned_22 ?_
        refine lv_iload_n hx hb dX5_pinned_25 rfl (lv_at hl 2 rfl) ?_
        obtain ⟨g5, h⟩ := og_some h
        refine i_aald hx hb (15 + r0) 0 hK hP (go_rw hr0) rfl g5.1 g5.2 (Nat.le_of_ble_eq_true rfl) (v := ctv ga (gR M r0 (v2.toNat))) rfl dX5_pinned_26 ?_
        refine t_astore_n hx hb dX5_pinned_27 rfl hl (by decide) [0, 1, 2] (lv' := [(0, .ref (ga (8 + r0))), (1, .int (iI v1)), (2, .int (iI v2))]) rfl (⟨⟨Nat.ne_of_beq_eq_false rfl, Or.inl (Nat.ne_of_beq_eq_false rfl)⟩, ⟨⟨Nat.ne_of_beq_eq_false rfl, Or.inl (Nat.ne_of_beq_eq_false rfl)⟩, ⟨⟨Nat.ne_of_beq_eq_false rfl, Or.inr rfl⟩, trivial⟩⟩⟩) (fun ls hl => ?_)
        refine t_aload_n hx hb dX5_pinned_28 rfl (lv_at hl 0 rfl) ?_
        rcases on_cases h with ⟨t6, h⟩ | ⟨k6, t6, h⟩
        · rw [ctv_none ga t6]
          refine lv_ifnullN (tgt := 42) hx hb dX5_pinned_29 (by decide) ?_
          refine x_iinc (v := iI (v2 + 1)) hx hb dX5_pinned_42 hl (k := 3) rfl (iI_add v2 1) (by decide) [0, 1, 2] (lv' := [(3, ctv ga (gR M r0 (v2.toNat))), (0, .ref (ga (8 + r0))), (1, .int (iI v1))]) rfl (⟨⟨Nat.ne_of_beq_eq_false rfl, Or.inl (Nat.ne_of_beq_eq_false rfl)⟩, ⟨⟨Nat.ne_of_beq_eq_false rfl, Or.inl (Nat.ne_of_beq_eq_false rfl)⟩, ⟨⟨Nat.ne_of_beq_eq_false rfl, Or.inr rfl⟩, trivial⟩⟩⟩) (fun ls hl => ?_)
          refine lv_goto (tgt := 4) hx hb dX5_pinned_45 (by decide) ?_
          exact ih v1 (v2 + 1) _ h _ _ _ hP hD hS (lv_pk hl [2, 3, 0] rfl) kk
        · obtain ⟨hk6, h⟩ := og_some h
          rw [ctv_some ga t6]
          refine lv_ifnull hx hb dX5_pinned_29 ?_
          refine t_aload_n hx hb dX5_pinned_32 rfl (lv_at hl 0 rfl) ?_
          rw [ctv_some ga t6]
          refine r_get hx hb hts ok_RX7 hown hK hP (25 + 2 * k6) (go_th hk6) rfl 9 (by decide) w_713 (fun _ h9 => h9) rfl dX5_pinned_33 ?_
          obtain ⟨g7, h⟩ := og_some h
          by_cases c8 : gT M k6 9 = 0
          · replace h := it_T h c8
            refine i_if_eq_T hx hb g7 (tgt := 42) dX5_pinned_36 (by decide) c8 ?_
            refine x_iinc (v := iI (v2 + 1)) hx hb dX5_pinned_42 hl (k := 3) rfl (iI_add v2 1) (by decide) [0, 1, 2] (lv' := [(3, ctv ga (gR M r0 (v2.toNat))), (0, .ref (ga (8 + r0))), (1, .int (iI v1))]) rfl (⟨⟨Nat.ne_of_beq_eq_false rfl, Or.inl (Nat.ne_of_beq_eq_false rfl)⟩, ⟨⟨Nat.ne_of_beq_eq_false rfl, Or.inl (Nat.ne_of_beq_eq_false rfl)⟩, ⟨⟨Nat.ne_of_beq_eq_false rfl, Or.inr rfl⟩, trivial⟩⟩⟩) (fun ls hl => ?_)
            refine lv_goto (tgt := 4) hx hb dX5_pinned_45 (by decide) ?_
            exact ih v1 (v2 + 1) _ h _ _ _ hP hD hS (lv_pk hl [2, 3, 0] rfl) kk
          · replace h := it_F h c8
            refine i_if_eq_F hx hb g7 (tgt := 42) dX5_pinned_36 (by decide) c8 ?_
            refine x_iinc (v := iI (v1 + 1)) hx hb dX5_pinned_39 hl (k := 2) rfl (iI_add v1 1) (by decide) [0, 1, 3] (lv' := [(3, ctv ga (gR M r0 (v2.toNat))), (0, .ref (ga (8 + r0))), (2, .int (iI v2))]) rfl (⟨⟨Nat.ne_of_beq_eq_false rfl, Or.inl (Nat.ne_of_beq_eq_false rfl)⟩, ⟨⟨Nat.ne_of_beq_eq_false rfl, Or.inr rfl⟩, ⟨⟨Nat.ne_of_beq_eq_false rfl, Or.inl (Nat.ne_of_beq_eq_false rfl)⟩, trivial⟩⟩⟩) (fun ls hl => ?_)
            refine x_iinc (v := iI (v2 + 1)) hx hb dX5_pinned_42 hl (k := 3) rfl (iI_add v2 1) (by decide) [0, 1, 2] (lv' := [(1, .int (iI (v1 + 1))), (3, ctv ga (gR M r0 (v2.toNat))), (0, .ref (ga (8 + r0)))]) rfl (⟨⟨Nat.ne_of_beq_eq_false rfl, Or.inr rfl⟩, ⟨⟨Nat.ne_of_beq_eq_false rfl, Or.inl (Nat.ne_of_beq_eq_false rfl)⟩, ⟨⟨Nat.ne_of_beq_eq_false rfl, Or.inl (Nat.ne_of_beq_eq_false rfl)⟩, trivial⟩⟩⟩) (fun ls hl => ?_)
            refine lv_goto (tgt := 4) hx hb dX5_pinned_45 (by decide) ?_
            exact ih (v1 + 1) (v2 + 1) _ h _ _ _ hP hD hS (lv_pk hl [3, 1, 0] rfl) kk
      · replace h := it_F h c4
        refine i_icmp_ge_T hx hb g1 ⟨by decide, by decide⟩ (tgt := 48) dX5_pinned_18 (by decide) c4 ?_
        obtain rfl := Option.some.inj h
        exact kk _ _ _ hP hD hS (lv_pk hl [1] rfl)
    · replace h := it_F h c3
      refine i_icmp_ge_T hx hb g1 g2 (tgt := 48) dX5_pinned_9 (by decide) c3 ?_
      obtain rfl := Option.some.inj h
      exact kk _ _ _ hP hD hS (lv_pk hl [1] rfl)
def f_Row_pinned (n : Nat) (M : cSt) (r0 : Nat) : Option (Int) := ob (g_Row_pinned_4 n M r0 fu 0 0) (fun x9 => some x9)
set_option maxHeartbeats 4000000 in
set_option maxRecDepth 100000 in
theorem C_Row_pinned (l : Launch) (G : Nat → Nat) (D : va_G) (K : Nat → ClassId) (sz : Nat) (ga : Nat → Nat) (n : Nat) (M : cSt) (r0 : Nat) (hr0 : r0 < 7) {x : Int} (h : f_Row_pinned n M r0 = some x) : CM l yX5_pinned cX5_pinned 4 (some FieldType.int) ({ frames := 0, cells := 0, slots := 0, locals := 0 } : Room) G D K [.ref (ga (8 + r0))] (wld ga n (K 0) (K 1) M) sz (CQi (iI x) D (fun _ => wld ga n (K 0) (K 1) M)) := by
  refine CM_of (lv0 := [(0, .ref (ga (8 + r0)))]) pn_RX5 (Nat.le_of_ble_eq_true rfl) rfl (fun p e s m args below meth c A ls hx hb hr hml hown hts hlk hnm hP hK hD hS hA hm hl => ?_)
  have hown : s.vm.findClass RX5 = some m.cls := hown
  unfold f_Row_pinned at h
  refine lv_iconst (v := iI 0) hx hb dX5_pinned_0 rfl ?_
  refine x_istore_n hx hb dX5_pinned_1 rfl hl (by decide) [0] (lv' := [(0, .ref (ga (8 + r0)))]) rfl (⟨⟨Nat.ne_of_beq_eq_false rfl, Or.inr rfl⟩, trivial⟩) (fun ls hl => ?_)
  refine lv_iconst (v := iI 0) hx hb dX5_pinned_2 rfl ?_
  refine x_istore_n hx hb dX5_pinned_3 rfl hl (by decide) [0, 1] (lv' := [(1, .int (iI 0)), (0, .ref (ga (8 + r0)))]) rfl (⟨⟨Nat.ne_of_beq_eq_false rfl, Or.inr rfl⟩, ⟨⟨Nat.ne_of_beq_eq_false rfl, Or.inl (Nat.ne_of_beq_eq_false rfl)⟩, trivial⟩⟩) (fun ls hl => ?_)
  obtain ⟨x9, ex9, h⟩ := ob_some h
  refine L_Row_pinned_4 hx hb hr hml hown hts hlk hK hA hm ga n M r0 hr0  fu 0 0 _ ex9 _ _ _ hP hD hS (lv_pk hl [2, 1, 0] rfl) (fun ls H locs (hP : va_P D cl (wld ga n (K 0) (K 1) M) H) (hD : va_D A (wld ga n (K 0) (K 1) M)) hS (hl : lv_has ls 4 [(1, .int (iI x9))]) => ?_)
  refine lv_iload_n hx hb dX5_pinned_48 rfl (lv_at hl 0 rfl) ?_
  obtain rfl := Option.some.inj h
  exact e_i hx hb hr hlk hP hD hS (fun _ => 0) rfl (Nat.le_of_ble_eq_true rfl) (Nat.le_of_ble_eq_true rfl) rfl dX5_pinned_49
end
