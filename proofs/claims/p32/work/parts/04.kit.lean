/-! WHAT EVERY CONTRACT OF THIS CLAIM SPEAKS OF: the tables' words as two lists, the ground besides, a method's start and end, its body's start, the rows for calls. -/
/-- words that warming keeps by laws of their own -/
def ambWord : Cond → Bool
  | .methodLinkNest .. => true
  | .fieldLinkNest .. => true
  | .declares _ => true
  | .castable .. => true
  | _ => false
def lw_gw : List Cond := lw_tbl.filter goodWord
def lw_aw : List Cond := lw_tbl.filter ambWord
theorem gw_of {w : Cond} (h : w ∈ lw_tbl) (g : goodWord w = true) : w ∈ lw_gw := List.mem_filter.mpr ⟨h, g⟩
theorem aw_of {w : Cond} (h : w ∈ lw_tbl) (g : ambWord w = true) : w ∈ lw_aw := List.mem_filter.mpr ⟨h, g⟩
theorem gw_good {w : Cond} (h : w ∈ lw_gw) : (w.onTables && w.keeps) = true ∨ ∃ ty, w = .arrayClass ty := good_of_word (List.mem_filter.mp h).2
theorem in_s {w : Cond} (h : w ∈ k2_sels lw_privs) : w ∈ lw_tbl := List.mem_append_left _ h
theorem in_t {w : Cond} (h : w ∈ tables_1) : w ∈ lw_tbl := List.mem_append_right _ h
theorem in_t1 {w : Cond} (h : w ∈ tables_1_1) : w ∈ lw_tbl := in_t (List.mem_append_left _ h)
theorem in_t2 {w : Cond} (h : w ∈ tables_1_2) : w ∈ lw_tbl := in_t (List.mem_append_right _ (List.mem_append_left _ h))
theorem in_t3 {w : Cond} (h : w ∈ tables_1_3) : w ∈ lw_tbl := in_t (List.mem_append_right _ (List.mem_append_right _ (List.mem_append_left _ h)))
theorem in_t4 {w : Cond} (h : w ∈ tables_1_4) : w ∈ lw_tbl := in_t (List.mem_append_right _ (List.mem_append_right _ (List.mem_append_right _ (List.mem_append_left _ h))))
theorem in_t5 {w : Cond} (h : w ∈ tables_1_5) : w ∈ lw_tbl := in_t (List.mem_append_right _ (List.mem_append_right _ (List.mem_append_right _ (List.mem_append_right _ h))))
/-- a callee's words among a caller's: its code, and the good ones of the tables -/
theorem gi {Ts : List Cond} (hT : ∀ w ∈ lw_gw, w ∈ Ts) {c0 : Cond} (hc : c0 ∈ lw_gw) : GoodIn Ts (c0 :: lw_gw) := fun w h => by
  rcases List.mem_cons.mp h with rfl | h
  · exact ⟨hT _ hc, gw_good hc⟩
  · exact ⟨hT _ h, gw_good h⟩
theorem gi_app {Ts a : List Cond} (hT : ∀ w ∈ lw_gw, w ∈ Ts) (ha : ∀ w ∈ a, w ∈ lw_gw) {c0 : Cond} (hc : c0 ∈ lw_gw) : GoodIn Ts (a ++ (c0 :: lw_gw)) := fun w h => by
  rcases List.mem_append.mp h with h | h
  · exact ⟨hT _ (ha _ h), gw_good (ha _ h)⟩
  · exact gi hT hc w h
theorem ms_1 {P : Cond → Prop} {a : Cond} (h : P a) : ∀ w ∈ [a], P w := fun w hw => by rw [List.mem_singleton.mp hw]; exact h
theorem ms_c {P : Cond → Prop} {a : Cond} {l : List Cond} (h : P a) (t : ∀ w ∈ l, P w) : ∀ w ∈ a :: l, P w := fun w hw => by
  rcases List.mem_cons.mp hw with rfl | hw
  · exact h
  · exact t w hw
theorem ms_0 {P : Cond → Prop} : ∀ w ∈ ([] : List Cond), P w := fun w hw => nomatch hw
/-- the ground besides the words of the tables -/
def Amb (G : Nat → Nat) (A : Nat → Prop) (U : State) (H : Heap) : Prop :=
  (∀ w ∈ lw_aw, va_Nw w U) ∧ (∀ q ∈ lw_strs, ∃ a, vk_R q.1 q.2.1 q.2.2 a U) ∧ va_AO "Tenuredale$Thing" U ∧
  (vx_Zq Bundle.tN "UNASSIGNED_STACK" Bundle.steD A U H ∧ vx_Zq Bundle.tN "SUPPRESSED_SENTINEL" Bundle.listD A U H)
theorem aw_warm {w : Cond} (hw : ambWord w = true) {s U : State} (hW : s.WarmedH U.vm) (h : va_Nw w s) : va_Nw w U := by
  cases w <;> first | exact va_Nw.warmM hW h | exact va_Nw.warmF hW h | exact va_Nw.warmD hW h | exact va_Nw.warmC hW h | exact absurd hw (by simp [ambWord])
theorem aw_onT {w : Cond} (hw : ambWord w = true) : w.onTables = true := by
  cases w <;> first | rfl | exact absurd hw (by simp [ambWord])
theorem Amb.to {G : Nat → Nat} {A A' : Nat → Prop} {s U : State} {H : Heap} {locs : List Loc} (h : Amb G A s s.heap) (hS : va_S A s.heap H locs) (hF : ∀ q, A' q → A q) (hU : U.heap = H) (hW : s.WarmedH U.vm) : Amb G A' U U.heap := by
  obtain ⟨h1, h2, h3, h5, h6⟩ := h
  have hk : ∀ a : Nat, a < s.heap.size → ¬ A a → U.heap[a]? = s.heap[a]? := fun a x y => by rw [hU]; exact hS.2.1 a x y
  have hv := hW.alike
  refine ⟨fun w hw => aw_warm (List.mem_filter.mp hw).2 hW (h1 w hw), fun q hq => ?_, h3.moved hv, ((h5.moved hv).kept hk).narrow hF, ((h6.moved hv).kept hk).narrow hF⟩
  obtain ⟨a, ha⟩ := h2 q hq
  exact ⟨a, ha.warm hW⟩
theorem Amb.same {G : Nat → Nat} {A : Nat → Prop} {u U : State} {H : Heap} (hv : u.vm = U.vm) (h : Amb G A u H) : Amb G A U H := by
  obtain ⟨h1, h2, h3, h5, h6⟩ := h
  have hv' : u.vm.Alike U.vm := hv ▸ Vm.Alike.refl u.vm
  refine ⟨fun w hw => va_Nw.same (aw_onT (List.mem_filter.mp hw).2) hv (h1 w hw), fun q hq => ?_, h3.moved hv', h5.moved hv', h6.moved hv'⟩
  obtain ⟨a, ha⟩ := h2 q hq
  exact ⟨a, ha.same hv.symm⟩
/-- a method's start: the cells wc, the heap's size, the ground -/
def cPre (G : Nat → Nat) (D : va_G) (K : Nat → ClassId) (wc : va_W) (sz : Nat) (U : State) : Prop := U.heap.size = sz ∧ va_P D cl wc U.heap ∧ va_K D cl (tys K) U ∧ va_D (fun _ => True) wc ∧ Amb G (va_A wc sz) U U.heap
/-- its end: the cells w1 of the new addresses u -/
def cB (D : va_G) (w1 : (Nat → Nat) → va_W) (A : Nat → Prop) (u : Nat → Nat) (t : State) : Prop := va_P D cl (w1 u) t.heap ∧ va_D A (w1 u)
abbrev QSpec : Type := Array Value → State → Outcome → State → Prop
abbrev CQv (D : va_G) (w1 : (Nat → Nat) → va_W) (A : Nat → Prop) : QSpec := va_Qv (fun _ : Nat → Nat => True) (cB D w1 A) A
abbrev CQi (r : Int32) (D : va_G) (w1 : (Nat → Nat) → va_W) (A : Nat → Prop) : QSpec := va_Qi (fun z (_ : Nat → Nat) => z = r) (cB D w1 A) A
abbrev CQl (r : Int64) (D : va_G) (w1 : (Nat → Nat) → va_W) (A : Nat → Prop) : QSpec := va_Ql (fun z (_ : Nat → Nat) => z = r) (cB D w1 A) A
abbrev CQd (r : UInt64) (D : va_G) (w1 : (Nat → Nat) → va_W) (A : Nat → Prop) : QSpec := va_Qd (fun z (_ : Nat → Nat) => z = r) (cB D w1 A) A
abbrev CQq (r : (Nat → Nat) → Option Nat) (D : va_G) (w1 : (Nat → Nat) → va_W) (A : Nat → Prop) : QSpec := va_Qq (fun z (u : Nat → Nat) => z = r u) (cB D w1 A) A
abbrev CX (cls : String) (A : Nat → Prop) : String → State → State → Prop := vx_X (fun _ : Unit => True) (fun E _ _ => E = cls) A
abbrev CQ0 (A : Nat → Prop) : QSpec := va_Qv (fun _ : Unit => False) (fun _ _ => True) A
/-- a contract; one that throws -/
abbrev CM (l : Launch) (y : MethodName) (bytes : ByteArray) (maxL : Nat) (ret : Option FieldType) (rm : Room) (G : Nat → Nat) (D : va_G) (K : Nat → ClassId) (av : List Value) (wc : va_W) (sz : Nat) (Q : (Nat → Prop) → QSpec) : Prop :=
  Met l y (.code y bytes maxL ret :: lw_gw) rm (va_Pc av (cPre G D K wc sz)) (Q (va_A wc sz)) rm.cells rm.slots (va_A wc sz)
abbrev CMX (l : Launch) (y : MethodName) (bytes : ByteArray) (maxL : Nat) (ret : Option FieldType) (rm : Room) (G : Nat → Nat) (D : va_G) (K : Nat → ClassId) (av : List Value) (wc : va_W) (sz : Nat) (cls : String) : Prop :=
  vx_Met l y (.code y bytes maxL ret :: lw_gw) rm (va_Pc av (cPre G D K wc sz)) (CQ0 (va_A wc sz)) (CX cls (va_A wc sz)) rm.cells rm.slots (va_A wc sz)
theorem cPre.blind {av : List Value} {G : Nat → Nat} {D : va_G} {K : Nat → ClassId} {wc : va_W} {sz : Nat} : FrameBlind (va_Pc av (cPre G D K wc sz)) := fun a U g mk q => by
  obtain ⟨q0, q1, qP, qK, qD, qA⟩ := q
  exact ⟨q0, q1, qP, va_K.moved (u := U) (U := U.calling g mk a) (Vm.Alike.refl U.vm) qK, qD, Amb.same (u := U) (U := U.calling g mk a) rfl qA⟩
theorem cPre.of {G : Nat → Nat} {D : va_G} {K : Nat → ClassId} {wl wc : va_W} {s U : State} {H : Heap} {locs : List Loc} {A : Nat → Prop} (hK : va_K D cl (tys K) s) (hP : va_P D cl wl H) (hD : va_D A wl) (hS : va_S A s.heap H locs) (hA : ∀ q, s.heap.size ≤ q → A q) (hm : Amb G A s s.heap) (isC : List Nat) (hC : isC.map (fun i => wl[i]?) = wc.map some) (hn : va_nd isC = true) (hU : U.heap = H) (hW : s.WarmedH U.vm) : cPre G D K wc H.size U := by
  have hF := va_free hD hS hA isC hC
  refine ⟨by rw [hU], ?_, va_K.moved hW.alike hK, (hD.sub isC hn hC).weaken (fun _ _ _ _ => trivial), Amb.to hm hS hF hU hW⟩
  rw [hU]
  intro k q hk
  have h1 : (isC.map (fun i => wl[i]?))[k]? = some (some q) := by rw [hC, List.getElem?_map, hk]; rfl
  rw [List.getElem?_map] at h1
  cases hi : isC[k]? with
  | none => rw [hi] at h1; cases h1
  | some i => rw [hi] at h1; exact hP i q (Option.some.inj h1)
/-- a contract's body, from its first instruction -/
theorem CM_of {l : Launch} {y : MethodName} {bytes : ByteArray} {maxL : Nat} {ret : Option FieldType} {rm : Room} {G : Nat → Nat} {D : va_G} {K : Nat → ClassId} {av : List Value} {wc : va_W} {sz : Nat} {Q : (Nat → Prop) → QSpec} {lv0 : List (Nat × Value)} (hy : plainName y.cls = true) (hlen : (lg_sl av).length ≤ maxL) (hlv : lv_args 0 av = lv0)
    (body : ∀ (p : Program) (e : Env) (s : State) (m : MethodId) (args : Array Value) (below : List Frame) (meth : Method) (c : Code) (A : Nat → Prop) (ls : Array Slot), p.tables.exec = Jvm.exec → c.code = bytes → meth.sig.returnType = ret → c.maxLocals = maxL → s.vm.findClass y.cls = some m.cls → (∀ w ∈ lw_gw, w.before args s = true) → meth.locks = false → meth.name = y.name →
      va_P D cl wc s.heap → va_K D cl (tys K) s → va_D A wc → va_S A s.heap s.heap [] → (∀ q : Nat, s.heap.size ≤ q → A q) → Amb G A s s.heap → lv_has ls maxL lv0 → W p l e rm s m args below meth c s.heap [] 0 0 (MQ below (Q A) args s rm.cells rm.slots A) (F0 m 0 ls [])) : CM l y bytes maxL ret rm G D K av wc sz Q := by
  refine Met.ofW (cc := bytes) (maxL := maxL) (ret := ret) hy rfl ?_
  intro p e s m args below meth c s₁ B hml hv
  obtain ⟨rfl, hsz, hP, hK, hD0, hm⟩ := hv
  have hts := atoms_spec (ws := .code y bytes maxL ret :: lw_gw) B.pre
  subst hsz
  have hl := lv_entry av (n := maxL) hlen
  rw [hlv] at hl
  rw [lg_entry_eq]
  exact body p e s m _ below meth c _ _ B.exec B.bytes B.returns hml (findClass_of_methodNamed B.named) (fun w hw => hts w (List.mem_cons_of_mem _ hw)) B.notSynchronized (name_of_methodNamed B.named B.method).1 hP hK hD0.self va_S.rf (fun q h => Or.inr h) hm hl
theorem CMX_of {l : Launch} {y : MethodName} {bytes : ByteArray} {maxL : Nat} {ret : Option FieldType} {rm : Room} {G : Nat → Nat} {D : va_G} {K : Nat → ClassId} {av : List Value} {wc : va_W} {sz : Nat} {cls : String} {lv0 : List (Nat × Value)} (hy : plainName y.cls = true) (hlen : (lg_sl av).length ≤ maxL) (hlv : lv_args 0 av = lv0)
    (body : ∀ (p : Program) (e : Env) (s : State) (m : MethodId) (args : Array Value) (below : List Frame) (meth : Method) (c : Code) (A : Nat → Prop) (ls : Array Slot), p.tables.exec = Jvm.exec → c.code = bytes → (∀ x ∈ c.exceptionTable.toList, False) → c.maxLocals = maxL → s.vm.findClass y.cls = some m.cls → (∀ w ∈ lw_gw, w.before args s = true) → meth.locks = false → meth.name = y.name →
      va_P D cl wc s.heap → va_K D cl (tys K) s → va_D A wc → va_S A s.heap s.heap [] → (∀ q : Nat, s.heap.size ≤ q → A q) → Amb G A s s.heap → lv_has ls maxL lv0 → W p l e rm s m args below meth c s.heap [] 0 0 (vx_MQ below (CQ0 A) (CX cls A) args s rm.cells rm.slots A) (F0 m 0 ls [])) : CMX l y bytes maxL ret rm G D K av wc sz cls := by
  refine vx_ofW (cc := bytes) (maxL := maxL) (ret := ret) hy rfl ?_
  intro p e s m args below meth c s₁ B hml ht hv
  obtain ⟨rfl, hsz, hP, hK, hD0, hm⟩ := hv
  have hts := atoms_spec (ws := .code y bytes maxL ret :: lw_gw) B.pre
  subst hsz
  have hl := lv_entry av (n := maxL) hlen
  rw [hlv] at hl
  rw [lg_entry_eq]
  exact body p e s m _ below meth c _ _ B.exec B.bytes ht hml (findClass_of_methodNamed B.named) (fun w hw => hts w (List.mem_cons_of_mem _ hw)) B.notSynchronized (name_of_methodNamed B.named B.method).1 hP hK hD0.self va_S.rf (fun q h => Or.inr h) hm hl
