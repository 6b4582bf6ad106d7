/-! ROWS over references to things, numbers as Int, the cells of the class's world. Written by wip/p32/rows.py. -/
theorem ctv_cat (ga : Nat → Nat) (o : Option Nat) : (ctv ga o).category = 1 := by cases o <;> rfl
theorem it_T {α : Type} {c : Prop} [Decidable c] {A B x : α} (h : (if c then A else B) = x) (hc : c) : A = x := by rw [if_pos hc] at h; exact h
theorem it_F {α : Type} {c : Prop} [Decidable c] {A B x : α} (h : (if c then A else B) = x) (hc : ¬ c) : B = x := by rw [if_neg hc] at h; exact h
/-- a loop's exit, or an answer out of it -/
def os {α β : Type} (o : α ⊕ β) (k : α → Option β) : Option β := match o with | .inl y => k y | .inr y => some y
theorem os_l {α β : Type} {o : α ⊕ β} {k : α → Option β} {x : β} {y : α} (h : os o k = some x) (e : o = .inl y) : k y = some x := by rw [e] at h; exact h
theorem os_r {α β : Type} {o : α ⊕ β} {k : α → Option β} {x y : β} (h : os o k = some x) (e : o = .inr y) : y = x := by rw [e] at h; exact Option.some.inj h
/-- the same out of a loop within a loop -/
def oi {α β γ : Type} (o : α ⊕ β) (k : α → Option (γ ⊕ β)) : Option (γ ⊕ β) := match o with | .inl y => k y | .inr y => some (.inr y)
theorem oi_l {α β γ : Type} {o : α ⊕ β} {k : α → Option (γ ⊕ β)} {x : γ ⊕ β} {y : α} (h : oi o k = some x) (e : o = .inl y) : k y = some x := by rw [e] at h; exact h
theorem oi_r {α β γ : Type} {o : α ⊕ β} {k : α → Option (γ ⊕ β)} {x : γ ⊕ β} {y : β} (h : oi o k = some x) (e : o = .inr y) : x = .inr y := by rw [e] at h; exact (Option.some.inj h).symm
/-- locals: those that a store leaves -/
def lv_ok (i : Nat) : List (Nat × Value) → Prop
  | [] => True
  | q :: r => (q.1 ≠ i ∧ (q.1 + 1 ≠ i ∨ q.2.category = 1)) ∧ lv_ok i r
theorem lv_ok_mem {i : Nat} : ∀ {l : List (Nat × Value)}, lv_ok i l → ∀ q ∈ l, q.1 ≠ i ∧ (q.1 + 1 ≠ i ∨ q.2.category = 1)
  | [], _, _, h => absurd h List.not_mem_nil
  | _ :: _, h, q, hq => by
    rcases List.mem_cons.mp hq with rfl | hq
    · exact h.1
    · exact lv_ok_mem h.2 q hq
theorem lv_pk {ls : Array Slot} {nL : Nat} {l l' : List (Nat × Value)} (h : lv_has ls nL l) (is : List Nat) (hl : is.map (fun k => l[k]?) = l'.map some) : lv_has ls nL l' := by
  refine ⟨h.1, h.2.1, fun q hq => h.2.2 q ?_⟩
  have h1 : some q ∈ is.map (fun k => l[k]?) := by rw [hl]; exact List.mem_map_of_mem hq
  obtain ⟨k, -, hk⟩ := List.mem_map.mp h1
  exact List.mem_of_getElem? hk
theorem lv_keep {ls : Array Slot} {nL i : Nat} {v : Value} {l l' : List (Nat × Value)} (h : lv_has ls nL ((i, v) :: l.filter (fun q => !(q.1 == i) && !(q.1 + 1 == i && q.2.category == 2)))) (is : List Nat) (hl : is.map (fun k => l[k]?) = l'.map some) (hc : lv_ok i l') : lv_has ls nL ((i, v) :: l') := by
  refine ⟨h.1, h.2.1, fun q hq => h.2.2 q ?_⟩
  rcases List.mem_cons.mp hq with rfl | hq
  · exact List.mem_cons_self
  · refine List.mem_cons_of_mem _ (List.mem_filter.mpr ⟨?_, ?_⟩)
    · have h1 : some q ∈ is.map (fun k => l[k]?) := by rw [hl]; exact List.mem_map_of_mem hq
      obtain ⟨k, -, hk⟩ := List.mem_map.mp h1
      exact List.mem_of_getElem? hk
    · obtain ⟨h2, h3⟩ := lv_ok_mem hc q hq
      rcases h3 with h3 | h3 <;> simp [h2, h3]
theorem b01 {z : Int} (h : z = 0 ∨ z = 1) : iI z = nI 0 ∨ iI z = nI 1 := h.elim (fun e => Or.inl (by rw [e]; decide +kernel)) (fun e => Or.inr (by rw [e]; decide +kernel))
theorem nar_b {z : Int} (h : z = 0 ∨ z = 1) : narrow .boolean (.int (iI z)) = .int (iI z) := nar_01 (b01 h)
theorem fit_b {z : Int} (h : z = 0 ∨ z = 1) : fits .boolean (.int (iI z)) = true := fit_01 (b01 h)
theorem iI_div {a b : Int} (ha : inR a) (hb : inR b) (h0 : 0 < b) : iI a / iI b = iI (a.tdiv b) := by
  rw [← Int32.toInt_inj, Int32.toInt_div_of_ne_right _ _ (by
    intro h
    have := congrArg Int32.toInt h
    rw [iI_toInt hb] at this
    have h1 : (-1 : Int32).toInt = -1 := by decide +kernel
    omega), iI_toInt ha, iI_toInt hb, iI_toInt]
  have h1 : (a.tdiv b).natAbs ≤ a.natAbs := by rw [Int.natAbs_tdiv]; exact Nat.div_le_self _ _
  obtain ⟨h2, h3⟩ := ha
  refine ⟨by omega, ?_⟩
  rcases Int.le_total 0 a with h4 | h4
  · have := Int.tdiv_le_self b h4; omega
  · have h5 := Int.tdiv_nonneg (a := -a) (b := b) (by omega) (by omega); rw [Int.neg_tdiv] at h5; omega
theorem iI_ne0 {b : Int} (hb : inR b) (h : b ≠ 0) : ¬ iI b = 0 := fun e => h ((iI_inj hb ⟨by decide, by decide⟩).mp (e.trans iI_0.symm))
theorem x_ok3 : True := trivial
def lv_okL (i : Nat) : List (Nat × Value) → Prop
  | [] => True
  | q :: r => (q.1 ≠ i ∧ q.1 ≠ i + 1 ∧ (q.1 + 1 ≠ i ∨ q.2.category = 1)) ∧ lv_okL i r
theorem lv_okL_mem {i : Nat} : ∀ {l : List (Nat × Value)}, lv_okL i l → ∀ q ∈ l, q.1 ≠ i ∧ q.1 ≠ i + 1 ∧ (q.1 + 1 ≠ i ∨ q.2.category = 1)
  | [], _, _, h => absurd h List.not_mem_nil
  | _ :: _, h, q, hq => by
    rcases List.mem_cons.mp hq with rfl | hq
    · exact h.1
    · exact lv_okL_mem h.2 q hq
theorem lv_keepL {ls : Array Slot} {nL i : Nat} {v : Value} {l l' : List (Nat × Value)} (h : lv_has ls nL ((i, v) :: l.filter (fun q => !(q.1 == i) && (!(q.1 == i + 1) && !(q.1 + 1 == i && q.2.category == 2))))) (is : List Nat) (hl : is.map (fun k => l[k]?) = l'.map some) (hc : lv_okL i l') : lv_has ls nL ((i, v) :: l') := by
  refine ⟨h.1, h.2.1, fun q hq => h.2.2 q ?_⟩
  rcases List.mem_cons.mp hq with rfl | hq
  · exact List.mem_cons_self
  · refine List.mem_cons_of_mem _ (List.mem_filter.mpr ⟨?_, ?_⟩)
    · have h1 : some q ∈ is.map (fun k => l[k]?) := by rw [hl]; exact List.mem_map_of_mem hq
      obtain ⟨k, -, hk⟩ := List.mem_map.mp h1
      exact List.mem_of_getElem? hk
    · obtain ⟨h2, h4, h3⟩ := lv_okL_mem hc q hq
      rcases h3 with h3 | h3 <;> simp [h2, h3, h4]
section ROWS
variable {p : Program} {l : Launch} {e : Env} {R : Room} {s : State} {m : MethodId} {args : Array Value} {below : List Frame} {meth : Method} {c : Code} {H : Heap} {locs : List Loc} {cells slots : Nat} {Q : State → Prop} {cc : ByteArray} {pc : Nat} {ls : Array Slot} {rest : List Value}
theorem t_aload (hx : p.tables.exec = Jvm.exec) (hb : c.code = cc) {i : Nat} {ga : Nat → Nat} {o : Option Nat} (hdg : decode cc pc = .ok (.aload i, 2)) (hl : ls[i]? = some (.val (ctv ga o))) (kk : W p l e R s m args below meth c H locs cells slots Q (F0 m (pc + 2) ls (ctv ga o :: rest))) : W p l e R s m args below meth c H locs cells slots Q (F0 m (pc) ls (rest)) := by
  cases o with
  | none => exact lv_aloadN hx hb hdg hl kk
  | some x => exact lv_aload hx hb hdg hl kk
theorem x_istore (hx : p.tables.exec = Jvm.exec) (hb : c.code = cc) {i : Nat} {nL : Nat} {x : Int32} {lv lv' : List (Nat × Value)} (hdg : decode cc pc = .ok (.istore i, 2)) (h : lv_has ls nL lv) (hn : i < nL) (is : List Nat) (hl : is.map (fun k => lv[k]?) = lv'.map some) (hc : lv_ok i lv') (kk : ∀ ls' : Array Slot, lv_has ls' nL ((i, .int x) :: lv') → W p l e R s m args below meth c H locs cells slots Q (F0 m (pc + 2) ls' (rest))) : W p l e R s m args below meth c H locs cells slots Q (F0 m (pc) ls (.int x :: rest)) := lv_istore hx hb hdg h hn rfl (fun ls' h' => kk ls' (lv_keep h' is hl hc))
theorem x_astore (hx : p.tables.exec = Jvm.exec) (hb : c.code = cc) {i : Nat} {nL : Nat} {x : Nat} {lv lv' : List (Nat × Value)} (hdg : decode cc pc = .ok (.astore i, 2)) (h : lv_has ls nL lv) (hn : i < nL) (is : List Nat) (hl : is.map (fun k => lv[k]?) = lv'.map some) (hc : lv_ok i lv') (kk : ∀ ls' : Array Slot, lv_has ls' nL ((i, .ref x) :: lv') → W p l e R s m args below meth c H locs cells slots Q (F0 m (pc + 2) ls' (rest))) : W p l e R s m args below meth c H locs cells slots Q (F0 m (pc) ls (.ref x :: rest)) := lv_astore hx hb hdg h hn rfl (fun ls' h' => kk ls' (lv_keep h' is hl hc))
theorem x_astoreN (hx : p.tables.exec = Jvm.exec) (hb : c.code = cc) {i : Nat} {nL : Nat}  {lv lv' : List (Nat × Value)} (hdg : decode cc pc = .ok (.astore i, 2)) (h : lv_has ls nL lv) (hn : i < nL) (is : List Nat) (hl : is.map (fun k => lv[k]?) = lv'.map some) (hc : lv_ok i lv') (kk : ∀ ls' : Array Slot, lv_has ls' nL ((i, .null) :: lv') → W p l e R s m args below meth c H locs cells slots Q (F0 m (pc + 2) ls' (rest))) : W p l e R s m args below meth c H locs cells slots Q (F0 m (pc) ls (.null :: rest)) := lv_astoreN hx hb hdg h hn rfl (fun ls' h' => kk ls' (lv_keep h' is hl hc))
theorem t_astore (hx : p.tables.exec = Jvm.exec) (hb : c.code = cc) {i : Nat} {nL : Nat} {ga : Nat → Nat} {o : Option Nat} {lv lv' : List (Nat × Value)} (hdg : decode cc pc = .ok (.astore i, 2)) (h : lv_has ls nL lv) (hn : i < nL) (is : List Nat) (hl : is.map (fun k => lv[k]?) = lv'.map some) (hc : lv_ok i lv') (kk : ∀ ls' : Array Slot, lv_has ls' nL ((i, ctv ga o) :: lv') → W p l e R s m args below meth c H locs cells slots Q (F0 m (pc + 2) ls' (rest))) : W p l e R s m args below meth c H locs cells slots Q (F0 m (pc) ls (ctv ga o :: rest)) := by
  cases o with
  | none => exact x_astoreN hx hb hdg h hn is hl hc kk
  | some y => exact x_astore hx hb hdg h hn is hl hc kk
theorem t_aload_n (hx : p.tables.exec = Jvm.exec) (hb : c.code = cc) {k : Fin 4} {i : Nat} {ga : Nat → Nat} {o : Option Nat} (hdg : decode cc pc = .ok (.aload_n k, 1)) (hi : (k : Nat) = i) (hl : ls[i]? = some (.val (ctv ga o))) (kk : W p l e R s m args below meth c H locs cells slots Q (F0 m (pc + 1) ls (ctv ga o :: rest))) : W p l e R s m args below meth c H locs cells slots Q (F0 m (pc) ls (rest)) := by
  cases o with
  | none => exact lv_aload_nN hx hb hdg hi hl kk
  | some x => exact lv_aload_n hx hb hdg hi hl kk
theorem x_istore_n (hx : p.tables.exec = Jvm.exec) (hb : c.code = cc) {k : Fin 4} {i : Nat} {nL : Nat} {x : Int32} {lv lv' : List (Nat × Value)} (hdg : decode cc pc = .ok (.istore_n k, 1)) (hi : (k : Nat) = i) (h : lv_has ls nL lv) (hn : i < nL) (is : List Nat) (hl : is.map (fun k => lv[k]?) = lv'.map some) (hc : lv_ok i lv') (kk : ∀ ls' : Array Slot, lv_has ls' nL ((i, .int x) :: lv') → W p l e R s m args below meth c H locs cells slots Q (F0 m (pc + 1) ls' (rest))) : W p l e R s m args below meth c H locs cells slots Q (F0 m (pc) ls (.int x :: rest)) := lv_istore_n hx hb hdg hi h hn rfl (fun ls' h' => kk ls' (lv_keep h' is hl hc))
theorem x_astore_n (hx : p.tables.exec = Jvm.exec) (hb : c.code = cc) {k : Fin 4} {i : Nat} {nL : Nat} {x : Nat} {lv lv' : List (Nat × Value)} (hdg : decode cc pc = .ok (.astore_n k, 1)) (hi : (k : Nat) = i) (h : lv_has ls nL lv) (hn : i < nL) (is : List Nat) (hl : is.map (fun k => lv[k]?) = lv'.map some) (hc : lv_ok i lv') (kk : ∀ ls' : Array Slot, lv_has ls' nL ((i, .ref x) :: lv') → W p l e R s m args below meth c H locs cells slots Q (F0 m (pc + 1) ls' (rest))) : W p l e R s m args below meth c H locs cells slots Q (F0 m (pc) ls (.ref x :: rest)) := lv_astore_n hx hb hdg hi h hn rfl (fun ls' h' => kk ls' (lv_keep h' is hl hc))
theorem x_astore_nN (hx : p.tables.exec = Jvm.exec) (hb : c.code = cc) {k : Fin 4} {i : Nat} {nL : Nat}  {lv lv' : List (Nat × Value)} (hdg : decode cc pc = .ok (.astore_n k, 1)) (hi : (k : Nat) = i) (h : lv_has ls nL lv) (hn : i < nL) (is : List Nat) (hl : is.map (fun k => lv[k]?) = lv'.map some) (hc : lv_ok i lv') (kk : ∀ ls' : Array Slot, lv_has ls' nL ((i, .null) :: lv') → W p l e R s m args below meth c H locs cells slots Q (F0 m (pc + 1) ls' (rest))) : W p l e R s m args below meth c H locs cells slots Q (F0 m (pc) ls (.null :: rest)) := lv_astore_nN hx hb hdg hi h hn rfl (fun ls' h' => kk ls' (lv_keep h' is hl hc))
theorem t_astore_n (hx : p.tables.exec = Jvm.exec) (hb : c.code = cc) {k : Fin 4} {i : Nat} {nL : Nat} {ga : Nat → Nat} {o : Option Nat} {lv lv' : List (Nat × Value)} (hdg : decode cc pc = .ok (.astore_n k, 1)) (hi : (k : Nat) = i) (h : lv_has ls nL lv) (hn : i < nL) (is : List Nat) (hl : is.map (fun k => lv[k]?) = lv'.map some) (hc : lv_ok i lv') (kk : ∀ ls' : Array Slot, lv_has ls' nL ((i, ctv ga o) :: lv') → W p l e R s m args below meth c H locs cells slots Q (F0 m (pc + 1) ls' (rest))) : W p l e R s m args below meth c H locs cells slots Q (F0 m (pc) ls (ctv ga o :: rest)) := by
  cases o with
  | none => exact x_astore_nN hx hb hdg hi h hn is hl hc kk
  | some y => exact x_astore_n hx hb hdg hi h hn is hl hc kk
theorem x_lstore (hx : p.tables.exec = Jvm.exec) (hb : c.code = cc) {i : Nat} {nL : Nat} {x : Int64} {lv lv' : List (Nat × Value)} (hdg : decode cc pc = .ok (.lstore i, 2)) (h : lv_has ls nL lv) (hn : i + 1 < nL) (is : List Nat) (hl : is.map (fun k => lv[k]?) = lv'.map some) (hc : lv_okL i lv') (kk : ∀ ls' : Array Slot, lv_has ls' nL ((i, .long x) :: lv') → W p l e R s m args below meth c H locs cells slots Q (F0 m (pc + 2) ls' (rest))) : W p l e R s m args below meth c H locs cells slots Q (F0 m (pc) ls (.long x :: rest)) := lv_lstore hx hb hdg h hn rfl (fun ls' h' => kk ls' (lv_keepL h' is hl hc))
theorem x_lstore_n (hx : p.tables.exec = Jvm.exec) (hb : c.code = cc) {k : Fin 4} {i : Nat} {nL : Nat} {x : Int64} {lv lv' : List (Nat × Value)} (hdg : decode cc pc = .ok (.lstore_n k, 1)) (hi : (k : Nat) = i) (h : lv_has ls nL lv) (hn : i + 1 < nL) (is : List Nat) (hl : is.map (fun k => lv[k]?) = lv'.map some) (hc : lv_okL i lv') (kk : ∀ ls' : Array Slot, lv_has ls' nL ((i, .long x) :: lv') → W p l e R s m args below meth c H locs cells slots Q (F0 m (pc + 1) ls' (rest))) : W p l e R s m args below meth c H locs cells slots Q (F0 m (pc) ls (.long x :: rest)) := lv_lstore_n hx hb hdg hi h hn rfl (fun ls' h' => kk ls' (lv_keepL h' is hl hc))
theorem x_iinc (hx : p.tables.exec = Jvm.exec) (hb : c.code = cc) {i nL k : Nat} {n : Int} {x v : Int32} {lv lv' : List (Nat × Value)} (hdg : decode cc pc = .ok (.iinc i n, 3)) (h : lv_has ls nL lv) (hk : lv[k]? = some (i, .int x)) (hv : x + Int32.ofInt n = v) (hn : i < nL) (is : List Nat) (hl : is.map (fun k => lv[k]?) = lv'.map some) (hc : lv_ok i lv') (kk : ∀ ls' : Array Slot, lv_has ls' nL ((i, .int v) :: lv') → W p l e R s m args below meth c H locs cells slots Q (F0 m (pc + 3) ls' (rest))) : W p l e R s m args below meth c H locs cells slots Q (F0 m (pc) ls (rest)) := lv_iinc hx hb hdg h hk hv hn rfl (fun ls' h' => kk ls' (lv_keep h' is hl hc))
theorem i_icmp_lt_T (hx : p.tables.exec = Jvm.exec) (hb : c.code = cc) {a b : Int} (g1 : inR a) (g2 : inR b) {off : Int} {tgt : Nat} (hdg : decode cc pc = .ok (.if_icmp .lt off, 3)) (ht : (pc : Int) + off = (tgt : Int)) (hc : a < b) (kk : W p l e R s m args below meth c H locs cells slots Q (F0 m (tgt) ls (rest))) : W p l e R s m args below meth c H locs cells slots Q (F0 m (pc) ls (.int (iI b) :: .int (iI a) :: rest)) := lv_icmp_lt hx hb hdg ht (fun _ => kk) (fun h9 => absurd ((iI_lt g1 g2).mpr hc) h9)
theorem i_if_lt_T (hx : p.tables.exec = Jvm.exec) (hb : c.code = cc) {a : Int} (g1 : inR a) {off : Int} {tgt : Nat} (hdg : decode cc pc = .ok (.ifCond .lt off, 3)) (ht : (pc : Int) + off = (tgt : Int)) (hc : a < 0) (kk : W p l e R s m args below meth c H locs cells slots Q (F0 m (tgt) ls (rest))) : W p l e R s m args below meth c H locs cells slots Q (F0 m (pc) ls (.int (iI a) :: rest)) := by
  have g2 : inR 0 := ⟨by decide, by decide⟩
  have hz := iI_0
  refine lv_if_lt hx hb hdg ht ?_ ?_ <;> rw [← hz]
  · exact fun _ => kk
  · exact (fun h9 => absurd ((iI_lt g1 g2).mpr hc) h9)
theorem i_icmp_lt_F (hx : p.tables.exec = Jvm.exec) (hb : c.code = cc) {a b : Int} (g1 : inR a) (g2 : inR b) {off : Int} {tgt : Nat} (hdg : decode cc pc = .ok (.if_icmp .lt off, 3)) (ht : (pc : Int) + off = (tgt : Int)) (hc : ¬ a < b) (kk : W p l e R s m args below meth c H locs cells slots Q (F0 m (pc + 3) ls (rest))) : W p l e R s m args below meth c H locs cells slots Q (F0 m (pc) ls (.int (iI b) :: .int (iI a) :: rest)) := lv_icmp_lt hx hb hdg ht (fun h9 => absurd h9 (fun h9 => absurd ((iI_lt g1 g2).mp h9) hc)) (fun _ => kk)
theorem i_if_lt_F (hx : p.tables.exec = Jvm.exec) (hb : c.code = cc) {a : Int} (g1 : inR a) {off : Int} {tgt : Nat} (hdg : decode cc pc = .ok (.ifCond .lt off, 3)) (ht : (pc : Int) + off = (tgt : Int)) (hc : ¬ a < 0) (kk : W p l e R s m args below meth c H locs cells slots Q (F0 m (pc + 3) ls (rest))) : W p l e R s m args below meth c H locs cells slots Q (F0 m (pc) ls (.int (iI a) :: rest)) := by
  have g2 : inR 0 := ⟨by decide, by decide⟩
  have hz := iI_0
  refine lv_if_lt hx hb hdg ht ?_ ?_ <;> rw [← hz]
  · exact (fun h9 => absurd h9 (fun h9 => absurd ((iI_lt g1 g2).mp h9) hc))
  · exact fun _ => kk
theorem i_icmp_ge_T (hx : p.tables.exec = Jvm.exec) (hb : c.code = cc) {a b : Int} (g1 : inR a) (g2 : inR b) {off : Int} {tgt : Nat} (hdg : decode cc pc = .ok (.if_icmp .ge off, 3)) (ht : (pc : Int) + off = (tgt : Int)) (hc : ¬ a < b) (kk : W p l e R s m args below meth c H locs cells slots Q (F0 m (tgt) ls (rest))) : W p l e R s m args below meth c H locs cells slots Q (F0 m (pc) ls (.int (iI b) :: .int (iI a) :: rest)) := lv_icmp_ge hx hb hdg ht (fun _ => kk) (fun h9 => absurd ((iI_le g2 g1).mpr (by omega)) h9)
theorem i_if_ge_T (hx : p.tables.exec = Jvm.exec) (hb : c.code = cc) {a : Int} (g1 : inR a) {off : Int} {tgt : Nat} (hdg : decode cc pc = .ok (.ifCond .ge off, 3)) (ht : (pc : Int) + off = (tgt : Int)) (hc : ¬ a < 0) (kk : W p l e R s m args below meth c H locs cells slots Q (F0 m (tgt) ls (rest))) : W p l e R s m args below meth c H locs cells slots Q (F0 m (pc) ls (.int (iI a) :: rest)) := by
  have g2 : inR 0 := ⟨by decide, by decide⟩
  have hz := iI_0
  refine lv_if_ge hx hb hdg ht ?_ ?_ <;> rw [← hz]
  · exact fun _ => kk
  · exact (fun h9 => absurd ((iI_le g2 g1).mpr (by omega)) h9)
theorem i_icmp_ge_F (hx : p.tables.exec = Jvm.exec) (hb : c.code = cc) {a b : Int} (g1 : inR a) (g2 : inR b) {off : Int} {tgt : Nat} (hdg : decode cc pc = .ok (.if_icmp .ge off, 3)) (ht : (pc : Int) + off = (tgt : Int)) (hc : a < b) (kk : W p l e R s m args below meth c H locs cells slots Q (F0 m (pc + 3) ls (rest))) : W p l e R s m args below meth c H locs cells slots Q (F0 m (pc) ls (.int (iI b) :: .int (iI a) :: rest)) := lv_icmp_ge hx hb hdg ht (fun h9 => absurd h9 (fun h9 => absurd ((iI_le g2 g1).mp h9) (by omega))) (fun _ => kk)
theorem i_if_ge_F (hx : p.tables.exec = Jvm.exec) (hb : c.code = cc) {a : Int} (g1 : inR a) {off : Int} {tgt : Nat} (hdg : decode cc pc = .ok (.ifCond .ge off, 3)) (ht : (pc : Int) + off = (tgt : Int)) (hc : a < 0) (kk : W p l e R s m args below meth c H locs cells slots Q (F0 m (pc + 3) ls (rest))) : W p l e R s m args below meth c H locs cells slots Q (F0 m (pc) ls (.int (iI a) :: rest)) := by
  have g2 : inR 0 := ⟨by decide, by decide⟩
  have hz := iI_0
  refine lv_if_ge hx hb hdg ht ?_ ?_ <;> rw [← hz]
  · exact (fun h9 => absurd h9 (fun h9 => absurd ((iI_le g2 g1).mp h9) (by omega)))
  · exact fun _ => kk
theorem i_icmp_gt_T (hx : p.tables.exec = Jvm.exec) (hb : c.code = cc) {a b : Int} (g1 : inR a) (g2 : inR b) {off : Int} {tgt : Nat} (hdg : decode cc pc = .ok (.if_icmp .gt off, 3)) (ht : (pc : Int) + off = (tgt : Int)) (hc : b < a) (kk : W p l e R s m args below meth c H locs cells slots Q (F0 m (tgt) ls (rest))) : W p l e R s m args below meth c H locs cells slots Q (F0 m (pc) ls (.int (iI b) :: .int (iI a) :: rest)) := lv_icmp_gt hx hb hdg ht (fun _ => kk) (fun h9 => absurd ((iI_lt g2 g1).mpr hc) h9)
theorem i_if_gt_T (hx : p.tables.exec = Jvm.exec) (hb : c.code = cc) {a : Int} (g1 : inR a) {off : Int} {tgt : Nat} (hdg : decode cc pc = .ok (.ifCond .gt off, 3)) (ht : (pc : Int) + off = (tgt : Int)) (hc : 0 < a) (kk : W p l e R s m args below meth c H locs cells slots Q (F0 m (tgt) ls (rest))) : W p l e R s m args below meth c H locs cells slots Q (F0 m (pc) ls (.int (iI a) :: rest)) := by
  have g2 : inR 0 := ⟨by decide, by decide⟩
  have hz := iI_0
  refine lv_if_gt hx hb hdg ht ?_ ?_ <;> rw [← hz]
  · exact fun _ => kk
  · exact (fun h9 => absurd ((iI_lt g2 g1).mpr hc) h9)
theorem i_icmp_gt_F (hx : p.tables.exec = Jvm.exec) (hb : c.code = cc) {a b : Int} (g1 : inR a) (g2 : inR b) {off : Int} {tgt : Nat} (hdg : decode cc pc = .ok (.if_icmp .gt off, 3)) (ht : (pc : Int) + off = (tgt : Int)) (hc : ¬ b < a) (kk : W p l e R s m args below meth c H locs cells slots Q (F0 m (pc + 3) ls (rest))) : W p l e R s m args below meth c H locs cells slots Q (F0 m (pc) ls (.int (iI b) :: .int (iI a) :: rest)) := lv_icmp_gt hx hb hdg ht (fun h9 => absurd h9 (fun h9 => absurd ((iI_lt g2 g1).mp h9) hc)) (fun _ => kk)
theorem i_if_gt_F (hx : p.tables.exec = Jvm.exec) (hb : c.code = cc) {a : Int} (g1 : inR a) {off : Int} {tgt : Nat} (hdg : decode cc pc = .ok (.ifCond .gt off, 3)) (ht : (pc : Int) + off = (tgt : Int)) (hc : ¬ 0 < a) (kk : W p l e R s m args below meth c H locs cells slots Q (F0 m (pc + 3) ls (rest))) : W p l e R s m args below meth c H locs cells slots Q (F0 m (pc) ls (.int (iI a) :: rest)) := by
  have g2 : inR 0 := ⟨by decide, by decide⟩
  have hz := iI_0
  refine lv_if_gt hx hb hdg ht ?_ ?_ <;> rw [← hz]
  · exact (fun h9 => absurd h9 (fun h9 => absurd ((iI_lt g2 g1).mp h9) hc))
  · exact fun _ => kk
theorem i_icmp_le_T (hx : p.tables.exec = Jvm.exec) (hb : c.code = cc) {a b : Int} (g1 : inR a) (g2 : inR b) {off : Int} {tgt : Nat} (hdg : decode cc pc = .ok (.if_icmp .le off, 3)) (ht : (pc : Int) + off = (tgt : Int)) (hc : ¬ b < a) (kk : W p l e R s m args below meth c H locs cells slots Q (F0 m (tgt) ls (rest))) : W p l e R s m args below meth c H locs cells slots Q (F0 m (pc) ls (.int (iI b) :: .int (iI a) :: rest)) := lv_icmp_le hx hb hdg ht (fun _ => kk) (fun h9 => absurd ((iI_le g1 g2).mpr (by omega)) h9)
theorem i_if_le_T (hx : p.tables.exec = Jvm.exec) (hb : c.code = cc) {a : Int} (g1 : inR a) {off : Int} {tgt : Nat} (hdg : decode cc pc = .ok (.ifCond .le off, 3)) (ht : (pc : Int) + off = (tgt : Int)) (hc : ¬ 0 < a) (kk : W p l e R s m args below meth c H locs cells slots Q (F0 m (tgt) ls (rest))) : W p l e R s m args below meth c H locs cells slots Q (F0 m (pc) ls (.int (iI a) :: rest)) := by
  have g2 : inR 0 := ⟨by decide, by decide⟩
  have hz := iI_0
  refine lv_if_le hx hb hdg ht ?_ ?_ <;> rw [← hz]
  · exact fun _ => kk
  · exact (fun h9 => absurd ((iI_le g1 g2).mpr (by omega)) h9)
theorem i_icmp_le_F (hx : p.tables.exec = Jvm.exec) (hb : c.code = cc) {a b : Int} (g1 : inR a) (g2 : inR b) {off : Int} {tgt : Nat} (hdg : decode cc pc = .ok (.if_icmp .le off, 3)) (ht : (pc : Int) + off = (tgt : Int)) (hc : b < a) (kk : W p l e R s m args below meth c H locs cells slots Q (F0 m (pc + 3) ls (rest))) : W p l e R s m args below meth c H locs cells slots Q (F0 m (pc) ls (.int (iI b) :: .int (iI a) :: rest)) := lv_icmp_le hx hb hdg ht (fun h9 => absurd h9 (fun h9 => absurd ((iI_le g1 g2).mp h9) (by omega))) (fun _ => kk)
theorem i_if_le_F (hx : p.tables.exec = Jvm.exec) (hb : c.code = cc) {a : Int} (g1 : inR a) {off : Int} {tgt : Nat} (hdg : decode cc pc = .ok (.ifCond .le off, 3)) (ht : (pc : Int) + off = (tgt : Int)) (hc : 0 < a) (kk : W p l e R s m args below meth c H locs cells slots Q (F0 m (pc + 3) ls (rest))) : W p l e R s m args below meth c H locs cells slots Q (F0 m (pc) ls (.int (iI a) :: rest)) := by
  have g2 : inR 0 := ⟨by decide, by decide⟩
  have hz := iI_0
  refine lv_if_le hx hb hdg ht ?_ ?_ <;> rw [← hz]
  · exact (fun h9 => absurd h9 (fun h9 => absurd ((iI_le g1 g2).mp h9) (by omega)))
  · exact fun _ => kk
theorem i_icmp_eq_T (hx : p.tables.exec = Jvm.exec) (hb : c.code = cc) {a b : Int} (g1 : inR a) (g2 : inR b) {off : Int} {tgt : Nat} (hdg : decode cc pc = .ok (.if_icmp .eq off, 3)) (ht : (pc : Int) + off = (tgt : Int)) (hc : a = b) (kk : W p l e R s m args below meth c H locs cells slots Q (F0 m (tgt) ls (rest))) : W p l e R s m args below meth c H locs cells slots Q (F0 m (pc) ls (.int (iI b) :: .int (iI a) :: rest)) := lv_icmp_eq hx hb hdg ht (fun _ => kk) (fun h9 => absurd ((iI_inj g1 g2).mpr hc) h9)
theorem i_if_eq_T (hx : p.tables.exec = Jvm.exec) (hb : c.code = cc) {a : Int} (g1 : inR a) {off : Int} {tgt : Nat} (hdg : decode cc pc = .ok (.ifCond .eq off, 3)) (ht : (pc : Int) + off = (tgt : Int)) (hc : a = 0) (kk : W p l e R s m args below meth c H locs cells slots Q (F0 m (tgt) ls (rest))) : W p l e R s m args below meth c H locs cells slots Q (F0 m (pc) ls (.int (iI a) :: rest)) := by
  have g2 : inR 0 := ⟨by decide, by decide⟩
  have hz := iI_0
  refine lv_if_eq hx hb hdg ht ?_ ?_ <;> rw [← hz]
  · exact fun _ => kk
  · exact (fun h9 => absurd ((iI_inj g1 g2).mpr hc) h9)
theorem i_icmp_eq_F (hx : p.tables.exec = Jvm.exec) (hb : c.code = cc) {a b : Int} (g1 : inR a) (g2 : inR b) {off : Int} {tgt : Nat} (hdg : decode cc pc = .ok (.if_icmp .eq off, 3)) (ht : (pc : Int) + off = (tgt : Int)) (hc : ¬ a = b) (kk : W p l e R s m args below meth c H locs cells slots Q (F0 m (pc + 3) ls (rest))) : W p l e R s m args below meth c H locs cells slots Q (F0 m (pc) ls (.int (iI b) :: .int (iI a) :: rest)) := lv_icmp_eq hx hb hdg ht (fun h9 => absurd h9 (fun h9 => absurd ((iI_inj g1 g2).mp h9) hc)) (fun _ => kk)
theorem i_if_eq_F (hx : p.tables.exec = Jvm.exec) (hb : c.code = cc) {a : Int} (g1 : inR a) {off : Int} {tgt : Nat} (hdg : decode cc pc = .ok (.ifCond .eq off, 3)) (ht : (pc : Int) + off = (tgt : Int)) (hc : ¬ a = 0) (kk : W p l e R s m args below meth c H locs cells slots Q (F0 m (pc + 3) ls (rest))) : W p l e R s m args below meth c H locs cells slots Q (F0 m (pc) ls (.int (iI a) :: rest)) := by
  have g2 : inR 0 := ⟨by decide, by decide⟩
  have hz := iI_0
  refine lv_if_eq hx hb hdg ht ?_ ?_ <;> rw [← hz]
  · exact (fun h9 => absurd h9 (fun h9 => absurd ((iI_inj g1 g2).mp h9) hc))
  · exact fun _ => kk
theorem i_icmp_ne_T (hx : p.tables.exec = Jvm.exec) (hb : c.code = cc) {a b : Int} (g1 : inR a) (g2 : inR b) {off : Int} {tgt : Nat} (hdg : decode cc pc = .ok (.if_icmp .ne off, 3)) (ht : (pc : Int) + off = (tgt : Int)) (hc : ¬ a = b) (kk : W p l e R s m args below meth c H locs cells slots Q (F0 m (tgt) ls (rest))) : W p l e R s m args below meth c H locs cells slots Q (F0 m (pc) ls (.int (iI b) :: .int (iI a) :: rest)) := lv_icmp_ne hx hb hdg ht (fun _ => kk) (fun h9 => absurd h9 (fun h9 => hc ((iI_inj g1 g2).mp h9)))
theorem i_if_ne_T (hx : p.tables.exec = Jvm.exec) (hb : c.code = cc) {a : Int} (g1 : inR a) {off : Int} {tgt : Nat} (hdg : decode cc pc = .ok (.ifCond .ne off, 3)) (ht : (pc : Int) + off = (tgt : Int)) (hc : ¬ a = 0) (kk : W p l e R s m args below meth c H locs cells slots Q (F0 m (tgt) ls (rest))) : W p l e R s m args below meth c H locs cells slots Q (F0 m (pc) ls (.int (iI a) :: rest)) := by
  have g2 : inR 0 := ⟨by decide, by decide⟩
  have hz := iI_0
  refine lv_if_ne hx hb hdg ht ?_ ?_ <;> rw [← hz]
  · exact fun _ => kk
  · exact (fun h9 => absurd h9 (fun h9 => hc ((iI_inj g1 g2).mp h9)))
theorem i_icmp_ne_F (hx : p.tables.exec = Jvm.exec) (hb : c.code = cc) {a b : Int} (g1 : inR a) (g2 : inR b) {off : Int} {tgt : Nat} (hdg : decode cc pc = .ok (.if_icmp .ne off, 3)) (ht : (pc : Int) + off = (tgt : Int)) (hc : a = b) (kk : W p l e R s m args below meth c H locs cells slots Q (F0 m (pc + 3) ls (rest))) : W p l e R s m args below meth c H locs cells slots Q (F0 m (pc) ls (.int (iI b) :: .int (iI a) :: rest)) := lv_icmp_ne hx hb hdg ht (fun h9 => absurd ((iI_inj g1 g2).mpr hc) h9) (fun _ => kk)
theorem i_if_ne_F (hx : p.tables.exec = Jvm.exec) (hb : c.code = cc) {a : Int} (g1 : inR a) {off : Int} {tgt : Nat} (hdg : decode cc pc = .ok (.ifCond .ne off, 3)) (ht : (pc : Int) + off = (tgt : Int)) (hc : a = 0) (kk : W p l e R s m args below meth c H locs cells slots Q (F0 m (pc + 3) ls (rest))) : W p l e R s m args below meth c H locs cells slots Q (F0 m (pc) ls (.int (iI a) :: rest)) := by
  have g2 : inR 0 := ⟨by decide, by decide⟩
  have hz := iI_0
  refine lv_if_ne hx hb hdg ht ?_ ?_ <;> rw [← hz]
  · exact (fun h9 => absurd ((iI_inj g1 g2).mpr hc) h9)
  · exact fun _ => kk
theorem i_aald (hx : p.tables.exec = Jvm.exec) (hb : c.code = cc) {D : va_G} {K : Nat → ClassId} {wl : va_W} {a : Nat} (q0 t0 : Nat) {cA : ClassId} (hK : va_K D cl (tys K) s) (hP : va_P D cl wl H) {C : String} {N : Nat} {i : Int} {f : Nat → Option Nat} (ha : wl[q0]? = some (a, .inl (cA, N, .inr (.inr (.inr (.inr f)))))) (ht : (tys K)[t0]? = some (cA, .object C)) (h0 : 0 ≤ i) (h1 : i < (N : Int)) (hN : N < 2147483648) {v : Value} (hv : va_rf (f i.toNat) = v) (hdg : decode cc pc = .ok (.aaload, 1)) (kk : W p l e R s m args below meth c H locs cells slots Q (F0 m (pc + 1) ls (v :: rest))) : W p l e R s m args below meth c H locs cells slots Q (F0 m (pc) ls (.int (iI i) :: .ref a :: rest)) := by
  have e0 : iI i = nI i.toNat := by rw [nI_iI (by omega)]; congr 1; omega
  rw [e0]
  exact r_aald hx hb hK hP q0 t0 ha ht (k := i.toNat) (by omega) hN hv hdg kk
theorem i_zald (hx : p.tables.exec = Jvm.exec) (hb : c.code = cc) {D : va_G} {K : Nat → ClassId} {wl : va_W} {a : Nat} (q0 t0 : Nat) {cA : ClassId} (hK : va_K D cl (tys K) s) (hP : va_P D cl wl H) {N : Nat} {i : Int} {f : Nat → Int32} (ha : wl[q0]? = some (a, .inl (cA, N, .inl f))) (ht : (tys K)[t0]? = some (cA, .boolean)) (h0 : 0 ≤ i) (h1 : i < (N : Int)) (hN : N < 2147483648) {v : Int32} (hv : f i.toNat = v) (hdg : decode cc pc = .ok (.baload, 1)) (kk : W p l e R s m args below meth c H locs cells slots Q (F0 m (pc + 1) ls (.int v :: rest))) : W p l e R s m args below meth c H locs cells slots Q (F0 m (pc) ls (.int (iI i) :: .ref a :: rest)) := by
  have e0 : iI i = nI i.toNat := by rw [nI_iI (by omega)]; congr 1; omega
  rw [e0]
  exact r_zald hx hb hK hP q0 t0 ha ht (k := i.toNat) (by omega) hN hv hdg kk
theorem i_aast (hx : p.tables.exec = Jvm.exec) (hb : c.code = cc) {D : va_G} {K : Nat → ClassId} {wl ws' : va_W} {A : Nat → Prop} {a : Nat} (q0 t0 : Nat) {cA : ClassId} (hK : va_K D cl (tys K) s) (hP : va_P D cl wl H) (hD : va_D A wl) (hS : va_S A s.heap H locs) {C : String} {N : Nat} {i : Int} {v : Nat} {f : Nat → Option Nat} (ha : wl[q0]? = some (a, .inl (cA, N, .inr (.inr (.inr (.inr f)))))) (ht : (tys K)[t0]? = some (cA, .object C)) (hr : va_Any C s H v) (h0 : 0 ≤ i) (h1 : i < (N : Int)) (hN : N < 2147483648) (hdg : decode cc pc = .ok (.aastore, 1)) (e1 : wl.set q0 (a, .inl (cA, N, .inr (.inr (.inr (.inr (va_up f i.toNat (some v))))))) = ws') (kk : ∀ (H1 : Heap) (locs1 : List Loc), va_P D cl ws' H1 → va_D A ws' → va_S A s.heap H1 locs1 → W p l e R s m args below meth c H1 locs1 cells slots Q (F0 m (pc + 1) ls rest)) : W p l e R s m args below meth c H locs cells slots Q (F0 m (pc) ls (.ref v :: .int (iI i) :: .ref a :: rest)) := by
  have e0 : iI i = nI i.toNat := by rw [nI_iI (by omega)]; congr 1; omega
  rw [e0]
  exact r_aast hx hb hK hP hD hS q0 t0 ha ht hr (k := i.toNat) (by omega) hN hdg e1 kk
theorem i_aastN (hx : p.tables.exec = Jvm.exec) (hb : c.code = cc) {D : va_G} {K : Nat → ClassId} {wl ws' : va_W} {A : Nat → Prop} {a : Nat} (q0 t0 : Nat) {cA : ClassId} (hK : va_K D cl (tys K) s) (hP : va_P D cl wl H) (hD : va_D A wl) (hS : va_S A s.heap H locs) {C : String} {N : Nat} {i : Int} {f : Nat → Option Nat} (ha : wl[q0]? = some (a, .inl (cA, N, .inr (.inr (.inr (.inr f)))))) (ht : (tys K)[t0]? = some (cA, .object C)) (h0 : 0 ≤ i) (h1 : i < (N : Int)) (hN : N < 2147483648) (hdg : decode cc pc = .ok (.aastore, 1)) (e1 : wl.set q0 (a, .inl (cA, N, .inr (.inr (.inr (.inr (va_up f i.toNat none)))))) = ws') (kk : ∀ (H1 : Heap) (locs1 : List Loc), va_P D cl ws' H1 → va_D A ws' → va_S A s.heap H1 locs1 → W p l e R s m args below meth c H1 locs1 cells slots Q (F0 m (pc + 1) ls rest)) : W p l e R s m args below meth c H locs cells slots Q (F0 m (pc) ls (.null :: .int (iI i) :: .ref a :: rest)) := by
  have e0 : iI i = nI i.toNat := by rw [nI_iI (by omega)]; congr 1; omega
  rw [e0]
  exact r_aastN hx hb hK hP hD hS q0 t0 ha ht (k := i.toNat) (by omega) hN hdg e1 kk
theorem i_zast (hx : p.tables.exec = Jvm.exec) (hb : c.code = cc) {D : va_G} {K : Nat → ClassId} {wl ws' : va_W} {A : Nat → Prop} {a : Nat} (q0 t0 : Nat) {cA : ClassId} (hK : va_K D cl (tys K) s) (hP : va_P D cl wl H) (hD : va_D A wl) (hS : va_S A s.heap H locs) {N : Nat} {i z : Int} {f : Nat → Int32} (ha : wl[q0]? = some (a, .inl (cA, N, .inl f))) (ht : (tys K)[t0]? = some (cA, .boolean)) (h0 : 0 ≤ i) (h1 : i < (N : Int)) (hN : N < 2147483648) (hz : z = 0 ∨ z = 1) (hdg : decode cc pc = .ok (.bastore, 1)) (e1 : wl.set q0 (a, .inl (cA, N, .inl (va_up f i.toNat (iI z)))) = ws') (kk : ∀ (H1 : Heap) (locs1 : List Loc), va_P D cl ws' H1 → va_D A ws' → va_S A s.heap H1 locs1 → W p l e R s m args below meth c H1 locs1 cells slots Q (F0 m (pc + 1) ls rest)) : W p l e R s m args below meth c H locs cells slots Q (F0 m (pc) ls (.int (iI z) :: .int (iI i) :: .ref a :: rest)) := by
  have e0 : iI i = nI i.toNat := by rw [nI_iI (by omega)]; congr 1; omega
  rw [e0]
  exact r_zast hx hb hK hP hD hS q0 t0 ha ht (k := i.toNat) (by omega) hN (b01 hz) hdg e1 kk
theorem i_alen (hx : p.tables.exec = Jvm.exec) (hb : c.code = cc) {D : va_G} {K : Nat → ClassId} {wl : va_W} {a : Nat} (q0 t0 : Nat) {cA : ClassId} (hK : va_K D cl (tys K) s) (hP : va_P D cl wl H) {x : vp_A} (ha : wl[q0]? = some (a, .inl (cA, x))) {ty : FieldType} (ht : (tys K)[t0]? = some (cA, ty)) {n : Nat} (hn : x.1 = n) (h1 : n < 2147483648) (hdg : decode cc pc = .ok (.arraylength, 1)) (kk : W p l e R s m args below meth c H locs cells slots Q (F0 m (pc + 1) ls (.int (iI (n : Int)) :: rest))) : W p l e R s m args below meth c H locs cells slots Q (F0 m (pc) ls (.ref a :: rest)) := r_alen hx hb hK hP q0 t0 ha ht hn hdg (by rw [nI_iI h1]; exact kk)
theorem i_tableIn (hx : p.tables.exec = Jvm.exec) (hb : c.code = cc) {dflt lo hi : Int} {offs : Array Int} {len : Nat} {a : Int} (g1 : inR a) {off : Int} {tgt : Nat} (v : Int) (hdg : decode cc pc = .ok (.tableswitch dflt lo hi offs, len)) (hv : a = v) (h1 : ¬ v < lo) (h2 : ¬ hi < v) (ho : offs[(v - lo).toNat]? = some off) (ht : (pc : Int) + off = (tgt : Int)) (kk : W p l e R s m args below meth c H locs cells slots Q (F0 m (tgt) ls (rest))) : W p l e R s m args below meth c H locs cells slots Q (F0 m (pc) ls (.int (iI a) :: rest)) := by
  have e0 := iI_toInt g1
  rw [hv] at e0
  rw [hv]
  exact lv_tableIn hx hb hdg (by rw [e0]; exact h1) (by rw [e0]; exact h2) (by rw [e0]; exact ho) ht kk
theorem i_tableOut (hx : p.tables.exec = Jvm.exec) (hb : c.code = cc) {dflt lo hi : Int} {offs : Array Int} {len : Nat} {a : Int} (g1 : inR a) {tgt : Nat} (hdg : decode cc pc = .ok (.tableswitch dflt lo hi offs, len)) (h1 : a < lo ∨ hi < a) (ht : (pc : Int) + dflt = (tgt : Int)) (kk : W p l e R s m args below meth c H locs cells slots Q (F0 m (tgt) ls (rest))) : W p l e R s m args below meth c H locs cells slots Q (F0 m (pc) ls (.int (iI a) :: rest)) := lv_tableOut hx hb hdg (by rw [iI_toInt g1]; exact h1) ht kk
end ROWS
theorem go_0 {ga : Nat → Nat} {n : Nat} {cT cZ : ClassId} {M : cSt} : (wld ga n cT cZ M)[0]? = some (ga 0, .inr (9, [.ref (ga 8), .ref (ga 1), .ref (ga 2), .ref (ga 3), .ref (ga 4), .ref (ga 5), .ref (ga 6), .ref (ga 7), .int (iI (gI M 0))])) := wld_get (by omega) rfl
theorem go_1 {ga : Nat → Nat} {n : Nat} {cT cZ : ClassId} {M : cSt} : (wld ga n cT cZ M)[1]? = some (ga 1, .inr (4, [.ref (ga 9), .ref (ga 22), .ref (ga 23), .int (iI (gI M 1))])) := wld_get (by omega) rfl
theorem go_2 {ga : Nat → Nat} {n : Nat} {cT cZ : ClassId} {M : cSt} : (wld ga n cT cZ M)[2]? = some (ga 2, .inr (3, [.ref (ga 10), .ref (ga 11), .ref (ga 12), .int (iI (gI M 2)), .int (iI (gI M 3)), .int (iI (gI M 4)), .int (iI (gI M 5)), .ref (ga 24)])) := wld_get (by omega) rfl
theorem go_3 {ga : Nat → Nat} {n : Nat} {cT cZ : ClassId} {M : cSt} : (wld ga n cT cZ M)[3]? = some (ga 3, .inr (6, [.int (iI (gI M 6)), .int (iI (gI M 7)), .int (iI (gI M 8)), .int (iI (gI M 9))])) := wld_get (by omega) rfl
theorem go_4 {ga : Nat → Nat} {n : Nat} {cT cZ : ClassId} {M : cSt} : (wld ga n cT cZ M)[4]? = some (ga 4, .inr (1, [.ref (ga 8), .ref (ga 1), .int (iI (gI M 17))])) := wld_get (by omega) rfl
theorem go_5 {ga : Nat → Nat} {n : Nat} {cT cZ : ClassId} {M : cSt} : (wld ga n cT cZ M)[5]? = some (ga 5, .inr (8, [.ref (ga 8), .ref (ga 1), .ref (ga 13), .int (iI (gI M 18)), .int (iI (gI M 19)), ctv ga (gR M 9 0)])) := wld_get (by omega) rfl
theorem go_6 {ga : Nat → Nat} {n : Nat} {cT cZ : ClassId} {M : cSt} : (wld ga n cT cZ M)[6]? = some (ga 6, .inr (2, [.int (iI (gI M 20)), .ref (ga 8), .ref (ga 1), .ref (ga 2), .ref (ga 3), .ref (ga 14), .int (iI (gI M 21)), .int (iI (gI M 22)), .int (iI (gI M 23))])) := wld_get (by omega) rfl
theorem go_7 {ga : Nat → Nat} {n : Nat} {cT cZ : ClassId} {M : cSt} : (wld ga n cT cZ M)[7]? = some (ga 7, .inr (0, [.ref (ga 8), .ref (ga 1), .ref (ga 2), .ref (ga 3), .ref (ga 4), .ref (ga 5)])) := wld_get (by omega) rfl
theorem go_22 {ga : Nat → Nat} {n : Nat} {cT cZ : ClassId} {M : cSt} : (wld ga n cT cZ M)[22]? = some (ga 22, .inl (cT, 32, .inr (.inr (.inr (.inr (crf ga (gR M 7))))))) := wld_get (by omega) rfl
theorem go_23 {ga : Nat → Nat} {n : Nat} {cT cZ : ClassId} {M : cSt} : (wld ga n cT cZ M)[23]? = some (ga 23, .inl (cT, 4, .inr (.inr (.inr (.inr (crf ga (gR M 8))))))) := wld_get (by omega) rfl
theorem go_24 {ga : Nat → Nat} {n : Nat} {cT cZ : ClassId} {M : cSt} : (wld ga n cT cZ M)[24]? = some (ga 24, .inl (cZ, 20, .inl (cz M))) := wld_get (by omega) rfl
theorem go_ro {ga : Nat → Nat} {n : Nat} {cT cZ : ClassId} {M : cSt} {r : Nat} (h : r < 7) : (wld ga n cT cZ M)[8 + r]? = some (ga (8 + r), .inr (5, [.ref (ga (15 + r)), .int (iI (gI M (10 + r)))])) := wld_get (by omega) (E_ro ga cT cZ M h)
theorem go_rw {ga : Nat → Nat} {n : Nat} {cT cZ : ClassId} {M : cSt} {r : Nat} (h : r < 7) : (wld ga n cT cZ M)[15 + r]? = some (ga (15 + r), .inl (cT, 200, .inr (.inr (.inr (.inr (crf ga (gR M r))))))) := wld_get (by omega) (E_rw ga cT cZ M h)
theorem go_th {ga : Nat → Nat} {n : Nat} {cT cZ : ClassId} {M : cSt} {k : Nat} (h : k < n) : (wld ga n cT cZ M)[25 + 2 * k]? = some (ga (25 + 2 * k), .inr (7, [.int (iI (gT M k 0)), .ref (ga (26 + 2 * k)), .int (iI (gT M k 2)), .int (iI (gT M k 3)), .int (iI (gT M k 4)), .int (iI (gT M k 5)), .int (iI (gT M k 6)), .int (iI (gT M k 7)), .int (iI (gT M k 8)), .int (iI (gT M k 9)), .int (iI (gT M k 10)), .int (iI (gT M k 11)), .int (iI (gT M k 12)), .int (iI (gT M k 13))])) := wld_get (by omega) (E_th ga cT cZ M k)
theorem go_fl {ga : Nat → Nat} {n : Nat} {cT cZ : ClassId} {M : cSt} {k : Nat} (h : k < n) : (wld ga n cT cZ M)[26 + 2 * k]? = some (ga (26 + 2 * k), .inl (cT, gL M k, .inr (.inr (.inr (.inr (crf ga (gF M k))))))) := wld_get (by omega) (E_fl ga cT cZ M k)
def fu : Nat := 500
theorem nar_c (ga : Nat → Nat) (o : Option Nat) : narrow (.object "Tenuredale$Thing") (ctv ga o) = ctv ga o := by cases o <;> rfl
theorem fit_c (ga : Nat → Nat) (o : Option Nat) : fits (.object "Tenuredale$Thing") (ctv ga o) = true := by cases o <;> rfl
theorem iI_max {a b : Int} (ha : inR a) (hb : inR b) : (if iI a < iI b then iI b else iI a) = iI (max a b) := by
  by_cases h : a < b
  · rw [if_pos ((iI_lt ha hb).mpr h)]; congr 1; omega
  · rw [if_neg (fun h9 => h ((iI_lt ha hb).mp h9))]; congr 1; omega
theorem iI_min {a b : Int} (ha : inR a) (hb : inR b) : (if iI b < iI a then iI b else iI a) = iI (min a b) := by
  by_cases h : b < a
  · rw [if_pos ((iI_lt hb ha).mpr h)]; congr 1; omega
  · rw [if_neg (fun h9 => h ((iI_lt hb ha).mp h9))]; congr 1; omega
theorem ga_inj {ga : Nat → Nat} {n : Nat} {cT cZ : ClassId} {M : cSt} {A : Nat → Prop} (hD : va_D A (wld ga n cT cZ M)) {a b : Nat} (ha : a < n) (hb : b < n) (e : ga (25 + 2 * a) = ga (25 + 2 * b)) : a = b := by
  have := wld_inj hD (i := 25 + 2 * a) (j := 25 + 2 * b) (by omega) (by omega) e
  omega
theorem a_acmp_eq_T {p : Program} {l : Launch} {e : Env} {R : Room} {s : State} {m : MethodId} {args : Array Value} {below : List Frame} {meth : Method} {c : Code} {H : Heap} {locs : List Loc} {cells slots : Nat} {Q : State → Prop} {cc : ByteArray} {pc : Nat} {ls : Array Slot} {rest : List Value} (hx : p.tables.exec = Jvm.exec) (hb : c.code = cc) {ga : Nat → Nat} {n : Nat} {cT cZ : ClassId} {M : cSt} {A : Nat → Prop} (hD : va_D A (wld ga n cT cZ M)) {a b : Nat} (ha : a < n) (hb9 : b < n) {off : Int} {tgt : Nat} (hdg : decode cc pc = .ok (.if_acmp .eq off, 3)) (ht : (pc : Int) + off = (tgt : Int)) (hc : a = b) (kk : W p l e R s m args below meth c H locs cells slots Q (F0 m (tgt) ls (rest))) : W p l e R s m args below meth c H locs cells slots Q (F0 m (pc) ls (.ref (ga (25 + 2 * b)) :: .ref (ga (25 + 2 * a)) :: rest)) := lv_acmp_eq (rx := some (ga (25 + 2 * a))) (ry := some (ga (25 + 2 * b))) hx hb hdg ht (fun _ => kk) (fun h9 => absurd (by rw [hc]) h9)
theorem a_acmp_eq_F {p : Program} {l : Launch} {e : Env} {R : Room} {s : State} {m : MethodId} {args : Array Value} {below : List Frame} {meth : Method} {c : Code} {H : Heap} {locs : List Loc} {cells slots : Nat} {Q : State → Prop} {cc : ByteArray} {pc : Nat} {ls : Array Slot} {rest : List Value} (hx : p.tables.exec = Jvm.exec) (hb : c.code = cc) {ga : Nat → Nat} {n : Nat} {cT cZ : ClassId} {M : cSt} {A : Nat → Prop} (hD : va_D A (wld ga n cT cZ M)) {a b : Nat} (ha : a < n) (hb9 : b < n) {off : Int} {tgt : Nat} (hdg : decode cc pc = .ok (.if_acmp .eq off, 3)) (ht : (pc : Int) + off = (tgt : Int)) (hc : ¬ a = b) (kk : W p l e R s m args below meth c H locs cells slots Q (F0 m (pc + 3) ls (rest))) : W p l e R s m args below meth c H locs cells slots Q (F0 m (pc) ls (.ref (ga (25 + 2 * b)) :: .ref (ga (25 + 2 * a)) :: rest)) := lv_acmp_eq (rx := some (ga (25 + 2 * a))) (ry := some (ga (25 + 2 * b))) hx hb hdg ht (fun h9 => absurd h9 (fun h9 => hc (ga_inj hD ha hb9 (Option.some.inj h9)))) (fun _ => kk)
theorem a_acmp_ne_T {p : Program} {l : Launch} {e : Env} {R : Room} {s : State} {m : MethodId} {args : Array Value} {below : List Frame} {meth : Method} {c : Code} {H : Heap} {locs : List Loc} {cells slots : Nat} {Q : State → Prop} {cc : ByteArray} {pc : Nat} {ls : Array Slot} {rest : List Value} (hx : p.tables.exec = Jvm.exec) (hb : c.code = cc) {ga : Nat → Nat} {n : Nat} {cT cZ : ClassId} {M : cSt} {A : Nat → Prop} (hD : va_D A (wld ga n cT cZ M)) {a b : Nat} (ha : a < n) (hb9 : b < n) {off : Int} {tgt : Nat} (hdg : decode cc pc = .ok (.if_acmp .ne off, 3)) (ht : (pc : Int) + off = (tgt : Int)) (hc : ¬ a = b) (kk : W p l e R s m args below meth c H locs cells slots Q (F0 m (tgt) ls (rest))) : W p l e R s m args below meth c H locs cells slots Q (F0 m (pc) ls (.ref (ga (25 + 2 * b)) :: .ref (ga (25 + 2 * a)) :: rest)) := lv_acmp_ne (rx := some (ga (25 + 2 * a))) (ry := some (ga (25 + 2 * b))) hx hb hdg ht (fun _ => kk) (fun h9 => absurd h9 (fun h9 => hc (ga_inj hD ha hb9 (Option.some.inj h9))))
theorem a_acmp_ne_F {p : Program} {l : Launch} {e : Env} {R : Room} {s : State} {m : MethodId} {args : Array Value} {below : List Frame} {meth : Method} {c : Code} {H : Heap} {locs : List Loc} {cells slots : Nat} {Q : State → Prop} {cc : ByteArray} {pc : Nat} {ls : Array Slot} {rest : List Value} (hx : p.tables.exec = Jvm.exec) (hb : c.code = cc) {ga : Nat → Nat} {n : Nat} {cT cZ : ClassId} {M : cSt} {A : Nat → Prop} (hD : va_D A (wld ga n cT cZ M)) {a b : Nat} (ha : a < n) (hb9 : b < n) {off : Int} {tgt : Nat} (hdg : decode cc pc = .ok (.if_acmp .ne off, 3)) (ht : (pc : Int) + off = (tgt : Int)) (hc : a = b) (kk : W p l e R s m args below meth c H locs cells slots Q (F0 m (pc + 3) ls (rest))) : W p l e R s m args below meth c H locs cells slots Q (F0 m (pc) ls (.ref (ga (25 + 2 * b)) :: .ref (ga (25 + 2 * a)) :: rest)) := lv_acmp_ne (rx := some (ga (25 + 2 * a))) (ry := some (ga (25 + 2 * b))) hx hb hdg ht (fun h9 => absurd (by rw [hc]) h9) (fun _ => kk)
