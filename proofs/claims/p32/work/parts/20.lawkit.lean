/-! ARRAYS of the law ahead of the class's world; exceptions that keep the world. Written by wip/p32/lawkit.py. -/
/-- what throws, and what doesn't -/
def oe {β : Type} (o : Option Unit) (a b : Option β) : Option β := match o with | some _ => a | none => b
theorem oe_cases {β : Type} {o : Option Unit} {a b : Option β} {x : Option β} (h : oe o a b = x) : (o = some () ∧ a = x) ∨ (o = none ∧ b = x) := by
  cases o with
  | none => exact Or.inr ⟨rfl, h⟩
  | some _ => exact Or.inl ⟨rfl, h⟩
/-- contents of an array of ints, as Int -/
def ci (f : Nat → Int) : Nat → Int32 := fun j => iI (f j)
theorem ci_up (f : Nat → Int) (k : Nat) (v : Int) : upd (ci f) k (iI v) = ci (va_up f k v) := by
  funext j; unfold upd ci va_up
  by_cases h : j = k
  · rw [if_pos h, if_pos h]
  · rw [if_neg h, if_neg h]
theorem ci_0 : (fun _ : Nat => nI 0) = ci (fun _ => 0) := by funext j; exact show nI 0 = iI 0 by decide +kernel
theorem sk {a : Nat × va_E} {L : va_W} {i : Nat} {r : Option (Nat × va_E)} (h : L[i]? = r) : (a :: L)[i + 1]? = r := by rw [List.getElem?_cons_succ]; exact h
theorem rot_P {D : va_G} {H : Heap} {x : Nat × va_E} {wl : va_W} (h : va_P D cl (wl ++ [x]) H) : va_P D cl (x :: wl) H := by
  refine h.by (fun k => if k = 0 then wl.length else k - 1) (fun k q hk => ?_)
  cases k with
  | zero => rw [if_pos rfl, List.getElem?_append_right (Nat.le_refl _), Nat.sub_self]; exact hk
  | succ k =>
    rw [if_neg (Nat.succ_ne_zero k), Nat.succ_sub_one]
    rw [List.getElem?_cons_succ] at hk
    have hl : k < wl.length := by
      rcases Nat.lt_or_ge k wl.length with h9 | h9
      · exact h9
      · rw [List.getElem?_eq_none h9] at hk; cases hk
    rw [List.getElem?_append_left hl]; exact hk
theorem rot_D {A : Nat → Prop} {x : Nat × va_E} {wl : va_W} (h : va_D A (wl ++ [x])) : va_D A (x :: wl) := by
  refine h.by (fun k => if k = 0 then wl.length else k - 1) (fun k q hk => ?_) (fun i j hi hj e => ?_)
  · cases k with
    | zero => rw [if_pos rfl, List.getElem?_append_right (Nat.le_refl _), Nat.sub_self]; exact hk
    | succ k =>
      rw [if_neg (Nat.succ_ne_zero k), Nat.succ_sub_one]
      rw [List.getElem?_cons_succ] at hk
      have hl : k < wl.length := by
        rcases Nat.lt_or_ge k wl.length with h9 | h9
        · exact h9
        · rw [List.getElem?_eq_none h9] at hk; cases hk
      rw [List.getElem?_append_left hl]; exact hk
  · rw [List.length_cons] at hi hj
    by_cases h1 : i = 0 <;> by_cases h2 : j = 0
    · omega
    · rw [if_pos h1, if_neg h2] at e; omega
    · rw [if_neg h1, if_pos h2] at e; omega
    · rw [if_neg h1, if_neg h2] at e; omega
theorem dro_P {D : va_G} {H : Heap} {x : Nat × va_E} {wl : va_W} (h : va_P D cl (x :: wl) H) : va_P D cl wl H := h.by (fun k => k + 1) (fun k q hk => by rw [List.getElem?_cons_succ]; exact hk)
theorem dro_D {A : Nat → Prop} {x : Nat × va_E} {wl : va_W} (h : va_D A (x :: wl)) : va_D A wl := h.by (fun k => k + 1) (fun k q hk => by rw [List.getElem?_cons_succ]; exact hk) (fun i j _ _ e => by omega)
/-- the callee's part of the world: some arrays, all of the class -/
def axI (I : List Nat) (N : Nat) (wl : va_W) : List Nat := I ++ (List.range wl.length).map (fun i => N + i)
theorem ax_C {X wl Y : va_W} {I : List Nat} {N : Nat} (hN : X.length = N) (hY : I.map (fun i => X[i]?) = Y.map some) (hI : ∀ i ∈ I, i < N) : (axI I N wl).map (fun i => (X ++ wl)[i]?) = (Y ++ wl).map some := by
  subst hN
  unfold axI
  rw [List.map_append, List.map_append]
  congr 1
  · rw [← hY]; exact List.map_congr_left (fun i hi => List.getElem?_append_left (hI i hi))
  · rw [List.map_map, ← full_C wl]
    refine List.map_congr_left (fun i _ => ?_)
    show (X ++ wl)[X.length + i]? = wl[i]?
    rw [List.getElem?_append_right (Nat.le_add_right _ _), Nat.add_sub_cancel_left]
theorem ax_n {wl : va_W} {I : List Nat} {N : Nat} (hn : I.Nodup) (hI : ∀ i ∈ I, i < N) : va_nd (axI I N wl) = true := by
  refine full_n _ ?_
  unfold axI
  rw [List.nodup_append]
  refine ⟨hn, ?_, fun a ha b hb e => ?_⟩
  · exact List.Pairwise.map _ (fun a b h e => h (by omega)) List.nodup_range
  · obtain ⟨i, -, rfl⟩ := List.mem_map.mp hb
    have := hI a ha
    omega
theorem ax_R {X wl Z : va_W} {J : List Nat} {N : Nat} (hN : X.length = N) (hZ : J.map (fun i => X[i]?) = Z.map some) (hJ : ∀ i ∈ J, i < N) : J.map (fun i => (X ++ wl)[i]?) = Z.map some := by
  subst hN
  rw [← hZ]; exact List.map_congr_left (fun i hi => List.getElem?_append_left (hJ i hi))
theorem ax_d {wl : va_W} {I J : List Nat} {N : Nat} (hJ : ∀ i ∈ J, i < N) (hd : ∀ i ∈ J, i ∉ I) : ∀ i ∈ J, i ∉ axI I N wl := fun i hi h => by
  rcases List.mem_append.mp h with h | h
  · exact hd i hi h
  · obtain ⟨j, -, e⟩ := List.mem_map.mp h
    have := hJ i hi
    omega
section GX
variable {p : Program} {l : Launch} {e : Env} {R : Room} {s : State} {m : MethodId} {args : Array Value} {below : List Frame} {meth : Method} {c : Code} {H : Heap} {locs : List Loc} {cells slots : Nat} {Q : State → Prop}
variable {D : va_G} {wl : va_W} {A : Nat → Prop} {pc : Nat} {ls : Array Slot} {rest st : List Value} {mc ms : Nat} {av : Array Value} {w1 : (Nat → Nat) → va_W} {cc : ByteArray}
theorem gx_v (X Y Z : va_W) (I J : List Nat) (N : Nat) (hN : X.length = N) (hY : I.map (fun i => X[i]?) = Y.map some) (hZ : J.map (fun i => X[i]?) = Z.map some) (hI : ∀ i ∈ I, i < N) (hJ : ∀ i ∈ J, i < N) (hn : J.Nodup) (hd : ∀ i ∈ J, i ∉ I) (hr : va_Run p l e R s m args below meth c H locs cells slots mc ms (F0 m pc ls st) rest (CQv D w1 (va_A (Y ++ wl) H.size) av) (va_A (Y ++ wl) H.size)) (hP : va_P D cl (X ++ wl) H) (hD : va_D A (X ++ wl)) (hS : va_S A s.heap H locs) (hA : ∀ q, s.heap.size ≤ q → A q)
    (kk : ∀ (u : Nat → Nat) (H1 : Heap) (locs1 : List Loc), va_P D cl (Z ++ w1 u) H1 → va_D A (Z ++ w1 u) → va_S A s.heap H1 locs1 → W p l e R s m args below meth c H1 locs1 (cells + mc) (slots + ms) Q (F0 m (pc + 3) ls (rest))) : W p l e R s m args below meth c H locs cells slots Q (F0 m pc ls st) :=
  k_v hr hP hD hS hA (axI I N wl) J (ax_C hN hY hI) (ax_R hN hZ hJ) (full_n _ hn) (ax_d hJ hd) (fun _ => rfl) kk
theorem gx_i {r : Int32} (X Y Z : va_W) (I J : List Nat) (N : Nat) (hN : X.length = N) (hY : I.map (fun i => X[i]?) = Y.map some) (hZ : J.map (fun i => X[i]?) = Z.map some) (hI : ∀ i ∈ I, i < N) (hJ : ∀ i ∈ J, i < N) (hn : J.Nodup) (hd : ∀ i ∈ J, i ∉ I) (hr : va_Run p l e R s m args below meth c H locs cells slots mc ms (F0 m pc ls st) rest (CQi r D w1 (va_A (Y ++ wl) H.size) av) (va_A (Y ++ wl) H.size)) (hP : va_P D cl (X ++ wl) H) (hD : va_D A (X ++ wl)) (hS : va_S A s.heap H locs) (hA : ∀ q, s.heap.size ≤ q → A q)
    (kk : ∀ (u : Nat → Nat) (H1 : Heap) (locs1 : List Loc), va_P D cl (Z ++ w1 u) H1 → va_D A (Z ++ w1 u) → va_S A s.heap H1 locs1 → W p l e R s m args below meth c H1 locs1 (cells + mc) (slots + ms) Q (F0 m (pc + 3) ls (.int r :: rest))) : W p l e R s m args below meth c H locs cells slots Q (F0 m pc ls st) :=
  k_i hr hP hD hS hA (axI I N wl) J (ax_C hN hY hI) (ax_R hN hZ hJ) (full_n _ hn) (ax_d hJ hd) (fun _ => rfl) kk
theorem gx_l {r : Int64} (X Y Z : va_W) (I J : List Nat) (N : Nat) (hN : X.length = N) (hY : I.map (fun i => X[i]?) = Y.map some) (hZ : J.map (fun i => X[i]?) = Z.map some) (hI : ∀ i ∈ I, i < N) (hJ : ∀ i ∈ J, i < N) (hn : J.Nodup) (hd : ∀ i ∈ J, i ∉ I) (hr : va_Run p l e R s m args below meth c H locs cells slots mc ms (F0 m pc ls st) rest (CQl r D w1 (va_A (Y ++ wl) H.size) av) (va_A (Y ++ wl) H.size)) (hP : va_P D cl (X ++ wl) H) (hD : va_D A (X ++ wl)) (hS : va_S A s.heap H locs) (hA : ∀ q, s.heap.size ≤ q → A q)
    (kk : ∀ (u : Nat → Nat) (H1 : Heap) (locs1 : List Loc), va_P D cl (Z ++ w1 u) H1 → va_D A (Z ++ w1 u) → va_S A s.heap H1 locs1 → W p l e R s m args below meth c H1 locs1 (cells + mc) (slots + ms) Q (F0 m (pc + 3) ls (.long r :: rest))) : W p l e R s m args below meth c H locs cells slots Q (F0 m pc ls st) :=
  k_l hr hP hD hS hA (axI I N wl) J (ax_C hN hY hI) (ax_R hN hZ hJ) (full_n _ hn) (ax_d hJ hd) (fun _ => rfl) kk
theorem gx_q {r : (Nat → Nat) → Option Nat} (X Y Z : va_W) (I J : List Nat) (N : Nat) (hN : X.length = N) (hY : I.map (fun i => X[i]?) = Y.map some) (hZ : J.map (fun i => X[i]?) = Z.map some) (hI : ∀ i ∈ I, i < N) (hJ : ∀ i ∈ J, i < N) (hn : J.Nodup) (hd : ∀ i ∈ J, i ∉ I) (hr : va_Run p l e R s m args below meth c H locs cells slots mc ms (F0 m pc ls st) rest (CQq r D w1 (va_A (Y ++ wl) H.size) av) (va_A (Y ++ wl) H.size)) (hP : va_P D cl (X ++ wl) H) (hD : va_D A (X ++ wl)) (hS : va_S A s.heap H locs) (hA : ∀ q, s.heap.size ≤ q → A q)
    (kk : ∀ (u : Nat → Nat) (H1 : Heap) (locs1 : List Loc), va_P D cl (Z ++ w1 u) H1 → va_D A (Z ++ w1 u) → va_S A s.heap H1 locs1 → W p l e R s m args below meth c H1 locs1 (cells + mc) (slots + ms) Q (F0 m (pc + 3) ls (va_rf (r u) :: rest))) : W p l e R s m args below meth c H locs cells slots Q (F0 m pc ls st) :=
  k_q hr hP hD hS hA (axI I N wl) J (ax_C hN hY hI) (ax_R hN hZ hJ) (full_n _ hn) (ax_d hJ hd) (fun _ => rfl) kk
end GX
section LROWS
variable {p : Program} {l : Launch} {e : Env} {R : Room} {s : State} {m : MethodId} {args : Array Value} {below : List Frame} {meth : Method} {c : Code} {H : Heap} {locs : List Loc} {cells slots : Nat} {Q : State → Prop} {cc : ByteArray} {pc : Nat} {ls : Array Slot} {rest : List Value}
variable {D : va_G} {K : Nat → ClassId} {wl ws' : va_W} {A : Nat → Prop} {a : Nat}
theorem l_iald (hx : p.tables.exec = Jvm.exec) (hb : c.code = cc) (q0 : Nat) (hK : va_K D cl (tys K) s) (hP : va_P D cl wl H) {N : Nat} {i : Int} {f : Nat → Int} (ha : wl[q0]? = some (a, .inl (K 2, N, .inl (ci f)))) (h0 : 0 ≤ i) (h1 : i < (N : Int)) (hN : N < 2147483648) (hdg : decode cc pc = .ok (.iaload, 1)) (kk : W p l e R s m args below meth c H locs cells slots Q (F0 m (pc + 1) ls (.int (iI (f i.toNat)) :: rest))) : W p l e R s m args below meth c H locs cells slots Q (F0 m (pc) ls (.int (iI i) :: .ref a :: rest)) := by
  have e0 : iI i = nI i.toNat := by rw [nI_iI (by omega)]; congr 1; omega
  rw [e0]
  exact r_iald hx hb hK hP q0 2 ha rfl (k := i.toNat) (by omega) hN rfl hdg kk
theorem l_iast (hx : p.tables.exec = Jvm.exec) (hb : c.code = cc) (q0 : Nat) (hK : va_K D cl (tys K) s) (hP : va_P D cl wl H) (hD : va_D A wl) (hS : va_S A s.heap H locs) {N : Nat} {i z : Int} {f : Nat → Int} (ha : wl[q0]? = some (a, .inl (K 2, N, .inl (ci f)))) (h0 : 0 ≤ i) (h1 : i < (N : Int)) (hN : N < 2147483648) (hdg : decode cc pc = .ok (.iastore, 1)) (e1 : wl.set q0 (a, .inl (K 2, N, .inl (ci (va_up f i.toNat z)))) = ws') (kk : ∀ (H1 : Heap) (locs1 : List Loc), va_P D cl ws' H1 → va_D A ws' → va_S A s.heap H1 locs1 → W p l e R s m args below meth c H1 locs1 cells slots Q (F0 m (pc + 1) ls rest)) : W p l e R s m args below meth c H locs cells slots Q (F0 m (pc) ls (.int (iI z) :: .int (iI i) :: .ref a :: rest)) := by
  have e0 : iI i = nI i.toNat := by rw [nI_iI (by omega)]; congr 1; omega
  rw [e0]
  exact r_iast hx hb hK hP hD hS q0 2 ha rfl (k := i.toNat) (by omega) hN hdg (by rw [ci_up]; exact e1) kk
theorem l_zald (hx : p.tables.exec = Jvm.exec) (hb : c.code = cc) (q0 : Nat) (hK : va_K D cl (tys K) s) (hP : va_P D cl wl H) {N : Nat} {i : Int} {f : Nat → Int} (ha : wl[q0]? = some (a, .inl (K 1, N, .inl (ci f)))) (h0 : 0 ≤ i) (h1 : i < (N : Int)) (hN : N < 2147483648) (hdg : decode cc pc = .ok (.baload, 1)) (kk : W p l e R s m args below meth c H locs cells slots Q (F0 m (pc + 1) ls (.int (iI (f i.toNat)) :: rest))) : W p l e R s m args below meth c H locs cells slots Q (F0 m (pc) ls (.int (iI i) :: .ref a :: rest)) := by
  have e0 : iI i = nI i.toNat := by rw [nI_iI (by omega)]; congr 1; omega
  rw [e0]
  exact r_zald hx hb hK hP q0 1 ha rfl (k := i.toNat) (by omega) hN rfl hdg kk
theorem l_zast (hx : p.tables.exec = Jvm.exec) (hb : c.code = cc) (q0 : Nat) (hK : va_K D cl (tys K) s) (hP : va_P D cl wl H) (hD : va_D A wl) (hS : va_S A s.heap H locs) {N : Nat} {i z : Int} {f : Nat → Int} (ha : wl[q0]? = some (a, .inl (K 1, N, .inl (ci f)))) (h0 : 0 ≤ i) (h1 : i < (N : Int)) (hN : N < 2147483648) (hz : z = 0 ∨ z = 1) (hdg : decode cc pc = .ok (.bastore, 1)) (e1 : wl.set q0 (a, .inl (K 1, N, .inl (ci (va_up f i.toNat z)))) = ws') (kk : ∀ (H1 : Heap) (locs1 : List Loc), va_P D cl ws' H1 → va_D A ws' → va_S A s.heap H1 locs1 → W p l e R s m args below meth c H1 locs1 cells slots Q (F0 m (pc + 1) ls rest)) : W p l e R s m args below meth c H locs cells slots Q (F0 m (pc) ls (.int (iI z) :: .int (iI i) :: .ref a :: rest)) := by
  have e0 : iI i = nI i.toNat := by rw [nI_iI (by omega)]; congr 1; omega
  rw [e0]
  exact r_zast hx hb hK hP hD hS q0 1 ha rfl (k := i.toNat) (by omega) hN (b01 hz) hdg (by rw [ci_up]; exact e1) kk
theorem l_new2 (hx : p.tables.exec = Jvm.exec) (hb : c.code = cc) (hts : ∀ w ∈ lw_gw, w.before args s = true) (harr : Cond.arrayClass .int ∈ lw_gw) (hK : va_K D cl (tys K) s) (hP : va_P D cl wl H) (hD : va_D A wl) (hS : va_S A s.heap H locs) (hA : ∀ q, s.heap.size ≤ q → A q) {i : Int} (h0 : 0 ≤ i) (h1 : i < 1000) (hcells : cells + 1 ≤ R.cells) (hslots : slots + i.toNat ≤ R.slots) (hdg : decode cc pc = .ok (.newarray .int, 2))
    (kk : ∀ (q : Nat) (H1 : Heap), va_P D cl ((q, .inl (K 2, i.toNat, .inl (ci (fun _ => 0)))) :: wl) H1 → va_D A ((q, .inl (K 2, i.toNat, .inl (ci (fun _ => 0)))) :: wl) → va_S A s.heap H1 locs → W p l e R s m args below meth c H1 locs (cells + 1) (slots + i.toNat) Q (F0 m (pc + 2) ls (.ref q :: rest))) : W p l e R s m args below meth c H locs cells slots Q (F0 m (pc) ls (.int (iI i) :: rest)) := by
  refine r_newa (atype := .int) hx hb hts harr rfl hK hP hD hS hA 2 rfl (N := i.toNat) (a0 := (i.toNat, .inl (fun _ => nI 0))) (fun _ => rfl) (fun h => absurd ((iI_lt0 ⟨by omega, by omega⟩).mp h) (by omega)) (iI_clamp h0 (by omega)) (by show i.toNat * 4 ≤ 536870912; omega) hcells hslots hdg (w2 := fun q => wl ++ [(q, .inl (K 2, i.toNat, .inl (fun _ => nI 0)))]) (fun _ => rfl) (fun q H1 hP1 hD1 hS1 => ?_)
  rw [ci_0] at hP1 hD1
  exact kk q H1 (rot_P hP1) (rot_D hD1) hS1
theorem l_new1 (hx : p.tables.exec = Jvm.exec) (hb : c.code = cc) (hts : ∀ w ∈ lw_gw, w.before args s = true) (harr : Cond.arrayClass .boolean ∈ lw_gw) (hK : va_K D cl (tys K) s) (hP : va_P D cl wl H) (hD : va_D A wl) (hS : va_S A s.heap H locs) (hA : ∀ q, s.heap.size ≤ q → A q) {i : Int} (h0 : 0 ≤ i) (h1 : i < 1000) (hcells : cells + 1 ≤ R.cells) (hslots : slots + i.toNat ≤ R.slots) (hdg : decode cc pc = .ok (.newarray .boolean, 2))
    (kk : ∀ (q : Nat) (H1 : Heap), va_P D cl ((q, .inl (K 1, i.toNat, .inl (ci (fun _ => 0)))) :: wl) H1 → va_D A ((q, .inl (K 1, i.toNat, .inl (ci (fun _ => 0)))) :: wl) → va_S A s.heap H1 locs → W p l e R s m args below meth c H1 locs (cells + 1) (slots + i.toNat) Q (F0 m (pc + 2) ls (.ref q :: rest))) : W p l e R s m args below meth c H locs cells slots Q (F0 m (pc) ls (.int (iI i) :: rest)) := by
  refine r_newa (atype := .boolean) hx hb hts harr rfl hK hP hD hS hA 1 rfl (N := i.toNat) (a0 := (i.toNat, .inl (fun _ => nI 0))) (fun _ => rfl) (fun h => absurd ((iI_lt0 ⟨by omega, by omega⟩).mp h) (by omega)) (iI_clamp h0 (by omega)) (by show i.toNat * 1 ≤ 536870912; omega) hcells hslots hdg (w2 := fun q => wl ++ [(q, .inl (K 1, i.toNat, .inl (fun _ => nI 0)))]) (fun _ => rfl) (fun q H1 hP1 hD1 hS1 => ?_)
  rw [ci_0] at hP1 hD1
  exact kk q H1 (rot_P hP1) (rot_D hD1) hS1
end LROWS
abbrev CXw (cls : String) (D : va_G) (w : va_W) (A : Nat → Prop) : String → State → State → Prop := vx_X (fun _ : Unit => True) (fun E _ t => E = cls ∧ va_P D cl w t.heap ∧ va_D A w) A
abbrev CMXw (l : Launch) (y : MethodName) (bytes : ByteArray) (maxL : Nat) (ret : Option FieldType) (rm : Room) (G : Nat → Nat) (D : va_G) (K : Nat → ClassId) (av : List Value) (wc : va_W) (sz : Nat) (cls : String) : Prop :=
  vx_Met l y (.code y bytes maxL ret :: lw_gw) rm (va_Pc av (cPre G D K wc sz)) (CQ0 (va_A wc sz)) (CXw cls D wc (va_A wc sz)) rm.cells rm.slots (va_A wc sz)
theorem CMXw_of {l : Launch} {y : MethodName} {bytes : ByteArray} {maxL : Nat} {ret : Option FieldType} {rm : Room} {G : Nat → Nat} {D : va_G} {K : Nat → ClassId} {av : List Value} {wc : va_W} {sz : Nat} {cls : String} {lv0 : List (Nat × Value)} (hy : plainName y.cls = true) (hlen : (lg_sl av).length ≤ maxL) (hlv : lv_args 0 av = lv0)
    (body : ∀ (p : Program) (e : Env) (s : State) (m : MethodId) (args : Array Value) (below : List Frame) (meth : Method) (c : Code) (A : Nat → Prop) (ls : Array Slot), p.tables.exec = Jvm.exec → c.code = bytes → (∀ x ∈ c.exceptionTable.toList, False) → c.maxLocals = maxL → s.vm.findClass y.cls = some m.cls → (∀ w ∈ lw_gw, w.before args s = true) → meth.locks = false → meth.name = y.name →
      va_P D cl wc s.heap → va_K D cl (tys K) s → va_D A wc → va_S A s.heap s.heap [] → (∀ q : Nat, s.heap.size ≤ q → A q) → Amb G A s s.heap → lv_has ls maxL lv0 → W p l e rm s m args below meth c s.heap [] 0 0 (vx_MQ below (CQ0 A) (CXw cls D wc A) args s rm.cells rm.slots A) (F0 m 0 ls [])) : CMXw l y bytes maxL ret rm G D K av wc sz cls := by
  refine vx_ofW (cc := bytes) (maxL := maxL) (ret := ret) hy rfl ?_
  intro p e s m args below meth c s₁ B hml ht hv
  obtain ⟨rfl, hsz, hP, hK, hD0, hm⟩ := hv
  have hts := atoms_spec (ws := .code y bytes maxL ret :: lw_gw) B.pre
  subst hsz
  have hl := lv_entry av (n := maxL) hlen
  rw [hlv] at hl
  rw [lg_entry_eq]
  exact body p e s m _ below meth c _ _ B.exec B.bytes ht hml (findClass_of_methodNamed B.named) (fun w hw => hts w (List.mem_cons_of_mem _ hw)) B.notSynchronized (name_of_methodNamed B.named B.method).1 hP hK hD0.self va_S.rf (fun q h => Or.inr h) hm hl
theorem va_P.lt {D : va_G} {ws : va_W} {H : Heap} (h : va_P D cl ws H) {k : Nat} {q : Nat × va_E} (hk : ws[k]? = some q) : q.1 < H.size := by
  have h1 := h k q hk
  rcases q with ⟨a, x | x⟩
  · exact (Array.getElem?_eq_some_iff.mp h1).1
  · obtain ⟨_, -, cell, h2, -⟩ := h1
    exact (Array.getElem?_eq_some_iff.mp h2).1
section LX
variable {p : Program} {l : Launch} {e : Env} {R : Room} {s : State} {m : MethodId} {args : Array Value} {below : List Frame} {meth : Method} {c : Code} {H : Heap} {locs : List Loc} {cells slots : Nat} {Q : State → Prop}
variable {G : Nat → Nat} {D : va_G} {K : Nat → ClassId} {wl wc wr ws' : va_W} {A : Nat → Prop} {cc : ByteArray} {pc : Nat} {ls : Array Slot} {rest st : List Value} {a : Nat}
variable {y : MethodName} {bytes : ByteArray} {maxL nL index n : Nat} {ret : Option FieldType} {rm : Room} {QQ : (Nat → Prop) → QSpec} {own cls : String} {b : Nat} {As : List Value}
theorem x_throwK (hx : p.tables.exec = Jvm.exec) (hb : c.code = cc) (hl0 : l.stackTraces = false) {own cls text : String} {names : List String} {ik is ic mc ms nL : Nat} (htab : ∀ x ∈ c.exceptionTable.toList, False) (hml : c.maxLocals = nL) (hown : s.vm.findClass own = some m.cls) (hts : ∀ w ∈ lw_gw, w.before args s = true) (hlk : meth.locks = false) (hP : va_P D cl wl H) (hD : va_D A wl) (hS : va_S A s.heap H locs) (hm : Amb G A s s.heap) (hls : ls.size = nL) (hcls : Bundle.fit cls = true) (hnames : ∀ n ∈ names, Bundle.fit n = true) (hk : Cond.classLink own ik cls ∈ lw_gw) (hini : Cond.initialized cls ∈ lw_gw) (hstr : (own, is, text) ∈ lw_strs) (hat : ∀ w ∈ vx_atS own ic cls names, w ∈ lw_gw ∨ w ∈ lw_aw)
    (d0 : decode cc pc = .ok (.new ik, 3)) (d3 : decode cc (pc + 3) = .ok (.dup, 1)) (d4 : decode cc (pc + 4) = .ok (.ldc is, 2)) (d6 : decode cc (pc + 6) = .ok (.invokespecial ic, 3)) (d9 : decode cc (pc + 9) = .ok (.athrow, 1)) (hf : names.length + 3 < R.frames) (hlo : (rest.map fun v => v.category).sum + (13 * (names.length + 1) + 43) ≤ R.locals) (hc : cells + 1 ≤ R.cells) (hs : slots + 6 ≤ R.slots) (h1 : cells + 1 ≤ mc) (h2 : slots + 6 ≤ ms) :
    W p l e R s m args below meth c H locs cells slots (vx_MQ below (CQ0 A) (CXw cls D wl A) args s mc ms A) (F0 m pc ls rest) := by
  obtain ⟨sa, hsa⟩ := hm.2.1 _ hstr
  refine vx_throwS hx hb hl0 hown hcls hnames (hts _ hk) (hts _ hini) hsa (fun w hw => amb_bef hts hm (hat w hw)) ?_ hm.2.2.2.1 hm.2.2.2.2 hS (by rw [hml]; exact hls) d0 d3 d4 d6 d9 (fun x hx9 => (htab x hx9).elim) hf hlo hc hs hlk ?_ hS.2.2 h1 h2
  · intro w hw
    rcases List.mem_cons.mp hw with rfl | hw
    · rfl
    rcases List.mem_cons.mp hw with rfl | hw
    · rfl
    exact amb_ot (hat w hw)
  · intro t _ hz hq
    exact ⟨(), trivial, ⟨rfl, hP.kept (fun k q hk => hq _ (va_P.lt hP hk)), hD⟩, Nat.le_trans hS.1 hz, fun q h3 h4 => (hq q (Nat.lt_of_lt_of_le h3 hS.1)).trans (hS.2.1 q h3 h4)⟩
theorem x_throwKW (hx : p.tables.exec = Jvm.exec) (hb : c.code = cc) (hl0 : l.stackTraces = false) {own cls text : String} {names : List String} {ik is ic mc ms nL : Nat} (htab : ∀ x ∈ c.exceptionTable.toList, False) (hml : c.maxLocals = nL) (hown : s.vm.findClass own = some m.cls) (hts : ∀ w ∈ lw_gw, w.before args s = true) (hlk : meth.locks = false) (hP : va_P D cl wl H) (hD : va_D A wl) (hS : va_S A s.heap H locs) (hm : Amb G A s s.heap) (hls : ls.size = nL) (hcls : Bundle.fit cls = true) (hnames : ∀ n ∈ names, Bundle.fit n = true) (hk : Cond.classLink own ik cls ∈ lw_gw) (hini : Cond.initialized cls ∈ lw_gw) (hstr : (own, is, text) ∈ lw_strs) (hat : ∀ w ∈ vx_atS own ic cls names, w ∈ lw_gw ∨ w ∈ lw_aw)
    (d0 : decode cc pc = .ok (.new ik, 3)) (d3 : decode cc (pc + 3) = .ok (.dup, 1)) (d4 : decode cc (pc + 4) = .ok (.ldc_w is, 3)) (d7 : decode cc (pc + 7) = .ok (.invokespecial ic, 3)) (d10 : decode cc (pc + 10) = .ok (.athrow, 1)) (hf : names.length + 3 < R.frames) (hlo : (rest.map fun v => v.category).sum + (13 * (names.length + 1) + 43) ≤ R.locals) (hc : cells + 1 ≤ R.cells) (hs : slots + 6 ≤ R.slots) (h1 : cells + 1 ≤ mc) (h2 : slots + 6 ≤ ms) :
    W p l e R s m args below meth c H locs cells slots (vx_MQ below (CQ0 A) (CXw cls D wl A) args s mc ms A) (F0 m pc ls rest) := by
  obtain ⟨sa, hsa⟩ := hm.2.1 _ hstr
  refine vx_throwSW hx hb hl0 hown hcls hnames (hts _ hk) (hts _ hini) hsa (fun w hw => amb_bef hts hm (hat w hw)) ?_ hm.2.2.2.1 hm.2.2.2.2 hS (by rw [hml]; exact hls) d0 d3 d4 d7 d10 (fun x hx9 => (htab x hx9).elim) hf hlo hc hs hlk ?_ hS.2.2 h1 h2
  · intro w hw
    rcases List.mem_cons.mp hw with rfl | hw
    · rfl
    rcases List.mem_cons.mp hw with rfl | hw
    · rfl
    exact amb_ot (hat w hw)
  · intro t _ hz hq
    exact ⟨(), trivial, ⟨rfl, hP.kept (fun k q hk => hq _ (va_P.lt hP hk)), hD⟩, Nat.le_trans hS.1 hz, fun q h3 h4 => (hq q (Nat.lt_of_lt_of_le h3 hS.1)).trans (hS.2.1 q h3 h4)⟩
theorem xun_Vw (hx : p.tables.exec = Jvm.exec) (hb : c.code = cc) (hml : c.maxLocals = nL) (hown : s.vm.findClass own = some m.cls) (hts : ∀ w ∈ lw_gw, w.before args s = true) (hK : va_K D cl (tys K) s) (hP : va_P D cl wl H) (hD : va_D A wl) (hS : va_S A s.heap H locs) (hA : ∀ q, s.heap.size ≤ q → A q) (hm : Amb G A s s.heap)
    (hM : CMXw l y bytes maxL ret rm G D K (.ref b :: As) wc H.size cls) (isC : List Nat) (hC : isC.map (fun i => wl[i]?) = wc.map some) (hn : va_nd isC = true) (ok : MOK y bytes maxL ret n) (h1 : Cond.methodLink own index y ∈ lw_gw) (h2 : Cond.instanceMethod y ∈ lw_gw) (h3 : Cond.selects y.cls y y ∈ lw_gw) (hrc : ∃ cell : Cell, H[b]? = some cell ∧ cell.vm.isStatics = false ∧ s.vm.findClass y.cls = some cell.cls)
    (hR : rm.frames + 1 ≤ R.frames ∧ 8 + (maxL + 11) + rm.locals ≤ R.locals) (hlen : As.length = n) (hls : ls.size = nL) (hst : st = As.reverse ++ .ref b :: rest) (hW : (rest.map fun v => v.category).sum ≤ 8) (hdg : decode cc pc = .ok (.invokevirtual index, 3)) (hf : cells + rm.cells ≤ R.cells ∧ slots + rm.slots ≤ R.slots) :
    vx_Run p l e R s m args below meth c H locs cells slots rm.cells rm.slots (F0 m pc ls st) rest (CQ0 (va_A wc H.size) (Value.ref b :: As).toArray) (CXw cls D wc (va_A wc H.size)) (va_A wc H.size) :=
  vx_runV (Ts := lw_gw) ⟨hx, hb, hml, hown, hts⟩ hM (cwV n hts (gi_app (fun _ h => h) (ms_c h1 (ms_c h2 (ms_c h3 (ms_c ok.2.1 ms_0)))) ok.1) rfl rfl rfl ⟨rfl, ok.2.2⟩ hR) ⟨cPre.blind, hrc, fun U hU hWu => ⟨rfl, cPre.of hK hP hD hS hA hm isC hC hn hU hWu⟩⟩ rfl hlen hls hst (lv_room hW) hdg hf
theorem xun_Sw (hx : p.tables.exec = Jvm.exec) (hb : c.code = cc) (hml : c.maxLocals = nL) (hown : s.vm.findClass own = some m.cls) (hts : ∀ w ∈ lw_gw, w.before args s = true) (hK : va_K D cl (tys K) s) (hP : va_P D cl wl H) (hD : va_D A wl) (hS : va_S A s.heap H locs) (hA : ∀ q, s.heap.size ≤ q → A q) (hm : Amb G A s s.heap)
    (hM : CMXw l y bytes maxL ret rm G D K As wc H.size cls) (isC : List Nat) (hC : isC.map (fun i => wl[i]?) = wc.map some) (hn : va_nd isC = true) (ok : MOK y bytes maxL ret n) (h1 : Cond.methodLink own index y ∈ lw_gw) (h2 : Cond.static y ∈ lw_gw)
    (hR : rm.frames + 1 ≤ R.frames ∧ 8 + (maxL + 11) + rm.locals ≤ R.locals) (hlen : As.length = n) (hls : ls.size = nL) (hst : st = As.reverse ++ rest) (hW : (rest.map fun v => v.category).sum ≤ 8) (hdg : decode cc pc = .ok (.invokestatic index, 3)) (hf : cells + rm.cells ≤ R.cells ∧ slots + rm.slots ≤ R.slots) :
    vx_Run p l e R s m args below meth c H locs cells slots rm.cells rm.slots (F0 m pc ls st) rest (CQ0 (va_A wc H.size) As.toArray) (CXw cls D wc (va_A wc H.size)) (va_A wc H.size) :=
  vx_runS (Ts := lw_gw) ⟨hx, hb, hml, hown, hts⟩ hM (va_cwS n hts (gi_app (fun _ h => h) (ms_c h1 (ms_c h2 (ms_c ok.2.1 ms_0))) ok.1) rfl rfl rfl ok.2.2 hR) ⟨cPre.blind, fun U hU hWu => ⟨rfl, cPre.of hK hP hD hS hA hm isC hC hn hU hWu⟩⟩ rfl hlen hls hst (lv_room hW) hdg hf
theorem k_xw {mc ms MC MS : Nat} {av : Array Value} (hr : vx_Run p l e R s m args below meth c H locs cells slots mc ms (F0 m pc ls st) rest (CQ0 (va_A wl H.size) av) (CXw cls D wl (va_A wl H.size)) (va_A wl H.size)) (htab : ∀ x ∈ c.exceptionTable.toList, False) (hlk : meth.locks = false) (hD : va_D A wl) (hS : va_S A s.heap H locs) (hA : ∀ q, s.heap.size ≤ q → A q) (isC : List Nat) (hC : isC.map (fun i => wl[i]?) = wl.map some) (h1 : cells + mc ≤ MC) (h2 : slots + ms ≤ MS) :
    W p l e R s m args below meth c H locs cells slots (vx_MQ below (CQ0 A) (CXw cls D wl A) args s MC MS A) (F0 m pc ls st) := by
  have hF := va_free hD hS hA isC hC
  refine vx_callv hr hS (fun q _ h => hF q h) hF (fun q _ h => hF q h) (fun E ce q9 u t H1 locs1 ht hvm hw hB hz1 hk1 hS1 hce hcv hcl => ?_) (fun u t H1 locs1 ht hvm hw hB hz1 hk1 hS1 => hw.elim)
  obtain ⟨rfl, hB1, hB2⟩ := hB
  subst ht
  exact vx_out (fun x hx9 => (htab x hx9).elim) hlk hce hcv hcl (fun t2 ht2 _ => ⟨(), trivial, ⟨rfl, by rw [ht2]; exact hB1, hD⟩, hS1.F ht2⟩) hS1.2.2 h1 h2
theorem k_catchw {mc ms : Nat} {av : Array Value} (pre : List ExceptionTableEntry) (x : ExceptionTableEntry) (suf : List ExceptionTableEntry) (hr : vx_Run p l e R s m args below meth c H locs cells slots mc ms (F0 m pc ls st) rest (CQ0 (va_A wc H.size) av) (CXw cls D wc (va_A wc H.size)) (va_A wc H.size)) (hown : s.vm.findClass own = some m.cls) (hts : ∀ w ∈ lw_gw, w.before args s = true) (hm : Amb G A s s.heap) (hP : va_P D cl wl H) (hD : va_D A wl) (hS : va_S A s.heap H locs) (hA : ∀ q, s.heap.size ≤ q → A q) (isC isR : List Nat) (hC : isC.map (fun i => wl[i]?) = wc.map some) (hR : isR.map (fun i => wl[i]?) = wr.map some) (hn : va_nd isR = true) (hdis : ∀ i ∈ isR, i ∉ isC)
    (hsplit : c.exceptionTable.toList = pre ++ x :: suf) (hpass : ∀ z ∈ pre, covers z pc = false ∨ (z.catchType ≠ 0 ∧ ∃ nm : String, (Cond.classLink own z.catchType nm).before args s = true ∧ va_Nc cls nm s)) (hx : covers x pc = true) (h0 : x.catchType ≠ 0) (hlink : Cond.classLink own x.catchType cls ∈ lw_gw) (hcast : Cond.castable cls cls ∈ lw_aw)
    (kk : ∀ (q : Nat) (H1 : Heap) (locs1 : List Loc), va_P D cl (wr ++ wc) H1 → va_D A (wr ++ wc) → va_S A s.heap H1 locs1 → W p l e R s m args below meth c H1 locs1 (cells + mc) (slots + ms) Q (F0 m x.handlerPc ls [.ref q])) : W p l e R s m args below meth c H locs cells slots Q (F0 m pc ls st) := by
  have hF := va_free hD hS hA isC hC
  refine vx_callv hr hS (fun q _ h => hF q h) hF (fun q _ h => hF q h) (fun E ce q9 u t H1 locs1 ht hvm hw hB hz1 hk1 hS1 hce hcv hcl => ?_) (fun u t H1 locs1 ht hvm hw hB hz1 hk1 hS1 => hw.elim)
  obtain ⟨rfl, hB1, hB2⟩ := hB
  rw [ht] at hB1
  obtain ⟨h1, h2⟩ := va_join hP hD isC isR hC hR hn hdis hk1 hF hB1 hB2
  exact vx_catch hown pre x suf hsplit hpass hx h0 (hts _ hlink) ((hm.1 _ hcast).use rfl) hce hcv hcl (kk q9 H1 locs1 h1 h2 hS1)
end LX
def MOKH (y : MethodName) (bytes : ByteArray) (maxL : Nat) (ret : Option FieldType) (hh : List (Nat × Nat × Nat × Nat)) (n : Nat) : Prop := Cond.codeWith y bytes maxL ret hh ∈ lw_gw ∧ Cond.initialized y.cls ∈ lw_gw ∧ (y.cls ≠ "java/lang/invoke/MethodHandle" ∧ y.cls ≠ "java/lang/invoke/VarHandle" ∧ (parseMethodDescriptor y.desc).map (fun d => d.parameters.length) = some n)
abbrev CMH (l : Launch) (y : MethodName) (bytes : ByteArray) (maxL : Nat) (ret : Option FieldType) (hh : List (Nat × Nat × Nat × Nat)) (rm : Room) (G : Nat → Nat) (D : va_G) (K : Nat → ClassId) (av : List Value) (wc : va_W) (sz : Nat) (Q : (Nat → Prop) → QSpec) : Prop :=
  Met l y (.codeWith y bytes maxL ret hh :: lw_gw) rm (va_Pc av (cPre G D K wc sz)) (Q (va_A wc sz)) rm.cells rm.slots (va_A wc sz)
theorem Met_ofWH {l : Launch} {y : MethodName} {ws ws' : List Cond} {rm : Room} {Pc : Array Value → State → Prop} {Qc : Array Value → State → Outcome → State → Prop} {mc ms : Nat} {free : Addr → Prop} {cc : ByteArray} {maxL : Nat} {ret : Option FieldType} {hh : List (Nat × Nat × Nat × Nat)}
    (hy : plainName y.cls = true) (hw : ws = Cond.codeWith y cc maxL ret hh :: ws')
    (body : ∀ p e s m args below meth c s₁, BodyLoose p l y (headSpec ws rm) cc maxL ret e s m args below meth c s₁ → c.maxLocals = maxL → Pc args s →
      W p l e (headSpec ws rm).room s m args below meth c s.heap [] 0 0 (MQ below Qc args s mc ms free) (entryFrame m args maxL)) : Met l y ws rm Pc Qc mc ms free := by
  refine MetFree.of_bodyS (code := cc) (maxLocals := maxL) (ret := ret) hy ?_ ?_
  · intro args s m h hn
    obtain ⟨m9, meth, c, hn9, h1, h2, h3, h4, -, h5, h6, -⟩ := Cond.codeWith_spec (atoms_spec (ws := ws) h _ (by rw [hw]; exact List.mem_cons_self))
    cases hn.symm.trans hn9
    exact ⟨meth, c, h1, h2, h3, h4, h5, h6⟩
  · intro p e s m args below meth c s₁ B hml hP _
    have hh0 : s₁.heap = s.heap := by rw [B.state]; rfl
    obtain ⟨t, a1, o, b1, b2, b3⟩ := body p e s m args below meth c s₁ B hml hP s₁ hh0 (Stand.of_body B)
    exact ⟨t, o, a1, b1, b2, ⟨b3.1, b3.2⟩⟩
theorem CMH_of {l : Launch} {y : MethodName} {bytes : ByteArray} {maxL : Nat} {ret : Option FieldType} {hh : List (Nat × Nat × Nat × Nat)} {rm : Room} {G : Nat → Nat} {D : va_G} {K : Nat → ClassId} {av : List Value} {wc : va_W} {sz : Nat} {Q : (Nat → Prop) → QSpec} {lv0 : List (Nat × Value)} (hy : plainName y.cls = true) (hlen : (lg_sl av).length ≤ maxL) (hlv : lv_args 0 av = lv0)
    (body : ∀ (p : Program) (e : Env) (s : State) (m : MethodId) (args : Array Value) (below : List Frame) (meth : Method) (c : Code) (A : Nat → Prop) (ls : Array Slot), p.tables.exec = Jvm.exec → c.code = bytes → meth.sig.returnType = ret → c.exceptionTable.toList = tableOf hh → c.maxLocals = maxL → s.vm.findClass y.cls = some m.cls → (∀ w ∈ lw_gw, w.before args s = true) → meth.locks = false → meth.name = y.name →
      va_P D cl wc s.heap → va_K D cl (tys K) s → va_D A wc → va_S A s.heap s.heap [] → (∀ q : Nat, s.heap.size ≤ q → A q) → Amb G A s s.heap → lv_has ls maxL lv0 → W p l e rm s m args below meth c s.heap [] 0 0 (MQ below (Q A) args s rm.cells rm.slots A) (F0 m 0 ls [])) : CMH l y bytes maxL ret hh rm G D K av wc sz Q := by
  refine Met_ofWH (cc := bytes) (maxL := maxL) (ret := ret) (hh := hh) hy rfl ?_
  intro p e s m args below meth c s₁ B hml hv
  obtain ⟨rfl, hsz, hP, hK, hD0, hm⟩ := hv
  have hts := atoms_spec (ws := .codeWith y bytes maxL ret hh :: lw_gw) B.pre
  have htab := vx_table (x := y) B (hts _ List.mem_cons_self)
  subst hsz
  have hl := lv_entry av (n := maxL) hlen
  rw [hlv] at hl
  rw [lg_entry_eq]
  exact body p e s m _ below meth c _ _ B.exec B.bytes B.returns htab hml (findClass_of_methodNamed B.named) (fun w hw => hts w (List.mem_cons_of_mem _ hw)) B.notSynchronized (name_of_methodNamed B.named B.method).1 hP hK hD0.self va_S.rf (fun q h => Or.inr h) hm hl
theorem hp_0 {P : ExceptionTableEntry → Prop} : ∀ z ∈ ([] : List ExceptionTableEntry), P z := fun _ h => nomatch h
section LX2
variable {p : Program} {l : Launch} {e : Env} {R : Room} {s : State} {m : MethodId} {args : Array Value} {below : List Frame} {meth : Method} {c : Code} {H : Heap} {locs : List Loc} {cells slots : Nat} {Q : State → Prop}
variable {G : Nat → Nat} {D : va_G} {K : Nat → ClassId} {wl wc wr ws' : va_W} {A : Nat → Prop} {cc : ByteArray} {pc : Nat} {ls : Array Slot} {rest st : List Value} {a : Nat}
variable {y : MethodName} {bytes : ByteArray} {maxL nL index n : Nat} {ret : Option FieldType} {rm : Room} {QQ : (Nat → Prop) → QSpec} {own cls : String} {b : Nat} {As : List Value}
theorem run_SW {hh : List (Nat × Nat × Nat × Nat)} (hx : p.tables.exec = Jvm.exec) (hb : c.code = cc) (hml : c.maxLocals = nL) (hown : s.vm.findClass own = some m.cls) (hts : ∀ w ∈ lw_gw, w.before args s = true) (hK : va_K D cl (tys K) s) (hP : va_P D cl wl H) (hD : va_D A wl) (hS : va_S A s.heap H locs) (hA : ∀ q, s.heap.size ≤ q → A q) (hm : Amb G A s s.heap)
    (hM : CMH l y bytes maxL ret hh rm G D K As wc H.size QQ) (isC : List Nat) (hC : isC.map (fun i => wl[i]?) = wc.map some) (hn : va_nd isC = true) (ok : MOKH y bytes maxL ret hh n) (h1 : Cond.methodLink own index y ∈ lw_gw) (h2 : Cond.static y ∈ lw_gw)
    (hR : rm.frames + 1 ≤ R.frames ∧ 8 + (maxL + 11) + rm.locals ≤ R.locals) (hlen : As.length = n) (hls : ls.size = nL) (hst : st = As.reverse ++ rest) (hW : (rest.map fun v => v.category).sum ≤ 8) (hdg : decode cc pc = .ok (.invokestatic index, 3)) (hf : cells + rm.cells ≤ R.cells ∧ slots + rm.slots ≤ R.slots) :
    va_Run p l e R s m args below meth c H locs cells slots rm.cells rm.slots (F0 m pc ls st) rest (QQ (va_A wc H.size) As.toArray) (va_A wc H.size) :=
  vx_runSW (Ts := lw_gw) ⟨hx, hb, hml, hown, hts⟩ hM (vx_cwSW n hts (gi_app (fun _ h => h) (ms_c h1 (ms_c h2 (ms_c ok.2.1 ms_0))) ok.1) rfl rfl rfl ok.2.2 hR) ⟨cPre.blind, fun U hU hWu => ⟨rfl, cPre.of hK hP hD hS hA hm isC hC hn hU hWu⟩⟩ rfl hlen hls hst (lv_room hW) hdg hf
end LX2
