set_option maxHeartbeats 4000000 in
set_option maxRecDepth 100000 in
theorem LW224_none {p : Program} {e : Env} {s : State} {m : MethodId} {below : List Frame} {meth : Method} {c : Code} {l : Launch} {G : Nat → Nat} {D : va_G} {K : Nat → ClassId} {b : Nat} {xs : Nat → Int32} (hx : p.tables.exec = Jvm.exec) (hb : c.code = cL_law) (hr : meth.sig.returnType = some .boolean) (hlk : meth.locks = false) (hl0 : l.stackTraces = false) (hnc : Ncs s) (hml : c.maxLocals = 9) (hown : s.vm.findClass RL = some m.cls) (hts : ∀ w ∈ lw_gw, w.before #[Value.ref b] s = true) (hK : va_K D cl (tys K) s) (hm : Amb G (fun q : Nat => s.heap.size ≤ q) s s.heap) (hX : va_X b 4 xs s s.heap) (hbl : b < s.heap.size) {h0 h1 a0 a1 a2 a3 a4 a5 a6 a7 a8 a9 : Nat}  {H : Heap} {locs : List Loc} {cells slots : Nat} (hcs : cells ≤ 1000) (hss : slots ≤ 100000) (hP : va_P D cl [(h0, .inr (9, [.ref a0, .ref a1, .ref a2, .ref a3, .ref a4, .ref a5, .ref a6, .ref a7, .int (nI 0)])), (h1, .inr (12, [.int (nI 0), .ref a8]))] H) (hD : va_D (fun q : Nat => s.heap.size ≤ q) [(h0, .inr (9, [.ref a0, .ref a1, .ref a2, .ref a3, .ref a4, .ref a5, .ref a6, .ref a7, .int (nI 0)])), (h1, .inr (12, [.int (nI 0), .ref a8]))]) (hS : va_S (fun q : Nat => s.heap.size ≤ q) s.heap H locs) {ls : Array Slot} (hl : lv_has ls 9 [(0, .ref b), (1, .ref h0), (2, .ref h1), (3, .ref a9), (4, .int (nI 0))]) : W p l e room_1 s m #[Value.ref b] below meth c H locs cells slots (lw_Z below #[Value.ref b] s) (F0 m 1762 ls []) := by
  have hA : ∀ q : Nat, s.heap.size ≤ q → (fun q : Nat => s.heap.size ≤ q) q := fun _ h => h
  have hbA : ¬ (fun q : Nat => s.heap.size ≤ q) b := Nat.not_le.mpr hbl
  refine lv_iinc (v := nI 4) (lv' := [(4, .int (nI 4)), (0, .ref b), (1, .ref h0), (2, .ref h1), (3, .ref a9)]) hx hb dL_law_1762 hl (k := 4) rfl (by decide +kernel) (by decide) rfl (fun ls hl => ?_)
  refine lv_goto (tgt := 23) hx hb dL_law_1765 (by decide) ?_
  refine lv_iload hx hb dL_law_23 (lv_at hl 0 rfl) ?_
  refine lv_aload_n hx hb dL_law_25 rfl (lv_at hl 1 rfl) ?_
  refine va_slen hx hb hX hbl hbA hS dL_law_26 ?_
  refine w_toeq (show Int32.ofNat 4 = nI 4 from rfl) ?_
  refine lv_iconst (v := nI 4) hx hb dL_law_27 (by decide +kernel) ?_
  refine lv_isub hx hb dL_law_28 ?_
  refine w_toeq (show (nI 4) - (nI 4) = nI 0 by decide +kernel) ?_
  refine lv_icmp_gt (tgt := 1768) hx hb dL_law_29 (by decide) (fun _ => ?_) (fun c9 => absurd (by decide +kernel) c9)
  refine lv_iconst (v := nI 1) hx hb dL_law_1768 (by decide +kernel) ?_
  exact law_end hx hb hr hlk hS (by omega) (by omega) dL_law_1769
