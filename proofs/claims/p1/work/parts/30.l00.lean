/-! path contracts, written by wip/p1/sx.py -/
set_option maxHeartbeats 4000000 in
set_option maxRecDepth 100000 in
theorem LW0_push {p : Program} {e : Env} {s : State} {m : MethodId} {below : List Frame} {meth : Method} {c : Code} {l : Launch} {G : Nat → Nat} {D : va_G} {K : Nat → ClassId} {b : Nat} {xs : Nat → Int32} (hx : p.tables.exec = Jvm.exec) (hb : c.code = cL_law) (hr : meth.sig.returnType = some .boolean) (hlk : meth.locks = false) (hl0 : l.stackTraces = false) (hnc : Ncs s) (hml : c.maxLocals = 9) (hown : s.vm.findClass RL = some m.cls) (hts : ∀ w ∈ lw_gw, w.before #[Value.ref b] s = true) (hK : va_K D cl (tys K) s) (hm : Amb G (fun q : Nat => s.heap.size ≤ q) s s.heap) (hX : va_X b 4 xs s s.heap) (hbl : b < s.heap.size) {h0 h1 h2 h3 h4 h5 h6 a0 a1 a2 a3 a4 a5 a6 a7 a8 a9 a10 a11 a12 a13 a14 : Nat}  {H : Heap} {locs : List Loc} {cells slots : Nat} (hcs : cells ≤ 1000) (hss : slots ≤ 100000) (hP : va_P D cl [(h0, .inr (9, [.ref a0, .ref h1, .ref a1, .ref a2, .ref a3, .ref a4, .ref a5, .ref a6, .int (nI 0)])), (h1, .inr (4, [.ref a7, .ref a8, .ref a9, .int (nI 1)])), (h2, .inl (K 3, 1, .inr (.inl (fun _ => 0)))), (h3, .inr (12, [.int (nI 0), .ref h4])), (h4, .inr (10, [.ref a10, .ref h5, .ref a11, .ref a12, .ref a13, .int (nI 0), .int (nI 0), .int (nI 60), .int (nI 0), .int (nI 2), .int (nI 0), .int (nI 0), .int (nI 0), .int (nI 0), .int (nI 0), .int (nI 0), .int (nI 0)])), (h5, .inr (13, [.int (nI 1), .ref h6, .int (nI 1)])), (h6, .inl (K 4, 10, .inr (.inr (.inr (.inr (va_up (fun _ => none) 0 (some a14)))))))] H) (hD : va_D (fun q : Nat => s.heap.size ≤ q) [(h0, .inr (9, [.ref a0, .ref h1, .ref a1, .ref a2, .ref a3, .ref a4, .ref a5, .ref a6, .int (nI 0)])), (h1, .inr (4, [.ref a7, .ref a8, .ref a9, .int (nI 1)])), (h2, .inl (K 3, 1, .inr (.inl (fun _ => 0)))), (h3, .inr (12, [.int (nI 0), .ref h4])), (h4, .inr (10, [.ref a10, .ref h5, .ref a11, .ref a12, .ref a13, .int (nI 0), .int (nI 0), .int (nI 60), .int (nI 0), .int (nI 2), .int (nI 0), .int (nI 0), .int (nI 0), .int (nI 0), .int (nI 0), .int (nI 0), .int (nI 0)])), (h5, .inr (13, [.int (nI 1), .ref h6, .int (nI 1)])), (h6, .inl (K 4, 10, .inr (.inr (.inr (.inr (va_up (fun _ => none) 0 (some a14)))))))]) (hS : va_S (fun q : Nat => s.heap.size ≤ q) s.heap H locs) {ls : Array Slot} (hl : lv_has ls 9 [(0, .ref b), (1, .ref h0), (2, .ref h3), (3, .ref h2), (4, .int (nI 0))]) : W p l e room_1 s m #[Value.ref b] below meth c H locs cells slots (lw_Z below #[Value.ref b] s) (F0 m 168 ls []) := by
  have hA : ∀ q : Nat, s.heap.size ≤ q → (fun q : Nat => s.heap.size ≤ q) q := fun _ h => h
  have hbA : ¬ (fun q : Nat => s.heap.size ≤ q) b := Nat.not_le.mpr hbl
  refine lv_aload_n hx hb dL_law_168 rfl (lv_at hl 1 rfl) ?_
  refine lv_aload_n hx hb dL_law_169 rfl (lv_at hl 3 rfl) ?_
  refine k_i (wr := [(h3, .inr (12, [.int (nI 0), .ref h4])), (h4, .inr (10, [.ref a10, .ref h5, .ref a11, .ref a12, .ref a13, .int (nI 0), .int (nI 0), .int (nI 60), .int (nI 0), .int (nI 2), .int (nI 0), .int (nI 0), .int (nI 0), .int (nI 0), .int (nI 0), .int (nI 0), .int (nI 0)])), (h5, .inr (13, [.int (nI 1), .ref h6, .int (nI 1)])), (h6, .inl (K 4, 10, .inr (.inr (.inr (.inr (va_up (fun _ => none) 0 (some a14)))))))]) (run_SW hnc (rest := []) hx hb hml hown hts hK hP hD hS hA hm (C1056_push l G D K H.size h0 h1 h2 (.ref a0) (.ref a1) (.ref a2) (.ref a3) (.ref a4) (.ref a5) (.ref a6) (.int (nI 0)) (.ref a7) (.ref a8) (.ref a9) (fun _ => 0)) [0, 1, 2] rfl rfl mokh_yL_push w_742 w_743 ⟨Nat.le_of_ble_eq_true rfl, Nat.le_of_ble_eq_true rfl⟩ rfl hl.1 rfl (Nat.le_of_ble_eq_true rfl) dL_law_170 ⟨(by dsimp only [room_1]; omega), (by dsimp only [room_1]; omega)⟩) hP hD hS hA [0, 1, 2] [3, 4, 5, 6] rfl rfl rfl (by decide) (w2 := fun u0 => [(h3, .inr (12, [.int (nI 0), .ref h4])), (h4, .inr (10, [.ref a10, .ref h5, .ref a11, .ref a12, .ref a13, .int (nI 0), .int (nI 0), .int (nI 60), .int (nI 0), .int (nI 2), .int (nI 0), .int (nI 0), .int (nI 0), .int (nI 0), .int (nI 0), .int (nI 0), .int (nI 0)])), (h5, .inr (13, [.int (nI 1), .ref h6, .int (nI 1)])), (h6, .inl (K 4, 10, .inr (.inr (.inr (.inr (va_up (fun _ => none) 0 (some a14))))))), (h2, .inl (K 3, 1, .inr (.inl (vp_updL (fun _ => 0) 0 2)))), (h0, .inr (9, [.ref a0, .ref h1, .ref a1, .ref a2, .ref a3, .ref a4, .ref a5, .ref a6, .int (nI 0)])), (h1, .inr (4, [.ref a7, .ref a8, .ref a9, .int (nI 2)]))]) (fun _ => rfl) (fun u0 H locs hP hD hS => ?_)
  refine lv_istore (lv' := [(5, .int (nI 0)), (0, .ref b), (1, .ref h0), (2, .ref h3), (3, .ref h2), (4, .int (nI 0))]) hx hb dL_law_173 hl (by decide) rfl (fun ls hl => ?_)
  refine lv_aload_n hx hb dL_law_175 rfl (lv_at hl 3 rfl) ?_
  refine k_i (wr := [(h2, .inl (K 3, 1, .inr (.inl (vp_updL (fun _ => 0) 0 2)))), (h0, .inr (9, [.ref a0, .ref h1, .ref a1, .ref a2, .ref a3, .ref a4, .ref a5, .ref a6, .int (nI 0)])), (h1, .inr (4, [.ref a7, .ref a8, .ref a9, .int (nI 2)]))]) (run_V (rest := []) hx hb hml hown hts hK hP hD hS hA hm (C29_push l G D K H.size h3 h4 h5 h6 (.ref a10) (.ref a11) (.ref a12) (.ref a13) (.int (nI 0)) (.int (nI 0)) (.int (nI 60)) (.int (nI 0)) (.int (nI 2)) (.int (nI 0)) (.int (nI 0)) (.int (nI 0)) (.int (nI 0)) (.int (nI 0)) (.int (nI 0)) (.int (nI 0)) (va_up (fun _ => none) 0 (some a14))) [0, 1, 2, 3] rfl rfl mok_yX12_push w_1304 w_1305 w_1306 (rcv hK hP 0 rfl rfl rfl) ⟨Nat.le_of_ble_eq_true rfl, Nat.le_of_ble_eq_true rfl⟩ rfl hl.1 rfl (Nat.le_of_ble_eq_true rfl) dL_law_176 ⟨(by dsimp only [room_1]; omega), (by dsimp only [room_1]; omega)⟩) hP hD hS hA [0, 1, 2, 3] [4, 5, 6] rfl rfl rfl (by decide) (w2 := fun u1 => [(h2, .inl (K 3, 1, .inr (.inl (vp_updL (fun _ => 0) 0 2)))), (h0, .inr (9, [.ref a0, .ref h1, .ref a1, .ref a2, .ref a3, .ref a4, .ref a5, .ref a6, .int (nI 0)])), (h1, .inr (4, [.ref a7, .ref a8, .ref a9, .int (nI 2)])), (h4, .inr (10, [.ref a10, .ref h5, .ref a11, .ref a12, .ref a13, .int (nI 0), .int (nI 0), .int (nI 60), .int (nI 0), .int (nI 2), .int (nI 0), .int (nI 0), .int (nI 0), .int (nI 0), .int (nI 0), .int (nI 0), .int (nI 0)])), (h3, .inr (12, [.int (nI 0), .ref h4])), (h6, .inl (K 4, 10, .inr (.inr (.inr (.inr (va_up (va_up (fun _ => none) 0 (some a14)) 1 (some (u1 0)))))))), ((u1 0), .inl (K 2, 4, .inl (fun _ => (-1)))), (h5, .inr (13, [.int (nI 2), .ref h6, .int (nI 2)]))]) (fun _ => rfl) (fun u1 H locs hP hD hS => ?_)
  refine lv_istore (lv' := [(6, .int (nI 2)), (5, .int (nI 0)), (0, .ref b), (1, .ref h0), (2, .ref h3), (3, .ref h2), (4, .int (nI 0))]) hx hb dL_law_179 hl (by decide) rfl (fun ls hl => ?_)
  refine lv_aload_n hx hb dL_law_181 rfl (lv_at hl 4 rfl) ?_
  refine k_i (wr := [(h2, .inl (K 3, 1, .inr (.inl (vp_updL (fun _ => 0) 0 2)))), (h0, .inr (9, [.ref a0, .ref h1, .ref a1, .ref a2, .ref a3, .ref a4, .ref a5, .ref a6, .int (nI 0)])), (h1, .inr (4, [.ref a7, .ref a8, .ref a9, .int (nI 2)])), (h4, .inr (10, [.ref a10, .ref h5, .ref a11, .ref a12, .ref a13, .int (nI 0), .int (nI 0), .int (nI 60), .int (nI 0), .int (nI 2), .int (nI 0), .int (nI 0), .int (nI 0), .int (nI 0), .int (nI 0), .int (nI 0), .int (nI 0)])), (h6, .inl (K 4, 10, .inr (.inr (.inr (.inr (va_up (va_up (fun _ => none) 0 (some a14)) 1 (some (u1 0)))))))), ((u1 0), .inl (K 2, 4, .inl (fun _ => (-1)))), (h5, .inr (13, [.int (nI 2), .ref h6, .int (nI 2)]))]) (run_V (rest := []) hx hb hml hown hts hK hP hD hS hA hm (C1057_thrown l G D K H.size h3 (.ref h4)) [4] rfl rfl mok_yX12_thrown w_1300 w_1301 w_1302 (rcv hK hP 4 rfl rfl rfl) ⟨Nat.le_of_ble_eq_true rfl, Nat.le_of_ble_eq_true rfl⟩ rfl hl.1 rfl (Nat.le_of_ble_eq_true rfl) dL_law_182 ⟨(by dsimp only [room_1]; omega), (by dsimp only [room_1]; omega)⟩) hP hD hS hA [4] [0, 1, 2, 3, 5, 6, 7] rfl rfl rfl (by decide) (w2 := fun u2 => [(h2, .inl (K 3, 1, .inr (.inl (vp_updL (fun _ => 0) 0 2)))), (h0, .inr (9, [.ref a0, .ref h1, .ref a1, .ref a2, .ref a3, .ref a4, .ref a5, .ref a6, .int (nI 0)])), (h1, .inr (4, [.ref a7, .ref a8, .ref a9, .int (nI 2)])), (h4, .inr (10, [.ref a10, .ref h5, .ref a11, .ref a12, .ref a13, .int (nI 0), .int (nI 0), .int (nI 60), .int (nI 0), .int (nI 2), .int (nI 0), .int (nI 0), .int (nI 0), .int (nI 0), .int (nI 0), .int (nI 0), .int (nI 0)])), (h6, .inl (K 4, 10, .inr (.inr (.inr (.inr (va_up (va_up (fun _ => none) 0 (some a14)) 1 (some (u1 0)))))))), ((u1 0), .inl (K 2, 4, .inl (fun _ => (-1)))), (h5, .inr (13, [.int (nI 2), .ref h6, .int (nI 2)])), (h3, .inr (12, [.int (nI 0), .ref h4]))]) (fun _ => rfl) (fun u2 H locs hP hD hS => ?_)
  refine lv_iload hx hb dL_law_185 (lv_at hl 1 rfl) ?_
  refine lv_icmp_eq (tgt := 192) hx hb dL_law_187 (by decide) (fun _ => ?_) (fun c9 => absurd (by decide +kernel) c9)
  refine lv_iload hx hb dL_law_192 (lv_at hl 1 rfl) ?_
  refine lv_if_ne (tgt := 209) hx hb dL_law_194 (by decide) (fun c9 => absurd (by decide +kernel) c9) (fun _ => ?_)
  refine lv_aload_n hx hb dL_law_197 rfl (lv_at hl 5 rfl) ?_
  refine lv_iconst (v := nI 0) hx hb dL_law_198 (by decide +kernel) ?_
  refine r_lald (k := 0) hx hb hK hP 0 3 rfl rfl (Nat.le_of_ble_eq_true rfl) (by decide) (v := 2) rfl dL_law_199 ?_
  refine lv_iload hx hb dL_law_200 (lv_at hl 0 rfl) ?_
  refine lv_i2l (v := 2) hx hb dL_law_202 (by decide +kernel) ?_
  refine W.lcmp hx hb dL_law_203 ?_
  refine w_toeq (show lg_cmp 2 2 = nI 0 by decide +kernel) ?_
  refine lv_if_eq (tgt := 209) hx hb dL_law_204 (by decide) (fun _ => ?_) (fun c9 => absurd (by decide +kernel) c9)
  refine lv_goto (tgt := 1762) hx hb dL_law_209 (by decide) ?_
  refine lv_iinc (v := nI 4) (lv' := [(4, .int (nI 4)), (6, .int (nI 2)), (5, .int (nI 0)), (0, .ref b), (1, .ref h0), (2, .ref h3), (3, .ref h2)]) hx hb dL_law_1762 hl (k := 6) rfl (by decide +kernel) (by decide) rfl (fun ls hl => ?_)
  refine lv_goto (tgt := 23) hx hb dL_law_1765 (by decide) ?_
  refine lv_iload hx hb dL_law_23 (lv_at hl 0 rfl) ?_
  refine lv_aload_n hx hb dL_law_25 rfl (lv_at hl 3 rfl) ?_
  refine va_slen hx hb hX hbl hbA hS dL_law_26 ?_
  refine w_toeq (show Int32.ofNat 4 = nI 4 from rfl) ?_
  refine lv_iconst (v := nI 4) hx hb dL_law_27 (by decide +kernel) ?_
  refine lv_isub hx hb dL_law_28 ?_
  refine w_toeq (show (nI 4) - (nI 4) = nI 0 by decide +kernel) ?_
  refine lv_icmp_gt (tgt := 1768) hx hb dL_law_29 (by decide) (fun _ => ?_) (fun c9 => absurd (by decide +kernel) c9)
  refine lv_iconst (v := nI 1) hx hb dL_law_1768 (by decide +kernel) ?_
  exact law_end hx hb hr hlk hS (by dsimp only; omega) (by dsimp only; omega) dL_law_1769
set_option maxHeartbeats 4000000 in
set_option maxRecDepth 100000 in
theorem LW1_pop {p : Program} {e : Env} {s : State} {m : MethodId} {below : List Frame} {meth : Method} {c : Code} {l : Launch} {G : Nat → Nat} {D : va_G} {K : Nat → ClassId} {b : Nat} {xs : Nat → Int32} (hx : p.tables.exec = Jvm.exec) (hb : c.code = cL_law) (hr : meth.sig.returnType = some .boolean) (hlk : meth.locks = false) (hl0 : l.stackTraces = false) (hnc : Ncs s) (hml : c.maxLocals = 9) (hown : s.vm.findClass RL = some m.cls) (hts : ∀ w ∈ lw_gw, w.before #[Value.ref b] s = true) (hK : va_K D cl (tys K) s) (hm : Amb G (fun q : Nat => s.heap.size ≤ q) s s.heap) (hX : va_X b 4 xs s s.heap) (hbl : b < s.heap.size) {h0 h1 h2 h3 h4 a0 a1 a2 a3 a4 a5 a6 a7 a8 a9 a10 a11 a12 a13 a14 a15 : Nat}  {H : Heap} {locs : List Loc} {cells slots : Nat} (hcs : cells ≤ 1000) (hss : slots ≤ 100000) (hP : va_P D cl [(h0, .inr (9, [.ref a0, .ref h1, .ref a1, .ref a2, .ref a3, .ref a4, .ref a5, .ref a6, .int (nI 0)])), (h1, .inr (4, [.ref a7, .ref a8, .ref a9, .int (nI 1)])), (h2, .inr (12, [.int (nI 0), .ref h3])), (h3, .inr (10, [.ref a10, .ref h4, .ref a11, .ref a12, .ref a13, .int (nI 0), .int (nI 0), .int (nI 60), .int (nI 0), .int (nI 2), .int (nI 0), .int (nI 0), .int (nI 0), .int (nI 0), .int (nI 0), .int (nI 0), .int (nI 0)])), (h4, .inr (13, [.int (nI 1), .ref a14, .int (nI 1)]))] H) (hD : va_D (fun q : Nat => s.heap.size ≤ q) [(h0, .inr (9, [.ref a0, .ref h1, .ref a1, .ref a2, .ref a3, .ref a4, .ref a5, .ref a6, .int (nI 0)])), (h1, .inr (4, [.ref a7, .ref a8, .ref a9, .int (nI 1)])), (h2, .inr (12, [.int (nI 0), .ref h3])), (h3, .inr (10, [.ref a10, .ref h4, .ref a11, .ref a12, .ref a13, .int (nI 0), .int (nI 0), .int (nI 60), .int (nI 0), .int (nI 2), .int (nI 0), .int (nI 0), .int (nI 0), .int (nI 0), .int (nI 0), .int (nI 0), .int (nI 0)])), (h4, .inr (13, [.int (nI 1), .ref a14, .int (nI 1)]))]) (hS : va_S (fun q : Nat => s.heap.size ≤ q) s.heap H locs) {ls : Array Slot} (hl : lv_has ls 9 [(0, .ref b), (1, .ref h0), (2, .ref h2), (3, .ref a15), (4, .int (nI 0))]) : W p l e room_1 s m #[Value.ref b] below meth c H locs cells slots (lw_Z below #[Value.ref b] s) (F0 m 212 ls []) := by
  have hA : ∀ q : Nat, s.heap.size ≤ q → (fun q : Nat => s.heap.size ≤ q) q := fun _ h => h
  have hbA : ¬ (fun q : Nat => s.heap.size ≤ q) b := Nat.not_le.mpr hbl
  refine lv_aload_n hx hb dL_law_212 rfl (lv_at hl 1 rfl) ?_
  refine lv_aload_n hx hb dL_law_213 rfl (lv_at hl 3 rfl) ?_
  refine k_i (wr := [(h2, .inr (12, [.int (nI 0), .ref h3])), (h3, .inr (10, [.ref a10, .ref h4, .ref a11, .ref a12, .ref a13, .int (nI 0), .int (nI 0), .int (nI 60), .int (nI 0), .int (nI 2), .int (nI 0), .int (nI 0), .int (nI 0), .int (nI 0), .int (nI 0), .int (nI 0), .int (nI 0)])), (h4, .inr (13, [.int (nI 1), .ref a14, .int (nI 1)]))]) (run_SW hnc (rest := []) hx hb hml hown hts hK hP hD hS hA hm (C1058_pop l G D K hl0 H.size h0 h1 a15 (.ref a0) (.ref a1) (.ref a2) (.ref a3) (.ref a4) (.ref a5) (.ref a6) (.int (nI 0)) (.ref a7) (.ref a8) (.ref a9)) [0, 1] rfl rfl mokh_yL_pop w_770 w_771 ⟨Nat.le_of_ble_eq_true rfl, Nat.le_of_ble_eq_true rfl⟩ rfl hl.1 rfl (Nat.le_of_ble_eq_true rfl) dL_law_214 ⟨(by dsimp only [room_1]; omega), (by dsimp only [room_1]; omega)⟩) hP hD hS hA [0, 1] [2, 3, 4] rfl rfl rfl (by decide) (w2 := fun u0 => [(h2, .inr (12, [.int (nI 0), .ref h3])), (h3, .inr (10, [.ref a10, .ref h4, .ref a11, .ref a12, .ref a13, .int (nI 0), .int (nI 0), .int (nI 60), .int (nI 0), .int (nI 2), .int (nI 0), .int (nI 0), .int (nI 0), .int (nI 0), .int (nI 0), .int (nI 0), .int (nI 0)])), (h4, .inr (13, [.int (nI 1), .ref a14, .int (nI 1)]))]) (fun _ => rfl) (fun u0 H locs hP hD hS => ?_)
  refine lv_istore (lv' := [(5, .int (nI 1)), (0, .ref b), (1, .ref h0), (2, .ref h2), (3, .ref a15), (4, .int (nI 0))]) hx hb dL_law_217 hl (by decide) rfl (fun ls hl => ?_)
  refine lv_aload_n hx hb dL_law_219 rfl (lv_at hl 3 rfl) ?_
  refine k_i (wr := []) (run_V (rest := []) hx hb hml hown hts hK hP hD hS hA hm (C33_pop l G D K H.size h2 h3 h4 (.ref a10) (.ref a11) (.ref a12) (.ref a13) (.int (nI 0)) (.int (nI 0)) (.int (nI 60)) (.int (nI 0)) (.int (nI 2)) (.int (nI 0)) (.int (nI 0)) (.int (nI 0)) (.int (nI 0)) (.int (nI 0)) (.int (nI 0)) (.int (nI 0)) (.int (nI 1)) (.ref a14)) [0, 1, 2] rfl rfl mok_yX12_pop w_1322 w_1323 w_1324 (rcv hK hP 0 rfl rfl rfl) ⟨Nat.le_of_ble_eq_true rfl, Nat.le_of_ble_eq_true rfl⟩ rfl hl.1 rfl (Nat.le_of_ble_eq_true rfl) dL_law_220 ⟨(by dsimp only [room_1]; omega), (by dsimp only [room_1]; omega)⟩) hP hD hS hA [0, 1, 2] [] rfl rfl rfl (by decide) (w2 := fun u1 => [(h3, .inr (10, [.ref a10, .ref h4, .ref a11, .ref a12, .ref a13, .int (nI 0), .int (nI 0), .int (nI 60), .int (nI 0), .int (nI 2), .int (nI 0), .int (nI 0), .int (nI 0), .int (nI 0), .int (nI 0), .int (nI 0), .int (nI 0)])), (h4, .inr (13, [.int (nI 1), .ref a14, .int (nI 1)])), (h2, .inr (12, [.int (nI 1), .ref h3]))]) (fun _ => rfl) (fun u1 H locs hP hD hS => ?_)
  refine lv_istore (lv' := [(6, .int (nI 0)), (5, .int (nI 1)), (0, .ref b), (1, .ref h0), (2, .ref h2), (3, .ref a15), (4, .int (nI 0))]) hx hb dL_law_223 hl (by decide) rfl (fun ls hl => ?_)
  refine lv_aload_n hx hb dL_law_225 rfl (lv_at hl 4 rfl) ?_
  refine k_i (wr := [(h3, .inr (10, [.ref a10, .ref h4, .ref a11, .ref a12, .ref a13, .int (nI 0), .int (nI 0), .int (nI 60), .int (nI 0), .int (nI 2), .int (nI 0), .int (nI 0), .int (nI 0), .int (nI 0), .int (nI 0), .int (nI 0), .int (nI 0)])), (h4, .inr (13, [.int (nI 1), .ref a14, .int (nI 1)]))]) (run_V (rest := []) hx hb hml hown hts hK hP hD hS hA hm (C1059_thrown l G D K H.size h2 (.ref h3)) [2] rfl rfl mok_yX12_thrown w_1300 w_1301 w_1302 (rcv hK hP 2 rfl rfl rfl) ⟨Nat.le_of_ble_eq_true rfl, Nat.le_of_ble_eq_true rfl⟩ rfl hl.1 rfl (Nat.le_of_ble_eq_true rfl) dL_law_226 ⟨(by dsimp only [room_1]; omega), (by dsimp only [room_1]; omega)⟩) hP hD hS hA [2] [0, 1] rfl rfl rfl (by decide) (w2 := fun u2 => [(h3, .inr (10, [.ref a10, .ref h4, .ref a11, .ref a12, .ref a13, .int (nI 0), .int (nI 0), .int (nI 60), .int (nI 0), .int (nI 2), .int (nI 0), .int (nI 0), .int (nI 0), .int (nI 0), .int (nI 0), .int (nI 0), .int (nI 0)])), (h4, .inr (13, [.int (nI 1), .ref a14, .int (nI 1)])), (h2, .inr (12, [.int (nI 1), .ref h3]))]) (fun _ => rfl) (fun u2 H locs hP hD hS => ?_)
  refine lv_iload hx hb dL_law_229 (lv_at hl 1 rfl) ?_
  refine lv_icmp_eq (tgt := 236) hx hb dL_law_231 (by decide) (fun _ => ?_) (fun c9 => absurd (by decide +kernel) c9)
  refine lv_iload hx hb dL_law_236 (lv_at hl 1 rfl) ?_
  refine lv_if_ne (tgt := 253) hx hb dL_law_238 (by decide) (fun _ => ?_) (fun c9 => absurd c9 (by decide +kernel))
  refine lv_goto (tgt := 1762) hx hb dL_law_253 (by decide) ?_
  refine lv_iinc (v := nI 4) (lv' := [(4, .int (nI 4)), (6, .int (nI 0)), (5, .int (nI 1)), (0, .ref b), (1, .ref h0), (2, .ref h2), (3, .ref a15)]) hx hb dL_law_1762 hl (k := 6) rfl (by decide +kernel) (by decide) rfl (fun ls hl => ?_)
  refine lv_goto (tgt := 23) hx hb dL_law_1765 (by decide) ?_
  refine lv_iload hx hb dL_law_23 (lv_at hl 0 rfl) ?_
  refine lv_aload_n hx hb dL_law_25 rfl (lv_at hl 3 rfl) ?_
  refine va_slen hx hb hX hbl hbA hS dL_law_26 ?_
  refine w_toeq (show Int32.ofNat 4 = nI 4 from rfl) ?_
  refine lv_iconst (v := nI 4) hx hb dL_law_27 (by decide +kernel) ?_
  refine lv_isub hx hb dL_law_28 ?_
  refine w_toeq (show (nI 4) - (nI 4) = nI 0 by decide +kernel) ?_
  refine lv_icmp_gt (tgt := 1768) hx hb dL_law_29 (by decide) (fun _ => ?_) (fun c9 => absurd (by decide +kernel) c9)
  refine lv_iconst (v := nI 1) hx hb dL_law_1768 (by decide +kernel) ?_
  exact law_end hx hb hr hlk hS (by dsimp only; omega) (by dsimp only; omega) dL_law_1769
set_option maxHeartbeats 4000000 in
set_option maxRecDepth 100000 in
theorem LW2_make {p : Program} {e : Env} {s : State} {m : MethodId} {below : List Frame} {meth : Method} {c : Code} {l : Launch} {G : Nat → Nat} {D : va_G} {K : Nat → ClassId} {b : Nat} {xs : Nat → Int32} (hx : p.tables.exec = Jvm.exec) (hb : c.code = cL_law) (hr : meth.sig.returnType = some .boolean) (hlk : meth.locks = false) (hl0 : l.stackTraces = false) (hnc : Ncs s) (hml : c.maxLocals = 9) (hown : s.vm.findClass RL = some m.cls) (hts : ∀ w ∈ lw_gw, w.before #[Value.ref b] s = true) (hK : va_K D cl (tys K) s) (hm : Amb G (fun q : Nat => s.heap.size ≤ q) s s.heap) (hX : va_X b 4 xs s s.heap) (hbl : b < s.heap.size) {h0 h1 a0 a1 a2 a3 a4 a5 a6 a7 a8 a9 : Nat} (ya : Int32) (hya : ya < 0) (hx1 : xs 1 = ya) (yb : Int32) (hyb : yb < 0) (hx2 : xs 2 = yb) (yc : Int32) (hx3 : xs 3 = yc) {H : Heap} {locs : List Loc} {cells slots : Nat} (hcs : cells ≤ 1000) (hss : slots ≤ 100000) (hP : va_P D cl [(h0, .inr (9, [.ref a0, .ref a1, .ref a2, .ref a3, .ref a4, .ref a5, .ref a6, .ref a7, .int (nI 0)])), (h1, .inr (12, [.int (nI 0), .ref a8]))] H) (hD : va_D (fun q : Nat => s.heap.size ≤ q) [(h0, .inr (9, [.ref a0, .ref a1, .ref a2, .ref a3, .ref a4, .ref a5, .ref a6, .ref a7, .int (nI 0)])), (h1, .inr (12, [.int (nI 0), .ref a8]))]) (hS : va_S (fun q : Nat => s.heap.size ≤ q) s.heap H locs) {ls : Array Slot} (hl : lv_has ls 9 [(0, .ref b), (1, .ref h0), (2, .ref h1), (3, .ref a9), (4, .int (nI 0))]) : W p l e room_1 s m #[Value.ref b] below meth c H locs cells slots (lw_Z below #[Value.ref b] s) (F0 m 256 ls []) := by
  have hA : ∀ q : Nat, s.heap.size ≤ q → (fun q : Nat => s.heap.size ≤ q) q := fun _ h => h
  have hbA : ¬ (fun q : Nat => s.heap.size ≤ q) b := Nat.not_le.mpr hbl
  refine lv_aload_n hx hb dL_law_256 rfl (lv_at hl 1 rfl) ?_
  refine lv_aload_n hx hb dL_law_257 rfl (lv_at hl 0 rfl) ?_
  refine lv_iload hx hb dL_law_258 (lv_at hl 4 rfl) ?_
  refine lv_iconst (v := nI 1) hx hb dL_law_260 (by decide +kernel) ?_
  refine lv_iadd hx hb dL_law_261 ?_
  refine w_toeq (show (nI 0) + (nI 1) = nI 1 by decide +kernel) ?_
  refine va_sld hx hb hX hbl hbA hS (vp_in_nI (n := 1) (by decide) (by decide)) dL_law_262 ?_
  refine w_toeq (show xs (nI 1).toNatClampNeg = ya by rw [nI_clamp (n := 1) (by decide)]; exact hx1) ?_
  refine lv_aload_n hx hb dL_law_263 rfl (lv_at hl 0 rfl) ?_
  refine lv_iload hx hb dL_law_264 (lv_at hl 4 rfl) ?_
  refine lv_iconst (v := nI 2) hx hb dL_law_266 (by decide +kernel) ?_
  refine lv_iadd hx hb dL_law_267 ?_
  refine w_toeq (show (nI 0) + (nI 2) = nI 2 by decide +kernel) ?_
  refine va_sld hx hb hX hbl hbA hS (vp_in_nI (n := 2) (by decide) (by decide)) dL_law_268 ?_
  refine w_toeq (show xs (nI 2).toNatClampNeg = yb by rw [nI_clamp (n := 2) (by decide)]; exact hx2) ?_
  refine lv_aload_n hx hb dL_law_269 rfl (lv_at hl 0 rfl) ?_
  refine lv_iload hx hb dL_law_270 (lv_at hl 4 rfl) ?_
  refine lv_iconst (v := nI 3) hx hb dL_law_272 (by decide +kernel) ?_
  refine lv_iadd hx hb dL_law_273 ?_
  refine w_toeq (show (nI 0) + (nI 3) = nI 3 by decide +kernel) ?_
  refine va_sld hx hb hX hbl hbA hS (vp_in_nI (n := 3) (by decide) (by decide)) dL_law_274 ?_
  refine w_toeq (show xs (nI 3).toNatClampNeg = yc by rw [nI_clamp (n := 3) (by decide)]; exact hx3) ?_
  refine lv_aload_n hx hb dL_law_275 rfl (lv_at hl 3 rfl) ?_
  refine k_i (wr := [(h1, .inr (12, [.int (nI 0), .ref a8]))]) (run_SW hnc (rest := []) hx hb hml hown hts hK hP hD hS hA hm (C1060_make l G D K hl0 H.size h0 a9 (.ref a0) (.ref a1) (.ref a2) (.ref a3) (.ref a4) (.ref a5) (.ref a6) (.ref a7) (.int (nI 0)) ya hya yb hyb yc) [0] rfl rfl mokh_yL_make w_786 w_787 ⟨Nat.le_of_ble_eq_true rfl, Nat.le_of_ble_eq_true rfl⟩ rfl hl.1 rfl (Nat.le_of_ble_eq_true rfl) dL_law_276 ⟨(by dsimp only [room_1]; omega), (by dsimp only [room_1]; omega)⟩) hP hD hS hA [0] [1] rfl rfl rfl (by decide) (w2 := fun u0 => [(h1, .inr (12, [.int (nI 0), .ref a8])), (h0, .inr (9, [.ref a0, .ref a1, .ref a2, .ref a3, .ref a4, .ref a5, .ref a6, .ref a7, .int (nI 0)]))]) (fun _ => rfl) (fun u0 H locs hP hD hS => ?_)
  refine lv_istore (lv' := [(5, .int (nI 1)), (0, .ref b), (1, .ref h0), (2, .ref h1), (3, .ref a9), (4, .int (nI 0))]) hx hb dL_law_279 hl (by decide) rfl (fun ls hl => ?_)
  refine lv_aload_n hx hb dL_law_281 rfl (lv_at hl 3 rfl) ?_
  refine lv_aload_n hx hb dL_law_282 rfl (lv_at hl 1 rfl) ?_
  refine lv_iload hx hb dL_law_283 (lv_at hl 5 rfl) ?_
  refine lv_iconst (v := nI 1) hx hb dL_law_285 (by decide +kernel) ?_
  refine lv_iadd hx hb dL_law_286 ?_
  refine w_toeq (show (nI 0) + (nI 1) = nI 1 by decide +kernel) ?_
  refine va_sld hx hb hX hbl hbA hS (vp_in_nI (n := 1) (by decide) (by decide)) dL_law_287 ?_
  refine w_toeq (show xs (nI 1).toNatClampNeg = ya by rw [nI_clamp (n := 1) (by decide)]; exact hx1) ?_
  refine lv_aload_n hx hb dL_law_288 rfl (lv_at hl 1 rfl) ?_
  refine lv_iload hx hb dL_law_289 (lv_at hl 5 rfl) ?_
  refine lv_iconst (v := nI 2) hx hb dL_law_291 (by decide +kernel) ?_
  refine lv_iadd hx hb dL_law_292 ?_
  refine w_toeq (show (nI 0) + (nI 2) = nI 2 by decide +kernel) ?_
  refine va_sld hx hb hX hbl hbA hS (vp_in_nI (n := 2) (by decide) (by decide)) dL_law_293 ?_
  refine w_toeq (show xs (nI 2).toNatClampNeg = yb by rw [nI_clamp (n := 2) (by decide)]; exact hx2) ?_
  refine lv_aload_n hx hb dL_law_294 rfl (lv_at hl 1 rfl) ?_
  refine lv_iload hx hb dL_law_295 (lv_at hl 5 rfl) ?_
  refine lv_iconst (v := nI 3) hx hb dL_law_297 (by decide +kernel) ?_
  refine lv_iadd hx hb dL_law_298 ?_
  refine w_toeq (show (nI 0) + (nI 3) = nI 3 by decide +kernel) ?_
  refine va_sld hx hb hX hbl hbA hS (vp_in_nI (n := 3) (by decide) (by decide)) dL_law_299 ?_
  refine w_toeq (show xs (nI 3).toNatClampNeg = yc by rw [nI_clamp (n := 3) (by decide)]; exact hx3) ?_
  refine k_i (wr := [(h0, .inr (9, [.ref a0, .ref a1, .ref a2, .ref a3, .ref a4, .ref a5, .ref a6, .ref a7, .int (nI 0)]))]) (run_V (rest := []) hx hb hml hown hts hK hP hD hS hA hm (C39_make l G D K H.size h1 (.ref a8) ya hya yb hyb yc) [0] rfl rfl mok_yX12_make w_1341 w_1342 w_1343 (rcv hK hP 0 rfl rfl rfl) ⟨Nat.le_of_ble_eq_true rfl, Nat.le_of_ble_eq_true rfl⟩ rfl hl.1 rfl (Nat.le_of_ble_eq_true rfl) dL_law_300 ⟨(by dsimp only [room_1]; omega), (by dsimp only [room_1]; omega)⟩) hP hD hS hA [0] [1] rfl rfl rfl (by decide) (w2 := fun u1 => [(h0, .inr (9, [.ref a0, .ref a1, .ref a2, .ref a3, .ref a4, .ref a5, .ref a6, .ref a7, .int (nI 0)])), (h1, .inr (12, [.int (nI 1), .ref a8]))]) (fun _ => rfl) (fun u1 H locs hP hD hS => ?_)
  refine lv_istore (lv' := [(6, .int (nI 0)), (5, .int (nI 1)), (0, .ref b), (1, .ref h0), (2, .ref h1), (3, .ref a9), (4, .int (nI 0))]) hx hb dL_law_303 hl (by decide) rfl (fun ls hl => ?_)
  refine lv_aload_n hx hb dL_law_305 rfl (lv_at hl 4 rfl) ?_
  refine k_i (wr := [(h0, .inr (9, [.ref a0, .ref a1, .ref a2, .ref a3, .ref a4, .ref a5, .ref a6, .ref a7, .int (nI 0)]))]) (run_V (rest := []) hx hb hml hown hts hK hP hD hS hA hm (C1059_thrown l G D K H.size h1 (.ref a8)) [1] rfl rfl mok_yX12_thrown w_1300 w_1301 w_1302 (rcv hK hP 1 rfl rfl rfl) ⟨Nat.le_of_ble_eq_true rfl, Nat.le_of_ble_eq_true rfl⟩ rfl hl.1 rfl (Nat.le_of_ble_eq_true rfl) dL_law_306 ⟨(by dsimp only [room_1]; omega), (by dsimp only [room_1]; omega)⟩) hP hD hS hA [1] [0] rfl rfl rfl (by decide) (w2 := fun u2 => [(h0, .inr (9, [.ref a0, .ref a1, .ref a2, .ref a3, .ref a4, .ref a5, .ref a6, .ref a7, .int (nI 0)])), (h1, .inr (12, [.int (nI 1), .ref a8]))]) (fun _ => rfl) (fun u2 H locs hP hD hS => ?_)
  refine lv_iload hx hb dL_law_309 (lv_at hl 1 rfl) ?_
  refine lv_icmp_eq (tgt := 316) hx hb dL_law_311 (by decide) (fun _ => ?_) (fun c9 => absurd (by decide +kernel) c9)
  refine lv_iload hx hb dL_law_316 (lv_at hl 1 rfl) ?_
  refine lv_if_ne (tgt := 333) hx hb dL_law_318 (by decide) (fun _ => ?_) (fun c9 => absurd c9 (by decide +kernel))
  refine lv_goto (tgt := 1762) hx hb dL_law_333 (by decide) ?_
  refine lv_iinc (v := nI 4) (lv' := [(4, .int (nI 4)), (6, .int (nI 0)), (5, .int (nI 1)), (0, .ref b), (1, .ref h0), (2, .ref h1), (3, .ref a9)]) hx hb dL_law_1762 hl (k := 6) rfl (by decide +kernel) (by decide) rfl (fun ls hl => ?_)
  refine lv_goto (tgt := 23) hx hb dL_law_1765 (by decide) ?_
  refine lv_iload hx hb dL_law_23 (lv_at hl 0 rfl) ?_
  refine lv_aload_n hx hb dL_law_25 rfl (lv_at hl 3 rfl) ?_
  refine va_slen hx hb hX hbl hbA hS dL_law_26 ?_
  refine w_toeq (show Int32.ofNat 4 = nI 4 from rfl) ?_
  refine lv_iconst (v := nI 4) hx hb dL_law_27 (by decide +kernel) ?_
  refine lv_isub hx hb dL_law_28 ?_
  refine w_toeq (show (nI 4) - (nI 4) = nI 0 by decide +kernel) ?_
  refine lv_icmp_gt (tgt := 1768) hx hb dL_law_29 (by decide) (fun _ => ?_) (fun c9 => absurd (by decide +kernel) c9)
  refine lv_iconst (v := nI 1) hx hb dL_law_1768 (by decide +kernel) ?_
  exact law_end hx hb hr hlk hS (by dsimp only; omega) (by dsimp only; omega) dL_law_1769
set_option maxHeartbeats 4000000 in
set_option maxRecDepth 100000 in
theorem LW3_make {p : Program} {e : Env} {s : State} {m : MethodId} {below : List Frame} {meth : Method} {c : Code} {l : Launch} {G : Nat → Nat} {D : va_G} {K : Nat → ClassId} {b : Nat} {xs : Nat → Int32} (hx : p.tables.exec = Jvm.exec) (hb : c.code = cL_law) (hr : meth.sig.returnType = some .boolean) (hlk : meth.locks = false) (hl0 : l.stackTraces = false) (hnc : Ncs s) (hml : c.maxLocals = 9) (hown : s.vm.findClass RL = some m.cls) (hts : ∀ w ∈ lw_gw, w.before #[Value.ref b] s = true) (hK : va_K D cl (tys K) s) (hm : Amb G (fun q : Nat => s.heap.size ≤ q) s s.heap) (hX : va_X b 4 xs s s.heap) (hbl : b < s.heap.size) {h0 h1 a0 a1 a2 a3 a4 a5 a6 a7 a8 a9 : Nat} (ya : Int32) (hya : ya < 0) (hx1 : xs 1 = ya) (hx2 : xs 2 = nI 0) (yc : Int32) (hx3 : xs 3 = yc) {H : Heap} {locs : List Loc} {cells slots : Nat} (hcs : cells ≤ 1000) (hss : slots ≤ 100000) (hP : va_P D cl [(h0, .inr (9, [.ref a0, .ref a1, .ref a2, .ref a3, .ref a4, .ref a5, .ref a6, .ref a7, .int (nI 0)])), (h1, .inr (12, [.int (nI 0), .ref a8]))] H) (hD : va_D (fun q : Nat => s.heap.size ≤ q) [(h0, .inr (9, [.ref a0, .ref a1, .ref a2, .ref a3, .ref a4, .ref a5, .ref a6, .ref a7, .int (nI 0)])), (h1, .inr (12, [.int (nI 0), .ref a8]))]) (hS : va_S (fun q : Nat => s.heap.size ≤ q) s.heap H locs) {ls : Array Slot} (hl : lv_has ls 9 [(0, .ref b), (1, .ref h0), (2, .ref h1), (3, .ref a9), (4, .int (nI 0))]) : W p l e room_1 s m #[Value.ref b] below meth c H locs cells slots (lw_Z below #[Value.ref b] s) (F0 m 256 ls []) := by
  have hA : ∀ q : Nat, s.heap.size ≤ q → (fun q : Nat => s.heap.size ≤ q) q := fun _ h => h
  have hbA : ¬ (fun q : Nat => s.heap.size ≤ q) b := Nat.not_le.mpr hbl
  refine lv_aload_n hx hb dL_law_256 rfl (lv_at hl 1 rfl) ?_
  refine lv_aload_n hx hb dL_law_257 rfl (lv_at hl 0 rfl) ?_
  refine lv_iload hx hb dL_law_258 (lv_at hl 4 rfl) ?_
  refine lv_iconst (v := nI 1) hx hb dL_law_260 (by decide +kernel) ?_
  refine lv_iadd hx hb dL_law_261 ?_
  refine w_toeq (show (nI 0) + (nI 1) = nI 1 by decide +kernel) ?_
  refine va_sld hx hb hX hbl hbA hS (vp_in_nI (n := 1) (by decide) (by decide)) dL_law_262 ?_
  refine w_toeq (show xs (nI 1).toNatClampNeg = ya by rw [nI_clamp (n := 1) (by decide)]; exact hx1) ?_
  refine lv_aload_n hx hb dL_law_263 rfl (lv_at hl 0 rfl) ?_
  refine lv_iload hx hb dL_law_264 (lv_at hl 4 rfl) ?_
  refine lv_iconst (v := nI 2) hx hb dL_law_266 (by decide +kernel) ?_
  refine lv_iadd hx hb dL_law_267 ?_
  refine w_toeq (show (nI 0) + (nI 2) = nI 2 by decide +kernel) ?_
  refine va_sld hx hb hX hbl hbA hS (vp_in_nI (n := 2) (by decide) (by decide)) dL_law_268 ?_
  refine w_toeq (show xs (nI 2).toNatClampNeg = nI 0 by rw [nI_clamp (n := 2) (by decide)]; exact hx2) ?_
  refine lv_aload_n hx hb dL_law_269 rfl (lv_at hl 0 rfl) ?_
  refine lv_iload hx hb dL_law_270 (lv_at hl 4 rfl) ?_
  refine lv_iconst (v := nI 3) hx hb dL_law_272 (by decide +kernel) ?_
  refine lv_iadd hx hb dL_law_273 ?_
  refine w_toeq (show (nI 0) + (nI 3) = nI 3 by decide +kernel) ?_
  refine va_sld hx hb hX hbl hbA hS (vp_in_nI (n := 3) (by decide) (by decide)) dL_law_274 ?_
  refine w_toeq (show xs (nI 3).toNatClampNeg = yc by rw [nI_clamp (n := 3) (by decide)]; exact hx3) ?_
  refine lv_aload_n hx hb dL_law_275 rfl (lv_at hl 3 rfl) ?_
  refine k_i (wr := [(h1, .inr (12, [.int (nI 0), .ref a8]))]) (run_SW hnc (rest := []) hx hb hml hown hts hK hP hD hS hA hm (C1061_make l G D K hl0 H.size h0 a9 (.ref a0) (.ref a1) (.ref a2) (.ref a3) (.ref a4) (.ref a5) (.ref a6) (.ref a7) (.int (nI 0)) ya hya yc) [0] rfl rfl mokh_yL_make w_786 w_787 ⟨Nat.le_of_ble_eq_true rfl, Nat.le_of_ble_eq_true rfl⟩ rfl hl.1 rfl (Nat.le_of_ble_eq_true rfl) dL_law_276 ⟨(by dsimp only [room_1]; omega), (by dsimp only [room_1]; omega)⟩) hP hD hS hA [0] [1] rfl rfl rfl (by decide) (w2 := fun u0 => [(h1, .inr (12, [.int (nI 0), .ref a8])), (h0, .inr (9, [.ref a0, .ref a1, .ref a2, .ref a3, .ref a4, .ref a5, .ref a6, .ref a7, .int (nI 0)]))]) (fun _ => rfl) (fun u0 H locs hP hD hS => ?_)
  refine lv_istore (lv' := [(5, .int (nI 1)), (0, .ref b), (1, .ref h0), (2, .ref h1), (3, .ref a9), (4, .int (nI 0))]) hx hb dL_law_279 hl (by decide) rfl (fun ls hl => ?_)
  refine lv_aload_n hx hb dL_law_281 rfl (lv_at hl 3 rfl) ?_
  refine lv_aload_n hx hb dL_law_282 rfl (lv_at hl 1 rfl) ?_
  refine lv_iload hx hb dL_law_283 (lv_at hl 5 rfl) ?_
  refine lv_iconst (v := nI 1) hx hb dL_law_285 (by decide +kernel) ?_
  refine lv_iadd hx hb dL_law_286 ?_
  refine w_toeq (show (nI 0) + (nI 1) = nI 1 by decide +kernel) ?_
  refine va_sld hx hb hX hbl hbA hS (vp_in_nI (n := 1) (by decide) (by decide)) dL_law_287 ?_
  refine w_toeq (show xs (nI 1).toNatClampNeg = ya by rw [nI_clamp (n := 1) (by decide)]; exact hx1) ?_
  refine lv_aload_n hx hb dL_law_288 rfl (lv_at hl 1 rfl) ?_
  refine lv_iload hx hb dL_law_289 (lv_at hl 5 rfl) ?_
  refine lv_iconst (v := nI 2) hx hb dL_law_291 (by decide +kernel) ?_
  refine lv_iadd hx hb dL_law_292 ?_
  refine w_toeq (show (nI 0) + (nI 2) = nI 2 by decide +kernel) ?_
  refine va_sld hx hb hX hbl hbA hS (vp_in_nI (n := 2) (by decide) (by decide)) dL_law_293 ?_
  refine w_toeq (show xs (nI 2).toNatClampNeg = nI 0 by rw [nI_clamp (n := 2) (by decide)]; exact hx2) ?_
  refine lv_aload_n hx hb dL_law_294 rfl (lv_at hl 1 rfl) ?_
  refine lv_iload hx hb dL_law_295 (lv_at hl 5 rfl) ?_
  refine lv_iconst (v := nI 3) hx hb dL_law_297 (by decide +kernel) ?_
  refine lv_iadd hx hb dL_law_298 ?_
  refine w_toeq (show (nI 0) + (nI 3) = nI 3 by decide +kernel) ?_
  refine va_sld hx hb hX hbl hbA hS (vp_in_nI (n := 3) (by decide) (by decide)) dL_law_299 ?_
  refine w_toeq (show xs (nI 3).toNatClampNeg = yc by rw [nI_clamp (n := 3) (by decide)]; exact hx3) ?_
  refine k_i (wr := [(h0, .inr (9, [.ref a0, .ref a1, .ref a2, .ref a3, .ref a4, .ref a5, .ref a6, .ref a7, .int (nI 0)]))]) (run_V (rest := []) hx hb hml hown hts hK hP hD hS hA hm (C41_make l G D K H.size h1 (.ref a8) ya hya yc) [0] rfl rfl mok_yX12_make w_1341 w_1342 w_1343 (rcv hK hP 0 rfl rfl rfl) ⟨Nat.le_of_ble_eq_true rfl, Nat.le_of_ble_eq_true rfl⟩ rfl hl.1 rfl (Nat.le_of_ble_eq_true rfl) dL_law_300 ⟨(by dsimp only [room_1]; omega), (by dsimp only [room_1]; omega)⟩) hP hD hS hA [0] [1] rfl rfl rfl (by decide) (w2 := fun u1 => [(h0, .inr (9, [.ref a0, .ref a1, .ref a2, .ref a3, .ref a4, .ref a5, .ref a6, .ref a7, .int (nI 0)])), (h1, .inr (12, [.int (nI 1), .ref a8]))]) (fun _ => rfl) (fun u1 H locs hP hD hS => ?_)
  refine lv_istore (lv' := [(6, .int (nI 0)), (5, .int (nI 1)), (0, .ref b), (1, .ref h0), (2, .ref h1), (3, .ref a9), (4, .int (nI 0))]) hx hb dL_law_303 hl (by decide) rfl (fun ls hl => ?_)
  refine lv_aload_n hx hb dL_law_305 rfl (lv_at hl 4 rfl) ?_
  refine k_i (wr := [(h0, .inr (9, [.ref a0, .ref a1, .ref a2, .ref a3, .ref a4, .ref a5, .ref a6, .ref a7, .int (nI 0)]))]) (run_V (rest := []) hx hb hml hown hts hK hP hD hS hA hm (C1059_thrown l G D K H.size h1 (.ref a8)) [1] rfl rfl mok_yX12_thrown w_1300 w_1301 w_1302 (rcv hK hP 1 rfl rfl rfl) ⟨Nat.le_of_ble_eq_true rfl, Nat.le_of_ble_eq_true rfl⟩ rfl hl.1 rfl (Nat.le_of_ble_eq_true rfl) dL_law_306 ⟨(by dsimp only [room_1]; omega), (by dsimp only [room_1]; omega)⟩) hP hD hS hA [1] [0] rfl rfl rfl (by decide) (w2 := fun u2 => [(h0, .inr (9, [.ref a0, .ref a1, .ref a2, .ref a3, .ref a4, .ref a5, .ref a6, .ref a7, .int (nI 0)])), (h1, .inr (12, [.int (nI 1), .ref a8]))]) (fun _ => rfl) (fun u2 H locs hP hD hS => ?_)
  refine lv_iload hx hb dL_law_309 (lv_at hl 1 rfl) ?_
  refine lv_icmp_eq (tgt := 316) hx hb dL_law_311 (by decide) (fun _ => ?_) (fun c9 => absurd (by decide +kernel) c9)
  refine lv_iload hx hb dL_law_316 (lv_at hl 1 rfl) ?_
  refine lv_if_ne (tgt := 333) hx hb dL_law_318 (by decide) (fun _ => ?_) (fun c9 => absurd c9 (by decide +kernel))
  refine lv_goto (tgt := 1762) hx hb dL_law_333 (by decide) ?_
  refine lv_iinc (v := nI 4) (lv' := [(4, .int (nI 4)), (6, .int (nI 0)), (5, .int (nI 1)), (0, .ref b), (1, .ref h0), (2, .ref h1), (3, .ref a9)]) hx hb dL_law_1762 hl (k := 6) rfl (by decide +kernel) (by decide) rfl (fun ls hl => ?_)
  refine lv_goto (tgt := 23) hx hb dL_law_1765 (by decide) ?_
  refine lv_iload hx hb dL_law_23 (lv_at hl 0 rfl) ?_
  refine lv_aload_n hx hb dL_law_25 rfl (lv_at hl 3 rfl) ?_
  refine va_slen hx hb hX hbl hbA hS dL_law_26 ?_
  refine w_toeq (show Int32.ofNat 4 = nI 4 from rfl) ?_
  refine lv_iconst (v := nI 4) hx hb dL_law_27 (by decide +kernel) ?_
  refine lv_isub hx hb dL_law_28 ?_
  refine w_toeq (show (nI 4) - (nI 4) = nI 0 by decide +kernel) ?_
  refine lv_icmp_gt (tgt := 1768) hx hb dL_law_29 (by decide) (fun _ => ?_) (fun c9 => absurd (by decide +kernel) c9)
  refine lv_iconst (v := nI 1) hx hb dL_law_1768 (by decide +kernel) ?_
  exact law_end hx hb hr hlk hS (by dsimp only; omega) (by dsimp only; omega) dL_law_1769
set_option maxHeartbeats 4000000 in
set_option maxRecDepth 100000 in
theorem LW4_make {p : Program} {e : Env} {s : State} {m : MethodId} {below : List Frame} {meth : Method} {c : Code} {l : Launch} {G : Nat → Nat} {D : va_G} {K : Nat → ClassId} {b : Nat} {xs : Nat → Int32} (hx : p.tables.exec = Jvm.exec) (hb : c.code = cL_law) (hr : meth.sig.returnType = some .boolean) (hlk : meth.locks = false) (hl0 : l.stackTraces = false) (hnc : Ncs s) (hml : c.maxLocals = 9) (hown : s.vm.findClass RL = some m.cls) (hts : ∀ w ∈ lw_gw, w.before #[Value.ref b] s = true) (hK : va_K D cl (tys K) s) (hm : Amb G (fun q : Nat => s.heap.size ≤ q) s s.heap) (hX : va_X b 4 xs s s.heap) (hbl : b < s.heap.size) {h0 h1 a0 a1 a2 a3 a4 a5 a6 a7 a8 a9 : Nat} (ya : Int32) (hya : ya < 0) (hx1 : xs 1 = ya) (hx2 : xs 2 = nI 1) (yc : Int32) (hx3 : xs 3 = yc) {H : Heap} {locs : List Loc} {cells slots : Nat} (hcs : cells ≤ 1000) (hss : slots ≤ 100000) (hP : va_P D cl [(h0, .inr (9, [.ref a0, .ref a1, .ref a2, .ref a3, .ref a4, .ref a5, .ref a6, .ref a7, .int (nI 0)])), (h1, .inr (12, [.int (nI 0), .ref a8]))] H) (hD : va_D (fun q : Nat => s.heap.size ≤ q) [(h0, .inr (9, [.ref a0, .ref a1, .ref a2, .ref a3, .ref a4, .ref a5, .ref a6, .ref a7, .int (nI 0)])), (h1, .inr (12, [.int (nI 0), .ref a8]))]) (hS : va_S (fun q : Nat => s.heap.size ≤ q) s.heap H locs) {ls : Array Slot} (hl : lv_has ls 9 [(0, .ref b), (1, .ref h0), (2, .ref h1), (3, .ref a9), (4, .int (nI 0))]) : W p l e room_1 s m #[Value.ref b] below meth c H locs cells slots (lw_Z below #[Value.ref b] s) (F0 m 256 ls []) := by
  have hA : ∀ q : Nat, s.heap.size ≤ q → (fun q : Nat => s.heap.size ≤ q) q := fun _ h => h
  have hbA : ¬ (fun q : Nat => s.heap.size ≤ q) b := Nat.not_le.mpr hbl
  refine lv_aload_n hx hb dL_law_256 rfl (lv_at hl 1 rfl) ?_
  refine lv_aload_n hx hb dL_law_257 rfl (lv_at hl 0 rfl) ?_
  refine lv_iload hx hb dL_law_258 (lv_at hl 4 rfl) ?_
  refine lv_iconst (v := nI 1) hx hb dL_law_260 (by decide +kernel) ?_
  refine lv_iadd hx hb dL_law_261 ?_
  refine w_toeq (show (nI 0) + (nI 1) = nI 1 by decide +kernel) ?_
  refine va_sld hx hb hX hbl hbA hS (vp_in_nI (n := 1) (by decide) (by decide)) dL_law_262 ?_
  refine w_toeq (show xs (nI 1).toNatClampNeg = ya by rw [nI_clamp (n := 1) (by decide)]; exact hx1) ?_
  refine lv_aload_n hx hb dL_law_263 rfl (lv_at hl 0 rfl) ?_
  refine lv_iload hx hb dL_law_264 (lv_at hl 4 rfl) ?_
  refine lv_iconst (v := nI 2) hx hb dL_law_266 (by decide +kernel) ?_
  refine lv_iadd hx hb dL_law_267 ?_
  refine w_toeq (show (nI 0) + (nI 2) = nI 2 by decide +kernel) ?_
  refine va_sld hx hb hX hbl hbA hS (vp_in_nI (n := 2) (by decide) (by decide)) dL_law_268 ?_
  refine w_toeq (show xs (nI 2).toNatClampNeg = nI 1 by rw [nI_clamp (n := 2) (by decide)]; exact hx2) ?_
  refine lv_aload_n hx hb dL_law_269 rfl (lv_at hl 0 rfl) ?_
  refine lv_iload hx hb dL_law_270 (lv_at hl 4 rfl) ?_
  refine lv_iconst (v := nI 3) hx hb dL_law_272 (by decide +kernel) ?_
  refine lv_iadd hx hb dL_law_273 ?_
  refine w_toeq (show (nI 0) + (nI 3) = nI 3 by decide +kernel) ?_
  refine va_sld hx hb hX hbl hbA hS (vp_in_nI (n := 3) (by decide) (by decide)) dL_law_274 ?_
  refine w_toeq (show xs (nI 3).toNatClampNeg = yc by rw [nI_clamp (n := 3) (by decide)]; exact hx3) ?_
  refine lv_aload_n hx hb dL_law_275 rfl (lv_at hl 3 rfl) ?_
  refine k_i (wr := [(h1, .inr (12, [.int (nI 0), .ref a8]))]) (run_SW hnc (rest := []) hx hb hml hown hts hK hP hD hS hA hm (C1062_make l G D K hl0 H.size h0 a9 (.ref a0) (.ref a1) (.ref a2) (.ref a3) (.ref a4) (.ref a5) (.ref a6) (.ref a7) (.int (nI 0)) ya hya yc) [0] rfl rfl mokh_yL_make w_786 w_787 ⟨Nat.le_of_ble_eq_true rfl, Nat.le_of_ble_eq_true rfl⟩ rfl hl.1 rfl (Nat.le_of_ble_eq_true rfl) dL_law_276 ⟨(by dsimp only [room_1]; omega), (by dsimp only [room_1]; omega)⟩) hP hD hS hA [0] [1] rfl rfl rfl (by decide) (w2 := fun u0 => [(h1, .inr (12, [.int (nI 0), .ref a8])), (h0, .inr (9, [.ref a0, .ref a1, .ref a2, .ref a3, .ref a4, .ref a5, .ref a6, .ref a7, .int (nI 0)]))]) (fun _ => rfl) (fun u0 H locs hP hD hS => ?_)
  refine lv_istore (lv' := [(5, .int (nI 1)), (0, .ref b), (1, .ref h0), (2, .ref h1), (3, .ref a9), (4, .int (nI 0))]) hx hb dL_law_279 hl (by decide) rfl (fun ls hl => ?_)
  refine lv_aload_n hx hb dL_law_281 rfl (lv_at hl 3 rfl) ?_
  refine lv_aload_n hx hb dL_law_282 rfl (lv_at hl 1 rfl) ?_
  refine lv_iload hx hb dL_law_283 (lv_at hl 5 rfl) ?_
  refine lv_iconst (v := nI 1) hx hb dL_law_285 (by decide +kernel) ?_
  refine lv_iadd hx hb dL_law_286 ?_
  refine w_toeq (show (nI 0) + (nI 1) = nI 1 by decide +kernel) ?_
  refine va_sld hx hb hX hbl hbA hS (vp_in_nI (n := 1) (by decide) (by decide)) dL_law_287 ?_
  refine w_toeq (show xs (nI 1).toNatClampNeg = ya by rw [nI_clamp (n := 1) (by decide)]; exact hx1) ?_
  refine lv_aload_n hx hb dL_law_288 rfl (lv_at hl 1 rfl) ?_
  refine lv_iload hx hb dL_law_289 (lv_at hl 5 rfl) ?_
  refine lv_iconst (v := nI 2) hx hb dL_law_291 (by decide +kernel) ?_
  refine lv_iadd hx hb dL_law_292 ?_
  refine w_toeq (show (nI 0) + (nI 2) = nI 2 by decide +kernel) ?_
  refine va_sld hx hb hX hbl hbA hS (vp_in_nI (n := 2) (by decide) (by decide)) dL_law_293 ?_
  refine w_toeq (show xs (nI 2).toNatClampNeg = nI 1 by rw [nI_clamp (n := 2) (by decide)]; exact hx2) ?_
  refine lv_aload_n hx hb dL_law_294 rfl (lv_at hl 1 rfl) ?_
  refine lv_iload hx hb dL_law_295 (lv_at hl 5 rfl) ?_
  refine lv_iconst (v := nI 3) hx hb dL_law_297 (by decide +kernel) ?_
  refine lv_iadd hx hb dL_law_298 ?_
  refine w_toeq (show (nI 0) + (nI 3) = nI 3 by decide +kernel) ?_
  refine va_sld hx hb hX hbl hbA hS (vp_in_nI (n := 3) (by decide) (by decide)) dL_law_299 ?_
  refine w_toeq (show xs (nI 3).toNatClampNeg = yc by rw [nI_clamp (n := 3) (by decide)]; exact hx3) ?_
  refine k_i (wr := [(h0, .inr (9, [.ref a0, .ref a1, .ref a2, .ref a3, .ref a4, .ref a5, .ref a6, .ref a7, .int (nI 0)]))]) (run_V (rest := []) hx hb hml hown hts hK hP hD hS hA hm (C43_make l G D K H.size h1 (.ref a8) ya hya yc) [0] rfl rfl mok_yX12_make w_1341 w_1342 w_1343 (rcv hK hP 0 rfl rfl rfl) ⟨Nat.le_of_ble_eq_true rfl, Nat.le_of_ble_eq_true rfl⟩ rfl hl.1 rfl (Nat.le_of_ble_eq_true rfl) dL_law_300 ⟨(by dsimp only [room_1]; omega), (by dsimp only [room_1]; omega)⟩) hP hD hS hA [0] [1] rfl rfl rfl (by decide) (w2 := fun u1 => [(h0, .inr (9, [.ref a0, .ref a1, .ref a2, .ref a3, .ref a4, .ref a5, .ref a6, .ref a7, .int (nI 0)])), (h1, .inr (12, [.int (nI 1), .ref a8]))]) (fun _ => rfl) (fun u1 H locs hP hD hS => ?_)
  refine lv_istore (lv' := [(6, .int (nI 0)), (5, .int (nI 1)), (0, .ref b), (1, .ref h0), (2, .ref h1), (3, .ref a9), (4, .int (nI 0))]) hx hb dL_law_303 hl (by decide) rfl (fun ls hl => ?_)
  refine lv_aload_n hx hb dL_law_305 rfl (lv_at hl 4 rfl) ?_
  refine k_i (wr := [(h0, .inr (9, [.ref a0, .ref a1, .ref a2, .ref a3, .ref a4, .ref a5, .ref a6, .ref a7, .int (nI 0)]))]) (run_V (rest := []) hx hb hml hown hts hK hP hD hS hA hm (C1059_thrown l G D K H.size h1 (.ref a8)) [1] rfl rfl mok_yX12_thrown w_1300 w_1301 w_1302 (rcv hK hP 1 rfl rfl rfl) ⟨Nat.le_of_ble_eq_true rfl, Nat.le_of_ble_eq_true rfl⟩ rfl hl.1 rfl (Nat.le_of_ble_eq_true rfl) dL_law_306 ⟨(by dsimp only [room_1]; omega), (by dsimp only [room_1]; omega)⟩) hP hD hS hA [1] [0] rfl rfl rfl (by decide) (w2 := fun u2 => [(h0, .inr (9, [.ref a0, .ref a1, .ref a2, .ref a3, .ref a4, .ref a5, .ref a6, .ref a7, .int (nI 0)])), (h1, .inr (12, [.int (nI 1), .ref a8]))]) (fun _ => rfl) (fun u2 H locs hP hD hS => ?_)
  refine lv_iload hx hb dL_law_309 (lv_at hl 1 rfl) ?_
  refine lv_icmp_eq (tgt := 316) hx hb dL_law_311 (by decide) (fun _ => ?_) (fun c9 => absurd (by decide +kernel) c9)
  refine lv_iload hx hb dL_law_316 (lv_at hl 1 rfl) ?_
  refine lv_if_ne (tgt := 333) hx hb dL_law_318 (by decide) (fun _ => ?_) (fun c9 => absurd c9 (by decide +kernel))
  refine lv_goto (tgt := 1762) hx hb dL_law_333 (by decide) ?_
  refine lv_iinc (v := nI 4) (lv' := [(4, .int (nI 4)), (6, .int (nI 0)), (5, .int (nI 1)), (0, .ref b), (1, .ref h0), (2, .ref h1), (3, .ref a9)]) hx hb dL_law_1762 hl (k := 6) rfl (by decide +kernel) (by decide) rfl (fun ls hl => ?_)
  refine lv_goto (tgt := 23) hx hb dL_law_1765 (by decide) ?_
  refine lv_iload hx hb dL_law_23 (lv_at hl 0 rfl) ?_
  refine lv_aload_n hx hb dL_law_25 rfl (lv_at hl 3 rfl) ?_
  refine va_slen hx hb hX hbl hbA hS dL_law_26 ?_
  refine w_toeq (show Int32.ofNat 4 = nI 4 from rfl) ?_
  refine lv_iconst (v := nI 4) hx hb dL_law_27 (by decide +kernel) ?_
  refine lv_isub hx hb dL_law_28 ?_
  refine w_toeq (show (nI 4) - (nI 4) = nI 0 by decide +kernel) ?_
  refine lv_icmp_gt (tgt := 1768) hx hb dL_law_29 (by decide) (fun _ => ?_) (fun c9 => absurd (by decide +kernel) c9)
  refine lv_iconst (v := nI 1) hx hb dL_law_1768 (by decide +kernel) ?_
  exact law_end hx hb hr hlk hS (by dsimp only; omega) (by dsimp only; omega) dL_law_1769
set_option maxHeartbeats 4000000 in
set_option maxRecDepth 100000 in
theorem LW5_make {p : Program} {e : Env} {s : State} {m : MethodId} {below : List Frame} {meth : Method} {c : Code} {l : Launch} {G : Nat → Nat} {D : va_G} {K : Nat → ClassId} {b : Nat} {xs : Nat → Int32} (hx : p.tables.exec = Jvm.exec) (hb : c.code = cL_law) (hr : meth.sig.returnType = some .boolean) (hlk : meth.locks = false) (hl0 : l.stackTraces = false) (hnc : Ncs s) (hml : c.maxLocals = 9) (hown : s.vm.findClass RL = some m.cls) (hts : ∀ w ∈ lw_gw, w.before #[Value.ref b] s = true) (hK : va_K D cl (tys K) s) (hm : Amb G (fun q : Nat => s.heap.size ≤ q) s s.heap) (hX : va_X b 4 xs s s.heap) (hbl : b < s.heap.size) {h0 h1 a0 a1 a2 a3 a4 a5 a6 a7 a8 a9 : Nat} (ya : Int32) (hya : ya < 0) (hx1 : xs 1 = ya) (hx2 : xs 2 = nI 2) (yc : Int32) (hx3 : xs 3 = yc) {H : Heap} {locs : List Loc} {cells slots : Nat} (hcs : cells ≤ 1000) (hss : slots ≤ 100000) (hP : va_P D cl [(h0, .inr (9, [.ref a0, .ref a1, .ref a2, .ref a3, .ref a4, .ref a5, .ref a6, .ref a7, .int (nI 0)])), (h1, .inr (12, [.int (nI 0), .ref a8]))] H) (hD : va_D (fun q : Nat => s.heap.size ≤ q) [(h0, .inr (9, [.ref a0, .ref a1, .ref a2, .ref a3, .ref a4, .ref a5, .ref a6, .ref a7, .int (nI 0)])), (h1, .inr (12, [.int (nI 0), .ref a8]))]) (hS : va_S (fun q : Nat => s.heap.size ≤ q) s.heap H locs) {ls : Array Slot} (hl : lv_has ls 9 [(0, .ref b), (1, .ref h0), (2, .ref h1), (3, .ref a9), (4, .int (nI 0))]) : W p l e room_1 s m #[Value.ref b] below meth c H locs cells slots (lw_Z below #[Value.ref b] s) (F0 m 256 ls []) := by
  have hA : ∀ q : Nat, s.heap.size ≤ q → (fun q : Nat => s.heap.size ≤ q) q := fun _ h => h
  have hbA : ¬ (fun q : Nat => s.heap.size ≤ q) b := Nat.not_le.mpr hbl
  refine lv_aload_n hx hb dL_law_256 rfl (lv_at hl 1 rfl) ?_
  refine lv_aload_n hx hb dL_law_257 rfl (lv_at hl 0 rfl) ?_
  refine lv_iload hx hb dL_law_258 (lv_at hl 4 rfl) ?_
  refine lv_iconst (v := nI 1) hx hb dL_law_260 (by decide +kernel) ?_
  refine lv_iadd hx hb dL_law_261 ?_
  refine w_toeq (show (nI 0) + (nI 1) = nI 1 by decide +kernel) ?_
  refine va_sld hx hb hX hbl hbA hS (vp_in_nI (n := 1) (by decide) (by decide)) dL_law_262 ?_
  refine w_toeq (show xs (nI 1).toNatClampNeg = ya by rw [nI_clamp (n := 1) (by decide)]; exact hx1) ?_
  refine lv_aload_n hx hb dL_law_263 rfl (lv_at hl 0 rfl) ?_
  refine lv_iload hx hb dL_law_264 (lv_at hl 4 rfl) ?_
  refine lv_iconst (v := nI 2) hx hb dL_law_266 (by decide +kernel) ?_
  refine lv_iadd hx hb dL_law_267 ?_
  refine w_toeq (show (nI 0) + (nI 2) = nI 2 by decide +kernel) ?_
  refine va_sld hx hb hX hbl hbA hS (vp_in_nI (n := 2) (by decide) (by decide)) dL_law_268 ?_
  refine w_toeq (show xs (nI 2).toNatClampNeg = nI 2 by rw [nI_clamp (n := 2) (by decide)]; exact hx2) ?_
  refine lv_aload_n hx hb dL_law_269 rfl (lv_at hl 0 rfl) ?_
  refine lv_iload hx hb dL_law_270 (lv_at hl 4 rfl) ?_
  refine lv_iconst (v := nI 3) hx hb dL_law_272 (by decide +kernel) ?_
  refine lv_iadd hx hb dL_law_273 ?_
  refine w_toeq (show (nI 0) + (nI 3) = nI 3 by decide +kernel) ?_
  refine va_sld hx hb hX hbl hbA hS (vp_in_nI (n := 3) (by decide) (by decide)) dL_law_274 ?_
  refine w_toeq (show xs (nI 3).toNatClampNeg = yc by rw [nI_clamp (n := 3) (by decide)]; exact hx3) ?_
  refine lv_aload_n hx hb dL_law_275 rfl (lv_at hl 3 rfl) ?_
  refine k_i (wr := [(h1, .inr (12, [.int (nI 0), .ref a8]))]) (run_SW hnc (rest := []) hx hb hml hown hts hK hP hD hS hA hm (C1063_make l G D K hl0 H.size h0 a9 (.ref a0) (.ref a1) (.ref a2) (.ref a3) (.ref a4) (.ref a5) (.ref a6) (.ref a7) (.int (nI 0)) ya hya yc) [0] rfl rfl mokh_yL_make w_786 w_787 ⟨Nat.le_of_ble_eq_true rfl, Nat.le_of_ble_eq_true rfl⟩ rfl hl.1 rfl (Nat.le_of_ble_eq_true rfl) dL_law_276 ⟨(by dsimp only [room_1]; omega), (by dsimp only [room_1]; omega)⟩) hP hD hS hA [0] [1] rfl rfl rfl (by decide) (w2 := fun u0 => [(h1, .inr (12, [.int (nI 0), .ref a8])), (h0, .inr (9, [.ref a0, .ref a1, .ref a2, .ref a3, .ref a4, .ref a5, .ref a6, .ref a7, .int (nI 0)]))]) (fun _ => rfl) (fun u0 H locs hP hD hS => ?_)
  refine lv_istore (lv' := [(5, .int (nI 1)), (0, .ref b), (1, .ref h0), (2, .ref h1), (3, .ref a9), (4, .int (nI 0))]) hx hb dL_law_279 hl (by decide) rfl (fun ls hl => ?_)
  refine lv_aload_n hx hb dL_law_281 rfl (lv_at hl 3 rfl) ?_
  refine lv_aload_n hx hb dL_law_282 rfl (lv_at hl 1 rfl) ?_
  refine lv_iload hx hb dL_law_283 (lv_at hl 5 rfl) ?_
  refine lv_iconst (v := nI 1) hx hb dL_law_285 (by decide +kernel) ?_
  refine lv_iadd hx hb dL_law_286 ?_
  refine w_toeq (show (nI 0) + (nI 1) = nI 1 by decide +kernel) ?_
  refine va_sld hx hb hX hbl hbA hS (vp_in_nI (n := 1) (by decide) (by decide)) dL_law_287 ?_
  refine w_toeq (show xs (nI 1).toNatClampNeg = ya by rw [nI_clamp (n := 1) (by decide)]; exact hx1) ?_
  refine lv_aload_n hx hb dL_law_288 rfl (lv_at hl 1 rfl) ?_
  refine lv_iload hx hb dL_law_289 (lv_at hl 5 rfl) ?_
  refine lv_iconst (v := nI 2) hx hb dL_law_291 (by decide +kernel) ?_
  refine lv_iadd hx hb dL_law_292 ?_
  refine w_toeq (show (nI 0) + (nI 2) = nI 2 by decide +kernel) ?_
  refine va_sld hx hb hX hbl hbA hS (vp_in_nI (n := 2) (by decide) (by decide)) dL_law_293 ?_
  refine w_toeq (show xs (nI 2).toNatClampNeg = nI 2 by rw [nI_clamp (n := 2) (by decide)]; exact hx2) ?_
  refine lv_aload_n hx hb dL_law_294 rfl (lv_at hl 1 rfl) ?_
  refine lv_iload hx hb dL_law_295 (lv_at hl 5 rfl) ?_
  refine lv_iconst (v := nI 3) hx hb dL_law_297 (by decide +kernel) ?_
  refine lv_iadd hx hb dL_law_298 ?_
  refine w_toeq (show (nI 0) + (nI 3) = nI 3 by decide +kernel) ?_
  refine va_sld hx hb hX hbl hbA hS (vp_in_nI (n := 3) (by decide) (by decide)) dL_law_299 ?_
  refine w_toeq (show xs (nI 3).toNatClampNeg = yc by rw [nI_clamp (n := 3) (by decide)]; exact hx3) ?_
  refine k_i (wr := [(h0, .inr (9, [.ref a0, .ref a1, .ref a2, .ref a3, .ref a4, .ref a5, .ref a6, .ref a7, .int (nI 0)]))]) (run_V (rest := []) hx hb hml hown hts hK hP hD hS hA hm (C45_make l G D K H.size h1 (.ref a8) ya hya yc) [0] rfl rfl mok_yX12_make w_1341 w_1342 w_1343 (rcv hK hP 0 rfl rfl rfl) ⟨Nat.le_of_ble_eq_true rfl, Nat.le_of_ble_eq_true rfl⟩ rfl hl.1 rfl (Nat.le_of_ble_eq_true rfl) dL_law_300 ⟨(by dsimp only [room_1]; omega), (by dsimp only [room_1]; omega)⟩) hP hD hS hA [0] [1] rfl rfl rfl (by decide) (w2 := fun u1 => [(h0, .inr (9, [.ref a0, .ref a1, .ref a2, .ref a3, .ref a4, .ref a5, .ref a6, .ref a7, .int (nI 0)])), (h1, .inr (12, [.int (nI 1), .ref a8]))]) (fun _ => rfl) (fun u1 H locs hP hD hS => ?_)
  refine lv_istore (lv' := [(6, .int (nI 0)), (5, .int (nI 1)), (0, .ref b), (1, .ref h0), (2, .ref h1), (3, .ref a9), (4, .int (nI 0))]) hx hb dL_law_303 hl (by decide) rfl (fun ls hl => ?_)
  refine lv_aload_n hx hb dL_law_305 rfl (lv_at hl 4 rfl) ?_
  refine k_i (wr := [(h0, .inr (9, [.ref a0, .ref a1, .ref a2, .ref a3, .ref a4, .ref a5, .ref a6, .ref a7, .int (nI 0)]))]) (run_V (rest := []) hx hb hml hown hts hK hP hD hS hA hm (C1059_thrown l G D K H.size h1 (.ref a8)) [1] rfl rfl mok_yX12_thrown w_1300 w_1301 w_1302 (rcv hK hP 1 rfl rfl rfl) ⟨Nat.le_of_ble_eq_true rfl, Nat.le_of_ble_eq_true rfl⟩ rfl hl.1 rfl (Nat.le_of_ble_eq_true rfl) dL_law_306 ⟨(by dsimp only [room_1]; omega), (by dsimp only [room_1]; omega)⟩) hP hD hS hA [1] [0] rfl rfl rfl (by decide) (w2 := fun u2 => [(h0, .inr (9, [.ref a0, .ref a1, .ref a2, .ref a3, .ref a4, .ref a5, .ref a6, .ref a7, .int (nI 0)])), (h1, .inr (12, [.int (nI 1), .ref a8]))]) (fun _ => rfl) (fun u2 H locs hP hD hS => ?_)
  refine lv_iload hx hb dL_law_309 (lv_at hl 1 rfl) ?_
  refine lv_icmp_eq (tgt := 316) hx hb dL_law_311 (by decide) (fun _ => ?_) (fun c9 => absurd (by decide +kernel) c9)
  refine lv_iload hx hb dL_law_316 (lv_at hl 1 rfl) ?_
  refine lv_if_ne (tgt := 333) hx hb dL_law_318 (by decide) (fun _ => ?_) (fun c9 => absurd c9 (by decide +kernel))
  refine lv_goto (tgt := 1762) hx hb dL_law_333 (by decide) ?_
  refine lv_iinc (v := nI 4) (lv' := [(4, .int (nI 4)), (6, .int (nI 0)), (5, .int (nI 1)), (0, .ref b), (1, .ref h0), (2, .ref h1), (3, .ref a9)]) hx hb dL_law_1762 hl (k := 6) rfl (by decide +kernel) (by decide) rfl (fun ls hl => ?_)
  refine lv_goto (tgt := 23) hx hb dL_law_1765 (by decide) ?_
  refine lv_iload hx hb dL_law_23 (lv_at hl 0 rfl) ?_
  refine lv_aload_n hx hb dL_law_25 rfl (lv_at hl 3 rfl) ?_
  refine va_slen hx hb hX hbl hbA hS dL_law_26 ?_
  refine w_toeq (show Int32.ofNat 4 = nI 4 from rfl) ?_
  refine lv_iconst (v := nI 4) hx hb dL_law_27 (by decide +kernel) ?_
  refine lv_isub hx hb dL_law_28 ?_
  refine w_toeq (show (nI 4) - (nI 4) = nI 0 by decide +kernel) ?_
  refine lv_icmp_gt (tgt := 1768) hx hb dL_law_29 (by decide) (fun _ => ?_) (fun c9 => absurd (by decide +kernel) c9)
  refine lv_iconst (v := nI 1) hx hb dL_law_1768 (by decide +kernel) ?_
  exact law_end hx hb hr hlk hS (by dsimp only; omega) (by dsimp only; omega) dL_law_1769
set_option maxHeartbeats 4000000 in
set_option maxRecDepth 100000 in
theorem LW6_make {p : Program} {e : Env} {s : State} {m : MethodId} {below : List Frame} {meth : Method} {c : Code} {l : Launch} {G : Nat → Nat} {D : va_G} {K : Nat → ClassId} {b : Nat} {xs : Nat → Int32} (hx : p.tables.exec = Jvm.exec) (hb : c.code = cL_law) (hr : meth.sig.returnType = some .boolean) (hlk : meth.locks = false) (hl0 : l.stackTraces = false) (hnc : Ncs s) (hml : c.maxLocals = 9) (hown : s.vm.findClass RL = some m.cls) (hts : ∀ w ∈ lw_gw, w.before #[Value.ref b] s = true) (hK : va_K D cl (tys K) s) (hm : Amb G (fun q : Nat => s.heap.size ≤ q) s s.heap) (hX : va_X b 4 xs s s.heap) (hbl : b < s.heap.size) {h0 h1 a0 a1 a2 a3 a4 a5 a6 a7 a8 a9 : Nat} (ya : Int32) (hya : ya < 0) (hx1 : xs 1 = ya) (hx2 : xs 2 = nI 3) (yc : Int32) (hx3 : xs 3 = yc) {H : Heap} {locs : List Loc} {cells slots : Nat} (hcs : cells ≤ 1000) (hss : slots ≤ 100000) (hP : va_P D cl [(h0, .inr (9, [.ref a0, .ref a1, .ref a2, .ref a3, .ref a4, .ref a5, .ref a6, .ref a7, .int (nI 0)])), (h1, .inr (12, [.int (nI 0), .ref a8]))] H) (hD : va_D (fun q : Nat => s.heap.size ≤ q) [(h0, .inr (9, [.ref a0, .ref a1, .ref a2, .ref a3, .ref a4, .ref a5, .ref a6, .ref a7, .int (nI 0)])), (h1, .inr (12, [.int (nI 0), .ref a8]))]) (hS : va_S (fun q : Nat => s.heap.size ≤ q) s.heap H locs) {ls : Array Slot} (hl : lv_has ls 9 [(0, .ref b), (1, .ref h0), (2, .ref h1), (3, .ref a9), (4, .int (nI 0))]) : W p l e room_1 s m #[Value.ref b] below meth c H locs cells slots (lw_Z below #[Value.ref b] s) (F0 m 256 ls []) := by
  have hA : ∀ q : Nat, s.heap.size ≤ q → (fun q : Nat => s.heap.size ≤ q) q := fun _ h => h
  have hbA : ¬ (fun q : Nat => s.heap.size ≤ q) b := Nat.not_le.mpr hbl
  refine lv_aload_n hx hb dL_law_256 rfl (lv_at hl 1 rfl) ?_
  refine lv_aload_n hx hb dL_law_257 rfl (lv_at hl 0 rfl) ?_
  refine lv_iload hx hb dL_law_258 (lv_at hl 4 rfl) ?_
  refine lv_iconst (v := nI 1) hx hb dL_law_260 (by decide +kernel) ?_
  refine lv_iadd hx hb dL_law_261 ?_
  refine w_toeq (show (nI 0) + (nI 1) = nI 1 by decide +kernel) ?_
  refine va_sld hx hb hX hbl hbA hS (vp_in_nI (n := 1) (by decide) (by decide)) dL_law_262 ?_
  refine w_toeq (show xs (nI 1).toNatClampNeg = ya by rw [nI_clamp (n := 1) (by decide)]; exact hx1) ?_
  refine lv_aload_n hx hb dL_law_263 rfl (lv_at hl 0 rfl) ?_
  refine lv_iload hx hb dL_law_264 (lv_at hl 4 rfl) ?_
  refine lv_iconst (v := nI 2) hx hb dL_law_266 (by decide +kernel) ?_
  refine lv_iadd hx hb dL_law_267 ?_
  refine w_toeq (show (nI 0) + (nI 2) = nI 2 by decide +kernel) ?_
  refine va_sld hx hb hX hbl hbA hS (vp_in_nI (n := 2) (by decide) (by decide)) dL_law_268 ?_
  refine w_toeq (show xs (nI 2).toNatClampNeg = nI 3 by rw [nI_clamp (n := 2) (by decide)]; exact hx2) ?_
  refine lv_aload_n hx hb dL_law_269 rfl (lv_at hl 0 rfl) ?_
  refine lv_iload hx hb dL_law_270 (lv_at hl 4 rfl) ?_
  refine lv_iconst (v := nI 3) hx hb dL_law_272 (by decide +kernel) ?_
  refine lv_iadd hx hb dL_law_273 ?_
  refine w_toeq (show (nI 0) + (nI 3) = nI 3 by decide +kernel) ?_
  refine va_sld hx hb hX hbl hbA hS (vp_in_nI (n := 3) (by decide) (by decide)) dL_law_274 ?_
  refine w_toeq (show xs (nI 3).toNatClampNeg = yc by rw [nI_clamp (n := 3) (by decide)]; exact hx3) ?_
  refine lv_aload_n hx hb dL_law_275 rfl (lv_at hl 3 rfl) ?_
  refine k_i (wr := [(h1, .inr (12, [.int (nI 0), .ref a8]))]) (run_SW hnc (rest := []) hx hb hml hown hts hK hP hD hS hA hm (C1064_make l G D K hl0 H.size h0 a9 (.ref a0) (.ref a1) (.ref a2) (.ref a3) (.ref a4) (.ref a5) (.ref a6) (.ref a7) (.int (nI 0)) ya hya yc) [0] rfl rfl mokh_yL_make w_786 w_787 ⟨Nat.le_of_ble_eq_true rfl, Nat.le_of_ble_eq_true rfl⟩ rfl hl.1 rfl (Nat.le_of_ble_eq_true rfl) dL_law_276 ⟨(by dsimp only [room_1]; omega), (by dsimp only [room_1]; omega)⟩) hP hD hS hA [0] [1] rfl rfl rfl (by decide) (w2 := fun u0 => [(h1, .inr (12, [.int (nI 0), .ref a8])), (h0, .inr (9, [.ref a0, .ref a1, .ref a2, .ref a3, .ref a4, .ref a5, .ref a6, .ref a7, .int (nI 0)]))]) (fun _ => rfl) (fun u0 H locs hP hD hS => ?_)
  refine lv_istore (lv' := [(5, .int (nI 1)), (0, .ref b), (1, .ref h0), (2, .ref h1), (3, .ref a9), (4, .int (nI 0))]) hx hb dL_law_279 hl (by decide) rfl (fun ls hl => ?_)
  refine lv_aload_n hx hb dL_law_281 rfl (lv_at hl 3 rfl) ?_
  refine lv_aload_n hx hb dL_law_282 rfl (lv_at hl 1 rfl) ?_
  refine lv_iload hx hb dL_law_283 (lv_at hl 5 rfl) ?_
  refine lv_iconst (v := nI 1) hx hb dL_law_285 (by decide +kernel) ?_
  refine lv_iadd hx hb dL_law_286 ?_
  refine w_toeq (show (nI 0) + (nI 1) = nI 1 by decide +kernel) ?_
  refine va_sld hx hb hX hbl hbA hS (vp_in_nI (n := 1) (by decide) (by decide)) dL_law_287 ?_
  refine w_toeq (show xs (nI 1).toNatClampNeg = ya by rw [nI_clamp (n := 1) (by decide)]; exact hx1) ?_
  refine lv_aload_n hx hb dL_law_288 rfl (lv_at hl 1 rfl) ?_
  refine lv_iload hx hb dL_law_289 (lv_at hl 5 rfl) ?_
  refine lv_iconst (v := nI 2) hx hb dL_law_291 (by decide +kernel) ?_
  refine lv_iadd hx hb dL_law_292 ?_
  refine w_toeq (show (nI 0) + (nI 2) = nI 2 by decide +kernel) ?_
  refine va_sld hx hb hX hbl hbA hS (vp_in_nI (n := 2) (by decide) (by decide)) dL_law_293 ?_
  refine w_toeq (show xs (nI 2).toNatClampNeg = nI 3 by rw [nI_clamp (n := 2) (by decide)]; exact hx2) ?_
  refine lv_aload_n hx hb dL_law_294 rfl (lv_at hl 1 rfl) ?_
  refine lv_iload hx hb dL_law_295 (lv_at hl 5 rfl) ?_
  refine lv_iconst (v := nI 3) hx hb dL_law_297 (by decide +kernel) ?_
  refine lv_iadd hx hb dL_law_298 ?_
  refine w_toeq (show (nI 0) + (nI 3) = nI 3 by decide +kernel) ?_
  refine va_sld hx hb hX hbl hbA hS (vp_in_nI (n := 3) (by decide) (by decide)) dL_law_299 ?_
  refine w_toeq (show xs (nI 3).toNatClampNeg = yc by rw [nI_clamp (n := 3) (by decide)]; exact hx3) ?_
  refine k_i (wr := [(h0, .inr (9, [.ref a0, .ref a1, .ref a2, .ref a3, .ref a4, .ref a5, .ref a6, .ref a7, .int (nI 0)]))]) (run_V (rest := []) hx hb hml hown hts hK hP hD hS hA hm (C47_make l G D K H.size h1 (.ref a8) ya hya yc) [0] rfl rfl mok_yX12_make w_1341 w_1342 w_1343 (rcv hK hP 0 rfl rfl rfl) ⟨Nat.le_of_ble_eq_true rfl, Nat.le_of_ble_eq_true rfl⟩ rfl hl.1 rfl (Nat.le_of_ble_eq_true rfl) dL_law_300 ⟨(by dsimp only [room_1]; omega), (by dsimp only [room_1]; omega)⟩) hP hD hS hA [0] [1] rfl rfl rfl (by decide) (w2 := fun u1 => [(h0, .inr (9, [.ref a0, .ref a1, .ref a2, .ref a3, .ref a4, .ref a5, .ref a6, .ref a7, .int (nI 0)])), (h1, .inr (12, [.int (nI 1), .ref a8]))]) (fun _ => rfl) (fun u1 H locs hP hD hS => ?_)
  refine lv_istore (lv' := [(6, .int (nI 0)), (5, .int (nI 1)), (0, .ref b), (1, .ref h0), (2, .ref h1), (3, .ref a9), (4, .int (nI 0))]) hx hb dL_law_303 hl (by decide) rfl (fun ls hl => ?_)
  refine lv_aload_n hx hb dL_law_305 rfl (lv_at hl 4 rfl) ?_
  refine k_i (wr := [(h0, .inr (9, [.ref a0, .ref a1, .ref a2, .ref a3, .ref a4, .ref a5, .ref a6, .ref a7, .int (nI 0)]))]) (run_V (rest := []) hx hb hml hown hts hK hP hD hS hA hm (C1059_thrown l G D K H.size h1 (.ref a8)) [1] rfl rfl mok_yX12_thrown w_1300 w_1301 w_1302 (rcv hK hP 1 rfl rfl rfl) ⟨Nat.le_of_ble_eq_true rfl, Nat.le_of_ble_eq_true rfl⟩ rfl hl.1 rfl (Nat.le_of_ble_eq_true rfl) dL_law_306 ⟨(by dsimp only [room_1]; omega), (by dsimp only [room_1]; omega)⟩) hP hD hS hA [1] [0] rfl rfl rfl (by decide) (w2 := fun u2 => [(h0, .inr (9, [.ref a0, .ref a1, .ref a2, .ref a3, .ref a4, .ref a5, .ref a6, .ref a7, .int (nI 0)])), (h1, .inr (12, [.int (nI 1), .ref a8]))]) (fun _ => rfl) (fun u2 H locs hP hD hS => ?_)
  refine lv_iload hx hb dL_law_309 (lv_at hl 1 rfl) ?_
  refine lv_icmp_eq (tgt := 316) hx hb dL_law_311 (by decide) (fun _ => ?_) (fun c9 => absurd (by decide +kernel) c9)
  refine lv_iload hx hb dL_law_316 (lv_at hl 1 rfl) ?_
  refine lv_if_ne (tgt := 333) hx hb dL_law_318 (by decide) (fun _ => ?_) (fun c9 => absurd c9 (by decide +kernel))
  refine lv_goto (tgt := 1762) hx hb dL_law_333 (by decide) ?_
  refine lv_iinc (v := nI 4) (lv' := [(4, .int (nI 4)), (6, .int (nI 0)), (5, .int (nI 1)), (0, .ref b), (1, .ref h0), (2, .ref h1), (3, .ref a9)]) hx hb dL_law_1762 hl (k := 6) rfl (by decide +kernel) (by decide) rfl (fun ls hl => ?_)
  refine lv_goto (tgt := 23) hx hb dL_law_1765 (by decide) ?_
  refine lv_iload hx hb dL_law_23 (lv_at hl 0 rfl) ?_
  refine lv_aload_n hx hb dL_law_25 rfl (lv_at hl 3 rfl) ?_
  refine va_slen hx hb hX hbl hbA hS dL_law_26 ?_
  refine w_toeq (show Int32.ofNat 4 = nI 4 from rfl) ?_
  refine lv_iconst (v := nI 4) hx hb dL_law_27 (by decide +kernel) ?_
  refine lv_isub hx hb dL_law_28 ?_
  refine w_toeq (show (nI 4) - (nI 4) = nI 0 by decide +kernel) ?_
  refine lv_icmp_gt (tgt := 1768) hx hb dL_law_29 (by decide) (fun _ => ?_) (fun c9 => absurd (by decide +kernel) c9)
  refine lv_iconst (v := nI 1) hx hb dL_law_1768 (by decide +kernel) ?_
  exact law_end hx hb hr hlk hS (by dsimp only; omega) (by dsimp only; omega) dL_law_1769
set_option maxHeartbeats 4000000 in
set_option maxRecDepth 100000 in
theorem LW7_make {p : Program} {e : Env} {s : State} {m : MethodId} {below : List Frame} {meth : Method} {c : Code} {l : Launch} {G : Nat → Nat} {D : va_G} {K : Nat → ClassId} {b : Nat} {xs : Nat → Int32} (hx : p.tables.exec = Jvm.exec) (hb : c.code = cL_law) (hr : meth.sig.returnType = some .boolean) (hlk : meth.locks = false) (hl0 : l.stackTraces = false) (hnc : Ncs s) (hml : c.maxLocals = 9) (hown : s.vm.findClass RL = some m.cls) (hts : ∀ w ∈ lw_gw, w.before #[Value.ref b] s = true) (hK : va_K D cl (tys K) s) (hm : Amb G (fun q : Nat => s.heap.size ≤ q) s s.heap) (hX : va_X b 4 xs s s.heap) (hbl : b < s.heap.size) {h0 h1 a0 a1 a2 a3 a4 a5 a6 a7 a8 a9 : Nat} (ya : Int32) (hya : ya < 0) (hx1 : xs 1 = ya) (hx2 : xs 2 = nI 4) (yc : Int32) (hx3 : xs 3 = yc) {H : Heap} {locs : List Loc} {cells slots : Nat} (hcs : cells ≤ 1000) (hss : slots ≤ 100000) (hP : va_P D cl [(h0, .inr (9, [.ref a0, .ref a1, .ref a2, .ref a3, .ref a4, .ref a5, .ref a6, .ref a7, .int (nI 0)])), (h1, .inr (12, [.int (nI 0), .ref a8]))] H) (hD : va_D (fun q : Nat => s.heap.size ≤ q) [(h0, .inr (9, [.ref a0, .ref a1, .ref a2, .ref a3, .ref a4, .ref a5, .ref a6, .ref a7, .int (nI 0)])), (h1, .inr (12, [.int (nI 0), .ref a8]))]) (hS : va_S (fun q : Nat => s.heap.size ≤ q) s.heap H locs) {ls : Array Slot} (hl : lv_has ls 9 [(0, .ref b), (1, .ref h0), (2, .ref h1), (3, .ref a9), (4, .int (nI 0))]) : W p l e room_1 s m #[Value.ref b] below meth c H locs cells slots (lw_Z below #[Value.ref b] s) (F0 m 256 ls []) := by
  have hA : ∀ q : Nat, s.heap.size ≤ q → (fun q : Nat => s.heap.size ≤ q) q := fun _ h => h
  have hbA : ¬ (fun q : Nat => s.heap.size ≤ q) b := Nat.not_le.mpr hbl
  refine lv_aload_n hx hb dL_law_256 rfl (lv_at hl 1 rfl) ?_
  refine lv_aload_n hx hb dL_law_257 rfl (lv_at hl 0 rfl) ?_
  refine lv_iload hx hb dL_law_258 (lv_at hl 4 rfl) ?_
  refine lv_iconst (v := nI 1) hx hb dL_law_260 (by decide +kernel) ?_
  refine lv_iadd hx hb dL_law_261 ?_
  refine w_toeq (show (nI 0) + (nI 1) = nI 1 by decide +kernel) ?_
  refine va_sld hx hb hX hbl hbA hS (vp_in_nI (n := 1) (by decide) (by decide)) dL_law_262 ?_
  refine w_toeq (show xs (nI 1).toNatClampNeg = ya by rw [nI_clamp (n := 1) (by decide)]; exact hx1) ?_
  refine lv_aload_n hx hb dL_law_263 rfl (lv_at hl 0 rfl) ?_
  refine lv_iload hx hb dL_law_264 (lv_at hl 4 rfl) ?_
  refine lv_iconst (v := nI 2) hx hb dL_law_266 (by decide +kernel) ?_
  refine lv_iadd hx hb dL_law_267 ?_
  refine w_toeq (show (nI 0) + (nI 2) = nI 2 by decide +kernel) ?_
  refine va_sld hx hb hX hbl hbA hS (vp_in_nI (n := 2) (by decide) (by decide)) dL_law_268 ?_
  refine w_toeq (show xs (nI 2).toNatClampNeg = nI 4 by rw [nI_clamp (n := 2) (by decide)]; exact hx2) ?_
  refine lv_aload_n hx hb dL_law_269 rfl (lv_at hl 0 rfl) ?_
  refine lv_iload hx hb dL_law_270 (lv_at hl 4 rfl) ?_
  refine lv_iconst (v := nI 3) hx hb dL_law_272 (by decide +kernel) ?_
  refine lv_iadd hx hb dL_law_273 ?_
  refine w_toeq (show (nI 0) + (nI 3) = nI 3 by decide +kernel) ?_
  refine va_sld hx hb hX hbl hbA hS (vp_in_nI (n := 3) (by decide) (by decide)) dL_law_274 ?_
  refine w_toeq (show xs (nI 3).toNatClampNeg = yc by rw [nI_clamp (n := 3) (by decide)]; exact hx3) ?_
  refine lv_aload_n hx hb dL_law_275 rfl (lv_at hl 3 rfl) ?_
  refine k_i (wr := [(h1, .inr (12, [.int (nI 0), .ref a8]))]) (run_SW hnc (rest := []) hx hb hml hown hts hK hP hD hS hA hm (C1065_make l G D K hl0 H.size h0 a9 (.ref a0) (.ref a1) (.ref a2) (.ref a3) (.ref a4) (.ref a5) (.ref a6) (.ref a7) (.int (nI 0)) ya hya yc) [0] rfl rfl mokh_yL_make w_786 w_787 ⟨Nat.le_of_ble_eq_true rfl, Nat.le_of_ble_eq_true rfl⟩ rfl hl.1 rfl (Nat.le_of_ble_eq_true rfl) dL_law_276 ⟨(by dsimp only [room_1]; omega), (by dsimp only [room_1]; omega)⟩) hP hD hS hA [0] [1] rfl rfl rfl (by decide) (w2 := fun u0 => [(h1, .inr (12, [.int (nI 0), .ref a8])), (h0, .inr (9, [.ref a0, .ref a1, .ref a2, .ref a3, .ref a4, .ref a5, .ref a6, .ref a7, .int (nI 0)]))]) (fun _ => rfl) (fun u0 H locs hP hD hS => ?_)
  refine lv_istore (lv' := [(5, .int (nI 1)), (0, .ref b), (1, .ref h0), (2, .ref h1), (3, .ref a9), (4, .int (nI 0))]) hx hb dL_law_279 hl (by decide) rfl (fun ls hl => ?_)
  refine lv_aload_n hx hb dL_law_281 rfl (lv_at hl 3 rfl) ?_
  refine lv_aload_n hx hb dL_law_282 rfl (lv_at hl 1 rfl) ?_
  refine lv_iload hx hb dL_law_283 (lv_at hl 5 rfl) ?_
  refine lv_iconst (v := nI 1) hx hb dL_law_285 (by decide +kernel) ?_
  refine lv_iadd hx hb dL_law_286 ?_
  refine w_toeq (show (nI 0) + (nI 1) = nI 1 by decide +kernel) ?_
  refine va_sld hx hb hX hbl hbA hS (vp_in_nI (n := 1) (by decide) (by decide)) dL_law_287 ?_
  refine w_toeq (show xs (nI 1).toNatClampNeg = ya by rw [nI_clamp (n := 1) (by decide)]; exact hx1) ?_
  refine lv_aload_n hx hb dL_law_288 rfl (lv_at hl 1 rfl) ?_
  refine lv_iload hx hb dL_law_289 (lv_at hl 5 rfl) ?_
  refine lv_iconst (v := nI 2) hx hb dL_law_291 (by decide +kernel) ?_
  refine lv_iadd hx hb dL_law_292 ?_
  refine w_toeq (show (nI 0) + (nI 2) = nI 2 by decide +kernel) ?_
  refine va_sld hx hb hX hbl hbA hS (vp_in_nI (n := 2) (by decide) (by decide)) dL_law_293 ?_
  refine w_toeq (show xs (nI 2).toNatClampNeg = nI 4 by rw [nI_clamp (n := 2) (by decide)]; exact hx2) ?_
  refine lv_aload_n hx hb dL_law_294 rfl (lv_at hl 1 rfl) ?_
  refine lv_iload hx hb dL_law_295 (lv_at hl 5 rfl) ?_
  refine lv_iconst (v := nI 3) hx hb dL_law_297 (by decide +kernel) ?_
  refine lv_iadd hx hb dL_law_298 ?_
  refine w_toeq (show (nI 0) + (nI 3) = nI 3 by decide +kernel) ?_
  refine va_sld hx hb hX hbl hbA hS (vp_in_nI (n := 3) (by decide) (by decide)) dL_law_299 ?_
  refine w_toeq (show xs (nI 3).toNatClampNeg = yc by rw [nI_clamp (n := 3) (by decide)]; exact hx3) ?_
  refine k_i (wr := [(h0, .inr (9, [.ref a0, .ref a1, .ref a2, .ref a3, .ref a4, .ref a5, .ref a6, .ref a7, .int (nI 0)]))]) (run_V (rest := []) hx hb hml hown hts hK hP hD hS hA hm (C49_make l G D K H.size h1 (.ref a8) ya hya yc) [0] rfl rfl mok_yX12_make w_1341 w_1342 w_1343 (rcv hK hP 0 rfl rfl rfl) ⟨Nat.le_of_ble_eq_true rfl, Nat.le_of_ble_eq_true rfl⟩ rfl hl.1 rfl (Nat.le_of_ble_eq_true rfl) dL_law_300 ⟨(by dsimp only [room_1]; omega), (by dsimp only [room_1]; omega)⟩) hP hD hS hA [0] [1] rfl rfl rfl (by decide) (w2 := fun u1 => [(h0, .inr (9, [.ref a0, .ref a1, .ref a2, .ref a3, .ref a4, .ref a5, .ref a6, .ref a7, .int (nI 0)])), (h1, .inr (12, [.int (nI 1), .ref a8]))]) (fun _ => rfl) (fun u1 H locs hP hD hS => ?_)
  refine lv_istore (lv' := [(6, .int (nI 0)), (5, .int (nI 1)), (0, .ref b), (1, .ref h0), (2, .ref h1), (3, .ref a9), (4, .int (nI 0))]) hx hb dL_law_303 hl (by decide) rfl (fun ls hl => ?_)
  refine lv_aload_n hx hb dL_law_305 rfl (lv_at hl 4 rfl) ?_
  refine k_i (wr := [(h0, .inr (9, [.ref a0, .ref a1, .ref a2, .ref a3, .ref a4, .ref a5, .ref a6, .ref a7, .int (nI 0)]))]) (run_V (rest := []) hx hb hml hown hts hK hP hD hS hA hm (C1059_thrown l G D K H.size h1 (.ref a8)) [1] rfl rfl mok_yX12_thrown w_1300 w_1301 w_1302 (rcv hK hP 1 rfl rfl rfl) ⟨Nat.le_of_ble_eq_true rfl, Nat.le_of_ble_eq_true rfl⟩ rfl hl.1 rfl (Nat.le_of_ble_eq_true rfl) dL_law_306 ⟨(by dsimp only [room_1]; omega), (by dsimp only [room_1]; omega)⟩) hP hD hS hA [1] [0] rfl rfl rfl (by decide) (w2 := fun u2 => [(h0, .inr (9, [.ref a0, .ref a1, .ref a2, .ref a3, .ref a4, .ref a5, .ref a6, .ref a7, .int (nI 0)])), (h1, .inr (12, [.int (nI 1), .ref a8]))]) (fun _ => rfl) (fun u2 H locs hP hD hS => ?_)
  refine lv_iload hx hb dL_law_309 (lv_at hl 1 rfl) ?_
  refine lv_icmp_eq (tgt := 316) hx hb dL_law_311 (by decide) (fun _ => ?_) (fun c9 => absurd (by decide +kernel) c9)
  refine lv_iload hx hb dL_law_316 (lv_at hl 1 rfl) ?_
  refine lv_if_ne (tgt := 333) hx hb dL_law_318 (by decide) (fun _ => ?_) (fun c9 => absurd c9 (by decide +kernel))
  refine lv_goto (tgt := 1762) hx hb dL_law_333 (by decide) ?_
  refine lv_iinc (v := nI 4) (lv' := [(4, .int (nI 4)), (6, .int (nI 0)), (5, .int (nI 1)), (0, .ref b), (1, .ref h0), (2, .ref h1), (3, .ref a9)]) hx hb dL_law_1762 hl (k := 6) rfl (by decide +kernel) (by decide) rfl (fun ls hl => ?_)
  refine lv_goto (tgt := 23) hx hb dL_law_1765 (by decide) ?_
  refine lv_iload hx hb dL_law_23 (lv_at hl 0 rfl) ?_
  refine lv_aload_n hx hb dL_law_25 rfl (lv_at hl 3 rfl) ?_
  refine va_slen hx hb hX hbl hbA hS dL_law_26 ?_
  refine w_toeq (show Int32.ofNat 4 = nI 4 from rfl) ?_
  refine lv_iconst (v := nI 4) hx hb dL_law_27 (by decide +kernel) ?_
  refine lv_isub hx hb dL_law_28 ?_
  refine w_toeq (show (nI 4) - (nI 4) = nI 0 by decide +kernel) ?_
  refine lv_icmp_gt (tgt := 1768) hx hb dL_law_29 (by decide) (fun _ => ?_) (fun c9 => absurd (by decide +kernel) c9)
  refine lv_iconst (v := nI 1) hx hb dL_law_1768 (by decide +kernel) ?_
  exact law_end hx hb hr hlk hS (by dsimp only; omega) (by dsimp only; omega) dL_law_1769
set_option maxHeartbeats 4000000 in
set_option maxRecDepth 100000 in
theorem LW8_make {p : Program} {e : Env} {s : State} {m : MethodId} {below : List Frame} {meth : Method} {c : Code} {l : Launch} {G : Nat → Nat} {D : va_G} {K : Nat → ClassId} {b : Nat} {xs : Nat → Int32} (hx : p.tables.exec = Jvm.exec) (hb : c.code = cL_law) (hr : meth.sig.returnType = some .boolean) (hlk : meth.locks = false) (hl0 : l.stackTraces = false) (hnc : Ncs s) (hml : c.maxLocals = 9) (hown : s.vm.findClass RL = some m.cls) (hts : ∀ w ∈ lw_gw, w.before #[Value.ref b] s = true) (hK : va_K D cl (tys K) s) (hm : Amb G (fun q : Nat => s.heap.size ≤ q) s s.heap) (hX : va_X b 4 xs s s.heap) (hbl : b < s.heap.size) {h0 h1 a0 a1 a2 a3 a4 a5 a6 a7 a8 a9 : Nat} (ya : Int32) (hya : ya < 0) (hx1 : xs 1 = ya) (yb : Nat) (lyb : 5 ≤ yb) (gyb : yb ≤ 2147483647) (hx2 : xs 2 = nI yb) (yc : Int32) (hx3 : xs 3 = yc) {H : Heap} {locs : List Loc} {cells slots : Nat} (hcs : cells ≤ 1000) (hss : slots ≤ 100000) (hP : va_P D cl [(h0, .inr (9, [.ref a0, .ref a1, .ref a2, .ref a3, .ref a4, .ref a5, .ref a6, .ref a7, .int (nI 0)])), (h1, .inr (12, [.int (nI 0), .ref a8]))] H) (hD : va_D (fun q : Nat => s.heap.size ≤ q) [(h0, .inr (9, [.ref a0, .ref a1, .ref a2, .ref a3, .ref a4, .ref a5, .ref a6, .ref a7, .int (nI 0)])), (h1, .inr (12, [.int (nI 0), .ref a8]))]) (hS : va_S (fun q : Nat => s.heap.size ≤ q) s.heap H locs) {ls : Array Slot} (hl : lv_has ls 9 [(0, .ref b), (1, .ref h0), (2, .ref h1), (3, .ref a9), (4, .int (nI 0))]) : W p l e room_1 s m #[Value.ref b] below meth c H locs cells slots (lw_Z below #[Value.ref b] s) (F0 m 256 ls []) := by
  have hA : ∀ q : Nat, s.heap.size ≤ q → (fun q : Nat => s.heap.size ≤ q) q := fun _ h => h
  have hbA : ¬ (fun q : Nat => s.heap.size ≤ q) b := Nat.not_le.mpr hbl
  refine lv_aload_n hx hb dL_law_256 rfl (lv_at hl 1 rfl) ?_
  refine lv_aload_n hx hb dL_law_257 rfl (lv_at hl 0 rfl) ?_
  refine lv_iload hx hb dL_law_258 (lv_at hl 4 rfl) ?_
  refine lv_iconst (v := nI 1) hx hb dL_law_260 (by decide +kernel) ?_
  refine lv_iadd hx hb dL_law_261 ?_
  refine w_toeq (show (nI 0) + (nI 1) = nI 1 by decide +kernel) ?_
  refine va_sld hx hb hX hbl hbA hS (vp_in_nI (n := 1) (by decide) (by decide)) dL_law_262 ?_
  refine w_toeq (show xs (nI 1).toNatClampNeg = ya by rw [nI_clamp (n := 1) (by decide)]; exact hx1) ?_
  refine lv_aload_n hx hb dL_law_263 rfl (lv_at hl 0 rfl) ?_
  refine lv_iload hx hb dL_law_264 (lv_at hl 4 rfl) ?_
  refine lv_iconst (v := nI 2) hx hb dL_law_266 (by decide +kernel) ?_
  refine lv_iadd hx hb dL_law_267 ?_
  refine w_toeq (show (nI 0) + (nI 2) = nI 2 by decide +kernel) ?_
  refine va_sld hx hb hX hbl hbA hS (vp_in_nI (n := 2) (by decide) (by decide)) dL_law_268 ?_
  refine w_toeq (show xs (nI 2).toNatClampNeg = nI yb by rw [nI_clamp (n := 2) (by decide)]; exact hx2) ?_
  refine lv_aload_n hx hb dL_law_269 rfl (lv_at hl 0 rfl) ?_
  refine lv_iload hx hb dL_law_270 (lv_at hl 4 rfl) ?_
  refine lv_iconst (v := nI 3) hx hb dL_law_272 (by decide +kernel) ?_
  refine lv_iadd hx hb dL_law_273 ?_
  refine w_toeq (show (nI 0) + (nI 3) = nI 3 by decide +kernel) ?_
  refine va_sld hx hb hX hbl hbA hS (vp_in_nI (n := 3) (by decide) (by decide)) dL_law_274 ?_
  refine w_toeq (show xs (nI 3).toNatClampNeg = yc by rw [nI_clamp (n := 3) (by decide)]; exact hx3) ?_
  refine lv_aload_n hx hb dL_law_275 rfl (lv_at hl 3 rfl) ?_
  refine k_i (wr := [(h1, .inr (12, [.int (nI 0), .ref a8]))]) (run_SW hnc (rest := []) hx hb hml hown hts hK hP hD hS hA hm (C1066_make l G D K hl0 H.size h0 a9 (.ref a0) (.ref a1) (.ref a2) (.ref a3) (.ref a4) (.ref a5) (.ref a6) (.ref a7) (.int (nI 0)) yb (by omega) (by omega) ya hya yc) [0] rfl rfl mokh_yL_make w_786 w_787 ⟨Nat.le_of_ble_eq_true rfl, Nat.le_of_ble_eq_true rfl⟩ rfl hl.1 rfl (Nat.le_of_ble_eq_true rfl) dL_law_276 ⟨(by dsimp only [room_1]; omega), (by dsimp only [room_1]; omega)⟩) hP hD hS hA [0] [1] rfl rfl rfl (by decide) (w2 := fun u0 => [(h1, .inr (12, [.int (nI 0), .ref a8])), (h0, .inr (9, [.ref a0, .ref a1, .ref a2, .ref a3, .ref a4, .ref a5, .ref a6, .ref a7, .int (nI 0)]))]) (fun _ => rfl) (fun u0 H locs hP hD hS => ?_)
  refine lv_istore (lv' := [(5, .int (nI 1)), (0, .ref b), (1, .ref h0), (2, .ref h1), (3, .ref a9), (4, .int (nI 0))]) hx hb dL_law_279 hl (by decide) rfl (fun ls hl => ?_)
  refine lv_aload_n hx hb dL_law_281 rfl (lv_at hl 3 rfl) ?_
  refine lv_aload_n hx hb dL_law_282 rfl (lv_at hl 1 rfl) ?_
  refine lv_iload hx hb dL_law_283 (lv_at hl 5 rfl) ?_
  refine lv_iconst (v := nI 1) hx hb dL_law_285 (by decide +kernel) ?_
  refine lv_iadd hx hb dL_law_286 ?_
  refine w_toeq (show (nI 0) + (nI 1) = nI 1 by decide +kernel) ?_
  refine va_sld hx hb hX hbl hbA hS (vp_in_nI (n := 1) (by decide) (by decide)) dL_law_287 ?_
  refine w_toeq (show xs (nI 1).toNatClampNeg = ya by rw [nI_clamp (n := 1) (by decide)]; exact hx1) ?_
  refine lv_aload_n hx hb dL_law_288 rfl (lv_at hl 1 rfl) ?_
  refine lv_iload hx hb dL_law_289 (lv_at hl 5 rfl) ?_
  refine lv_iconst (v := nI 2) hx hb dL_law_291 (by decide +kernel) ?_
  refine lv_iadd hx hb dL_law_292 ?_
  refine w_toeq (show (nI 0) + (nI 2) = nI 2 by decide +kernel) ?_
  refine va_sld hx hb hX hbl hbA hS (vp_in_nI (n := 2) (by decide) (by decide)) dL_law_293 ?_
  refine w_toeq (show xs (nI 2).toNatClampNeg = nI yb by rw [nI_clamp (n := 2) (by decide)]; exact hx2) ?_
  refine lv_aload_n hx hb dL_law_294 rfl (lv_at hl 1 rfl) ?_
  refine lv_iload hx hb dL_law_295 (lv_at hl 5 rfl) ?_
  refine lv_iconst (v := nI 3) hx hb dL_law_297 (by decide +kernel) ?_
  refine lv_iadd hx hb dL_law_298 ?_
  refine w_toeq (show (nI 0) + (nI 3) = nI 3 by decide +kernel) ?_
  refine va_sld hx hb hX hbl hbA hS (vp_in_nI (n := 3) (by decide) (by decide)) dL_law_299 ?_
  refine w_toeq (show xs (nI 3).toNatClampNeg = yc by rw [nI_clamp (n := 3) (by decide)]; exact hx3) ?_
  refine k_i (wr := [(h0, .inr (9, [.ref a0, .ref a1, .ref a2, .ref a3, .ref a4, .ref a5, .ref a6, .ref a7, .int (nI 0)]))]) (run_V (rest := []) hx hb hml hown hts hK hP hD hS hA hm (C51_make l G D K H.size h1 (.ref a8) yb (by omega) (by omega) ya hya yc) [0] rfl rfl mok_yX12_make w_1341 w_1342 w_1343 (rcv hK hP 0 rfl rfl rfl) ⟨Nat.le_of_ble_eq_true rfl, Nat.le_of_ble_eq_true rfl⟩ rfl hl.1 rfl (Nat.le_of_ble_eq_true rfl) dL_law_300 ⟨(by dsimp only [room_1]; omega), (by dsimp only [room_1]; omega)⟩) hP hD hS hA [0] [1] rfl rfl rfl (by decide) (w2 := fun u1 => [(h0, .inr (9, [.ref a0, .ref a1, .ref a2, .ref a3, .ref a4, .ref a5, .ref a6, .ref a7, .int (nI 0)])), (h1, .inr (12, [.int (nI 1), .ref a8]))]) (fun _ => rfl) (fun u1 H locs hP hD hS => ?_)
  refine lv_istore (lv' := [(6, .int (nI 0)), (5, .int (nI 1)), (0, .ref b), (1, .ref h0), (2, .ref h1), (3, .ref a9), (4, .int (nI 0))]) hx hb dL_law_303 hl (by decide) rfl (fun ls hl => ?_)
  refine lv_aload_n hx hb dL_law_305 rfl (lv_at hl 4 rfl) ?_
  refine k_i (wr := [(h0, .inr (9, [.ref a0, .ref a1, .ref a2, .ref a3, .ref a4, .ref a5, .ref a6, .ref a7, .int (nI 0)]))]) (run_V (rest := []) hx hb hml hown hts hK hP hD hS hA hm (C1059_thrown l G D K H.size h1 (.ref a8)) [1] rfl rfl mok_yX12_thrown w_1300 w_1301 w_1302 (rcv hK hP 1 rfl rfl rfl) ⟨Nat.le_of_ble_eq_true rfl, Nat.le_of_ble_eq_true rfl⟩ rfl hl.1 rfl (Nat.le_of_ble_eq_true rfl) dL_law_306 ⟨(by dsimp only [room_1]; omega), (by dsimp only [room_1]; omega)⟩) hP hD hS hA [1] [0] rfl rfl rfl (by decide) (w2 := fun u2 => [(h0, .inr (9, [.ref a0, .ref a1, .ref a2, .ref a3, .ref a4, .ref a5, .ref a6, .ref a7, .int (nI 0)])), (h1, .inr (12, [.int (nI 1), .ref a8]))]) (fun _ => rfl) (fun u2 H locs hP hD hS => ?_)
  refine lv_iload hx hb dL_law_309 (lv_at hl 1 rfl) ?_
  refine lv_icmp_eq (tgt := 316) hx hb dL_law_311 (by decide) (fun _ => ?_) (fun c9 => absurd (by decide +kernel) c9)
  refine lv_iload hx hb dL_law_316 (lv_at hl 1 rfl) ?_
  refine lv_if_ne (tgt := 333) hx hb dL_law_318 (by decide) (fun _ => ?_) (fun c9 => absurd c9 (by decide +kernel))
  refine lv_goto (tgt := 1762) hx hb dL_law_333 (by decide) ?_
  refine lv_iinc (v := nI 4) (lv' := [(4, .int (nI 4)), (6, .int (nI 0)), (5, .int (nI 1)), (0, .ref b), (1, .ref h0), (2, .ref h1), (3, .ref a9)]) hx hb dL_law_1762 hl (k := 6) rfl (by decide +kernel) (by decide) rfl (fun ls hl => ?_)
  refine lv_goto (tgt := 23) hx hb dL_law_1765 (by decide) ?_
  refine lv_iload hx hb dL_law_23 (lv_at hl 0 rfl) ?_
  refine lv_aload_n hx hb dL_law_25 rfl (lv_at hl 3 rfl) ?_
  refine va_slen hx hb hX hbl hbA hS dL_law_26 ?_
  refine w_toeq (show Int32.ofNat 4 = nI 4 from rfl) ?_
  refine lv_iconst (v := nI 4) hx hb dL_law_27 (by decide +kernel) ?_
  refine lv_isub hx hb dL_law_28 ?_
  refine w_toeq (show (nI 4) - (nI 4) = nI 0 by decide +kernel) ?_
  refine lv_icmp_gt (tgt := 1768) hx hb dL_law_29 (by decide) (fun _ => ?_) (fun c9 => absurd (by decide +kernel) c9)
  refine lv_iconst (v := nI 1) hx hb dL_law_1768 (by decide +kernel) ?_
  exact law_end hx hb hr hlk hS (by dsimp only; omega) (by dsimp only; omega) dL_law_1769
set_option maxHeartbeats 4000000 in
set_option maxRecDepth 100000 in
theorem LW9_make {p : Program} {e : Env} {s : State} {m : MethodId} {below : List Frame} {meth : Method} {c : Code} {l : Launch} {G : Nat → Nat} {D : va_G} {K : Nat → ClassId} {b : Nat} {xs : Nat → Int32} (hx : p.tables.exec = Jvm.exec) (hb : c.code = cL_law) (hr : meth.sig.returnType = some .boolean) (hlk : meth.locks = false) (hl0 : l.stackTraces = false) (hnc : Ncs s) (hml : c.maxLocals = 9) (hown : s.vm.findClass RL = some m.cls) (hts : ∀ w ∈ lw_gw, w.before #[Value.ref b] s = true) (hK : va_K D cl (tys K) s) (hm : Amb G (fun q : Nat => s.heap.size ≤ q) s s.heap) (hX : va_X b 4 xs s s.heap) (hbl : b < s.heap.size) {h0 h1 a0 a1 a2 a3 a4 a5 a6 a7 a8 a9 : Nat} (ya : Nat) (lya : 4 ≤ ya) (gya : ya ≤ 2147483647) (hx1 : xs 1 = nI ya) (yb : Int32) (hyb : yb < 0) (hx2 : xs 2 = yb) (yc : Int32) (hx3 : xs 3 = yc) {H : Heap} {locs : List Loc} {cells slots : Nat} (hcs : cells ≤ 1000) (hss : slots ≤ 100000) (hP : va_P D cl [(h0, .inr (9, [.ref a0, .ref a1, .ref a2, .ref a3, .ref a4, .ref a5, .ref a6, .ref a7, .int (nI 0)])), (h1, .inr (12, [.int (nI 0), .ref a8]))] H) (hD : va_D (fun q : Nat => s.heap.size ≤ q) [(h0, .inr (9, [.ref a0, .ref a1, .ref a2, .ref a3, .ref a4, .ref a5, .ref a6, .ref a7, .int (nI 0)])), (h1, .inr (12, [.int (nI 0), .ref a8]))]) (hS : va_S (fun q : Nat => s.heap.size ≤ q) s.heap H locs) {ls : Array Slot} (hl : lv_has ls 9 [(0, .ref b), (1, .ref h0), (2, .ref h1), (3, .ref a9), (4, .int (nI 0))]) : W p l e room_1 s m #[Value.ref b] below meth c H locs cells slots (lw_Z below #[Value.ref b] s) (F0 m 256 ls []) := by
  have hA : ∀ q : Nat, s.heap.size ≤ q → (fun q : Nat => s.heap.size ≤ q) q := fun _ h => h
  have hbA : ¬ (fun q : Nat => s.heap.size ≤ q) b := Nat.not_le.mpr hbl
  refine lv_aload_n hx hb dL_law_256 rfl (lv_at hl 1 rfl) ?_
  refine lv_aload_n hx hb dL_law_257 rfl (lv_at hl 0 rfl) ?_
  refine lv_iload hx hb dL_law_258 (lv_at hl 4 rfl) ?_
  refine lv_iconst (v := nI 1) hx hb dL_law_260 (by decide +kernel) ?_
  refine lv_iadd hx hb dL_law_261 ?_
  refine w_toeq (show (nI 0) + (nI 1) = nI 1 by decide +kernel) ?_
  refine va_sld hx hb hX hbl hbA hS (vp_in_nI (n := 1) (by decide) (by decide)) dL_law_262 ?_
  refine w_toeq (show xs (nI 1).toNatClampNeg = nI ya by rw [nI_clamp (n := 1) (by decide)]; exact hx1) ?_
  refine lv_aload_n hx hb dL_law_263 rfl (lv_at hl 0 rfl) ?_
  refine lv_iload hx hb dL_law_264 (lv_at hl 4 rfl) ?_
  refine lv_iconst (v := nI 2) hx hb dL_law_266 (by decide +kernel) ?_
  refine lv_iadd hx hb dL_law_267 ?_
  refine w_toeq (show (nI 0) + (nI 2) = nI 2 by decide +kernel) ?_
  refine va_sld hx hb hX hbl hbA hS (vp_in_nI (n := 2) (by decide) (by decide)) dL_law_268 ?_
  refine w_toeq (show xs (nI 2).toNatClampNeg = yb by rw [nI_clamp (n := 2) (by decide)]; exact hx2) ?_
  refine lv_aload_n hx hb dL_law_269 rfl (lv_at hl 0 rfl) ?_
  refine lv_iload hx hb dL_law_270 (lv_at hl 4 rfl) ?_
  refine lv_iconst (v := nI 3) hx hb dL_law_272 (by decide +kernel) ?_
  refine lv_iadd hx hb dL_law_273 ?_
  refine w_toeq (show (nI 0) + (nI 3) = nI 3 by decide +kernel) ?_
  refine va_sld hx hb hX hbl hbA hS (vp_in_nI (n := 3) (by decide) (by decide)) dL_law_274 ?_
  refine w_toeq (show xs (nI 3).toNatClampNeg = yc by rw [nI_clamp (n := 3) (by decide)]; exact hx3) ?_
  refine lv_aload_n hx hb dL_law_275 rfl (lv_at hl 3 rfl) ?_
  refine k_i (wr := [(h1, .inr (12, [.int (nI 0), .ref a8]))]) (run_SW hnc (rest := []) hx hb hml hown hts hK hP hD hS hA hm (C1067_make l G D K hl0 H.size h0 a9 (.ref a0) (.ref a1) (.ref a2) (.ref a3) (.ref a4) (.ref a5) (.ref a6) (.ref a7) (.int (nI 0)) ya (by omega) (by omega) yb hyb yc) [0] rfl rfl mokh_yL_make w_786 w_787 ⟨Nat.le_of_ble_eq_true rfl, Nat.le_of_ble_eq_true rfl⟩ rfl hl.1 rfl (Nat.le_of_ble_eq_true rfl) dL_law_276 ⟨(by dsimp only [room_1]; omega), (by dsimp only [room_1]; omega)⟩) hP hD hS hA [0] [1] rfl rfl rfl (by decide) (w2 := fun u0 => [(h1, .inr (12, [.int (nI 0), .ref a8])), (h0, .inr (9, [.ref a0, .ref a1, .ref a2, .ref a3, .ref a4, .ref a5, .ref a6, .ref a7, .int (nI 0)]))]) (fun _ => rfl) (fun u0 H locs hP hD hS => ?_)
  refine lv_istore (lv' := [(5, .int (nI 1)), (0, .ref b), (1, .ref h0), (2, .ref h1), (3, .ref a9), (4, .int (nI 0))]) hx hb dL_law_279 hl (by decide) rfl (fun ls hl => ?_)
  refine lv_aload_n hx hb dL_law_281 rfl (lv_at hl 3 rfl) ?_
  refine lv_aload_n hx hb dL_law_282 rfl (lv_at hl 1 rfl) ?_
  refine lv_iload hx hb dL_law_283 (lv_at hl 5 rfl) ?_
  refine lv_iconst (v := nI 1) hx hb dL_law_285 (by decide +kernel) ?_
  refine lv_iadd hx hb dL_law_286 ?_
  refine w_toeq (show (nI 0) + (nI 1) = nI 1 by decide +kernel) ?_
  refine va_sld hx hb hX hbl hbA hS (vp_in_nI (n := 1) (by decide) (by decide)) dL_law_287 ?_
  refine w_toeq (show xs (nI 1).toNatClampNeg = nI ya by rw [nI_clamp (n := 1) (by decide)]; exact hx1) ?_
  refine lv_aload_n hx hb dL_law_288 rfl (lv_at hl 1 rfl) ?_
  refine lv_iload hx hb dL_law_289 (lv_at hl 5 rfl) ?_
  refine lv_iconst (v := nI 2) hx hb dL_law_291 (by decide +kernel) ?_
  refine lv_iadd hx hb dL_law_292 ?_
  refine w_toeq (show (nI 0) + (nI 2) = nI 2 by decide +kernel) ?_
  refine va_sld hx hb hX hbl hbA hS (vp_in_nI (n := 2) (by decide) (by decide)) dL_law_293 ?_
  refine w_toeq (show xs (nI 2).toNatClampNeg = yb by rw [nI_clamp (n := 2) (by decide)]; exact hx2) ?_
  refine lv_aload_n hx hb dL_law_294 rfl (lv_at hl 1 rfl) ?_
  refine lv_iload hx hb dL_law_295 (lv_at hl 5 rfl) ?_
  refine lv_iconst (v := nI 3) hx hb dL_law_297 (by decide +kernel) ?_
  refine lv_iadd hx hb dL_law_298 ?_
  refine w_toeq (show (nI 0) + (nI 3) = nI 3 by decide +kernel) ?_
  refine va_sld hx hb hX hbl hbA hS (vp_in_nI (n := 3) (by decide) (by decide)) dL_law_299 ?_
  refine w_toeq (show xs (nI 3).toNatClampNeg = yc by rw [nI_clamp (n := 3) (by decide)]; exact hx3) ?_
  refine k_i (wr := [(h0, .inr (9, [.ref a0, .ref a1, .ref a2, .ref a3, .ref a4, .ref a5, .ref a6, .ref a7, .int (nI 0)]))]) (run_V (rest := []) hx hb hml hown hts hK hP hD hS hA hm (C57_make l G D K H.size h1 (.ref a8) ya (by omega) (by omega) yb hyb yc) [0] rfl rfl mok_yX12_make w_1341 w_1342 w_1343 (rcv hK hP 0 rfl rfl rfl) ⟨Nat.le_of_ble_eq_true rfl, Nat.le_of_ble_eq_true rfl⟩ rfl hl.1 rfl (Nat.le_of_ble_eq_true rfl) dL_law_300 ⟨(by dsimp only [room_1]; omega), (by dsimp only [room_1]; omega)⟩) hP hD hS hA [0] [1] rfl rfl rfl (by decide) (w2 := fun u1 => [(h0, .inr (9, [.ref a0, .ref a1, .ref a2, .ref a3, .ref a4, .ref a5, .ref a6, .ref a7, .int (nI 0)])), (h1, .inr (12, [.int (nI 1), .ref a8]))]) (fun _ => rfl) (fun u1 H locs hP hD hS => ?_)
  refine lv_istore (lv' := [(6, .int (nI 0)), (5, .int (nI 1)), (0, .ref b), (1, .ref h0), (2, .ref h1), (3, .ref a9), (4, .int (nI 0))]) hx hb dL_law_303 hl (by decide) rfl (fun ls hl => ?_)
  refine lv_aload_n hx hb dL_law_305 rfl (lv_at hl 4 rfl) ?_
  refine k_i (wr := [(h0, .inr (9, [.ref a0, .ref a1, .ref a2, .ref a3, .ref a4, .ref a5, .ref a6, .ref a7, .int (nI 0)]))]) (run_V (rest := []) hx hb hml hown hts hK hP hD hS hA hm (C1059_thrown l G D K H.size h1 (.ref a8)) [1] rfl rfl mok_yX12_thrown w_1300 w_1301 w_1302 (rcv hK hP 1 rfl rfl rfl) ⟨Nat.le_of_ble_eq_true rfl, Nat.le_of_ble_eq_true rfl⟩ rfl hl.1 rfl (Nat.le_of_ble_eq_true rfl) dL_law_306 ⟨(by dsimp only [room_1]; omega), (by dsimp only [room_1]; omega)⟩) hP hD hS hA [1] [0] rfl rfl rfl (by decide) (w2 := fun u2 => [(h0, .inr (9, [.ref a0, .ref a1, .ref a2, .ref a3, .ref a4, .ref a5, .ref a6, .ref a7, .int (nI 0)])), (h1, .inr (12, [.int (nI 1), .ref a8]))]) (fun _ => rfl) (fun u2 H locs hP hD hS => ?_)
  refine lv_iload hx hb dL_law_309 (lv_at hl 1 rfl) ?_
  refine lv_icmp_eq (tgt := 316) hx hb dL_law_311 (by decide) (fun _ => ?_) (fun c9 => absurd (by decide +kernel) c9)
  refine lv_iload hx hb dL_law_316 (lv_at hl 1 rfl) ?_
  refine lv_if_ne (tgt := 333) hx hb dL_law_318 (by decide) (fun _ => ?_) (fun c9 => absurd c9 (by decide +kernel))
  refine lv_goto (tgt := 1762) hx hb dL_law_333 (by decide) ?_
  refine lv_iinc (v := nI 4) (lv' := [(4, .int (nI 4)), (6, .int (nI 0)), (5, .int (nI 1)), (0, .ref b), (1, .ref h0), (2, .ref h1), (3, .ref a9)]) hx hb dL_law_1762 hl (k := 6) rfl (by decide +kernel) (by decide) rfl (fun ls hl => ?_)
  refine lv_goto (tgt := 23) hx hb dL_law_1765 (by decide) ?_
  refine lv_iload hx hb dL_law_23 (lv_at hl 0 rfl) ?_
  refine lv_aload_n hx hb dL_law_25 rfl (lv_at hl 3 rfl) ?_
  refine va_slen hx hb hX hbl hbA hS dL_law_26 ?_
  refine w_toeq (show Int32.ofNat 4 = nI 4 from rfl) ?_
  refine lv_iconst (v := nI 4) hx hb dL_law_27 (by decide +kernel) ?_
  refine lv_isub hx hb dL_law_28 ?_
  refine w_toeq (show (nI 4) - (nI 4) = nI 0 by decide +kernel) ?_
  refine lv_icmp_gt (tgt := 1768) hx hb dL_law_29 (by decide) (fun _ => ?_) (fun c9 => absurd (by decide +kernel) c9)
  refine lv_iconst (v := nI 1) hx hb dL_law_1768 (by decide +kernel) ?_
  exact law_end hx hb hr hlk hS (by dsimp only; omega) (by dsimp only; omega) dL_law_1769
set_option maxHeartbeats 4000000 in
set_option maxRecDepth 100000 in
theorem LW10_make {p : Program} {e : Env} {s : State} {m : MethodId} {below : List Frame} {meth : Method} {c : Code} {l : Launch} {G : Nat → Nat} {D : va_G} {K : Nat → ClassId} {b : Nat} {xs : Nat → Int32} (hx : p.tables.exec = Jvm.exec) (hb : c.code = cL_law) (hr : meth.sig.returnType = some .boolean) (hlk : meth.locks = false) (hl0 : l.stackTraces = false) (hnc : Ncs s) (hml : c.maxLocals = 9) (hown : s.vm.findClass RL = some m.cls) (hts : ∀ w ∈ lw_gw, w.before #[Value.ref b] s = true) (hK : va_K D cl (tys K) s) (hm : Amb G (fun q : Nat => s.heap.size ≤ q) s s.heap) (hX : va_X b 4 xs s s.heap) (hbl : b < s.heap.size) {h0 h1 a0 a1 a2 a3 a4 a5 a6 a7 a8 a9 : Nat} (ya : Nat) (lya : 4 ≤ ya) (gya : ya ≤ 2147483647) (hx1 : xs 1 = nI ya) (hx2 : xs 2 = nI 0) (yc : Int32) (hx3 : xs 3 = yc) {H : Heap} {locs : List Loc} {cells slots : Nat} (hcs : cells ≤ 1000) (hss : slots ≤ 100000) (hP : va_P D cl [(h0, .inr (9, [.ref a0, .ref a1, .ref a2, .ref a3, .ref a4, .ref a5, .ref a6, .ref a7, .int (nI 0)])), (h1, .inr (12, [.int (nI 0), .ref a8]))] H) (hD : va_D (fun q : Nat => s.heap.size ≤ q) [(h0, .inr (9, [.ref a0, .ref a1, .ref a2, .ref a3, .ref a4, .ref a5, .ref a6, .ref a7, .int (nI 0)])), (h1, .inr (12, [.int (nI 0), .ref a8]))]) (hS : va_S (fun q : Nat => s.heap.size ≤ q) s.heap H locs) {ls : Array Slot} (hl : lv_has ls 9 [(0, .ref b), (1, .ref h0), (2, .ref h1), (3, .ref a9), (4, .int (nI 0))]) : W p l e room_1 s m #[Value.ref b] below meth c H locs cells slots (lw_Z below #[Value.ref b] s) (F0 m 256 ls []) := by
  have hA : ∀ q : Nat, s.heap.size ≤ q → (fun q : Nat => s.heap.size ≤ q) q := fun _ h => h
  have hbA : ¬ (fun q : Nat => s.heap.size ≤ q) b := Nat.not_le.mpr hbl
  refine lv_aload_n hx hb dL_law_256 rfl (lv_at hl 1 rfl) ?_
  refine lv_aload_n hx hb dL_law_257 rfl (lv_at hl 0 rfl) ?_
  refine lv_iload hx hb dL_law_258 (lv_at hl 4 rfl) ?_
  refine lv_iconst (v := nI 1) hx hb dL_law_260 (by decide +kernel) ?_
  refine lv_iadd hx hb dL_law_261 ?_
  refine w_toeq (show (nI 0) + (nI 1) = nI 1 by decide +kernel) ?_
  refine va_sld hx hb hX hbl hbA hS (vp_in_nI (n := 1) (by decide) (by decide)) dL_law_262 ?_
  refine w_toeq (show xs (nI 1).toNatClampNeg = nI ya by rw [nI_clamp (n := 1) (by decide)]; exact hx1) ?_
  refine lv_aload_n hx hb dL_law_263 rfl (lv_at hl 0 rfl) ?_
  refine lv_iload hx hb dL_law_264 (lv_at hl 4 rfl) ?_
  refine lv_iconst (v := nI 2) hx hb dL_law_266 (by decide +kernel) ?_
  refine lv_iadd hx hb dL_law_267 ?_
  refine w_toeq (show (nI 0) + (nI 2) = nI 2 by decide +kernel) ?_
  refine va_sld hx hb hX hbl hbA hS (vp_in_nI (n := 2) (by decide) (by decide)) dL_law_268 ?_
  refine w_toeq (show xs (nI 2).toNatClampNeg = nI 0 by rw [nI_clamp (n := 2) (by decide)]; exact hx2) ?_
  refine lv_aload_n hx hb dL_law_269 rfl (lv_at hl 0 rfl) ?_
  refine lv_iload hx hb dL_law_270 (lv_at hl 4 rfl) ?_
  refine lv_iconst (v := nI 3) hx hb dL_law_272 (by decide +kernel) ?_
  refine lv_iadd hx hb dL_law_273 ?_
  refine w_toeq (show (nI 0) + (nI 3) = nI 3 by decide +kernel) ?_
  refine va_sld hx hb hX hbl hbA hS (vp_in_nI (n := 3) (by decide) (by decide)) dL_law_274 ?_
  refine w_toeq (show xs (nI 3).toNatClampNeg = yc by rw [nI_clamp (n := 3) (by decide)]; exact hx3) ?_
  refine lv_aload_n hx hb dL_law_275 rfl (lv_at hl 3 rfl) ?_
  refine k_i (wr := [(h1, .inr (12, [.int (nI 0), .ref a8]))]) (run_SW hnc (rest := []) hx hb hml hown hts hK hP hD hS hA hm (C1068_make l G D K hl0 H.size h0 a9 (.ref a0) (.ref a1) (.ref a2) (.ref a3) (.ref a4) (.ref a5) (.ref a6) (.ref a7) (.int (nI 0)) ya (by omega) (by omega) yc) [0] rfl rfl mokh_yL_make w_786 w_787 ⟨Nat.le_of_ble_eq_true rfl, Nat.le_of_ble_eq_true rfl⟩ rfl hl.1 rfl (Nat.le_of_ble_eq_true rfl) dL_law_276 ⟨(by dsimp only [room_1]; omega), (by dsimp only [room_1]; omega)⟩) hP hD hS hA [0] [1] rfl rfl rfl (by decide) (w2 := fun u0 => [(h1, .inr (12, [.int (nI 0), .ref a8])), (h0, .inr (9, [.ref a0, .ref a1, .ref a2, .ref a3, .ref a4, .ref a5, .ref a6, .ref a7, .int (nI 0)]))]) (fun _ => rfl) (fun u0 H locs hP hD hS => ?_)
  refine lv_istore (lv' := [(5, .int (nI 1)), (0, .ref b), (1, .ref h0), (2, .ref h1), (3, .ref a9), (4, .int (nI 0))]) hx hb dL_law_279 hl (by decide) rfl (fun ls hl => ?_)
  refine lv_aload_n hx hb dL_law_281 rfl (lv_at hl 3 rfl) ?_
  refine lv_aload_n hx hb dL_law_282 rfl (lv_at hl 1 rfl) ?_
  refine lv_iload hx hb dL_law_283 (lv_at hl 5 rfl) ?_
  refine lv_iconst (v := nI 1) hx hb dL_law_285 (by decide +kernel) ?_
  refine lv_iadd hx hb dL_law_286 ?_
  refine w_toeq (show (nI 0) + (nI 1) = nI 1 by decide +kernel) ?_
  refine va_sld hx hb hX hbl hbA hS (vp_in_nI (n := 1) (by decide) (by decide)) dL_law_287 ?_
  refine w_toeq (show xs (nI 1).toNatClampNeg = nI ya by rw [nI_clamp (n := 1) (by decide)]; exact hx1) ?_
  refine lv_aload_n hx hb dL_law_288 rfl (lv_at hl 1 rfl) ?_
  refine lv_iload hx hb dL_law_289 (lv_at hl 5 rfl) ?_
  refine lv_iconst (v := nI 2) hx hb dL_law_291 (by decide +kernel) ?_
  refine lv_iadd hx hb dL_law_292 ?_
  refine w_toeq (show (nI 0) + (nI 2) = nI 2 by decide +kernel) ?_
  refine va_sld hx hb hX hbl hbA hS (vp_in_nI (n := 2) (by decide) (by decide)) dL_law_293 ?_
  refine w_toeq (show xs (nI 2).toNatClampNeg = nI 0 by rw [nI_clamp (n := 2) (by decide)]; exact hx2) ?_
  refine lv_aload_n hx hb dL_law_294 rfl (lv_at hl 1 rfl) ?_
  refine lv_iload hx hb dL_law_295 (lv_at hl 5 rfl) ?_
  refine lv_iconst (v := nI 3) hx hb dL_law_297 (by decide +kernel) ?_
  refine lv_iadd hx hb dL_law_298 ?_
  refine w_toeq (show (nI 0) + (nI 3) = nI 3 by decide +kernel) ?_
  refine va_sld hx hb hX hbl hbA hS (vp_in_nI (n := 3) (by decide) (by decide)) dL_law_299 ?_
  refine w_toeq (show xs (nI 3).toNatClampNeg = yc by rw [nI_clamp (n := 3) (by decide)]; exact hx3) ?_
  refine k_i (wr := [(h0, .inr (9, [.ref a0, .ref a1, .ref a2, .ref a3, .ref a4, .ref a5, .ref a6, .ref a7, .int (nI 0)]))]) (run_V (rest := []) hx hb hml hown hts hK hP hD hS hA hm (C59_make l G D K H.size h1 (.ref a8) ya (by omega) (by omega) yc) [0] rfl rfl mok_yX12_make w_1341 w_1342 w_1343 (rcv hK hP 0 rfl rfl rfl) ⟨Nat.le_of_ble_eq_true rfl, Nat.le_of_ble_eq_true rfl⟩ rfl hl.1 rfl (Nat.le_of_ble_eq_true rfl) dL_law_300 ⟨(by dsimp only [room_1]; omega), (by dsimp only [room_1]; omega)⟩) hP hD hS hA [0] [1] rfl rfl rfl (by decide) (w2 := fun u1 => [(h0, .inr (9, [.ref a0, .ref a1, .ref a2, .ref a3, .ref a4, .ref a5, .ref a6, .ref a7, .int (nI 0)])), (h1, .inr (12, [.int (nI 1), .ref a8]))]) (fun _ => rfl) (fun u1 H locs hP hD hS => ?_)
  refine lv_istore (lv' := [(6, .int (nI 0)), (5, .int (nI 1)), (0, .ref b), (1, .ref h0), (2, .ref h1), (3, .ref a9), (4, .int (nI 0))]) hx hb dL_law_303 hl (by decide) rfl (fun ls hl => ?_)
  refine lv_aload_n hx hb dL_law_305 rfl (lv_at hl 4 rfl) ?_
  refine k_i (wr := [(h0, .inr (9, [.ref a0, .ref a1, .ref a2, .ref a3, .ref a4, .ref a5, .ref a6, .ref a7, .int (nI 0)]))]) (run_V (rest := []) hx hb hml hown hts hK hP hD hS hA hm (C1059_thrown l G D K H.size h1 (.ref a8)) [1] rfl rfl mok_yX12_thrown w_1300 w_1301 w_1302 (rcv hK hP 1 rfl rfl rfl) ⟨Nat.le_of_ble_eq_true rfl, Nat.le_of_ble_eq_true rfl⟩ rfl hl.1 rfl (Nat.le_of_ble_eq_true rfl) dL_law_306 ⟨(by dsimp only [room_1]; omega), (by dsimp only [room_1]; omega)⟩) hP hD hS hA [1] [0] rfl rfl rfl (by decide) (w2 := fun u2 => [(h0, .inr (9, [.ref a0, .ref a1, .ref a2, .ref a3, .ref a4, .ref a5, .ref a6, .ref a7, .int (nI 0)])), (h1, .inr (12, [.int (nI 1), .ref a8]))]) (fun _ => rfl) (fun u2 H locs hP hD hS => ?_)
  refine lv_iload hx hb dL_law_309 (lv_at hl 1 rfl) ?_
  refine lv_icmp_eq (tgt := 316) hx hb dL_law_311 (by decide) (fun _ => ?_) (fun c9 => absurd (by decide +kernel) c9)
  refine lv_iload hx hb dL_law_316 (lv_at hl 1 rfl) ?_
  refine lv_if_ne (tgt := 333) hx hb dL_law_318 (by decide) (fun _ => ?_) (fun c9 => absurd c9 (by decide +kernel))
  refine lv_goto (tgt := 1762) hx hb dL_law_333 (by decide) ?_
  refine lv_iinc (v := nI 4) (lv' := [(4, .int (nI 4)), (6, .int (nI 0)), (5, .int (nI 1)), (0, .ref b), (1, .ref h0), (2, .ref h1), (3, .ref a9)]) hx hb dL_law_1762 hl (k := 6) rfl (by decide +kernel) (by decide) rfl (fun ls hl => ?_)
  refine lv_goto (tgt := 23) hx hb dL_law_1765 (by decide) ?_
  refine lv_iload hx hb dL_law_23 (lv_at hl 0 rfl) ?_
  refine lv_aload_n hx hb dL_law_25 rfl (lv_at hl 3 rfl) ?_
  refine va_slen hx hb hX hbl hbA hS dL_law_26 ?_
  refine w_toeq (show Int32.ofNat 4 = nI 4 from rfl) ?_
  refine lv_iconst (v := nI 4) hx hb dL_law_27 (by decide +kernel) ?_
  refine lv_isub hx hb dL_law_28 ?_
  refine w_toeq (show (nI 4) - (nI 4) = nI 0 by decide +kernel) ?_
  refine lv_icmp_gt (tgt := 1768) hx hb dL_law_29 (by decide) (fun _ => ?_) (fun c9 => absurd (by decide +kernel) c9)
  refine lv_iconst (v := nI 1) hx hb dL_law_1768 (by decide +kernel) ?_
  exact law_end hx hb hr hlk hS (by dsimp only; omega) (by dsimp only; omega) dL_law_1769
set_option maxHeartbeats 4000000 in
set_option maxRecDepth 100000 in
theorem LW11_make {p : Program} {e : Env} {s : State} {m : MethodId} {below : List Frame} {meth : Method} {c : Code} {l : Launch} {G : Nat → Nat} {D : va_G} {K : Nat → ClassId} {b : Nat} {xs : Nat → Int32} (hx : p.tables.exec = Jvm.exec) (hb : c.code = cL_law) (hr : meth.sig.returnType = some .boolean) (hlk : meth.locks = false) (hl0 : l.stackTraces = false) (hnc : Ncs s) (hml : c.maxLocals = 9) (hown : s.vm.findClass RL = some m.cls) (hts : ∀ w ∈ lw_gw, w.before #[Value.ref b] s = true) (hK : va_K D cl (tys K) s) (hm : Amb G (fun q : Nat => s.heap.size ≤ q) s s.heap) (hX : va_X b 4 xs s s.heap) (hbl : b < s.heap.size) {h0 h1 a0 a1 a2 a3 a4 a5 a6 a7 a8 a9 : Nat} (ya : Nat) (lya : 4 ≤ ya) (gya : ya ≤ 2147483647) (hx1 : xs 1 = nI ya) (hx2 : xs 2 = nI 1) (yc : Int32) (hx3 : xs 3 = yc) {H : Heap} {locs : List Loc} {cells slots : Nat} (hcs : cells ≤ 1000) (hss : slots ≤ 100000) (hP : va_P D cl [(h0, .inr (9, [.ref a0, .ref a1, .ref a2, .ref a3, .ref a4, .ref a5, .ref a6, .ref a7, .int (nI 0)])), (h1, .inr (12, [.int (nI 0), .ref a8]))] H) (hD : va_D (fun q : Nat => s.heap.size ≤ q) [(h0, .inr (9, [.ref a0, .ref a1, .ref a2, .ref a3, .ref a4, .ref a5, .ref a6, .ref a7, .int (nI 0)])), (h1, .inr (12, [.int (nI 0), .ref a8]))]) (hS : va_S (fun q : Nat => s.heap.size ≤ q) s.heap H locs) {ls : Array Slot} (hl : lv_has ls 9 [(0, .ref b), (1, .ref h0), (2, .ref h1), (3, .ref a9), (4, .int (nI 0))]) : W p l e room_1 s m #[Value.ref b] below meth c H locs cells slots (lw_Z below #[Value.ref b] s) (F0 m 256 ls []) := by
  have hA : ∀ q : Nat, s.heap.size ≤ q → (fun q : Nat => s.heap.size ≤ q) q := fun _ h => h
  have hbA : ¬ (fun q : Nat => s.heap.size ≤ q) b := Nat.not_le.mpr hbl
  refine lv_aload_n hx hb dL_law_256 rfl (lv_at hl 1 rfl) ?_
  refine lv_aload_n hx hb dL_law_257 rfl (lv_at hl 0 rfl) ?_
  refine lv_iload hx hb dL_law_258 (lv_at hl 4 rfl) ?_
  refine lv_iconst (v := nI 1) hx hb dL_law_260 (by decide +kernel) ?_
  refine lv_iadd hx hb dL_law_261 ?_
  refine w_toeq (show (nI 0) + (nI 1) = nI 1 by decide +kernel) ?_
  refine va_sld hx hb hX hbl hbA hS (vp_in_nI (n := 1) (by decide) (by decide)) dL_law_262 ?_
  refine w_toeq (show xs (nI 1).toNatClampNeg = nI ya by rw [nI_clamp (n := 1) (by decide)]; exact hx1) ?_
  refine lv_aload_n hx hb dL_law_263 rfl (lv_at hl 0 rfl) ?_
  refine lv_iload hx hb dL_law_264 (lv_at hl 4 rfl) ?_
  refine lv_iconst (v := nI 2) hx hb dL_law_266 (by decide +kernel) ?_
  refine lv_iadd hx hb dL_law_267 ?_
  refine w_toeq (show (nI 0) + (nI 2) = nI 2 by decide +kernel) ?_
  refine va_sld hx hb hX hbl hbA hS (vp_in_nI (n := 2) (by decide) (by decide)) dL_law_268 ?_
  refine w_toeq (show xs (nI 2).toNatClampNeg = nI 1 by rw [nI_clamp (n := 2) (by decide)]; exact hx2) ?_
  refine lv_aload_n hx hb dL_law_269 rfl (lv_at hl 0 rfl) ?_
  refine lv_iload hx hb dL_law_270 (lv_at hl 4 rfl) ?_
  refine lv_iconst (v := nI 3) hx hb dL_law_272 (by decide +kernel) ?_
  refine lv_iadd hx hb dL_law_273 ?_
  refine w_toeq (show (nI 0) + (nI 3) = nI 3 by decide +kernel) ?_
  refine va_sld hx hb hX hbl hbA hS (vp_in_nI (n := 3) (by decide) (by decide)) dL_law_274 ?_
  refine w_toeq (show xs (nI 3).toNatClampNeg = yc by rw [nI_clamp (n := 3) (by decide)]; exact hx3) ?_
  refine lv_aload_n hx hb dL_law_275 rfl (lv_at hl 3 rfl) ?_
  refine k_i (wr := [(h1, .inr (12, [.int (nI 0), .ref a8]))]) (run_SW hnc (rest := []) hx hb hml hown hts hK hP hD hS hA hm (C1069_make l G D K hl0 H.size h0 a9 (.ref a0) (.ref a1) (.ref a2) (.ref a3) (.ref a4) (.ref a5) (.ref a6) (.ref a7) (.int (nI 0)) ya (by omega) (by omega) yc) [0] rfl rfl mokh_yL_make w_786 w_787 ⟨Nat.le_of_ble_eq_true rfl, Nat.le_of_ble_eq_true rfl⟩ rfl hl.1 rfl (Nat.le_of_ble_eq_true rfl) dL_law_276 ⟨(by dsimp only [room_1]; omega), (by dsimp only [room_1]; omega)⟩) hP hD hS hA [0] [1] rfl rfl rfl (by decide) (w2 := fun u0 => [(h1, .inr (12, [.int (nI 0), .ref a8])), (h0, .inr (9, [.ref a0, .ref a1, .ref a2, .ref a3, .ref a4, .ref a5, .ref a6, .ref a7, .int (nI 0)]))]) (fun _ => rfl) (fun u0 H locs hP hD hS => ?_)
  refine lv_istore (lv' := [(5, .int (nI 1)), (0, .ref b), (1, .ref h0), (2, .ref h1), (3, .ref a9), (4, .int (nI 0))]) hx hb dL_law_279 hl (by decide) rfl (fun ls hl => ?_)
  refine lv_aload_n hx hb dL_law_281 rfl (lv_at hl 3 rfl) ?_
  refine lv_aload_n hx hb dL_law_282 rfl (lv_at hl 1 rfl) ?_
  refine lv_iload hx hb dL_law_283 (lv_at hl 5 rfl) ?_
  refine lv_iconst (v := nI 1) hx hb dL_law_285 (by decide +kernel) ?_
  refine lv_iadd hx hb dL_law_286 ?_
  refine w_toeq (show (nI 0) + (nI 1) = nI 1 by decide +kernel) ?_
  refine va_sld hx hb hX hbl hbA hS (vp_in_nI (n := 1) (by decide) (by decide)) dL_law_287 ?_
  refine w_toeq (show xs (nI 1).toNatClampNeg = nI ya by rw [nI_clamp (n := 1) (by decide)]; exact hx1) ?_
  refine lv_aload_n hx hb dL_law_288 rfl (lv_at hl 1 rfl) ?_
  refine lv_iload hx hb dL_law_289 (lv_at hl 5 rfl) ?_
  refine lv_iconst (v := nI 2) hx hb dL_law_291 (by decide +kernel) ?_
  refine lv_iadd hx hb dL_law_292 ?_
  refine w_toeq (show (nI 0) + (nI 2) = nI 2 by decide +kernel) ?_
  refine va_sld hx hb hX hbl hbA hS (vp_in_nI (n := 2) (by decide) (by decide)) dL_law_293 ?_
  refine w_toeq (show xs (nI 2).toNatClampNeg = nI 1 by rw [nI_clamp (n := 2) (by decide)]; exact hx2) ?_
  refine lv_aload_n hx hb dL_law_294 rfl (lv_at hl 1 rfl) ?_
  refine lv_iload hx hb dL_law_295 (lv_at hl 5 rfl) ?_
  refine lv_iconst (v := nI 3) hx hb dL_law_297 (by decide +kernel) ?_
  refine lv_iadd hx hb dL_law_298 ?_
  refine w_toeq (show (nI 0) + (nI 3) = nI 3 by decide +kernel) ?_
  refine va_sld hx hb hX hbl hbA hS (vp_in_nI (n := 3) (by decide) (by decide)) dL_law_299 ?_
  refine w_toeq (show xs (nI 3).toNatClampNeg = yc by rw [nI_clamp (n := 3) (by decide)]; exact hx3) ?_
  refine k_i (wr := [(h0, .inr (9, [.ref a0, .ref a1, .ref a2, .ref a3, .ref a4, .ref a5, .ref a6, .ref a7, .int (nI 0)]))]) (run_V (rest := []) hx hb hml hown hts hK hP hD hS hA hm (C61_make l G D K H.size h1 (.ref a8) ya (by omega) (by omega) yc) [0] rfl rfl mok_yX12_make w_1341 w_1342 w_1343 (rcv hK hP 0 rfl rfl rfl) ⟨Nat.le_of_ble_eq_true rfl, Nat.le_of_ble_eq_true rfl⟩ rfl hl.1 rfl (Nat.le_of_ble_eq_true rfl) dL_law_300 ⟨(by dsimp only [room_1]; omega), (by dsimp only [room_1]; omega)⟩) hP hD hS hA [0] [1] rfl rfl rfl (by decide) (w2 := fun u1 => [(h0, .inr (9, [.ref a0, .ref a1, .ref a2, .ref a3, .ref a4, .ref a5, .ref a6, .ref a7, .int (nI 0)])), (h1, .inr (12, [.int (nI 1), .ref a8]))]) (fun _ => rfl) (fun u1 H locs hP hD hS => ?_)
  refine lv_istore (lv' := [(6, .int (nI 0)), (5, .int (nI 1)), (0, .ref b), (1, .ref h0), (2, .ref h1), (3, .ref a9), (4, .int (nI 0))]) hx hb dL_law_303 hl (by decide) rfl (fun ls hl => ?_)
  refine lv_aload_n hx hb dL_law_305 rfl (lv_at hl 4 rfl) ?_
  refine k_i (wr := [(h0, .inr (9, [.ref a0, .ref a1, .ref a2, .ref a3, .ref a4, .ref a5, .ref a6, .ref a7, .int (nI 0)]))]) (run_V (rest := []) hx hb hml hown hts hK hP hD hS hA hm (C1059_thrown l G D K H.size h1 (.ref a8)) [1] rfl rfl mok_yX12_thrown w_1300 w_1301 w_1302 (rcv hK hP 1 rfl rfl rfl) ⟨Nat.le_of_ble_eq_true rfl, Nat.le_of_ble_eq_true rfl⟩ rfl hl.1 rfl (Nat.le_of_ble_eq_true rfl) dL_law_306 ⟨(by dsimp only [room_1]; omega), (by dsimp only [room_1]; omega)⟩) hP hD hS hA [1] [0] rfl rfl rfl (by decide) (w2 := fun u2 => [(h0, .inr (9, [.ref a0, .ref a1, .ref a2, .ref a3, .ref a4, .ref a5, .ref a6, .ref a7, .int (nI 0)])), (h1, .inr (12, [.int (nI 1), .ref a8]))]) (fun _ => rfl) (fun u2 H locs hP hD hS => ?_)
  refine lv_iload hx hb dL_law_309 (lv_at hl 1 rfl) ?_
  refine lv_icmp_eq (tgt := 316) hx hb dL_law_311 (by decide) (fun _ => ?_) (fun c9 => absurd (by decide +kernel) c9)
  refine lv_iload hx hb dL_law_316 (lv_at hl 1 rfl) ?_
  refine lv_if_ne (tgt := 333) hx hb dL_law_318 (by decide) (fun _ => ?_) (fun c9 => absurd c9 (by decide +kernel))
  refine lv_goto (tgt := 1762) hx hb dL_law_333 (by decide) ?_
  refine lv_iinc (v := nI 4) (lv' := [(4, .int (nI 4)), (6, .int (nI 0)), (5, .int (nI 1)), (0, .ref b), (1, .ref h0), (2, .ref h1), (3, .ref a9)]) hx hb dL_law_1762 hl (k := 6) rfl (by decide +kernel) (by decide) rfl (fun ls hl => ?_)
  refine lv_goto (tgt := 23) hx hb dL_law_1765 (by decide) ?_
  refine lv_iload hx hb dL_law_23 (lv_at hl 0 rfl) ?_
  refine lv_aload_n hx hb dL_law_25 rfl (lv_at hl 3 rfl) ?_
  refine va_slen hx hb hX hbl hbA hS dL_law_26 ?_
  refine w_toeq (show Int32.ofNat 4 = nI 4 from rfl) ?_
  refine lv_iconst (v := nI 4) hx hb dL_law_27 (by decide +kernel) ?_
  refine lv_isub hx hb dL_law_28 ?_
  refine w_toeq (show (nI 4) - (nI 4) = nI 0 by decide +kernel) ?_
  refine lv_icmp_gt (tgt := 1768) hx hb dL_law_29 (by decide) (fun _ => ?_) (fun c9 => absurd (by decide +kernel) c9)
  refine lv_iconst (v := nI 1) hx hb dL_law_1768 (by decide +kernel) ?_
  exact law_end hx hb hr hlk hS (by dsimp only; omega) (by dsimp only; omega) dL_law_1769
set_option maxHeartbeats 4000000 in
set_option maxRecDepth 100000 in
theorem LW12_make {p : Program} {e : Env} {s : State} {m : MethodId} {below : List Frame} {meth : Method} {c : Code} {l : Launch} {G : Nat → Nat} {D : va_G} {K : Nat → ClassId} {b : Nat} {xs : Nat → Int32} (hx : p.tables.exec = Jvm.exec) (hb : c.code = cL_law) (hr : meth.sig.returnType = some .boolean) (hlk : meth.locks = false) (hl0 : l.stackTraces = false) (hnc : Ncs s) (hml : c.maxLocals = 9) (hown : s.vm.findClass RL = some m.cls) (hts : ∀ w ∈ lw_gw, w.before #[Value.ref b] s = true) (hK : va_K D cl (tys K) s) (hm : Amb G (fun q : Nat => s.heap.size ≤ q) s s.heap) (hX : va_X b 4 xs s s.heap) (hbl : b < s.heap.size) {h0 h1 a0 a1 a2 a3 a4 a5 a6 a7 a8 a9 : Nat} (ya : Nat) (lya : 4 ≤ ya) (gya : ya ≤ 2147483647) (hx1 : xs 1 = nI ya) (hx2 : xs 2 = nI 2) (yc : Int32) (hx3 : xs 3 = yc) {H : Heap} {locs : List Loc} {cells slots : Nat} (hcs : cells ≤ 1000) (hss : slots ≤ 100000) (hP : va_P D cl [(h0, .inr (9, [.ref a0, .ref a1, .ref a2, .ref a3, .ref a4, .ref a5, .ref a6, .ref a7, .int (nI 0)])), (h1, .inr (12, [.int (nI 0), .ref a8]))] H) (hD : va_D (fun q : Nat => s.heap.size ≤ q) [(h0, .inr (9, [.ref a0, .ref a1, .ref a2, .ref a3, .ref a4, .ref a5, .ref a6, .ref a7, .int (nI 0)])), (h1, .inr (12, [.int (nI 0), .ref a8]))]) (hS : va_S (fun q : Nat => s.heap.size ≤ q) s.heap H locs) {ls : Array Slot} (hl : lv_has ls 9 [(0, .ref b), (1, .ref h0), (2, .ref h1), (3, .ref a9), (4, .int (nI 0))]) : W p l e room_1 s m #[Value.ref b] below meth c H locs cells slots (lw_Z below #[Value.ref b] s) (F0 m 256 ls []) := by
  have hA : ∀ q : Nat, s.heap.size ≤ q → (fun q : Nat => s.heap.size ≤ q) q := fun _ h => h
  have hbA : ¬ (fun q : Nat => s.heap.size ≤ q) b := Nat.not_le.mpr hbl
  refine lv_aload_n hx hb dL_law_256 rfl (lv_at hl 1 rfl) ?_
  refine lv_aload_n hx hb dL_law_257 rfl (lv_at hl 0 rfl) ?_
  refine lv_iload hx hb dL_law_258 (lv_at hl 4 rfl) ?_
  refine lv_iconst (v := nI 1) hx hb dL_law_260 (by decide +kernel) ?_
  refine lv_iadd hx hb dL_law_261 ?_
  refine w_toeq (show (nI 0) + (nI 1) = nI 1 by decide +kernel) ?_
  refine va_sld hx hb hX hbl hbA hS (vp_in_nI (n := 1) (by decide) (by decide)) dL_law_262 ?_
  refine w_toeq (show xs (nI 1).toNatClampNeg = nI ya by rw [nI_clamp (n := 1) (by decide)]; exact hx1) ?_
  refine lv_aload_n hx hb dL_law_263 rfl (lv_at hl 0 rfl) ?_
  refine lv_iload hx hb dL_law_264 (lv_at hl 4 rfl) ?_
  refine lv_iconst (v := nI 2) hx hb dL_law_266 (by decide +kernel) ?_
  refine lv_iadd hx hb dL_law_267 ?_
  refine w_toeq (show (nI 0) + (nI 2) = nI 2 by decide +kernel) ?_
  refine va_sld hx hb hX hbl hbA hS (vp_in_nI (n := 2) (by decide) (by decide)) dL_law_268 ?_
  refine w_toeq (show xs (nI 2).toNatClampNeg = nI 2 by rw [nI_clamp (n := 2) (by decide)]; exact hx2) ?_
  refine lv_aload_n hx hb dL_law_269 rfl (lv_at hl 0 rfl) ?_
  refine lv_iload hx hb dL_law_270 (lv_at hl 4 rfl) ?_
  refine lv_iconst (v := nI 3) hx hb dL_law_272 (by decide +kernel) ?_
  refine lv_iadd hx hb dL_law_273 ?_
  refine w_toeq (show (nI 0) + (nI 3) = nI 3 by decide +kernel) ?_
  refine va_sld hx hb hX hbl hbA hS (vp_in_nI (n := 3) (by decide) (by decide)) dL_law_274 ?_
  refine w_toeq (show xs (nI 3).toNatClampNeg = yc by rw [nI_clamp (n := 3) (by decide)]; exact hx3) ?_
  refine lv_aload_n hx hb dL_law_275 rfl (lv_at hl 3 rfl) ?_
  refine k_i (wr := [(h1, .inr (12, [.int (nI 0), .ref a8]))]) (run_SW hnc (rest := []) hx hb hml hown hts hK hP hD hS hA hm (C1070_make l G D K hl0 H.size h0 a9 (.ref a0) (.ref a1) (.ref a2) (.ref a3) (.ref a4) (.ref a5) (.ref a6) (.ref a7) (.int (nI 0)) ya (by omega) (by omega) yc) [0] rfl rfl mokh_yL_make w_786 w_787 ⟨Nat.le_of_ble_eq_true rfl, Nat.le_of_ble_eq_true rfl⟩ rfl hl.1 rfl (Nat.le_of_ble_eq_true rfl) dL_law_276 ⟨(by dsimp only [room_1]; omega), (by dsimp only [room_1]; omega)⟩) hP hD hS hA [0] [1] rfl rfl rfl (by decide) (w2 := fun u0 => [(h1, .inr (12, [.int (nI 0), .ref a8])), (h0, .inr (9, [.ref a0, .ref a1, .ref a2, .ref a3, .ref a4, .ref a5, .ref a6, .ref a7, .int (nI 0)]))]) (fun _ => rfl) (fun u0 H locs hP hD hS => ?_)
  refine lv_istore (lv' := [(5, .int (nI 1)), (0, .ref b), (1, .ref h0), (2, .ref h1), (3, .ref a9), (4, .int (nI 0))]) hx hb dL_law_279 hl (by decide) rfl (fun ls hl => ?_)
  refine lv_aload_n hx hb dL_law_281 rfl (lv_at hl 3 rfl) ?_
  refine lv_aload_n hx hb dL_law_282 rfl (lv_at hl 1 rfl) ?_
  refine lv_iload hx hb dL_law_283 (lv_at hl 5 rfl) ?_
  refine lv_iconst (v := nI 1) hx hb dL_law_285 (by decide +kernel) ?_
  refine lv_iadd hx hb dL_law_286 ?_
  refine w_toeq (show (nI 0) + (nI 1) = nI 1 by decide +kernel) ?_
  refine va_sld hx hb hX hbl hbA hS (vp_in_nI (n := 1) (by decide) (by decide)) dL_law_287 ?_
  refine w_toeq (show xs (nI 1).toNatClampNeg = nI ya by rw [nI_clamp (n := 1) (by decide)]; exact hx1) ?_
  refine lv_aload_n hx hb dL_law_288 rfl (lv_at hl 1 rfl) ?_
  refine lv_iload hx hb dL_law_289 (lv_at hl 5 rfl) ?_
  refine lv_iconst (v := nI 2) hx hb dL_law_291 (by decide +kernel) ?_
  refine lv_iadd hx hb dL_law_292 ?_
  refine w_toeq (show (nI 0) + (nI 2) = nI 2 by decide +kernel) ?_
  refine va_sld hx hb hX hbl hbA hS (vp_in_nI (n := 2) (by decide) (by decide)) dL_law_293 ?_
  refine w_toeq (show xs (nI 2).toNatClampNeg = nI 2 by rw [nI_clamp (n := 2) (by decide)]; exact hx2) ?_
  refine lv_aload_n hx hb dL_law_294 rfl (lv_at hl 1 rfl) ?_
  refine lv_iload hx hb dL_law_295 (lv_at hl 5 rfl) ?_
  refine lv_iconst (v := nI 3) hx hb dL_law_297 (by decide +kernel) ?_
  refine lv_iadd hx hb dL_law_298 ?_
  refine w_toeq (show (nI 0) + (nI 3) = nI 3 by decide +kernel) ?_
  refine va_sld hx hb hX hbl hbA hS (vp_in_nI (n := 3) (by decide) (by decide)) dL_law_299 ?_
  refine w_toeq (show xs (nI 3).toNatClampNeg = yc by rw [nI_clamp (n := 3) (by decide)]; exact hx3) ?_
  refine k_i (wr := [(h0, .inr (9, [.ref a0, .ref a1, .ref a2, .ref a3, .ref a4, .ref a5, .ref a6, .ref a7, .int (nI 0)]))]) (run_V (rest := []) hx hb hml hown hts hK hP hD hS hA hm (C63_make l G D K H.size h1 (.ref a8) ya (by omega) (by omega) yc) [0] rfl rfl mok_yX12_make w_1341 w_1342 w_1343 (rcv hK hP 0 rfl rfl rfl) ⟨Nat.le_of_ble_eq_true rfl, Nat.le_of_ble_eq_true rfl⟩ rfl hl.1 rfl (Nat.le_of_ble_eq_true rfl) dL_law_300 ⟨(by dsimp only [room_1]; omega), (by dsimp only [room_1]; omega)⟩) hP hD hS hA [0] [1] rfl rfl rfl (by decide) (w2 := fun u1 => [(h0, .inr (9, [.ref a0, .ref a1, .ref a2, .ref a3, .ref a4, .ref a5, .ref a6, .ref a7, .int (nI 0)])), (h1, .inr (12, [.int (nI 1), .ref a8]))]) (fun _ => rfl) (fun u1 H locs hP hD hS => ?_)
  refine lv_istore (lv' := [(6, .int (nI 0)), (5, .int (nI 1)), (0, .ref b), (1, .ref h0), (2, .ref h1), (3, .ref a9), (4, .int (nI 0))]) hx hb dL_law_303 hl (by decide) rfl (fun ls hl => ?_)
  refine lv_aload_n hx hb dL_law_305 rfl (lv_at hl 4 rfl) ?_
  refine k_i (wr := [(h0, .inr (9, [.ref a0, .ref a1, .ref a2, .ref a3, .ref a4, .ref a5, .ref a6, .ref a7, .int (nI 0)]))]) (run_V (rest := []) hx hb hml hown hts hK hP hD hS hA hm (C1059_thrown l G D K H.size h1 (.ref a8)) [1] rfl rfl mok_yX12_thrown w_1300 w_1301 w_1302 (rcv hK hP 1 rfl rfl rfl) ⟨Nat.le_of_ble_eq_true rfl, Nat.le_of_ble_eq_true rfl⟩ rfl hl.1 rfl (Nat.le_of_ble_eq_true rfl) dL_law_306 ⟨(by dsimp only [room_1]; omega), (by dsimp only [room_1]; omega)⟩) hP hD hS hA [1] [0] rfl rfl rfl (by decide) (w2 := fun u2 => [(h0, .inr (9, [.ref a0, .ref a1, .ref a2, .ref a3, .ref a4, .ref a5, .ref a6, .ref a7, .int (nI 0)])), (h1, .inr (12, [.int (nI 1), .ref a8]))]) (fun _ => rfl) (fun u2 H locs hP hD hS => ?_)
  refine lv_iload hx hb dL_law_309 (lv_at hl 1 rfl) ?_
  refine lv_icmp_eq (tgt := 316) hx hb dL_law_311 (by decide) (fun _ => ?_) (fun c9 => absurd (by decide +kernel) c9)
  refine lv_iload hx hb dL_law_316 (lv_at hl 1 rfl) ?_
  refine lv_if_ne (tgt := 333) hx hb dL_law_318 (by decide) (fun _ => ?_) (fun c9 => absurd c9 (by decide +kernel))
  refine lv_goto (tgt := 1762) hx hb dL_law_333 (by decide) ?_
  refine lv_iinc (v := nI 4) (lv' := [(4, .int (nI 4)), (6, .int (nI 0)), (5, .int (nI 1)), (0, .ref b), (1, .ref h0), (2, .ref h1), (3, .ref a9)]) hx hb dL_law_1762 hl (k := 6) rfl (by decide +kernel) (by decide) rfl (fun ls hl => ?_)
  refine lv_goto (tgt := 23) hx hb dL_law_1765 (by decide) ?_
  refine lv_iload hx hb dL_law_23 (lv_at hl 0 rfl) ?_
  refine lv_aload_n hx hb dL_law_25 rfl (lv_at hl 3 rfl) ?_
  refine va_slen hx hb hX hbl hbA hS dL_law_26 ?_
  refine w_toeq (show Int32.ofNat 4 = nI 4 from rfl) ?_
  refine lv_iconst (v := nI 4) hx hb dL_law_27 (by decide +kernel) ?_
  refine lv_isub hx hb dL_law_28 ?_
  refine w_toeq (show (nI 4) - (nI 4) = nI 0 by decide +kernel) ?_
  refine lv_icmp_gt (tgt := 1768) hx hb dL_law_29 (by decide) (fun _ => ?_) (fun c9 => absurd (by decide +kernel) c9)
  refine lv_iconst (v := nI 1) hx hb dL_law_1768 (by decide +kernel) ?_
  exact law_end hx hb hr hlk hS (by dsimp only; omega) (by dsimp only; omega) dL_law_1769
set_option maxHeartbeats 4000000 in
set_option maxRecDepth 100000 in
theorem LW13_make {p : Program} {e : Env} {s : State} {m : MethodId} {below : List Frame} {meth : Method} {c : Code} {l : Launch} {G : Nat → Nat} {D : va_G} {K : Nat → ClassId} {b : Nat} {xs : Nat → Int32} (hx : p.tables.exec = Jvm.exec) (hb : c.code = cL_law) (hr : meth.sig.returnType = some .boolean) (hlk : meth.locks = false) (hl0 : l.stackTraces = false) (hnc : Ncs s) (hml : c.maxLocals = 9) (hown : s.vm.findClass RL = some m.cls) (hts : ∀ w ∈ lw_gw, w.before #[Value.ref b] s = true) (hK : va_K D cl (tys K) s) (hm : Amb G (fun q : Nat => s.heap.size ≤ q) s s.heap) (hX : va_X b 4 xs s s.heap) (hbl : b < s.heap.size) {h0 h1 a0 a1 a2 a3 a4 a5 a6 a7 a8 a9 : Nat} (ya : Nat) (lya : 4 ≤ ya) (gya : ya ≤ 2147483647) (hx1 : xs 1 = nI ya) (hx2 : xs 2 = nI 3) (yc : Int32) (hx3 : xs 3 = yc) {H : Heap} {locs : List Loc} {cells slots : Nat} (hcs : cells ≤ 1000) (hss : slots ≤ 100000) (hP : va_P D cl [(h0, .inr (9, [.ref a0, .ref a1, .ref a2, .ref a3, .ref a4, .ref a5, .ref a6, .ref a7, .int (nI 0)])), (h1, .inr (12, [.int (nI 0), .ref a8]))] H) (hD : va_D (fun q : Nat => s.heap.size ≤ q) [(h0, .inr (9, [.ref a0, .ref a1, .ref a2, .ref a3, .ref a4, .ref a5, .ref a6, .ref a7, .int (nI 0)])), (h1, .inr (12, [.int (nI 0), .ref a8]))]) (hS : va_S (fun q : Nat => s.heap.size ≤ q) s.heap H locs) {ls : Array Slot} (hl : lv_has ls 9 [(0, .ref b), (1, .ref h0), (2, .ref h1), (3, .ref a9), (4, .int (nI 0))]) : W p l e room_1 s m #[Value.ref b] below meth c H locs cells slots (lw_Z below #[Value.ref b] s) (F0 m 256 ls []) := by
  have hA : ∀ q : Nat, s.heap.size ≤ q → (fun q : Nat => s.heap.size ≤ q) q := fun _ h => h
  have hbA : ¬ (fun q : Nat => s.heap.size ≤ q) b := Nat.not_le.mpr hbl
  refine lv_aload_n hx hb dL_law_256 rfl (lv_at hl 1 rfl) ?_
  refine lv_aload_n hx hb dL_law_257 rfl (lv_at hl 0 rfl) ?_
  refine lv_iload hx hb dL_law_258 (lv_at hl 4 rfl) ?_
  refine lv_iconst (v := nI 1) hx hb dL_law_260 (by decide +kernel) ?_
  refine lv_iadd hx hb dL_law_261 ?_
  refine w_toeq (show (nI 0) + (nI 1) = nI 1 by decide +kernel) ?_
  refine va_sld hx hb hX hbl hbA hS (vp_in_nI (n := 1) (by decide) (by decide)) dL_law_262 ?_
  refine w_toeq (show xs (nI 1).toNatClampNeg = nI ya by rw [nI_clamp (n := 1) (by decide)]; exact hx1) ?_
  refine lv_aload_n hx hb dL_law_263 rfl (lv_at hl 0 rfl) ?_
  refine lv_iload hx hb dL_law_264 (lv_at hl 4 rfl) ?_
  refine lv_iconst (v := nI 2) hx hb dL_law_266 (by decide +kernel) ?_
  refine lv_iadd hx hb dL_law_267 ?_
  refine w_toeq (show (nI 0) + (nI 2) = nI 2 by decide +kernel) ?_
  refine va_sld hx hb hX hbl hbA hS (vp_in_nI (n := 2) (by decide) (by decide)) dL_law_268 ?_
  refine w_toeq (show xs (nI 2).toNatClampNeg = nI 3 by rw [nI_clamp (n := 2) (by decide)]; exact hx2) ?_
  refine lv_aload_n hx hb dL_law_269 rfl (lv_at hl 0 rfl) ?_
  refine lv_iload hx hb dL_law_270 (lv_at hl 4 rfl) ?_
  refine lv_iconst (v := nI 3) hx hb dL_law_272 (by decide +kernel) ?_
  refine lv_iadd hx hb dL_law_273 ?_
  refine w_toeq (show (nI 0) + (nI 3) = nI 3 by decide +kernel) ?_
  refine va_sld hx hb hX hbl hbA hS (vp_in_nI (n := 3) (by decide) (by decide)) dL_law_274 ?_
  refine w_toeq (show xs (nI 3).toNatClampNeg = yc by rw [nI_clamp (n := 3) (by decide)]; exact hx3) ?_
  refine lv_aload_n hx hb dL_law_275 rfl (lv_at hl 3 rfl) ?_
  refine k_i (wr := [(h1, .inr (12, [.int (nI 0), .ref a8]))]) (run_SW hnc (rest := []) hx hb hml hown hts hK hP hD hS hA hm (C1071_make l G D K hl0 H.size h0 a9 (.ref a0) (.ref a1) (.ref a2) (.ref a3) (.ref a4) (.ref a5) (.ref a6) (.ref a7) (.int (nI 0)) ya (by omega) (by omega) yc) [0] rfl rfl mokh_yL_make w_786 w_787 ⟨Nat.le_of_ble_eq_true rfl, Nat.le_of_ble_eq_true rfl⟩ rfl hl.1 rfl (Nat.le_of_ble_eq_true rfl) dL_law_276 ⟨(by dsimp only [room_1]; omega), (by dsimp only [room_1]; omega)⟩) hP hD hS hA [0] [1] rfl rfl rfl (by decide) (w2 := fun u0 => [(h1, .inr (12, [.int (nI 0), .ref a8])), (h0, .inr (9, [.ref a0, .ref a1, .ref a2, .ref a3, .ref a4, .ref a5, .ref a6, .ref a7, .int (nI 0)]))]) (fun _ => rfl) (fun u0 H locs hP hD hS => ?_)
  refine lv_istore (lv' := [(5, .int (nI 1)), (0, .ref b), (1, .ref h0), (2, .ref h1), (3, .ref a9), (4, .int (nI 0))]) hx hb dL_law_279 hl (by decide) rfl (fun ls hl => ?_)
  refine lv_aload_n hx hb dL_law_281 rfl (lv_at hl 3 rfl) ?_
  refine lv_aload_n hx hb dL_law_282 rfl (lv_at hl 1 rfl) ?_
  refine lv_iload hx hb dL_law_283 (lv_at hl 5 rfl) ?_
  refine lv_iconst (v := nI 1) hx hb dL_law_285 (by decide +kernel) ?_
  refine lv_iadd hx hb dL_law_286 ?_
  refine w_toeq (show (nI 0) + (nI 1) = nI 1 by decide +kernel) ?_
  refine va_sld hx hb hX hbl hbA hS (vp_in_nI (n := 1) (by decide) (by decide)) dL_law_287 ?_
  refine w_toeq (show xs (nI 1).toNatClampNeg = nI ya by rw [nI_clamp (n := 1) (by decide)]; exact hx1) ?_
  refine lv_aload_n hx hb dL_law_288 rfl (lv_at hl 1 rfl) ?_
  refine lv_iload hx hb dL_law_289 (lv_at hl 5 rfl) ?_
  refine lv_iconst (v := nI 2) hx hb dL_law_291 (by decide +kernel) ?_
  refine lv_iadd hx hb dL_law_292 ?_
  refine w_toeq (show (nI 0) + (nI 2) = nI 2 by decide +kernel) ?_
  refine va_sld hx hb hX hbl hbA hS (vp_in_nI (n := 2) (by decide) (by decide)) dL_law_293 ?_
  refine w_toeq (show xs (nI 2).toNatClampNeg = nI 3 by rw [nI_clamp (n := 2) (by decide)]; exact hx2) ?_
  refine lv_aload_n hx hb dL_law_294 rfl (lv_at hl 1 rfl) ?_
  refine lv_iload hx hb dL_law_295 (lv_at hl 5 rfl) ?_
  refine lv_iconst (v := nI 3) hx hb dL_law_297 (by decide +kernel) ?_
  refine lv_iadd hx hb dL_law_298 ?_
  refine w_toeq (show (nI 0) + (nI 3) = nI 3 by decide +kernel) ?_
  refine va_sld hx hb hX hbl hbA hS (vp_in_nI (n := 3) (by decide) (by decide)) dL_law_299 ?_
  refine w_toeq (show xs (nI 3).toNatClampNeg = yc by rw [nI_clamp (n := 3) (by decide)]; exact hx3) ?_
  refine k_i (wr := [(h0, .inr (9, [.ref a0, .ref a1, .ref a2, .ref a3, .ref a4, .ref a5, .ref a6, .ref a7, .int (nI 0)]))]) (run_V (rest := []) hx hb hml hown hts hK hP hD hS hA hm (C65_make l G D K H.size h1 (.ref a8) ya (by omega) (by omega) yc) [0] rfl rfl mok_yX12_make w_1341 w_1342 w_1343 (rcv hK hP 0 rfl rfl rfl) ⟨Nat.le_of_ble_eq_true rfl, Nat.le_of_ble_eq_true rfl⟩ rfl hl.1 rfl (Nat.le_of_ble_eq_true rfl) dL_law_300 ⟨(by dsimp only [room_1]; omega), (by dsimp only [room_1]; omega)⟩) hP hD hS hA [0] [1] rfl rfl rfl (by decide) (w2 := fun u1 => [(h0, .inr (9, [.ref a0, .ref a1, .ref a2, .ref a3, .ref a4, .ref a5, .ref a6, .ref a7, .int (nI 0)])), (h1, .inr (12, [.int (nI 1), .ref a8]))]) (fun _ => rfl) (fun u1 H locs hP hD hS => ?_)
  refine lv_istore (lv' := [(6, .int (nI 0)), (5, .int (nI 1)), (0, .ref b), (1, .ref h0), (2, .ref h1), (3, .ref a9), (4, .int (nI 0))]) hx hb dL_law_303 hl (by decide) rfl (fun ls hl => ?_)
  refine lv_aload_n hx hb dL_law_305 rfl (lv_at hl 4 rfl) ?_
  refine k_i (wr := [(h0, .inr (9, [.ref a0, .ref a1, .ref a2, .ref a3, .ref a4, .ref a5, .ref a6, .ref a7, .int (nI 0)]))]) (run_V (rest := []) hx hb hml hown hts hK hP hD hS hA hm (C1059_thrown l G D K H.size h1 (.ref a8)) [1] rfl rfl mok_yX12_thrown w_1300 w_1301 w_1302 (rcv hK hP 1 rfl rfl rfl) ⟨Nat.le_of_ble_eq_true rfl, Nat.le_of_ble_eq_true rfl⟩ rfl hl.1 rfl (Nat.le_of_ble_eq_true rfl) dL_law_306 ⟨(by dsimp only [room_1]; omega), (by dsimp only [room_1]; omega)⟩) hP hD hS hA [1] [0] rfl rfl rfl (by decide) (w2 := fun u2 => [(h0, .inr (9, [.ref a0, .ref a1, .ref a2, .ref a3, .ref a4, .ref a5, .ref a6, .ref a7, .int (nI 0)])), (h1, .inr (12, [.int (nI 1), .ref a8]))]) (fun _ => rfl) (fun u2 H locs hP hD hS => ?_)
  refine lv_iload hx hb dL_law_309 (lv_at hl 1 rfl) ?_
  refine lv_icmp_eq (tgt := 316) hx hb dL_law_311 (by decide) (fun _ => ?_) (fun c9 => absurd (by decide +kernel) c9)
  refine lv_iload hx hb dL_law_316 (lv_at hl 1 rfl) ?_
  refine lv_if_ne (tgt := 333) hx hb dL_law_318 (by decide) (fun _ => ?_) (fun c9 => absurd c9 (by decide +kernel))
  refine lv_goto (tgt := 1762) hx hb dL_law_333 (by decide) ?_
  refine lv_iinc (v := nI 4) (lv' := [(4, .int (nI 4)), (6, .int (nI 0)), (5, .int (nI 1)), (0, .ref b), (1, .ref h0), (2, .ref h1), (3, .ref a9)]) hx hb dL_law_1762 hl (k := 6) rfl (by decide +kernel) (by decide) rfl (fun ls hl => ?_)
  refine lv_goto (tgt := 23) hx hb dL_law_1765 (by decide) ?_
  refine lv_iload hx hb dL_law_23 (lv_at hl 0 rfl) ?_
  refine lv_aload_n hx hb dL_law_25 rfl (lv_at hl 3 rfl) ?_
  refine va_slen hx hb hX hbl hbA hS dL_law_26 ?_
  refine w_toeq (show Int32.ofNat 4 = nI 4 from rfl) ?_
  refine lv_iconst (v := nI 4) hx hb dL_law_27 (by decide +kernel) ?_
  refine lv_isub hx hb dL_law_28 ?_
  refine w_toeq (show (nI 4) - (nI 4) = nI 0 by decide +kernel) ?_
  refine lv_icmp_gt (tgt := 1768) hx hb dL_law_29 (by decide) (fun _ => ?_) (fun c9 => absurd (by decide +kernel) c9)
  refine lv_iconst (v := nI 1) hx hb dL_law_1768 (by decide +kernel) ?_
  exact law_end hx hb hr hlk hS (by dsimp only; omega) (by dsimp only; omega) dL_law_1769
set_option maxHeartbeats 4000000 in
set_option maxRecDepth 100000 in
theorem LW14_make {p : Program} {e : Env} {s : State} {m : MethodId} {below : List Frame} {meth : Method} {c : Code} {l : Launch} {G : Nat → Nat} {D : va_G} {K : Nat → ClassId} {b : Nat} {xs : Nat → Int32} (hx : p.tables.exec = Jvm.exec) (hb : c.code = cL_law) (hr : meth.sig.returnType = some .boolean) (hlk : meth.locks = false) (hl0 : l.stackTraces = false) (hnc : Ncs s) (hml : c.maxLocals = 9) (hown : s.vm.findClass RL = some m.cls) (hts : ∀ w ∈ lw_gw, w.before #[Value.ref b] s = true) (hK : va_K D cl (tys K) s) (hm : Amb G (fun q : Nat => s.heap.size ≤ q) s s.heap) (hX : va_X b 4 xs s s.heap) (hbl : b < s.heap.size) {h0 h1 a0 a1 a2 a3 a4 a5 a6 a7 a8 a9 : Nat} (ya : Nat) (lya : 4 ≤ ya) (gya : ya ≤ 2147483647) (hx1 : xs 1 = nI ya) (hx2 : xs 2 = nI 4) (yc : Int32) (hx3 : xs 3 = yc) {H : Heap} {locs : List Loc} {cells slots : Nat} (hcs : cells ≤ 1000) (hss : slots ≤ 100000) (hP : va_P D cl [(h0, .inr (9, [.ref a0, .ref a1, .ref a2, .ref a3, .ref a4, .ref a5, .ref a6, .ref a7, .int (nI 0)])), (h1, .inr (12, [.int (nI 0), .ref a8]))] H) (hD : va_D (fun q : Nat => s.heap.size ≤ q) [(h0, .inr (9, [.ref a0, .ref a1, .ref a2, .ref a3, .ref a4, .ref a5, .ref a6, .ref a7, .int (nI 0)])), (h1, .inr (12, [.int (nI 0), .ref a8]))]) (hS : va_S (fun q : Nat => s.heap.size ≤ q) s.heap H locs) {ls : Array Slot} (hl : lv_has ls 9 [(0, .ref b), (1, .ref h0), (2, .ref h1), (3, .ref a9), (4, .int (nI 0))]) : W p l e room_1 s m #[Value.ref b] below meth c H locs cells slots (lw_Z below #[Value.ref b] s) (F0 m 256 ls []) := by
  have hA : ∀ q : Nat, s.heap.size ≤ q → (fun q : Nat => s.heap.size ≤ q) q := fun _ h => h
  have hbA : ¬ (fun q : Nat => s.heap.size ≤ q) b := Nat.not_le.mpr hbl
  refine lv_aload_n hx hb dL_law_256 rfl (lv_at hl 1 rfl) ?_
  refine lv_aload_n hx hb dL_law_257 rfl (lv_at hl 0 rfl) ?_
  refine lv_iload hx hb dL_law_258 (lv_at hl 4 rfl) ?_
  refine lv_iconst (v := nI 1) hx hb dL_law_260 (by decide +kernel) ?_
  refine lv_iadd hx hb dL_law_261 ?_
  refine w_toeq (show (nI 0) + (nI 1) = nI 1 by decide +kernel) ?_
  refine va_sld hx hb hX hbl hbA hS (vp_in_nI (n := 1) (by decide) (by decide)) dL_law_262 ?_
  refine w_toeq (show xs (nI 1).toNatClampNeg = nI ya by rw [nI_clamp (n := 1) (by decide)]; exact hx1) ?_
  refine lv_aload_n hx hb dL_law_263 rfl (lv_at hl 0 rfl) ?_
  refine lv_iload hx hb dL_law_264 (lv_at hl 4 rfl) ?_
  refine lv_iconst (v := nI 2) hx hb dL_law_266 (by decide +kernel) ?_
  refine lv_iadd hx hb dL_law_267 ?_
  refine w_toeq (show (nI 0) + (nI 2) = nI 2 by decide +kernel) ?_
  refine va_sld hx hb hX hbl hbA hS (vp_in_nI (n := 2) (by decide) (by decide)) dL_law_268 ?_
  refine w_toeq (show xs (nI 2).toNatClampNeg = nI 4 by rw [nI_clamp (n := 2) (by decide)]; exact hx2) ?_
  refine lv_aload_n hx hb dL_law_269 rfl (lv_at hl 0 rfl) ?_
  refine lv_iload hx hb dL_law_270 (lv_at hl 4 rfl) ?_
  refine lv_iconst (v := nI 3) hx hb dL_law_272 (by decide +kernel) ?_
  refine lv_iadd hx hb dL_law_273 ?_
  refine w_toeq (show (nI 0) + (nI 3) = nI 3 by decide +kernel) ?_
  refine va_sld hx hb hX hbl hbA hS (vp_in_nI (n := 3) (by decide) (by decide)) dL_law_274 ?_
  refine w_toeq (show xs (nI 3).toNatClampNeg = yc by rw [nI_clamp (n := 3) (by decide)]; exact hx3) ?_
  refine lv_aload_n hx hb dL_law_275 rfl (lv_at hl 3 rfl) ?_
  refine k_i (wr := [(h1, .inr (12, [.int (nI 0), .ref a8]))]) (run_SW hnc (rest := []) hx hb hml hown hts hK hP hD hS hA hm (C1072_make l G D K hl0 H.size h0 a9 (.ref a0) (.ref a1) (.ref a2) (.ref a3) (.ref a4) (.ref a5) (.ref a6) (.ref a7) (.int (nI 0)) ya (by omega) (by omega) yc) [0] rfl rfl mokh_yL_make w_786 w_787 ⟨Nat.le_of_ble_eq_true rfl, Nat.le_of_ble_eq_true rfl⟩ rfl hl.1 rfl (Nat.le_of_ble_eq_true rfl) dL_law_276 ⟨(by dsimp only [room_1]; omega), (by dsimp only [room_1]; omega)⟩) hP hD hS hA [0] [1] rfl rfl rfl (by decide) (w2 := fun u0 => [(h1, .inr (12, [.int (nI 0), .ref a8])), (h0, .inr (9, [.ref a0, .ref a1, .ref a2, .ref a3, .ref a4, .ref a5, .ref a6, .ref a7, .int (nI 0)]))]) (fun _ => rfl) (fun u0 H locs hP hD hS => ?_)
  refine lv_istore (lv' := [(5, .int (nI 1)), (0, .ref b), (1, .ref h0), (2, .ref h1), (3, .ref a9), (4, .int (nI 0))]) hx hb dL_law_279 hl (by decide) rfl (fun ls hl => ?_)
  refine lv_aload_n hx hb dL_law_281 rfl (lv_at hl 3 rfl) ?_
  refine lv_aload_n hx hb dL_law_282 rfl (lv_at hl 1 rfl) ?_
  refine lv_iload hx hb dL_law_283 (lv_at hl 5 rfl) ?_
  refine lv_iconst (v := nI 1) hx hb dL_law_285 (by decide +kernel) ?_
  refine lv_iadd hx hb dL_law_286 ?_
  refine w_toeq (show (nI 0) + (nI 1) = nI 1 by decide +kernel) ?_
  refine va_sld hx hb hX hbl hbA hS (vp_in_nI (n := 1) (by decide) (by decide)) dL_law_287 ?_
  refine w_toeq (show xs (nI 1).toNatClampNeg = nI ya by rw [nI_clamp (n := 1) (by decide)]; exact hx1) ?_
  refine lv_aload_n hx hb dL_law_288 rfl (lv_at hl 1 rfl) ?_
  refine lv_iload hx hb dL_law_289 (lv_at hl 5 rfl) ?_
  refine lv_iconst (v := nI 2) hx hb dL_law_291 (by decide +kernel) ?_
  refine lv_iadd hx hb dL_law_292 ?_
  refine w_toeq (show (nI 0) + (nI 2) = nI 2 by decide +kernel) ?_
  refine va_sld hx hb hX hbl hbA hS (vp_in_nI (n := 2) (by decide) (by decide)) dL_law_293 ?_
  refine w_toeq (show xs (nI 2).toNatClampNeg = nI 4 by rw [nI_clamp (n := 2) (by decide)]; exact hx2) ?_
  refine lv_aload_n hx hb dL_law_294 rfl (lv_at hl 1 rfl) ?_
  refine lv_iload hx hb dL_law_295 (lv_at hl 5 rfl) ?_
  refine lv_iconst (v := nI 3) hx hb dL_law_297 (by decide +kernel) ?_
  refine lv_iadd hx hb dL_law_298 ?_
  refine w_toeq (show (nI 0) + (nI 3) = nI 3 by decide +kernel) ?_
  refine va_sld hx hb hX hbl hbA hS (vp_in_nI (n := 3) (by decide) (by decide)) dL_law_299 ?_
  refine w_toeq (show xs (nI 3).toNatClampNeg = yc by rw [nI_clamp (n := 3) (by decide)]; exact hx3) ?_
  refine k_i (wr := [(h0, .inr (9, [.ref a0, .ref a1, .ref a2, .ref a3, .ref a4, .ref a5, .ref a6, .ref a7, .int (nI 0)]))]) (run_V (rest := []) hx hb hml hown hts hK hP hD hS hA hm (C67_make l G D K H.size h1 (.ref a8) ya (by omega) (by omega) yc) [0] rfl rfl mok_yX12_make w_1341 w_1342 w_1343 (rcv hK hP 0 rfl rfl rfl) ⟨Nat.le_of_ble_eq_true rfl, Nat.le_of_ble_eq_true rfl⟩ rfl hl.1 rfl (Nat.le_of_ble_eq_true rfl) dL_law_300 ⟨(by dsimp only [room_1]; omega), (by dsimp only [room_1]; omega)⟩) hP hD hS hA [0] [1] rfl rfl rfl (by decide) (w2 := fun u1 => [(h0, .inr (9, [.ref a0, .ref a1, .ref a2, .ref a3, .ref a4, .ref a5, .ref a6, .ref a7, .int (nI 0)])), (h1, .inr (12, [.int (nI 1), .ref a8]))]) (fun _ => rfl) (fun u1 H locs hP hD hS => ?_)
  refine lv_istore (lv' := [(6, .int (nI 0)), (5, .int (nI 1)), (0, .ref b), (1, .ref h0), (2, .ref h1), (3, .ref a9), (4, .int (nI 0))]) hx hb dL_law_303 hl (by decide) rfl (fun ls hl => ?_)
  refine lv_aload_n hx hb dL_law_305 rfl (lv_at hl 4 rfl) ?_
  refine k_i (wr := [(h0, .inr (9, [.ref a0, .ref a1, .ref a2, .ref a3, .ref a4, .ref a5, .ref a6, .ref a7, .int (nI 0)]))]) (run_V (rest := []) hx hb hml hown hts hK hP hD hS hA hm (C1059_thrown l G D K H.size h1 (.ref a8)) [1] rfl rfl mok_yX12_thrown w_1300 w_1301 w_1302 (rcv hK hP 1 rfl rfl rfl) ⟨Nat.le_of_ble_eq_true rfl, Nat.le_of_ble_eq_true rfl⟩ rfl hl.1 rfl (Nat.le_of_ble_eq_true rfl) dL_law_306 ⟨(by dsimp only [room_1]; omega), (by dsimp only [room_1]; omega)⟩) hP hD hS hA [1] [0] rfl rfl rfl (by decide) (w2 := fun u2 => [(h0, .inr (9, [.ref a0, .ref a1, .ref a2, .ref a3, .ref a4, .ref a5, .ref a6, .ref a7, .int (nI 0)])), (h1, .inr (12, [.int (nI 1), .ref a8]))]) (fun _ => rfl) (fun u2 H locs hP hD hS => ?_)
  refine lv_iload hx hb dL_law_309 (lv_at hl 1 rfl) ?_
  refine lv_icmp_eq (tgt := 316) hx hb dL_law_311 (by decide) (fun _ => ?_) (fun c9 => absurd (by decide +kernel) c9)
  refine lv_iload hx hb dL_law_316 (lv_at hl 1 rfl) ?_
  refine lv_if_ne (tgt := 333) hx hb dL_law_318 (by decide) (fun _ => ?_) (fun c9 => absurd c9 (by decide +kernel))
  refine lv_goto (tgt := 1762) hx hb dL_law_333 (by decide) ?_
  refine lv_iinc (v := nI 4) (lv' := [(4, .int (nI 4)), (6, .int (nI 0)), (5, .int (nI 1)), (0, .ref b), (1, .ref h0), (2, .ref h1), (3, .ref a9)]) hx hb dL_law_1762 hl (k := 6) rfl (by decide +kernel) (by decide) rfl (fun ls hl => ?_)
  refine lv_goto (tgt := 23) hx hb dL_law_1765 (by decide) ?_
  refine lv_iload hx hb dL_law_23 (lv_at hl 0 rfl) ?_
  refine lv_aload_n hx hb dL_law_25 rfl (lv_at hl 3 rfl) ?_
  refine va_slen hx hb hX hbl hbA hS dL_law_26 ?_
  refine w_toeq (show Int32.ofNat 4 = nI 4 from rfl) ?_
  refine lv_iconst (v := nI 4) hx hb dL_law_27 (by decide +kernel) ?_
  refine lv_isub hx hb dL_law_28 ?_
  refine w_toeq (show (nI 4) - (nI 4) = nI 0 by decide +kernel) ?_
  refine lv_icmp_gt (tgt := 1768) hx hb dL_law_29 (by decide) (fun _ => ?_) (fun c9 => absurd (by decide +kernel) c9)
  refine lv_iconst (v := nI 1) hx hb dL_law_1768 (by decide +kernel) ?_
  exact law_end hx hb hr hlk hS (by dsimp only; omega) (by dsimp only; omega) dL_law_1769
set_option maxHeartbeats 4000000 in
set_option maxRecDepth 100000 in
theorem LW15_make {p : Program} {e : Env} {s : State} {m : MethodId} {below : List Frame} {meth : Method} {c : Code} {l : Launch} {G : Nat → Nat} {D : va_G} {K : Nat → ClassId} {b : Nat} {xs : Nat → Int32} (hx : p.tables.exec = Jvm.exec) (hb : c.code = cL_law) (hr : meth.sig.returnType = some .boolean) (hlk : meth.locks = false) (hl0 : l.stackTraces = false) (hnc : Ncs s) (hml : c.maxLocals = 9) (hown : s.vm.findClass RL = some m.cls) (hts : ∀ w ∈ lw_gw, w.before #[Value.ref b] s = true) (hK : va_K D cl (tys K) s) (hm : Amb G (fun q : Nat => s.heap.size ≤ q) s s.heap) (hX : va_X b 4 xs s s.heap) (hbl : b < s.heap.size) {h0 h1 a0 a1 a2 a3 a4 a5 a6 a7 a8 a9 : Nat} (ya : Nat) (lya : 4 ≤ ya) (gya : ya ≤ 2147483647) (hx1 : xs 1 = nI ya) (yb : Nat) (lyb : 5 ≤ yb) (gyb : yb ≤ 2147483647) (hx2 : xs 2 = nI yb) (yc : Int32) (hx3 : xs 3 = yc) {H : Heap} {locs : List Loc} {cells slots : Nat} (hcs : cells ≤ 1000) (hss : slots ≤ 100000) (hP : va_P D cl [(h0, .inr (9, [.ref a0, .ref a1, .ref a2, .ref a3, .ref a4, .ref a5, .ref a6, .ref a7, .int (nI 0)])), (h1, .inr (12, [.int (nI 0), .ref a8]))] H) (hD : va_D (fun q : Nat => s.heap.size ≤ q) [(h0, .inr (9, [.ref a0, .ref a1, .ref a2, .ref a3, .ref a4, .ref a5, .ref a6, .ref a7, .int (nI 0)])), (h1, .inr (12, [.int (nI 0), .ref a8]))]) (hS : va_S (fun q : Nat => s.heap.size ≤ q) s.heap H locs) {ls : Array Slot} (hl : lv_has ls 9 [(0, .ref b), (1, .ref h0), (2, .ref h1), (3, .ref a9), (4, .int (nI 0))]) : W p l e room_1 s m #[Value.ref b] below meth c H locs cells slots (lw_Z below #[Value.ref b] s) (F0 m 256 ls []) := by
  have hA : ∀ q : Nat, s.heap.size ≤ q → (fun q : Nat => s.heap.size ≤ q) q := fun _ h => h
  have hbA : ¬ (fun q : Nat => s.heap.size ≤ q) b := Nat.not_le.mpr hbl
  refine lv_aload_n hx hb dL_law_256 rfl (lv_at hl 1 rfl) ?_
  refine lv_aload_n hx hb dL_law_257 rfl (lv_at hl 0 rfl) ?_
  refine lv_iload hx hb dL_law_258 (lv_at hl 4 rfl) ?_
  refine lv_iconst (v := nI 1) hx hb dL_law_260 (by decide +kernel) ?_
  refine lv_iadd hx hb dL_law_261 ?_
  refine w_toeq (show (nI 0) + (nI 1) = nI 1 by decide +kernel) ?_
  refine va_sld hx hb hX hbl hbA hS (vp_in_nI (n := 1) (by decide) (by decide)) dL_law_262 ?_
  refine w_toeq (show xs (nI 1).toNatClampNeg = nI ya by rw [nI_clamp (n := 1) (by decide)]; exact hx1) ?_
  refine lv_aload_n hx hb dL_law_263 rfl (lv_at hl 0 rfl) ?_
  refine lv_iload hx hb dL_law_264 (lv_at hl 4 rfl) ?_
  refine lv_iconst (v := nI 2) hx hb dL_law_266 (by decide +kernel) ?_
  refine lv_iadd hx hb dL_law_267 ?_
  refine w_toeq (show (nI 0) + (nI 2) = nI 2 by decide +kernel) ?_
  refine va_sld hx hb hX hbl hbA hS (vp_in_nI (n := 2) (by decide) (by decide)) dL_law_268 ?_
  refine w_toeq (show xs (nI 2).toNatClampNeg = nI yb by rw [nI_clamp (n := 2) (by decide)]; exact hx2) ?_
  refine lv_aload_n hx hb dL_law_269 rfl (lv_at hl 0 rfl) ?_
  refine lv_iload hx hb dL_law_270 (lv_at hl 4 rfl) ?_
  refine lv_iconst (v := nI 3) hx hb dL_law_272 (by decide +kernel) ?_
  refine lv_iadd hx hb dL_law_273 ?_
  refine w_toeq (show (nI 0) + (nI 3) = nI 3 by decide +kernel) ?_
  refine va_sld hx hb hX hbl hbA hS (vp_in_nI (n := 3) (by decide) (by decide)) dL_law_274 ?_
  refine w_toeq (show xs (nI 3).toNatClampNeg = yc by rw [nI_clamp (n := 3) (by decide)]; exact hx3) ?_
  refine lv_aload_n hx hb dL_law_275 rfl (lv_at hl 3 rfl) ?_
  refine k_i (wr := [(h1, .inr (12, [.int (nI 0), .ref a8]))]) (run_SW hnc (rest := []) hx hb hml hown hts hK hP hD hS hA hm (C1073_make l G D K hl0 H.size h0 a9 (.ref a0) (.ref a1) (.ref a2) (.ref a3) (.ref a4) (.ref a5) (.ref a6) (.ref a7) (.int (nI 0)) ya (by omega) (by omega) yb (by omega) (by omega) yc) [0] rfl rfl mokh_yL_make w_786 w_787 ⟨Nat.le_of_ble_eq_true rfl, Nat.le_of_ble_eq_true rfl⟩ rfl hl.1 rfl (Nat.le_of_ble_eq_true rfl) dL_law_276 ⟨(by dsimp only [room_1]; omega), (by dsimp only [room_1]; omega)⟩) hP hD hS hA [0] [1] rfl rfl rfl (by decide) (w2 := fun u0 => [(h1, .inr (12, [.int (nI 0), .ref a8])), (h0, .inr (9, [.ref a0, .ref a1, .ref a2, .ref a3, .ref a4, .ref a5, .ref a6, .ref a7, .int (nI 0)]))]) (fun _ => rfl) (fun u0 H locs hP hD hS => ?_)
  refine lv_istore (lv' := [(5, .int (nI 1)), (0, .ref b), (1, .ref h0), (2, .ref h1), (3, .ref a9), (4, .int (nI 0))]) hx hb dL_law_279 hl (by decide) rfl (fun ls hl => ?_)
  refine lv_aload_n hx hb dL_law_281 rfl (lv_at hl 3 rfl) ?_
  refine lv_aload_n hx hb dL_law_282 rfl (lv_at hl 1 rfl) ?_
  refine lv_iload hx hb dL_law_283 (lv_at hl 5 rfl) ?_
  refine lv_iconst (v := nI 1) hx hb dL_law_285 (by decide +kernel) ?_
  refine lv_iadd hx hb dL_law_286 ?_
  refine w_toeq (show (nI 0) + (nI 1) = nI 1 by decide +kernel) ?_
  refine va_sld hx hb hX hbl hbA hS (vp_in_nI (n := 1) (by decide) (by decide)) dL_law_287 ?_
  refine w_toeq (show xs (nI 1).toNatClampNeg = nI ya by rw [nI_clamp (n := 1) (by decide)]; exact hx1) ?_
  refine lv_aload_n hx hb dL_law_288 rfl (lv_at hl 1 rfl) ?_
  refine lv_iload hx hb dL_law_289 (lv_at hl 5 rfl) ?_
  refine lv_iconst (v := nI 2) hx hb dL_law_291 (by decide +kernel) ?_
  refine lv_iadd hx hb dL_law_292 ?_
  refine w_toeq (show (nI 0) + (nI 2) = nI 2 by decide +kernel) ?_
  refine va_sld hx hb hX hbl hbA hS (vp_in_nI (n := 2) (by decide) (by decide)) dL_law_293 ?_
  refine w_toeq (show xs (nI 2).toNatClampNeg = nI yb by rw [nI_clamp (n := 2) (by decide)]; exact hx2) ?_
  refine lv_aload_n hx hb dL_law_294 rfl (lv_at hl 1 rfl) ?_
  refine lv_iload hx hb dL_law_295 (lv_at hl 5 rfl) ?_
  refine lv_iconst (v := nI 3) hx hb dL_law_297 (by decide +kernel) ?_
  refine lv_iadd hx hb dL_law_298 ?_
  refine w_toeq (show (nI 0) + (nI 3) = nI 3 by decide +kernel) ?_
  refine va_sld hx hb hX hbl hbA hS (vp_in_nI (n := 3) (by decide) (by decide)) dL_law_299 ?_
  refine w_toeq (show xs (nI 3).toNatClampNeg = yc by rw [nI_clamp (n := 3) (by decide)]; exact hx3) ?_
  refine k_i (wr := [(h0, .inr (9, [.ref a0, .ref a1, .ref a2, .ref a3, .ref a4, .ref a5, .ref a6, .ref a7, .int (nI 0)]))]) (run_V (rest := []) hx hb hml hown hts hK hP hD hS hA hm (C69_make l G D K H.size h1 (.ref a8) ya (by omega) (by omega) yb (by omega) (by omega) yc) [0] rfl rfl mok_yX12_make w_1341 w_1342 w_1343 (rcv hK hP 0 rfl rfl rfl) ⟨Nat.le_of_ble_eq_true rfl, Nat.le_of_ble_eq_true rfl⟩ rfl hl.1 rfl (Nat.le_of_ble_eq_true rfl) dL_law_300 ⟨(by dsimp only [room_1]; omega), (by dsimp only [room_1]; omega)⟩) hP hD hS hA [0] [1] rfl rfl rfl (by decide) (w2 := fun u1 => [(h0, .inr (9, [.ref a0, .ref a1, .ref a2, .ref a3, .ref a4, .ref a5, .ref a6, .ref a7, .int (nI 0)])), (h1, .inr (12, [.int (nI 1), .ref a8]))]) (fun _ => rfl) (fun u1 H locs hP hD hS => ?_)
  refine lv_istore (lv' := [(6, .int (nI 0)), (5, .int (nI 1)), (0, .ref b), (1, .ref h0), (2, .ref h1), (3, .ref a9), (4, .int (nI 0))]) hx hb dL_law_303 hl (by decide) rfl (fun ls hl => ?_)
  refine lv_aload_n hx hb dL_law_305 rfl (lv_at hl 4 rfl) ?_
  refine k_i (wr := [(h0, .inr (9, [.ref a0, .ref a1, .ref a2, .ref a3, .ref a4, .ref a5, .ref a6, .ref a7, .int (nI 0)]))]) (run_V (rest := []) hx hb hml hown hts hK hP hD hS hA hm (C1059_thrown l G D K H.size h1 (.ref a8)) [1] rfl rfl mok_yX12_thrown w_1300 w_1301 w_1302 (rcv hK hP 1 rfl rfl rfl) ⟨Nat.le_of_ble_eq_true rfl, Nat.le_of_ble_eq_true rfl⟩ rfl hl.1 rfl (Nat.le_of_ble_eq_true rfl) dL_law_306 ⟨(by dsimp only [room_1]; omega), (by dsimp only [room_1]; omega)⟩) hP hD hS hA [1] [0] rfl rfl rfl (by decide) (w2 := fun u2 => [(h0, .inr (9, [.ref a0, .ref a1, .ref a2, .ref a3, .ref a4, .ref a5, .ref a6, .ref a7, .int (nI 0)])), (h1, .inr (12, [.int (nI 1), .ref a8]))]) (fun _ => rfl) (fun u2 H locs hP hD hS => ?_)
  refine lv_iload hx hb dL_law_309 (lv_at hl 1 rfl) ?_
  refine lv_icmp_eq (tgt := 316) hx hb dL_law_311 (by decide) (fun _ => ?_) (fun c9 => absurd (by decide +kernel) c9)
  refine lv_iload hx hb dL_law_316 (lv_at hl 1 rfl) ?_
  refine lv_if_ne (tgt := 333) hx hb dL_law_318 (by decide) (fun _ => ?_) (fun c9 => absurd c9 (by decide +kernel))
  refine lv_goto (tgt := 1762) hx hb dL_law_333 (by decide) ?_
  refine lv_iinc (v := nI 4) (lv' := [(4, .int (nI 4)), (6, .int (nI 0)), (5, .int (nI 1)), (0, .ref b), (1, .ref h0), (2, .ref h1), (3, .ref a9)]) hx hb dL_law_1762 hl (k := 6) rfl (by decide +kernel) (by decide) rfl (fun ls hl => ?_)
  refine lv_goto (tgt := 23) hx hb dL_law_1765 (by decide) ?_
  refine lv_iload hx hb dL_law_23 (lv_at hl 0 rfl) ?_
  refine lv_aload_n hx hb dL_law_25 rfl (lv_at hl 3 rfl) ?_
  refine va_slen hx hb hX hbl hbA hS dL_law_26 ?_
  refine w_toeq (show Int32.ofNat 4 = nI 4 from rfl) ?_
  refine lv_iconst (v := nI 4) hx hb dL_law_27 (by decide +kernel) ?_
  refine lv_isub hx hb dL_law_28 ?_
  refine w_toeq (show (nI 4) - (nI 4) = nI 0 by decide +kernel) ?_
  refine lv_icmp_gt (tgt := 1768) hx hb dL_law_29 (by decide) (fun _ => ?_) (fun c9 => absurd (by decide +kernel) c9)
  refine lv_iconst (v := nI 1) hx hb dL_law_1768 (by decide +kernel) ?_
  exact law_end hx hb hr hlk hS (by dsimp only; omega) (by dsimp only; omega) dL_law_1769
set_option maxHeartbeats 4000000 in
set_option maxRecDepth 100000 in
theorem LW16_make {p : Program} {e : Env} {s : State} {m : MethodId} {below : List Frame} {meth : Method} {c : Code} {l : Launch} {G : Nat → Nat} {D : va_G} {K : Nat → ClassId} {b : Nat} {xs : Nat → Int32} (hx : p.tables.exec = Jvm.exec) (hb : c.code = cL_law) (hr : meth.sig.returnType = some .boolean) (hlk : meth.locks = false) (hl0 : l.stackTraces = false) (hnc : Ncs s) (hml : c.maxLocals = 9) (hown : s.vm.findClass RL = some m.cls) (hts : ∀ w ∈ lw_gw, w.before #[Value.ref b] s = true) (hK : va_K D cl (tys K) s) (hm : Amb G (fun q : Nat => s.heap.size ≤ q) s s.heap) (hX : va_X b 4 xs s s.heap) (hbl : b < s.heap.size) {h0 h1 a0 a1 a2 a3 a4 a5 a6 a7 a8 a9 : Nat} (ya : Nat) (lya : 0 ≤ ya) (gya : ya ≤ 3) (hx1 : xs 1 = nI ya) (yb : Int32) (hyb : yb < 0) (hx2 : xs 2 = yb) (yc : Int32) (hx3 : xs 3 = yc) {H : Heap} {locs : List Loc} {cells slots : Nat} (hcs : cells ≤ 1000) (hss : slots ≤ 100000) (hP : va_P D cl [(h0, .inr (9, [.ref a0, .ref a1, .ref a2, .ref a3, .ref a4, .ref a5, .ref a6, .ref a7, .int (nI 0)])), (h1, .inr (12, [.int (nI 0), .ref a8]))] H) (hD : va_D (fun q : Nat => s.heap.size ≤ q) [(h0, .inr (9, [.ref a0, .ref a1, .ref a2, .ref a3, .ref a4, .ref a5, .ref a6, .ref a7, .int (nI 0)])), (h1, .inr (12, [.int (nI 0), .ref a8]))]) (hS : va_S (fun q : Nat => s.heap.size ≤ q) s.heap H locs) {ls : Array Slot} (hl : lv_has ls 9 [(0, .ref b), (1, .ref h0), (2, .ref h1), (3, .ref a9), (4, .int (nI 0))]) : W p l e room_1 s m #[Value.ref b] below meth c H locs cells slots (lw_Z below #[Value.ref b] s) (F0 m 256 ls []) := by
  have hA : ∀ q : Nat, s.heap.size ≤ q → (fun q : Nat => s.heap.size ≤ q) q := fun _ h => h
  have hbA : ¬ (fun q : Nat => s.heap.size ≤ q) b := Nat.not_le.mpr hbl
  refine lv_aload_n hx hb dL_law_256 rfl (lv_at hl 1 rfl) ?_
  refine lv_aload_n hx hb dL_law_257 rfl (lv_at hl 0 rfl) ?_
  refine lv_iload hx hb dL_law_258 (lv_at hl 4 rfl) ?_
  refine lv_iconst (v := nI 1) hx hb dL_law_260 (by decide +kernel) ?_
  refine lv_iadd hx hb dL_law_261 ?_
  refine w_toeq (show (nI 0) + (nI 1) = nI 1 by decide +kernel) ?_
  refine va_sld hx hb hX hbl hbA hS (vp_in_nI (n := 1) (by decide) (by decide)) dL_law_262 ?_
  refine w_toeq (show xs (nI 1).toNatClampNeg = nI ya by rw [nI_clamp (n := 1) (by decide)]; exact hx1) ?_
  refine lv_aload_n hx hb dL_law_263 rfl (lv_at hl 0 rfl) ?_
  refine lv_iload hx hb dL_law_264 (lv_at hl 4 rfl) ?_
  refine lv_iconst (v := nI 2) hx hb dL_law_266 (by decide +kernel) ?_
  refine lv_iadd hx hb dL_law_267 ?_
  refine w_toeq (show (nI 0) + (nI 2) = nI 2 by decide +kernel) ?_
  refine va_sld hx hb hX hbl hbA hS (vp_in_nI (n := 2) (by decide) (by decide)) dL_law_268 ?_
  refine w_toeq (show xs (nI 2).toNatClampNeg = yb by rw [nI_clamp (n := 2) (by decide)]; exact hx2) ?_
  refine lv_aload_n hx hb dL_law_269 rfl (lv_at hl 0 rfl) ?_
  refine lv_iload hx hb dL_law_270 (lv_at hl 4 rfl) ?_
  refine lv_iconst (v := nI 3) hx hb dL_law_272 (by decide +kernel) ?_
  refine lv_iadd hx hb dL_law_273 ?_
  refine w_toeq (show (nI 0) + (nI 3) = nI 3 by decide +kernel) ?_
  refine va_sld hx hb hX hbl hbA hS (vp_in_nI (n := 3) (by decide) (by decide)) dL_law_274 ?_
  refine w_toeq (show xs (nI 3).toNatClampNeg = yc by rw [nI_clamp (n := 3) (by decide)]; exact hx3) ?_
  refine lv_aload_n hx hb dL_law_275 rfl (lv_at hl 3 rfl) ?_
  refine k_i (wr := [(h1, .inr (12, [.int (nI 0), .ref a8]))]) (run_SW hnc (rest := []) hx hb hml hown hts hK hP hD hS hA hm (C1074_make l G D K hl0 H.size h0 a9 (.ref a0) (.ref a1) (.ref a2) (.ref a3) (.ref a4) (.ref a5) (.ref a6) (.ref a7) (.int (nI 0)) ya (by omega) (by omega) yb hyb yc) [0] rfl rfl mokh_yL_make w_786 w_787 ⟨Nat.le_of_ble_eq_true rfl, Nat.le_of_ble_eq_true rfl⟩ rfl hl.1 rfl (Nat.le_of_ble_eq_true rfl) dL_law_276 ⟨(by dsimp only [room_1]; omega), (by dsimp only [room_1]; omega)⟩) hP hD hS hA [0] [1] rfl rfl rfl (by decide) (w2 := fun u0 => [(h1, .inr (12, [.int (nI 0), .ref a8])), (h0, .inr (9, [.ref a0, .ref a1, .ref a2, .ref a3, .ref a4, .ref a5, .ref a6, .ref a7, .int (nI 0)]))]) (fun _ => rfl) (fun u0 H locs hP hD hS => ?_)
  refine lv_istore (lv' := [(5, .int (nI 2)), (0, .ref b), (1, .ref h0), (2, .ref h1), (3, .ref a9), (4, .int (nI 0))]) hx hb dL_law_279 hl (by decide) rfl (fun ls hl => ?_)
  refine lv_aload_n hx hb dL_law_281 rfl (lv_at hl 3 rfl) ?_
  refine lv_aload_n hx hb dL_law_282 rfl (lv_at hl 1 rfl) ?_
  refine lv_iload hx hb dL_law_283 (lv_at hl 5 rfl) ?_
  refine lv_iconst (v := nI 1) hx hb dL_law_285 (by decide +kernel) ?_
  refine lv_iadd hx hb dL_law_286 ?_
  refine w_toeq (show (nI 0) + (nI 1) = nI 1 by decide +kernel) ?_
  refine va_sld hx hb hX hbl hbA hS (vp_in_nI (n := 1) (by decide) (by decide)) dL_law_287 ?_
  refine w_toeq (show xs (nI 1).toNatClampNeg = nI ya by rw [nI_clamp (n := 1) (by decide)]; exact hx1) ?_
  refine lv_aload_n hx hb dL_law_288 rfl (lv_at hl 1 rfl) ?_
  refine lv_iload hx hb dL_law_289 (lv_at hl 5 rfl) ?_
  refine lv_iconst (v := nI 2) hx hb dL_law_291 (by decide +kernel) ?_
  refine lv_iadd hx hb dL_law_292 ?_
  refine w_toeq (show (nI 0) + (nI 2) = nI 2 by decide +kernel) ?_
  refine va_sld hx hb hX hbl hbA hS (vp_in_nI (n := 2) (by decide) (by decide)) dL_law_293 ?_
  refine w_toeq (show xs (nI 2).toNatClampNeg = yb by rw [nI_clamp (n := 2) (by decide)]; exact hx2) ?_
  refine lv_aload_n hx hb dL_law_294 rfl (lv_at hl 1 rfl) ?_
  refine lv_iload hx hb dL_law_295 (lv_at hl 5 rfl) ?_
  refine lv_iconst (v := nI 3) hx hb dL_law_297 (by decide +kernel) ?_
  refine lv_iadd hx hb dL_law_298 ?_
  refine w_toeq (show (nI 0) + (nI 3) = nI 3 by decide +kernel) ?_
  refine va_sld hx hb hX hbl hbA hS (vp_in_nI (n := 3) (by decide) (by decide)) dL_law_299 ?_
  refine w_toeq (show xs (nI 3).toNatClampNeg = yc by rw [nI_clamp (n := 3) (by decide)]; exact hx3) ?_
  refine k_i (wr := [(h0, .inr (9, [.ref a0, .ref a1, .ref a2, .ref a3, .ref a4, .ref a5, .ref a6, .ref a7, .int (nI 0)]))]) (run_V (rest := []) hx hb hml hown hts hK hP hD hS hA hm (C77_make l G D K H.size h1 (.ref a8) ya (by omega) (by omega) yb hyb yc) [0] rfl rfl mok_yX12_make w_1341 w_1342 w_1343 (rcv hK hP 0 rfl rfl rfl) ⟨Nat.le_of_ble_eq_true rfl, Nat.le_of_ble_eq_true rfl⟩ rfl hl.1 rfl (Nat.le_of_ble_eq_true rfl) dL_law_300 ⟨(by dsimp only [room_1]; omega), (by dsimp only [room_1]; omega)⟩) hP hD hS hA [0] [1] rfl rfl rfl (by decide) (w2 := fun u1 => [(h0, .inr (9, [.ref a0, .ref a1, .ref a2, .ref a3, .ref a4, .ref a5, .ref a6, .ref a7, .int (nI 0)])), (h1, .inr (12, [.int (nI 2), .ref a8]))]) (fun _ => rfl) (fun u1 H locs hP hD hS => ?_)
  refine lv_istore (lv' := [(6, .int (nI 0)), (5, .int (nI 2)), (0, .ref b), (1, .ref h0), (2, .ref h1), (3, .ref a9), (4, .int (nI 0))]) hx hb dL_law_303 hl (by decide) rfl (fun ls hl => ?_)
  refine lv_aload_n hx hb dL_law_305 rfl (lv_at hl 4 rfl) ?_
  refine k_i (wr := [(h0, .inr (9, [.ref a0, .ref a1, .ref a2, .ref a3, .ref a4, .ref a5, .ref a6, .ref a7, .int (nI 0)]))]) (run_V (rest := []) hx hb hml hown hts hK hP hD hS hA hm (C1075_thrown l G D K H.size h1 (.ref a8)) [1] rfl rfl mok_yX12_thrown w_1300 w_1301 w_1302 (rcv hK hP 1 rfl rfl rfl) ⟨Nat.le_of_ble_eq_true rfl, Nat.le_of_ble_eq_true rfl⟩ rfl hl.1 rfl (Nat.le_of_ble_eq_true rfl) dL_law_306 ⟨(by dsimp only [room_1]; omega), (by dsimp only [room_1]; omega)⟩) hP hD hS hA [1] [0] rfl rfl rfl (by decide) (w2 := fun u2 => [(h0, .inr (9, [.ref a0, .ref a1, .ref a2, .ref a3, .ref a4, .ref a5, .ref a6, .ref a7, .int (nI 0)])), (h1, .inr (12, [.int (nI 2), .ref a8]))]) (fun _ => rfl) (fun u2 H locs hP hD hS => ?_)
  refine lv_iload hx hb dL_law_309 (lv_at hl 1 rfl) ?_
  refine lv_icmp_eq (tgt := 316) hx hb dL_law_311 (by decide) (fun _ => ?_) (fun c9 => absurd (by decide +kernel) c9)
  refine lv_iload hx hb dL_law_316 (lv_at hl 1 rfl) ?_
  refine lv_if_ne (tgt := 333) hx hb dL_law_318 (by decide) (fun _ => ?_) (fun c9 => absurd c9 (by decide +kernel))
  refine lv_goto (tgt := 1762) hx hb dL_law_333 (by decide) ?_
  refine lv_iinc (v := nI 4) (lv' := [(4, .int (nI 4)), (6, .int (nI 0)), (5, .int (nI 2)), (0, .ref b), (1, .ref h0), (2, .ref h1), (3, .ref a9)]) hx hb dL_law_1762 hl (k := 6) rfl (by decide +kernel) (by decide) rfl (fun ls hl => ?_)
  refine lv_goto (tgt := 23) hx hb dL_law_1765 (by decide) ?_
  refine lv_iload hx hb dL_law_23 (lv_at hl 0 rfl) ?_
  refine lv_aload_n hx hb dL_law_25 rfl (lv_at hl 3 rfl) ?_
  refine va_slen hx hb hX hbl hbA hS dL_law_26 ?_
  refine w_toeq (show Int32.ofNat 4 = nI 4 from rfl) ?_
  refine lv_iconst (v := nI 4) hx hb dL_law_27 (by decide +kernel) ?_
  refine lv_isub hx hb dL_law_28 ?_
  refine w_toeq (show (nI 4) - (nI 4) = nI 0 by decide +kernel) ?_
  refine lv_icmp_gt (tgt := 1768) hx hb dL_law_29 (by decide) (fun _ => ?_) (fun c9 => absurd (by decide +kernel) c9)
  refine lv_iconst (v := nI 1) hx hb dL_law_1768 (by decide +kernel) ?_
  exact law_end hx hb hr hlk hS (by dsimp only; omega) (by dsimp only; omega) dL_law_1769
set_option maxHeartbeats 4000000 in
set_option maxRecDepth 100000 in
theorem LW17_make {p : Program} {e : Env} {s : State} {m : MethodId} {below : List Frame} {meth : Method} {c : Code} {l : Launch} {G : Nat → Nat} {D : va_G} {K : Nat → ClassId} {b : Nat} {xs : Nat → Int32} (hx : p.tables.exec = Jvm.exec) (hb : c.code = cL_law) (hr : meth.sig.returnType = some .boolean) (hlk : meth.locks = false) (hl0 : l.stackTraces = false) (hnc : Ncs s) (hml : c.maxLocals = 9) (hown : s.vm.findClass RL = some m.cls) (hts : ∀ w ∈ lw_gw, w.before #[Value.ref b] s = true) (hK : va_K D cl (tys K) s) (hm : Amb G (fun q : Nat => s.heap.size ≤ q) s s.heap) (hX : va_X b 4 xs s s.heap) (hbl : b < s.heap.size) {h0 h1 a0 a1 a2 a3 a4 a5 a6 a7 a8 a9 : Nat} (ya : Nat) (lya : 0 ≤ ya) (gya : ya ≤ 3) (hx1 : xs 1 = nI ya) (yb : Nat) (lyb : 5 ≤ yb) (gyb : yb ≤ 2147483647) (hx2 : xs 2 = nI yb) (yc : Int32) (hx3 : xs 3 = yc) {H : Heap} {locs : List Loc} {cells slots : Nat} (hcs : cells ≤ 1000) (hss : slots ≤ 100000) (hP : va_P D cl [(h0, .inr (9, [.ref a0, .ref a1, .ref a2, .ref a3, .ref a4, .ref a5, .ref a6, .ref a7, .int (nI 0)])), (h1, .inr (12, [.int (nI 0), .ref a8]))] H) (hD : va_D (fun q : Nat => s.heap.size ≤ q) [(h0, .inr (9, [.ref a0, .ref a1, .ref a2, .ref a3, .ref a4, .ref a5, .ref a6, .ref a7, .int (nI 0)])), (h1, .inr (12, [.int (nI 0), .ref a8]))]) (hS : va_S (fun q : Nat => s.heap.size ≤ q) s.heap H locs) {ls : Array Slot} (hl : lv_has ls 9 [(0, .ref b), (1, .ref h0), (2, .ref h1), (3, .ref a9), (4, .int (nI 0))]) : W p l e room_1 s m #[Value.ref b] below meth c H locs cells slots (lw_Z below #[Value.ref b] s) (F0 m 256 ls []) := by
  have hA : ∀ q : Nat, s.heap.size ≤ q → (fun q : Nat => s.heap.size ≤ q) q := fun _ h => h
  have hbA : ¬ (fun q : Nat => s.heap.size ≤ q) b := Nat.not_le.mpr hbl
  refine lv_aload_n hx hb dL_law_256 rfl (lv_at hl 1 rfl) ?_
  refine lv_aload_n hx hb dL_law_257 rfl (lv_at hl 0 rfl) ?_
  refine lv_iload hx hb dL_law_258 (lv_at hl 4 rfl) ?_
  refine lv_iconst (v := nI 1) hx hb dL_law_260 (by decide +kernel) ?_
  refine lv_iadd hx hb dL_law_261 ?_
  refine w_toeq (show (nI 0) + (nI 1) = nI 1 by decide +kernel) ?_
  refine va_sld hx hb hX hbl hbA hS (vp_in_nI (n := 1) (by decide) (by decide)) dL_law_262 ?_
  refine w_toeq (show xs (nI 1).toNatClampNeg = nI ya by rw [nI_clamp (n := 1) (by decide)]; exact hx1) ?_
  refine lv_aload_n hx hb dL_law_263 rfl (lv_at hl 0 rfl) ?_
  refine lv_iload hx hb dL_law_264 (lv_at hl 4 rfl) ?_
  refine lv_iconst (v := nI 2) hx hb dL_law_266 (by decide +kernel) ?_
  refine lv_iadd hx hb dL_law_267 ?_
  refine w_toeq (show (nI 0) + (nI 2) = nI 2 by decide +kernel) ?_
  refine va_sld hx hb hX hbl hbA hS (vp_in_nI (n := 2) (by decide) (by decide)) dL_law_268 ?_
  refine w_toeq (show xs (nI 2).toNatClampNeg = nI yb by rw [nI_clamp (n := 2) (by decide)]; exact hx2) ?_
  refine lv_aload_n hx hb dL_law_269 rfl (lv_at hl 0 rfl) ?_
  refine lv_iload hx hb dL_law_270 (lv_at hl 4 rfl) ?_
  refine lv_iconst (v := nI 3) hx hb dL_law_272 (by decide +kernel) ?_
  refine lv_iadd hx hb dL_law_273 ?_
  refine w_toeq (show (nI 0) + (nI 3) = nI 3 by decide +kernel) ?_
  refine va_sld hx hb hX hbl hbA hS (vp_in_nI (n := 3) (by decide) (by decide)) dL_law_274 ?_
  refine w_toeq (show xs (nI 3).toNatClampNeg = yc by rw [nI_clamp (n := 3) (by decide)]; exact hx3) ?_
  refine lv_aload_n hx hb dL_law_275 rfl (lv_at hl 3 rfl) ?_
  refine k_i (wr := [(h1, .inr (12, [.int (nI 0), .ref a8]))]) (run_SW hnc (rest := []) hx hb hml hown hts hK hP hD hS hA hm (C1076_make l G D K hl0 H.size h0 a9 (.ref a0) (.ref a1) (.ref a2) (.ref a3) (.ref a4) (.ref a5) (.ref a6) (.ref a7) (.int (nI 0)) ya (by omega) (by omega) yb (by omega) (by omega) yc) [0] rfl rfl mokh_yL_make w_786 w_787 ⟨Nat.le_of_ble_eq_true rfl, Nat.le_of_ble_eq_true rfl⟩ rfl hl.1 rfl (Nat.le_of_ble_eq_true rfl) dL_law_276 ⟨(by dsimp only [room_1]; omega), (by dsimp only [room_1]; omega)⟩) hP hD hS hA [0] [1] rfl rfl rfl (by decide) (w2 := fun u0 => [(h1, .inr (12, [.int (nI 0), .ref a8])), (h0, .inr (9, [.ref a0, .ref a1, .ref a2, .ref a3, .ref a4, .ref a5, .ref a6, .ref a7, .int (nI 0)]))]) (fun _ => rfl) (fun u0 H locs hP hD hS => ?_)
  refine lv_istore (lv' := [(5, .int (nI 2)), (0, .ref b), (1, .ref h0), (2, .ref h1), (3, .ref a9), (4, .int (nI 0))]) hx hb dL_law_279 hl (by decide) rfl (fun ls hl => ?_)
  refine lv_aload_n hx hb dL_law_281 rfl (lv_at hl 3 rfl) ?_
  refine lv_aload_n hx hb dL_law_282 rfl (lv_at hl 1 rfl) ?_
  refine lv_iload hx hb dL_law_283 (lv_at hl 5 rfl) ?_
  refine lv_iconst (v := nI 1) hx hb dL_law_285 (by decide +kernel) ?_
  refine lv_iadd hx hb dL_law_286 ?_
  refine w_toeq (show (nI 0) + (nI 1) = nI 1 by decide +kernel) ?_
  refine va_sld hx hb hX hbl hbA hS (vp_in_nI (n := 1) (by decide) (by decide)) dL_law_287 ?_
  refine w_toeq (show xs (nI 1).toNatClampNeg = nI ya by rw [nI_clamp (n := 1) (by decide)]; exact hx1) ?_
  refine lv_aload_n hx hb dL_law_288 rfl (lv_at hl 1 rfl) ?_
  refine lv_iload hx hb dL_law_289 (lv_at hl 5 rfl) ?_
  refine lv_iconst (v := nI 2) hx hb dL_law_291 (by decide +kernel) ?_
  refine lv_iadd hx hb dL_law_292 ?_
  refine w_toeq (show (nI 0) + (nI 2) = nI 2 by decide +kernel) ?_
  refine va_sld hx hb hX hbl hbA hS (vp_in_nI (n := 2) (by decide) (by decide)) dL_law_293 ?_
  refine w_toeq (show xs (nI 2).toNatClampNeg = nI yb by rw [nI_clamp (n := 2) (by decide)]; exact hx2) ?_
  refine lv_aload_n hx hb dL_law_294 rfl (lv_at hl 1 rfl) ?_
  refine lv_iload hx hb dL_law_295 (lv_at hl 5 rfl) ?_
  refine lv_iconst (v := nI 3) hx hb dL_law_297 (by decide +kernel) ?_
  refine lv_iadd hx hb dL_law_298 ?_
  refine w_toeq (show (nI 0) + (nI 3) = nI 3 by decide +kernel) ?_
  refine va_sld hx hb hX hbl hbA hS (vp_in_nI (n := 3) (by decide) (by decide)) dL_law_299 ?_
  refine w_toeq (show xs (nI 3).toNatClampNeg = yc by rw [nI_clamp (n := 3) (by decide)]; exact hx3) ?_
  refine k_i (wr := [(h0, .inr (9, [.ref a0, .ref a1, .ref a2, .ref a3, .ref a4, .ref a5, .ref a6, .ref a7, .int (nI 0)]))]) (run_V (rest := []) hx hb hml hown hts hK hP hD hS hA hm (C80_make l G D K H.size h1 (.ref a8) ya (by omega) (by omega) yb (by omega) (by omega) yc) [0] rfl rfl mok_yX12_make w_1341 w_1342 w_1343 (rcv hK hP 0 rfl rfl rfl) ⟨Nat.le_of_ble_eq_true rfl, Nat.le_of_ble_eq_true rfl⟩ rfl hl.1 rfl (Nat.le_of_ble_eq_true rfl) dL_law_300 ⟨(by dsimp only [room_1]; omega), (by dsimp only [room_1]; omega)⟩) hP hD hS hA [0] [1] rfl rfl rfl (by decide) (w2 := fun u1 => [(h0, .inr (9, [.ref a0, .ref a1, .ref a2, .ref a3, .ref a4, .ref a5, .ref a6, .ref a7, .int (nI 0)])), (h1, .inr (12, [.int (nI 2), .ref a8]))]) (fun _ => rfl) (fun u1 H locs hP hD hS => ?_)
  refine lv_istore (lv' := [(6, .int (nI 0)), (5, .int (nI 2)), (0, .ref b), (1, .ref h0), (2, .ref h1), (3, .ref a9), (4, .int (nI 0))]) hx hb dL_law_303 hl (by decide) rfl (fun ls hl => ?_)
  refine lv_aload_n hx hb dL_law_305 rfl (lv_at hl 4 rfl) ?_
  refine k_i (wr := [(h0, .inr (9, [.ref a0, .ref a1, .ref a2, .ref a3, .ref a4, .ref a5, .ref a6, .ref a7, .int (nI 0)]))]) (run_V (rest := []) hx hb hml hown hts hK hP hD hS hA hm (C1075_thrown l G D K H.size h1 (.ref a8)) [1] rfl rfl mok_yX12_thrown w_1300 w_1301 w_1302 (rcv hK hP 1 rfl rfl rfl) ⟨Nat.le_of_ble_eq_true rfl, Nat.le_of_ble_eq_true rfl⟩ rfl hl.1 rfl (Nat.le_of_ble_eq_true rfl) dL_law_306 ⟨(by dsimp only [room_1]; omega), (by dsimp only [room_1]; omega)⟩) hP hD hS hA [1] [0] rfl rfl rfl (by decide) (w2 := fun u2 => [(h0, .inr (9, [.ref a0, .ref a1, .ref a2, .ref a3, .ref a4, .ref a5, .ref a6, .ref a7, .int (nI 0)])), (h1, .inr (12, [.int (nI 2), .ref a8]))]) (fun _ => rfl) (fun u2 H locs hP hD hS => ?_)
  refine lv_iload hx hb dL_law_309 (lv_at hl 1 rfl) ?_
  refine lv_icmp_eq (tgt := 316) hx hb dL_law_311 (by decide) (fun _ => ?_) (fun c9 => absurd (by decide +kernel) c9)
  refine lv_iload hx hb dL_law_316 (lv_at hl 1 rfl) ?_
  refine lv_if_ne (tgt := 333) hx hb dL_law_318 (by decide) (fun _ => ?_) (fun c9 => absurd c9 (by decide +kernel))
  refine lv_goto (tgt := 1762) hx hb dL_law_333 (by decide) ?_
  refine lv_iinc (v := nI 4) (lv' := [(4, .int (nI 4)), (6, .int (nI 0)), (5, .int (nI 2)), (0, .ref b), (1, .ref h0), (2, .ref h1), (3, .ref a9)]) hx hb dL_law_1762 hl (k := 6) rfl (by decide +kernel) (by decide) rfl (fun ls hl => ?_)
  refine lv_goto (tgt := 23) hx hb dL_law_1765 (by decide) ?_
  refine lv_iload hx hb dL_law_23 (lv_at hl 0 rfl) ?_
  refine lv_aload_n hx hb dL_law_25 rfl (lv_at hl 3 rfl) ?_
  refine va_slen hx hb hX hbl hbA hS dL_law_26 ?_
  refine w_toeq (show Int32.ofNat 4 = nI 4 from rfl) ?_
  refine lv_iconst (v := nI 4) hx hb dL_law_27 (by decide +kernel) ?_
  refine lv_isub hx hb dL_law_28 ?_
  refine w_toeq (show (nI 4) - (nI 4) = nI 0 by decide +kernel) ?_
  refine lv_icmp_gt (tgt := 1768) hx hb dL_law_29 (by decide) (fun _ => ?_) (fun c9 => absurd (by decide +kernel) c9)
  refine lv_iconst (v := nI 1) hx hb dL_law_1768 (by decide +kernel) ?_
  exact law_end hx hb hr hlk hS (by dsimp only; omega) (by dsimp only; omega) dL_law_1769
set_option maxHeartbeats 4000000 in
set_option maxRecDepth 100000 in
theorem LW18_make {p : Program} {e : Env} {s : State} {m : MethodId} {below : List Frame} {meth : Method} {c : Code} {l : Launch} {G : Nat → Nat} {D : va_G} {K : Nat → ClassId} {b : Nat} {xs : Nat → Int32} (hx : p.tables.exec = Jvm.exec) (hb : c.code = cL_law) (hr : meth.sig.returnType = some .boolean) (hlk : meth.locks = false) (hl0 : l.stackTraces = false) (hnc : Ncs s) (hml : c.maxLocals = 9) (hown : s.vm.findClass RL = some m.cls) (hts : ∀ w ∈ lw_gw, w.before #[Value.ref b] s = true) (hK : va_K D cl (tys K) s) (hm : Amb G (fun q : Nat => s.heap.size ≤ q) s s.heap) (hX : va_X b 4 xs s s.heap) (hbl : b < s.heap.size) {h0 h1 a0 a1 a2 a3 a4 a5 a6 a7 a8 a9 : Nat} (ya : Nat) (lya : 0 ≤ ya) (gya : ya ≤ 3) (hx1 : xs 1 = nI ya) (hx2 : xs 2 = nI 0) (yc : Int32) (hyc : yc < 0) (hx3 : xs 3 = yc) {H : Heap} {locs : List Loc} {cells slots : Nat} (hcs : cells ≤ 1000) (hss : slots ≤ 100000) (hP : va_P D cl [(h0, .inr (9, [.ref a0, .ref a1, .ref a2, .ref a3, .ref a4, .ref a5, .ref a6, .ref a7, .int (nI 0)])), (h1, .inr (12, [.int (nI 0), .ref a8]))] H) (hD : va_D (fun q : Nat => s.heap.size ≤ q) [(h0, .inr (9, [.ref a0, .ref a1, .ref a2, .ref a3, .ref a4, .ref a5, .ref a6, .ref a7, .int (nI 0)])), (h1, .inr (12, [.int (nI 0), .ref a8]))]) (hS : va_S (fun q : Nat => s.heap.size ≤ q) s.heap H locs) {ls : Array Slot} (hl : lv_has ls 9 [(0, .ref b), (1, .ref h0), (2, .ref h1), (3, .ref a9), (4, .int (nI 0))]) : W p l e room_1 s m #[Value.ref b] below meth c H locs cells slots (lw_Z below #[Value.ref b] s) (F0 m 256 ls []) := by
  have hA : ∀ q : Nat, s.heap.size ≤ q → (fun q : Nat => s.heap.size ≤ q) q := fun _ h => h
  have hbA : ¬ (fun q : Nat => s.heap.size ≤ q) b := Nat.not_le.mpr hbl
  refine lv_aload_n hx hb dL_law_256 rfl (lv_at hl 1 rfl) ?_
  refine lv_aload_n hx hb dL_law_257 rfl (lv_at hl 0 rfl) ?_
  refine lv_iload hx hb dL_law_258 (lv_at hl 4 rfl) ?_
  refine lv_iconst (v := nI 1) hx hb dL_law_260 (by decide +kernel) ?_
  refine lv_iadd hx hb dL_law_261 ?_
  refine w_toeq (show (nI 0) + (nI 1) = nI 1 by decide +kernel) ?_
  refine va_sld hx hb hX hbl hbA hS (vp_in_nI (n := 1) (by decide) (by decide)) dL_law_262 ?_
  refine w_toeq (show xs (nI 1).toNatClampNeg = nI ya by rw [nI_clamp (n := 1) (by decide)]; exact hx1) ?_
  refine lv_aload_n hx hb dL_law_263 rfl (lv_at hl 0 rfl) ?_
  refine lv_iload hx hb dL_law_264 (lv_at hl 4 rfl) ?_
  refine lv_iconst (v := nI 2) hx hb dL_law_266 (by decide +kernel) ?_
  refine lv_iadd hx hb dL_law_267 ?_
  refine w_toeq (show (nI 0) + (nI 2) = nI 2 by decide +kernel) ?_
  refine va_sld hx hb hX hbl hbA hS (vp_in_nI (n := 2) (by decide) (by decide)) dL_law_268 ?_
  refine w_toeq (show xs (nI 2).toNatClampNeg = nI 0 by rw [nI_clamp (n := 2) (by decide)]; exact hx2) ?_
  refine lv_aload_n hx hb dL_law_269 rfl (lv_at hl 0 rfl) ?_
  refine lv_iload hx hb dL_law_270 (lv_at hl 4 rfl) ?_
  refine lv_iconst (v := nI 3) hx hb dL_law_272 (by decide +kernel) ?_
  refine lv_iadd hx hb dL_law_273 ?_
  refine w_toeq (show (nI 0) + (nI 3) = nI 3 by decide +kernel) ?_
  refine va_sld hx hb hX hbl hbA hS (vp_in_nI (n := 3) (by decide) (by decide)) dL_law_274 ?_
  refine w_toeq (show xs (nI 3).toNatClampNeg = yc by rw [nI_clamp (n := 3) (by decide)]; exact hx3) ?_
  refine lv_aload_n hx hb dL_law_275 rfl (lv_at hl 3 rfl) ?_
  refine k_i (wr := [(h1, .inr (12, [.int (nI 0), .ref a8]))]) (run_SW hnc (rest := []) hx hb hml hown hts hK hP hD hS hA hm (C1077_make l G D K hl0 H.size h0 a9 (.ref a0) (.ref a1) (.ref a2) (.ref a3) (.ref a4) (.ref a5) (.ref a6) (.ref a7) (.int (nI 0)) ya (by omega) (by omega) yc hyc) [0] rfl rfl mokh_yL_make w_786 w_787 ⟨Nat.le_of_ble_eq_true rfl, Nat.le_of_ble_eq_true rfl⟩ rfl hl.1 rfl (Nat.le_of_ble_eq_true rfl) dL_law_276 ⟨(by dsimp only [room_1]; omega), (by dsimp only [room_1]; omega)⟩) hP hD hS hA [0] [1] rfl rfl rfl (by decide) (w2 := fun u0 => [(h1, .inr (12, [.int (nI 0), .ref a8])), (h0, .inr (9, [.ref a0, .ref a1, .ref a2, .ref a3, .ref a4, .ref a5, .ref a6, .ref a7, .int (nI 0)]))]) (fun _ => rfl) (fun u0 H locs hP hD hS => ?_)
  refine lv_istore (lv' := [(5, .int (nI 2)), (0, .ref b), (1, .ref h0), (2, .ref h1), (3, .ref a9), (4, .int (nI 0))]) hx hb dL_law_279 hl (by decide) rfl (fun ls hl => ?_)
  refine lv_aload_n hx hb dL_law_281 rfl (lv_at hl 3 rfl) ?_
  refine lv_aload_n hx hb dL_law_282 rfl (lv_at hl 1 rfl) ?_
  refine lv_iload hx hb dL_law_283 (lv_at hl 5 rfl) ?_
  refine lv_iconst (v := nI 1) hx hb dL_law_285 (by decide +kernel) ?_
  refine lv_iadd hx hb dL_law_286 ?_
  refine w_toeq (show (nI 0) + (nI 1) = nI 1 by decide +kernel) ?_
  refine va_sld hx hb hX hbl hbA hS (vp_in_nI (n := 1) (by decide) (by decide)) dL_law_287 ?_
  refine w_toeq (show xs (nI 1).toNatClampNeg = nI ya by rw [nI_clamp (n := 1) (by decide)]; exact hx1) ?_
  refine lv_aload_n hx hb dL_law_288 rfl (lv_at hl 1 rfl) ?_
  refine lv_iload hx hb dL_law_289 (lv_at hl 5 rfl) ?_
  refine lv_iconst (v := nI 2) hx hb dL_law_291 (by decide +kernel) ?_
  refine lv_iadd hx hb dL_law_292 ?_
  refine w_toeq (show (nI 0) + (nI 2) = nI 2 by decide +kernel) ?_
  refine va_sld hx hb hX hbl hbA hS (vp_in_nI (n := 2) (by decide) (by decide)) dL_law_293 ?_
  refine w_toeq (show xs (nI 2).toNatClampNeg = nI 0 by rw [nI_clamp (n := 2) (by decide)]; exact hx2) ?_
  refine lv_aload_n hx hb dL_law_294 rfl (lv_at hl 1 rfl) ?_
  refine lv_iload hx hb dL_law_295 (lv_at hl 5 rfl) ?_
  refine lv_iconst (v := nI 3) hx hb dL_law_297 (by decide +kernel) ?_
  refine lv_iadd hx hb dL_law_298 ?_
  refine w_toeq (show (nI 0) + (nI 3) = nI 3 by decide +kernel) ?_
  refine va_sld hx hb hX hbl hbA hS (vp_in_nI (n := 3) (by decide) (by decide)) dL_law_299 ?_
  refine w_toeq (show xs (nI 3).toNatClampNeg = yc by rw [nI_clamp (n := 3) (by decide)]; exact hx3) ?_
  refine k_i (wr := [(h0, .inr (9, [.ref a0, .ref a1, .ref a2, .ref a3, .ref a4, .ref a5, .ref a6, .ref a7, .int (nI 0)]))]) (run_V (rest := []) hx hb hml hown hts hK hP hD hS hA hm (C85_make l G D K H.size h1 (.ref a8) ya (by omega) (by omega) yc hyc) [0] rfl rfl mok_yX12_make w_1341 w_1342 w_1343 (rcv hK hP 0 rfl rfl rfl) ⟨Nat.le_of_ble_eq_true rfl, Nat.le_of_ble_eq_true rfl⟩ rfl hl.1 rfl (Nat.le_of_ble_eq_true rfl) dL_law_300 ⟨(by dsimp only [room_1]; omega), (by dsimp only [room_1]; omega)⟩) hP hD hS hA [0] [1] rfl rfl rfl (by decide) (w2 := fun u1 => [(h0, .inr (9, [.ref a0, .ref a1, .ref a2, .ref a3, .ref a4, .ref a5, .ref a6, .ref a7, .int (nI 0)])), (h1, .inr (12, [.int (nI 2), .ref a8]))]) (fun _ => rfl) (fun u1 H locs hP hD hS => ?_)
  refine lv_istore (lv' := [(6, .int (nI 0)), (5, .int (nI 2)), (0, .ref b), (1, .ref h0), (2, .ref h1), (3, .ref a9), (4, .int (nI 0))]) hx hb dL_law_303 hl (by decide) rfl (fun ls hl => ?_)
  refine lv_aload_n hx hb dL_law_305 rfl (lv_at hl 4 rfl) ?_
  refine k_i (wr := [(h0, .inr (9, [.ref a0, .ref a1, .ref a2, .ref a3, .ref a4, .ref a5, .ref a6, .ref a7, .int (nI 0)]))]) (run_V (rest := []) hx hb hml hown hts hK hP hD hS hA hm (C1075_thrown l G D K H.size h1 (.ref a8)) [1] rfl rfl mok_yX12_thrown w_1300 w_1301 w_1302 (rcv hK hP 1 rfl rfl rfl) ⟨Nat.le_of_ble_eq_true rfl, Nat.le_of_ble_eq_true rfl⟩ rfl hl.1 rfl (Nat.le_of_ble_eq_true rfl) dL_law_306 ⟨(by dsimp only [room_1]; omega), (by dsimp only [room_1]; omega)⟩) hP hD hS hA [1] [0] rfl rfl rfl (by decide) (w2 := fun u2 => [(h0, .inr (9, [.ref a0, .ref a1, .ref a2, .ref a3, .ref a4, .ref a5, .ref a6, .ref a7, .int (nI 0)])), (h1, .inr (12, [.int (nI 2), .ref a8]))]) (fun _ => rfl) (fun u2 H locs hP hD hS => ?_)
  refine lv_iload hx hb dL_law_309 (lv_at hl 1 rfl) ?_
  refine lv_icmp_eq (tgt := 316) hx hb dL_law_311 (by decide) (fun _ => ?_) (fun c9 => absurd (by decide +kernel) c9)
  refine lv_iload hx hb dL_law_316 (lv_at hl 1 rfl) ?_
  refine lv_if_ne (tgt := 333) hx hb dL_law_318 (by decide) (fun _ => ?_) (fun c9 => absurd c9 (by decide +kernel))
  refine lv_goto (tgt := 1762) hx hb dL_law_333 (by decide) ?_
  refine lv_iinc (v := nI 4) (lv' := [(4, .int (nI 4)), (6, .int (nI 0)), (5, .int (nI 2)), (0, .ref b), (1, .ref h0), (2, .ref h1), (3, .ref a9)]) hx hb dL_law_1762 hl (k := 6) rfl (by decide +kernel) (by decide) rfl (fun ls hl => ?_)
  refine lv_goto (tgt := 23) hx hb dL_law_1765 (by decide) ?_
  refine lv_iload hx hb dL_law_23 (lv_at hl 0 rfl) ?_
  refine lv_aload_n hx hb dL_law_25 rfl (lv_at hl 3 rfl) ?_
  refine va_slen hx hb hX hbl hbA hS dL_law_26 ?_
  refine w_toeq (show Int32.ofNat 4 = nI 4 from rfl) ?_
  refine lv_iconst (v := nI 4) hx hb dL_law_27 (by decide +kernel) ?_
  refine lv_isub hx hb dL_law_28 ?_
  refine w_toeq (show (nI 4) - (nI 4) = nI 0 by decide +kernel) ?_
  refine lv_icmp_gt (tgt := 1768) hx hb dL_law_29 (by decide) (fun _ => ?_) (fun c9 => absurd (by decide +kernel) c9)
  refine lv_iconst (v := nI 1) hx hb dL_law_1768 (by decide +kernel) ?_
  exact law_end hx hb hr hlk hS (by dsimp only; omega) (by dsimp only; omega) dL_law_1769
set_option maxHeartbeats 4000000 in
set_option maxRecDepth 100000 in
theorem LW19_make {p : Program} {e : Env} {s : State} {m : MethodId} {below : List Frame} {meth : Method} {c : Code} {l : Launch} {G : Nat → Nat} {D : va_G} {K : Nat → ClassId} {b : Nat} {xs : Nat → Int32} (hx : p.tables.exec = Jvm.exec) (hb : c.code = cL_law) (hr : meth.sig.returnType = some .boolean) (hlk : meth.locks = false) (hl0 : l.stackTraces = false) (hnc : Ncs s) (hml : c.maxLocals = 9) (hown : s.vm.findClass RL = some m.cls) (hts : ∀ w ∈ lw_gw, w.before #[Value.ref b] s = true) (hK : va_K D cl (tys K) s) (hm : Amb G (fun q : Nat => s.heap.size ≤ q) s s.heap) (hX : va_X b 4 xs s s.heap) (hbl : b < s.heap.size) {h0 h1 a0 a1 a2 a3 a4 a5 a6 a7 a8 a9 : Nat} (ya : Nat) (lya : 0 ≤ ya) (gya : ya ≤ 3) (hx1 : xs 1 = nI ya) (hx2 : xs 2 = nI 0) (yc : Nat) (lyc : 21 ≤ yc) (gyc : yc ≤ 2147483647) (hx3 : xs 3 = nI yc) {H : Heap} {locs : List Loc} {cells slots : Nat} (hcs : cells ≤ 1000) (hss : slots ≤ 100000) (hP : va_P D cl [(h0, .inr (9, [.ref a0, .ref a1, .ref a2, .ref a3, .ref a4, .ref a5, .ref a6, .ref a7, .int (nI 0)])), (h1, .inr (12, [.int (nI 0), .ref a8]))] H) (hD : va_D (fun q : Nat => s.heap.size ≤ q) [(h0, .inr (9, [.ref a0, .ref a1, .ref a2, .ref a3, .ref a4, .ref a5, .ref a6, .ref a7, .int (nI 0)])), (h1, .inr (12, [.int (nI 0), .ref a8]))]) (hS : va_S (fun q : Nat => s.heap.size ≤ q) s.heap H locs) {ls : Array Slot} (hl : lv_has ls 9 [(0, .ref b), (1, .ref h0), (2, .ref h1), (3, .ref a9), (4, .int (nI 0))]) : W p l e room_1 s m #[Value.ref b] below meth c H locs cells slots (lw_Z below #[Value.ref b] s) (F0 m 256 ls []) := by
  have hA : ∀ q : Nat, s.heap.size ≤ q → (fun q : Nat => s.heap.size ≤ q) q := fun _ h => h
  have hbA : ¬ (fun q : Nat => s.heap.size ≤ q) b := Nat.not_le.mpr hbl
  refine lv_aload_n hx hb dL_law_256 rfl (lv_at hl 1 rfl) ?_
  refine lv_aload_n hx hb dL_law_257 rfl (lv_at hl 0 rfl) ?_
  refine lv_iload hx hb dL_law_258 (lv_at hl 4 rfl) ?_
  refine lv_iconst (v := nI 1) hx hb dL_law_260 (by decide +kernel) ?_
  refine lv_iadd hx hb dL_law_261 ?_
  refine w_toeq (show (nI 0) + (nI 1) = nI 1 by decide +kernel) ?_
  refine va_sld hx hb hX hbl hbA hS (vp_in_nI (n := 1) (by decide) (by decide)) dL_law_262 ?_
  refine w_toeq (show xs (nI 1).toNatClampNeg = nI ya by rw [nI_clamp (n := 1) (by decide)]; exact hx1) ?_
  refine lv_aload_n hx hb dL_law_263 rfl (lv_at hl 0 rfl) ?_
  refine lv_iload hx hb dL_law_264 (lv_at hl 4 rfl) ?_
  refine lv_iconst (v := nI 2) hx hb dL_law_266 (by decide +kernel) ?_
  refine lv_iadd hx hb dL_law_267 ?_
  refine w_toeq (show (nI 0) + (nI 2) = nI 2 by decide +kernel) ?_
  refine va_sld hx hb hX hbl hbA hS (vp_in_nI (n := 2) (by decide) (by decide)) dL_law_268 ?_
  refine w_toeq (show xs (nI 2).toNatClampNeg = nI 0 by rw [nI_clamp (n := 2) (by decide)]; exact hx2) ?_
  refine lv_aload_n hx hb dL_law_269 rfl (lv_at hl 0 rfl) ?_
  refine lv_iload hx hb dL_law_270 (lv_at hl 4 rfl) ?_
  refine lv_iconst (v := nI 3) hx hb dL_law_272 (by decide +kernel) ?_
  refine lv_iadd hx hb dL_law_273 ?_
  refine w_toeq (show (nI 0) + (nI 3) = nI 3 by decide +kernel) ?_
  refine va_sld hx hb hX hbl hbA hS (vp_in_nI (n := 3) (by decide) (by decide)) dL_law_274 ?_
  refine w_toeq (show xs (nI 3).toNatClampNeg = nI yc by rw [nI_clamp (n := 3) (by decide)]; exact hx3) ?_
  refine lv_aload_n hx hb dL_law_275 rfl (lv_at hl 3 rfl) ?_
  refine k_i (wr := [(h1, .inr (12, [.int (nI 0), .ref a8]))]) (run_SW hnc (rest := []) hx hb hml hown hts hK hP hD hS hA hm (C1078_make l G D K hl0 H.size h0 a9 (.ref a0) (.ref a1) (.ref a2) (.ref a3) (.ref a4) (.ref a5) (.ref a6) (.ref a7) (.int (nI 0)) ya (by omega) (by omega) yc (by omega) (by omega)) [0] rfl rfl mokh_yL_make w_786 w_787 ⟨Nat.le_of_ble_eq_true rfl, Nat.le_of_ble_eq_true rfl⟩ rfl hl.1 rfl (Nat.le_of_ble_eq_true rfl) dL_law_276 ⟨(by dsimp only [room_1]; omega), (by dsimp only [room_1]; omega)⟩) hP hD hS hA [0] [1] rfl rfl rfl (by decide) (w2 := fun u0 => [(h1, .inr (12, [.int (nI 0), .ref a8])), (h0, .inr (9, [.ref a0, .ref a1, .ref a2, .ref a3, .ref a4, .ref a5, .ref a6, .ref a7, .int (nI 0)]))]) (fun _ => rfl) (fun u0 H locs hP hD hS => ?_)
  refine lv_istore (lv' := [(5, .int (nI 2)), (0, .ref b), (1, .ref h0), (2, .ref h1), (3, .ref a9), (4, .int (nI 0))]) hx hb dL_law_279 hl (by decide) rfl (fun ls hl => ?_)
  refine lv_aload_n hx hb dL_law_281 rfl (lv_at hl 3 rfl) ?_
  refine lv_aload_n hx hb dL_law_282 rfl (lv_at hl 1 rfl) ?_
  refine lv_iload hx hb dL_law_283 (lv_at hl 5 rfl) ?_
  refine lv_iconst (v := nI 1) hx hb dL_law_285 (by decide +kernel) ?_
  refine lv_iadd hx hb dL_law_286 ?_
  refine w_toeq (show (nI 0) + (nI 1) = nI 1 by decide +kernel) ?_
  refine va_sld hx hb hX hbl hbA hS (vp_in_nI (n := 1) (by decide) (by decide)) dL_law_287 ?_
  refine w_toeq (show xs (nI 1).toNatClampNeg = nI ya by rw [nI_clamp (n := 1) (by decide)]; exact hx1) ?_
  refine lv_aload_n hx hb dL_law_288 rfl (lv_at hl 1 rfl) ?_
  refine lv_iload hx hb dL_law_289 (lv_at hl 5 rfl) ?_
  refine lv_iconst (v := nI 2) hx hb dL_law_291 (by decide +kernel) ?_
  refine lv_iadd hx hb dL_law_292 ?_
  refine w_toeq (show (nI 0) + (nI 2) = nI 2 by decide +kernel) ?_
  refine va_sld hx hb hX hbl hbA hS (vp_in_nI (n := 2) (by decide) (by decide)) dL_law_293 ?_
  refine w_toeq (show xs (nI 2).toNatClampNeg = nI 0 by rw [nI_clamp (n := 2) (by decide)]; exact hx2) ?_
  refine lv_aload_n hx hb dL_law_294 rfl (lv_at hl 1 rfl) ?_
  refine lv_iload hx hb dL_law_295 (lv_at hl 5 rfl) ?_
  refine lv_iconst (v := nI 3) hx hb dL_law_297 (by decide +kernel) ?_
  refine lv_iadd hx hb dL_law_298 ?_
  refine w_toeq (show (nI 0) + (nI 3) = nI 3 by decide +kernel) ?_
  refine va_sld hx hb hX hbl hbA hS (vp_in_nI (n := 3) (by decide) (by decide)) dL_law_299 ?_
  refine w_toeq (show xs (nI 3).toNatClampNeg = nI yc by rw [nI_clamp (n := 3) (by decide)]; exact hx3) ?_
  refine k_i (wr := [(h0, .inr (9, [.ref a0, .ref a1, .ref a2, .ref a3, .ref a4, .ref a5, .ref a6, .ref a7, .int (nI 0)]))]) (run_V (rest := []) hx hb hml hown hts hK hP hD hS hA hm (C88_make l G D K H.size h1 (.ref a8) ya (by omega) (by omega) yc (by omega) (by omega)) [0] rfl rfl mok_yX12_make w_1341 w_1342 w_1343 (rcv hK hP 0 rfl rfl rfl) ⟨Nat.le_of_ble_eq_true rfl, Nat.le_of_ble_eq_true rfl⟩ rfl hl.1 rfl (Nat.le_of_ble_eq_true rfl) dL_law_300 ⟨(by dsimp only [room_1]; omega), (by dsimp only [room_1]; omega)⟩) hP hD hS hA [0] [1] rfl rfl rfl (by decide) (w2 := fun u1 => [(h0, .inr (9, [.ref a0, .ref a1, .ref a2, .ref a3, .ref a4, .ref a5, .ref a6, .ref a7, .int (nI 0)])), (h1, .inr (12, [.int (nI 2), .ref a8]))]) (fun _ => rfl) (fun u1 H locs hP hD hS => ?_)
  refine lv_istore (lv' := [(6, .int (nI 0)), (5, .int (nI 2)), (0, .ref b), (1, .ref h0), (2, .ref h1), (3, .ref a9), (4, .int (nI 0))]) hx hb dL_law_303 hl (by decide) rfl (fun ls hl => ?_)
  refine lv_aload_n hx hb dL_law_305 rfl (lv_at hl 4 rfl) ?_
  refine k_i (wr := [(h0, .inr (9, [.ref a0, .ref a1, .ref a2, .ref a3, .ref a4, .ref a5, .ref a6, .ref a7, .int (nI 0)]))]) (run_V (rest := []) hx hb hml hown hts hK hP hD hS hA hm (C1075_thrown l G D K H.size h1 (.ref a8)) [1] rfl rfl mok_yX12_thrown w_1300 w_1301 w_1302 (rcv hK hP 1 rfl rfl rfl) ⟨Nat.le_of_ble_eq_true rfl, Nat.le_of_ble_eq_true rfl⟩ rfl hl.1 rfl (Nat.le_of_ble_eq_true rfl) dL_law_306 ⟨(by dsimp only [room_1]; omega), (by dsimp only [room_1]; omega)⟩) hP hD hS hA [1] [0] rfl rfl rfl (by decide) (w2 := fun u2 => [(h0, .inr (9, [.ref a0, .ref a1, .ref a2, .ref a3, .ref a4, .ref a5, .ref a6, .ref a7, .int (nI 0)])), (h1, .inr (12, [.int (nI 2), .ref a8]))]) (fun _ => rfl) (fun u2 H locs hP hD hS => ?_)
  refine lv_iload hx hb dL_law_309 (lv_at hl 1 rfl) ?_
  refine lv_icmp_eq (tgt := 316) hx hb dL_law_311 (by decide) (fun _ => ?_) (fun c9 => absurd (by decide +kernel) c9)
  refine lv_iload hx hb dL_law_316 (lv_at hl 1 rfl) ?_
  refine lv_if_ne (tgt := 333) hx hb dL_law_318 (by decide) (fun _ => ?_) (fun c9 => absurd c9 (by decide +kernel))
  refine lv_goto (tgt := 1762) hx hb dL_law_333 (by decide) ?_
  refine lv_iinc (v := nI 4) (lv' := [(4, .int (nI 4)), (6, .int (nI 0)), (5, .int (nI 2)), (0, .ref b), (1, .ref h0), (2, .ref h1), (3, .ref a9)]) hx hb dL_law_1762 hl (k := 6) rfl (by decide +kernel) (by decide) rfl (fun ls hl => ?_)
  refine lv_goto (tgt := 23) hx hb dL_law_1765 (by decide) ?_
  refine lv_iload hx hb dL_law_23 (lv_at hl 0 rfl) ?_
  refine lv_aload_n hx hb dL_law_25 rfl (lv_at hl 3 rfl) ?_
  refine va_slen hx hb hX hbl hbA hS dL_law_26 ?_
  refine w_toeq (show Int32.ofNat 4 = nI 4 from rfl) ?_
  refine lv_iconst (v := nI 4) hx hb dL_law_27 (by decide +kernel) ?_
  refine lv_isub hx hb dL_law_28 ?_
  refine w_toeq (show (nI 4) - (nI 4) = nI 0 by decide +kernel) ?_
  refine lv_icmp_gt (tgt := 1768) hx hb dL_law_29 (by decide) (fun _ => ?_) (fun c9 => absurd (by decide +kernel) c9)
  refine lv_iconst (v := nI 1) hx hb dL_law_1768 (by decide +kernel) ?_
  exact law_end hx hb hr hlk hS (by dsimp only; omega) (by dsimp only; omega) dL_law_1769
set_option maxHeartbeats 4000000 in
set_option maxRecDepth 100000 in
theorem LW20_make {p : Program} {e : Env} {s : State} {m : MethodId} {below : List Frame} {meth : Method} {c : Code} {l : Launch} {G : Nat → Nat} {D : va_G} {K : Nat → ClassId} {b : Nat} {xs : Nat → Int32} (hx : p.tables.exec = Jvm.exec) (hb : c.code = cL_law) (hr : meth.sig.returnType = some .boolean) (hlk : meth.locks = false) (hl0 : l.stackTraces = false) (hnc : Ncs s) (hml : c.maxLocals = 9) (hown : s.vm.findClass RL = some m.cls) (hts : ∀ w ∈ lw_gw, w.before #[Value.ref b] s = true) (hK : va_K D cl (tys K) s) (hm : Amb G (fun q : Nat => s.heap.size ≤ q) s s.heap) (hX : va_X b 4 xs s s.heap) (hbl : b < s.heap.size) {h0 h1 h2 h3 h4 h5 h6 h7 h8 h9 h10 h11 h12 h13 h14 h15 a0 a1 a2 a3 a4 a5 a6 a7 a8 a9 a10 a11 : Nat} (ya : Nat) (lya : 0 ≤ ya) (gya : ya ≤ 3) (hx1 : xs 1 = nI ya) (hx2 : xs 2 = nI 0) (hx3 : xs 3 = nI 0) {H : Heap} {locs : List Loc} {cells slots : Nat} (hcs : cells ≤ 1000) (hss : slots ≤ 100000) (hP : va_P D cl [(h0, .inr (9, [.ref h1, .ref h7, .ref h2, .ref a0, .ref h6, .ref a1, .ref a2, .ref a3, .int (nI 0)])), (h1, .inr (5, [.ref h3, .int (nI 0)])), (h2, .inr (3, [.ref h4, .ref a4, .ref a5, .int (nI 0), .int (nI 0), .int (nI 100), .int (nI 60), .ref a6])), (h3, .inl (K 0, 200, .inr (.inr (.inr (.inr (fun _ => none)))))), (h4, .inr (5, [.ref h5, .int (nI 0)])), (h5, .inl (K 0, 200, .inr (.inr (.inr (.inr (fun _ => none)))))), (h6, .inr (1, [.ref h1, .ref h7, .int (nI 0)])), (h7, .inr (4, [.ref a7, .ref h8, .ref a8, .int (nI 1)])), (h8, .inl (K 0, 32, .inr (.inr (.inr (.inr (fun _ => none)))))), (h9, .inl (K 3, 1, .inr (.inl (fun _ => 0)))), (h10, .inr (12, [.int (nI 0), .ref h11])), (h11, .inr (10, [.ref h12, .ref h13, .ref a9, .ref a10, .ref a11, .int (nI 0), .int (nI 0), .int (nI 60), .int (nI 0), .int (nI 2), .int (nI 0), .int (nI 0), .int (nI 0), .int (nI 0), .int (nI 0), .int (nI 0), .int (nI 0)])), (h12, .inr (13, [.int (nI 0), .ref (G 0), .int (nI 0)])), (h13, .inr (13, [.int (nI 1), .ref h14, .int (nI 1)])), (h14, .inl (K 4, 10, .inr (.inr (.inr (.inr (va_up (fun _ => none) 0 (some h15))))))), (h15, .inl (K 2, 4, .inl (fun _ => (-1))))] H) (hD : va_D (fun q : Nat => s.heap.size ≤ q) [(h0, .inr (9, [.ref h1, .ref h7, .ref h2, .ref a0, .ref h6, .ref a1, .ref a2, .ref a3, .int (nI 0)])), (h1, .inr (5, [.ref h3, .int (nI 0)])), (h2, .inr (3, [.ref h4, .ref a4, .ref a5, .int (nI 0), .int (nI 0), .int (nI 100), .int (nI 60), .ref a6])), (h3, .inl (K 0, 200, .inr (.inr (.inr (.inr (fun _ => none)))))), (h4, .inr (5, [.ref h5, .int (nI 0)])), (h5, .inl (K 0, 200, .inr (.inr (.inr (.inr (fun _ => none)))))), (h6, .inr (1, [.ref h1, .ref h7, .int (nI 0)])), (h7, .inr (4, [.ref a7, .ref h8, .ref a8, .int (nI 1)])), (h8, .inl (K 0, 32, .inr (.inr (.inr (.inr (fun _ => none)))))), (h9, .inl (K 3, 1, .inr (.inl (fun _ => 0)))), (h10, .inr (12, [.int (nI 0), .ref h11])), (h11, .inr (10, [.ref h12, .ref h13, .ref a9, .ref a10, .ref a11, .int (nI 0), .int (nI 0), .int (nI 60), .int (nI 0), .int (nI 2), .int (nI 0), .int (nI 0), .int (nI 0), .int (nI 0), .int (nI 0), .int (nI 0), .int (nI 0)])), (h12, .inr (13, [.int (nI 0), .ref (G 0), .int (nI 0)])), (h13, .inr (13, [.int (nI 1), .ref h14, .int (nI 1)])), (h14, .inl (K 4, 10, .inr (.inr (.inr (.inr (va_up (fun _ => none) 0 (some h15))))))), (h15, .inl (K 2, 4, .inl (fun _ => (-1))))]) (hS : va_S (fun q : Nat => s.heap.size ≤ q) s.heap H locs) {ls : Array Slot} (hl : lv_has ls 9 [(0, .ref b), (1, .ref h0), (2, .ref h10), (3, .ref h9), (4, .int (nI 0))]) : W p l e room_1 s m #[Value.ref b] below meth c H locs cells slots (lw_Z below #[Value.ref b] s) (F0 m 256 ls []) := by
  have hA : ∀ q : Nat, s.heap.size ≤ q → (fun q : Nat => s.heap.size ≤ q) q := fun _ h => h
  have hbA : ¬ (fun q : Nat => s.heap.size ≤ q) b := Nat.not_le.mpr hbl
  refine lv_aload_n hx hb dL_law_256 rfl (lv_at hl 1 rfl) ?_
  refine lv_aload_n hx hb dL_law_257 rfl (lv_at hl 0 rfl) ?_
  refine lv_iload hx hb dL_law_258 (lv_at hl 4 rfl) ?_
  refine lv_iconst (v := nI 1) hx hb dL_law_260 (by decide +kernel) ?_
  refine lv_iadd hx hb dL_law_261 ?_
  refine w_toeq (show (nI 0) + (nI 1) = nI 1 by decide +kernel) ?_
  refine va_sld hx hb hX hbl hbA hS (vp_in_nI (n := 1) (by decide) (by decide)) dL_law_262 ?_
  refine w_toeq (show xs (nI 1).toNatClampNeg = nI ya by rw [nI_clamp (n := 1) (by decide)]; exact hx1) ?_
  refine lv_aload_n hx hb dL_law_263 rfl (lv_at hl 0 rfl) ?_
  refine lv_iload hx hb dL_law_264 (lv_at hl 4 rfl) ?_
  refine lv_iconst (v := nI 2) hx hb dL_law_266 (by decide +kernel) ?_
  refine lv_iadd hx hb dL_law_267 ?_
  refine w_toeq (show (nI 0) + (nI 2) = nI 2 by decide +kernel) ?_
  refine va_sld hx hb hX hbl hbA hS (vp_in_nI (n := 2) (by decide) (by decide)) dL_law_268 ?_
  refine w_toeq (show xs (nI 2).toNatClampNeg = nI 0 by rw [nI_clamp (n := 2) (by decide)]; exact hx2) ?_
  refine lv_aload_n hx hb dL_law_269 rfl (lv_at hl 0 rfl) ?_
  refine lv_iload hx hb dL_law_270 (lv_at hl 4 rfl) ?_
  refine lv_iconst (v := nI 3) hx hb dL_law_272 (by decide +kernel) ?_
  refine lv_iadd hx hb dL_law_273 ?_
  refine w_toeq (show (nI 0) + (nI 3) = nI 3 by decide +kernel) ?_
  refine va_sld hx hb hX hbl hbA hS (vp_in_nI (n := 3) (by decide) (by decide)) dL_law_274 ?_
  refine w_toeq (show xs (nI 3).toNatClampNeg = nI 0 by rw [nI_clamp (n := 3) (by decide)]; exact hx3) ?_
  refine lv_aload_n hx hb dL_law_275 rfl (lv_at hl 3 rfl) ?_
  refine k_i (wr := [(h10, .inr (12, [.int (nI 0), .ref h11])), (h11, .inr (10, [.ref h12, .ref h13, .ref a9, .ref a10, .ref a11, .int (nI 0), .int (nI 0), .int (nI 60), .int (nI 0), .int (nI 2), .int (nI 0), .int (nI 0), .int (nI 0), .int (nI 0), .int (nI 0), .int (nI 0), .int (nI 0)])), (h12, .inr (13, [.int (nI 0), .ref (G 0), .int (nI 0)])), (h13, .inr (13, [.int (nI 1), .ref h14, .int (nI 1)])), (h14, .inl (K 4, 10, .inr (.inr (.inr (.inr (va_up (fun _ => none) 0 (some h15))))))), (h15, .inl (K 2, 4, .inl (fun _ => (-1))))]) (run_SW hnc (rest := []) hx hb hml hown hts hK hP hD hS hA hm (C1079_make l G D K H.size h0 h1 h2 h3 h4 h5 h6 h7 h8 h9 (.ref a0) (.ref a1) (.ref a2) (.ref a3) (.int (nI 0)) (.ref a4) (.ref a5) (.int (nI 100)) (.int (nI 60)) (.ref a6) (.ref h1) (.ref h7) (.ref a7) (.ref a8) (fun _ => none) (fun _ => none) (fun _ => none) (fun _ => 0) ya (by omega) (by omega)) [0, 1, 2, 3, 4, 5, 6, 7, 8, 9] rfl rfl mokh_yL_make w_786 w_787 ⟨Nat.le_of_ble_eq_true rfl, Nat.le_of_ble_eq_true rfl⟩ rfl hl.1 rfl (Nat.le_of_ble_eq_true rfl) dL_law_276 ⟨(by dsimp only [room_1]; omega), (by dsimp only [room_1]; omega)⟩) hP hD hS hA [0, 1, 2, 3, 4, 5, 6, 7, 8, 9] [10, 11, 12, 13, 14, 15] rfl rfl rfl (by decide) (w2 := fun u0 => [(h10, .inr (12, [.int (nI 0), .ref h11])), (h11, .inr (10, [.ref h12, .ref h13, .ref a9, .ref a10, .ref a11, .int (nI 0), .int (nI 0), .int (nI 60), .int (nI 0), .int (nI 2), .int (nI 0), .int (nI 0), .int (nI 0), .int (nI 0), .int (nI 0), .int (nI 0), .int (nI 0)])), (h12, .inr (13, [.int (nI 0), .ref (G 0), .int (nI 0)])), (h13, .inr (13, [.int (nI 1), .ref h14, .int (nI 1)])), (h14, .inl (K 4, 10, .inr (.inr (.inr (.inr (va_up (fun _ => none) 0 (some h15))))))), (h15, .inl (K 2, 4, .inl (fun _ => (-1)))), (h9, .inl (K 3, 1, .inr (.inl (vp_updL (fun _ => 0) 0 0)))), (h0, .inr (9, [.ref h1, .ref h7, .ref h2, .ref a0, .ref h6, .ref a1, .ref a2, .ref a3, .int (nI 0)])), (h1, .inr (5, [.ref h3, .int (nI 1)])), (h3, .inl (K 0, 200, .inr (.inr (.inr (.inr (va_up (fun _ => none) 0 (some (u0 0)))))))), ((u0 1), .inl (K 0, 0, .inr (.inr (.inr (.inr (fun _ => none)))))), (h2, .inr (3, [.ref h4, .ref a4, .ref a5, .int (nI 0), .int (nI 2), .int (nI 100), .int (nI 60), .ref a6])), (h4, .inr (5, [.ref h5, .int (nI 1)])), (h5, .inl (K 0, 200, .inr (.inr (.inr (.inr (va_up (fun _ => none) 0 (some (u0 0)))))))), (h6, .inr (1, [.ref h1, .ref h7, .int (nI 0)])), (h8, .inl (K 0, 32, .inr (.inr (.inr (.inr (va_up (fun _ => none) (0 + ya) (some (u0 0)))))))), ((u0 0), .inr (7, [.int (nI 0), .ref (u0 1), .int (nI 0), .int (nI 1), .int (nI 0), .int (nI 2), .int (nI 2), .int (nI 0), .int (-1), .int (nI 0), .int (nI 0), .int (nI 0), .int (nI 0), .int (nI 0)])), (h7, .inr (4, [.ref a7, .ref h8, .ref a8, .int (nI 1)]))]) (fun _ => rfl) (fun u0 H locs hP hD hS => ?_)
  refine lv_istore (lv' := [(5, .int (nI 0)), (0, .ref b), (1, .ref h0), (2, .ref h10), (3, .ref h9), (4, .int (nI 0))]) hx hb dL_law_279 hl (by decide) rfl (fun ls hl => ?_)
  refine lv_aload_n hx hb dL_law_281 rfl (lv_at hl 3 rfl) ?_
  refine lv_aload_n hx hb dL_law_282 rfl (lv_at hl 1 rfl) ?_
  refine lv_iload hx hb dL_law_283 (lv_at hl 5 rfl) ?_
  refine lv_iconst (v := nI 1) hx hb dL_law_285 (by decide +kernel) ?_
  refine lv_iadd hx hb dL_law_286 ?_
  refine w_toeq (show (nI 0) + (nI 1) = nI 1 by decide +kernel) ?_
  refine va_sld hx hb hX hbl hbA hS (vp_in_nI (n := 1) (by decide) (by decide)) dL_law_287 ?_
  refine w_toeq (show xs (nI 1).toNatClampNeg = nI ya by rw [nI_clamp (n := 1) (by decide)]; exact hx1) ?_
  refine lv_aload_n hx hb dL_law_288 rfl (lv_at hl 1 rfl) ?_
  refine lv_iload hx hb dL_law_289 (lv_at hl 5 rfl) ?_
  refine lv_iconst (v := nI 2) hx hb dL_law_291 (by decide +kernel) ?_
  refine lv_iadd hx hb dL_law_292 ?_
  refine w_toeq (show (nI 0) + (nI 2) = nI 2 by decide +kernel) ?_
  refine va_sld hx hb hX hbl hbA hS (vp_in_nI (n := 2) (by decide) (by decide)) dL_law_293 ?_
  refine w_toeq (show xs (nI 2).toNatClampNeg = nI 0 by rw [nI_clamp (n := 2) (by decide)]; exact hx2) ?_
  refine lv_aload_n hx hb dL_law_294 rfl (lv_at hl 1 rfl) ?_
  refine lv_iload hx hb dL_law_295 (lv_at hl 5 rfl) ?_
  refine lv_iconst (v := nI 3) hx hb dL_law_297 (by decide +kernel) ?_
  refine lv_iadd hx hb dL_law_298 ?_
  refine w_toeq (show (nI 0) + (nI 3) = nI 3 by decide +kernel) ?_
  refine va_sld hx hb hX hbl hbA hS (vp_in_nI (n := 3) (by decide) (by decide)) dL_law_299 ?_
  refine w_toeq (show xs (nI 3).toNatClampNeg = nI 0 by rw [nI_clamp (n := 3) (by decide)]; exact hx3) ?_
  refine k_i (wr := [(h9, .inl (K 3, 1, .inr (.inl (vp_updL (fun _ => 0) 0 0)))), (h0, .inr (9, [.ref h1, .ref h7, .ref h2, .ref a0, .ref h6, .ref a1, .ref a2, .ref a3, .int (nI 0)])), (h1, .inr (5, [.ref h3, .int (nI 1)])), (h3, .inl (K 0, 200, .inr (.inr (.inr (.inr (va_up (fun _ => none) 0 (some (u0 0)))))))), ((u0 1), .inl (K 0, 0, .inr (.inr (.inr (.inr (fun _ => none)))))), (h2, .inr (3, [.ref h4, .ref a4, .ref a5, .int (nI 0), .int (nI 2), .int (nI 100), .int (nI 60), .ref a6])), (h4, .inr (5, [.ref h5, .int (nI 1)])), (h5, .inl (K 0, 200, .inr (.inr (.inr (.inr (va_up (fun _ => none) 0 (some (u0 0)))))))), (h6, .inr (1, [.ref h1, .ref h7, .int (nI 0)])), (h8, .inl (K 0, 32, .inr (.inr (.inr (.inr (va_up (fun _ => none) (0 + ya) (some (u0 0)))))))), ((u0 0), .inr (7, [.int (nI 0), .ref (u0 1), .int (nI 0), .int (nI 1), .int (nI 0), .int (nI 2), .int (nI 2), .int (nI 0), .int (-1), .int (nI 0), .int (nI 0), .int (nI 0), .int (nI 0), .int (nI 0)])), (h7, .inr (4, [.ref a7, .ref h8, .ref a8, .int (nI 1)]))]) (run_V (rest := []) hx hb hml hown hts hK hP hD hS hA hm (C115_make l G D K H.size h10 h11 h12 h13 h14 h15 (.ref a9) (.ref a10) (.ref a11) (.int (nI 60)) (.int (nI 0)) (.int (nI 2)) (.int (nI 0)) (.int (nI 0)) (.int (nI 0)) (.int (nI 0)) (.int (nI 0)) (.int (nI 0)) (.int (nI 0)) (.int (nI 1)) (fun _ => (-1)) ya (by omega) (by omega)) [0, 1, 2, 3, 4, 5] rfl rfl mok_yX12_make w_1341 w_1342 w_1343 (rcv hK hP 0 rfl rfl rfl) ⟨Nat.le_of_ble_eq_true rfl, Nat.le_of_ble_eq_true rfl⟩ rfl hl.1 rfl (Nat.le_of_ble_eq_true rfl) dL_law_300 ⟨(by dsimp only [room_1]; omega), (by dsimp only [room_1]; omega)⟩) hP hD hS hA [0, 1, 2, 3, 4, 5] [6, 7, 8, 9, 10, 11, 12, 13, 14, 15, 16, 17] rfl rfl rfl (by decide) (w2 := fun u1 => [(h9, .inl (K 3, 1, .inr (.inl (vp_updL (fun _ => 0) 0 0)))), (h0, .inr (9, [.ref h1, .ref h7, .ref h2, .ref a0, .ref h6, .ref a1, .ref a2, .ref a3, .int (nI 0)])), (h1, .inr (5, [.ref h3, .int (nI 1)])), (h3, .inl (K 0, 200, .inr (.inr (.inr (.inr (va_up (fun _ => none) 0 (some (u0 0)))))))), ((u0 1), .inl (K 0, 0, .inr (.inr (.inr (.inr (fun _ => none)))))), (h2, .inr (3, [.ref h4, .ref a4, .ref a5, .int (nI 0), .int (nI 2), .int (nI 100), .int (nI 60), .ref a6])), (h4, .inr (5, [.ref h5, .int (nI 1)])), (h5, .inl (K 0, 200, .inr (.inr (.inr (.inr (va_up (fun _ => none) 0 (some (u0 0)))))))), (h6, .inr (1, [.ref h1, .ref h7, .int (nI 0)])), (h8, .inl (K 0, 32, .inr (.inr (.inr (.inr (va_up (fun _ => none) (0 + ya) (some (u0 0)))))))), ((u0 0), .inr (7, [.int (nI 0), .ref (u0 1), .int (nI 0), .int (nI 1), .int (nI 0), .int (nI 2), .int (nI 2), .int (nI 0), .int (-1), .int (nI 0), .int (nI 0), .int (nI 0), .int (nI 0), .int (nI 0)])), (h7, .inr (4, [.ref a7, .ref h8, .ref a8, .int (nI 1)])), (h12, .inr (13, [.int (nI 1), .ref (u1 2), .int (nI 1)])), ((u1 2), .inl (K 4, 10, .inr (.inr (.inr (.inr (va_up (fun _ => none) 0 (some (u1 0)))))))), ((u1 0), .inr (11, [.int (nI 0), .ref (u1 1), .int (nI 0), .int (nI 1), .int (nI 0), .int (nI 0), .int (-1), .int (nI 2), .int (nI 0), .int (nI 0), .int (nI 0)])), ((u1 1), .inl (K 2, 0, .inl (fun _ => nI 0))), (h10, .inr (12, [.int (nI 0), .ref h11])), (h11, .inr (10, [.ref h12, .ref h13, .ref a9, .ref a10, .ref a11, .int (nI 0), .int (nI 2), .int (nI 60), .int (nI 0), .int (nI 2), .int (nI 0), .int (nI 0), .int (nI 0), .int (nI 0), .int (nI 0), .int (nI 0), .int (nI 0)])), (h15, .inl (K 2, 4, .inl (upd (fun _ => (-1)) ya (nI 0)))), (h13, .inr (13, [.int (nI 1), .ref h14, .int (nI 1)])), (h14, .inl (K 4, 10, .inr (.inr (.inr (.inr (va_up (fun _ => none) 0 (some h15)))))))]) (fun _ => rfl) (fun u1 H locs hP hD hS => ?_)
  refine lv_istore (lv' := [(6, .int (nI 0)), (5, .int (nI 0)), (0, .ref b), (1, .ref h0), (2, .ref h10), (3, .ref h9), (4, .int (nI 0))]) hx hb dL_law_303 hl (by decide) rfl (fun ls hl => ?_)
  refine lv_aload_n hx hb dL_law_305 rfl (lv_at hl 4 rfl) ?_
  refine k_i (wr := [(h9, .inl (K 3, 1, .inr (.inl (vp_updL (fun _ => 0) 0 0)))), (h0, .inr (9, [.ref h1, .ref h7, .ref h2, .ref a0, .ref h6, .ref a1, .ref a2, .ref a3, .int (nI 0)])), (h1, .inr (5, [.ref h3, .int (nI 1)])), (h3, .inl (K 0, 200, .inr (.inr (.inr (.inr (va_up (fun _ => none) 0 (some (u0 0)))))))), ((u0 1), .inl (K 0, 0, .inr (.inr (.inr (.inr (fun _ => none)))))), (h2, .inr (3, [.ref h4, .ref a4, .ref a5, .int (nI 0), .int (nI 2), .int (nI 100), .int (nI 60), .ref a6])), (h4, .inr (5, [.ref h5, .int (nI 1)])), (h5, .inl (K 0, 200, .inr (.inr (.inr (.inr (va_up (fun _ => none) 0 (some (u0 0)))))))), (h6, .inr (1, [.ref h1, .ref h7, .int (nI 0)])), (h8, .inl (K 0, 32, .inr (.inr (.inr (.inr (va_up (fun _ => none) (0 + ya) (some (u0 0)))))))), ((u0 0), .inr (7, [.int (nI 0), .ref (u0 1), .int (nI 0), .int (nI 1), .int (nI 0), .int (nI 2), .int (nI 2), .int (nI 0), .int (-1), .int (nI 0), .int (nI 0), .int (nI 0), .int (nI 0), .int (nI 0)])), (h7, .inr (4, [.ref a7, .ref h8, .ref a8, .int (nI 1)])), (h12, .inr (13, [.int (nI 1), .ref (u1 2), .int (nI 1)])), ((u1 2), .inl (K 4, 10, .inr (.inr (.inr (.inr (va_up (fun _ => none) 0 (some (u1 0)))))))), ((u1 0), .inr (11, [.int (nI 0), .ref (u1 1), .int (nI 0), .int (nI 1), .int (nI 0), .int (nI 0), .int (-1), .int (nI 2), .int (nI 0), .int (nI 0), .int (nI 0)])), ((u1 1), .inl (K 2, 0, .inl (fun _ => nI 0))), (h11, .inr (10, [.ref h12, .ref h13, .ref a9, .ref a10, .ref a11, .int (nI 0), .int (nI 2), .int (nI 60), .int (nI 0), .int (nI 2), .int (nI 0), .int (nI 0), .int (nI 0), .int (nI 0), .int (nI 0), .int (nI 0), .int (nI 0)])), (h15, .inl (K 2, 4, .inl (upd (fun _ => (-1)) ya (nI 0)))), (h13, .inr (13, [.int (nI 1), .ref h14, .int (nI 1)])), (h14, .inl (K 4, 10, .inr (.inr (.inr (.inr (va_up (fun _ => none) 0 (some h15)))))))]) (run_V (rest := []) hx hb hml hown hts hK hP hD hS hA hm (C1057_thrown l G D K H.size h10 (.ref h11)) [16] rfl rfl mok_yX12_thrown w_1300 w_1301 w_1302 (rcv hK hP 16 rfl rfl rfl) ⟨Nat.le_of_ble_eq_true rfl, Nat.le_of_ble_eq_true rfl⟩ rfl hl.1 rfl (Nat.le_of_ble_eq_true rfl) dL_law_306 ⟨(by dsimp only [room_1]; omega), (by dsimp only [room_1]; omega)⟩) hP hD hS hA [16] [0, 1, 2, 3, 4, 5, 6, 7, 8, 9, 10, 11, 12, 13, 14, 15, 17, 18, 19, 20] rfl rfl rfl (by decide) (w2 := fun u2 => [(h9, .inl (K 3, 1, .inr (.inl (vp_updL (fun _ => 0) 0 0)))), (h0, .inr (9, [.ref h1, .ref h7, .ref h2, .ref a0, .ref h6, .ref a1, .ref a2, .ref a3, .int (nI 0)])), (h1, .inr (5, [.ref h3, .int (nI 1)])), (h3, .inl (K 0, 200, .inr (.inr (.inr (.inr (va_up (fun _ => none) 0 (some (u0 0)))))))), ((u0 1), .inl (K 0, 0, .inr (.inr (.inr (.inr (fun _ => none)))))), (h2, .inr (3, [.ref h4, .ref a4, .ref a5, .int (nI 0), .int (nI 2), .int (nI 100), .int (nI 60), .ref a6])), (h4, .inr (5, [.ref h5, .int (nI 1)])), (h5, .inl (K 0, 200, .inr (.inr (.inr (.inr (va_up (fun _ => none) 0 (some (u0 0)))))))), (h6, .inr (1, [.ref h1, .ref h7, .int (nI 0)])), (h8, .inl (K 0, 32, .inr (.inr (.inr (.inr (va_up (fun _ => none) (0 + ya) (some (u0 0)))))))), ((u0 0), .inr (7, [.int (nI 0), .ref (u0 1), .int (nI 0), .int (nI 1), .int (nI 0), .int (nI 2), .int (nI 2), .int (nI 0), .int (-1), .int (nI 0), .int (nI 0), .int (nI 0), .int (nI 0), .int (nI 0)])), (h7, .inr (4, [.ref a7, .ref h8, .ref a8, .int (nI 1)])), (h12, .inr (13, [.int (nI 1), .ref (u1 2), .int (nI 1)])), ((u1 2), .inl (K 4, 10, .inr (.inr (.inr (.inr (va_up (fun _ => none) 0 (some (u1 0)))))))), ((u1 0), .inr (11, [.int (nI 0), .ref (u1 1), .int (nI 0), .int (nI 1), .int (nI 0), .int (nI 0), .int (-1), .int (nI 2), .int (nI 0), .int (nI 0), .int (nI 0)])), ((u1 1), .inl (K 2, 0, .inl (fun _ => nI 0))), (h11, .inr (10, [.ref h12, .ref h13, .ref a9, .ref a10, .ref a11, .int (nI 0), .int (nI 2), .int (nI 60), .int (nI 0), .int (nI 2), .int (nI 0), .int (nI 0), .int (nI 0), .int (nI 0), .int (nI 0), .int (nI 0), .int (nI 0)])), (h15, .inl (K 2, 4, .inl (upd (fun _ => (-1)) ya (nI 0)))), (h13, .inr (13, [.int (nI 1), .ref h14, .int (nI 1)])), (h14, .inl (K 4, 10, .inr (.inr (.inr (.inr (va_up (fun _ => none) 0 (some h15))))))), (h10, .inr (12, [.int (nI 0), .ref h11]))]) (fun _ => rfl) (fun u2 H locs hP hD hS => ?_)
  refine lv_iload hx hb dL_law_309 (lv_at hl 1 rfl) ?_
  refine lv_icmp_eq (tgt := 316) hx hb dL_law_311 (by decide) (fun _ => ?_) (fun c9 => absurd (by decide +kernel) c9)
  refine lv_iload hx hb dL_law_316 (lv_at hl 1 rfl) ?_
  refine lv_if_ne (tgt := 333) hx hb dL_law_318 (by decide) (fun c9 => absurd (by decide +kernel) c9) (fun _ => ?_)
  refine lv_aload_n hx hb dL_law_321 rfl (lv_at hl 5 rfl) ?_
  refine lv_iconst (v := nI 0) hx hb dL_law_322 (by decide +kernel) ?_
  refine r_lald (k := 0) hx hb hK hP 0 3 rfl rfl (Nat.le_of_ble_eq_true rfl) (by decide) (v := 0) rfl dL_law_323 ?_
  refine lv_iload hx hb dL_law_324 (lv_at hl 0 rfl) ?_
  refine lv_i2l (v := 0) hx hb dL_law_326 (by decide +kernel) ?_
  refine W.lcmp hx hb dL_law_327 ?_
  refine w_toeq (show lg_cmp 0 0 = nI 0 by decide +kernel) ?_
  refine lv_if_eq (tgt := 333) hx hb dL_law_328 (by decide) (fun _ => ?_) (fun c9 => absurd (by decide +kernel) c9)
  refine lv_goto (tgt := 1762) hx hb dL_law_333 (by decide) ?_
  refine lv_iinc (v := nI 4) (lv' := [(4, .int (nI 4)), (6, .int (nI 0)), (5, .int (nI 0)), (0, .ref b), (1, .ref h0), (2, .ref h10), (3, .ref h9)]) hx hb dL_law_1762 hl (k := 6) rfl (by decide +kernel) (by decide) rfl (fun ls hl => ?_)
  refine lv_goto (tgt := 23) hx hb dL_law_1765 (by decide) ?_
  refine lv_iload hx hb dL_law_23 (lv_at hl 0 rfl) ?_
  refine lv_aload_n hx hb dL_law_25 rfl (lv_at hl 3 rfl) ?_
  refine va_slen hx hb hX hbl hbA hS dL_law_26 ?_
  refine w_toeq (show Int32.ofNat 4 = nI 4 from rfl) ?_
  refine lv_iconst (v := nI 4) hx hb dL_law_27 (by decide +kernel) ?_
  refine lv_isub hx hb dL_law_28 ?_
  refine w_toeq (show (nI 4) - (nI 4) = nI 0 by decide +kernel) ?_
  refine lv_icmp_gt (tgt := 1768) hx hb dL_law_29 (by decide) (fun _ => ?_) (fun c9 => absurd (by decide +kernel) c9)
  refine lv_iconst (v := nI 1) hx hb dL_law_1768 (by decide +kernel) ?_
  exact law_end hx hb hr hlk hS (by dsimp only; omega) (by dsimp only; omega) dL_law_1769
set_option maxHeartbeats 4000000 in
set_option maxRecDepth 100000 in
theorem LW21_make {p : Program} {e : Env} {s : State} {m : MethodId} {below : List Frame} {meth : Method} {c : Code} {l : Launch} {G : Nat → Nat} {D : va_G} {K : Nat → ClassId} {b : Nat} {xs : Nat → Int32} (hx : p.tables.exec = Jvm.exec) (hb : c.code = cL_law) (hr : meth.sig.returnType = some .boolean) (hlk : meth.locks = false) (hl0 : l.stackTraces = false) (hnc : Ncs s) (hml : c.maxLocals = 9) (hown : s.vm.findClass RL = some m.cls) (hts : ∀ w ∈ lw_gw, w.before #[Value.ref b] s = true) (hK : va_K D cl (tys K) s) (hm : Amb G (fun q : Nat => s.heap.size ≤ q) s s.heap) (hX : va_X b 4 xs s s.heap) (hbl : b < s.heap.size) {h0 h1 h2 h3 h4 h5 h6 h7 h8 h9 h10 h11 h12 h13 h14 h15 a0 a1 a2 a3 a4 a5 a6 a7 a8 a9 a10 a11 : Nat} (ya : Nat) (lya : 0 ≤ ya) (gya : ya ≤ 3) (hx1 : xs 1 = nI ya) (hx2 : xs 2 = nI 0) (hx3 : xs 3 = nI 1) {H : Heap} {locs : List Loc} {cells slots : Nat} (hcs : cells ≤ 1000) (hss : slots ≤ 100000) (hP : va_P D cl [(h0, .inr (9, [.ref h1, .ref h7, .ref h2, .ref a0, .ref h6, .ref a1, .ref a2, .ref a3, .int (nI 0)])), (h1, .inr (5, [.ref h3, .int (nI 0)])), (h2, .inr (3, [.ref h4, .ref a4, .ref a5, .int (nI 0), .int (nI 0), .int (nI 100), .int (nI 60), .ref a6])), (h3, .inl (K 0, 200, .inr (.inr (.inr (.inr (fun _ => none)))))), (h4, .inr (5, [.ref h5, .int (nI 0)])), (h5, .inl (K 0, 200, .inr (.inr (.inr (.inr (fun _ => none)))))), (h6, .inr (1, [.ref h1, .ref h7, .int (nI 0)])), (h7, .inr (4, [.ref a7, .ref h8, .ref a8, .int (nI 1)])), (h8, .inl (K 0, 32, .inr (.inr (.inr (.inr (fun _ => none)))))), (h9, .inl (K 3, 1, .inr (.inl (fun _ => 0)))), (h10, .inr (12, [.int (nI 0), .ref h11])), (h11, .inr (10, [.ref h12, .ref h13, .ref a9, .ref a10, .ref a11, .int (nI 0), .int (nI 0), .int (nI 60), .int (nI 0), .int (nI 2), .int (nI 0), .int (nI 0), .int (nI 0), .int (nI 0), .int (nI 0), .int (nI 0), .int (nI 0)])), (h12, .inr (13, [.int (nI 0), .ref (G 0), .int (nI 0)])), (h13, .inr (13, [.int (nI 1), .ref h14, .int (nI 1)])), (h14, .inl (K 4, 10, .inr (.inr (.inr (.inr (va_up (fun _ => none) 0 (some h15))))))), (h15, .inl (K 2, 4, .inl (fun _ => (-1))))] H) (hD : va_D (fun q : Nat => s.heap.size ≤ q) [(h0, .inr (9, [.ref h1, .ref h7, .ref h2, .ref a0, .ref h6, .ref a1, .ref a2, .ref a3, .int (nI 0)])), (h1, .inr (5, [.ref h3, .int (nI 0)])), (h2, .inr (3, [.ref h4, .ref a4, .ref a5, .int (nI 0), .int (nI 0), .int (nI 100), .int (nI 60), .ref a6])), (h3, .inl (K 0, 200, .inr (.inr (.inr (.inr (fun _ => none)))))), (h4, .inr (5, [.ref h5, .int (nI 0)])), (h5, .inl (K 0, 200, .inr (.inr (.inr (.inr (fun _ => none)))))), (h6, .inr (1, [.ref h1, .ref h7, .int (nI 0)])), (h7, .inr (4, [.ref a7, .ref h8, .ref a8, .int (nI 1)])), (h8, .inl (K 0, 32, .inr (.inr (.inr (.inr (fun _ => none)))))), (h9, .inl (K 3, 1, .inr (.inl (fun _ => 0)))), (h10, .inr (12, [.int (nI 0), .ref h11])), (h11, .inr (10, [.ref h12, .ref h13, .ref a9, .ref a10, .ref a11, .int (nI 0), .int (nI 0), .int (nI 60), .int (nI 0), .int (nI 2), .int (nI 0), .int (nI 0), .int (nI 0), .int (nI 0), .int (nI 0), .int (nI 0), .int (nI 0)])), (h12, .inr (13, [.int (nI 0), .ref (G 0), .int (nI 0)])), (h13, .inr (13, [.int (nI 1), .ref h14, .int (nI 1)])), (h14, .inl (K 4, 10, .inr (.inr (.inr (.inr (va_up (fun _ => none) 0 (some h15))))))), (h15, .inl (K 2, 4, .inl (fun _ => (-1))))]) (hS : va_S (fun q : Nat => s.heap.size ≤ q) s.heap H locs) {ls : Array Slot} (hl : lv_has ls 9 [(0, .ref b), (1, .ref h0), (2, .ref h10), (3, .ref h9), (4, .int (nI 0))]) : W p l e room_1 s m #[Value.ref b] below meth c H locs cells slots (lw_Z below #[Value.ref b] s) (F0 m 256 ls []) := by
  have hA : ∀ q : Nat, s.heap.size ≤ q → (fun q : Nat => s.heap.size ≤ q) q := fun _ h => h
  have hbA : ¬ (fun q : Nat => s.heap.size ≤ q) b := Nat.not_le.mpr hbl
  refine lv_aload_n hx hb dL_law_256 rfl (lv_at hl 1 rfl) ?_
  refine lv_aload_n hx hb dL_law_257 rfl (lv_at hl 0 rfl) ?_
  refine lv_iload hx hb dL_law_258 (lv_at hl 4 rfl) ?_
  refine lv_iconst (v := nI 1) hx hb dL_law_260 (by decide +kernel) ?_
  refine lv_iadd hx hb dL_law_261 ?_
  refine w_toeq (show (nI 0) + (nI 1) = nI 1 by decide +kernel) ?_
  refine va_sld hx hb hX hbl hbA hS (vp_in_nI (n := 1) (by decide) (by decide)) dL_law_262 ?_
  refine w_toeq (show xs (nI 1).toNatClampNeg = nI ya by rw [nI_clamp (n := 1) (by decide)]; exact hx1) ?_
  refine lv_aload_n hx hb dL_law_263 rfl (lv_at hl 0 rfl) ?_
  refine lv_iload hx hb dL_law_264 (lv_at hl 4 rfl) ?_
  refine lv_iconst (v := nI 2) hx hb dL_law_266 (by decide +kernel) ?_
  refine lv_iadd hx hb dL_law_267 ?_
  refine w_toeq (show (nI 0) + (nI 2) = nI 2 by decide +kernel) ?_
  refine va_sld hx hb hX hbl hbA hS (vp_in_nI (n := 2) (by decide) (by decide)) dL_law_268 ?_
  refine w_toeq (show xs (nI 2).toNatClampNeg = nI 0 by rw [nI_clamp (n := 2) (by decide)]; exact hx2) ?_
  refine lv_aload_n hx hb dL_law_269 rfl (lv_at hl 0 rfl) ?_
  refine lv_iload hx hb dL_law_270 (lv_at hl 4 rfl) ?_
  refine lv_iconst (v := nI 3) hx hb dL_law_272 (by decide +kernel) ?_
  refine lv_iadd hx hb dL_law_273 ?_
  refine w_toeq (show (nI 0) + (nI 3) = nI 3 by decide +kernel) ?_
  refine va_sld hx hb hX hbl hbA hS (vp_in_nI (n := 3) (by decide) (by decide)) dL_law_274 ?_
  refine w_toeq (show xs (nI 3).toNatClampNeg = nI 1 by rw [nI_clamp (n := 3) (by decide)]; exact hx3) ?_
  refine lv_aload_n hx hb dL_law_275 rfl (lv_at hl 3 rfl) ?_
  refine k_i (wr := [(h10, .inr (12, [.int (nI 0), .ref h11])), (h11, .inr (10, [.ref h12, .ref h13, .ref a9, .ref a10, .ref a11, .int (nI 0), .int (nI 0), .int (nI 60), .int (nI 0), .int (nI 2), .int (nI 0), .int (nI 0), .int (nI 0), .int (nI 0), .int (nI 0), .int (nI 0), .int (nI 0)])), (h12, .inr (13, [.int (nI 0), .ref (G 0), .int (nI 0)])), (h13, .inr (13, [.int (nI 1), .ref h14, .int (nI 1)])), (h14, .inl (K 4, 10, .inr (.inr (.inr (.inr (va_up (fun _ => none) 0 (some h15))))))), (h15, .inl (K 2, 4, .inl (fun _ => (-1))))]) (run_SW hnc (rest := []) hx hb hml hown hts hK hP hD hS hA hm (C1080_make l G D K H.size h0 h1 h2 h3 h4 h5 h6 h7 h8 h9 (.ref a0) (.ref a1) (.ref a2) (.ref a3) (.int (nI 0)) (.ref a4) (.ref a5) (.int (nI 100)) (.int (nI 60)) (.ref a6) (.ref h1) (.ref h7) (.ref a7) (.ref a8) (fun _ => none) (fun _ => none) (fun _ => none) (fun _ => 0) ya (by omega) (by omega)) [0, 1, 2, 3, 4, 5, 6, 7, 8, 9] rfl rfl mokh_yL_make w_786 w_787 ⟨Nat.le_of_ble_eq_true rfl, Nat.le_of_ble_eq_true rfl⟩ rfl hl.1 rfl (Nat.le_of_ble_eq_true rfl) dL_law_276 ⟨(by dsimp only [room_1]; omega), (by dsimp only [room_1]; omega)⟩) hP hD hS hA [0, 1, 2, 3, 4, 5, 6, 7, 8, 9] [10, 11, 12, 13, 14, 15] rfl rfl rfl (by decide) (w2 := fun u0 => [(h10, .inr (12, [.int (nI 0), .ref h11])), (h11, .inr (10, [.ref h12, .ref h13, .ref a9, .ref a10, .ref a11, .int (nI 0), .int (nI 0), .int (nI 60), .int (nI 0), .int (nI 2), .int (nI 0), .int (nI 0), .int (nI 0), .int (nI 0), .int (nI 0), .int (nI 0), .int (nI 0)])), (h12, .inr (13, [.int (nI 0), .ref (G 0), .int (nI 0)])), (h13, .inr (13, [.int (nI 1), .ref h14, .int (nI 1)])), (h14, .inl (K 4, 10, .inr (.inr (.inr (.inr (va_up (fun _ => none) 0 (some h15))))))), (h15, .inl (K 2, 4, .inl (fun _ => (-1)))), (h9, .inl (K 3, 1, .inr (.inl (vp_updL (fun _ => 0) 0 0)))), (h0, .inr (9, [.ref h1, .ref h7, .ref h2, .ref a0, .ref h6, .ref a1, .ref a2, .ref a3, .int (nI 0)])), (h1, .inr (5, [.ref h3, .int (nI 1)])), (h3, .inl (K 0, 200, .inr (.inr (.inr (.inr (va_up (fun _ => none) 0 (some (u0 0)))))))), ((u0 1), .inl (K 0, 1, .inr (.inr (.inr (.inr (fun _ => none)))))), (h2, .inr (3, [.ref h4, .ref a4, .ref a5, .int (nI 0), .int (nI 3), .int (nI 100), .int (nI 60), .ref a6])), (h4, .inr (5, [.ref h5, .int (nI 1)])), (h5, .inl (K 0, 200, .inr (.inr (.inr (.inr (va_up (fun _ => none) 0 (some (u0 0)))))))), (h6, .inr (1, [.ref h1, .ref h7, .int (nI 0)])), (h8, .inl (K 0, 32, .inr (.inr (.inr (.inr (va_up (fun _ => none) (0 + ya) (some (u0 0)))))))), ((u0 0), .inr (7, [.int (nI 0), .ref (u0 1), .int (nI 0), .int (nI 1), .int (nI 0), .int (nI 3), .int (nI 3), .int (nI 0), .int (-1), .int (nI 0), .int (nI 0), .int (nI 0), .int (nI 0), .int (nI 0)])), (h7, .inr (4, [.ref a7, .ref h8, .ref a8, .int (nI 1)]))]) (fun _ => rfl) (fun u0 H locs hP hD hS => ?_)
  refine lv_istore (lv' := [(5, .int (nI 0)), (0, .ref b), (1, .ref h0), (2, .ref h10), (3, .ref h9), (4, .int (nI 0))]) hx hb dL_law_279 hl (by decide) rfl (fun ls hl => ?_)
  refine lv_aload_n hx hb dL_law_281 rfl (lv_at hl 3 rfl) ?_
  refine lv_aload_n hx hb dL_law_282 rfl (lv_at hl 1 rfl) ?_
  refine lv_iload hx hb dL_law_283 (lv_at hl 5 rfl) ?_
  refine lv_iconst (v := nI 1) hx hb dL_law_285 (by decide +kernel) ?_
  refine lv_iadd hx hb dL_law_286 ?_
  refine w_toeq (show (nI 0) + (nI 1) = nI 1 by decide +kernel) ?_
  refine va_sld hx hb hX hbl hbA hS (vp_in_nI (n := 1) (by decide) (by decide)) dL_law_287 ?_
  refine w_toeq (show xs (nI 1).toNatClampNeg = nI ya by rw [nI_clamp (n := 1) (by decide)]; exact hx1) ?_
  refine lv_aload_n hx hb dL_law_288 rfl (lv_at hl 1 rfl) ?_
  refine lv_iload hx hb dL_law_289 (lv_at hl 5 rfl) ?_
  refine lv_iconst (v := nI 2) hx hb dL_law_291 (by decide +kernel) ?_
  refine lv_iadd hx hb dL_law_292 ?_
  refine w_toeq (show (nI 0) + (nI 2) = nI 2 by decide +kernel) ?_
  refine va_sld hx hb hX hbl hbA hS (vp_in_nI (n := 2) (by decide) (by decide)) dL_law_293 ?_
  refine w_toeq (show xs (nI 2).toNatClampNeg = nI 0 by rw [nI_clamp (n := 2) (by decide)]; exact hx2) ?_
  refine lv_aload_n hx hb dL_law_294 rfl (lv_at hl 1 rfl) ?_
  refine lv_iload hx hb dL_law_295 (lv_at hl 5 rfl) ?_
  refine lv_iconst (v := nI 3) hx hb dL_law_297 (by decide +kernel) ?_
  refine lv_iadd hx hb dL_law_298 ?_
  refine w_toeq (show (nI 0) + (nI 3) = nI 3 by decide +kernel) ?_
  refine va_sld hx hb hX hbl hbA hS (vp_in_nI (n := 3) (by decide) (by decide)) dL_law_299 ?_
  refine w_toeq (show xs (nI 3).toNatClampNeg = nI 1 by rw [nI_clamp (n := 3) (by decide)]; exact hx3) ?_
  refine k_i (wr := [(h9, .inl (K 3, 1, .inr (.inl (vp_updL (fun _ => 0) 0 0)))), (h0, .inr (9, [.ref h1, .ref h7, .ref h2, .ref a0, .ref h6, .ref a1, .ref a2, .ref a3, .int (nI 0)])), (h1, .inr (5, [.ref h3, .int (nI 1)])), (h3, .inl (K 0, 200, .inr (.inr (.inr (.inr (va_up (fun _ => none) 0 (some (u0 0)))))))), ((u0 1), .inl (K 0, 1, .inr (.inr (.inr (.inr (fun _ => none)))))), (h2, .inr (3, [.ref h4, .ref a4, .ref a5, .int (nI 0), .int (nI 3), .int (nI 100), .int (nI 60), .ref a6])), (h4, .inr (5, [.ref h5, .int (nI 1)])), (h5, .inl (K 0, 200, .inr (.inr (.inr (.inr (va_up (fun _ => none) 0 (some (u0 0)))))))), (h6, .inr (1, [.ref h1, .ref h7, .int (nI 0)])), (h8, .inl (K 0, 32, .inr (.inr (.inr (.inr (va_up (fun _ => none) (0 + ya) (some (u0 0)))))))), ((u0 0), .inr (7, [.int (nI 0), .ref (u0 1), .int (nI 0), .int (nI 1), .int (nI 0), .int (nI 3), .int (nI 3), .int (nI 0), .int (-1), .int (nI 0), .int (nI 0), .int (nI 0), .int (nI 0), .int (nI 0)])), (h7, .inr (4, [.ref a7, .ref h8, .ref a8, .int (nI 1)]))]) (run_V (rest := []) hx hb hml hown hts hK hP hD hS hA hm (C127_make l G D K H.size h10 h11 h12 h13 h14 h15 (.ref a9) (.ref a10) (.ref a11) (.int (nI 60)) (.int (nI 0)) (.int (nI 2)) (.int (nI 0)) (.int (nI 0)) (.int (nI 0)) (.int (nI 0)) (.int (nI 0)) (.int (nI 0)) (.int (nI 0)) (.int (nI 1)) (fun _ => (-1)) ya (by omega) (by omega)) [0, 1, 2, 3, 4, 5] rfl rfl mok_yX12_make w_1341 w_1342 w_1343 (rcv hK hP 0 rfl rfl rfl) ⟨Nat.le_of_ble_eq_true rfl, Nat.le_of_ble_eq_true rfl⟩ rfl hl.1 rfl (Nat.le_of_ble_eq_true rfl) dL_law_300 ⟨(by dsimp only [room_1]; omega), (by dsimp only [room_1]; omega)⟩) hP hD hS hA [0, 1, 2, 3, 4, 5] [6, 7, 8, 9, 10, 11, 12, 13, 14, 15, 16, 17] rfl rfl rfl (by decide) (w2 := fun u1 => [(h9, .inl (K 3, 1, .inr (.inl (vp_updL (fun _ => 0) 0 0)))), (h0, .inr (9, [.ref h1, .ref h7, .ref h2, .ref a0, .ref h6, .ref a1, .ref a2, .ref a3, .int (nI 0)])), (h1, .inr (5, [.ref h3, .int (nI 1)])), (h3, .inl (K 0, 200, .inr (.inr (.inr (.inr (va_up (fun _ => none) 0 (some (u0 0)))))))), ((u0 1), .inl (K 0, 1, .inr (.inr (.inr (.inr (fun _ => none)))))), (h2, .inr (3, [.ref h4, .ref a4, .ref a5, .int (nI 0), .int (nI 3), .int (nI 100), .int (nI 60), .ref a6])), (h4, .inr (5, [.ref h5, .int (nI 1)])), (h5, .inl (K 0, 200, .inr (.inr (.inr (.inr (va_up (fun _ => none) 0 (some (u0 0)))))))), (h6, .inr (1, [.ref h1, .ref h7, .int (nI 0)])), (h8, .inl (K 0, 32, .inr (.inr (.inr (.inr (va_up (fun _ => none) (0 + ya) (some (u0 0)))))))), ((u0 0), .inr (7, [.int (nI 0), .ref (u0 1), .int (nI 0), .int (nI 1), .int (nI 0), .int (nI 3), .int (nI 3), .int (nI 0), .int (-1), .int (nI 0), .int (nI 0), .int (nI 0), .int (nI 0), .int (nI 0)])), (h7, .inr (4, [.ref a7, .ref h8, .ref a8, .int (nI 1)])), (h12, .inr (13, [.int (nI 1), .ref (u1 2), .int (nI 1)])), ((u1 2), .inl (K 4, 10, .inr (.inr (.inr (.inr (va_up (fun _ => none) 0 (some (u1 0)))))))), ((u1 0), .inr (11, [.int (nI 0), .ref (u1 1), .int (nI 0), .int (nI 1), .int (nI 0), .int (nI 0), .int (-1), .int (nI 2), .int (nI 0), .int (nI 0), .int (nI 0)])), ((u1 1), .inl (K 2, 1, .inl (fun _ => (-1)))), (h10, .inr (12, [.int (nI 0), .ref h11])), (h11, .inr (10, [.ref h12, .ref h13, .ref a9, .ref a10, .ref a11, .int (nI 0), .int (nI 3), .int (nI 60), .int (nI 0), .int (nI 2), .int (nI 0), .int (nI 0), .int (nI 0), .int (nI 0), .int (nI 0), .int (nI 0), .int (nI 0)])), (h15, .inl (K 2, 4, .inl (upd (fun _ => (-1)) ya (nI 0)))), (h13, .inr (13, [.int (nI 1), .ref h14, .int (nI 1)])), (h14, .inl (K 4, 10, .inr (.inr (.inr (.inr (va_up (fun _ => none) 0 (some h15)))))))]) (fun _ => rfl) (fun u1 H locs hP hD hS => ?_)
  refine lv_istore (lv' := [(6, .int (nI 0)), (5, .int (nI 0)), (0, .ref b), (1, .ref h0), (2, .ref h10), (3, .ref h9), (4, .int (nI 0))]) hx hb dL_law_303 hl (by decide) rfl (fun ls hl => ?_)
  refine lv_aload_n hx hb dL_law_305 rfl (lv_at hl 4 rfl) ?_
  refine k_i (wr := [(h9, .inl (K 3, 1, .inr (.inl (vp_updL (fun _ => 0) 0 0)))), (h0, .inr (9, [.ref h1, .ref h7, .ref h2, .ref a0, .ref h6, .ref a1, .ref a2, .ref a3, .int (nI 0)])), (h1, .inr (5, [.ref h3, .int (nI 1)])), (h3, .inl (K 0, 200, .inr (.inr (.inr (.inr (va_up (fun _ => none) 0 (some (u0 0)))))))), ((u0 1), .inl (K 0, 1, .inr (.inr (.inr (.inr (fun _ => none)))))), (h2, .inr (3, [.ref h4, .ref a4, .ref a5, .int (nI 0), .int (nI 3), .int (nI 100), .int (nI 60), .ref a6])), (h4, .inr (5, [.ref h5, .int (nI 1)])), (h5, .inl (K 0, 200, .inr (.inr (.inr (.inr (va_up (fun _ => none) 0 (some (u0 0)))))))), (h6, .inr (1, [.ref h1, .ref h7, .int (nI 0)])), (h8, .inl (K 0, 32, .inr (.inr (.inr (.inr (va_up (fun _ => none) (0 + ya) (some (u0 0)))))))), ((u0 0), .inr (7, [.int (nI 0), .ref (u0 1), .int (nI 0), .int (nI 1), .int (nI 0), .int (nI 3), .int (nI 3), .int (nI 0), .int (-1), .int (nI 0), .int (nI 0), .int (nI 0), .int (nI 0), .int (nI 0)])), (h7, .inr (4, [.ref a7, .ref h8, .ref a8, .int (nI 1)])), (h12, .inr (13, [.int (nI 1), .ref (u1 2), .int (nI 1)])), ((u1 2), .inl (K 4, 10, .inr (.inr (.inr (.inr (va_up (fun _ => none) 0 (some (u1 0)))))))), ((u1 0), .inr (11, [.int (nI 0), .ref (u1 1), .int (nI 0), .int (nI 1), .int (nI 0), .int (nI 0), .int (-1), .int (nI 2), .int (nI 0), .int (nI 0), .int (nI 0)])), ((u1 1), .inl (K 2, 1, .inl (fun _ => (-1)))), (h11, .inr (10, [.ref h12, .ref h13, .ref a9, .ref a10, .ref a11, .int (nI 0), .int (nI 3), .int (nI 60), .int (nI 0), .int (nI 2), .int (nI 0), .int (nI 0), .int (nI 0), .int (nI 0), .int (nI 0), .int (nI 0), .int (nI 0)])), (h15, .inl (K 2, 4, .inl (upd (fun _ => (-1)) ya (nI 0)))), (h13, .inr (13, [.int (nI 1), .ref h14, .int (nI 1)])), (h14, .inl (K 4, 10, .inr (.inr (.inr (.inr (va_up (fun _ => none) 0 (some h15)))))))]) (run_V (rest := []) hx hb hml hown hts hK hP hD hS hA hm (C1057_thrown l G D K H.size h10 (.ref h11)) [16] rfl rfl mok_yX12_thrown w_1300 w_1301 w_1302 (rcv hK hP 16 rfl rfl rfl) ⟨Nat.le_of_ble_eq_true rfl, Nat.le_of_ble_eq_true rfl⟩ rfl hl.1 rfl (Nat.le_of_ble_eq_true rfl) dL_law_306 ⟨(by dsimp only [room_1]; omega), (by dsimp only [room_1]; omega)⟩) hP hD hS hA [16] [0, 1, 2, 3, 4, 5, 6, 7, 8, 9, 10, 11, 12, 13, 14, 15, 17, 18, 19, 20] rfl rfl rfl (by decide) (w2 := fun u2 => [(h9, .inl (K 3, 1, .inr (.inl (vp_updL (fun _ => 0) 0 0)))), (h0, .inr (9, [.ref h1, .ref h7, .ref h2, .ref a0, .ref h6, .ref a1, .ref a2, .ref a3, .int (nI 0)])), (h1, .inr (5, [.ref h3, .int (nI 1)])), (h3, .inl (K 0, 200, .inr (.inr (.inr (.inr (va_up (fun _ => none) 0 (some (u0 0)))))))), ((u0 1), .inl (K 0, 1, .inr (.inr (.inr (.inr (fun _ => none)))))), (h2, .inr (3, [.ref h4, .ref a4, .ref a5, .int (nI 0), .int (nI 3), .int (nI 100), .int (nI 60), .ref a6])), (h4, .inr (5, [.ref h5, .int (nI 1)])), (h5, .inl (K 0, 200, .inr (.inr (.inr (.inr (va_up (fun _ => none) 0 (some (u0 0)))))))), (h6, .inr (1, [.ref h1, .ref h7, .int (nI 0)])), (h8, .inl (K 0, 32, .inr (.inr (.inr (.inr (va_up (fun _ => none) (0 + ya) (some (u0 0)))))))), ((u0 0), .inr (7, [.int (nI 0), .ref (u0 1), .int (nI 0), .int (nI 1), .int (nI 0), .int (nI 3), .int (nI 3), .int (nI 0), .int (-1), .int (nI 0), .int (nI 0), .int (nI 0), .int (nI 0), .int (nI 0)])), (h7, .inr (4, [.ref a7, .ref h8, .ref a8, .int (nI 1)])), (h12, .inr (13, [.int (nI 1), .ref (u1 2), .int (nI 1)])), ((u1 2), .inl (K 4, 10, .inr (.inr (.inr (.inr (va_up (fun _ => none) 0 (some (u1 0)))))))), ((u1 0), .inr (11, [.int (nI 0), .ref (u1 1), .int (nI 0), .int (nI 1), .int (nI 0), .int (nI 0), .int (-1), .int (nI 2), .int (nI 0), .int (nI 0), .int (nI 0)])), ((u1 1), .inl (K 2, 1, .inl (fun _ => (-1)))), (h11, .inr (10, [.ref h12, .ref h13, .ref a9, .ref a10, .ref a11, .int (nI 0), .int (nI 3), .int (nI 60), .int (nI 0), .int (nI 2), .int (nI 0), .int (nI 0), .int (nI 0), .int (nI 0), .int (nI 0), .int (nI 0), .int (nI 0)])), (h15, .inl (K 2, 4, .inl (upd (fun _ => (-1)) ya (nI 0)))), (h13, .inr (13, [.int (nI 1), .ref h14, .int (nI 1)])), (h14, .inl (K 4, 10, .inr (.inr (.inr (.inr (va_up (fun _ => none) 0 (some h15))))))), (h10, .inr (12, [.int (nI 0), .ref h11]))]) (fun _ => rfl) (fun u2 H locs hP hD hS => ?_)
  refine lv_iload hx hb dL_law_309 (lv_at hl 1 rfl) ?_
  refine lv_icmp_eq (tgt := 316) hx hb dL_law_311 (by decide) (fun _ => ?_) (fun c9 => absurd (by decide +kernel) c9)
  refine lv_iload hx hb dL_law_316 (lv_at hl 1 rfl) ?_
  refine lv_if_ne (tgt := 333) hx hb dL_law_318 (by decide) (fun c9 => absurd (by decide +kernel) c9) (fun _ => ?_)
  refine lv_aload_n hx hb dL_law_321 rfl (lv_at hl 5 rfl) ?_
  refine lv_iconst (v := nI 0) hx hb dL_law_322 (by decide +kernel) ?_
  refine r_lald (k := 0) hx hb hK hP 0 3 rfl rfl (Nat.le_of_ble_eq_true rfl) (by decide) (v := 0) rfl dL_law_323 ?_
  refine lv_iload hx hb dL_law_324 (lv_at hl 0 rfl) ?_
  refine lv_i2l (v := 0) hx hb dL_law_326 (by decide +kernel) ?_
  refine W.lcmp hx hb dL_law_327 ?_
  refine w_toeq (show lg_cmp 0 0 = nI 0 by decide +kernel) ?_
  refine lv_if_eq (tgt := 333) hx hb dL_law_328 (by decide) (fun _ => ?_) (fun c9 => absurd (by decide +kernel) c9)
  refine lv_goto (tgt := 1762) hx hb dL_law_333 (by decide) ?_
  refine lv_iinc (v := nI 4) (lv' := [(4, .int (nI 4)), (6, .int (nI 0)), (5, .int (nI 0)), (0, .ref b), (1, .ref h0), (2, .ref h10), (3, .ref h9)]) hx hb dL_law_1762 hl (k := 6) rfl (by decide +kernel) (by decide) rfl (fun ls hl => ?_)
  refine lv_goto (tgt := 23) hx hb dL_law_1765 (by decide) ?_
  refine lv_iload hx hb dL_law_23 (lv_at hl 0 rfl) ?_
  refine lv_aload_n hx hb dL_law_25 rfl (lv_at hl 3 rfl) ?_
  refine va_slen hx hb hX hbl hbA hS dL_law_26 ?_
  refine w_toeq (show Int32.ofNat 4 = nI 4 from rfl) ?_
  refine lv_iconst (v := nI 4) hx hb dL_law_27 (by decide +kernel) ?_
  refine lv_isub hx hb dL_law_28 ?_
  refine w_toeq (show (nI 4) - (nI 4) = nI 0 by decide +kernel) ?_
  refine lv_icmp_gt (tgt := 1768) hx hb dL_law_29 (by decide) (fun _ => ?_) (fun c9 => absurd (by decide +kernel) c9)
  refine lv_iconst (v := nI 1) hx hb dL_law_1768 (by decide +kernel) ?_
  exact law_end hx hb hr hlk hS (by dsimp only; omega) (by dsimp only; omega) dL_law_1769
set_option maxHeartbeats 4000000 in
set_option maxRecDepth 100000 in
theorem LW22_make {p : Program} {e : Env} {s : State} {m : MethodId} {below : List Frame} {meth : Method} {c : Code} {l : Launch} {G : Nat → Nat} {D : va_G} {K : Nat → ClassId} {b : Nat} {xs : Nat → Int32} (hx : p.tables.exec = Jvm.exec) (hb : c.code = cL_law) (hr : meth.sig.returnType = some .boolean) (hlk : meth.locks = false) (hl0 : l.stackTraces = false) (hnc : Ncs s) (hml : c.maxLocals = 9) (hown : s.vm.findClass RL = some m.cls) (hts : ∀ w ∈ lw_gw, w.before #[Value.ref b] s = true) (hK : va_K D cl (tys K) s) (hm : Amb G (fun q : Nat => s.heap.size ≤ q) s s.heap) (hX : va_X b 4 xs s s.heap) (hbl : b < s.heap.size) {h0 h1 h2 h3 h4 h5 h6 h7 h8 h9 h10 h11 h12 h13 h14 h15 a0 a1 a2 a3 a4 a5 a6 a7 a8 a9 a10 a11 : Nat} (ya : Nat) (lya : 0 ≤ ya) (gya : ya ≤ 3) (hx1 : xs 1 = nI ya) (hx2 : xs 2 = nI 0) (hx3 : xs 3 = nI 2) {H : Heap} {locs : List Loc} {cells slots : Nat} (hcs : cells ≤ 1000) (hss : slots ≤ 100000) (hP : va_P D cl [(h0, .inr (9, [.ref h1, .ref h7, .ref h2, .ref a0, .ref h6, .ref a1, .ref a2, .ref a3, .int (nI 0)])), (h1, .inr (5, [.ref h3, .int (nI 0)])), (h2, .inr (3, [.ref h4, .ref a4, .ref a5, .int (nI 0), .int (nI 0), .int (nI 100), .int (nI 60), .ref a6])), (h3, .inl (K 0, 200, .inr (.inr (.inr (.inr (fun _ => none)))))), (h4, .inr (5, [.ref h5, .int (nI 0)])), (h5, .inl (K 0, 200, .inr (.inr (.inr (.inr (fun _ => none)))))), (h6, .inr (1, [.ref h1, .ref h7, .int (nI 0)])), (h7, .inr (4, [.ref a7, .ref h8, .ref a8, .int (nI 1)])), (h8, .inl (K 0, 32, .inr (.inr (.inr (.inr (fun _ => none)))))), (h9, .inl (K 3, 1, .inr (.inl (fun _ => 0)))), (h10, .inr (12, [.int (nI 0), .ref h11])), (h11, .inr (10, [.ref h12, .ref h13, .ref a9, .ref a10, .ref a11, .int (nI 0), .int (nI 0), .int (nI 60), .int (nI 0), .int (nI 2), .int (nI 0), .int (nI 0), .int (nI 0), .int (nI 0), .int (nI 0), .int (nI 0), .int (nI 0)])), (h12, .inr (13, [.int (nI 0), .ref (G 0), .int (nI 0)])), (h13, .inr (13, [.int (nI 1), .ref h14, .int (nI 1)])), (h14, .inl (K 4, 10, .inr (.inr (.inr (.inr (va_up (fun _ => none) 0 (some h15))))))), (h15, .inl (K 2, 4, .inl (fun _ => (-1))))] H) (hD : va_D (fun q : Nat => s.heap.size ≤ q) [(h0, .inr (9, [.ref h1, .ref h7, .ref h2, .ref a0, .ref h6, .ref a1, .ref a2, .ref a3, .int (nI 0)])), (h1, .inr (5, [.ref h3, .int (nI 0)])), (h2, .inr (3, [.ref h4, .ref a4, .ref a5, .int (nI 0), .int (nI 0), .int (nI 100), .int (nI 60), .ref a6])), (h3, .inl (K 0, 200, .inr (.inr (.inr (.inr (fun _ => none)))))), (h4, .inr (5, [.ref h5, .int (nI 0)])), (h5, .inl (K 0, 200, .inr (.inr (.inr (.inr (fun _ => none)))))), (h6, .inr (1, [.ref h1, .ref h7, .int (nI 0)])), (h7, .inr (4, [.ref a7, .ref h8, .ref a8, .int (nI 1)])), (h8, .inl (K 0, 32, .inr (.inr (.inr (.inr (fun _ => none)))))), (h9, .inl (K 3, 1, .inr (.inl (fun _ => 0)))), (h10, .inr (12, [.int (nI 0), .ref h11])), (h11, .inr (10, [.ref h12, .ref h13, .ref a9, .ref a10, .ref a11, .int (nI 0), .int (nI 0), .int (nI 60), .int (nI 0), .int (nI 2), .int (nI 0), .int (nI 0), .int (nI 0), .int (nI 0), .int (nI 0), .int (nI 0), .int (nI 0)])), (h12, .inr (13, [.int (nI 0), .ref (G 0), .int (nI 0)])), (h13, .inr (13, [.int (nI 1), .ref h14, .int (nI 1)])), (h14, .inl (K 4, 10, .inr (.inr (.inr (.inr (va_up (fun _ => none) 0 (some h15))))))), (h15, .inl (K 2, 4, .inl (fun _ => (-1))))]) (hS : va_S (fun q : Nat => s.heap.size ≤ q) s.heap H locs) {ls : Array Slot} (hl : lv_has ls 9 [(0, .ref b), (1, .ref h0), (2, .ref h10), (3, .ref h9), (4, .int (nI 0))]) : W p l e room_1 s m #[Value.ref b] below meth c H locs cells slots (lw_Z below #[Value.ref b] s) (F0 m 256 ls []) := by
  have hA : ∀ q : Nat, s.heap.size ≤ q → (fun q : Nat => s.heap.size ≤ q) q := fun _ h => h
  have hbA : ¬ (fun q : Nat => s.heap.size ≤ q) b := Nat.not_le.mpr hbl
  refine lv_aload_n hx hb dL_law_256 rfl (lv_at hl 1 rfl) ?_
  refine lv_aload_n hx hb dL_law_257 rfl (lv_at hl 0 rfl) ?_
  refine lv_iload hx hb dL_law_258 (lv_at hl 4 rfl) ?_
  refine lv_iconst (v := nI 1) hx hb dL_law_260 (by decide +kernel) ?_
  refine lv_iadd hx hb dL_law_261 ?_
  refine w_toeq (show (nI 0) + (nI 1) = nI 1 by decide +kernel) ?_
  refine va_sld hx hb hX hbl hbA hS (vp_in_nI (n := 1) (by decide) (by decide)) dL_law_262 ?_
  refine w_toeq (show xs (nI 1).toNatClampNeg = nI ya by rw [nI_clamp (n := 1) (by decide)]; exact hx1) ?_
  refine lv_aload_n hx hb dL_law_263 rfl (lv_at hl 0 rfl) ?_
  refine lv_iload hx hb dL_law_264 (lv_at hl 4 rfl) ?_
  refine lv_iconst (v := nI 2) hx hb dL_law_266 (by decide +kernel) ?_
  refine lv_iadd hx hb dL_law_267 ?_
  refine w_toeq (show (nI 0) + (nI 2) = nI 2 by decide +kernel) ?_
  refine va_sld hx hb hX hbl hbA hS (vp_in_nI (n := 2) (by decide) (by decide)) dL_law_268 ?_
  refine w_toeq (show xs (nI 2).toNatClampNeg = nI 0 by rw [nI_clamp (n := 2) (by decide)]; exact hx2) ?_
  refine lv_aload_n hx hb dL_law_269 rfl (lv_at hl 0 rfl) ?_
  refine lv_iload hx hb dL_law_270 (lv_at hl 4 rfl) ?_
  refine lv_iconst (v := nI 3) hx hb dL_law_272 (by decide +kernel) ?_
  refine lv_iadd hx hb dL_law_273 ?_
  refine w_toeq (show (nI 0) + (nI 3) = nI 3 by decide +kernel) ?_
  refine va_sld hx hb hX hbl hbA hS (vp_in_nI (n := 3) (by decide) (by decide)) dL_law_274 ?_
  refine w_toeq (show xs (nI 3).toNatClampNeg = nI 2 by rw [nI_clamp (n := 3) (by decide)]; exact hx3) ?_
  refine lv_aload_n hx hb dL_law_275 rfl (lv_at hl 3 rfl) ?_
  refine k_i (wr := [(h10, .inr (12, [.int (nI 0), .ref h11])), (h11, .inr (10, [.ref h12, .ref h13, .ref a9, .ref a10, .ref a11, .int (nI 0), .int (nI 0), .int (nI 60), .int (nI 0), .int (nI 2), .int (nI 0), .int (nI 0), .int (nI 0), .int (nI 0), .int (nI 0), .int (nI 0), .int (nI 0)])), (h12, .inr (13, [.int (nI 0), .ref (G 0), .int (nI 0)])), (h13, .inr (13, [.int (nI 1), .ref h14, .int (nI 1)])), (h14, .inl (K 4, 10, .inr (.inr (.inr (.inr (va_up (fun _ => none) 0 (some h15))))))), (h15, .inl (K 2, 4, .inl (fun _ => (-1))))]) (run_SW hnc (rest := []) hx hb hml hown hts hK hP hD hS hA hm (C1081_make l G D K H.size h0 h1 h2 h3 h4 h5 h6 h7 h8 h9 (.ref a0) (.ref a1) (.ref a2) (.ref a3) (.int (nI 0)) (.ref a4) (.ref a5) (.int (nI 100)) (.int (nI 60)) (.ref a6) (.ref h1) (.ref h7) (.ref a7) (.ref a8) (fun _ => none) (fun _ => none) (fun _ => none) (fun _ => 0) ya (by omega) (by omega)) [0, 1, 2, 3, 4, 5, 6, 7, 8, 9] rfl rfl mokh_yL_make w_786 w_787 ⟨Nat.le_of_ble_eq_true rfl, Nat.le_of_ble_eq_true rfl⟩ rfl hl.1 rfl (Nat.le_of_ble_eq_true rfl) dL_law_276 ⟨(by dsimp only [room_1]; omega), (by dsimp only [room_1]; omega)⟩) hP hD hS hA [0, 1, 2, 3, 4, 5, 6, 7, 8, 9] [10, 11, 12, 13, 14, 15] rfl rfl rfl (by decide) (w2 := fun u0 => [(h10, .inr (12, [.int (nI 0), .ref h11])), (h11, .inr (10, [.ref h12, .ref h13, .ref a9, .ref a10, .ref a11, .int (nI 0), .int (nI 0), .int (nI 60), .int (nI 0), .int (nI 2), .int (nI 0), .int (nI 0), .int (nI 0), .int (nI 0), .int (nI 0), .int (nI 0), .int (nI 0)])), (h12, .inr (13, [.int (nI 0), .ref (G 0), .int (nI 0)])), (h13, .inr (13, [.int (nI 1), .ref h14, .int (nI 1)])), (h14, .inl (K 4, 10, .inr (.inr (.inr (.inr (va_up (fun _ => none) 0 (some h15))))))), (h15, .inl (K 2, 4, .inl (fun _ => (-1)))), (h9, .inl (K 3, 1, .inr (.inl (vp_updL (fun _ => 0) 0 0)))), (h0, .inr (9, [.ref h1, .ref h7, .ref h2, .ref a0, .ref h6, .ref a1, .ref a2, .ref a3, .int (nI 0)])), (h1, .inr (5, [.ref h3, .int (nI 1)])), (h3, .inl (K 0, 200, .inr (.inr (.inr (.inr (va_up (fun _ => none) 0 (some (u0 0)))))))), ((u0 1), .inl (K 0, 2, .inr (.inr (.inr (.inr (fun _ => none)))))), (h2, .inr (3, [.ref h4, .ref a4, .ref a5, .int (nI 0), .int (nI 4), .int (nI 100), .int (nI 60), .ref a6])), (h4, .inr (5, [.ref h5, .int (nI 1)])), (h5, .inl (K 0, 200, .inr (.inr (.inr (.inr (va_up (fun _ => none) 0 (some (u0 0)))))))), (h6, .inr (1, [.ref h1, .ref h7, .int (nI 0)])), (h8, .inl (K 0, 32, .inr (.inr (.inr (.inr (va_up (fun _ => none) (0 + ya) (some (u0 0)))))))), ((u0 0), .inr (7, [.int (nI 0), .ref (u0 1), .int (nI 0), .int (nI 1), .int (nI 0), .int (nI 4), .int (nI 4), .int (nI 0), .int (-1), .int (nI 0), .int (nI 0), .int (nI 0), .int (nI 0), .int (nI 0)])), (h7, .inr (4, [.ref a7, .ref h8, .ref a8, .int (nI 1)]))]) (fun _ => rfl) (fun u0 H locs hP hD hS => ?_)
  refine lv_istore (lv' := [(5, .int (nI 0)), (0, .ref b), (1, .ref h0), (2, .ref h10), (3, .ref h9), (4, .int (nI 0))]) hx hb dL_law_279 hl (by decide) rfl (fun ls hl => ?_)
  refine lv_aload_n hx hb dL_law_281 rfl (lv_at hl 3 rfl) ?_
  refine lv_aload_n hx hb dL_law_282 rfl (lv_at hl 1 rfl) ?_
  refine lv_iload hx hb dL_law_283 (lv_at hl 5 rfl) ?_
  refine lv_iconst (v := nI 1) hx hb dL_law_285 (by decide +kernel) ?_
  refine lv_iadd hx hb dL_law_286 ?_
  refine w_toeq (show (nI 0) + (nI 1) = nI 1 by decide +kernel) ?_
  refine va_sld hx hb hX hbl hbA hS (vp_in_nI (n := 1) (by decide) (by decide)) dL_law_287 ?_
  refine w_toeq (show xs (nI 1).toNatClampNeg = nI ya by rw [nI_clamp (n := 1) (by decide)]; exact hx1) ?_
  refine lv_aload_n hx hb dL_law_288 rfl (lv_at hl 1 rfl) ?_
  refine lv_iload hx hb dL_law_289 (lv_at hl 5 rfl) ?_
  refine lv_iconst (v := nI 2) hx hb dL_law_291 (by decide +kernel) ?_
  refine lv_iadd hx hb dL_law_292 ?_
  refine w_toeq (show (nI 0) + (nI 2) = nI 2 by decide +kernel) ?_
  refine va_sld hx hb hX hbl hbA hS (vp_in_nI (n := 2) (by decide) (by decide)) dL_law_293 ?_
  refine w_toeq (show xs (nI 2).toNatClampNeg = nI 0 by rw [nI_clamp (n := 2) (by decide)]; exact hx2) ?_
  refine lv_aload_n hx hb dL_law_294 rfl (lv_at hl 1 rfl) ?_
  refine lv_iload hx hb dL_law_295 (lv_at hl 5 rfl) ?_
  refine lv_iconst (v := nI 3) hx hb dL_law_297 (by decide +kernel) ?_
  refine lv_iadd hx hb dL_law_298 ?_
  refine w_toeq (show (nI 0) + (nI 3) = nI 3 by decide +kernel) ?_
  refine va_sld hx hb hX hbl hbA hS (vp_in_nI (n := 3) (by decide) (by decide)) dL_law_299 ?_
  refine w_toeq (show xs (nI 3).toNatClampNeg = nI 2 by rw [nI_clamp (n := 3) (by decide)]; exact hx3) ?_
  refine k_i (wr := [(h9, .inl (K 3, 1, .inr (.inl (vp_updL (fun _ => 0) 0 0)))), (h0, .inr (9, [.ref h1, .ref h7, .ref h2, .ref a0, .ref h6, .ref a1, .ref a2, .ref a3, .int (nI 0)])), (h1, .inr (5, [.ref h3, .int (nI 1)])), (h3, .inl (K 0, 200, .inr (.inr (.inr (.inr (va_up (fun _ => none) 0 (some (u0 0)))))))), ((u0 1), .inl (K 0, 2, .inr (.inr (.inr (.inr (fun _ => none)))))), (h2, .inr (3, [.ref h4, .ref a4, .ref a5, .int (nI 0), .int (nI 4), .int (nI 100), .int (nI 60), .ref a6])), (h4, .inr (5, [.ref h5, .int (nI 1)])), (h5, .inl (K 0, 200, .inr (.inr (.inr (.inr (va_up (fun _ => none) 0 (some (u0 0)))))))), (h6, .inr (1, [.ref h1, .ref h7, .int (nI 0)])), (h8, .inl (K 0, 32, .inr (.inr (.inr (.inr (va_up (fun _ => none) (0 + ya) (some (u0 0)))))))), ((u0 0), .inr (7, [.int (nI 0), .ref (u0 1), .int (nI 0), .int (nI 1), .int (nI 0), .int (nI 4), .int (nI 4), .int (nI 0), .int (-1), .int (nI 0), .int (nI 0), .int (nI 0), .int (nI 0), .int (nI 0)])), (h7, .inr (4, [.ref a7, .ref h8, .ref a8, .int (nI 1)]))]) (run_V (rest := []) hx hb hml hown hts hK hP hD hS hA hm (C139_make l G D K H.size h10 h11 h12 h13 h14 h15 (.ref a9) (.ref a10) (.ref a11) (.int (nI 60)) (.int (nI 0)) (.int (nI 2)) (.int (nI 0)) (.int (nI 0)) (.int (nI 0)) (.int (nI 0)) (.int (nI 0)) (.int (nI 0)) (.int (nI 0)) (.int (nI 1)) (fun _ => (-1)) ya (by omega) (by omega)) [0, 1, 2, 3, 4, 5] rfl rfl mok_yX12_make w_1341 w_1342 w_1343 (rcv hK hP 0 rfl rfl rfl) ⟨Nat.le_of_ble_eq_true rfl, Nat.le_of_ble_eq_true rfl⟩ rfl hl.1 rfl (Nat.le_of_ble_eq_true rfl) dL_law_300 ⟨(by dsimp only [room_1]; omega), (by dsimp only [room_1]; omega)⟩) hP hD hS hA [0, 1, 2, 3, 4, 5] [6, 7, 8, 9, 10, 11, 12, 13, 14, 15, 16, 17] rfl rfl rfl (by decide) (w2 := fun u1 => [(h9, .inl (K 3, 1, .inr (.inl (vp_updL (fun _ => 0) 0 0)))), (h0, .inr (9, [.ref h1, .ref h7, .ref h2, .ref a0, .ref h6, .ref a1, .ref a2, .ref a3, .int (nI 0)])), (h1, .inr (5, [.ref h3, .int (nI 1)])), (h3, .inl (K 0, 200, .inr (.inr (.inr (.inr (va_up (fun _ => none) 0 (some (u0 0)))))))), ((u0 1), .inl (K 0, 2, .inr (.inr (.inr (.inr (fun _ => none)))))), (h2, .inr (3, [.ref h4, .ref a4, .ref a5, .int (nI 0), .int (nI 4), .int (nI 100), .int (nI 60), .ref a6])), (h4, .inr (5, [.ref h5, .int (nI 1)])), (h5, .inl (K 0, 200, .inr (.inr (.inr (.inr (va_up (fun _ => none) 0 (some (u0 0)))))))), (h6, .inr (1, [.ref h1, .ref h7, .int (nI 0)])), (h8, .inl (K 0, 32, .inr (.inr (.inr (.inr (va_up (fun _ => none) (0 + ya) (some (u0 0)))))))), ((u0 0), .inr (7, [.int (nI 0), .ref (u0 1), .int (nI 0), .int (nI 1), .int (nI 0), .int (nI 4), .int (nI 4), .int (nI 0), .int (-1), .int (nI 0), .int (nI 0), .int (nI 0), .int (nI 0), .int (nI 0)])), (h7, .inr (4, [.ref a7, .ref h8, .ref a8, .int (nI 1)])), (h12, .inr (13, [.int (nI 1), .ref (u1 2), .int (nI 1)])), ((u1 2), .inl (K 4, 10, .inr (.inr (.inr (.inr (va_up (fun _ => none) 0 (some (u1 0)))))))), ((u1 0), .inr (11, [.int (nI 0), .ref (u1 1), .int (nI 0), .int (nI 1), .int (nI 0), .int (nI 0), .int (-1), .int (nI 2), .int (nI 0), .int (nI 0), .int (nI 0)])), ((u1 1), .inl (K 2, 2, .inl (fun _ => (-1)))), (h10, .inr (12, [.int (nI 0), .ref h11])), (h11, .inr (10, [.ref h12, .ref h13, .ref a9, .ref a10, .ref a11, .int (nI 0), .int (nI 4), .int (nI 60), .int (nI 0), .int (nI 2), .int (nI 0), .int (nI 0), .int (nI 0), .int (nI 0), .int (nI 0), .int (nI 0), .int (nI 0)])), (h15, .inl (K 2, 4, .inl (upd (fun _ => (-1)) ya (nI 0)))), (h13, .inr (13, [.int (nI 1), .ref h14, .int (nI 1)])), (h14, .inl (K 4, 10, .inr (.inr (.inr (.inr (va_up (fun _ => none) 0 (some h15)))))))]) (fun _ => rfl) (fun u1 H locs hP hD hS => ?_)
  refine lv_istore (lv' := [(6, .int (nI 0)), (5, .int (nI 0)), (0, .ref b), (1, .ref h0), (2, .ref h10), (3, .ref h9), (4, .int (nI 0))]) hx hb dL_law_303 hl (by decide) rfl (fun ls hl => ?_)
  refine lv_aload_n hx hb dL_law_305 rfl (lv_at hl 4 rfl) ?_
  refine k_i (wr := [(h9, .inl (K 3, 1, .inr (.inl (vp_updL (fun _ => 0) 0 0)))), (h0, .inr (9, [.ref h1, .ref h7, .ref h2, .ref a0, .ref h6, .ref a1, .ref a2, .ref a3, .int (nI 0)])), (h1, .inr (5, [.ref h3, .int (nI 1)])), (h3, .inl (K 0, 200, .inr (.inr (.inr (.inr (va_up (fun _ => none) 0 (some (u0 0)))))))), ((u0 1), .inl (K 0, 2, .inr (.inr (.inr (.inr (fun _ => none)))))), (h2, .inr (3, [.ref h4, .ref a4, .ref a5, .int (nI 0), .int (nI 4), .int (nI 100), .int (nI 60), .ref a6])), (h4, .inr (5, [.ref h5, .int (nI 1)])), (h5, .inl (K 0, 200, .inr (.inr (.inr (.inr (va_up (fun _ => none) 0 (some (u0 0)))))))), (h6, .inr (1, [.ref h1, .ref h7, .int (nI 0)])), (h8, .inl (K 0, 32, .inr (.inr (.inr (.inr (va_up (fun _ => none) (0 + ya) (some (u0 0)))))))), ((u0 0), .inr (7, [.int (nI 0), .ref (u0 1), .int (nI 0), .int (nI 1), .int (nI 0), .int (nI 4), .int (nI 4), .int (nI 0), .int (-1), .int (nI 0), .int (nI 0), .int (nI 0), .int (nI 0), .int (nI 0)])), (h7, .inr (4, [.ref a7, .ref h8, .ref a8, .int (nI 1)])), (h12, .inr (13, [.int (nI 1), .ref (u1 2), .int (nI 1)])), ((u1 2), .inl (K 4, 10, .inr (.inr (.inr (.inr (va_up (fun _ => none) 0 (some (u1 0)))))))), ((u1 0), .inr (11, [.int (nI 0), .ref (u1 1), .int (nI 0), .int (nI 1), .int (nI 0), .int (nI 0), .int (-1), .int (nI 2), .int (nI 0), .int (nI 0), .int (nI 0)])), ((u1 1), .inl (K 2, 2, .inl (fun _ => (-1)))), (h11, .inr (10, [.ref h12, .ref h13, .ref a9, .ref a10, .ref a11, .int (nI 0), .int (nI 4), .int (nI 60), .int (nI 0), .int (nI 2), .int (nI 0), .int (nI 0), .int (nI 0), .int (nI 0), .int (nI 0), .int (nI 0), .int (nI 0)])), (h15, .inl (K 2, 4, .inl (upd (fun _ => (-1)) ya (nI 0)))), (h13, .inr (13, [.int (nI 1), .ref h14, .int (nI 1)])), (h14, .inl (K 4, 10, .inr (.inr (.inr (.inr (va_up (fun _ => none) 0 (some h15)))))))]) (run_V (rest := []) hx hb hml hown hts hK hP hD hS hA hm (C1057_thrown l G D K H.size h10 (.ref h11)) [16] rfl rfl mok_yX12_thrown w_1300 w_1301 w_1302 (rcv hK hP 16 rfl rfl rfl) ⟨Nat.le_of_ble_eq_true rfl, Nat.le_of_ble_eq_true rfl⟩ rfl hl.1 rfl (Nat.le_of_ble_eq_true rfl) dL_law_306 ⟨(by dsimp only [room_1]; omega), (by dsimp only [room_1]; omega)⟩) hP hD hS hA [16] [0, 1, 2, 3, 4, 5, 6, 7, 8, 9, 10, 11, 12, 13, 14, 15, 17, 18, 19, 20] rfl rfl rfl (by decide) (w2 := fun u2 => [(h9, .inl (K 3, 1, .inr (.inl (vp_updL (fun _ => 0) 0 0)))), (h0, .inr (9, [.ref h1, .ref h7, .ref h2, .ref a0, .ref h6, .ref a1, .ref a2, .ref a3, .int (nI 0)])), (h1, .inr (5, [.ref h3, .int (nI 1)])), (h3, .inl (K 0, 200, .inr (.inr (.inr (.inr (va_up (fun _ => none) 0 (some (u0 0)))))))), ((u0 1), .inl (K 0, 2, .inr (.inr (.inr (.inr (fun _ => none)))))), (h2, .inr (3, [.ref h4, .ref a4, .ref a5, .int (nI 0), .int (nI 4), .int (nI 100), .int (nI 60), .ref a6])), (h4, .inr (5, [.ref h5, .int (nI 1)])), (h5, .inl (K 0, 200, .inr (.inr (.inr (.inr (va_up (fun _ => none) 0 (some (u0 0)))))))), (h6, .inr (1, [.ref h1, .ref h7, .int (nI 0)])), (h8, .inl (K 0, 32, .inr (.inr (.inr (.inr (va_up (fun _ => none) (0 + ya) (some (u0 0)))))))), ((u0 0), .inr (7, [.int (nI 0), .ref (u0 1), .int (nI 0), .int (nI 1), .int (nI 0), .int (nI 4), .int (nI 4), .int (nI 0), .int (-1), .int (nI 0), .int (nI 0), .int (nI 0), .int (nI 0), .int (nI 0)])), (h7, .inr (4, [.ref a7, .ref h8, .ref a8, .int (nI 1)])), (h12, .inr (13, [.int (nI 1), .ref (u1 2), .int (nI 1)])), ((u1 2), .inl (K 4, 10, .inr (.inr (.inr (.inr (va_up (fun _ => none) 0 (some (u1 0)))))))), ((u1 0), .inr (11, [.int (nI 0), .ref (u1 1), .int (nI 0), .int (nI 1), .int (nI 0), .int (nI 0), .int (-1), .int (nI 2), .int (nI 0), .int (nI 0), .int (nI 0)])), ((u1 1), .inl (K 2, 2, .inl (fun _ => (-1)))), (h11, .inr (10, [.ref h12, .ref h13, .ref a9, .ref a10, .ref a11, .int (nI 0), .int (nI 4), .int (nI 60), .int (nI 0), .int (nI 2), .int (nI 0), .int (nI 0), .int (nI 0), .int (nI 0), .int (nI 0), .int (nI 0), .int (nI 0)])), (h15, .inl (K 2, 4, .inl (upd (fun _ => (-1)) ya (nI 0)))), (h13, .inr (13, [.int (nI 1), .ref h14, .int (nI 1)])), (h14, .inl (K 4, 10, .inr (.inr (.inr (.inr (va_up (fun _ => none) 0 (some h15))))))), (h10, .inr (12, [.int (nI 0), .ref h11]))]) (fun _ => rfl) (fun u2 H locs hP hD hS => ?_)
  refine lv_iload hx hb dL_law_309 (lv_at hl 1 rfl) ?_
  refine lv_icmp_eq (tgt := 316) hx hb dL_law_311 (by decide) (fun _ => ?_) (fun c9 => absurd (by decide +kernel) c9)
  refine lv_iload hx hb dL_law_316 (lv_at hl 1 rfl) ?_
  refine lv_if_ne (tgt := 333) hx hb dL_law_318 (by decide) (fun c9 => absurd (by decide +kernel) c9) (fun _ => ?_)
  refine lv_aload_n hx hb dL_law_321 rfl (lv_at hl 5 rfl) ?_
  refine lv_iconst (v := nI 0) hx hb dL_law_322 (by decide +kernel) ?_
  refine r_lald (k := 0) hx hb hK hP 0 3 rfl rfl (Nat.le_of_ble_eq_true rfl) (by decide) (v := 0) rfl dL_law_323 ?_
  refine lv_iload hx hb dL_law_324 (lv_at hl 0 rfl) ?_
  refine lv_i2l (v := 0) hx hb dL_law_326 (by decide +kernel) ?_
  refine W.lcmp hx hb dL_law_327 ?_
  refine w_toeq (show lg_cmp 0 0 = nI 0 by decide +kernel) ?_
  refine lv_if_eq (tgt := 333) hx hb dL_law_328 (by decide) (fun _ => ?_) (fun c9 => absurd (by decide +kernel) c9)
  refine lv_goto (tgt := 1762) hx hb dL_law_333 (by decide) ?_
  refine lv_iinc (v := nI 4) (lv' := [(4, .int (nI 4)), (6, .int (nI 0)), (5, .int (nI 0)), (0, .ref b), (1, .ref h0), (2, .ref h10), (3, .ref h9)]) hx hb dL_law_1762 hl (k := 6) rfl (by decide +kernel) (by decide) rfl (fun ls hl => ?_)
  refine lv_goto (tgt := 23) hx hb dL_law_1765 (by decide) ?_
  refine lv_iload hx hb dL_law_23 (lv_at hl 0 rfl) ?_
  refine lv_aload_n hx hb dL_law_25 rfl (lv_at hl 3 rfl) ?_
  refine va_slen hx hb hX hbl hbA hS dL_law_26 ?_
  refine w_toeq (show Int32.ofNat 4 = nI 4 from rfl) ?_
  refine lv_iconst (v := nI 4) hx hb dL_law_27 (by decide +kernel) ?_
  refine lv_isub hx hb dL_law_28 ?_
  refine w_toeq (show (nI 4) - (nI 4) = nI 0 by decide +kernel) ?_
  refine lv_icmp_gt (tgt := 1768) hx hb dL_law_29 (by decide) (fun _ => ?_) (fun c9 => absurd (by decide +kernel) c9)
  refine lv_iconst (v := nI 1) hx hb dL_law_1768 (by decide +kernel) ?_
  exact law_end hx hb hr hlk hS (by dsimp only; omega) (by dsimp only; omega) dL_law_1769
set_option maxHeartbeats 4000000 in
set_option maxRecDepth 100000 in
theorem LW23_make {p : Program} {e : Env} {s : State} {m : MethodId} {below : List Frame} {meth : Method} {c : Code} {l : Launch} {G : Nat → Nat} {D : va_G} {K : Nat → ClassId} {b : Nat} {xs : Nat → Int32} (hx : p.tables.exec = Jvm.exec) (hb : c.code = cL_law) (hr : meth.sig.returnType = some .boolean) (hlk : meth.locks = false) (hl0 : l.stackTraces = false) (hnc : Ncs s) (hml : c.maxLocals = 9) (hown : s.vm.findClass RL = some m.cls) (hts : ∀ w ∈ lw_gw, w.before #[Value.ref b] s = true) (hK : va_K D cl (tys K) s) (hm : Amb G (fun q : Nat => s.heap.size ≤ q) s s.heap) (hX : va_X b 4 xs s s.heap) (hbl : b < s.heap.size) {h0 h1 h2 h3 h4 h5 h6 h7 h8 h9 h10 h11 h12 h13 h14 h15 a0 a1 a2 a3 a4 a5 a6 a7 a8 a9 a10 a11 : Nat} (ya : Nat) (lya : 0 ≤ ya) (gya : ya ≤ 3) (hx1 : xs 1 = nI ya) (hx2 : xs 2 = nI 0) (hx3 : xs 3 = nI 3) {H : Heap} {locs : List Loc} {cells slots : Nat} (hcs : cells ≤ 1000) (hss : slots ≤ 100000) (hP : va_P D cl [(h0, .inr (9, [.ref h1, .ref h7, .ref h2, .ref a0, .ref h6, .ref a1, .ref a2, .ref a3, .int (nI 0)])), (h1, .inr (5, [.ref h3, .int (nI 0)])), (h2, .inr (3, [.ref h4, .ref a4, .ref a5, .int (nI 0), .int (nI 0), .int (nI 100), .int (nI 60), .ref a6])), (h3, .inl (K 0, 200, .inr (.inr (.inr (.inr (fun _ => none)))))), (h4, .inr (5, [.ref h5, .int (nI 0)])), (h5, .inl (K 0, 200, .inr (.inr (.inr (.inr (fun _ => none)))))), (h6, .inr (1, [.ref h1, .ref h7, .int (nI 0)])), (h7, .inr (4, [.ref a7, .ref h8, .ref a8, .int (nI 1)])), (h8, .inl (K 0, 32, .inr (.inr (.inr (.inr (fun _ => none)))))), (h9, .inl (K 3, 1, .inr (.inl (fun _ => 0)))), (h10, .inr (12, [.int (nI 0), .ref h11])), (h11, .inr (10, [.ref h12, .ref h13, .ref a9, .ref a10, .ref a11, .int (nI 0), .int (nI 0), .int (nI 60), .int (nI 0), .int (nI 2), .int (nI 0), .int (nI 0), .int (nI 0), .int (nI 0), .int (nI 0), .int (nI 0), .int (nI 0)])), (h12, .inr (13, [.int (nI 0), .ref (G 0), .int (nI 0)])), (h13, .inr (13, [.int (nI 1), .ref h14, .int (nI 1)])), (h14, .inl (K 4, 10, .inr (.inr (.inr (.inr (va_up (fun _ => none) 0 (some h15))))))), (h15, .inl (K 2, 4, .inl (fun _ => (-1))))] H) (hD : va_D (fun q : Nat => s.heap.size ≤ q) [(h0, .inr (9, [.ref h1, .ref h7, .ref h2, .ref a0, .ref h6, .ref a1, .ref a2, .ref a3, .int (nI 0)])), (h1, .inr (5, [.ref h3, .int (nI 0)])), (h2, .inr (3, [.ref h4, .ref a4, .ref a5, .int (nI 0), .int (nI 0), .int (nI 100), .int (nI 60), .ref a6])), (h3, .inl (K 0, 200, .inr (.inr (.inr (.inr (fun _ => none)))))), (h4, .inr (5, [.ref h5, .int (nI 0)])), (h5, .inl (K 0, 200, .inr (.inr (.inr (.inr (fun _ => none)))))), (h6, .inr (1, [.ref h1, .ref h7, .int (nI 0)])), (h7, .inr (4, [.ref a7, .ref h8, .ref a8, .int (nI 1)])), (h8, .inl (K 0, 32, .inr (.inr (.inr (.inr (fun _ => none)))))), (h9, .inl (K 3, 1, .inr (.inl (fun _ => 0)))), (h10, .inr (12, [.int (nI 0), .ref h11])), (h11, .inr (10, [.ref h12, .ref h13, .ref a9, .ref a10, .ref a11, .int (nI 0), .int (nI 0), .int (nI 60), .int (nI 0), .int (nI 2), .int (nI 0), .int (nI 0), .int (nI 0), .int (nI 0), .int (nI 0), .int (nI 0), .int (nI 0)])), (h12, .inr (13, [.int (nI 0), .ref (G 0), .int (nI 0)])), (h13, .inr (13, [.int (nI 1), .ref h14, .int (nI 1)])), (h14, .inl (K 4, 10, .inr (.inr (.inr (.inr (va_up (fun _ => none) 0 (some h15))))))), (h15, .inl (K 2, 4, .inl (fun _ => (-1))))]) (hS : va_S (fun q : Nat => s.heap.size ≤ q) s.heap H locs) {ls : Array Slot} (hl : lv_has ls 9 [(0, .ref b), (1, .ref h0), (2, .ref h10), (3, .ref h9), (4, .int (nI 0))]) : W p l e room_1 s m #[Value.ref b] below meth c H locs cells slots (lw_Z below #[Value.ref b] s) (F0 m 256 ls []) := by
  have hA : ∀ q : Nat, s.heap.size ≤ q → (fun q : Nat => s.heap.size ≤ q) q := fun _ h => h
  have hbA : ¬ (fun q : Nat => s.heap.size ≤ q) b := Nat.not_le.mpr hbl
  refine lv_aload_n hx hb dL_law_256 rfl (lv_at hl 1 rfl) ?_
  refine lv_aload_n hx hb dL_law_257 rfl (lv_at hl 0 rfl) ?_
  refine lv_iload hx hb dL_law_258 (lv_at hl 4 rfl) ?_
  refine lv_iconst (v := nI 1) hx hb dL_law_260 (by decide +kernel) ?_
  refine lv_iadd hx hb dL_law_261 ?_
  refine w_toeq (show (nI 0) + (nI 1) = nI 1 by decide +kernel) ?_
  refine va_sld hx hb hX hbl hbA hS (vp_in_nI (n := 1) (by decide) (by decide)) dL_law_262 ?_
  refine w_toeq (show xs (nI 1).toNatClampNeg = nI ya by rw [nI_clamp (n := 1) (by decide)]; exact hx1) ?_
  refine lv_aload_n hx hb dL_law_263 rfl (lv_at hl 0 rfl) ?_
  refine lv_iload hx hb dL_law_264 (lv_at hl 4 rfl) ?_
  refine lv_iconst (v := nI 2) hx hb dL_law_266 (by decide +kernel) ?_
  refine lv_iadd hx hb dL_law_267 ?_
  refine w_toeq (show (nI 0) + (nI 2) = nI 2 by decide +kernel) ?_
  refine va_sld hx hb hX hbl hbA hS (vp_in_nI (n := 2) (by decide) (by decide)) dL_law_268 ?_
  refine w_toeq (show xs (nI 2).toNatClampNeg = nI 0 by rw [nI_clamp (n := 2) (by decide)]; exact hx2) ?_
  refine lv_aload_n hx hb dL_law_269 rfl (lv_at hl 0 rfl) ?_
  refine lv_iload hx hb dL_law_270 (lv_at hl 4 rfl) ?_
  refine lv_iconst (v := nI 3) hx hb dL_law_272 (by decide +kernel) ?_
  refine lv_iadd hx hb dL_law_273 ?_
  refine w_toeq (show (nI 0) + (nI 3) = nI 3 by decide +kernel) ?_
  refine va_sld hx hb hX hbl hbA hS (vp_in_nI (n := 3) (by decide) (by decide)) dL_law_274 ?_
  refine w_toeq (show xs (nI 3).toNatClampNeg = nI 3 by rw [nI_clamp (n := 3) (by decide)]; exact hx3) ?_
  refine lv_aload_n hx hb dL_law_275 rfl (lv_at hl 3 rfl) ?_
  refine k_i (wr := [(h10, .inr (12, [.int (nI 0), .ref h11])), (h11, .inr (10, [.ref h12, .ref h13, .ref a9, .ref a10, .ref a11, .int (nI 0), .int (nI 0), .int (nI 60), .int (nI 0), .int (nI 2), .int (nI 0), .int (nI 0), .int (nI 0), .int (nI 0), .int (nI 0), .int (nI 0), .int (nI 0)])), (h12, .inr (13, [.int (nI 0), .ref (G 0), .int (nI 0)])), (h13, .inr (13, [.int (nI 1), .ref h14, .int (nI 1)])), (h14, .inl (K 4, 10, .inr (.inr (.inr (.inr (va_up (fun _ => none) 0 (some h15))))))), (h15, .inl (K 2, 4, .inl (fun _ => (-1))))]) (run_SW hnc (rest := []) hx hb hml hown hts hK hP hD hS hA hm (C1082_make l G D K H.size h0 h1 h2 h3 h4 h5 h6 h7 h8 h9 (.ref a0) (.ref a1) (.ref a2) (.ref a3) (.int (nI 0)) (.ref a4) (.ref a5) (.int (nI 100)) (.int (nI 60)) (.ref a6) (.ref h1) (.ref h7) (.ref a7) (.ref a8) (fun _ => none) (fun _ => none) (fun _ => none) (fun _ => 0) ya (by omega) (by omega)) [0, 1, 2, 3, 4, 5, 6, 7, 8, 9] rfl rfl mokh_yL_make w_786 w_787 ⟨Nat.le_of_ble_eq_true rfl, Nat.le_of_ble_eq_true rfl⟩ rfl hl.1 rfl (Nat.le_of_ble_eq_true rfl) dL_law_276 ⟨(by dsimp only [room_1]; omega), (by dsimp only [room_1]; omega)⟩) hP hD hS hA [0, 1, 2, 3, 4, 5, 6, 7, 8, 9] [10, 11, 12, 13, 14, 15] rfl rfl rfl (by decide) (w2 := fun u0 => [(h10, .inr (12, [.int (nI 0), .ref h11])), (h11, .inr (10, [.ref h12, .ref h13, .ref a9, .ref a10, .ref a11, .int (nI 0), .int (nI 0), .int (nI 60), .int (nI 0), .int (nI 2), .int (nI 0), .int (nI 0), .int (nI 0), .int (nI 0), .int (nI 0), .int (nI 0), .int (nI 0)])), (h12, .inr (13, [.int (nI 0), .ref (G 0), .int (nI 0)])), (h13, .inr (13, [.int (nI 1), .ref h14, .int (nI 1)])), (h14, .inl (K 4, 10, .inr (.inr (.inr (.inr (va_up (fun _ => none) 0 (some h15))))))), (h15, .inl (K 2, 4, .inl (fun _ => (-1)))), (h9, .inl (K 3, 1, .inr (.inl (vp_updL (fun _ => 0) 0 0)))), (h0, .inr (9, [.ref h1, .ref h7, .ref h2, .ref a0, .ref h6, .ref a1, .ref a2, .ref a3, .int (nI 0)])), (h1, .inr (5, [.ref h3, .int (nI 1)])), (h3, .inl (K 0, 200, .inr (.inr (.inr (.inr (va_up (fun _ => none) 0 (some (u0 0)))))))), ((u0 1), .inl (K 0, 3, .inr (.inr (.inr (.inr (fun _ => none)))))), (h2, .inr (3, [.ref h4, .ref a4, .ref a5, .int (nI 0), .int (nI 5), .int (nI 100), .int (nI 60), .ref a6])), (h4, .inr (5, [.ref h5, .int (nI 1)])), (h5, .inl (K 0, 200, .inr (.inr (.inr (.inr (va_up (fun _ => none) 0 (some (u0 0)))))))), (h6, .inr (1, [.ref h1, .ref h7, .int (nI 0)])), (h8, .inl (K 0, 32, .inr (.inr (.inr (.inr (va_up (fun _ => none) (0 + ya) (some (u0 0)))))))), ((u0 0), .inr (7, [.int (nI 0), .ref (u0 1), .int (nI 0), .int (nI 1), .int (nI 0), .int (nI 5), .int (nI 5), .int (nI 0), .int (-1), .int (nI 0), .int (nI 0), .int (nI 0), .int (nI 0), .int (nI 0)])), (h7, .inr (4, [.ref a7, .ref h8, .ref a8, .int (nI 1)]))]) (fun _ => rfl) (fun u0 H locs hP hD hS => ?_)
  refine lv_istore (lv' := [(5, .int (nI 0)), (0, .ref b), (1, .ref h0), (2, .ref h10), (3, .ref h9), (4, .int (nI 0))]) hx hb dL_law_279 hl (by decide) rfl (fun ls hl => ?_)
  refine lv_aload_n hx hb dL_law_281 rfl (lv_at hl 3 rfl) ?_
  refine lv_aload_n hx hb dL_law_282 rfl (lv_at hl 1 rfl) ?_
  refine lv_iload hx hb dL_law_283 (lv_at hl 5 rfl) ?_
  refine lv_iconst (v := nI 1) hx hb dL_law_285 (by decide +kernel) ?_
  refine lv_iadd hx hb dL_law_286 ?_
  refine w_toeq (show (nI 0) + (nI 1) = nI 1 by decide +kernel) ?_
  refine va_sld hx hb hX hbl hbA hS (vp_in_nI (n := 1) (by decide) (by decide)) dL_law_287 ?_
  refine w_toeq (show xs (nI 1).toNatClampNeg = nI ya by rw [nI_clamp (n := 1) (by decide)]; exact hx1) ?_
  refine lv_aload_n hx hb dL_law_288 rfl (lv_at hl 1 rfl) ?_
  refine lv_iload hx hb dL_law_289 (lv_at hl 5 rfl) ?_
  refine lv_iconst (v := nI 2) hx hb dL_law_291 (by decide +kernel) ?_
  refine lv_iadd hx hb dL_law_292 ?_
  refine w_toeq (show (nI 0) + (nI 2) = nI 2 by decide +kernel) ?_
  refine va_sld hx hb hX hbl hbA hS (vp_in_nI (n := 2) (by decide) (by decide)) dL_law_293 ?_
  refine w_toeq (show xs (nI 2).toNatClampNeg = nI 0 by rw [nI_clamp (n := 2) (by decide)]; exact hx2) ?_
  refine lv_aload_n hx hb dL_law_294 rfl (lv_at hl 1 rfl) ?_
  refine lv_iload hx hb dL_law_295 (lv_at hl 5 rfl) ?_
  refine lv_iconst (v := nI 3) hx hb dL_law_297 (by decide +kernel) ?_
  refine lv_iadd hx hb dL_law_298 ?_
  refine w_toeq (show (nI 0) + (nI 3) = nI 3 by decide +kernel) ?_
  refine va_sld hx hb hX hbl hbA hS (vp_in_nI (n := 3) (by decide) (by decide)) dL_law_299 ?_
  refine w_toeq (show xs (nI 3).toNatClampNeg = nI 3 by rw [nI_clamp (n := 3) (by decide)]; exact hx3) ?_
  refine k_i (wr := [(h9, .inl (K 3, 1, .inr (.inl (vp_updL (fun _ => 0) 0 0)))), (h0, .inr (9, [.ref h1, .ref h7, .ref h2, .ref a0, .ref h6, .ref a1, .ref a2, .ref a3, .int (nI 0)])), (h1, .inr (5, [.ref h3, .int (nI 1)])), (h3, .inl (K 0, 200, .inr (.inr (.inr (.inr (va_up (fun _ => none) 0 (some (u0 0)))))))), ((u0 1), .inl (K 0, 3, .inr (.inr (.inr (.inr (fun _ => none)))))), (h2, .inr (3, [.ref h4, .ref a4, .ref a5, .int (nI 0), .int (nI 5), .int (nI 100), .int (nI 60), .ref a6])), (h4, .inr (5, [.ref h5, .int (nI 1)])), (h5, .inl (K 0, 200, .inr (.inr (.inr (.inr (va_up (fun _ => none) 0 (some (u0 0)))))))), (h6, .inr (1, [.ref h1, .ref h7, .int (nI 0)])), (h8, .inl (K 0, 32, .inr (.inr (.inr (.inr (va_up (fun _ => none) (0 + ya) (some (u0 0)))))))), ((u0 0), .inr (7, [.int (nI 0), .ref (u0 1), .int (nI 0), .int (nI 1), .int (nI 0), .int (nI 5), .int (nI 5), .int (nI 0), .int (-1), .int (nI 0), .int (nI 0), .int (nI 0), .int (nI 0), .int (nI 0)])), (h7, .inr (4, [.ref a7, .ref h8, .ref a8, .int (nI 1)]))]) (run_V (rest := []) hx hb hml hown hts hK hP hD hS hA hm (C151_make l G D K H.size h10 h11 h12 h13 h14 h15 (.ref a9) (.ref a10) (.ref a11) (.int (nI 60)) (.int (nI 0)) (.int (nI 2)) (.int (nI 0)) (.int (nI 0)) (.int (nI 0)) (.int (nI 0)) (.int (nI 0)) (.int (nI 0)) (.int (nI 0)) (.int (nI 1)) (fun _ => (-1)) ya (by omega) (by omega)) [0, 1, 2, 3, 4, 5] rfl rfl mok_yX12_make w_1341 w_1342 w_1343 (rcv hK hP 0 rfl rfl rfl) ⟨Nat.le_of_ble_eq_true rfl, Nat.le_of_ble_eq_true rfl⟩ rfl hl.1 rfl (Nat.le_of_ble_eq_true rfl) dL_law_300 ⟨(by dsimp only [room_1]; omega), (by dsimp only [room_1]; omega)⟩) hP hD hS hA [0, 1, 2, 3, 4, 5] [6, 7, 8, 9, 10, 11, 12, 13, 14, 15, 16, 17] rfl rfl rfl (by decide) (w2 := fun u1 => [(h9, .inl (K 3, 1, .inr (.inl (vp_updL (fun _ => 0) 0 0)))), (h0, .inr (9, [.ref h1, .ref h7, .ref h2, .ref a0, .ref h6, .ref a1, .ref a2, .ref a3, .int (nI 0)])), (h1, .inr (5, [.ref h3, .int (nI 1)])), (h3, .inl (K 0, 200, .inr (.inr (.inr (.inr (va_up (fun _ => none) 0 (some (u0 0)))))))), ((u0 1), .inl (K 0, 3, .inr (.inr (.inr (.inr (fun _ => none)))))), (h2, .inr (3, [.ref h4, .ref a4, .ref a5, .int (nI 0), .int (nI 5), .int (nI 100), .int (nI 60), .ref a6])), (h4, .inr (5, [.ref h5, .int (nI 1)])), (h5, .inl (K 0, 200, .inr (.inr (.inr (.inr (va_up (fun _ => none) 0 (some (u0 0)))))))), (h6, .inr (1, [.ref h1, .ref h7, .int (nI 0)])), (h8, .inl (K 0, 32, .inr (.inr (.inr (.inr (va_up (fun _ => none) (0 + ya) (some (u0 0)))))))), ((u0 0), .inr (7, [.int (nI 0), .ref (u0 1), .int (nI 0), .int (nI 1), .int (nI 0), .int (nI 5), .int (nI 5), .int (nI 0), .int (-1), .int (nI 0), .int (nI 0), .int (nI 0), .int (nI 0), .int (nI 0)])), (h7, .inr (4, [.ref a7, .ref h8, .ref a8, .int (nI 1)])), (h12, .inr (13, [.int (nI 1), .ref (u1 2), .int (nI 1)])), ((u1 2), .inl (K 4, 10, .inr (.inr (.inr (.inr (va_up (fun _ => none) 0 (some (u1 0)))))))), ((u1 0), .inr (11, [.int (nI 0), .ref (u1 1), .int (nI 0), .int (nI 1), .int (nI 0), .int (nI 0), .int (-1), .int (nI 2), .int (nI 0), .int (nI 0), .int (nI 0)])), ((u1 1), .inl (K 2, 3, .inl (fun _ => (-1)))), (h10, .inr (12, [.int (nI 0), .ref h11])), (h11, .inr (10, [.ref h12, .ref h13, .ref a9, .ref a10, .ref a11, .int (nI 0), .int (nI 5), .int (nI 60), .int (nI 0), .int (nI 2), .int (nI 0), .int (nI 0), .int (nI 0), .int (nI 0), .int (nI 0), .int (nI 0), .int (nI 0)])), (h15, .inl (K 2, 4, .inl (upd (fun _ => (-1)) ya (nI 0)))), (h13, .inr (13, [.int (nI 1), .ref h14, .int (nI 1)])), (h14, .inl (K 4, 10, .inr (.inr (.inr (.inr (va_up (fun _ => none) 0 (some h15)))))))]) (fun _ => rfl) (fun u1 H locs hP hD hS => ?_)
  refine lv_istore (lv' := [(6, .int (nI 0)), (5, .int (nI 0)), (0, .ref b), (1, .ref h0), (2, .ref h10), (3, .ref h9), (4, .int (nI 0))]) hx hb dL_law_303 hl (by decide) rfl (fun ls hl => ?_)
  refine lv_aload_n hx hb dL_law_305 rfl (lv_at hl 4 rfl) ?_
  refine k_i (wr := [(h9, .inl (K 3, 1, .inr (.inl (vp_updL (fun _ => 0) 0 0)))), (h0, .inr (9, [.ref h1, .ref h7, .ref h2, .ref a0, .ref h6, .ref a1, .ref a2, .ref a3, .int (nI 0)])), (h1, .inr (5, [.ref h3, .int (nI 1)])), (h3, .inl (K 0, 200, .inr (.inr (.inr (.inr (va_up (fun _ => none) 0 (some (u0 0)))))))), ((u0 1), .inl (K 0, 3, .inr (.inr (.inr (.inr (fun _ => none)))))), (h2, .inr (3, [.ref h4, .ref a4, .ref a5, .int (nI 0), .int (nI 5), .int (nI 100), .int (nI 60), .ref a6])), (h4, .inr (5, [.ref h5, .int (nI 1)])), (h5, .inl (K 0, 200, .inr (.inr (.inr (.inr (va_up (fun _ => none) 0 (some (u0 0)))))))), (h6, .inr (1, [.ref h1, .ref h7, .int (nI 0)])), (h8, .inl (K 0, 32, .inr (.inr (.inr (.inr (va_up (fun _ => none) (0 + ya) (some (u0 0)))))))), ((u0 0), .inr (7, [.int (nI 0), .ref (u0 1), .int (nI 0), .int (nI 1), .int (nI 0), .int (nI 5), .int (nI 5), .int (nI 0), .int (-1), .int (nI 0), .int (nI 0), .int (nI 0), .int (nI 0), .int (nI 0)])), (h7, .inr (4, [.ref a7, .ref h8, .ref a8, .int (nI 1)])), (h12, .inr (13, [.int (nI 1), .ref (u1 2), .int (nI 1)])), ((u1 2), .inl (K 4, 10, .inr (.inr (.inr (.inr (va_up (fun _ => none) 0 (some (u1 0)))))))), ((u1 0), .inr (11, [.int (nI 0), .ref (u1 1), .int (nI 0), .int (nI 1), .int (nI 0), .int (nI 0), .int (-1), .int (nI 2), .int (nI 0), .int (nI 0), .int (nI 0)])), ((u1 1), .inl (K 2, 3, .inl (fun _ => (-1)))), (h11, .inr (10, [.ref h12, .ref h13, .ref a9, .ref a10, .ref a11, .int (nI 0), .int (nI 5), .int (nI 60), .int (nI 0), .int (nI 2), .int (nI 0), .int (nI 0), .int (nI 0), .int (nI 0), .int (nI 0), .int (nI 0), .int (nI 0)])), (h15, .inl (K 2, 4, .inl (upd (fun _ => (-1)) ya (nI 0)))), (h13, .inr (13, [.int (nI 1), .ref h14, .int (nI 1)])), (h14, .inl (K 4, 10, .inr (.inr (.inr (.inr (va_up (fun _ => none) 0 (some h15)))))))]) (run_V (rest := []) hx hb hml hown hts hK hP hD hS hA hm (C1057_thrown l G D K H.size h10 (.ref h11)) [16] rfl rfl mok_yX12_thrown w_1300 w_1301 w_1302 (rcv hK hP 16 rfl rfl rfl) ⟨Nat.le_of_ble_eq_true rfl, Nat.le_of_ble_eq_true rfl⟩ rfl hl.1 rfl (Nat.le_of_ble_eq_true rfl) dL_law_306 ⟨(by dsimp only [room_1]; omega), (by dsimp only [room_1]; omega)⟩) hP hD hS hA [16] [0, 1, 2, 3, 4, 5, 6, 7, 8, 9, 10, 11, 12, 13, 14, 15, 17, 18, 19, 20] rfl rfl rfl (by decide) (w2 := fun u2 => [(h9, .inl (K 3, 1, .inr (.inl (vp_updL (fun _ => 0) 0 0)))), (h0, .inr (9, [.ref h1, .ref h7, .ref h2, .ref a0, .ref h6, .ref a1, .ref a2, .ref a3, .int (nI 0)])), (h1, .inr (5, [.ref h3, .int (nI 1)])), (h3, .inl (K 0, 200, .inr (.inr (.inr (.inr (va_up (fun _ => none) 0 (some (u0 0)))))))), ((u0 1), .inl (K 0, 3, .inr (.inr (.inr (.inr (fun _ => none)))))), (h2, .inr (3, [.ref h4, .ref a4, .ref a5, .int (nI 0), .int (nI 5), .int (nI 100), .int (nI 60), .ref a6])), (h4, .inr (5, [.ref h5, .int (nI 1)])), (h5, .inl (K 0, 200, .inr (.inr (.inr (.inr (va_up (fun _ => none) 0 (some (u0 0)))))))), (h6, .inr (1, [.ref h1, .ref h7, .int (nI 0)])), (h8, .inl (K 0, 32, .inr (.inr (.inr (.inr (va_up (fun _ => none) (0 + ya) (some (u0 0)))))))), ((u0 0), .inr (7, [.int (nI 0), .ref (u0 1), .int (nI 0), .int (nI 1), .int (nI 0), .int (nI 5), .int (nI 5), .int (nI 0), .int (-1), .int (nI 0), .int (nI 0), .int (nI 0), .int (nI 0), .int (nI 0)])), (h7, .inr (4, [.ref a7, .ref h8, .ref a8, .int (nI 1)])), (h12, .inr (13, [.int (nI 1), .ref (u1 2), .int (nI 1)])), ((u1 2), .inl (K 4, 10, .inr (.inr (.inr (.inr (va_up (fun _ => none) 0 (some (u1 0)))))))), ((u1 0), .inr (11, [.int (nI 0), .ref (u1 1), .int (nI 0), .int (nI 1), .int (nI 0), .int (nI 0), .int (-1), .int (nI 2), .int (nI 0), .int (nI 0), .int (nI 0)])), ((u1 1), .inl (K 2, 3, .inl (fun _ => (-1)))), (h11, .inr (10, [.ref h12, .ref h13, .ref a9, .ref a10, .ref a11, .int (nI 0), .int (nI 5), .int (nI 60), .int (nI 0), .int (nI 2), .int (nI 0), .int (nI 0), .int (nI 0), .int (nI 0), .int (nI 0), .int (nI 0), .int (nI 0)])), (h15, .inl (K 2, 4, .inl (upd (fun _ => (-1)) ya (nI 0)))), (h13, .inr (13, [.int (nI 1), .ref h14, .int (nI 1)])), (h14, .inl (K 4, 10, .inr (.inr (.inr (.inr (va_up (fun _ => none) 0 (some h15))))))), (h10, .inr (12, [.int (nI 0), .ref h11]))]) (fun _ => rfl) (fun u2 H locs hP hD hS => ?_)
  refine lv_iload hx hb dL_law_309 (lv_at hl 1 rfl) ?_
  refine lv_icmp_eq (tgt := 316) hx hb dL_law_311 (by decide) (fun _ => ?_) (fun c9 => absurd (by decide +kernel) c9)
  refine lv_iload hx hb dL_law_316 (lv_at hl 1 rfl) ?_
  refine lv_if_ne (tgt := 333) hx hb dL_law_318 (by decide) (fun c9 => absurd (by decide +kernel) c9) (fun _ => ?_)
  refine lv_aload_n hx hb dL_law_321 rfl (lv_at hl 5 rfl) ?_
  refine lv_iconst (v := nI 0) hx hb dL_law_322 (by decide +kernel) ?_
  refine r_lald (k := 0) hx hb hK hP 0 3 rfl rfl (Nat.le_of_ble_eq_true rfl) (by decide) (v := 0) rfl dL_law_323 ?_
  refine lv_iload hx hb dL_law_324 (lv_at hl 0 rfl) ?_
  refine lv_i2l (v := 0) hx hb dL_law_326 (by decide +kernel) ?_
  refine W.lcmp hx hb dL_law_327 ?_
  refine w_toeq (show lg_cmp 0 0 = nI 0 by decide +kernel) ?_
  refine lv_if_eq (tgt := 333) hx hb dL_law_328 (by decide) (fun _ => ?_) (fun c9 => absurd (by decide +kernel) c9)
  refine lv_goto (tgt := 1762) hx hb dL_law_333 (by decide) ?_
  refine lv_iinc (v := nI 4) (lv' := [(4, .int (nI 4)), (6, .int (nI 0)), (5, .int (nI 0)), (0, .ref b), (1, .ref h0), (2, .ref h10), (3, .ref h9)]) hx hb dL_law_1762 hl (k := 6) rfl (by decide +kernel) (by decide) rfl (fun ls hl => ?_)
  refine lv_goto (tgt := 23) hx hb dL_law_1765 (by decide) ?_
  refine lv_iload hx hb dL_law_23 (lv_at hl 0 rfl) ?_
  refine lv_aload_n hx hb dL_law_25 rfl (lv_at hl 3 rfl) ?_
  refine va_slen hx hb hX hbl hbA hS dL_law_26 ?_
  refine w_toeq (show Int32.ofNat 4 = nI 4 from rfl) ?_
  refine lv_iconst (v := nI 4) hx hb dL_law_27 (by decide +kernel) ?_
  refine lv_isub hx hb dL_law_28 ?_
  refine w_toeq (show (nI 4) - (nI 4) = nI 0 by decide +kernel) ?_
  refine lv_icmp_gt (tgt := 1768) hx hb dL_law_29 (by decide) (fun _ => ?_) (fun c9 => absurd (by decide +kernel) c9)
  refine lv_iconst (v := nI 1) hx hb dL_law_1768 (by decide +kernel) ?_
  exact law_end hx hb hr hlk hS (by dsimp only; omega) (by dsimp only; omega) dL_law_1769
set_option maxHeartbeats 4000000 in
set_option maxRecDepth 100000 in
theorem LW24_make {p : Program} {e : Env} {s : State} {m : MethodId} {below : List Frame} {meth : Method} {c : Code} {l : Launch} {G : Nat → Nat} {D : va_G} {K : Nat → ClassId} {b : Nat} {xs : Nat → Int32} (hx : p.tables.exec = Jvm.exec) (hb : c.code = cL_law) (hr : meth.sig.returnType = some .boolean) (hlk : meth.locks = false) (hl0 : l.stackTraces = false) (hnc : Ncs s) (hml : c.maxLocals = 9) (hown : s.vm.findClass RL = some m.cls) (hts : ∀ w ∈ lw_gw, w.before #[Value.ref b] s = true) (hK : va_K D cl (tys K) s) (hm : Amb G (fun q : Nat => s.heap.size ≤ q) s s.heap) (hX : va_X b 4 xs s s.heap) (hbl : b < s.heap.size) {h0 h1 h2 h3 h4 h5 h6 h7 h8 h9 h10 h11 h12 h13 h14 h15 a0 a1 a2 a3 a4 a5 a6 a7 a8 a9 a10 a11 : Nat} (ya : Nat) (lya : 0 ≤ ya) (gya : ya ≤ 3) (hx1 : xs 1 = nI ya) (hx2 : xs 2 = nI 0) (hx3 : xs 3 = nI 4) {H : Heap} {locs : List Loc} {cells slots : Nat} (hcs : cells ≤ 1000) (hss : slots ≤ 100000) (hP : va_P D cl [(h0, .inr (9, [.ref h1, .ref h7, .ref h2, .ref a0, .ref h6, .ref a1, .ref a2, .ref a3, .int (nI 0)])), (h1, .inr (5, [.ref h3, .int (nI 0)])), (h2, .inr (3, [.ref h4, .ref a4, .ref a5, .int (nI 0), .int (nI 0), .int (nI 100), .int (nI 60), .ref a6])), (h3, .inl (K 0, 200, .inr (.inr (.inr (.inr (fun _ => none)))))), (h4, .inr (5, [.ref h5, .int (nI 0)])), (h5, .inl (K 0, 200, .inr (.inr (.inr (.inr (fun _ => none)))))), (h6, .inr (1, [.ref h1, .ref h7, .int (nI 0)])), (h7, .inr (4, [.ref a7, .ref h8, .ref a8, .int (nI 1)])), (h8, .inl (K 0, 32, .inr (.inr (.inr (.inr (fun _ => none)))))), (h9, .inl (K 3, 1, .inr (.inl (fun _ => 0)))), (h10, .inr (12, [.int (nI 0), .ref h11])), (h11, .inr (10, [.ref h12, .ref h13, .ref a9, .ref a10, .ref a11, .int (nI 0), .int (nI 0), .int (nI 60), .int (nI 0), .int (nI 2), .int (nI 0), .int (nI 0), .int (nI 0), .int (nI 0), .int (nI 0), .int (nI 0), .int (nI 0)])), (h12, .inr (13, [.int (nI 0), .ref (G 0), .int (nI 0)])), (h13, .inr (13, [.int (nI 1), .ref h14, .int (nI 1)])), (h14, .inl (K 4, 10, .inr (.inr (.inr (.inr (va_up (fun _ => none) 0 (some h15))))))), (h15, .inl (K 2, 4, .inl (fun _ => (-1))))] H) (hD : va_D (fun q : Nat => s.heap.size ≤ q) [(h0, .inr (9, [.ref h1, .ref h7, .ref h2, .ref a0, .ref h6, .ref a1, .ref a2, .ref a3, .int (nI 0)])), (h1, .inr (5, [.ref h3, .int (nI 0)])), (h2, .inr (3, [.ref h4, .ref a4, .ref a5, .int (nI 0), .int (nI 0), .int (nI 100), .int (nI 60), .ref a6])), (h3, .inl (K 0, 200, .inr (.inr (.inr (.inr (fun _ => none)))))), (h4, .inr (5, [.ref h5, .int (nI 0)])), (h5, .inl (K 0, 200, .inr (.inr (.inr (.inr (fun _ => none)))))), (h6, .inr (1, [.ref h1, .ref h7, .int (nI 0)])), (h7, .inr (4, [.ref a7, .ref h8, .ref a8, .int (nI 1)])), (h8, .inl (K 0, 32, .inr (.inr (.inr (.inr (fun _ => none)))))), (h9, .inl (K 3, 1, .inr (.inl (fun _ => 0)))), (h10, .inr (12, [.int (nI 0), .ref h11])), (h11, .inr (10, [.ref h12, .ref h13, .ref a9, .ref a10, .ref a11, .int (nI 0), .int (nI 0), .int (nI 60), .int (nI 0), .int (nI 2), .int (nI 0), .int (nI 0), .int (nI 0), .int (nI 0), .int (nI 0), .int (nI 0), .int (nI 0)])), (h12, .inr (13, [.int (nI 0), .ref (G 0), .int (nI 0)])), (h13, .inr (13, [.int (nI 1), .ref h14, .int (nI 1)])), (h14, .inl (K 4, 10, .inr (.inr (.inr (.inr (va_up (fun _ => none) 0 (some h15))))))), (h15, .inl (K 2, 4, .inl (fun _ => (-1))))]) (hS : va_S (fun q : Nat => s.heap.size ≤ q) s.heap H locs) {ls : Array Slot} (hl : lv_has ls 9 [(0, .ref b), (1, .ref h0), (2, .ref h10), (3, .ref h9), (4, .int (nI 0))]) : W p l e room_1 s m #[Value.ref b] below meth c H locs cells slots (lw_Z below #[Value.ref b] s) (F0 m 256 ls []) := by
  have hA : ∀ q : Nat, s.heap.size ≤ q → (fun q : Nat => s.heap.size ≤ q) q := fun _ h => h
  have hbA : ¬ (fun q : Nat => s.heap.size ≤ q) b := Nat.not_le.mpr hbl
  refine lv_aload_n hx hb dL_law_256 rfl (lv_at hl 1 rfl) ?_
  refine lv_aload_n hx hb dL_law_257 rfl (lv_at hl 0 rfl) ?_
  refine lv_iload hx hb dL_law_258 (lv_at hl 4 rfl) ?_
  refine lv_iconst (v := nI 1) hx hb dL_law_260 (by decide +kernel) ?_
  refine lv_iadd hx hb dL_law_261 ?_
  refine w_toeq (show (nI 0) + (nI 1) = nI 1 by decide +kernel) ?_
  refine va_sld hx hb hX hbl hbA hS (vp_in_nI (n := 1) (by decide) (by decide)) dL_law_262 ?_
  refine w_toeq (show xs (nI 1).toNatClampNeg = nI ya by rw [nI_clamp (n := 1) (by decide)]; exact hx1) ?_
  refine lv_aload_n hx hb dL_law_263 rfl (lv_at hl 0 rfl) ?_
  refine lv_iload hx hb dL_law_264 (lv_at hl 4 rfl) ?_
  refine lv_iconst (v := nI 2) hx hb dL_law_266 (by decide +kernel) ?_
  refine lv_iadd hx hb dL_law_267 ?_
  refine w_toeq (show (nI 0) + (nI 2) = nI 2 by decide +kernel) ?_
  refine va_sld hx hb hX hbl hbA hS (vp_in_nI (n := 2) (by decide) (by decide)) dL_law_268 ?_
  refine w_toeq (show xs (nI 2).toNatClampNeg = nI 0 by rw [nI_clamp (n := 2) (by decide)]; exact hx2) ?_
  refine lv_aload_n hx hb dL_law_269 rfl (lv_at hl 0 rfl) ?_
  refine lv_iload hx hb dL_law_270 (lv_at hl 4 rfl) ?_
  refine lv_iconst (v := nI 3) hx hb dL_law_272 (by decide +kernel) ?_
  refine lv_iadd hx hb dL_law_273 ?_
  refine w_toeq (show (nI 0) + (nI 3) = nI 3 by decide +kernel) ?_
  refine va_sld hx hb hX hbl hbA hS (vp_in_nI (n := 3) (by decide) (by decide)) dL_law_274 ?_
  refine w_toeq (show xs (nI 3).toNatClampNeg = nI 4 by rw [nI_clamp (n := 3) (by decide)]; exact hx3) ?_
  refine lv_aload_n hx hb dL_law_275 rfl (lv_at hl 3 rfl) ?_
  refine k_i (wr := [(h10, .inr (12, [.int (nI 0), .ref h11])), (h11, .inr (10, [.ref h12, .ref h13, .ref a9, .ref a10, .ref a11, .int (nI 0), .int (nI 0), .int (nI 60), .int (nI 0), .int (nI 2), .int (nI 0), .int (nI 0), .int (nI 0), .int (nI 0), .int (nI 0), .int (nI 0), .int (nI 0)])), (h12, .inr (13, [.int (nI 0), .ref (G 0), .int (nI 0)])), (h13, .inr (13, [.int (nI 1), .ref h14, .int (nI 1)])), (h14, .inl (K 4, 10, .inr (.inr (.inr (.inr (va_up (fun _ => none) 0 (some h15))))))), (h15, .inl (K 2, 4, .inl (fun _ => (-1))))]) (run_SW hnc (rest := []) hx hb hml hown hts hK hP hD hS hA hm (C1083_make l G D K H.size h0 h1 h2 h3 h4 h5 h6 h7 h8 h9 (.ref a0) (.ref a1) (.ref a2) (.ref a3) (.int (nI 0)) (.ref a4) (.ref a5) (.int (nI 100)) (.int (nI 60)) (.ref a6) (.ref h1) (.ref h7) (.ref a7) (.ref a8) (fun _ => none) (fun _ => none) (fun _ => none) (fun _ => 0) ya (by omega) (by omega)) [0, 1, 2, 3, 4, 5, 6, 7, 8, 9] rfl rfl mokh_yL_make w_786 w_787 ⟨Nat.le_of_ble_eq_true rfl, Nat.le_of_ble_eq_true rfl⟩ rfl hl.1 rfl (Nat.le_of_ble_eq_true rfl) dL_law_276 ⟨(by dsimp only [room_1]; omega), (by dsimp only [room_1]; omega)⟩) hP hD hS hA [0, 1, 2, 3, 4, 5, 6, 7, 8, 9] [10, 11, 12, 13, 14, 15] rfl rfl rfl (by decide) (w2 := fun u0 => [(h10, .inr (12, [.int (nI 0), .ref h11])), (h11, .inr (10, [.ref h12, .ref h13, .ref a9, .ref a10, .ref a11, .int (nI 0), .int (nI 0), .int (nI 60), .int (nI 0), .int (nI 2), .int (nI 0), .int (nI 0), .int (nI 0), .int (nI 0), .int (nI 0), .int (nI 0), .int (nI 0)])), (h12, .inr (13, [.int (nI 0), .ref (G 0), .int (nI 0)])), (h13, .inr (13, [.int (nI 1), .ref h14, .int (nI 1)])), (h14, .inl (K 4, 10, .inr (.inr (.inr (.inr (va_up (fun _ => none) 0 (some h15))))))), (h15, .inl (K 2, 4, .inl (fun _ => (-1)))), (h9, .inl (K 3, 1, .inr (.inl (vp_updL (fun _ => 0) 0 0)))), (h0, .inr (9, [.ref h1, .ref h7, .ref h2, .ref a0, .ref h6, .ref a1, .ref a2, .ref a3, .int (nI 0)])), (h1, .inr (5, [.ref h3, .int (nI 1)])), (h3, .inl (K 0, 200, .inr (.inr (.inr (.inr (va_up (fun _ => none) 0 (some (u0 0)))))))), ((u0 1), .inl (K 0, 4, .inr (.inr (.inr (.inr (fun _ => none)))))), (h2, .inr (3, [.ref h4, .ref a4, .ref a5, .int (nI 0), .int (nI 6), .int (nI 100), .int (nI 60), .ref a6])), (h4, .inr (5, [.ref h5, .int (nI 1)])), (h5, .inl (K 0, 200, .inr (.inr (.inr (.inr (va_up (fun _ => none) 0 (some (u0 0)))))))), (h6, .inr (1, [.ref h1, .ref h7, .int (nI 0)])), (h8, .inl (K 0, 32, .inr (.inr (.inr (.inr (va_up (fun _ => none) (0 + ya) (some (u0 0)))))))), ((u0 0), .inr (7, [.int (nI 0), .ref (u0 1), .int (nI 0), .int (nI 1), .int (nI 0), .int (nI 6), .int (nI 6), .int (nI 0), .int (-1), .int (nI 0), .int (nI 0), .int (nI 0), .int (nI 0), .int (nI 0)])), (h7, .inr (4, [.ref a7, .ref h8, .ref a8, .int (nI 1)]))]) (fun _ => rfl) (fun u0 H locs hP hD hS => ?_)
  refine lv_istore (lv' := [(5, .int (nI 0)), (0, .ref b), (1, .ref h0), (2, .ref h10), (3, .ref h9), (4, .int (nI 0))]) hx hb dL_law_279 hl (by decide) rfl (fun ls hl => ?_)
  refine lv_aload_n hx hb dL_law_281 rfl (lv_at hl 3 rfl) ?_
  refine lv_aload_n hx hb dL_law_282 rfl (lv_at hl 1 rfl) ?_
  refine lv_iload hx hb dL_law_283 (lv_at hl 5 rfl) ?_
  refine lv_iconst (v := nI 1) hx hb dL_law_285 (by decide +kernel) ?_
  refine lv_iadd hx hb dL_law_286 ?_
  refine w_toeq (show (nI 0) + (nI 1) = nI 1 by decide +kernel) ?_
  refine va_sld hx hb hX hbl hbA hS (vp_in_nI (n := 1) (by decide) (by decide)) dL_law_287 ?_
  refine w_toeq (show xs (nI 1).toNatClampNeg = nI ya by rw [nI_clamp (n := 1) (by decide)]; exact hx1) ?_
  refine lv_aload_n hx hb dL_law_288 rfl (lv_at hl 1 rfl) ?_
  refine lv_iload hx hb dL_law_289 (lv_at hl 5 rfl) ?_
  refine lv_iconst (v := nI 2) hx hb dL_law_291 (by decide +kernel) ?_
  refine lv_iadd hx hb dL_law_292 ?_
  refine w_toeq (show (nI 0) + (nI 2) = nI 2 by decide +kernel) ?_
  refine va_sld hx hb hX hbl hbA hS (vp_in_nI (n := 2) (by decide) (by decide)) dL_law_293 ?_
  refine w_toeq (show xs (nI 2).toNatClampNeg = nI 0 by rw [nI_clamp (n := 2) (by decide)]; exact hx2) ?_
  refine lv_aload_n hx hb dL_law_294 rfl (lv_at hl 1 rfl) ?_
  refine lv_iload hx hb dL_law_295 (lv_at hl 5 rfl) ?_
  refine lv_iconst (v := nI 3) hx hb dL_law_297 (by decide +kernel) ?_
  refine lv_iadd hx hb dL_law_298 ?_
  refine w_toeq (show (nI 0) + (nI 3) = nI 3 by decide +kernel) ?_
  refine va_sld hx hb hX hbl hbA hS (vp_in_nI (n := 3) (by decide) (by decide)) dL_law_299 ?_
  refine w_toeq (show xs (nI 3).toNatClampNeg = nI 4 by rw [nI_clamp (n := 3) (by decide)]; exact hx3) ?_
  refine k_i (wr := [(h9, .inl (K 3, 1, .inr (.inl (vp_updL (fun _ => 0) 0 0)))), (h0, .inr (9, [.ref h1, .ref h7, .ref h2, .ref a0, .ref h6, .ref a1, .ref a2, .ref a3, .int (nI 0)])), (h1, .inr (5, [.ref h3, .int (nI 1)])), (h3, .inl (K 0, 200, .inr (.inr (.inr (.inr (va_up (fun _ => none) 0 (some (u0 0)))))))), ((u0 1), .inl (K 0, 4, .inr (.inr (.inr (.inr (fun _ => none)))))), (h2, .inr (3, [.ref h4, .ref a4, .ref a5, .int (nI 0), .int (nI 6), .int (nI 100), .int (nI 60), .ref a6])), (h4, .inr (5, [.ref h5, .int (nI 1)])), (h5, .inl (K 0, 200, .inr (.inr (.inr (.inr (va_up (fun _ => none) 0 (some (u0 0)))))))), (h6, .inr (1, [.ref h1, .ref h7, .int (nI 0)])), (h8, .inl (K 0, 32, .inr (.inr (.inr (.inr (va_up (fun _ => none) (0 + ya) (some (u0 0)))))))), ((u0 0), .inr (7, [.int (nI 0), .ref (u0 1), .int (nI 0), .int (nI 1), .int (nI 0), .int (nI 6), .int (nI 6), .int (nI 0), .int (-1), .int (nI 0), .int (nI 0), .int (nI 0), .int (nI 0), .int (nI 0)])), (h7, .inr (4, [.ref a7, .ref h8, .ref a8, .int (nI 1)]))]) (run_V (rest := []) hx hb hml hown hts hK hP hD hS hA hm (C163_make l G D K H.size h10 h11 h12 h13 h14 h15 (.ref a9) (.ref a10) (.ref a11) (.int (nI 60)) (.int (nI 0)) (.int (nI 2)) (.int (nI 0)) (.int (nI 0)) (.int (nI 0)) (.int (nI 0)) (.int (nI 0)) (.int (nI 0)) (.int (nI 0)) (.int (nI 1)) (fun _ => (-1)) ya (by omega) (by omega)) [0, 1, 2, 3, 4, 5] rfl rfl mok_yX12_make w_1341 w_1342 w_1343 (rcv hK hP 0 rfl rfl rfl) ⟨Nat.le_of_ble_eq_true rfl, Nat.le_of_ble_eq_true rfl⟩ rfl hl.1 rfl (Nat.le_of_ble_eq_true rfl) dL_law_300 ⟨(by dsimp only [room_1]; omega), (by dsimp only [room_1]; omega)⟩) hP hD hS hA [0, 1, 2, 3, 4, 5] [6, 7, 8, 9, 10, 11, 12, 13, 14, 15, 16, 17] rfl rfl rfl (by decide) (w2 := fun u1 => [(h9, .inl (K 3, 1, .inr (.inl (vp_updL (fun _ => 0) 0 0)))), (h0, .inr (9, [.ref h1, .ref h7, .ref h2, .ref a0, .ref h6, .ref a1, .ref a2, .ref a3, .int (nI 0)])), (h1, .inr (5, [.ref h3, .int (nI 1)])), (h3, .inl (K 0, 200, .inr (.inr (.inr (.inr (va_up (fun _ => none) 0 (some (u0 0)))))))), ((u0 1), .inl (K 0, 4, .inr (.inr (.inr (.inr (fun _ => none)))))), (h2, .inr (3, [.ref h4, .ref a4, .ref a5, .int (nI 0), .int (nI 6), .int (nI 100), .int (nI 60), .ref a6])), (h4, .inr (5, [.ref h5, .int (nI 1)])), (h5, .inl (K 0, 200, .inr (.inr (.inr (.inr (va_up (fun _ => none) 0 (some (u0 0)))))))), (h6, .inr (1, [.ref h1, .ref h7, .int (nI 0)])), (h8, .inl (K 0, 32, .inr (.inr (.inr (.inr (va_up (fun _ => none) (0 + ya) (some (u0 0)))))))), ((u0 0), .inr (7, [.int (nI 0), .ref (u0 1), .int (nI 0), .int (nI 1), .int (nI 0), .int (nI 6), .int (nI 6), .int (nI 0), .int (-1), .int (nI 0), .int (nI 0), .int (nI 0), .int (nI 0), .int (nI 0)])), (h7, .inr (4, [.ref a7, .ref h8, .ref a8, .int (nI 1)])), (h12, .inr (13, [.int (nI 1), .ref (u1 2), .int (nI 1)])), ((u1 2), .inl (K 4, 10, .inr (.inr (.inr (.inr (va_up (fun _ => none) 0 (some (u1 0)))))))), ((u1 0), .inr (11, [.int (nI 0), .ref (u1 1), .int (nI 0), .int (nI 1), .int (nI 0), .int (nI 0), .int (-1), .int (nI 2), .int (nI 0), .int (nI 0), .int (nI 0)])), ((u1 1), .inl (K 2, 4, .inl (fun _ => (-1)))), (h10, .inr (12, [.int (nI 0), .ref h11])), (h11, .inr (10, [.ref h12, .ref h13, .ref a9, .ref a10, .ref a11, .int (nI 0), .int (nI 6), .int (nI 60), .int (nI 0), .int (nI 2), .int (nI 0), .int (nI 0), .int (nI 0), .int (nI 0), .int (nI 0), .int (nI 0), .int (nI 0)])), (h15, .inl (K 2, 4, .inl (upd (fun _ => (-1)) ya (nI 0)))), (h13, .inr (13, [.int (nI 1), .ref h14, .int (nI 1)])), (h14, .inl (K 4, 10, .inr (.inr (.inr (.inr (va_up (fun _ => none) 0 (some h15)))))))]) (fun _ => rfl) (fun u1 H locs hP hD hS => ?_)
  refine lv_istore (lv' := [(6, .int (nI 0)), (5, .int (nI 0)), (0, .ref b), (1, .ref h0), (2, .ref h10), (3, .ref h9), (4, .int (nI 0))]) hx hb dL_law_303 hl (by decide) rfl (fun ls hl => ?_)
  refine lv_aload_n hx hb dL_law_305 rfl (lv_at hl 4 rfl) ?_
  refine k_i (wr := [(h9, .inl (K 3, 1, .inr (.inl (vp_updL (fun _ => 0) 0 0)))), (h0, .inr (9, [.ref h1, .ref h7, .ref h2, .ref a0, .ref h6, .ref a1, .ref a2, .ref a3, .int (nI 0)])), (h1, .inr (5, [.ref h3, .int (nI 1)])), (h3, .inl (K 0, 200, .inr (.inr (.inr (.inr (va_up (fun _ => none) 0 (some (u0 0)))))))), ((u0 1), .inl (K 0, 4, .inr (.inr (.inr (.inr (fun _ => none)))))), (h2, .inr (3, [.ref h4, .ref a4, .ref a5, .int (nI 0), .int (nI 6), .int (nI 100), .int (nI 60), .ref a6])), (h4, .inr (5, [.ref h5, .int (nI 1)])), (h5, .inl (K 0, 200, .inr (.inr (.inr (.inr (va_up (fun _ => none) 0 (some (u0 0)))))))), (h6, .inr (1, [.ref h1, .ref h7, .int (nI 0)])), (h8, .inl (K 0, 32, .inr (.inr (.inr (.inr (va_up (fun _ => none) (0 + ya) (some (u0 0)))))))), ((u0 0), .inr (7, [.int (nI 0), .ref (u0 1), .int (nI 0), .int (nI 1), .int (nI 0), .int (nI 6), .int (nI 6), .int (nI 0), .int (-1), .int (nI 0), .int (nI 0), .int (nI 0), .int (nI 0), .int (nI 0)])), (h7, .inr (4, [.ref a7, .ref h8, .ref a8, .int (nI 1)])), (h12, .inr (13, [.int (nI 1), .ref (u1 2), .int (nI 1)])), ((u1 2), .inl (K 4, 10, .inr (.inr (.inr (.inr (va_up (fun _ => none) 0 (some (u1 0)))))))), ((u1 0), .inr (11, [.int (nI 0), .ref (u1 1), .int (nI 0), .int (nI 1), .int (nI 0), .int (nI 0), .int (-1), .int (nI 2), .int (nI 0), .int (nI 0), .int (nI 0)])), ((u1 1), .inl (K 2, 4, .inl (fun _ => (-1)))), (h11, .inr (10, [.ref h12, .ref h13, .ref a9, .ref a10, .ref a11, .int (nI 0), .int (nI 6), .int (nI 60), .int (nI 0), .int (nI 2), .int (nI 0), .int (nI 0), .int (nI 0), .int (nI 0), .int (nI 0), .int (nI 0), .int (nI 0)])), (h15, .inl (K 2, 4, .inl (upd (fun _ => (-1)) ya (nI 0)))), (h13, .inr (13, [.int (nI 1), .ref h14, .int (nI 1)])), (h14, .inl (K 4, 10, .inr (.inr (.inr (.inr (va_up (fun _ => none) 0 (some h15)))))))]) (run_V (rest := []) hx hb hml hown hts hK hP hD hS hA hm (C1057_thrown l G D K H.size h10 (.ref h11)) [16] rfl rfl mok_yX12_thrown w_1300 w_1301 w_1302 (rcv hK hP 16 rfl rfl rfl) ⟨Nat.le_of_ble_eq_true rfl, Nat.le_of_ble_eq_true rfl⟩ rfl hl.1 rfl (Nat.le_of_ble_eq_true rfl) dL_law_306 ⟨(by dsimp only [room_1]; omega), (by dsimp only [room_1]; omega)⟩) hP hD hS hA [16] [0, 1, 2, 3, 4, 5, 6, 7, 8, 9, 10, 11, 12, 13, 14, 15, 17, 18, 19, 20] rfl rfl rfl (by decide) (w2 := fun u2 => [(h9, .inl (K 3, 1, .inr (.inl (vp_updL (fun _ => 0) 0 0)))), (h0, .inr (9, [.ref h1, .ref h7, .ref h2, .ref a0, .ref h6, .ref a1, .ref a2, .ref a3, .int (nI 0)])), (h1, .inr (5, [.ref h3, .int (nI 1)])), (h3, .inl (K 0, 200, .inr (.inr (.inr (.inr (va_up (fun _ => none) 0 (some (u0 0)))))))), ((u0 1), .inl (K 0, 4, .inr (.inr (.inr (.inr (fun _ => none)))))), (h2, .inr (3, [.ref h4, .ref a4, .ref a5, .int (nI 0), .int (nI 6), .int (nI 100), .int (nI 60), .ref a6])), (h4, .inr (5, [.ref h5, .int (nI 1)])), (h5, .inl (K 0, 200, .inr (.inr (.inr (.inr (va_up (fun _ => none) 0 (some (u0 0)))))))), (h6, .inr (1, [.ref h1, .ref h7, .int (nI 0)])), (h8, .inl (K 0, 32, .inr (.inr (.inr (.inr (va_up (fun _ => none) (0 + ya) (some (u0 0)))))))), ((u0 0), .inr (7, [.int (nI 0), .ref (u0 1), .int (nI 0), .int (nI 1), .int (nI 0), .int (nI 6), .int (nI 6), .int (nI 0), .int (-1), .int (nI 0), .int (nI 0), .int (nI 0), .int (nI 0), .int (nI 0)])), (h7, .inr (4, [.ref a7, .ref h8, .ref a8, .int (nI 1)])), (h12, .inr (13, [.int (nI 1), .ref (u1 2), .int (nI 1)])), ((u1 2), .inl (K 4, 10, .inr (.inr (.inr (.inr (va_up (fun _ => none) 0 (some (u1 0)))))))), ((u1 0), .inr (11, [.int (nI 0), .ref (u1 1), .int (nI 0), .int (nI 1), .int (nI 0), .int (nI 0), .int (-1), .int (nI 2), .int (nI 0), .int (nI 0), .int (nI 0)])), ((u1 1), .inl (K 2, 4, .inl (fun _ => (-1)))), (h11, .inr (10, [.ref h12, .ref h13, .ref a9, .ref a10, .ref a11, .int (nI 0), .int (nI 6), .int (nI 60), .int (nI 0), .int (nI 2), .int (nI 0), .int (nI 0), .int (nI 0), .int (nI 0), .int (nI 0), .int (nI 0), .int (nI 0)])), (h15, .inl (K 2, 4, .inl (upd (fun _ => (-1)) ya (nI 0)))), (h13, .inr (13, [.int (nI 1), .ref h14, .int (nI 1)])), (h14, .inl (K 4, 10, .inr (.inr (.inr (.inr (va_up (fun _ => none) 0 (some h15))))))), (h10, .inr (12, [.int (nI 0), .ref h11]))]) (fun _ => rfl) (fun u2 H locs hP hD hS => ?_)
  refine lv_iload hx hb dL_law_309 (lv_at hl 1 rfl) ?_
  refine lv_icmp_eq (tgt := 316) hx hb dL_law_311 (by decide) (fun _ => ?_) (fun c9 => absurd (by decide +kernel) c9)
  refine lv_iload hx hb dL_law_316 (lv_at hl 1 rfl) ?_
  refine lv_if_ne (tgt := 333) hx hb dL_law_318 (by decide) (fun c9 => absurd (by decide +kernel) c9) (fun _ => ?_)
  refine lv_aload_n hx hb dL_law_321 rfl (lv_at hl 5 rfl) ?_
  refine lv_iconst (v := nI 0) hx hb dL_law_322 (by decide +kernel) ?_
  refine r_lald (k := 0) hx hb hK hP 0 3 rfl rfl (Nat.le_of_ble_eq_true rfl) (by decide) (v := 0) rfl dL_law_323 ?_
  refine lv_iload hx hb dL_law_324 (lv_at hl 0 rfl) ?_
  refine lv_i2l (v := 0) hx hb dL_law_326 (by decide +kernel) ?_
  refine W.lcmp hx hb dL_law_327 ?_
  refine w_toeq (show lg_cmp 0 0 = nI 0 by decide +kernel) ?_
  refine lv_if_eq (tgt := 333) hx hb dL_law_328 (by decide) (fun _ => ?_) (fun c9 => absurd (by decide +kernel) c9)
  refine lv_goto (tgt := 1762) hx hb dL_law_333 (by decide) ?_
  refine lv_iinc (v := nI 4) (lv' := [(4, .int (nI 4)), (6, .int (nI 0)), (5, .int (nI 0)), (0, .ref b), (1, .ref h0), (2, .ref h10), (3, .ref h9)]) hx hb dL_law_1762 hl (k := 6) rfl (by decide +kernel) (by decide) rfl (fun ls hl => ?_)
  refine lv_goto (tgt := 23) hx hb dL_law_1765 (by decide) ?_
  refine lv_iload hx hb dL_law_23 (lv_at hl 0 rfl) ?_
  refine lv_aload_n hx hb dL_law_25 rfl (lv_at hl 3 rfl) ?_
  refine va_slen hx hb hX hbl hbA hS dL_law_26 ?_
  refine w_toeq (show Int32.ofNat 4 = nI 4 from rfl) ?_
  refine lv_iconst (v := nI 4) hx hb dL_law_27 (by decide +kernel) ?_
  refine lv_isub hx hb dL_law_28 ?_
  refine w_toeq (show (nI 4) - (nI 4) = nI 0 by decide +kernel) ?_
  refine lv_icmp_gt (tgt := 1768) hx hb dL_law_29 (by decide) (fun _ => ?_) (fun c9 => absurd (by decide +kernel) c9)
  refine lv_iconst (v := nI 1) hx hb dL_law_1768 (by decide +kernel) ?_
  exact law_end hx hb hr hlk hS (by dsimp only; omega) (by dsimp only; omega) dL_law_1769
set_option maxHeartbeats 4000000 in
set_option maxRecDepth 100000 in
theorem LW25_make {p : Program} {e : Env} {s : State} {m : MethodId} {below : List Frame} {meth : Method} {c : Code} {l : Launch} {G : Nat → Nat} {D : va_G} {K : Nat → ClassId} {b : Nat} {xs : Nat → Int32} (hx : p.tables.exec = Jvm.exec) (hb : c.code = cL_law) (hr : meth.sig.returnType = some .boolean) (hlk : meth.locks = false) (hl0 : l.stackTraces = false) (hnc : Ncs s) (hml : c.maxLocals = 9) (hown : s.vm.findClass RL = some m.cls) (hts : ∀ w ∈ lw_gw, w.before #[Value.ref b] s = true) (hK : va_K D cl (tys K) s) (hm : Amb G (fun q : Nat => s.heap.size ≤ q) s s.heap) (hX : va_X b 4 xs s s.heap) (hbl : b < s.heap.size) {h0 h1 h2 h3 h4 h5 h6 h7 h8 h9 h10 h11 h12 h13 h14 h15 a0 a1 a2 a3 a4 a5 a6 a7 a8 a9 a10 a11 : Nat} (ya : Nat) (lya : 0 ≤ ya) (gya : ya ≤ 3) (hx1 : xs 1 = nI ya) (hx2 : xs 2 = nI 0) (hx3 : xs 3 = nI 5) {H : Heap} {locs : List Loc} {cells slots : Nat} (hcs : cells ≤ 1000) (hss : slots ≤ 100000) (hP : va_P D cl [(h0, .inr (9, [.ref h1, .ref h7, .ref h2, .ref a0, .ref h6, .ref a1, .ref a2, .ref a3, .int (nI 0)])), (h1, .inr (5, [.ref h3, .int (nI 0)])), (h2, .inr (3, [.ref h4, .ref a4, .ref a5, .int (nI 0), .int (nI 0), .int (nI 100), .int (nI 60), .ref a6])), (h3, .inl (K 0, 200, .inr (.inr (.inr (.inr (fun _ => none)))))), (h4, .inr (5, [.ref h5, .int (nI 0)])), (h5, .inl (K 0, 200, .inr (.inr (.inr (.inr (fun _ => none)))))), (h6, .inr (1, [.ref h1, .ref h7, .int (nI 0)])), (h7, .inr (4, [.ref a7, .ref h8, .ref a8, .int (nI 1)])), (h8, .inl (K 0, 32, .inr (.inr (.inr (.inr (fun _ => none)))))), (h9, .inl (K 3, 1, .inr (.inl (fun _ => 0)))), (h10, .inr (12, [.int (nI 0), .ref h11])), (h11, .inr (10, [.ref h12, .ref h13, .ref a9, .ref a10, .ref a11, .int (nI 0), .int (nI 0), .int (nI 60), .int (nI 0), .int (nI 2), .int (nI 0), .int (nI 0), .int (nI 0), .int (nI 0), .int (nI 0), .int (nI 0), .int (nI 0)])), (h12, .inr (13, [.int (nI 0), .ref (G 0), .int (nI 0)])), (h13, .inr (13, [.int (nI 1), .ref h14, .int (nI 1)])), (h14, .inl (K 4, 10, .inr (.inr (.inr (.inr (va_up (fun _ => none) 0 (some h15))))))), (h15, .inl (K 2, 4, .inl (fun _ => (-1))))] H) (hD : va_D (fun q : Nat => s.heap.size ≤ q) [(h0, .inr (9, [.ref h1, .ref h7, .ref h2, .ref a0, .ref h6, .ref a1, .ref a2, .ref a3, .int (nI 0)])), (h1, .inr (5, [.ref h3, .int (nI 0)])), (h2, .inr (3, [.ref h4, .ref a4, .ref a5, .int (nI 0), .int (nI 0), .int (nI 100), .int (nI 60), .ref a6])), (h3, .inl (K 0, 200, .inr (.inr (.inr (.inr (fun _ => none)))))), (h4, .inr (5, [.ref h5, .int (nI 0)])), (h5, .inl (K 0, 200, .inr (.inr (.inr (.inr (fun _ => none)))))), (h6, .inr (1, [.ref h1, .ref h7, .int (nI 0)])), (h7, .inr (4, [.ref a7, .ref h8, .ref a8, .int (nI 1)])), (h8, .inl (K 0, 32, .inr (.inr (.inr (.inr (fun _ => none)))))), (h9, .inl (K 3, 1, .inr (.inl (fun _ => 0)))), (h10, .inr (12, [.int (nI 0), .ref h11])), (h11, .inr (10, [.ref h12, .ref h13, .ref a9, .ref a10, .ref a11, .int (nI 0), .int (nI 0), .int (nI 60), .int (nI 0), .int (nI 2), .int (nI 0), .int (nI 0), .int (nI 0), .int (nI 0), .int (nI 0), .int (nI 0), .int (nI 0)])), (h12, .inr (13, [.int (nI 0), .ref (G 0), .int (nI 0)])), (h13, .inr (13, [.int (nI 1), .ref h14, .int (nI 1)])), (h14, .inl (K 4, 10, .inr (.inr (.inr (.inr (va_up (fun _ => none) 0 (some h15))))))), (h15, .inl (K 2, 4, .inl (fun _ => (-1))))]) (hS : va_S (fun q : Nat => s.heap.size ≤ q) s.heap H locs) {ls : Array Slot} (hl : lv_has ls 9 [(0, .ref b), (1, .ref h0), (2, .ref h10), (3, .ref h9), (4, .int (nI 0))]) : W p l e room_1 s m #[Value.ref b] below meth c H locs cells slots (lw_Z below #[Value.ref b] s) (F0 m 256 ls []) := by
  have hA : ∀ q : Nat, s.heap.size ≤ q → (fun q : Nat => s.heap.size ≤ q) q := fun _ h => h
  have hbA : ¬ (fun q : Nat => s.heap.size ≤ q) b := Nat.not_le.mpr hbl
  refine lv_aload_n hx hb dL_law_256 rfl (lv_at hl 1 rfl) ?_
  refine lv_aload_n hx hb dL_law_257 rfl (lv_at hl 0 rfl) ?_
  refine lv_iload hx hb dL_law_258 (lv_at hl 4 rfl) ?_
  refine lv_iconst (v := nI 1) hx hb dL_law_260 (by decide +kernel) ?_
  refine lv_iadd hx hb dL_law_261 ?_
  refine w_toeq (show (nI 0) + (nI 1) = nI 1 by decide +kernel) ?_
  refine va_sld hx hb hX hbl hbA hS (vp_in_nI (n := 1) (by decide) (by decide)) dL_law_262 ?_
  refine w_toeq (show xs (nI 1).toNatClampNeg = nI ya by rw [nI_clamp (n := 1) (by decide)]; exact hx1) ?_
  refine lv_aload_n hx hb dL_law_263 rfl (lv_at hl 0 rfl) ?_
  refine lv_iload hx hb dL_law_264 (lv_at hl 4 rfl) ?_
  refine lv_iconst (v := nI 2) hx hb dL_law_266 (by decide +kernel) ?_
  refine lv_iadd hx hb dL_law_267 ?_
  refine w_toeq (show (nI 0) + (nI 2) = nI 2 by decide +kernel) ?_
  refine va_sld hx hb hX hbl hbA hS (vp_in_nI (n := 2) (by decide) (by decide)) dL_law_268 ?_
  refine w_toeq (show xs (nI 2).toNatClampNeg = nI 0 by rw [nI_clamp (n := 2) (by decide)]; exact hx2) ?_
  refine lv_aload_n hx hb dL_law_269 rfl (lv_at hl 0 rfl) ?_
  refine lv_iload hx hb dL_law_270 (lv_at hl 4 rfl) ?_
  refine lv_iconst (v := nI 3) hx hb dL_law_272 (by decide +kernel) ?_
  refine lv_iadd hx hb dL_law_273 ?_
  refine w_toeq (show (nI 0) + (nI 3) = nI 3 by decide +kernel) ?_
  refine va_sld hx hb hX hbl hbA hS (vp_in_nI (n := 3) (by decide) (by decide)) dL_law_274 ?_
  refine w_toeq (show xs (nI 3).toNatClampNeg = nI 5 by rw [nI_clamp (n := 3) (by decide)]; exact hx3) ?_
  refine lv_aload_n hx hb dL_law_275 rfl (lv_at hl 3 rfl) ?_
  refine k_i (wr := [(h10, .inr (12, [.int (nI 0), .ref h11])), (h11, .inr (10, [.ref h12, .ref h13, .ref a9, .ref a10, .ref a11, .int (nI 0), .int (nI 0), .int (nI 60), .int (nI 0), .int (nI 2), .int (nI 0), .int (nI 0), .int (nI 0), .int (nI 0), .int (nI 0), .int (nI 0), .int (nI 0)])), (h12, .inr (13, [.int (nI 0), .ref (G 0), .int (nI 0)])), (h13, .inr (13, [.int (nI 1), .ref h14, .int (nI 1)])), (h14, .inl (K 4, 10, .inr (.inr (.inr (.inr (va_up (fun _ => none) 0 (some h15))))))), (h15, .inl (K 2, 4, .inl (fun _ => (-1))))]) (run_SW hnc (rest := []) hx hb hml hown hts hK hP hD hS hA hm (C1084_make l G D K H.size h0 h1 h2 h3 h4 h5 h6 h7 h8 h9 (.ref a0) (.ref a1) (.ref a2) (.ref a3) (.int (nI 0)) (.ref a4) (.ref a5) (.int (nI 100)) (.int (nI 60)) (.ref a6) (.ref h1) (.ref h7) (.ref a7) (.ref a8) (fun _ => none) (fun _ => none) (fun _ => none) (fun _ => 0) ya (by omega) (by omega)) [0, 1, 2, 3, 4, 5, 6, 7, 8, 9] rfl rfl mokh_yL_make w_786 w_787 ⟨Nat.le_of_ble_eq_true rfl, Nat.le_of_ble_eq_true rfl⟩ rfl hl.1 rfl (Nat.le_of_ble_eq_true rfl) dL_law_276 ⟨(by dsimp only [room_1]; omega), (by dsimp only [room_1]; omega)⟩) hP hD hS hA [0, 1, 2, 3, 4, 5, 6, 7, 8, 9] [10, 11, 12, 13, 14, 15] rfl rfl rfl (by decide) (w2 := fun u0 => [(h10, .inr (12, [.int (nI 0), .ref h11])), (h11, .inr (10, [.ref h12, .ref h13, .ref a9, .ref a10, .ref a11, .int (nI 0), .int (nI 0), .int (nI 60), .int (nI 0), .int (nI 2), .int (nI 0), .int (nI 0), .int (nI 0), .int (nI 0), .int (nI 0), .int (nI 0), .int (nI 0)])), (h12, .inr (13, [.int (nI 0), .ref (G 0), .int (nI 0)])), (h13, .inr (13, [.int (nI 1), .ref h14, .int (nI 1)])), (h14, .inl (K 4, 10, .inr (.inr (.inr (.inr (va_up (fun _ => none) 0 (some h15))))))), (h15, .inl (K 2, 4, .inl (fun _ => (-1)))), (h9, .inl (K 3, 1, .inr (.inl (vp_updL (fun _ => 0) 0 0)))), (h0, .inr (9, [.ref h1, .ref h7, .ref h2, .ref a0, .ref h6, .ref a1, .ref a2, .ref a3, .int (nI 0)])), (h1, .inr (5, [.ref h3, .int (nI 1)])), (h3, .inl (K 0, 200, .inr (.inr (.inr (.inr (va_up (fun _ => none) 0 (some (u0 0)))))))), ((u0 1), .inl (K 0, 5, .inr (.inr (.inr (.inr (fun _ => none)))))), (h2, .inr (3, [.ref h4, .ref a4, .ref a5, .int (nI 0), .int (nI 7), .int (nI 100), .int (nI 60), .ref a6])), (h4, .inr (5, [.ref h5, .int (nI 1)])), (h5, .inl (K 0, 200, .inr (.inr (.inr (.inr (va_up (fun _ => none) 0 (some (u0 0)))))))), (h6, .inr (1, [.ref h1, .ref h7, .int (nI 0)])), (h8, .inl (K 0, 32, .inr (.inr (.inr (.inr (va_up (fun _ => none) (0 + ya) (some (u0 0)))))))), ((u0 0), .inr (7, [.int (nI 0), .ref (u0 1), .int (nI 0), .int (nI 1), .int (nI 0), .int (nI 7), .int (nI 7), .int (nI 0), .int (-1), .int (nI 0), .int (nI 0), .int (nI 0), .int (nI 0), .int (nI 0)])), (h7, .inr (4, [.ref a7, .ref h8, .ref a8, .int (nI 1)]))]) (fun _ => rfl) (fun u0 H locs hP hD hS => ?_)
  refine lv_istore (lv' := [(5, .int (nI 0)), (0, .ref b), (1, .ref h0), (2, .ref h10), (3, .ref h9), (4, .int (nI 0))]) hx hb dL_law_279 hl (by decide) rfl (fun ls hl => ?_)
  refine lv_aload_n hx hb dL_law_281 rfl (lv_at hl 3 rfl) ?_
  refine lv_aload_n hx hb dL_law_282 rfl (lv_at hl 1 rfl) ?_
  refine lv_iload hx hb dL_law_283 (lv_at hl 5 rfl) ?_
  refine lv_iconst (v := nI 1) hx hb dL_law_285 (by decide +kernel) ?_
  refine lv_iadd hx hb dL_law_286 ?_
  refine w_toeq (show (nI 0) + (nI 1) = nI 1 by decide +kernel) ?_
  refine va_sld hx hb hX hbl hbA hS (vp_in_nI (n := 1) (by decide) (by decide)) dL_law_287 ?_
  refine w_toeq (show xs (nI 1).toNatClampNeg = nI ya by rw [nI_clamp (n := 1) (by decide)]; exact hx1) ?_
  refine lv_aload_n hx hb dL_law_288 rfl (lv_at hl 1 rfl) ?_
  refine lv_iload hx hb dL_law_289 (lv_at hl 5 rfl) ?_
  refine lv_iconst (v := nI 2) hx hb dL_law_291 (by decide +kernel) ?_
  refine lv_iadd hx hb dL_law_292 ?_
  refine w_toeq (show (nI 0) + (nI 2) = nI 2 by decide +kernel) ?_
  refine va_sld hx hb hX hbl hbA hS (vp_in_nI (n := 2) (by decide) (by decide)) dL_law_293 ?_
  refine w_toeq (show xs (nI 2).toNatClampNeg = nI 0 by rw [nI_clamp (n := 2) (by decide)]; exact hx2) ?_
  refine lv_aload_n hx hb dL_law_294 rfl (lv_at hl 1 rfl) ?_
  refine lv_iload hx hb dL_law_295 (lv_at hl 5 rfl) ?_
  refine lv_iconst (v := nI 3) hx hb dL_law_297 (by decide +kernel) ?_
  refine lv_iadd hx hb dL_law_298 ?_
  refine w_toeq (show (nI 0) + (nI 3) = nI 3 by decide +kernel) ?_
  refine va_sld hx hb hX hbl hbA hS (vp_in_nI (n := 3) (by decide) (by decide)) dL_law_299 ?_
  refine w_toeq (show xs (nI 3).toNatClampNeg = nI 5 by rw [nI_clamp (n := 3) (by decide)]; exact hx3) ?_
  refine k_i (wr := [(h9, .inl (K 3, 1, .inr (.inl (vp_updL (fun _ => 0) 0 0)))), (h0, .inr (9, [.ref h1, .ref h7, .ref h2, .ref a0, .ref h6, .ref a1, .ref a2, .ref a3, .int (nI 0)])), (h1, .inr (5, [.ref h3, .int (nI 1)])), (h3, .inl (K 0, 200, .inr (.inr (.inr (.inr (va_up (fun _ => none) 0 (some (u0 0)))))))), ((u0 1), .inl (K 0, 5, .inr (.inr (.inr (.inr (fun _ => none)))))), (h2, .inr (3, [.ref h4, .ref a4, .ref a5, .int (nI 0), .int (nI 7), .int (nI 100), .int (nI 60), .ref a6])), (h4, .inr (5, [.ref h5, .int (nI 1)])), (h5, .inl (K 0, 200, .inr (.inr (.inr (.inr (va_up (fun _ => none) 0 (some (u0 0)))))))), (h6, .inr (1, [.ref h1, .ref h7, .int (nI 0)])), (h8, .inl (K 0, 32, .inr (.inr (.inr (.inr (va_up (fun _ => none) (0 + ya) (some (u0 0)))))))), ((u0 0), .inr (7, [.int (nI 0), .ref (u0 1), .int (nI 0), .int (nI 1), .int (nI 0), .int (nI 7), .int (nI 7), .int (nI 0), .int (-1), .int (nI 0), .int (nI 0), .int (nI 0), .int (nI 0), .int (nI 0)])), (h7, .inr (4, [.ref a7, .ref h8, .ref a8, .int (nI 1)]))]) (run_V (rest := []) hx hb hml hown hts hK hP hD hS hA hm (C175_make l G D K H.size h10 h11 h12 h13 h14 h15 (.ref a9) (.ref a10) (.ref a11) (.int (nI 60)) (.int (nI 0)) (.int (nI 2)) (.int (nI 0)) (.int (nI 0)) (.int (nI 0)) (.int (nI 0)) (.int (nI 0)) (.int (nI 0)) (.int (nI 0)) (.int (nI 1)) (fun _ => (-1)) ya (by omega) (by omega)) [0, 1, 2, 3, 4, 5] rfl rfl mok_yX12_make w_1341 w_1342 w_1343 (rcv hK hP 0 rfl rfl rfl) ⟨Nat.le_of_ble_eq_true rfl, Nat.le_of_ble_eq_true rfl⟩ rfl hl.1 rfl (Nat.le_of_ble_eq_true rfl) dL_law_300 ⟨(by dsimp only [room_1]; omega), (by dsimp only [room_1]; omega)⟩) hP hD hS hA [0, 1, 2, 3, 4, 5] [6, 7, 8, 9, 10, 11, 12, 13, 14, 15, 16, 17] rfl rfl rfl (by decide) (w2 := fun u1 => [(h9, .inl (K 3, 1, .inr (.inl (vp_updL (fun _ => 0) 0 0)))), (h0, .inr (9, [.ref h1, .ref h7, .ref h2, .ref a0, .ref h6, .ref a1, .ref a2, .ref a3, .int (nI 0)])), (h1, .inr (5, [.ref h3, .int (nI 1)])), (h3, .inl (K 0, 200, .inr (.inr (.inr (.inr (va_up (fun _ => none) 0 (some (u0 0)))))))), ((u0 1), .inl (K 0, 5, .inr (.inr (.inr (.inr (fun _ => none)))))), (h2, .inr (3, [.ref h4, .ref a4, .ref a5, .int (nI 0), .int (nI 7), .int (nI 100), .int (nI 60), .ref a6])), (h4, .inr (5, [.ref h5, .int (nI 1)])), (h5, .inl (K 0, 200, .inr (.inr (.inr (.inr (va_up (fun _ => none) 0 (some (u0 0)))))))), (h6, .inr (1, [.ref h1, .ref h7, .int (nI 0)])), (h8, .inl (K 0, 32, .inr (.inr (.inr (.inr (va_up (fun _ => none) (0 + ya) (some (u0 0)))))))), ((u0 0), .inr (7, [.int (nI 0), .ref (u0 1), .int (nI 0), .int (nI 1), .int (nI 0), .int (nI 7), .int (nI 7), .int (nI 0), .int (-1), .int (nI 0), .int (nI 0), .int (nI 0), .int (nI 0), .int (nI 0)])), (h7, .inr (4, [.ref a7, .ref h8, .ref a8, .int (nI 1)])), (h12, .inr (13, [.int (nI 1), .ref (u1 2), .int (nI 1)])), ((u1 2), .inl (K 4, 10, .inr (.inr (.inr (.inr (va_up (fun _ => none) 0 (some (u1 0)))))))), ((u1 0), .inr (11, [.int (nI 0), .ref (u1 1), .int (nI 0), .int (nI 1), .int (nI 0), .int (nI 0), .int (-1), .int (nI 2), .int (nI 0), .int (nI 0), .int (nI 0)])), ((u1 1), .inl (K 2, 5, .inl (fun _ => (-1)))), (h10, .inr (12, [.int (nI 0), .ref h11])), (h11, .inr (10, [.ref h12, .ref h13, .ref a9, .ref a10, .ref a11, .int (nI 0), .int (nI 7), .int (nI 60), .int (nI 0), .int (nI 2), .int (nI 0), .int (nI 0), .int (nI 0), .int (nI 0), .int (nI 0), .int (nI 0), .int (nI 0)])), (h15, .inl (K 2, 4, .inl (upd (fun _ => (-1)) ya (nI 0)))), (h13, .inr (13, [.int (nI 1), .ref h14, .int (nI 1)])), (h14, .inl (K 4, 10, .inr (.inr (.inr (.inr (va_up (fun _ => none) 0 (some h15)))))))]) (fun _ => rfl) (fun u1 H locs hP hD hS => ?_)
  refine lv_istore (lv' := [(6, .int (nI 0)), (5, .int (nI 0)), (0, .ref b), (1, .ref h0), (2, .ref h10), (3, .ref h9), (4, .int (nI 0))]) hx hb dL_law_303 hl (by decide) rfl (fun ls hl => ?_)
  refine lv_aload_n hx hb dL_law_305 rfl (lv_at hl 4 rfl) ?_
  refine k_i (wr := [(h9, .inl (K 3, 1, .inr (.inl (vp_updL (fun _ => 0) 0 0)))), (h0, .inr (9, [.ref h1, .ref h7, .ref h2, .ref a0, .ref h6, .ref a1, .ref a2, .ref a3, .int (nI 0)])), (h1, .inr (5, [.ref h3, .int (nI 1)])), (h3, .inl (K 0, 200, .inr (.inr (.inr (.inr (va_up (fun _ => none) 0 (some (u0 0)))))))), ((u0 1), .inl (K 0, 5, .inr (.inr (.inr (.inr (fun _ => none)))))), (h2, .inr (3, [.ref h4, .ref a4, .ref a5, .int (nI 0), .int (nI 7), .int (nI 100), .int (nI 60), .ref a6])), (h4, .inr (5, [.ref h5, .int (nI 1)])), (h5, .inl (K 0, 200, .inr (.inr (.inr (.inr (va_up (fun _ => none) 0 (some (u0 0)))))))), (h6, .inr (1, [.ref h1, .ref h7, .int (nI 0)])), (h8, .inl (K 0, 32, .inr (.inr (.inr (.inr (va_up (fun _ => none) (0 + ya) (some (u0 0)))))))), ((u0 0), .inr (7, [.int (nI 0), .ref (u0 1), .int (nI 0), .int (nI 1), .int (nI 0), .int (nI 7), .int (nI 7), .int (nI 0), .int (-1), .int (nI 0), .int (nI 0), .int (nI 0), .int (nI 0), .int (nI 0)])), (h7, .inr (4, [.ref a7, .ref h8, .ref a8, .int (nI 1)])), (h12, .inr (13, [.int (nI 1), .ref (u1 2), .int (nI 1)])), ((u1 2), .inl (K 4, 10, .inr (.inr (.inr (.inr (va_up (fun _ => none) 0 (some (u1 0)))))))), ((u1 0), .inr (11, [.int (nI 0), .ref (u1 1), .int (nI 0), .int (nI 1), .int (nI 0), .int (nI 0), .int (-1), .int (nI 2), .int (nI 0), .int (nI 0), .int (nI 0)])), ((u1 1), .inl (K 2, 5, .inl (fun _ => (-1)))), (h11, .inr (10, [.ref h12, .ref h13, .ref a9, .ref a10, .ref a11, .int (nI 0), .int (nI 7), .int (nI 60), .int (nI 0), .int (nI 2), .int (nI 0), .int (nI 0), .int (nI 0), .int (nI 0), .int (nI 0), .int (nI 0), .int (nI 0)])), (h15, .inl (K 2, 4, .inl (upd (fun _ => (-1)) ya (nI 0)))), (h13, .inr (13, [.int (nI 1), .ref h14, .int (nI 1)])), (h14, .inl (K 4, 10, .inr (.inr (.inr (.inr (va_up (fun _ => none) 0 (some h15)))))))]) (run_V (rest := []) hx hb hml hown hts hK hP hD hS hA hm (C1057_thrown l G D K H.size h10 (.ref h11)) [16] rfl rfl mok_yX12_thrown w_1300 w_1301 w_1302 (rcv hK hP 16 rfl rfl rfl) ⟨Nat.le_of_ble_eq_true rfl, Nat.le_of_ble_eq_true rfl⟩ rfl hl.1 rfl (Nat.le_of_ble_eq_true rfl) dL_law_306 ⟨(by dsimp only [room_1]; omega), (by dsimp only [room_1]; omega)⟩) hP hD hS hA [16] [0, 1, 2, 3, 4, 5, 6, 7, 8, 9, 10, 11, 12, 13, 14, 15, 17, 18, 19, 20] rfl rfl rfl (by decide) (w2 := fun u2 => [(h9, .inl (K 3, 1, .inr (.inl (vp_updL (fun _ => 0) 0 0)))), (h0, .inr (9, [.ref h1, .ref h7, .ref h2, .ref a0, .ref h6, .ref a1, .ref a2, .ref a3, .int (nI 0)])), (h1, .inr (5, [.ref h3, .int (nI 1)])), (h3, .inl (K 0, 200, .inr (.inr (.inr (.inr (va_up (fun _ => none) 0 (some (u0 0)))))))), ((u0 1), .inl (K 0, 5, .inr (.inr (.inr (.inr (fun _ => none)))))), (h2, .inr (3, [.ref h4, .ref a4, .ref a5, .int (nI 0), .int (nI 7), .int (nI 100), .int (nI 60), .ref a6])), (h4, .inr (5, [.ref h5, .int (nI 1)])), (h5, .inl (K 0, 200, .inr (.inr (.inr (.inr (va_up (fun _ => none) 0 (some (u0 0)))))))), (h6, .inr (1, [.ref h1, .ref h7, .int (nI 0)])), (h8, .inl (K 0, 32, .inr (.inr (.inr (.inr (va_up (fun _ => none) (0 + ya) (some (u0 0)))))))), ((u0 0), .inr (7, [.int (nI 0), .ref (u0 1), .int (nI 0), .int (nI 1), .int (nI 0), .int (nI 7), .int (nI 7), .int (nI 0), .int (-1), .int (nI 0), .int (nI 0), .int (nI 0), .int (nI 0), .int (nI 0)])), (h7, .inr (4, [.ref a7, .ref h8, .ref a8, .int (nI 1)])), (h12, .inr (13, [.int (nI 1), .ref (u1 2), .int (nI 1)])), ((u1 2), .inl (K 4, 10, .inr (.inr (.inr (.inr (va_up (fun _ => none) 0 (some (u1 0)))))))), ((u1 0), .inr (11, [.int (nI 0), .ref (u1 1), .int (nI 0), .int (nI 1), .int (nI 0), .int (nI 0), .int (-1), .int (nI 2), .int (nI 0), .int (nI 0), .int (nI 0)])), ((u1 1), .inl (K 2, 5, .inl (fun _ => (-1)))), (h11, .inr (10, [.ref h12, .ref h13, .ref a9, .ref a10, .ref a11, .int (nI 0), .int (nI 7), .int (nI 60), .int (nI 0), .int (nI 2), .int (nI 0), .int (nI 0), .int (nI 0), .int (nI 0), .int (nI 0), .int (nI 0), .int (nI 0)])), (h15, .inl (K 2, 4, .inl (upd (fun _ => (-1)) ya (nI 0)))), (h13, .inr (13, [.int (nI 1), .ref h14, .int (nI 1)])), (h14, .inl (K 4, 10, .inr (.inr (.inr (.inr (va_up (fun _ => none) 0 (some h15))))))), (h10, .inr (12, [.int (nI 0), .ref h11]))]) (fun _ => rfl) (fun u2 H locs hP hD hS => ?_)
  refine lv_iload hx hb dL_law_309 (lv_at hl 1 rfl) ?_
  refine lv_icmp_eq (tgt := 316) hx hb dL_law_311 (by decide) (fun _ => ?_) (fun c9 => absurd (by decide +kernel) c9)
  refine lv_iload hx hb dL_law_316 (lv_at hl 1 rfl) ?_
  refine lv_if_ne (tgt := 333) hx hb dL_law_318 (by decide) (fun c9 => absurd (by decide +kernel) c9) (fun _ => ?_)
  refine lv_aload_n hx hb dL_law_321 rfl (lv_at hl 5 rfl) ?_
  refine lv_iconst (v := nI 0) hx hb dL_law_322 (by decide +kernel) ?_
  refine r_lald (k := 0) hx hb hK hP 0 3 rfl rfl (Nat.le_of_ble_eq_true rfl) (by decide) (v := 0) rfl dL_law_323 ?_
  refine lv_iload hx hb dL_law_324 (lv_at hl 0 rfl) ?_
  refine lv_i2l (v := 0) hx hb dL_law_326 (by decide +kernel) ?_
  refine W.lcmp hx hb dL_law_327 ?_
  refine w_toeq (show lg_cmp 0 0 = nI 0 by decide +kernel) ?_
  refine lv_if_eq (tgt := 333) hx hb dL_law_328 (by decide) (fun _ => ?_) (fun c9 => absurd (by decide +kernel) c9)
  refine lv_goto (tgt := 1762) hx hb dL_law_333 (by decide) ?_
  refine lv_iinc (v := nI 4) (lv' := [(4, .int (nI 4)), (6, .int (nI 0)), (5, .int (nI 0)), (0, .ref b), (1, .ref h0), (2, .ref h10), (3, .ref h9)]) hx hb dL_law_1762 hl (k := 6) rfl (by decide +kernel) (by decide) rfl (fun ls hl => ?_)
  refine lv_goto (tgt := 23) hx hb dL_law_1765 (by decide) ?_
  refine lv_iload hx hb dL_law_23 (lv_at hl 0 rfl) ?_
  refine lv_aload_n hx hb dL_law_25 rfl (lv_at hl 3 rfl) ?_
  refine va_slen hx hb hX hbl hbA hS dL_law_26 ?_
  refine w_toeq (show Int32.ofNat 4 = nI 4 from rfl) ?_
  refine lv_iconst (v := nI 4) hx hb dL_law_27 (by decide +kernel) ?_
  refine lv_isub hx hb dL_law_28 ?_
  refine w_toeq (show (nI 4) - (nI 4) = nI 0 by decide +kernel) ?_
  refine lv_icmp_gt (tgt := 1768) hx hb dL_law_29 (by decide) (fun _ => ?_) (fun c9 => absurd (by decide +kernel) c9)
  refine lv_iconst (v := nI 1) hx hb dL_law_1768 (by decide +kernel) ?_
  exact law_end hx hb hr hlk hS (by dsimp only; omega) (by dsimp only; omega) dL_law_1769
set_option maxHeartbeats 4000000 in
set_option maxRecDepth 100000 in
theorem LW26_make {p : Program} {e : Env} {s : State} {m : MethodId} {below : List Frame} {meth : Method} {c : Code} {l : Launch} {G : Nat → Nat} {D : va_G} {K : Nat → ClassId} {b : Nat} {xs : Nat → Int32} (hx : p.tables.exec = Jvm.exec) (hb : c.code = cL_law) (hr : meth.sig.returnType = some .boolean) (hlk : meth.locks = false) (hl0 : l.stackTraces = false) (hnc : Ncs s) (hml : c.maxLocals = 9) (hown : s.vm.findClass RL = some m.cls) (hts : ∀ w ∈ lw_gw, w.before #[Value.ref b] s = true) (hK : va_K D cl (tys K) s) (hm : Amb G (fun q : Nat => s.heap.size ≤ q) s s.heap) (hX : va_X b 4 xs s s.heap) (hbl : b < s.heap.size) {h0 h1 h2 h3 h4 h5 h6 h7 h8 h9 h10 h11 h12 h13 h14 h15 a0 a1 a2 a3 a4 a5 a6 a7 a8 a9 a10 a11 : Nat} (ya : Nat) (lya : 0 ≤ ya) (gya : ya ≤ 3) (hx1 : xs 1 = nI ya) (hx2 : xs 2 = nI 0) (hx3 : xs 3 = nI 6) {H : Heap} {locs : List Loc} {cells slots : Nat} (hcs : cells ≤ 1000) (hss : slots ≤ 100000) (hP : va_P D cl [(h0, .inr (9, [.ref h1, .ref h7, .ref h2, .ref a0, .ref h6, .ref a1, .ref a2, .ref a3, .int (nI 0)])), (h1, .inr (5, [.ref h3, .int (nI 0)])), (h2, .inr (3, [.ref h4, .ref a4, .ref a5, .int (nI 0), .int (nI 0), .int (nI 100), .int (nI 60), .ref a6])), (h3, .inl (K 0, 200, .inr (.inr (.inr (.inr (fun _ => none)))))), (h4, .inr (5, [.ref h5, .int (nI 0)])), (h5, .inl (K 0, 200, .inr (.inr (.inr (.inr (fun _ => none)))))), (h6, .inr (1, [.ref h1, .ref h7, .int (nI 0)])), (h7, .inr (4, [.ref a7, .ref h8, .ref a8, .int (nI 1)])), (h8, .inl (K 0, 32, .inr (.inr (.inr (.inr (fun _ => none)))))), (h9, .inl (K 3, 1, .inr (.inl (fun _ => 0)))), (h10, .inr (12, [.int (nI 0), .ref h11])), (h11, .inr (10, [.ref h12, .ref h13, .ref a9, .ref a10, .ref a11, .int (nI 0), .int (nI 0), .int (nI 60), .int (nI 0), .int (nI 2), .int (nI 0), .int (nI 0), .int (nI 0), .int (nI 0), .int (nI 0), .int (nI 0), .int (nI 0)])), (h12, .inr (13, [.int (nI 0), .ref (G 0), .int (nI 0)])), (h13, .inr (13, [.int (nI 1), .ref h14, .int (nI 1)])), (h14, .inl (K 4, 10, .inr (.inr (.inr (.inr (va_up (fun _ => none) 0 (some h15))))))), (h15, .inl (K 2, 4, .inl (fun _ => (-1))))] H) (hD : va_D (fun q : Nat => s.heap.size ≤ q) [(h0, .inr (9, [.ref h1, .ref h7, .ref h2, .ref a0, .ref h6, .ref a1, .ref a2, .ref a3, .int (nI 0)])), (h1, .inr (5, [.ref h3, .int (nI 0)])), (h2, .inr (3, [.ref h4, .ref a4, .ref a5, .int (nI 0), .int (nI 0), .int (nI 100), .int (nI 60), .ref a6])), (h3, .inl (K 0, 200, .inr (.inr (.inr (.inr (fun _ => none)))))), (h4, .inr (5, [.ref h5, .int (nI 0)])), (h5, .inl (K 0, 200, .inr (.inr (.inr (.inr (fun _ => none)))))), (h6, .inr (1, [.ref h1, .ref h7, .int (nI 0)])), (h7, .inr (4, [.ref a7, .ref h8, .ref a8, .int (nI 1)])), (h8, .inl (K 0, 32, .inr (.inr (.inr (.inr (fun _ => none)))))), (h9, .inl (K 3, 1, .inr (.inl (fun _ => 0)))), (h10, .inr (12, [.int (nI 0), .ref h11])), (h11, .inr (10, [.ref h12, .ref h13, .ref a9, .ref a10, .ref a11, .int (nI 0), .int (nI 0), .int (nI 60), .int (nI 0), .int (nI 2), .int (nI 0), .int (nI 0), .int (nI 0), .int (nI 0), .int (nI 0), .int (nI 0), .int (nI 0)])), (h12, .inr (13, [.int (nI 0), .ref (G 0), .int (nI 0)])), (h13, .inr (13, [.int (nI 1), .ref h14, .int (nI 1)])), (h14, .inl (K 4, 10, .inr (.inr (.inr (.inr (va_up (fun _ => none) 0 (some h15))))))), (h15, .inl (K 2, 4, .inl (fun _ => (-1))))]) (hS : va_S (fun q : Nat => s.heap.size ≤ q) s.heap H locs) {ls : Array Slot} (hl : lv_has ls 9 [(0, .ref b), (1, .ref h0), (2, .ref h10), (3, .ref h9), (4, .int (nI 0))]) : W p l e room_1 s m #[Value.ref b] below meth c H locs cells slots (lw_Z below #[Value.ref b] s) (F0 m 256 ls []) := by
  have hA : ∀ q : Nat, s.heap.size ≤ q → (fun q : Nat => s.heap.size ≤ q) q := fun _ h => h
  have hbA : ¬ (fun q : Nat => s.heap.size ≤ q) b := Nat.not_le.mpr hbl
  refine lv_aload_n hx hb dL_law_256 rfl (lv_at hl 1 rfl) ?_
  refine lv_aload_n hx hb dL_law_257 rfl (lv_at hl 0 rfl) ?_
  refine lv_iload hx hb dL_law_258 (lv_at hl 4 rfl) ?_
  refine lv_iconst (v := nI 1) hx hb dL_law_260 (by decide +kernel) ?_
  refine lv_iadd hx hb dL_law_261 ?_
  refine w_toeq (show (nI 0) + (nI 1) = nI 1 by decide +kernel) ?_
  refine va_sld hx hb hX hbl hbA hS (vp_in_nI (n := 1) (by decide) (by decide)) dL_law_262 ?_
  refine w_toeq (show xs (nI 1).toNatClampNeg = nI ya by rw [nI_clamp (n := 1) (by decide)]; exact hx1) ?_
  refine lv_aload_n hx hb dL_law_263 rfl (lv_at hl 0 rfl) ?_
  refine lv_iload hx hb dL_law_264 (lv_at hl 4 rfl) ?_
  refine lv_iconst (v := nI 2) hx hb dL_law_266 (by decide +kernel) ?_
  refine lv_iadd hx hb dL_law_267 ?_
  refine w_toeq (show (nI 0) + (nI 2) = nI 2 by decide +kernel) ?_
  refine va_sld hx hb hX hbl hbA hS (vp_in_nI (n := 2) (by decide) (by decide)) dL_law_268 ?_
  refine w_toeq (show xs (nI 2).toNatClampNeg = nI 0 by rw [nI_clamp (n := 2) (by decide)]; exact hx2) ?_
  refine lv_aload_n hx hb dL_law_269 rfl (lv_at hl 0 rfl) ?_
  refine lv_iload hx hb dL_law_270 (lv_at hl 4 rfl) ?_
  refine lv_iconst (v := nI 3) hx hb dL_law_272 (by decide +kernel) ?_
  refine lv_iadd hx hb dL_law_273 ?_
  refine w_toeq (show (nI 0) + (nI 3) = nI 3 by decide +kernel) ?_
  refine va_sld hx hb hX hbl hbA hS (vp_in_nI (n := 3) (by decide) (by decide)) dL_law_274 ?_
  refine w_toeq (show xs (nI 3).toNatClampNeg = nI 6 by rw [nI_clamp (n := 3) (by decide)]; exact hx3) ?_
  refine lv_aload_n hx hb dL_law_275 rfl (lv_at hl 3 rfl) ?_
  refine k_i (wr := [(h10, .inr (12, [.int (nI 0), .ref h11])), (h11, .inr (10, [.ref h12, .ref h13, .ref a9, .ref a10, .ref a11, .int (nI 0), .int (nI 0), .int (nI 60), .int (nI 0), .int (nI 2), .int (nI 0), .int (nI 0), .int (nI 0), .int (nI 0), .int (nI 0), .int (nI 0), .int (nI 0)])), (h12, .inr (13, [.int (nI 0), .ref (G 0), .int (nI 0)])), (h13, .inr (13, [.int (nI 1), .ref h14, .int (nI 1)])), (h14, .inl (K 4, 10, .inr (.inr (.inr (.inr (va_up (fun _ => none) 0 (some h15))))))), (h15, .inl (K 2, 4, .inl (fun _ => (-1))))]) (run_SW hnc (rest := []) hx hb hml hown hts hK hP hD hS hA hm (C1085_make l G D K H.size h0 h1 h2 h3 h4 h5 h6 h7 h8 h9 (.ref a0) (.ref a1) (.ref a2) (.ref a3) (.int (nI 0)) (.ref a4) (.ref a5) (.int (nI 100)) (.int (nI 60)) (.ref a6) (.ref h1) (.ref h7) (.ref a7) (.ref a8) (fun _ => none) (fun _ => none) (fun _ => none) (fun _ => 0) ya (by omega) (by omega)) [0, 1, 2, 3, 4, 5, 6, 7, 8, 9] rfl rfl mokh_yL_make w_786 w_787 ⟨Nat.le_of_ble_eq_true rfl, Nat.le_of_ble_eq_true rfl⟩ rfl hl.1 rfl (Nat.le_of_ble_eq_true rfl) dL_law_276 ⟨(by dsimp only [room_1]; omega), (by dsimp only [room_1]; omega)⟩) hP hD hS hA [0, 1, 2, 3, 4, 5, 6, 7, 8, 9] [10, 11, 12, 13, 14, 15] rfl rfl rfl (by decide) (w2 := fun u0 => [(h10, .inr (12, [.int (nI 0), .ref h11])), (h11, .inr (10, [.ref h12, .ref h13, .ref a9, .ref a10, .ref a11, .int (nI 0), .int (nI 0), .int (nI 60), .int (nI 0), .int (nI 2), .int (nI 0), .int (nI 0), .int (nI 0), .int (nI 0), .int (nI 0), .int (nI 0), .int (nI 0)])), (h12, .inr (13, [.int (nI 0), .ref (G 0), .int (nI 0)])), (h13, .inr (13, [.int (nI 1), .ref h14, .int (nI 1)])), (h14, .inl (K 4, 10, .inr (.inr (.inr (.inr (va_up (fun _ => none) 0 (some h15))))))), (h15, .inl (K 2, 4, .inl (fun _ => (-1)))), (h9, .inl (K 3, 1, .inr (.inl (vp_updL (fun _ => 0) 0 0)))), (h0, .inr (9, [.ref h1, .ref h7, .ref h2, .ref a0, .ref h6, .ref a1, .ref a2, .ref a3, .int (nI 0)])), (h1, .inr (5, [.ref h3, .int (nI 1)])), (h3, .inl (K 0, 200, .inr (.inr (.inr (.inr (va_up (fun _ => none) 0 (some (u0 0)))))))), ((u0 1), .inl (K 0, 6, .inr (.inr (.inr (.inr (fun _ => none)))))), (h2, .inr (3, [.ref h4, .ref a4, .ref a5, .int (nI 0), .int (nI 8), .int (nI 100), .int (nI 60), .ref a6])), (h4, .inr (5, [.ref h5, .int (nI 1)])), (h5, .inl (K 0, 200, .inr (.inr (.inr (.inr (va_up (fun _ => none) 0 (some (u0 0)))))))), (h6, .inr (1, [.ref h1, .ref h7, .int (nI 0)])), (h8, .inl (K 0, 32, .inr (.inr (.inr (.inr (va_up (fun _ => none) (0 + ya) (some (u0 0)))))))), ((u0 0), .inr (7, [.int (nI 0), .ref (u0 1), .int (nI 0), .int (nI 1), .int (nI 0), .int (nI 8), .int (nI 8), .int (nI 0), .int (-1), .int (nI 0), .int (nI 0), .int (nI 0), .int (nI 0), .int (nI 0)])), (h7, .inr (4, [.ref a7, .ref h8, .ref a8, .int (nI 1)]))]) (fun _ => rfl) (fun u0 H locs hP hD hS => ?_)
  refine lv_istore (lv' := [(5, .int (nI 0)), (0, .ref b), (1, .ref h0), (2, .ref h10), (3, .ref h9), (4, .int (nI 0))]) hx hb dL_law_279 hl (by decide) rfl (fun ls hl => ?_)
  refine lv_aload_n hx hb dL_law_281 rfl (lv_at hl 3 rfl) ?_
  refine lv_aload_n hx hb dL_law_282 rfl (lv_at hl 1 rfl) ?_
  refine lv_iload hx hb dL_law_283 (lv_at hl 5 rfl) ?_
  refine lv_iconst (v := nI 1) hx hb dL_law_285 (by decide +kernel) ?_
  refine lv_iadd hx hb dL_law_286 ?_
  refine w_toeq (show (nI 0) + (nI 1) = nI 1 by decide +kernel) ?_
  refine va_sld hx hb hX hbl hbA hS (vp_in_nI (n := 1) (by decide) (by decide)) dL_law_287 ?_
  refine w_toeq (show xs (nI 1).toNatClampNeg = nI ya by rw [nI_clamp (n := 1) (by decide)]; exact hx1) ?_
  refine lv_aload_n hx hb dL_law_288 rfl (lv_at hl 1 rfl) ?_
  refine lv_iload hx hb dL_law_289 (lv_at hl 5 rfl) ?_
  refine lv_iconst (v := nI 2) hx hb dL_law_291 (by decide +kernel) ?_
  refine lv_iadd hx hb dL_law_292 ?_
  refine w_toeq (show (nI 0) + (nI 2) = nI 2 by decide +kernel) ?_
  refine va_sld hx hb hX hbl hbA hS (vp_in_nI (n := 2) (by decide) (by decide)) dL_law_293 ?_
  refine w_toeq (show xs (nI 2).toNatClampNeg = nI 0 by rw [nI_clamp (n := 2) (by decide)]; exact hx2) ?_
  refine lv_aload_n hx hb dL_law_294 rfl (lv_at hl 1 rfl) ?_
  refine lv_iload hx hb dL_law_295 (lv_at hl 5 rfl) ?_
  refine lv_iconst (v := nI 3) hx hb dL_law_297 (by decide +kernel) ?_
  refine lv_iadd hx hb dL_law_298 ?_
  refine w_toeq (show (nI 0) + (nI 3) = nI 3 by decide +kernel) ?_
  refine va_sld hx hb hX hbl hbA hS (vp_in_nI (n := 3) (by decide) (by decide)) dL_law_299 ?_
  refine w_toeq (show xs (nI 3).toNatClampNeg = nI 6 by rw [nI_clamp (n := 3) (by decide)]; exact hx3) ?_
  refine k_i (wr := [(h9, .inl (K 3, 1, .inr (.inl (vp_updL (fun _ => 0) 0 0)))), (h0, .inr (9, [.ref h1, .ref h7, .ref h2, .ref a0, .ref h6, .ref a1, .ref a2, .ref a3, .int (nI 0)])), (h1, .inr (5, [.ref h3, .int (nI 1)])), (h3, .inl (K 0, 200, .inr (.inr (.inr (.inr (va_up (fun _ => none) 0 (some (u0 0)))))))), ((u0 1), .inl (K 0, 6, .inr (.inr (.inr (.inr (fun _ => none)))))), (h2, .inr (3, [.ref h4, .ref a4, .ref a5, .int (nI 0), .int (nI 8), .int (nI 100), .int (nI 60), .ref a6])), (h4, .inr (5, [.ref h5, .int (nI 1)])), (h5, .inl (K 0, 200, .inr (.inr (.inr (.inr (va_up (fun _ => none) 0 (some (u0 0)))))))), (h6, .inr (1, [.ref h1, .ref h7, .int (nI 0)])), (h8, .inl (K 0, 32, .inr (.inr (.inr (.inr (va_up (fun _ => none) (0 + ya) (some (u0 0)))))))), ((u0 0), .inr (7, [.int (nI 0), .ref (u0 1), .int (nI 0), .int (nI 1), .int (nI 0), .int (nI 8), .int (nI 8), .int (nI 0), .int (-1), .int (nI 0), .int (nI 0), .int (nI 0), .int (nI 0), .int (nI 0)])), (h7, .inr (4, [.ref a7, .ref h8, .ref a8, .int (nI 1)]))]) (run_V (rest := []) hx hb hml hown hts hK hP hD hS hA hm (C187_make l G D K H.size h10 h11 h12 h13 h14 h15 (.ref a9) (.ref a10) (.ref a11) (.int (nI 60)) (.int (nI 0)) (.int (nI 2)) (.int (nI 0)) (.int (nI 0)) (.int (nI 0)) (.int (nI 0)) (.int (nI 0)) (.int (nI 0)) (.int (nI 0)) (.int (nI 1)) (fun _ => (-1)) ya (by omega) (by omega)) [0, 1, 2, 3, 4, 5] rfl rfl mok_yX12_make w_1341 w_1342 w_1343 (rcv hK hP 0 rfl rfl rfl) ⟨Nat.le_of_ble_eq_true rfl, Nat.le_of_ble_eq_true rfl⟩ rfl hl.1 rfl (Nat.le_of_ble_eq_true rfl) dL_law_300 ⟨(by dsimp only [room_1]; omega), (by dsimp only [room_1]; omega)⟩) hP hD hS hA [0, 1, 2, 3, 4, 5] [6, 7, 8, 9, 10, 11, 12, 13, 14, 15, 16, 17] rfl rfl rfl (by decide) (w2 := fun u1 => [(h9, .inl (K 3, 1, .inr (.inl (vp_updL (fun _ => 0) 0 0)))), (h0, .inr (9, [.ref h1, .ref h7, .ref h2, .ref a0, .ref h6, .ref a1, .ref a2, .ref a3, .int (nI 0)])), (h1, .inr (5, [.ref h3, .int (nI 1)])), (h3, .inl (K 0, 200, .inr (.inr (.inr (.inr (va_up (fun _ => none) 0 (some (u0 0)))))))), ((u0 1), .inl (K 0, 6, .inr (.inr (.inr (.inr (fun _ => none)))))), (h2, .inr (3, [.ref h4, .ref a4, .ref a5, .int (nI 0), .int (nI 8), .int (nI 100), .int (nI 60), .ref a6])), (h4, .inr (5, [.ref h5, .int (nI 1)])), (h5, .inl (K 0, 200, .inr (.inr (.inr (.inr (va_up (fun _ => none) 0 (some (u0 0)))))))), (h6, .inr (1, [.ref h1, .ref h7, .int (nI 0)])), (h8, .inl (K 0, 32, .inr (.inr (.inr (.inr (va_up (fun _ => none) (0 + ya) (some (u0 0)))))))), ((u0 0), .inr (7, [.int (nI 0), .ref (u0 1), .int (nI 0), .int (nI 1), .int (nI 0), .int (nI 8), .int (nI 8), .int (nI 0), .int (-1), .int (nI 0), .int (nI 0), .int (nI 0), .int (nI 0), .int (nI 0)])), (h7, .inr (4, [.ref a7, .ref h8, .ref a8, .int (nI 1)])), (h12, .inr (13, [.int (nI 1), .ref (u1 2), .int (nI 1)])), ((u1 2), .inl (K 4, 10, .inr (.inr (.inr (.inr (va_up (fun _ => none) 0 (some (u1 0)))))))), ((u1 0), .inr (11, [.int (nI 0), .ref (u1 1), .int (nI 0), .int (nI 1), .int (nI 0), .int (nI 0), .int (-1), .int (nI 2), .int (nI 0), .int (nI 0), .int (nI 0)])), ((u1 1), .inl (K 2, 6, .inl (fun _ => (-1)))), (h10, .inr (12, [.int (nI 0), .ref h11])), (h11, .inr (10, [.ref h12, .ref h13, .ref a9, .ref a10, .ref a11, .int (nI 0), .int (nI 8), .int (nI 60), .int (nI 0), .int (nI 2), .int (nI 0), .int (nI 0), .int (nI 0), .int (nI 0), .int (nI 0), .int (nI 0), .int (nI 0)])), (h15, .inl (K 2, 4, .inl (upd (fun _ => (-1)) ya (nI 0)))), (h13, .inr (13, [.int (nI 1), .ref h14, .int (nI 1)])), (h14, .inl (K 4, 10, .inr (.inr (.inr (.inr (va_up (fun _ => none) 0 (some h15)))))))]) (fun _ => rfl) (fun u1 H locs hP hD hS => ?_)
  refine lv_istore (lv' := [(6, .int (nI 0)), (5, .int (nI 0)), (0, .ref b), (1, .ref h0), (2, .ref h10), (3, .ref h9), (4, .int (nI 0))]) hx hb dL_law_303 hl (by decide) rfl (fun ls hl => ?_)
  refine lv_aload_n hx hb dL_law_305 rfl (lv_at hl 4 rfl) ?_
  refine k_i (wr := [(h9, .inl (K 3, 1, .inr (.inl (vp_updL (fun _ => 0) 0 0)))), (h0, .inr (9, [.ref h1, .ref h7, .ref h2, .ref a0, .ref h6, .ref a1, .ref a2, .ref a3, .int (nI 0)])), (h1, .inr (5, [.ref h3, .int (nI 1)])), (h3, .inl (K 0, 200, .inr (.inr (.inr (.inr (va_up (fun _ => none) 0 (some (u0 0)))))))), ((u0 1), .inl (K 0, 6, .inr (.inr (.inr (.inr (fun _ => none)))))), (h2, .inr (3, [.ref h4, .ref a4, .ref a5, .int (nI 0), .int (nI 8), .int (nI 100), .int (nI 60), .ref a6])), (h4, .inr (5, [.ref h5, .int (nI 1)])), (h5, .inl (K 0, 200, .inr (.inr (.inr (.inr (va_up (fun _ => none) 0 (some (u0 0)))))))), (h6, .inr (1, [.ref h1, .ref h7, .int (nI 0)])), (h8, .inl (K 0, 32, .inr (.inr (.inr (.inr (va_up (fun _ => none) (0 + ya) (some (u0 0)))))))), ((u0 0), .inr (7, [.int (nI 0), .ref (u0 1), .int (nI 0), .int (nI 1), .int (nI 0), .int (nI 8), .int (nI 8), .int (nI 0), .int (-1), .int (nI 0), .int (nI 0), .int (nI 0), .int (nI 0), .int (nI 0)])), (h7, .inr (4, [.ref a7, .ref h8, .ref a8, .int (nI 1)])), (h12, .inr (13, [.int (nI 1), .ref (u1 2), .int (nI 1)])), ((u1 2), .inl (K 4, 10, .inr (.inr (.inr (.inr (va_up (fun _ => none) 0 (some (u1 0)))))))), ((u1 0), .inr (11, [.int (nI 0), .ref (u1 1), .int (nI 0), .int (nI 1), .int (nI 0), .int (nI 0), .int (-1), .int (nI 2), .int (nI 0), .int (nI 0), .int (nI 0)])), ((u1 1), .inl (K 2, 6, .inl (fun _ => (-1)))), (h11, .inr (10, [.ref h12, .ref h13, .ref a9, .ref a10, .ref a11, .int (nI 0), .int (nI 8), .int (nI 60), .int (nI 0), .int (nI 2), .int (nI 0), .int (nI 0), .int (nI 0), .int (nI 0), .int (nI 0), .int (nI 0), .int (nI 0)])), (h15, .inl (K 2, 4, .inl (upd (fun _ => (-1)) ya (nI 0)))), (h13, .inr (13, [.int (nI 1), .ref h14, .int (nI 1)])), (h14, .inl (K 4, 10, .inr (.inr (.inr (.inr (va_up (fun _ => none) 0 (some h15)))))))]) (run_V (rest := []) hx hb hml hown hts hK hP hD hS hA hm (C1057_thrown l G D K H.size h10 (.ref h11)) [16] rfl rfl mok_yX12_thrown w_1300 w_1301 w_1302 (rcv hK hP 16 rfl rfl rfl) ⟨Nat.le_of_ble_eq_true rfl, Nat.le_of_ble_eq_true rfl⟩ rfl hl.1 rfl (Nat.le_of_ble_eq_true rfl) dL_law_306 ⟨(by dsimp only [room_1]; omega), (by dsimp only [room_1]; omega)⟩) hP hD hS hA [16] [0, 1, 2, 3, 4, 5, 6, 7, 8, 9, 10, 11, 12, 13, 14, 15, 17, 18, 19, 20] rfl rfl rfl (by decide) (w2 := fun u2 => [(h9, .inl (K 3, 1, .inr (.inl (vp_updL (fun _ => 0) 0 0)))), (h0, .inr (9, [.ref h1, .ref h7, .ref h2, .ref a0, .ref h6, .ref a1, .ref a2, .ref a3, .int (nI 0)])), (h1, .inr (5, [.ref h3, .int (nI 1)])), (h3, .inl (K 0, 200, .inr (.inr (.inr (.inr (va_up (fun _ => none) 0 (some (u0 0)))))))), ((u0 1), .inl (K 0, 6, .inr (.inr (.inr (.inr (fun _ => none)))))), (h2, .inr (3, [.ref h4, .ref a4, .ref a5, .int (nI 0), .int (nI 8), .int (nI 100), .int (nI 60), .ref a6])), (h4, .inr (5, [.ref h5, .int (nI 1)])), (h5, .inl (K 0, 200, .inr (.inr (.inr (.inr (va_up (fun _ => none) 0 (some (u0 0)))))))), (h6, .inr (1, [.ref h1, .ref h7, .int (nI 0)])), (h8, .inl (K 0, 32, .inr (.inr (.inr (.inr (va_up (fun _ => none) (0 + ya) (some (u0 0)))))))), ((u0 0), .inr (7, [.int (nI 0), .ref (u0 1), .int (nI 0), .int (nI 1), .int (nI 0), .int (nI 8), .int (nI 8), .int (nI 0), .int (-1), .int (nI 0), .int (nI 0), .int (nI 0), .int (nI 0), .int (nI 0)])), (h7, .inr (4, [.ref a7, .ref h8, .ref a8, .int (nI 1)])), (h12, .inr (13, [.int (nI 1), .ref (u1 2), .int (nI 1)])), ((u1 2), .inl (K 4, 10, .inr (.inr (.inr (.inr (va_up (fun _ => none) 0 (some (u1 0)))))))), ((u1 0), .inr (11, [.int (nI 0), .ref (u1 1), .int (nI 0), .int (nI 1), .int (nI 0), .int (nI 0), .int (-1), .int (nI 2), .int (nI 0), .int (nI 0), .int (nI 0)])), ((u1 1), .inl (K 2, 6, .inl (fun _ => (-1)))), (h11, .inr (10, [.ref h12, .ref h13, .ref a9, .ref a10, .ref a11, .int (nI 0), .int (nI 8), .int (nI 60), .int (nI 0), .int (nI 2), .int (nI 0), .int (nI 0), .int (nI 0), .int (nI 0), .int (nI 0), .int (nI 0), .int (nI 0)])), (h15, .inl (K 2, 4, .inl (upd (fun _ => (-1)) ya (nI 0)))), (h13, .inr (13, [.int (nI 1), .ref h14, .int (nI 1)])), (h14, .inl (K 4, 10, .inr (.inr (.inr (.inr (va_up (fun _ => none) 0 (some h15))))))), (h10, .inr (12, [.int (nI 0), .ref h11]))]) (fun _ => rfl) (fun u2 H locs hP hD hS => ?_)
  refine lv_iload hx hb dL_law_309 (lv_at hl 1 rfl) ?_
  refine lv_icmp_eq (tgt := 316) hx hb dL_law_311 (by decide) (fun _ => ?_) (fun c9 => absurd (by decide +kernel) c9)
  refine lv_iload hx hb dL_law_316 (lv_at hl 1 rfl) ?_
  refine lv_if_ne (tgt := 333) hx hb dL_law_318 (by decide) (fun c9 => absurd (by decide +kernel) c9) (fun _ => ?_)
  refine lv_aload_n hx hb dL_law_321 rfl (lv_at hl 5 rfl) ?_
  refine lv_iconst (v := nI 0) hx hb dL_law_322 (by decide +kernel) ?_
  refine r_lald (k := 0) hx hb hK hP 0 3 rfl rfl (Nat.le_of_ble_eq_true rfl) (by decide) (v := 0) rfl dL_law_323 ?_
  refine lv_iload hx hb dL_law_324 (lv_at hl 0 rfl) ?_
  refine lv_i2l (v := 0) hx hb dL_law_326 (by decide +kernel) ?_
  refine W.lcmp hx hb dL_law_327 ?_
  refine w_toeq (show lg_cmp 0 0 = nI 0 by decide +kernel) ?_
  refine lv_if_eq (tgt := 333) hx hb dL_law_328 (by decide) (fun _ => ?_) (fun c9 => absurd (by decide +kernel) c9)
  refine lv_goto (tgt := 1762) hx hb dL_law_333 (by decide) ?_
  refine lv_iinc (v := nI 4) (lv' := [(4, .int (nI 4)), (6, .int (nI 0)), (5, .int (nI 0)), (0, .ref b), (1, .ref h0), (2, .ref h10), (3, .ref h9)]) hx hb dL_law_1762 hl (k := 6) rfl (by decide +kernel) (by decide) rfl (fun ls hl => ?_)
  refine lv_goto (tgt := 23) hx hb dL_law_1765 (by decide) ?_
  refine lv_iload hx hb dL_law_23 (lv_at hl 0 rfl) ?_
  refine lv_aload_n hx hb dL_law_25 rfl (lv_at hl 3 rfl) ?_
  refine va_slen hx hb hX hbl hbA hS dL_law_26 ?_
  refine w_toeq (show Int32.ofNat 4 = nI 4 from rfl) ?_
  refine lv_iconst (v := nI 4) hx hb dL_law_27 (by decide +kernel) ?_
  refine lv_isub hx hb dL_law_28 ?_
  refine w_toeq (show (nI 4) - (nI 4) = nI 0 by decide +kernel) ?_
  refine lv_icmp_gt (tgt := 1768) hx hb dL_law_29 (by decide) (fun _ => ?_) (fun c9 => absurd (by decide +kernel) c9)
  refine lv_iconst (v := nI 1) hx hb dL_law_1768 (by decide +kernel) ?_
  exact law_end hx hb hr hlk hS (by dsimp only; omega) (by dsimp only; omega) dL_law_1769
set_option maxHeartbeats 4000000 in
set_option maxRecDepth 100000 in
theorem LW27_make {p : Program} {e : Env} {s : State} {m : MethodId} {below : List Frame} {meth : Method} {c : Code} {l : Launch} {G : Nat → Nat} {D : va_G} {K : Nat → ClassId} {b : Nat} {xs : Nat → Int32} (hx : p.tables.exec = Jvm.exec) (hb : c.code = cL_law) (hr : meth.sig.returnType = some .boolean) (hlk : meth.locks = false) (hl0 : l.stackTraces = false) (hnc : Ncs s) (hml : c.maxLocals = 9) (hown : s.vm.findClass RL = some m.cls) (hts : ∀ w ∈ lw_gw, w.before #[Value.ref b] s = true) (hK : va_K D cl (tys K) s) (hm : Amb G (fun q : Nat => s.heap.size ≤ q) s s.heap) (hX : va_X b 4 xs s s.heap) (hbl : b < s.heap.size) {h0 h1 h2 h3 h4 h5 h6 h7 h8 h9 h10 h11 h12 h13 h14 h15 a0 a1 a2 a3 a4 a5 a6 a7 a8 a9 a10 a11 : Nat} (ya : Nat) (lya : 0 ≤ ya) (gya : ya ≤ 3) (hx1 : xs 1 = nI ya) (hx2 : xs 2 = nI 0) (hx3 : xs 3 = nI 7) {H : Heap} {locs : List Loc} {cells slots : Nat} (hcs : cells ≤ 1000) (hss : slots ≤ 100000) (hP : va_P D cl [(h0, .inr (9, [.ref h1, .ref h7, .ref h2, .ref a0, .ref h6, .ref a1, .ref a2, .ref a3, .int (nI 0)])), (h1, .inr (5, [.ref h3, .int (nI 0)])), (h2, .inr (3, [.ref h4, .ref a4, .ref a5, .int (nI 0), .int (nI 0), .int (nI 100), .int (nI 60), .ref a6])), (h3, .inl (K 0, 200, .inr (.inr (.inr (.inr (fun _ => none)))))), (h4, .inr (5, [.ref h5, .int (nI 0)])), (h5, .inl (K 0, 200, .inr (.inr (.inr (.inr (fun _ => none)))))), (h6, .inr (1, [.ref h1, .ref h7, .int (nI 0)])), (h7, .inr (4, [.ref a7, .ref h8, .ref a8, .int (nI 1)])), (h8, .inl (K 0, 32, .inr (.inr (.inr (.inr (fun _ => none)))))), (h9, .inl (K 3, 1, .inr (.inl (fun _ => 0)))), (h10, .inr (12, [.int (nI 0), .ref h11])), (h11, .inr (10, [.ref h12, .ref h13, .ref a9, .ref a10, .ref a11, .int (nI 0), .int (nI 0), .int (nI 60), .int (nI 0), .int (nI 2), .int (nI 0), .int (nI 0), .int (nI 0), .int (nI 0), .int (nI 0), .int (nI 0), .int (nI 0)])), (h12, .inr (13, [.int (nI 0), .ref (G 0), .int (nI 0)])), (h13, .inr (13, [.int (nI 1), .ref h14, .int (nI 1)])), (h14, .inl (K 4, 10, .inr (.inr (.inr (.inr (va_up (fun _ => none) 0 (some h15))))))), (h15, .inl (K 2, 4, .inl (fun _ => (-1))))] H) (hD : va_D (fun q : Nat => s.heap.size ≤ q) [(h0, .inr (9, [.ref h1, .ref h7, .ref h2, .ref a0, .ref h6, .ref a1, .ref a2, .ref a3, .int (nI 0)])), (h1, .inr (5, [.ref h3, .int (nI 0)])), (h2, .inr (3, [.ref h4, .ref a4, .ref a5, .int (nI 0), .int (nI 0), .int (nI 100), .int (nI 60), .ref a6])), (h3, .inl (K 0, 200, .inr (.inr (.inr (.inr (fun _ => none)))))), (h4, .inr (5, [.ref h5, .int (nI 0)])), (h5, .inl (K 0, 200, .inr (.inr (.inr (.inr (fun _ => none)))))), (h6, .inr (1, [.ref h1, .ref h7, .int (nI 0)])), (h7, .inr (4, [.ref a7, .ref h8, .ref a8, .int (nI 1)])), (h8, .inl (K 0, 32, .inr (.inr (.inr (.inr (fun _ => none)))))), (h9, .inl (K 3, 1, .inr (.inl (fun _ => 0)))), (h10, .inr (12, [.int (nI 0), .ref h11])), (h11, .inr (10, [.ref h12, .ref h13, .ref a9, .ref a10, .ref a11, .int (nI 0), .int (nI 0), .int (nI 60), .int (nI 0), .int (nI 2), .int (nI 0), .int (nI 0), .int (nI 0), .int (nI 0), .int (nI 0), .int (nI 0), .int (nI 0)])), (h12, .inr (13, [.int (nI 0), .ref (G 0), .int (nI 0)])), (h13, .inr (13, [.int (nI 1), .ref h14, .int (nI 1)])), (h14, .inl (K 4, 10, .inr (.inr (.inr (.inr (va_up (fun _ => none) 0 (some h15))))))), (h15, .inl (K 2, 4, .inl (fun _ => (-1))))]) (hS : va_S (fun q : Nat => s.heap.size ≤ q) s.heap H locs) {ls : Array Slot} (hl : lv_has ls 9 [(0, .ref b), (1, .ref h0), (2, .ref h10), (3, .ref h9), (4, .int (nI 0))]) : W p l e room_1 s m #[Value.ref b] below meth c H locs cells slots (lw_Z below #[Value.ref b] s) (F0 m 256 ls []) := by
  have hA : ∀ q : Nat, s.heap.size ≤ q → (fun q : Nat => s.heap.size ≤ q) q := fun _ h => h
  have hbA : ¬ (fun q : Nat => s.heap.size ≤ q) b := Nat.not_le.mpr hbl
  refine lv_aload_n hx hb dL_law_256 rfl (lv_at hl 1 rfl) ?_
  refine lv_aload_n hx hb dL_law_257 rfl (lv_at hl 0 rfl) ?_
  refine lv_iload hx hb dL_law_258 (lv_at hl 4 rfl) ?_
  refine lv_iconst (v := nI 1) hx hb dL_law_260 (by decide +kernel) ?_
  refine lv_iadd hx hb dL_law_261 ?_
  refine w_toeq (show (nI 0) + (nI 1) = nI 1 by decide +kernel) ?_
  refine va_sld hx hb hX hbl hbA hS (vp_in_nI (n := 1) (by decide) (by decide)) dL_law_262 ?_
  refine w_toeq (show xs (nI 1).toNatClampNeg = nI ya by rw [nI_clamp (n := 1) (by decide)]; exact hx1) ?_
  refine lv_aload_n hx hb dL_law_263 rfl (lv_at hl 0 rfl) ?_
  refine lv_iload hx hb dL_law_264 (lv_at hl 4 rfl) ?_
  refine lv_iconst (v := nI 2) hx hb dL_law_266 (by decide +kernel) ?_
  refine lv_iadd hx hb dL_law_267 ?_
  refine w_toeq (show (nI 0) + (nI 2) = nI 2 by decide +kernel) ?_
  refine va_sld hx hb hX hbl hbA hS (vp_in_nI (n := 2) (by decide) (by decide)) dL_law_268 ?_
  refine w_toeq (show xs (nI 2).toNatClampNeg = nI 0 by rw [nI_clamp (n := 2) (by decide)]; exact hx2) ?_
  refine lv_aload_n hx hb dL_law_269 rfl (lv_at hl 0 rfl) ?_
  refine lv_iload hx hb dL_law_270 (lv_at hl 4 rfl) ?_
  refine lv_iconst (v := nI 3) hx hb dL_law_272 (by decide +kernel) ?_
  refine lv_iadd hx hb dL_law_273 ?_
  refine w_toeq (show (nI 0) + (nI 3) = nI 3 by decide +kernel) ?_
  refine va_sld hx hb hX hbl hbA hS (vp_in_nI (n := 3) (by decide) (by decide)) dL_law_274 ?_
  refine w_toeq (show xs (nI 3).toNatClampNeg = nI 7 by rw [nI_clamp (n := 3) (by decide)]; exact hx3) ?_
  refine lv_aload_n hx hb dL_law_275 rfl (lv_at hl 3 rfl) ?_
  refine k_i (wr := [(h10, .inr (12, [.int (nI 0), .ref h11])), (h11, .inr (10, [.ref h12, .ref h13, .ref a9, .ref a10, .ref a11, .int (nI 0), .int (nI 0), .int (nI 60), .int (nI 0), .int (nI 2), .int (nI 0), .int (nI 0), .int (nI 0), .int (nI 0), .int (nI 0), .int (nI 0), .int (nI 0)])), (h12, .inr (13, [.int (nI 0), .ref (G 0), .int (nI 0)])), (h13, .inr (13, [.int (nI 1), .ref h14, .int (nI 1)])), (h14, .inl (K 4, 10, .inr (.inr (.inr (.inr (va_up (fun _ => none) 0 (some h15))))))), (h15, .inl (K 2, 4, .inl (fun _ => (-1))))]) (run_SW hnc (rest := []) hx hb hml hown hts hK hP hD hS hA hm (C1086_make l G D K H.size h0 h1 h2 h3 h4 h5 h6 h7 h8 h9 (.ref a0) (.ref a1) (.ref a2) (.ref a3) (.int (nI 0)) (.ref a4) (.ref a5) (.int (nI 100)) (.int (nI 60)) (.ref a6) (.ref h1) (.ref h7) (.ref a7) (.ref a8) (fun _ => none) (fun _ => none) (fun _ => none) (fun _ => 0) ya (by omega) (by omega)) [0, 1, 2, 3, 4, 5, 6, 7, 8, 9] rfl rfl mokh_yL_make w_786 w_787 ⟨Nat.le_of_ble_eq_true rfl, Nat.le_of_ble_eq_true rfl⟩ rfl hl.1 rfl (Nat.le_of_ble_eq_true rfl) dL_law_276 ⟨(by dsimp only [room_1]; omega), (by dsimp only [room_1]; omega)⟩) hP hD hS hA [0, 1, 2, 3, 4, 5, 6, 7, 8, 9] [10, 11, 12, 13, 14, 15] rfl rfl rfl (by decide) (w2 := fun u0 => [(h10, .inr (12, [.int (nI 0), .ref h11])), (h11, .inr (10, [.ref h12, .ref h13, .ref a9, .ref a10, .ref a11, .int (nI 0), .int (nI 0), .int (nI 60), .int (nI 0), .int (nI 2), .int (nI 0), .int (nI 0), .int (nI 0), .int (nI 0), .int (nI 0), .int (nI 0), .int (nI 0)])), (h12, .inr (13, [.int (nI 0), .ref (G 0), .int (nI 0)])), (h13, .inr (13, [.int (nI 1), .ref h14, .int (nI 1)])), (h14, .inl (K 4, 10, .inr (.inr (.inr (.inr (va_up (fun _ => none) 0 (some h15))))))), (h15, .inl (K 2, 4, .inl (fun _ => (-1)))), (h9, .inl (K 3, 1, .inr (.inl (vp_updL (fun _ => 0) 0 0)))), (h0, .inr (9, [.ref h1, .ref h7, .ref h2, .ref a0, .ref h6, .ref a1, .ref a2, .ref a3, .int (nI 0)])), (h1, .inr (5, [.ref h3, .int (nI 1)])), (h3, .inl (K 0, 200, .inr (.inr (.inr (.inr (va_up (fun _ => none) 0 (some (u0 0)))))))), ((u0 1), .inl (K 0, 7, .inr (.inr (.inr (.inr (fun _ => none)))))), (h2, .inr (3, [.ref h4, .ref a4, .ref a5, .int (nI 0), .int (nI 9), .int (nI 100), .int (nI 60), .ref a6])), (h4, .inr (5, [.ref h5, .int (nI 1)])), (h5, .inl (K 0, 200, .inr (.inr (.inr (.inr (va_up (fun _ => none) 0 (some (u0 0)))))))), (h6, .inr (1, [.ref h1, .ref h7, .int (nI 0)])), (h8, .inl (K 0, 32, .inr (.inr (.inr (.inr (va_up (fun _ => none) (0 + ya) (some (u0 0)))))))), ((u0 0), .inr (7, [.int (nI 0), .ref (u0 1), .int (nI 0), .int (nI 1), .int (nI 0), .int (nI 9), .int (nI 9), .int (nI 0), .int (-1), .int (nI 0), .int (nI 0), .int (nI 0), .int (nI 0), .int (nI 0)])), (h7, .inr (4, [.ref a7, .ref h8, .ref a8, .int (nI 1)]))]) (fun _ => rfl) (fun u0 H locs hP hD hS => ?_)
  refine lv_istore (lv' := [(5, .int (nI 0)), (0, .ref b), (1, .ref h0), (2, .ref h10), (3, .ref h9), (4, .int (nI 0))]) hx hb dL_law_279 hl (by decide) rfl (fun ls hl => ?_)
  refine lv_aload_n hx hb dL_law_281 rfl (lv_at hl 3 rfl) ?_
  refine lv_aload_n hx hb dL_law_282 rfl (lv_at hl 1 rfl) ?_
  refine lv_iload hx hb dL_law_283 (lv_at hl 5 rfl) ?_
  refine lv_iconst (v := nI 1) hx hb dL_law_285 (by decide +kernel) ?_
  refine lv_iadd hx hb dL_law_286 ?_
  refine w_toeq (show (nI 0) + (nI 1) = nI 1 by decide +kernel) ?_
  refine va_sld hx hb hX hbl hbA hS (vp_in_nI (n := 1) (by decide) (by decide)) dL_law_287 ?_
  refine w_toeq (show xs (nI 1).toNatClampNeg = nI ya by rw [nI_clamp (n := 1) (by decide)]; exact hx1) ?_
  refine lv_aload_n hx hb dL_law_288 rfl (lv_at hl 1 rfl) ?_
  refine lv_iload hx hb dL_law_289 (lv_at hl 5 rfl) ?_
  refine lv_iconst (v := nI 2) hx hb dL_law_291 (by decide +kernel) ?_
  refine lv_iadd hx hb dL_law_292 ?_
  refine w_toeq (show (nI 0) + (nI 2) = nI 2 by decide +kernel) ?_
  refine va_sld hx hb hX hbl hbA hS (vp_in_nI (n := 2) (by decide) (by decide)) dL_law_293 ?_
  refine w_toeq (show xs (nI 2).toNatClampNeg = nI 0 by rw [nI_clamp (n := 2) (by decide)]; exact hx2) ?_
  refine lv_aload_n hx hb dL_law_294 rfl (lv_at hl 1 rfl) ?_
  refine lv_iload hx hb dL_law_295 (lv_at hl 5 rfl) ?_
  refine lv_iconst (v := nI 3) hx hb dL_law_297 (by decide +kernel) ?_
  refine lv_iadd hx hb dL_law_298 ?_
  refine w_toeq (show (nI 0) + (nI 3) = nI 3 by decide +kernel) ?_
  refine va_sld hx hb hX hbl hbA hS (vp_in_nI (n := 3) (by decide) (by decide)) dL_law_299 ?_
  refine w_toeq (show xs (nI 3).toNatClampNeg = nI 7 by rw [nI_clamp (n := 3) (by decide)]; exact hx3) ?_
  refine k_i (wr := [(h9, .inl (K 3, 1, .inr (.inl (vp_updL (fun _ => 0) 0 0)))), (h0, .inr (9, [.ref h1, .ref h7, .ref h2, .ref a0, .ref h6, .ref a1, .ref a2, .ref a3, .int (nI 0)])), (h1, .inr (5, [.ref h3, .int (nI 1)])), (h3, .inl (K 0, 200, .inr (.inr (.inr (.inr (va_up (fun _ => none) 0 (some (u0 0)))))))), ((u0 1), .inl (K 0, 7, .inr (.inr (.inr (.inr (fun _ => none)))))), (h2, .inr (3, [.ref h4, .ref a4, .ref a5, .int (nI 0), .int (nI 9), .int (nI 100), .int (nI 60), .ref a6])), (h4, .inr (5, [.ref h5, .int (nI 1)])), (h5, .inl (K 0, 200, .inr (.inr (.inr (.inr (va_up (fun _ => none) 0 (some (u0 0)))))))), (h6, .inr (1, [.ref h1, .ref h7, .int (nI 0)])), (h8, .inl (K 0, 32, .inr (.inr (.inr (.inr (va_up (fun _ => none) (0 + ya) (some (u0 0)))))))), ((u0 0), .inr (7, [.int (nI 0), .ref (u0 1), .int (nI 0), .int (nI 1), .int (nI 0), .int (nI 9), .int (nI 9), .int (nI 0), .int (-1), .int (nI 0), .int (nI 0), .int (nI 0), .int (nI 0), .int (nI 0)])), (h7, .inr (4, [.ref a7, .ref h8, .ref a8, .int (nI 1)]))]) (run_V (rest := []) hx hb hml hown hts hK hP hD hS hA hm (C199_make l G D K H.size h10 h11 h12 h13 h14 h15 (.ref a9) (.ref a10) (.ref a11) (.int (nI 60)) (.int (nI 0)) (.int (nI 2)) (.int (nI 0)) (.int (nI 0)) (.int (nI 0)) (.int (nI 0)) (.int (nI 0)) (.int (nI 0)) (.int (nI 0)) (.int (nI 1)) (fun _ => (-1)) ya (by omega) (by omega)) [0, 1, 2, 3, 4, 5] rfl rfl mok_yX12_make w_1341 w_1342 w_1343 (rcv hK hP 0 rfl rfl rfl) ⟨Nat.le_of_ble_eq_true rfl, Nat.le_of_ble_eq_true rfl⟩ rfl hl.1 rfl (Nat.le_of_ble_eq_true rfl) dL_law_300 ⟨(by dsimp only [room_1]; omega), (by dsimp only [room_1]; omega)⟩) hP hD hS hA [0, 1, 2, 3, 4, 5] [6, 7, 8, 9, 10, 11, 12, 13, 14, 15, 16, 17] rfl rfl rfl (by decide) (w2 := fun u1 => [(h9, .inl (K 3, 1, .inr (.inl (vp_updL (fun _ => 0) 0 0)))), (h0, .inr (9, [.ref h1, .ref h7, .ref h2, .ref a0, .ref h6, .ref a1, .ref a2, .ref a3, .int (nI 0)])), (h1, .inr (5, [.ref h3, .int (nI 1)])), (h3, .inl (K 0, 200, .inr (.inr (.inr (.inr (va_up (fun _ => none) 0 (some (u0 0)))))))), ((u0 1), .inl (K 0, 7, .inr (.inr (.inr (.inr (fun _ => none)))))), (h2, .inr (3, [.ref h4, .ref a4, .ref a5, .int (nI 0), .int (nI 9), .int (nI 100), .int (nI 60), .ref a6])), (h4, .inr (5, [.ref h5, .int (nI 1)])), (h5, .inl (K 0, 200, .inr (.inr (.inr (.inr (va_up (fun _ => none) 0 (some (u0 0)))))))), (h6, .inr (1, [.ref h1, .ref h7, .int (nI 0)])), (h8, .inl (K 0, 32, .inr (.inr (.inr (.inr (va_up (fun _ => none) (0 + ya) (some (u0 0)))))))), ((u0 0), .inr (7, [.int (nI 0), .ref (u0 1), .int (nI 0), .int (nI 1), .int (nI 0), .int (nI 9), .int (nI 9), .int (nI 0), .int (-1), .int (nI 0), .int (nI 0), .int (nI 0), .int (nI 0), .int (nI 0)])), (h7, .inr (4, [.ref a7, .ref h8, .ref a8, .int (nI 1)])), (h12, .inr (13, [.int (nI 1), .ref (u1 2), .int (nI 1)])), ((u1 2), .inl (K 4, 10, .inr (.inr (.inr (.inr (va_up (fun _ => none) 0 (some (u1 0)))))))), ((u1 0), .inr (11, [.int (nI 0), .ref (u1 1), .int (nI 0), .int (nI 1), .int (nI 0), .int (nI 0), .int (-1), .int (nI 2), .int (nI 0), .int (nI 0), .int (nI 0)])), ((u1 1), .inl (K 2, 7, .inl (fun _ => (-1)))), (h10, .inr (12, [.int (nI 0), .ref h11])), (h11, .inr (10, [.ref h12, .ref h13, .ref a9, .ref a10, .ref a11, .int (nI 0), .int (nI 9), .int (nI 60), .int (nI 0), .int (nI 2), .int (nI 0), .int (nI 0), .int (nI 0), .int (nI 0), .int (nI 0), .int (nI 0), .int (nI 0)])), (h15, .inl (K 2, 4, .inl (upd (fun _ => (-1)) ya (nI 0)))), (h13, .inr (13, [.int (nI 1), .ref h14, .int (nI 1)])), (h14, .inl (K 4, 10, .inr (.inr (.inr (.inr (va_up (fun _ => none) 0 (some h15)))))))]) (fun _ => rfl) (fun u1 H locs hP hD hS => ?_)
  refine lv_istore (lv' := [(6, .int (nI 0)), (5, .int (nI 0)), (0, .ref b), (1, .ref h0), (2, .ref h10), (3, .ref h9), (4, .int (nI 0))]) hx hb dL_law_303 hl (by decide) rfl (fun ls hl => ?_)
  refine lv_aload_n hx hb dL_law_305 rfl (lv_at hl 4 rfl) ?_
  refine k_i (wr := [(h9, .inl (K 3, 1, .inr (.inl (vp_updL (fun _ => 0) 0 0)))), (h0, .inr (9, [.ref h1, .ref h7, .ref h2, .ref a0, .ref h6, .ref a1, .ref a2, .ref a3, .int (nI 0)])), (h1, .inr (5, [.ref h3, .int (nI 1)])), (h3, .inl (K 0, 200, .inr (.inr (.inr (.inr (va_up (fun _ => none) 0 (some (u0 0)))))))), ((u0 1), .inl (K 0, 7, .inr (.inr (.inr (.inr (fun _ => none)))))), (h2, .inr (3, [.ref h4, .ref a4, .ref a5, .int (nI 0), .int (nI 9), .int (nI 100), .int (nI 60), .ref a6])), (h4, .inr (5, [.ref h5, .int (nI 1)])), (h5, .inl (K 0, 200, .inr (.inr (.inr (.inr (va_up (fun _ => none) 0 (some (u0 0)))))))), (h6, .inr (1, [.ref h1, .ref h7, .int (nI 0)])), (h8, .inl (K 0, 32, .inr (.inr (.inr (.inr (va_up (fun _ => none) (0 + ya) (some (u0 0)))))))), ((u0 0), .inr (7, [.int (nI 0), .ref (u0 1), .int (nI 0), .int (nI 1), .int (nI 0), .int (nI 9), .int (nI 9), .int (nI 0), .int (-1), .int (nI 0), .int (nI 0), .int (nI 0), .int (nI 0), .int (nI 0)])), (h7, .inr (4, [.ref a7, .ref h8, .ref a8, .int (nI 1)])), (h12, .inr (13, [.int (nI 1), .ref (u1 2), .int (nI 1)])), ((u1 2), .inl (K 4, 10, .inr (.inr (.inr (.inr (va_up (fun _ => none) 0 (some (u1 0)))))))), ((u1 0), .inr (11, [.int (nI 0), .ref (u1 1), .int (nI 0), .int (nI 1), .int (nI 0), .int (nI 0), .int (-1), .int (nI 2), .int (nI 0), .int (nI 0), .int (nI 0)])), ((u1 1), .inl (K 2, 7, .inl (fun _ => (-1)))), (h11, .inr (10, [.ref h12, .ref h13, .ref a9, .ref a10, .ref a11, .int (nI 0), .int (nI 9), .int (nI 60), .int (nI 0), .int (nI 2), .int (nI 0), .int (nI 0), .int (nI 0), .int (nI 0), .int (nI 0), .int (nI 0), .int (nI 0)])), (h15, .inl (K 2, 4, .inl (upd (fun _ => (-1)) ya (nI 0)))), (h13, .inr (13, [.int (nI 1), .ref h14, .int (nI 1)])), (h14, .inl (K 4, 10, .inr (.inr (.inr (.inr (va_up (fun _ => none) 0 (some h15)))))))]) (run_V (rest := []) hx hb hml hown hts hK hP hD hS hA hm (C1057_thrown l G D K H.size h10 (.ref h11)) [16] rfl rfl mok_yX12_thrown w_1300 w_1301 w_1302 (rcv hK hP 16 rfl rfl rfl) ⟨Nat.le_of_ble_eq_true rfl, Nat.le_of_ble_eq_true rfl⟩ rfl hl.1 rfl (Nat.le_of_ble_eq_true rfl) dL_law_306 ⟨(by dsimp only [room_1]; omega), (by dsimp only [room_1]; omega)⟩) hP hD hS hA [16] [0, 1, 2, 3, 4, 5, 6, 7, 8, 9, 10, 11, 12, 13, 14, 15, 17, 18, 19, 20] rfl rfl rfl (by decide) (w2 := fun u2 => [(h9, .inl (K 3, 1, .inr (.inl (vp_updL (fun _ => 0) 0 0)))), (h0, .inr (9, [.ref h1, .ref h7, .ref h2, .ref a0, .ref h6, .ref a1, .ref a2, .ref a3, .int (nI 0)])), (h1, .inr (5, [.ref h3, .int (nI 1)])), (h3, .inl (K 0, 200, .inr (.inr (.inr (.inr (va_up (fun _ => none) 0 (some (u0 0)))))))), ((u0 1), .inl (K 0, 7, .inr (.inr (.inr (.inr (fun _ => none)))))), (h2, .inr (3, [.ref h4, .ref a4, .ref a5, .int (nI 0), .int (nI 9), .int (nI 100), .int (nI 60), .ref a6])), (h4, .inr (5, [.ref h5, .int (nI 1)])), (h5, .inl (K 0, 200, .inr (.inr (.inr (.inr (va_up (fun _ => none) 0 (some (u0 0)))))))), (h6, .inr (1, [.ref h1, .ref h7, .int (nI 0)])), (h8, .inl (K 0, 32, .inr (.inr (.inr (.inr (va_up (fun _ => none) (0 + ya) (some (u0 0)))))))), ((u0 0), .inr (7, [.int (nI 0), .ref (u0 1), .int (nI 0), .int (nI 1), .int (nI 0), .int (nI 9), .int (nI 9), .int (nI 0), .int (-1), .int (nI 0), .int (nI 0), .int (nI 0), .int (nI 0), .int (nI 0)])), (h7, .inr (4, [.ref a7, .ref h8, .ref a8, .int (nI 1)])), (h12, .inr (13, [.int (nI 1), .ref (u1 2), .int (nI 1)])), ((u1 2), .inl (K 4, 10, .inr (.inr (.inr (.inr (va_up (fun _ => none) 0 (some (u1 0)))))))), ((u1 0), .inr (11, [.int (nI 0), .ref (u1 1), .int (nI 0), .int (nI 1), .int (nI 0), .int (nI 0), .int (-1), .int (nI 2), .int (nI 0), .int (nI 0), .int (nI 0)])), ((u1 1), .inl (K 2, 7, .inl (fun _ => (-1)))), (h11, .inr (10, [.ref h12, .ref h13, .ref a9, .ref a10, .ref a11, .int (nI 0), .int (nI 9), .int (nI 60), .int (nI 0), .int (nI 2), .int (nI 0), .int (nI 0), .int (nI 0), .int (nI 0), .int (nI 0), .int (nI 0), .int (nI 0)])), (h15, .inl (K 2, 4, .inl (upd (fun _ => (-1)) ya (nI 0)))), (h13, .inr (13, [.int (nI 1), .ref h14, .int (nI 1)])), (h14, .inl (K 4, 10, .inr (.inr (.inr (.inr (va_up (fun _ => none) 0 (some h15))))))), (h10, .inr (12, [.int (nI 0), .ref h11]))]) (fun _ => rfl) (fun u2 H locs hP hD hS => ?_)
  refine lv_iload hx hb dL_law_309 (lv_at hl 1 rfl) ?_
  refine lv_icmp_eq (tgt := 316) hx hb dL_law_311 (by decide) (fun _ => ?_) (fun c9 => absurd (by decide +kernel) c9)
  refine lv_iload hx hb dL_law_316 (lv_at hl 1 rfl) ?_
  refine lv_if_ne (tgt := 333) hx hb dL_law_318 (by decide) (fun c9 => absurd (by decide +kernel) c9) (fun _ => ?_)
  refine lv_aload_n hx hb dL_law_321 rfl (lv_at hl 5 rfl) ?_
  refine lv_iconst (v := nI 0) hx hb dL_law_322 (by decide +kernel) ?_
  refine r_lald (k := 0) hx hb hK hP 0 3 rfl rfl (Nat.le_of_ble_eq_true rfl) (by decide) (v := 0) rfl dL_law_323 ?_
  refine lv_iload hx hb dL_law_324 (lv_at hl 0 rfl) ?_
  refine lv_i2l (v := 0) hx hb dL_law_326 (by decide +kernel) ?_
  refine W.lcmp hx hb dL_law_327 ?_
  refine w_toeq (show lg_cmp 0 0 = nI 0 by decide +kernel) ?_
  refine lv_if_eq (tgt := 333) hx hb dL_law_328 (by decide) (fun _ => ?_) (fun c9 => absurd (by decide +kernel) c9)
  refine lv_goto (tgt := 1762) hx hb dL_law_333 (by decide) ?_
  refine lv_iinc (v := nI 4) (lv' := [(4, .int (nI 4)), (6, .int (nI 0)), (5, .int (nI 0)), (0, .ref b), (1, .ref h0), (2, .ref h10), (3, .ref h9)]) hx hb dL_law_1762 hl (k := 6) rfl (by decide +kernel) (by decide) rfl (fun ls hl => ?_)
  refine lv_goto (tgt := 23) hx hb dL_law_1765 (by decide) ?_
  refine lv_iload hx hb dL_law_23 (lv_at hl 0 rfl) ?_
  refine lv_aload_n hx hb dL_law_25 rfl (lv_at hl 3 rfl) ?_
  refine va_slen hx hb hX hbl hbA hS dL_law_26 ?_
  refine w_toeq (show Int32.ofNat 4 = nI 4 from rfl) ?_
  refine lv_iconst (v := nI 4) hx hb dL_law_27 (by decide +kernel) ?_
  refine lv_isub hx hb dL_law_28 ?_
  refine w_toeq (show (nI 4) - (nI 4) = nI 0 by decide +kernel) ?_
  refine lv_icmp_gt (tgt := 1768) hx hb dL_law_29 (by decide) (fun _ => ?_) (fun c9 => absurd (by decide +kernel) c9)
  refine lv_iconst (v := nI 1) hx hb dL_law_1768 (by decide +kernel) ?_
  exact law_end hx hb hr hlk hS (by dsimp only; omega) (by dsimp only; omega) dL_law_1769
set_option maxHeartbeats 4000000 in
set_option maxRecDepth 100000 in
theorem LW28_make {p : Program} {e : Env} {s : State} {m : MethodId} {below : List Frame} {meth : Method} {c : Code} {l : Launch} {G : Nat → Nat} {D : va_G} {K : Nat → ClassId} {b : Nat} {xs : Nat → Int32} (hx : p.tables.exec = Jvm.exec) (hb : c.code = cL_law) (hr : meth.sig.returnType = some .boolean) (hlk : meth.locks = false) (hl0 : l.stackTraces = false) (hnc : Ncs s) (hml : c.maxLocals = 9) (hown : s.vm.findClass RL = some m.cls) (hts : ∀ w ∈ lw_gw, w.before #[Value.ref b] s = true) (hK : va_K D cl (tys K) s) (hm : Amb G (fun q : Nat => s.heap.size ≤ q) s s.heap) (hX : va_X b 4 xs s s.heap) (hbl : b < s.heap.size) {h0 h1 h2 h3 h4 h5 h6 h7 h8 h9 h10 h11 h12 h13 h14 h15 a0 a1 a2 a3 a4 a5 a6 a7 a8 a9 a10 a11 : Nat} (ya : Nat) (lya : 0 ≤ ya) (gya : ya ≤ 3) (hx1 : xs 1 = nI ya) (hx2 : xs 2 = nI 0) (hx3 : xs 3 = nI 8) {H : Heap} {locs : List Loc} {cells slots : Nat} (hcs : cells ≤ 1000) (hss : slots ≤ 100000) (hP : va_P D cl [(h0, .inr (9, [.ref h1, .ref h7, .ref h2, .ref a0, .ref h6, .ref a1, .ref a2, .ref a3, .int (nI 0)])), (h1, .inr (5, [.ref h3, .int (nI 0)])), (h2, .inr (3, [.ref h4, .ref a4, .ref a5, .int (nI 0), .int (nI 0), .int (nI 100), .int (nI 60), .ref a6])), (h3, .inl (K 0, 200, .inr (.inr (.inr (.inr (fun _ => none)))))), (h4, .inr (5, [.ref h5, .int (nI 0)])), (h5, .inl (K 0, 200, .inr (.inr (.inr (.inr (fun _ => none)))))), (h6, .inr (1, [.ref h1, .ref h7, .int (nI 0)])), (h7, .inr (4, [.ref a7, .ref h8, .ref a8, .int (nI 1)])), (h8, .inl (K 0, 32, .inr (.inr (.inr (.inr (fun _ => none)))))), (h9, .inl (K 3, 1, .inr (.inl (fun _ => 0)))), (h10, .inr (12, [.int (nI 0), .ref h11])), (h11, .inr (10, [.ref h12, .ref h13, .ref a9, .ref a10, .ref a11, .int (nI 0), .int (nI 0), .int (nI 60), .int (nI 0), .int (nI 2), .int (nI 0), .int (nI 0), .int (nI 0), .int (nI 0), .int (nI 0), .int (nI 0), .int (nI 0)])), (h12, .inr (13, [.int (nI 0), .ref (G 0), .int (nI 0)])), (h13, .inr (13, [.int (nI 1), .ref h14, .int (nI 1)])), (h14, .inl (K 4, 10, .inr (.inr (.inr (.inr (va_up (fun _ => none) 0 (some h15))))))), (h15, .inl (K 2, 4, .inl (fun _ => (-1))))] H) (hD : va_D (fun q : Nat => s.heap.size ≤ q) [(h0, .inr (9, [.ref h1, .ref h7, .ref h2, .ref a0, .ref h6, .ref a1, .ref a2, .ref a3, .int (nI 0)])), (h1, .inr (5, [.ref h3, .int (nI 0)])), (h2, .inr (3, [.ref h4, .ref a4, .ref a5, .int (nI 0), .int (nI 0), .int (nI 100), .int (nI 60), .ref a6])), (h3, .inl (K 0, 200, .inr (.inr (.inr (.inr (fun _ => none)))))), (h4, .inr (5, [.ref h5, .int (nI 0)])), (h5, .inl (K 0, 200, .inr (.inr (.inr (.inr (fun _ => none)))))), (h6, .inr (1, [.ref h1, .ref h7, .int (nI 0)])), (h7, .inr (4, [.ref a7, .ref h8, .ref a8, .int (nI 1)])), (h8, .inl (K 0, 32, .inr (.inr (.inr (.inr (fun _ => none)))))), (h9, .inl (K 3, 1, .inr (.inl (fun _ => 0)))), (h10, .inr (12, [.int (nI 0), .ref h11])), (h11, .inr (10, [.ref h12, .ref h13, .ref a9, .ref a10, .ref a11, .int (nI 0), .int (nI 0), .int (nI 60), .int (nI 0), .int (nI 2), .int (nI 0), .int (nI 0), .int (nI 0), .int (nI 0), .int (nI 0), .int (nI 0), .int (nI 0)])), (h12, .inr (13, [.int (nI 0), .ref (G 0), .int (nI 0)])), (h13, .inr (13, [.int (nI 1), .ref h14, .int (nI 1)])), (h14, .inl (K 4, 10, .inr (.inr (.inr (.inr (va_up (fun _ => none) 0 (some h15))))))), (h15, .inl (K 2, 4, .inl (fun _ => (-1))))]) (hS : va_S (fun q : Nat => s.heap.size ≤ q) s.heap H locs) {ls : Array Slot} (hl : lv_has ls 9 [(0, .ref b), (1, .ref h0), (2, .ref h10), (3, .ref h9), (4, .int (nI 0))]) : W p l e room_1 s m #[Value.ref b] below meth c H locs cells slots (lw_Z below #[Value.ref b] s) (F0 m 256 ls []) := by
  have hA : ∀ q : Nat, s.heap.size ≤ q → (fun q : Nat => s.heap.size ≤ q) q := fun _ h => h
  have hbA : ¬ (fun q : Nat => s.heap.size ≤ q) b := Nat.not_le.mpr hbl
  refine lv_aload_n hx hb dL_law_256 rfl (lv_at hl 1 rfl) ?_
  refine lv_aload_n hx hb dL_law_257 rfl (lv_at hl 0 rfl) ?_
  refine lv_iload hx hb dL_law_258 (lv_at hl 4 rfl) ?_
  refine lv_iconst (v := nI 1) hx hb dL_law_260 (by decide +kernel) ?_
  refine lv_iadd hx hb dL_law_261 ?_
  refine w_toeq (show (nI 0) + (nI 1) = nI 1 by decide +kernel) ?_
  refine va_sld hx hb hX hbl hbA hS (vp_in_nI (n := 1) (by decide) (by decide)) dL_law_262 ?_
  refine w_toeq (show xs (nI 1).toNatClampNeg = nI ya by rw [nI_clamp (n := 1) (by decide)]; exact hx1) ?_
  refine lv_aload_n hx hb dL_law_263 rfl (lv_at hl 0 rfl) ?_
  refine lv_iload hx hb dL_law_264 (lv_at hl 4 rfl) ?_
  refine lv_iconst (v := nI 2) hx hb dL_law_266 (by decide +kernel) ?_
  refine lv_iadd hx hb dL_law_267 ?_
  refine w_toeq (show (nI 0) + (nI 2) = nI 2 by decide +kernel) ?_
  refine va_sld hx hb hX hbl hbA hS (vp_in_nI (n := 2) (by decide) (by decide)) dL_law_268 ?_
  refine w_toeq (show xs (nI 2).toNatClampNeg = nI 0 by rw [nI_clamp (n := 2) (by decide)]; exact hx2) ?_
  refine lv_aload_n hx hb dL_law_269 rfl (lv_at hl 0 rfl) ?_
  refine lv_iload hx hb dL_law_270 (lv_at hl 4 rfl) ?_
  refine lv_iconst (v := nI 3) hx hb dL_law_272 (by decide +kernel) ?_
  refine lv_iadd hx hb dL_law_273 ?_
  refine w_toeq (show (nI 0) + (nI 3) = nI 3 by decide +kernel) ?_
  refine va_sld hx hb hX hbl hbA hS (vp_in_nI (n := 3) (by decide) (by decide)) dL_law_274 ?_
  refine w_toeq (show xs (nI 3).toNatClampNeg = nI 8 by rw [nI_clamp (n := 3) (by decide)]; exact hx3) ?_
  refine lv_aload_n hx hb dL_law_275 rfl (lv_at hl 3 rfl) ?_
  refine k_i (wr := [(h10, .inr (12, [.int (nI 0), .ref h11])), (h11, .inr (10, [.ref h12, .ref h13, .ref a9, .ref a10, .ref a11, .int (nI 0), .int (nI 0), .int (nI 60), .int (nI 0), .int (nI 2), .int (nI 0), .int (nI 0), .int (nI 0), .int (nI 0), .int (nI 0), .int (nI 0), .int (nI 0)])), (h12, .inr (13, [.int (nI 0), .ref (G 0), .int (nI 0)])), (h13, .inr (13, [.int (nI 1), .ref h14, .int (nI 1)])), (h14, .inl (K 4, 10, .inr (.inr (.inr (.inr (va_up (fun _ => none) 0 (some h15))))))), (h15, .inl (K 2, 4, .inl (fun _ => (-1))))]) (run_SW hnc (rest := []) hx hb hml hown hts hK hP hD hS hA hm (C1087_make l G D K H.size h0 h1 h2 h3 h4 h5 h6 h7 h8 h9 (.ref a0) (.ref a1) (.ref a2) (.ref a3) (.int (nI 0)) (.ref a4) (.ref a5) (.int (nI 100)) (.int (nI 60)) (.ref a6) (.ref h1) (.ref h7) (.ref a7) (.ref a8) (fun _ => none) (fun _ => none) (fun _ => none) (fun _ => 0) ya (by omega) (by omega)) [0, 1, 2, 3, 4, 5, 6, 7, 8, 9] rfl rfl mokh_yL_make w_786 w_787 ⟨Nat.le_of_ble_eq_true rfl, Nat.le_of_ble_eq_true rfl⟩ rfl hl.1 rfl (Nat.le_of_ble_eq_true rfl) dL_law_276 ⟨(by dsimp only [room_1]; omega), (by dsimp only [room_1]; omega)⟩) hP hD hS hA [0, 1, 2, 3, 4, 5, 6, 7, 8, 9] [10, 11, 12, 13, 14, 15] rfl rfl rfl (by decide) (w2 := fun u0 => [(h10, .inr (12, [.int (nI 0), .ref h11])), (h11, .inr (10, [.ref h12, .ref h13, .ref a9, .ref a10, .ref a11, .int (nI 0), .int (nI 0), .int (nI 60), .int (nI 0), .int (nI 2), .int (nI 0), .int (nI 0), .int (nI 0), .int (nI 0), .int (nI 0), .int (nI 0), .int (nI 0)])), (h12, .inr (13, [.int (nI 0), .ref (G 0), .int (nI 0)])), (h13, .inr (13, [.int (nI 1), .ref h14, .int (nI 1)])), (h14, .inl (K 4, 10, .inr (.inr (.inr (.inr (va_up (fun _ => none) 0 (some h15))))))), (h15, .inl (K 2, 4, .inl (fun _ => (-1)))), (h9, .inl (K 3, 1, .inr (.inl (vp_updL (fun _ => 0) 0 0)))), (h0, .inr (9, [.ref h1, .ref h7, .ref h2, .ref a0, .ref h6, .ref a1, .ref a2, .ref a3, .int (nI 0)])), (h1, .inr (5, [.ref h3, .int (nI 1)])), (h3, .inl (K 0, 200, .inr (.inr (.inr (.inr (va_up (fun _ => none) 0 (some (u0 0)))))))), ((u0 1), .inl (K 0, 8, .inr (.inr (.inr (.inr (fun _ => none)))))), (h2, .inr (3, [.ref h4, .ref a4, .ref a5, .int (nI 0), .int (nI 10), .int (nI 100), .int (nI 60), .ref a6])), (h4, .inr (5, [.ref h5, .int (nI 1)])), (h5, .inl (K 0, 200, .inr (.inr (.inr (.inr (va_up (fun _ => none) 0 (some (u0 0)))))))), (h6, .inr (1, [.ref h1, .ref h7, .int (nI 0)])), (h8, .inl (K 0, 32, .inr (.inr (.inr (.inr (va_up (fun _ => none) (0 + ya) (some (u0 0)))))))), ((u0 0), .inr (7, [.int (nI 0), .ref (u0 1), .int (nI 0), .int (nI 1), .int (nI 0), .int (nI 10), .int (nI 10), .int (nI 0), .int (-1), .int (nI 0), .int (nI 0), .int (nI 0), .int (nI 0), .int (nI 0)])), (h7, .inr (4, [.ref a7, .ref h8, .ref a8, .int (nI 1)]))]) (fun _ => rfl) (fun u0 H locs hP hD hS => ?_)
  refine lv_istore (lv' := [(5, .int (nI 0)), (0, .ref b), (1, .ref h0), (2, .ref h10), (3, .ref h9), (4, .int (nI 0))]) hx hb dL_law_279 hl (by decide) rfl (fun ls hl => ?_)
  refine lv_aload_n hx hb dL_law_281 rfl (lv_at hl 3 rfl) ?_
  refine lv_aload_n hx hb dL_law_282 rfl (lv_at hl 1 rfl) ?_
  refine lv_iload hx hb dL_law_283 (lv_at hl 5 rfl) ?_
  refine lv_iconst (v := nI 1) hx hb dL_law_285 (by decide +kernel) ?_
  refine lv_iadd hx hb dL_law_286 ?_
  refine w_toeq (show (nI 0) + (nI 1) = nI 1 by decide +kernel) ?_
  refine va_sld hx hb hX hbl hbA hS (vp_in_nI (n := 1) (by decide) (by decide)) dL_law_287 ?_
  refine w_toeq (show xs (nI 1).toNatClampNeg = nI ya by rw [nI_clamp (n := 1) (by decide)]; exact hx1) ?_
  refine lv_aload_n hx hb dL_law_288 rfl (lv_at hl 1 rfl) ?_
  refine lv_iload hx hb dL_law_289 (lv_at hl 5 rfl) ?_
  refine lv_iconst (v := nI 2) hx hb dL_law_291 (by decide +kernel) ?_
  refine lv_iadd hx hb dL_law_292 ?_
  refine w_toeq (show (nI 0) + (nI 2) = nI 2 by decide +kernel) ?_
  refine va_sld hx hb hX hbl hbA hS (vp_in_nI (n := 2) (by decide) (by decide)) dL_law_293 ?_
  refine w_toeq (show xs (nI 2).toNatClampNeg = nI 0 by rw [nI_clamp (n := 2) (by decide)]; exact hx2) ?_
  refine lv_aload_n hx hb dL_law_294 rfl (lv_at hl 1 rfl) ?_
  refine lv_iload hx hb dL_law_295 (lv_at hl 5 rfl) ?_
  refine lv_iconst (v := nI 3) hx hb dL_law_297 (by decide +kernel) ?_
  refine lv_iadd hx hb dL_law_298 ?_
  refine w_toeq (show (nI 0) + (nI 3) = nI 3 by decide +kernel) ?_
  refine va_sld hx hb hX hbl hbA hS (vp_in_nI (n := 3) (by decide) (by decide)) dL_law_299 ?_
  refine w_toeq (show xs (nI 3).toNatClampNeg = nI 8 by rw [nI_clamp (n := 3) (by decide)]; exact hx3) ?_
  refine k_i (wr := [(h9, .inl (K 3, 1, .inr (.inl (vp_updL (fun _ => 0) 0 0)))), (h0, .inr (9, [.ref h1, .ref h7, .ref h2, .ref a0, .ref h6, .ref a1, .ref a2, .ref a3, .int (nI 0)])), (h1, .inr (5, [.ref h3, .int (nI 1)])), (h3, .inl (K 0, 200, .inr (.inr (.inr (.inr (va_up (fun _ => none) 0 (some (u0 0)))))))), ((u0 1), .inl (K 0, 8, .inr (.inr (.inr (.inr (fun _ => none)))))), (h2, .inr (3, [.ref h4, .ref a4, .ref a5, .int (nI 0), .int (nI 10), .int (nI 100), .int (nI 60), .ref a6])), (h4, .inr (5, [.ref h5, .int (nI 1)])), (h5, .inl (K 0, 200, .inr (.inr (.inr (.inr (va_up (fun _ => none) 0 (some (u0 0)))))))), (h6, .inr (1, [.ref h1, .ref h7, .int (nI 0)])), (h8, .inl (K 0, 32, .inr (.inr (.inr (.inr (va_up (fun _ => none) (0 + ya) (some (u0 0)))))))), ((u0 0), .inr (7, [.int (nI 0), .ref (u0 1), .int (nI 0), .int (nI 1), .int (nI 0), .int (nI 10), .int (nI 10), .int (nI 0), .int (-1), .int (nI 0), .int (nI 0), .int (nI 0), .int (nI 0), .int (nI 0)])), (h7, .inr (4, [.ref a7, .ref h8, .ref a8, .int (nI 1)]))]) (run_V (rest := []) hx hb hml hown hts hK hP hD hS hA hm (C211_make l G D K H.size h10 h11 h12 h13 h14 h15 (.ref a9) (.ref a10) (.ref a11) (.int (nI 60)) (.int (nI 0)) (.int (nI 2)) (.int (nI 0)) (.int (nI 0)) (.int (nI 0)) (.int (nI 0)) (.int (nI 0)) (.int (nI 0)) (.int (nI 0)) (.int (nI 1)) (fun _ => (-1)) ya (by omega) (by omega)) [0, 1, 2, 3, 4, 5] rfl rfl mok_yX12_make w_1341 w_1342 w_1343 (rcv hK hP 0 rfl rfl rfl) ⟨Nat.le_of_ble_eq_true rfl, Nat.le_of_ble_eq_true rfl⟩ rfl hl.1 rfl (Nat.le_of_ble_eq_true rfl) dL_law_300 ⟨(by dsimp only [room_1]; omega), (by dsimp only [room_1]; omega)⟩) hP hD hS hA [0, 1, 2, 3, 4, 5] [6, 7, 8, 9, 10, 11, 12, 13, 14, 15, 16, 17] rfl rfl rfl (by decide) (w2 := fun u1 => [(h9, .inl (K 3, 1, .inr (.inl (vp_updL (fun _ => 0) 0 0)))), (h0, .inr (9, [.ref h1, .ref h7, .ref h2, .ref a0, .ref h6, .ref a1, .ref a2, .ref a3, .int (nI 0)])), (h1, .inr (5, [.ref h3, .int (nI 1)])), (h3, .inl (K 0, 200, .inr (.inr (.inr (.inr (va_up (fun _ => none) 0 (some (u0 0)))))))), ((u0 1), .inl (K 0, 8, .inr (.inr (.inr (.inr (fun _ => none)))))), (h2, .inr (3, [.ref h4, .ref a4, .ref a5, .int (nI 0), .int (nI 10), .int (nI 100), .int (nI 60), .ref a6])), (h4, .inr (5, [.ref h5, .int (nI 1)])), (h5, .inl (K 0, 200, .inr (.inr (.inr (.inr (va_up (fun _ => none) 0 (some (u0 0)))))))), (h6, .inr (1, [.ref h1, .ref h7, .int (nI 0)])), (h8, .inl (K 0, 32, .inr (.inr (.inr (.inr (va_up (fun _ => none) (0 + ya) (some (u0 0)))))))), ((u0 0), .inr (7, [.int (nI 0), .ref (u0 1), .int (nI 0), .int (nI 1), .int (nI 0), .int (nI 10), .int (nI 10), .int (nI 0), .int (-1), .int (nI 0), .int (nI 0), .int (nI 0), .int (nI 0), .int (nI 0)])), (h7, .inr (4, [.ref a7, .ref h8, .ref a8, .int (nI 1)])), (h12, .inr (13, [.int (nI 1), .ref (u1 2), .int (nI 1)])), ((u1 2), .inl (K 4, 10, .inr (.inr (.inr (.inr (va_up (fun _ => none) 0 (some (u1 0)))))))), ((u1 0), .inr (11, [.int (nI 0), .ref (u1 1), .int (nI 0), .int (nI 1), .int (nI 0), .int (nI 0), .int (-1), .int (nI 2), .int (nI 0), .int (nI 0), .int (nI 0)])), ((u1 1), .inl (K 2, 8, .inl (fun _ => (-1)))), (h10, .inr (12, [.int (nI 0), .ref h11])), (h11, .inr (10, [.ref h12, .ref h13, .ref a9, .ref a10, .ref a11, .int (nI 0), .int (nI 10), .int (nI 60), .int (nI 0), .int (nI 2), .int (nI 0), .int (nI 0), .int (nI 0), .int (nI 0), .int (nI 0), .int (nI 0), .int (nI 0)])), (h15, .inl (K 2, 4, .inl (upd (fun _ => (-1)) ya (nI 0)))), (h13, .inr (13, [.int (nI 1), .ref h14, .int (nI 1)])), (h14, .inl (K 4, 10, .inr (.inr (.inr (.inr (va_up (fun _ => none) 0 (some h15)))))))]) (fun _ => rfl) (fun u1 H locs hP hD hS => ?_)
  refine lv_istore (lv' := [(6, .int (nI 0)), (5, .int (nI 0)), (0, .ref b), (1, .ref h0), (2, .ref h10), (3, .ref h9), (4, .int (nI 0))]) hx hb dL_law_303 hl (by decide) rfl (fun ls hl => ?_)
  refine lv_aload_n hx hb dL_law_305 rfl (lv_at hl 4 rfl) ?_
  refine k_i (wr := [(h9, .inl (K 3, 1, .inr (.inl (vp_updL (fun _ => 0) 0 0)))), (h0, .inr (9, [.ref h1, .ref h7, .ref h2, .ref a0, .ref h6, .ref a1, .ref a2, .ref a3, .int (nI 0)])), (h1, .inr (5, [.ref h3, .int (nI 1)])), (h3, .inl (K 0, 200, .inr (.inr (.inr (.inr (va_up (fun _ => none) 0 (some (u0 0)))))))), ((u0 1), .inl (K 0, 8, .inr (.inr (.inr (.inr (fun _ => none)))))), (h2, .inr (3, [.ref h4, .ref a4, .ref a5, .int (nI 0), .int (nI 10), .int (nI 100), .int (nI 60), .ref a6])), (h4, .inr (5, [.ref h5, .int (nI 1)])), (h5, .inl (K 0, 200, .inr (.inr (.inr (.inr (va_up (fun _ => none) 0 (some (u0 0)))))))), (h6, .inr (1, [.ref h1, .ref h7, .int (nI 0)])), (h8, .inl (K 0, 32, .inr (.inr (.inr (.inr (va_up (fun _ => none) (0 + ya) (some (u0 0)))))))), ((u0 0), .inr (7, [.int (nI 0), .ref (u0 1), .int (nI 0), .int (nI 1), .int (nI 0), .int (nI 10), .int (nI 10), .int (nI 0), .int (-1), .int (nI 0), .int (nI 0), .int (nI 0), .int (nI 0), .int (nI 0)])), (h7, .inr (4, [.ref a7, .ref h8, .ref a8, .int (nI 1)])), (h12, .inr (13, [.int (nI 1), .ref (u1 2), .int (nI 1)])), ((u1 2), .inl (K 4, 10, .inr (.inr (.inr (.inr (va_up (fun _ => none) 0 (some (u1 0)))))))), ((u1 0), .inr (11, [.int (nI 0), .ref (u1 1), .int (nI 0), .int (nI 1), .int (nI 0), .int (nI 0), .int (-1), .int (nI 2), .int (nI 0), .int (nI 0), .int (nI 0)])), ((u1 1), .inl (K 2, 8, .inl (fun _ => (-1)))), (h11, .inr (10, [.ref h12, .ref h13, .ref a9, .ref a10, .ref a11, .int (nI 0), .int (nI 10), .int (nI 60), .int (nI 0), .int (nI 2), .int (nI 0), .int (nI 0), .int (nI 0), .int (nI 0), .int (nI 0), .int (nI 0), .int (nI 0)])), (h15, .inl (K 2, 4, .inl (upd (fun _ => (-1)) ya (nI 0)))), (h13, .inr (13, [.int (nI 1), .ref h14, .int (nI 1)])), (h14, .inl (K 4, 10, .inr (.inr (.inr (.inr (va_up (fun _ => none) 0 (some h15)))))))]) (run_V (rest := []) hx hb hml hown hts hK hP hD hS hA hm (C1057_thrown l G D K H.size h10 (.ref h11)) [16] rfl rfl mok_yX12_thrown w_1300 w_1301 w_1302 (rcv hK hP 16 rfl rfl rfl) ⟨Nat.le_of_ble_eq_true rfl, Nat.le_of_ble_eq_true rfl⟩ rfl hl.1 rfl (Nat.le_of_ble_eq_true rfl) dL_law_306 ⟨(by dsimp only [room_1]; omega), (by dsimp only [room_1]; omega)⟩) hP hD hS hA [16] [0, 1, 2, 3, 4, 5, 6, 7, 8, 9, 10, 11, 12, 13, 14, 15, 17, 18, 19, 20] rfl rfl rfl (by decide) (w2 := fun u2 => [(h9, .inl (K 3, 1, .inr (.inl (vp_updL (fun _ => 0) 0 0)))), (h0, .inr (9, [.ref h1, .ref h7, .ref h2, .ref a0, .ref h6, .ref a1, .ref a2, .ref a3, .int (nI 0)])), (h1, .inr (5, [.ref h3, .int (nI 1)])), (h3, .inl (K 0, 200, .inr (.inr (.inr (.inr (va_up (fun _ => none) 0 (some (u0 0)))))))), ((u0 1), .inl (K 0, 8, .inr (.inr (.inr (.inr (fun _ => none)))))), (h2, .inr (3, [.ref h4, .ref a4, .ref a5, .int (nI 0), .int (nI 10), .int (nI 100), .int (nI 60), .ref a6])), (h4, .inr (5, [.ref h5, .int (nI 1)])), (h5, .inl (K 0, 200, .inr (.inr (.inr (.inr (va_up (fun _ => none) 0 (some (u0 0)))))))), (h6, .inr (1, [.ref h1, .ref h7, .int (nI 0)])), (h8, .inl (K 0, 32, .inr (.inr (.inr (.inr (va_up (fun _ => none) (0 + ya) (some (u0 0)))))))), ((u0 0), .inr (7, [.int (nI 0), .ref (u0 1), .int (nI 0), .int (nI 1), .int (nI 0), .int (nI 10), .int (nI 10), .int (nI 0), .int (-1), .int (nI 0), .int (nI 0), .int (nI 0), .int (nI 0), .int (nI 0)])), (h7, .inr (4, [.ref a7, .ref h8, .ref a8, .int (nI 1)])), (h12, .inr (13, [.int (nI 1), .ref (u1 2), .int (nI 1)])), ((u1 2), .inl (K 4, 10, .inr (.inr (.inr (.inr (va_up (fun _ => none) 0 (some (u1 0)))))))), ((u1 0), .inr (11, [.int (nI 0), .ref (u1 1), .int (nI 0), .int (nI 1), .int (nI 0), .int (nI 0), .int (-1), .int (nI 2), .int (nI 0), .int (nI 0), .int (nI 0)])), ((u1 1), .inl (K 2, 8, .inl (fun _ => (-1)))), (h11, .inr (10, [.ref h12, .ref h13, .ref a9, .ref a10, .ref a11, .int (nI 0), .int (nI 10), .int (nI 60), .int (nI 0), .int (nI 2), .int (nI 0), .int (nI 0), .int (nI 0), .int (nI 0), .int (nI 0), .int (nI 0), .int (nI 0)])), (h15, .inl (K 2, 4, .inl (upd (fun _ => (-1)) ya (nI 0)))), (h13, .inr (13, [.int (nI 1), .ref h14, .int (nI 1)])), (h14, .inl (K 4, 10, .inr (.inr (.inr (.inr (va_up (fun _ => none) 0 (some h15))))))), (h10, .inr (12, [.int (nI 0), .ref h11]))]) (fun _ => rfl) (fun u2 H locs hP hD hS => ?_)
  refine lv_iload hx hb dL_law_309 (lv_at hl 1 rfl) ?_
  refine lv_icmp_eq (tgt := 316) hx hb dL_law_311 (by decide) (fun _ => ?_) (fun c9 => absurd (by decide +kernel) c9)
  refine lv_iload hx hb dL_law_316 (lv_at hl 1 rfl) ?_
  refine lv_if_ne (tgt := 333) hx hb dL_law_318 (by decide) (fun c9 => absurd (by decide +kernel) c9) (fun _ => ?_)
  refine lv_aload_n hx hb dL_law_321 rfl (lv_at hl 5 rfl) ?_
  refine lv_iconst (v := nI 0) hx hb dL_law_322 (by decide +kernel) ?_
  refine r_lald (k := 0) hx hb hK hP 0 3 rfl rfl (Nat.le_of_ble_eq_true rfl) (by decide) (v := 0) rfl dL_law_323 ?_
  refine lv_iload hx hb dL_law_324 (lv_at hl 0 rfl) ?_
  refine lv_i2l (v := 0) hx hb dL_law_326 (by decide +kernel) ?_
  refine W.lcmp hx hb dL_law_327 ?_
  refine w_toeq (show lg_cmp 0 0 = nI 0 by decide +kernel) ?_
  refine lv_if_eq (tgt := 333) hx hb dL_law_328 (by decide) (fun _ => ?_) (fun c9 => absurd (by decide +kernel) c9)
  refine lv_goto (tgt := 1762) hx hb dL_law_333 (by decide) ?_
  refine lv_iinc (v := nI 4) (lv' := [(4, .int (nI 4)), (6, .int (nI 0)), (5, .int (nI 0)), (0, .ref b), (1, .ref h0), (2, .ref h10), (3, .ref h9)]) hx hb dL_law_1762 hl (k := 6) rfl (by decide +kernel) (by decide) rfl (fun ls hl => ?_)
  refine lv_goto (tgt := 23) hx hb dL_law_1765 (by decide) ?_
  refine lv_iload hx hb dL_law_23 (lv_at hl 0 rfl) ?_
  refine lv_aload_n hx hb dL_law_25 rfl (lv_at hl 3 rfl) ?_
  refine va_slen hx hb hX hbl hbA hS dL_law_26 ?_
  refine w_toeq (show Int32.ofNat 4 = nI 4 from rfl) ?_
  refine lv_iconst (v := nI 4) hx hb dL_law_27 (by decide +kernel) ?_
  refine lv_isub hx hb dL_law_28 ?_
  refine w_toeq (show (nI 4) - (nI 4) = nI 0 by decide +kernel) ?_
  refine lv_icmp_gt (tgt := 1768) hx hb dL_law_29 (by decide) (fun _ => ?_) (fun c9 => absurd (by decide +kernel) c9)
  refine lv_iconst (v := nI 1) hx hb dL_law_1768 (by decide +kernel) ?_
  exact law_end hx hb hr hlk hS (by dsimp only; omega) (by dsimp only; omega) dL_law_1769
set_option maxHeartbeats 4000000 in
set_option maxRecDepth 100000 in
theorem LW29_make {p : Program} {e : Env} {s : State} {m : MethodId} {below : List Frame} {meth : Method} {c : Code} {l : Launch} {G : Nat → Nat} {D : va_G} {K : Nat → ClassId} {b : Nat} {xs : Nat → Int32} (hx : p.tables.exec = Jvm.exec) (hb : c.code = cL_law) (hr : meth.sig.returnType = some .boolean) (hlk : meth.locks = false) (hl0 : l.stackTraces = false) (hnc : Ncs s) (hml : c.maxLocals = 9) (hown : s.vm.findClass RL = some m.cls) (hts : ∀ w ∈ lw_gw, w.before #[Value.ref b] s = true) (hK : va_K D cl (tys K) s) (hm : Amb G (fun q : Nat => s.heap.size ≤ q) s s.heap) (hX : va_X b 4 xs s s.heap) (hbl : b < s.heap.size) {h0 h1 h2 h3 h4 h5 h6 h7 h8 h9 h10 h11 h12 h13 h14 h15 a0 a1 a2 a3 a4 a5 a6 a7 a8 a9 a10 a11 : Nat} (ya : Nat) (lya : 0 ≤ ya) (gya : ya ≤ 3) (hx1 : xs 1 = nI ya) (hx2 : xs 2 = nI 0) (hx3 : xs 3 = nI 9) {H : Heap} {locs : List Loc} {cells slots : Nat} (hcs : cells ≤ 1000) (hss : slots ≤ 100000) (hP : va_P D cl [(h0, .inr (9, [.ref h1, .ref h7, .ref h2, .ref a0, .ref h6, .ref a1, .ref a2, .ref a3, .int (nI 0)])), (h1, .inr (5, [.ref h3, .int (nI 0)])), (h2, .inr (3, [.ref h4, .ref a4, .ref a5, .int (nI 0), .int (nI 0), .int (nI 100), .int (nI 60), .ref a6])), (h3, .inl (K 0, 200, .inr (.inr (.inr (.inr (fun _ => none)))))), (h4, .inr (5, [.ref h5, .int (nI 0)])), (h5, .inl (K 0, 200, .inr (.inr (.inr (.inr (fun _ => none)))))), (h6, .inr (1, [.ref h1, .ref h7, .int (nI 0)])), (h7, .inr (4, [.ref a7, .ref h8, .ref a8, .int (nI 1)])), (h8, .inl (K 0, 32, .inr (.inr (.inr (.inr (fun _ => none)))))), (h9, .inl (K 3, 1, .inr (.inl (fun _ => 0)))), (h10, .inr (12, [.int (nI 0), .ref h11])), (h11, .inr (10, [.ref h12, .ref h13, .ref a9, .ref a10, .ref a11, .int (nI 0), .int (nI 0), .int (nI 60), .int (nI 0), .int (nI 2), .int (nI 0), .int (nI 0), .int (nI 0), .int (nI 0), .int (nI 0), .int (nI 0), .int (nI 0)])), (h12, .inr (13, [.int (nI 0), .ref (G 0), .int (nI 0)])), (h13, .inr (13, [.int (nI 1), .ref h14, .int (nI 1)])), (h14, .inl (K 4, 10, .inr (.inr (.inr (.inr (va_up (fun _ => none) 0 (some h15))))))), (h15, .inl (K 2, 4, .inl (fun _ => (-1))))] H) (hD : va_D (fun q : Nat => s.heap.size ≤ q) [(h0, .inr (9, [.ref h1, .ref h7, .ref h2, .ref a0, .ref h6, .ref a1, .ref a2, .ref a3, .int (nI 0)])), (h1, .inr (5, [.ref h3, .int (nI 0)])), (h2, .inr (3, [.ref h4, .ref a4, .ref a5, .int (nI 0), .int (nI 0), .int (nI 100), .int (nI 60), .ref a6])), (h3, .inl (K 0, 200, .inr (.inr (.inr (.inr (fun _ => none)))))), (h4, .inr (5, [.ref h5, .int (nI 0)])), (h5, .inl (K 0, 200, .inr (.inr (.inr (.inr (fun _ => none)))))), (h6, .inr (1, [.ref h1, .ref h7, .int (nI 0)])), (h7, .inr (4, [.ref a7, .ref h8, .ref a8, .int (nI 1)])), (h8, .inl (K 0, 32, .inr (.inr (.inr (.inr (fun _ => none)))))), (h9, .inl (K 3, 1, .inr (.inl (fun _ => 0)))), (h10, .inr (12, [.int (nI 0), .ref h11])), (h11, .inr (10, [.ref h12, .ref h13, .ref a9, .ref a10, .ref a11, .int (nI 0), .int (nI 0), .int (nI 60), .int (nI 0), .int (nI 2), .int (nI 0), .int (nI 0), .int (nI 0), .int (nI 0), .int (nI 0), .int (nI 0), .int (nI 0)])), (h12, .inr (13, [.int (nI 0), .ref (G 0), .int (nI 0)])), (h13, .inr (13, [.int (nI 1), .ref h14, .int (nI 1)])), (h14, .inl (K 4, 10, .inr (.inr (.inr (.inr (va_up (fun _ => none) 0 (some h15))))))), (h15, .inl (K 2, 4, .inl (fun _ => (-1))))]) (hS : va_S (fun q : Nat => s.heap.size ≤ q) s.heap H locs) {ls : Array Slot} (hl : lv_has ls 9 [(0, .ref b), (1, .ref h0), (2, .ref h10), (3, .ref h9), (4, .int (nI 0))]) : W p l e room_1 s m #[Value.ref b] below meth c H locs cells slots (lw_Z below #[Value.ref b] s) (F0 m 256 ls []) := by
  have hA : ∀ q : Nat, s.heap.size ≤ q → (fun q : Nat => s.heap.size ≤ q) q := fun _ h => h
  have hbA : ¬ (fun q : Nat => s.heap.size ≤ q) b := Nat.not_le.mpr hbl
  refine lv_aload_n hx hb dL_law_256 rfl (lv_at hl 1 rfl) ?_
  refine lv_aload_n hx hb dL_law_257 rfl (lv_at hl 0 rfl) ?_
  refine lv_iload hx hb dL_law_258 (lv_at hl 4 rfl) ?_
  refine lv_iconst (v := nI 1) hx hb dL_law_260 (by decide +kernel) ?_
  refine lv_iadd hx hb dL_law_261 ?_
  refine w_toeq (show (nI 0) + (nI 1) = nI 1 by decide +kernel) ?_
  refine va_sld hx hb hX hbl hbA hS (vp_in_nI (n := 1) (by decide) (by decide)) dL_law_262 ?_
  refine w_toeq (show xs (nI 1).toNatClampNeg = nI ya by rw [nI_clamp (n := 1) (by decide)]; exact hx1) ?_
  refine lv_aload_n hx hb dL_law_263 rfl (lv_at hl 0 rfl) ?_
  refine lv_iload hx hb dL_law_264 (lv_at hl 4 rfl) ?_
  refine lv_iconst (v := nI 2) hx hb dL_law_266 (by decide +kernel) ?_
  refine lv_iadd hx hb dL_law_267 ?_
  refine w_toeq (show (nI 0) + (nI 2) = nI 2 by decide +kernel) ?_
  refine va_sld hx hb hX hbl hbA hS (vp_in_nI (n := 2) (by decide) (by decide)) dL_law_268 ?_
  refine w_toeq (show xs (nI 2).toNatClampNeg = nI 0 by rw [nI_clamp (n := 2) (by decide)]; exact hx2) ?_
  refine lv_aload_n hx hb dL_law_269 rfl (lv_at hl 0 rfl) ?_
  refine lv_iload hx hb dL_law_270 (lv_at hl 4 rfl) ?_
  refine lv_iconst (v := nI 3) hx hb dL_law_272 (by decide +kernel) ?_
  refine lv_iadd hx hb dL_law_273 ?_
  refine w_toeq (show (nI 0) + (nI 3) = nI 3 by decide +kernel) ?_
  refine va_sld hx hb hX hbl hbA hS (vp_in_nI (n := 3) (by decide) (by decide)) dL_law_274 ?_
  refine w_toeq (show xs (nI 3).toNatClampNeg = nI 9 by rw [nI_clamp (n := 3) (by decide)]; exact hx3) ?_
  refine lv_aload_n hx hb dL_law_275 rfl (lv_at hl 3 rfl) ?_
  refine k_i (wr := [(h10, .inr (12, [.int (nI 0), .ref h11])), (h11, .inr (10, [.ref h12, .ref h13, .ref a9, .ref a10, .ref a11, .int (nI 0), .int (nI 0), .int (nI 60), .int (nI 0), .int (nI 2), .int (nI 0), .int (nI 0), .int (nI 0), .int (nI 0), .int (nI 0), .int (nI 0), .int (nI 0)])), (h12, .inr (13, [.int (nI 0), .ref (G 0), .int (nI 0)])), (h13, .inr (13, [.int (nI 1), .ref h14, .int (nI 1)])), (h14, .inl (K 4, 10, .inr (.inr (.inr (.inr (va_up (fun _ => none) 0 (some h15))))))), (h15, .inl (K 2, 4, .inl (fun _ => (-1))))]) (run_SW hnc (rest := []) hx hb hml hown hts hK hP hD hS hA hm (C1088_make l G D K H.size h0 h1 h2 h3 h4 h5 h6 h7 h8 h9 (.ref a0) (.ref a1) (.ref a2) (.ref a3) (.int (nI 0)) (.ref a4) (.ref a5) (.int (nI 100)) (.int (nI 60)) (.ref a6) (.ref h1) (.ref h7) (.ref a7) (.ref a8) (fun _ => none) (fun _ => none) (fun _ => none) (fun _ => 0) ya (by omega) (by omega)) [0, 1, 2, 3, 4, 5, 6, 7, 8, 9] rfl rfl mokh_yL_make w_786 w_787 ⟨Nat.le_of_ble_eq_true rfl, Nat.le_of_ble_eq_true rfl⟩ rfl hl.1 rfl (Nat.le_of_ble_eq_true rfl) dL_law_276 ⟨(by dsimp only [room_1]; omega), (by dsimp only [room_1]; omega)⟩) hP hD hS hA [0, 1, 2, 3, 4, 5, 6, 7, 8, 9] [10, 11, 12, 13, 14, 15] rfl rfl rfl (by decide) (w2 := fun u0 => [(h10, .inr (12, [.int (nI 0), .ref h11])), (h11, .inr (10, [.ref h12, .ref h13, .ref a9, .ref a10, .ref a11, .int (nI 0), .int (nI 0), .int (nI 60), .int (nI 0), .int (nI 2), .int (nI 0), .int (nI 0), .int (nI 0), .int (nI 0), .int (nI 0), .int (nI 0), .int (nI 0)])), (h12, .inr (13, [.int (nI 0), .ref (G 0), .int (nI 0)])), (h13, .inr (13, [.int (nI 1), .ref h14, .int (nI 1)])), (h14, .inl (K 4, 10, .inr (.inr (.inr (.inr (va_up (fun _ => none) 0 (some h15))))))), (h15, .inl (K 2, 4, .inl (fun _ => (-1)))), (h9, .inl (K 3, 1, .inr (.inl (vp_updL (fun _ => 0) 0 0)))), (h0, .inr (9, [.ref h1, .ref h7, .ref h2, .ref a0, .ref h6, .ref a1, .ref a2, .ref a3, .int (nI 0)])), (h1, .inr (5, [.ref h3, .int (nI 1)])), (h3, .inl (K 0, 200, .inr (.inr (.inr (.inr (va_up (fun _ => none) 0 (some (u0 0)))))))), ((u0 1), .inl (K 0, 9, .inr (.inr (.inr (.inr (fun _ => none)))))), (h2, .inr (3, [.ref h4, .ref a4, .ref a5, .int (nI 0), .int (nI 11), .int (nI 100), .int (nI 60), .ref a6])), (h4, .inr (5, [.ref h5, .int (nI 1)])), (h5, .inl (K 0, 200, .inr (.inr (.inr (.inr (va_up (fun _ => none) 0 (some (u0 0)))))))), (h6, .inr (1, [.ref h1, .ref h7, .int (nI 0)])), (h8, .inl (K 0, 32, .inr (.inr (.inr (.inr (va_up (fun _ => none) (0 + ya) (some (u0 0)))))))), ((u0 0), .inr (7, [.int (nI 0), .ref (u0 1), .int (nI 0), .int (nI 1), .int (nI 0), .int (nI 11), .int (nI 11), .int (nI 0), .int (-1), .int (nI 0), .int (nI 0), .int (nI 0), .int (nI 0), .int (nI 0)])), (h7, .inr (4, [.ref a7, .ref h8, .ref a8, .int (nI 1)]))]) (fun _ => rfl) (fun u0 H locs hP hD hS => ?_)
  refine lv_istore (lv' := [(5, .int (nI 0)), (0, .ref b), (1, .ref h0), (2, .ref h10), (3, .ref h9), (4, .int (nI 0))]) hx hb dL_law_279 hl (by decide) rfl (fun ls hl => ?_)
  refine lv_aload_n hx hb dL_law_281 rfl (lv_at hl 3 rfl) ?_
  refine lv_aload_n hx hb dL_law_282 rfl (lv_at hl 1 rfl) ?_
  refine lv_iload hx hb dL_law_283 (lv_at hl 5 rfl) ?_
  refine lv_iconst (v := nI 1) hx hb dL_law_285 (by decide +kernel) ?_
  refine lv_iadd hx hb dL_law_286 ?_
  refine w_toeq (show (nI 0) + (nI 1) = nI 1 by decide +kernel) ?_
  refine va_sld hx hb hX hbl hbA hS (vp_in_nI (n := 1) (by decide) (by decide)) dL_law_287 ?_
  refine w_toeq (show xs (nI 1).toNatClampNeg = nI ya by rw [nI_clamp (n := 1) (by decide)]; exact hx1) ?_
  refine lv_aload_n hx hb dL_law_288 rfl (lv_at hl 1 rfl) ?_
  refine lv_iload hx hb dL_law_289 (lv_at hl 5 rfl) ?_
  refine lv_iconst (v := nI 2) hx hb dL_law_291 (by decide +kernel) ?_
  refine lv_iadd hx hb dL_law_292 ?_
  refine w_toeq (show (nI 0) + (nI 2) = nI 2 by decide +kernel) ?_
  refine va_sld hx hb hX hbl hbA hS (vp_in_nI (n := 2) (by decide) (by decide)) dL_law_293 ?_
  refine w_toeq (show xs (nI 2).toNatClampNeg = nI 0 by rw [nI_clamp (n := 2) (by decide)]; exact hx2) ?_
  refine lv_aload_n hx hb dL_law_294 rfl (lv_at hl 1 rfl) ?_
  refine lv_iload hx hb dL_law_295 (lv_at hl 5 rfl) ?_
  refine lv_iconst (v := nI 3) hx hb dL_law_297 (by decide +kernel) ?_
  refine lv_iadd hx hb dL_law_298 ?_
  refine w_toeq (show (nI 0) + (nI 3) = nI 3 by decide +kernel) ?_
  refine va_sld hx hb hX hbl hbA hS (vp_in_nI (n := 3) (by decide) (by decide)) dL_law_299 ?_
  refine w_toeq (show xs (nI 3).toNatClampNeg = nI 9 by rw [nI_clamp (n := 3) (by decide)]; exact hx3) ?_
  refine k_i (wr := [(h9, .inl (K 3, 1, .inr (.inl (vp_updL (fun _ => 0) 0 0)))), (h0, .inr (9, [.ref h1, .ref h7, .ref h2, .ref a0, .ref h6, .ref a1, .ref a2, .ref a3, .int (nI 0)])), (h1, .inr (5, [.ref h3, .int (nI 1)])), (h3, .inl (K 0, 200, .inr (.inr (.inr (.inr (va_up (fun _ => none) 0 (some (u0 0)))))))), ((u0 1), .inl (K 0, 9, .inr (.inr (.inr (.inr (fun _ => none)))))), (h2, .inr (3, [.ref h4, .ref a4, .ref a5, .int (nI 0), .int (nI 11), .int (nI 100), .int (nI 60), .ref a6])), (h4, .inr (5, [.ref h5, .int (nI 1)])), (h5, .inl (K 0, 200, .inr (.inr (.inr (.inr (va_up (fun _ => none) 0 (some (u0 0)))))))), (h6, .inr (1, [.ref h1, .ref h7, .int (nI 0)])), (h8, .inl (K 0, 32, .inr (.inr (.inr (.inr (va_up (fun _ => none) (0 + ya) (some (u0 0)))))))), ((u0 0), .inr (7, [.int (nI 0), .ref (u0 1), .int (nI 0), .int (nI 1), .int (nI 0), .int (nI 11), .int (nI 11), .int (nI 0), .int (-1), .int (nI 0), .int (nI 0), .int (nI 0), .int (nI 0), .int (nI 0)])), (h7, .inr (4, [.ref a7, .ref h8, .ref a8, .int (nI 1)]))]) (run_V (rest := []) hx hb hml hown hts hK hP hD hS hA hm (C223_make l G D K H.size h10 h11 h12 h13 h14 h15 (.ref a9) (.ref a10) (.ref a11) (.int (nI 60)) (.int (nI 0)) (.int (nI 2)) (.int (nI 0)) (.int (nI 0)) (.int (nI 0)) (.int (nI 0)) (.int (nI 0)) (.int (nI 0)) (.int (nI 0)) (.int (nI 1)) (fun _ => (-1)) ya (by omega) (by omega)) [0, 1, 2, 3, 4, 5] rfl rfl mok_yX12_make w_1341 w_1342 w_1343 (rcv hK hP 0 rfl rfl rfl) ⟨Nat.le_of_ble_eq_true rfl, Nat.le_of_ble_eq_true rfl⟩ rfl hl.1 rfl (Nat.le_of_ble_eq_true rfl) dL_law_300 ⟨(by dsimp only [room_1]; omega), (by dsimp only [room_1]; omega)⟩) hP hD hS hA [0, 1, 2, 3, 4, 5] [6, 7, 8, 9, 10, 11, 12, 13, 14, 15, 16, 17] rfl rfl rfl (by decide) (w2 := fun u1 => [(h9, .inl (K 3, 1, .inr (.inl (vp_updL (fun _ => 0) 0 0)))), (h0, .inr (9, [.ref h1, .ref h7, .ref h2, .ref a0, .ref h6, .ref a1, .ref a2, .ref a3, .int (nI 0)])), (h1, .inr (5, [.ref h3, .int (nI 1)])), (h3, .inl (K 0, 200, .inr (.inr (.inr (.inr (va_up (fun _ => none) 0 (some (u0 0)))))))), ((u0 1), .inl (K 0, 9, .inr (.inr (.inr (.inr (fun _ => none)))))), (h2, .inr (3, [.ref h4, .ref a4, .ref a5, .int (nI 0), .int (nI 11), .int (nI 100), .int (nI 60), .ref a6])), (h4, .inr (5, [.ref h5, .int (nI 1)])), (h5, .inl (K 0, 200, .inr (.inr (.inr (.inr (va_up (fun _ => none) 0 (some (u0 0)))))))), (h6, .inr (1, [.ref h1, .ref h7, .int (nI 0)])), (h8, .inl (K 0, 32, .inr (.inr (.inr (.inr (va_up (fun _ => none) (0 + ya) (some (u0 0)))))))), ((u0 0), .inr (7, [.int (nI 0), .ref (u0 1), .int (nI 0), .int (nI 1), .int (nI 0), .int (nI 11), .int (nI 11), .int (nI 0), .int (-1), .int (nI 0), .int (nI 0), .int (nI 0), .int (nI 0), .int (nI 0)])), (h7, .inr (4, [.ref a7, .ref h8, .ref a8, .int (nI 1)])), (h12, .inr (13, [.int (nI 1), .ref (u1 2), .int (nI 1)])), ((u1 2), .inl (K 4, 10, .inr (.inr (.inr (.inr (va_up (fun _ => none) 0 (some (u1 0)))))))), ((u1 0), .inr (11, [.int (nI 0), .ref (u1 1), .int (nI 0), .int (nI 1), .int (nI 0), .int (nI 0), .int (-1), .int (nI 2), .int (nI 0), .int (nI 0), .int (nI 0)])), ((u1 1), .inl (K 2, 9, .inl (fun _ => (-1)))), (h10, .inr (12, [.int (nI 0), .ref h11])), (h11, .inr (10, [.ref h12, .ref h13, .ref a9, .ref a10, .ref a11, .int (nI 0), .int (nI 11), .int (nI 60), .int (nI 0), .int (nI 2), .int (nI 0), .int (nI 0), .int (nI 0), .int (nI 0), .int (nI 0), .int (nI 0), .int (nI 0)])), (h15, .inl (K 2, 4, .inl (upd (fun _ => (-1)) ya (nI 0)))), (h13, .inr (13, [.int (nI 1), .ref h14, .int (nI 1)])), (h14, .inl (K 4, 10, .inr (.inr (.inr (.inr (va_up (fun _ => none) 0 (some h15)))))))]) (fun _ => rfl) (fun u1 H locs hP hD hS => ?_)
  refine lv_istore (lv' := [(6, .int (nI 0)), (5, .int (nI 0)), (0, .ref b), (1, .ref h0), (2, .ref h10), (3, .ref h9), (4, .int (nI 0))]) hx hb dL_law_303 hl (by decide) rfl (fun ls hl => ?_)
  refine lv_aload_n hx hb dL_law_305 rfl (lv_at hl 4 rfl) ?_
  refine k_i (wr := [(h9, .inl (K 3, 1, .inr (.inl (vp_updL (fun _ => 0) 0 0)))), (h0, .inr (9, [.ref h1, .ref h7, .ref h2, .ref a0, .ref h6, .ref a1, .ref a2, .ref a3, .int (nI 0)])), (h1, .inr (5, [.ref h3, .int (nI 1)])), (h3, .inl (K 0, 200, .inr (.inr (.inr (.inr (va_up (fun _ => none) 0 (some (u0 0)))))))), ((u0 1), .inl (K 0, 9, .inr (.inr (.inr (.inr (fun _ => none)))))), (h2, .inr (3, [.ref h4, .ref a4, .ref a5, .int (nI 0), .int (nI 11), .int (nI 100), .int (nI 60), .ref a6])), (h4, .inr (5, [.ref h5, .int (nI 1)])), (h5, .inl (K 0, 200, .inr (.inr (.inr (.inr (va_up (fun _ => none) 0 (some (u0 0)))))))), (h6, .inr (1, [.ref h1, .ref h7, .int (nI 0)])), (h8, .inl (K 0, 32, .inr (.inr (.inr (.inr (va_up (fun _ => none) (0 + ya) (some (u0 0)))))))), ((u0 0), .inr (7, [.int (nI 0), .ref (u0 1), .int (nI 0), .int (nI 1), .int (nI 0), .int (nI 11), .int (nI 11), .int (nI 0), .int (-1), .int (nI 0), .int (nI 0), .int (nI 0), .int (nI 0), .int (nI 0)])), (h7, .inr (4, [.ref a7, .ref h8, .ref a8, .int (nI 1)])), (h12, .inr (13, [.int (nI 1), .ref (u1 2), .int (nI 1)])), ((u1 2), .inl (K 4, 10, .inr (.inr (.inr (.inr (va_up (fun _ => none) 0 (some (u1 0)))))))), ((u1 0), .inr (11, [.int (nI 0), .ref (u1 1), .int (nI 0), .int (nI 1), .int (nI 0), .int (nI 0), .int (-1), .int (nI 2), .int (nI 0), .int (nI 0), .int (nI 0)])), ((u1 1), .inl (K 2, 9, .inl (fun _ => (-1)))), (h11, .inr (10, [.ref h12, .ref h13, .ref a9, .ref a10, .ref a11, .int (nI 0), .int (nI 11), .int (nI 60), .int (nI 0), .int (nI 2), .int (nI 0), .int (nI 0), .int (nI 0), .int (nI 0), .int (nI 0), .int (nI 0), .int (nI 0)])), (h15, .inl (K 2, 4, .inl (upd (fun _ => (-1)) ya (nI 0)))), (h13, .inr (13, [.int (nI 1), .ref h14, .int (nI 1)])), (h14, .inl (K 4, 10, .inr (.inr (.inr (.inr (va_up (fun _ => none) 0 (some h15)))))))]) (run_V (rest := []) hx hb hml hown hts hK hP hD hS hA hm (C1057_thrown l G D K H.size h10 (.ref h11)) [16] rfl rfl mok_yX12_thrown w_1300 w_1301 w_1302 (rcv hK hP 16 rfl rfl rfl) ⟨Nat.le_of_ble_eq_true rfl, Nat.le_of_ble_eq_true rfl⟩ rfl hl.1 rfl (Nat.le_of_ble_eq_true rfl) dL_law_306 ⟨(by dsimp only [room_1]; omega), (by dsimp only [room_1]; omega)⟩) hP hD hS hA [16] [0, 1, 2, 3, 4, 5, 6, 7, 8, 9, 10, 11, 12, 13, 14, 15, 17, 18, 19, 20] rfl rfl rfl (by decide) (w2 := fun u2 => [(h9, .inl (K 3, 1, .inr (.inl (vp_updL (fun _ => 0) 0 0)))), (h0, .inr (9, [.ref h1, .ref h7, .ref h2, .ref a0, .ref h6, .ref a1, .ref a2, .ref a3, .int (nI 0)])), (h1, .inr (5, [.ref h3, .int (nI 1)])), (h3, .inl (K 0, 200, .inr (.inr (.inr (.inr (va_up (fun _ => none) 0 (some (u0 0)))))))), ((u0 1), .inl (K 0, 9, .inr (.inr (.inr (.inr (fun _ => none)))))), (h2, .inr (3, [.ref h4, .ref a4, .ref a5, .int (nI 0), .int (nI 11), .int (nI 100), .int (nI 60), .ref a6])), (h4, .inr (5, [.ref h5, .int (nI 1)])), (h5, .inl (K 0, 200, .inr (.inr (.inr (.inr (va_up (fun _ => none) 0 (some (u0 0)))))))), (h6, .inr (1, [.ref h1, .ref h7, .int (nI 0)])), (h8, .inl (K 0, 32, .inr (.inr (.inr (.inr (va_up (fun _ => none) (0 + ya) (some (u0 0)))))))), ((u0 0), .inr (7, [.int (nI 0), .ref (u0 1), .int (nI 0), .int (nI 1), .int (nI 0), .int (nI 11), .int (nI 11), .int (nI 0), .int (-1), .int (nI 0), .int (nI 0), .int (nI 0), .int (nI 0), .int (nI 0)])), (h7, .inr (4, [.ref a7, .ref h8, .ref a8, .int (nI 1)])), (h12, .inr (13, [.int (nI 1), .ref (u1 2), .int (nI 1)])), ((u1 2), .inl (K 4, 10, .inr (.inr (.inr (.inr (va_up (fun _ => none) 0 (some (u1 0)))))))), ((u1 0), .inr (11, [.int (nI 0), .ref (u1 1), .int (nI 0), .int (nI 1), .int (nI 0), .int (nI 0), .int (-1), .int (nI 2), .int (nI 0), .int (nI 0), .int (nI 0)])), ((u1 1), .inl (K 2, 9, .inl (fun _ => (-1)))), (h11, .inr (10, [.ref h12, .ref h13, .ref a9, .ref a10, .ref a11, .int (nI 0), .int (nI 11), .int (nI 60), .int (nI 0), .int (nI 2), .int (nI 0), .int (nI 0), .int (nI 0), .int (nI 0), .int (nI 0), .int (nI 0), .int (nI 0)])), (h15, .inl (K 2, 4, .inl (upd (fun _ => (-1)) ya (nI 0)))), (h13, .inr (13, [.int (nI 1), .ref h14, .int (nI 1)])), (h14, .inl (K 4, 10, .inr (.inr (.inr (.inr (va_up (fun _ => none) 0 (some h15))))))), (h10, .inr (12, [.int (nI 0), .ref h11]))]) (fun _ => rfl) (fun u2 H locs hP hD hS => ?_)
  refine lv_iload hx hb dL_law_309 (lv_at hl 1 rfl) ?_
  refine lv_icmp_eq (tgt := 316) hx hb dL_law_311 (by decide) (fun _ => ?_) (fun c9 => absurd (by decide +kernel) c9)
  refine lv_iload hx hb dL_law_316 (lv_at hl 1 rfl) ?_
  refine lv_if_ne (tgt := 333) hx hb dL_law_318 (by decide) (fun c9 => absurd (by decide +kernel) c9) (fun _ => ?_)
  refine lv_aload_n hx hb dL_law_321 rfl (lv_at hl 5 rfl) ?_
  refine lv_iconst (v := nI 0) hx hb dL_law_322 (by decide +kernel) ?_
  refine r_lald (k := 0) hx hb hK hP 0 3 rfl rfl (Nat.le_of_ble_eq_true rfl) (by decide) (v := 0) rfl dL_law_323 ?_
  refine lv_iload hx hb dL_law_324 (lv_at hl 0 rfl) ?_
  refine lv_i2l (v := 0) hx hb dL_law_326 (by decide +kernel) ?_
  refine W.lcmp hx hb dL_law_327 ?_
  refine w_toeq (show lg_cmp 0 0 = nI 0 by decide +kernel) ?_
  refine lv_if_eq (tgt := 333) hx hb dL_law_328 (by decide) (fun _ => ?_) (fun c9 => absurd (by decide +kernel) c9)
  refine lv_goto (tgt := 1762) hx hb dL_law_333 (by decide) ?_
  refine lv_iinc (v := nI 4) (lv' := [(4, .int (nI 4)), (6, .int (nI 0)), (5, .int (nI 0)), (0, .ref b), (1, .ref h0), (2, .ref h10), (3, .ref h9)]) hx hb dL_law_1762 hl (k := 6) rfl (by decide +kernel) (by decide) rfl (fun ls hl => ?_)
  refine lv_goto (tgt := 23) hx hb dL_law_1765 (by decide) ?_
  refine lv_iload hx hb dL_law_23 (lv_at hl 0 rfl) ?_
  refine lv_aload_n hx hb dL_law_25 rfl (lv_at hl 3 rfl) ?_
  refine va_slen hx hb hX hbl hbA hS dL_law_26 ?_
  refine w_toeq (show Int32.ofNat 4 = nI 4 from rfl) ?_
  refine lv_iconst (v := nI 4) hx hb dL_law_27 (by decide +kernel) ?_
  refine lv_isub hx hb dL_law_28 ?_
  refine w_toeq (show (nI 4) - (nI 4) = nI 0 by decide +kernel) ?_
  refine lv_icmp_gt (tgt := 1768) hx hb dL_law_29 (by decide) (fun _ => ?_) (fun c9 => absurd (by decide +kernel) c9)
  refine lv_iconst (v := nI 1) hx hb dL_law_1768 (by decide +kernel) ?_
  exact law_end hx hb hr hlk hS (by dsimp only; omega) (by dsimp only; omega) dL_law_1769
set_option maxHeartbeats 4000000 in
set_option maxRecDepth 100000 in
theorem LW30_make {p : Program} {e : Env} {s : State} {m : MethodId} {below : List Frame} {meth : Method} {c : Code} {l : Launch} {G : Nat → Nat} {D : va_G} {K : Nat → ClassId} {b : Nat} {xs : Nat → Int32} (hx : p.tables.exec = Jvm.exec) (hb : c.code = cL_law) (hr : meth.sig.returnType = some .boolean) (hlk : meth.locks = false) (hl0 : l.stackTraces = false) (hnc : Ncs s) (hml : c.maxLocals = 9) (hown : s.vm.findClass RL = some m.cls) (hts : ∀ w ∈ lw_gw, w.before #[Value.ref b] s = true) (hK : va_K D cl (tys K) s) (hm : Amb G (fun q : Nat => s.heap.size ≤ q) s s.heap) (hX : va_X b 4 xs s s.heap) (hbl : b < s.heap.size) {h0 h1 h2 h3 h4 h5 h6 h7 h8 h9 h10 h11 h12 h13 h14 h15 a0 a1 a2 a3 a4 a5 a6 a7 a8 a9 a10 a11 : Nat} (ya : Nat) (lya : 0 ≤ ya) (gya : ya ≤ 3) (hx1 : xs 1 = nI ya) (hx2 : xs 2 = nI 0) (hx3 : xs 3 = nI 10) {H : Heap} {locs : List Loc} {cells slots : Nat} (hcs : cells ≤ 1000) (hss : slots ≤ 100000) (hP : va_P D cl [(h0, .inr (9, [.ref h1, .ref h7, .ref h2, .ref a0, .ref h6, .ref a1, .ref a2, .ref a3, .int (nI 0)])), (h1, .inr (5, [.ref h3, .int (nI 0)])), (h2, .inr (3, [.ref h4, .ref a4, .ref a5, .int (nI 0), .int (nI 0), .int (nI 100), .int (nI 60), .ref a6])), (h3, .inl (K 0, 200, .inr (.inr (.inr (.inr (fun _ => none)))))), (h4, .inr (5, [.ref h5, .int (nI 0)])), (h5, .inl (K 0, 200, .inr (.inr (.inr (.inr (fun _ => none)))))), (h6, .inr (1, [.ref h1, .ref h7, .int (nI 0)])), (h7, .inr (4, [.ref a7, .ref h8, .ref a8, .int (nI 1)])), (h8, .inl (K 0, 32, .inr (.inr (.inr (.inr (fun _ => none)))))), (h9, .inl (K 3, 1, .inr (.inl (fun _ => 0)))), (h10, .inr (12, [.int (nI 0), .ref h11])), (h11, .inr (10, [.ref h12, .ref h13, .ref a9, .ref a10, .ref a11, .int (nI 0), .int (nI 0), .int (nI 60), .int (nI 0), .int (nI 2), .int (nI 0), .int (nI 0), .int (nI 0), .int (nI 0), .int (nI 0), .int (nI 0), .int (nI 0)])), (h12, .inr (13, [.int (nI 0), .ref (G 0), .int (nI 0)])), (h13, .inr (13, [.int (nI 1), .ref h14, .int (nI 1)])), (h14, .inl (K 4, 10, .inr (.inr (.inr (.inr (va_up (fun _ => none) 0 (some h15))))))), (h15, .inl (K 2, 4, .inl (fun _ => (-1))))] H) (hD : va_D (fun q : Nat => s.heap.size ≤ q) [(h0, .inr (9, [.ref h1, .ref h7, .ref h2, .ref a0, .ref h6, .ref a1, .ref a2, .ref a3, .int (nI 0)])), (h1, .inr (5, [.ref h3, .int (nI 0)])), (h2, .inr (3, [.ref h4, .ref a4, .ref a5, .int (nI 0), .int (nI 0), .int (nI 100), .int (nI 60), .ref a6])), (h3, .inl (K 0, 200, .inr (.inr (.inr (.inr (fun _ => none)))))), (h4, .inr (5, [.ref h5, .int (nI 0)])), (h5, .inl (K 0, 200, .inr (.inr (.inr (.inr (fun _ => none)))))), (h6, .inr (1, [.ref h1, .ref h7, .int (nI 0)])), (h7, .inr (4, [.ref a7, .ref h8, .ref a8, .int (nI 1)])), (h8, .inl (K 0, 32, .inr (.inr (.inr (.inr (fun _ => none)))))), (h9, .inl (K 3, 1, .inr (.inl (fun _ => 0)))), (h10, .inr (12, [.int (nI 0), .ref h11])), (h11, .inr (10, [.ref h12, .ref h13, .ref a9, .ref a10, .ref a11, .int (nI 0), .int (nI 0), .int (nI 60), .int (nI 0), .int (nI 2), .int (nI 0), .int (nI 0), .int (nI 0), .int (nI 0), .int (nI 0), .int (nI 0), .int (nI 0)])), (h12, .inr (13, [.int (nI 0), .ref (G 0), .int (nI 0)])), (h13, .inr (13, [.int (nI 1), .ref h14, .int (nI 1)])), (h14, .inl (K 4, 10, .inr (.inr (.inr (.inr (va_up (fun _ => none) 0 (some h15))))))), (h15, .inl (K 2, 4, .inl (fun _ => (-1))))]) (hS : va_S (fun q : Nat => s.heap.size ≤ q) s.heap H locs) {ls : Array Slot} (hl : lv_has ls 9 [(0, .ref b), (1, .ref h0), (2, .ref h10), (3, .ref h9), (4, .int (nI 0))]) : W p l e room_1 s m #[Value.ref b] below meth c H locs cells slots (lw_Z below #[Value.ref b] s) (F0 m 256 ls []) := by
  have hA : ∀ q : Nat, s.heap.size ≤ q → (fun q : Nat => s.heap.size ≤ q) q := fun _ h => h
  have hbA : ¬ (fun q : Nat => s.heap.size ≤ q) b := Nat.not_le.mpr hbl
  refine lv_aload_n hx hb dL_law_256 rfl (lv_at hl 1 rfl) ?_
  refine lv_aload_n hx hb dL_law_257 rfl (lv_at hl 0 rfl) ?_
  refine lv_iload hx hb dL_law_258 (lv_at hl 4 rfl) ?_
  refine lv_iconst (v := nI 1) hx hb dL_law_260 (by decide +kernel) ?_
  refine lv_iadd hx hb dL_law_261 ?_
  refine w_toeq (show (nI 0) + (nI 1) = nI 1 by decide +kernel) ?_
  refine va_sld hx hb hX hbl hbA hS (vp_in_nI (n := 1) (by decide) (by decide)) dL_law_262 ?_
  refine w_toeq (show xs (nI 1).toNatClampNeg = nI ya by rw [nI_clamp (n := 1) (by decide)]; exact hx1) ?_
  refine lv_aload_n hx hb dL_law_263 rfl (lv_at hl 0 rfl) ?_
  refine lv_iload hx hb dL_law_264 (lv_at hl 4 rfl) ?_
  refine lv_iconst (v := nI 2) hx hb dL_law_266 (by decide +kernel) ?_
  refine lv_iadd hx hb dL_law_267 ?_
  refine w_toeq (show (nI 0) + (nI 2) = nI 2 by decide +kernel) ?_
  refine va_sld hx hb hX hbl hbA hS (vp_in_nI (n := 2) (by decide) (by decide)) dL_law_268 ?_
  refine w_toeq (show xs (nI 2).toNatClampNeg = nI 0 by rw [nI_clamp (n := 2) (by decide)]; exact hx2) ?_
  refine lv_aload_n hx hb dL_law_269 rfl (lv_at hl 0 rfl) ?_
  refine lv_iload hx hb dL_law_270 (lv_at hl 4 rfl) ?_
  refine lv_iconst (v := nI 3) hx hb dL_law_272 (by decide +kernel) ?_
  refine lv_iadd hx hb dL_law_273 ?_
  refine w_toeq (show (nI 0) + (nI 3) = nI 3 by decide +kernel) ?_
  refine va_sld hx hb hX hbl hbA hS (vp_in_nI (n := 3) (by decide) (by decide)) dL_law_274 ?_
  refine w_toeq (show xs (nI 3).toNatClampNeg = nI 10 by rw [nI_clamp (n := 3) (by decide)]; exact hx3) ?_
  refine lv_aload_n hx hb dL_law_275 rfl (lv_at hl 3 rfl) ?_
  refine k_i (wr := [(h10, .inr (12, [.int (nI 0), .ref h11])), (h11, .inr (10, [.ref h12, .ref h13, .ref a9, .ref a10, .ref a11, .int (nI 0), .int (nI 0), .int (nI 60), .int (nI 0), .int (nI 2), .int (nI 0), .int (nI 0), .int (nI 0), .int (nI 0), .int (nI 0), .int (nI 0), .int (nI 0)])), (h12, .inr (13, [.int (nI 0), .ref (G 0), .int (nI 0)])), (h13, .inr (13, [.int (nI 1), .ref h14, .int (nI 1)])), (h14, .inl (K 4, 10, .inr (.inr (.inr (.inr (va_up (fun _ => none) 0 (some h15))))))), (h15, .inl (K 2, 4, .inl (fun _ => (-1))))]) (run_SW hnc (rest := []) hx hb hml hown hts hK hP hD hS hA hm (C1089_make l G D K H.size h0 h1 h2 h3 h4 h5 h6 h7 h8 h9 (.ref a0) (.ref a1) (.ref a2) (.ref a3) (.int (nI 0)) (.ref a4) (.ref a5) (.int (nI 100)) (.int (nI 60)) (.ref a6) (.ref h1) (.ref h7) (.ref a7) (.ref a8) (fun _ => none) (fun _ => none) (fun _ => none) (fun _ => 0) ya (by omega) (by omega)) [0, 1, 2, 3, 4, 5, 6, 7, 8, 9] rfl rfl mokh_yL_make w_786 w_787 ⟨Nat.le_of_ble_eq_true rfl, Nat.le_of_ble_eq_true rfl⟩ rfl hl.1 rfl (Nat.le_of_ble_eq_true rfl) dL_law_276 ⟨(by dsimp only [room_1]; omega), (by dsimp only [room_1]; omega)⟩) hP hD hS hA [0, 1, 2, 3, 4, 5, 6, 7, 8, 9] [10, 11, 12, 13, 14, 15] rfl rfl rfl (by decide) (w2 := fun u0 => [(h10, .inr (12, [.int (nI 0), .ref h11])), (h11, .inr (10, [.ref h12, .ref h13, .ref a9, .ref a10, .ref a11, .int (nI 0), .int (nI 0), .int (nI 60), .int (nI 0), .int (nI 2), .int (nI 0), .int (nI 0), .int (nI 0), .int (nI 0), .int (nI 0), .int (nI 0), .int (nI 0)])), (h12, .inr (13, [.int (nI 0), .ref (G 0), .int (nI 0)])), (h13, .inr (13, [.int (nI 1), .ref h14, .int (nI 1)])), (h14, .inl (K 4, 10, .inr (.inr (.inr (.inr (va_up (fun _ => none) 0 (some h15))))))), (h15, .inl (K 2, 4, .inl (fun _ => (-1)))), (h9, .inl (K 3, 1, .inr (.inl (vp_updL (fun _ => 0) 0 0)))), (h0, .inr (9, [.ref h1, .ref h7, .ref h2, .ref a0, .ref h6, .ref a1, .ref a2, .ref a3, .int (nI 0)])), (h1, .inr (5, [.ref h3, .int (nI 1)])), (h3, .inl (K 0, 200, .inr (.inr (.inr (.inr (va_up (fun _ => none) 0 (some (u0 0)))))))), ((u0 1), .inl (K 0, 10, .inr (.inr (.inr (.inr (fun _ => none)))))), (h2, .inr (3, [.ref h4, .ref a4, .ref a5, .int (nI 0), .int (nI 12), .int (nI 100), .int (nI 60), .ref a6])), (h4, .inr (5, [.ref h5, .int (nI 1)])), (h5, .inl (K 0, 200, .inr (.inr (.inr (.inr (va_up (fun _ => none) 0 (some (u0 0)))))))), (h6, .inr (1, [.ref h1, .ref h7, .int (nI 0)])), (h8, .inl (K 0, 32, .inr (.inr (.inr (.inr (va_up (fun _ => none) (0 + ya) (some (u0 0)))))))), ((u0 0), .inr (7, [.int (nI 0), .ref (u0 1), .int (nI 0), .int (nI 1), .int (nI 0), .int (nI 12), .int (nI 12), .int (nI 0), .int (-1), .int (nI 0), .int (nI 0), .int (nI 0), .int (nI 0), .int (nI 0)])), (h7, .inr (4, [.ref a7, .ref h8, .ref a8, .int (nI 1)]))]) (fun _ => rfl) (fun u0 H locs hP hD hS => ?_)
  refine lv_istore (lv' := [(5, .int (nI 0)), (0, .ref b), (1, .ref h0), (2, .ref h10), (3, .ref h9), (4, .int (nI 0))]) hx hb dL_law_279 hl (by decide) rfl (fun ls hl => ?_)
  refine lv_aload_n hx hb dL_law_281 rfl (lv_at hl 3 rfl) ?_
  refine lv_aload_n hx hb dL_law_282 rfl (lv_at hl 1 rfl) ?_
  refine lv_iload hx hb dL_law_283 (lv_at hl 5 rfl) ?_
  refine lv_iconst (v := nI 1) hx hb dL_law_285 (by decide +kernel) ?_
  refine lv_iadd hx hb dL_law_286 ?_
  refine w_toeq (show (nI 0) + (nI 1) = nI 1 by decide +kernel) ?_
  refine va_sld hx hb hX hbl hbA hS (vp_in_nI (n := 1) (by decide) (by decide)) dL_law_287 ?_
  refine w_toeq (show xs (nI 1).toNatClampNeg = nI ya by rw [nI_clamp (n := 1) (by decide)]; exact hx1) ?_
  refine lv_aload_n hx hb dL_law_288 rfl (lv_at hl 1 rfl) ?_
  refine lv_iload hx hb dL_law_289 (lv_at hl 5 rfl) ?_
  refine lv_iconst (v := nI 2) hx hb dL_law_291 (by decide +kernel) ?_
  refine lv_iadd hx hb dL_law_292 ?_
  refine w_toeq (show (nI 0) + (nI 2) = nI 2 by decide +kernel) ?_
  refine va_sld hx hb hX hbl hbA hS (vp_in_nI (n := 2) (by decide) (by decide)) dL_law_293 ?_
  refine w_toeq (show xs (nI 2).toNatClampNeg = nI 0 by rw [nI_clamp (n := 2) (by decide)]; exact hx2) ?_
  refine lv_aload_n hx hb dL_law_294 rfl (lv_at hl 1 rfl) ?_
  refine lv_iload hx hb dL_law_295 (lv_at hl 5 rfl) ?_
  refine lv_iconst (v := nI 3) hx hb dL_law_297 (by decide +kernel) ?_
  refine lv_iadd hx hb dL_law_298 ?_
  refine w_toeq (show (nI 0) + (nI 3) = nI 3 by decide +kernel) ?_
  refine va_sld hx hb hX hbl hbA hS (vp_in_nI (n := 3) (by decide) (by decide)) dL_law_299 ?_
  refine w_toeq (show xs (nI 3).toNatClampNeg = nI 10 by rw [nI_clamp (n := 3) (by decide)]; exact hx3) ?_
  refine k_i (wr := [(h9, .inl (K 3, 1, .inr (.inl (vp_updL (fun _ => 0) 0 0)))), (h0, .inr (9, [.ref h1, .ref h7, .ref h2, .ref a0, .ref h6, .ref a1, .ref a2, .ref a3, .int (nI 0)])), (h1, .inr (5, [.ref h3, .int (nI 1)])), (h3, .inl (K 0, 200, .inr (.inr (.inr (.inr (va_up (fun _ => none) 0 (some (u0 0)))))))), ((u0 1), .inl (K 0, 10, .inr (.inr (.inr (.inr (fun _ => none)))))), (h2, .inr (3, [.ref h4, .ref a4, .ref a5, .int (nI 0), .int (nI 12), .int (nI 100), .int (nI 60), .ref a6])), (h4, .inr (5, [.ref h5, .int (nI 1)])), (h5, .inl (K 0, 200, .inr (.inr (.inr (.inr (va_up (fun _ => none) 0 (some (u0 0)))))))), (h6, .inr (1, [.ref h1, .ref h7, .int (nI 0)])), (h8, .inl (K 0, 32, .inr (.inr (.inr (.inr (va_up (fun _ => none) (0 + ya) (some (u0 0)))))))), ((u0 0), .inr (7, [.int (nI 0), .ref (u0 1), .int (nI 0), .int (nI 1), .int (nI 0), .int (nI 12), .int (nI 12), .int (nI 0), .int (-1), .int (nI 0), .int (nI 0), .int (nI 0), .int (nI 0), .int (nI 0)])), (h7, .inr (4, [.ref a7, .ref h8, .ref a8, .int (nI 1)]))]) (run_V (rest := []) hx hb hml hown hts hK hP hD hS hA hm (C235_make l G D K H.size h10 h11 h12 h13 h14 h15 (.ref a9) (.ref a10) (.ref a11) (.int (nI 60)) (.int (nI 0)) (.int (nI 2)) (.int (nI 0)) (.int (nI 0)) (.int (nI 0)) (.int (nI 0)) (.int (nI 0)) (.int (nI 0)) (.int (nI 0)) (.int (nI 1)) (fun _ => (-1)) ya (by omega) (by omega)) [0, 1, 2, 3, 4, 5] rfl rfl mok_yX12_make w_1341 w_1342 w_1343 (rcv hK hP 0 rfl rfl rfl) ⟨Nat.le_of_ble_eq_true rfl, Nat.le_of_ble_eq_true rfl⟩ rfl hl.1 rfl (Nat.le_of_ble_eq_true rfl) dL_law_300 ⟨(by dsimp only [room_1]; omega), (by dsimp only [room_1]; omega)⟩) hP hD hS hA [0, 1, 2, 3, 4, 5] [6, 7, 8, 9, 10, 11, 12, 13, 14, 15, 16, 17] rfl rfl rfl (by decide) (w2 := fun u1 => [(h9, .inl (K 3, 1, .inr (.inl (vp_updL (fun _ => 0) 0 0)))), (h0, .inr (9, [.ref h1, .ref h7, .ref h2, .ref a0, .ref h6, .ref a1, .ref a2, .ref a3, .int (nI 0)])), (h1, .inr (5, [.ref h3, .int (nI 1)])), (h3, .inl (K 0, 200, .inr (.inr (.inr (.inr (va_up (fun _ => none) 0 (some (u0 0)))))))), ((u0 1), .inl (K 0, 10, .inr (.inr (.inr (.inr (fun _ => none)))))), (h2, .inr (3, [.ref h4, .ref a4, .ref a5, .int (nI 0), .int (nI 12), .int (nI 100), .int (nI 60), .ref a6])), (h4, .inr (5, [.ref h5, .int (nI 1)])), (h5, .inl (K 0, 200, .inr (.inr (.inr (.inr (va_up (fun _ => none) 0 (some (u0 0)))))))), (h6, .inr (1, [.ref h1, .ref h7, .int (nI 0)])), (h8, .inl (K 0, 32, .inr (.inr (.inr (.inr (va_up (fun _ => none) (0 + ya) (some (u0 0)))))))), ((u0 0), .inr (7, [.int (nI 0), .ref (u0 1), .int (nI 0), .int (nI 1), .int (nI 0), .int (nI 12), .int (nI 12), .int (nI 0), .int (-1), .int (nI 0), .int (nI 0), .int (nI 0), .int (nI 0), .int (nI 0)])), (h7, .inr (4, [.ref a7, .ref h8, .ref a8, .int (nI 1)])), (h12, .inr (13, [.int (nI 1), .ref (u1 2), .int (nI 1)])), ((u1 2), .inl (K 4, 10, .inr (.inr (.inr (.inr (va_up (fun _ => none) 0 (some (u1 0)))))))), ((u1 0), .inr (11, [.int (nI 0), .ref (u1 1), .int (nI 0), .int (nI 1), .int (nI 0), .int (nI 0), .int (-1), .int (nI 2), .int (nI 0), .int (nI 0), .int (nI 0)])), ((u1 1), .inl (K 2, 10, .inl (fun _ => (-1)))), (h10, .inr (12, [.int (nI 0), .ref h11])), (h11, .inr (10, [.ref h12, .ref h13, .ref a9, .ref a10, .ref a11, .int (nI 0), .int (nI 12), .int (nI 60), .int (nI 0), .int (nI 2), .int (nI 0), .int (nI 0), .int (nI 0), .int (nI 0), .int (nI 0), .int (nI 0), .int (nI 0)])), (h15, .inl (K 2, 4, .inl (upd (fun _ => (-1)) ya (nI 0)))), (h13, .inr (13, [.int (nI 1), .ref h14, .int (nI 1)])), (h14, .inl (K 4, 10, .inr (.inr (.inr (.inr (va_up (fun _ => none) 0 (some h15)))))))]) (fun _ => rfl) (fun u1 H locs hP hD hS => ?_)
  refine lv_istore (lv' := [(6, .int (nI 0)), (5, .int (nI 0)), (0, .ref b), (1, .ref h0), (2, .ref h10), (3, .ref h9), (4, .int (nI 0))]) hx hb dL_law_303 hl (by decide) rfl (fun ls hl => ?_)
  refine lv_aload_n hx hb dL_law_305 rfl (lv_at hl 4 rfl) ?_
  refine k_i (wr := [(h9, .inl (K 3, 1, .inr (.inl (vp_updL (fun _ => 0) 0 0)))), (h0, .inr (9, [.ref h1, .ref h7, .ref h2, .ref a0, .ref h6, .ref a1, .ref a2, .ref a3, .int (nI 0)])), (h1, .inr (5, [.ref h3, .int (nI 1)])), (h3, .inl (K 0, 200, .inr (.inr (.inr (.inr (va_up (fun _ => none) 0 (some (u0 0)))))))), ((u0 1), .inl (K 0, 10, .inr (.inr (.inr (.inr (fun _ => none)))))), (h2, .inr (3, [.ref h4, .ref a4, .ref a5, .int (nI 0), .int (nI 12), .int (nI 100), .int (nI 60), .ref a6])), (h4, .inr (5, [.ref h5, .int (nI 1)])), (h5, .inl (K 0, 200, .inr (.inr (.inr (.inr (va_up (fun _ => none) 0 (some (u0 0)))))))), (h6, .inr (1, [.ref h1, .ref h7, .int (nI 0)])), (h8, .inl (K 0, 32, .inr (.inr (.inr (.inr (va_up (fun _ => none) (0 + ya) (some (u0 0)))))))), ((u0 0), .inr (7, [.int (nI 0), .ref (u0 1), .int (nI 0), .int (nI 1), .int (nI 0), .int (nI 12), .int (nI 12), .int (nI 0), .int (-1), .int (nI 0), .int (nI 0), .int (nI 0), .int (nI 0), .int (nI 0)])), (h7, .inr (4, [.ref a7, .ref h8, .ref a8, .int (nI 1)])), (h12, .inr (13, [.int (nI 1), .ref (u1 2), .int (nI 1)])), ((u1 2), .inl (K 4, 10, .inr (.inr (.inr (.inr (va_up (fun _ => none) 0 (some (u1 0)))))))), ((u1 0), .inr (11, [.int (nI 0), .ref (u1 1), .int (nI 0), .int (nI 1), .int (nI 0), .int (nI 0), .int (-1), .int (nI 2), .int (nI 0), .int (nI 0), .int (nI 0)])), ((u1 1), .inl (K 2, 10, .inl (fun _ => (-1)))), (h11, .inr (10, [.ref h12, .ref h13, .ref a9, .ref a10, .ref a11, .int (nI 0), .int (nI 12), .int (nI 60), .int (nI 0), .int (nI 2), .int (nI 0), .int (nI 0), .int (nI 0), .int (nI 0), .int (nI 0), .int (nI 0), .int (nI 0)])), (h15, .inl (K 2, 4, .inl (upd (fun _ => (-1)) ya (nI 0)))), (h13, .inr (13, [.int (nI 1), .ref h14, .int (nI 1)])), (h14, .inl (K 4, 10, .inr (.inr (.inr (.inr (va_up (fun _ => none) 0 (some h15)))))))]) (run_V (rest := []) hx hb hml hown hts hK hP hD hS hA hm (C1057_thrown l G D K H.size h10 (.ref h11)) [16] rfl rfl mok_yX12_thrown w_1300 w_1301 w_1302 (rcv hK hP 16 rfl rfl rfl) ⟨Nat.le_of_ble_eq_true rfl, Nat.le_of_ble_eq_true rfl⟩ rfl hl.1 rfl (Nat.le_of_ble_eq_true rfl) dL_law_306 ⟨(by dsimp only [room_1]; omega), (by dsimp only [room_1]; omega)⟩) hP hD hS hA [16] [0, 1, 2, 3, 4, 5, 6, 7, 8, 9, 10, 11, 12, 13, 14, 15, 17, 18, 19, 20] rfl rfl rfl (by decide) (w2 := fun u2 => [(h9, .inl (K 3, 1, .inr (.inl (vp_updL (fun _ => 0) 0 0)))), (h0, .inr (9, [.ref h1, .ref h7, .ref h2, .ref a0, .ref h6, .ref a1, .ref a2, .ref a3, .int (nI 0)])), (h1, .inr (5, [.ref h3, .int (nI 1)])), (h3, .inl (K 0, 200, .inr (.inr (.inr (.inr (va_up (fun _ => none) 0 (some (u0 0)))))))), ((u0 1), .inl (K 0, 10, .inr (.inr (.inr (.inr (fun _ => none)))))), (h2, .inr (3, [.ref h4, .ref a4, .ref a5, .int (nI 0), .int (nI 12), .int (nI 100), .int (nI 60), .ref a6])), (h4, .inr (5, [.ref h5, .int (nI 1)])), (h5, .inl (K 0, 200, .inr (.inr (.inr (.inr (va_up (fun _ => none) 0 (some (u0 0)))))))), (h6, .inr (1, [.ref h1, .ref h7, .int (nI 0)])), (h8, .inl (K 0, 32, .inr (.inr (.inr (.inr (va_up (fun _ => none) (0 + ya) (some (u0 0)))))))), ((u0 0), .inr (7, [.int (nI 0), .ref (u0 1), .int (nI 0), .int (nI 1), .int (nI 0), .int (nI 12), .int (nI 12), .int (nI 0), .int (-1), .int (nI 0), .int (nI 0), .int (nI 0), .int (nI 0), .int (nI 0)])), (h7, .inr (4, [.ref a7, .ref h8, .ref a8, .int (nI 1)])), (h12, .inr (13, [.int (nI 1), .ref (u1 2), .int (nI 1)])), ((u1 2), .inl (K 4, 10, .inr (.inr (.inr (.inr (va_up (fun _ => none) 0 (some (u1 0)))))))), ((u1 0), .inr (11, [.int (nI 0), .ref (u1 1), .int (nI 0), .int (nI 1), .int (nI 0), .int (nI 0), .int (-1), .int (nI 2), .int (nI 0), .int (nI 0), .int (nI 0)])), ((u1 1), .inl (K 2, 10, .inl (fun _ => (-1)))), (h11, .inr (10, [.ref h12, .ref h13, .ref a9, .ref a10, .ref a11, .int (nI 0), .int (nI 12), .int (nI 60), .int (nI 0), .int (nI 2), .int (nI 0), .int (nI 0), .int (nI 0), .int (nI 0), .int (nI 0), .int (nI 0), .int (nI 0)])), (h15, .inl (K 2, 4, .inl (upd (fun _ => (-1)) ya (nI 0)))), (h13, .inr (13, [.int (nI 1), .ref h14, .int (nI 1)])), (h14, .inl (K 4, 10, .inr (.inr (.inr (.inr (va_up (fun _ => none) 0 (some h15))))))), (h10, .inr (12, [.int (nI 0), .ref h11]))]) (fun _ => rfl) (fun u2 H locs hP hD hS => ?_)
  refine lv_iload hx hb dL_law_309 (lv_at hl 1 rfl) ?_
  refine lv_icmp_eq (tgt := 316) hx hb dL_law_311 (by decide) (fun _ => ?_) (fun c9 => absurd (by decide +kernel) c9)
  refine lv_iload hx hb dL_law_316 (lv_at hl 1 rfl) ?_
  refine lv_if_ne (tgt := 333) hx hb dL_law_318 (by decide) (fun c9 => absurd (by decide +kernel) c9) (fun _ => ?_)
  refine lv_aload_n hx hb dL_law_321 rfl (lv_at hl 5 rfl) ?_
  refine lv_iconst (v := nI 0) hx hb dL_law_322 (by decide +kernel) ?_
  refine r_lald (k := 0) hx hb hK hP 0 3 rfl rfl (Nat.le_of_ble_eq_true rfl) (by decide) (v := 0) rfl dL_law_323 ?_
  refine lv_iload hx hb dL_law_324 (lv_at hl 0 rfl) ?_
  refine lv_i2l (v := 0) hx hb dL_law_326 (by decide +kernel) ?_
  refine W.lcmp hx hb dL_law_327 ?_
  refine w_toeq (show lg_cmp 0 0 = nI 0 by decide +kernel) ?_
  refine lv_if_eq (tgt := 333) hx hb dL_law_328 (by decide) (fun _ => ?_) (fun c9 => absurd (by decide +kernel) c9)
  refine lv_goto (tgt := 1762) hx hb dL_law_333 (by decide) ?_
  refine lv_iinc (v := nI 4) (lv' := [(4, .int (nI 4)), (6, .int (nI 0)), (5, .int (nI 0)), (0, .ref b), (1, .ref h0), (2, .ref h10), (3, .ref h9)]) hx hb dL_law_1762 hl (k := 6) rfl (by decide +kernel) (by decide) rfl (fun ls hl => ?_)
  refine lv_goto (tgt := 23) hx hb dL_law_1765 (by decide) ?_
  refine lv_iload hx hb dL_law_23 (lv_at hl 0 rfl) ?_
  refine lv_aload_n hx hb dL_law_25 rfl (lv_at hl 3 rfl) ?_
  refine va_slen hx hb hX hbl hbA hS dL_law_26 ?_
  refine w_toeq (show Int32.ofNat 4 = nI 4 from rfl) ?_
  refine lv_iconst (v := nI 4) hx hb dL_law_27 (by decide +kernel) ?_
  refine lv_isub hx hb dL_law_28 ?_
  refine w_toeq (show (nI 4) - (nI 4) = nI 0 by decide +kernel) ?_
  refine lv_icmp_gt (tgt := 1768) hx hb dL_law_29 (by decide) (fun _ => ?_) (fun c9 => absurd (by decide +kernel) c9)
  refine lv_iconst (v := nI 1) hx hb dL_law_1768 (by decide +kernel) ?_
  exact law_end hx hb hr hlk hS (by dsimp only; omega) (by dsimp only; omega) dL_law_1769
set_option maxHeartbeats 4000000 in
set_option maxRecDepth 100000 in
theorem LW31_make {p : Program} {e : Env} {s : State} {m : MethodId} {below : List Frame} {meth : Method} {c : Code} {l : Launch} {G : Nat → Nat} {D : va_G} {K : Nat → ClassId} {b : Nat} {xs : Nat → Int32} (hx : p.tables.exec = Jvm.exec) (hb : c.code = cL_law) (hr : meth.sig.returnType = some .boolean) (hlk : meth.locks = false) (hl0 : l.stackTraces = false) (hnc : Ncs s) (hml : c.maxLocals = 9) (hown : s.vm.findClass RL = some m.cls) (hts : ∀ w ∈ lw_gw, w.before #[Value.ref b] s = true) (hK : va_K D cl (tys K) s) (hm : Amb G (fun q : Nat => s.heap.size ≤ q) s s.heap) (hX : va_X b 4 xs s s.heap) (hbl : b < s.heap.size) {h0 h1 h2 h3 h4 h5 h6 h7 h8 h9 h10 h11 h12 h13 h14 h15 a0 a1 a2 a3 a4 a5 a6 a7 a8 a9 a10 a11 : Nat} (ya : Nat) (lya : 0 ≤ ya) (gya : ya ≤ 3) (hx1 : xs 1 = nI ya) (hx2 : xs 2 = nI 0) (hx3 : xs 3 = nI 11) {H : Heap} {locs : List Loc} {cells slots : Nat} (hcs : cells ≤ 1000) (hss : slots ≤ 100000) (hP : va_P D cl [(h0, .inr (9, [.ref h1, .ref h7, .ref h2, .ref a0, .ref h6, .ref a1, .ref a2, .ref a3, .int (nI 0)])), (h1, .inr (5, [.ref h3, .int (nI 0)])), (h2, .inr (3, [.ref h4, .ref a4, .ref a5, .int (nI 0), .int (nI 0), .int (nI 100), .int (nI 60), .ref a6])), (h3, .inl (K 0, 200, .inr (.inr (.inr (.inr (fun _ => none)))))), (h4, .inr (5, [.ref h5, .int (nI 0)])), (h5, .inl (K 0, 200, .inr (.inr (.inr (.inr (fun _ => none)))))), (h6, .inr (1, [.ref h1, .ref h7, .int (nI 0)])), (h7, .inr (4, [.ref a7, .ref h8, .ref a8, .int (nI 1)])), (h8, .inl (K 0, 32, .inr (.inr (.inr (.inr (fun _ => none)))))), (h9, .inl (K 3, 1, .inr (.inl (fun _ => 0)))), (h10, .inr (12, [.int (nI 0), .ref h11])), (h11, .inr (10, [.ref h12, .ref h13, .ref a9, .ref a10, .ref a11, .int (nI 0), .int (nI 0), .int (nI 60), .int (nI 0), .int (nI 2), .int (nI 0), .int (nI 0), .int (nI 0), .int (nI 0), .int (nI 0), .int (nI 0), .int (nI 0)])), (h12, .inr (13, [.int (nI 0), .ref (G 0), .int (nI 0)])), (h13, .inr (13, [.int (nI 1), .ref h14, .int (nI 1)])), (h14, .inl (K 4, 10, .inr (.inr (.inr (.inr (va_up (fun _ => none) 0 (some h15))))))), (h15, .inl (K 2, 4, .inl (fun _ => (-1))))] H) (hD : va_D (fun q : Nat => s.heap.size ≤ q) [(h0, .inr (9, [.ref h1, .ref h7, .ref h2, .ref a0, .ref h6, .ref a1, .ref a2, .ref a3, .int (nI 0)])), (h1, .inr (5, [.ref h3, .int (nI 0)])), (h2, .inr (3, [.ref h4, .ref a4, .ref a5, .int (nI 0), .int (nI 0), .int (nI 100), .int (nI 60), .ref a6])), (h3, .inl (K 0, 200, .inr (.inr (.inr (.inr (fun _ => none)))))), (h4, .inr (5, [.ref h5, .int (nI 0)])), (h5, .inl (K 0, 200, .inr (.inr (.inr (.inr (fun _ => none)))))), (h6, .inr (1, [.ref h1, .ref h7, .int (nI 0)])), (h7, .inr (4, [.ref a7, .ref h8, .ref a8, .int (nI 1)])), (h8, .inl (K 0, 32, .inr (.inr (.inr (.inr (fun _ => none)))))), (h9, .inl (K 3, 1, .inr (.inl (fun _ => 0)))), (h10, .inr (12, [.int (nI 0), .ref h11])), (h11, .inr (10, [.ref h12, .ref h13, .ref a9, .ref a10, .ref a11, .int (nI 0), .int (nI 0), .int (nI 60), .int (nI 0), .int (nI 2), .int (nI 0), .int (nI 0), .int (nI 0), .int (nI 0), .int (nI 0), .int (nI 0), .int (nI 0)])), (h12, .inr (13, [.int (nI 0), .ref (G 0), .int (nI 0)])), (h13, .inr (13, [.int (nI 1), .ref h14, .int (nI 1)])), (h14, .inl (K 4, 10, .inr (.inr (.inr (.inr (va_up (fun _ => none) 0 (some h15))))))), (h15, .inl (K 2, 4, .inl (fun _ => (-1))))]) (hS : va_S (fun q : Nat => s.heap.size ≤ q) s.heap H locs) {ls : Array Slot} (hl : lv_has ls 9 [(0, .ref b), (1, .ref h0), (2, .ref h10), (3, .ref h9), (4, .int (nI 0))]) : W p l e room_1 s m #[Value.ref b] below meth c H locs cells slots (lw_Z below #[Value.ref b] s) (F0 m 256 ls []) := by
  have hA : ∀ q : Nat, s.heap.size ≤ q → (fun q : Nat => s.heap.size ≤ q) q := fun _ h => h
  have hbA : ¬ (fun q : Nat => s.heap.size ≤ q) b := Nat.not_le.mpr hbl
  refine lv_aload_n hx hb dL_law_256 rfl (lv_at hl 1 rfl) ?_
  refine lv_aload_n hx hb dL_law_257 rfl (lv_at hl 0 rfl) ?_
  refine lv_iload hx hb dL_law_258 (lv_at hl 4 rfl) ?_
  refine lv_iconst (v := nI 1) hx hb dL_law_260 (by decide +kernel) ?_
  refine lv_iadd hx hb dL_law_261 ?_
  refine w_toeq (show (nI 0) + (nI 1) = nI 1 by decide +kernel) ?_
  refine va_sld hx hb hX hbl hbA hS (vp_in_nI (n := 1) (by decide) (by decide)) dL_law_262 ?_
  refine w_toeq (show xs (nI 1).toNatClampNeg = nI ya by rw [nI_clamp (n := 1) (by decide)]; exact hx1) ?_
  refine lv_aload_n hx hb dL_law_263 rfl (lv_at hl 0 rfl) ?_
  refine lv_iload hx hb dL_law_264 (lv_at hl 4 rfl) ?_
  refine lv_iconst (v := nI 2) hx hb dL_law_266 (by decide +kernel) ?_
  refine lv_iadd hx hb dL_law_267 ?_
  refine w_toeq (show (nI 0) + (nI 2) = nI 2 by decide +kernel) ?_
  refine va_sld hx hb hX hbl hbA hS (vp_in_nI (n := 2) (by decide) (by decide)) dL_law_268 ?_
  refine w_toeq (show xs (nI 2).toNatClampNeg = nI 0 by rw [nI_clamp (n := 2) (by decide)]; exact hx2) ?_
  refine lv_aload_n hx hb dL_law_269 rfl (lv_at hl 0 rfl) ?_
  refine lv_iload hx hb dL_law_270 (lv_at hl 4 rfl) ?_
  refine lv_iconst (v := nI 3) hx hb dL_law_272 (by decide +kernel) ?_
  refine lv_iadd hx hb dL_law_273 ?_
  refine w_toeq (show (nI 0) + (nI 3) = nI 3 by decide +kernel) ?_
  refine va_sld hx hb hX hbl hbA hS (vp_in_nI (n := 3) (by decide) (by decide)) dL_law_274 ?_
  refine w_toeq (show xs (nI 3).toNatClampNeg = nI 11 by rw [nI_clamp (n := 3) (by decide)]; exact hx3) ?_
  refine lv_aload_n hx hb dL_law_275 rfl (lv_at hl 3 rfl) ?_
  refine k_i (wr := [(h10, .inr (12, [.int (nI 0), .ref h11])), (h11, .inr (10, [.ref h12, .ref h13, .ref a9, .ref a10, .ref a11, .int (nI 0), .int (nI 0), .int (nI 60), .int (nI 0), .int (nI 2), .int (nI 0), .int (nI 0), .int (nI 0), .int (nI 0), .int (nI 0), .int (nI 0), .int (nI 0)])), (h12, .inr (13, [.int (nI 0), .ref (G 0), .int (nI 0)])), (h13, .inr (13, [.int (nI 1), .ref h14, .int (nI 1)])), (h14, .inl (K 4, 10, .inr (.inr (.inr (.inr (va_up (fun _ => none) 0 (some h15))))))), (h15, .inl (K 2, 4, .inl (fun _ => (-1))))]) (run_SW hnc (rest := []) hx hb hml hown hts hK hP hD hS hA hm (C1090_make l G D K H.size h0 h1 h2 h3 h4 h5 h6 h7 h8 h9 (.ref a0) (.ref a1) (.ref a2) (.ref a3) (.int (nI 0)) (.ref a4) (.ref a5) (.int (nI 100)) (.int (nI 60)) (.ref a6) (.ref h1) (.ref h7) (.ref a7) (.ref a8) (fun _ => none) (fun _ => none) (fun _ => none) (fun _ => 0) ya (by omega) (by omega)) [0, 1, 2, 3, 4, 5, 6, 7, 8, 9] rfl rfl mokh_yL_make w_786 w_787 ⟨Nat.le_of_ble_eq_true rfl, Nat.le_of_ble_eq_true rfl⟩ rfl hl.1 rfl (Nat.le_of_ble_eq_true rfl) dL_law_276 ⟨(by dsimp only [room_1]; omega), (by dsimp only [room_1]; omega)⟩) hP hD hS hA [0, 1, 2, 3, 4, 5, 6, 7, 8, 9] [10, 11, 12, 13, 14, 15] rfl rfl rfl (by decide) (w2 := fun u0 => [(h10, .inr (12, [.int (nI 0), .ref h11])), (h11, .inr (10, [.ref h12, .ref h13, .ref a9, .ref a10, .ref a11, .int (nI 0), .int (nI 0), .int (nI 60), .int (nI 0), .int (nI 2), .int (nI 0), .int (nI 0), .int (nI 0), .int (nI 0), .int (nI 0), .int (nI 0), .int (nI 0)])), (h12, .inr (13, [.int (nI 0), .ref (G 0), .int (nI 0)])), (h13, .inr (13, [.int (nI 1), .ref h14, .int (nI 1)])), (h14, .inl (K 4, 10, .inr (.inr (.inr (.inr (va_up (fun _ => none) 0 (some h15))))))), (h15, .inl (K 2, 4, .inl (fun _ => (-1)))), (h9, .inl (K 3, 1, .inr (.inl (vp_updL (fun _ => 0) 0 0)))), (h0, .inr (9, [.ref h1, .ref h7, .ref h2, .ref a0, .ref h6, .ref a1, .ref a2, .ref a3, .int (nI 0)])), (h1, .inr (5, [.ref h3, .int (nI 1)])), (h3, .inl (K 0, 200, .inr (.inr (.inr (.inr (va_up (fun _ => none) 0 (some (u0 0)))))))), ((u0 1), .inl (K 0, 11, .inr (.inr (.inr (.inr (fun _ => none)))))), (h2, .inr (3, [.ref h4, .ref a4, .ref a5, .int (nI 0), .int (nI 13), .int (nI 100), .int (nI 60), .ref a6])), (h4, .inr (5, [.ref h5, .int (nI 1)])), (h5, .inl (K 0, 200, .inr (.inr (.inr (.inr (va_up (fun _ => none) 0 (some (u0 0)))))))), (h6, .inr (1, [.ref h1, .ref h7, .int (nI 0)])), (h8, .inl (K 0, 32, .inr (.inr (.inr (.inr (va_up (fun _ => none) (0 + ya) (some (u0 0)))))))), ((u0 0), .inr (7, [.int (nI 0), .ref (u0 1), .int (nI 0), .int (nI 1), .int (nI 0), .int (nI 13), .int (nI 13), .int (nI 0), .int (-1), .int (nI 0), .int (nI 0), .int (nI 0), .int (nI 0), .int (nI 0)])), (h7, .inr (4, [.ref a7, .ref h8, .ref a8, .int (nI 1)]))]) (fun _ => rfl) (fun u0 H locs hP hD hS => ?_)
  refine lv_istore (lv' := [(5, .int (nI 0)), (0, .ref b), (1, .ref h0), (2, .ref h10), (3, .ref h9), (4, .int (nI 0))]) hx hb dL_law_279 hl (by decide) rfl (fun ls hl => ?_)
  refine lv_aload_n hx hb dL_law_281 rfl (lv_at hl 3 rfl) ?_
  refine lv_aload_n hx hb dL_law_282 rfl (lv_at hl 1 rfl) ?_
  refine lv_iload hx hb dL_law_283 (lv_at hl 5 rfl) ?_
  refine lv_iconst (v := nI 1) hx hb dL_law_285 (by decide +kernel) ?_
  refine lv_iadd hx hb dL_law_286 ?_
  refine w_toeq (show (nI 0) + (nI 1) = nI 1 by decide +kernel) ?_
  refine va_sld hx hb hX hbl hbA hS (vp_in_nI (n := 1) (by decide) (by decide)) dL_law_287 ?_
  refine w_toeq (show xs (nI 1).toNatClampNeg = nI ya by rw [nI_clamp (n := 1) (by decide)]; exact hx1) ?_
  refine lv_aload_n hx hb dL_law_288 rfl (lv_at hl 1 rfl) ?_
  refine lv_iload hx hb dL_law_289 (lv_at hl 5 rfl) ?_
  refine lv_iconst (v := nI 2) hx hb dL_law_291 (by decide +kernel) ?_
  refine lv_iadd hx hb dL_law_292 ?_
  refine w_toeq (show (nI 0) + (nI 2) = nI 2 by decide +kernel) ?_
  refine va_sld hx hb hX hbl hbA hS (vp_in_nI (n := 2) (by decide) (by decide)) dL_law_293 ?_
  refine w_toeq (show xs (nI 2).toNatClampNeg = nI 0 by rw [nI_clamp (n := 2) (by decide)]; exact hx2) ?_
  refine lv_aload_n hx hb dL_law_294 rfl (lv_at hl 1 rfl) ?_
  refine lv_iload hx hb dL_law_295 (lv_at hl 5 rfl) ?_
  refine lv_iconst (v := nI 3) hx hb dL_law_297 (by decide +kernel) ?_
  refine lv_iadd hx hb dL_law_298 ?_
  refine w_toeq (show (nI 0) + (nI 3) = nI 3 by decide +kernel) ?_
  refine va_sld hx hb hX hbl hbA hS (vp_in_nI (n := 3) (by decide) (by decide)) dL_law_299 ?_
  refine w_toeq (show xs (nI 3).toNatClampNeg = nI 11 by rw [nI_clamp (n := 3) (by decide)]; exact hx3) ?_
  refine k_i (wr := [(h9, .inl (K 3, 1, .inr (.inl (vp_updL (fun _ => 0) 0 0)))), (h0, .inr (9, [.ref h1, .ref h7, .ref h2, .ref a0, .ref h6, .ref a1, .ref a2, .ref a3, .int (nI 0)])), (h1, .inr (5, [.ref h3, .int (nI 1)])), (h3, .inl (K 0, 200, .inr (.inr (.inr (.inr (va_up (fun _ => none) 0 (some (u0 0)))))))), ((u0 1), .inl (K 0, 11, .inr (.inr (.inr (.inr (fun _ => none)))))), (h2, .inr (3, [.ref h4, .ref a4, .ref a5, .int (nI 0), .int (nI 13), .int (nI 100), .int (nI 60), .ref a6])), (h4, .inr (5, [.ref h5, .int (nI 1)])), (h5, .inl (K 0, 200, .inr (.inr (.inr (.inr (va_up (fun _ => none) 0 (some (u0 0)))))))), (h6, .inr (1, [.ref h1, .ref h7, .int (nI 0)])), (h8, .inl (K 0, 32, .inr (.inr (.inr (.inr (va_up (fun _ => none) (0 + ya) (some (u0 0)))))))), ((u0 0), .inr (7, [.int (nI 0), .ref (u0 1), .int (nI 0), .int (nI 1), .int (nI 0), .int (nI 13), .int (nI 13), .int (nI 0), .int (-1), .int (nI 0), .int (nI 0), .int (nI 0), .int (nI 0), .int (nI 0)])), (h7, .inr (4, [.ref a7, .ref h8, .ref a8, .int (nI 1)]))]) (run_V (rest := []) hx hb hml hown hts hK hP hD hS hA hm (C247_make l G D K H.size h10 h11 h12 h13 h14 h15 (.ref a9) (.ref a10) (.ref a11) (.int (nI 60)) (.int (nI 0)) (.int (nI 2)) (.int (nI 0)) (.int (nI 0)) (.int (nI 0)) (.int (nI 0)) (.int (nI 0)) (.int (nI 0)) (.int (nI 0)) (.int (nI 1)) (fun _ => (-1)) ya (by omega) (by omega)) [0, 1, 2, 3, 4, 5] rfl rfl mok_yX12_make w_1341 w_1342 w_1343 (rcv hK hP 0 rfl rfl rfl) ⟨Nat.le_of_ble_eq_true rfl, Nat.le_of_ble_eq_true rfl⟩ rfl hl.1 rfl (Nat.le_of_ble_eq_true rfl) dL_law_300 ⟨(by dsimp only [room_1]; omega), (by dsimp only [room_1]; omega)⟩) hP hD hS hA [0, 1, 2, 3, 4, 5] [6, 7, 8, 9, 10, 11, 12, 13, 14, 15, 16, 17] rfl rfl rfl (by decide) (w2 := fun u1 => [(h9, .inl (K 3, 1, .inr (.inl (vp_updL (fun _ => 0) 0 0)))), (h0, .inr (9, [.ref h1, .ref h7, .ref h2, .ref a0, .ref h6, .ref a1, .ref a2, .ref a3, .int (nI 0)])), (h1, .inr (5, [.ref h3, .int (nI 1)])), (h3, .inl (K 0, 200, .inr (.inr (.inr (.inr (va_up (fun _ => none) 0 (some (u0 0)))))))), ((u0 1), .inl (K 0, 11, .inr (.inr (.inr (.inr (fun _ => none)))))), (h2, .inr (3, [.ref h4, .ref a4, .ref a5, .int (nI 0), .int (nI 13), .int (nI 100), .int (nI 60), .ref a6])), (h4, .inr (5, [.ref h5, .int (nI 1)])), (h5, .inl (K 0, 200, .inr (.inr (.inr (.inr (va_up (fun _ => none) 0 (some (u0 0)))))))), (h6, .inr (1, [.ref h1, .ref h7, .int (nI 0)])), (h8, .inl (K 0, 32, .inr (.inr (.inr (.inr (va_up (fun _ => none) (0 + ya) (some (u0 0)))))))), ((u0 0), .inr (7, [.int (nI 0), .ref (u0 1), .int (nI 0), .int (nI 1), .int (nI 0), .int (nI 13), .int (nI 13), .int (nI 0), .int (-1), .int (nI 0), .int (nI 0), .int (nI 0), .int (nI 0), .int (nI 0)])), (h7, .inr (4, [.ref a7, .ref h8, .ref a8, .int (nI 1)])), (h12, .inr (13, [.int (nI 1), .ref (u1 2), .int (nI 1)])), ((u1 2), .inl (K 4, 10, .inr (.inr (.inr (.inr (va_up (fun _ => none) 0 (some (u1 0)))))))), ((u1 0), .inr (11, [.int (nI 0), .ref (u1 1), .int (nI 0), .int (nI 1), .int (nI 0), .int (nI 0), .int (-1), .int (nI 2), .int (nI 0), .int (nI 0), .int (nI 0)])), ((u1 1), .inl (K 2, 11, .inl (fun _ => (-1)))), (h10, .inr (12, [.int (nI 0), .ref h11])), (h11, .inr (10, [.ref h12, .ref h13, .ref a9, .ref a10, .ref a11, .int (nI 0), .int (nI 13), .int (nI 60), .int (nI 0), .int (nI 2), .int (nI 0), .int (nI 0), .int (nI 0), .int (nI 0), .int (nI 0), .int (nI 0), .int (nI 0)])), (h15, .inl (K 2, 4, .inl (upd (fun _ => (-1)) ya (nI 0)))), (h13, .inr (13, [.int (nI 1), .ref h14, .int (nI 1)])), (h14, .inl (K 4, 10, .inr (.inr (.inr (.inr (va_up (fun _ => none) 0 (some h15)))))))]) (fun _ => rfl) (fun u1 H locs hP hD hS => ?_)
  refine lv_istore (lv' := [(6, .int (nI 0)), (5, .int (nI 0)), (0, .ref b), (1, .ref h0), (2, .ref h10), (3, .ref h9), (4, .int (nI 0))]) hx hb dL_law_303 hl (by decide) rfl (fun ls hl => ?_)
  refine lv_aload_n hx hb dL_law_305 rfl (lv_at hl 4 rfl) ?_
  refine k_i (wr := [(h9, .inl (K 3, 1, .inr (.inl (vp_updL (fun _ => 0) 0 0)))), (h0, .inr (9, [.ref h1, .ref h7, .ref h2, .ref a0, .ref h6, .ref a1, .ref a2, .ref a3, .int (nI 0)])), (h1, .inr (5, [.ref h3, .int (nI 1)])), (h3, .inl (K 0, 200, .inr (.inr (.inr (.inr (va_up (fun _ => none) 0 (some (u0 0)))))))), ((u0 1), .inl (K 0, 11, .inr (.inr (.inr (.inr (fun _ => none)))))), (h2, .inr (3, [.ref h4, .ref a4, .ref a5, .int (nI 0), .int (nI 13), .int (nI 100), .int (nI 60), .ref a6])), (h4, .inr (5, [.ref h5, .int (nI 1)])), (h5, .inl (K 0, 200, .inr (.inr (.inr (.inr (va_up (fun _ => none) 0 (some (u0 0)))))))), (h6, .inr (1, [.ref h1, .ref h7, .int (nI 0)])), (h8, .inl (K 0, 32, .inr (.inr (.inr (.inr (va_up (fun _ => none) (0 + ya) (some (u0 0)))))))), ((u0 0), .inr (7, [.int (nI 0), .ref (u0 1), .int (nI 0), .int (nI 1), .int (nI 0), .int (nI 13), .int (nI 13), .int (nI 0), .int (-1), .int (nI 0), .int (nI 0), .int (nI 0), .int (nI 0), .int (nI 0)])), (h7, .inr (4, [.ref a7, .ref h8, .ref a8, .int (nI 1)])), (h12, .inr (13, [.int (nI 1), .ref (u1 2), .int (nI 1)])), ((u1 2), .inl (K 4, 10, .inr (.inr (.inr (.inr (va_up (fun _ => none) 0 (some (u1 0)))))))), ((u1 0), .inr (11, [.int (nI 0), .ref (u1 1), .int (nI 0), .int (nI 1), .int (nI 0), .int (nI 0), .int (-1), .int (nI 2), .int (nI 0), .int (nI 0), .int (nI 0)])), ((u1 1), .inl (K 2, 11, .inl (fun _ => (-1)))), (h11, .inr (10, [.ref h12, .ref h13, .ref a9, .ref a10, .ref a11, .int (nI 0), .int (nI 13), .int (nI 60), .int (nI 0), .int (nI 2), .int (nI 0), .int (nI 0), .int (nI 0), .int (nI 0), .int (nI 0), .int (nI 0), .int (nI 0)])), (h15, .inl (K 2, 4, .inl (upd (fun _ => (-1)) ya (nI 0)))), (h13, .inr (13, [.int (nI 1), .ref h14, .int (nI 1)])), (h14, .inl (K 4, 10, .inr (.inr (.inr (.inr (va_up (fun _ => none) 0 (some h15)))))))]) (run_V (rest := []) hx hb hml hown hts hK hP hD hS hA hm (C1057_thrown l G D K H.size h10 (.ref h11)) [16] rfl rfl mok_yX12_thrown w_1300 w_1301 w_1302 (rcv hK hP 16 rfl rfl rfl) ⟨Nat.le_of_ble_eq_true rfl, Nat.le_of_ble_eq_true rfl⟩ rfl hl.1 rfl (Nat.le_of_ble_eq_true rfl) dL_law_306 ⟨(by dsimp only [room_1]; omega), (by dsimp only [room_1]; omega)⟩) hP hD hS hA [16] [0, 1, 2, 3, 4, 5, 6, 7, 8, 9, 10, 11, 12, 13, 14, 15, 17, 18, 19, 20] rfl rfl rfl (by decide) (w2 := fun u2 => [(h9, .inl (K 3, 1, .inr (.inl (vp_updL (fun _ => 0) 0 0)))), (h0, .inr (9, [.ref h1, .ref h7, .ref h2, .ref a0, .ref h6, .ref a1, .ref a2, .ref a3, .int (nI 0)])), (h1, .inr (5, [.ref h3, .int (nI 1)])), (h3, .inl (K 0, 200, .inr (.inr (.inr (.inr (va_up (fun _ => none) 0 (some (u0 0)))))))), ((u0 1), .inl (K 0, 11, .inr (.inr (.inr (.inr (fun _ => none)))))), (h2, .inr (3, [.ref h4, .ref a4, .ref a5, .int (nI 0), .int (nI 13), .int (nI 100), .int (nI 60), .ref a6])), (h4, .inr (5, [.ref h5, .int (nI 1)])), (h5, .inl (K 0, 200, .inr (.inr (.inr (.inr (va_up (fun _ => none) 0 (some (u0 0)))))))), (h6, .inr (1, [.ref h1, .ref h7, .int (nI 0)])), (h8, .inl (K 0, 32, .inr (.inr (.inr (.inr (va_up (fun _ => none) (0 + ya) (some (u0 0)))))))), ((u0 0), .inr (7, [.int (nI 0), .ref (u0 1), .int (nI 0), .int (nI 1), .int (nI 0), .int (nI 13), .int (nI 13), .int (nI 0), .int (-1), .int (nI 0), .int (nI 0), .int (nI 0), .int (nI 0), .int (nI 0)])), (h7, .inr (4, [.ref a7, .ref h8, .ref a8, .int (nI 1)])), (h12, .inr (13, [.int (nI 1), .ref (u1 2), .int (nI 1)])), ((u1 2), .inl (K 4, 10, .inr (.inr (.inr (.inr (va_up (fun _ => none) 0 (some (u1 0)))))))), ((u1 0), .inr (11, [.int (nI 0), .ref (u1 1), .int (nI 0), .int (nI 1), .int (nI 0), .int (nI 0), .int (-1), .int (nI 2), .int (nI 0), .int (nI 0), .int (nI 0)])), ((u1 1), .inl (K 2, 11, .inl (fun _ => (-1)))), (h11, .inr (10, [.ref h12, .ref h13, .ref a9, .ref a10, .ref a11, .int (nI 0), .int (nI 13), .int (nI 60), .int (nI 0), .int (nI 2), .int (nI 0), .int (nI 0), .int (nI 0), .int (nI 0), .int (nI 0), .int (nI 0), .int (nI 0)])), (h15, .inl (K 2, 4, .inl (upd (fun _ => (-1)) ya (nI 0)))), (h13, .inr (13, [.int (nI 1), .ref h14, .int (nI 1)])), (h14, .inl (K 4, 10, .inr (.inr (.inr (.inr (va_up (fun _ => none) 0 (some h15))))))), (h10, .inr (12, [.int (nI 0), .ref h11]))]) (fun _ => rfl) (fun u2 H locs hP hD hS => ?_)
  refine lv_iload hx hb dL_law_309 (lv_at hl 1 rfl) ?_
  refine lv_icmp_eq (tgt := 316) hx hb dL_law_311 (by decide) (fun _ => ?_) (fun c9 => absurd (by decide +kernel) c9)
  refine lv_iload hx hb dL_law_316 (lv_at hl 1 rfl) ?_
  refine lv_if_ne (tgt := 333) hx hb dL_law_318 (by decide) (fun c9 => absurd (by decide +kernel) c9) (fun _ => ?_)
  refine lv_aload_n hx hb dL_law_321 rfl (lv_at hl 5 rfl) ?_
  refine lv_iconst (v := nI 0) hx hb dL_law_322 (by decide +kernel) ?_
  refine r_lald (k := 0) hx hb hK hP 0 3 rfl rfl (Nat.le_of_ble_eq_true rfl) (by decide) (v := 0) rfl dL_law_323 ?_
  refine lv_iload hx hb dL_law_324 (lv_at hl 0 rfl) ?_
  refine lv_i2l (v := 0) hx hb dL_law_326 (by decide +kernel) ?_
  refine W.lcmp hx hb dL_law_327 ?_
  refine w_toeq (show lg_cmp 0 0 = nI 0 by decide +kernel) ?_
  refine lv_if_eq (tgt := 333) hx hb dL_law_328 (by decide) (fun _ => ?_) (fun c9 => absurd (by decide +kernel) c9)
  refine lv_goto (tgt := 1762) hx hb dL_law_333 (by decide) ?_
  refine lv_iinc (v := nI 4) (lv' := [(4, .int (nI 4)), (6, .int (nI 0)), (5, .int (nI 0)), (0, .ref b), (1, .ref h0), (2, .ref h10), (3, .ref h9)]) hx hb dL_law_1762 hl (k := 6) rfl (by decide +kernel) (by decide) rfl (fun ls hl => ?_)
  refine lv_goto (tgt := 23) hx hb dL_law_1765 (by decide) ?_
  refine lv_iload hx hb dL_law_23 (lv_at hl 0 rfl) ?_
  refine lv_aload_n hx hb dL_law_25 rfl (lv_at hl 3 rfl) ?_
  refine va_slen hx hb hX hbl hbA hS dL_law_26 ?_
  refine w_toeq (show Int32.ofNat 4 = nI 4 from rfl) ?_
  refine lv_iconst (v := nI 4) hx hb dL_law_27 (by decide +kernel) ?_
  refine lv_isub hx hb dL_law_28 ?_
  refine w_toeq (show (nI 4) - (nI 4) = nI 0 by decide +kernel) ?_
  refine lv_icmp_gt (tgt := 1768) hx hb dL_law_29 (by decide) (fun _ => ?_) (fun c9 => absurd (by decide +kernel) c9)
  refine lv_iconst (v := nI 1) hx hb dL_law_1768 (by decide +kernel) ?_
  exact law_end hx hb hr hlk hS (by dsimp only; omega) (by dsimp only; omega) dL_law_1769
set_option maxHeartbeats 4000000 in
set_option maxRecDepth 100000 in
theorem LW32_make {p : Program} {e : Env} {s : State} {m : MethodId} {below : List Frame} {meth : Method} {c : Code} {l : Launch} {G : Nat → Nat} {D : va_G} {K : Nat → ClassId} {b : Nat} {xs : Nat → Int32} (hx : p.tables.exec = Jvm.exec) (hb : c.code = cL_law) (hr : meth.sig.returnType = some .boolean) (hlk : meth.locks = false) (hl0 : l.stackTraces = false) (hnc : Ncs s) (hml : c.maxLocals = 9) (hown : s.vm.findClass RL = some m.cls) (hts : ∀ w ∈ lw_gw, w.before #[Value.ref b] s = true) (hK : va_K D cl (tys K) s) (hm : Amb G (fun q : Nat => s.heap.size ≤ q) s s.heap) (hX : va_X b 4 xs s s.heap) (hbl : b < s.heap.size) {h0 h1 h2 h3 h4 h5 h6 h7 h8 h9 h10 h11 h12 h13 h14 h15 a0 a1 a2 a3 a4 a5 a6 a7 a8 a9 a10 a11 : Nat} (ya : Nat) (lya : 0 ≤ ya) (gya : ya ≤ 3) (hx1 : xs 1 = nI ya) (hx2 : xs 2 = nI 0) (hx3 : xs 3 = nI 12) {H : Heap} {locs : List Loc} {cells slots : Nat} (hcs : cells ≤ 1000) (hss : slots ≤ 100000) (hP : va_P D cl [(h0, .inr (9, [.ref h1, .ref h7, .ref h2, .ref a0, .ref h6, .ref a1, .ref a2, .ref a3, .int (nI 0)])), (h1, .inr (5, [.ref h4, .int (nI 0)])), (h2, .inr (3, [.ref a4, .ref a5, .ref h3, .int (nI 0), .int (nI 0), .int (nI 100), .int (nI 60), .ref a6])), (h3, .inr (5, [.ref h5, .int (nI 0)])), (h4, .inl (K 0, 200, .inr (.inr (.inr (.inr (fun _ => none)))))), (h5, .inl (K 0, 200, .inr (.inr (.inr (.inr (fun _ => none)))))), (h6, .inr (1, [.ref h1, .ref h7, .int (nI 0)])), (h7, .inr (4, [.ref a7, .ref h8, .ref a8, .int (nI 1)])), (h8, .inl (K 0, 32, .inr (.inr (.inr (.inr (fun _ => none)))))), (h9, .inl (K 3, 1, .inr (.inl (fun _ => 0)))), (h10, .inr (12, [.int (nI 0), .ref h11])), (h11, .inr (10, [.ref h12, .ref h13, .ref a9, .ref a10, .ref a11, .int (nI 0), .int (nI 0), .int (nI 60), .int (nI 0), .int (nI 2), .int (nI 0), .int (nI 0), .int (nI 0), .int (nI 0), .int (nI 0), .int (nI 0), .int (nI 0)])), (h12, .inr (13, [.int (nI 0), .ref (G 0), .int (nI 0)])), (h13, .inr (13, [.int (nI 1), .ref h14, .int (nI 1)])), (h14, .inl (K 4, 10, .inr (.inr (.inr (.inr (va_up (fun _ => none) 0 (some h15))))))), (h15, .inl (K 2, 4, .inl (fun _ => (-1))))] H) (hD : va_D (fun q : Nat => s.heap.size ≤ q) [(h0, .inr (9, [.ref h1, .ref h7, .ref h2, .ref a0, .ref h6, .ref a1, .ref a2, .ref a3, .int (nI 0)])), (h1, .inr (5, [.ref h4, .int (nI 0)])), (h2, .inr (3, [.ref a4, .ref a5, .ref h3, .int (nI 0), .int (nI 0), .int (nI 100), .int (nI 60), .ref a6])), (h3, .inr (5, [.ref h5, .int (nI 0)])), (h4, .inl (K 0, 200, .inr (.inr (.inr (.inr (fun _ => none)))))), (h5, .inl (K 0, 200, .inr (.inr (.inr (.inr (fun _ => none)))))), (h6, .inr (1, [.ref h1, .ref h7, .int (nI 0)])), (h7, .inr (4, [.ref a7, .ref h8, .ref a8, .int (nI 1)])), (h8, .inl (K 0, 32, .inr (.inr (.inr (.inr (fun _ => none)))))), (h9, .inl (K 3, 1, .inr (.inl (fun _ => 0)))), (h10, .inr (12, [.int (nI 0), .ref h11])), (h11, .inr (10, [.ref h12, .ref h13, .ref a9, .ref a10, .ref a11, .int (nI 0), .int (nI 0), .int (nI 60), .int (nI 0), .int (nI 2), .int (nI 0), .int (nI 0), .int (nI 0), .int (nI 0), .int (nI 0), .int (nI 0), .int (nI 0)])), (h12, .inr (13, [.int (nI 0), .ref (G 0), .int (nI 0)])), (h13, .inr (13, [.int (nI 1), .ref h14, .int (nI 1)])), (h14, .inl (K 4, 10, .inr (.inr (.inr (.inr (va_up (fun _ => none) 0 (some h15))))))), (h15, .inl (K 2, 4, .inl (fun _ => (-1))))]) (hS : va_S (fun q : Nat => s.heap.size ≤ q) s.heap H locs) {ls : Array Slot} (hl : lv_has ls 9 [(0, .ref b), (1, .ref h0), (2, .ref h10), (3, .ref h9), (4, .int (nI 0))]) : W p l e room_1 s m #[Value.ref b] below meth c H locs cells slots (lw_Z below #[Value.ref b] s) (F0 m 256 ls []) := by
  have hA : ∀ q : Nat, s.heap.size ≤ q → (fun q : Nat => s.heap.size ≤ q) q := fun _ h => h
  have hbA : ¬ (fun q : Nat => s.heap.size ≤ q) b := Nat.not_le.mpr hbl
  refine lv_aload_n hx hb dL_law_256 rfl (lv_at hl 1 rfl) ?_
  refine lv_aload_n hx hb dL_law_257 rfl (lv_at hl 0 rfl) ?_
  refine lv_iload hx hb dL_law_258 (lv_at hl 4 rfl) ?_
  refine lv_iconst (v := nI 1) hx hb dL_law_260 (by decide +kernel) ?_
  refine lv_iadd hx hb dL_law_261 ?_
  refine w_toeq (show (nI 0) + (nI 1) = nI 1 by decide +kernel) ?_
  refine va_sld hx hb hX hbl hbA hS (vp_in_nI (n := 1) (by decide) (by decide)) dL_law_262 ?_
  refine w_toeq (show xs (nI 1).toNatClampNeg = nI ya by rw [nI_clamp (n := 1) (by decide)]; exact hx1) ?_
  refine lv_aload_n hx hb dL_law_263 rfl (lv_at hl 0 rfl) ?_
  refine lv_iload hx hb dL_law_264 (lv_at hl 4 rfl) ?_
  refine lv_iconst (v := nI 2) hx hb dL_law_266 (by decide +kernel) ?_
  refine lv_iadd hx hb dL_law_267 ?_
  refine w_toeq (show (nI 0) + (nI 2) = nI 2 by decide +kernel) ?_
  refine va_sld hx hb hX hbl hbA hS (vp_in_nI (n := 2) (by decide) (by decide)) dL_law_268 ?_
  refine w_toeq (show xs (nI 2).toNatClampNeg = nI 0 by rw [nI_clamp (n := 2) (by decide)]; exact hx2) ?_
  refine lv_aload_n hx hb dL_law_269 rfl (lv_at hl 0 rfl) ?_
  refine lv_iload hx hb dL_law_270 (lv_at hl 4 rfl) ?_
  refine lv_iconst (v := nI 3) hx hb dL_law_272 (by decide +kernel) ?_
  refine lv_iadd hx hb dL_law_273 ?_
  refine w_toeq (show (nI 0) + (nI 3) = nI 3 by decide +kernel) ?_
  refine va_sld hx hb hX hbl hbA hS (vp_in_nI (n := 3) (by decide) (by decide)) dL_law_274 ?_
  refine w_toeq (show xs (nI 3).toNatClampNeg = nI 12 by rw [nI_clamp (n := 3) (by decide)]; exact hx3) ?_
  refine lv_aload_n hx hb dL_law_275 rfl (lv_at hl 3 rfl) ?_
  refine k_i (wr := [(h10, .inr (12, [.int (nI 0), .ref h11])), (h11, .inr (10, [.ref h12, .ref h13, .ref a9, .ref a10, .ref a11, .int (nI 0), .int (nI 0), .int (nI 60), .int (nI 0), .int (nI 2), .int (nI 0), .int (nI 0), .int (nI 0), .int (nI 0), .int (nI 0), .int (nI 0), .int (nI 0)])), (h12, .inr (13, [.int (nI 0), .ref (G 0), .int (nI 0)])), (h13, .inr (13, [.int (nI 1), .ref h14, .int (nI 1)])), (h14, .inl (K 4, 10, .inr (.inr (.inr (.inr (va_up (fun _ => none) 0 (some h15))))))), (h15, .inl (K 2, 4, .inl (fun _ => (-1))))]) (run_SW hnc (rest := []) hx hb hml hown hts hK hP hD hS hA hm (C1091_make l G D K H.size h0 h1 h2 h3 h4 h5 h6 h7 h8 h9 (.ref a0) (.ref a1) (.ref a2) (.ref a3) (.int (nI 0)) (.ref a4) (.ref a5) (.int (nI 0)) (.int (nI 0)) (.int (nI 100)) (.int (nI 60)) (.ref a6) (.ref h1) (.ref h7) (.ref a7) (.ref a8) (fun _ => none) (fun _ => none) (fun _ => none) (fun _ => 0) ya (by omega) (by omega)) [0, 1, 2, 3, 4, 5, 6, 7, 8, 9] rfl rfl mokh_yL_make w_786 w_787 ⟨Nat.le_of_ble_eq_true rfl, Nat.le_of_ble_eq_true rfl⟩ rfl hl.1 rfl (Nat.le_of_ble_eq_true rfl) dL_law_276 ⟨(by dsimp only [room_1]; omega), (by dsimp only [room_1]; omega)⟩) hP hD hS hA [0, 1, 2, 3, 4, 5, 6, 7, 8, 9] [10, 11, 12, 13, 14, 15] rfl rfl rfl (by decide) (w2 := fun u0 => [(h10, .inr (12, [.int (nI 0), .ref h11])), (h11, .inr (10, [.ref h12, .ref h13, .ref a9, .ref a10, .ref a11, .int (nI 0), .int (nI 0), .int (nI 60), .int (nI 0), .int (nI 2), .int (nI 0), .int (nI 0), .int (nI 0), .int (nI 0), .int (nI 0), .int (nI 0), .int (nI 0)])), (h12, .inr (13, [.int (nI 0), .ref (G 0), .int (nI 0)])), (h13, .inr (13, [.int (nI 1), .ref h14, .int (nI 1)])), (h14, .inl (K 4, 10, .inr (.inr (.inr (.inr (va_up (fun _ => none) 0 (some h15))))))), (h15, .inl (K 2, 4, .inl (fun _ => (-1)))), (h9, .inl (K 3, 1, .inr (.inl (vp_updL (fun _ => 0) 0 0)))), (h0, .inr (9, [.ref h1, .ref h7, .ref h2, .ref a0, .ref h6, .ref a1, .ref a2, .ref a3, .int (nI 0)])), (h1, .inr (5, [.ref h4, .int (nI 1)])), (h4, .inl (K 0, 200, .inr (.inr (.inr (.inr (va_up (fun _ => none) 0 (some (u0 0)))))))), ((u0 1), .inl (K 0, 12, .inr (.inr (.inr (.inr (fun _ => none)))))), (h2, .inr (3, [.ref a4, .ref a5, .ref h3, .int (nI 0), .int (nI 0), .int (nI 100), .int (nI 60), .ref a6])), (h3, .inr (5, [.ref h5, .int (nI 1)])), (h5, .inl (K 0, 200, .inr (.inr (.inr (.inr (va_up (fun _ => none) 0 (some (u0 0)))))))), (h6, .inr (1, [.ref h1, .ref h7, .int (nI 0)])), (h8, .inl (K 0, 32, .inr (.inr (.inr (.inr (va_up (fun _ => none) (0 + ya) (some (u0 0)))))))), ((u0 0), .inr (7, [.int (nI 0), .ref (u0 1), .int (nI 0), .int (nI 3), .int (nI 300), .int (nI 14), .int (nI 14), .int (nI 0), .int (-1), .int (nI 0), .int (nI 0), .int (nI 0), .int (nI 0), .int (nI 0)])), (h7, .inr (4, [.ref a7, .ref h8, .ref a8, .int (nI 1)]))]) (fun _ => rfl) (fun u0 H locs hP hD hS => ?_)
  refine lv_istore (lv' := [(5, .int (nI 0)), (0, .ref b), (1, .ref h0), (2, .ref h10), (3, .ref h9), (4, .int (nI 0))]) hx hb dL_law_279 hl (by decide) rfl (fun ls hl => ?_)
  refine lv_aload_n hx hb dL_law_281 rfl (lv_at hl 3 rfl) ?_
  refine lv_aload_n hx hb dL_law_282 rfl (lv_at hl 1 rfl) ?_
  refine lv_iload hx hb dL_law_283 (lv_at hl 5 rfl) ?_
  refine lv_iconst (v := nI 1) hx hb dL_law_285 (by decide +kernel) ?_
  refine lv_iadd hx hb dL_law_286 ?_
  refine w_toeq (show (nI 0) + (nI 1) = nI 1 by decide +kernel) ?_
  refine va_sld hx hb hX hbl hbA hS (vp_in_nI (n := 1) (by decide) (by decide)) dL_law_287 ?_
  refine w_toeq (show xs (nI 1).toNatClampNeg = nI ya by rw [nI_clamp (n := 1) (by decide)]; exact hx1) ?_
  refine lv_aload_n hx hb dL_law_288 rfl (lv_at hl 1 rfl) ?_
  refine lv_iload hx hb dL_law_289 (lv_at hl 5 rfl) ?_
  refine lv_iconst (v := nI 2) hx hb dL_law_291 (by decide +kernel) ?_
  refine lv_iadd hx hb dL_law_292 ?_
  refine w_toeq (show (nI 0) + (nI 2) = nI 2 by decide +kernel) ?_
  refine va_sld hx hb hX hbl hbA hS (vp_in_nI (n := 2) (by decide) (by decide)) dL_law_293 ?_
  refine w_toeq (show xs (nI 2).toNatClampNeg = nI 0 by rw [nI_clamp (n := 2) (by decide)]; exact hx2) ?_
  refine lv_aload_n hx hb dL_law_294 rfl (lv_at hl 1 rfl) ?_
  refine lv_iload hx hb dL_law_295 (lv_at hl 5 rfl) ?_
  refine lv_iconst (v := nI 3) hx hb dL_law_297 (by decide +kernel) ?_
  refine lv_iadd hx hb dL_law_298 ?_
  refine w_toeq (show (nI 0) + (nI 3) = nI 3 by decide +kernel) ?_
  refine va_sld hx hb hX hbl hbA hS (vp_in_nI (n := 3) (by decide) (by decide)) dL_law_299 ?_
  refine w_toeq (show xs (nI 3).toNatClampNeg = nI 12 by rw [nI_clamp (n := 3) (by decide)]; exact hx3) ?_
  refine k_i (wr := [(h9, .inl (K 3, 1, .inr (.inl (vp_updL (fun _ => 0) 0 0)))), (h0, .inr (9, [.ref h1, .ref h7, .ref h2, .ref a0, .ref h6, .ref a1, .ref a2, .ref a3, .int (nI 0)])), (h1, .inr (5, [.ref h4, .int (nI 1)])), (h4, .inl (K 0, 200, .inr (.inr (.inr (.inr (va_up (fun _ => none) 0 (some (u0 0)))))))), ((u0 1), .inl (K 0, 12, .inr (.inr (.inr (.inr (fun _ => none)))))), (h2, .inr (3, [.ref a4, .ref a5, .ref h3, .int (nI 0), .int (nI 0), .int (nI 100), .int (nI 60), .ref a6])), (h3, .inr (5, [.ref h5, .int (nI 1)])), (h5, .inl (K 0, 200, .inr (.inr (.inr (.inr (va_up (fun _ => none) 0 (some (u0 0)))))))), (h6, .inr (1, [.ref h1, .ref h7, .int (nI 0)])), (h8, .inl (K 0, 32, .inr (.inr (.inr (.inr (va_up (fun _ => none) (0 + ya) (some (u0 0)))))))), ((u0 0), .inr (7, [.int (nI 0), .ref (u0 1), .int (nI 0), .int (nI 3), .int (nI 300), .int (nI 14), .int (nI 14), .int (nI 0), .int (-1), .int (nI 0), .int (nI 0), .int (nI 0), .int (nI 0), .int (nI 0)])), (h7, .inr (4, [.ref a7, .ref h8, .ref a8, .int (nI 1)]))]) (run_V (rest := []) hx hb hml hown hts hK hP hD hS hA hm (C264_make l G D K H.size h10 h11 h12 h13 h14 h15 (.ref a9) (.ref a10) (.ref a11) (.int (nI 0)) (.int (nI 0)) (.int (nI 60)) (.int (nI 0)) (.int (nI 2)) (.int (nI 0)) (.int (nI 0)) (.int (nI 0)) (.int (nI 0)) (.int (nI 0)) (.int (nI 0)) (.int (nI 0)) (.int (nI 1)) (fun _ => (-1)) ya (by omega) (by omega)) [0, 1, 2, 3, 4, 5] rfl rfl mok_yX12_make w_1341 w_1342 w_1343 (rcv hK hP 0 rfl rfl rfl) ⟨Nat.le_of_ble_eq_true rfl, Nat.le_of_ble_eq_true rfl⟩ rfl hl.1 rfl (Nat.le_of_ble_eq_true rfl) dL_law_300 ⟨(by dsimp only [room_1]; omega), (by dsimp only [room_1]; omega)⟩) hP hD hS hA [0, 1, 2, 3, 4, 5] [6, 7, 8, 9, 10, 11, 12, 13, 14, 15, 16, 17] rfl rfl rfl (by decide) (w2 := fun u1 => [(h9, .inl (K 3, 1, .inr (.inl (vp_updL (fun _ => 0) 0 0)))), (h0, .inr (9, [.ref h1, .ref h7, .ref h2, .ref a0, .ref h6, .ref a1, .ref a2, .ref a3, .int (nI 0)])), (h1, .inr (5, [.ref h4, .int (nI 1)])), (h4, .inl (K 0, 200, .inr (.inr (.inr (.inr (va_up (fun _ => none) 0 (some (u0 0)))))))), ((u0 1), .inl (K 0, 12, .inr (.inr (.inr (.inr (fun _ => none)))))), (h2, .inr (3, [.ref a4, .ref a5, .ref h3, .int (nI 0), .int (nI 0), .int (nI 100), .int (nI 60), .ref a6])), (h3, .inr (5, [.ref h5, .int (nI 1)])), (h5, .inl (K 0, 200, .inr (.inr (.inr (.inr (va_up (fun _ => none) 0 (some (u0 0)))))))), (h6, .inr (1, [.ref h1, .ref h7, .int (nI 0)])), (h8, .inl (K 0, 32, .inr (.inr (.inr (.inr (va_up (fun _ => none) (0 + ya) (some (u0 0)))))))), ((u0 0), .inr (7, [.int (nI 0), .ref (u0 1), .int (nI 0), .int (nI 3), .int (nI 300), .int (nI 14), .int (nI 14), .int (nI 0), .int (-1), .int (nI 0), .int (nI 0), .int (nI 0), .int (nI 0), .int (nI 0)])), (h7, .inr (4, [.ref a7, .ref h8, .ref a8, .int (nI 1)])), ((u1 1), .inr (14, [.int (nI 0), .int (-1), .int (nI 0), .ref h12])), ((u1 2), .inr (14, [.int (nI 0), .int (-1), .int (nI 0), .ref (u1 0)])), ((u1 0), .inr (13, [.int (nI 0), .ref (G 0), .int (nI 0)])), ((u1 4), .inr (14, [.int (nI 0), .int (-1), .int (nI 0), .ref h12])), ((u1 5), .inr (14, [.int (nI 0), .int (-1), .int (nI 0), .ref (u1 3)])), ((u1 3), .inr (13, [.int (nI 0), .ref (G 0), .int (nI 0)])), ((u1 7), .inr (14, [.int (nI 0), .int (-1), .int (nI 0), .ref h12])), ((u1 8), .inr (14, [.int (nI 0), .int (-1), .int (nI 0), .ref (u1 6)])), ((u1 6), .inr (13, [.int (nI 0), .ref (G 0), .int (nI 0)])), ((u1 10), .inr (14, [.int (nI 0), .int (-1), .int (nI 0), .ref h12])), ((u1 11), .inr (14, [.int (nI 0), .int (-1), .int (nI 0), .ref (u1 9)])), ((u1 9), .inr (13, [.int (nI 0), .ref (G 0), .int (nI 0)])), ((u1 13), .inl (K 2, 12, .inl (fun _ => (-1)))), ((u1 12), .inr (11, [.int (nI 0), .ref (u1 13), .int (nI 0), .int (nI 3), .int (nI 300), .int (nI 0), .int (-1), .int (nI 2), .int (nI 0), .int (nI 0), .int (nI 0)])), (h12, .inr (13, [.int (nI 1), .ref (u1 14), .int (nI 1)])), ((u1 14), .inl (K 4, 10, .inr (.inr (.inr (.inr (va_up (fun _ => none) 0 (some (u1 12)))))))), (h10, .inr (12, [.int (nI 0), .ref h11])), (h11, .inr (10, [.ref h12, .ref h13, .ref a9, .ref a10, .ref a11, .int (nI 0), .int (nI 0), .int (nI 60), .int (nI 0), .int (nI 2), .int (nI 0), .int (nI 0), .int (nI 0), .int (nI 0), .int (nI 0), .int (nI 0), .int (nI 0)])), (h15, .inl (K 2, 4, .inl (upd (fun _ => (-1)) ya (nI 0)))), (h13, .inr (13, [.int (nI 1), .ref h14, .int (nI 1)])), (h14, .inl (K 4, 10, .inr (.inr (.inr (.inr (va_up (fun _ => none) 0 (some h15)))))))]) (fun _ => rfl) (fun u1 H locs hP hD hS => ?_)
  refine lv_istore (lv' := [(6, .int (nI 0)), (5, .int (nI 0)), (0, .ref b), (1, .ref h0), (2, .ref h10), (3, .ref h9), (4, .int (nI 0))]) hx hb dL_law_303 hl (by decide) rfl (fun ls hl => ?_)
  refine lv_aload_n hx hb dL_law_305 rfl (lv_at hl 4 rfl) ?_
  refine k_i (wr := [(h9, .inl (K 3, 1, .inr (.inl (vp_updL (fun _ => 0) 0 0)))), (h0, .inr (9, [.ref h1, .ref h7, .ref h2, .ref a0, .ref h6, .ref a1, .ref a2, .ref a3, .int (nI 0)])), (h1, .inr (5, [.ref h4, .int (nI 1)])), (h4, .inl (K 0, 200, .inr (.inr (.inr (.inr (va_up (fun _ => none) 0 (some (u0 0)))))))), ((u0 1), .inl (K 0, 12, .inr (.inr (.inr (.inr (fun _ => none)))))), (h2, .inr (3, [.ref a4, .ref a5, .ref h3, .int (nI 0), .int (nI 0), .int (nI 100), .int (nI 60), .ref a6])), (h3, .inr (5, [.ref h5, .int (nI 1)])), (h5, .inl (K 0, 200, .inr (.inr (.inr (.inr (va_up (fun _ => none) 0 (some (u0 0)))))))), (h6, .inr (1, [.ref h1, .ref h7, .int (nI 0)])), (h8, .inl (K 0, 32, .inr (.inr (.inr (.inr (va_up (fun _ => none) (0 + ya) (some (u0 0)))))))), ((u0 0), .inr (7, [.int (nI 0), .ref (u0 1), .int (nI 0), .int (nI 3), .int (nI 300), .int (nI 14), .int (nI 14), .int (nI 0), .int (-1), .int (nI 0), .int (nI 0), .int (nI 0), .int (nI 0), .int (nI 0)])), (h7, .inr (4, [.ref a7, .ref h8, .ref a8, .int (nI 1)])), ((u1 1), .inr (14, [.int (nI 0), .int (-1), .int (nI 0), .ref h12])), ((u1 2), .inr (14, [.int (nI 0), .int (-1), .int (nI 0), .ref (u1 0)])), ((u1 0), .inr (13, [.int (nI 0), .ref (G 0), .int (nI 0)])), ((u1 4), .inr (14, [.int (nI 0), .int (-1), .int (nI 0), .ref h12])), ((u1 5), .inr (14, [.int (nI 0), .int (-1), .int (nI 0), .ref (u1 3)])), ((u1 3), .inr (13, [.int (nI 0), .ref (G 0), .int (nI 0)])), ((u1 7), .inr (14, [.int (nI 0), .int (-1), .int (nI 0), .ref h12])), ((u1 8), .inr (14, [.int (nI 0), .int (-1), .int (nI 0), .ref (u1 6)])), ((u1 6), .inr (13, [.int (nI 0), .ref (G 0), .int (nI 0)])), ((u1 10), .inr (14, [.int (nI 0), .int (-1), .int (nI 0), .ref h12])), ((u1 11), .inr (14, [.int (nI 0), .int (-1), .int (nI 0), .ref (u1 9)])), ((u1 9), .inr (13, [.int (nI 0), .ref (G 0), .int (nI 0)])), ((u1 13), .inl (K 2, 12, .inl (fun _ => (-1)))), ((u1 12), .inr (11, [.int (nI 0), .ref (u1 13), .int (nI 0), .int (nI 3), .int (nI 300), .int (nI 0), .int (-1), .int (nI 2), .int (nI 0), .int (nI 0), .int (nI 0)])), (h12, .inr (13, [.int (nI 1), .ref (u1 14), .int (nI 1)])), ((u1 14), .inl (K 4, 10, .inr (.inr (.inr (.inr (va_up (fun _ => none) 0 (some (u1 12)))))))), (h11, .inr (10, [.ref h12, .ref h13, .ref a9, .ref a10, .ref a11, .int (nI 0), .int (nI 0), .int (nI 60), .int (nI 0), .int (nI 2), .int (nI 0), .int (nI 0), .int (nI 0), .int (nI 0), .int (nI 0), .int (nI 0), .int (nI 0)])), (h15, .inl (K 2, 4, .inl (upd (fun _ => (-1)) ya (nI 0)))), (h13, .inr (13, [.int (nI 1), .ref h14, .int (nI 1)])), (h14, .inl (K 4, 10, .inr (.inr (.inr (.inr (va_up (fun _ => none) 0 (some h15)))))))]) (run_V (rest := []) hx hb hml hown hts hK hP hD hS hA hm (C1057_thrown l G D K H.size h10 (.ref h11)) [28] rfl rfl mok_yX12_thrown w_1300 w_1301 w_1302 (rcv hK hP 28 rfl rfl rfl) ⟨Nat.le_of_ble_eq_true rfl, Nat.le_of_ble_eq_true rfl⟩ rfl hl.1 rfl (Nat.le_of_ble_eq_true rfl) dL_law_306 ⟨(by dsimp only [room_1]; omega), (by dsimp only [room_1]; omega)⟩) hP hD hS hA [28] [0, 1, 2, 3, 4, 5, 6, 7, 8, 9, 10, 11, 12, 13, 14, 15, 16, 17, 18, 19, 20, 21, 22, 23, 24, 25, 26, 27, 29, 30, 31, 32] rfl rfl rfl (by decide) (w2 := fun u2 => [(h9, .inl (K 3, 1, .inr (.inl (vp_updL (fun _ => 0) 0 0)))), (h0, .inr (9, [.ref h1, .ref h7, .ref h2, .ref a0, .ref h6, .ref a1, .ref a2, .ref a3, .int (nI 0)])), (h1, .inr (5, [.ref h4, .int (nI 1)])), (h4, .inl (K 0, 200, .inr (.inr (.inr (.inr (va_up (fun _ => none) 0 (some (u0 0)))))))), ((u0 1), .inl (K 0, 12, .inr (.inr (.inr (.inr (fun _ => none)))))), (h2, .inr (3, [.ref a4, .ref a5, .ref h3, .int (nI 0), .int (nI 0), .int (nI 100), .int (nI 60), .ref a6])), (h3, .inr (5, [.ref h5, .int (nI 1)])), (h5, .inl (K 0, 200, .inr (.inr (.inr (.inr (va_up (fun _ => none) 0 (some (u0 0)))))))), (h6, .inr (1, [.ref h1, .ref h7, .int (nI 0)])), (h8, .inl (K 0, 32, .inr (.inr (.inr (.inr (va_up (fun _ => none) (0 + ya) (some (u0 0)))))))), ((u0 0), .inr (7, [.int (nI 0), .ref (u0 1), .int (nI 0), .int (nI 3), .int (nI 300), .int (nI 14), .int (nI 14), .int (nI 0), .int (-1), .int (nI 0), .int (nI 0), .int (nI 0), .int (nI 0), .int (nI 0)])), (h7, .inr (4, [.ref a7, .ref h8, .ref a8, .int (nI 1)])), ((u1 1), .inr (14, [.int (nI 0), .int (-1), .int (nI 0), .ref h12])), ((u1 2), .inr (14, [.int (nI 0), .int (-1), .int (nI 0), .ref (u1 0)])), ((u1 0), .inr (13, [.int (nI 0), .ref (G 0), .int (nI 0)])), ((u1 4), .inr (14, [.int (nI 0), .int (-1), .int (nI 0), .ref h12])), ((u1 5), .inr (14, [.int (nI 0), .int (-1), .int (nI 0), .ref (u1 3)])), ((u1 3), .inr (13, [.int (nI 0), .ref (G 0), .int (nI 0)])), ((u1 7), .inr (14, [.int (nI 0), .int (-1), .int (nI 0), .ref h12])), ((u1 8), .inr (14, [.int (nI 0), .int (-1), .int (nI 0), .ref (u1 6)])), ((u1 6), .inr (13, [.int (nI 0), .ref (G 0), .int (nI 0)])), ((u1 10), .inr (14, [.int (nI 0), .int (-1), .int (nI 0), .ref h12])), ((u1 11), .inr (14, [.int (nI 0), .int (-1), .int (nI 0), .ref (u1 9)])), ((u1 9), .inr (13, [.int (nI 0), .ref (G 0), .int (nI 0)])), ((u1 13), .inl (K 2, 12, .inl (fun _ => (-1)))), ((u1 12), .inr (11, [.int (nI 0), .ref (u1 13), .int (nI 0), .int (nI 3), .int (nI 300), .int (nI 0), .int (-1), .int (nI 2), .int (nI 0), .int (nI 0), .int (nI 0)])), (h12, .inr (13, [.int (nI 1), .ref (u1 14), .int (nI 1)])), ((u1 14), .inl (K 4, 10, .inr (.inr (.inr (.inr (va_up (fun _ => none) 0 (some (u1 12)))))))), (h11, .inr (10, [.ref h12, .ref h13, .ref a9, .ref a10, .ref a11, .int (nI 0), .int (nI 0), .int (nI 60), .int (nI 0), .int (nI 2), .int (nI 0), .int (nI 0), .int (nI 0), .int (nI 0), .int (nI 0), .int (nI 0), .int (nI 0)])), (h15, .inl (K 2, 4, .inl (upd (fun _ => (-1)) ya (nI 0)))), (h13, .inr (13, [.int (nI 1), .ref h14, .int (nI 1)])), (h14, .inl (K 4, 10, .inr (.inr (.inr (.inr (va_up (fun _ => none) 0 (some h15))))))), (h10, .inr (12, [.int (nI 0), .ref h11]))]) (fun _ => rfl) (fun u2 H locs hP hD hS => ?_)
  refine lv_iload hx hb dL_law_309 (lv_at hl 1 rfl) ?_
  refine lv_icmp_eq (tgt := 316) hx hb dL_law_311 (by decide) (fun _ => ?_) (fun c9 => absurd (by decide +kernel) c9)
  refine lv_iload hx hb dL_law_316 (lv_at hl 1 rfl) ?_
  refine lv_if_ne (tgt := 333) hx hb dL_law_318 (by decide) (fun c9 => absurd (by decide +kernel) c9) (fun _ => ?_)
  refine lv_aload_n hx hb dL_law_321 rfl (lv_at hl 5 rfl) ?_
  refine lv_iconst (v := nI 0) hx hb dL_law_322 (by decide +kernel) ?_
  refine r_lald (k := 0) hx hb hK hP 0 3 rfl rfl (Nat.le_of_ble_eq_true rfl) (by decide) (v := 0) rfl dL_law_323 ?_
  refine lv_iload hx hb dL_law_324 (lv_at hl 0 rfl) ?_
  refine lv_i2l (v := 0) hx hb dL_law_326 (by decide +kernel) ?_
  refine W.lcmp hx hb dL_law_327 ?_
  refine w_toeq (show lg_cmp 0 0 = nI 0 by decide +kernel) ?_
  refine lv_if_eq (tgt := 333) hx hb dL_law_328 (by decide) (fun _ => ?_) (fun c9 => absurd (by decide +kernel) c9)
  refine lv_goto (tgt := 1762) hx hb dL_law_333 (by decide) ?_
  refine lv_iinc (v := nI 4) (lv' := [(4, .int (nI 4)), (6, .int (nI 0)), (5, .int (nI 0)), (0, .ref b), (1, .ref h0), (2, .ref h10), (3, .ref h9)]) hx hb dL_law_1762 hl (k := 6) rfl (by decide +kernel) (by decide) rfl (fun ls hl => ?_)
  refine lv_goto (tgt := 23) hx hb dL_law_1765 (by decide) ?_
  refine lv_iload hx hb dL_law_23 (lv_at hl 0 rfl) ?_
  refine lv_aload_n hx hb dL_law_25 rfl (lv_at hl 3 rfl) ?_
  refine va_slen hx hb hX hbl hbA hS dL_law_26 ?_
  refine w_toeq (show Int32.ofNat 4 = nI 4 from rfl) ?_
  refine lv_iconst (v := nI 4) hx hb dL_law_27 (by decide +kernel) ?_
  refine lv_isub hx hb dL_law_28 ?_
  refine w_toeq (show (nI 4) - (nI 4) = nI 0 by decide +kernel) ?_
  refine lv_icmp_gt (tgt := 1768) hx hb dL_law_29 (by decide) (fun _ => ?_) (fun c9 => absurd (by decide +kernel) c9)
  refine lv_iconst (v := nI 1) hx hb dL_law_1768 (by decide +kernel) ?_
  exact law_end hx hb hr hlk hS (by dsimp only; omega) (by dsimp only; omega) dL_law_1769
set_option maxHeartbeats 4000000 in
set_option maxRecDepth 100000 in
theorem LW33_make {p : Program} {e : Env} {s : State} {m : MethodId} {below : List Frame} {meth : Method} {c : Code} {l : Launch} {G : Nat → Nat} {D : va_G} {K : Nat → ClassId} {b : Nat} {xs : Nat → Int32} (hx : p.tables.exec = Jvm.exec) (hb : c.code = cL_law) (hr : meth.sig.returnType = some .boolean) (hlk : meth.locks = false) (hl0 : l.stackTraces = false) (hnc : Ncs s) (hml : c.maxLocals = 9) (hown : s.vm.findClass RL = some m.cls) (hts : ∀ w ∈ lw_gw, w.before #[Value.ref b] s = true) (hK : va_K D cl (tys K) s) (hm : Amb G (fun q : Nat => s.heap.size ≤ q) s s.heap) (hX : va_X b 4 xs s s.heap) (hbl : b < s.heap.size) {h0 h1 h2 h3 h4 h5 h6 h7 h8 h9 h10 h11 h12 h13 h14 h15 a0 a1 a2 a3 a4 a5 a6 a7 a8 a9 a10 a11 : Nat} (ya : Nat) (lya : 0 ≤ ya) (gya : ya ≤ 3) (hx1 : xs 1 = nI ya) (hx2 : xs 2 = nI 0) (hx3 : xs 3 = nI 13) {H : Heap} {locs : List Loc} {cells slots : Nat} (hcs : cells ≤ 1000) (hss : slots ≤ 100000) (hP : va_P D cl [(h0, .inr (9, [.ref h1, .ref h7, .ref h2, .ref a0, .ref h6, .ref a1, .ref a2, .ref a3, .int (nI 0)])), (h1, .inr (5, [.ref h4, .int (nI 0)])), (h2, .inr (3, [.ref a4, .ref a5, .ref h3, .int (nI 0), .int (nI 0), .int (nI 100), .int (nI 60), .ref a6])), (h3, .inr (5, [.ref h5, .int (nI 0)])), (h4, .inl (K 0, 200, .inr (.inr (.inr (.inr (fun _ => none)))))), (h5, .inl (K 0, 200, .inr (.inr (.inr (.inr (fun _ => none)))))), (h6, .inr (1, [.ref h1, .ref h7, .int (nI 0)])), (h7, .inr (4, [.ref a7, .ref h8, .ref a8, .int (nI 1)])), (h8, .inl (K 0, 32, .inr (.inr (.inr (.inr (fun _ => none)))))), (h9, .inl (K 3, 1, .inr (.inl (fun _ => 0)))), (h10, .inr (12, [.int (nI 0), .ref h11])), (h11, .inr (10, [.ref h12, .ref h13, .ref a9, .ref a10, .ref a11, .int (nI 0), .int (nI 0), .int (nI 60), .int (nI 0), .int (nI 2), .int (nI 0), .int (nI 0), .int (nI 0), .int (nI 0), .int (nI 0), .int (nI 0), .int (nI 0)])), (h12, .inr (13, [.int (nI 0), .ref (G 0), .int (nI 0)])), (h13, .inr (13, [.int (nI 1), .ref h14, .int (nI 1)])), (h14, .inl (K 4, 10, .inr (.inr (.inr (.inr (va_up (fun _ => none) 0 (some h15))))))), (h15, .inl (K 2, 4, .inl (fun _ => (-1))))] H) (hD : va_D (fun q : Nat => s.heap.size ≤ q) [(h0, .inr (9, [.ref h1, .ref h7, .ref h2, .ref a0, .ref h6, .ref a1, .ref a2, .ref a3, .int (nI 0)])), (h1, .inr (5, [.ref h4, .int (nI 0)])), (h2, .inr (3, [.ref a4, .ref a5, .ref h3, .int (nI 0), .int (nI 0), .int (nI 100), .int (nI 60), .ref a6])), (h3, .inr (5, [.ref h5, .int (nI 0)])), (h4, .inl (K 0, 200, .inr (.inr (.inr (.inr (fun _ => none)))))), (h5, .inl (K 0, 200, .inr (.inr (.inr (.inr (fun _ => none)))))), (h6, .inr (1, [.ref h1, .ref h7, .int (nI 0)])), (h7, .inr (4, [.ref a7, .ref h8, .ref a8, .int (nI 1)])), (h8, .inl (K 0, 32, .inr (.inr (.inr (.inr (fun _ => none)))))), (h9, .inl (K 3, 1, .inr (.inl (fun _ => 0)))), (h10, .inr (12, [.int (nI 0), .ref h11])), (h11, .inr (10, [.ref h12, .ref h13, .ref a9, .ref a10, .ref a11, .int (nI 0), .int (nI 0), .int (nI 60), .int (nI 0), .int (nI 2), .int (nI 0), .int (nI 0), .int (nI 0), .int (nI 0), .int (nI 0), .int (nI 0), .int (nI 0)])), (h12, .inr (13, [.int (nI 0), .ref (G 0), .int (nI 0)])), (h13, .inr (13, [.int (nI 1), .ref h14, .int (nI 1)])), (h14, .inl (K 4, 10, .inr (.inr (.inr (.inr (va_up (fun _ => none) 0 (some h15))))))), (h15, .inl (K 2, 4, .inl (fun _ => (-1))))]) (hS : va_S (fun q : Nat => s.heap.size ≤ q) s.heap H locs) {ls : Array Slot} (hl : lv_has ls 9 [(0, .ref b), (1, .ref h0), (2, .ref h10), (3, .ref h9), (4, .int (nI 0))]) : W p l e room_1 s m #[Value.ref b] below meth c H locs cells slots (lw_Z below #[Value.ref b] s) (F0 m 256 ls []) := by
  have hA : ∀ q : Nat, s.heap.size ≤ q → (fun q : Nat => s.heap.size ≤ q) q := fun _ h => h
  have hbA : ¬ (fun q : Nat => s.heap.size ≤ q) b := Nat.not_le.mpr hbl
  refine lv_aload_n hx hb dL_law_256 rfl (lv_at hl 1 rfl) ?_
  refine lv_aload_n hx hb dL_law_257 rfl (lv_at hl 0 rfl) ?_
  refine lv_iload hx hb dL_law_258 (lv_at hl 4 rfl) ?_
  refine lv_iconst (v := nI 1) hx hb dL_law_260 (by decide +kernel) ?_
  refine lv_iadd hx hb dL_law_261 ?_
  refine w_toeq (show (nI 0) + (nI 1) = nI 1 by decide +kernel) ?_
  refine va_sld hx hb hX hbl hbA hS (vp_in_nI (n := 1) (by decide) (by decide)) dL_law_262 ?_
  refine w_toeq (show xs (nI 1).toNatClampNeg = nI ya by rw [nI_clamp (n := 1) (by decide)]; exact hx1) ?_
  refine lv_aload_n hx hb dL_law_263 rfl (lv_at hl 0 rfl) ?_
  refine lv_iload hx hb dL_law_264 (lv_at hl 4 rfl) ?_
  refine lv_iconst (v := nI 2) hx hb dL_law_266 (by decide +kernel) ?_
  refine lv_iadd hx hb dL_law_267 ?_
  refine w_toeq (show (nI 0) + (nI 2) = nI 2 by decide +kernel) ?_
  refine va_sld hx hb hX hbl hbA hS (vp_in_nI (n := 2) (by decide) (by decide)) dL_law_268 ?_
  refine w_toeq (show xs (nI 2).toNatClampNeg = nI 0 by rw [nI_clamp (n := 2) (by decide)]; exact hx2) ?_
  refine lv_aload_n hx hb dL_law_269 rfl (lv_at hl 0 rfl) ?_
  refine lv_iload hx hb dL_law_270 (lv_at hl 4 rfl) ?_
  refine lv_iconst (v := nI 3) hx hb dL_law_272 (by decide +kernel) ?_
  refine lv_iadd hx hb dL_law_273 ?_
  refine w_toeq (show (nI 0) + (nI 3) = nI 3 by decide +kernel) ?_
  refine va_sld hx hb hX hbl hbA hS (vp_in_nI (n := 3) (by decide) (by decide)) dL_law_274 ?_
  refine w_toeq (show xs (nI 3).toNatClampNeg = nI 13 by rw [nI_clamp (n := 3) (by decide)]; exact hx3) ?_
  refine lv_aload_n hx hb dL_law_275 rfl (lv_at hl 3 rfl) ?_
  refine k_i (wr := [(h10, .inr (12, [.int (nI 0), .ref h11])), (h11, .inr (10, [.ref h12, .ref h13, .ref a9, .ref a10, .ref a11, .int (nI 0), .int (nI 0), .int (nI 60), .int (nI 0), .int (nI 2), .int (nI 0), .int (nI 0), .int (nI 0), .int (nI 0), .int (nI 0), .int (nI 0), .int (nI 0)])), (h12, .inr (13, [.int (nI 0), .ref (G 0), .int (nI 0)])), (h13, .inr (13, [.int (nI 1), .ref h14, .int (nI 1)])), (h14, .inl (K 4, 10, .inr (.inr (.inr (.inr (va_up (fun _ => none) 0 (some h15))))))), (h15, .inl (K 2, 4, .inl (fun _ => (-1))))]) (run_SW hnc (rest := []) hx hb hml hown hts hK hP hD hS hA hm (C1092_make l G D K H.size h0 h1 h2 h3 h4 h5 h6 h7 h8 h9 (.ref a0) (.ref a1) (.ref a2) (.ref a3) (.int (nI 0)) (.ref a4) (.ref a5) (.int (nI 0)) (.int (nI 0)) (.int (nI 100)) (.int (nI 60)) (.ref a6) (.ref h1) (.ref h7) (.ref a7) (.ref a8) (fun _ => none) (fun _ => none) (fun _ => none) (fun _ => 0) ya (by omega) (by omega)) [0, 1, 2, 3, 4, 5, 6, 7, 8, 9] rfl rfl mokh_yL_make w_786 w_787 ⟨Nat.le_of_ble_eq_true rfl, Nat.le_of_ble_eq_true rfl⟩ rfl hl.1 rfl (Nat.le_of_ble_eq_true rfl) dL_law_276 ⟨(by dsimp only [room_1]; omega), (by dsimp only [room_1]; omega)⟩) hP hD hS hA [0, 1, 2, 3, 4, 5, 6, 7, 8, 9] [10, 11, 12, 13, 14, 15] rfl rfl rfl (by decide) (w2 := fun u0 => [(h10, .inr (12, [.int (nI 0), .ref h11])), (h11, .inr (10, [.ref h12, .ref h13, .ref a9, .ref a10, .ref a11, .int (nI 0), .int (nI 0), .int (nI 60), .int (nI 0), .int (nI 2), .int (nI 0), .int (nI 0), .int (nI 0), .int (nI 0), .int (nI 0), .int (nI 0), .int (nI 0)])), (h12, .inr (13, [.int (nI 0), .ref (G 0), .int (nI 0)])), (h13, .inr (13, [.int (nI 1), .ref h14, .int (nI 1)])), (h14, .inl (K 4, 10, .inr (.inr (.inr (.inr (va_up (fun _ => none) 0 (some h15))))))), (h15, .inl (K 2, 4, .inl (fun _ => (-1)))), (h9, .inl (K 3, 1, .inr (.inl (vp_updL (fun _ => 0) 0 0)))), (h0, .inr (9, [.ref h1, .ref h7, .ref h2, .ref a0, .ref h6, .ref a1, .ref a2, .ref a3, .int (nI 0)])), (h1, .inr (5, [.ref h4, .int (nI 1)])), (h4, .inl (K 0, 200, .inr (.inr (.inr (.inr (va_up (fun _ => none) 0 (some (u0 0)))))))), ((u0 1), .inl (K 0, 13, .inr (.inr (.inr (.inr (fun _ => none)))))), (h2, .inr (3, [.ref a4, .ref a5, .ref h3, .int (nI 0), .int (nI 0), .int (nI 100), .int (nI 60), .ref a6])), (h3, .inr (5, [.ref h5, .int (nI 1)])), (h5, .inl (K 0, 200, .inr (.inr (.inr (.inr (va_up (fun _ => none) 0 (some (u0 0)))))))), (h6, .inr (1, [.ref h1, .ref h7, .int (nI 0)])), (h8, .inl (K 0, 32, .inr (.inr (.inr (.inr (va_up (fun _ => none) (0 + ya) (some (u0 0)))))))), ((u0 0), .inr (7, [.int (nI 0), .ref (u0 1), .int (nI 0), .int (nI 3), .int (nI 300), .int (nI 15), .int (nI 15), .int (nI 0), .int (-1), .int (nI 0), .int (nI 0), .int (nI 0), .int (nI 0), .int (nI 0)])), (h7, .inr (4, [.ref a7, .ref h8, .ref a8, .int (nI 1)]))]) (fun _ => rfl) (fun u0 H locs hP hD hS => ?_)
  refine lv_istore (lv' := [(5, .int (nI 0)), (0, .ref b), (1, .ref h0), (2, .ref h10), (3, .ref h9), (4, .int (nI 0))]) hx hb dL_law_279 hl (by decide) rfl (fun ls hl => ?_)
  refine lv_aload_n hx hb dL_law_281 rfl (lv_at hl 3 rfl) ?_
  refine lv_aload_n hx hb dL_law_282 rfl (lv_at hl 1 rfl) ?_
  refine lv_iload hx hb dL_law_283 (lv_at hl 5 rfl) ?_
  refine lv_iconst (v := nI 1) hx hb dL_law_285 (by decide +kernel) ?_
  refine lv_iadd hx hb dL_law_286 ?_
  refine w_toeq (show (nI 0) + (nI 1) = nI 1 by decide +kernel) ?_
  refine va_sld hx hb hX hbl hbA hS (vp_in_nI (n := 1) (by decide) (by decide)) dL_law_287 ?_
  refine w_toeq (show xs (nI 1).toNatClampNeg = nI ya by rw [nI_clamp (n := 1) (by decide)]; exact hx1) ?_
  refine lv_aload_n hx hb dL_law_288 rfl (lv_at hl 1 rfl) ?_
  refine lv_iload hx hb dL_law_289 (lv_at hl 5 rfl) ?_
  refine lv_iconst (v := nI 2) hx hb dL_law_291 (by decide +kernel) ?_
  refine lv_iadd hx hb dL_law_292 ?_
  refine w_toeq (show (nI 0) + (nI 2) = nI 2 by decide +kernel) ?_
  refine va_sld hx hb hX hbl hbA hS (vp_in_nI (n := 2) (by decide) (by decide)) dL_law_293 ?_
  refine w_toeq (show xs (nI 2).toNatClampNeg = nI 0 by rw [nI_clamp (n := 2) (by decide)]; exact hx2) ?_
  refine lv_aload_n hx hb dL_law_294 rfl (lv_at hl 1 rfl) ?_
  refine lv_iload hx hb dL_law_295 (lv_at hl 5 rfl) ?_
  refine lv_iconst (v := nI 3) hx hb dL_law_297 (by decide +kernel) ?_
  refine lv_iadd hx hb dL_law_298 ?_
  refine w_toeq (show (nI 0) + (nI 3) = nI 3 by decide +kernel) ?_
  refine va_sld hx hb hX hbl hbA hS (vp_in_nI (n := 3) (by decide) (by decide)) dL_law_299 ?_
  refine w_toeq (show xs (nI 3).toNatClampNeg = nI 13 by rw [nI_clamp (n := 3) (by decide)]; exact hx3) ?_
  refine k_i (wr := [(h9, .inl (K 3, 1, .inr (.inl (vp_updL (fun _ => 0) 0 0)))), (h0, .inr (9, [.ref h1, .ref h7, .ref h2, .ref a0, .ref h6, .ref a1, .ref a2, .ref a3, .int (nI 0)])), (h1, .inr (5, [.ref h4, .int (nI 1)])), (h4, .inl (K 0, 200, .inr (.inr (.inr (.inr (va_up (fun _ => none) 0 (some (u0 0)))))))), ((u0 1), .inl (K 0, 13, .inr (.inr (.inr (.inr (fun _ => none)))))), (h2, .inr (3, [.ref a4, .ref a5, .ref h3, .int (nI 0), .int (nI 0), .int (nI 100), .int (nI 60), .ref a6])), (h3, .inr (5, [.ref h5, .int (nI 1)])), (h5, .inl (K 0, 200, .inr (.inr (.inr (.inr (va_up (fun _ => none) 0 (some (u0 0)))))))), (h6, .inr (1, [.ref h1, .ref h7, .int (nI 0)])), (h8, .inl (K 0, 32, .inr (.inr (.inr (.inr (va_up (fun _ => none) (0 + ya) (some (u0 0)))))))), ((u0 0), .inr (7, [.int (nI 0), .ref (u0 1), .int (nI 0), .int (nI 3), .int (nI 300), .int (nI 15), .int (nI 15), .int (nI 0), .int (-1), .int (nI 0), .int (nI 0), .int (nI 0), .int (nI 0), .int (nI 0)])), (h7, .inr (4, [.ref a7, .ref h8, .ref a8, .int (nI 1)]))]) (run_V (rest := []) hx hb hml hown hts hK hP hD hS hA hm (C276_make l G D K H.size h10 h11 h12 h13 h14 h15 (.ref a9) (.ref a10) (.ref a11) (.int (nI 0)) (.int (nI 0)) (.int (nI 60)) (.int (nI 0)) (.int (nI 2)) (.int (nI 0)) (.int (nI 0)) (.int (nI 0)) (.int (nI 0)) (.int (nI 0)) (.int (nI 0)) (.int (nI 0)) (.int (nI 1)) (fun _ => (-1)) ya (by omega) (by omega)) [0, 1, 2, 3, 4, 5] rfl rfl mok_yX12_make w_1341 w_1342 w_1343 (rcv hK hP 0 rfl rfl rfl) ⟨Nat.le_of_ble_eq_true rfl, Nat.le_of_ble_eq_true rfl⟩ rfl hl.1 rfl (Nat.le_of_ble_eq_true rfl) dL_law_300 ⟨(by dsimp only [room_1]; omega), (by dsimp only [room_1]; omega)⟩) hP hD hS hA [0, 1, 2, 3, 4, 5] [6, 7, 8, 9, 10, 11, 12, 13, 14, 15, 16, 17] rfl rfl rfl (by decide) (w2 := fun u1 => [(h9, .inl (K 3, 1, .inr (.inl (vp_updL (fun _ => 0) 0 0)))), (h0, .inr (9, [.ref h1, .ref h7, .ref h2, .ref a0, .ref h6, .ref a1, .ref a2, .ref a3, .int (nI 0)])), (h1, .inr (5, [.ref h4, .int (nI 1)])), (h4, .inl (K 0, 200, .inr (.inr (.inr (.inr (va_up (fun _ => none) 0 (some (u0 0)))))))), ((u0 1), .inl (K 0, 13, .inr (.inr (.inr (.inr (fun _ => none)))))), (h2, .inr (3, [.ref a4, .ref a5, .ref h3, .int (nI 0), .int (nI 0), .int (nI 100), .int (nI 60), .ref a6])), (h3, .inr (5, [.ref h5, .int (nI 1)])), (h5, .inl (K 0, 200, .inr (.inr (.inr (.inr (va_up (fun _ => none) 0 (some (u0 0)))))))), (h6, .inr (1, [.ref h1, .ref h7, .int (nI 0)])), (h8, .inl (K 0, 32, .inr (.inr (.inr (.inr (va_up (fun _ => none) (0 + ya) (some (u0 0)))))))), ((u0 0), .inr (7, [.int (nI 0), .ref (u0 1), .int (nI 0), .int (nI 3), .int (nI 300), .int (nI 15), .int (nI 15), .int (nI 0), .int (-1), .int (nI 0), .int (nI 0), .int (nI 0), .int (nI 0), .int (nI 0)])), (h7, .inr (4, [.ref a7, .ref h8, .ref a8, .int (nI 1)])), ((u1 1), .inr (14, [.int (nI 0), .int (-1), .int (nI 0), .ref h12])), ((u1 2), .inr (14, [.int (nI 0), .int (-1), .int (nI 0), .ref (u1 0)])), ((u1 0), .inr (13, [.int (nI 0), .ref (G 0), .int (nI 0)])), ((u1 4), .inr (14, [.int (nI 0), .int (-1), .int (nI 0), .ref h12])), ((u1 5), .inr (14, [.int (nI 0), .int (-1), .int (nI 0), .ref (u1 3)])), ((u1 3), .inr (13, [.int (nI 0), .ref (G 0), .int (nI 0)])), ((u1 7), .inr (14, [.int (nI 0), .int (-1), .int (nI 0), .ref h12])), ((u1 8), .inr (14, [.int (nI 0), .int (-1), .int (nI 0), .ref (u1 6)])), ((u1 6), .inr (13, [.int (nI 0), .ref (G 0), .int (nI 0)])), ((u1 10), .inr (14, [.int (nI 0), .int (-1), .int (nI 0), .ref h12])), ((u1 11), .inr (14, [.int (nI 0), .int (-1), .int (nI 0), .ref (u1 9)])), ((u1 9), .inr (13, [.int (nI 0), .ref (G 0), .int (nI 0)])), ((u1 13), .inl (K 2, 13, .inl (fun _ => (-1)))), ((u1 12), .inr (11, [.int (nI 0), .ref (u1 13), .int (nI 0), .int (nI 3), .int (nI 300), .int (nI 0), .int (-1), .int (nI 2), .int (nI 0), .int (nI 0), .int (nI 0)])), (h12, .inr (13, [.int (nI 1), .ref (u1 14), .int (nI 1)])), ((u1 14), .inl (K 4, 10, .inr (.inr (.inr (.inr (va_up (fun _ => none) 0 (some (u1 12)))))))), (h10, .inr (12, [.int (nI 0), .ref h11])), (h11, .inr (10, [.ref h12, .ref h13, .ref a9, .ref a10, .ref a11, .int (nI 0), .int (nI 0), .int (nI 60), .int (nI 0), .int (nI 2), .int (nI 0), .int (nI 0), .int (nI 0), .int (nI 0), .int (nI 0), .int (nI 0), .int (nI 0)])), (h15, .inl (K 2, 4, .inl (upd (fun _ => (-1)) ya (nI 0)))), (h13, .inr (13, [.int (nI 1), .ref h14, .int (nI 1)])), (h14, .inl (K 4, 10, .inr (.inr (.inr (.inr (va_up (fun _ => none) 0 (some h15)))))))]) (fun _ => rfl) (fun u1 H locs hP hD hS => ?_)
  refine lv_istore (lv' := [(6, .int (nI 0)), (5, .int (nI 0)), (0, .ref b), (1, .ref h0), (2, .ref h10), (3, .ref h9), (4, .int (nI 0))]) hx hb dL_law_303 hl (by decide) rfl (fun ls hl => ?_)
  refine lv_aload_n hx hb dL_law_305 rfl (lv_at hl 4 rfl) ?_
  refine k_i (wr := [(h9, .inl (K 3, 1, .inr (.inl (vp_updL (fun _ => 0) 0 0)))), (h0, .inr (9, [.ref h1, .ref h7, .ref h2, .ref a0, .ref h6, .ref a1, .ref a2, .ref a3, .int (nI 0)])), (h1, .inr (5, [.ref h4, .int (nI 1)])), (h4, .inl (K 0, 200, .inr (.inr (.inr (.inr (va_up (fun _ => none) 0 (some (u0 0)))))))), ((u0 1), .inl (K 0, 13, .inr (.inr (.inr (.inr (fun _ => none)))))), (h2, .inr (3, [.ref a4, .ref a5, .ref h3, .int (nI 0), .int (nI 0), .int (nI 100), .int (nI 60), .ref a6])), (h3, .inr (5, [.ref h5, .int (nI 1)])), (h5, .inl (K 0, 200, .inr (.inr (.inr (.inr (va_up (fun _ => none) 0 (some (u0 0)))))))), (h6, .inr (1, [.ref h1, .ref h7, .int (nI 0)])), (h8, .inl (K 0, 32, .inr (.inr (.inr (.inr (va_up (fun _ => none) (0 + ya) (some (u0 0)))))))), ((u0 0), .inr (7, [.int (nI 0), .ref (u0 1), .int (nI 0), .int (nI 3), .int (nI 300), .int (nI 15), .int (nI 15), .int (nI 0), .int (-1), .int (nI 0), .int (nI 0), .int (nI 0), .int (nI 0), .int (nI 0)])), (h7, .inr (4, [.ref a7, .ref h8, .ref a8, .int (nI 1)])), ((u1 1), .inr (14, [.int (nI 0), .int (-1), .int (nI 0), .ref h12])), ((u1 2), .inr (14, [.int (nI 0), .int (-1), .int (nI 0), .ref (u1 0)])), ((u1 0), .inr (13, [.int (nI 0), .ref (G 0), .int (nI 0)])), ((u1 4), .inr (14, [.int (nI 0), .int (-1), .int (nI 0), .ref h12])), ((u1 5), .inr (14, [.int (nI 0), .int (-1), .int (nI 0), .ref (u1 3)])), ((u1 3), .inr (13, [.int (nI 0), .ref (G 0), .int (nI 0)])), ((u1 7), .inr (14, [.int (nI 0), .int (-1), .int (nI 0), .ref h12])), ((u1 8), .inr (14, [.int (nI 0), .int (-1), .int (nI 0), .ref (u1 6)])), ((u1 6), .inr (13, [.int (nI 0), .ref (G 0), .int (nI 0)])), ((u1 10), .inr (14, [.int (nI 0), .int (-1), .int (nI 0), .ref h12])), ((u1 11), .inr (14, [.int (nI 0), .int (-1), .int (nI 0), .ref (u1 9)])), ((u1 9), .inr (13, [.int (nI 0), .ref (G 0), .int (nI 0)])), ((u1 13), .inl (K 2, 13, .inl (fun _ => (-1)))), ((u1 12), .inr (11, [.int (nI 0), .ref (u1 13), .int (nI 0), .int (nI 3), .int (nI 300), .int (nI 0), .int (-1), .int (nI 2), .int (nI 0), .int (nI 0), .int (nI 0)])), (h12, .inr (13, [.int (nI 1), .ref (u1 14), .int (nI 1)])), ((u1 14), .inl (K 4, 10, .inr (.inr (.inr (.inr (va_up (fun _ => none) 0 (some (u1 12)))))))), (h11, .inr (10, [.ref h12, .ref h13, .ref a9, .ref a10, .ref a11, .int (nI 0), .int (nI 0), .int (nI 60), .int (nI 0), .int (nI 2), .int (nI 0), .int (nI 0), .int (nI 0), .int (nI 0), .int (nI 0), .int (nI 0), .int (nI 0)])), (h15, .inl (K 2, 4, .inl (upd (fun _ => (-1)) ya (nI 0)))), (h13, .inr (13, [.int (nI 1), .ref h14, .int (nI 1)])), (h14, .inl (K 4, 10, .inr (.inr (.inr (.inr (va_up (fun _ => none) 0 (some h15)))))))]) (run_V (rest := []) hx hb hml hown hts hK hP hD hS hA hm (C1057_thrown l G D K H.size h10 (.ref h11)) [28] rfl rfl mok_yX12_thrown w_1300 w_1301 w_1302 (rcv hK hP 28 rfl rfl rfl) ⟨Nat.le_of_ble_eq_true rfl, Nat.le_of_ble_eq_true rfl⟩ rfl hl.1 rfl (Nat.le_of_ble_eq_true rfl) dL_law_306 ⟨(by dsimp only [room_1]; omega), (by dsimp only [room_1]; omega)⟩) hP hD hS hA [28] [0, 1, 2, 3, 4, 5, 6, 7, 8, 9, 10, 11, 12, 13, 14, 15, 16, 17, 18, 19, 20, 21, 22, 23, 24, 25, 26, 27, 29, 30, 31, 32] rfl rfl rfl (by decide) (w2 := fun u2 => [(h9, .inl (K 3, 1, .inr (.inl (vp_updL (fun _ => 0) 0 0)))), (h0, .inr (9, [.ref h1, .ref h7, .ref h2, .ref a0, .ref h6, .ref a1, .ref a2, .ref a3, .int (nI 0)])), (h1, .inr (5, [.ref h4, .int (nI 1)])), (h4, .inl (K 0, 200, .inr (.inr (.inr (.inr (va_up (fun _ => none) 0 (some (u0 0)))))))), ((u0 1), .inl (K 0, 13, .inr (.inr (.inr (.inr (fun _ => none)))))), (h2, .inr (3, [.ref a4, .ref a5, .ref h3, .int (nI 0), .int (nI 0), .int (nI 100), .int (nI 60), .ref a6])), (h3, .inr (5, [.ref h5, .int (nI 1)])), (h5, .inl (K 0, 200, .inr (.inr (.inr (.inr (va_up (fun _ => none) 0 (some (u0 0)))))))), (h6, .inr (1, [.ref h1, .ref h7, .int (nI 0)])), (h8, .inl (K 0, 32, .inr (.inr (.inr (.inr (va_up (fun _ => none) (0 + ya) (some (u0 0)))))))), ((u0 0), .inr (7, [.int (nI 0), .ref (u0 1), .int (nI 0), .int (nI 3), .int (nI 300), .int (nI 15), .int (nI 15), .int (nI 0), .int (-1), .int (nI 0), .int (nI 0), .int (nI 0), .int (nI 0), .int (nI 0)])), (h7, .inr (4, [.ref a7, .ref h8, .ref a8, .int (nI 1)])), ((u1 1), .inr (14, [.int (nI 0), .int (-1), .int (nI 0), .ref h12])), ((u1 2), .inr (14, [.int (nI 0), .int (-1), .int (nI 0), .ref (u1 0)])), ((u1 0), .inr (13, [.int (nI 0), .ref (G 0), .int (nI 0)])), ((u1 4), .inr (14, [.int (nI 0), .int (-1), .int (nI 0), .ref h12])), ((u1 5), .inr (14, [.int (nI 0), .int (-1), .int (nI 0), .ref (u1 3)])), ((u1 3), .inr (13, [.int (nI 0), .ref (G 0), .int (nI 0)])), ((u1 7), .inr (14, [.int (nI 0), .int (-1), .int (nI 0), .ref h12])), ((u1 8), .inr (14, [.int (nI 0), .int (-1), .int (nI 0), .ref (u1 6)])), ((u1 6), .inr (13, [.int (nI 0), .ref (G 0), .int (nI 0)])), ((u1 10), .inr (14, [.int (nI 0), .int (-1), .int (nI 0), .ref h12])), ((u1 11), .inr (14, [.int (nI 0), .int (-1), .int (nI 0), .ref (u1 9)])), ((u1 9), .inr (13, [.int (nI 0), .ref (G 0), .int (nI 0)])), ((u1 13), .inl (K 2, 13, .inl (fun _ => (-1)))), ((u1 12), .inr (11, [.int (nI 0), .ref (u1 13), .int (nI 0), .int (nI 3), .int (nI 300), .int (nI 0), .int (-1), .int (nI 2), .int (nI 0), .int (nI 0), .int (nI 0)])), (h12, .inr (13, [.int (nI 1), .ref (u1 14), .int (nI 1)])), ((u1 14), .inl (K 4, 10, .inr (.inr (.inr (.inr (va_up (fun _ => none) 0 (some (u1 12)))))))), (h11, .inr (10, [.ref h12, .ref h13, .ref a9, .ref a10, .ref a11, .int (nI 0), .int (nI 0), .int (nI 60), .int (nI 0), .int (nI 2), .int (nI 0), .int (nI 0), .int (nI 0), .int (nI 0), .int (nI 0), .int (nI 0), .int (nI 0)])), (h15, .inl (K 2, 4, .inl (upd (fun _ => (-1)) ya (nI 0)))), (h13, .inr (13, [.int (nI 1), .ref h14, .int (nI 1)])), (h14, .inl (K 4, 10, .inr (.inr (.inr (.inr (va_up (fun _ => none) 0 (some h15))))))), (h10, .inr (12, [.int (nI 0), .ref h11]))]) (fun _ => rfl) (fun u2 H locs hP hD hS => ?_)
  refine lv_iload hx hb dL_law_309 (lv_at hl 1 rfl) ?_
  refine lv_icmp_eq (tgt := 316) hx hb dL_law_311 (by decide) (fun _ => ?_) (fun c9 => absurd (by decide +kernel) c9)
  refine lv_iload hx hb dL_law_316 (lv_at hl 1 rfl) ?_
  refine lv_if_ne (tgt := 333) hx hb dL_law_318 (by decide) (fun c9 => absurd (by decide +kernel) c9) (fun _ => ?_)
  refine lv_aload_n hx hb dL_law_321 rfl (lv_at hl 5 rfl) ?_
  refine lv_iconst (v := nI 0) hx hb dL_law_322 (by decide +kernel) ?_
  refine r_lald (k := 0) hx hb hK hP 0 3 rfl rfl (Nat.le_of_ble_eq_true rfl) (by decide) (v := 0) rfl dL_law_323 ?_
  refine lv_iload hx hb dL_law_324 (lv_at hl 0 rfl) ?_
  refine lv_i2l (v := 0) hx hb dL_law_326 (by decide +kernel) ?_
  refine W.lcmp hx hb dL_law_327 ?_
  refine w_toeq (show lg_cmp 0 0 = nI 0 by decide +kernel) ?_
  refine lv_if_eq (tgt := 333) hx hb dL_law_328 (by decide) (fun _ => ?_) (fun c9 => absurd (by decide +kernel) c9)
  refine lv_goto (tgt := 1762) hx hb dL_law_333 (by decide) ?_
  refine lv_iinc (v := nI 4) (lv' := [(4, .int (nI 4)), (6, .int (nI 0)), (5, .int (nI 0)), (0, .ref b), (1, .ref h0), (2, .ref h10), (3, .ref h9)]) hx hb dL_law_1762 hl (k := 6) rfl (by decide +kernel) (by decide) rfl (fun ls hl => ?_)
  refine lv_goto (tgt := 23) hx hb dL_law_1765 (by decide) ?_
  refine lv_iload hx hb dL_law_23 (lv_at hl 0 rfl) ?_
  refine lv_aload_n hx hb dL_law_25 rfl (lv_at hl 3 rfl) ?_
  refine va_slen hx hb hX hbl hbA hS dL_law_26 ?_
  refine w_toeq (show Int32.ofNat 4 = nI 4 from rfl) ?_
  refine lv_iconst (v := nI 4) hx hb dL_law_27 (by decide +kernel) ?_
  refine lv_isub hx hb dL_law_28 ?_
  refine w_toeq (show (nI 4) - (nI 4) = nI 0 by decide +kernel) ?_
  refine lv_icmp_gt (tgt := 1768) hx hb dL_law_29 (by decide) (fun _ => ?_) (fun c9 => absurd (by decide +kernel) c9)
  refine lv_iconst (v := nI 1) hx hb dL_law_1768 (by decide +kernel) ?_
  exact law_end hx hb hr hlk hS (by dsimp only; omega) (by dsimp only; omega) dL_law_1769
set_option maxHeartbeats 4000000 in
set_option maxRecDepth 100000 in
theorem LW34_make {p : Program} {e : Env} {s : State} {m : MethodId} {below : List Frame} {meth : Method} {c : Code} {l : Launch} {G : Nat → Nat} {D : va_G} {K : Nat → ClassId} {b : Nat} {xs : Nat → Int32} (hx : p.tables.exec = Jvm.exec) (hb : c.code = cL_law) (hr : meth.sig.returnType = some .boolean) (hlk : meth.locks = false) (hl0 : l.stackTraces = false) (hnc : Ncs s) (hml : c.maxLocals = 9) (hown : s.vm.findClass RL = some m.cls) (hts : ∀ w ∈ lw_gw, w.before #[Value.ref b] s = true) (hK : va_K D cl (tys K) s) (hm : Amb G (fun q : Nat => s.heap.size ≤ q) s s.heap) (hX : va_X b 4 xs s s.heap) (hbl : b < s.heap.size) {h0 h1 h2 h3 h4 h5 h6 h7 h8 h9 h10 h11 h12 h13 h14 h15 a0 a1 a2 a3 a4 a5 a6 a7 a8 a9 a10 a11 : Nat} (ya : Nat) (lya : 0 ≤ ya) (gya : ya ≤ 3) (hx1 : xs 1 = nI ya) (hx2 : xs 2 = nI 0) (hx3 : xs 3 = nI 14) {H : Heap} {locs : List Loc} {cells slots : Nat} (hcs : cells ≤ 1000) (hss : slots ≤ 100000) (hP : va_P D cl [(h0, .inr (9, [.ref h1, .ref h7, .ref h2, .ref a0, .ref h6, .ref a1, .ref a2, .ref a3, .int (nI 0)])), (h1, .inr (5, [.ref h4, .int (nI 0)])), (h2, .inr (3, [.ref a4, .ref a5, .ref h3, .int (nI 0), .int (nI 0), .int (nI 100), .int (nI 60), .ref a6])), (h3, .inr (5, [.ref h5, .int (nI 0)])), (h4, .inl (K 0, 200, .inr (.inr (.inr (.inr (fun _ => none)))))), (h5, .inl (K 0, 200, .inr (.inr (.inr (.inr (fun _ => none)))))), (h6, .inr (1, [.ref h1, .ref h7, .int (nI 0)])), (h7, .inr (4, [.ref a7, .ref h8, .ref a8, .int (nI 1)])), (h8, .inl (K 0, 32, .inr (.inr (.inr (.inr (fun _ => none)))))), (h9, .inl (K 3, 1, .inr (.inl (fun _ => 0)))), (h10, .inr (12, [.int (nI 0), .ref h11])), (h11, .inr (10, [.ref h12, .ref h13, .ref a9, .ref a10, .ref a11, .int (nI 0), .int (nI 0), .int (nI 60), .int (nI 0), .int (nI 2), .int (nI 0), .int (nI 0), .int (nI 0), .int (nI 0), .int (nI 0), .int (nI 0), .int (nI 0)])), (h12, .inr (13, [.int (nI 0), .ref (G 0), .int (nI 0)])), (h13, .inr (13, [.int (nI 1), .ref h14, .int (nI 1)])), (h14, .inl (K 4, 10, .inr (.inr (.inr (.inr (va_up (fun _ => none) 0 (some h15))))))), (h15, .inl (K 2, 4, .inl (fun _ => (-1))))] H) (hD : va_D (fun q : Nat => s.heap.size ≤ q) [(h0, .inr (9, [.ref h1, .ref h7, .ref h2, .ref a0, .ref h6, .ref a1, .ref a2, .ref a3, .int (nI 0)])), (h1, .inr (5, [.ref h4, .int (nI 0)])), (h2, .inr (3, [.ref a4, .ref a5, .ref h3, .int (nI 0), .int (nI 0), .int (nI 100), .int (nI 60), .ref a6])), (h3, .inr (5, [.ref h5, .int (nI 0)])), (h4, .inl (K 0, 200, .inr (.inr (.inr (.inr (fun _ => none)))))), (h5, .inl (K 0, 200, .inr (.inr (.inr (.inr (fun _ => none)))))), (h6, .inr (1, [.ref h1, .ref h7, .int (nI 0)])), (h7, .inr (4, [.ref a7, .ref h8, .ref a8, .int (nI 1)])), (h8, .inl (K 0, 32, .inr (.inr (.inr (.inr (fun _ => none)))))), (h9, .inl (K 3, 1, .inr (.inl (fun _ => 0)))), (h10, .inr (12, [.int (nI 0), .ref h11])), (h11, .inr (10, [.ref h12, .ref h13, .ref a9, .ref a10, .ref a11, .int (nI 0), .int (nI 0), .int (nI 60), .int (nI 0), .int (nI 2), .int (nI 0), .int (nI 0), .int (nI 0), .int (nI 0), .int (nI 0), .int (nI 0), .int (nI 0)])), (h12, .inr (13, [.int (nI 0), .ref (G 0), .int (nI 0)])), (h13, .inr (13, [.int (nI 1), .ref h14, .int (nI 1)])), (h14, .inl (K 4, 10, .inr (.inr (.inr (.inr (va_up (fun _ => none) 0 (some h15))))))), (h15, .inl (K 2, 4, .inl (fun _ => (-1))))]) (hS : va_S (fun q : Nat => s.heap.size ≤ q) s.heap H locs) {ls : Array Slot} (hl : lv_has ls 9 [(0, .ref b), (1, .ref h0), (2, .ref h10), (3, .ref h9), (4, .int (nI 0))]) : W p l e room_1 s m #[Value.ref b] below meth c H locs cells slots (lw_Z below #[Value.ref b] s) (F0 m 256 ls []) := by
  have hA : ∀ q : Nat, s.heap.size ≤ q → (fun q : Nat => s.heap.size ≤ q) q := fun _ h => h
  have hbA : ¬ (fun q : Nat => s.heap.size ≤ q) b := Nat.not_le.mpr hbl
  refine lv_aload_n hx hb dL_law_256 rfl (lv_at hl 1 rfl) ?_
  refine lv_aload_n hx hb dL_law_257 rfl (lv_at hl 0 rfl) ?_
  refine lv_iload hx hb dL_law_258 (lv_at hl 4 rfl) ?_
  refine lv_iconst (v := nI 1) hx hb dL_law_260 (by decide +kernel) ?_
  refine lv_iadd hx hb dL_law_261 ?_
  refine w_toeq (show (nI 0) + (nI 1) = nI 1 by decide +kernel) ?_
  refine va_sld hx hb hX hbl hbA hS (vp_in_nI (n := 1) (by decide) (by decide)) dL_law_262 ?_
  refine w_toeq (show xs (nI 1).toNatClampNeg = nI ya by rw [nI_clamp (n := 1) (by decide)]; exact hx1) ?_
  refine lv_aload_n hx hb dL_law_263 rfl (lv_at hl 0 rfl) ?_
  refine lv_iload hx hb dL_law_264 (lv_at hl 4 rfl) ?_
  refine lv_iconst (v := nI 2) hx hb dL_law_266 (by decide +kernel) ?_
  refine lv_iadd hx hb dL_law_267 ?_
  refine w_toeq (show (nI 0) + (nI 2) = nI 2 by decide +kernel) ?_
  refine va_sld hx hb hX hbl hbA hS (vp_in_nI (n := 2) (by decide) (by decide)) dL_law_268 ?_
  refine w_toeq (show xs (nI 2).toNatClampNeg = nI 0 by rw [nI_clamp (n := 2) (by decide)]; exact hx2) ?_
  refine lv_aload_n hx hb dL_law_269 rfl (lv_at hl 0 rfl) ?_
  refine lv_iload hx hb dL_law_270 (lv_at hl 4 rfl) ?_
  refine lv_iconst (v := nI 3) hx hb dL_law_272 (by decide +kernel) ?_
  refine lv_iadd hx hb dL_law_273 ?_
  refine w_toeq (show (nI 0) + (nI 3) = nI 3 by decide +kernel) ?_
  refine va_sld hx hb hX hbl hbA hS (vp_in_nI (n := 3) (by decide) (by decide)) dL_law_274 ?_
  refine w_toeq (show xs (nI 3).toNatClampNeg = nI 14 by rw [nI_clamp (n := 3) (by decide)]; exact hx3) ?_
  refine lv_aload_n hx hb dL_law_275 rfl (lv_at hl 3 rfl) ?_
  refine k_i (wr := [(h10, .inr (12, [.int (nI 0), .ref h11])), (h11, .inr (10, [.ref h12, .ref h13, .ref a9, .ref a10, .ref a11, .int (nI 0), .int (nI 0), .int (nI 60), .int (nI 0), .int (nI 2), .int (nI 0), .int (nI 0), .int (nI 0), .int (nI 0), .int (nI 0), .int (nI 0), .int (nI 0)])), (h12, .inr (13, [.int (nI 0), .ref (G 0), .int (nI 0)])), (h13, .inr (13, [.int (nI 1), .ref h14, .int (nI 1)])), (h14, .inl (K 4, 10, .inr (.inr (.inr (.inr (va_up (fun _ => none) 0 (some h15))))))), (h15, .inl (K 2, 4, .inl (fun _ => (-1))))]) (run_SW hnc (rest := []) hx hb hml hown hts hK hP hD hS hA hm (C1093_make l G D K H.size h0 h1 h2 h3 h4 h5 h6 h7 h8 h9 (.ref a0) (.ref a1) (.ref a2) (.ref a3) (.int (nI 0)) (.ref a4) (.ref a5) (.int (nI 0)) (.int (nI 0)) (.int (nI 100)) (.int (nI 60)) (.ref a6) (.ref h1) (.ref h7) (.ref a7) (.ref a8) (fun _ => none) (fun _ => none) (fun _ => none) (fun _ => 0) ya (by omega) (by omega)) [0, 1, 2, 3, 4, 5, 6, 7, 8, 9] rfl rfl mokh_yL_make w_786 w_787 ⟨Nat.le_of_ble_eq_true rfl, Nat.le_of_ble_eq_true rfl⟩ rfl hl.1 rfl (Nat.le_of_ble_eq_true rfl) dL_law_276 ⟨(by dsimp only [room_1]; omega), (by dsimp only [room_1]; omega)⟩) hP hD hS hA [0, 1, 2, 3, 4, 5, 6, 7, 8, 9] [10, 11, 12, 13, 14, 15] rfl rfl rfl (by decide) (w2 := fun u0 => [(h10, .inr (12, [.int (nI 0), .ref h11])), (h11, .inr (10, [.ref h12, .ref h13, .ref a9, .ref a10, .ref a11, .int (nI 0), .int (nI 0), .int (nI 60), .int (nI 0), .int (nI 2), .int (nI 0), .int (nI 0), .int (nI 0), .int (nI 0), .int (nI 0), .int (nI 0), .int (nI 0)])), (h12, .inr (13, [.int (nI 0), .ref (G 0), .int (nI 0)])), (h13, .inr (13, [.int (nI 1), .ref h14, .int (nI 1)])), (h14, .inl (K 4, 10, .inr (.inr (.inr (.inr (va_up (fun _ => none) 0 (some h15))))))), (h15, .inl (K 2, 4, .inl (fun _ => (-1)))), (h9, .inl (K 3, 1, .inr (.inl (vp_updL (fun _ => 0) 0 0)))), (h0, .inr (9, [.ref h1, .ref h7, .ref h2, .ref a0, .ref h6, .ref a1, .ref a2, .ref a3, .int (nI 0)])), (h1, .inr (5, [.ref h4, .int (nI 1)])), (h4, .inl (K 0, 200, .inr (.inr (.inr (.inr (va_up (fun _ => none) 0 (some (u0 0)))))))), ((u0 1), .inl (K 0, 14, .inr (.inr (.inr (.inr (fun _ => none)))))), (h2, .inr (3, [.ref a4, .ref a5, .ref h3, .int (nI 0), .int (nI 0), .int (nI 100), .int (nI 60), .ref a6])), (h3, .inr (5, [.ref h5, .int (nI 1)])), (h5, .inl (K 0, 200, .inr (.inr (.inr (.inr (va_up (fun _ => none) 0 (some (u0 0)))))))), (h6, .inr (1, [.ref h1, .ref h7, .int (nI 0)])), (h8, .inl (K 0, 32, .inr (.inr (.inr (.inr (va_up (fun _ => none) (0 + ya) (some (u0 0)))))))), ((u0 0), .inr (7, [.int (nI 0), .ref (u0 1), .int (nI 0), .int (nI 3), .int (nI 300), .int (nI 16), .int (nI 16), .int (nI 0), .int (-1), .int (nI 0), .int (nI 0), .int (nI 0), .int (nI 0), .int (nI 0)])), (h7, .inr (4, [.ref a7, .ref h8, .ref a8, .int (nI 1)]))]) (fun _ => rfl) (fun u0 H locs hP hD hS => ?_)
  refine lv_istore (lv' := [(5, .int (nI 0)), (0, .ref b), (1, .ref h0), (2, .ref h10), (3, .ref h9), (4, .int (nI 0))]) hx hb dL_law_279 hl (by decide) rfl (fun ls hl => ?_)
  refine lv_aload_n hx hb dL_law_281 rfl (lv_at hl 3 rfl) ?_
  refine lv_aload_n hx hb dL_law_282 rfl (lv_at hl 1 rfl) ?_
  refine lv_iload hx hb dL_law_283 (lv_at hl 5 rfl) ?_
  refine lv_iconst (v := nI 1) hx hb dL_law_285 (by decide +kernel) ?_
  refine lv_iadd hx hb dL_law_286 ?_
  refine w_toeq (show (nI 0) + (nI 1) = nI 1 by decide +kernel) ?_
  refine va_sld hx hb hX hbl hbA hS (vp_in_nI (n := 1) (by decide) (by decide)) dL_law_287 ?_
  refine w_toeq (show xs (nI 1).toNatClampNeg = nI ya by rw [nI_clamp (n := 1) (by decide)]; exact hx1) ?_
  refine lv_aload_n hx hb dL_law_288 rfl (lv_at hl 1 rfl) ?_
  refine lv_iload hx hb dL_law_289 (lv_at hl 5 rfl) ?_
  refine lv_iconst (v := nI 2) hx hb dL_law_291 (by decide +kernel) ?_
  refine lv_iadd hx hb dL_law_292 ?_
  refine w_toeq (show (nI 0) + (nI 2) = nI 2 by decide +kernel) ?_
  refine va_sld hx hb hX hbl hbA hS (vp_in_nI (n := 2) (by decide) (by decide)) dL_law_293 ?_
  refine w_toeq (show xs (nI 2).toNatClampNeg = nI 0 by rw [nI_clamp (n := 2) (by decide)]; exact hx2) ?_
  refine lv_aload_n hx hb dL_law_294 rfl (lv_at hl 1 rfl) ?_
  refine lv_iload hx hb dL_law_295 (lv_at hl 5 rfl) ?_
  refine lv_iconst (v := nI 3) hx hb dL_law_297 (by decide +kernel) ?_
  refine lv_iadd hx hb dL_law_298 ?_
  refine w_toeq (show (nI 0) + (nI 3) = nI 3 by decide +kernel) ?_
  refine va_sld hx hb hX hbl hbA hS (vp_in_nI (n := 3) (by decide) (by decide)) dL_law_299 ?_
  refine w_toeq (show xs (nI 3).toNatClampNeg = nI 14 by rw [nI_clamp (n := 3) (by decide)]; exact hx3) ?_
  refine k_i (wr := [(h9, .inl (K 3, 1, .inr (.inl (vp_updL (fun _ => 0) 0 0)))), (h0, .inr (9, [.ref h1, .ref h7, .ref h2, .ref a0, .ref h6, .ref a1, .ref a2, .ref a3, .int (nI 0)])), (h1, .inr (5, [.ref h4, .int (nI 1)])), (h4, .inl (K 0, 200, .inr (.inr (.inr (.inr (va_up (fun _ => none) 0 (some (u0 0)))))))), ((u0 1), .inl (K 0, 14, .inr (.inr (.inr (.inr (fun _ => none)))))), (h2, .inr (3, [.ref a4, .ref a5, .ref h3, .int (nI 0), .int (nI 0), .int (nI 100), .int (nI 60), .ref a6])), (h3, .inr (5, [.ref h5, .int (nI 1)])), (h5, .inl (K 0, 200, .inr (.inr (.inr (.inr (va_up (fun _ => none) 0 (some (u0 0)))))))), (h6, .inr (1, [.ref h1, .ref h7, .int (nI 0)])), (h8, .inl (K 0, 32, .inr (.inr (.inr (.inr (va_up (fun _ => none) (0 + ya) (some (u0 0)))))))), ((u0 0), .inr (7, [.int (nI 0), .ref (u0 1), .int (nI 0), .int (nI 3), .int (nI 300), .int (nI 16), .int (nI 16), .int (nI 0), .int (-1), .int (nI 0), .int (nI 0), .int (nI 0), .int (nI 0), .int (nI 0)])), (h7, .inr (4, [.ref a7, .ref h8, .ref a8, .int (nI 1)]))]) (run_V (rest := []) hx hb hml hown hts hK hP hD hS hA hm (C288_make l G D K H.size h10 h11 h12 h13 h14 h15 (.ref a9) (.ref a10) (.ref a11) (.int (nI 0)) (.int (nI 0)) (.int (nI 60)) (.int (nI 0)) (.int (nI 2)) (.int (nI 0)) (.int (nI 0)) (.int (nI 0)) (.int (nI 0)) (.int (nI 0)) (.int (nI 0)) (.int (nI 0)) (.int (nI 1)) (fun _ => (-1)) ya (by omega) (by omega)) [0, 1, 2, 3, 4, 5] rfl rfl mok_yX12_make w_1341 w_1342 w_1343 (rcv hK hP 0 rfl rfl rfl) ⟨Nat.le_of_ble_eq_true rfl, Nat.le_of_ble_eq_true rfl⟩ rfl hl.1 rfl (Nat.le_of_ble_eq_true rfl) dL_law_300 ⟨(by dsimp only [room_1]; omega), (by dsimp only [room_1]; omega)⟩) hP hD hS hA [0, 1, 2, 3, 4, 5] [6, 7, 8, 9, 10, 11, 12, 13, 14, 15, 16, 17] rfl rfl rfl (by decide) (w2 := fun u1 => [(h9, .inl (K 3, 1, .inr (.inl (vp_updL (fun _ => 0) 0 0)))), (h0, .inr (9, [.ref h1, .ref h7, .ref h2, .ref a0, .ref h6, .ref a1, .ref a2, .ref a3, .int (nI 0)])), (h1, .inr (5, [.ref h4, .int (nI 1)])), (h4, .inl (K 0, 200, .inr (.inr (.inr (.inr (va_up (fun _ => none) 0 (some (u0 0)))))))), ((u0 1), .inl (K 0, 14, .inr (.inr (.inr (.inr (fun _ => none)))))), (h2, .inr (3, [.ref a4, .ref a5, .ref h3, .int (nI 0), .int (nI 0), .int (nI 100), .int (nI 60), .ref a6])), (h3, .inr (5, [.ref h5, .int (nI 1)])), (h5, .inl (K 0, 200, .inr (.inr (.inr (.inr (va_up (fun _ => none) 0 (some (u0 0)))))))), (h6, .inr (1, [.ref h1, .ref h7, .int (nI 0)])), (h8, .inl (K 0, 32, .inr (.inr (.inr (.inr (va_up (fun _ => none) (0 + ya) (some (u0 0)))))))), ((u0 0), .inr (7, [.int (nI 0), .ref (u0 1), .int (nI 0), .int (nI 3), .int (nI 300), .int (nI 16), .int (nI 16), .int (nI 0), .int (-1), .int (nI 0), .int (nI 0), .int (nI 0), .int (nI 0), .int (nI 0)])), (h7, .inr (4, [.ref a7, .ref h8, .ref a8, .int (nI 1)])), ((u1 1), .inr (14, [.int (nI 0), .int (-1), .int (nI 0), .ref h12])), ((u1 2), .inr (14, [.int (nI 0), .int (-1), .int (nI 0), .ref (u1 0)])), ((u1 0), .inr (13, [.int (nI 0), .ref (G 0), .int (nI 0)])), ((u1 4), .inr (14, [.int (nI 0), .int (-1), .int (nI 0), .ref h12])), ((u1 5), .inr (14, [.int (nI 0), .int (-1), .int (nI 0), .ref (u1 3)])), ((u1 3), .inr (13, [.int (nI 0), .ref (G 0), .int (nI 0)])), ((u1 7), .inr (14, [.int (nI 0), .int (-1), .int (nI 0), .ref h12])), ((u1 8), .inr (14, [.int (nI 0), .int (-1), .int (nI 0), .ref (u1 6)])), ((u1 6), .inr (13, [.int (nI 0), .ref (G 0), .int (nI 0)])), ((u1 10), .inr (14, [.int (nI 0), .int (-1), .int (nI 0), .ref h12])), ((u1 11), .inr (14, [.int (nI 0), .int (-1), .int (nI 0), .ref (u1 9)])), ((u1 9), .inr (13, [.int (nI 0), .ref (G 0), .int (nI 0)])), ((u1 13), .inl (K 2, 14, .inl (fun _ => (-1)))), ((u1 12), .inr (11, [.int (nI 0), .ref (u1 13), .int (nI 0), .int (nI 3), .int (nI 300), .int (nI 0), .int (-1), .int (nI 2), .int (nI 0), .int (nI 0), .int (nI 0)])), (h12, .inr (13, [.int (nI 1), .ref (u1 14), .int (nI 1)])), ((u1 14), .inl (K 4, 10, .inr (.inr (.inr (.inr (va_up (fun _ => none) 0 (some (u1 12)))))))), (h10, .inr (12, [.int (nI 0), .ref h11])), (h11, .inr (10, [.ref h12, .ref h13, .ref a9, .ref a10, .ref a11, .int (nI 0), .int (nI 0), .int (nI 60), .int (nI 0), .int (nI 2), .int (nI 0), .int (nI 0), .int (nI 0), .int (nI 0), .int (nI 0), .int (nI 0), .int (nI 0)])), (h15, .inl (K 2, 4, .inl (upd (fun _ => (-1)) ya (nI 0)))), (h13, .inr (13, [.int (nI 1), .ref h14, .int (nI 1)])), (h14, .inl (K 4, 10, .inr (.inr (.inr (.inr (va_up (fun _ => none) 0 (some h15)))))))]) (fun _ => rfl) (fun u1 H locs hP hD hS => ?_)
  refine lv_istore (lv' := [(6, .int (nI 0)), (5, .int (nI 0)), (0, .ref b), (1, .ref h0), (2, .ref h10), (3, .ref h9), (4, .int (nI 0))]) hx hb dL_law_303 hl (by decide) rfl (fun ls hl => ?_)
  refine lv_aload_n hx hb dL_law_305 rfl (lv_at hl 4 rfl) ?_
  refine k_i (wr := [(h9, .inl (K 3, 1, .inr (.inl (vp_updL (fun _ => 0) 0 0)))), (h0, .inr (9, [.ref h1, .ref h7, .ref h2, .ref a0, .ref h6, .ref a1, .ref a2, .ref a3, .int (nI 0)])), (h1, .inr (5, [.ref h4, .int (nI 1)])), (h4, .inl (K 0, 200, .inr (.inr (.inr (.inr (va_up (fun _ => none) 0 (some (u0 0)))))))), ((u0 1), .inl (K 0, 14, .inr (.inr (.inr (.inr (fun _ => none)))))), (h2, .inr (3, [.ref a4, .ref a5, .ref h3, .int (nI 0), .int (nI 0), .int (nI 100), .int (nI 60), .ref a6])), (h3, .inr (5, [.ref h5, .int (nI 1)])), (h5, .inl (K 0, 200, .inr (.inr (.inr (.inr (va_up (fun _ => none) 0 (some (u0 0)))))))), (h6, .inr (1, [.ref h1, .ref h7, .int (nI 0)])), (h8, .inl (K 0, 32, .inr (.inr (.inr (.inr (va_up (fun _ => none) (0 + ya) (some (u0 0)))))))), ((u0 0), .inr (7, [.int (nI 0), .ref (u0 1), .int (nI 0), .int (nI 3), .int (nI 300), .int (nI 16), .int (nI 16), .int (nI 0), .int (-1), .int (nI 0), .int (nI 0), .int (nI 0), .int (nI 0), .int (nI 0)])), (h7, .inr (4, [.ref a7, .ref h8, .ref a8, .int (nI 1)])), ((u1 1), .inr (14, [.int (nI 0), .int (-1), .int (nI 0), .ref h12])), ((u1 2), .inr (14, [.int (nI 0), .int (-1), .int (nI 0), .ref (u1 0)])), ((u1 0), .inr (13, [.int (nI 0), .ref (G 0), .int (nI 0)])), ((u1 4), .inr (14, [.int (nI 0), .int (-1), .int (nI 0), .ref h12])), ((u1 5), .inr (14, [.int (nI 0), .int (-1), .int (nI 0), .ref (u1 3)])), ((u1 3), .inr (13, [.int (nI 0), .ref (G 0), .int (nI 0)])), ((u1 7), .inr (14, [.int (nI 0), .int (-1), .int (nI 0), .ref h12])), ((u1 8), .inr (14, [.int (nI 0), .int (-1), .int (nI 0), .ref (u1 6)])), ((u1 6), .inr (13, [.int (nI 0), .ref (G 0), .int (nI 0)])), ((u1 10), .inr (14, [.int (nI 0), .int (-1), .int (nI 0), .ref h12])), ((u1 11), .inr (14, [.int (nI 0), .int (-1), .int (nI 0), .ref (u1 9)])), ((u1 9), .inr (13, [.int (nI 0), .ref (G 0), .int (nI 0)])), ((u1 13), .inl (K 2, 14, .inl (fun _ => (-1)))), ((u1 12), .inr (11, [.int (nI 0), .ref (u1 13), .int (nI 0), .int (nI 3), .int (nI 300), .int (nI 0), .int (-1), .int (nI 2), .int (nI 0), .int (nI 0), .int (nI 0)])), (h12, .inr (13, [.int (nI 1), .ref (u1 14), .int (nI 1)])), ((u1 14), .inl (K 4, 10, .inr (.inr (.inr (.inr (va_up (fun _ => none) 0 (some (u1 12)))))))), (h11, .inr (10, [.ref h12, .ref h13, .ref a9, .ref a10, .ref a11, .int (nI 0), .int (nI 0), .int (nI 60), .int (nI 0), .int (nI 2), .int (nI 0), .int (nI 0), .int (nI 0), .int (nI 0), .int (nI 0), .int (nI 0), .int (nI 0)])), (h15, .inl (K 2, 4, .inl (upd (fun _ => (-1)) ya (nI 0)))), (h13, .inr (13, [.int (nI 1), .ref h14, .int (nI 1)])), (h14, .inl (K 4, 10, .inr (.inr (.inr (.inr (va_up (fun _ => none) 0 (some h15)))))))]) (run_V (rest := []) hx hb hml hown hts hK hP hD hS hA hm (C1057_thrown l G D K H.size h10 (.ref h11)) [28] rfl rfl mok_yX12_thrown w_1300 w_1301 w_1302 (rcv hK hP 28 rfl rfl rfl) ⟨Nat.le_of_ble_eq_true rfl, Nat.le_of_ble_eq_true rfl⟩ rfl hl.1 rfl (Nat.le_of_ble_eq_true rfl) dL_law_306 ⟨(by dsimp only [room_1]; omega), (by dsimp only [room_1]; omega)⟩) hP hD hS hA [28] [0, 1, 2, 3, 4, 5, 6, 7, 8, 9, 10, 11, 12, 13, 14, 15, 16, 17, 18, 19, 20, 21, 22, 23, 24, 25, 26, 27, 29, 30, 31, 32] rfl rfl rfl (by decide) (w2 := fun u2 => [(h9, .inl (K 3, 1, .inr (.inl (vp_updL (fun _ => 0) 0 0)))), (h0, .inr (9, [.ref h1, .ref h7, .ref h2, .ref a0, .ref h6, .ref a1, .ref a2, .ref a3, .int (nI 0)])), (h1, .inr (5, [.ref h4, .int (nI 1)])), (h4, .inl (K 0, 200, .inr (.inr (.inr (.inr (va_up (fun _ => none) 0 (some (u0 0)))))))), ((u0 1), .inl (K 0, 14, .inr (.inr (.inr (.inr (fun _ => none)))))), (h2, .inr (3, [.ref a4, .ref a5, .ref h3, .int (nI 0), .int (nI 0), .int (nI 100), .int (nI 60), .ref a6])), (h3, .inr (5, [.ref h5, .int (nI 1)])), (h5, .inl (K 0, 200, .inr (.inr (.inr (.inr (va_up (fun _ => none) 0 (some (u0 0)))))))), (h6, .inr (1, [.ref h1, .ref h7, .int (nI 0)])), (h8, .inl (K 0, 32, .inr (.inr (.inr (.inr (va_up (fun _ => none) (0 + ya) (some (u0 0)))))))), ((u0 0), .inr (7, [.int (nI 0), .ref (u0 1), .int (nI 0), .int (nI 3), .int (nI 300), .int (nI 16), .int (nI 16), .int (nI 0), .int (-1), .int (nI 0), .int (nI 0), .int (nI 0), .int (nI 0), .int (nI 0)])), (h7, .inr (4, [.ref a7, .ref h8, .ref a8, .int (nI 1)])), ((u1 1), .inr (14, [.int (nI 0), .int (-1), .int (nI 0), .ref h12])), ((u1 2), .inr (14, [.int (nI 0), .int (-1), .int (nI 0), .ref (u1 0)])), ((u1 0), .inr (13, [.int (nI 0), .ref (G 0), .int (nI 0)])), ((u1 4), .inr (14, [.int (nI 0), .int (-1), .int (nI 0), .ref h12])), ((u1 5), .inr (14, [.int (nI 0), .int (-1), .int (nI 0), .ref (u1 3)])), ((u1 3), .inr (13, [.int (nI 0), .ref (G 0), .int (nI 0)])), ((u1 7), .inr (14, [.int (nI 0), .int (-1), .int (nI 0), .ref h12])), ((u1 8), .inr (14, [.int (nI 0), .int (-1), .int (nI 0), .ref (u1 6)])), ((u1 6), .inr (13, [.int (nI 0), .ref (G 0), .int (nI 0)])), ((u1 10), .inr (14, [.int (nI 0), .int (-1), .int (nI 0), .ref h12])), ((u1 11), .inr (14, [.int (nI 0), .int (-1), .int (nI 0), .ref (u1 9)])), ((u1 9), .inr (13, [.int (nI 0), .ref (G 0), .int (nI 0)])), ((u1 13), .inl (K 2, 14, .inl (fun _ => (-1)))), ((u1 12), .inr (11, [.int (nI 0), .ref (u1 13), .int (nI 0), .int (nI 3), .int (nI 300), .int (nI 0), .int (-1), .int (nI 2), .int (nI 0), .int (nI 0), .int (nI 0)])), (h12, .inr (13, [.int (nI 1), .ref (u1 14), .int (nI 1)])), ((u1 14), .inl (K 4, 10, .inr (.inr (.inr (.inr (va_up (fun _ => none) 0 (some (u1 12)))))))), (h11, .inr (10, [.ref h12, .ref h13, .ref a9, .ref a10, .ref a11, .int (nI 0), .int (nI 0), .int (nI 60), .int (nI 0), .int (nI 2), .int (nI 0), .int (nI 0), .int (nI 0), .int (nI 0), .int (nI 0), .int (nI 0), .int (nI 0)])), (h15, .inl (K 2, 4, .inl (upd (fun _ => (-1)) ya (nI 0)))), (h13, .inr (13, [.int (nI 1), .ref h14, .int (nI 1)])), (h14, .inl (K 4, 10, .inr (.inr (.inr (.inr (va_up (fun _ => none) 0 (some h15))))))), (h10, .inr (12, [.int (nI 0), .ref h11]))]) (fun _ => rfl) (fun u2 H locs hP hD hS => ?_)
  refine lv_iload hx hb dL_law_309 (lv_at hl 1 rfl) ?_
  refine lv_icmp_eq (tgt := 316) hx hb dL_law_311 (by decide) (fun _ => ?_) (fun c9 => absurd (by decide +kernel) c9)
  refine lv_iload hx hb dL_law_316 (lv_at hl 1 rfl) ?_
  refine lv_if_ne (tgt := 333) hx hb dL_law_318 (by decide) (fun c9 => absurd (by decide +kernel) c9) (fun _ => ?_)
  refine lv_aload_n hx hb dL_law_321 rfl (lv_at hl 5 rfl) ?_
  refine lv_iconst (v := nI 0) hx hb dL_law_322 (by decide +kernel) ?_
  refine r_lald (k := 0) hx hb hK hP 0 3 rfl rfl (Nat.le_of_ble_eq_true rfl) (by decide) (v := 0) rfl dL_law_323 ?_
  refine lv_iload hx hb dL_law_324 (lv_at hl 0 rfl) ?_
  refine lv_i2l (v := 0) hx hb dL_law_326 (by decide +kernel) ?_
  refine W.lcmp hx hb dL_law_327 ?_
  refine w_toeq (show lg_cmp 0 0 = nI 0 by decide +kernel) ?_
  refine lv_if_eq (tgt := 333) hx hb dL_law_328 (by decide) (fun _ => ?_) (fun c9 => absurd (by decide +kernel) c9)
  refine lv_goto (tgt := 1762) hx hb dL_law_333 (by decide) ?_
  refine lv_iinc (v := nI 4) (lv' := [(4, .int (nI 4)), (6, .int (nI 0)), (5, .int (nI 0)), (0, .ref b), (1, .ref h0), (2, .ref h10), (3, .ref h9)]) hx hb dL_law_1762 hl (k := 6) rfl (by decide +kernel) (by decide) rfl (fun ls hl => ?_)
  refine lv_goto (tgt := 23) hx hb dL_law_1765 (by decide) ?_
  refine lv_iload hx hb dL_law_23 (lv_at hl 0 rfl) ?_
  refine lv_aload_n hx hb dL_law_25 rfl (lv_at hl 3 rfl) ?_
  refine va_slen hx hb hX hbl hbA hS dL_law_26 ?_
  refine w_toeq (show Int32.ofNat 4 = nI 4 from rfl) ?_
  refine lv_iconst (v := nI 4) hx hb dL_law_27 (by decide +kernel) ?_
  refine lv_isub hx hb dL_law_28 ?_
  refine w_toeq (show (nI 4) - (nI 4) = nI 0 by decide +kernel) ?_
  refine lv_icmp_gt (tgt := 1768) hx hb dL_law_29 (by decide) (fun _ => ?_) (fun c9 => absurd (by decide +kernel) c9)
  refine lv_iconst (v := nI 1) hx hb dL_law_1768 (by decide +kernel) ?_
  exact law_end hx hb hr hlk hS (by dsimp only; omega) (by dsimp only; omega) dL_law_1769
set_option maxHeartbeats 4000000 in
set_option maxRecDepth 100000 in
theorem LW35_make {p : Program} {e : Env} {s : State} {m : MethodId} {below : List Frame} {meth : Method} {c : Code} {l : Launch} {G : Nat → Nat} {D : va_G} {K : Nat → ClassId} {b : Nat} {xs : Nat → Int32} (hx : p.tables.exec = Jvm.exec) (hb : c.code = cL_law) (hr : meth.sig.returnType = some .boolean) (hlk : meth.locks = false) (hl0 : l.stackTraces = false) (hnc : Ncs s) (hml : c.maxLocals = 9) (hown : s.vm.findClass RL = some m.cls) (hts : ∀ w ∈ lw_gw, w.before #[Value.ref b] s = true) (hK : va_K D cl (tys K) s) (hm : Amb G (fun q : Nat => s.heap.size ≤ q) s s.heap) (hX : va_X b 4 xs s s.heap) (hbl : b < s.heap.size) {h0 h1 h2 h3 h4 h5 h6 h7 h8 h9 h10 h11 h12 h13 h14 h15 a0 a1 a2 a3 a4 a5 a6 a7 a8 a9 a10 a11 : Nat} (ya : Nat) (lya : 0 ≤ ya) (gya : ya ≤ 3) (hx1 : xs 1 = nI ya) (hx2 : xs 2 = nI 0) (hx3 : xs 3 = nI 15) {H : Heap} {locs : List Loc} {cells slots : Nat} (hcs : cells ≤ 1000) (hss : slots ≤ 100000) (hP : va_P D cl [(h0, .inr (9, [.ref h1, .ref h7, .ref h2, .ref a0, .ref h6, .ref a1, .ref a2, .ref a3, .int (nI 0)])), (h1, .inr (5, [.ref h4, .int (nI 0)])), (h2, .inr (3, [.ref a4, .ref a5, .ref h3, .int (nI 0), .int (nI 0), .int (nI 100), .int (nI 60), .ref a6])), (h3, .inr (5, [.ref h5, .int (nI 0)])), (h4, .inl (K 0, 200, .inr (.inr (.inr (.inr (fun _ => none)))))), (h5, .inl (K 0, 200, .inr (.inr (.inr (.inr (fun _ => none)))))), (h6, .inr (1, [.ref h1, .ref h7, .int (nI 0)])), (h7, .inr (4, [.ref a7, .ref h8, .ref a8, .int (nI 1)])), (h8, .inl (K 0, 32, .inr (.inr (.inr (.inr (fun _ => none)))))), (h9, .inl (K 3, 1, .inr (.inl (fun _ => 0)))), (h10, .inr (12, [.int (nI 0), .ref h11])), (h11, .inr (10, [.ref h12, .ref h13, .ref a9, .ref a10, .ref a11, .int (nI 0), .int (nI 0), .int (nI 60), .int (nI 0), .int (nI 2), .int (nI 0), .int (nI 0), .int (nI 0), .int (nI 0), .int (nI 0), .int (nI 0), .int (nI 0)])), (h12, .inr (13, [.int (nI 0), .ref (G 0), .int (nI 0)])), (h13, .inr (13, [.int (nI 1), .ref h14, .int (nI 1)])), (h14, .inl (K 4, 10, .inr (.inr (.inr (.inr (va_up (fun _ => none) 0 (some h15))))))), (h15, .inl (K 2, 4, .inl (fun _ => (-1))))] H) (hD : va_D (fun q : Nat => s.heap.size ≤ q) [(h0, .inr (9, [.ref h1, .ref h7, .ref h2, .ref a0, .ref h6, .ref a1, .ref a2, .ref a3, .int (nI 0)])), (h1, .inr (5, [.ref h4, .int (nI 0)])), (h2, .inr (3, [.ref a4, .ref a5, .ref h3, .int (nI 0), .int (nI 0), .int (nI 100), .int (nI 60), .ref a6])), (h3, .inr (5, [.ref h5, .int (nI 0)])), (h4, .inl (K 0, 200, .inr (.inr (.inr (.inr (fun _ => none)))))), (h5, .inl (K 0, 200, .inr (.inr (.inr (.inr (fun _ => none)))))), (h6, .inr (1, [.ref h1, .ref h7, .int (nI 0)])), (h7, .inr (4, [.ref a7, .ref h8, .ref a8, .int (nI 1)])), (h8, .inl (K 0, 32, .inr (.inr (.inr (.inr (fun _ => none)))))), (h9, .inl (K 3, 1, .inr (.inl (fun _ => 0)))), (h10, .inr (12, [.int (nI 0), .ref h11])), (h11, .inr (10, [.ref h12, .ref h13, .ref a9, .ref a10, .ref a11, .int (nI 0), .int (nI 0), .int (nI 60), .int (nI 0), .int (nI 2), .int (nI 0), .int (nI 0), .int (nI 0), .int (nI 0), .int (nI 0), .int (nI 0), .int (nI 0)])), (h12, .inr (13, [.int (nI 0), .ref (G 0), .int (nI 0)])), (h13, .inr (13, [.int (nI 1), .ref h14, .int (nI 1)])), (h14, .inl (K 4, 10, .inr (.inr (.inr (.inr (va_up (fun _ => none) 0 (some h15))))))), (h15, .inl (K 2, 4, .inl (fun _ => (-1))))]) (hS : va_S (fun q : Nat => s.heap.size ≤ q) s.heap H locs) {ls : Array Slot} (hl : lv_has ls 9 [(0, .ref b), (1, .ref h0), (2, .ref h10), (3, .ref h9), (4, .int (nI 0))]) : W p l e room_1 s m #[Value.ref b] below meth c H locs cells slots (lw_Z below #[Value.ref b] s) (F0 m 256 ls []) := by
  have hA : ∀ q : Nat, s.heap.size ≤ q → (fun q : Nat => s.heap.size ≤ q) q := fun _ h => h
  have hbA : ¬ (fun q : Nat => s.heap.size ≤ q) b := Nat.not_le.mpr hbl
  refine lv_aload_n hx hb dL_law_256 rfl (lv_at hl 1 rfl) ?_
  refine lv_aload_n hx hb dL_law_257 rfl (lv_at hl 0 rfl) ?_
  refine lv_iload hx hb dL_law_258 (lv_at hl 4 rfl) ?_
  refine lv_iconst (v := nI 1) hx hb dL_law_260 (by decide +kernel) ?_
  refine lv_iadd hx hb dL_law_261 ?_
  refine w_toeq (show (nI 0) + (nI 1) = nI 1 by decide +kernel) ?_
  refine va_sld hx hb hX hbl hbA hS (vp_in_nI (n := 1) (by decide) (by decide)) dL_law_262 ?_
  refine w_toeq (show xs (nI 1).toNatClampNeg = nI ya by rw [nI_clamp (n := 1) (by decide)]; exact hx1) ?_
  refine lv_aload_n hx hb dL_law_263 rfl (lv_at hl 0 rfl) ?_
  refine lv_iload hx hb dL_law_264 (lv_at hl 4 rfl) ?_
  refine lv_iconst (v := nI 2) hx hb dL_law_266 (by decide +kernel) ?_
  refine lv_iadd hx hb dL_law_267 ?_
  refine w_toeq (show (nI 0) + (nI 2) = nI 2 by decide +kernel) ?_
  refine va_sld hx hb hX hbl hbA hS (vp_in_nI (n := 2) (by decide) (by decide)) dL_law_268 ?_
  refine w_toeq (show xs (nI 2).toNatClampNeg = nI 0 by rw [nI_clamp (n := 2) (by decide)]; exact hx2) ?_
  refine lv_aload_n hx hb dL_law_269 rfl (lv_at hl 0 rfl) ?_
  refine lv_iload hx hb dL_law_270 (lv_at hl 4 rfl) ?_
  refine lv_iconst (v := nI 3) hx hb dL_law_272 (by decide +kernel) ?_
  refine lv_iadd hx hb dL_law_273 ?_
  refine w_toeq (show (nI 0) + (nI 3) = nI 3 by decide +kernel) ?_
  refine va_sld hx hb hX hbl hbA hS (vp_in_nI (n := 3) (by decide) (by decide)) dL_law_274 ?_
  refine w_toeq (show xs (nI 3).toNatClampNeg = nI 15 by rw [nI_clamp (n := 3) (by decide)]; exact hx3) ?_
  refine lv_aload_n hx hb dL_law_275 rfl (lv_at hl 3 rfl) ?_
  refine k_i (wr := [(h10, .inr (12, [.int (nI 0), .ref h11])), (h11, .inr (10, [.ref h12, .ref h13, .ref a9, .ref a10, .ref a11, .int (nI 0), .int (nI 0), .int (nI 60), .int (nI 0), .int (nI 2), .int (nI 0), .int (nI 0), .int (nI 0), .int (nI 0), .int (nI 0), .int (nI 0), .int (nI 0)])), (h12, .inr (13, [.int (nI 0), .ref (G 0), .int (nI 0)])), (h13, .inr (13, [.int (nI 1), .ref h14, .int (nI 1)])), (h14, .inl (K 4, 10, .inr (.inr (.inr (.inr (va_up (fun _ => none) 0 (some h15))))))), (h15, .inl (K 2, 4, .inl (fun _ => (-1))))]) (run_SW hnc (rest := []) hx hb hml hown hts hK hP hD hS hA hm (C1094_make l G D K H.size h0 h1 h2 h3 h4 h5 h6 h7 h8 h9 (.ref a0) (.ref a1) (.ref a2) (.ref a3) (.int (nI 0)) (.ref a4) (.ref a5) (.int (nI 0)) (.int (nI 0)) (.int (nI 100)) (.int (nI 60)) (.ref a6) (.ref h1) (.ref h7) (.ref a7) (.ref a8) (fun _ => none) (fun _ => none) (fun _ => none) (fun _ => 0) ya (by omega) (by omega)) [0, 1, 2, 3, 4, 5, 6, 7, 8, 9] rfl rfl mokh_yL_make w_786 w_787 ⟨Nat.le_of_ble_eq_true rfl, Nat.le_of_ble_eq_true rfl⟩ rfl hl.1 rfl (Nat.le_of_ble_eq_true rfl) dL_law_276 ⟨(by dsimp only [room_1]; omega), (by dsimp only [room_1]; omega)⟩) hP hD hS hA [0, 1, 2, 3, 4, 5, 6, 7, 8, 9] [10, 11, 12, 13, 14, 15] rfl rfl rfl (by decide) (w2 := fun u0 => [(h10, .inr (12, [.int (nI 0), .ref h11])), (h11, .inr (10, [.ref h12, .ref h13, .ref a9, .ref a10, .ref a11, .int (nI 0), .int (nI 0), .int (nI 60), .int (nI 0), .int (nI 2), .int (nI 0), .int (nI 0), .int (nI 0), .int (nI 0), .int (nI 0), .int (nI 0), .int (nI 0)])), (h12, .inr (13, [.int (nI 0), .ref (G 0), .int (nI 0)])), (h13, .inr (13, [.int (nI 1), .ref h14, .int (nI 1)])), (h14, .inl (K 4, 10, .inr (.inr (.inr (.inr (va_up (fun _ => none) 0 (some h15))))))), (h15, .inl (K 2, 4, .inl (fun _ => (-1)))), (h9, .inl (K 3, 1, .inr (.inl (vp_updL (fun _ => 0) 0 0)))), (h0, .inr (9, [.ref h1, .ref h7, .ref h2, .ref a0, .ref h6, .ref a1, .ref a2, .ref a3, .int (nI 0)])), (h1, .inr (5, [.ref h4, .int (nI 1)])), (h4, .inl (K 0, 200, .inr (.inr (.inr (.inr (va_up (fun _ => none) 0 (some (u0 0)))))))), ((u0 1), .inl (K 0, 15, .inr (.inr (.inr (.inr (fun _ => none)))))), (h2, .inr (3, [.ref a4, .ref a5, .ref h3, .int (nI 0), .int (nI 0), .int (nI 100), .int (nI 60), .ref a6])), (h3, .inr (5, [.ref h5, .int (nI 1)])), (h5, .inl (K 0, 200, .inr (.inr (.inr (.inr (va_up (fun _ => none) 0 (some (u0 0)))))))), (h6, .inr (1, [.ref h1, .ref h7, .int (nI 0)])), (h8, .inl (K 0, 32, .inr (.inr (.inr (.inr (va_up (fun _ => none) (0 + ya) (some (u0 0)))))))), ((u0 0), .inr (7, [.int (nI 0), .ref (u0 1), .int (nI 0), .int (nI 3), .int (nI 300), .int (nI 17), .int (nI 17), .int (nI 0), .int (-1), .int (nI 0), .int (nI 0), .int (nI 0), .int (nI 0), .int (nI 0)])), (h7, .inr (4, [.ref a7, .ref h8, .ref a8, .int (nI 1)]))]) (fun _ => rfl) (fun u0 H locs hP hD hS => ?_)
  refine lv_istore (lv' := [(5, .int (nI 0)), (0, .ref b), (1, .ref h0), (2, .ref h10), (3, .ref h9), (4, .int (nI 0))]) hx hb dL_law_279 hl (by decide) rfl (fun ls hl => ?_)
  refine lv_aload_n hx hb dL_law_281 rfl (lv_at hl 3 rfl) ?_
  refine lv_aload_n hx hb dL_law_282 rfl (lv_at hl 1 rfl) ?_
  refine lv_iload hx hb dL_law_283 (lv_at hl 5 rfl) ?_
  refine lv_iconst (v := nI 1) hx hb dL_law_285 (by decide +kernel) ?_
  refine lv_iadd hx hb dL_law_286 ?_
  refine w_toeq (show (nI 0) + (nI 1) = nI 1 by decide +kernel) ?_
  refine va_sld hx hb hX hbl hbA hS (vp_in_nI (n := 1) (by decide) (by decide)) dL_law_287 ?_
  refine w_toeq (show xs (nI 1).toNatClampNeg = nI ya by rw [nI_clamp (n := 1) (by decide)]; exact hx1) ?_
  refine lv_aload_n hx hb dL_law_288 rfl (lv_at hl 1 rfl) ?_
  refine lv_iload hx hb dL_law_289 (lv_at hl 5 rfl) ?_
  refine lv_iconst (v := nI 2) hx hb dL_law_291 (by decide +kernel) ?_
  refine lv_iadd hx hb dL_law_292 ?_
  refine w_toeq (show (nI 0) + (nI 2) = nI 2 by decide +kernel) ?_
  refine va_sld hx hb hX hbl hbA hS (vp_in_nI (n := 2) (by decide) (by decide)) dL_law_293 ?_
  refine w_toeq (show xs (nI 2).toNatClampNeg = nI 0 by rw [nI_clamp (n := 2) (by decide)]; exact hx2) ?_
  refine lv_aload_n hx hb dL_law_294 rfl (lv_at hl 1 rfl) ?_
  refine lv_iload hx hb dL_law_295 (lv_at hl 5 rfl) ?_
  refine lv_iconst (v := nI 3) hx hb dL_law_297 (by decide +kernel) ?_
  refine lv_iadd hx hb dL_law_298 ?_
  refine w_toeq (show (nI 0) + (nI 3) = nI 3 by decide +kernel) ?_
  refine va_sld hx hb hX hbl hbA hS (vp_in_nI (n := 3) (by decide) (by decide)) dL_law_299 ?_
  refine w_toeq (show xs (nI 3).toNatClampNeg = nI 15 by rw [nI_clamp (n := 3) (by decide)]; exact hx3) ?_
  refine k_i (wr := [(h9, .inl (K 3, 1, .inr (.inl (vp_updL (fun _ => 0) 0 0)))), (h0, .inr (9, [.ref h1, .ref h7, .ref h2, .ref a0, .ref h6, .ref a1, .ref a2, .ref a3, .int (nI 0)])), (h1, .inr (5, [.ref h4, .int (nI 1)])), (h4, .inl (K 0, 200, .inr (.inr (.inr (.inr (va_up (fun _ => none) 0 (some (u0 0)))))))), ((u0 1), .inl (K 0, 15, .inr (.inr (.inr (.inr (fun _ => none)))))), (h2, .inr (3, [.ref a4, .ref a5, .ref h3, .int (nI 0), .int (nI 0), .int (nI 100), .int (nI 60), .ref a6])), (h3, .inr (5, [.ref h5, .int (nI 1)])), (h5, .inl (K 0, 200, .inr (.inr (.inr (.inr (va_up (fun _ => none) 0 (some (u0 0)))))))), (h6, .inr (1, [.ref h1, .ref h7, .int (nI 0)])), (h8, .inl (K 0, 32, .inr (.inr (.inr (.inr (va_up (fun _ => none) (0 + ya) (some (u0 0)))))))), ((u0 0), .inr (7, [.int (nI 0), .ref (u0 1), .int (nI 0), .int (nI 3), .int (nI 300), .int (nI 17), .int (nI 17), .int (nI 0), .int (-1), .int (nI 0), .int (nI 0), .int (nI 0), .int (nI 0), .int (nI 0)])), (h7, .inr (4, [.ref a7, .ref h8, .ref a8, .int (nI 1)]))]) (run_V (rest := []) hx hb hml hown hts hK hP hD hS hA hm (C300_make l G D K H.size h10 h11 h12 h13 h14 h15 (.ref a9) (.ref a10) (.ref a11) (.int (nI 0)) (.int (nI 0)) (.int (nI 60)) (.int (nI 0)) (.int (nI 2)) (.int (nI 0)) (.int (nI 0)) (.int (nI 0)) (.int (nI 0)) (.int (nI 0)) (.int (nI 0)) (.int (nI 0)) (.int (nI 1)) (fun _ => (-1)) ya (by omega) (by omega)) [0, 1, 2, 3, 4, 5] rfl rfl mok_yX12_make w_1341 w_1342 w_1343 (rcv hK hP 0 rfl rfl rfl) ⟨Nat.le_of_ble_eq_true rfl, Nat.le_of_ble_eq_true rfl⟩ rfl hl.1 rfl (Nat.le_of_ble_eq_true rfl) dL_law_300 ⟨(by dsimp only [room_1]; omega), (by dsimp only [room_1]; omega)⟩) hP hD hS hA [0, 1, 2, 3, 4, 5] [6, 7, 8, 9, 10, 11, 12, 13, 14, 15, 16, 17] rfl rfl rfl (by decide) (w2 := fun u1 => [(h9, .inl (K 3, 1, .inr (.inl (vp_updL (fun _ => 0) 0 0)))), (h0, .inr (9, [.ref h1, .ref h7, .ref h2, .ref a0, .ref h6, .ref a1, .ref a2, .ref a3, .int (nI 0)])), (h1, .inr (5, [.ref h4, .int (nI 1)])), (h4, .inl (K 0, 200, .inr (.inr (.inr (.inr (va_up (fun _ => none) 0 (some (u0 0)))))))), ((u0 1), .inl (K 0, 15, .inr (.inr (.inr (.inr (fun _ => none)))))), (h2, .inr (3, [.ref a4, .ref a5, .ref h3, .int (nI 0), .int (nI 0), .int (nI 100), .int (nI 60), .ref a6])), (h3, .inr (5, [.ref h5, .int (nI 1)])), (h5, .inl (K 0, 200, .inr (.inr (.inr (.inr (va_up (fun _ => none) 0 (some (u0 0)))))))), (h6, .inr (1, [.ref h1, .ref h7, .int (nI 0)])), (h8, .inl (K 0, 32, .inr (.inr (.inr (.inr (va_up (fun _ => none) (0 + ya) (some (u0 0)))))))), ((u0 0), .inr (7, [.int (nI 0), .ref (u0 1), .int (nI 0), .int (nI 3), .int (nI 300), .int (nI 17), .int (nI 17), .int (nI 0), .int (-1), .int (nI 0), .int (nI 0), .int (nI 0), .int (nI 0), .int (nI 0)])), (h7, .inr (4, [.ref a7, .ref h8, .ref a8, .int (nI 1)])), ((u1 1), .inr (14, [.int (nI 0), .int (-1), .int (nI 0), .ref h12])), ((u1 2), .inr (14, [.int (nI 0), .int (-1), .int (nI 0), .ref (u1 0)])), ((u1 0), .inr (13, [.int (nI 0), .ref (G 0), .int (nI 0)])), ((u1 4), .inr (14, [.int (nI 0), .int (-1), .int (nI 0), .ref h12])), ((u1 5), .inr (14, [.int (nI 0), .int (-1), .int (nI 0), .ref (u1 3)])), ((u1 3), .inr (13, [.int (nI 0), .ref (G 0), .int (nI 0)])), ((u1 7), .inr (14, [.int (nI 0), .int (-1), .int (nI 0), .ref h12])), ((u1 8), .inr (14, [.int (nI 0), .int (-1), .int (nI 0), .ref (u1 6)])), ((u1 6), .inr (13, [.int (nI 0), .ref (G 0), .int (nI 0)])), ((u1 10), .inr (14, [.int (nI 0), .int (-1), .int (nI 0), .ref h12])), ((u1 11), .inr (14, [.int (nI 0), .int (-1), .int (nI 0), .ref (u1 9)])), ((u1 9), .inr (13, [.int (nI 0), .ref (G 0), .int (nI 0)])), ((u1 13), .inl (K 2, 15, .inl (fun _ => (-1)))), ((u1 12), .inr (11, [.int (nI 0), .ref (u1 13), .int (nI 0), .int (nI 3), .int (nI 300), .int (nI 0), .int (-1), .int (nI 2), .int (nI 0), .int (nI 0), .int (nI 0)])), (h12, .inr (13, [.int (nI 1), .ref (u1 14), .int (nI 1)])), ((u1 14), .inl (K 4, 10, .inr (.inr (.inr (.inr (va_up (fun _ => none) 0 (some (u1 12)))))))), (h10, .inr (12, [.int (nI 0), .ref h11])), (h11, .inr (10, [.ref h12, .ref h13, .ref a9, .ref a10, .ref a11, .int (nI 0), .int (nI 0), .int (nI 60), .int (nI 0), .int (nI 2), .int (nI 0), .int (nI 0), .int (nI 0), .int (nI 0), .int (nI 0), .int (nI 0), .int (nI 0)])), (h15, .inl (K 2, 4, .inl (upd (fun _ => (-1)) ya (nI 0)))), (h13, .inr (13, [.int (nI 1), .ref h14, .int (nI 1)])), (h14, .inl (K 4, 10, .inr (.inr (.inr (.inr (va_up (fun _ => none) 0 (some h15)))))))]) (fun _ => rfl) (fun u1 H locs hP hD hS => ?_)
  refine lv_istore (lv' := [(6, .int (nI 0)), (5, .int (nI 0)), (0, .ref b), (1, .ref h0), (2, .ref h10), (3, .ref h9), (4, .int (nI 0))]) hx hb dL_law_303 hl (by decide) rfl (fun ls hl => ?_)
  refine lv_aload_n hx hb dL_law_305 rfl (lv_at hl 4 rfl) ?_
  refine k_i (wr := [(h9, .inl (K 3, 1, .inr (.inl (vp_updL (fun _ => 0) 0 0)))), (h0, .inr (9, [.ref h1, .ref h7, .ref h2, .ref a0, .ref h6, .ref a1, .ref a2, .ref a3, .int (nI 0)])), (h1, .inr (5, [.ref h4, .int (nI 1)])), (h4, .inl (K 0, 200, .inr (.inr (.inr (.inr (va_up (fun _ => none) 0 (some (u0 0)))))))), ((u0 1), .inl (K 0, 15, .inr (.inr (.inr (.inr (fun _ => none)))))), (h2, .inr (3, [.ref a4, .ref a5, .ref h3, .int (nI 0), .int (nI 0), .int (nI 100), .int (nI 60), .ref a6])), (h3, .inr (5, [.ref h5, .int (nI 1)])), (h5, .inl (K 0, 200, .inr (.inr (.inr (.inr (va_up (fun _ => none) 0 (some (u0 0)))))))), (h6, .inr (1, [.ref h1, .ref h7, .int (nI 0)])), (h8, .inl (K 0, 32, .inr (.inr (.inr (.inr (va_up (fun _ => none) (0 + ya) (some (u0 0)))))))), ((u0 0), .inr (7, [.int (nI 0), .ref (u0 1), .int (nI 0), .int (nI 3), .int (nI 300), .int (nI 17), .int (nI 17), .int (nI 0), .int (-1), .int (nI 0), .int (nI 0), .int (nI 0), .int (nI 0), .int (nI 0)])), (h7, .inr (4, [.ref a7, .ref h8, .ref a8, .int (nI 1)])), ((u1 1), .inr (14, [.int (nI 0), .int (-1), .int (nI 0), .ref h12])), ((u1 2), .inr (14, [.int (nI 0), .int (-1), .int (nI 0), .ref (u1 0)])), ((u1 0), .inr (13, [.int (nI 0), .ref (G 0), .int (nI 0)])), ((u1 4), .inr (14, [.int (nI 0), .int (-1), .int (nI 0), .ref h12])), ((u1 5), .inr (14, [.int (nI 0), .int (-1), .int (nI 0), .ref (u1 3)])), ((u1 3), .inr (13, [.int (nI 0), .ref (G 0), .int (nI 0)])), ((u1 7), .inr (14, [.int (nI 0), .int (-1), .int (nI 0), .ref h12])), ((u1 8), .inr (14, [.int (nI 0), .int (-1), .int (nI 0), .ref (u1 6)])), ((u1 6), .inr (13, [.int (nI 0), .ref (G 0), .int (nI 0)])), ((u1 10), .inr (14, [.int (nI 0), .int (-1), .int (nI 0), .ref h12])), ((u1 11), .inr (14, [.int (nI 0), .int (-1), .int (nI 0), .ref (u1 9)])), ((u1 9), .inr (13, [.int (nI 0), .ref (G 0), .int (nI 0)])), ((u1 13), .inl (K 2, 15, .inl (fun _ => (-1)))), ((u1 12), .inr (11, [.int (nI 0), .ref (u1 13), .int (nI 0), .int (nI 3), .int (nI 300), .int (nI 0), .int (-1), .int (nI 2), .int (nI 0), .int (nI 0), .int (nI 0)])), (h12, .inr (13, [.int (nI 1), .ref (u1 14), .int (nI 1)])), ((u1 14), .inl (K 4, 10, .inr (.inr (.inr (.inr (va_up (fun _ => none) 0 (some (u1 12)))))))), (h11, .inr (10, [.ref h12, .ref h13, .ref a9, .ref a10, .ref a11, .int (nI 0), .int (nI 0), .int (nI 60), .int (nI 0), .int (nI 2), .int (nI 0), .int (nI 0), .int (nI 0), .int (nI 0), .int (nI 0), .int (nI 0), .int (nI 0)])), (h15, .inl (K 2, 4, .inl (upd (fun _ => (-1)) ya (nI 0)))), (h13, .inr (13, [.int (nI 1), .ref h14, .int (nI 1)])), (h14, .inl (K 4, 10, .inr (.inr (.inr (.inr (va_up (fun _ => none) 0 (some h15)))))))]) (run_V (rest := []) hx hb hml hown hts hK hP hD hS hA hm (C1057_thrown l G D K H.size h10 (.ref h11)) [28] rfl rfl mok_yX12_thrown w_1300 w_1301 w_1302 (rcv hK hP 28 rfl rfl rfl) ⟨Nat.le_of_ble_eq_true rfl, Nat.le_of_ble_eq_true rfl⟩ rfl hl.1 rfl (Nat.le_of_ble_eq_true rfl) dL_law_306 ⟨(by dsimp only [room_1]; omega), (by dsimp only [room_1]; omega)⟩) hP hD hS hA [28] [0, 1, 2, 3, 4, 5, 6, 7, 8, 9, 10, 11, 12, 13, 14, 15, 16, 17, 18, 19, 20, 21, 22, 23, 24, 25, 26, 27, 29, 30, 31, 32] rfl rfl rfl (by decide) (w2 := fun u2 => [(h9, .inl (K 3, 1, .inr (.inl (vp_updL (fun _ => 0) 0 0)))), (h0, .inr (9, [.ref h1, .ref h7, .ref h2, .ref a0, .ref h6, .ref a1, .ref a2, .ref a3, .int (nI 0)])), (h1, .inr (5, [.ref h4, .int (nI 1)])), (h4, .inl (K 0, 200, .inr (.inr (.inr (.inr (va_up (fun _ => none) 0 (some (u0 0)))))))), ((u0 1), .inl (K 0, 15, .inr (.inr (.inr (.inr (fun _ => none)))))), (h2, .inr (3, [.ref a4, .ref a5, .ref h3, .int (nI 0), .int (nI 0), .int (nI 100), .int (nI 60), .ref a6])), (h3, .inr (5, [.ref h5, .int (nI 1)])), (h5, .inl (K 0, 200, .inr (.inr (.inr (.inr (va_up (fun _ => none) 0 (some (u0 0)))))))), (h6, .inr (1, [.ref h1, .ref h7, .int (nI 0)])), (h8, .inl (K 0, 32, .inr (.inr (.inr (.inr (va_up (fun _ => none) (0 + ya) (some (u0 0)))))))), ((u0 0), .inr (7, [.int (nI 0), .ref (u0 1), .int (nI 0), .int (nI 3), .int (nI 300), .int (nI 17), .int (nI 17), .int (nI 0), .int (-1), .int (nI 0), .int (nI 0), .int (nI 0), .int (nI 0), .int (nI 0)])), (h7, .inr (4, [.ref a7, .ref h8, .ref a8, .int (nI 1)])), ((u1 1), .inr (14, [.int (nI 0), .int (-1), .int (nI 0), .ref h12])), ((u1 2), .inr (14, [.int (nI 0), .int (-1), .int (nI 0), .ref (u1 0)])), ((u1 0), .inr (13, [.int (nI 0), .ref (G 0), .int (nI 0)])), ((u1 4), .inr (14, [.int (nI 0), .int (-1), .int (nI 0), .ref h12])), ((u1 5), .inr (14, [.int (nI 0), .int (-1), .int (nI 0), .ref (u1 3)])), ((u1 3), .inr (13, [.int (nI 0), .ref (G 0), .int (nI 0)])), ((u1 7), .inr (14, [.int (nI 0), .int (-1), .int (nI 0), .ref h12])), ((u1 8), .inr (14, [.int (nI 0), .int (-1), .int (nI 0), .ref (u1 6)])), ((u1 6), .inr (13, [.int (nI 0), .ref (G 0), .int (nI 0)])), ((u1 10), .inr (14, [.int (nI 0), .int (-1), .int (nI 0), .ref h12])), ((u1 11), .inr (14, [.int (nI 0), .int (-1), .int (nI 0), .ref (u1 9)])), ((u1 9), .inr (13, [.int (nI 0), .ref (G 0), .int (nI 0)])), ((u1 13), .inl (K 2, 15, .inl (fun _ => (-1)))), ((u1 12), .inr (11, [.int (nI 0), .ref (u1 13), .int (nI 0), .int (nI 3), .int (nI 300), .int (nI 0), .int (-1), .int (nI 2), .int (nI 0), .int (nI 0), .int (nI 0)])), (h12, .inr (13, [.int (nI 1), .ref (u1 14), .int (nI 1)])), ((u1 14), .inl (K 4, 10, .inr (.inr (.inr (.inr (va_up (fun _ => none) 0 (some (u1 12)))))))), (h11, .inr (10, [.ref h12, .ref h13, .ref a9, .ref a10, .ref a11, .int (nI 0), .int (nI 0), .int (nI 60), .int (nI 0), .int (nI 2), .int (nI 0), .int (nI 0), .int (nI 0), .int (nI 0), .int (nI 0), .int (nI 0), .int (nI 0)])), (h15, .inl (K 2, 4, .inl (upd (fun _ => (-1)) ya (nI 0)))), (h13, .inr (13, [.int (nI 1), .ref h14, .int (nI 1)])), (h14, .inl (K 4, 10, .inr (.inr (.inr (.inr (va_up (fun _ => none) 0 (some h15))))))), (h10, .inr (12, [.int (nI 0), .ref h11]))]) (fun _ => rfl) (fun u2 H locs hP hD hS => ?_)
  refine lv_iload hx hb dL_law_309 (lv_at hl 1 rfl) ?_
  refine lv_icmp_eq (tgt := 316) hx hb dL_law_311 (by decide) (fun _ => ?_) (fun c9 => absurd (by decide +kernel) c9)
  refine lv_iload hx hb dL_law_316 (lv_at hl 1 rfl) ?_
  refine lv_if_ne (tgt := 333) hx hb dL_law_318 (by decide) (fun c9 => absurd (by decide +kernel) c9) (fun _ => ?_)
  refine lv_aload_n hx hb dL_law_321 rfl (lv_at hl 5 rfl) ?_
  refine lv_iconst (v := nI 0) hx hb dL_law_322 (by decide +kernel) ?_
  refine r_lald (k := 0) hx hb hK hP 0 3 rfl rfl (Nat.le_of_ble_eq_true rfl) (by decide) (v := 0) rfl dL_law_323 ?_
  refine lv_iload hx hb dL_law_324 (lv_at hl 0 rfl) ?_
  refine lv_i2l (v := 0) hx hb dL_law_326 (by decide +kernel) ?_
  refine W.lcmp hx hb dL_law_327 ?_
  refine w_toeq (show lg_cmp 0 0 = nI 0 by decide +kernel) ?_
  refine lv_if_eq (tgt := 333) hx hb dL_law_328 (by decide) (fun _ => ?_) (fun c9 => absurd (by decide +kernel) c9)
  refine lv_goto (tgt := 1762) hx hb dL_law_333 (by decide) ?_
  refine lv_iinc (v := nI 4) (lv' := [(4, .int (nI 4)), (6, .int (nI 0)), (5, .int (nI 0)), (0, .ref b), (1, .ref h0), (2, .ref h10), (3, .ref h9)]) hx hb dL_law_1762 hl (k := 6) rfl (by decide +kernel) (by decide) rfl (fun ls hl => ?_)
  refine lv_goto (tgt := 23) hx hb dL_law_1765 (by decide) ?_
  refine lv_iload hx hb dL_law_23 (lv_at hl 0 rfl) ?_
  refine lv_aload_n hx hb dL_law_25 rfl (lv_at hl 3 rfl) ?_
  refine va_slen hx hb hX hbl hbA hS dL_law_26 ?_
  refine w_toeq (show Int32.ofNat 4 = nI 4 from rfl) ?_
  refine lv_iconst (v := nI 4) hx hb dL_law_27 (by decide +kernel) ?_
  refine lv_isub hx hb dL_law_28 ?_
  refine w_toeq (show (nI 4) - (nI 4) = nI 0 by decide +kernel) ?_
  refine lv_icmp_gt (tgt := 1768) hx hb dL_law_29 (by decide) (fun _ => ?_) (fun c9 => absurd (by decide +kernel) c9)
  refine lv_iconst (v := nI 1) hx hb dL_law_1768 (by decide +kernel) ?_
  exact law_end hx hb hr hlk hS (by dsimp only; omega) (by dsimp only; omega) dL_law_1769
