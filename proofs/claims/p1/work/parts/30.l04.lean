/-! path contracts, written by wip/p1/sx.py -/
set_option maxHeartbeats 4000000 in
set_option maxRecDepth 100000 in
theorem LW138_set {p : Program} {e : Env} {s : State} {m : MethodId} {below : List Frame} {meth : Method} {c : Code} {l : Launch} {G : Nat → Nat} {D : va_G} {K : Nat → ClassId} {b : Nat} {xs : Nat → Int32} (hx : p.tables.exec = Jvm.exec) (hb : c.code = cL_law) (hr : meth.sig.returnType = some .boolean) (hlk : meth.locks = false) (hl0 : l.stackTraces = false) (hnc : Ncs s) (hml : c.maxLocals = 9) (hown : s.vm.findClass RL = some m.cls) (hts : ∀ w ∈ lw_gw, w.before #[Value.ref b] s = true) (hK : va_K D cl (tys K) s) (hm : Amb G (fun q : Nat => s.heap.size ≤ q) s s.heap) (hX : va_X b 4 xs s s.heap) (hbl : b < s.heap.size) {h0 h1 h2 h3 h4 h5 h6 h7 a0 a1 a2 a3 a4 a5 a6 a7 a8 a9 a10 a11 a12 a13 : Nat} (ya : Nat) (lya : 0 ≤ ya) (gya : ya ≤ 3) (hx1 : xs 1 = nI ya) (yb : Int32) (hx2 : xs 2 = yb) (yc : Nat) (lyc : 0 ≤ yc) (gyc : yc ≤ 3) (hx3 : xs 3 = nI yc) {H : Heap} {locs : List Loc} {cells slots : Nat} (hcs : cells ≤ 1000) (hss : slots ≤ 100000) (hP : va_P D cl [(h0, .inr (9, [.ref a0, .ref h1, .ref a1, .ref a2, .ref a3, .ref a4, .ref a5, .ref a6, .int (nI 0)])), (h1, .inr (4, [.ref a7, .ref h2, .ref a8, .int (nI 1)])), (h2, .inl (K 0, 32, .inr (.inr (.inr (.inr (fun _ => none)))))), (h3, .inr (12, [.int (nI 0), .ref h4])), (h4, .inr (10, [.ref a9, .ref h5, .ref a10, .ref a11, .ref a12, .int (nI 0), .int (nI 0), .int (nI 60), .int (nI 0), .int (nI 2), .int (nI 0), .int (nI 0), .int (nI 0), .int (nI 0), .int (nI 0), .int (nI 0), .int (nI 0)])), (h5, .inr (13, [.int (nI 1), .ref h6, .int (nI 1)])), (h6, .inl (K 4, 10, .inr (.inr (.inr (.inr (va_up (fun _ => none) 0 (some h7))))))), (h7, .inl (K 2, 4, .inl (fun _ => (-1))))] H) (hD : va_D (fun q : Nat => s.heap.size ≤ q) [(h0, .inr (9, [.ref a0, .ref h1, .ref a1, .ref a2, .ref a3, .ref a4, .ref a5, .ref a6, .int (nI 0)])), (h1, .inr (4, [.ref a7, .ref h2, .ref a8, .int (nI 1)])), (h2, .inl (K 0, 32, .inr (.inr (.inr (.inr (fun _ => none)))))), (h3, .inr (12, [.int (nI 0), .ref h4])), (h4, .inr (10, [.ref a9, .ref h5, .ref a10, .ref a11, .ref a12, .int (nI 0), .int (nI 0), .int (nI 60), .int (nI 0), .int (nI 2), .int (nI 0), .int (nI 0), .int (nI 0), .int (nI 0), .int (nI 0), .int (nI 0), .int (nI 0)])), (h5, .inr (13, [.int (nI 1), .ref h6, .int (nI 1)])), (h6, .inl (K 4, 10, .inr (.inr (.inr (.inr (va_up (fun _ => none) 0 (some h7))))))), (h7, .inl (K 2, 4, .inl (fun _ => (-1))))]) (hS : va_S (fun q : Nat => s.heap.size ≤ q) s.heap H locs) {ls : Array Slot} (hl : lv_has ls 9 [(0, .ref b), (1, .ref h0), (2, .ref h3), (3, .ref a13), (4, .int (nI 0))]) : W p l e room_1 s m #[Value.ref b] below meth c H locs cells slots (lw_Z below #[Value.ref b] s) (F0 m 336 ls []) := by
  have hA : ∀ q : Nat, s.heap.size ≤ q → (fun q : Nat => s.heap.size ≤ q) q := fun _ h => h
  have hbA : ¬ (fun q : Nat => s.heap.size ≤ q) b := Nat.not_le.mpr hbl
  refine lv_aload_n hx hb dL_law_336 rfl (lv_at hl 1 rfl) ?_
  refine lv_aload_n hx hb dL_law_337 rfl (lv_at hl 0 rfl) ?_
  refine lv_iload hx hb dL_law_338 (lv_at hl 4 rfl) ?_
  refine lv_iconst (v := nI 1) hx hb dL_law_340 (by decide +kernel) ?_
  refine lv_iadd hx hb dL_law_341 ?_
  refine w_toeq (show (nI 0) + (nI 1) = nI 1 by decide +kernel) ?_
  refine va_sld hx hb hX hbl hbA hS (vp_in_nI (n := 1) (by decide) (by decide)) dL_law_342 ?_
  refine w_toeq (show xs (nI 1).toNatClampNeg = nI ya by rw [nI_clamp (n := 1) (by decide)]; exact hx1) ?_
  refine lv_aload_n hx hb dL_law_343 rfl (lv_at hl 0 rfl) ?_
  refine lv_iload hx hb dL_law_344 (lv_at hl 4 rfl) ?_
  refine lv_iconst (v := nI 2) hx hb dL_law_346 (by decide +kernel) ?_
  refine lv_iadd hx hb dL_law_347 ?_
  refine w_toeq (show (nI 0) + (nI 2) = nI 2 by decide +kernel) ?_
  refine va_sld hx hb hX hbl hbA hS (vp_in_nI (n := 2) (by decide) (by decide)) dL_law_348 ?_
  refine w_toeq (show xs (nI 2).toNatClampNeg = yb by rw [nI_clamp (n := 2) (by decide)]; exact hx2) ?_
  refine lv_aload_n hx hb dL_law_349 rfl (lv_at hl 0 rfl) ?_
  refine lv_iload hx hb dL_law_350 (lv_at hl 4 rfl) ?_
  refine lv_iconst (v := nI 3) hx hb dL_law_352 (by decide +kernel) ?_
  refine lv_iadd hx hb dL_law_353 ?_
  refine w_toeq (show (nI 0) + (nI 3) = nI 3 by decide +kernel) ?_
  refine va_sld hx hb hX hbl hbA hS (vp_in_nI (n := 3) (by decide) (by decide)) dL_law_354 ?_
  refine w_toeq (show xs (nI 3).toNatClampNeg = nI yc by rw [nI_clamp (n := 3) (by decide)]; exact hx3) ?_
  refine lv_aload_n hx hb dL_law_355 rfl (lv_at hl 3 rfl) ?_
  refine k_i (wr := [(h3, .inr (12, [.int (nI 0), .ref h4])), (h4, .inr (10, [.ref a9, .ref h5, .ref a10, .ref a11, .ref a12, .int (nI 0), .int (nI 0), .int (nI 60), .int (nI 0), .int (nI 2), .int (nI 0), .int (nI 0), .int (nI 0), .int (nI 0), .int (nI 0), .int (nI 0), .int (nI 0)])), (h5, .inr (13, [.int (nI 1), .ref h6, .int (nI 1)])), (h6, .inl (K 4, 10, .inr (.inr (.inr (.inr (va_up (fun _ => none) 0 (some h7))))))), (h7, .inl (K 2, 4, .inl (fun _ => (-1))))]) (run_SW hnc (rest := []) hx hb hml hown hts hK hP hD hS hA hm (C1197_set l G D K hl0 H.size h0 h1 h2 a13 (.ref a0) (.ref a1) (.ref a2) (.ref a3) (.ref a4) (.ref a5) (.ref a6) (.int (nI 0)) (.ref a7) (.ref a8) ya (by omega) (by omega) yc (by omega) (by omega) yb) [0, 1, 2] rfl rfl mokh_yL_set w_904 w_905 ⟨Nat.le_of_ble_eq_true rfl, Nat.le_of_ble_eq_true rfl⟩ rfl hl.1 rfl (Nat.le_of_ble_eq_true rfl) dL_law_356 ⟨(by dsimp only [room_1]; omega), (by dsimp only [room_1]; omega)⟩) hP hD hS hA [0, 1, 2] [3, 4, 5, 6, 7] rfl rfl rfl (by decide) (w2 := fun u0 => [(h3, .inr (12, [.int (nI 0), .ref h4])), (h4, .inr (10, [.ref a9, .ref h5, .ref a10, .ref a11, .ref a12, .int (nI 0), .int (nI 0), .int (nI 60), .int (nI 0), .int (nI 2), .int (nI 0), .int (nI 0), .int (nI 0), .int (nI 0), .int (nI 0), .int (nI 0), .int (nI 0)])), (h5, .inr (13, [.int (nI 1), .ref h6, .int (nI 1)])), (h6, .inl (K 4, 10, .inr (.inr (.inr (.inr (va_up (fun _ => none) 0 (some h7))))))), (h7, .inl (K 2, 4, .inl (fun _ => (-1))))]) (fun _ => rfl) (fun u0 H locs hP hD hS => ?_)
  refine lv_istore (lv' := [(5, .int (nI 2)), (0, .ref b), (1, .ref h0), (2, .ref h3), (3, .ref a13), (4, .int (nI 0))]) hx hb dL_law_359 hl (by decide) rfl (fun ls hl => ?_)
  refine lv_aload_n hx hb dL_law_361 rfl (lv_at hl 3 rfl) ?_
  refine lv_aload_n hx hb dL_law_362 rfl (lv_at hl 1 rfl) ?_
  refine lv_iload hx hb dL_law_363 (lv_at hl 5 rfl) ?_
  refine lv_iconst (v := nI 1) hx hb dL_law_365 (by decide +kernel) ?_
  refine lv_iadd hx hb dL_law_366 ?_
  refine w_toeq (show (nI 0) + (nI 1) = nI 1 by decide +kernel) ?_
  refine va_sld hx hb hX hbl hbA hS (vp_in_nI (n := 1) (by decide) (by decide)) dL_law_367 ?_
  refine w_toeq (show xs (nI 1).toNatClampNeg = nI ya by rw [nI_clamp (n := 1) (by decide)]; exact hx1) ?_
  refine lv_aload_n hx hb dL_law_368 rfl (lv_at hl 1 rfl) ?_
  refine lv_iload hx hb dL_law_369 (lv_at hl 5 rfl) ?_
  refine lv_iconst (v := nI 2) hx hb dL_law_371 (by decide +kernel) ?_
  refine lv_iadd hx hb dL_law_372 ?_
  refine w_toeq (show (nI 0) + (nI 2) = nI 2 by decide +kernel) ?_
  refine va_sld hx hb hX hbl hbA hS (vp_in_nI (n := 2) (by decide) (by decide)) dL_law_373 ?_
  refine w_toeq (show xs (nI 2).toNatClampNeg = yb by rw [nI_clamp (n := 2) (by decide)]; exact hx2) ?_
  refine lv_aload_n hx hb dL_law_374 rfl (lv_at hl 1 rfl) ?_
  refine lv_iload hx hb dL_law_375 (lv_at hl 5 rfl) ?_
  refine lv_iconst (v := nI 3) hx hb dL_law_377 (by decide +kernel) ?_
  refine lv_iadd hx hb dL_law_378 ?_
  refine w_toeq (show (nI 0) + (nI 3) = nI 3 by decide +kernel) ?_
  refine va_sld hx hb hX hbl hbA hS (vp_in_nI (n := 3) (by decide) (by decide)) dL_law_379 ?_
  refine w_toeq (show xs (nI 3).toNatClampNeg = nI yc by rw [nI_clamp (n := 3) (by decide)]; exact hx3) ?_
  refine k_i (wr := []) (run_V (rest := []) hx hb hml hown hts hK hP hD hS hA hm (C622_set l G D K H.size h3 h4 h5 h6 h7 (.ref a9) (.ref a10) (.ref a11) (.ref a12) (.int (nI 0)) (.int (nI 0)) (.int (nI 60)) (.int (nI 0)) (.int (nI 2)) (.int (nI 0)) (.int (nI 0)) (.int (nI 0)) (.int (nI 0)) (.int (nI 0)) (.int (nI 0)) (.int (nI 0)) (.int (nI 1)) ya (by omega) (by omega) yc (by omega) (by omega) yb) [0, 1, 2, 3, 4] rfl rfl mok_yX12_set w_1885 w_1886 w_1887 (rcv hK hP 0 rfl rfl rfl) ⟨Nat.le_of_ble_eq_true rfl, Nat.le_of_ble_eq_true rfl⟩ rfl hl.1 rfl (Nat.le_of_ble_eq_true rfl) dL_law_380 ⟨(by dsimp only [room_1]; omega), (by dsimp only [room_1]; omega)⟩) hP hD hS hA [0, 1, 2, 3, 4] [] rfl rfl rfl (by decide) (w2 := fun u1 => [(h4, .inr (10, [.ref a9, .ref h5, .ref a10, .ref a11, .ref a12, .int (nI 0), .int (nI 0), .int (nI 60), .int (nI 0), .int (nI 2), .int (nI 0), .int (nI 0), .int (nI 0), .int (nI 0), .int (nI 0), .int (nI 0), .int (nI 0)])), (h7, .inl (K 2, 4, .inl (fun _ => (-1)))), (h5, .inr (13, [.int (nI 1), .ref h6, .int (nI 1)])), (h6, .inl (K 4, 10, .inr (.inr (.inr (.inr (va_up (fun _ => none) 0 (some h7))))))), (h3, .inr (12, [.int (nI 2), .ref h4]))]) (fun _ => rfl) (fun u1 H locs hP hD hS => ?_)
  refine lv_istore (lv' := [(6, .int (nI 0)), (5, .int (nI 2)), (0, .ref b), (1, .ref h0), (2, .ref h3), (3, .ref a13), (4, .int (nI 0))]) hx hb dL_law_383 hl (by decide) rfl (fun ls hl => ?_)
  refine lv_aload_n hx hb dL_law_385 rfl (lv_at hl 4 rfl) ?_
  refine k_i (wr := [(h4, .inr (10, [.ref a9, .ref h5, .ref a10, .ref a11, .ref a12, .int (nI 0), .int (nI 0), .int (nI 60), .int (nI 0), .int (nI 2), .int (nI 0), .int (nI 0), .int (nI 0), .int (nI 0), .int (nI 0), .int (nI 0), .int (nI 0)])), (h7, .inl (K 2, 4, .inl (fun _ => (-1)))), (h5, .inr (13, [.int (nI 1), .ref h6, .int (nI 1)])), (h6, .inl (K 4, 10, .inr (.inr (.inr (.inr (va_up (fun _ => none) 0 (some h7)))))))]) (run_V (rest := []) hx hb hml hown hts hK hP hD hS hA hm (C1075_thrown l G D K H.size h3 (.ref h4)) [4] rfl rfl mok_yX12_thrown w_1300 w_1301 w_1302 (rcv hK hP 4 rfl rfl rfl) ⟨Nat.le_of_ble_eq_true rfl, Nat.le_of_ble_eq_true rfl⟩ rfl hl.1 rfl (Nat.le_of_ble_eq_true rfl) dL_law_386 ⟨(by dsimp only [room_1]; omega), (by dsimp only [room_1]; omega)⟩) hP hD hS hA [4] [0, 1, 2, 3] rfl rfl rfl (by decide) (w2 := fun u2 => [(h4, .inr (10, [.ref a9, .ref h5, .ref a10, .ref a11, .ref a12, .int (nI 0), .int (nI 0), .int (nI 60), .int (nI 0), .int (nI 2), .int (nI 0), .int (nI 0), .int (nI 0), .int (nI 0), .int (nI 0), .int (nI 0), .int (nI 0)])), (h7, .inl (K 2, 4, .inl (fun _ => (-1)))), (h5, .inr (13, [.int (nI 1), .ref h6, .int (nI 1)])), (h6, .inl (K 4, 10, .inr (.inr (.inr (.inr (va_up (fun _ => none) 0 (some h7))))))), (h3, .inr (12, [.int (nI 2), .ref h4]))]) (fun _ => rfl) (fun u2 H locs hP hD hS => ?_)
  refine lv_iload hx hb dL_law_389 (lv_at hl 1 rfl) ?_
  refine lv_icmp_eq (tgt := 396) hx hb dL_law_391 (by decide) (fun _ => ?_) (fun c9 => absurd (by decide +kernel) c9)
  refine lv_iload hx hb dL_law_396 (lv_at hl 1 rfl) ?_
  refine lv_if_ne (tgt := 413) hx hb dL_law_398 (by decide) (fun _ => ?_) (fun c9 => absurd c9 (by decide +kernel))
  refine lv_goto (tgt := 1762) hx hb dL_law_413 (by decide) ?_
  refine lv_iinc (v := nI 4) (lv' := [(4, .int (nI 4)), (6, .int (nI 0)), (5, .int (nI 2)), (0, .ref b), (1, .ref h0), (2, .ref h3), (3, .ref a13)]) hx hb dL_law_1762 hl (k := 6) rfl (by decide +kernel) (by decide) rfl (fun ls hl => ?_)
  refine lv_goto (tgt := 23) hx hb dL_law_1765 (by decide) ?_
  refine lv_iload hx hb dL_law_23 (lv_at hl 0 rfl) ?_
  refine lv_aload_n hx hb dL_law_25 rfl (lv_at hl 3 rfl) ?_
  refine va_slen hx hb hX hbl hbA hS dL_law_26 ?_
  refine w_toeq (show Int32.ofNat 4 = nI 4 from rfl) ?_
  refine lv_iconst (v := nI 4) hx hb dL_law_27 (by decide +kernel) ?_
  refine lv_isub hx hb dL_law_28 ?_
  refine w_toeq (show (nI 4) - (nI 4) = nI 0 by decide +kernel) ?_
  refine lv_icmp_gt (tgt := 1768) hx hb dL_law_29 (by decide) (fun _ => ?_) (fun c9 => absurd (by decide +kernel) c9)
  refine lv_iconst (v := nI 1) hx hb dL_law_1768 (by decide +kernel) ?_
  exact law_end hx hb hr hlk hS (by dsimp only; omega) (by dsimp only; omega) dL_law_1769
set_option maxHeartbeats 4000000 in
set_option maxRecDepth 100000 in
theorem LW139_get {p : Program} {e : Env} {s : State} {m : MethodId} {below : List Frame} {meth : Method} {c : Code} {l : Launch} {G : Nat → Nat} {D : va_G} {K : Nat → ClassId} {b : Nat} {xs : Nat → Int32} (hx : p.tables.exec = Jvm.exec) (hb : c.code = cL_law) (hr : meth.sig.returnType = some .boolean) (hlk : meth.locks = false) (hl0 : l.stackTraces = false) (hnc : Ncs s) (hml : c.maxLocals = 9) (hown : s.vm.findClass RL = some m.cls) (hts : ∀ w ∈ lw_gw, w.before #[Value.ref b] s = true) (hK : va_K D cl (tys K) s) (hm : Amb G (fun q : Nat => s.heap.size ≤ q) s s.heap) (hX : va_X b 4 xs s s.heap) (hbl : b < s.heap.size) {h0 h1 a0 a1 a2 a3 a4 a5 a6 a7 a8 a9 : Nat} (ya : Int32) (hya : ya < 0) (hx1 : xs 1 = ya) (yb : Int32) (hx2 : xs 2 = yb) (yc : Int32) (hx3 : xs 3 = yc) {H : Heap} {locs : List Loc} {cells slots : Nat} (hcs : cells ≤ 1000) (hss : slots ≤ 100000) (hP : va_P D cl [(h0, .inr (9, [.ref a0, .ref a1, .ref a2, .ref a3, .ref a4, .ref a5, .ref a6, .ref a7, .int (nI 0)])), (h1, .inr (12, [.int (nI 0), .ref a8]))] H) (hD : va_D (fun q : Nat => s.heap.size ≤ q) [(h0, .inr (9, [.ref a0, .ref a1, .ref a2, .ref a3, .ref a4, .ref a5, .ref a6, .ref a7, .int (nI 0)])), (h1, .inr (12, [.int (nI 0), .ref a8]))]) (hS : va_S (fun q : Nat => s.heap.size ≤ q) s.heap H locs) {ls : Array Slot} (hl : lv_has ls 9 [(0, .ref b), (1, .ref h0), (2, .ref h1), (3, .ref a9), (4, .int (nI 0))]) : W p l e room_1 s m #[Value.ref b] below meth c H locs cells slots (lw_Z below #[Value.ref b] s) (F0 m 416 ls []) := by
  have hA : ∀ q : Nat, s.heap.size ≤ q → (fun q : Nat => s.heap.size ≤ q) q := fun _ h => h
  have hbA : ¬ (fun q : Nat => s.heap.size ≤ q) b := Nat.not_le.mpr hbl
  refine lv_aload_n hx hb dL_law_416 rfl (lv_at hl 1 rfl) ?_
  refine lv_aload_n hx hb dL_law_417 rfl (lv_at hl 0 rfl) ?_
  refine lv_iload hx hb dL_law_418 (lv_at hl 4 rfl) ?_
  refine lv_iconst (v := nI 1) hx hb dL_law_420 (by decide +kernel) ?_
  refine lv_iadd hx hb dL_law_421 ?_
  refine w_toeq (show (nI 0) + (nI 1) = nI 1 by decide +kernel) ?_
  refine va_sld hx hb hX hbl hbA hS (vp_in_nI (n := 1) (by decide) (by decide)) dL_law_422 ?_
  refine w_toeq (show xs (nI 1).toNatClampNeg = ya by rw [nI_clamp (n := 1) (by decide)]; exact hx1) ?_
  refine lv_aload_n hx hb dL_law_423 rfl (lv_at hl 0 rfl) ?_
  refine lv_iload hx hb dL_law_424 (lv_at hl 4 rfl) ?_
  refine lv_iconst (v := nI 2) hx hb dL_law_426 (by decide +kernel) ?_
  refine lv_iadd hx hb dL_law_427 ?_
  refine w_toeq (show (nI 0) + (nI 2) = nI 2 by decide +kernel) ?_
  refine va_sld hx hb hX hbl hbA hS (vp_in_nI (n := 2) (by decide) (by decide)) dL_law_428 ?_
  refine w_toeq (show xs (nI 2).toNatClampNeg = yb by rw [nI_clamp (n := 2) (by decide)]; exact hx2) ?_
  refine lv_aload_n hx hb dL_law_429 rfl (lv_at hl 0 rfl) ?_
  refine lv_iload hx hb dL_law_430 (lv_at hl 4 rfl) ?_
  refine lv_iconst (v := nI 3) hx hb dL_law_432 (by decide +kernel) ?_
  refine lv_iadd hx hb dL_law_433 ?_
  refine w_toeq (show (nI 0) + (nI 3) = nI 3 by decide +kernel) ?_
  refine va_sld hx hb hX hbl hbA hS (vp_in_nI (n := 3) (by decide) (by decide)) dL_law_434 ?_
  refine w_toeq (show xs (nI 3).toNatClampNeg = yc by rw [nI_clamp (n := 3) (by decide)]; exact hx3) ?_
  refine lv_aload_n hx hb dL_law_435 rfl (lv_at hl 3 rfl) ?_
  refine k_i (wr := [(h1, .inr (12, [.int (nI 0), .ref a8]))]) (run_SW hnc (rest := []) hx hb hml hown hts hK hP hD hS hA hm (C1198_get l G D K hl0 H.size h0 a9 (.ref a0) (.ref a1) (.ref a2) (.ref a3) (.ref a4) (.ref a5) (.ref a6) (.ref a7) (.int (nI 0)) ya hya yb yc) [0] rfl rfl mokh_yL_get w_939 w_940 ⟨Nat.le_of_ble_eq_true rfl, Nat.le_of_ble_eq_true rfl⟩ rfl hl.1 rfl (Nat.le_of_ble_eq_true rfl) dL_law_436 ⟨(by dsimp only [room_1]; omega), (by dsimp only [room_1]; omega)⟩) hP hD hS hA [0] [1] rfl rfl rfl (by decide) (w2 := fun u0 => [(h1, .inr (12, [.int (nI 0), .ref a8])), (h0, .inr (9, [.ref a0, .ref a1, .ref a2, .ref a3, .ref a4, .ref a5, .ref a6, .ref a7, .int (nI 0)]))]) (fun _ => rfl) (fun u0 H locs hP hD hS => ?_)
  refine lv_istore (lv' := [(5, .int (nI 1)), (0, .ref b), (1, .ref h0), (2, .ref h1), (3, .ref a9), (4, .int (nI 0))]) hx hb dL_law_439 hl (by decide) rfl (fun ls hl => ?_)
  refine lv_aload_n hx hb dL_law_441 rfl (lv_at hl 3 rfl) ?_
  refine lv_aload_n hx hb dL_law_442 rfl (lv_at hl 1 rfl) ?_
  refine lv_iload hx hb dL_law_443 (lv_at hl 5 rfl) ?_
  refine lv_iconst (v := nI 1) hx hb dL_law_445 (by decide +kernel) ?_
  refine lv_iadd hx hb dL_law_446 ?_
  refine w_toeq (show (nI 0) + (nI 1) = nI 1 by decide +kernel) ?_
  refine va_sld hx hb hX hbl hbA hS (vp_in_nI (n := 1) (by decide) (by decide)) dL_law_447 ?_
  refine w_toeq (show xs (nI 1).toNatClampNeg = ya by rw [nI_clamp (n := 1) (by decide)]; exact hx1) ?_
  refine lv_aload_n hx hb dL_law_448 rfl (lv_at hl 1 rfl) ?_
  refine lv_iload hx hb dL_law_449 (lv_at hl 5 rfl) ?_
  refine lv_iconst (v := nI 2) hx hb dL_law_451 (by decide +kernel) ?_
  refine lv_iadd hx hb dL_law_452 ?_
  refine w_toeq (show (nI 0) + (nI 2) = nI 2 by decide +kernel) ?_
  refine va_sld hx hb hX hbl hbA hS (vp_in_nI (n := 2) (by decide) (by decide)) dL_law_453 ?_
  refine w_toeq (show xs (nI 2).toNatClampNeg = yb by rw [nI_clamp (n := 2) (by decide)]; exact hx2) ?_
  refine lv_aload_n hx hb dL_law_454 rfl (lv_at hl 1 rfl) ?_
  refine lv_iload hx hb dL_law_455 (lv_at hl 5 rfl) ?_
  refine lv_iconst (v := nI 3) hx hb dL_law_457 (by decide +kernel) ?_
  refine lv_iadd hx hb dL_law_458 ?_
  refine w_toeq (show (nI 0) + (nI 3) = nI 3 by decide +kernel) ?_
  refine va_sld hx hb hX hbl hbA hS (vp_in_nI (n := 3) (by decide) (by decide)) dL_law_459 ?_
  refine w_toeq (show xs (nI 3).toNatClampNeg = yc by rw [nI_clamp (n := 3) (by decide)]; exact hx3) ?_
  refine k_i (wr := [(h0, .inr (9, [.ref a0, .ref a1, .ref a2, .ref a3, .ref a4, .ref a5, .ref a6, .ref a7, .int (nI 0)]))]) (run_V (rest := []) hx hb hml hown hts hK hP hD hS hA hm (C624_get l G D K H.size h1 (.ref a8) ya hya yb yc) [0] rfl rfl mok_yX12_get w_1909 w_1910 w_1911 (rcv hK hP 0 rfl rfl rfl) ⟨Nat.le_of_ble_eq_true rfl, Nat.le_of_ble_eq_true rfl⟩ rfl hl.1 rfl (Nat.le_of_ble_eq_true rfl) dL_law_460 ⟨(by dsimp only [room_1]; omega), (by dsimp only [room_1]; omega)⟩) hP hD hS hA [0] [1] rfl rfl rfl (by decide) (w2 := fun u1 => [(h0, .inr (9, [.ref a0, .ref a1, .ref a2, .ref a3, .ref a4, .ref a5, .ref a6, .ref a7, .int (nI 0)])), (h1, .inr (12, [.int (nI 1), .ref a8]))]) (fun _ => rfl) (fun u1 H locs hP hD hS => ?_)
  refine lv_istore (lv' := [(6, .int (nI 0)), (5, .int (nI 1)), (0, .ref b), (1, .ref h0), (2, .ref h1), (3, .ref a9), (4, .int (nI 0))]) hx hb dL_law_463 hl (by decide) rfl (fun ls hl => ?_)
  refine lv_aload_n hx hb dL_law_465 rfl (lv_at hl 4 rfl) ?_
  refine k_i (wr := [(h0, .inr (9, [.ref a0, .ref a1, .ref a2, .ref a3, .ref a4, .ref a5, .ref a6, .ref a7, .int (nI 0)]))]) (run_V (rest := []) hx hb hml hown hts hK hP hD hS hA hm (C1059_thrown l G D K H.size h1 (.ref a8)) [1] rfl rfl mok_yX12_thrown w_1300 w_1301 w_1302 (rcv hK hP 1 rfl rfl rfl) ⟨Nat.le_of_ble_eq_true rfl, Nat.le_of_ble_eq_true rfl⟩ rfl hl.1 rfl (Nat.le_of_ble_eq_true rfl) dL_law_466 ⟨(by dsimp only [room_1]; omega), (by dsimp only [room_1]; omega)⟩) hP hD hS hA [1] [0] rfl rfl rfl (by decide) (w2 := fun u2 => [(h0, .inr (9, [.ref a0, .ref a1, .ref a2, .ref a3, .ref a4, .ref a5, .ref a6, .ref a7, .int (nI 0)])), (h1, .inr (12, [.int (nI 1), .ref a8]))]) (fun _ => rfl) (fun u2 H locs hP hD hS => ?_)
  refine lv_iload hx hb dL_law_469 (lv_at hl 1 rfl) ?_
  refine lv_icmp_eq (tgt := 476) hx hb dL_law_471 (by decide) (fun _ => ?_) (fun c9 => absurd (by decide +kernel) c9)
  refine lv_iload hx hb dL_law_476 (lv_at hl 1 rfl) ?_
  refine lv_if_ne (tgt := 493) hx hb dL_law_478 (by decide) (fun _ => ?_) (fun c9 => absurd c9 (by decide +kernel))
  refine lv_goto (tgt := 1762) hx hb dL_law_493 (by decide) ?_
  refine lv_iinc (v := nI 4) (lv' := [(4, .int (nI 4)), (6, .int (nI 0)), (5, .int (nI 1)), (0, .ref b), (1, .ref h0), (2, .ref h1), (3, .ref a9)]) hx hb dL_law_1762 hl (k := 6) rfl (by decide +kernel) (by decide) rfl (fun ls hl => ?_)
  refine lv_goto (tgt := 23) hx hb dL_law_1765 (by decide) ?_
  refine lv_iload hx hb dL_law_23 (lv_at hl 0 rfl) ?_
  refine lv_aload_n hx hb dL_law_25 rfl (lv_at hl 3 rfl) ?_
  refine va_slen hx hb hX hbl hbA hS dL_law_26 ?_
  refine w_toeq (show Int32.ofNat 4 = nI 4 from rfl) ?_
  refine lv_iconst (v := nI 4) hx hb dL_law_27 (by decide +kernel) ?_
  refine lv_isub hx hb dL_law_28 ?_
  refine w_toeq (show (nI 4) - (nI 4) = nI 0 by decide +kernel) ?_
  refine lv_icmp_gt (tgt := 1768) hx hb dL_law_29 (by decide) (fun _ => ?_) (fun c9 => absurd (by decide +kernel) c9)
  refine lv_iconst (v := nI 1) hx hb dL_law_1768 (by decide +kernel) ?_
  exact law_end hx hb hr hlk hS (by dsimp only; omega) (by dsimp only; omega) dL_law_1769
set_option maxHeartbeats 4000000 in
set_option maxRecDepth 100000 in
theorem LW140_get {p : Program} {e : Env} {s : State} {m : MethodId} {below : List Frame} {meth : Method} {c : Code} {l : Launch} {G : Nat → Nat} {D : va_G} {K : Nat → ClassId} {b : Nat} {xs : Nat → Int32} (hx : p.tables.exec = Jvm.exec) (hb : c.code = cL_law) (hr : meth.sig.returnType = some .boolean) (hlk : meth.locks = false) (hl0 : l.stackTraces = false) (hnc : Ncs s) (hml : c.maxLocals = 9) (hown : s.vm.findClass RL = some m.cls) (hts : ∀ w ∈ lw_gw, w.before #[Value.ref b] s = true) (hK : va_K D cl (tys K) s) (hm : Amb G (fun q : Nat => s.heap.size ≤ q) s s.heap) (hX : va_X b 4 xs s s.heap) (hbl : b < s.heap.size) {h0 h1 a0 a1 a2 a3 a4 a5 a6 a7 a8 a9 : Nat} (ya : Nat) (lya : 4 ≤ ya) (gya : ya ≤ 2147483647) (hx1 : xs 1 = nI ya) (yb : Int32) (hx2 : xs 2 = yb) (yc : Int32) (hx3 : xs 3 = yc) {H : Heap} {locs : List Loc} {cells slots : Nat} (hcs : cells ≤ 1000) (hss : slots ≤ 100000) (hP : va_P D cl [(h0, .inr (9, [.ref a0, .ref a1, .ref a2, .ref a3, .ref a4, .ref a5, .ref a6, .ref a7, .int (nI 0)])), (h1, .inr (12, [.int (nI 0), .ref a8]))] H) (hD : va_D (fun q : Nat => s.heap.size ≤ q) [(h0, .inr (9, [.ref a0, .ref a1, .ref a2, .ref a3, .ref a4, .ref a5, .ref a6, .ref a7, .int (nI 0)])), (h1, .inr (12, [.int (nI 0), .ref a8]))]) (hS : va_S (fun q : Nat => s.heap.size ≤ q) s.heap H locs) {ls : Array Slot} (hl : lv_has ls 9 [(0, .ref b), (1, .ref h0), (2, .ref h1), (3, .ref a9), (4, .int (nI 0))]) : W p l e room_1 s m #[Value.ref b] below meth c H locs cells slots (lw_Z below #[Value.ref b] s) (F0 m 416 ls []) := by
  have hA : ∀ q : Nat, s.heap.size ≤ q → (fun q : Nat => s.heap.size ≤ q) q := fun _ h => h
  have hbA : ¬ (fun q : Nat => s.heap.size ≤ q) b := Nat.not_le.mpr hbl
  refine lv_aload_n hx hb dL_law_416 rfl (lv_at hl 1 rfl) ?_
  refine lv_aload_n hx hb dL_law_417 rfl (lv_at hl 0 rfl) ?_
  refine lv_iload hx hb dL_law_418 (lv_at hl 4 rfl) ?_
  refine lv_iconst (v := nI 1) hx hb dL_law_420 (by decide +kernel) ?_
  refine lv_iadd hx hb dL_law_421 ?_
  refine w_toeq (show (nI 0) + (nI 1) = nI 1 by decide +kernel) ?_
  refine va_sld hx hb hX hbl hbA hS (vp_in_nI (n := 1) (by decide) (by decide)) dL_law_422 ?_
  refine w_toeq (show xs (nI 1).toNatClampNeg = nI ya by rw [nI_clamp (n := 1) (by decide)]; exact hx1) ?_
  refine lv_aload_n hx hb dL_law_423 rfl (lv_at hl 0 rfl) ?_
  refine lv_iload hx hb dL_law_424 (lv_at hl 4 rfl) ?_
  refine lv_iconst (v := nI 2) hx hb dL_law_426 (by decide +kernel) ?_
  refine lv_iadd hx hb dL_law_427 ?_
  refine w_toeq (show (nI 0) + (nI 2) = nI 2 by decide +kernel) ?_
  refine va_sld hx hb hX hbl hbA hS (vp_in_nI (n := 2) (by decide) (by decide)) dL_law_428 ?_
  refine w_toeq (show xs (nI 2).toNatClampNeg = yb by rw [nI_clamp (n := 2) (by decide)]; exact hx2) ?_
  refine lv_aload_n hx hb dL_law_429 rfl (lv_at hl 0 rfl) ?_
  refine lv_iload hx hb dL_law_430 (lv_at hl 4 rfl) ?_
  refine lv_iconst (v := nI 3) hx hb dL_law_432 (by decide +kernel) ?_
  refine lv_iadd hx hb dL_law_433 ?_
  refine w_toeq (show (nI 0) + (nI 3) = nI 3 by decide +kernel) ?_
  refine va_sld hx hb hX hbl hbA hS (vp_in_nI (n := 3) (by decide) (by decide)) dL_law_434 ?_
  refine w_toeq (show xs (nI 3).toNatClampNeg = yc by rw [nI_clamp (n := 3) (by decide)]; exact hx3) ?_
  refine lv_aload_n hx hb dL_law_435 rfl (lv_at hl 3 rfl) ?_
  refine k_i (wr := [(h1, .inr (12, [.int (nI 0), .ref a8]))]) (run_SW hnc (rest := []) hx hb hml hown hts hK hP hD hS hA hm (C1199_get l G D K hl0 H.size h0 a9 (.ref a0) (.ref a1) (.ref a2) (.ref a3) (.ref a4) (.ref a5) (.ref a6) (.ref a7) (.int (nI 0)) ya (by omega) (by omega) yb yc) [0] rfl rfl mokh_yL_get w_939 w_940 ⟨Nat.le_of_ble_eq_true rfl, Nat.le_of_ble_eq_true rfl⟩ rfl hl.1 rfl (Nat.le_of_ble_eq_true rfl) dL_law_436 ⟨(by dsimp only [room_1]; omega), (by dsimp only [room_1]; omega)⟩) hP hD hS hA [0] [1] rfl rfl rfl (by decide) (w2 := fun u0 => [(h1, .inr (12, [.int (nI 0), .ref a8])), (h0, .inr (9, [.ref a0, .ref a1, .ref a2, .ref a3, .ref a4, .ref a5, .ref a6, .ref a7, .int (nI 0)]))]) (fun _ => rfl) (fun u0 H locs hP hD hS => ?_)
  refine lv_istore (lv' := [(5, .int (nI 1)), (0, .ref b), (1, .ref h0), (2, .ref h1), (3, .ref a9), (4, .int (nI 0))]) hx hb dL_law_439 hl (by decide) rfl (fun ls hl => ?_)
  refine lv_aload_n hx hb dL_law_441 rfl (lv_at hl 3 rfl) ?_
  refine lv_aload_n hx hb dL_law_442 rfl (lv_at hl 1 rfl) ?_
  refine lv_iload hx hb dL_law_443 (lv_at hl 5 rfl) ?_
  refine lv_iconst (v := nI 1) hx hb dL_law_445 (by decide +kernel) ?_
  refine lv_iadd hx hb dL_law_446 ?_
  refine w_toeq (show (nI 0) + (nI 1) = nI 1 by decide +kernel) ?_
  refine va_sld hx hb hX hbl hbA hS (vp_in_nI (n := 1) (by decide) (by decide)) dL_law_447 ?_
  refine w_toeq (show xs (nI 1).toNatClampNeg = nI ya by rw [nI_clamp (n := 1) (by decide)]; exact hx1) ?_
  refine lv_aload_n hx hb dL_law_448 rfl (lv_at hl 1 rfl) ?_
  refine lv_iload hx hb dL_law_449 (lv_at hl 5 rfl) ?_
  refine lv_iconst (v := nI 2) hx hb dL_law_451 (by decide +kernel) ?_
  refine lv_iadd hx hb dL_law_452 ?_
  refine w_toeq (show (nI 0) + (nI 2) = nI 2 by decide +kernel) ?_
  refine va_sld hx hb hX hbl hbA hS (vp_in_nI (n := 2) (by decide) (by decide)) dL_law_453 ?_
  refine w_toeq (show xs (nI 2).toNatClampNeg = yb by rw [nI_clamp (n := 2) (by decide)]; exact hx2) ?_
  refine lv_aload_n hx hb dL_law_454 rfl (lv_at hl 1 rfl) ?_
  refine lv_iload hx hb dL_law_455 (lv_at hl 5 rfl) ?_
  refine lv_iconst (v := nI 3) hx hb dL_law_457 (by decide +kernel) ?_
  refine lv_iadd hx hb dL_law_458 ?_
  refine w_toeq (show (nI 0) + (nI 3) = nI 3 by decide +kernel) ?_
  refine va_sld hx hb hX hbl hbA hS (vp_in_nI (n := 3) (by decide) (by decide)) dL_law_459 ?_
  refine w_toeq (show xs (nI 3).toNatClampNeg = yc by rw [nI_clamp (n := 3) (by decide)]; exact hx3) ?_
  refine k_i (wr := [(h0, .inr (9, [.ref a0, .ref a1, .ref a2, .ref a3, .ref a4, .ref a5, .ref a6, .ref a7, .int (nI 0)]))]) (run_V (rest := []) hx hb hml hown hts hK hP hD hS hA hm (C626_get l G D K H.size h1 (.ref a8) ya (by omega) (by omega) yb yc) [0] rfl rfl mok_yX12_get w_1909 w_1910 w_1911 (rcv hK hP 0 rfl rfl rfl) ⟨Nat.le_of_ble_eq_true rfl, Nat.le_of_ble_eq_true rfl⟩ rfl hl.1 rfl (Nat.le_of_ble_eq_true rfl) dL_law_460 ⟨(by dsimp only [room_1]; omega), (by dsimp only [room_1]; omega)⟩) hP hD hS hA [0] [1] rfl rfl rfl (by decide) (w2 := fun u1 => [(h0, .inr (9, [.ref a0, .ref a1, .ref a2, .ref a3, .ref a4, .ref a5, .ref a6, .ref a7, .int (nI 0)])), (h1, .inr (12, [.int (nI 1), .ref a8]))]) (fun _ => rfl) (fun u1 H locs hP hD hS => ?_)
  refine lv_istore (lv' := [(6, .int (nI 0)), (5, .int (nI 1)), (0, .ref b), (1, .ref h0), (2, .ref h1), (3, .ref a9), (4, .int (nI 0))]) hx hb dL_law_463 hl (by decide) rfl (fun ls hl => ?_)
  refine lv_aload_n hx hb dL_law_465 rfl (lv_at hl 4 rfl) ?_
  refine k_i (wr := [(h0, .inr (9, [.ref a0, .ref a1, .ref a2, .ref a3, .ref a4, .ref a5, .ref a6, .ref a7, .int (nI 0)]))]) (run_V (rest := []) hx hb hml hown hts hK hP hD hS hA hm (C1059_thrown l G D K H.size h1 (.ref a8)) [1] rfl rfl mok_yX12_thrown w_1300 w_1301 w_1302 (rcv hK hP 1 rfl rfl rfl) ⟨Nat.le_of_ble_eq_true rfl, Nat.le_of_ble_eq_true rfl⟩ rfl hl.1 rfl (Nat.le_of_ble_eq_true rfl) dL_law_466 ⟨(by dsimp only [room_1]; omega), (by dsimp only [room_1]; omega)⟩) hP hD hS hA [1] [0] rfl rfl rfl (by decide) (w2 := fun u2 => [(h0, .inr (9, [.ref a0, .ref a1, .ref a2, .ref a3, .ref a4, .ref a5, .ref a6, .ref a7, .int (nI 0)])), (h1, .inr (12, [.int (nI 1), .ref a8]))]) (fun _ => rfl) (fun u2 H locs hP hD hS => ?_)
  refine lv_iload hx hb dL_law_469 (lv_at hl 1 rfl) ?_
  refine lv_icmp_eq (tgt := 476) hx hb dL_law_471 (by decide) (fun _ => ?_) (fun c9 => absurd (by decide +kernel) c9)
  refine lv_iload hx hb dL_law_476 (lv_at hl 1 rfl) ?_
  refine lv_if_ne (tgt := 493) hx hb dL_law_478 (by decide) (fun _ => ?_) (fun c9 => absurd c9 (by decide +kernel))
  refine lv_goto (tgt := 1762) hx hb dL_law_493 (by decide) ?_
  refine lv_iinc (v := nI 4) (lv' := [(4, .int (nI 4)), (6, .int (nI 0)), (5, .int (nI 1)), (0, .ref b), (1, .ref h0), (2, .ref h1), (3, .ref a9)]) hx hb dL_law_1762 hl (k := 6) rfl (by decide +kernel) (by decide) rfl (fun ls hl => ?_)
  refine lv_goto (tgt := 23) hx hb dL_law_1765 (by decide) ?_
  refine lv_iload hx hb dL_law_23 (lv_at hl 0 rfl) ?_
  refine lv_aload_n hx hb dL_law_25 rfl (lv_at hl 3 rfl) ?_
  refine va_slen hx hb hX hbl hbA hS dL_law_26 ?_
  refine w_toeq (show Int32.ofNat 4 = nI 4 from rfl) ?_
  refine lv_iconst (v := nI 4) hx hb dL_law_27 (by decide +kernel) ?_
  refine lv_isub hx hb dL_law_28 ?_
  refine w_toeq (show (nI 4) - (nI 4) = nI 0 by decide +kernel) ?_
  refine lv_icmp_gt (tgt := 1768) hx hb dL_law_29 (by decide) (fun _ => ?_) (fun c9 => absurd (by decide +kernel) c9)
  refine lv_iconst (v := nI 1) hx hb dL_law_1768 (by decide +kernel) ?_
  exact law_end hx hb hr hlk hS (by dsimp only; omega) (by dsimp only; omega) dL_law_1769
set_option maxHeartbeats 4000000 in
set_option maxRecDepth 100000 in
theorem LW141_get {p : Program} {e : Env} {s : State} {m : MethodId} {below : List Frame} {meth : Method} {c : Code} {l : Launch} {G : Nat → Nat} {D : va_G} {K : Nat → ClassId} {b : Nat} {xs : Nat → Int32} (hx : p.tables.exec = Jvm.exec) (hb : c.code = cL_law) (hr : meth.sig.returnType = some .boolean) (hlk : meth.locks = false) (hl0 : l.stackTraces = false) (hnc : Ncs s) (hml : c.maxLocals = 9) (hown : s.vm.findClass RL = some m.cls) (hts : ∀ w ∈ lw_gw, w.before #[Value.ref b] s = true) (hK : va_K D cl (tys K) s) (hm : Amb G (fun q : Nat => s.heap.size ≤ q) s s.heap) (hX : va_X b 4 xs s s.heap) (hbl : b < s.heap.size) {h0 h1 a0 a1 a2 a3 a4 a5 a6 a7 a8 a9 : Nat} (ya : Nat) (lya : 0 ≤ ya) (gya : ya ≤ 3) (hx1 : xs 1 = nI ya) (yb : Int32) (hx2 : xs 2 = yb) (yc : Int32) (hyc : yc < 0) (hx3 : xs 3 = yc) {H : Heap} {locs : List Loc} {cells slots : Nat} (hcs : cells ≤ 1000) (hss : slots ≤ 100000) (hP : va_P D cl [(h0, .inr (9, [.ref a0, .ref a1, .ref a2, .ref a3, .ref a4, .ref a5, .ref a6, .ref a7, .int (nI 0)])), (h1, .inr (12, [.int (nI 0), .ref a8]))] H) (hD : va_D (fun q : Nat => s.heap.size ≤ q) [(h0, .inr (9, [.ref a0, .ref a1, .ref a2, .ref a3, .ref a4, .ref a5, .ref a6, .ref a7, .int (nI 0)])), (h1, .inr (12, [.int (nI 0), .ref a8]))]) (hS : va_S (fun q : Nat => s.heap.size ≤ q) s.heap H locs) {ls : Array Slot} (hl : lv_has ls 9 [(0, .ref b), (1, .ref h0), (2, .ref h1), (3, .ref a9), (4, .int (nI 0))]) : W p l e room_1 s m #[Value.ref b] below meth c H locs cells slots (lw_Z below #[Value.ref b] s) (F0 m 416 ls []) := by
  have hA : ∀ q : Nat, s.heap.size ≤ q → (fun q : Nat => s.heap.size ≤ q) q := fun _ h => h
  have hbA : ¬ (fun q : Nat => s.heap.size ≤ q) b := Nat.not_le.mpr hbl
  refine lv_aload_n hx hb dL_law_416 rfl (lv_at hl 1 rfl) ?_
  refine lv_aload_n hx hb dL_law_417 rfl (lv_at hl 0 rfl) ?_
  refine lv_iload hx hb dL_law_418 (lv_at hl 4 rfl) ?_
  refine lv_iconst (v := nI 1) hx hb dL_law_420 (by decide +kernel) ?_
  refine lv_iadd hx hb dL_law_421 ?_
  refine w_toeq (show (nI 0) + (nI 1) = nI 1 by decide +kernel) ?_
  refine va_sld hx hb hX hbl hbA hS (vp_in_nI (n := 1) (by decide) (by decide)) dL_law_422 ?_
  refine w_toeq (show xs (nI 1).toNatClampNeg = nI ya by rw [nI_clamp (n := 1) (by decide)]; exact hx1) ?_
  refine lv_aload_n hx hb dL_law_423 rfl (lv_at hl 0 rfl) ?_
  refine lv_iload hx hb dL_law_424 (lv_at hl 4 rfl) ?_
  refine lv_iconst (v := nI 2) hx hb dL_law_426 (by decide +kernel) ?_
  refine lv_iadd hx hb dL_law_427 ?_
  refine w_toeq (show (nI 0) + (nI 2) = nI 2 by decide +kernel) ?_
  refine va_sld hx hb hX hbl hbA hS (vp_in_nI (n := 2) (by decide) (by decide)) dL_law_428 ?_
  refine w_toeq (show xs (nI 2).toNatClampNeg = yb by rw [nI_clamp (n := 2) (by decide)]; exact hx2) ?_
  refine lv_aload_n hx hb dL_law_429 rfl (lv_at hl 0 rfl) ?_
  refine lv_iload hx hb dL_law_430 (lv_at hl 4 rfl) ?_
  refine lv_iconst (v := nI 3) hx hb dL_law_432 (by decide +kernel) ?_
  refine lv_iadd hx hb dL_law_433 ?_
  refine w_toeq (show (nI 0) + (nI 3) = nI 3 by decide +kernel) ?_
  refine va_sld hx hb hX hbl hbA hS (vp_in_nI (n := 3) (by decide) (by decide)) dL_law_434 ?_
  refine w_toeq (show xs (nI 3).toNatClampNeg = yc by rw [nI_clamp (n := 3) (by decide)]; exact hx3) ?_
  refine lv_aload_n hx hb dL_law_435 rfl (lv_at hl 3 rfl) ?_
  refine k_i (wr := [(h1, .inr (12, [.int (nI 0), .ref a8]))]) (run_SW hnc (rest := []) hx hb hml hown hts hK hP hD hS hA hm (C1200_get l G D K hl0 H.size h0 a9 (.ref a0) (.ref a1) (.ref a2) (.ref a3) (.ref a4) (.ref a5) (.ref a6) (.ref a7) (.int (nI 0)) ya (by omega) (by omega) yc hyc yb) [0] rfl rfl mokh_yL_get w_939 w_940 ⟨Nat.le_of_ble_eq_true rfl, Nat.le_of_ble_eq_true rfl⟩ rfl hl.1 rfl (Nat.le_of_ble_eq_true rfl) dL_law_436 ⟨(by dsimp only [room_1]; omega), (by dsimp only [room_1]; omega)⟩) hP hD hS hA [0] [1] rfl rfl rfl (by decide) (w2 := fun u0 => [(h1, .inr (12, [.int (nI 0), .ref a8])), (h0, .inr (9, [.ref a0, .ref a1, .ref a2, .ref a3, .ref a4, .ref a5, .ref a6, .ref a7, .int (nI 0)]))]) (fun _ => rfl) (fun u0 H locs hP hD hS => ?_)
  refine lv_istore (lv' := [(5, .int (nI 1)), (0, .ref b), (1, .ref h0), (2, .ref h1), (3, .ref a9), (4, .int (nI 0))]) hx hb dL_law_439 hl (by decide) rfl (fun ls hl => ?_)
  refine lv_aload_n hx hb dL_law_441 rfl (lv_at hl 3 rfl) ?_
  refine lv_aload_n hx hb dL_law_442 rfl (lv_at hl 1 rfl) ?_
  refine lv_iload hx hb dL_law_443 (lv_at hl 5 rfl) ?_
  refine lv_iconst (v := nI 1) hx hb dL_law_445 (by decide +kernel) ?_
  refine lv_iadd hx hb dL_law_446 ?_
  refine w_toeq (show (nI 0) + (nI 1) = nI 1 by decide +kernel) ?_
  refine va_sld hx hb hX hbl hbA hS (vp_in_nI (n := 1) (by decide) (by decide)) dL_law_447 ?_
  refine w_toeq (show xs (nI 1).toNatClampNeg = nI ya by rw [nI_clamp (n := 1) (by decide)]; exact hx1) ?_
  refine lv_aload_n hx hb dL_law_448 rfl (lv_at hl 1 rfl) ?_
  refine lv_iload hx hb dL_law_449 (lv_at hl 5 rfl) ?_
  refine lv_iconst (v := nI 2) hx hb dL_law_451 (by decide +kernel) ?_
  refine lv_iadd hx hb dL_law_452 ?_
  refine w_toeq (show (nI 0) + (nI 2) = nI 2 by decide +kernel) ?_
  refine va_sld hx hb hX hbl hbA hS (vp_in_nI (n := 2) (by decide) (by decide)) dL_law_453 ?_
  refine w_toeq (show xs (nI 2).toNatClampNeg = yb by rw [nI_clamp (n := 2) (by decide)]; exact hx2) ?_
  refine lv_aload_n hx hb dL_law_454 rfl (lv_at hl 1 rfl) ?_
  refine lv_iload hx hb dL_law_455 (lv_at hl 5 rfl) ?_
  refine lv_iconst (v := nI 3) hx hb dL_law_457 (by decide +kernel) ?_
  refine lv_iadd hx hb dL_law_458 ?_
  refine w_toeq (show (nI 0) + (nI 3) = nI 3 by decide +kernel) ?_
  refine va_sld hx hb hX hbl hbA hS (vp_in_nI (n := 3) (by decide) (by decide)) dL_law_459 ?_
  refine w_toeq (show xs (nI 3).toNatClampNeg = yc by rw [nI_clamp (n := 3) (by decide)]; exact hx3) ?_
  refine k_i (wr := [(h0, .inr (9, [.ref a0, .ref a1, .ref a2, .ref a3, .ref a4, .ref a5, .ref a6, .ref a7, .int (nI 0)]))]) (run_V (rest := []) hx hb hml hown hts hK hP hD hS hA hm (C628_get l G D K H.size h1 (.ref a8) ya (by omega) (by omega) yc hyc yb) [0] rfl rfl mok_yX12_get w_1909 w_1910 w_1911 (rcv hK hP 0 rfl rfl rfl) ⟨Nat.le_of_ble_eq_true rfl, Nat.le_of_ble_eq_true rfl⟩ rfl hl.1 rfl (Nat.le_of_ble_eq_true rfl) dL_law_460 ⟨(by dsimp only [room_1]; omega), (by dsimp only [room_1]; omega)⟩) hP hD hS hA [0] [1] rfl rfl rfl (by decide) (w2 := fun u1 => [(h0, .inr (9, [.ref a0, .ref a1, .ref a2, .ref a3, .ref a4, .ref a5, .ref a6, .ref a7, .int (nI 0)])), (h1, .inr (12, [.int (nI 1), .ref a8]))]) (fun _ => rfl) (fun u1 H locs hP hD hS => ?_)
  refine lv_istore (lv' := [(6, .int (nI 0)), (5, .int (nI 1)), (0, .ref b), (1, .ref h0), (2, .ref h1), (3, .ref a9), (4, .int (nI 0))]) hx hb dL_law_463 hl (by decide) rfl (fun ls hl => ?_)
  refine lv_aload_n hx hb dL_law_465 rfl (lv_at hl 4 rfl) ?_
  refine k_i (wr := [(h0, .inr (9, [.ref a0, .ref a1, .ref a2, .ref a3, .ref a4, .ref a5, .ref a6, .ref a7, .int (nI 0)]))]) (run_V (rest := []) hx hb hml hown hts hK hP hD hS hA hm (C1059_thrown l G D K H.size h1 (.ref a8)) [1] rfl rfl mok_yX12_thrown w_1300 w_1301 w_1302 (rcv hK hP 1 rfl rfl rfl) ⟨Nat.le_of_ble_eq_true rfl, Nat.le_of_ble_eq_true rfl⟩ rfl hl.1 rfl (Nat.le_of_ble_eq_true rfl) dL_law_466 ⟨(by dsimp only [room_1]; omega), (by dsimp only [room_1]; omega)⟩) hP hD hS hA [1] [0] rfl rfl rfl (by decide) (w2 := fun u2 => [(h0, .inr (9, [.ref a0, .ref a1, .ref a2, .ref a3, .ref a4, .ref a5, .ref a6, .ref a7, .int (nI 0)])), (h1, .inr (12, [.int (nI 1), .ref a8]))]) (fun _ => rfl) (fun u2 H locs hP hD hS => ?_)
  refine lv_iload hx hb dL_law_469 (lv_at hl 1 rfl) ?_
  refine lv_icmp_eq (tgt := 476) hx hb dL_law_471 (by decide) (fun _ => ?_) (fun c9 => absurd (by decide +kernel) c9)
  refine lv_iload hx hb dL_law_476 (lv_at hl 1 rfl) ?_
  refine lv_if_ne (tgt := 493) hx hb dL_law_478 (by decide) (fun _ => ?_) (fun c9 => absurd c9 (by decide +kernel))
  refine lv_goto (tgt := 1762) hx hb dL_law_493 (by decide) ?_
  refine lv_iinc (v := nI 4) (lv' := [(4, .int (nI 4)), (6, .int (nI 0)), (5, .int (nI 1)), (0, .ref b), (1, .ref h0), (2, .ref h1), (3, .ref a9)]) hx hb dL_law_1762 hl (k := 6) rfl (by decide +kernel) (by decide) rfl (fun ls hl => ?_)
  refine lv_goto (tgt := 23) hx hb dL_law_1765 (by decide) ?_
  refine lv_iload hx hb dL_law_23 (lv_at hl 0 rfl) ?_
  refine lv_aload_n hx hb dL_law_25 rfl (lv_at hl 3 rfl) ?_
  refine va_slen hx hb hX hbl hbA hS dL_law_26 ?_
  refine w_toeq (show Int32.ofNat 4 = nI 4 from rfl) ?_
  refine lv_iconst (v := nI 4) hx hb dL_law_27 (by decide +kernel) ?_
  refine lv_isub hx hb dL_law_28 ?_
  refine w_toeq (show (nI 4) - (nI 4) = nI 0 by decide +kernel) ?_
  refine lv_icmp_gt (tgt := 1768) hx hb dL_law_29 (by decide) (fun _ => ?_) (fun c9 => absurd (by decide +kernel) c9)
  refine lv_iconst (v := nI 1) hx hb dL_law_1768 (by decide +kernel) ?_
  exact law_end hx hb hr hlk hS (by dsimp only; omega) (by dsimp only; omega) dL_law_1769
set_option maxHeartbeats 4000000 in
set_option maxRecDepth 100000 in
theorem LW142_get {p : Program} {e : Env} {s : State} {m : MethodId} {below : List Frame} {meth : Method} {c : Code} {l : Launch} {G : Nat → Nat} {D : va_G} {K : Nat → ClassId} {b : Nat} {xs : Nat → Int32} (hx : p.tables.exec = Jvm.exec) (hb : c.code = cL_law) (hr : meth.sig.returnType = some .boolean) (hlk : meth.locks = false) (hl0 : l.stackTraces = false) (hnc : Ncs s) (hml : c.maxLocals = 9) (hown : s.vm.findClass RL = some m.cls) (hts : ∀ w ∈ lw_gw, w.before #[Value.ref b] s = true) (hK : va_K D cl (tys K) s) (hm : Amb G (fun q : Nat => s.heap.size ≤ q) s s.heap) (hX : va_X b 4 xs s s.heap) (hbl : b < s.heap.size) {h0 h1 a0 a1 a2 a3 a4 a5 a6 a7 a8 a9 : Nat} (ya : Nat) (lya : 0 ≤ ya) (gya : ya ≤ 3) (hx1 : xs 1 = nI ya) (yb : Int32) (hx2 : xs 2 = yb) (yc : Nat) (lyc : 4 ≤ yc) (gyc : yc ≤ 2147483647) (hx3 : xs 3 = nI yc) {H : Heap} {locs : List Loc} {cells slots : Nat} (hcs : cells ≤ 1000) (hss : slots ≤ 100000) (hP : va_P D cl [(h0, .inr (9, [.ref a0, .ref a1, .ref a2, .ref a3, .ref a4, .ref a5, .ref a6, .ref a7, .int (nI 0)])), (h1, .inr (12, [.int (nI 0), .ref a8]))] H) (hD : va_D (fun q : Nat => s.heap.size ≤ q) [(h0, .inr (9, [.ref a0, .ref a1, .ref a2, .ref a3, .ref a4, .ref a5, .ref a6, .ref a7, .int (nI 0)])), (h1, .inr (12, [.int (nI 0), .ref a8]))]) (hS : va_S (fun q : Nat => s.heap.size ≤ q) s.heap H locs) {ls : Array Slot} (hl : lv_has ls 9 [(0, .ref b), (1, .ref h0), (2, .ref h1), (3, .ref a9), (4, .int (nI 0))]) : W p l e room_1 s m #[Value.ref b] below meth c H locs cells slots (lw_Z below #[Value.ref b] s) (F0 m 416 ls []) := by
  have hA : ∀ q : Nat, s.heap.size ≤ q → (fun q : Nat => s.heap.size ≤ q) q := fun _ h => h
  have hbA : ¬ (fun q : Nat => s.heap.size ≤ q) b := Nat.not_le.mpr hbl
  refine lv_aload_n hx hb dL_law_416 rfl (lv_at hl 1 rfl) ?_
  refine lv_aload_n hx hb dL_law_417 rfl (lv_at hl 0 rfl) ?_
  refine lv_iload hx hb dL_law_418 (lv_at hl 4 rfl) ?_
  refine lv_iconst (v := nI 1) hx hb dL_law_420 (by decide +kernel) ?_
  refine lv_iadd hx hb dL_law_421 ?_
  refine w_toeq (show (nI 0) + (nI 1) = nI 1 by decide +kernel) ?_
  refine va_sld hx hb hX hbl hbA hS (vp_in_nI (n := 1) (by decide) (by decide)) dL_law_422 ?_
  refine w_toeq (show xs (nI 1).toNatClampNeg = nI ya by rw [nI_clamp (n := 1) (by decide)]; exact hx1) ?_
  refine lv_aload_n hx hb dL_law_423 rfl (lv_at hl 0 rfl) ?_
  refine lv_iload hx hb dL_law_424 (lv_at hl 4 rfl) ?_
  refine lv_iconst (v := nI 2) hx hb dL_law_426 (by decide +kernel) ?_
  refine lv_iadd hx hb dL_law_427 ?_
  refine w_toeq (show (nI 0) + (nI 2) = nI 2 by decide +kernel) ?_
  refine va_sld hx hb hX hbl hbA hS (vp_in_nI (n := 2) (by decide) (by decide)) dL_law_428 ?_
  refine w_toeq (show xs (nI 2).toNatClampNeg = yb by rw [nI_clamp (n := 2) (by decide)]; exact hx2) ?_
  refine lv_aload_n hx hb dL_law_429 rfl (lv_at hl 0 rfl) ?_
  refine lv_iload hx hb dL_law_430 (lv_at hl 4 rfl) ?_
  refine lv_iconst (v := nI 3) hx hb dL_law_432 (by decide +kernel) ?_
  refine lv_iadd hx hb dL_law_433 ?_
  refine w_toeq (show (nI 0) + (nI 3) = nI 3 by decide +kernel) ?_
  refine va_sld hx hb hX hbl hbA hS (vp_in_nI (n := 3) (by decide) (by decide)) dL_law_434 ?_
  refine w_toeq (show xs (nI 3).toNatClampNeg = nI yc by rw [nI_clamp (n := 3) (by decide)]; exact hx3) ?_
  refine lv_aload_n hx hb dL_law_435 rfl (lv_at hl 3 rfl) ?_
  refine k_i (wr := [(h1, .inr (12, [.int (nI 0), .ref a8]))]) (run_SW hnc (rest := []) hx hb hml hown hts hK hP hD hS hA hm (C1201_get l G D K hl0 H.size h0 a9 (.ref a0) (.ref a1) (.ref a2) (.ref a3) (.ref a4) (.ref a5) (.ref a6) (.ref a7) (.int (nI 0)) ya (by omega) (by omega) yc (by omega) (by omega) yb) [0] rfl rfl mokh_yL_get w_939 w_940 ⟨Nat.le_of_ble_eq_true rfl, Nat.le_of_ble_eq_true rfl⟩ rfl hl.1 rfl (Nat.le_of_ble_eq_true rfl) dL_law_436 ⟨(by dsimp only [room_1]; omega), (by dsimp only [room_1]; omega)⟩) hP hD hS hA [0] [1] rfl rfl rfl (by decide) (w2 := fun u0 => [(h1, .inr (12, [.int (nI 0), .ref a8])), (h0, .inr (9, [.ref a0, .ref a1, .ref a2, .ref a3, .ref a4, .ref a5, .ref a6, .ref a7, .int (nI 0)]))]) (fun _ => rfl) (fun u0 H locs hP hD hS => ?_)
  refine lv_istore (lv' := [(5, .int (nI 1)), (0, .ref b), (1, .ref h0), (2, .ref h1), (3, .ref a9), (4, .int (nI 0))]) hx hb dL_law_439 hl (by decide) rfl (fun ls hl => ?_)
  refine lv_aload_n hx hb dL_law_441 rfl (lv_at hl 3 rfl) ?_
  refine lv_aload_n hx hb dL_law_442 rfl (lv_at hl 1 rfl) ?_
  refine lv_iload hx hb dL_law_443 (lv_at hl 5 rfl) ?_
  refine lv_iconst (v := nI 1) hx hb dL_law_445 (by decide +kernel) ?_
  refine lv_iadd hx hb dL_law_446 ?_
  refine w_toeq (show (nI 0) + (nI 1) = nI 1 by decide +kernel) ?_
  refine va_sld hx hb hX hbl hbA hS (vp_in_nI (n := 1) (by decide) (by decide)) dL_law_447 ?_
  refine w_toeq (show xs (nI 1).toNatClampNeg = nI ya by rw [nI_clamp (n := 1) (by decide)]; exact hx1) ?_
  refine lv_aload_n hx hb dL_law_448 rfl (lv_at hl 1 rfl) ?_
  refine lv_iload hx hb dL_law_449 (lv_at hl 5 rfl) ?_
  refine lv_iconst (v := nI 2) hx hb dL_law_451 (by decide +kernel) ?_
  refine lv_iadd hx hb dL_law_452 ?_
  refine w_toeq (show (nI 0) + (nI 2) = nI 2 by decide +kernel) ?_
  refine va_sld hx hb hX hbl hbA hS (vp_in_nI (n := 2) (by decide) (by decide)) dL_law_453 ?_
  refine w_toeq (show xs (nI 2).toNatClampNeg = yb by rw [nI_clamp (n := 2) (by decide)]; exact hx2) ?_
  refine lv_aload_n hx hb dL_law_454 rfl (lv_at hl 1 rfl) ?_
  refine lv_iload hx hb dL_law_455 (lv_at hl 5 rfl) ?_
  refine lv_iconst (v := nI 3) hx hb dL_law_457 (by decide +kernel) ?_
  refine lv_iadd hx hb dL_law_458 ?_
  refine w_toeq (show (nI 0) + (nI 3) = nI 3 by decide +kernel) ?_
  refine va_sld hx hb hX hbl hbA hS (vp_in_nI (n := 3) (by decide) (by decide)) dL_law_459 ?_
  refine w_toeq (show xs (nI 3).toNatClampNeg = nI yc by rw [nI_clamp (n := 3) (by decide)]; exact hx3) ?_
  refine k_i (wr := [(h0, .inr (9, [.ref a0, .ref a1, .ref a2, .ref a3, .ref a4, .ref a5, .ref a6, .ref a7, .int (nI 0)]))]) (run_V (rest := []) hx hb hml hown hts hK hP hD hS hA hm (C630_get l G D K H.size h1 (.ref a8) ya (by omega) (by omega) yc (by omega) (by omega) yb) [0] rfl rfl mok_yX12_get w_1909 w_1910 w_1911 (rcv hK hP 0 rfl rfl rfl) ⟨Nat.le_of_ble_eq_true rfl, Nat.le_of_ble_eq_true rfl⟩ rfl hl.1 rfl (Nat.le_of_ble_eq_true rfl) dL_law_460 ⟨(by dsimp only [room_1]; omega), (by dsimp only [room_1]; omega)⟩) hP hD hS hA [0] [1] rfl rfl rfl (by decide) (w2 := fun u1 => [(h0, .inr (9, [.ref a0, .ref a1, .ref a2, .ref a3, .ref a4, .ref a5, .ref a6, .ref a7, .int (nI 0)])), (h1, .inr (12, [.int (nI 1), .ref a8]))]) (fun _ => rfl) (fun u1 H locs hP hD hS => ?_)
  refine lv_istore (lv' := [(6, .int (nI 0)), (5, .int (nI 1)), (0, .ref b), (1, .ref h0), (2, .ref h1), (3, .ref a9), (4, .int (nI 0))]) hx hb dL_law_463 hl (by decide) rfl (fun ls hl => ?_)
  refine lv_aload_n hx hb dL_law_465 rfl (lv_at hl 4 rfl) ?_
  refine k_i (wr := [(h0, .inr (9, [.ref a0, .ref a1, .ref a2, .ref a3, .ref a4, .ref a5, .ref a6, .ref a7, .int (nI 0)]))]) (run_V (rest := []) hx hb hml hown hts hK hP hD hS hA hm (C1059_thrown l G D K H.size h1 (.ref a8)) [1] rfl rfl mok_yX12_thrown w_1300 w_1301 w_1302 (rcv hK hP 1 rfl rfl rfl) ⟨Nat.le_of_ble_eq_true rfl, Nat.le_of_ble_eq_true rfl⟩ rfl hl.1 rfl (Nat.le_of_ble_eq_true rfl) dL_law_466 ⟨(by dsimp only [room_1]; omega), (by dsimp only [room_1]; omega)⟩) hP hD hS hA [1] [0] rfl rfl rfl (by decide) (w2 := fun u2 => [(h0, .inr (9, [.ref a0, .ref a1, .ref a2, .ref a3, .ref a4, .ref a5, .ref a6, .ref a7, .int (nI 0)])), (h1, .inr (12, [.int (nI 1), .ref a8]))]) (fun _ => rfl) (fun u2 H locs hP hD hS => ?_)
  refine lv_iload hx hb dL_law_469 (lv_at hl 1 rfl) ?_
  refine lv_icmp_eq (tgt := 476) hx hb dL_law_471 (by decide) (fun _ => ?_) (fun c9 => absurd (by decide +kernel) c9)
  refine lv_iload hx hb dL_law_476 (lv_at hl 1 rfl) ?_
  refine lv_if_ne (tgt := 493) hx hb dL_law_478 (by decide) (fun _ => ?_) (fun c9 => absurd c9 (by decide +kernel))
  refine lv_goto (tgt := 1762) hx hb dL_law_493 (by decide) ?_
  refine lv_iinc (v := nI 4) (lv' := [(4, .int (nI 4)), (6, .int (nI 0)), (5, .int (nI 1)), (0, .ref b), (1, .ref h0), (2, .ref h1), (3, .ref a9)]) hx hb dL_law_1762 hl (k := 6) rfl (by decide +kernel) (by decide) rfl (fun ls hl => ?_)
  refine lv_goto (tgt := 23) hx hb dL_law_1765 (by decide) ?_
  refine lv_iload hx hb dL_law_23 (lv_at hl 0 rfl) ?_
  refine lv_aload_n hx hb dL_law_25 rfl (lv_at hl 3 rfl) ?_
  refine va_slen hx hb hX hbl hbA hS dL_law_26 ?_
  refine w_toeq (show Int32.ofNat 4 = nI 4 from rfl) ?_
  refine lv_iconst (v := nI 4) hx hb dL_law_27 (by decide +kernel) ?_
  refine lv_isub hx hb dL_law_28 ?_
  refine w_toeq (show (nI 4) - (nI 4) = nI 0 by decide +kernel) ?_
  refine lv_icmp_gt (tgt := 1768) hx hb dL_law_29 (by decide) (fun _ => ?_) (fun c9 => absurd (by decide +kernel) c9)
  refine lv_iconst (v := nI 1) hx hb dL_law_1768 (by decide +kernel) ?_
  exact law_end hx hb hr hlk hS (by dsimp only; omega) (by dsimp only; omega) dL_law_1769
set_option maxHeartbeats 4000000 in
set_option maxRecDepth 100000 in
theorem LW143_get {p : Program} {e : Env} {s : State} {m : MethodId} {below : List Frame} {meth : Method} {c : Code} {l : Launch} {G : Nat → Nat} {D : va_G} {K : Nat → ClassId} {b : Nat} {xs : Nat → Int32} (hx : p.tables.exec = Jvm.exec) (hb : c.code = cL_law) (hr : meth.sig.returnType = some .boolean) (hlk : meth.locks = false) (hl0 : l.stackTraces = false) (hnc : Ncs s) (hml : c.maxLocals = 9) (hown : s.vm.findClass RL = some m.cls) (hts : ∀ w ∈ lw_gw, w.before #[Value.ref b] s = true) (hK : va_K D cl (tys K) s) (hm : Amb G (fun q : Nat => s.heap.size ≤ q) s s.heap) (hX : va_X b 4 xs s s.heap) (hbl : b < s.heap.size) {h0 h1 h2 h3 h4 h5 h6 h7 a0 a1 a2 a3 a4 a5 a6 a7 a8 a9 a10 a11 a12 a13 : Nat} (ya : Nat) (lya : 0 ≤ ya) (gya : ya ≤ 3) (hx1 : xs 1 = nI ya) (yb : Int32) (hx2 : xs 2 = yb) (yc : Nat) (lyc : 0 ≤ yc) (gyc : yc ≤ 3) (hx3 : xs 3 = nI yc) {H : Heap} {locs : List Loc} {cells slots : Nat} (hcs : cells ≤ 1000) (hss : slots ≤ 100000) (hP : va_P D cl [(h0, .inr (9, [.ref a0, .ref h1, .ref a1, .ref a2, .ref a3, .ref a4, .ref a5, .ref a6, .int (nI 0)])), (h1, .inr (4, [.ref a7, .ref h2, .ref a8, .int (nI 1)])), (h2, .inl (K 0, 32, .inr (.inr (.inr (.inr (fun _ => none)))))), (h3, .inr (12, [.int (nI 0), .ref h4])), (h4, .inr (10, [.ref a9, .ref h5, .ref a10, .ref a11, .ref a12, .int (nI 0), .int (nI 0), .int (nI 60), .int (nI 0), .int (nI 2), .int (nI 0), .int (nI 0), .int (nI 0), .int (nI 0), .int (nI 0), .int (nI 0), .int (nI 0)])), (h5, .inr (13, [.int (nI 1), .ref h6, .int (nI 1)])), (h6, .inl (K 4, 10, .inr (.inr (.inr (.inr (va_up (fun _ => none) 0 (some h7))))))), (h7, .inl (K 2, 4, .inl (fun _ => (-1))))] H) (hD : va_D (fun q : Nat => s.heap.size ≤ q) [(h0, .inr (9, [.ref a0, .ref h1, .ref a1, .ref a2, .ref a3, .ref a4, .ref a5, .ref a6, .int (nI 0)])), (h1, .inr (4, [.ref a7, .ref h2, .ref a8, .int (nI 1)])), (h2, .inl (K 0, 32, .inr (.inr (.inr (.inr (fun _ => none)))))), (h3, .inr (12, [.int (nI 0), .ref h4])), (h4, .inr (10, [.ref a9, .ref h5, .ref a10, .ref a11, .ref a12, .int (nI 0), .int (nI 0), .int (nI 60), .int (nI 0), .int (nI 2), .int (nI 0), .int (nI 0), .int (nI 0), .int (nI 0), .int (nI 0), .int (nI 0), .int (nI 0)])), (h5, .inr (13, [.int (nI 1), .ref h6, .int (nI 1)])), (h6, .inl (K 4, 10, .inr (.inr (.inr (.inr (va_up (fun _ => none) 0 (some h7))))))), (h7, .inl (K 2, 4, .inl (fun _ => (-1))))]) (hS : va_S (fun q : Nat => s.heap.size ≤ q) s.heap H locs) {ls : Array Slot} (hl : lv_has ls 9 [(0, .ref b), (1, .ref h0), (2, .ref h3), (3, .ref a13), (4, .int (nI 0))]) : W p l e room_1 s m #[Value.ref b] below meth c H locs cells slots (lw_Z below #[Value.ref b] s) (F0 m 416 ls []) := by
  have hA : ∀ q : Nat, s.heap.size ≤ q → (fun q : Nat => s.heap.size ≤ q) q := fun _ h => h
  have hbA : ¬ (fun q : Nat => s.heap.size ≤ q) b := Nat.not_le.mpr hbl
  refine lv_aload_n hx hb dL_law_416 rfl (lv_at hl 1 rfl) ?_
  refine lv_aload_n hx hb dL_law_417 rfl (lv_at hl 0 rfl) ?_
  refine lv_iload hx hb dL_law_418 (lv_at hl 4 rfl) ?_
  refine lv_iconst (v := nI 1) hx hb dL_law_420 (by decide +kernel) ?_
  refine lv_iadd hx hb dL_law_421 ?_
  refine w_toeq (show (nI 0) + (nI 1) = nI 1 by decide +kernel) ?_
  refine va_sld hx hb hX hbl hbA hS (vp_in_nI (n := 1) (by decide) (by decide)) dL_law_422 ?_
  refine w_toeq (show xs (nI 1).toNatClampNeg = nI ya by rw [nI_clamp (n := 1) (by decide)]; exact hx1) ?_
  refine lv_aload_n hx hb dL_law_423 rfl (lv_at hl 0 rfl) ?_
  refine lv_iload hx hb dL_law_424 (lv_at hl 4 rfl) ?_
  refine lv_iconst (v := nI 2) hx hb dL_law_426 (by decide +kernel) ?_
  refine lv_iadd hx hb dL_law_427 ?_
  refine w_toeq (show (nI 0) + (nI 2) = nI 2 by decide +kernel) ?_
  refine va_sld hx hb hX hbl hbA hS (vp_in_nI (n := 2) (by decide) (by decide)) dL_law_428 ?_
  refine w_toeq (show xs (nI 2).toNatClampNeg = yb by rw [nI_clamp (n := 2) (by decide)]; exact hx2) ?_
  refine lv_aload_n hx hb dL_law_429 rfl (lv_at hl 0 rfl) ?_
  refine lv_iload hx hb dL_law_430 (lv_at hl 4 rfl) ?_
  refine lv_iconst (v := nI 3) hx hb dL_law_432 (by decide +kernel) ?_
  refine lv_iadd hx hb dL_law_433 ?_
  refine w_toeq (show (nI 0) + (nI 3) = nI 3 by decide +kernel) ?_
  refine va_sld hx hb hX hbl hbA hS (vp_in_nI (n := 3) (by decide) (by decide)) dL_law_434 ?_
  refine w_toeq (show xs (nI 3).toNatClampNeg = nI yc by rw [nI_clamp (n := 3) (by decide)]; exact hx3) ?_
  refine lv_aload_n hx hb dL_law_435 rfl (lv_at hl 3 rfl) ?_
  refine k_i (wr := [(h3, .inr (12, [.int (nI 0), .ref h4])), (h4, .inr (10, [.ref a9, .ref h5, .ref a10, .ref a11, .ref a12, .int (nI 0), .int (nI 0), .int (nI 60), .int (nI 0), .int (nI 2), .int (nI 0), .int (nI 0), .int (nI 0), .int (nI 0), .int (nI 0), .int (nI 0), .int (nI 0)])), (h5, .inr (13, [.int (nI 1), .ref h6, .int (nI 1)])), (h6, .inl (K 4, 10, .inr (.inr (.inr (.inr (va_up (fun _ => none) 0 (some h7))))))), (h7, .inl (K 2, 4, .inl (fun _ => (-1))))]) (run_SW hnc (rest := []) hx hb hml hown hts hK hP hD hS hA hm (C1202_get l G D K hl0 H.size h0 h1 h2 a13 (.ref a0) (.ref a1) (.ref a2) (.ref a3) (.ref a4) (.ref a5) (.ref a6) (.int (nI 0)) (.ref a7) (.ref a8) ya (by omega) (by omega) yc (by omega) (by omega) yb) [0, 1, 2] rfl rfl mokh_yL_get w_939 w_940 ⟨Nat.le_of_ble_eq_true rfl, Nat.le_of_ble_eq_true rfl⟩ rfl hl.1 rfl (Nat.le_of_ble_eq_true rfl) dL_law_436 ⟨(by dsimp only [room_1]; omega), (by dsimp only [room_1]; omega)⟩) hP hD hS hA [0, 1, 2] [3, 4, 5, 6, 7] rfl rfl rfl (by decide) (w2 := fun u0 => [(h3, .inr (12, [.int (nI 0), .ref h4])), (h4, .inr (10, [.ref a9, .ref h5, .ref a10, .ref a11, .ref a12, .int (nI 0), .int (nI 0), .int (nI 60), .int (nI 0), .int (nI 2), .int (nI 0), .int (nI 0), .int (nI 0), .int (nI 0), .int (nI 0), .int (nI 0), .int (nI 0)])), (h5, .inr (13, [.int (nI 1), .ref h6, .int (nI 1)])), (h6, .inl (K 4, 10, .inr (.inr (.inr (.inr (va_up (fun _ => none) 0 (some h7))))))), (h7, .inl (K 2, 4, .inl (fun _ => (-1))))]) (fun _ => rfl) (fun u0 H locs hP hD hS => ?_)
  refine lv_istore (lv' := [(5, .int (nI 2)), (0, .ref b), (1, .ref h0), (2, .ref h3), (3, .ref a13), (4, .int (nI 0))]) hx hb dL_law_439 hl (by decide) rfl (fun ls hl => ?_)
  refine lv_aload_n hx hb dL_law_441 rfl (lv_at hl 3 rfl) ?_
  refine lv_aload_n hx hb dL_law_442 rfl (lv_at hl 1 rfl) ?_
  refine lv_iload hx hb dL_law_443 (lv_at hl 5 rfl) ?_
  refine lv_iconst (v := nI 1) hx hb dL_law_445 (by decide +kernel) ?_
  refine lv_iadd hx hb dL_law_446 ?_
  refine w_toeq (show (nI 0) + (nI 1) = nI 1 by decide +kernel) ?_
  refine va_sld hx hb hX hbl hbA hS (vp_in_nI (n := 1) (by decide) (by decide)) dL_law_447 ?_
  refine w_toeq (show xs (nI 1).toNatClampNeg = nI ya by rw [nI_clamp (n := 1) (by decide)]; exact hx1) ?_
  refine lv_aload_n hx hb dL_law_448 rfl (lv_at hl 1 rfl) ?_
  refine lv_iload hx hb dL_law_449 (lv_at hl 5 rfl) ?_
  refine lv_iconst (v := nI 2) hx hb dL_law_451 (by decide +kernel) ?_
  refine lv_iadd hx hb dL_law_452 ?_
  refine w_toeq (show (nI 0) + (nI 2) = nI 2 by decide +kernel) ?_
  refine va_sld hx hb hX hbl hbA hS (vp_in_nI (n := 2) (by decide) (by decide)) dL_law_453 ?_
  refine w_toeq (show xs (nI 2).toNatClampNeg = yb by rw [nI_clamp (n := 2) (by decide)]; exact hx2) ?_
  refine lv_aload_n hx hb dL_law_454 rfl (lv_at hl 1 rfl) ?_
  refine lv_iload hx hb dL_law_455 (lv_at hl 5 rfl) ?_
  refine lv_iconst (v := nI 3) hx hb dL_law_457 (by decide +kernel) ?_
  refine lv_iadd hx hb dL_law_458 ?_
  refine w_toeq (show (nI 0) + (nI 3) = nI 3 by decide +kernel) ?_
  refine va_sld hx hb hX hbl hbA hS (vp_in_nI (n := 3) (by decide) (by decide)) dL_law_459 ?_
  refine w_toeq (show xs (nI 3).toNatClampNeg = nI yc by rw [nI_clamp (n := 3) (by decide)]; exact hx3) ?_
  refine k_i (wr := []) (run_V (rest := []) hx hb hml hown hts hK hP hD hS hA hm (C632_get l G D K H.size h3 h4 h5 h6 h7 (.ref a9) (.ref a10) (.ref a11) (.ref a12) (.int (nI 0)) (.int (nI 0)) (.int (nI 60)) (.int (nI 0)) (.int (nI 2)) (.int (nI 0)) (.int (nI 0)) (.int (nI 0)) (.int (nI 0)) (.int (nI 0)) (.int (nI 0)) (.int (nI 0)) (.int (nI 1)) ya (by omega) (by omega) yc (by omega) (by omega) yb) [0, 1, 2, 3, 4] rfl rfl mok_yX12_get w_1909 w_1910 w_1911 (rcv hK hP 0 rfl rfl rfl) ⟨Nat.le_of_ble_eq_true rfl, Nat.le_of_ble_eq_true rfl⟩ rfl hl.1 rfl (Nat.le_of_ble_eq_true rfl) dL_law_460 ⟨(by dsimp only [room_1]; omega), (by dsimp only [room_1]; omega)⟩) hP hD hS hA [0, 1, 2, 3, 4] [] rfl rfl rfl (by decide) (w2 := fun u1 => [(h4, .inr (10, [.ref a9, .ref h5, .ref a10, .ref a11, .ref a12, .int (nI 0), .int (nI 0), .int (nI 60), .int (nI 0), .int (nI 2), .int (nI 0), .int (nI 0), .int (nI 0), .int (nI 0), .int (nI 0), .int (nI 0), .int (nI 0)])), (h7, .inl (K 2, 4, .inl (fun _ => (-1)))), (h5, .inr (13, [.int (nI 1), .ref h6, .int (nI 1)])), (h6, .inl (K 4, 10, .inr (.inr (.inr (.inr (va_up (fun _ => none) 0 (some h7))))))), (h3, .inr (12, [.int (nI 2), .ref h4]))]) (fun _ => rfl) (fun u1 H locs hP hD hS => ?_)
  refine lv_istore (lv' := [(6, .int (nI 0)), (5, .int (nI 2)), (0, .ref b), (1, .ref h0), (2, .ref h3), (3, .ref a13), (4, .int (nI 0))]) hx hb dL_law_463 hl (by decide) rfl (fun ls hl => ?_)
  refine lv_aload_n hx hb dL_law_465 rfl (lv_at hl 4 rfl) ?_
  refine k_i (wr := [(h4, .inr (10, [.ref a9, .ref h5, .ref a10, .ref a11, .ref a12, .int (nI 0), .int (nI 0), .int (nI 60), .int (nI 0), .int (nI 2), .int (nI 0), .int (nI 0), .int (nI 0), .int (nI 0), .int (nI 0), .int (nI 0), .int (nI 0)])), (h7, .inl (K 2, 4, .inl (fun _ => (-1)))), (h5, .inr (13, [.int (nI 1), .ref h6, .int (nI 1)])), (h6, .inl (K 4, 10, .inr (.inr (.inr (.inr (va_up (fun _ => none) 0 (some h7)))))))]) (run_V (rest := []) hx hb hml hown hts hK hP hD hS hA hm (C1075_thrown l G D K H.size h3 (.ref h4)) [4] rfl rfl mok_yX12_thrown w_1300 w_1301 w_1302 (rcv hK hP 4 rfl rfl rfl) ⟨Nat.le_of_ble_eq_true rfl, Nat.le_of_ble_eq_true rfl⟩ rfl hl.1 rfl (Nat.le_of_ble_eq_true rfl) dL_law_466 ⟨(by dsimp only [room_1]; omega), (by dsimp only [room_1]; omega)⟩) hP hD hS hA [4] [0, 1, 2, 3] rfl rfl rfl (by decide) (w2 := fun u2 => [(h4, .inr (10, [.ref a9, .ref h5, .ref a10, .ref a11, .ref a12, .int (nI 0), .int (nI 0), .int (nI 60), .int (nI 0), .int (nI 2), .int (nI 0), .int (nI 0), .int (nI 0), .int (nI 0), .int (nI 0), .int (nI 0), .int (nI 0)])), (h7, .inl (K 2, 4, .inl (fun _ => (-1)))), (h5, .inr (13, [.int (nI 1), .ref h6, .int (nI 1)])), (h6, .inl (K 4, 10, .inr (.inr (.inr (.inr (va_up (fun _ => none) 0 (some h7))))))), (h3, .inr (12, [.int (nI 2), .ref h4]))]) (fun _ => rfl) (fun u2 H locs hP hD hS => ?_)
  refine lv_iload hx hb dL_law_469 (lv_at hl 1 rfl) ?_
  refine lv_icmp_eq (tgt := 476) hx hb dL_law_471 (by decide) (fun _ => ?_) (fun c9 => absurd (by decide +kernel) c9)
  refine lv_iload hx hb dL_law_476 (lv_at hl 1 rfl) ?_
  refine lv_if_ne (tgt := 493) hx hb dL_law_478 (by decide) (fun _ => ?_) (fun c9 => absurd c9 (by decide +kernel))
  refine lv_goto (tgt := 1762) hx hb dL_law_493 (by decide) ?_
  refine lv_iinc (v := nI 4) (lv' := [(4, .int (nI 4)), (6, .int (nI 0)), (5, .int (nI 2)), (0, .ref b), (1, .ref h0), (2, .ref h3), (3, .ref a13)]) hx hb dL_law_1762 hl (k := 6) rfl (by decide +kernel) (by decide) rfl (fun ls hl => ?_)
  refine lv_goto (tgt := 23) hx hb dL_law_1765 (by decide) ?_
  refine lv_iload hx hb dL_law_23 (lv_at hl 0 rfl) ?_
  refine lv_aload_n hx hb dL_law_25 rfl (lv_at hl 3 rfl) ?_
  refine va_slen hx hb hX hbl hbA hS dL_law_26 ?_
  refine w_toeq (show Int32.ofNat 4 = nI 4 from rfl) ?_
  refine lv_iconst (v := nI 4) hx hb dL_law_27 (by decide +kernel) ?_
  refine lv_isub hx hb dL_law_28 ?_
  refine w_toeq (show (nI 4) - (nI 4) = nI 0 by decide +kernel) ?_
  refine lv_icmp_gt (tgt := 1768) hx hb dL_law_29 (by decide) (fun _ => ?_) (fun c9 => absurd (by decide +kernel) c9)
  refine lv_iconst (v := nI 1) hx hb dL_law_1768 (by decide +kernel) ?_
  exact law_end hx hb hr hlk hS (by dsimp only; omega) (by dsimp only; omega) dL_law_1769
set_option maxHeartbeats 4000000 in
set_option maxRecDepth 100000 in
theorem LW144_put {p : Program} {e : Env} {s : State} {m : MethodId} {below : List Frame} {meth : Method} {c : Code} {l : Launch} {G : Nat → Nat} {D : va_G} {K : Nat → ClassId} {b : Nat} {xs : Nat → Int32} (hx : p.tables.exec = Jvm.exec) (hb : c.code = cL_law) (hr : meth.sig.returnType = some .boolean) (hlk : meth.locks = false) (hl0 : l.stackTraces = false) (hnc : Ncs s) (hml : c.maxLocals = 9) (hown : s.vm.findClass RL = some m.cls) (hts : ∀ w ∈ lw_gw, w.before #[Value.ref b] s = true) (hK : va_K D cl (tys K) s) (hm : Amb G (fun q : Nat => s.heap.size ≤ q) s s.heap) (hX : va_X b 4 xs s s.heap) (hbl : b < s.heap.size) {h0 h1 a0 a1 a2 a3 a4 a5 a6 a7 a8 a9 : Nat} (ya : Int32) (hya : ya < 0) (hx1 : xs 1 = ya) (yb : Int32) (hx2 : xs 2 = yb) {H : Heap} {locs : List Loc} {cells slots : Nat} (hcs : cells ≤ 1000) (hss : slots ≤ 100000) (hP : va_P D cl [(h0, .inr (9, [.ref a0, .ref a1, .ref a2, .ref a3, .ref a4, .ref a5, .ref a6, .ref a7, .int (nI 0)])), (h1, .inr (12, [.int (nI 0), .ref a8]))] H) (hD : va_D (fun q : Nat => s.heap.size ≤ q) [(h0, .inr (9, [.ref a0, .ref a1, .ref a2, .ref a3, .ref a4, .ref a5, .ref a6, .ref a7, .int (nI 0)])), (h1, .inr (12, [.int (nI 0), .ref a8]))]) (hS : va_S (fun q : Nat => s.heap.size ≤ q) s.heap H locs) {ls : Array Slot} (hl : lv_has ls 9 [(0, .ref b), (1, .ref h0), (2, .ref h1), (3, .ref a9), (4, .int (nI 0))]) : W p l e room_1 s m #[Value.ref b] below meth c H locs cells slots (lw_Z below #[Value.ref b] s) (F0 m 496 ls []) := by
  have hA : ∀ q : Nat, s.heap.size ≤ q → (fun q : Nat => s.heap.size ≤ q) q := fun _ h => h
  have hbA : ¬ (fun q : Nat => s.heap.size ≤ q) b := Nat.not_le.mpr hbl
  refine lv_aload_n hx hb dL_law_496 rfl (lv_at hl 1 rfl) ?_
  refine lv_aload_n hx hb dL_law_497 rfl (lv_at hl 0 rfl) ?_
  refine lv_iload hx hb dL_law_498 (lv_at hl 4 rfl) ?_
  refine lv_iconst (v := nI 1) hx hb dL_law_500 (by decide +kernel) ?_
  refine lv_iadd hx hb dL_law_501 ?_
  refine w_toeq (show (nI 0) + (nI 1) = nI 1 by decide +kernel) ?_
  refine va_sld hx hb hX hbl hbA hS (vp_in_nI (n := 1) (by decide) (by decide)) dL_law_502 ?_
  refine w_toeq (show xs (nI 1).toNatClampNeg = ya by rw [nI_clamp (n := 1) (by decide)]; exact hx1) ?_
  refine lv_aload_n hx hb dL_law_503 rfl (lv_at hl 0 rfl) ?_
  refine lv_iload hx hb dL_law_504 (lv_at hl 4 rfl) ?_
  refine lv_iconst (v := nI 2) hx hb dL_law_506 (by decide +kernel) ?_
  refine lv_iadd hx hb dL_law_507 ?_
  refine w_toeq (show (nI 0) + (nI 2) = nI 2 by decide +kernel) ?_
  refine va_sld hx hb hX hbl hbA hS (vp_in_nI (n := 2) (by decide) (by decide)) dL_law_508 ?_
  refine w_toeq (show xs (nI 2).toNatClampNeg = yb by rw [nI_clamp (n := 2) (by decide)]; exact hx2) ?_
  refine lv_aload_n hx hb dL_law_509 rfl (lv_at hl 3 rfl) ?_
  refine k_i (wr := [(h1, .inr (12, [.int (nI 0), .ref a8]))]) (run_SW hnc (rest := []) hx hb hml hown hts hK hP hD hS hA hm (C1203_put l G D K hl0 H.size h0 a9 (.ref a0) (.ref a1) (.ref a2) (.ref a3) (.ref a4) (.ref a5) (.ref a6) (.ref a7) (.int (nI 0)) ya hya yb) [0] rfl rfl mokh_yL_put w_946 w_947 ⟨Nat.le_of_ble_eq_true rfl, Nat.le_of_ble_eq_true rfl⟩ rfl hl.1 rfl (Nat.le_of_ble_eq_true rfl) dL_law_510 ⟨(by dsimp only [room_1]; omega), (by dsimp only [room_1]; omega)⟩) hP hD hS hA [0] [1] rfl rfl rfl (by decide) (w2 := fun u0 => [(h1, .inr (12, [.int (nI 0), .ref a8])), (h0, .inr (9, [.ref a0, .ref a1, .ref a2, .ref a3, .ref a4, .ref a5, .ref a6, .ref a7, .int (nI 0)]))]) (fun _ => rfl) (fun u0 H locs hP hD hS => ?_)
  refine lv_istore (lv' := [(5, .int (nI 1)), (0, .ref b), (1, .ref h0), (2, .ref h1), (3, .ref a9), (4, .int (nI 0))]) hx hb dL_law_513 hl (by decide) rfl (fun ls hl => ?_)
  refine lv_aload_n hx hb dL_law_515 rfl (lv_at hl 3 rfl) ?_
  refine lv_aload_n hx hb dL_law_516 rfl (lv_at hl 1 rfl) ?_
  refine lv_iload hx hb dL_law_517 (lv_at hl 5 rfl) ?_
  refine lv_iconst (v := nI 1) hx hb dL_law_519 (by decide +kernel) ?_
  refine lv_iadd hx hb dL_law_520 ?_
  refine w_toeq (show (nI 0) + (nI 1) = nI 1 by decide +kernel) ?_
  refine va_sld hx hb hX hbl hbA hS (vp_in_nI (n := 1) (by decide) (by decide)) dL_law_521 ?_
  refine w_toeq (show xs (nI 1).toNatClampNeg = ya by rw [nI_clamp (n := 1) (by decide)]; exact hx1) ?_
  refine lv_aload_n hx hb dL_law_522 rfl (lv_at hl 1 rfl) ?_
  refine lv_iload hx hb dL_law_523 (lv_at hl 5 rfl) ?_
  refine lv_iconst (v := nI 2) hx hb dL_law_525 (by decide +kernel) ?_
  refine lv_iadd hx hb dL_law_526 ?_
  refine w_toeq (show (nI 0) + (nI 2) = nI 2 by decide +kernel) ?_
  refine va_sld hx hb hX hbl hbA hS (vp_in_nI (n := 2) (by decide) (by decide)) dL_law_527 ?_
  refine w_toeq (show xs (nI 2).toNatClampNeg = yb by rw [nI_clamp (n := 2) (by decide)]; exact hx2) ?_
  refine k_i (wr := [(h0, .inr (9, [.ref a0, .ref a1, .ref a2, .ref a3, .ref a4, .ref a5, .ref a6, .ref a7, .int (nI 0)]))]) (run_V (rest := []) hx hb hml hown hts hK hP hD hS hA hm (C634_put l G D K H.size h1 (.ref a8) ya hya yb) [0] rfl rfl mok_yX12_put w_1913 w_1914 w_1915 (rcv hK hP 0 rfl rfl rfl) ⟨Nat.le_of_ble_eq_true rfl, Nat.le_of_ble_eq_true rfl⟩ rfl hl.1 rfl (Nat.le_of_ble_eq_true rfl) dL_law_528 ⟨(by dsimp only [room_1]; omega), (by dsimp only [room_1]; omega)⟩) hP hD hS hA [0] [1] rfl rfl rfl (by decide) (w2 := fun u1 => [(h0, .inr (9, [.ref a0, .ref a1, .ref a2, .ref a3, .ref a4, .ref a5, .ref a6, .ref a7, .int (nI 0)])), (h1, .inr (12, [.int (nI 1), .ref a8]))]) (fun _ => rfl) (fun u1 H locs hP hD hS => ?_)
  refine lv_istore (lv' := [(6, .int (nI 0)), (5, .int (nI 1)), (0, .ref b), (1, .ref h0), (2, .ref h1), (3, .ref a9), (4, .int (nI 0))]) hx hb dL_law_531 hl (by decide) rfl (fun ls hl => ?_)
  refine lv_aload_n hx hb dL_law_533 rfl (lv_at hl 4 rfl) ?_
  refine k_i (wr := [(h0, .inr (9, [.ref a0, .ref a1, .ref a2, .ref a3, .ref a4, .ref a5, .ref a6, .ref a7, .int (nI 0)]))]) (run_V (rest := []) hx hb hml hown hts hK hP hD hS hA hm (C1059_thrown l G D K H.size h1 (.ref a8)) [1] rfl rfl mok_yX12_thrown w_1300 w_1301 w_1302 (rcv hK hP 1 rfl rfl rfl) ⟨Nat.le_of_ble_eq_true rfl, Nat.le_of_ble_eq_true rfl⟩ rfl hl.1 rfl (Nat.le_of_ble_eq_true rfl) dL_law_534 ⟨(by dsimp only [room_1]; omega), (by dsimp only [room_1]; omega)⟩) hP hD hS hA [1] [0] rfl rfl rfl (by decide) (w2 := fun u2 => [(h0, .inr (9, [.ref a0, .ref a1, .ref a2, .ref a3, .ref a4, .ref a5, .ref a6, .ref a7, .int (nI 0)])), (h1, .inr (12, [.int (nI 1), .ref a8]))]) (fun _ => rfl) (fun u2 H locs hP hD hS => ?_)
  refine lv_iload hx hb dL_law_537 (lv_at hl 1 rfl) ?_
  refine lv_icmp_eq (tgt := 544) hx hb dL_law_539 (by decide) (fun _ => ?_) (fun c9 => absurd (by decide +kernel) c9)
  refine lv_iload hx hb dL_law_544 (lv_at hl 1 rfl) ?_
  refine lv_if_ne (tgt := 561) hx hb dL_law_546 (by decide) (fun _ => ?_) (fun c9 => absurd c9 (by decide +kernel))
  refine lv_goto (tgt := 1762) hx hb dL_law_561 (by decide) ?_
  refine lv_iinc (v := nI 4) (lv' := [(4, .int (nI 4)), (6, .int (nI 0)), (5, .int (nI 1)), (0, .ref b), (1, .ref h0), (2, .ref h1), (3, .ref a9)]) hx hb dL_law_1762 hl (k := 6) rfl (by decide +kernel) (by decide) rfl (fun ls hl => ?_)
  refine lv_goto (tgt := 23) hx hb dL_law_1765 (by decide) ?_
  refine lv_iload hx hb dL_law_23 (lv_at hl 0 rfl) ?_
  refine lv_aload_n hx hb dL_law_25 rfl (lv_at hl 3 rfl) ?_
  refine va_slen hx hb hX hbl hbA hS dL_law_26 ?_
  refine w_toeq (show Int32.ofNat 4 = nI 4 from rfl) ?_
  refine lv_iconst (v := nI 4) hx hb dL_law_27 (by decide +kernel) ?_
  refine lv_isub hx hb dL_law_28 ?_
  refine w_toeq (show (nI 4) - (nI 4) = nI 0 by decide +kernel) ?_
  refine lv_icmp_gt (tgt := 1768) hx hb dL_law_29 (by decide) (fun _ => ?_) (fun c9 => absurd (by decide +kernel) c9)
  refine lv_iconst (v := nI 1) hx hb dL_law_1768 (by decide +kernel) ?_
  exact law_end hx hb hr hlk hS (by dsimp only; omega) (by dsimp only; omega) dL_law_1769
set_option maxHeartbeats 4000000 in
set_option maxRecDepth 100000 in
theorem LW145_put {p : Program} {e : Env} {s : State} {m : MethodId} {below : List Frame} {meth : Method} {c : Code} {l : Launch} {G : Nat → Nat} {D : va_G} {K : Nat → ClassId} {b : Nat} {xs : Nat → Int32} (hx : p.tables.exec = Jvm.exec) (hb : c.code = cL_law) (hr : meth.sig.returnType = some .boolean) (hlk : meth.locks = false) (hl0 : l.stackTraces = false) (hnc : Ncs s) (hml : c.maxLocals = 9) (hown : s.vm.findClass RL = some m.cls) (hts : ∀ w ∈ lw_gw, w.before #[Value.ref b] s = true) (hK : va_K D cl (tys K) s) (hm : Amb G (fun q : Nat => s.heap.size ≤ q) s s.heap) (hX : va_X b 4 xs s s.heap) (hbl : b < s.heap.size) {h0 h1 a0 a1 a2 a3 a4 a5 a6 a7 a8 a9 : Nat} (ya : Nat) (lya : 4 ≤ ya) (gya : ya ≤ 2147483647) (hx1 : xs 1 = nI ya) (yb : Int32) (hx2 : xs 2 = yb) {H : Heap} {locs : List Loc} {cells slots : Nat} (hcs : cells ≤ 1000) (hss : slots ≤ 100000) (hP : va_P D cl [(h0, .inr (9, [.ref a0, .ref a1, .ref a2, .ref a3, .ref a4, .ref a5, .ref a6, .ref a7, .int (nI 0)])), (h1, .inr (12, [.int (nI 0), .ref a8]))] H) (hD : va_D (fun q : Nat => s.heap.size ≤ q) [(h0, .inr (9, [.ref a0, .ref a1, .ref a2, .ref a3, .ref a4, .ref a5, .ref a6, .ref a7, .int (nI 0)])), (h1, .inr (12, [.int (nI 0), .ref a8]))]) (hS : va_S (fun q : Nat => s.heap.size ≤ q) s.heap H locs) {ls : Array Slot} (hl : lv_has ls 9 [(0, .ref b), (1, .ref h0), (2, .ref h1), (3, .ref a9), (4, .int (nI 0))]) : W p l e room_1 s m #[Value.ref b] below meth c H locs cells slots (lw_Z below #[Value.ref b] s) (F0 m 496 ls []) := by
  have hA : ∀ q : Nat, s.heap.size ≤ q → (fun q : Nat => s.heap.size ≤ q) q := fun _ h => h
  have hbA : ¬ (fun q : Nat => s.heap.size ≤ q) b := Nat.not_le.mpr hbl
  refine lv_aload_n hx hb dL_law_496 rfl (lv_at hl 1 rfl) ?_
  refine lv_aload_n hx hb dL_law_497 rfl (lv_at hl 0 rfl) ?_
  refine lv_iload hx hb dL_law_498 (lv_at hl 4 rfl) ?_
  refine lv_iconst (v := nI 1) hx hb dL_law_500 (by decide +kernel) ?_
  refine lv_iadd hx hb dL_law_501 ?_
  refine w_toeq (show (nI 0) + (nI 1) = nI 1 by decide +kernel) ?_
  refine va_sld hx hb hX hbl hbA hS (vp_in_nI (n := 1) (by decide) (by decide)) dL_law_502 ?_
  refine w_toeq (show xs (nI 1).toNatClampNeg = nI ya by rw [nI_clamp (n := 1) (by decide)]; exact hx1) ?_
  refine lv_aload_n hx hb dL_law_503 rfl (lv_at hl 0 rfl) ?_
  refine lv_iload hx hb dL_law_504 (lv_at hl 4 rfl) ?_
  refine lv_iconst (v := nI 2) hx hb dL_law_506 (by decide +kernel) ?_
  refine lv_iadd hx hb dL_law_507 ?_
  refine w_toeq (show (nI 0) + (nI 2) = nI 2 by decide +kernel) ?_
  refine va_sld hx hb hX hbl hbA hS (vp_in_nI (n := 2) (by decide) (by decide)) dL_law_508 ?_
  refine w_toeq (show xs (nI 2).toNatClampNeg = yb by rw [nI_clamp (n := 2) (by decide)]; exact hx2) ?_
  refine lv_aload_n hx hb dL_law_509 rfl (lv_at hl 3 rfl) ?_
  refine k_i (wr := [(h1, .inr (12, [.int (nI 0), .ref a8]))]) (run_SW hnc (rest := []) hx hb hml hown hts hK hP hD hS hA hm (C1204_put l G D K hl0 H.size h0 a9 (.ref a0) (.ref a1) (.ref a2) (.ref a3) (.ref a4) (.ref a5) (.ref a6) (.ref a7) (.int (nI 0)) ya (by omega) (by omega) yb) [0] rfl rfl mokh_yL_put w_946 w_947 ⟨Nat.le_of_ble_eq_true rfl, Nat.le_of_ble_eq_true rfl⟩ rfl hl.1 rfl (Nat.le_of_ble_eq_true rfl) dL_law_510 ⟨(by dsimp only [room_1]; omega), (by dsimp only [room_1]; omega)⟩) hP hD hS hA [0] [1] rfl rfl rfl (by decide) (w2 := fun u0 => [(h1, .inr (12, [.int (nI 0), .ref a8])), (h0, .inr (9, [.ref a0, .ref a1, .ref a2, .ref a3, .ref a4, .ref a5, .ref a6, .ref a7, .int (nI 0)]))]) (fun _ => rfl) (fun u0 H locs hP hD hS => ?_)
  refine lv_istore (lv' := [(5, .int (nI 1)), (0, .ref b), (1, .ref h0), (2, .ref h1), (3, .ref a9), (4, .int (nI 0))]) hx hb dL_law_513 hl (by decide) rfl (fun ls hl => ?_)
  refine lv_aload_n hx hb dL_law_515 rfl (lv_at hl 3 rfl) ?_
  refine lv_aload_n hx hb dL_law_516 rfl (lv_at hl 1 rfl) ?_
  refine lv_iload hx hb dL_law_517 (lv_at hl 5 rfl) ?_
  refine lv_iconst (v := nI 1) hx hb dL_law_519 (by decide +kernel) ?_
  refine lv_iadd hx hb dL_law_520 ?_
  refine w_toeq (show (nI 0) + (nI 1) = nI 1 by decide +kernel) ?_
  refine va_sld hx hb hX hbl hbA hS (vp_in_nI (n := 1) (by decide) (by decide)) dL_law_521 ?_
  refine w_toeq (show xs (nI 1).toNatClampNeg = nI ya by rw [nI_clamp (n := 1) (by decide)]; exact hx1) ?_
  refine lv_aload_n hx hb dL_law_522 rfl (lv_at hl 1 rfl) ?_
  refine lv_iload hx hb dL_law_523 (lv_at hl 5 rfl) ?_
  refine lv_iconst (v := nI 2) hx hb dL_law_525 (by decide +kernel) ?_
  refine lv_iadd hx hb dL_law_526 ?_
  refine w_toeq (show (nI 0) + (nI 2) = nI 2 by decide +kernel) ?_
  refine va_sld hx hb hX hbl hbA hS (vp_in_nI (n := 2) (by decide) (by decide)) dL_law_527 ?_
  refine w_toeq (show xs (nI 2).toNatClampNeg = yb by rw [nI_clamp (n := 2) (by decide)]; exact hx2) ?_
  refine k_i (wr := [(h0, .inr (9, [.ref a0, .ref a1, .ref a2, .ref a3, .ref a4, .ref a5, .ref a6, .ref a7, .int (nI 0)]))]) (run_V (rest := []) hx hb hml hown hts hK hP hD hS hA hm (C636_put l G D K H.size h1 (.ref a8) ya (by omega) (by omega) yb) [0] rfl rfl mok_yX12_put w_1913 w_1914 w_1915 (rcv hK hP 0 rfl rfl rfl) ⟨Nat.le_of_ble_eq_true rfl, Nat.le_of_ble_eq_true rfl⟩ rfl hl.1 rfl (Nat.le_of_ble_eq_true rfl) dL_law_528 ⟨(by dsimp only [room_1]; omega), (by dsimp only [room_1]; omega)⟩) hP hD hS hA [0] [1] rfl rfl rfl (by decide) (w2 := fun u1 => [(h0, .inr (9, [.ref a0, .ref a1, .ref a2, .ref a3, .ref a4, .ref a5, .ref a6, .ref a7, .int (nI 0)])), (h1, .inr (12, [.int (nI 1), .ref a8]))]) (fun _ => rfl) (fun u1 H locs hP hD hS => ?_)
  refine lv_istore (lv' := [(6, .int (nI 0)), (5, .int (nI 1)), (0, .ref b), (1, .ref h0), (2, .ref h1), (3, .ref a9), (4, .int (nI 0))]) hx hb dL_law_531 hl (by decide) rfl (fun ls hl => ?_)
  refine lv_aload_n hx hb dL_law_533 rfl (lv_at hl 4 rfl) ?_
  refine k_i (wr := [(h0, .inr (9, [.ref a0, .ref a1, .ref a2, .ref a3, .ref a4, .ref a5, .ref a6, .ref a7, .int (nI 0)]))]) (run_V (rest := []) hx hb hml hown hts hK hP hD hS hA hm (C1059_thrown l G D K H.size h1 (.ref a8)) [1] rfl rfl mok_yX12_thrown w_1300 w_1301 w_1302 (rcv hK hP 1 rfl rfl rfl) ⟨Nat.le_of_ble_eq_true rfl, Nat.le_of_ble_eq_true rfl⟩ rfl hl.1 rfl (Nat.le_of_ble_eq_true rfl) dL_law_534 ⟨(by dsimp only [room_1]; omega), (by dsimp only [room_1]; omega)⟩) hP hD hS hA [1] [0] rfl rfl rfl (by decide) (w2 := fun u2 => [(h0, .inr (9, [.ref a0, .ref a1, .ref a2, .ref a3, .ref a4, .ref a5, .ref a6, .ref a7, .int (nI 0)])), (h1, .inr (12, [.int (nI 1), .ref a8]))]) (fun _ => rfl) (fun u2 H locs hP hD hS => ?_)
  refine lv_iload hx hb dL_law_537 (lv_at hl 1 rfl) ?_
  refine lv_icmp_eq (tgt := 544) hx hb dL_law_539 (by decide) (fun _ => ?_) (fun c9 => absurd (by decide +kernel) c9)
  refine lv_iload hx hb dL_law_544 (lv_at hl 1 rfl) ?_
  refine lv_if_ne (tgt := 561) hx hb dL_law_546 (by decide) (fun _ => ?_) (fun c9 => absurd c9 (by decide +kernel))
  refine lv_goto (tgt := 1762) hx hb dL_law_561 (by decide) ?_
  refine lv_iinc (v := nI 4) (lv' := [(4, .int (nI 4)), (6, .int (nI 0)), (5, .int (nI 1)), (0, .ref b), (1, .ref h0), (2, .ref h1), (3, .ref a9)]) hx hb dL_law_1762 hl (k := 6) rfl (by decide +kernel) (by decide) rfl (fun ls hl => ?_)
  refine lv_goto (tgt := 23) hx hb dL_law_1765 (by decide) ?_
  refine lv_iload hx hb dL_law_23 (lv_at hl 0 rfl) ?_
  refine lv_aload_n hx hb dL_law_25 rfl (lv_at hl 3 rfl) ?_
  refine va_slen hx hb hX hbl hbA hS dL_law_26 ?_
  refine w_toeq (show Int32.ofNat 4 = nI 4 from rfl) ?_
  refine lv_iconst (v := nI 4) hx hb dL_law_27 (by decide +kernel) ?_
  refine lv_isub hx hb dL_law_28 ?_
  refine w_toeq (show (nI 4) - (nI 4) = nI 0 by decide +kernel) ?_
  refine lv_icmp_gt (tgt := 1768) hx hb dL_law_29 (by decide) (fun _ => ?_) (fun c9 => absurd (by decide +kernel) c9)
  refine lv_iconst (v := nI 1) hx hb dL_law_1768 (by decide +kernel) ?_
  exact law_end hx hb hr hlk hS (by dsimp only; omega) (by dsimp only; omega) dL_law_1769
set_option maxHeartbeats 4000000 in
set_option maxRecDepth 100000 in
theorem LW146_put {p : Program} {e : Env} {s : State} {m : MethodId} {below : List Frame} {meth : Method} {c : Code} {l : Launch} {G : Nat → Nat} {D : va_G} {K : Nat → ClassId} {b : Nat} {xs : Nat → Int32} (hx : p.tables.exec = Jvm.exec) (hb : c.code = cL_law) (hr : meth.sig.returnType = some .boolean) (hlk : meth.locks = false) (hl0 : l.stackTraces = false) (hnc : Ncs s) (hml : c.maxLocals = 9) (hown : s.vm.findClass RL = some m.cls) (hts : ∀ w ∈ lw_gw, w.before #[Value.ref b] s = true) (hK : va_K D cl (tys K) s) (hm : Amb G (fun q : Nat => s.heap.size ≤ q) s s.heap) (hX : va_X b 4 xs s s.heap) (hbl : b < s.heap.size) {h0 h1 a0 a1 a2 a3 a4 a5 a6 a7 a8 a9 : Nat} (ya : Nat) (lya : 0 ≤ ya) (gya : ya ≤ 3) (hx1 : xs 1 = nI ya) (yb : Int32) (hyb : yb < 0) (hyb_1 : ¬ yb = -1) (hx2 : xs 2 = yb) {H : Heap} {locs : List Loc} {cells slots : Nat} (hcs : cells ≤ 1000) (hss : slots ≤ 100000) (hP : va_P D cl [(h0, .inr (9, [.ref a0, .ref a1, .ref a2, .ref a3, .ref a4, .ref a5, .ref a6, .ref a7, .int (nI 0)])), (h1, .inr (12, [.int (nI 0), .ref a8]))] H) (hD : va_D (fun q : Nat => s.heap.size ≤ q) [(h0, .inr (9, [.ref a0, .ref a1, .ref a2, .ref a3, .ref a4, .ref a5, .ref a6, .ref a7, .int (nI 0)])), (h1, .inr (12, [.int (nI 0), .ref a8]))]) (hS : va_S (fun q : Nat => s.heap.size ≤ q) s.heap H locs) {ls : Array Slot} (hl : lv_has ls 9 [(0, .ref b), (1, .ref h0), (2, .ref h1), (3, .ref a9), (4, .int (nI 0))]) : W p l e room_1 s m #[Value.ref b] below meth c H locs cells slots (lw_Z below #[Value.ref b] s) (F0 m 496 ls []) := by
  have hA : ∀ q : Nat, s.heap.size ≤ q → (fun q : Nat => s.heap.size ≤ q) q := fun _ h => h
  have hbA : ¬ (fun q : Nat => s.heap.size ≤ q) b := Nat.not_le.mpr hbl
  refine lv_aload_n hx hb dL_law_496 rfl (lv_at hl 1 rfl) ?_
  refine lv_aload_n hx hb dL_law_497 rfl (lv_at hl 0 rfl) ?_
  refine lv_iload hx hb dL_law_498 (lv_at hl 4 rfl) ?_
  refine lv_iconst (v := nI 1) hx hb dL_law_500 (by decide +kernel) ?_
  refine lv_iadd hx hb dL_law_501 ?_
  refine w_toeq (show (nI 0) + (nI 1) = nI 1 by decide +kernel) ?_
  refine va_sld hx hb hX hbl hbA hS (vp_in_nI (n := 1) (by decide) (by decide)) dL_law_502 ?_
  refine w_toeq (show xs (nI 1).toNatClampNeg = nI ya by rw [nI_clamp (n := 1) (by decide)]; exact hx1) ?_
  refine lv_aload_n hx hb dL_law_503 rfl (lv_at hl 0 rfl) ?_
  refine lv_iload hx hb dL_law_504 (lv_at hl 4 rfl) ?_
  refine lv_iconst (v := nI 2) hx hb dL_law_506 (by decide +kernel) ?_
  refine lv_iadd hx hb dL_law_507 ?_
  refine w_toeq (show (nI 0) + (nI 2) = nI 2 by decide +kernel) ?_
  refine va_sld hx hb hX hbl hbA hS (vp_in_nI (n := 2) (by decide) (by decide)) dL_law_508 ?_
  refine w_toeq (show xs (nI 2).toNatClampNeg = yb by rw [nI_clamp (n := 2) (by decide)]; exact hx2) ?_
  refine lv_aload_n hx hb dL_law_509 rfl (lv_at hl 3 rfl) ?_
  refine k_i (wr := [(h1, .inr (12, [.int (nI 0), .ref a8]))]) (run_SW hnc (rest := []) hx hb hml hown hts hK hP hD hS hA hm (C1205_put l G D K hl0 H.size h0 a9 (.ref a0) (.ref a1) (.ref a2) (.ref a3) (.ref a4) (.ref a5) (.ref a6) (.ref a7) (.int (nI 0)) ya (by omega) (by omega) yb hyb hyb_1) [0] rfl rfl mokh_yL_put w_946 w_947 ⟨Nat.le_of_ble_eq_true rfl, Nat.le_of_ble_eq_true rfl⟩ rfl hl.1 rfl (Nat.le_of_ble_eq_true rfl) dL_law_510 ⟨(by dsimp only [room_1]; omega), (by dsimp only [room_1]; omega)⟩) hP hD hS hA [0] [1] rfl rfl rfl (by decide) (w2 := fun u0 => [(h1, .inr (12, [.int (nI 0), .ref a8])), (h0, .inr (9, [.ref a0, .ref a1, .ref a2, .ref a3, .ref a4, .ref a5, .ref a6, .ref a7, .int (nI 0)]))]) (fun _ => rfl) (fun u0 H locs hP hD hS => ?_)
  refine lv_istore (lv' := [(5, .int (nI 1)), (0, .ref b), (1, .ref h0), (2, .ref h1), (3, .ref a9), (4, .int (nI 0))]) hx hb dL_law_513 hl (by decide) rfl (fun ls hl => ?_)
  refine lv_aload_n hx hb dL_law_515 rfl (lv_at hl 3 rfl) ?_
  refine lv_aload_n hx hb dL_law_516 rfl (lv_at hl 1 rfl) ?_
  refine lv_iload hx hb dL_law_517 (lv_at hl 5 rfl) ?_
  refine lv_iconst (v := nI 1) hx hb dL_law_519 (by decide +kernel) ?_
  refine lv_iadd hx hb dL_law_520 ?_
  refine w_toeq (show (nI 0) + (nI 1) = nI 1 by decide +kernel) ?_
  refine va_sld hx hb hX hbl hbA hS (vp_in_nI (n := 1) (by decide) (by decide)) dL_law_521 ?_
  refine w_toeq (show xs (nI 1).toNatClampNeg = nI ya by rw [nI_clamp (n := 1) (by decide)]; exact hx1) ?_
  refine lv_aload_n hx hb dL_law_522 rfl (lv_at hl 1 rfl) ?_
  refine lv_iload hx hb dL_law_523 (lv_at hl 5 rfl) ?_
  refine lv_iconst (v := nI 2) hx hb dL_law_525 (by decide +kernel) ?_
  refine lv_iadd hx hb dL_law_526 ?_
  refine w_toeq (show (nI 0) + (nI 2) = nI 2 by decide +kernel) ?_
  refine va_sld hx hb hX hbl hbA hS (vp_in_nI (n := 2) (by decide) (by decide)) dL_law_527 ?_
  refine w_toeq (show xs (nI 2).toNatClampNeg = yb by rw [nI_clamp (n := 2) (by decide)]; exact hx2) ?_
  refine k_i (wr := [(h0, .inr (9, [.ref a0, .ref a1, .ref a2, .ref a3, .ref a4, .ref a5, .ref a6, .ref a7, .int (nI 0)]))]) (run_V (rest := []) hx hb hml hown hts hK hP hD hS hA hm (C638_put l G D K H.size h1 (.ref a8) ya (by omega) (by omega) yb hyb hyb_1) [0] rfl rfl mok_yX12_put w_1913 w_1914 w_1915 (rcv hK hP 0 rfl rfl rfl) ⟨Nat.le_of_ble_eq_true rfl, Nat.le_of_ble_eq_true rfl⟩ rfl hl.1 rfl (Nat.le_of_ble_eq_true rfl) dL_law_528 ⟨(by dsimp only [room_1]; omega), (by dsimp only [room_1]; omega)⟩) hP hD hS hA [0] [1] rfl rfl rfl (by decide) (w2 := fun u1 => [(h0, .inr (9, [.ref a0, .ref a1, .ref a2, .ref a3, .ref a4, .ref a5, .ref a6, .ref a7, .int (nI 0)])), (h1, .inr (12, [.int (nI 1), .ref a8]))]) (fun _ => rfl) (fun u1 H locs hP hD hS => ?_)
  refine lv_istore (lv' := [(6, .int (nI 0)), (5, .int (nI 1)), (0, .ref b), (1, .ref h0), (2, .ref h1), (3, .ref a9), (4, .int (nI 0))]) hx hb dL_law_531 hl (by decide) rfl (fun ls hl => ?_)
  refine lv_aload_n hx hb dL_law_533 rfl (lv_at hl 4 rfl) ?_
  refine k_i (wr := [(h0, .inr (9, [.ref a0, .ref a1, .ref a2, .ref a3, .ref a4, .ref a5, .ref a6, .ref a7, .int (nI 0)]))]) (run_V (rest := []) hx hb hml hown hts hK hP hD hS hA hm (C1059_thrown l G D K H.size h1 (.ref a8)) [1] rfl rfl mok_yX12_thrown w_1300 w_1301 w_1302 (rcv hK hP 1 rfl rfl rfl) ⟨Nat.le_of_ble_eq_true rfl, Nat.le_of_ble_eq_true rfl⟩ rfl hl.1 rfl (Nat.le_of_ble_eq_true rfl) dL_law_534 ⟨(by dsimp only [room_1]; omega), (by dsimp only [room_1]; omega)⟩) hP hD hS hA [1] [0] rfl rfl rfl (by decide) (w2 := fun u2 => [(h0, .inr (9, [.ref a0, .ref a1, .ref a2, .ref a3, .ref a4, .ref a5, .ref a6, .ref a7, .int (nI 0)])), (h1, .inr (12, [.int (nI 1), .ref a8]))]) (fun _ => rfl) (fun u2 H locs hP hD hS => ?_)
  refine lv_iload hx hb dL_law_537 (lv_at hl 1 rfl) ?_
  refine lv_icmp_eq (tgt := 544) hx hb dL_law_539 (by decide) (fun _ => ?_) (fun c9 => absurd (by decide +kernel) c9)
  refine lv_iload hx hb dL_law_544 (lv_at hl 1 rfl) ?_
  refine lv_if_ne (tgt := 561) hx hb dL_law_546 (by decide) (fun _ => ?_) (fun c9 => absurd c9 (by decide +kernel))
  refine lv_goto (tgt := 1762) hx hb dL_law_561 (by decide) ?_
  refine lv_iinc (v := nI 4) (lv' := [(4, .int (nI 4)), (6, .int (nI 0)), (5, .int (nI 1)), (0, .ref b), (1, .ref h0), (2, .ref h1), (3, .ref a9)]) hx hb dL_law_1762 hl (k := 6) rfl (by decide +kernel) (by decide) rfl (fun ls hl => ?_)
  refine lv_goto (tgt := 23) hx hb dL_law_1765 (by decide) ?_
  refine lv_iload hx hb dL_law_23 (lv_at hl 0 rfl) ?_
  refine lv_aload_n hx hb dL_law_25 rfl (lv_at hl 3 rfl) ?_
  refine va_slen hx hb hX hbl hbA hS dL_law_26 ?_
  refine w_toeq (show Int32.ofNat 4 = nI 4 from rfl) ?_
  refine lv_iconst (v := nI 4) hx hb dL_law_27 (by decide +kernel) ?_
  refine lv_isub hx hb dL_law_28 ?_
  refine w_toeq (show (nI 4) - (nI 4) = nI 0 by decide +kernel) ?_
  refine lv_icmp_gt (tgt := 1768) hx hb dL_law_29 (by decide) (fun _ => ?_) (fun c9 => absurd (by decide +kernel) c9)
  refine lv_iconst (v := nI 1) hx hb dL_law_1768 (by decide +kernel) ?_
  exact law_end hx hb hr hlk hS (by dsimp only; omega) (by dsimp only; omega) dL_law_1769
set_option maxHeartbeats 4000000 in
set_option maxRecDepth 100000 in
theorem LW147_put {p : Program} {e : Env} {s : State} {m : MethodId} {below : List Frame} {meth : Method} {c : Code} {l : Launch} {G : Nat → Nat} {D : va_G} {K : Nat → ClassId} {b : Nat} {xs : Nat → Int32} (hx : p.tables.exec = Jvm.exec) (hb : c.code = cL_law) (hr : meth.sig.returnType = some .boolean) (hlk : meth.locks = false) (hl0 : l.stackTraces = false) (hnc : Ncs s) (hml : c.maxLocals = 9) (hown : s.vm.findClass RL = some m.cls) (hts : ∀ w ∈ lw_gw, w.before #[Value.ref b] s = true) (hK : va_K D cl (tys K) s) (hm : Amb G (fun q : Nat => s.heap.size ≤ q) s s.heap) (hX : va_X b 4 xs s s.heap) (hbl : b < s.heap.size) {h0 h1 a0 a1 a2 a3 a4 a5 a6 a7 a8 a9 : Nat} (ya : Nat) (lya : 0 ≤ ya) (gya : ya ≤ 3) (hx1 : xs 1 = nI ya) (yb : Nat) (lyb : 4 ≤ yb) (gyb : yb ≤ 2147483647) (hx2 : xs 2 = nI yb) {H : Heap} {locs : List Loc} {cells slots : Nat} (hcs : cells ≤ 1000) (hss : slots ≤ 100000) (hP : va_P D cl [(h0, .inr (9, [.ref a0, .ref a1, .ref a2, .ref a3, .ref a4, .ref a5, .ref a6, .ref a7, .int (nI 0)])), (h1, .inr (12, [.int (nI 0), .ref a8]))] H) (hD : va_D (fun q : Nat => s.heap.size ≤ q) [(h0, .inr (9, [.ref a0, .ref a1, .ref a2, .ref a3, .ref a4, .ref a5, .ref a6, .ref a7, .int (nI 0)])), (h1, .inr (12, [.int (nI 0), .ref a8]))]) (hS : va_S (fun q : Nat => s.heap.size ≤ q) s.heap H locs) {ls : Array Slot} (hl : lv_has ls 9 [(0, .ref b), (1, .ref h0), (2, .ref h1), (3, .ref a9), (4, .int (nI 0))]) : W p l e room_1 s m #[Value.ref b] below meth c H locs cells slots (lw_Z below #[Value.ref b] s) (F0 m 496 ls []) := by
  have hA : ∀ q : Nat, s.heap.size ≤ q → (fun q : Nat => s.heap.size ≤ q) q := fun _ h => h
  have hbA : ¬ (fun q : Nat => s.heap.size ≤ q) b := Nat.not_le.mpr hbl
  refine lv_aload_n hx hb dL_law_496 rfl (lv_at hl 1 rfl) ?_
  refine lv_aload_n hx hb dL_law_497 rfl (lv_at hl 0 rfl) ?_
  refine lv_iload hx hb dL_law_498 (lv_at hl 4 rfl) ?_
  refine lv_iconst (v := nI 1) hx hb dL_law_500 (by decide +kernel) ?_
  refine lv_iadd hx hb dL_law_501 ?_
  refine w_toeq (show (nI 0) + (nI 1) = nI 1 by decide +kernel) ?_
  refine va_sld hx hb hX hbl hbA hS (vp_in_nI (n := 1) (by decide) (by decide)) dL_law_502 ?_
  refine w_toeq (show xs (nI 1).toNatClampNeg = nI ya by rw [nI_clamp (n := 1) (by decide)]; exact hx1) ?_
  refine lv_aload_n hx hb dL_law_503 rfl (lv_at hl 0 rfl) ?_
  refine lv_iload hx hb dL_law_504 (lv_at hl 4 rfl) ?_
  refine lv_iconst (v := nI 2) hx hb dL_law_506 (by decide +kernel) ?_
  refine lv_iadd hx hb dL_law_507 ?_
  refine w_toeq (show (nI 0) + (nI 2) = nI 2 by decide +kernel) ?_
  refine va_sld hx hb hX hbl hbA hS (vp_in_nI (n := 2) (by decide) (by decide)) dL_law_508 ?_
  refine w_toeq (show xs (nI 2).toNatClampNeg = nI yb by rw [nI_clamp (n := 2) (by decide)]; exact hx2) ?_
  refine lv_aload_n hx hb dL_law_509 rfl (lv_at hl 3 rfl) ?_
  refine k_i (wr := [(h1, .inr (12, [.int (nI 0), .ref a8]))]) (run_SW hnc (rest := []) hx hb hml hown hts hK hP hD hS hA hm (C1206_put l G D K hl0 H.size h0 a9 (.ref a0) (.ref a1) (.ref a2) (.ref a3) (.ref a4) (.ref a5) (.ref a6) (.ref a7) (.int (nI 0)) ya (by omega) (by omega) yb (by omega) (by omega)) [0] rfl rfl mokh_yL_put w_946 w_947 ⟨Nat.le_of_ble_eq_true rfl, Nat.le_of_ble_eq_true rfl⟩ rfl hl.1 rfl (Nat.le_of_ble_eq_true rfl) dL_law_510 ⟨(by dsimp only [room_1]; omega), (by dsimp only [room_1]; omega)⟩) hP hD hS hA [0] [1] rfl rfl rfl (by decide) (w2 := fun u0 => [(h1, .inr (12, [.int (nI 0), .ref a8])), (h0, .inr (9, [.ref a0, .ref a1, .ref a2, .ref a3, .ref a4, .ref a5, .ref a6, .ref a7, .int (nI 0)]))]) (fun _ => rfl) (fun u0 H locs hP hD hS => ?_)
  refine lv_istore (lv' := [(5, .int (nI 1)), (0, .ref b), (1, .ref h0), (2, .ref h1), (3, .ref a9), (4, .int (nI 0))]) hx hb dL_law_513 hl (by decide) rfl (fun ls hl => ?_)
  refine lv_aload_n hx hb dL_law_515 rfl (lv_at hl 3 rfl) ?_
  refine lv_aload_n hx hb dL_law_516 rfl (lv_at hl 1 rfl) ?_
  refine lv_iload hx hb dL_law_517 (lv_at hl 5 rfl) ?_
  refine lv_iconst (v := nI 1) hx hb dL_law_519 (by decide +kernel) ?_
  refine lv_iadd hx hb dL_law_520 ?_
  refine w_toeq (show (nI 0) + (nI 1) = nI 1 by decide +kernel) ?_
  refine va_sld hx hb hX hbl hbA hS (vp_in_nI (n := 1) (by decide) (by decide)) dL_law_521 ?_
  refine w_toeq (show xs (nI 1).toNatClampNeg = nI ya by rw [nI_clamp (n := 1) (by decide)]; exact hx1) ?_
  refine lv_aload_n hx hb dL_law_522 rfl (lv_at hl 1 rfl) ?_
  refine lv_iload hx hb dL_law_523 (lv_at hl 5 rfl) ?_
  refine lv_iconst (v := nI 2) hx hb dL_law_525 (by decide +kernel) ?_
  refine lv_iadd hx hb dL_law_526 ?_
  refine w_toeq (show (nI 0) + (nI 2) = nI 2 by decide +kernel) ?_
  refine va_sld hx hb hX hbl hbA hS (vp_in_nI (n := 2) (by decide) (by decide)) dL_law_527 ?_
  refine w_toeq (show xs (nI 2).toNatClampNeg = nI yb by rw [nI_clamp (n := 2) (by decide)]; exact hx2) ?_
  refine k_i (wr := [(h0, .inr (9, [.ref a0, .ref a1, .ref a2, .ref a3, .ref a4, .ref a5, .ref a6, .ref a7, .int (nI 0)]))]) (run_V (rest := []) hx hb hml hown hts hK hP hD hS hA hm (C640_put l G D K H.size h1 (.ref a8) ya (by omega) (by omega) yb (by omega) (by omega)) [0] rfl rfl mok_yX12_put w_1913 w_1914 w_1915 (rcv hK hP 0 rfl rfl rfl) ⟨Nat.le_of_ble_eq_true rfl, Nat.le_of_ble_eq_true rfl⟩ rfl hl.1 rfl (Nat.le_of_ble_eq_true rfl) dL_law_528 ⟨(by dsimp only [room_1]; omega), (by dsimp only [room_1]; omega)⟩) hP hD hS hA [0] [1] rfl rfl rfl (by decide) (w2 := fun u1 => [(h0, .inr (9, [.ref a0, .ref a1, .ref a2, .ref a3, .ref a4, .ref a5, .ref a6, .ref a7, .int (nI 0)])), (h1, .inr (12, [.int (nI 1), .ref a8]))]) (fun _ => rfl) (fun u1 H locs hP hD hS => ?_)
  refine lv_istore (lv' := [(6, .int (nI 0)), (5, .int (nI 1)), (0, .ref b), (1, .ref h0), (2, .ref h1), (3, .ref a9), (4, .int (nI 0))]) hx hb dL_law_531 hl (by decide) rfl (fun ls hl => ?_)
  refine lv_aload_n hx hb dL_law_533 rfl (lv_at hl 4 rfl) ?_
  refine k_i (wr := [(h0, .inr (9, [.ref a0, .ref a1, .ref a2, .ref a3, .ref a4, .ref a5, .ref a6, .ref a7, .int (nI 0)]))]) (run_V (rest := []) hx hb hml hown hts hK hP hD hS hA hm (C1059_thrown l G D K H.size h1 (.ref a8)) [1] rfl rfl mok_yX12_thrown w_1300 w_1301 w_1302 (rcv hK hP 1 rfl rfl rfl) ⟨Nat.le_of_ble_eq_true rfl, Nat.le_of_ble_eq_true rfl⟩ rfl hl.1 rfl (Nat.le_of_ble_eq_true rfl) dL_law_534 ⟨(by dsimp only [room_1]; omega), (by dsimp only [room_1]; omega)⟩) hP hD hS hA [1] [0] rfl rfl rfl (by decide) (w2 := fun u2 => [(h0, .inr (9, [.ref a0, .ref a1, .ref a2, .ref a3, .ref a4, .ref a5, .ref a6, .ref a7, .int (nI 0)])), (h1, .inr (12, [.int (nI 1), .ref a8]))]) (fun _ => rfl) (fun u2 H locs hP hD hS => ?_)
  refine lv_iload hx hb dL_law_537 (lv_at hl 1 rfl) ?_
  refine lv_icmp_eq (tgt := 544) hx hb dL_law_539 (by decide) (fun _ => ?_) (fun c9 => absurd (by decide +kernel) c9)
  refine lv_iload hx hb dL_law_544 (lv_at hl 1 rfl) ?_
  refine lv_if_ne (tgt := 561) hx hb dL_law_546 (by decide) (fun _ => ?_) (fun c9 => absurd c9 (by decide +kernel))
  refine lv_goto (tgt := 1762) hx hb dL_law_561 (by decide) ?_
  refine lv_iinc (v := nI 4) (lv' := [(4, .int (nI 4)), (6, .int (nI 0)), (5, .int (nI 1)), (0, .ref b), (1, .ref h0), (2, .ref h1), (3, .ref a9)]) hx hb dL_law_1762 hl (k := 6) rfl (by decide +kernel) (by decide) rfl (fun ls hl => ?_)
  refine lv_goto (tgt := 23) hx hb dL_law_1765 (by decide) ?_
  refine lv_iload hx hb dL_law_23 (lv_at hl 0 rfl) ?_
  refine lv_aload_n hx hb dL_law_25 rfl (lv_at hl 3 rfl) ?_
  refine va_slen hx hb hX hbl hbA hS dL_law_26 ?_
  refine w_toeq (show Int32.ofNat 4 = nI 4 from rfl) ?_
  refine lv_iconst (v := nI 4) hx hb dL_law_27 (by decide +kernel) ?_
  refine lv_isub hx hb dL_law_28 ?_
  refine w_toeq (show (nI 4) - (nI 4) = nI 0 by decide +kernel) ?_
  refine lv_icmp_gt (tgt := 1768) hx hb dL_law_29 (by decide) (fun _ => ?_) (fun c9 => absurd (by decide +kernel) c9)
  refine lv_iconst (v := nI 1) hx hb dL_law_1768 (by decide +kernel) ?_
  exact law_end hx hb hr hlk hS (by dsimp only; omega) (by dsimp only; omega) dL_law_1769
set_option maxHeartbeats 4000000 in
set_option maxRecDepth 100000 in
theorem LW148_put {p : Program} {e : Env} {s : State} {m : MethodId} {below : List Frame} {meth : Method} {c : Code} {l : Launch} {G : Nat → Nat} {D : va_G} {K : Nat → ClassId} {b : Nat} {xs : Nat → Int32} (hx : p.tables.exec = Jvm.exec) (hb : c.code = cL_law) (hr : meth.sig.returnType = some .boolean) (hlk : meth.locks = false) (hl0 : l.stackTraces = false) (hnc : Ncs s) (hml : c.maxLocals = 9) (hown : s.vm.findClass RL = some m.cls) (hts : ∀ w ∈ lw_gw, w.before #[Value.ref b] s = true) (hK : va_K D cl (tys K) s) (hm : Amb G (fun q : Nat => s.heap.size ≤ q) s s.heap) (hX : va_X b 4 xs s s.heap) (hbl : b < s.heap.size) {h0 h1 h2 h3 h4 h5 h6 h7 h8 a0 a1 a2 a3 a4 a5 a6 a7 a8 a9 a10 a11 a12 : Nat} (ya : Nat) (lya : 0 ≤ ya) (gya : ya ≤ 3) (hx1 : xs 1 = nI ya) (hx2 : xs 2 = (-1)) {H : Heap} {locs : List Loc} {cells slots : Nat} (hcs : cells ≤ 1000) (hss : slots ≤ 100000) (hP : va_P D cl [(h0, .inr (9, [.ref a0, .ref h1, .ref a1, .ref a2, .ref a3, .ref a4, .ref a5, .ref a6, .int (nI 0)])), (h1, .inr (4, [.ref a7, .ref h2, .ref a8, .int (nI 1)])), (h2, .inl (K 0, 32, .inr (.inr (.inr (.inr (fun _ => none)))))), (h3, .inl (K 3, 1, .inr (.inl (fun _ => 0)))), (h4, .inr (12, [.int (nI 0), .ref h5])), (h5, .inr (10, [.ref a9, .ref h6, .ref a10, .ref a11, .ref a12, .int (nI 0), .int (nI 0), .int (nI 60), .int (nI 0), .int (nI 2), .int (nI 0), .int (nI 0), .int (nI 0), .int (nI 0), .int (nI 0), .int (nI 0), .int (nI 0)])), (h6, .inr (13, [.int (nI 1), .ref h7, .int (nI 1)])), (h7, .inl (K 4, 10, .inr (.inr (.inr (.inr (va_up (fun _ => none) 0 (some h8))))))), (h8, .inl (K 2, 4, .inl (fun _ => (-1))))] H) (hD : va_D (fun q : Nat => s.heap.size ≤ q) [(h0, .inr (9, [.ref a0, .ref h1, .ref a1, .ref a2, .ref a3, .ref a4, .ref a5, .ref a6, .int (nI 0)])), (h1, .inr (4, [.ref a7, .ref h2, .ref a8, .int (nI 1)])), (h2, .inl (K 0, 32, .inr (.inr (.inr (.inr (fun _ => none)))))), (h3, .inl (K 3, 1, .inr (.inl (fun _ => 0)))), (h4, .inr (12, [.int (nI 0), .ref h5])), (h5, .inr (10, [.ref a9, .ref h6, .ref a10, .ref a11, .ref a12, .int (nI 0), .int (nI 0), .int (nI 60), .int (nI 0), .int (nI 2), .int (nI 0), .int (nI 0), .int (nI 0), .int (nI 0), .int (nI 0), .int (nI 0), .int (nI 0)])), (h6, .inr (13, [.int (nI 1), .ref h7, .int (nI 1)])), (h7, .inl (K 4, 10, .inr (.inr (.inr (.inr (va_up (fun _ => none) 0 (some h8))))))), (h8, .inl (K 2, 4, .inl (fun _ => (-1))))]) (hS : va_S (fun q : Nat => s.heap.size ≤ q) s.heap H locs) {ls : Array Slot} (hl : lv_has ls 9 [(0, .ref b), (1, .ref h0), (2, .ref h4), (3, .ref h3), (4, .int (nI 0))]) : W p l e room_1 s m #[Value.ref b] below meth c H locs cells slots (lw_Z below #[Value.ref b] s) (F0 m 496 ls []) := by
  have hA : ∀ q : Nat, s.heap.size ≤ q → (fun q : Nat => s.heap.size ≤ q) q := fun _ h => h
  have hbA : ¬ (fun q : Nat => s.heap.size ≤ q) b := Nat.not_le.mpr hbl
  refine lv_aload_n hx hb dL_law_496 rfl (lv_at hl 1 rfl) ?_
  refine lv_aload_n hx hb dL_law_497 rfl (lv_at hl 0 rfl) ?_
  refine lv_iload hx hb dL_law_498 (lv_at hl 4 rfl) ?_
  refine lv_iconst (v := nI 1) hx hb dL_law_500 (by decide +kernel) ?_
  refine lv_iadd hx hb dL_law_501 ?_
  refine w_toeq (show (nI 0) + (nI 1) = nI 1 by decide +kernel) ?_
  refine va_sld hx hb hX hbl hbA hS (vp_in_nI (n := 1) (by decide) (by decide)) dL_law_502 ?_
  refine w_toeq (show xs (nI 1).toNatClampNeg = nI ya by rw [nI_clamp (n := 1) (by decide)]; exact hx1) ?_
  refine lv_aload_n hx hb dL_law_503 rfl (lv_at hl 0 rfl) ?_
  refine lv_iload hx hb dL_law_504 (lv_at hl 4 rfl) ?_
  refine lv_iconst (v := nI 2) hx hb dL_law_506 (by decide +kernel) ?_
  refine lv_iadd hx hb dL_law_507 ?_
  refine w_toeq (show (nI 0) + (nI 2) = nI 2 by decide +kernel) ?_
  refine va_sld hx hb hX hbl hbA hS (vp_in_nI (n := 2) (by decide) (by decide)) dL_law_508 ?_
  refine w_toeq (show xs (nI 2).toNatClampNeg = (-1) by rw [nI_clamp (n := 2) (by decide)]; exact hx2) ?_
  refine lv_aload_n hx hb dL_law_509 rfl (lv_at hl 3 rfl) ?_
  refine k_i (wr := [(h4, .inr (12, [.int (nI 0), .ref h5])), (h5, .inr (10, [.ref a9, .ref h6, .ref a10, .ref a11, .ref a12, .int (nI 0), .int (nI 0), .int (nI 60), .int (nI 0), .int (nI 2), .int (nI 0), .int (nI 0), .int (nI 0), .int (nI 0), .int (nI 0), .int (nI 0), .int (nI 0)])), (h6, .inr (13, [.int (nI 1), .ref h7, .int (nI 1)])), (h7, .inl (K 4, 10, .inr (.inr (.inr (.inr (va_up (fun _ => none) 0 (some h8))))))), (h8, .inl (K 2, 4, .inl (fun _ => (-1))))]) (run_SW hnc (rest := []) hx hb hml hown hts hK hP hD hS hA hm (C1207_put l G D K H.size h0 h1 h2 h3 (.ref a0) (.ref a1) (.ref a2) (.ref a3) (.ref a4) (.ref a5) (.ref a6) (.int (nI 0)) (.ref a7) (.ref a8) (fun _ => 0) ya (by omega) (by omega)) [0, 1, 2, 3] rfl rfl mokh_yL_put w_946 w_947 ⟨Nat.le_of_ble_eq_true rfl, Nat.le_of_ble_eq_true rfl⟩ rfl hl.1 rfl (Nat.le_of_ble_eq_true rfl) dL_law_510 ⟨(by dsimp only [room_1]; omega), (by dsimp only [room_1]; omega)⟩) hP hD hS hA [0, 1, 2, 3] [4, 5, 6, 7, 8] rfl rfl rfl (by decide) (w2 := fun u0 => [(h4, .inr (12, [.int (nI 0), .ref h5])), (h5, .inr (10, [.ref a9, .ref h6, .ref a10, .ref a11, .ref a12, .int (nI 0), .int (nI 0), .int (nI 60), .int (nI 0), .int (nI 2), .int (nI 0), .int (nI 0), .int (nI 0), .int (nI 0), .int (nI 0), .int (nI 0), .int (nI 0)])), (h6, .inr (13, [.int (nI 1), .ref h7, .int (nI 1)])), (h7, .inl (K 4, 10, .inr (.inr (.inr (.inr (va_up (fun _ => none) 0 (some h8))))))), (h8, .inl (K 2, 4, .inl (fun _ => (-1)))), (h3, .inl (K 3, 1, .inr (.inl (vp_updL (fun _ => 0) 0 (-1))))), (h0, .inr (9, [.ref a0, .ref h1, .ref a1, .ref a2, .ref a3, .ref a4, .ref a5, .ref a6, .int (nI 0)])), (h2, .inl (K 0, 32, .inr (.inr (.inr (.inr (fun _ => none)))))), (h1, .inr (4, [.ref a7, .ref h2, .ref a8, .int (nI 1)]))]) (fun _ => rfl) (fun u0 H locs hP hD hS => ?_)
  refine lv_istore (lv' := [(5, .int (nI 0)), (0, .ref b), (1, .ref h0), (2, .ref h4), (3, .ref h3), (4, .int (nI 0))]) hx hb dL_law_513 hl (by decide) rfl (fun ls hl => ?_)
  refine lv_aload_n hx hb dL_law_515 rfl (lv_at hl 3 rfl) ?_
  refine lv_aload_n hx hb dL_law_516 rfl (lv_at hl 1 rfl) ?_
  refine lv_iload hx hb dL_law_517 (lv_at hl 5 rfl) ?_
  refine lv_iconst (v := nI 1) hx hb dL_law_519 (by decide +kernel) ?_
  refine lv_iadd hx hb dL_law_520 ?_
  refine w_toeq (show (nI 0) + (nI 1) = nI 1 by decide +kernel) ?_
  refine va_sld hx hb hX hbl hbA hS (vp_in_nI (n := 1) (by decide) (by decide)) dL_law_521 ?_
  refine w_toeq (show xs (nI 1).toNatClampNeg = nI ya by rw [nI_clamp (n := 1) (by decide)]; exact hx1) ?_
  refine lv_aload_n hx hb dL_law_522 rfl (lv_at hl 1 rfl) ?_
  refine lv_iload hx hb dL_law_523 (lv_at hl 5 rfl) ?_
  refine lv_iconst (v := nI 2) hx hb dL_law_525 (by decide +kernel) ?_
  refine lv_iadd hx hb dL_law_526 ?_
  refine w_toeq (show (nI 0) + (nI 2) = nI 2 by decide +kernel) ?_
  refine va_sld hx hb hX hbl hbA hS (vp_in_nI (n := 2) (by decide) (by decide)) dL_law_527 ?_
  refine w_toeq (show xs (nI 2).toNatClampNeg = (-1) by rw [nI_clamp (n := 2) (by decide)]; exact hx2) ?_
  refine k_i (wr := [(h3, .inl (K 3, 1, .inr (.inl (vp_updL (fun _ => 0) 0 (-1))))), (h0, .inr (9, [.ref a0, .ref h1, .ref a1, .ref a2, .ref a3, .ref a4, .ref a5, .ref a6, .int (nI 0)])), (h2, .inl (K 0, 32, .inr (.inr (.inr (.inr (fun _ => none)))))), (h1, .inr (4, [.ref a7, .ref h2, .ref a8, .int (nI 1)]))]) (run_V (rest := []) hx hb hml hown hts hK hP hD hS hA hm (C646_put l G D K H.size h4 h5 h6 h7 h8 (.ref a9) (.ref a10) (.ref a11) (.ref a12) (.int (nI 0)) (.int (nI 0)) (.int (nI 60)) (.int (nI 0)) (.int (nI 2)) (.int (nI 0)) (.int (nI 0)) (.int (nI 0)) (.int (nI 0)) (.int (nI 0)) (.int (nI 0)) (.int (nI 0)) (.int (nI 1)) ya (by omega) (by omega)) [0, 1, 2, 3, 4] rfl rfl mok_yX12_put w_1913 w_1914 w_1915 (rcv hK hP 0 rfl rfl rfl) ⟨Nat.le_of_ble_eq_true rfl, Nat.le_of_ble_eq_true rfl⟩ rfl hl.1 rfl (Nat.le_of_ble_eq_true rfl) dL_law_528 ⟨(by dsimp only [room_1]; omega), (by dsimp only [room_1]; omega)⟩) hP hD hS hA [0, 1, 2, 3, 4] [5, 6, 7, 8] rfl rfl rfl (by decide) (w2 := fun u1 => [(h3, .inl (K 3, 1, .inr (.inl (vp_updL (fun _ => 0) 0 (-1))))), (h0, .inr (9, [.ref a0, .ref h1, .ref a1, .ref a2, .ref a3, .ref a4, .ref a5, .ref a6, .int (nI 0)])), (h2, .inl (K 0, 32, .inr (.inr (.inr (.inr (fun _ => none)))))), (h1, .inr (4, [.ref a7, .ref h2, .ref a8, .int (nI 1)])), (h4, .inr (12, [.int (nI 0), .ref h5])), (h5, .inr (10, [.ref a9, .ref h6, .ref a10, .ref a11, .ref a12, .int (nI 0), .int (nI 0), .int (nI 60), .int (nI 0), .int (nI 2), .int (nI 0), .int (nI 0), .int (nI 0), .int (nI 0), .int (nI 0), .int (nI 0), .int (nI 0)])), (h8, .inl (K 2, 4, .inl (fun _ => (-1)))), (h6, .inr (13, [.int (nI 1), .ref h7, .int (nI 1)])), (h7, .inl (K 4, 10, .inr (.inr (.inr (.inr (va_up (fun _ => none) 0 (some h8)))))))]) (fun _ => rfl) (fun u1 H locs hP hD hS => ?_)
  refine lv_istore (lv' := [(6, .int (-1)), (5, .int (nI 0)), (0, .ref b), (1, .ref h0), (2, .ref h4), (3, .ref h3), (4, .int (nI 0))]) hx hb dL_law_531 hl (by decide) rfl (fun ls hl => ?_)
  refine lv_aload_n hx hb dL_law_533 rfl (lv_at hl 4 rfl) ?_
  refine k_i (wr := [(h3, .inl (K 3, 1, .inr (.inl (vp_updL (fun _ => 0) 0 (-1))))), (h0, .inr (9, [.ref a0, .ref h1, .ref a1, .ref a2, .ref a3, .ref a4, .ref a5, .ref a6, .int (nI 0)])), (h2, .inl (K 0, 32, .inr (.inr (.inr (.inr (fun _ => none)))))), (h1, .inr (4, [.ref a7, .ref h2, .ref a8, .int (nI 1)])), (h5, .inr (10, [.ref a9, .ref h6, .ref a10, .ref a11, .ref a12, .int (nI 0), .int (nI 0), .int (nI 60), .int (nI 0), .int (nI 2), .int (nI 0), .int (nI 0), .int (nI 0), .int (nI 0), .int (nI 0), .int (nI 0), .int (nI 0)])), (h8, .inl (K 2, 4, .inl (fun _ => (-1)))), (h6, .inr (13, [.int (nI 1), .ref h7, .int (nI 1)])), (h7, .inl (K 4, 10, .inr (.inr (.inr (.inr (va_up (fun _ => none) 0 (some h8)))))))]) (run_V (rest := []) hx hb hml hown hts hK hP hD hS hA hm (C1057_thrown l G D K H.size h4 (.ref h5)) [4] rfl rfl mok_yX12_thrown w_1300 w_1301 w_1302 (rcv hK hP 4 rfl rfl rfl) ⟨Nat.le_of_ble_eq_true rfl, Nat.le_of_ble_eq_true rfl⟩ rfl hl.1 rfl (Nat.le_of_ble_eq_true rfl) dL_law_534 ⟨(by dsimp only [room_1]; omega), (by dsimp only [room_1]; omega)⟩) hP hD hS hA [4] [0, 1, 2, 3, 5, 6, 7, 8] rfl rfl rfl (by decide) (w2 := fun u2 => [(h3, .inl (K 3, 1, .inr (.inl (vp_updL (fun _ => 0) 0 (-1))))), (h0, .inr (9, [.ref a0, .ref h1, .ref a1, .ref a2, .ref a3, .ref a4, .ref a5, .ref a6, .int (nI 0)])), (h2, .inl (K 0, 32, .inr (.inr (.inr (.inr (fun _ => none)))))), (h1, .inr (4, [.ref a7, .ref h2, .ref a8, .int (nI 1)])), (h5, .inr (10, [.ref a9, .ref h6, .ref a10, .ref a11, .ref a12, .int (nI 0), .int (nI 0), .int (nI 60), .int (nI 0), .int (nI 2), .int (nI 0), .int (nI 0), .int (nI 0), .int (nI 0), .int (nI 0), .int (nI 0), .int (nI 0)])), (h8, .inl (K 2, 4, .inl (fun _ => (-1)))), (h6, .inr (13, [.int (nI 1), .ref h7, .int (nI 1)])), (h7, .inl (K 4, 10, .inr (.inr (.inr (.inr (va_up (fun _ => none) 0 (some h8))))))), (h4, .inr (12, [.int (nI 0), .ref h5]))]) (fun _ => rfl) (fun u2 H locs hP hD hS => ?_)
  refine lv_iload hx hb dL_law_537 (lv_at hl 1 rfl) ?_
  refine lv_icmp_eq (tgt := 544) hx hb dL_law_539 (by decide) (fun _ => ?_) (fun c9 => absurd (by decide +kernel) c9)
  refine lv_iload hx hb dL_law_544 (lv_at hl 1 rfl) ?_
  refine lv_if_ne (tgt := 561) hx hb dL_law_546 (by decide) (fun c9 => absurd (by decide +kernel) c9) (fun _ => ?_)
  refine lv_aload_n hx hb dL_law_549 rfl (lv_at hl 5 rfl) ?_
  refine lv_iconst (v := nI 0) hx hb dL_law_550 (by decide +kernel) ?_
  refine r_lald (k := 0) hx hb hK hP 0 3 rfl rfl (Nat.le_of_ble_eq_true rfl) (by decide) (v := (-1)) rfl dL_law_551 ?_
  refine lv_iload hx hb dL_law_552 (lv_at hl 0 rfl) ?_
  refine lv_i2l (v := (-1)) hx hb dL_law_554 (by decide +kernel) ?_
  refine W.lcmp hx hb dL_law_555 ?_
  refine w_toeq (show lg_cmp (-1) (-1) = nI 0 by decide +kernel) ?_
  refine lv_if_eq (tgt := 561) hx hb dL_law_556 (by decide) (fun _ => ?_) (fun c9 => absurd (by decide +kernel) c9)
  refine lv_goto (tgt := 1762) hx hb dL_law_561 (by decide) ?_
  refine lv_iinc (v := nI 4) (lv' := [(4, .int (nI 4)), (6, .int (-1)), (5, .int (nI 0)), (0, .ref b), (1, .ref h0), (2, .ref h4), (3, .ref h3)]) hx hb dL_law_1762 hl (k := 6) rfl (by decide +kernel) (by decide) rfl (fun ls hl => ?_)
  refine lv_goto (tgt := 23) hx hb dL_law_1765 (by decide) ?_
  refine lv_iload hx hb dL_law_23 (lv_at hl 0 rfl) ?_
  refine lv_aload_n hx hb dL_law_25 rfl (lv_at hl 3 rfl) ?_
  refine va_slen hx hb hX hbl hbA hS dL_law_26 ?_
  refine w_toeq (show Int32.ofNat 4 = nI 4 from rfl) ?_
  refine lv_iconst (v := nI 4) hx hb dL_law_27 (by decide +kernel) ?_
  refine lv_isub hx hb dL_law_28 ?_
  refine w_toeq (show (nI 4) - (nI 4) = nI 0 by decide +kernel) ?_
  refine lv_icmp_gt (tgt := 1768) hx hb dL_law_29 (by decide) (fun _ => ?_) (fun c9 => absurd (by decide +kernel) c9)
  refine lv_iconst (v := nI 1) hx hb dL_law_1768 (by decide +kernel) ?_
  exact law_end hx hb hr hlk hS (by dsimp only; omega) (by dsimp only; omega) dL_law_1769
set_option maxHeartbeats 4000000 in
set_option maxRecDepth 100000 in
theorem LW149_put {p : Program} {e : Env} {s : State} {m : MethodId} {below : List Frame} {meth : Method} {c : Code} {l : Launch} {G : Nat → Nat} {D : va_G} {K : Nat → ClassId} {b : Nat} {xs : Nat → Int32} (hx : p.tables.exec = Jvm.exec) (hb : c.code = cL_law) (hr : meth.sig.returnType = some .boolean) (hlk : meth.locks = false) (hl0 : l.stackTraces = false) (hnc : Ncs s) (hml : c.maxLocals = 9) (hown : s.vm.findClass RL = some m.cls) (hts : ∀ w ∈ lw_gw, w.before #[Value.ref b] s = true) (hK : va_K D cl (tys K) s) (hm : Amb G (fun q : Nat => s.heap.size ≤ q) s s.heap) (hX : va_X b 4 xs s s.heap) (hbl : b < s.heap.size) {h0 h1 h2 h3 h4 h5 h6 h7 h8 a0 a1 a2 a3 a4 a5 a6 a7 a8 a9 a10 a11 a12 : Nat} (ya : Nat) (lya : 0 ≤ ya) (gya : ya ≤ 3) (hx1 : xs 1 = nI ya) (yb : Nat) (lyb : 0 ≤ yb) (gyb : yb ≤ 3) (hx2 : xs 2 = nI yb) {H : Heap} {locs : List Loc} {cells slots : Nat} (hcs : cells ≤ 1000) (hss : slots ≤ 100000) (hP : va_P D cl [(h0, .inr (9, [.ref a0, .ref h1, .ref a1, .ref a2, .ref a3, .ref a4, .ref a5, .ref a6, .int (nI 0)])), (h1, .inr (4, [.ref a7, .ref h2, .ref a8, .int (nI 1)])), (h2, .inl (K 0, 32, .inr (.inr (.inr (.inr (fun _ => none)))))), (h3, .inl (K 3, 1, .inr (.inl (fun _ => 0)))), (h4, .inr (12, [.int (nI 0), .ref h5])), (h5, .inr (10, [.ref a9, .ref h6, .ref a10, .ref a11, .ref a12, .int (nI 0), .int (nI 0), .int (nI 60), .int (nI 0), .int (nI 2), .int (nI 0), .int (nI 0), .int (nI 0), .int (nI 0), .int (nI 0), .int (nI 0), .int (nI 0)])), (h6, .inr (13, [.int (nI 1), .ref h7, .int (nI 1)])), (h7, .inl (K 4, 10, .inr (.inr (.inr (.inr (va_up (fun _ => none) 0 (some h8))))))), (h8, .inl (K 2, 4, .inl (fun _ => (-1))))] H) (hD : va_D (fun q : Nat => s.heap.size ≤ q) [(h0, .inr (9, [.ref a0, .ref h1, .ref a1, .ref a2, .ref a3, .ref a4, .ref a5, .ref a6, .int (nI 0)])), (h1, .inr (4, [.ref a7, .ref h2, .ref a8, .int (nI 1)])), (h2, .inl (K 0, 32, .inr (.inr (.inr (.inr (fun _ => none)))))), (h3, .inl (K 3, 1, .inr (.inl (fun _ => 0)))), (h4, .inr (12, [.int (nI 0), .ref h5])), (h5, .inr (10, [.ref a9, .ref h6, .ref a10, .ref a11, .ref a12, .int (nI 0), .int (nI 0), .int (nI 60), .int (nI 0), .int (nI 2), .int (nI 0), .int (nI 0), .int (nI 0), .int (nI 0), .int (nI 0), .int (nI 0), .int (nI 0)])), (h6, .inr (13, [.int (nI 1), .ref h7, .int (nI 1)])), (h7, .inl (K 4, 10, .inr (.inr (.inr (.inr (va_up (fun _ => none) 0 (some h8))))))), (h8, .inl (K 2, 4, .inl (fun _ => (-1))))]) (hS : va_S (fun q : Nat => s.heap.size ≤ q) s.heap H locs) {ls : Array Slot} (hl : lv_has ls 9 [(0, .ref b), (1, .ref h0), (2, .ref h4), (3, .ref h3), (4, .int (nI 0))]) : W p l e room_1 s m #[Value.ref b] below meth c H locs cells slots (lw_Z below #[Value.ref b] s) (F0 m 496 ls []) := by
  have hA : ∀ q : Nat, s.heap.size ≤ q → (fun q : Nat => s.heap.size ≤ q) q := fun _ h => h
  have hbA : ¬ (fun q : Nat => s.heap.size ≤ q) b := Nat.not_le.mpr hbl
  refine lv_aload_n hx hb dL_law_496 rfl (lv_at hl 1 rfl) ?_
  refine lv_aload_n hx hb dL_law_497 rfl (lv_at hl 0 rfl) ?_
  refine lv_iload hx hb dL_law_498 (lv_at hl 4 rfl) ?_
  refine lv_iconst (v := nI 1) hx hb dL_law_500 (by decide +kernel) ?_
  refine lv_iadd hx hb dL_law_501 ?_
  refine w_toeq (show (nI 0) + (nI 1) = nI 1 by decide +kernel) ?_
  refine va_sld hx hb hX hbl hbA hS (vp_in_nI (n := 1) (by decide) (by decide)) dL_law_502 ?_
  refine w_toeq (show xs (nI 1).toNatClampNeg = nI ya by rw [nI_clamp (n := 1) (by decide)]; exact hx1) ?_
  refine lv_aload_n hx hb dL_law_503 rfl (lv_at hl 0 rfl) ?_
  refine lv_iload hx hb dL_law_504 (lv_at hl 4 rfl) ?_
  refine lv_iconst (v := nI 2) hx hb dL_law_506 (by decide +kernel) ?_
  refine lv_iadd hx hb dL_law_507 ?_
  refine w_toeq (show (nI 0) + (nI 2) = nI 2 by decide +kernel) ?_
  refine va_sld hx hb hX hbl hbA hS (vp_in_nI (n := 2) (by decide) (by decide)) dL_law_508 ?_
  refine w_toeq (show xs (nI 2).toNatClampNeg = nI yb by rw [nI_clamp (n := 2) (by decide)]; exact hx2) ?_
  refine lv_aload_n hx hb dL_law_509 rfl (lv_at hl 3 rfl) ?_
  refine k_i (wr := [(h4, .inr (12, [.int (nI 0), .ref h5])), (h5, .inr (10, [.ref a9, .ref h6, .ref a10, .ref a11, .ref a12, .int (nI 0), .int (nI 0), .int (nI 60), .int (nI 0), .int (nI 2), .int (nI 0), .int (nI 0), .int (nI 0), .int (nI 0), .int (nI 0), .int (nI 0), .int (nI 0)])), (h6, .inr (13, [.int (nI 1), .ref h7, .int (nI 1)])), (h7, .inl (K 4, 10, .inr (.inr (.inr (.inr (va_up (fun _ => none) 0 (some h8))))))), (h8, .inl (K 2, 4, .inl (fun _ => (-1))))]) (run_SW hnc (rest := []) hx hb hml hown hts hK hP hD hS hA hm (C1208_put l G D K H.size h0 h1 h2 h3 (.ref a0) (.ref a1) (.ref a2) (.ref a3) (.ref a4) (.ref a5) (.ref a6) (.int (nI 0)) (.ref a7) (.ref a8) (fun _ => 0) ya (by omega) (by omega) yb (by omega) (by omega)) [0, 1, 2, 3] rfl rfl mokh_yL_put w_946 w_947 ⟨Nat.le_of_ble_eq_true rfl, Nat.le_of_ble_eq_true rfl⟩ rfl hl.1 rfl (Nat.le_of_ble_eq_true rfl) dL_law_510 ⟨(by dsimp only [room_1]; omega), (by dsimp only [room_1]; omega)⟩) hP hD hS hA [0, 1, 2, 3] [4, 5, 6, 7, 8] rfl rfl rfl (by decide) (w2 := fun u0 => [(h4, .inr (12, [.int (nI 0), .ref h5])), (h5, .inr (10, [.ref a9, .ref h6, .ref a10, .ref a11, .ref a12, .int (nI 0), .int (nI 0), .int (nI 60), .int (nI 0), .int (nI 2), .int (nI 0), .int (nI 0), .int (nI 0), .int (nI 0), .int (nI 0), .int (nI 0), .int (nI 0)])), (h6, .inr (13, [.int (nI 1), .ref h7, .int (nI 1)])), (h7, .inl (K 4, 10, .inr (.inr (.inr (.inr (va_up (fun _ => none) 0 (some h8))))))), (h8, .inl (K 2, 4, .inl (fun _ => (-1)))), (h3, .inl (K 3, 1, .inr (.inl (vp_updL (fun _ => 0) 0 (-1))))), (h0, .inr (9, [.ref a0, .ref h1, .ref a1, .ref a2, .ref a3, .ref a4, .ref a5, .ref a6, .int (nI 0)])), (h2, .inl (K 0, 32, .inr (.inr (.inr (.inr (fun _ => none)))))), (h1, .inr (4, [.ref a7, .ref h2, .ref a8, .int (nI 1)]))]) (fun _ => rfl) (fun u0 H locs hP hD hS => ?_)
  refine lv_istore (lv' := [(5, .int (nI 0)), (0, .ref b), (1, .ref h0), (2, .ref h4), (3, .ref h3), (4, .int (nI 0))]) hx hb dL_law_513 hl (by decide) rfl (fun ls hl => ?_)
  refine lv_aload_n hx hb dL_law_515 rfl (lv_at hl 3 rfl) ?_
  refine lv_aload_n hx hb dL_law_516 rfl (lv_at hl 1 rfl) ?_
  refine lv_iload hx hb dL_law_517 (lv_at hl 5 rfl) ?_
  refine lv_iconst (v := nI 1) hx hb dL_law_519 (by decide +kernel) ?_
  refine lv_iadd hx hb dL_law_520 ?_
  refine w_toeq (show (nI 0) + (nI 1) = nI 1 by decide +kernel) ?_
  refine va_sld hx hb hX hbl hbA hS (vp_in_nI (n := 1) (by decide) (by decide)) dL_law_521 ?_
  refine w_toeq (show xs (nI 1).toNatClampNeg = nI ya by rw [nI_clamp (n := 1) (by decide)]; exact hx1) ?_
  refine lv_aload_n hx hb dL_law_522 rfl (lv_at hl 1 rfl) ?_
  refine lv_iload hx hb dL_law_523 (lv_at hl 5 rfl) ?_
  refine lv_iconst (v := nI 2) hx hb dL_law_525 (by decide +kernel) ?_
  refine lv_iadd hx hb dL_law_526 ?_
  refine w_toeq (show (nI 0) + (nI 2) = nI 2 by decide +kernel) ?_
  refine va_sld hx hb hX hbl hbA hS (vp_in_nI (n := 2) (by decide) (by decide)) dL_law_527 ?_
  refine w_toeq (show xs (nI 2).toNatClampNeg = nI yb by rw [nI_clamp (n := 2) (by decide)]; exact hx2) ?_
  refine k_i (wr := [(h3, .inl (K 3, 1, .inr (.inl (vp_updL (fun _ => 0) 0 (-1))))), (h0, .inr (9, [.ref a0, .ref h1, .ref a1, .ref a2, .ref a3, .ref a4, .ref a5, .ref a6, .int (nI 0)])), (h2, .inl (K 0, 32, .inr (.inr (.inr (.inr (fun _ => none)))))), (h1, .inr (4, [.ref a7, .ref h2, .ref a8, .int (nI 1)]))]) (run_V (rest := []) hx hb hml hown hts hK hP hD hS hA hm (C648_put l G D K H.size h4 h5 h6 h7 h8 (.ref a9) (.ref a10) (.ref a11) (.ref a12) (.int (nI 0)) (.int (nI 0)) (.int (nI 60)) (.int (nI 0)) (.int (nI 2)) (.int (nI 0)) (.int (nI 0)) (.int (nI 0)) (.int (nI 0)) (.int (nI 0)) (.int (nI 0)) (.int (nI 0)) (.int (nI 1)) ya (by omega) (by omega) yb (by omega) (by omega)) [0, 1, 2, 3, 4] rfl rfl mok_yX12_put w_1913 w_1914 w_1915 (rcv hK hP 0 rfl rfl rfl) ⟨Nat.le_of_ble_eq_true rfl, Nat.le_of_ble_eq_true rfl⟩ rfl hl.1 rfl (Nat.le_of_ble_eq_true rfl) dL_law_528 ⟨(by dsimp only [room_1]; omega), (by dsimp only [room_1]; omega)⟩) hP hD hS hA [0, 1, 2, 3, 4] [5, 6, 7, 8] rfl rfl rfl (by decide) (w2 := fun u1 => [(h3, .inl (K 3, 1, .inr (.inl (vp_updL (fun _ => 0) 0 (-1))))), (h0, .inr (9, [.ref a0, .ref h1, .ref a1, .ref a2, .ref a3, .ref a4, .ref a5, .ref a6, .int (nI 0)])), (h2, .inl (K 0, 32, .inr (.inr (.inr (.inr (fun _ => none)))))), (h1, .inr (4, [.ref a7, .ref h2, .ref a8, .int (nI 1)])), (h4, .inr (12, [.int (nI 0), .ref h5])), (h5, .inr (10, [.ref a9, .ref h6, .ref a10, .ref a11, .ref a12, .int (nI 0), .int (nI 0), .int (nI 60), .int (nI 0), .int (nI 2), .int (nI 0), .int (nI 0), .int (nI 0), .int (nI 0), .int (nI 0), .int (nI 0), .int (nI 0)])), (h8, .inl (K 2, 4, .inl (fun _ => (-1)))), (h6, .inr (13, [.int (nI 1), .ref h7, .int (nI 1)])), (h7, .inl (K 4, 10, .inr (.inr (.inr (.inr (va_up (fun _ => none) 0 (some h8)))))))]) (fun _ => rfl) (fun u1 H locs hP hD hS => ?_)
  refine lv_istore (lv' := [(6, .int (-1)), (5, .int (nI 0)), (0, .ref b), (1, .ref h0), (2, .ref h4), (3, .ref h3), (4, .int (nI 0))]) hx hb dL_law_531 hl (by decide) rfl (fun ls hl => ?_)
  refine lv_aload_n hx hb dL_law_533 rfl (lv_at hl 4 rfl) ?_
  refine k_i (wr := [(h3, .inl (K 3, 1, .inr (.inl (vp_updL (fun _ => 0) 0 (-1))))), (h0, .inr (9, [.ref a0, .ref h1, .ref a1, .ref a2, .ref a3, .ref a4, .ref a5, .ref a6, .int (nI 0)])), (h2, .inl (K 0, 32, .inr (.inr (.inr (.inr (fun _ => none)))))), (h1, .inr (4, [.ref a7, .ref h2, .ref a8, .int (nI 1)])), (h5, .inr (10, [.ref a9, .ref h6, .ref a10, .ref a11, .ref a12, .int (nI 0), .int (nI 0), .int (nI 60), .int (nI 0), .int (nI 2), .int (nI 0), .int (nI 0), .int (nI 0), .int (nI 0), .int (nI 0), .int (nI 0), .int (nI 0)])), (h8, .inl (K 2, 4, .inl (fun _ => (-1)))), (h6, .inr (13, [.int (nI 1), .ref h7, .int (nI 1)])), (h7, .inl (K 4, 10, .inr (.inr (.inr (.inr (va_up (fun _ => none) 0 (some h8)))))))]) (run_V (rest := []) hx hb hml hown hts hK hP hD hS hA hm (C1057_thrown l G D K H.size h4 (.ref h5)) [4] rfl rfl mok_yX12_thrown w_1300 w_1301 w_1302 (rcv hK hP 4 rfl rfl rfl) ⟨Nat.le_of_ble_eq_true rfl, Nat.le_of_ble_eq_true rfl⟩ rfl hl.1 rfl (Nat.le_of_ble_eq_true rfl) dL_law_534 ⟨(by dsimp only [room_1]; omega), (by dsimp only [room_1]; omega)⟩) hP hD hS hA [4] [0, 1, 2, 3, 5, 6, 7, 8] rfl rfl rfl (by decide) (w2 := fun u2 => [(h3, .inl (K 3, 1, .inr (.inl (vp_updL (fun _ => 0) 0 (-1))))), (h0, .inr (9, [.ref a0, .ref h1, .ref a1, .ref a2, .ref a3, .ref a4, .ref a5, .ref a6, .int (nI 0)])), (h2, .inl (K 0, 32, .inr (.inr (.inr (.inr (fun _ => none)))))), (h1, .inr (4, [.ref a7, .ref h2, .ref a8, .int (nI 1)])), (h5, .inr (10, [.ref a9, .ref h6, .ref a10, .ref a11, .ref a12, .int (nI 0), .int (nI 0), .int (nI 60), .int (nI 0), .int (nI 2), .int (nI 0), .int (nI 0), .int (nI 0), .int (nI 0), .int (nI 0), .int (nI 0), .int (nI 0)])), (h8, .inl (K 2, 4, .inl (fun _ => (-1)))), (h6, .inr (13, [.int (nI 1), .ref h7, .int (nI 1)])), (h7, .inl (K 4, 10, .inr (.inr (.inr (.inr (va_up (fun _ => none) 0 (some h8))))))), (h4, .inr (12, [.int (nI 0), .ref h5]))]) (fun _ => rfl) (fun u2 H locs hP hD hS => ?_)
  refine lv_iload hx hb dL_law_537 (lv_at hl 1 rfl) ?_
  refine lv_icmp_eq (tgt := 544) hx hb dL_law_539 (by decide) (fun _ => ?_) (fun c9 => absurd (by decide +kernel) c9)
  refine lv_iload hx hb dL_law_544 (lv_at hl 1 rfl) ?_
  refine lv_if_ne (tgt := 561) hx hb dL_law_546 (by decide) (fun c9 => absurd (by decide +kernel) c9) (fun _ => ?_)
  refine lv_aload_n hx hb dL_law_549 rfl (lv_at hl 5 rfl) ?_
  refine lv_iconst (v := nI 0) hx hb dL_law_550 (by decide +kernel) ?_
  refine r_lald (k := 0) hx hb hK hP 0 3 rfl rfl (Nat.le_of_ble_eq_true rfl) (by decide) (v := (-1)) rfl dL_law_551 ?_
  refine lv_iload hx hb dL_law_552 (lv_at hl 0 rfl) ?_
  refine lv_i2l (v := (-1)) hx hb dL_law_554 (by decide +kernel) ?_
  refine W.lcmp hx hb dL_law_555 ?_
  refine w_toeq (show lg_cmp (-1) (-1) = nI 0 by decide +kernel) ?_
  refine lv_if_eq (tgt := 561) hx hb dL_law_556 (by decide) (fun _ => ?_) (fun c9 => absurd (by decide +kernel) c9)
  refine lv_goto (tgt := 1762) hx hb dL_law_561 (by decide) ?_
  refine lv_iinc (v := nI 4) (lv' := [(4, .int (nI 4)), (6, .int (-1)), (5, .int (nI 0)), (0, .ref b), (1, .ref h0), (2, .ref h4), (3, .ref h3)]) hx hb dL_law_1762 hl (k := 6) rfl (by decide +kernel) (by decide) rfl (fun ls hl => ?_)
  refine lv_goto (tgt := 23) hx hb dL_law_1765 (by decide) ?_
  refine lv_iload hx hb dL_law_23 (lv_at hl 0 rfl) ?_
  refine lv_aload_n hx hb dL_law_25 rfl (lv_at hl 3 rfl) ?_
  refine va_slen hx hb hX hbl hbA hS dL_law_26 ?_
  refine w_toeq (show Int32.ofNat 4 = nI 4 from rfl) ?_
  refine lv_iconst (v := nI 4) hx hb dL_law_27 (by decide +kernel) ?_
  refine lv_isub hx hb dL_law_28 ?_
  refine w_toeq (show (nI 4) - (nI 4) = nI 0 by decide +kernel) ?_
  refine lv_icmp_gt (tgt := 1768) hx hb dL_law_29 (by decide) (fun _ => ?_) (fun c9 => absurd (by decide +kernel) c9)
  refine lv_iconst (v := nI 1) hx hb dL_law_1768 (by decide +kernel) ?_
  exact law_end hx hb hr hlk hS (by dsimp only; omega) (by dsimp only; omega) dL_law_1769
set_option maxHeartbeats 4000000 in
set_option maxRecDepth 100000 in
theorem LW150_swap {p : Program} {e : Env} {s : State} {m : MethodId} {below : List Frame} {meth : Method} {c : Code} {l : Launch} {G : Nat → Nat} {D : va_G} {K : Nat → ClassId} {b : Nat} {xs : Nat → Int32} (hx : p.tables.exec = Jvm.exec) (hb : c.code = cL_law) (hr : meth.sig.returnType = some .boolean) (hlk : meth.locks = false) (hl0 : l.stackTraces = false) (hnc : Ncs s) (hml : c.maxLocals = 9) (hown : s.vm.findClass RL = some m.cls) (hts : ∀ w ∈ lw_gw, w.before #[Value.ref b] s = true) (hK : va_K D cl (tys K) s) (hm : Amb G (fun q : Nat => s.heap.size ≤ q) s s.heap) (hX : va_X b 4 xs s s.heap) (hbl : b < s.heap.size) {h0 h1 a0 a1 a2 a3 a4 a5 a6 a7 a8 a9 : Nat} (ya : Int32) (hya : ya < 0) (hx1 : xs 1 = ya) (yb : Int32) (hx2 : xs 2 = yb) {H : Heap} {locs : List Loc} {cells slots : Nat} (hcs : cells ≤ 1000) (hss : slots ≤ 100000) (hP : va_P D cl [(h0, .inr (9, [.ref a0, .ref a1, .ref a2, .ref a3, .ref a4, .ref a5, .ref a6, .ref a7, .int (nI 0)])), (h1, .inr (12, [.int (nI 0), .ref a8]))] H) (hD : va_D (fun q : Nat => s.heap.size ≤ q) [(h0, .inr (9, [.ref a0, .ref a1, .ref a2, .ref a3, .ref a4, .ref a5, .ref a6, .ref a7, .int (nI 0)])), (h1, .inr (12, [.int (nI 0), .ref a8]))]) (hS : va_S (fun q : Nat => s.heap.size ≤ q) s.heap H locs) {ls : Array Slot} (hl : lv_has ls 9 [(0, .ref b), (1, .ref h0), (2, .ref h1), (3, .ref a9), (4, .int (nI 0))]) : W p l e room_1 s m #[Value.ref b] below meth c H locs cells slots (lw_Z below #[Value.ref b] s) (F0 m 564 ls []) := by
  have hA : ∀ q : Nat, s.heap.size ≤ q → (fun q : Nat => s.heap.size ≤ q) q := fun _ h => h
  have hbA : ¬ (fun q : Nat => s.heap.size ≤ q) b := Nat.not_le.mpr hbl
  refine lv_aload_n hx hb dL_law_564 rfl (lv_at hl 1 rfl) ?_
  refine lv_aload_n hx hb dL_law_565 rfl (lv_at hl 0 rfl) ?_
  refine lv_iload hx hb dL_law_566 (lv_at hl 4 rfl) ?_
  refine lv_iconst (v := nI 1) hx hb dL_law_568 (by decide +kernel) ?_
  refine lv_iadd hx hb dL_law_569 ?_
  refine w_toeq (show (nI 0) + (nI 1) = nI 1 by decide +kernel) ?_
  refine va_sld hx hb hX hbl hbA hS (vp_in_nI (n := 1) (by decide) (by decide)) dL_law_570 ?_
  refine w_toeq (show xs (nI 1).toNatClampNeg = ya by rw [nI_clamp (n := 1) (by decide)]; exact hx1) ?_
  refine lv_aload_n hx hb dL_law_571 rfl (lv_at hl 0 rfl) ?_
  refine lv_iload hx hb dL_law_572 (lv_at hl 4 rfl) ?_
  refine lv_iconst (v := nI 2) hx hb dL_law_574 (by decide +kernel) ?_
  refine lv_iadd hx hb dL_law_575 ?_
  refine w_toeq (show (nI 0) + (nI 2) = nI 2 by decide +kernel) ?_
  refine va_sld hx hb hX hbl hbA hS (vp_in_nI (n := 2) (by decide) (by decide)) dL_law_576 ?_
  refine w_toeq (show xs (nI 2).toNatClampNeg = yb by rw [nI_clamp (n := 2) (by decide)]; exact hx2) ?_
  refine lv_aload_n hx hb dL_law_577 rfl (lv_at hl 3 rfl) ?_
  refine k_i (wr := [(h1, .inr (12, [.int (nI 0), .ref a8]))]) (run_SW hnc (rest := []) hx hb hml hown hts hK hP hD hS hA hm (C1209_swap l G D K hl0 H.size h0 a9 (.ref a0) (.ref a1) (.ref a2) (.ref a3) (.ref a4) (.ref a5) (.ref a6) (.ref a7) (.int (nI 0)) ya hya yb) [0] rfl rfl mokh_yL_swap w_953 w_954 ⟨Nat.le_of_ble_eq_true rfl, Nat.le_of_ble_eq_true rfl⟩ rfl hl.1 rfl (Nat.le_of_ble_eq_true rfl) dL_law_578 ⟨(by dsimp only [room_1]; omega), (by dsimp only [room_1]; omega)⟩) hP hD hS hA [0] [1] rfl rfl rfl (by decide) (w2 := fun u0 => [(h1, .inr (12, [.int (nI 0), .ref a8])), (h0, .inr (9, [.ref a0, .ref a1, .ref a2, .ref a3, .ref a4, .ref a5, .ref a6, .ref a7, .int (nI 0)]))]) (fun _ => rfl) (fun u0 H locs hP hD hS => ?_)
  refine lv_istore (lv' := [(5, .int (nI 1)), (0, .ref b), (1, .ref h0), (2, .ref h1), (3, .ref a9), (4, .int (nI 0))]) hx hb dL_law_581 hl (by decide) rfl (fun ls hl => ?_)
  refine lv_aload_n hx hb dL_law_583 rfl (lv_at hl 3 rfl) ?_
  refine lv_aload_n hx hb dL_law_584 rfl (lv_at hl 1 rfl) ?_
  refine lv_iload hx hb dL_law_585 (lv_at hl 5 rfl) ?_
  refine lv_iconst (v := nI 1) hx hb dL_law_587 (by decide +kernel) ?_
  refine lv_iadd hx hb dL_law_588 ?_
  refine w_toeq (show (nI 0) + (nI 1) = nI 1 by decide +kernel) ?_
  refine va_sld hx hb hX hbl hbA hS (vp_in_nI (n := 1) (by decide) (by decide)) dL_law_589 ?_
  refine w_toeq (show xs (nI 1).toNatClampNeg = ya by rw [nI_clamp (n := 1) (by decide)]; exact hx1) ?_
  refine lv_aload_n hx hb dL_law_590 rfl (lv_at hl 1 rfl) ?_
  refine lv_iload hx hb dL_law_591 (lv_at hl 5 rfl) ?_
  refine lv_iconst (v := nI 2) hx hb dL_law_593 (by decide +kernel) ?_
  refine lv_iadd hx hb dL_law_594 ?_
  refine w_toeq (show (nI 0) + (nI 2) = nI 2 by decide +kernel) ?_
  refine va_sld hx hb hX hbl hbA hS (vp_in_nI (n := 2) (by decide) (by decide)) dL_law_595 ?_
  refine w_toeq (show xs (nI 2).toNatClampNeg = yb by rw [nI_clamp (n := 2) (by decide)]; exact hx2) ?_
  refine k_i (wr := [(h0, .inr (9, [.ref a0, .ref a1, .ref a2, .ref a3, .ref a4, .ref a5, .ref a6, .ref a7, .int (nI 0)]))]) (run_V (rest := []) hx hb hml hown hts hK hP hD hS hA hm (C650_swap l G D K H.size h1 (.ref a8) ya hya yb) [0] rfl rfl mok_yX12_swap w_1917 w_1918 w_1919 (rcv hK hP 0 rfl rfl rfl) ⟨Nat.le_of_ble_eq_true rfl, Nat.le_of_ble_eq_true rfl⟩ rfl hl.1 rfl (Nat.le_of_ble_eq_true rfl) dL_law_596 ⟨(by dsimp only [room_1]; omega), (by dsimp only [room_1]; omega)⟩) hP hD hS hA [0] [1] rfl rfl rfl (by decide) (w2 := fun u1 => [(h0, .inr (9, [.ref a0, .ref a1, .ref a2, .ref a3, .ref a4, .ref a5, .ref a6, .ref a7, .int (nI 0)])), (h1, .inr (12, [.int (nI 1), .ref a8]))]) (fun _ => rfl) (fun u1 H locs hP hD hS => ?_)
  refine lv_istore (lv' := [(6, .int (nI 0)), (5, .int (nI 1)), (0, .ref b), (1, .ref h0), (2, .ref h1), (3, .ref a9), (4, .int (nI 0))]) hx hb dL_law_599 hl (by decide) rfl (fun ls hl => ?_)
  refine lv_aload_n hx hb dL_law_601 rfl (lv_at hl 4 rfl) ?_
  refine k_i (wr := [(h0, .inr (9, [.ref a0, .ref a1, .ref a2, .ref a3, .ref a4, .ref a5, .ref a6, .ref a7, .int (nI 0)]))]) (run_V (rest := []) hx hb hml hown hts hK hP hD hS hA hm (C1059_thrown l G D K H.size h1 (.ref a8)) [1] rfl rfl mok_yX12_thrown w_1300 w_1301 w_1302 (rcv hK hP 1 rfl rfl rfl) ⟨Nat.le_of_ble_eq_true rfl, Nat.le_of_ble_eq_true rfl⟩ rfl hl.1 rfl (Nat.le_of_ble_eq_true rfl) dL_law_602 ⟨(by dsimp only [room_1]; omega), (by dsimp only [room_1]; omega)⟩) hP hD hS hA [1] [0] rfl rfl rfl (by decide) (w2 := fun u2 => [(h0, .inr (9, [.ref a0, .ref a1, .ref a2, .ref a3, .ref a4, .ref a5, .ref a6, .ref a7, .int (nI 0)])), (h1, .inr (12, [.int (nI 1), .ref a8]))]) (fun _ => rfl) (fun u2 H locs hP hD hS => ?_)
  refine lv_iload hx hb dL_law_605 (lv_at hl 1 rfl) ?_
  refine lv_icmp_eq (tgt := 612) hx hb dL_law_607 (by decide) (fun _ => ?_) (fun c9 => absurd (by decide +kernel) c9)
  refine lv_iload hx hb dL_law_612 (lv_at hl 1 rfl) ?_
  refine lv_if_ne (tgt := 629) hx hb dL_law_614 (by decide) (fun _ => ?_) (fun c9 => absurd c9 (by decide +kernel))
  refine lv_goto (tgt := 1762) hx hb dL_law_629 (by decide) ?_
  refine lv_iinc (v := nI 4) (lv' := [(4, .int (nI 4)), (6, .int (nI 0)), (5, .int (nI 1)), (0, .ref b), (1, .ref h0), (2, .ref h1), (3, .ref a9)]) hx hb dL_law_1762 hl (k := 6) rfl (by decide +kernel) (by decide) rfl (fun ls hl => ?_)
  refine lv_goto (tgt := 23) hx hb dL_law_1765 (by decide) ?_
  refine lv_iload hx hb dL_law_23 (lv_at hl 0 rfl) ?_
  refine lv_aload_n hx hb dL_law_25 rfl (lv_at hl 3 rfl) ?_
  refine va_slen hx hb hX hbl hbA hS dL_law_26 ?_
  refine w_toeq (show Int32.ofNat 4 = nI 4 from rfl) ?_
  refine lv_iconst (v := nI 4) hx hb dL_law_27 (by decide +kernel) ?_
  refine lv_isub hx hb dL_law_28 ?_
  refine w_toeq (show (nI 4) - (nI 4) = nI 0 by decide +kernel) ?_
  refine lv_icmp_gt (tgt := 1768) hx hb dL_law_29 (by decide) (fun _ => ?_) (fun c9 => absurd (by decide +kernel) c9)
  refine lv_iconst (v := nI 1) hx hb dL_law_1768 (by decide +kernel) ?_
  exact law_end hx hb hr hlk hS (by dsimp only; omega) (by dsimp only; omega) dL_law_1769
set_option maxHeartbeats 4000000 in
set_option maxRecDepth 100000 in
theorem LW151_swap {p : Program} {e : Env} {s : State} {m : MethodId} {below : List Frame} {meth : Method} {c : Code} {l : Launch} {G : Nat → Nat} {D : va_G} {K : Nat → ClassId} {b : Nat} {xs : Nat → Int32} (hx : p.tables.exec = Jvm.exec) (hb : c.code = cL_law) (hr : meth.sig.returnType = some .boolean) (hlk : meth.locks = false) (hl0 : l.stackTraces = false) (hnc : Ncs s) (hml : c.maxLocals = 9) (hown : s.vm.findClass RL = some m.cls) (hts : ∀ w ∈ lw_gw, w.before #[Value.ref b] s = true) (hK : va_K D cl (tys K) s) (hm : Amb G (fun q : Nat => s.heap.size ≤ q) s s.heap) (hX : va_X b 4 xs s s.heap) (hbl : b < s.heap.size) {h0 h1 a0 a1 a2 a3 a4 a5 a6 a7 a8 a9 : Nat} (ya : Nat) (lya : 4 ≤ ya) (gya : ya ≤ 2147483647) (hx1 : xs 1 = nI ya) (yb : Int32) (hx2 : xs 2 = yb) {H : Heap} {locs : List Loc} {cells slots : Nat} (hcs : cells ≤ 1000) (hss : slots ≤ 100000) (hP : va_P D cl [(h0, .inr (9, [.ref a0, .ref a1, .ref a2, .ref a3, .ref a4, .ref a5, .ref a6, .ref a7, .int (nI 0)])), (h1, .inr (12, [.int (nI 0), .ref a8]))] H) (hD : va_D (fun q : Nat => s.heap.size ≤ q) [(h0, .inr (9, [.ref a0, .ref a1, .ref a2, .ref a3, .ref a4, .ref a5, .ref a6, .ref a7, .int (nI 0)])), (h1, .inr (12, [.int (nI 0), .ref a8]))]) (hS : va_S (fun q : Nat => s.heap.size ≤ q) s.heap H locs) {ls : Array Slot} (hl : lv_has ls 9 [(0, .ref b), (1, .ref h0), (2, .ref h1), (3, .ref a9), (4, .int (nI 0))]) : W p l e room_1 s m #[Value.ref b] below meth c H locs cells slots (lw_Z below #[Value.ref b] s) (F0 m 564 ls []) := by
  have hA : ∀ q : Nat, s.heap.size ≤ q → (fun q : Nat => s.heap.size ≤ q) q := fun _ h => h
  have hbA : ¬ (fun q : Nat => s.heap.size ≤ q) b := Nat.not_le.mpr hbl
  refine lv_aload_n hx hb dL_law_564 rfl (lv_at hl 1 rfl) ?_
  refine lv_aload_n hx hb dL_law_565 rfl (lv_at hl 0 rfl) ?_
  refine lv_iload hx hb dL_law_566 (lv_at hl 4 rfl) ?_
  refine lv_iconst (v := nI 1) hx hb dL_law_568 (by decide +kernel) ?_
  refine lv_iadd hx hb dL_law_569 ?_
  refine w_toeq (show (nI 0) + (nI 1) = nI 1 by decide +kernel) ?_
  refine va_sld hx hb hX hbl hbA hS (vp_in_nI (n := 1) (by decide) (by decide)) dL_law_570 ?_
  refine w_toeq (show xs (nI 1).toNatClampNeg = nI ya by rw [nI_clamp (n := 1) (by decide)]; exact hx1) ?_
  refine lv_aload_n hx hb dL_law_571 rfl (lv_at hl 0 rfl) ?_
  refine lv_iload hx hb dL_law_572 (lv_at hl 4 rfl) ?_
  refine lv_iconst (v := nI 2) hx hb dL_law_574 (by decide +kernel) ?_
  refine lv_iadd hx hb dL_law_575 ?_
  refine w_toeq (show (nI 0) + (nI 2) = nI 2 by decide +kernel) ?_
  refine va_sld hx hb hX hbl hbA hS (vp_in_nI (n := 2) (by decide) (by decide)) dL_law_576 ?_
  refine w_toeq (show xs (nI 2).toNatClampNeg = yb by rw [nI_clamp (n := 2) (by decide)]; exact hx2) ?_
  refine lv_aload_n hx hb dL_law_577 rfl (lv_at hl 3 rfl) ?_
  refine k_i (wr := [(h1, .inr (12, [.int (nI 0), .ref a8]))]) (run_SW hnc (rest := []) hx hb hml hown hts hK hP hD hS hA hm (C1210_swap l G D K hl0 H.size h0 a9 (.ref a0) (.ref a1) (.ref a2) (.ref a3) (.ref a4) (.ref a5) (.ref a6) (.ref a7) (.int (nI 0)) ya (by omega) (by omega) yb) [0] rfl rfl mokh_yL_swap w_953 w_954 ⟨Nat.le_of_ble_eq_true rfl, Nat.le_of_ble_eq_true rfl⟩ rfl hl.1 rfl (Nat.le_of_ble_eq_true rfl) dL_law_578 ⟨(by dsimp only [room_1]; omega), (by dsimp only [room_1]; omega)⟩) hP hD hS hA [0] [1] rfl rfl rfl (by decide) (w2 := fun u0 => [(h1, .inr (12, [.int (nI 0), .ref a8])), (h0, .inr (9, [.ref a0, .ref a1, .ref a2, .ref a3, .ref a4, .ref a5, .ref a6, .ref a7, .int (nI 0)]))]) (fun _ => rfl) (fun u0 H locs hP hD hS => ?_)
  refine lv_istore (lv' := [(5, .int (nI 1)), (0, .ref b), (1, .ref h0), (2, .ref h1), (3, .ref a9), (4, .int (nI 0))]) hx hb dL_law_581 hl (by decide) rfl (fun ls hl => ?_)
  refine lv_aload_n hx hb dL_law_583 rfl (lv_at hl 3 rfl) ?_
  refine lv_aload_n hx hb dL_law_584 rfl (lv_at hl 1 rfl) ?_
  refine lv_iload hx hb dL_law_585 (lv_at hl 5 rfl) ?_
  refine lv_iconst (v := nI 1) hx hb dL_law_587 (by decide +kernel) ?_
  refine lv_iadd hx hb dL_law_588 ?_
  refine w_toeq (show (nI 0) + (nI 1) = nI 1 by decide +kernel) ?_
  refine va_sld hx hb hX hbl hbA hS (vp_in_nI (n := 1) (by decide) (by decide)) dL_law_589 ?_
  refine w_toeq (show xs (nI 1).toNatClampNeg = nI ya by rw [nI_clamp (n := 1) (by decide)]; exact hx1) ?_
  refine lv_aload_n hx hb dL_law_590 rfl (lv_at hl 1 rfl) ?_
  refine lv_iload hx hb dL_law_591 (lv_at hl 5 rfl) ?_
  refine lv_iconst (v := nI 2) hx hb dL_law_593 (by decide +kernel) ?_
  refine lv_iadd hx hb dL_law_594 ?_
  refine w_toeq (show (nI 0) + (nI 2) = nI 2 by decide +kernel) ?_
  refine va_sld hx hb hX hbl hbA hS (vp_in_nI (n := 2) (by decide) (by decide)) dL_law_595 ?_
  refine w_toeq (show xs (nI 2).toNatClampNeg = yb by rw [nI_clamp (n := 2) (by decide)]; exact hx2) ?_
  refine k_i (wr := [(h0, .inr (9, [.ref a0, .ref a1, .ref a2, .ref a3, .ref a4, .ref a5, .ref a6, .ref a7, .int (nI 0)]))]) (run_V (rest := []) hx hb hml hown hts hK hP hD hS hA hm (C652_swap l G D K H.size h1 (.ref a8) ya (by omega) (by omega) yb) [0] rfl rfl mok_yX12_swap w_1917 w_1918 w_1919 (rcv hK hP 0 rfl rfl rfl) ⟨Nat.le_of_ble_eq_true rfl, Nat.le_of_ble_eq_true rfl⟩ rfl hl.1 rfl (Nat.le_of_ble_eq_true rfl) dL_law_596 ⟨(by dsimp only [room_1]; omega), (by dsimp only [room_1]; omega)⟩) hP hD hS hA [0] [1] rfl rfl rfl (by decide) (w2 := fun u1 => [(h0, .inr (9, [.ref a0, .ref a1, .ref a2, .ref a3, .ref a4, .ref a5, .ref a6, .ref a7, .int (nI 0)])), (h1, .inr (12, [.int (nI 1), .ref a8]))]) (fun _ => rfl) (fun u1 H locs hP hD hS => ?_)
  refine lv_istore (lv' := [(6, .int (nI 0)), (5, .int (nI 1)), (0, .ref b), (1, .ref h0), (2, .ref h1), (3, .ref a9), (4, .int (nI 0))]) hx hb dL_law_599 hl (by decide) rfl (fun ls hl => ?_)
  refine lv_aload_n hx hb dL_law_601 rfl (lv_at hl 4 rfl) ?_
  refine k_i (wr := [(h0, .inr (9, [.ref a0, .ref a1, .ref a2, .ref a3, .ref a4, .ref a5, .ref a6, .ref a7, .int (nI 0)]))]) (run_V (rest := []) hx hb hml hown hts hK hP hD hS hA hm (C1059_thrown l G D K H.size h1 (.ref a8)) [1] rfl rfl mok_yX12_thrown w_1300 w_1301 w_1302 (rcv hK hP 1 rfl rfl rfl) ⟨Nat.le_of_ble_eq_true rfl, Nat.le_of_ble_eq_true rfl⟩ rfl hl.1 rfl (Nat.le_of_ble_eq_true rfl) dL_law_602 ⟨(by dsimp only [room_1]; omega), (by dsimp only [room_1]; omega)⟩) hP hD hS hA [1] [0] rfl rfl rfl (by decide) (w2 := fun u2 => [(h0, .inr (9, [.ref a0, .ref a1, .ref a2, .ref a3, .ref a4, .ref a5, .ref a6, .ref a7, .int (nI 0)])), (h1, .inr (12, [.int (nI 1), .ref a8]))]) (fun _ => rfl) (fun u2 H locs hP hD hS => ?_)
  refine lv_iload hx hb dL_law_605 (lv_at hl 1 rfl) ?_
  refine lv_icmp_eq (tgt := 612) hx hb dL_law_607 (by decide) (fun _ => ?_) (fun c9 => absurd (by decide +kernel) c9)
  refine lv_iload hx hb dL_law_612 (lv_at hl 1 rfl) ?_
  refine lv_if_ne (tgt := 629) hx hb dL_law_614 (by decide) (fun _ => ?_) (fun c9 => absurd c9 (by decide +kernel))
  refine lv_goto (tgt := 1762) hx hb dL_law_629 (by decide) ?_
  refine lv_iinc (v := nI 4) (lv' := [(4, .int (nI 4)), (6, .int (nI 0)), (5, .int (nI 1)), (0, .ref b), (1, .ref h0), (2, .ref h1), (3, .ref a9)]) hx hb dL_law_1762 hl (k := 6) rfl (by decide +kernel) (by decide) rfl (fun ls hl => ?_)
  refine lv_goto (tgt := 23) hx hb dL_law_1765 (by decide) ?_
  refine lv_iload hx hb dL_law_23 (lv_at hl 0 rfl) ?_
  refine lv_aload_n hx hb dL_law_25 rfl (lv_at hl 3 rfl) ?_
  refine va_slen hx hb hX hbl hbA hS dL_law_26 ?_
  refine w_toeq (show Int32.ofNat 4 = nI 4 from rfl) ?_
  refine lv_iconst (v := nI 4) hx hb dL_law_27 (by decide +kernel) ?_
  refine lv_isub hx hb dL_law_28 ?_
  refine w_toeq (show (nI 4) - (nI 4) = nI 0 by decide +kernel) ?_
  refine lv_icmp_gt (tgt := 1768) hx hb dL_law_29 (by decide) (fun _ => ?_) (fun c9 => absurd (by decide +kernel) c9)
  refine lv_iconst (v := nI 1) hx hb dL_law_1768 (by decide +kernel) ?_
  exact law_end hx hb hr hlk hS (by dsimp only; omega) (by dsimp only; omega) dL_law_1769
set_option maxHeartbeats 4000000 in
set_option maxRecDepth 100000 in
theorem LW152_swap {p : Program} {e : Env} {s : State} {m : MethodId} {below : List Frame} {meth : Method} {c : Code} {l : Launch} {G : Nat → Nat} {D : va_G} {K : Nat → ClassId} {b : Nat} {xs : Nat → Int32} (hx : p.tables.exec = Jvm.exec) (hb : c.code = cL_law) (hr : meth.sig.returnType = some .boolean) (hlk : meth.locks = false) (hl0 : l.stackTraces = false) (hnc : Ncs s) (hml : c.maxLocals = 9) (hown : s.vm.findClass RL = some m.cls) (hts : ∀ w ∈ lw_gw, w.before #[Value.ref b] s = true) (hK : va_K D cl (tys K) s) (hm : Amb G (fun q : Nat => s.heap.size ≤ q) s s.heap) (hX : va_X b 4 xs s s.heap) (hbl : b < s.heap.size) {h0 h1 a0 a1 a2 a3 a4 a5 a6 a7 a8 a9 : Nat} (ya : Nat) (lya : 0 ≤ ya) (gya : ya ≤ 3) (hx1 : xs 1 = nI ya) (yb : Int32) (hyb : yb < 0) (hx2 : xs 2 = yb) {H : Heap} {locs : List Loc} {cells slots : Nat} (hcs : cells ≤ 1000) (hss : slots ≤ 100000) (hP : va_P D cl [(h0, .inr (9, [.ref a0, .ref a1, .ref a2, .ref a3, .ref a4, .ref a5, .ref a6, .ref a7, .int (nI 0)])), (h1, .inr (12, [.int (nI 0), .ref a8]))] H) (hD : va_D (fun q : Nat => s.heap.size ≤ q) [(h0, .inr (9, [.ref a0, .ref a1, .ref a2, .ref a3, .ref a4, .ref a5, .ref a6, .ref a7, .int (nI 0)])), (h1, .inr (12, [.int (nI 0), .ref a8]))]) (hS : va_S (fun q : Nat => s.heap.size ≤ q) s.heap H locs) {ls : Array Slot} (hl : lv_has ls 9 [(0, .ref b), (1, .ref h0), (2, .ref h1), (3, .ref a9), (4, .int (nI 0))]) : W p l e room_1 s m #[Value.ref b] below meth c H locs cells slots (lw_Z below #[Value.ref b] s) (F0 m 564 ls []) := by
  have hA : ∀ q : Nat, s.heap.size ≤ q → (fun q : Nat => s.heap.size ≤ q) q := fun _ h => h
  have hbA : ¬ (fun q : Nat => s.heap.size ≤ q) b := Nat.not_le.mpr hbl
  refine lv_aload_n hx hb dL_law_564 rfl (lv_at hl 1 rfl) ?_
  refine lv_aload_n hx hb dL_law_565 rfl (lv_at hl 0 rfl) ?_
  refine lv_iload hx hb dL_law_566 (lv_at hl 4 rfl) ?_
  refine lv_iconst (v := nI 1) hx hb dL_law_568 (by decide +kernel) ?_
  refine lv_iadd hx hb dL_law_569 ?_
  refine w_toeq (show (nI 0) + (nI 1) = nI 1 by decide +kernel) ?_
  refine va_sld hx hb hX hbl hbA hS (vp_in_nI (n := 1) (by decide) (by decide)) dL_law_570 ?_
  refine w_toeq (show xs (nI 1).toNatClampNeg = nI ya by rw [nI_clamp (n := 1) (by decide)]; exact hx1) ?_
  refine lv_aload_n hx hb dL_law_571 rfl (lv_at hl 0 rfl) ?_
  refine lv_iload hx hb dL_law_572 (lv_at hl 4 rfl) ?_
  refine lv_iconst (v := nI 2) hx hb dL_law_574 (by decide +kernel) ?_
  refine lv_iadd hx hb dL_law_575 ?_
  refine w_toeq (show (nI 0) + (nI 2) = nI 2 by decide +kernel) ?_
  refine va_sld hx hb hX hbl hbA hS (vp_in_nI (n := 2) (by decide) (by decide)) dL_law_576 ?_
  refine w_toeq (show xs (nI 2).toNatClampNeg = yb by rw [nI_clamp (n := 2) (by decide)]; exact hx2) ?_
  refine lv_aload_n hx hb dL_law_577 rfl (lv_at hl 3 rfl) ?_
  refine k_i (wr := [(h1, .inr (12, [.int (nI 0), .ref a8]))]) (run_SW hnc (rest := []) hx hb hml hown hts hK hP hD hS hA hm (C1211_swap l G D K hl0 H.size h0 a9 (.ref a0) (.ref a1) (.ref a2) (.ref a3) (.ref a4) (.ref a5) (.ref a6) (.ref a7) (.int (nI 0)) ya (by omega) (by omega) yb hyb) [0] rfl rfl mokh_yL_swap w_953 w_954 ⟨Nat.le_of_ble_eq_true rfl, Nat.le_of_ble_eq_true rfl⟩ rfl hl.1 rfl (Nat.le_of_ble_eq_true rfl) dL_law_578 ⟨(by dsimp only [room_1]; omega), (by dsimp only [room_1]; omega)⟩) hP hD hS hA [0] [1] rfl rfl rfl (by decide) (w2 := fun u0 => [(h1, .inr (12, [.int (nI 0), .ref a8])), (h0, .inr (9, [.ref a0, .ref a1, .ref a2, .ref a3, .ref a4, .ref a5, .ref a6, .ref a7, .int (nI 0)]))]) (fun _ => rfl) (fun u0 H locs hP hD hS => ?_)
  refine lv_istore (lv' := [(5, .int (nI 1)), (0, .ref b), (1, .ref h0), (2, .ref h1), (3, .ref a9), (4, .int (nI 0))]) hx hb dL_law_581 hl (by decide) rfl (fun ls hl => ?_)
  refine lv_aload_n hx hb dL_law_583 rfl (lv_at hl 3 rfl) ?_
  refine lv_aload_n hx hb dL_law_584 rfl (lv_at hl 1 rfl) ?_
  refine lv_iload hx hb dL_law_585 (lv_at hl 5 rfl) ?_
  refine lv_iconst (v := nI 1) hx hb dL_law_587 (by decide +kernel) ?_
  refine lv_iadd hx hb dL_law_588 ?_
  refine w_toeq (show (nI 0) + (nI 1) = nI 1 by decide +kernel) ?_
  refine va_sld hx hb hX hbl hbA hS (vp_in_nI (n := 1) (by decide) (by decide)) dL_law_589 ?_
  refine w_toeq (show xs (nI 1).toNatClampNeg = nI ya by rw [nI_clamp (n := 1) (by decide)]; exact hx1) ?_
  refine lv_aload_n hx hb dL_law_590 rfl (lv_at hl 1 rfl) ?_
  refine lv_iload hx hb dL_law_591 (lv_at hl 5 rfl) ?_
  refine lv_iconst (v := nI 2) hx hb dL_law_593 (by decide +kernel) ?_
  refine lv_iadd hx hb dL_law_594 ?_
  refine w_toeq (show (nI 0) + (nI 2) = nI 2 by decide +kernel) ?_
  refine va_sld hx hb hX hbl hbA hS (vp_in_nI (n := 2) (by decide) (by decide)) dL_law_595 ?_
  refine w_toeq (show xs (nI 2).toNatClampNeg = yb by rw [nI_clamp (n := 2) (by decide)]; exact hx2) ?_
  refine k_i (wr := [(h0, .inr (9, [.ref a0, .ref a1, .ref a2, .ref a3, .ref a4, .ref a5, .ref a6, .ref a7, .int (nI 0)]))]) (run_V (rest := []) hx hb hml hown hts hK hP hD hS hA hm (C654_swap l G D K H.size h1 (.ref a8) ya (by omega) (by omega) yb hyb) [0] rfl rfl mok_yX12_swap w_1917 w_1918 w_1919 (rcv hK hP 0 rfl rfl rfl) ⟨Nat.le_of_ble_eq_true rfl, Nat.le_of_ble_eq_true rfl⟩ rfl hl.1 rfl (Nat.le_of_ble_eq_true rfl) dL_law_596 ⟨(by dsimp only [room_1]; omega), (by dsimp only [room_1]; omega)⟩) hP hD hS hA [0] [1] rfl rfl rfl (by decide) (w2 := fun u1 => [(h0, .inr (9, [.ref a0, .ref a1, .ref a2, .ref a3, .ref a4, .ref a5, .ref a6, .ref a7, .int (nI 0)])), (h1, .inr (12, [.int (nI 1), .ref a8]))]) (fun _ => rfl) (fun u1 H locs hP hD hS => ?_)
  refine lv_istore (lv' := [(6, .int (nI 0)), (5, .int (nI 1)), (0, .ref b), (1, .ref h0), (2, .ref h1), (3, .ref a9), (4, .int (nI 0))]) hx hb dL_law_599 hl (by decide) rfl (fun ls hl => ?_)
  refine lv_aload_n hx hb dL_law_601 rfl (lv_at hl 4 rfl) ?_
  refine k_i (wr := [(h0, .inr (9, [.ref a0, .ref a1, .ref a2, .ref a3, .ref a4, .ref a5, .ref a6, .ref a7, .int (nI 0)]))]) (run_V (rest := []) hx hb hml hown hts hK hP hD hS hA hm (C1059_thrown l G D K H.size h1 (.ref a8)) [1] rfl rfl mok_yX12_thrown w_1300 w_1301 w_1302 (rcv hK hP 1 rfl rfl rfl) ⟨Nat.le_of_ble_eq_true rfl, Nat.le_of_ble_eq_true rfl⟩ rfl hl.1 rfl (Nat.le_of_ble_eq_true rfl) dL_law_602 ⟨(by dsimp only [room_1]; omega), (by dsimp only [room_1]; omega)⟩) hP hD hS hA [1] [0] rfl rfl rfl (by decide) (w2 := fun u2 => [(h0, .inr (9, [.ref a0, .ref a1, .ref a2, .ref a3, .ref a4, .ref a5, .ref a6, .ref a7, .int (nI 0)])), (h1, .inr (12, [.int (nI 1), .ref a8]))]) (fun _ => rfl) (fun u2 H locs hP hD hS => ?_)
  refine lv_iload hx hb dL_law_605 (lv_at hl 1 rfl) ?_
  refine lv_icmp_eq (tgt := 612) hx hb dL_law_607 (by decide) (fun _ => ?_) (fun c9 => absurd (by decide +kernel) c9)
  refine lv_iload hx hb dL_law_612 (lv_at hl 1 rfl) ?_
  refine lv_if_ne (tgt := 629) hx hb dL_law_614 (by decide) (fun _ => ?_) (fun c9 => absurd c9 (by decide +kernel))
  refine lv_goto (tgt := 1762) hx hb dL_law_629 (by decide) ?_
  refine lv_iinc (v := nI 4) (lv' := [(4, .int (nI 4)), (6, .int (nI 0)), (5, .int (nI 1)), (0, .ref b), (1, .ref h0), (2, .ref h1), (3, .ref a9)]) hx hb dL_law_1762 hl (k := 6) rfl (by decide +kernel) (by decide) rfl (fun ls hl => ?_)
  refine lv_goto (tgt := 23) hx hb dL_law_1765 (by decide) ?_
  refine lv_iload hx hb dL_law_23 (lv_at hl 0 rfl) ?_
  refine lv_aload_n hx hb dL_law_25 rfl (lv_at hl 3 rfl) ?_
  refine va_slen hx hb hX hbl hbA hS dL_law_26 ?_
  refine w_toeq (show Int32.ofNat 4 = nI 4 from rfl) ?_
  refine lv_iconst (v := nI 4) hx hb dL_law_27 (by decide +kernel) ?_
  refine lv_isub hx hb dL_law_28 ?_
  refine w_toeq (show (nI 4) - (nI 4) = nI 0 by decide +kernel) ?_
  refine lv_icmp_gt (tgt := 1768) hx hb dL_law_29 (by decide) (fun _ => ?_) (fun c9 => absurd (by decide +kernel) c9)
  refine lv_iconst (v := nI 1) hx hb dL_law_1768 (by decide +kernel) ?_
  exact law_end hx hb hr hlk hS (by dsimp only; omega) (by dsimp only; omega) dL_law_1769
set_option maxHeartbeats 4000000 in
set_option maxRecDepth 100000 in
theorem LW153_swap {p : Program} {e : Env} {s : State} {m : MethodId} {below : List Frame} {meth : Method} {c : Code} {l : Launch} {G : Nat → Nat} {D : va_G} {K : Nat → ClassId} {b : Nat} {xs : Nat → Int32} (hx : p.tables.exec = Jvm.exec) (hb : c.code = cL_law) (hr : meth.sig.returnType = some .boolean) (hlk : meth.locks = false) (hl0 : l.stackTraces = false) (hnc : Ncs s) (hml : c.maxLocals = 9) (hown : s.vm.findClass RL = some m.cls) (hts : ∀ w ∈ lw_gw, w.before #[Value.ref b] s = true) (hK : va_K D cl (tys K) s) (hm : Amb G (fun q : Nat => s.heap.size ≤ q) s s.heap) (hX : va_X b 4 xs s s.heap) (hbl : b < s.heap.size) {h0 h1 a0 a1 a2 a3 a4 a5 a6 a7 a8 a9 : Nat} (ya : Nat) (lya : 0 ≤ ya) (gya : ya ≤ 3) (hx1 : xs 1 = nI ya) (yb : Nat) (lyb : 4 ≤ yb) (gyb : yb ≤ 2147483647) (hx2 : xs 2 = nI yb) {H : Heap} {locs : List Loc} {cells slots : Nat} (hcs : cells ≤ 1000) (hss : slots ≤ 100000) (hP : va_P D cl [(h0, .inr (9, [.ref a0, .ref a1, .ref a2, .ref a3, .ref a4, .ref a5, .ref a6, .ref a7, .int (nI 0)])), (h1, .inr (12, [.int (nI 0), .ref a8]))] H) (hD : va_D (fun q : Nat => s.heap.size ≤ q) [(h0, .inr (9, [.ref a0, .ref a1, .ref a2, .ref a3, .ref a4, .ref a5, .ref a6, .ref a7, .int (nI 0)])), (h1, .inr (12, [.int (nI 0), .ref a8]))]) (hS : va_S (fun q : Nat => s.heap.size ≤ q) s.heap H locs) {ls : Array Slot} (hl : lv_has ls 9 [(0, .ref b), (1, .ref h0), (2, .ref h1), (3, .ref a9), (4, .int (nI 0))]) : W p l e room_1 s m #[Value.ref b] below meth c H locs cells slots (lw_Z below #[Value.ref b] s) (F0 m 564 ls []) := by
  have hA : ∀ q : Nat, s.heap.size ≤ q → (fun q : Nat => s.heap.size ≤ q) q := fun _ h => h
  have hbA : ¬ (fun q : Nat => s.heap.size ≤ q) b := Nat.not_le.mpr hbl
  refine lv_aload_n hx hb dL_law_564 rfl (lv_at hl 1 rfl) ?_
  refine lv_aload_n hx hb dL_law_565 rfl (lv_at hl 0 rfl) ?_
  refine lv_iload hx hb dL_law_566 (lv_at hl 4 rfl) ?_
  refine lv_iconst (v := nI 1) hx hb dL_law_568 (by decide +kernel) ?_
  refine lv_iadd hx hb dL_law_569 ?_
  refine w_toeq (show (nI 0) + (nI 1) = nI 1 by decide +kernel) ?_
  refine va_sld hx hb hX hbl hbA hS (vp_in_nI (n := 1) (by decide) (by decide)) dL_law_570 ?_
  refine w_toeq (show xs (nI 1).toNatClampNeg = nI ya by rw [nI_clamp (n := 1) (by decide)]; exact hx1) ?_
  refine lv_aload_n hx hb dL_law_571 rfl (lv_at hl 0 rfl) ?_
  refine lv_iload hx hb dL_law_572 (lv_at hl 4 rfl) ?_
  refine lv_iconst (v := nI 2) hx hb dL_law_574 (by decide +kernel) ?_
  refine lv_iadd hx hb dL_law_575 ?_
  refine w_toeq (show (nI 0) + (nI 2) = nI 2 by decide +kernel) ?_
  refine va_sld hx hb hX hbl hbA hS (vp_in_nI (n := 2) (by decide) (by decide)) dL_law_576 ?_
  refine w_toeq (show xs (nI 2).toNatClampNeg = nI yb by rw [nI_clamp (n := 2) (by decide)]; exact hx2) ?_
  refine lv_aload_n hx hb dL_law_577 rfl (lv_at hl 3 rfl) ?_
  refine k_i (wr := [(h1, .inr (12, [.int (nI 0), .ref a8]))]) (run_SW hnc (rest := []) hx hb hml hown hts hK hP hD hS hA hm (C1212_swap l G D K hl0 H.size h0 a9 (.ref a0) (.ref a1) (.ref a2) (.ref a3) (.ref a4) (.ref a5) (.ref a6) (.ref a7) (.int (nI 0)) ya (by omega) (by omega) yb (by omega) (by omega)) [0] rfl rfl mokh_yL_swap w_953 w_954 ⟨Nat.le_of_ble_eq_true rfl, Nat.le_of_ble_eq_true rfl⟩ rfl hl.1 rfl (Nat.le_of_ble_eq_true rfl) dL_law_578 ⟨(by dsimp only [room_1]; omega), (by dsimp only [room_1]; omega)⟩) hP hD hS hA [0] [1] rfl rfl rfl (by decide) (w2 := fun u0 => [(h1, .inr (12, [.int (nI 0), .ref a8])), (h0, .inr (9, [.ref a0, .ref a1, .ref a2, .ref a3, .ref a4, .ref a5, .ref a6, .ref a7, .int (nI 0)]))]) (fun _ => rfl) (fun u0 H locs hP hD hS => ?_)
  refine lv_istore (lv' := [(5, .int (nI 1)), (0, .ref b), (1, .ref h0), (2, .ref h1), (3, .ref a9), (4, .int (nI 0))]) hx hb dL_law_581 hl (by decide) rfl (fun ls hl => ?_)
  refine lv_aload_n hx hb dL_law_583 rfl (lv_at hl 3 rfl) ?_
  refine lv_aload_n hx hb dL_law_584 rfl (lv_at hl 1 rfl) ?_
  refine lv_iload hx hb dL_law_585 (lv_at hl 5 rfl) ?_
  refine lv_iconst (v := nI 1) hx hb dL_law_587 (by decide +kernel) ?_
  refine lv_iadd hx hb dL_law_588 ?_
  refine w_toeq (show (nI 0) + (nI 1) = nI 1 by decide +kernel) ?_
  refine va_sld hx hb hX hbl hbA hS (vp_in_nI (n := 1) (by decide) (by decide)) dL_law_589 ?_
  refine w_toeq (show xs (nI 1).toNatClampNeg = nI ya by rw [nI_clamp (n := 1) (by decide)]; exact hx1) ?_
  refine lv_aload_n hx hb dL_law_590 rfl (lv_at hl 1 rfl) ?_
  refine lv_iload hx hb dL_law_591 (lv_at hl 5 rfl) ?_
  refine lv_iconst (v := nI 2) hx hb dL_law_593 (by decide +kernel) ?_
  refine lv_iadd hx hb dL_law_594 ?_
  refine w_toeq (show (nI 0) + (nI 2) = nI 2 by decide +kernel) ?_
  refine va_sld hx hb hX hbl hbA hS (vp_in_nI (n := 2) (by decide) (by decide)) dL_law_595 ?_
  refine w_toeq (show xs (nI 2).toNatClampNeg = nI yb by rw [nI_clamp (n := 2) (by decide)]; exact hx2) ?_
  refine k_i (wr := [(h0, .inr (9, [.ref a0, .ref a1, .ref a2, .ref a3, .ref a4, .ref a5, .ref a6, .ref a7, .int (nI 0)]))]) (run_V (rest := []) hx hb hml hown hts hK hP hD hS hA hm (C656_swap l G D K H.size h1 (.ref a8) ya (by omega) (by omega) yb (by omega) (by omega)) [0] rfl rfl mok_yX12_swap w_1917 w_1918 w_1919 (rcv hK hP 0 rfl rfl rfl) ⟨Nat.le_of_ble_eq_true rfl, Nat.le_of_ble_eq_true rfl⟩ rfl hl.1 rfl (Nat.le_of_ble_eq_true rfl) dL_law_596 ⟨(by dsimp only [room_1]; omega), (by dsimp only [room_1]; omega)⟩) hP hD hS hA [0] [1] rfl rfl rfl (by decide) (w2 := fun u1 => [(h0, .inr (9, [.ref a0, .ref a1, .ref a2, .ref a3, .ref a4, .ref a5, .ref a6, .ref a7, .int (nI 0)])), (h1, .inr (12, [.int (nI 1), .ref a8]))]) (fun _ => rfl) (fun u1 H locs hP hD hS => ?_)
  refine lv_istore (lv' := [(6, .int (nI 0)), (5, .int (nI 1)), (0, .ref b), (1, .ref h0), (2, .ref h1), (3, .ref a9), (4, .int (nI 0))]) hx hb dL_law_599 hl (by decide) rfl (fun ls hl => ?_)
  refine lv_aload_n hx hb dL_law_601 rfl (lv_at hl 4 rfl) ?_
  refine k_i (wr := [(h0, .inr (9, [.ref a0, .ref a1, .ref a2, .ref a3, .ref a4, .ref a5, .ref a6, .ref a7, .int (nI 0)]))]) (run_V (rest := []) hx hb hml hown hts hK hP hD hS hA hm (C1059_thrown l G D K H.size h1 (.ref a8)) [1] rfl rfl mok_yX12_thrown w_1300 w_1301 w_1302 (rcv hK hP 1 rfl rfl rfl) ⟨Nat.le_of_ble_eq_true rfl, Nat.le_of_ble_eq_true rfl⟩ rfl hl.1 rfl (Nat.le_of_ble_eq_true rfl) dL_law_602 ⟨(by dsimp only [room_1]; omega), (by dsimp only [room_1]; omega)⟩) hP hD hS hA [1] [0] rfl rfl rfl (by decide) (w2 := fun u2 => [(h0, .inr (9, [.ref a0, .ref a1, .ref a2, .ref a3, .ref a4, .ref a5, .ref a6, .ref a7, .int (nI 0)])), (h1, .inr (12, [.int (nI 1), .ref a8]))]) (fun _ => rfl) (fun u2 H locs hP hD hS => ?_)
  refine lv_iload hx hb dL_law_605 (lv_at hl 1 rfl) ?_
  refine lv_icmp_eq (tgt := 612) hx hb dL_law_607 (by decide) (fun _ => ?_) (fun c9 => absurd (by decide +kernel) c9)
  refine lv_iload hx hb dL_law_612 (lv_at hl 1 rfl) ?_
  refine lv_if_ne (tgt := 629) hx hb dL_law_614 (by decide) (fun _ => ?_) (fun c9 => absurd c9 (by decide +kernel))
  refine lv_goto (tgt := 1762) hx hb dL_law_629 (by decide) ?_
  refine lv_iinc (v := nI 4) (lv' := [(4, .int (nI 4)), (6, .int (nI 0)), (5, .int (nI 1)), (0, .ref b), (1, .ref h0), (2, .ref h1), (3, .ref a9)]) hx hb dL_law_1762 hl (k := 6) rfl (by decide +kernel) (by decide) rfl (fun ls hl => ?_)
  refine lv_goto (tgt := 23) hx hb dL_law_1765 (by decide) ?_
  refine lv_iload hx hb dL_law_23 (lv_at hl 0 rfl) ?_
  refine lv_aload_n hx hb dL_law_25 rfl (lv_at hl 3 rfl) ?_
  refine va_slen hx hb hX hbl hbA hS dL_law_26 ?_
  refine w_toeq (show Int32.ofNat 4 = nI 4 from rfl) ?_
  refine lv_iconst (v := nI 4) hx hb dL_law_27 (by decide +kernel) ?_
  refine lv_isub hx hb dL_law_28 ?_
  refine w_toeq (show (nI 4) - (nI 4) = nI 0 by decide +kernel) ?_
  refine lv_icmp_gt (tgt := 1768) hx hb dL_law_29 (by decide) (fun _ => ?_) (fun c9 => absurd (by decide +kernel) c9)
  refine lv_iconst (v := nI 1) hx hb dL_law_1768 (by decide +kernel) ?_
  exact law_end hx hb hr hlk hS (by dsimp only; omega) (by dsimp only; omega) dL_law_1769
set_option maxHeartbeats 4000000 in
set_option maxRecDepth 100000 in
theorem LW154_swap {p : Program} {e : Env} {s : State} {m : MethodId} {below : List Frame} {meth : Method} {c : Code} {l : Launch} {G : Nat → Nat} {D : va_G} {K : Nat → ClassId} {b : Nat} {xs : Nat → Int32} (hx : p.tables.exec = Jvm.exec) (hb : c.code = cL_law) (hr : meth.sig.returnType = some .boolean) (hlk : meth.locks = false) (hl0 : l.stackTraces = false) (hnc : Ncs s) (hml : c.maxLocals = 9) (hown : s.vm.findClass RL = some m.cls) (hts : ∀ w ∈ lw_gw, w.before #[Value.ref b] s = true) (hK : va_K D cl (tys K) s) (hm : Amb G (fun q : Nat => s.heap.size ≤ q) s s.heap) (hX : va_X b 4 xs s s.heap) (hbl : b < s.heap.size) {h0 h1 h2 h3 h4 h5 h6 h7 h8 h9 h10 a0 a1 a2 a3 a4 a5 a6 a7 a8 a9 a10 : Nat} (ya : Nat) (lya : 0 ≤ ya) (gya : ya ≤ 3) (hx1 : xs 1 = nI ya) (yb : Nat) (lyb : 0 ≤ yb) (gyb : yb ≤ 3) (hx2 : xs 2 = nI yb) {H : Heap} {locs : List Loc} {cells slots : Nat} (hcs : cells ≤ 1000) (hss : slots ≤ 100000) (hP : va_P D cl [(h0, .inr (9, [.ref a0, .ref h1, .ref a1, .ref a2, .ref a3, .ref a4, .ref a5, .ref a6, .int (nI 0)])), (h1, .inr (4, [.ref a7, .ref h3, .ref h2, .int (nI 1)])), (h2, .inl (K 0, 4, .inr (.inr (.inr (.inr (fun _ => none)))))), (h3, .inl (K 0, 32, .inr (.inr (.inr (.inr (fun _ => none)))))), (h4, .inl (K 3, 1, .inr (.inl (fun _ => 0)))), (h5, .inr (12, [.int (nI 0), .ref h6])), (h6, .inr (10, [.ref a8, .ref h7, .ref h10, .ref a9, .ref a10, .int (nI 0), .int (nI 0), .int (nI 60), .int (nI 0), .int (nI 2), .int (nI 0), .int (nI 0), .int (nI 0), .int (nI 0), .int (nI 0), .int (nI 0), .int (nI 0)])), (h7, .inr (13, [.int (nI 1), .ref h8, .int (nI 1)])), (h8, .inl (K 4, 10, .inr (.inr (.inr (.inr (va_up (fun _ => none) 0 (some h9))))))), (h9, .inl (K 2, 4, .inl (fun _ => (-1)))), (h10, .inl (K 2, 4, .inl (fun _ => (-1))))] H) (hD : va_D (fun q : Nat => s.heap.size ≤ q) [(h0, .inr (9, [.ref a0, .ref h1, .ref a1, .ref a2, .ref a3, .ref a4, .ref a5, .ref a6, .int (nI 0)])), (h1, .inr (4, [.ref a7, .ref h3, .ref h2, .int (nI 1)])), (h2, .inl (K 0, 4, .inr (.inr (.inr (.inr (fun _ => none)))))), (h3, .inl (K 0, 32, .inr (.inr (.inr (.inr (fun _ => none)))))), (h4, .inl (K 3, 1, .inr (.inl (fun _ => 0)))), (h5, .inr (12, [.int (nI 0), .ref h6])), (h6, .inr (10, [.ref a8, .ref h7, .ref h10, .ref a9, .ref a10, .int (nI 0), .int (nI 0), .int (nI 60), .int (nI 0), .int (nI 2), .int (nI 0), .int (nI 0), .int (nI 0), .int (nI 0), .int (nI 0), .int (nI 0), .int (nI 0)])), (h7, .inr (13, [.int (nI 1), .ref h8, .int (nI 1)])), (h8, .inl (K 4, 10, .inr (.inr (.inr (.inr (va_up (fun _ => none) 0 (some h9))))))), (h9, .inl (K 2, 4, .inl (fun _ => (-1)))), (h10, .inl (K 2, 4, .inl (fun _ => (-1))))]) (hS : va_S (fun q : Nat => s.heap.size ≤ q) s.heap H locs) {ls : Array Slot} (hl : lv_has ls 9 [(0, .ref b), (1, .ref h0), (2, .ref h5), (3, .ref h4), (4, .int (nI 0))]) : W p l e room_1 s m #[Value.ref b] below meth c H locs cells slots (lw_Z below #[Value.ref b] s) (F0 m 564 ls []) := by
  have hA : ∀ q : Nat, s.heap.size ≤ q → (fun q : Nat => s.heap.size ≤ q) q := fun _ h => h
  have hbA : ¬ (fun q : Nat => s.heap.size ≤ q) b := Nat.not_le.mpr hbl
  refine lv_aload_n hx hb dL_law_564 rfl (lv_at hl 1 rfl) ?_
  refine lv_aload_n hx hb dL_law_565 rfl (lv_at hl 0 rfl) ?_
  refine lv_iload hx hb dL_law_566 (lv_at hl 4 rfl) ?_
  refine lv_iconst (v := nI 1) hx hb dL_law_568 (by decide +kernel) ?_
  refine lv_iadd hx hb dL_law_569 ?_
  refine w_toeq (show (nI 0) + (nI 1) = nI 1 by decide +kernel) ?_
  refine va_sld hx hb hX hbl hbA hS (vp_in_nI (n := 1) (by decide) (by decide)) dL_law_570 ?_
  refine w_toeq (show xs (nI 1).toNatClampNeg = nI ya by rw [nI_clamp (n := 1) (by decide)]; exact hx1) ?_
  refine lv_aload_n hx hb dL_law_571 rfl (lv_at hl 0 rfl) ?_
  refine lv_iload hx hb dL_law_572 (lv_at hl 4 rfl) ?_
  refine lv_iconst (v := nI 2) hx hb dL_law_574 (by decide +kernel) ?_
  refine lv_iadd hx hb dL_law_575 ?_
  refine w_toeq (show (nI 0) + (nI 2) = nI 2 by decide +kernel) ?_
  refine va_sld hx hb hX hbl hbA hS (vp_in_nI (n := 2) (by decide) (by decide)) dL_law_576 ?_
  refine w_toeq (show xs (nI 2).toNatClampNeg = nI yb by rw [nI_clamp (n := 2) (by decide)]; exact hx2) ?_
  refine lv_aload_n hx hb dL_law_577 rfl (lv_at hl 3 rfl) ?_
  refine k_i (wr := [(h5, .inr (12, [.int (nI 0), .ref h6])), (h6, .inr (10, [.ref a8, .ref h7, .ref h10, .ref a9, .ref a10, .int (nI 0), .int (nI 0), .int (nI 60), .int (nI 0), .int (nI 2), .int (nI 0), .int (nI 0), .int (nI 0), .int (nI 0), .int (nI 0), .int (nI 0), .int (nI 0)])), (h7, .inr (13, [.int (nI 1), .ref h8, .int (nI 1)])), (h8, .inl (K 4, 10, .inr (.inr (.inr (.inr (va_up (fun _ => none) 0 (some h9))))))), (h9, .inl (K 2, 4, .inl (fun _ => (-1)))), (h10, .inl (K 2, 4, .inl (fun _ => (-1))))]) (run_SW hnc (rest := []) hx hb hml hown hts hK hP hD hS hA hm (C1213_swap l G D K H.size h0 h1 h2 h3 h4 (.ref a0) (.ref a1) (.ref a2) (.ref a3) (.ref a4) (.ref a5) (.ref a6) (.int (nI 0)) (.ref a7) (fun _ => 0) ya (by omega) (by omega) yb (by omega) (by omega)) [0, 1, 2, 3, 4] rfl rfl mokh_yL_swap w_953 w_954 ⟨Nat.le_of_ble_eq_true rfl, Nat.le_of_ble_eq_true rfl⟩ rfl hl.1 rfl (Nat.le_of_ble_eq_true rfl) dL_law_578 ⟨(by dsimp only [room_1]; omega), (by dsimp only [room_1]; omega)⟩) hP hD hS hA [0, 1, 2, 3, 4] [5, 6, 7, 8, 9, 10] rfl rfl rfl (by decide) (w2 := fun u0 => [(h5, .inr (12, [.int (nI 0), .ref h6])), (h6, .inr (10, [.ref a8, .ref h7, .ref h10, .ref a9, .ref a10, .int (nI 0), .int (nI 0), .int (nI 60), .int (nI 0), .int (nI 2), .int (nI 0), .int (nI 0), .int (nI 0), .int (nI 0), .int (nI 0), .int (nI 0), .int (nI 0)])), (h7, .inr (13, [.int (nI 1), .ref h8, .int (nI 1)])), (h8, .inl (K 4, 10, .inr (.inr (.inr (.inr (va_up (fun _ => none) 0 (some h9))))))), (h9, .inl (K 2, 4, .inl (fun _ => (-1)))), (h10, .inl (K 2, 4, .inl (fun _ => (-1)))), (h4, .inl (K 3, 1, .inr (.inl (vp_updL (fun _ => 0) 0 (-1))))), (h0, .inr (9, [.ref a0, .ref h1, .ref a1, .ref a2, .ref a3, .ref a4, .ref a5, .ref a6, .int (nI 0)])), (h2, .inl (K 0, 4, .inr (.inr (.inr (.inr (fun _ => none)))))), (h3, .inl (K 0, 32, .inr (.inr (.inr (.inr (fun _ => none)))))), (h1, .inr (4, [.ref a7, .ref h3, .ref h2, .int (nI 1)]))]) (fun _ => rfl) (fun u0 H locs hP hD hS => ?_)
  refine lv_istore (lv' := [(5, .int (nI 0)), (0, .ref b), (1, .ref h0), (2, .ref h5), (3, .ref h4), (4, .int (nI 0))]) hx hb dL_law_581 hl (by decide) rfl (fun ls hl => ?_)
  refine lv_aload_n hx hb dL_law_583 rfl (lv_at hl 3 rfl) ?_
  refine lv_aload_n hx hb dL_law_584 rfl (lv_at hl 1 rfl) ?_
  refine lv_iload hx hb dL_law_585 (lv_at hl 5 rfl) ?_
  refine lv_iconst (v := nI 1) hx hb dL_law_587 (by decide +kernel) ?_
  refine lv_iadd hx hb dL_law_588 ?_
  refine w_toeq (show (nI 0) + (nI 1) = nI 1 by decide +kernel) ?_
  refine va_sld hx hb hX hbl hbA hS (vp_in_nI (n := 1) (by decide) (by decide)) dL_law_589 ?_
  refine w_toeq (show xs (nI 1).toNatClampNeg = nI ya by rw [nI_clamp (n := 1) (by decide)]; exact hx1) ?_
  refine lv_aload_n hx hb dL_law_590 rfl (lv_at hl 1 rfl) ?_
  refine lv_iload hx hb dL_law_591 (lv_at hl 5 rfl) ?_
  refine lv_iconst (v := nI 2) hx hb dL_law_593 (by decide +kernel) ?_
  refine lv_iadd hx hb dL_law_594 ?_
  refine w_toeq (show (nI 0) + (nI 2) = nI 2 by decide +kernel) ?_
  refine va_sld hx hb hX hbl hbA hS (vp_in_nI (n := 2) (by decide) (by decide)) dL_law_595 ?_
  refine w_toeq (show xs (nI 2).toNatClampNeg = nI yb by rw [nI_clamp (n := 2) (by decide)]; exact hx2) ?_
  refine k_i (wr := [(h4, .inl (K 3, 1, .inr (.inl (vp_updL (fun _ => 0) 0 (-1))))), (h0, .inr (9, [.ref a0, .ref h1, .ref a1, .ref a2, .ref a3, .ref a4, .ref a5, .ref a6, .int (nI 0)])), (h2, .inl (K 0, 4, .inr (.inr (.inr (.inr (fun _ => none)))))), (h3, .inl (K 0, 32, .inr (.inr (.inr (.inr (fun _ => none)))))), (h1, .inr (4, [.ref a7, .ref h3, .ref h2, .int (nI 1)]))]) (run_V (rest := []) hx hb hml hown hts hK hP hD hS hA hm (C660_swap l G D K H.size h5 h6 h7 h8 h9 h10 (.ref a8) (.ref a9) (.ref a10) (.int (nI 0)) (.int (nI 0)) (.int (nI 60)) (.int (nI 0)) (.int (nI 2)) (.int (nI 0)) (.int (nI 0)) (.int (nI 0)) (.int (nI 0)) (.int (nI 0)) (.int (nI 0)) (.int (nI 0)) (.int (nI 1)) ya (by omega) (by omega) yb (by omega) (by omega)) [0, 1, 2, 3, 4, 5] rfl rfl mok_yX12_swap w_1917 w_1918 w_1919 (rcv hK hP 0 rfl rfl rfl) ⟨Nat.le_of_ble_eq_true rfl, Nat.le_of_ble_eq_true rfl⟩ rfl hl.1 rfl (Nat.le_of_ble_eq_true rfl) dL_law_596 ⟨(by dsimp only [room_1]; omega), (by dsimp only [room_1]; omega)⟩) hP hD hS hA [0, 1, 2, 3, 4, 5] [6, 7, 8, 9, 10] rfl rfl rfl (by decide) (w2 := fun u1 => [(h4, .inl (K 3, 1, .inr (.inl (vp_updL (fun _ => 0) 0 (-1))))), (h0, .inr (9, [.ref a0, .ref h1, .ref a1, .ref a2, .ref a3, .ref a4, .ref a5, .ref a6, .int (nI 0)])), (h2, .inl (K 0, 4, .inr (.inr (.inr (.inr (fun _ => none)))))), (h3, .inl (K 0, 32, .inr (.inr (.inr (.inr (fun _ => none)))))), (h1, .inr (4, [.ref a7, .ref h3, .ref h2, .int (nI 1)])), (h10, .inl (K 2, 4, .inl (fun _ => (-1)))), (h5, .inr (12, [.int (nI 0), .ref h6])), (h6, .inr (10, [.ref a8, .ref h7, .ref h10, .ref a9, .ref a10, .int (nI 0), .int (nI 0), .int (nI 60), .int (nI 0), .int (nI 2), .int (nI 0), .int (nI 0), .int (nI 0), .int (nI 0), .int (nI 0), .int (nI 0), .int (nI 0)])), (h9, .inl (K 2, 4, .inl (fun _ => (-1)))), (h7, .inr (13, [.int (nI 1), .ref h8, .int (nI 1)])), (h8, .inl (K 4, 10, .inr (.inr (.inr (.inr (va_up (fun _ => none) 0 (some h9)))))))]) (fun _ => rfl) (fun u1 H locs hP hD hS => ?_)
  refine lv_istore (lv' := [(6, .int (-1)), (5, .int (nI 0)), (0, .ref b), (1, .ref h0), (2, .ref h5), (3, .ref h4), (4, .int (nI 0))]) hx hb dL_law_599 hl (by decide) rfl (fun ls hl => ?_)
  refine lv_aload_n hx hb dL_law_601 rfl (lv_at hl 4 rfl) ?_
  refine k_i (wr := [(h4, .inl (K 3, 1, .inr (.inl (vp_updL (fun _ => 0) 0 (-1))))), (h0, .inr (9, [.ref a0, .ref h1, .ref a1, .ref a2, .ref a3, .ref a4, .ref a5, .ref a6, .int (nI 0)])), (h2, .inl (K 0, 4, .inr (.inr (.inr (.inr (fun _ => none)))))), (h3, .inl (K 0, 32, .inr (.inr (.inr (.inr (fun _ => none)))))), (h1, .inr (4, [.ref a7, .ref h3, .ref h2, .int (nI 1)])), (h10, .inl (K 2, 4, .inl (fun _ => (-1)))), (h6, .inr (10, [.ref a8, .ref h7, .ref h10, .ref a9, .ref a10, .int (nI 0), .int (nI 0), .int (nI 60), .int (nI 0), .int (nI 2), .int (nI 0), .int (nI 0), .int (nI 0), .int (nI 0), .int (nI 0), .int (nI 0), .int (nI 0)])), (h9, .inl (K 2, 4, .inl (fun _ => (-1)))), (h7, .inr (13, [.int (nI 1), .ref h8, .int (nI 1)])), (h8, .inl (K 4, 10, .inr (.inr (.inr (.inr (va_up (fun _ => none) 0 (some h9)))))))]) (run_V (rest := []) hx hb hml hown hts hK hP hD hS hA hm (C1057_thrown l G D K H.size h5 (.ref h6)) [6] rfl rfl mok_yX12_thrown w_1300 w_1301 w_1302 (rcv hK hP 6 rfl rfl rfl) ⟨Nat.le_of_ble_eq_true rfl, Nat.le_of_ble_eq_true rfl⟩ rfl hl.1 rfl (Nat.le_of_ble_eq_true rfl) dL_law_602 ⟨(by dsimp only [room_1]; omega), (by dsimp only [room_1]; omega)⟩) hP hD hS hA [6] [0, 1, 2, 3, 4, 5, 7, 8, 9, 10] rfl rfl rfl (by decide) (w2 := fun u2 => [(h4, .inl (K 3, 1, .inr (.inl (vp_updL (fun _ => 0) 0 (-1))))), (h0, .inr (9, [.ref a0, .ref h1, .ref a1, .ref a2, .ref a3, .ref a4, .ref a5, .ref a6, .int (nI 0)])), (h2, .inl (K 0, 4, .inr (.inr (.inr (.inr (fun _ => none)))))), (h3, .inl (K 0, 32, .inr (.inr (.inr (.inr (fun _ => none)))))), (h1, .inr (4, [.ref a7, .ref h3, .ref h2, .int (nI 1)])), (h10, .inl (K 2, 4, .inl (fun _ => (-1)))), (h6, .inr (10, [.ref a8, .ref h7, .ref h10, .ref a9, .ref a10, .int (nI 0), .int (nI 0), .int (nI 60), .int (nI 0), .int (nI 2), .int (nI 0), .int (nI 0), .int (nI 0), .int (nI 0), .int (nI 0), .int (nI 0), .int (nI 0)])), (h9, .inl (K 2, 4, .inl (fun _ => (-1)))), (h7, .inr (13, [.int (nI 1), .ref h8, .int (nI 1)])), (h8, .inl (K 4, 10, .inr (.inr (.inr (.inr (va_up (fun _ => none) 0 (some h9))))))), (h5, .inr (12, [.int (nI 0), .ref h6]))]) (fun _ => rfl) (fun u2 H locs hP hD hS => ?_)
  refine lv_iload hx hb dL_law_605 (lv_at hl 1 rfl) ?_
  refine lv_icmp_eq (tgt := 612) hx hb dL_law_607 (by decide) (fun _ => ?_) (fun c9 => absurd (by decide +kernel) c9)
  refine lv_iload hx hb dL_law_612 (lv_at hl 1 rfl) ?_
  refine lv_if_ne (tgt := 629) hx hb dL_law_614 (by decide) (fun c9 => absurd (by decide +kernel) c9) (fun _ => ?_)
  refine lv_aload_n hx hb dL_law_617 rfl (lv_at hl 5 rfl) ?_
  refine lv_iconst (v := nI 0) hx hb dL_law_618 (by decide +kernel) ?_
  refine r_lald (k := 0) hx hb hK hP 0 3 rfl rfl (Nat.le_of_ble_eq_true rfl) (by decide) (v := (-1)) rfl dL_law_619 ?_
  refine lv_iload hx hb dL_law_620 (lv_at hl 0 rfl) ?_
  refine lv_i2l (v := (-1)) hx hb dL_law_622 (by decide +kernel) ?_
  refine W.lcmp hx hb dL_law_623 ?_
  refine w_toeq (show lg_cmp (-1) (-1) = nI 0 by decide +kernel) ?_
  refine lv_if_eq (tgt := 629) hx hb dL_law_624 (by decide) (fun _ => ?_) (fun c9 => absurd (by decide +kernel) c9)
  refine lv_goto (tgt := 1762) hx hb dL_law_629 (by decide) ?_
  refine lv_iinc (v := nI 4) (lv' := [(4, .int (nI 4)), (6, .int (-1)), (5, .int (nI 0)), (0, .ref b), (1, .ref h0), (2, .ref h5), (3, .ref h4)]) hx hb dL_law_1762 hl (k := 6) rfl (by decide +kernel) (by decide) rfl (fun ls hl => ?_)
  refine lv_goto (tgt := 23) hx hb dL_law_1765 (by decide) ?_
  refine lv_iload hx hb dL_law_23 (lv_at hl 0 rfl) ?_
  refine lv_aload_n hx hb dL_law_25 rfl (lv_at hl 3 rfl) ?_
  refine va_slen hx hb hX hbl hbA hS dL_law_26 ?_
  refine w_toeq (show Int32.ofNat 4 = nI 4 from rfl) ?_
  refine lv_iconst (v := nI 4) hx hb dL_law_27 (by decide +kernel) ?_
  refine lv_isub hx hb dL_law_28 ?_
  refine w_toeq (show (nI 4) - (nI 4) = nI 0 by decide +kernel) ?_
  refine lv_icmp_gt (tgt := 1768) hx hb dL_law_29 (by decide) (fun _ => ?_) (fun c9 => absurd (by decide +kernel) c9)
  refine lv_iconst (v := nI 1) hx hb dL_law_1768 (by decide +kernel) ?_
  exact law_end hx hb hr hlk hS (by dsimp only; omega) (by dsimp only; omega) dL_law_1769
set_option maxHeartbeats 4000000 in
set_option maxRecDepth 100000 in
theorem LW155_hash {p : Program} {e : Env} {s : State} {m : MethodId} {below : List Frame} {meth : Method} {c : Code} {l : Launch} {G : Nat → Nat} {D : va_G} {K : Nat → ClassId} {b : Nat} {xs : Nat → Int32} (hx : p.tables.exec = Jvm.exec) (hb : c.code = cL_law) (hr : meth.sig.returnType = some .boolean) (hlk : meth.locks = false) (hl0 : l.stackTraces = false) (hnc : Ncs s) (hml : c.maxLocals = 9) (hown : s.vm.findClass RL = some m.cls) (hts : ∀ w ∈ lw_gw, w.before #[Value.ref b] s = true) (hK : va_K D cl (tys K) s) (hm : Amb G (fun q : Nat => s.heap.size ≤ q) s s.heap) (hX : va_X b 4 xs s s.heap) (hbl : b < s.heap.size) {h0 h1 a0 a1 a2 a3 a4 a5 a6 a7 a8 a9 : Nat} (ya : Int32) (hya : ya < 0) (hx1 : xs 1 = ya) {H : Heap} {locs : List Loc} {cells slots : Nat} (hcs : cells ≤ 1000) (hss : slots ≤ 100000) (hP : va_P D cl [(h0, .inr (9, [.ref a0, .ref a1, .ref a2, .ref a3, .ref a4, .ref a5, .ref a6, .ref a7, .int (nI 0)])), (h1, .inr (12, [.int (nI 0), .ref a8]))] H) (hD : va_D (fun q : Nat => s.heap.size ≤ q) [(h0, .inr (9, [.ref a0, .ref a1, .ref a2, .ref a3, .ref a4, .ref a5, .ref a6, .ref a7, .int (nI 0)])), (h1, .inr (12, [.int (nI 0), .ref a8]))]) (hS : va_S (fun q : Nat => s.heap.size ≤ q) s.heap H locs) {ls : Array Slot} (hl : lv_has ls 9 [(0, .ref b), (1, .ref h0), (2, .ref h1), (3, .ref a9), (4, .int (nI 0))]) : W p l e room_1 s m #[Value.ref b] below meth c H locs cells slots (lw_Z below #[Value.ref b] s) (F0 m 632 ls []) := by
  have hA : ∀ q : Nat, s.heap.size ≤ q → (fun q : Nat => s.heap.size ≤ q) q := fun _ h => h
  have hbA : ¬ (fun q : Nat => s.heap.size ≤ q) b := Nat.not_le.mpr hbl
  refine lv_aload_n hx hb dL_law_632 rfl (lv_at hl 1 rfl) ?_
  refine lv_aload_n hx hb dL_law_633 rfl (lv_at hl 0 rfl) ?_
  refine lv_iload hx hb dL_law_634 (lv_at hl 4 rfl) ?_
  refine lv_iconst (v := nI 1) hx hb dL_law_636 (by decide +kernel) ?_
  refine lv_iadd hx hb dL_law_637 ?_
  refine w_toeq (show (nI 0) + (nI 1) = nI 1 by decide +kernel) ?_
  refine va_sld hx hb hX hbl hbA hS (vp_in_nI (n := 1) (by decide) (by decide)) dL_law_638 ?_
  refine w_toeq (show xs (nI 1).toNatClampNeg = ya by rw [nI_clamp (n := 1) (by decide)]; exact hx1) ?_
  refine lv_aload_n hx hb dL_law_639 rfl (lv_at hl 3 rfl) ?_
  refine k_i (wr := [(h1, .inr (12, [.int (nI 0), .ref a8]))]) (run_SW hnc (rest := []) hx hb hml hown hts hK hP hD hS hA hm (C1214_hash l G D K hl0 H.size h0 a9 (.ref a0) (.ref a1) (.ref a2) (.ref a3) (.ref a4) (.ref a5) (.ref a6) (.ref a7) (.int (nI 0)) ya hya) [0] rfl rfl mokh_yL_hash w_966 w_967 ⟨Nat.le_of_ble_eq_true rfl, Nat.le_of_ble_eq_true rfl⟩ rfl hl.1 rfl (Nat.le_of_ble_eq_true rfl) dL_law_640 ⟨(by dsimp only [room_1]; omega), (by dsimp only [room_1]; omega)⟩) hP hD hS hA [0] [1] rfl rfl rfl (by decide) (w2 := fun u0 => [(h1, .inr (12, [.int (nI 0), .ref a8])), (h0, .inr (9, [.ref a0, .ref a1, .ref a2, .ref a3, .ref a4, .ref a5, .ref a6, .ref a7, .int (nI 0)]))]) (fun _ => rfl) (fun u0 H locs hP hD hS => ?_)
  refine lv_istore (lv' := [(5, .int (nI 1)), (0, .ref b), (1, .ref h0), (2, .ref h1), (3, .ref a9), (4, .int (nI 0))]) hx hb dL_law_643 hl (by decide) rfl (fun ls hl => ?_)
  refine lv_aload_n hx hb dL_law_645 rfl (lv_at hl 3 rfl) ?_
  refine lv_aload_n hx hb dL_law_646 rfl (lv_at hl 1 rfl) ?_
  refine lv_iload hx hb dL_law_647 (lv_at hl 5 rfl) ?_
  refine lv_iconst (v := nI 1) hx hb dL_law_649 (by decide +kernel) ?_
  refine lv_iadd hx hb dL_law_650 ?_
  refine w_toeq (show (nI 0) + (nI 1) = nI 1 by decide +kernel) ?_
  refine va_sld hx hb hX hbl hbA hS (vp_in_nI (n := 1) (by decide) (by decide)) dL_law_651 ?_
  refine w_toeq (show xs (nI 1).toNatClampNeg = ya by rw [nI_clamp (n := 1) (by decide)]; exact hx1) ?_
  refine k_i (wr := [(h0, .inr (9, [.ref a0, .ref a1, .ref a2, .ref a3, .ref a4, .ref a5, .ref a6, .ref a7, .int (nI 0)]))]) (run_V (rest := []) hx hb hml hown hts hK hP hD hS hA hm (C662_hash l G D K H.size h1 (.ref a8) ya hya) [0] rfl rfl mok_yX12_hash w_1921 w_1922 w_1923 (rcv hK hP 0 rfl rfl rfl) ⟨Nat.le_of_ble_eq_true rfl, Nat.le_of_ble_eq_true rfl⟩ rfl hl.1 rfl (Nat.le_of_ble_eq_true rfl) dL_law_652 ⟨(by dsimp only [room_1]; omega), (by dsimp only [room_1]; omega)⟩) hP hD hS hA [0] [1] rfl rfl rfl (by decide) (w2 := fun u1 => [(h0, .inr (9, [.ref a0, .ref a1, .ref a2, .ref a3, .ref a4, .ref a5, .ref a6, .ref a7, .int (nI 0)])), (h1, .inr (12, [.int (nI 1), .ref a8]))]) (fun _ => rfl) (fun u1 H locs hP hD hS => ?_)
  refine lv_istore (lv' := [(6, .int (nI 0)), (5, .int (nI 1)), (0, .ref b), (1, .ref h0), (2, .ref h1), (3, .ref a9), (4, .int (nI 0))]) hx hb dL_law_655 hl (by decide) rfl (fun ls hl => ?_)
  refine lv_aload_n hx hb dL_law_657 rfl (lv_at hl 4 rfl) ?_
  refine k_i (wr := [(h0, .inr (9, [.ref a0, .ref a1, .ref a2, .ref a3, .ref a4, .ref a5, .ref a6, .ref a7, .int (nI 0)]))]) (run_V (rest := []) hx hb hml hown hts hK hP hD hS hA hm (C1059_thrown l G D K H.size h1 (.ref a8)) [1] rfl rfl mok_yX12_thrown w_1300 w_1301 w_1302 (rcv hK hP 1 rfl rfl rfl) ⟨Nat.le_of_ble_eq_true rfl, Nat.le_of_ble_eq_true rfl⟩ rfl hl.1 rfl (Nat.le_of_ble_eq_true rfl) dL_law_658 ⟨(by dsimp only [room_1]; omega), (by dsimp only [room_1]; omega)⟩) hP hD hS hA [1] [0] rfl rfl rfl (by decide) (w2 := fun u2 => [(h0, .inr (9, [.ref a0, .ref a1, .ref a2, .ref a3, .ref a4, .ref a5, .ref a6, .ref a7, .int (nI 0)])), (h1, .inr (12, [.int (nI 1), .ref a8]))]) (fun _ => rfl) (fun u2 H locs hP hD hS => ?_)
  refine lv_iload hx hb dL_law_661 (lv_at hl 1 rfl) ?_
  refine lv_icmp_eq (tgt := 668) hx hb dL_law_663 (by decide) (fun _ => ?_) (fun c9 => absurd (by decide +kernel) c9)
  refine lv_iload hx hb dL_law_668 (lv_at hl 1 rfl) ?_
  refine lv_if_ne (tgt := 685) hx hb dL_law_670 (by decide) (fun _ => ?_) (fun c9 => absurd c9 (by decide +kernel))
  refine lv_goto (tgt := 1762) hx hb dL_law_685 (by decide) ?_
  refine lv_iinc (v := nI 4) (lv' := [(4, .int (nI 4)), (6, .int (nI 0)), (5, .int (nI 1)), (0, .ref b), (1, .ref h0), (2, .ref h1), (3, .ref a9)]) hx hb dL_law_1762 hl (k := 6) rfl (by decide +kernel) (by decide) rfl (fun ls hl => ?_)
  refine lv_goto (tgt := 23) hx hb dL_law_1765 (by decide) ?_
  refine lv_iload hx hb dL_law_23 (lv_at hl 0 rfl) ?_
  refine lv_aload_n hx hb dL_law_25 rfl (lv_at hl 3 rfl) ?_
  refine va_slen hx hb hX hbl hbA hS dL_law_26 ?_
  refine w_toeq (show Int32.ofNat 4 = nI 4 from rfl) ?_
  refine lv_iconst (v := nI 4) hx hb dL_law_27 (by decide +kernel) ?_
  refine lv_isub hx hb dL_law_28 ?_
  refine w_toeq (show (nI 4) - (nI 4) = nI 0 by decide +kernel) ?_
  refine lv_icmp_gt (tgt := 1768) hx hb dL_law_29 (by decide) (fun _ => ?_) (fun c9 => absurd (by decide +kernel) c9)
  refine lv_iconst (v := nI 1) hx hb dL_law_1768 (by decide +kernel) ?_
  exact law_end hx hb hr hlk hS (by dsimp only; omega) (by dsimp only; omega) dL_law_1769
set_option maxHeartbeats 4000000 in
set_option maxRecDepth 100000 in
theorem LW156_hash {p : Program} {e : Env} {s : State} {m : MethodId} {below : List Frame} {meth : Method} {c : Code} {l : Launch} {G : Nat → Nat} {D : va_G} {K : Nat → ClassId} {b : Nat} {xs : Nat → Int32} (hx : p.tables.exec = Jvm.exec) (hb : c.code = cL_law) (hr : meth.sig.returnType = some .boolean) (hlk : meth.locks = false) (hl0 : l.stackTraces = false) (hnc : Ncs s) (hml : c.maxLocals = 9) (hown : s.vm.findClass RL = some m.cls) (hts : ∀ w ∈ lw_gw, w.before #[Value.ref b] s = true) (hK : va_K D cl (tys K) s) (hm : Amb G (fun q : Nat => s.heap.size ≤ q) s s.heap) (hX : va_X b 4 xs s s.heap) (hbl : b < s.heap.size) {h0 h1 h2 h3 h4 h5 h6 h7 a0 a1 a2 a3 a4 a5 a6 a7 a8 a9 a10 a11 a12 a13 : Nat} (ya : Nat) (lya : 0 ≤ ya) (gya : ya ≤ 3) (hx1 : xs 1 = nI ya) {H : Heap} {locs : List Loc} {cells slots : Nat} (hcs : cells ≤ 1000) (hss : slots ≤ 100000) (hP : va_P D cl [(h0, .inr (9, [.ref a0, .ref h1, .ref a1, .ref a2, .ref a3, .ref a4, .ref a5, .ref a6, .int (nI 0)])), (h1, .inr (4, [.ref a7, .ref h2, .ref a8, .int (nI 1)])), (h2, .inl (K 0, 32, .inr (.inr (.inr (.inr (fun _ => none)))))), (h3, .inr (12, [.int (nI 0), .ref h4])), (h4, .inr (10, [.ref a9, .ref h5, .ref a10, .ref a11, .ref a12, .int (nI 0), .int (nI 0), .int (nI 60), .int (nI 0), .int (nI 2), .int (nI 0), .int (nI 0), .int (nI 0), .int (nI 0), .int (nI 0), .int (nI 0), .int (nI 0)])), (h5, .inr (13, [.int (nI 1), .ref h6, .int (nI 1)])), (h6, .inl (K 4, 10, .inr (.inr (.inr (.inr (va_up (fun _ => none) 0 (some h7))))))), (h7, .inl (K 2, 4, .inl (fun _ => (-1))))] H) (hD : va_D (fun q : Nat => s.heap.size ≤ q) [(h0, .inr (9, [.ref a0, .ref h1, .ref a1, .ref a2, .ref a3, .ref a4, .ref a5, .ref a6, .int (nI 0)])), (h1, .inr (4, [.ref a7, .ref h2, .ref a8, .int (nI 1)])), (h2, .inl (K 0, 32, .inr (.inr (.inr (.inr (fun _ => none)))))), (h3, .inr (12, [.int (nI 0), .ref h4])), (h4, .inr (10, [.ref a9, .ref h5, .ref a10, .ref a11, .ref a12, .int (nI 0), .int (nI 0), .int (nI 60), .int (nI 0), .int (nI 2), .int (nI 0), .int (nI 0), .int (nI 0), .int (nI 0), .int (nI 0), .int (nI 0), .int (nI 0)])), (h5, .inr (13, [.int (nI 1), .ref h6, .int (nI 1)])), (h6, .inl (K 4, 10, .inr (.inr (.inr (.inr (va_up (fun _ => none) 0 (some h7))))))), (h7, .inl (K 2, 4, .inl (fun _ => (-1))))]) (hS : va_S (fun q : Nat => s.heap.size ≤ q) s.heap H locs) {ls : Array Slot} (hl : lv_has ls 9 [(0, .ref b), (1, .ref h0), (2, .ref h3), (3, .ref a13), (4, .int (nI 0))]) : W p l e room_1 s m #[Value.ref b] below meth c H locs cells slots (lw_Z below #[Value.ref b] s) (F0 m 632 ls []) := by
  have hA : ∀ q : Nat, s.heap.size ≤ q → (fun q : Nat => s.heap.size ≤ q) q := fun _ h => h
  have hbA : ¬ (fun q : Nat => s.heap.size ≤ q) b := Nat.not_le.mpr hbl
  refine lv_aload_n hx hb dL_law_632 rfl (lv_at hl 1 rfl) ?_
  refine lv_aload_n hx hb dL_law_633 rfl (lv_at hl 0 rfl) ?_
  refine lv_iload hx hb dL_law_634 (lv_at hl 4 rfl) ?_
  refine lv_iconst (v := nI 1) hx hb dL_law_636 (by decide +kernel) ?_
  refine lv_iadd hx hb dL_law_637 ?_
  refine w_toeq (show (nI 0) + (nI 1) = nI 1 by decide +kernel) ?_
  refine va_sld hx hb hX hbl hbA hS (vp_in_nI (n := 1) (by decide) (by decide)) dL_law_638 ?_
  refine w_toeq (show xs (nI 1).toNatClampNeg = nI ya by rw [nI_clamp (n := 1) (by decide)]; exact hx1) ?_
  refine lv_aload_n hx hb dL_law_639 rfl (lv_at hl 3 rfl) ?_
  refine k_i (wr := [(h3, .inr (12, [.int (nI 0), .ref h4])), (h4, .inr (10, [.ref a9, .ref h5, .ref a10, .ref a11, .ref a12, .int (nI 0), .int (nI 0), .int (nI 60), .int (nI 0), .int (nI 2), .int (nI 0), .int (nI 0), .int (nI 0), .int (nI 0), .int (nI 0), .int (nI 0), .int (nI 0)])), (h5, .inr (13, [.int (nI 1), .ref h6, .int (nI 1)])), (h6, .inl (K 4, 10, .inr (.inr (.inr (.inr (va_up (fun _ => none) 0 (some h7))))))), (h7, .inl (K 2, 4, .inl (fun _ => (-1))))]) (run_SW hnc (rest := []) hx hb hml hown hts hK hP hD hS hA hm (C1215_hash l G D K hl0 H.size h0 h1 h2 a13 (.ref a0) (.ref a1) (.ref a2) (.ref a3) (.ref a4) (.ref a5) (.ref a6) (.int (nI 0)) (.ref a7) (.ref a8) ya (by omega) (by omega)) [0, 1, 2] rfl rfl mokh_yL_hash w_966 w_967 ⟨Nat.le_of_ble_eq_true rfl, Nat.le_of_ble_eq_true rfl⟩ rfl hl.1 rfl (Nat.le_of_ble_eq_true rfl) dL_law_640 ⟨(by dsimp only [room_1]; omega), (by dsimp only [room_1]; omega)⟩) hP hD hS hA [0, 1, 2] [3, 4, 5, 6, 7] rfl rfl rfl (by decide) (w2 := fun u0 => [(h3, .inr (12, [.int (nI 0), .ref h4])), (h4, .inr (10, [.ref a9, .ref h5, .ref a10, .ref a11, .ref a12, .int (nI 0), .int (nI 0), .int (nI 60), .int (nI 0), .int (nI 2), .int (nI 0), .int (nI 0), .int (nI 0), .int (nI 0), .int (nI 0), .int (nI 0), .int (nI 0)])), (h5, .inr (13, [.int (nI 1), .ref h6, .int (nI 1)])), (h6, .inl (K 4, 10, .inr (.inr (.inr (.inr (va_up (fun _ => none) 0 (some h7))))))), (h7, .inl (K 2, 4, .inl (fun _ => (-1))))]) (fun _ => rfl) (fun u0 H locs hP hD hS => ?_)
  refine lv_istore (lv' := [(5, .int (nI 2)), (0, .ref b), (1, .ref h0), (2, .ref h3), (3, .ref a13), (4, .int (nI 0))]) hx hb dL_law_643 hl (by decide) rfl (fun ls hl => ?_)
  refine lv_aload_n hx hb dL_law_645 rfl (lv_at hl 3 rfl) ?_
  refine lv_aload_n hx hb dL_law_646 rfl (lv_at hl 1 rfl) ?_
  refine lv_iload hx hb dL_law_647 (lv_at hl 5 rfl) ?_
  refine lv_iconst (v := nI 1) hx hb dL_law_649 (by decide +kernel) ?_
  refine lv_iadd hx hb dL_law_650 ?_
  refine w_toeq (show (nI 0) + (nI 1) = nI 1 by decide +kernel) ?_
  refine va_sld hx hb hX hbl hbA hS (vp_in_nI (n := 1) (by decide) (by decide)) dL_law_651 ?_
  refine w_toeq (show xs (nI 1).toNatClampNeg = nI ya by rw [nI_clamp (n := 1) (by decide)]; exact hx1) ?_
  refine k_i (wr := []) (run_V (rest := []) hx hb hml hown hts hK hP hD hS hA hm (C664_hash l G D K H.size h3 h4 h5 h6 h7 (.ref a9) (.ref a10) (.ref a11) (.ref a12) (.int (nI 0)) (.int (nI 0)) (.int (nI 60)) (.int (nI 0)) (.int (nI 2)) (.int (nI 0)) (.int (nI 0)) (.int (nI 0)) (.int (nI 0)) (.int (nI 0)) (.int (nI 0)) (.int (nI 0)) (.int (nI 1)) ya (by omega) (by omega)) [0, 1, 2, 3, 4] rfl rfl mok_yX12_hash w_1921 w_1922 w_1923 (rcv hK hP 0 rfl rfl rfl) ⟨Nat.le_of_ble_eq_true rfl, Nat.le_of_ble_eq_true rfl⟩ rfl hl.1 rfl (Nat.le_of_ble_eq_true rfl) dL_law_652 ⟨(by dsimp only [room_1]; omega), (by dsimp only [room_1]; omega)⟩) hP hD hS hA [0, 1, 2, 3, 4] [] rfl rfl rfl (by decide) (w2 := fun u1 => [(h4, .inr (10, [.ref a9, .ref h5, .ref a10, .ref a11, .ref a12, .int (nI 0), .int (nI 0), .int (nI 60), .int (nI 0), .int (nI 2), .int (nI 0), .int (nI 0), .int (nI 0), .int (nI 0), .int (nI 0), .int (nI 0), .int (nI 0)])), (h7, .inl (K 2, 4, .inl (fun _ => (-1)))), (h5, .inr (13, [.int (nI 1), .ref h6, .int (nI 1)])), (h6, .inl (K 4, 10, .inr (.inr (.inr (.inr (va_up (fun _ => none) 0 (some h7))))))), (h3, .inr (12, [.int (nI 2), .ref h4]))]) (fun _ => rfl) (fun u1 H locs hP hD hS => ?_)
  refine lv_istore (lv' := [(6, .int (nI 0)), (5, .int (nI 2)), (0, .ref b), (1, .ref h0), (2, .ref h3), (3, .ref a13), (4, .int (nI 0))]) hx hb dL_law_655 hl (by decide) rfl (fun ls hl => ?_)
  refine lv_aload_n hx hb dL_law_657 rfl (lv_at hl 4 rfl) ?_
  refine k_i (wr := [(h4, .inr (10, [.ref a9, .ref h5, .ref a10, .ref a11, .ref a12, .int (nI 0), .int (nI 0), .int (nI 60), .int (nI 0), .int (nI 2), .int (nI 0), .int (nI 0), .int (nI 0), .int (nI 0), .int (nI 0), .int (nI 0), .int (nI 0)])), (h7, .inl (K 2, 4, .inl (fun _ => (-1)))), (h5, .inr (13, [.int (nI 1), .ref h6, .int (nI 1)])), (h6, .inl (K 4, 10, .inr (.inr (.inr (.inr (va_up (fun _ => none) 0 (some h7)))))))]) (run_V (rest := []) hx hb hml hown hts hK hP hD hS hA hm (C1075_thrown l G D K H.size h3 (.ref h4)) [4] rfl rfl mok_yX12_thrown w_1300 w_1301 w_1302 (rcv hK hP 4 rfl rfl rfl) ⟨Nat.le_of_ble_eq_true rfl, Nat.le_of_ble_eq_true rfl⟩ rfl hl.1 rfl (Nat.le_of_ble_eq_true rfl) dL_law_658 ⟨(by dsimp only [room_1]; omega), (by dsimp only [room_1]; omega)⟩) hP hD hS hA [4] [0, 1, 2, 3] rfl rfl rfl (by decide) (w2 := fun u2 => [(h4, .inr (10, [.ref a9, .ref h5, .ref a10, .ref a11, .ref a12, .int (nI 0), .int (nI 0), .int (nI 60), .int (nI 0), .int (nI 2), .int (nI 0), .int (nI 0), .int (nI 0), .int (nI 0), .int (nI 0), .int (nI 0), .int (nI 0)])), (h7, .inl (K 2, 4, .inl (fun _ => (-1)))), (h5, .inr (13, [.int (nI 1), .ref h6, .int (nI 1)])), (h6, .inl (K 4, 10, .inr (.inr (.inr (.inr (va_up (fun _ => none) 0 (some h7))))))), (h3, .inr (12, [.int (nI 2), .ref h4]))]) (fun _ => rfl) (fun u2 H locs hP hD hS => ?_)
  refine lv_iload hx hb dL_law_661 (lv_at hl 1 rfl) ?_
  refine lv_icmp_eq (tgt := 668) hx hb dL_law_663 (by decide) (fun _ => ?_) (fun c9 => absurd (by decide +kernel) c9)
  refine lv_iload hx hb dL_law_668 (lv_at hl 1 rfl) ?_
  refine lv_if_ne (tgt := 685) hx hb dL_law_670 (by decide) (fun _ => ?_) (fun c9 => absurd c9 (by decide +kernel))
  refine lv_goto (tgt := 1762) hx hb dL_law_685 (by decide) ?_
  refine lv_iinc (v := nI 4) (lv' := [(4, .int (nI 4)), (6, .int (nI 0)), (5, .int (nI 2)), (0, .ref b), (1, .ref h0), (2, .ref h3), (3, .ref a13)]) hx hb dL_law_1762 hl (k := 6) rfl (by decide +kernel) (by decide) rfl (fun ls hl => ?_)
  refine lv_goto (tgt := 23) hx hb dL_law_1765 (by decide) ?_
  refine lv_iload hx hb dL_law_23 (lv_at hl 0 rfl) ?_
  refine lv_aload_n hx hb dL_law_25 rfl (lv_at hl 3 rfl) ?_
  refine va_slen hx hb hX hbl hbA hS dL_law_26 ?_
  refine w_toeq (show Int32.ofNat 4 = nI 4 from rfl) ?_
  refine lv_iconst (v := nI 4) hx hb dL_law_27 (by decide +kernel) ?_
  refine lv_isub hx hb dL_law_28 ?_
  refine w_toeq (show (nI 4) - (nI 4) = nI 0 by decide +kernel) ?_
  refine lv_icmp_gt (tgt := 1768) hx hb dL_law_29 (by decide) (fun _ => ?_) (fun c9 => absurd (by decide +kernel) c9)
  refine lv_iconst (v := nI 1) hx hb dL_law_1768 (by decide +kernel) ?_
  exact law_end hx hb hr hlk hS (by dsimp only; omega) (by dsimp only; omega) dL_law_1769
set_option maxHeartbeats 4000000 in
set_option maxRecDepth 100000 in
theorem LW157_hash {p : Program} {e : Env} {s : State} {m : MethodId} {below : List Frame} {meth : Method} {c : Code} {l : Launch} {G : Nat → Nat} {D : va_G} {K : Nat → ClassId} {b : Nat} {xs : Nat → Int32} (hx : p.tables.exec = Jvm.exec) (hb : c.code = cL_law) (hr : meth.sig.returnType = some .boolean) (hlk : meth.locks = false) (hl0 : l.stackTraces = false) (hnc : Ncs s) (hml : c.maxLocals = 9) (hown : s.vm.findClass RL = some m.cls) (hts : ∀ w ∈ lw_gw, w.before #[Value.ref b] s = true) (hK : va_K D cl (tys K) s) (hm : Amb G (fun q : Nat => s.heap.size ≤ q) s s.heap) (hX : va_X b 4 xs s s.heap) (hbl : b < s.heap.size) {h0 h1 a0 a1 a2 a3 a4 a5 a6 a7 a8 a9 : Nat} (ya : Nat) (lya : 4 ≤ ya) (gya : ya ≤ 2147483647) (hx1 : xs 1 = nI ya) {H : Heap} {locs : List Loc} {cells slots : Nat} (hcs : cells ≤ 1000) (hss : slots ≤ 100000) (hP : va_P D cl [(h0, .inr (9, [.ref a0, .ref a1, .ref a2, .ref a3, .ref a4, .ref a5, .ref a6, .ref a7, .int (nI 0)])), (h1, .inr (12, [.int (nI 0), .ref a8]))] H) (hD : va_D (fun q : Nat => s.heap.size ≤ q) [(h0, .inr (9, [.ref a0, .ref a1, .ref a2, .ref a3, .ref a4, .ref a5, .ref a6, .ref a7, .int (nI 0)])), (h1, .inr (12, [.int (nI 0), .ref a8]))]) (hS : va_S (fun q : Nat => s.heap.size ≤ q) s.heap H locs) {ls : Array Slot} (hl : lv_has ls 9 [(0, .ref b), (1, .ref h0), (2, .ref h1), (3, .ref a9), (4, .int (nI 0))]) : W p l e room_1 s m #[Value.ref b] below meth c H locs cells slots (lw_Z below #[Value.ref b] s) (F0 m 632 ls []) := by
  have hA : ∀ q : Nat, s.heap.size ≤ q → (fun q : Nat => s.heap.size ≤ q) q := fun _ h => h
  have hbA : ¬ (fun q : Nat => s.heap.size ≤ q) b := Nat.not_le.mpr hbl
  refine lv_aload_n hx hb dL_law_632 rfl (lv_at hl 1 rfl) ?_
  refine lv_aload_n hx hb dL_law_633 rfl (lv_at hl 0 rfl) ?_
  refine lv_iload hx hb dL_law_634 (lv_at hl 4 rfl) ?_
  refine lv_iconst (v := nI 1) hx hb dL_law_636 (by decide +kernel) ?_
  refine lv_iadd hx hb dL_law_637 ?_
  refine w_toeq (show (nI 0) + (nI 1) = nI 1 by decide +kernel) ?_
  refine va_sld hx hb hX hbl hbA hS (vp_in_nI (n := 1) (by decide) (by decide)) dL_law_638 ?_
  refine w_toeq (show xs (nI 1).toNatClampNeg = nI ya by rw [nI_clamp (n := 1) (by decide)]; exact hx1) ?_
  refine lv_aload_n hx hb dL_law_639 rfl (lv_at hl 3 rfl) ?_
  refine k_i (wr := [(h1, .inr (12, [.int (nI 0), .ref a8]))]) (run_SW hnc (rest := []) hx hb hml hown hts hK hP hD hS hA hm (C1216_hash l G D K hl0 H.size h0 a9 (.ref a0) (.ref a1) (.ref a2) (.ref a3) (.ref a4) (.ref a5) (.ref a6) (.ref a7) (.int (nI 0)) ya (by omega) (by omega)) [0] rfl rfl mokh_yL_hash w_966 w_967 ⟨Nat.le_of_ble_eq_true rfl, Nat.le_of_ble_eq_true rfl⟩ rfl hl.1 rfl (Nat.le_of_ble_eq_true rfl) dL_law_640 ⟨(by dsimp only [room_1]; omega), (by dsimp only [room_1]; omega)⟩) hP hD hS hA [0] [1] rfl rfl rfl (by decide) (w2 := fun u0 => [(h1, .inr (12, [.int (nI 0), .ref a8])), (h0, .inr (9, [.ref a0, .ref a1, .ref a2, .ref a3, .ref a4, .ref a5, .ref a6, .ref a7, .int (nI 0)]))]) (fun _ => rfl) (fun u0 H locs hP hD hS => ?_)
  refine lv_istore (lv' := [(5, .int (nI 1)), (0, .ref b), (1, .ref h0), (2, .ref h1), (3, .ref a9), (4, .int (nI 0))]) hx hb dL_law_643 hl (by decide) rfl (fun ls hl => ?_)
  refine lv_aload_n hx hb dL_law_645 rfl (lv_at hl 3 rfl) ?_
  refine lv_aload_n hx hb dL_law_646 rfl (lv_at hl 1 rfl) ?_
  refine lv_iload hx hb dL_law_647 (lv_at hl 5 rfl) ?_
  refine lv_iconst (v := nI 1) hx hb dL_law_649 (by decide +kernel) ?_
  refine lv_iadd hx hb dL_law_650 ?_
  refine w_toeq (show (nI 0) + (nI 1) = nI 1 by decide +kernel) ?_
  refine va_sld hx hb hX hbl hbA hS (vp_in_nI (n := 1) (by decide) (by decide)) dL_law_651 ?_
  refine w_toeq (show xs (nI 1).toNatClampNeg = nI ya by rw [nI_clamp (n := 1) (by decide)]; exact hx1) ?_
  refine k_i (wr := [(h0, .inr (9, [.ref a0, .ref a1, .ref a2, .ref a3, .ref a4, .ref a5, .ref a6, .ref a7, .int (nI 0)]))]) (run_V (rest := []) hx hb hml hown hts hK hP hD hS hA hm (C666_hash l G D K H.size h1 (.ref a8) ya (by omega) (by omega)) [0] rfl rfl mok_yX12_hash w_1921 w_1922 w_1923 (rcv hK hP 0 rfl rfl rfl) ⟨Nat.le_of_ble_eq_true rfl, Nat.le_of_ble_eq_true rfl⟩ rfl hl.1 rfl (Nat.le_of_ble_eq_true rfl) dL_law_652 ⟨(by dsimp only [room_1]; omega), (by dsimp only [room_1]; omega)⟩) hP hD hS hA [0] [1] rfl rfl rfl (by decide) (w2 := fun u1 => [(h0, .inr (9, [.ref a0, .ref a1, .ref a2, .ref a3, .ref a4, .ref a5, .ref a6, .ref a7, .int (nI 0)])), (h1, .inr (12, [.int (nI 1), .ref a8]))]) (fun _ => rfl) (fun u1 H locs hP hD hS => ?_)
  refine lv_istore (lv' := [(6, .int (nI 0)), (5, .int (nI 1)), (0, .ref b), (1, .ref h0), (2, .ref h1), (3, .ref a9), (4, .int (nI 0))]) hx hb dL_law_655 hl (by decide) rfl (fun ls hl => ?_)
  refine lv_aload_n hx hb dL_law_657 rfl (lv_at hl 4 rfl) ?_
  refine k_i (wr := [(h0, .inr (9, [.ref a0, .ref a1, .ref a2, .ref a3, .ref a4, .ref a5, .ref a6, .ref a7, .int (nI 0)]))]) (run_V (rest := []) hx hb hml hown hts hK hP hD hS hA hm (C1059_thrown l G D K H.size h1 (.ref a8)) [1] rfl rfl mok_yX12_thrown w_1300 w_1301 w_1302 (rcv hK hP 1 rfl rfl rfl) ⟨Nat.le_of_ble_eq_true rfl, Nat.le_of_ble_eq_true rfl⟩ rfl hl.1 rfl (Nat.le_of_ble_eq_true rfl) dL_law_658 ⟨(by dsimp only [room_1]; omega), (by dsimp only [room_1]; omega)⟩) hP hD hS hA [1] [0] rfl rfl rfl (by decide) (w2 := fun u2 => [(h0, .inr (9, [.ref a0, .ref a1, .ref a2, .ref a3, .ref a4, .ref a5, .ref a6, .ref a7, .int (nI 0)])), (h1, .inr (12, [.int (nI 1), .ref a8]))]) (fun _ => rfl) (fun u2 H locs hP hD hS => ?_)
  refine lv_iload hx hb dL_law_661 (lv_at hl 1 rfl) ?_
  refine lv_icmp_eq (tgt := 668) hx hb dL_law_663 (by decide) (fun _ => ?_) (fun c9 => absurd (by decide +kernel) c9)
  refine lv_iload hx hb dL_law_668 (lv_at hl 1 rfl) ?_
  refine lv_if_ne (tgt := 685) hx hb dL_law_670 (by decide) (fun _ => ?_) (fun c9 => absurd c9 (by decide +kernel))
  refine lv_goto (tgt := 1762) hx hb dL_law_685 (by decide) ?_
  refine lv_iinc (v := nI 4) (lv' := [(4, .int (nI 4)), (6, .int (nI 0)), (5, .int (nI 1)), (0, .ref b), (1, .ref h0), (2, .ref h1), (3, .ref a9)]) hx hb dL_law_1762 hl (k := 6) rfl (by decide +kernel) (by decide) rfl (fun ls hl => ?_)
  refine lv_goto (tgt := 23) hx hb dL_law_1765 (by decide) ?_
  refine lv_iload hx hb dL_law_23 (lv_at hl 0 rfl) ?_
  refine lv_aload_n hx hb dL_law_25 rfl (lv_at hl 3 rfl) ?_
  refine va_slen hx hb hX hbl hbA hS dL_law_26 ?_
  refine w_toeq (show Int32.ofNat 4 = nI 4 from rfl) ?_
  refine lv_iconst (v := nI 4) hx hb dL_law_27 (by decide +kernel) ?_
  refine lv_isub hx hb dL_law_28 ?_
  refine w_toeq (show (nI 4) - (nI 4) = nI 0 by decide +kernel) ?_
  refine lv_icmp_gt (tgt := 1768) hx hb dL_law_29 (by decide) (fun _ => ?_) (fun c9 => absurd (by decide +kernel) c9)
  refine lv_iconst (v := nI 1) hx hb dL_law_1768 (by decide +kernel) ?_
  exact law_end hx hb hr hlk hS (by dsimp only; omega) (by dsimp only; omega) dL_law_1769
set_option maxHeartbeats 4000000 in
set_option maxRecDepth 100000 in
theorem LW158_pin {p : Program} {e : Env} {s : State} {m : MethodId} {below : List Frame} {meth : Method} {c : Code} {l : Launch} {G : Nat → Nat} {D : va_G} {K : Nat → ClassId} {b : Nat} {xs : Nat → Int32} (hx : p.tables.exec = Jvm.exec) (hb : c.code = cL_law) (hr : meth.sig.returnType = some .boolean) (hlk : meth.locks = false) (hl0 : l.stackTraces = false) (hnc : Ncs s) (hml : c.maxLocals = 9) (hown : s.vm.findClass RL = some m.cls) (hts : ∀ w ∈ lw_gw, w.before #[Value.ref b] s = true) (hK : va_K D cl (tys K) s) (hm : Amb G (fun q : Nat => s.heap.size ≤ q) s s.heap) (hX : va_X b 4 xs s s.heap) (hbl : b < s.heap.size) {h0 h1 a0 a1 a2 a3 a4 a5 a6 a7 a8 a9 : Nat} (ya : Int32) (hya : ya < 0) (hx1 : xs 1 = ya) {H : Heap} {locs : List Loc} {cells slots : Nat} (hcs : cells ≤ 1000) (hss : slots ≤ 100000) (hP : va_P D cl [(h0, .inr (9, [.ref a0, .ref a1, .ref a2, .ref a3, .ref a4, .ref a5, .ref a6, .ref a7, .int (nI 0)])), (h1, .inr (12, [.int (nI 0), .ref a8]))] H) (hD : va_D (fun q : Nat => s.heap.size ≤ q) [(h0, .inr (9, [.ref a0, .ref a1, .ref a2, .ref a3, .ref a4, .ref a5, .ref a6, .ref a7, .int (nI 0)])), (h1, .inr (12, [.int (nI 0), .ref a8]))]) (hS : va_S (fun q : Nat => s.heap.size ≤ q) s.heap H locs) {ls : Array Slot} (hl : lv_has ls 9 [(0, .ref b), (1, .ref h0), (2, .ref h1), (3, .ref a9), (4, .int (nI 0))]) : W p l e room_1 s m #[Value.ref b] below meth c H locs cells slots (lw_Z below #[Value.ref b] s) (F0 m 688 ls []) := by
  have hA : ∀ q : Nat, s.heap.size ≤ q → (fun q : Nat => s.heap.size ≤ q) q := fun _ h => h
  have hbA : ¬ (fun q : Nat => s.heap.size ≤ q) b := Nat.not_le.mpr hbl
  refine lv_aload_n hx hb dL_law_688 rfl (lv_at hl 1 rfl) ?_
  refine lv_aload_n hx hb dL_law_689 rfl (lv_at hl 0 rfl) ?_
  refine lv_iload hx hb dL_law_690 (lv_at hl 4 rfl) ?_
  refine lv_iconst (v := nI 1) hx hb dL_law_692 (by decide +kernel) ?_
  refine lv_iadd hx hb dL_law_693 ?_
  refine w_toeq (show (nI 0) + (nI 1) = nI 1 by decide +kernel) ?_
  refine va_sld hx hb hX hbl hbA hS (vp_in_nI (n := 1) (by decide) (by decide)) dL_law_694 ?_
  refine w_toeq (show xs (nI 1).toNatClampNeg = ya by rw [nI_clamp (n := 1) (by decide)]; exact hx1) ?_
  refine lv_aload_n hx hb dL_law_695 rfl (lv_at hl 3 rfl) ?_
  refine k_i (wr := [(h1, .inr (12, [.int (nI 0), .ref a8]))]) (run_SW hnc (rest := []) hx hb hml hown hts hK hP hD hS hA hm (C1217_pin l G D K hl0 H.size h0 a9 (.ref a0) (.ref a1) (.ref a2) (.ref a3) (.ref a4) (.ref a5) (.ref a6) (.ref a7) (.int (nI 0)) ya hya) [0] rfl rfl mokh_yL_pin w_977 w_978 ⟨Nat.le_of_ble_eq_true rfl, Nat.le_of_ble_eq_true rfl⟩ rfl hl.1 rfl (Nat.le_of_ble_eq_true rfl) dL_law_696 ⟨(by dsimp only [room_1]; omega), (by dsimp only [room_1]; omega)⟩) hP hD hS hA [0] [1] rfl rfl rfl (by decide) (w2 := fun u0 => [(h1, .inr (12, [.int (nI 0), .ref a8])), (h0, .inr (9, [.ref a0, .ref a1, .ref a2, .ref a3, .ref a4, .ref a5, .ref a6, .ref a7, .int (nI 0)]))]) (fun _ => rfl) (fun u0 H locs hP hD hS => ?_)
  refine lv_istore (lv' := [(5, .int (nI 1)), (0, .ref b), (1, .ref h0), (2, .ref h1), (3, .ref a9), (4, .int (nI 0))]) hx hb dL_law_699 hl (by decide) rfl (fun ls hl => ?_)
  refine lv_aload_n hx hb dL_law_701 rfl (lv_at hl 3 rfl) ?_
  refine lv_aload_n hx hb dL_law_702 rfl (lv_at hl 1 rfl) ?_
  refine lv_iload hx hb dL_law_703 (lv_at hl 5 rfl) ?_
  refine lv_iconst (v := nI 1) hx hb dL_law_705 (by decide +kernel) ?_
  refine lv_iadd hx hb dL_law_706 ?_
  refine w_toeq (show (nI 0) + (nI 1) = nI 1 by decide +kernel) ?_
  refine va_sld hx hb hX hbl hbA hS (vp_in_nI (n := 1) (by decide) (by decide)) dL_law_707 ?_
  refine w_toeq (show xs (nI 1).toNatClampNeg = ya by rw [nI_clamp (n := 1) (by decide)]; exact hx1) ?_
  refine k_i (wr := [(h0, .inr (9, [.ref a0, .ref a1, .ref a2, .ref a3, .ref a4, .ref a5, .ref a6, .ref a7, .int (nI 0)]))]) (run_V (rest := []) hx hb hml hown hts hK hP hD hS hA hm (C668_pin l G D K H.size h1 (.ref a8) ya hya) [0] rfl rfl mok_yX12_pin w_1925 w_1926 w_1927 (rcv hK hP 0 rfl rfl rfl) ⟨Nat.le_of_ble_eq_true rfl, Nat.le_of_ble_eq_true rfl⟩ rfl hl.1 rfl (Nat.le_of_ble_eq_true rfl) dL_law_708 ⟨(by dsimp only [room_1]; omega), (by dsimp only [room_1]; omega)⟩) hP hD hS hA [0] [1] rfl rfl rfl (by decide) (w2 := fun u1 => [(h0, .inr (9, [.ref a0, .ref a1, .ref a2, .ref a3, .ref a4, .ref a5, .ref a6, .ref a7, .int (nI 0)])), (h1, .inr (12, [.int (nI 1), .ref a8]))]) (fun _ => rfl) (fun u1 H locs hP hD hS => ?_)
  refine lv_istore (lv' := [(6, .int (nI 0)), (5, .int (nI 1)), (0, .ref b), (1, .ref h0), (2, .ref h1), (3, .ref a9), (4, .int (nI 0))]) hx hb dL_law_711 hl (by decide) rfl (fun ls hl => ?_)
  refine lv_aload_n hx hb dL_law_713 rfl (lv_at hl 4 rfl) ?_
  refine k_i (wr := [(h0, .inr (9, [.ref a0, .ref a1, .ref a2, .ref a3, .ref a4, .ref a5, .ref a6, .ref a7, .int (nI 0)]))]) (run_V (rest := []) hx hb hml hown hts hK hP hD hS hA hm (C1059_thrown l G D K H.size h1 (.ref a8)) [1] rfl rfl mok_yX12_thrown w_1300 w_1301 w_1302 (rcv hK hP 1 rfl rfl rfl) ⟨Nat.le_of_ble_eq_true rfl, Nat.le_of_ble_eq_true rfl⟩ rfl hl.1 rfl (Nat.le_of_ble_eq_true rfl) dL_law_714 ⟨(by dsimp only [room_1]; omega), (by dsimp only [room_1]; omega)⟩) hP hD hS hA [1] [0] rfl rfl rfl (by decide) (w2 := fun u2 => [(h0, .inr (9, [.ref a0, .ref a1, .ref a2, .ref a3, .ref a4, .ref a5, .ref a6, .ref a7, .int (nI 0)])), (h1, .inr (12, [.int (nI 1), .ref a8]))]) (fun _ => rfl) (fun u2 H locs hP hD hS => ?_)
  refine lv_iload hx hb dL_law_717 (lv_at hl 1 rfl) ?_
  refine lv_icmp_eq (tgt := 724) hx hb dL_law_719 (by decide) (fun _ => ?_) (fun c9 => absurd (by decide +kernel) c9)
  refine lv_iload hx hb dL_law_724 (lv_at hl 1 rfl) ?_
  refine lv_if_ne (tgt := 748) hx hb dL_law_726 (by decide) (fun _ => ?_) (fun c9 => absurd c9 (by decide +kernel))
  refine lv_goto (tgt := 1762) hx hb dL_law_748 (by decide) ?_
  refine lv_iinc (v := nI 4) (lv' := [(4, .int (nI 4)), (6, .int (nI 0)), (5, .int (nI 1)), (0, .ref b), (1, .ref h0), (2, .ref h1), (3, .ref a9)]) hx hb dL_law_1762 hl (k := 6) rfl (by decide +kernel) (by decide) rfl (fun ls hl => ?_)
  refine lv_goto (tgt := 23) hx hb dL_law_1765 (by decide) ?_
  refine lv_iload hx hb dL_law_23 (lv_at hl 0 rfl) ?_
  refine lv_aload_n hx hb dL_law_25 rfl (lv_at hl 3 rfl) ?_
  refine va_slen hx hb hX hbl hbA hS dL_law_26 ?_
  refine w_toeq (show Int32.ofNat 4 = nI 4 from rfl) ?_
  refine lv_iconst (v := nI 4) hx hb dL_law_27 (by decide +kernel) ?_
  refine lv_isub hx hb dL_law_28 ?_
  refine w_toeq (show (nI 4) - (nI 4) = nI 0 by decide +kernel) ?_
  refine lv_icmp_gt (tgt := 1768) hx hb dL_law_29 (by decide) (fun _ => ?_) (fun c9 => absurd (by decide +kernel) c9)
  refine lv_iconst (v := nI 1) hx hb dL_law_1768 (by decide +kernel) ?_
  exact law_end hx hb hr hlk hS (by dsimp only; omega) (by dsimp only; omega) dL_law_1769
set_option maxHeartbeats 4000000 in
set_option maxRecDepth 100000 in
theorem LW159_pin {p : Program} {e : Env} {s : State} {m : MethodId} {below : List Frame} {meth : Method} {c : Code} {l : Launch} {G : Nat → Nat} {D : va_G} {K : Nat → ClassId} {b : Nat} {xs : Nat → Int32} (hx : p.tables.exec = Jvm.exec) (hb : c.code = cL_law) (hr : meth.sig.returnType = some .boolean) (hlk : meth.locks = false) (hl0 : l.stackTraces = false) (hnc : Ncs s) (hml : c.maxLocals = 9) (hown : s.vm.findClass RL = some m.cls) (hts : ∀ w ∈ lw_gw, w.before #[Value.ref b] s = true) (hK : va_K D cl (tys K) s) (hm : Amb G (fun q : Nat => s.heap.size ≤ q) s s.heap) (hX : va_X b 4 xs s s.heap) (hbl : b < s.heap.size) {h0 h1 h2 h3 h4 h5 h6 h7 a0 a1 a2 a3 a4 a5 a6 a7 a8 a9 a10 a11 a12 a13 : Nat} (ya : Nat) (lya : 0 ≤ ya) (gya : ya ≤ 3) (hx1 : xs 1 = nI ya) {H : Heap} {locs : List Loc} {cells slots : Nat} (hcs : cells ≤ 1000) (hss : slots ≤ 100000) (hP : va_P D cl [(h0, .inr (9, [.ref a0, .ref h1, .ref a1, .ref a2, .ref a3, .ref a4, .ref a5, .ref a6, .int (nI 0)])), (h1, .inr (4, [.ref a7, .ref h2, .ref a8, .int (nI 1)])), (h2, .inl (K 0, 32, .inr (.inr (.inr (.inr (fun _ => none)))))), (h3, .inr (12, [.int (nI 0), .ref h4])), (h4, .inr (10, [.ref a9, .ref h5, .ref a10, .ref a11, .ref a12, .int (nI 0), .int (nI 0), .int (nI 60), .int (nI 0), .int (nI 2), .int (nI 0), .int (nI 0), .int (nI 0), .int (nI 0), .int (nI 0), .int (nI 0), .int (nI 0)])), (h5, .inr (13, [.int (nI 1), .ref h6, .int (nI 1)])), (h6, .inl (K 4, 10, .inr (.inr (.inr (.inr (va_up (fun _ => none) 0 (some h7))))))), (h7, .inl (K 2, 4, .inl (fun _ => (-1))))] H) (hD : va_D (fun q : Nat => s.heap.size ≤ q) [(h0, .inr (9, [.ref a0, .ref h1, .ref a1, .ref a2, .ref a3, .ref a4, .ref a5, .ref a6, .int (nI 0)])), (h1, .inr (4, [.ref a7, .ref h2, .ref a8, .int (nI 1)])), (h2, .inl (K 0, 32, .inr (.inr (.inr (.inr (fun _ => none)))))), (h3, .inr (12, [.int (nI 0), .ref h4])), (h4, .inr (10, [.ref a9, .ref h5, .ref a10, .ref a11, .ref a12, .int (nI 0), .int (nI 0), .int (nI 60), .int (nI 0), .int (nI 2), .int (nI 0), .int (nI 0), .int (nI 0), .int (nI 0), .int (nI 0), .int (nI 0), .int (nI 0)])), (h5, .inr (13, [.int (nI 1), .ref h6, .int (nI 1)])), (h6, .inl (K 4, 10, .inr (.inr (.inr (.inr (va_up (fun _ => none) 0 (some h7))))))), (h7, .inl (K 2, 4, .inl (fun _ => (-1))))]) (hS : va_S (fun q : Nat => s.heap.size ≤ q) s.heap H locs) {ls : Array Slot} (hl : lv_has ls 9 [(0, .ref b), (1, .ref h0), (2, .ref h3), (3, .ref a13), (4, .int (nI 0))]) : W p l e room_1 s m #[Value.ref b] below meth c H locs cells slots (lw_Z below #[Value.ref b] s) (F0 m 688 ls []) := by
  have hA : ∀ q : Nat, s.heap.size ≤ q → (fun q : Nat => s.heap.size ≤ q) q := fun _ h => h
  have hbA : ¬ (fun q : Nat => s.heap.size ≤ q) b := Nat.not_le.mpr hbl
  refine lv_aload_n hx hb dL_law_688 rfl (lv_at hl 1 rfl) ?_
  refine lv_aload_n hx hb dL_law_689 rfl (lv_at hl 0 rfl) ?_
  refine lv_iload hx hb dL_law_690 (lv_at hl 4 rfl) ?_
  refine lv_iconst (v := nI 1) hx hb dL_law_692 (by decide +kernel) ?_
  refine lv_iadd hx hb dL_law_693 ?_
  refine w_toeq (show (nI 0) + (nI 1) = nI 1 by decide +kernel) ?_
  refine va_sld hx hb hX hbl hbA hS (vp_in_nI (n := 1) (by decide) (by decide)) dL_law_694 ?_
  refine w_toeq (show xs (nI 1).toNatClampNeg = nI ya by rw [nI_clamp (n := 1) (by decide)]; exact hx1) ?_
  refine lv_aload_n hx hb dL_law_695 rfl (lv_at hl 3 rfl) ?_
  refine k_i (wr := [(h3, .inr (12, [.int (nI 0), .ref h4])), (h4, .inr (10, [.ref a9, .ref h5, .ref a10, .ref a11, .ref a12, .int (nI 0), .int (nI 0), .int (nI 60), .int (nI 0), .int (nI 2), .int (nI 0), .int (nI 0), .int (nI 0), .int (nI 0), .int (nI 0), .int (nI 0), .int (nI 0)])), (h5, .inr (13, [.int (nI 1), .ref h6, .int (nI 1)])), (h6, .inl (K 4, 10, .inr (.inr (.inr (.inr (va_up (fun _ => none) 0 (some h7))))))), (h7, .inl (K 2, 4, .inl (fun _ => (-1))))]) (run_SW hnc (rest := []) hx hb hml hown hts hK hP hD hS hA hm (C1218_pin l G D K hl0 H.size h0 h1 h2 a13 (.ref a0) (.ref a1) (.ref a2) (.ref a3) (.ref a4) (.ref a5) (.ref a6) (.int (nI 0)) (.ref a7) (.ref a8) ya (by omega) (by omega)) [0, 1, 2] rfl rfl mokh_yL_pin w_977 w_978 ⟨Nat.le_of_ble_eq_true rfl, Nat.le_of_ble_eq_true rfl⟩ rfl hl.1 rfl (Nat.le_of_ble_eq_true rfl) dL_law_696 ⟨(by dsimp only [room_1]; omega), (by dsimp only [room_1]; omega)⟩) hP hD hS hA [0, 1, 2] [3, 4, 5, 6, 7] rfl rfl rfl (by decide) (w2 := fun u0 => [(h3, .inr (12, [.int (nI 0), .ref h4])), (h4, .inr (10, [.ref a9, .ref h5, .ref a10, .ref a11, .ref a12, .int (nI 0), .int (nI 0), .int (nI 60), .int (nI 0), .int (nI 2), .int (nI 0), .int (nI 0), .int (nI 0), .int (nI 0), .int (nI 0), .int (nI 0), .int (nI 0)])), (h5, .inr (13, [.int (nI 1), .ref h6, .int (nI 1)])), (h6, .inl (K 4, 10, .inr (.inr (.inr (.inr (va_up (fun _ => none) 0 (some h7))))))), (h7, .inl (K 2, 4, .inl (fun _ => (-1))))]) (fun _ => rfl) (fun u0 H locs hP hD hS => ?_)
  refine lv_istore (lv' := [(5, .int (nI 2)), (0, .ref b), (1, .ref h0), (2, .ref h3), (3, .ref a13), (4, .int (nI 0))]) hx hb dL_law_699 hl (by decide) rfl (fun ls hl => ?_)
  refine lv_aload_n hx hb dL_law_701 rfl (lv_at hl 3 rfl) ?_
  refine lv_aload_n hx hb dL_law_702 rfl (lv_at hl 1 rfl) ?_
  refine lv_iload hx hb dL_law_703 (lv_at hl 5 rfl) ?_
  refine lv_iconst (v := nI 1) hx hb dL_law_705 (by decide +kernel) ?_
  refine lv_iadd hx hb dL_law_706 ?_
  refine w_toeq (show (nI 0) + (nI 1) = nI 1 by decide +kernel) ?_
  refine va_sld hx hb hX hbl hbA hS (vp_in_nI (n := 1) (by decide) (by decide)) dL_law_707 ?_
  refine w_toeq (show xs (nI 1).toNatClampNeg = nI ya by rw [nI_clamp (n := 1) (by decide)]; exact hx1) ?_
  refine k_i (wr := []) (run_V (rest := []) hx hb hml hown hts hK hP hD hS hA hm (C670_pin l G D K H.size h3 h4 h5 h6 h7 (.ref a9) (.ref a10) (.ref a11) (.ref a12) (.int (nI 0)) (.int (nI 0)) (.int (nI 60)) (.int (nI 0)) (.int (nI 2)) (.int (nI 0)) (.int (nI 0)) (.int (nI 0)) (.int (nI 0)) (.int (nI 0)) (.int (nI 0)) (.int (nI 0)) (.int (nI 1)) ya (by omega) (by omega)) [0, 1, 2, 3, 4] rfl rfl mok_yX12_pin w_1925 w_1926 w_1927 (rcv hK hP 0 rfl rfl rfl) ⟨Nat.le_of_ble_eq_true rfl, Nat.le_of_ble_eq_true rfl⟩ rfl hl.1 rfl (Nat.le_of_ble_eq_true rfl) dL_law_708 ⟨(by dsimp only [room_1]; omega), (by dsimp only [room_1]; omega)⟩) hP hD hS hA [0, 1, 2, 3, 4] [] rfl rfl rfl (by decide) (w2 := fun u1 => [(h4, .inr (10, [.ref a9, .ref h5, .ref a10, .ref a11, .ref a12, .int (nI 0), .int (nI 0), .int (nI 60), .int (nI 0), .int (nI 2), .int (nI 0), .int (nI 0), .int (nI 0), .int (nI 0), .int (nI 0), .int (nI 0), .int (nI 0)])), (h7, .inl (K 2, 4, .inl (fun _ => (-1)))), (h5, .inr (13, [.int (nI 1), .ref h6, .int (nI 1)])), (h6, .inl (K 4, 10, .inr (.inr (.inr (.inr (va_up (fun _ => none) 0 (some h7))))))), (h3, .inr (12, [.int (nI 2), .ref h4]))]) (fun _ => rfl) (fun u1 H locs hP hD hS => ?_)
  refine lv_istore (lv' := [(6, .int (nI 0)), (5, .int (nI 2)), (0, .ref b), (1, .ref h0), (2, .ref h3), (3, .ref a13), (4, .int (nI 0))]) hx hb dL_law_711 hl (by decide) rfl (fun ls hl => ?_)
  refine lv_aload_n hx hb dL_law_713 rfl (lv_at hl 4 rfl) ?_
  refine k_i (wr := [(h4, .inr (10, [.ref a9, .ref h5, .ref a10, .ref a11, .ref a12, .int (nI 0), .int (nI 0), .int (nI 60), .int (nI 0), .int (nI 2), .int (nI 0), .int (nI 0), .int (nI 0), .int (nI 0), .int (nI 0), .int (nI 0), .int (nI 0)])), (h7, .inl (K 2, 4, .inl (fun _ => (-1)))), (h5, .inr (13, [.int (nI 1), .ref h6, .int (nI 1)])), (h6, .inl (K 4, 10, .inr (.inr (.inr (.inr (va_up (fun _ => none) 0 (some h7)))))))]) (run_V (rest := []) hx hb hml hown hts hK hP hD hS hA hm (C1075_thrown l G D K H.size h3 (.ref h4)) [4] rfl rfl mok_yX12_thrown w_1300 w_1301 w_1302 (rcv hK hP 4 rfl rfl rfl) ⟨Nat.le_of_ble_eq_true rfl, Nat.le_of_ble_eq_true rfl⟩ rfl hl.1 rfl (Nat.le_of_ble_eq_true rfl) dL_law_714 ⟨(by dsimp only [room_1]; omega), (by dsimp only [room_1]; omega)⟩) hP hD hS hA [4] [0, 1, 2, 3] rfl rfl rfl (by decide) (w2 := fun u2 => [(h4, .inr (10, [.ref a9, .ref h5, .ref a10, .ref a11, .ref a12, .int (nI 0), .int (nI 0), .int (nI 60), .int (nI 0), .int (nI 2), .int (nI 0), .int (nI 0), .int (nI 0), .int (nI 0), .int (nI 0), .int (nI 0), .int (nI 0)])), (h7, .inl (K 2, 4, .inl (fun _ => (-1)))), (h5, .inr (13, [.int (nI 1), .ref h6, .int (nI 1)])), (h6, .inl (K 4, 10, .inr (.inr (.inr (.inr (va_up (fun _ => none) 0 (some h7))))))), (h3, .inr (12, [.int (nI 2), .ref h4]))]) (fun _ => rfl) (fun u2 H locs hP hD hS => ?_)
  refine lv_iload hx hb dL_law_717 (lv_at hl 1 rfl) ?_
  refine lv_icmp_eq (tgt := 724) hx hb dL_law_719 (by decide) (fun _ => ?_) (fun c9 => absurd (by decide +kernel) c9)
  refine lv_iload hx hb dL_law_724 (lv_at hl 1 rfl) ?_
  refine lv_if_ne (tgt := 748) hx hb dL_law_726 (by decide) (fun _ => ?_) (fun c9 => absurd c9 (by decide +kernel))
  refine lv_goto (tgt := 1762) hx hb dL_law_748 (by decide) ?_
  refine lv_iinc (v := nI 4) (lv' := [(4, .int (nI 4)), (6, .int (nI 0)), (5, .int (nI 2)), (0, .ref b), (1, .ref h0), (2, .ref h3), (3, .ref a13)]) hx hb dL_law_1762 hl (k := 6) rfl (by decide +kernel) (by decide) rfl (fun ls hl => ?_)
  refine lv_goto (tgt := 23) hx hb dL_law_1765 (by decide) ?_
  refine lv_iload hx hb dL_law_23 (lv_at hl 0 rfl) ?_
  refine lv_aload_n hx hb dL_law_25 rfl (lv_at hl 3 rfl) ?_
  refine va_slen hx hb hX hbl hbA hS dL_law_26 ?_
  refine w_toeq (show Int32.ofNat 4 = nI 4 from rfl) ?_
  refine lv_iconst (v := nI 4) hx hb dL_law_27 (by decide +kernel) ?_
  refine lv_isub hx hb dL_law_28 ?_
  refine w_toeq (show (nI 4) - (nI 4) = nI 0 by decide +kernel) ?_
  refine lv_icmp_gt (tgt := 1768) hx hb dL_law_29 (by decide) (fun _ => ?_) (fun c9 => absurd (by decide +kernel) c9)
  refine lv_iconst (v := nI 1) hx hb dL_law_1768 (by decide +kernel) ?_
  exact law_end hx hb hr hlk hS (by dsimp only; omega) (by dsimp only; omega) dL_law_1769
set_option maxHeartbeats 4000000 in
set_option maxRecDepth 100000 in
theorem LW160_pin {p : Program} {e : Env} {s : State} {m : MethodId} {below : List Frame} {meth : Method} {c : Code} {l : Launch} {G : Nat → Nat} {D : va_G} {K : Nat → ClassId} {b : Nat} {xs : Nat → Int32} (hx : p.tables.exec = Jvm.exec) (hb : c.code = cL_law) (hr : meth.sig.returnType = some .boolean) (hlk : meth.locks = false) (hl0 : l.stackTraces = false) (hnc : Ncs s) (hml : c.maxLocals = 9) (hown : s.vm.findClass RL = some m.cls) (hts : ∀ w ∈ lw_gw, w.before #[Value.ref b] s = true) (hK : va_K D cl (tys K) s) (hm : Amb G (fun q : Nat => s.heap.size ≤ q) s s.heap) (hX : va_X b 4 xs s s.heap) (hbl : b < s.heap.size) {h0 h1 a0 a1 a2 a3 a4 a5 a6 a7 a8 a9 : Nat} (ya : Nat) (lya : 4 ≤ ya) (gya : ya ≤ 2147483647) (hx1 : xs 1 = nI ya) {H : Heap} {locs : List Loc} {cells slots : Nat} (hcs : cells ≤ 1000) (hss : slots ≤ 100000) (hP : va_P D cl [(h0, .inr (9, [.ref a0, .ref a1, .ref a2, .ref a3, .ref a4, .ref a5, .ref a6, .ref a7, .int (nI 0)])), (h1, .inr (12, [.int (nI 0), .ref a8]))] H) (hD : va_D (fun q : Nat => s.heap.size ≤ q) [(h0, .inr (9, [.ref a0, .ref a1, .ref a2, .ref a3, .ref a4, .ref a5, .ref a6, .ref a7, .int (nI 0)])), (h1, .inr (12, [.int (nI 0), .ref a8]))]) (hS : va_S (fun q : Nat => s.heap.size ≤ q) s.heap H locs) {ls : Array Slot} (hl : lv_has ls 9 [(0, .ref b), (1, .ref h0), (2, .ref h1), (3, .ref a9), (4, .int (nI 0))]) : W p l e room_1 s m #[Value.ref b] below meth c H locs cells slots (lw_Z below #[Value.ref b] s) (F0 m 688 ls []) := by
  have hA : ∀ q : Nat, s.heap.size ≤ q → (fun q : Nat => s.heap.size ≤ q) q := fun _ h => h
  have hbA : ¬ (fun q : Nat => s.heap.size ≤ q) b := Nat.not_le.mpr hbl
  refine lv_aload_n hx hb dL_law_688 rfl (lv_at hl 1 rfl) ?_
  refine lv_aload_n hx hb dL_law_689 rfl (lv_at hl 0 rfl) ?_
  refine lv_iload hx hb dL_law_690 (lv_at hl 4 rfl) ?_
  refine lv_iconst (v := nI 1) hx hb dL_law_692 (by decide +kernel) ?_
  refine lv_iadd hx hb dL_law_693 ?_
  refine w_toeq (show (nI 0) + (nI 1) = nI 1 by decide +kernel) ?_
  refine va_sld hx hb hX hbl hbA hS (vp_in_nI (n := 1) (by decide) (by decide)) dL_law_694 ?_
  refine w_toeq (show xs (nI 1).toNatClampNeg = nI ya by rw [nI_clamp (n := 1) (by decide)]; exact hx1) ?_
  refine lv_aload_n hx hb dL_law_695 rfl (lv_at hl 3 rfl) ?_
  refine k_i (wr := [(h1, .inr (12, [.int (nI 0), .ref a8]))]) (run_SW hnc (rest := []) hx hb hml hown hts hK hP hD hS hA hm (C1219_pin l G D K hl0 H.size h0 a9 (.ref a0) (.ref a1) (.ref a2) (.ref a3) (.ref a4) (.ref a5) (.ref a6) (.ref a7) (.int (nI 0)) ya (by omega) (by omega)) [0] rfl rfl mokh_yL_pin w_977 w_978 ⟨Nat.le_of_ble_eq_true rfl, Nat.le_of_ble_eq_true rfl⟩ rfl hl.1 rfl (Nat.le_of_ble_eq_true rfl) dL_law_696 ⟨(by dsimp only [room_1]; omega), (by dsimp only [room_1]; omega)⟩) hP hD hS hA [0] [1] rfl rfl rfl (by decide) (w2 := fun u0 => [(h1, .inr (12, [.int (nI 0), .ref a8])), (h0, .inr (9, [.ref a0, .ref a1, .ref a2, .ref a3, .ref a4, .ref a5, .ref a6, .ref a7, .int (nI 0)]))]) (fun _ => rfl) (fun u0 H locs hP hD hS => ?_)
  refine lv_istore (lv' := [(5, .int (nI 1)), (0, .ref b), (1, .ref h0), (2, .ref h1), (3, .ref a9), (4, .int (nI 0))]) hx hb dL_law_699 hl (by decide) rfl (fun ls hl => ?_)
  refine lv_aload_n hx hb dL_law_701 rfl (lv_at hl 3 rfl) ?_
  refine lv_aload_n hx hb dL_law_702 rfl (lv_at hl 1 rfl) ?_
  refine lv_iload hx hb dL_law_703 (lv_at hl 5 rfl) ?_
  refine lv_iconst (v := nI 1) hx hb dL_law_705 (by decide +kernel) ?_
  refine lv_iadd hx hb dL_law_706 ?_
  refine w_toeq (show (nI 0) + (nI 1) = nI 1 by decide +kernel) ?_
  refine va_sld hx hb hX hbl hbA hS (vp_in_nI (n := 1) (by decide) (by decide)) dL_law_707 ?_
  refine w_toeq (show xs (nI 1).toNatClampNeg = nI ya by rw [nI_clamp (n := 1) (by decide)]; exact hx1) ?_
  refine k_i (wr := [(h0, .inr (9, [.ref a0, .ref a1, .ref a2, .ref a3, .ref a4, .ref a5, .ref a6, .ref a7, .int (nI 0)]))]) (run_V (rest := []) hx hb hml hown hts hK hP hD hS hA hm (C672_pin l G D K H.size h1 (.ref a8) ya (by omega) (by omega)) [0] rfl rfl mok_yX12_pin w_1925 w_1926 w_1927 (rcv hK hP 0 rfl rfl rfl) ⟨Nat.le_of_ble_eq_true rfl, Nat.le_of_ble_eq_true rfl⟩ rfl hl.1 rfl (Nat.le_of_ble_eq_true rfl) dL_law_708 ⟨(by dsimp only [room_1]; omega), (by dsimp only [room_1]; omega)⟩) hP hD hS hA [0] [1] rfl rfl rfl (by decide) (w2 := fun u1 => [(h0, .inr (9, [.ref a0, .ref a1, .ref a2, .ref a3, .ref a4, .ref a5, .ref a6, .ref a7, .int (nI 0)])), (h1, .inr (12, [.int (nI 1), .ref a8]))]) (fun _ => rfl) (fun u1 H locs hP hD hS => ?_)
  refine lv_istore (lv' := [(6, .int (nI 0)), (5, .int (nI 1)), (0, .ref b), (1, .ref h0), (2, .ref h1), (3, .ref a9), (4, .int (nI 0))]) hx hb dL_law_711 hl (by decide) rfl (fun ls hl => ?_)
  refine lv_aload_n hx hb dL_law_713 rfl (lv_at hl 4 rfl) ?_
  refine k_i (wr := [(h0, .inr (9, [.ref a0, .ref a1, .ref a2, .ref a3, .ref a4, .ref a5, .ref a6, .ref a7, .int (nI 0)]))]) (run_V (rest := []) hx hb hml hown hts hK hP hD hS hA hm (C1059_thrown l G D K H.size h1 (.ref a8)) [1] rfl rfl mok_yX12_thrown w_1300 w_1301 w_1302 (rcv hK hP 1 rfl rfl rfl) ⟨Nat.le_of_ble_eq_true rfl, Nat.le_of_ble_eq_true rfl⟩ rfl hl.1 rfl (Nat.le_of_ble_eq_true rfl) dL_law_714 ⟨(by dsimp only [room_1]; omega), (by dsimp only [room_1]; omega)⟩) hP hD hS hA [1] [0] rfl rfl rfl (by decide) (w2 := fun u2 => [(h0, .inr (9, [.ref a0, .ref a1, .ref a2, .ref a3, .ref a4, .ref a5, .ref a6, .ref a7, .int (nI 0)])), (h1, .inr (12, [.int (nI 1), .ref a8]))]) (fun _ => rfl) (fun u2 H locs hP hD hS => ?_)
  refine lv_iload hx hb dL_law_717 (lv_at hl 1 rfl) ?_
  refine lv_icmp_eq (tgt := 724) hx hb dL_law_719 (by decide) (fun _ => ?_) (fun c9 => absurd (by decide +kernel) c9)
  refine lv_iload hx hb dL_law_724 (lv_at hl 1 rfl) ?_
  refine lv_if_ne (tgt := 748) hx hb dL_law_726 (by decide) (fun _ => ?_) (fun c9 => absurd c9 (by decide +kernel))
  refine lv_goto (tgt := 1762) hx hb dL_law_748 (by decide) ?_
  refine lv_iinc (v := nI 4) (lv' := [(4, .int (nI 4)), (6, .int (nI 0)), (5, .int (nI 1)), (0, .ref b), (1, .ref h0), (2, .ref h1), (3, .ref a9)]) hx hb dL_law_1762 hl (k := 6) rfl (by decide +kernel) (by decide) rfl (fun ls hl => ?_)
  refine lv_goto (tgt := 23) hx hb dL_law_1765 (by decide) ?_
  refine lv_iload hx hb dL_law_23 (lv_at hl 0 rfl) ?_
  refine lv_aload_n hx hb dL_law_25 rfl (lv_at hl 3 rfl) ?_
  refine va_slen hx hb hX hbl hbA hS dL_law_26 ?_
  refine w_toeq (show Int32.ofNat 4 = nI 4 from rfl) ?_
  refine lv_iconst (v := nI 4) hx hb dL_law_27 (by decide +kernel) ?_
  refine lv_isub hx hb dL_law_28 ?_
  refine w_toeq (show (nI 4) - (nI 4) = nI 0 by decide +kernel) ?_
  refine lv_icmp_gt (tgt := 1768) hx hb dL_law_29 (by decide) (fun _ => ?_) (fun c9 => absurd (by decide +kernel) c9)
  refine lv_iconst (v := nI 1) hx hb dL_law_1768 (by decide +kernel) ?_
  exact law_end hx hb hr hlk hS (by dsimp only; omega) (by dsimp only; omega) dL_law_1769
set_option maxHeartbeats 4000000 in
set_option maxRecDepth 100000 in
theorem LW161_unpin {p : Program} {e : Env} {s : State} {m : MethodId} {below : List Frame} {meth : Method} {c : Code} {l : Launch} {G : Nat → Nat} {D : va_G} {K : Nat → ClassId} {b : Nat} {xs : Nat → Int32} (hx : p.tables.exec = Jvm.exec) (hb : c.code = cL_law) (hr : meth.sig.returnType = some .boolean) (hlk : meth.locks = false) (hl0 : l.stackTraces = false) (hnc : Ncs s) (hml : c.maxLocals = 9) (hown : s.vm.findClass RL = some m.cls) (hts : ∀ w ∈ lw_gw, w.before #[Value.ref b] s = true) (hK : va_K D cl (tys K) s) (hm : Amb G (fun q : Nat => s.heap.size ≤ q) s s.heap) (hX : va_X b 4 xs s s.heap) (hbl : b < s.heap.size) {h0 h1 a0 a1 a2 a3 a4 a5 a6 a7 a8 a9 : Nat} (ya : Int32) (hya : ya < 0) (hx1 : xs 1 = ya) {H : Heap} {locs : List Loc} {cells slots : Nat} (hcs : cells ≤ 1000) (hss : slots ≤ 100000) (hP : va_P D cl [(h0, .inr (9, [.ref a0, .ref a1, .ref a2, .ref a3, .ref a4, .ref a5, .ref a6, .ref a7, .int (nI 0)])), (h1, .inr (12, [.int (nI 0), .ref a8]))] H) (hD : va_D (fun q : Nat => s.heap.size ≤ q) [(h0, .inr (9, [.ref a0, .ref a1, .ref a2, .ref a3, .ref a4, .ref a5, .ref a6, .ref a7, .int (nI 0)])), (h1, .inr (12, [.int (nI 0), .ref a8]))]) (hS : va_S (fun q : Nat => s.heap.size ≤ q) s.heap H locs) {ls : Array Slot} (hl : lv_has ls 9 [(0, .ref b), (1, .ref h0), (2, .ref h1), (3, .ref a9), (4, .int (nI 0))]) : W p l e room_1 s m #[Value.ref b] below meth c H locs cells slots (lw_Z below #[Value.ref b] s) (F0 m 751 ls []) := by
  have hA : ∀ q : Nat, s.heap.size ≤ q → (fun q : Nat => s.heap.size ≤ q) q := fun _ h => h
  have hbA : ¬ (fun q : Nat => s.heap.size ≤ q) b := Nat.not_le.mpr hbl
  refine lv_aload_n hx hb dL_law_751 rfl (lv_at hl 1 rfl) ?_
  refine lv_aload_n hx hb dL_law_752 rfl (lv_at hl 0 rfl) ?_
  refine lv_iload hx hb dL_law_753 (lv_at hl 4 rfl) ?_
  refine lv_iconst (v := nI 1) hx hb dL_law_755 (by decide +kernel) ?_
  refine lv_iadd hx hb dL_law_756 ?_
  refine w_toeq (show (nI 0) + (nI 1) = nI 1 by decide +kernel) ?_
  refine va_sld hx hb hX hbl hbA hS (vp_in_nI (n := 1) (by decide) (by decide)) dL_law_757 ?_
  refine w_toeq (show xs (nI 1).toNatClampNeg = ya by rw [nI_clamp (n := 1) (by decide)]; exact hx1) ?_
  refine lv_aload_n hx hb dL_law_758 rfl (lv_at hl 3 rfl) ?_
  refine k_i (wr := [(h1, .inr (12, [.int (nI 0), .ref a8]))]) (run_SW hnc (rest := []) hx hb hml hown hts hK hP hD hS hA hm (C1220_unpin l G D K hl0 H.size h0 a9 (.ref a0) (.ref a1) (.ref a2) (.ref a3) (.ref a4) (.ref a5) (.ref a6) (.ref a7) (.int (nI 0)) ya hya) [0] rfl rfl mokh_yL_unpin w_994 w_995 ⟨Nat.le_of_ble_eq_true rfl, Nat.le_of_ble_eq_true rfl⟩ rfl hl.1 rfl (Nat.le_of_ble_eq_true rfl) dL_law_759 ⟨(by dsimp only [room_1]; omega), (by dsimp only [room_1]; omega)⟩) hP hD hS hA [0] [1] rfl rfl rfl (by decide) (w2 := fun u0 => [(h1, .inr (12, [.int (nI 0), .ref a8])), (h0, .inr (9, [.ref a0, .ref a1, .ref a2, .ref a3, .ref a4, .ref a5, .ref a6, .ref a7, .int (nI 0)]))]) (fun _ => rfl) (fun u0 H locs hP hD hS => ?_)
  refine lv_istore (lv' := [(5, .int (nI 1)), (0, .ref b), (1, .ref h0), (2, .ref h1), (3, .ref a9), (4, .int (nI 0))]) hx hb dL_law_762 hl (by decide) rfl (fun ls hl => ?_)
  refine lv_aload_n hx hb dL_law_764 rfl (lv_at hl 3 rfl) ?_
  refine lv_aload_n hx hb dL_law_765 rfl (lv_at hl 1 rfl) ?_
  refine lv_iload hx hb dL_law_766 (lv_at hl 5 rfl) ?_
  refine lv_iconst (v := nI 1) hx hb dL_law_768 (by decide +kernel) ?_
  refine lv_iadd hx hb dL_law_769 ?_
  refine w_toeq (show (nI 0) + (nI 1) = nI 1 by decide +kernel) ?_
  refine va_sld hx hb hX hbl hbA hS (vp_in_nI (n := 1) (by decide) (by decide)) dL_law_770 ?_
  refine w_toeq (show xs (nI 1).toNatClampNeg = ya by rw [nI_clamp (n := 1) (by decide)]; exact hx1) ?_
  refine k_i (wr := [(h0, .inr (9, [.ref a0, .ref a1, .ref a2, .ref a3, .ref a4, .ref a5, .ref a6, .ref a7, .int (nI 0)]))]) (run_V (rest := []) hx hb hml hown hts hK hP hD hS hA hm (C674_unpin l G D K H.size h1 (.ref a8) ya hya) [0] rfl rfl mok_yX12_unpin w_1937 w_1938 w_1939 (rcv hK hP 0 rfl rfl rfl) ⟨Nat.le_of_ble_eq_true rfl, Nat.le_of_ble_eq_true rfl⟩ rfl hl.1 rfl (Nat.le_of_ble_eq_true rfl) dL_law_771 ⟨(by dsimp only [room_1]; omega), (by dsimp only [room_1]; omega)⟩) hP hD hS hA [0] [1] rfl rfl rfl (by decide) (w2 := fun u1 => [(h0, .inr (9, [.ref a0, .ref a1, .ref a2, .ref a3, .ref a4, .ref a5, .ref a6, .ref a7, .int (nI 0)])), (h1, .inr (12, [.int (nI 1), .ref a8]))]) (fun _ => rfl) (fun u1 H locs hP hD hS => ?_)
  refine lv_istore (lv' := [(6, .int (nI 0)), (5, .int (nI 1)), (0, .ref b), (1, .ref h0), (2, .ref h1), (3, .ref a9), (4, .int (nI 0))]) hx hb dL_law_774 hl (by decide) rfl (fun ls hl => ?_)
  refine lv_aload_n hx hb dL_law_776 rfl (lv_at hl 4 rfl) ?_
  refine k_i (wr := [(h0, .inr (9, [.ref a0, .ref a1, .ref a2, .ref a3, .ref a4, .ref a5, .ref a6, .ref a7, .int (nI 0)]))]) (run_V (rest := []) hx hb hml hown hts hK hP hD hS hA hm (C1059_thrown l G D K H.size h1 (.ref a8)) [1] rfl rfl mok_yX12_thrown w_1300 w_1301 w_1302 (rcv hK hP 1 rfl rfl rfl) ⟨Nat.le_of_ble_eq_true rfl, Nat.le_of_ble_eq_true rfl⟩ rfl hl.1 rfl (Nat.le_of_ble_eq_true rfl) dL_law_777 ⟨(by dsimp only [room_1]; omega), (by dsimp only [room_1]; omega)⟩) hP hD hS hA [1] [0] rfl rfl rfl (by decide) (w2 := fun u2 => [(h0, .inr (9, [.ref a0, .ref a1, .ref a2, .ref a3, .ref a4, .ref a5, .ref a6, .ref a7, .int (nI 0)])), (h1, .inr (12, [.int (nI 1), .ref a8]))]) (fun _ => rfl) (fun u2 H locs hP hD hS => ?_)
  refine lv_iload hx hb dL_law_780 (lv_at hl 1 rfl) ?_
  refine lv_icmp_eq (tgt := 787) hx hb dL_law_782 (by decide) (fun _ => ?_) (fun c9 => absurd (by decide +kernel) c9)
  refine lv_iload hx hb dL_law_787 (lv_at hl 1 rfl) ?_
  refine lv_if_ne (tgt := 811) hx hb dL_law_789 (by decide) (fun _ => ?_) (fun c9 => absurd c9 (by decide +kernel))
  refine lv_goto (tgt := 1762) hx hb dL_law_811 (by decide) ?_
  refine lv_iinc (v := nI 4) (lv' := [(4, .int (nI 4)), (6, .int (nI 0)), (5, .int (nI 1)), (0, .ref b), (1, .ref h0), (2, .ref h1), (3, .ref a9)]) hx hb dL_law_1762 hl (k := 6) rfl (by decide +kernel) (by decide) rfl (fun ls hl => ?_)
  refine lv_goto (tgt := 23) hx hb dL_law_1765 (by decide) ?_
  refine lv_iload hx hb dL_law_23 (lv_at hl 0 rfl) ?_
  refine lv_aload_n hx hb dL_law_25 rfl (lv_at hl 3 rfl) ?_
  refine va_slen hx hb hX hbl hbA hS dL_law_26 ?_
  refine w_toeq (show Int32.ofNat 4 = nI 4 from rfl) ?_
  refine lv_iconst (v := nI 4) hx hb dL_law_27 (by decide +kernel) ?_
  refine lv_isub hx hb dL_law_28 ?_
  refine w_toeq (show (nI 4) - (nI 4) = nI 0 by decide +kernel) ?_
  refine lv_icmp_gt (tgt := 1768) hx hb dL_law_29 (by decide) (fun _ => ?_) (fun c9 => absurd (by decide +kernel) c9)
  refine lv_iconst (v := nI 1) hx hb dL_law_1768 (by decide +kernel) ?_
  exact law_end hx hb hr hlk hS (by dsimp only; omega) (by dsimp only; omega) dL_law_1769
set_option maxHeartbeats 4000000 in
set_option maxRecDepth 100000 in
theorem LW162_unpin {p : Program} {e : Env} {s : State} {m : MethodId} {below : List Frame} {meth : Method} {c : Code} {l : Launch} {G : Nat → Nat} {D : va_G} {K : Nat → ClassId} {b : Nat} {xs : Nat → Int32} (hx : p.tables.exec = Jvm.exec) (hb : c.code = cL_law) (hr : meth.sig.returnType = some .boolean) (hlk : meth.locks = false) (hl0 : l.stackTraces = false) (hnc : Ncs s) (hml : c.maxLocals = 9) (hown : s.vm.findClass RL = some m.cls) (hts : ∀ w ∈ lw_gw, w.before #[Value.ref b] s = true) (hK : va_K D cl (tys K) s) (hm : Amb G (fun q : Nat => s.heap.size ≤ q) s s.heap) (hX : va_X b 4 xs s s.heap) (hbl : b < s.heap.size) {h0 h1 h2 h3 h4 h5 h6 h7 a0 a1 a2 a3 a4 a5 a6 a7 a8 a9 a10 a11 a12 a13 : Nat} (ya : Nat) (lya : 0 ≤ ya) (gya : ya ≤ 3) (hx1 : xs 1 = nI ya) {H : Heap} {locs : List Loc} {cells slots : Nat} (hcs : cells ≤ 1000) (hss : slots ≤ 100000) (hP : va_P D cl [(h0, .inr (9, [.ref a0, .ref h1, .ref a1, .ref a2, .ref a3, .ref a4, .ref a5, .ref a6, .int (nI 0)])), (h1, .inr (4, [.ref a7, .ref h2, .ref a8, .int (nI 1)])), (h2, .inl (K 0, 32, .inr (.inr (.inr (.inr (fun _ => none)))))), (h3, .inr (12, [.int (nI 0), .ref h4])), (h4, .inr (10, [.ref a9, .ref h5, .ref a10, .ref a11, .ref a12, .int (nI 0), .int (nI 0), .int (nI 60), .int (nI 0), .int (nI 2), .int (nI 0), .int (nI 0), .int (nI 0), .int (nI 0), .int (nI 0), .int (nI 0), .int (nI 0)])), (h5, .inr (13, [.int (nI 1), .ref h6, .int (nI 1)])), (h6, .inl (K 4, 10, .inr (.inr (.inr (.inr (va_up (fun _ => none) 0 (some h7))))))), (h7, .inl (K 2, 4, .inl (fun _ => (-1))))] H) (hD : va_D (fun q : Nat => s.heap.size ≤ q) [(h0, .inr (9, [.ref a0, .ref h1, .ref a1, .ref a2, .ref a3, .ref a4, .ref a5, .ref a6, .int (nI 0)])), (h1, .inr (4, [.ref a7, .ref h2, .ref a8, .int (nI 1)])), (h2, .inl (K 0, 32, .inr (.inr (.inr (.inr (fun _ => none)))))), (h3, .inr (12, [.int (nI 0), .ref h4])), (h4, .inr (10, [.ref a9, .ref h5, .ref a10, .ref a11, .ref a12, .int (nI 0), .int (nI 0), .int (nI 60), .int (nI 0), .int (nI 2), .int (nI 0), .int (nI 0), .int (nI 0), .int (nI 0), .int (nI 0), .int (nI 0), .int (nI 0)])), (h5, .inr (13, [.int (nI 1), .ref h6, .int (nI 1)])), (h6, .inl (K 4, 10, .inr (.inr (.inr (.inr (va_up (fun _ => none) 0 (some h7))))))), (h7, .inl (K 2, 4, .inl (fun _ => (-1))))]) (hS : va_S (fun q : Nat => s.heap.size ≤ q) s.heap H locs) {ls : Array Slot} (hl : lv_has ls 9 [(0, .ref b), (1, .ref h0), (2, .ref h3), (3, .ref a13), (4, .int (nI 0))]) : W p l e room_1 s m #[Value.ref b] below meth c H locs cells slots (lw_Z below #[Value.ref b] s) (F0 m 751 ls []) := by
  have hA : ∀ q : Nat, s.heap.size ≤ q → (fun q : Nat => s.heap.size ≤ q) q := fun _ h => h
  have hbA : ¬ (fun q : Nat => s.heap.size ≤ q) b := Nat.not_le.mpr hbl
  refine lv_aload_n hx hb dL_law_751 rfl (lv_at hl 1 rfl) ?_
  refine lv_aload_n hx hb dL_law_752 rfl (lv_at hl 0 rfl) ?_
  refine lv_iload hx hb dL_law_753 (lv_at hl 4 rfl) ?_
  refine lv_iconst (v := nI 1) hx hb dL_law_755 (by decide +kernel) ?_
  refine lv_iadd hx hb dL_law_756 ?_
  refine w_toeq (show (nI 0) + (nI 1) = nI 1 by decide +kernel) ?_
  refine va_sld hx hb hX hbl hbA hS (vp_in_nI (n := 1) (by decide) (by decide)) dL_law_757 ?_
  refine w_toeq (show xs (nI 1).toNatClampNeg = nI ya by rw [nI_clamp (n := 1) (by decide)]; exact hx1) ?_
  refine lv_aload_n hx hb dL_law_758 rfl (lv_at hl 3 rfl) ?_
  refine k_i (wr := [(h3, .inr (12, [.int (nI 0), .ref h4])), (h4, .inr (10, [.ref a9, .ref h5, .ref a10, .ref a11, .ref a12, .int (nI 0), .int (nI 0), .int (nI 60), .int (nI 0), .int (nI 2), .int (nI 0), .int (nI 0), .int (nI 0), .int (nI 0), .int (nI 0), .int (nI 0), .int (nI 0)])), (h5, .inr (13, [.int (nI 1), .ref h6, .int (nI 1)])), (h6, .inl (K 4, 10, .inr (.inr (.inr (.inr (va_up (fun _ => none) 0 (some h7))))))), (h7, .inl (K 2, 4, .inl (fun _ => (-1))))]) (run_SW hnc (rest := []) hx hb hml hown hts hK hP hD hS hA hm (C1221_unpin l G D K hl0 H.size h0 h1 h2 a13 (.ref a0) (.ref a1) (.ref a2) (.ref a3) (.ref a4) (.ref a5) (.ref a6) (.int (nI 0)) (.ref a7) (.ref a8) ya (by omega) (by omega)) [0, 1, 2] rfl rfl mokh_yL_unpin w_994 w_995 ⟨Nat.le_of_ble_eq_true rfl, Nat.le_of_ble_eq_true rfl⟩ rfl hl.1 rfl (Nat.le_of_ble_eq_true rfl) dL_law_759 ⟨(by dsimp only [room_1]; omega), (by dsimp only [room_1]; omega)⟩) hP hD hS hA [0, 1, 2] [3, 4, 5, 6, 7] rfl rfl rfl (by decide) (w2 := fun u0 => [(h3, .inr (12, [.int (nI 0), .ref h4])), (h4, .inr (10, [.ref a9, .ref h5, .ref a10, .ref a11, .ref a12, .int (nI 0), .int (nI 0), .int (nI 60), .int (nI 0), .int (nI 2), .int (nI 0), .int (nI 0), .int (nI 0), .int (nI 0), .int (nI 0), .int (nI 0), .int (nI 0)])), (h5, .inr (13, [.int (nI 1), .ref h6, .int (nI 1)])), (h6, .inl (K 4, 10, .inr (.inr (.inr (.inr (va_up (fun _ => none) 0 (some h7))))))), (h7, .inl (K 2, 4, .inl (fun _ => (-1))))]) (fun _ => rfl) (fun u0 H locs hP hD hS => ?_)
  refine lv_istore (lv' := [(5, .int (nI 2)), (0, .ref b), (1, .ref h0), (2, .ref h3), (3, .ref a13), (4, .int (nI 0))]) hx hb dL_law_762 hl (by decide) rfl (fun ls hl => ?_)
  refine lv_aload_n hx hb dL_law_764 rfl (lv_at hl 3 rfl) ?_
  refine lv_aload_n hx hb dL_law_765 rfl (lv_at hl 1 rfl) ?_
  refine lv_iload hx hb dL_law_766 (lv_at hl 5 rfl) ?_
  refine lv_iconst (v := nI 1) hx hb dL_law_768 (by decide +kernel) ?_
  refine lv_iadd hx hb dL_law_769 ?_
  refine w_toeq (show (nI 0) + (nI 1) = nI 1 by decide +kernel) ?_
  refine va_sld hx hb hX hbl hbA hS (vp_in_nI (n := 1) (by decide) (by decide)) dL_law_770 ?_
  refine w_toeq (show xs (nI 1).toNatClampNeg = nI ya by rw [nI_clamp (n := 1) (by decide)]; exact hx1) ?_
  refine k_i (wr := []) (run_V (rest := []) hx hb hml hown hts hK hP hD hS hA hm (C676_unpin l G D K H.size h3 h4 h5 h6 h7 (.ref a9) (.ref a10) (.ref a11) (.ref a12) (.int (nI 0)) (.int (nI 0)) (.int (nI 60)) (.int (nI 0)) (.int (nI 2)) (.int (nI 0)) (.int (nI 0)) (.int (nI 0)) (.int (nI 0)) (.int (nI 0)) (.int (nI 0)) (.int (nI 0)) (.int (nI 1)) ya (by omega) (by omega)) [0, 1, 2, 3, 4] rfl rfl mok_yX12_unpin w_1937 w_1938 w_1939 (rcv hK hP 0 rfl rfl rfl) ⟨Nat.le_of_ble_eq_true rfl, Nat.le_of_ble_eq_true rfl⟩ rfl hl.1 rfl (Nat.le_of_ble_eq_true rfl) dL_law_771 ⟨(by dsimp only [room_1]; omega), (by dsimp only [room_1]; omega)⟩) hP hD hS hA [0, 1, 2, 3, 4] [] rfl rfl rfl (by decide) (w2 := fun u1 => [(h4, .inr (10, [.ref a9, .ref h5, .ref a10, .ref a11, .ref a12, .int (nI 0), .int (nI 0), .int (nI 60), .int (nI 0), .int (nI 2), .int (nI 0), .int (nI 0), .int (nI 0), .int (nI 0), .int (nI 0), .int (nI 0), .int (nI 0)])), (h7, .inl (K 2, 4, .inl (fun _ => (-1)))), (h5, .inr (13, [.int (nI 1), .ref h6, .int (nI 1)])), (h6, .inl (K 4, 10, .inr (.inr (.inr (.inr (va_up (fun _ => none) 0 (some h7))))))), (h3, .inr (12, [.int (nI 2), .ref h4]))]) (fun _ => rfl) (fun u1 H locs hP hD hS => ?_)
  refine lv_istore (lv' := [(6, .int (nI 0)), (5, .int (nI 2)), (0, .ref b), (1, .ref h0), (2, .ref h3), (3, .ref a13), (4, .int (nI 0))]) hx hb dL_law_774 hl (by decide) rfl (fun ls hl => ?_)
  refine lv_aload_n hx hb dL_law_776 rfl (lv_at hl 4 rfl) ?_
  refine k_i (wr := [(h4, .inr (10, [.ref a9, .ref h5, .ref a10, .ref a11, .ref a12, .int (nI 0), .int (nI 0), .int (nI 60), .int (nI 0), .int (nI 2), .int (nI 0), .int (nI 0), .int (nI 0), .int (nI 0), .int (nI 0), .int (nI 0), .int (nI 0)])), (h7, .inl (K 2, 4, .inl (fun _ => (-1)))), (h5, .inr (13, [.int (nI 1), .ref h6, .int (nI 1)])), (h6, .inl (K 4, 10, .inr (.inr (.inr (.inr (va_up (fun _ => none) 0 (some h7)))))))]) (run_V (rest := []) hx hb hml hown hts hK hP hD hS hA hm (C1075_thrown l G D K H.size h3 (.ref h4)) [4] rfl rfl mok_yX12_thrown w_1300 w_1301 w_1302 (rcv hK hP 4 rfl rfl rfl) ⟨Nat.le_of_ble_eq_true rfl, Nat.le_of_ble_eq_true rfl⟩ rfl hl.1 rfl (Nat.le_of_ble_eq_true rfl) dL_law_777 ⟨(by dsimp only [room_1]; omega), (by dsimp only [room_1]; omega)⟩) hP hD hS hA [4] [0, 1, 2, 3] rfl rfl rfl (by decide) (w2 := fun u2 => [(h4, .inr (10, [.ref a9, .ref h5, .ref a10, .ref a11, .ref a12, .int (nI 0), .int (nI 0), .int (nI 60), .int (nI 0), .int (nI 2), .int (nI 0), .int (nI 0), .int (nI 0), .int (nI 0), .int (nI 0), .int (nI 0), .int (nI 0)])), (h7, .inl (K 2, 4, .inl (fun _ => (-1)))), (h5, .inr (13, [.int (nI 1), .ref h6, .int (nI 1)])), (h6, .inl (K 4, 10, .inr (.inr (.inr (.inr (va_up (fun _ => none) 0 (some h7))))))), (h3, .inr (12, [.int (nI 2), .ref h4]))]) (fun _ => rfl) (fun u2 H locs hP hD hS => ?_)
  refine lv_iload hx hb dL_law_780 (lv_at hl 1 rfl) ?_
  refine lv_icmp_eq (tgt := 787) hx hb dL_law_782 (by decide) (fun _ => ?_) (fun c9 => absurd (by decide +kernel) c9)
  refine lv_iload hx hb dL_law_787 (lv_at hl 1 rfl) ?_
  refine lv_if_ne (tgt := 811) hx hb dL_law_789 (by decide) (fun _ => ?_) (fun c9 => absurd c9 (by decide +kernel))
  refine lv_goto (tgt := 1762) hx hb dL_law_811 (by decide) ?_
  refine lv_iinc (v := nI 4) (lv' := [(4, .int (nI 4)), (6, .int (nI 0)), (5, .int (nI 2)), (0, .ref b), (1, .ref h0), (2, .ref h3), (3, .ref a13)]) hx hb dL_law_1762 hl (k := 6) rfl (by decide +kernel) (by decide) rfl (fun ls hl => ?_)
  refine lv_goto (tgt := 23) hx hb dL_law_1765 (by decide) ?_
  refine lv_iload hx hb dL_law_23 (lv_at hl 0 rfl) ?_
  refine lv_aload_n hx hb dL_law_25 rfl (lv_at hl 3 rfl) ?_
  refine va_slen hx hb hX hbl hbA hS dL_law_26 ?_
  refine w_toeq (show Int32.ofNat 4 = nI 4 from rfl) ?_
  refine lv_iconst (v := nI 4) hx hb dL_law_27 (by decide +kernel) ?_
  refine lv_isub hx hb dL_law_28 ?_
  refine w_toeq (show (nI 4) - (nI 4) = nI 0 by decide +kernel) ?_
  refine lv_icmp_gt (tgt := 1768) hx hb dL_law_29 (by decide) (fun _ => ?_) (fun c9 => absurd (by decide +kernel) c9)
  refine lv_iconst (v := nI 1) hx hb dL_law_1768 (by decide +kernel) ?_
  exact law_end hx hb hr hlk hS (by dsimp only; omega) (by dsimp only; omega) dL_law_1769
set_option maxHeartbeats 4000000 in
set_option maxRecDepth 100000 in
theorem LW163_unpin {p : Program} {e : Env} {s : State} {m : MethodId} {below : List Frame} {meth : Method} {c : Code} {l : Launch} {G : Nat → Nat} {D : va_G} {K : Nat → ClassId} {b : Nat} {xs : Nat → Int32} (hx : p.tables.exec = Jvm.exec) (hb : c.code = cL_law) (hr : meth.sig.returnType = some .boolean) (hlk : meth.locks = false) (hl0 : l.stackTraces = false) (hnc : Ncs s) (hml : c.maxLocals = 9) (hown : s.vm.findClass RL = some m.cls) (hts : ∀ w ∈ lw_gw, w.before #[Value.ref b] s = true) (hK : va_K D cl (tys K) s) (hm : Amb G (fun q : Nat => s.heap.size ≤ q) s s.heap) (hX : va_X b 4 xs s s.heap) (hbl : b < s.heap.size) {h0 h1 a0 a1 a2 a3 a4 a5 a6 a7 a8 a9 : Nat} (ya : Nat) (lya : 4 ≤ ya) (gya : ya ≤ 2147483647) (hx1 : xs 1 = nI ya) {H : Heap} {locs : List Loc} {cells slots : Nat} (hcs : cells ≤ 1000) (hss : slots ≤ 100000) (hP : va_P D cl [(h0, .inr (9, [.ref a0, .ref a1, .ref a2, .ref a3, .ref a4, .ref a5, .ref a6, .ref a7, .int (nI 0)])), (h1, .inr (12, [.int (nI 0), .ref a8]))] H) (hD : va_D (fun q : Nat => s.heap.size ≤ q) [(h0, .inr (9, [.ref a0, .ref a1, .ref a2, .ref a3, .ref a4, .ref a5, .ref a6, .ref a7, .int (nI 0)])), (h1, .inr (12, [.int (nI 0), .ref a8]))]) (hS : va_S (fun q : Nat => s.heap.size ≤ q) s.heap H locs) {ls : Array Slot} (hl : lv_has ls 9 [(0, .ref b), (1, .ref h0), (2, .ref h1), (3, .ref a9), (4, .int (nI 0))]) : W p l e room_1 s m #[Value.ref b] below meth c H locs cells slots (lw_Z below #[Value.ref b] s) (F0 m 751 ls []) := by
  have hA : ∀ q : Nat, s.heap.size ≤ q → (fun q : Nat => s.heap.size ≤ q) q := fun _ h => h
  have hbA : ¬ (fun q : Nat => s.heap.size ≤ q) b := Nat.not_le.mpr hbl
  refine lv_aload_n hx hb dL_law_751 rfl (lv_at hl 1 rfl) ?_
  refine lv_aload_n hx hb dL_law_752 rfl (lv_at hl 0 rfl) ?_
  refine lv_iload hx hb dL_law_753 (lv_at hl 4 rfl) ?_
  refine lv_iconst (v := nI 1) hx hb dL_law_755 (by decide +kernel) ?_
  refine lv_iadd hx hb dL_law_756 ?_
  refine w_toeq (show (nI 0) + (nI 1) = nI 1 by decide +kernel) ?_
  refine va_sld hx hb hX hbl hbA hS (vp_in_nI (n := 1) (by decide) (by decide)) dL_law_757 ?_
  refine w_toeq (show xs (nI 1).toNatClampNeg = nI ya by rw [nI_clamp (n := 1) (by decide)]; exact hx1) ?_
  refine lv_aload_n hx hb dL_law_758 rfl (lv_at hl 3 rfl) ?_
  refine k_i (wr := [(h1, .inr (12, [.int (nI 0), .ref a8]))]) (run_SW hnc (rest := []) hx hb hml hown hts hK hP hD hS hA hm (C1222_unpin l G D K hl0 H.size h0 a9 (.ref a0) (.ref a1) (.ref a2) (.ref a3) (.ref a4) (.ref a5) (.ref a6) (.ref a7) (.int (nI 0)) ya (by omega) (by omega)) [0] rfl rfl mokh_yL_unpin w_994 w_995 ⟨Nat.le_of_ble_eq_true rfl, Nat.le_of_ble_eq_true rfl⟩ rfl hl.1 rfl (Nat.le_of_ble_eq_true rfl) dL_law_759 ⟨(by dsimp only [room_1]; omega), (by dsimp only [room_1]; omega)⟩) hP hD hS hA [0] [1] rfl rfl rfl (by decide) (w2 := fun u0 => [(h1, .inr (12, [.int (nI 0), .ref a8])), (h0, .inr (9, [.ref a0, .ref a1, .ref a2, .ref a3, .ref a4, .ref a5, .ref a6, .ref a7, .int (nI 0)]))]) (fun _ => rfl) (fun u0 H locs hP hD hS => ?_)
  refine lv_istore (lv' := [(5, .int (nI 1)), (0, .ref b), (1, .ref h0), (2, .ref h1), (3, .ref a9), (4, .int (nI 0))]) hx hb dL_law_762 hl (by decide) rfl (fun ls hl => ?_)
  refine lv_aload_n hx hb dL_law_764 rfl (lv_at hl 3 rfl) ?_
  refine lv_aload_n hx hb dL_law_765 rfl (lv_at hl 1 rfl) ?_
  refine lv_iload hx hb dL_law_766 (lv_at hl 5 rfl) ?_
  refine lv_iconst (v := nI 1) hx hb dL_law_768 (by decide +kernel) ?_
  refine lv_iadd hx hb dL_law_769 ?_
  refine w_toeq (show (nI 0) + (nI 1) = nI 1 by decide +kernel) ?_
  refine va_sld hx hb hX hbl hbA hS (vp_in_nI (n := 1) (by decide) (by decide)) dL_law_770 ?_
  refine w_toeq (show xs (nI 1).toNatClampNeg = nI ya by rw [nI_clamp (n := 1) (by decide)]; exact hx1) ?_
  refine k_i (wr := [(h0, .inr (9, [.ref a0, .ref a1, .ref a2, .ref a3, .ref a4, .ref a5, .ref a6, .ref a7, .int (nI 0)]))]) (run_V (rest := []) hx hb hml hown hts hK hP hD hS hA hm (C678_unpin l G D K H.size h1 (.ref a8) ya (by omega) (by omega)) [0] rfl rfl mok_yX12_unpin w_1937 w_1938 w_1939 (rcv hK hP 0 rfl rfl rfl) ⟨Nat.le_of_ble_eq_true rfl, Nat.le_of_ble_eq_true rfl⟩ rfl hl.1 rfl (Nat.le_of_ble_eq_true rfl) dL_law_771 ⟨(by dsimp only [room_1]; omega), (by dsimp only [room_1]; omega)⟩) hP hD hS hA [0] [1] rfl rfl rfl (by decide) (w2 := fun u1 => [(h0, .inr (9, [.ref a0, .ref a1, .ref a2, .ref a3, .ref a4, .ref a5, .ref a6, .ref a7, .int (nI 0)])), (h1, .inr (12, [.int (nI 1), .ref a8]))]) (fun _ => rfl) (fun u1 H locs hP hD hS => ?_)
  refine lv_istore (lv' := [(6, .int (nI 0)), (5, .int (nI 1)), (0, .ref b), (1, .ref h0), (2, .ref h1), (3, .ref a9), (4, .int (nI 0))]) hx hb dL_law_774 hl (by decide) rfl (fun ls hl => ?_)
  refine lv_aload_n hx hb dL_law_776 rfl (lv_at hl 4 rfl) ?_
  refine k_i (wr := [(h0, .inr (9, [.ref a0, .ref a1, .ref a2, .ref a3, .ref a4, .ref a5, .ref a6, .ref a7, .int (nI 0)]))]) (run_V (rest := []) hx hb hml hown hts hK hP hD hS hA hm (C1059_thrown l G D K H.size h1 (.ref a8)) [1] rfl rfl mok_yX12_thrown w_1300 w_1301 w_1302 (rcv hK hP 1 rfl rfl rfl) ⟨Nat.le_of_ble_eq_true rfl, Nat.le_of_ble_eq_true rfl⟩ rfl hl.1 rfl (Nat.le_of_ble_eq_true rfl) dL_law_777 ⟨(by dsimp only [room_1]; omega), (by dsimp only [room_1]; omega)⟩) hP hD hS hA [1] [0] rfl rfl rfl (by decide) (w2 := fun u2 => [(h0, .inr (9, [.ref a0, .ref a1, .ref a2, .ref a3, .ref a4, .ref a5, .ref a6, .ref a7, .int (nI 0)])), (h1, .inr (12, [.int (nI 1), .ref a8]))]) (fun _ => rfl) (fun u2 H locs hP hD hS => ?_)
  refine lv_iload hx hb dL_law_780 (lv_at hl 1 rfl) ?_
  refine lv_icmp_eq (tgt := 787) hx hb dL_law_782 (by decide) (fun _ => ?_) (fun c9 => absurd (by decide +kernel) c9)
  refine lv_iload hx hb dL_law_787 (lv_at hl 1 rfl) ?_
  refine lv_if_ne (tgt := 811) hx hb dL_law_789 (by decide) (fun _ => ?_) (fun c9 => absurd c9 (by decide +kernel))
  refine lv_goto (tgt := 1762) hx hb dL_law_811 (by decide) ?_
  refine lv_iinc (v := nI 4) (lv' := [(4, .int (nI 4)), (6, .int (nI 0)), (5, .int (nI 1)), (0, .ref b), (1, .ref h0), (2, .ref h1), (3, .ref a9)]) hx hb dL_law_1762 hl (k := 6) rfl (by decide +kernel) (by decide) rfl (fun ls hl => ?_)
  refine lv_goto (tgt := 23) hx hb dL_law_1765 (by decide) ?_
  refine lv_iload hx hb dL_law_23 (lv_at hl 0 rfl) ?_
  refine lv_aload_n hx hb dL_law_25 rfl (lv_at hl 3 rfl) ?_
  refine va_slen hx hb hX hbl hbA hS dL_law_26 ?_
  refine w_toeq (show Int32.ofNat 4 = nI 4 from rfl) ?_
  refine lv_iconst (v := nI 4) hx hb dL_law_27 (by decide +kernel) ?_
  refine lv_isub hx hb dL_law_28 ?_
  refine w_toeq (show (nI 4) - (nI 4) = nI 0 by decide +kernel) ?_
  refine lv_icmp_gt (tgt := 1768) hx hb dL_law_29 (by decide) (fun _ => ?_) (fun c9 => absurd (by decide +kernel) c9)
  refine lv_iconst (v := nI 1) hx hb dL_law_1768 (by decide +kernel) ?_
  exact law_end hx hb hr hlk hS (by dsimp only; omega) (by dsimp only; omega) dL_law_1769
set_option maxHeartbeats 4000000 in
set_option maxRecDepth 100000 in
theorem LW164_take {p : Program} {e : Env} {s : State} {m : MethodId} {below : List Frame} {meth : Method} {c : Code} {l : Launch} {G : Nat → Nat} {D : va_G} {K : Nat → ClassId} {b : Nat} {xs : Nat → Int32} (hx : p.tables.exec = Jvm.exec) (hb : c.code = cL_law) (hr : meth.sig.returnType = some .boolean) (hlk : meth.locks = false) (hl0 : l.stackTraces = false) (hnc : Ncs s) (hml : c.maxLocals = 9) (hown : s.vm.findClass RL = some m.cls) (hts : ∀ w ∈ lw_gw, w.before #[Value.ref b] s = true) (hK : va_K D cl (tys K) s) (hm : Amb G (fun q : Nat => s.heap.size ≤ q) s s.heap) (hX : va_X b 4 xs s s.heap) (hbl : b < s.heap.size) {h0 h1 a0 a1 a2 a3 a4 a5 a6 a7 a8 a9 : Nat} (ya : Int32) (hya : ya < 0) (hx1 : xs 1 = ya) {H : Heap} {locs : List Loc} {cells slots : Nat} (hcs : cells ≤ 1000) (hss : slots ≤ 100000) (hP : va_P D cl [(h0, .inr (9, [.ref a0, .ref a1, .ref a2, .ref a3, .ref a4, .ref a5, .ref a6, .ref a7, .int (nI 0)])), (h1, .inr (12, [.int (nI 0), .ref a8]))] H) (hD : va_D (fun q : Nat => s.heap.size ≤ q) [(h0, .inr (9, [.ref a0, .ref a1, .ref a2, .ref a3, .ref a4, .ref a5, .ref a6, .ref a7, .int (nI 0)])), (h1, .inr (12, [.int (nI 0), .ref a8]))]) (hS : va_S (fun q : Nat => s.heap.size ≤ q) s.heap H locs) {ls : Array Slot} (hl : lv_has ls 9 [(0, .ref b), (1, .ref h0), (2, .ref h1), (3, .ref a9), (4, .int (nI 0))]) : W p l e room_1 s m #[Value.ref b] below meth c H locs cells slots (lw_Z below #[Value.ref b] s) (F0 m 814 ls []) := by
  have hA : ∀ q : Nat, s.heap.size ≤ q → (fun q : Nat => s.heap.size ≤ q) q := fun _ h => h
  have hbA : ¬ (fun q : Nat => s.heap.size ≤ q) b := Nat.not_le.mpr hbl
  refine lv_aload_n hx hb dL_law_814 rfl (lv_at hl 1 rfl) ?_
  refine lv_aload_n hx hb dL_law_815 rfl (lv_at hl 0 rfl) ?_
  refine lv_iload hx hb dL_law_816 (lv_at hl 4 rfl) ?_
  refine lv_iconst (v := nI 1) hx hb dL_law_818 (by decide +kernel) ?_
  refine lv_iadd hx hb dL_law_819 ?_
  refine w_toeq (show (nI 0) + (nI 1) = nI 1 by decide +kernel) ?_
  refine va_sld hx hb hX hbl hbA hS (vp_in_nI (n := 1) (by decide) (by decide)) dL_law_820 ?_
  refine w_toeq (show xs (nI 1).toNatClampNeg = ya by rw [nI_clamp (n := 1) (by decide)]; exact hx1) ?_
  refine lv_aload_n hx hb dL_law_821 rfl (lv_at hl 3 rfl) ?_
  refine k_i (wr := [(h1, .inr (12, [.int (nI 0), .ref a8]))]) (run_SW hnc (rest := []) hx hb hml hown hts hK hP hD hS hA hm (C1223_take l G D K hl0 H.size h0 a9 (.ref a0) (.ref a1) (.ref a2) (.ref a3) (.ref a4) (.ref a5) (.ref a6) (.ref a7) (.int (nI 0)) ya hya) [0] rfl rfl mokh_yL_take w_1001 w_1002 ⟨Nat.le_of_ble_eq_true rfl, Nat.le_of_ble_eq_true rfl⟩ rfl hl.1 rfl (Nat.le_of_ble_eq_true rfl) dL_law_822 ⟨(by dsimp only [room_1]; omega), (by dsimp only [room_1]; omega)⟩) hP hD hS hA [0] [1] rfl rfl rfl (by decide) (w2 := fun u0 => [(h1, .inr (12, [.int (nI 0), .ref a8])), (h0, .inr (9, [.ref a0, .ref a1, .ref a2, .ref a3, .ref a4, .ref a5, .ref a6, .ref a7, .int (nI 0)]))]) (fun _ => rfl) (fun u0 H locs hP hD hS => ?_)
  refine lv_istore (lv' := [(5, .int (nI 1)), (0, .ref b), (1, .ref h0), (2, .ref h1), (3, .ref a9), (4, .int (nI 0))]) hx hb dL_law_825 hl (by decide) rfl (fun ls hl => ?_)
  refine lv_aload_n hx hb dL_law_827 rfl (lv_at hl 3 rfl) ?_
  refine lv_aload_n hx hb dL_law_828 rfl (lv_at hl 1 rfl) ?_
  refine lv_iload hx hb dL_law_829 (lv_at hl 5 rfl) ?_
  refine lv_iconst (v := nI 1) hx hb dL_law_831 (by decide +kernel) ?_
  refine lv_iadd hx hb dL_law_832 ?_
  refine w_toeq (show (nI 0) + (nI 1) = nI 1 by decide +kernel) ?_
  refine va_sld hx hb hX hbl hbA hS (vp_in_nI (n := 1) (by decide) (by decide)) dL_law_833 ?_
  refine w_toeq (show xs (nI 1).toNatClampNeg = ya by rw [nI_clamp (n := 1) (by decide)]; exact hx1) ?_
  refine k_i (wr := [(h0, .inr (9, [.ref a0, .ref a1, .ref a2, .ref a3, .ref a4, .ref a5, .ref a6, .ref a7, .int (nI 0)]))]) (run_V (rest := []) hx hb hml hown hts hK hP hD hS hA hm (C680_take l G D K H.size h1 (.ref a8) ya hya) [0] rfl rfl mok_yX12_take w_1941 w_1942 w_1943 (rcv hK hP 0 rfl rfl rfl) ⟨Nat.le_of_ble_eq_true rfl, Nat.le_of_ble_eq_true rfl⟩ rfl hl.1 rfl (Nat.le_of_ble_eq_true rfl) dL_law_834 ⟨(by dsimp only [room_1]; omega), (by dsimp only [room_1]; omega)⟩) hP hD hS hA [0] [1] rfl rfl rfl (by decide) (w2 := fun u1 => [(h0, .inr (9, [.ref a0, .ref a1, .ref a2, .ref a3, .ref a4, .ref a5, .ref a6, .ref a7, .int (nI 0)])), (h1, .inr (12, [.int (nI 1), .ref a8]))]) (fun _ => rfl) (fun u1 H locs hP hD hS => ?_)
  refine lv_istore (lv' := [(6, .int (nI 0)), (5, .int (nI 1)), (0, .ref b), (1, .ref h0), (2, .ref h1), (3, .ref a9), (4, .int (nI 0))]) hx hb dL_law_837 hl (by decide) rfl (fun ls hl => ?_)
  refine lv_aload_n hx hb dL_law_839 rfl (lv_at hl 4 rfl) ?_
  refine k_i (wr := [(h0, .inr (9, [.ref a0, .ref a1, .ref a2, .ref a3, .ref a4, .ref a5, .ref a6, .ref a7, .int (nI 0)]))]) (run_V (rest := []) hx hb hml hown hts hK hP hD hS hA hm (C1059_thrown l G D K H.size h1 (.ref a8)) [1] rfl rfl mok_yX12_thrown w_1300 w_1301 w_1302 (rcv hK hP 1 rfl rfl rfl) ⟨Nat.le_of_ble_eq_true rfl, Nat.le_of_ble_eq_true rfl⟩ rfl hl.1 rfl (Nat.le_of_ble_eq_true rfl) dL_law_840 ⟨(by dsimp only [room_1]; omega), (by dsimp only [room_1]; omega)⟩) hP hD hS hA [1] [0] rfl rfl rfl (by decide) (w2 := fun u2 => [(h0, .inr (9, [.ref a0, .ref a1, .ref a2, .ref a3, .ref a4, .ref a5, .ref a6, .ref a7, .int (nI 0)])), (h1, .inr (12, [.int (nI 1), .ref a8]))]) (fun _ => rfl) (fun u2 H locs hP hD hS => ?_)
  refine lv_iload hx hb dL_law_843 (lv_at hl 1 rfl) ?_
  refine lv_icmp_eq (tgt := 850) hx hb dL_law_845 (by decide) (fun _ => ?_) (fun c9 => absurd (by decide +kernel) c9)
  refine lv_iload hx hb dL_law_850 (lv_at hl 1 rfl) ?_
  refine lv_if_ne (tgt := 867) hx hb dL_law_852 (by decide) (fun _ => ?_) (fun c9 => absurd c9 (by decide +kernel))
  refine lv_goto (tgt := 1762) hx hb dL_law_867 (by decide) ?_
  refine lv_iinc (v := nI 4) (lv' := [(4, .int (nI 4)), (6, .int (nI 0)), (5, .int (nI 1)), (0, .ref b), (1, .ref h0), (2, .ref h1), (3, .ref a9)]) hx hb dL_law_1762 hl (k := 6) rfl (by decide +kernel) (by decide) rfl (fun ls hl => ?_)
  refine lv_goto (tgt := 23) hx hb dL_law_1765 (by decide) ?_
  refine lv_iload hx hb dL_law_23 (lv_at hl 0 rfl) ?_
  refine lv_aload_n hx hb dL_law_25 rfl (lv_at hl 3 rfl) ?_
  refine va_slen hx hb hX hbl hbA hS dL_law_26 ?_
  refine w_toeq (show Int32.ofNat 4 = nI 4 from rfl) ?_
  refine lv_iconst (v := nI 4) hx hb dL_law_27 (by decide +kernel) ?_
  refine lv_isub hx hb dL_law_28 ?_
  refine w_toeq (show (nI 4) - (nI 4) = nI 0 by decide +kernel) ?_
  refine lv_icmp_gt (tgt := 1768) hx hb dL_law_29 (by decide) (fun _ => ?_) (fun c9 => absurd (by decide +kernel) c9)
  refine lv_iconst (v := nI 1) hx hb dL_law_1768 (by decide +kernel) ?_
  exact law_end hx hb hr hlk hS (by dsimp only; omega) (by dsimp only; omega) dL_law_1769
set_option maxHeartbeats 4000000 in
set_option maxRecDepth 100000 in
theorem LW165_take {p : Program} {e : Env} {s : State} {m : MethodId} {below : List Frame} {meth : Method} {c : Code} {l : Launch} {G : Nat → Nat} {D : va_G} {K : Nat → ClassId} {b : Nat} {xs : Nat → Int32} (hx : p.tables.exec = Jvm.exec) (hb : c.code = cL_law) (hr : meth.sig.returnType = some .boolean) (hlk : meth.locks = false) (hl0 : l.stackTraces = false) (hnc : Ncs s) (hml : c.maxLocals = 9) (hown : s.vm.findClass RL = some m.cls) (hts : ∀ w ∈ lw_gw, w.before #[Value.ref b] s = true) (hK : va_K D cl (tys K) s) (hm : Amb G (fun q : Nat => s.heap.size ≤ q) s s.heap) (hX : va_X b 4 xs s s.heap) (hbl : b < s.heap.size) {h0 h1 h2 h3 h4 h5 h6 a0 a1 a2 a3 a4 a5 a6 a7 a8 a9 a10 a11 a12 a13 : Nat} (ya : Nat) (lya : 0 ≤ ya) (gya : ya ≤ 3) (hx1 : xs 1 = nI ya) {H : Heap} {locs : List Loc} {cells slots : Nat} (hcs : cells ≤ 1000) (hss : slots ≤ 100000) (hP : va_P D cl [(h0, .inr (9, [.ref a0, .ref h1, .ref a1, .ref a2, .ref a3, .ref a4, .ref a5, .ref a6, .int (nI 0)])), (h1, .inr (4, [.ref h2, .ref a7, .ref a8, .int (nI 1)])), (h2, .inr (5, [.ref a9, .int (nI 0)])), (h3, .inl (K 3, 1, .inr (.inl (fun _ => 0)))), (h4, .inr (12, [.int (nI 0), .ref h5])), (h5, .inr (10, [.ref a10, .ref a11, .ref a12, .ref h6, .ref a13, .int (nI 0), .int (nI 0), .int (nI 60), .int (nI 0), .int (nI 2), .int (nI 0), .int (nI 0), .int (nI 0), .int (nI 0), .int (nI 0), .int (nI 0), .int (nI 0)])), (h6, .inr (13, [.int (nI 0), .ref (G 0), .int (nI 0)]))] H) (hD : va_D (fun q : Nat => s.heap.size ≤ q) [(h0, .inr (9, [.ref a0, .ref h1, .ref a1, .ref a2, .ref a3, .ref a4, .ref a5, .ref a6, .int (nI 0)])), (h1, .inr (4, [.ref h2, .ref a7, .ref a8, .int (nI 1)])), (h2, .inr (5, [.ref a9, .int (nI 0)])), (h3, .inl (K 3, 1, .inr (.inl (fun _ => 0)))), (h4, .inr (12, [.int (nI 0), .ref h5])), (h5, .inr (10, [.ref a10, .ref a11, .ref a12, .ref h6, .ref a13, .int (nI 0), .int (nI 0), .int (nI 60), .int (nI 0), .int (nI 2), .int (nI 0), .int (nI 0), .int (nI 0), .int (nI 0), .int (nI 0), .int (nI 0), .int (nI 0)])), (h6, .inr (13, [.int (nI 0), .ref (G 0), .int (nI 0)]))]) (hS : va_S (fun q : Nat => s.heap.size ≤ q) s.heap H locs) {ls : Array Slot} (hl : lv_has ls 9 [(0, .ref b), (1, .ref h0), (2, .ref h4), (3, .ref h3), (4, .int (nI 0))]) : W p l e room_1 s m #[Value.ref b] below meth c H locs cells slots (lw_Z below #[Value.ref b] s) (F0 m 814 ls []) := by
  have hA : ∀ q : Nat, s.heap.size ≤ q → (fun q : Nat => s.heap.size ≤ q) q := fun _ h => h
  have hbA : ¬ (fun q : Nat => s.heap.size ≤ q) b := Nat.not_le.mpr hbl
  refine lv_aload_n hx hb dL_law_814 rfl (lv_at hl 1 rfl) ?_
  refine lv_aload_n hx hb dL_law_815 rfl (lv_at hl 0 rfl) ?_
  refine lv_iload hx hb dL_law_816 (lv_at hl 4 rfl) ?_
  refine lv_iconst (v := nI 1) hx hb dL_law_818 (by decide +kernel) ?_
  refine lv_iadd hx hb dL_law_819 ?_
  refine w_toeq (show (nI 0) + (nI 1) = nI 1 by decide +kernel) ?_
  refine va_sld hx hb hX hbl hbA hS (vp_in_nI (n := 1) (by decide) (by decide)) dL_law_820 ?_
  refine w_toeq (show xs (nI 1).toNatClampNeg = nI ya by rw [nI_clamp (n := 1) (by decide)]; exact hx1) ?_
  refine lv_aload_n hx hb dL_law_821 rfl (lv_at hl 3 rfl) ?_
  refine k_i (wr := [(h4, .inr (12, [.int (nI 0), .ref h5])), (h5, .inr (10, [.ref a10, .ref a11, .ref a12, .ref h6, .ref a13, .int (nI 0), .int (nI 0), .int (nI 60), .int (nI 0), .int (nI 2), .int (nI 0), .int (nI 0), .int (nI 0), .int (nI 0), .int (nI 0), .int (nI 0), .int (nI 0)])), (h6, .inr (13, [.int (nI 0), .ref (G 0), .int (nI 0)]))]) (run_SW hnc (rest := []) hx hb hml hown hts hK hP hD hS hA hm (C1224_take l G D K H.size h0 h1 h2 h3 (.ref a0) (.ref a1) (.ref a2) (.ref a3) (.ref a4) (.ref a5) (.ref a6) (.int (nI 0)) (.ref a7) (.ref a8) (.int (nI 1)) (.ref a9) (fun _ => 0) ya (by omega) (by omega)) [0, 1, 2, 3] rfl rfl mokh_yL_take w_1001 w_1002 ⟨Nat.le_of_ble_eq_true rfl, Nat.le_of_ble_eq_true rfl⟩ rfl hl.1 rfl (Nat.le_of_ble_eq_true rfl) dL_law_822 ⟨(by dsimp only [room_1]; omega), (by dsimp only [room_1]; omega)⟩) hP hD hS hA [0, 1, 2, 3] [4, 5, 6] rfl rfl rfl (by decide) (w2 := fun u0 => [(h4, .inr (12, [.int (nI 0), .ref h5])), (h5, .inr (10, [.ref a10, .ref a11, .ref a12, .ref h6, .ref a13, .int (nI 0), .int (nI 0), .int (nI 60), .int (nI 0), .int (nI 2), .int (nI 0), .int (nI 0), .int (nI 0), .int (nI 0), .int (nI 0), .int (nI 0), .int (nI 0)])), (h6, .inr (13, [.int (nI 0), .ref (G 0), .int (nI 0)])), (h3, .inl (K 3, 1, .inr (.inl (vp_updL (fun _ => 0) 0 (-1))))), (h0, .inr (9, [.ref a0, .ref h1, .ref a1, .ref a2, .ref a3, .ref a4, .ref a5, .ref a6, .int (nI 0)])), (h1, .inr (4, [.ref h2, .ref a7, .ref a8, .int (nI 1)])), (h2, .inr (5, [.ref a9, .int (nI 0)]))]) (fun _ => rfl) (fun u0 H locs hP hD hS => ?_)
  refine lv_istore (lv' := [(5, .int (nI 0)), (0, .ref b), (1, .ref h0), (2, .ref h4), (3, .ref h3), (4, .int (nI 0))]) hx hb dL_law_825 hl (by decide) rfl (fun ls hl => ?_)
  refine lv_aload_n hx hb dL_law_827 rfl (lv_at hl 3 rfl) ?_
  refine lv_aload_n hx hb dL_law_828 rfl (lv_at hl 1 rfl) ?_
  refine lv_iload hx hb dL_law_829 (lv_at hl 5 rfl) ?_
  refine lv_iconst (v := nI 1) hx hb dL_law_831 (by decide +kernel) ?_
  refine lv_iadd hx hb dL_law_832 ?_
  refine w_toeq (show (nI 0) + (nI 1) = nI 1 by decide +kernel) ?_
  refine va_sld hx hb hX hbl hbA hS (vp_in_nI (n := 1) (by decide) (by decide)) dL_law_833 ?_
  refine w_toeq (show xs (nI 1).toNatClampNeg = nI ya by rw [nI_clamp (n := 1) (by decide)]; exact hx1) ?_
  refine k_i (wr := [(h3, .inl (K 3, 1, .inr (.inl (vp_updL (fun _ => 0) 0 (-1))))), (h0, .inr (9, [.ref a0, .ref h1, .ref a1, .ref a2, .ref a3, .ref a4, .ref a5, .ref a6, .int (nI 0)])), (h1, .inr (4, [.ref h2, .ref a7, .ref a8, .int (nI 1)])), (h2, .inr (5, [.ref a9, .int (nI 0)]))]) (run_V (rest := []) hx hb hml hown hts hK hP hD hS hA hm (C685_take l G D K H.size h4 h5 h6 (.ref a10) (.ref a11) (.ref a12) (.ref a13) (.int (nI 0)) (.int (nI 0)) (.int (nI 60)) (.int (nI 0)) (.int (nI 2)) (.int (nI 0)) (.int (nI 0)) (.int (nI 0)) (.int (nI 0)) (.int (nI 0)) (.int (nI 0)) (.int (nI 0)) (.int (nI 0)) (.ref (G 0)) ya (by omega) (by omega)) [0, 1, 2] rfl rfl mok_yX12_take w_1941 w_1942 w_1943 (rcv hK hP 0 rfl rfl rfl) ⟨Nat.le_of_ble_eq_true rfl, Nat.le_of_ble_eq_true rfl⟩ rfl hl.1 rfl (Nat.le_of_ble_eq_true rfl) dL_law_834 ⟨(by dsimp only [room_1]; omega), (by dsimp only [room_1]; omega)⟩) hP hD hS hA [0, 1, 2] [3, 4, 5, 6] rfl rfl rfl (by decide) (w2 := fun u1 => [(h3, .inl (K 3, 1, .inr (.inl (vp_updL (fun _ => 0) 0 (-1))))), (h0, .inr (9, [.ref a0, .ref h1, .ref a1, .ref a2, .ref a3, .ref a4, .ref a5, .ref a6, .int (nI 0)])), (h1, .inr (4, [.ref h2, .ref a7, .ref a8, .int (nI 1)])), (h2, .inr (5, [.ref a9, .int (nI 0)])), (h5, .inr (10, [.ref a10, .ref a11, .ref a12, .ref h6, .ref a13, .int (nI 0), .int (nI 0), .int (nI 60), .int (nI 0), .int (nI 2), .int (nI 0), .int (nI 0), .int (nI 0), .int (nI 0), .int (nI 0), .int (nI 0), .int (nI 0)])), (h4, .inr (12, [.int (nI 0), .ref h5])), (h6, .inr (13, [.int (nI 0), .ref (G 0), .int (nI 0)]))]) (fun _ => rfl) (fun u1 H locs hP hD hS => ?_)
  refine lv_istore (lv' := [(6, .int (-1)), (5, .int (nI 0)), (0, .ref b), (1, .ref h0), (2, .ref h4), (3, .ref h3), (4, .int (nI 0))]) hx hb dL_law_837 hl (by decide) rfl (fun ls hl => ?_)
  refine lv_aload_n hx hb dL_law_839 rfl (lv_at hl 4 rfl) ?_
  refine k_i (wr := [(h3, .inl (K 3, 1, .inr (.inl (vp_updL (fun _ => 0) 0 (-1))))), (h0, .inr (9, [.ref a0, .ref h1, .ref a1, .ref a2, .ref a3, .ref a4, .ref a5, .ref a6, .int (nI 0)])), (h1, .inr (4, [.ref h2, .ref a7, .ref a8, .int (nI 1)])), (h2, .inr (5, [.ref a9, .int (nI 0)])), (h5, .inr (10, [.ref a10, .ref a11, .ref a12, .ref h6, .ref a13, .int (nI 0), .int (nI 0), .int (nI 60), .int (nI 0), .int (nI 2), .int (nI 0), .int (nI 0), .int (nI 0), .int (nI 0), .int (nI 0), .int (nI 0), .int (nI 0)])), (h6, .inr (13, [.int (nI 0), .ref (G 0), .int (nI 0)]))]) (run_V (rest := []) hx hb hml hown hts hK hP hD hS hA hm (C1057_thrown l G D K H.size h4 (.ref h5)) [5] rfl rfl mok_yX12_thrown w_1300 w_1301 w_1302 (rcv hK hP 5 rfl rfl rfl) ⟨Nat.le_of_ble_eq_true rfl, Nat.le_of_ble_eq_true rfl⟩ rfl hl.1 rfl (Nat.le_of_ble_eq_true rfl) dL_law_840 ⟨(by dsimp only [room_1]; omega), (by dsimp only [room_1]; omega)⟩) hP hD hS hA [5] [0, 1, 2, 3, 4, 6] rfl rfl rfl (by decide) (w2 := fun u2 => [(h3, .inl (K 3, 1, .inr (.inl (vp_updL (fun _ => 0) 0 (-1))))), (h0, .inr (9, [.ref a0, .ref h1, .ref a1, .ref a2, .ref a3, .ref a4, .ref a5, .ref a6, .int (nI 0)])), (h1, .inr (4, [.ref h2, .ref a7, .ref a8, .int (nI 1)])), (h2, .inr (5, [.ref a9, .int (nI 0)])), (h5, .inr (10, [.ref a10, .ref a11, .ref a12, .ref h6, .ref a13, .int (nI 0), .int (nI 0), .int (nI 60), .int (nI 0), .int (nI 2), .int (nI 0), .int (nI 0), .int (nI 0), .int (nI 0), .int (nI 0), .int (nI 0), .int (nI 0)])), (h6, .inr (13, [.int (nI 0), .ref (G 0), .int (nI 0)])), (h4, .inr (12, [.int (nI 0), .ref h5]))]) (fun _ => rfl) (fun u2 H locs hP hD hS => ?_)
  refine lv_iload hx hb dL_law_843 (lv_at hl 1 rfl) ?_
  refine lv_icmp_eq (tgt := 850) hx hb dL_law_845 (by decide) (fun _ => ?_) (fun c9 => absurd (by decide +kernel) c9)
  refine lv_iload hx hb dL_law_850 (lv_at hl 1 rfl) ?_
  refine lv_if_ne (tgt := 867) hx hb dL_law_852 (by decide) (fun c9 => absurd (by decide +kernel) c9) (fun _ => ?_)
  refine lv_aload_n hx hb dL_law_855 rfl (lv_at hl 5 rfl) ?_
  refine lv_iconst (v := nI 0) hx hb dL_law_856 (by decide +kernel) ?_
  refine r_lald (k := 0) hx hb hK hP 0 3 rfl rfl (Nat.le_of_ble_eq_true rfl) (by decide) (v := (-1)) rfl dL_law_857 ?_
  refine lv_iload hx hb dL_law_858 (lv_at hl 0 rfl) ?_
  refine lv_i2l (v := (-1)) hx hb dL_law_860 (by decide +kernel) ?_
  refine W.lcmp hx hb dL_law_861 ?_
  refine w_toeq (show lg_cmp (-1) (-1) = nI 0 by decide +kernel) ?_
  refine lv_if_eq (tgt := 867) hx hb dL_law_862 (by decide) (fun _ => ?_) (fun c9 => absurd (by decide +kernel) c9)
  refine lv_goto (tgt := 1762) hx hb dL_law_867 (by decide) ?_
  refine lv_iinc (v := nI 4) (lv' := [(4, .int (nI 4)), (6, .int (-1)), (5, .int (nI 0)), (0, .ref b), (1, .ref h0), (2, .ref h4), (3, .ref h3)]) hx hb dL_law_1762 hl (k := 6) rfl (by decide +kernel) (by decide) rfl (fun ls hl => ?_)
  refine lv_goto (tgt := 23) hx hb dL_law_1765 (by decide) ?_
  refine lv_iload hx hb dL_law_23 (lv_at hl 0 rfl) ?_
  refine lv_aload_n hx hb dL_law_25 rfl (lv_at hl 3 rfl) ?_
  refine va_slen hx hb hX hbl hbA hS dL_law_26 ?_
  refine w_toeq (show Int32.ofNat 4 = nI 4 from rfl) ?_
  refine lv_iconst (v := nI 4) hx hb dL_law_27 (by decide +kernel) ?_
  refine lv_isub hx hb dL_law_28 ?_
  refine w_toeq (show (nI 4) - (nI 4) = nI 0 by decide +kernel) ?_
  refine lv_icmp_gt (tgt := 1768) hx hb dL_law_29 (by decide) (fun _ => ?_) (fun c9 => absurd (by decide +kernel) c9)
  refine lv_iconst (v := nI 1) hx hb dL_law_1768 (by decide +kernel) ?_
  exact law_end hx hb hr hlk hS (by dsimp only; omega) (by dsimp only; omega) dL_law_1769
set_option maxHeartbeats 4000000 in
set_option maxRecDepth 100000 in
theorem LW166_take {p : Program} {e : Env} {s : State} {m : MethodId} {below : List Frame} {meth : Method} {c : Code} {l : Launch} {G : Nat → Nat} {D : va_G} {K : Nat → ClassId} {b : Nat} {xs : Nat → Int32} (hx : p.tables.exec = Jvm.exec) (hb : c.code = cL_law) (hr : meth.sig.returnType = some .boolean) (hlk : meth.locks = false) (hl0 : l.stackTraces = false) (hnc : Ncs s) (hml : c.maxLocals = 9) (hown : s.vm.findClass RL = some m.cls) (hts : ∀ w ∈ lw_gw, w.before #[Value.ref b] s = true) (hK : va_K D cl (tys K) s) (hm : Amb G (fun q : Nat => s.heap.size ≤ q) s s.heap) (hX : va_X b 4 xs s s.heap) (hbl : b < s.heap.size) {h0 h1 a0 a1 a2 a3 a4 a5 a6 a7 a8 a9 : Nat} (ya : Nat) (lya : 4 ≤ ya) (gya : ya ≤ 2147483647) (hx1 : xs 1 = nI ya) {H : Heap} {locs : List Loc} {cells slots : Nat} (hcs : cells ≤ 1000) (hss : slots ≤ 100000) (hP : va_P D cl [(h0, .inr (9, [.ref a0, .ref a1, .ref a2, .ref a3, .ref a4, .ref a5, .ref a6, .ref a7, .int (nI 0)])), (h1, .inr (12, [.int (nI 0), .ref a8]))] H) (hD : va_D (fun q : Nat => s.heap.size ≤ q) [(h0, .inr (9, [.ref a0, .ref a1, .ref a2, .ref a3, .ref a4, .ref a5, .ref a6, .ref a7, .int (nI 0)])), (h1, .inr (12, [.int (nI 0), .ref a8]))]) (hS : va_S (fun q : Nat => s.heap.size ≤ q) s.heap H locs) {ls : Array Slot} (hl : lv_has ls 9 [(0, .ref b), (1, .ref h0), (2, .ref h1), (3, .ref a9), (4, .int (nI 0))]) : W p l e room_1 s m #[Value.ref b] below meth c H locs cells slots (lw_Z below #[Value.ref b] s) (F0 m 814 ls []) := by
  have hA : ∀ q : Nat, s.heap.size ≤ q → (fun q : Nat => s.heap.size ≤ q) q := fun _ h => h
  have hbA : ¬ (fun q : Nat => s.heap.size ≤ q) b := Nat.not_le.mpr hbl
  refine lv_aload_n hx hb dL_law_814 rfl (lv_at hl 1 rfl) ?_
  refine lv_aload_n hx hb dL_law_815 rfl (lv_at hl 0 rfl) ?_
  refine lv_iload hx hb dL_law_816 (lv_at hl 4 rfl) ?_
  refine lv_iconst (v := nI 1) hx hb dL_law_818 (by decide +kernel) ?_
  refine lv_iadd hx hb dL_law_819 ?_
  refine w_toeq (show (nI 0) + (nI 1) = nI 1 by decide +kernel) ?_
  refine va_sld hx hb hX hbl hbA hS (vp_in_nI (n := 1) (by decide) (by decide)) dL_law_820 ?_
  refine w_toeq (show xs (nI 1).toNatClampNeg = nI ya by rw [nI_clamp (n := 1) (by decide)]; exact hx1) ?_
  refine lv_aload_n hx hb dL_law_821 rfl (lv_at hl 3 rfl) ?_
  refine k_i (wr := [(h1, .inr (12, [.int (nI 0), .ref a8]))]) (run_SW hnc (rest := []) hx hb hml hown hts hK hP hD hS hA hm (C1225_take l G D K hl0 H.size h0 a9 (.ref a0) (.ref a1) (.ref a2) (.ref a3) (.ref a4) (.ref a5) (.ref a6) (.ref a7) (.int (nI 0)) ya (by omega) (by omega)) [0] rfl rfl mokh_yL_take w_1001 w_1002 ⟨Nat.le_of_ble_eq_true rfl, Nat.le_of_ble_eq_true rfl⟩ rfl hl.1 rfl (Nat.le_of_ble_eq_true rfl) dL_law_822 ⟨(by dsimp only [room_1]; omega), (by dsimp only [room_1]; omega)⟩) hP hD hS hA [0] [1] rfl rfl rfl (by decide) (w2 := fun u0 => [(h1, .inr (12, [.int (nI 0), .ref a8])), (h0, .inr (9, [.ref a0, .ref a1, .ref a2, .ref a3, .ref a4, .ref a5, .ref a6, .ref a7, .int (nI 0)]))]) (fun _ => rfl) (fun u0 H locs hP hD hS => ?_)
  refine lv_istore (lv' := [(5, .int (nI 1)), (0, .ref b), (1, .ref h0), (2, .ref h1), (3, .ref a9), (4, .int (nI 0))]) hx hb dL_law_825 hl (by decide) rfl (fun ls hl => ?_)
  refine lv_aload_n hx hb dL_law_827 rfl (lv_at hl 3 rfl) ?_
  refine lv_aload_n hx hb dL_law_828 rfl (lv_at hl 1 rfl) ?_
  refine lv_iload hx hb dL_law_829 (lv_at hl 5 rfl) ?_
  refine lv_iconst (v := nI 1) hx hb dL_law_831 (by decide +kernel) ?_
  refine lv_iadd hx hb dL_law_832 ?_
  refine w_toeq (show (nI 0) + (nI 1) = nI 1 by decide +kernel) ?_
  refine va_sld hx hb hX hbl hbA hS (vp_in_nI (n := 1) (by decide) (by decide)) dL_law_833 ?_
  refine w_toeq (show xs (nI 1).toNatClampNeg = nI ya by rw [nI_clamp (n := 1) (by decide)]; exact hx1) ?_
  refine k_i (wr := [(h0, .inr (9, [.ref a0, .ref a1, .ref a2, .ref a3, .ref a4, .ref a5, .ref a6, .ref a7, .int (nI 0)]))]) (run_V (rest := []) hx hb hml hown hts hK hP hD hS hA hm (C687_take l G D K H.size h1 (.ref a8) ya (by omega) (by omega)) [0] rfl rfl mok_yX12_take w_1941 w_1942 w_1943 (rcv hK hP 0 rfl rfl rfl) ⟨Nat.le_of_ble_eq_true rfl, Nat.le_of_ble_eq_true rfl⟩ rfl hl.1 rfl (Nat.le_of_ble_eq_true rfl) dL_law_834 ⟨(by dsimp only [room_1]; omega), (by dsimp only [room_1]; omega)⟩) hP hD hS hA [0] [1] rfl rfl rfl (by decide) (w2 := fun u1 => [(h0, .inr (9, [.ref a0, .ref a1, .ref a2, .ref a3, .ref a4, .ref a5, .ref a6, .ref a7, .int (nI 0)])), (h1, .inr (12, [.int (nI 1), .ref a8]))]) (fun _ => rfl) (fun u1 H locs hP hD hS => ?_)
  refine lv_istore (lv' := [(6, .int (nI 0)), (5, .int (nI 1)), (0, .ref b), (1, .ref h0), (2, .ref h1), (3, .ref a9), (4, .int (nI 0))]) hx hb dL_law_837 hl (by decide) rfl (fun ls hl => ?_)
  refine lv_aload_n hx hb dL_law_839 rfl (lv_at hl 4 rfl) ?_
  refine k_i (wr := [(h0, .inr (9, [.ref a0, .ref a1, .ref a2, .ref a3, .ref a4, .ref a5, .ref a6, .ref a7, .int (nI 0)]))]) (run_V (rest := []) hx hb hml hown hts hK hP hD hS hA hm (C1059_thrown l G D K H.size h1 (.ref a8)) [1] rfl rfl mok_yX12_thrown w_1300 w_1301 w_1302 (rcv hK hP 1 rfl rfl rfl) ⟨Nat.le_of_ble_eq_true rfl, Nat.le_of_ble_eq_true rfl⟩ rfl hl.1 rfl (Nat.le_of_ble_eq_true rfl) dL_law_840 ⟨(by dsimp only [room_1]; omega), (by dsimp only [room_1]; omega)⟩) hP hD hS hA [1] [0] rfl rfl rfl (by decide) (w2 := fun u2 => [(h0, .inr (9, [.ref a0, .ref a1, .ref a2, .ref a3, .ref a4, .ref a5, .ref a6, .ref a7, .int (nI 0)])), (h1, .inr (12, [.int (nI 1), .ref a8]))]) (fun _ => rfl) (fun u2 H locs hP hD hS => ?_)
  refine lv_iload hx hb dL_law_843 (lv_at hl 1 rfl) ?_
  refine lv_icmp_eq (tgt := 850) hx hb dL_law_845 (by decide) (fun _ => ?_) (fun c9 => absurd (by decide +kernel) c9)
  refine lv_iload hx hb dL_law_850 (lv_at hl 1 rfl) ?_
  refine lv_if_ne (tgt := 867) hx hb dL_law_852 (by decide) (fun _ => ?_) (fun c9 => absurd c9 (by decide +kernel))
  refine lv_goto (tgt := 1762) hx hb dL_law_867 (by decide) ?_
  refine lv_iinc (v := nI 4) (lv' := [(4, .int (nI 4)), (6, .int (nI 0)), (5, .int (nI 1)), (0, .ref b), (1, .ref h0), (2, .ref h1), (3, .ref a9)]) hx hb dL_law_1762 hl (k := 6) rfl (by decide +kernel) (by decide) rfl (fun ls hl => ?_)
  refine lv_goto (tgt := 23) hx hb dL_law_1765 (by decide) ?_
  refine lv_iload hx hb dL_law_23 (lv_at hl 0 rfl) ?_
  refine lv_aload_n hx hb dL_law_25 rfl (lv_at hl 3 rfl) ?_
  refine va_slen hx hb hX hbl hbA hS dL_law_26 ?_
  refine w_toeq (show Int32.ofNat 4 = nI 4 from rfl) ?_
  refine lv_iconst (v := nI 4) hx hb dL_law_27 (by decide +kernel) ?_
  refine lv_isub hx hb dL_law_28 ?_
  refine w_toeq (show (nI 4) - (nI 4) = nI 0 by decide +kernel) ?_
  refine lv_icmp_gt (tgt := 1768) hx hb dL_law_29 (by decide) (fun _ => ?_) (fun c9 => absurd (by decide +kernel) c9)
  refine lv_iconst (v := nI 1) hx hb dL_law_1768 (by decide +kernel) ?_
  exact law_end hx hb hr hlk hS (by dsimp only; omega) (by dsimp only; omega) dL_law_1769
set_option maxHeartbeats 4000000 in
set_option maxRecDepth 100000 in
theorem LW167_minor {p : Program} {e : Env} {s : State} {m : MethodId} {below : List Frame} {meth : Method} {c : Code} {l : Launch} {G : Nat → Nat} {D : va_G} {K : Nat → ClassId} {b : Nat} {xs : Nat → Int32} (hx : p.tables.exec = Jvm.exec) (hb : c.code = cL_law) (hr : meth.sig.returnType = some .boolean) (hlk : meth.locks = false) (hl0 : l.stackTraces = false) (hnc : Ncs s) (hml : c.maxLocals = 9) (hown : s.vm.findClass RL = some m.cls) (hts : ∀ w ∈ lw_gw, w.before #[Value.ref b] s = true) (hK : va_K D cl (tys K) s) (hm : Amb G (fun q : Nat => s.heap.size ≤ q) s s.heap) (hX : va_X b 4 xs s s.heap) (hbl : b < s.heap.size) {h0 h1 h2 h3 h4 h5 h6 h7 h8 h9 h10 h11 h12 h13 h14 h15 h16 h17 h18 h19 h20 h21 h22 a0 a1 a2 a3 a4 a5 a6 a7 a8 a9 : Nat}  {H : Heap} {locs : List Loc} {cells slots : Nat} (hcs : cells ≤ 1000) (hss : slots ≤ 100000) (hP : va_P D cl [(h0, .inr (9, [.ref h5, .ref h8, .ref h1, .ref h13, .ref a0, .ref a1, .ref h3, .ref a2, .int (nI 0)])), (h1, .inr (3, [.ref h2, .ref h6, .ref h7, .int (nI 0), .int (nI 0), .int (nI 100), .int (nI 60), .ref h12])), (h2, .inr (5, [.ref a3, .int (nI 0)])), (h3, .inr (2, [.int (nI 2), .ref h5, .ref h8, .ref h1, .ref h13, .ref h4, .int (nI 0), .int (nI 0), .int (nI 0)])), (h4, .inr (5, [.ref a4, .int (nI 0)])), (h5, .inr (5, [.ref a5, .int (nI 0)])), (h6, .inr (5, [.ref a6, .int (nI 0)])), (h7, .inr (5, [.ref a7, .int (nI 0)])), (h8, .inr (4, [.ref h9, .ref h10, .ref h11, .int (nI 1)])), (h9, .inr (5, [.ref a8, .int (nI 0)])), (h10, .inl (K 0, 32, .inr (.inr (.inr (.inr (fun _ => none)))))), (h11, .inl (K 0, 4, .inr (.inr (.inr (.inr (fun _ => none)))))), (h12, .inl (K 1, 20, .inl (fun _ => nI 0))), (h13, .inr (6, [.int (nI 0), .int (nI 0), .int (nI 0), .int (nI 0)])), (h14, .inr (12, [.int (nI 0), .ref h15])), (h15, .inr (10, [.ref h16, .ref h17, .ref h20, .ref h21, .ref h22, .int (nI 0), .int (nI 0), .int (nI 60), .int (nI 0), .int (nI 2), .int (nI 0), .int (nI 0), .int (nI 0), .int (nI 0), .int (nI 0), .int (nI 0), .int (nI 0)])), (h16, .inr (13, [.int (nI 0), .ref (G 0), .int (nI 0)])), (h17, .inr (13, [.int (nI 1), .ref h18, .int (nI 1)])), (h18, .inl (K 4, 10, .inr (.inr (.inr (.inr (va_up (fun _ => none) 0 (some h19))))))), (h19, .inl (K 2, 4, .inl (fun _ => (-1)))), (h20, .inl (K 2, 4, .inl (fun _ => (-1)))), (h21, .inr (13, [.int (nI 0), .ref (G 0), .int (nI 0)])), (h22, .inl (K 1, 20, .inl (fun _ => nI 0)))] H) (hD : va_D (fun q : Nat => s.heap.size ≤ q) [(h0, .inr (9, [.ref h5, .ref h8, .ref h1, .ref h13, .ref a0, .ref a1, .ref h3, .ref a2, .int (nI 0)])), (h1, .inr (3, [.ref h2, .ref h6, .ref h7, .int (nI 0), .int (nI 0), .int (nI 100), .int (nI 60), .ref h12])), (h2, .inr (5, [.ref a3, .int (nI 0)])), (h3, .inr (2, [.int (nI 2), .ref h5, .ref h8, .ref h1, .ref h13, .ref h4, .int (nI 0), .int (nI 0), .int (nI 0)])), (h4, .inr (5, [.ref a4, .int (nI 0)])), (h5, .inr (5, [.ref a5, .int (nI 0)])), (h6, .inr (5, [.ref a6, .int (nI 0)])), (h7, .inr (5, [.ref a7, .int (nI 0)])), (h8, .inr (4, [.ref h9, .ref h10, .ref h11, .int (nI 1)])), (h9, .inr (5, [.ref a8, .int (nI 0)])), (h10, .inl (K 0, 32, .inr (.inr (.inr (.inr (fun _ => none)))))), (h11, .inl (K 0, 4, .inr (.inr (.inr (.inr (fun _ => none)))))), (h12, .inl (K 1, 20, .inl (fun _ => nI 0))), (h13, .inr (6, [.int (nI 0), .int (nI 0), .int (nI 0), .int (nI 0)])), (h14, .inr (12, [.int (nI 0), .ref h15])), (h15, .inr (10, [.ref h16, .ref h17, .ref h20, .ref h21, .ref h22, .int (nI 0), .int (nI 0), .int (nI 60), .int (nI 0), .int (nI 2), .int (nI 0), .int (nI 0), .int (nI 0), .int (nI 0), .int (nI 0), .int (nI 0), .int (nI 0)])), (h16, .inr (13, [.int (nI 0), .ref (G 0), .int (nI 0)])), (h17, .inr (13, [.int (nI 1), .ref h18, .int (nI 1)])), (h18, .inl (K 4, 10, .inr (.inr (.inr (.inr (va_up (fun _ => none) 0 (some h19))))))), (h19, .inl (K 2, 4, .inl (fun _ => (-1)))), (h20, .inl (K 2, 4, .inl (fun _ => (-1)))), (h21, .inr (13, [.int (nI 0), .ref (G 0), .int (nI 0)])), (h22, .inl (K 1, 20, .inl (fun _ => nI 0)))]) (hS : va_S (fun q : Nat => s.heap.size ≤ q) s.heap H locs) {ls : Array Slot} (hl : lv_has ls 9 [(0, .ref b), (1, .ref h0), (2, .ref h14), (3, .ref a9), (4, .int (nI 0))]) : W p l e room_1 s m #[Value.ref b] below meth c H locs cells slots (lw_Z below #[Value.ref b] s) (F0 m 870 ls []) := by
  have hA : ∀ q : Nat, s.heap.size ≤ q → (fun q : Nat => s.heap.size ≤ q) q := fun _ h => h
  have hbA : ¬ (fun q : Nat => s.heap.size ≤ q) b := Nat.not_le.mpr hbl
  refine lv_aload_n hx hb dL_law_870 rfl (lv_at hl 1 rfl) ?_
  refine k_i (wr := [(h14, .inr (12, [.int (nI 0), .ref h15])), (h15, .inr (10, [.ref h16, .ref h17, .ref h20, .ref h21, .ref h22, .int (nI 0), .int (nI 0), .int (nI 60), .int (nI 0), .int (nI 2), .int (nI 0), .int (nI 0), .int (nI 0), .int (nI 0), .int (nI 0), .int (nI 0), .int (nI 0)])), (h16, .inr (13, [.int (nI 0), .ref (G 0), .int (nI 0)])), (h17, .inr (13, [.int (nI 1), .ref h18, .int (nI 1)])), (h18, .inl (K 4, 10, .inr (.inr (.inr (.inr (va_up (fun _ => none) 0 (some h19))))))), (h19, .inl (K 2, 4, .inl (fun _ => (-1)))), (h20, .inl (K 2, 4, .inl (fun _ => (-1)))), (h21, .inr (13, [.int (nI 0), .ref (G 0), .int (nI 0)])), (h22, .inl (K 1, 20, .inl (fun _ => nI 0)))]) (run_V (rest := []) hx hb hml hown hts hK hP hD hS hA hm (C722_minor l G D K H.size h0 h1 h2 h3 h4 h5 h6 h7 h8 h9 h10 h11 h12 h13 (.ref h5) (.ref h8) (.ref h13) (.ref a0) (.ref a1) (.ref a2) (.int (nI 0)) (.int (nI 0)) (.ref a3) (.int (nI 2)) (.ref a4) (.ref a5) (.ref a6) (.ref a7) (.ref a8) (.int (nI 0)) (.int (nI 0))) [0, 1, 2, 3, 4, 5, 6, 7, 8, 9, 10, 11, 12, 13] rfl rfl mok_yX9_minor w_286 w_287 w_288 (rcv hK hP 0 rfl rfl rfl) ⟨Nat.le_of_ble_eq_true rfl, Nat.le_of_ble_eq_true rfl⟩ rfl hl.1 rfl (Nat.le_of_ble_eq_true rfl) dL_law_871 ⟨(by dsimp only [room_1]; omega), (by dsimp only [room_1]; omega)⟩) hP hD hS hA [0, 1, 2, 3, 4, 5, 6, 7, 8, 9, 10, 11, 12, 13] [14, 15, 16, 17, 18, 19, 20, 21, 22] rfl rfl rfl (by decide) (w2 := fun u0 => [(h14, .inr (12, [.int (nI 0), .ref h15])), (h15, .inr (10, [.ref h16, .ref h17, .ref h20, .ref h21, .ref h22, .int (nI 0), .int (nI 0), .int (nI 60), .int (nI 0), .int (nI 2), .int (nI 0), .int (nI 0), .int (nI 0), .int (nI 0), .int (nI 0), .int (nI 0), .int (nI 0)])), (h16, .inr (13, [.int (nI 0), .ref (G 0), .int (nI 0)])), (h17, .inr (13, [.int (nI 1), .ref h18, .int (nI 1)])), (h18, .inl (K 4, 10, .inr (.inr (.inr (.inr (va_up (fun _ => none) 0 (some h19))))))), (h19, .inl (K 2, 4, .inl (fun _ => (-1)))), (h20, .inl (K 2, 4, .inl (fun _ => (-1)))), (h21, .inr (13, [.int (nI 0), .ref (G 0), .int (nI 0)])), (h22, .inl (K 1, 20, .inl (fun _ => nI 0))), (h0, .inr (9, [.ref h5, .ref h8, .ref h1, .ref h13, .ref a0, .ref a1, .ref h3, .ref a2, .int (nI 0)])), (h10, .inl (K 0, 32, .inr (.inr (.inr (.inr (fun _ => none)))))), (h11, .inl (K 0, 4, .inr (.inr (.inr (.inr (fun _ => none)))))), (h8, .inr (4, [.ref h9, .ref h10, .ref h11, .int (nI 1)])), (h9, .inr (5, [.ref a8, .int (nI 0)])), (h5, .inr (5, [.ref a5, .int (nI 0)])), (h3, .inr (2, [.int (nI 2), .ref h5, .ref h8, .ref h1, .ref h13, .ref h4, .int (nI 0), .int (nI 40), .int (nI 40)])), (h2, .inr (5, [.ref a3, .int (nI 0)])), (h1, .inr (3, [.ref h2, .ref h6, .ref h7, .int (nI 40), .int (nI 40), .int (nI 100), .int (nI 60), .ref h12])), (h12, .inl (K 1, 20, .inl (fun _ => nI 0))), (h6, .inr (5, [.ref a6, .int (nI 0)])), (h7, .inr (5, [.ref a7, .int (nI 0)])), (h4, .inr (5, [.ref a4, .int (nI 0)])), (h13, .inr (6, [.int (nI 1), .int (nI 0), .int (nI 0), .int (nI 0)]))]) (fun _ => rfl) (fun u0 H locs hP hD hS => ?_)
  refine lv_aload_n hx hb dL_law_874 rfl (lv_at hl 2 rfl) ?_
  refine k_i (wr := [(h0, .inr (9, [.ref h5, .ref h8, .ref h1, .ref h13, .ref a0, .ref a1, .ref h3, .ref a2, .int (nI 0)])), (h10, .inl (K 0, 32, .inr (.inr (.inr (.inr (fun _ => none)))))), (h11, .inl (K 0, 4, .inr (.inr (.inr (.inr (fun _ => none)))))), (h8, .inr (4, [.ref h9, .ref h10, .ref h11, .int (nI 1)])), (h9, .inr (5, [.ref a8, .int (nI 0)])), (h5, .inr (5, [.ref a5, .int (nI 0)])), (h3, .inr (2, [.int (nI 2), .ref h5, .ref h8, .ref h1, .ref h13, .ref h4, .int (nI 0), .int (nI 40), .int (nI 40)])), (h2, .inr (5, [.ref a3, .int (nI 0)])), (h1, .inr (3, [.ref h2, .ref h6, .ref h7, .int (nI 40), .int (nI 40), .int (nI 100), .int (nI 60), .ref h12])), (h12, .inl (K 1, 20, .inl (fun _ => nI 0))), (h6, .inr (5, [.ref a6, .int (nI 0)])), (h7, .inr (5, [.ref a7, .int (nI 0)])), (h4, .inr (5, [.ref a4, .int (nI 0)])), (h13, .inr (6, [.int (nI 1), .int (nI 0), .int (nI 0), .int (nI 0)]))]) (run_V (rest := [.int (nI 0)]) hx hb hml hown hts hK hP hD hS hA hm (C781_minor l G D K H.size h14 h15 h16 h17 h18 h19 h20 h21 h22 (.int (nI 0)) (.int (nI 0)) (.int (nI 2)) (.int (nI 0)) (.int (nI 0)) (.int (nI 0)) (.int (nI 0)) (.ref (G 0)) (.int (nI 0))) [0, 1, 2, 3, 4, 5, 6, 7, 8] rfl rfl mok_yX12_minor w_1951 w_1952 w_1953 (rcv hK hP 0 rfl rfl rfl) ⟨Nat.le_of_ble_eq_true rfl, Nat.le_of_ble_eq_true rfl⟩ rfl hl.1 rfl (Nat.le_of_ble_eq_true rfl) dL_law_875 ⟨(by dsimp only [room_1]; omega), (by dsimp only [room_1]; omega)⟩) hP hD hS hA [0, 1, 2, 3, 4, 5, 6, 7, 8] [9, 10, 11, 12, 13, 14, 15, 16, 17, 18, 19, 20, 21, 22] rfl rfl rfl (by decide) (w2 := fun u1 => [(h0, .inr (9, [.ref h5, .ref h8, .ref h1, .ref h13, .ref a0, .ref a1, .ref h3, .ref a2, .int (nI 0)])), (h10, .inl (K 0, 32, .inr (.inr (.inr (.inr (fun _ => none)))))), (h11, .inl (K 0, 4, .inr (.inr (.inr (.inr (fun _ => none)))))), (h8, .inr (4, [.ref h9, .ref h10, .ref h11, .int (nI 1)])), (h9, .inr (5, [.ref a8, .int (nI 0)])), (h5, .inr (5, [.ref a5, .int (nI 0)])), (h3, .inr (2, [.int (nI 2), .ref h5, .ref h8, .ref h1, .ref h13, .ref h4, .int (nI 0), .int (nI 40), .int (nI 40)])), (h2, .inr (5, [.ref a3, .int (nI 0)])), (h1, .inr (3, [.ref h2, .ref h6, .ref h7, .int (nI 40), .int (nI 40), .int (nI 100), .int (nI 60), .ref h12])), (h12, .inl (K 1, 20, .inl (fun _ => nI 0))), (h6, .inr (5, [.ref a6, .int (nI 0)])), (h7, .inr (5, [.ref a7, .int (nI 0)])), (h4, .inr (5, [.ref a4, .int (nI 0)])), (h13, .inr (6, [.int (nI 1), .int (nI 0), .int (nI 0), .int (nI 0)])), (h14, .inr (12, [.int (nI 0), .ref h15])), ((u1 0), .inr (14, [.int (nI 0), .int (-1), .int (nI 0), .ref h16])), ((u1 1), .inr (14, [.int (nI 0), .int (-1), .int (nI 0), .ref h16])), ((u1 3), .inr (14, [.int (nI 0), .int (-1), .int (nI 0), .ref h16])), ((u1 5), .inr (14, [.int (nI 0), .int (-1), .int (nI 0), .ref h16])), ((u1 4), .inr (13, [.int (nI 0), .ref (G 0), .int (nI 0)])), ((u1 6), .inl (K 4, 0, .inr (.inr (.inr (.inr (fun _ => none)))))), (h19, .inl (K 2, 4, .inl (fun _ => (-1)))), (h20, .inl (K 2, 4, .inl (fun _ => (-1)))), (h18, .inl (K 4, 10, .inr (.inr (.inr (.inr (va_up (fun _ => none) 0 (some h19))))))), ((u1 9), .inr (14, [.int (nI 1), .int (nI 0), .int (nI 1), .ref h17])), (h17, .inr (13, [.int (nI 1), .ref h18, .int (nI 1)])), (h21, .inr (13, [.int (nI 0), .ref (G 0), .int (nI 0)])), ((u1 11), .inl (K 4, 0, .inr (.inr (.inr (.inr (fun _ => none)))))), ((u1 10), .inl (K 4, 10, .inr (.inr (.inr (.inr (va_up (va_up (va_up (va_up (va_up (va_up (va_up (va_up (fun _ => none) 0 (some (G (3 + 127)))) 1 (some (G (3 + 127)))) 2 (some (G (3 + 127)))) 3 (some (G (3 + 127)))) 4 (some (G (3 + 127)))) 5 (some (G (3 + 127)))) 6 (some (G (3 + 127)))) 7 (some (G (3 + 127))))))))), ((u1 12), .inr (14, [.int (nI 8), .int (nI 7), .int (nI 9), .ref (u1 8)])), ((u1 8), .inr (13, [.int (nI 9), .ref (u1 10), .int (nI 8)])), ((u1 13), .inr (14, [.int (nI 0), .int (-1), .int (nI 1), .ref (u1 2)])), ((u1 2), .inr (13, [.int (nI 1), .ref (G 0), .int (nI 0)])), ((u1 14), .inr (14, [.int (nI 0), .int (-1), .int (nI 0), .ref h16])), ((u1 16), .inr (14, [.int (nI 0), .int (-1), .int (nI 0), .ref h16])), ((u1 17), .inr (14, [.int (nI 0), .int (-1), .int (nI 0), .ref (u1 15)])), ((u1 15), .inr (13, [.int (nI 0), .ref (G 0), .int (nI 0)])), ((u1 18), .inr (14, [.int (nI 0), .int (-1), .int (nI 0), .ref h16])), ((u1 19), .inr (14, [.int (nI 0), .int (-1), .int (nI 0), .ref h16])), ((u1 20), .inr (14, [.int (nI 0), .int (-1), .int (nI 0), .ref (u1 7)])), ((u1 7), .inr (13, [.int (nI 0), .ref (G 0), .int (nI 0)])), (h22, .inl (K 1, 20, .inl (fun _ => nI 0))), ((u1 21), .inr (14, [.int (nI 0), .int (-1), .int (nI 0), .ref h16])), (h15, .inr (10, [.ref h16, .ref h17, .ref h20, .ref h21, .ref h22, .int (nI 40), .int (nI 0), .int (nI 60), .int (nI 0), .int (nI 2), .int (nI 0), .int (nI 1), .int (nI 0), .int (nI 0), .int (nI 0), .int (nI 0), .int (nI 0)])), ((u1 22), .inr (14, [.int (nI 0), .int (-1), .int (nI 0), .ref h16])), (h16, .inr (13, [.int (nI 0), .ref (G 0), .int (nI 0)]))]) (fun _ => rfl) (fun u1 H locs hP hD hS => ?_)
  refine lv_icmp_eq (tgt := 1762) hx hb dL_law_878 (by decide) (fun _ => ?_) (fun c9 => absurd (by decide +kernel) c9)
  refine lv_iinc (v := nI 4) (lv' := [(4, .int (nI 4)), (0, .ref b), (1, .ref h0), (2, .ref h14), (3, .ref a9)]) hx hb dL_law_1762 hl (k := 4) rfl (by decide +kernel) (by decide) rfl (fun ls hl => ?_)
  refine lv_goto (tgt := 23) hx hb dL_law_1765 (by decide) ?_
  refine lv_iload hx hb dL_law_23 (lv_at hl 0 rfl) ?_
  refine lv_aload_n hx hb dL_law_25 rfl (lv_at hl 1 rfl) ?_
  refine va_slen hx hb hX hbl hbA hS dL_law_26 ?_
  refine w_toeq (show Int32.ofNat 4 = nI 4 from rfl) ?_
  refine lv_iconst (v := nI 4) hx hb dL_law_27 (by decide +kernel) ?_
  refine lv_isub hx hb dL_law_28 ?_
  refine w_toeq (show (nI 4) - (nI 4) = nI 0 by decide +kernel) ?_
  refine lv_icmp_gt (tgt := 1768) hx hb dL_law_29 (by decide) (fun _ => ?_) (fun c9 => absurd (by decide +kernel) c9)
  refine lv_iconst (v := nI 1) hx hb dL_law_1768 (by decide +kernel) ?_
  exact law_end hx hb hr hlk hS (by dsimp only; omega) (by dsimp only; omega) dL_law_1769
set_option maxHeartbeats 4000000 in
set_option maxRecDepth 100000 in
theorem LW168_full {p : Program} {e : Env} {s : State} {m : MethodId} {below : List Frame} {meth : Method} {c : Code} {l : Launch} {G : Nat → Nat} {D : va_G} {K : Nat → ClassId} {b : Nat} {xs : Nat → Int32} (hx : p.tables.exec = Jvm.exec) (hb : c.code = cL_law) (hr : meth.sig.returnType = some .boolean) (hlk : meth.locks = false) (hl0 : l.stackTraces = false) (hnc : Ncs s) (hml : c.maxLocals = 9) (hown : s.vm.findClass RL = some m.cls) (hts : ∀ w ∈ lw_gw, w.before #[Value.ref b] s = true) (hK : va_K D cl (tys K) s) (hm : Amb G (fun q : Nat => s.heap.size ≤ q) s s.heap) (hX : va_X b 4 xs s s.heap) (hbl : b < s.heap.size) {h0 h1 h2 h3 h4 h5 h6 h7 h8 h9 h10 h11 h12 h13 h14 h15 h16 h17 h18 h19 h20 h21 h22 h23 h24 a0 a1 a2 a3 a4 a5 a6 a7 : Nat} (hx1 : xs 1 = nI 0) {H : Heap} {locs : List Loc} {cells slots : Nat} (hcs : cells ≤ 1000) (hss : slots ≤ 100000) (hP : va_P D cl [(h0, .inr (9, [.ref h4, .ref h5, .ref h9, .ref h15, .ref h14, .ref h2, .ref a0, .ref h1, .int (nI 0)])), (h1, .inr (0, [.ref h4, .ref h5, .ref h9, .ref h15, .ref h14, .ref h2])), (h2, .inr (8, [.ref h4, .ref h5, .ref h3, .int (nI 0), .int (nI 0), .null])), (h3, .inr (5, [.ref a1, .int (nI 0)])), (h4, .inr (5, [.ref a2, .int (nI 0)])), (h5, .inr (4, [.ref h6, .ref h7, .ref h8, .int (nI 1)])), (h6, .inr (5, [.ref a3, .int (nI 0)])), (h7, .inl (K 0, 32, .inr (.inr (.inr (.inr (fun _ => none)))))), (h8, .inl (K 0, 4, .inr (.inr (.inr (.inr (fun _ => none)))))), (h9, .inr (3, [.ref h10, .ref h11, .ref h12, .int (nI 0), .int (nI 0), .int (nI 100), .int (nI 60), .ref h13])), (h10, .inr (5, [.ref a4, .int (nI 0)])), (h11, .inr (5, [.ref a5, .int (nI 0)])), (h12, .inr (5, [.ref a6, .int (nI 0)])), (h13, .inl (K 1, 20, .inl (fun _ => nI 0))), (h14, .inr (1, [.ref h4, .ref h5, .int (nI 0)])), (h15, .inr (6, [.int (nI 0), .int (nI 0), .int (nI 0), .int (nI 0)])), (h16, .inr (12, [.int (nI 0), .ref h17])), (h17, .inr (10, [.ref h18, .ref h19, .ref h22, .ref h23, .ref h24, .int (nI 0), .int (nI 0), .int (nI 60), .int (nI 0), .int (nI 2), .int (nI 0), .int (nI 0), .int (nI 0), .int (nI 0), .int (nI 0), .int (nI 0), .int (nI 0)])), (h18, .inr (13, [.int (nI 0), .ref (G 0), .int (nI 0)])), (h19, .inr (13, [.int (nI 1), .ref h20, .int (nI 1)])), (h20, .inl (K 4, 10, .inr (.inr (.inr (.inr (va_up (fun _ => none) 0 (some h21))))))), (h21, .inl (K 2, 4, .inl (fun _ => (-1)))), (h22, .inl (K 2, 4, .inl (fun _ => (-1)))), (h23, .inr (13, [.int (nI 0), .ref (G 0), .int (nI 0)])), (h24, .inl (K 1, 20, .inl (fun _ => nI 0)))] H) (hD : va_D (fun q : Nat => s.heap.size ≤ q) [(h0, .inr (9, [.ref h4, .ref h5, .ref h9, .ref h15, .ref h14, .ref h2, .ref a0, .ref h1, .int (nI 0)])), (h1, .inr (0, [.ref h4, .ref h5, .ref h9, .ref h15, .ref h14, .ref h2])), (h2, .inr (8, [.ref h4, .ref h5, .ref h3, .int (nI 0), .int (nI 0), .null])), (h3, .inr (5, [.ref a1, .int (nI 0)])), (h4, .inr (5, [.ref a2, .int (nI 0)])), (h5, .inr (4, [.ref h6, .ref h7, .ref h8, .int (nI 1)])), (h6, .inr (5, [.ref a3, .int (nI 0)])), (h7, .inl (K 0, 32, .inr (.inr (.inr (.inr (fun _ => none)))))), (h8, .inl (K 0, 4, .inr (.inr (.inr (.inr (fun _ => none)))))), (h9, .inr (3, [.ref h10, .ref h11, .ref h12, .int (nI 0), .int (nI 0), .int (nI 100), .int (nI 60), .ref h13])), (h10, .inr (5, [.ref a4, .int (nI 0)])), (h11, .inr (5, [.ref a5, .int (nI 0)])), (h12, .inr (5, [.ref a6, .int (nI 0)])), (h13, .inl (K 1, 20, .inl (fun _ => nI 0))), (h14, .inr (1, [.ref h4, .ref h5, .int (nI 0)])), (h15, .inr (6, [.int (nI 0), .int (nI 0), .int (nI 0), .int (nI 0)])), (h16, .inr (12, [.int (nI 0), .ref h17])), (h17, .inr (10, [.ref h18, .ref h19, .ref h22, .ref h23, .ref h24, .int (nI 0), .int (nI 0), .int (nI 60), .int (nI 0), .int (nI 2), .int (nI 0), .int (nI 0), .int (nI 0), .int (nI 0), .int (nI 0), .int (nI 0), .int (nI 0)])), (h18, .inr (13, [.int (nI 0), .ref (G 0), .int (nI 0)])), (h19, .inr (13, [.int (nI 1), .ref h20, .int (nI 1)])), (h20, .inl (K 4, 10, .inr (.inr (.inr (.inr (va_up (fun _ => none) 0 (some h21))))))), (h21, .inl (K 2, 4, .inl (fun _ => (-1)))), (h22, .inl (K 2, 4, .inl (fun _ => (-1)))), (h23, .inr (13, [.int (nI 0), .ref (G 0), .int (nI 0)])), (h24, .inl (K 1, 20, .inl (fun _ => nI 0)))]) (hS : va_S (fun q : Nat => s.heap.size ≤ q) s.heap H locs) {ls : Array Slot} (hl : lv_has ls 9 [(0, .ref b), (1, .ref h0), (2, .ref h16), (3, .ref a7), (4, .int (nI 0))]) : W p l e room_1 s m #[Value.ref b] below meth c H locs cells slots (lw_Z below #[Value.ref b] s) (F0 m 883 ls []) := by
  have hA : ∀ q : Nat, s.heap.size ≤ q → (fun q : Nat => s.heap.size ≤ q) q := fun _ h => h
  have hbA : ¬ (fun q : Nat => s.heap.size ≤ q) b := Nat.not_le.mpr hbl
  refine lv_aload_n hx hb dL_law_883 rfl (lv_at hl 1 rfl) ?_
  refine lv_aload_n hx hb dL_law_884 rfl (lv_at hl 0 rfl) ?_
  refine lv_iload hx hb dL_law_885 (lv_at hl 4 rfl) ?_
  refine lv_iconst (v := nI 1) hx hb dL_law_887 (by decide +kernel) ?_
  refine lv_iadd hx hb dL_law_888 ?_
  refine w_toeq (show (nI 0) + (nI 1) = nI 1 by decide +kernel) ?_
  refine va_sld hx hb hX hbl hbA hS (vp_in_nI (n := 1) (by decide) (by decide)) dL_law_889 ?_
  refine w_toeq (show xs (nI 1).toNatClampNeg = nI 0 by rw [nI_clamp (n := 1) (by decide)]; exact hx1) ?_
  refine lv_if_eq (tgt := 897) hx hb dL_law_890 (by decide) (fun _ => ?_) (fun c9 => absurd (by decide +kernel) c9)
  refine lv_iconst (v := nI 0) hx hb dL_law_897 (by decide +kernel) ?_
  refine k_i (wr := [(h16, .inr (12, [.int (nI 0), .ref h17])), (h17, .inr (10, [.ref h18, .ref h19, .ref h22, .ref h23, .ref h24, .int (nI 0), .int (nI 0), .int (nI 60), .int (nI 0), .int (nI 2), .int (nI 0), .int (nI 0), .int (nI 0), .int (nI 0), .int (nI 0), .int (nI 0), .int (nI 0)])), (h18, .inr (13, [.int (nI 0), .ref (G 0), .int (nI 0)])), (h19, .inr (13, [.int (nI 1), .ref h20, .int (nI 1)])), (h20, .inl (K 4, 10, .inr (.inr (.inr (.inr (va_up (fun _ => none) 0 (some h21))))))), (h21, .inl (K 2, 4, .inl (fun _ => (-1)))), (h22, .inl (K 2, 4, .inl (fun _ => (-1)))), (h23, .inr (13, [.int (nI 0), .ref (G 0), .int (nI 0)])), (h24, .inl (K 1, 20, .inl (fun _ => nI 0)))]) (run_V (rest := []) hx hb hml hown hts hK hP hD hS hA hm (C800_full l G D K H.size h0 h1 h2 h3 h4 h5 h6 h7 h8 h9 h10 h11 h12 h13 h14 h15 (.ref h4) (.ref h5) (.ref h9) (.ref h15) (.ref h14) (.ref h2) (.ref a0) (.int (nI 0)) (.ref h5) (.int (nI 0)) (.null) (.ref a1) (.ref a2) (.ref a3) (.int (nI 0)) (.int (nI 0)) (.ref a4) (.ref a5) (.ref a6) (.ref h4) (.ref h5) (.int (nI 0)) (.int (nI 0)) (.int (nI 0))) [0, 1, 2, 3, 4, 5, 6, 7, 8, 9, 10, 11, 12, 13, 14, 15] rfl rfl mok_yX9_full w_536 w_537 w_538 (rcv hK hP 0 rfl rfl rfl) ⟨Nat.le_of_ble_eq_true rfl, Nat.le_of_ble_eq_true rfl⟩ rfl hl.1 rfl (Nat.le_of_ble_eq_true rfl) dL_law_898 ⟨(by dsimp only [room_1]; omega), (by dsimp only [room_1]; omega)⟩) hP hD hS hA [0, 1, 2, 3, 4, 5, 6, 7, 8, 9, 10, 11, 12, 13, 14, 15] [16, 17, 18, 19, 20, 21, 22, 23, 24] rfl rfl rfl (by decide) (w2 := fun u0 => [(h16, .inr (12, [.int (nI 0), .ref h17])), (h17, .inr (10, [.ref h18, .ref h19, .ref h22, .ref h23, .ref h24, .int (nI 0), .int (nI 0), .int (nI 60), .int (nI 0), .int (nI 2), .int (nI 0), .int (nI 0), .int (nI 0), .int (nI 0), .int (nI 0), .int (nI 0), .int (nI 0)])), (h18, .inr (13, [.int (nI 0), .ref (G 0), .int (nI 0)])), (h19, .inr (13, [.int (nI 1), .ref h20, .int (nI 1)])), (h20, .inl (K 4, 10, .inr (.inr (.inr (.inr (va_up (fun _ => none) 0 (some h21))))))), (h21, .inl (K 2, 4, .inl (fun _ => (-1)))), (h22, .inl (K 2, 4, .inl (fun _ => (-1)))), (h23, .inr (13, [.int (nI 0), .ref (G 0), .int (nI 0)])), (h24, .inl (K 1, 20, .inl (fun _ => nI 0))), (h0, .inr (9, [.ref h4, .ref h5, .ref h9, .ref h15, .ref h14, .ref h2, .ref a0, .ref h1, .int (nI 0)])), (h7, .inl (K 0, 32, .inr (.inr (.inr (.inr (fun _ => none)))))), (h8, .inl (K 0, 4, .inr (.inr (.inr (.inr (fun _ => none)))))), (h5, .inr (4, [.ref h6, .ref h7, .ref h8, .int (nI 1)])), (h6, .inr (5, [.ref a3, .int (nI 0)])), (h2, .inr (8, [.ref h4, .ref h5, .ref h3, .int (nI 0), .int (nI 0), .null])), (h3, .inr (5, [.ref a1, .int (nI 0)])), (h1, .inr (0, [.ref h4, .ref h5, .ref h9, .ref h15, .ref h14, .ref h2])), (h4, .inr (5, [.ref a2, .int (nI 0)])), (h13, .inl (K 1, 20, .inl (fun _ => nI 0))), (h14, .inr (1, [.ref h4, .ref h5, .int (nI 0)])), (h9, .inr (3, [.ref h10, .ref h11, .ref h12, .int (nI 0), .int (nI 0), .int (nI 100), .int (nI 60), .ref h13])), (h10, .inr (5, [.ref a4, .int (nI 0)])), (h11, .inr (5, [.ref a5, .int (nI 0)])), (h12, .inr (5, [.ref a6, .int (nI 0)])), (h15, .inr (6, [.int (nI 0), .int (nI 1), .int (nI 0), .int (nI 0)]))]) (fun _ => rfl) (fun u0 H locs hP hD hS => ?_)
  refine lv_aload_n hx hb dL_law_901 rfl (lv_at hl 2 rfl) ?_
  refine lv_aload_n hx hb dL_law_902 rfl (lv_at hl 0 rfl) ?_
  refine lv_iload hx hb dL_law_903 (lv_at hl 4 rfl) ?_
  refine lv_iconst (v := nI 1) hx hb dL_law_905 (by decide +kernel) ?_
  refine lv_iadd hx hb dL_law_906 ?_
  refine w_toeq (show (nI 0) + (nI 1) = nI 1 by decide +kernel) ?_
  refine va_sld hx hb hX hbl hbA hS (vp_in_nI (n := 1) (by decide) (by decide)) dL_law_907 ?_
  refine w_toeq (show xs (nI 1).toNatClampNeg = nI 0 by rw [nI_clamp (n := 1) (by decide)]; exact hx1) ?_
  refine lv_if_eq (tgt := 915) hx hb dL_law_908 (by decide) (fun _ => ?_) (fun c9 => absurd (by decide +kernel) c9)
  refine lv_iconst (v := nI 0) hx hb dL_law_915 (by decide +kernel) ?_
  refine k_i (wr := [(h0, .inr (9, [.ref h4, .ref h5, .ref h9, .ref h15, .ref h14, .ref h2, .ref a0, .ref h1, .int (nI 0)])), (h7, .inl (K 0, 32, .inr (.inr (.inr (.inr (fun _ => none)))))), (h8, .inl (K 0, 4, .inr (.inr (.inr (.inr (fun _ => none)))))), (h5, .inr (4, [.ref h6, .ref h7, .ref h8, .int (nI 1)])), (h6, .inr (5, [.ref a3, .int (nI 0)])), (h2, .inr (8, [.ref h4, .ref h5, .ref h3, .int (nI 0), .int (nI 0), .null])), (h3, .inr (5, [.ref a1, .int (nI 0)])), (h1, .inr (0, [.ref h4, .ref h5, .ref h9, .ref h15, .ref h14, .ref h2])), (h4, .inr (5, [.ref a2, .int (nI 0)])), (h13, .inl (K 1, 20, .inl (fun _ => nI 0))), (h14, .inr (1, [.ref h4, .ref h5, .int (nI 0)])), (h9, .inr (3, [.ref h10, .ref h11, .ref h12, .int (nI 0), .int (nI 0), .int (nI 100), .int (nI 60), .ref h13])), (h10, .inr (5, [.ref a4, .int (nI 0)])), (h11, .inr (5, [.ref a5, .int (nI 0)])), (h12, .inr (5, [.ref a6, .int (nI 0)])), (h15, .inr (6, [.int (nI 0), .int (nI 1), .int (nI 0), .int (nI 0)]))]) (run_V (rest := [.int (nI 0)]) hx hb hml hown hts hK hP hD hS hA hm (C810_full l G D K H.size h16 h17 h18 h19 h20 h21 h22 h23 h24 (.int (nI 0)) (.int (nI 0)) (.int (nI 0)) (.int (nI 2)) (.int (nI 0)) (.int (nI 0)) (.int (nI 0)) (.int (nI 0)) (.int (nI 0)) (.ref (G 0))) [0, 1, 2, 3, 4, 5, 6, 7, 8] rfl rfl mok_yX12_full w_1956 w_1957 w_1958 (rcv hK hP 0 rfl rfl rfl) ⟨Nat.le_of_ble_eq_true rfl, Nat.le_of_ble_eq_true rfl⟩ rfl hl.1 rfl (Nat.le_of_ble_eq_true rfl) dL_law_916 ⟨(by dsimp only [room_1]; omega), (by dsimp only [room_1]; omega)⟩) hP hD hS hA [0, 1, 2, 3, 4, 5, 6, 7, 8] [9, 10, 11, 12, 13, 14, 15, 16, 17, 18, 19, 20, 21, 22, 23, 24] rfl rfl rfl (by decide) (w2 := fun u1 => [(h0, .inr (9, [.ref h4, .ref h5, .ref h9, .ref h15, .ref h14, .ref h2, .ref a0, .ref h1, .int (nI 0)])), (h7, .inl (K 0, 32, .inr (.inr (.inr (.inr (fun _ => none)))))), (h8, .inl (K 0, 4, .inr (.inr (.inr (.inr (fun _ => none)))))), (h5, .inr (4, [.ref h6, .ref h7, .ref h8, .int (nI 1)])), (h6, .inr (5, [.ref a3, .int (nI 0)])), (h2, .inr (8, [.ref h4, .ref h5, .ref h3, .int (nI 0), .int (nI 0), .null])), (h3, .inr (5, [.ref a1, .int (nI 0)])), (h1, .inr (0, [.ref h4, .ref h5, .ref h9, .ref h15, .ref h14, .ref h2])), (h4, .inr (5, [.ref a2, .int (nI 0)])), (h13, .inl (K 1, 20, .inl (fun _ => nI 0))), (h14, .inr (1, [.ref h4, .ref h5, .int (nI 0)])), (h9, .inr (3, [.ref h10, .ref h11, .ref h12, .int (nI 0), .int (nI 0), .int (nI 100), .int (nI 60), .ref h13])), (h10, .inr (5, [.ref a4, .int (nI 0)])), (h11, .inr (5, [.ref a5, .int (nI 0)])), (h12, .inr (5, [.ref a6, .int (nI 0)])), (h15, .inr (6, [.int (nI 0), .int (nI 1), .int (nI 0), .int (nI 0)])), (h16, .inr (12, [.int (nI 0), .ref h17])), ((u1 0), .inl (K 1, 0, .inl (fun _ => nI 0))), (h21, .inl (K 2, 4, .inl (fun _ => (-1)))), (h22, .inl (K 2, 4, .inl (fun _ => (-1)))), (h20, .inl (K 4, 10, .inr (.inr (.inr (.inr (va_up (fun _ => none) 0 (some h21))))))), ((u1 2), .inr (14, [.int (nI 1), .int (nI 0), .int (nI 1), .ref h19])), (h19, .inr (13, [.int (nI 1), .ref h20, .int (nI 1)])), ((u1 4), .inl (K 4, 0, .inr (.inr (.inr (.inr (fun _ => none)))))), ((u1 3), .inl (K 4, 10, .inr (.inr (.inr (.inr (va_up (va_up (va_up (va_up (va_up (va_up (va_up (va_up (fun _ => none) 0 (some (G (3 + 127)))) 1 (some (G (3 + 127)))) 2 (some (G (3 + 127)))) 3 (some (G (3 + 127)))) 4 (some (G (3 + 127)))) 5 (some (G (3 + 127)))) 6 (some (G (3 + 127)))) 7 (some (G (3 + 127))))))))), ((u1 5), .inr (14, [.int (nI 8), .int (nI 7), .int (nI 9), .ref (u1 1)])), ((u1 1), .inr (13, [.int (nI 9), .ref (u1 3), .int (nI 8)])), ((u1 6), .inr (14, [.int (nI 0), .int (-1), .int (nI 0), .ref h18])), ((u1 7), .inr (14, [.int (nI 0), .int (-1), .int (nI 0), .ref h18])), ((u1 8), .inr (14, [.int (nI 0), .int (-1), .int (nI 0), .ref h18])), ((u1 9), .inr (14, [.int (nI 0), .int (-1), .int (nI 0), .ref h18])), ((u1 10), .inr (14, [.int (nI 0), .int (-1), .int (nI 0), .ref h18])), ((u1 11), .inr (14, [.int (nI 0), .int (-1), .int (nI 0), .ref h23])), (h23, .inr (13, [.int (nI 0), .ref (G 0), .int (nI 0)])), ((u1 12), .inr (14, [.int (nI 0), .int (-1), .int (nI 0), .ref h18])), ((u1 13), .inr (14, [.int (nI 0), .int (-1), .int (nI 0), .ref h18])), ((u1 14), .inr (14, [.int (nI 0), .int (-1), .int (nI 0), .ref h18])), ((u1 17), .inr (14, [.int (nI 0), .int (-1), .int (nI 0), .ref h18])), ((u1 18), .inr (14, [.int (nI 0), .int (-1), .int (nI 0), .ref (u1 16)])), ((u1 16), .inr (13, [.int (nI 0), .ref (G 0), .int (nI 0)])), ((u1 20), .inr (14, [.int (nI 0), .int (-1), .int (nI 0), .ref h18])), ((u1 21), .inr (14, [.int (nI 0), .int (-1), .int (nI 0), .ref (u1 19)])), ((u1 22), .inr (14, [.int (nI 0), .int (-1), .int (nI 0), .ref (u1 19)])), ((u1 19), .inr (13, [.int (nI 0), .ref (G 0), .int (nI 0)])), (h24, .inl (K 1, 20, .inl (fun _ => nI 0))), ((u1 23), .inr (14, [.int (nI 0), .int (-1), .int (nI 0), .ref h18])), ((u1 24), .inr (14, [.int (nI 0), .int (-1), .int (nI 0), .ref h18])), ((u1 25), .inr (14, [.int (nI 0), .int (-1), .int (nI 0), .ref (u1 15)])), ((u1 15), .inr (13, [.int (nI 0), .ref (G 0), .int (nI 0)])), (h17, .inr (10, [.ref h18, .ref h19, .ref h22, .ref h23, .ref h24, .int (nI 0), .int (nI 0), .int (nI 60), .int (nI 0), .int (nI 2), .int (nI 0), .int (nI 0), .int (nI 1), .int (nI 0), .int (nI 0), .int (nI 0), .int (nI 0)])), ((u1 26), .inr (14, [.int (nI 0), .int (-1), .int (nI 0), .ref h18])), (h18, .inr (13, [.int (nI 0), .ref (G 0), .int (nI 0)]))]) (fun _ => rfl) (fun u1 H locs hP hD hS => ?_)
  refine lv_icmp_eq (tgt := 1762) hx hb dL_law_919 (by decide) (fun _ => ?_) (fun c9 => absurd (by decide +kernel) c9)
  refine lv_iinc (v := nI 4) (lv' := [(4, .int (nI 4)), (0, .ref b), (1, .ref h0), (2, .ref h16), (3, .ref a7)]) hx hb dL_law_1762 hl (k := 4) rfl (by decide +kernel) (by decide) rfl (fun ls hl => ?_)
  refine lv_goto (tgt := 23) hx hb dL_law_1765 (by decide) ?_
  refine lv_iload hx hb dL_law_23 (lv_at hl 0 rfl) ?_
  refine lv_aload_n hx hb dL_law_25 rfl (lv_at hl 1 rfl) ?_
  refine va_slen hx hb hX hbl hbA hS dL_law_26 ?_
  refine w_toeq (show Int32.ofNat 4 = nI 4 from rfl) ?_
  refine lv_iconst (v := nI 4) hx hb dL_law_27 (by decide +kernel) ?_
  refine lv_isub hx hb dL_law_28 ?_
  refine w_toeq (show (nI 4) - (nI 4) = nI 0 by decide +kernel) ?_
  refine lv_icmp_gt (tgt := 1768) hx hb dL_law_29 (by decide) (fun _ => ?_) (fun c9 => absurd (by decide +kernel) c9)
  refine lv_iconst (v := nI 1) hx hb dL_law_1768 (by decide +kernel) ?_
  exact law_end hx hb hr hlk hS (by dsimp only; omega) (by dsimp only; omega) dL_law_1769
set_option maxHeartbeats 4000000 in
set_option maxRecDepth 100000 in
theorem LW169_full {p : Program} {e : Env} {s : State} {m : MethodId} {below : List Frame} {meth : Method} {c : Code} {l : Launch} {G : Nat → Nat} {D : va_G} {K : Nat → ClassId} {b : Nat} {xs : Nat → Int32} (hx : p.tables.exec = Jvm.exec) (hb : c.code = cL_law) (hr : meth.sig.returnType = some .boolean) (hlk : meth.locks = false) (hl0 : l.stackTraces = false) (hnc : Ncs s) (hml : c.maxLocals = 9) (hown : s.vm.findClass RL = some m.cls) (hts : ∀ w ∈ lw_gw, w.before #[Value.ref b] s = true) (hK : va_K D cl (tys K) s) (hm : Amb G (fun q : Nat => s.heap.size ≤ q) s s.heap) (hX : va_X b 4 xs s s.heap) (hbl : b < s.heap.size) {h0 h1 h2 h3 h4 h5 h6 h7 h8 h9 h10 h11 h12 h13 h14 h15 h16 h17 h18 h19 h20 h21 h22 h23 h24 a0 a1 a2 a3 a4 a5 a6 a7 : Nat} (ya : Int32) (hya : ya < 0) (hx1 : xs 1 = ya) {H : Heap} {locs : List Loc} {cells slots : Nat} (hcs : cells ≤ 1000) (hss : slots ≤ 100000) (hP : va_P D cl [(h0, .inr (9, [.ref h4, .ref h5, .ref h9, .ref h15, .ref h14, .ref h2, .ref a0, .ref h1, .int (nI 0)])), (h1, .inr (0, [.ref h4, .ref h5, .ref h9, .ref h15, .ref h14, .ref h2])), (h2, .inr (8, [.ref h4, .ref h5, .ref h3, .int (nI 0), .int (nI 0), .null])), (h3, .inr (5, [.ref a1, .int (nI 0)])), (h4, .inr (5, [.ref a2, .int (nI 0)])), (h5, .inr (4, [.ref h6, .ref h7, .ref h8, .int (nI 1)])), (h6, .inr (5, [.ref a3, .int (nI 0)])), (h7, .inl (K 0, 32, .inr (.inr (.inr (.inr (fun _ => none)))))), (h8, .inl (K 0, 4, .inr (.inr (.inr (.inr (fun _ => none)))))), (h9, .inr (3, [.ref h10, .ref h11, .ref h12, .int (nI 0), .int (nI 0), .int (nI 100), .int (nI 60), .ref h13])), (h10, .inr (5, [.ref a4, .int (nI 0)])), (h11, .inr (5, [.ref a5, .int (nI 0)])), (h12, .inr (5, [.ref a6, .int (nI 0)])), (h13, .inl (K 1, 20, .inl (fun _ => nI 0))), (h14, .inr (1, [.ref h4, .ref h5, .int (nI 0)])), (h15, .inr (6, [.int (nI 0), .int (nI 0), .int (nI 0), .int (nI 0)])), (h16, .inr (12, [.int (nI 0), .ref h17])), (h17, .inr (10, [.ref h18, .ref h19, .ref h22, .ref h23, .ref h24, .int (nI 0), .int (nI 0), .int (nI 60), .int (nI 0), .int (nI 2), .int (nI 0), .int (nI 0), .int (nI 0), .int (nI 0), .int (nI 0), .int (nI 0), .int (nI 0)])), (h18, .inr (13, [.int (nI 0), .ref (G 0), .int (nI 0)])), (h19, .inr (13, [.int (nI 1), .ref h20, .int (nI 1)])), (h20, .inl (K 4, 10, .inr (.inr (.inr (.inr (va_up (fun _ => none) 0 (some h21))))))), (h21, .inl (K 2, 4, .inl (fun _ => (-1)))), (h22, .inl (K 2, 4, .inl (fun _ => (-1)))), (h23, .inr (13, [.int (nI 0), .ref (G 0), .int (nI 0)])), (h24, .inl (K 1, 20, .inl (fun _ => nI 0)))] H) (hD : va_D (fun q : Nat => s.heap.size ≤ q) [(h0, .inr (9, [.ref h4, .ref h5, .ref h9, .ref h15, .ref h14, .ref h2, .ref a0, .ref h1, .int (nI 0)])), (h1, .inr (0, [.ref h4, .ref h5, .ref h9, .ref h15, .ref h14, .ref h2])), (h2, .inr (8, [.ref h4, .ref h5, .ref h3, .int (nI 0), .int (nI 0), .null])), (h3, .inr (5, [.ref a1, .int (nI 0)])), (h4, .inr (5, [.ref a2, .int (nI 0)])), (h5, .inr (4, [.ref h6, .ref h7, .ref h8, .int (nI 1)])), (h6, .inr (5, [.ref a3, .int (nI 0)])), (h7, .inl (K 0, 32, .inr (.inr (.inr (.inr (fun _ => none)))))), (h8, .inl (K 0, 4, .inr (.inr (.inr (.inr (fun _ => none)))))), (h9, .inr (3, [.ref h10, .ref h11, .ref h12, .int (nI 0), .int (nI 0), .int (nI 100), .int (nI 60), .ref h13])), (h10, .inr (5, [.ref a4, .int (nI 0)])), (h11, .inr (5, [.ref a5, .int (nI 0)])), (h12, .inr (5, [.ref a6, .int (nI 0)])), (h13, .inl (K 1, 20, .inl (fun _ => nI 0))), (h14, .inr (1, [.ref h4, .ref h5, .int (nI 0)])), (h15, .inr (6, [.int (nI 0), .int (nI 0), .int (nI 0), .int (nI 0)])), (h16, .inr (12, [.int (nI 0), .ref h17])), (h17, .inr (10, [.ref h18, .ref h19, .ref h22, .ref h23, .ref h24, .int (nI 0), .int (nI 0), .int (nI 60), .int (nI 0), .int (nI 2), .int (nI 0), .int (nI 0), .int (nI 0), .int (nI 0), .int (nI 0), .int (nI 0), .int (nI 0)])), (h18, .inr (13, [.int (nI 0), .ref (G 0), .int (nI 0)])), (h19, .inr (13, [.int (nI 1), .ref h20, .int (nI 1)])), (h20, .inl (K 4, 10, .inr (.inr (.inr (.inr (va_up (fun _ => none) 0 (some h21))))))), (h21, .inl (K 2, 4, .inl (fun _ => (-1)))), (h22, .inl (K 2, 4, .inl (fun _ => (-1)))), (h23, .inr (13, [.int (nI 0), .ref (G 0), .int (nI 0)])), (h24, .inl (K 1, 20, .inl (fun _ => nI 0)))]) (hS : va_S (fun q : Nat => s.heap.size ≤ q) s.heap H locs) {ls : Array Slot} (hl : lv_has ls 9 [(0, .ref b), (1, .ref h0), (2, .ref h16), (3, .ref a7), (4, .int (nI 0))]) : W p l e room_1 s m #[Value.ref b] below meth c H locs cells slots (lw_Z below #[Value.ref b] s) (F0 m 883 ls []) := by
  have hA : ∀ q : Nat, s.heap.size ≤ q → (fun q : Nat => s.heap.size ≤ q) q := fun _ h => h
  have hbA : ¬ (fun q : Nat => s.heap.size ≤ q) b := Nat.not_le.mpr hbl
  refine lv_aload_n hx hb dL_law_883 rfl (lv_at hl 1 rfl) ?_
  refine lv_aload_n hx hb dL_law_884 rfl (lv_at hl 0 rfl) ?_
  refine lv_iload hx hb dL_law_885 (lv_at hl 4 rfl) ?_
  refine lv_iconst (v := nI 1) hx hb dL_law_887 (by decide +kernel) ?_
  refine lv_iadd hx hb dL_law_888 ?_
  refine w_toeq (show (nI 0) + (nI 1) = nI 1 by decide +kernel) ?_
  refine va_sld hx hb hX hbl hbA hS (vp_in_nI (n := 1) (by decide) (by decide)) dL_law_889 ?_
  refine w_toeq (show xs (nI 1).toNatClampNeg = ya by rw [nI_clamp (n := 1) (by decide)]; exact hx1) ?_
  refine lv_if_eq (tgt := 897) hx hb dL_law_890 (by decide) (fun c9 => absurd c9 (ng_eqN hya (n := 0) (by omega))) (fun _ => ?_)
  refine lv_iconst (v := nI 1) hx hb dL_law_893 (by decide +kernel) ?_
  refine lv_goto (tgt := 898) hx hb dL_law_894 (by decide) ?_
  refine k_i (wr := [(h16, .inr (12, [.int (nI 0), .ref h17])), (h17, .inr (10, [.ref h18, .ref h19, .ref h22, .ref h23, .ref h24, .int (nI 0), .int (nI 0), .int (nI 60), .int (nI 0), .int (nI 2), .int (nI 0), .int (nI 0), .int (nI 0), .int (nI 0), .int (nI 0), .int (nI 0), .int (nI 0)])), (h18, .inr (13, [.int (nI 0), .ref (G 0), .int (nI 0)])), (h19, .inr (13, [.int (nI 1), .ref h20, .int (nI 1)])), (h20, .inl (K 4, 10, .inr (.inr (.inr (.inr (va_up (fun _ => none) 0 (some h21))))))), (h21, .inl (K 2, 4, .inl (fun _ => (-1)))), (h22, .inl (K 2, 4, .inl (fun _ => (-1)))), (h23, .inr (13, [.int (nI 0), .ref (G 0), .int (nI 0)])), (h24, .inl (K 1, 20, .inl (fun _ => nI 0)))]) (run_V (rest := []) hx hb hml hown hts hK hP hD hS hA hm (C814_full l G D K H.size h0 h1 h2 h3 h4 h5 h6 h7 h8 h9 h10 h11 h12 h13 h14 h15 (.ref h4) (.ref h5) (.ref h9) (.ref h15) (.ref h14) (.ref h2) (.ref a0) (.int (nI 0)) (.ref h5) (.int (nI 0)) (.null) (.ref a1) (.ref a2) (.ref a3) (.int (nI 0)) (.int (nI 0)) (.ref a4) (.ref a5) (.ref a6) (.ref h4) (.ref h5) (.int (nI 0)) (.int (nI 0)) (.int (nI 0))) [0, 1, 2, 3, 4, 5, 6, 7, 8, 9, 10, 11, 12, 13, 14, 15] rfl rfl mok_yX9_full w_536 w_537 w_538 (rcv hK hP 0 rfl rfl rfl) ⟨Nat.le_of_ble_eq_true rfl, Nat.le_of_ble_eq_true rfl⟩ rfl hl.1 rfl (Nat.le_of_ble_eq_true rfl) dL_law_898 ⟨(by dsimp only [room_1]; omega), (by dsimp only [room_1]; omega)⟩) hP hD hS hA [0, 1, 2, 3, 4, 5, 6, 7, 8, 9, 10, 11, 12, 13, 14, 15] [16, 17, 18, 19, 20, 21, 22, 23, 24] rfl rfl rfl (by decide) (w2 := fun u0 => [(h16, .inr (12, [.int (nI 0), .ref h17])), (h17, .inr (10, [.ref h18, .ref h19, .ref h22, .ref h23, .ref h24, .int (nI 0), .int (nI 0), .int (nI 60), .int (nI 0), .int (nI 2), .int (nI 0), .int (nI 0), .int (nI 0), .int (nI 0), .int (nI 0), .int (nI 0), .int (nI 0)])), (h18, .inr (13, [.int (nI 0), .ref (G 0), .int (nI 0)])), (h19, .inr (13, [.int (nI 1), .ref h20, .int (nI 1)])), (h20, .inl (K 4, 10, .inr (.inr (.inr (.inr (va_up (fun _ => none) 0 (some h21))))))), (h21, .inl (K 2, 4, .inl (fun _ => (-1)))), (h22, .inl (K 2, 4, .inl (fun _ => (-1)))), (h23, .inr (13, [.int (nI 0), .ref (G 0), .int (nI 0)])), (h24, .inl (K 1, 20, .inl (fun _ => nI 0))), (h0, .inr (9, [.ref h4, .ref h5, .ref h9, .ref h15, .ref h14, .ref h2, .ref a0, .ref h1, .int (nI 0)])), (h7, .inl (K 0, 32, .inr (.inr (.inr (.inr (fun _ => none)))))), (h8, .inl (K 0, 4, .inr (.inr (.inr (.inr (fun _ => none)))))), (h5, .inr (4, [.ref h6, .ref h7, .ref h8, .int (nI 1)])), (h6, .inr (5, [.ref a3, .int (nI 0)])), (h2, .inr (8, [.ref h4, .ref h5, .ref h3, .int (nI 0), .int (nI 1), .null])), (h3, .inr (5, [.ref a1, .int (nI 0)])), (h1, .inr (0, [.ref h4, .ref h5, .ref h9, .ref h15, .ref h14, .ref h2])), (h4, .inr (5, [.ref a2, .int (nI 0)])), (h13, .inl (K 1, 20, .inl (fun _ => nI 0))), (h14, .inr (1, [.ref h4, .ref h5, .int (nI 0)])), (h9, .inr (3, [.ref h10, .ref h11, .ref h12, .int (nI 0), .int (nI 0), .int (nI 100), .int (nI 60), .ref h13])), (h10, .inr (5, [.ref a4, .int (nI 0)])), (h11, .inr (5, [.ref a5, .int (nI 0)])), (h12, .inr (5, [.ref a6, .int (nI 0)])), (h15, .inr (6, [.int (nI 0), .int (nI 1), .int (nI 0), .int (nI 0)]))]) (fun _ => rfl) (fun u0 H locs hP hD hS => ?_)
  refine lv_aload_n hx hb dL_law_901 rfl (lv_at hl 2 rfl) ?_
  refine lv_aload_n hx hb dL_law_902 rfl (lv_at hl 0 rfl) ?_
  refine lv_iload hx hb dL_law_903 (lv_at hl 4 rfl) ?_
  refine lv_iconst (v := nI 1) hx hb dL_law_905 (by decide +kernel) ?_
  refine lv_iadd hx hb dL_law_906 ?_
  refine w_toeq (show (nI 0) + (nI 1) = nI 1 by decide +kernel) ?_
  refine va_sld hx hb hX hbl hbA hS (vp_in_nI (n := 1) (by decide) (by decide)) dL_law_907 ?_
  refine w_toeq (show xs (nI 1).toNatClampNeg = ya by rw [nI_clamp (n := 1) (by decide)]; exact hx1) ?_
  refine lv_if_eq (tgt := 915) hx hb dL_law_908 (by decide) (fun c9 => absurd c9 (ng_eqN hya (n := 0) (by omega))) (fun _ => ?_)
  refine lv_iconst (v := nI 1) hx hb dL_law_911 (by decide +kernel) ?_
  refine lv_goto (tgt := 916) hx hb dL_law_912 (by decide) ?_
  refine k_i (wr := [(h0, .inr (9, [.ref h4, .ref h5, .ref h9, .ref h15, .ref h14, .ref h2, .ref a0, .ref h1, .int (nI 0)])), (h7, .inl (K 0, 32, .inr (.inr (.inr (.inr (fun _ => none)))))), (h8, .inl (K 0, 4, .inr (.inr (.inr (.inr (fun _ => none)))))), (h5, .inr (4, [.ref h6, .ref h7, .ref h8, .int (nI 1)])), (h6, .inr (5, [.ref a3, .int (nI 0)])), (h2, .inr (8, [.ref h4, .ref h5, .ref h3, .int (nI 0), .int (nI 1), .null])), (h3, .inr (5, [.ref a1, .int (nI 0)])), (h1, .inr (0, [.ref h4, .ref h5, .ref h9, .ref h15, .ref h14, .ref h2])), (h4, .inr (5, [.ref a2, .int (nI 0)])), (h13, .inl (K 1, 20, .inl (fun _ => nI 0))), (h14, .inr (1, [.ref h4, .ref h5, .int (nI 0)])), (h9, .inr (3, [.ref h10, .ref h11, .ref h12, .int (nI 0), .int (nI 0), .int (nI 100), .int (nI 60), .ref h13])), (h10, .inr (5, [.ref a4, .int (nI 0)])), (h11, .inr (5, [.ref a5, .int (nI 0)])), (h12, .inr (5, [.ref a6, .int (nI 0)])), (h15, .inr (6, [.int (nI 0), .int (nI 1), .int (nI 0), .int (nI 0)]))]) (run_V (rest := [.int (nI 0)]) hx hb hml hown hts hK hP hD hS hA hm (C820_full l G D K H.size h16 h17 h18 h19 h20 h21 h22 h23 h24 (.int (nI 0)) (.int (nI 0)) (.int (nI 0)) (.int (nI 2)) (.int (nI 0)) (.int (nI 0)) (.int (nI 0)) (.int (nI 0)) (.int (nI 0)) (.ref (G 0))) [0, 1, 2, 3, 4, 5, 6, 7, 8] rfl rfl mok_yX12_full w_1956 w_1957 w_1958 (rcv hK hP 0 rfl rfl rfl) ⟨Nat.le_of_ble_eq_true rfl, Nat.le_of_ble_eq_true rfl⟩ rfl hl.1 rfl (Nat.le_of_ble_eq_true rfl) dL_law_916 ⟨(by dsimp only [room_1]; omega), (by dsimp only [room_1]; omega)⟩) hP hD hS hA [0, 1, 2, 3, 4, 5, 6, 7, 8] [9, 10, 11, 12, 13, 14, 15, 16, 17, 18, 19, 20, 21, 22, 23, 24] rfl rfl rfl (by decide) (w2 := fun u1 => [(h0, .inr (9, [.ref h4, .ref h5, .ref h9, .ref h15, .ref h14, .ref h2, .ref a0, .ref h1, .int (nI 0)])), (h7, .inl (K 0, 32, .inr (.inr (.inr (.inr (fun _ => none)))))), (h8, .inl (K 0, 4, .inr (.inr (.inr (.inr (fun _ => none)))))), (h5, .inr (4, [.ref h6, .ref h7, .ref h8, .int (nI 1)])), (h6, .inr (5, [.ref a3, .int (nI 0)])), (h2, .inr (8, [.ref h4, .ref h5, .ref h3, .int (nI 0), .int (nI 1), .null])), (h3, .inr (5, [.ref a1, .int (nI 0)])), (h1, .inr (0, [.ref h4, .ref h5, .ref h9, .ref h15, .ref h14, .ref h2])), (h4, .inr (5, [.ref a2, .int (nI 0)])), (h13, .inl (K 1, 20, .inl (fun _ => nI 0))), (h14, .inr (1, [.ref h4, .ref h5, .int (nI 0)])), (h9, .inr (3, [.ref h10, .ref h11, .ref h12, .int (nI 0), .int (nI 0), .int (nI 100), .int (nI 60), .ref h13])), (h10, .inr (5, [.ref a4, .int (nI 0)])), (h11, .inr (5, [.ref a5, .int (nI 0)])), (h12, .inr (5, [.ref a6, .int (nI 0)])), (h15, .inr (6, [.int (nI 0), .int (nI 1), .int (nI 0), .int (nI 0)])), (h16, .inr (12, [.int (nI 0), .ref h17])), ((u1 0), .inl (K 1, 0, .inl (fun _ => nI 0))), (h21, .inl (K 2, 4, .inl (fun _ => (-1)))), (h22, .inl (K 2, 4, .inl (fun _ => (-1)))), (h20, .inl (K 4, 10, .inr (.inr (.inr (.inr (va_up (fun _ => none) 0 (some h21))))))), ((u1 2), .inr (14, [.int (nI 1), .int (nI 0), .int (nI 1), .ref h19])), (h19, .inr (13, [.int (nI 1), .ref h20, .int (nI 1)])), ((u1 4), .inl (K 4, 0, .inr (.inr (.inr (.inr (fun _ => none)))))), ((u1 3), .inl (K 4, 10, .inr (.inr (.inr (.inr (va_up (va_up (va_up (va_up (va_up (va_up (va_up (va_up (fun _ => none) 0 (some (G (3 + 127)))) 1 (some (G (3 + 127)))) 2 (some (G (3 + 127)))) 3 (some (G (3 + 127)))) 4 (some (G (3 + 127)))) 5 (some (G (3 + 127)))) 6 (some (G (3 + 127)))) 7 (some (G (3 + 127))))))))), ((u1 5), .inr (14, [.int (nI 8), .int (nI 7), .int (nI 9), .ref (u1 1)])), ((u1 1), .inr (13, [.int (nI 9), .ref (u1 3), .int (nI 8)])), ((u1 6), .inr (14, [.int (nI 0), .int (-1), .int (nI 0), .ref h18])), ((u1 7), .inr (14, [.int (nI 0), .int (-1), .int (nI 0), .ref h18])), ((u1 8), .inr (14, [.int (nI 0), .int (-1), .int (nI 0), .ref h18])), ((u1 9), .inr (14, [.int (nI 0), .int (-1), .int (nI 0), .ref h18])), ((u1 10), .inr (14, [.int (nI 0), .int (-1), .int (nI 0), .ref h18])), ((u1 11), .inr (14, [.int (nI 0), .int (-1), .int (nI 0), .ref h23])), (h23, .inr (13, [.int (nI 0), .ref (G 0), .int (nI 0)])), ((u1 12), .inr (14, [.int (nI 0), .int (-1), .int (nI 0), .ref h18])), ((u1 13), .inr (14, [.int (nI 0), .int (-1), .int (nI 0), .ref h18])), ((u1 14), .inr (14, [.int (nI 0), .int (-1), .int (nI 0), .ref h18])), ((u1 17), .inr (14, [.int (nI 0), .int (-1), .int (nI 0), .ref h18])), ((u1 18), .inr (14, [.int (nI 0), .int (-1), .int (nI 0), .ref (u1 16)])), ((u1 16), .inr (13, [.int (nI 0), .ref (G 0), .int (nI 0)])), ((u1 20), .inr (14, [.int (nI 0), .int (-1), .int (nI 0), .ref h18])), ((u1 21), .inr (14, [.int (nI 0), .int (-1), .int (nI 0), .ref (u1 19)])), ((u1 22), .inr (14, [.int (nI 0), .int (-1), .int (nI 0), .ref (u1 19)])), ((u1 19), .inr (13, [.int (nI 0), .ref (G 0), .int (nI 0)])), (h24, .inl (K 1, 20, .inl (fun _ => nI 0))), ((u1 23), .inr (14, [.int (nI 0), .int (-1), .int (nI 0), .ref h18])), ((u1 24), .inr (14, [.int (nI 0), .int (-1), .int (nI 0), .ref h18])), ((u1 25), .inr (14, [.int (nI 0), .int (-1), .int (nI 0), .ref (u1 15)])), ((u1 15), .inr (13, [.int (nI 0), .ref (G 0), .int (nI 0)])), (h17, .inr (10, [.ref h18, .ref h19, .ref h22, .ref h23, .ref h24, .int (nI 0), .int (nI 0), .int (nI 60), .int (nI 0), .int (nI 2), .int (nI 0), .int (nI 0), .int (nI 1), .int (nI 0), .int (nI 0), .int (nI 0), .int (nI 0)])), ((u1 26), .inr (14, [.int (nI 0), .int (-1), .int (nI 0), .ref h18])), (h18, .inr (13, [.int (nI 0), .ref (G 0), .int (nI 0)]))]) (fun _ => rfl) (fun u1 H locs hP hD hS => ?_)
  refine lv_icmp_eq (tgt := 1762) hx hb dL_law_919 (by decide) (fun _ => ?_) (fun c9 => absurd (by decide +kernel) c9)
  refine lv_iinc (v := nI 4) (lv' := [(4, .int (nI 4)), (0, .ref b), (1, .ref h0), (2, .ref h16), (3, .ref a7)]) hx hb dL_law_1762 hl (k := 4) rfl (by decide +kernel) (by decide) rfl (fun ls hl => ?_)
  refine lv_goto (tgt := 23) hx hb dL_law_1765 (by decide) ?_
  refine lv_iload hx hb dL_law_23 (lv_at hl 0 rfl) ?_
  refine lv_aload_n hx hb dL_law_25 rfl (lv_at hl 1 rfl) ?_
  refine va_slen hx hb hX hbl hbA hS dL_law_26 ?_
  refine w_toeq (show Int32.ofNat 4 = nI 4 from rfl) ?_
  refine lv_iconst (v := nI 4) hx hb dL_law_27 (by decide +kernel) ?_
  refine lv_isub hx hb dL_law_28 ?_
  refine w_toeq (show (nI 4) - (nI 4) = nI 0 by decide +kernel) ?_
  refine lv_icmp_gt (tgt := 1768) hx hb dL_law_29 (by decide) (fun _ => ?_) (fun c9 => absurd (by decide +kernel) c9)
  refine lv_iconst (v := nI 1) hx hb dL_law_1768 (by decide +kernel) ?_
  exact law_end hx hb hr hlk hS (by dsimp only; omega) (by dsimp only; omega) dL_law_1769
set_option maxHeartbeats 4000000 in
set_option maxRecDepth 100000 in
theorem LW170_full {p : Program} {e : Env} {s : State} {m : MethodId} {below : List Frame} {meth : Method} {c : Code} {l : Launch} {G : Nat → Nat} {D : va_G} {K : Nat → ClassId} {b : Nat} {xs : Nat → Int32} (hx : p.tables.exec = Jvm.exec) (hb : c.code = cL_law) (hr : meth.sig.returnType = some .boolean) (hlk : meth.locks = false) (hl0 : l.stackTraces = false) (hnc : Ncs s) (hml : c.maxLocals = 9) (hown : s.vm.findClass RL = some m.cls) (hts : ∀ w ∈ lw_gw, w.before #[Value.ref b] s = true) (hK : va_K D cl (tys K) s) (hm : Amb G (fun q : Nat => s.heap.size ≤ q) s s.heap) (hX : va_X b 4 xs s s.heap) (hbl : b < s.heap.size) {h0 h1 h2 h3 h4 h5 h6 h7 h8 h9 h10 h11 h12 h13 h14 h15 h16 h17 h18 h19 h20 h21 h22 h23 h24 a0 a1 a2 a3 a4 a5 a6 a7 : Nat} (ya : Nat) (lya : 1 ≤ ya) (gya : ya ≤ 2147483647) (hx1 : xs 1 = nI ya) {H : Heap} {locs : List Loc} {cells slots : Nat} (hcs : cells ≤ 1000) (hss : slots ≤ 100000) (hP : va_P D cl [(h0, .inr (9, [.ref h4, .ref h5, .ref h9, .ref h15, .ref h14, .ref h2, .ref a0, .ref h1, .int (nI 0)])), (h1, .inr (0, [.ref h4, .ref h5, .ref h9, .ref h15, .ref h14, .ref h2])), (h2, .inr (8, [.ref h4, .ref h5, .ref h3, .int (nI 0), .int (nI 0), .null])), (h3, .inr (5, [.ref a1, .int (nI 0)])), (h4, .inr (5, [.ref a2, .int (nI 0)])), (h5, .inr (4, [.ref h6, .ref h7, .ref h8, .int (nI 1)])), (h6, .inr (5, [.ref a3, .int (nI 0)])), (h7, .inl (K 0, 32, .inr (.inr (.inr (.inr (fun _ => none)))))), (h8, .inl (K 0, 4, .inr (.inr (.inr (.inr (fun _ => none)))))), (h9, .inr (3, [.ref h10, .ref h11, .ref h12, .int (nI 0), .int (nI 0), .int (nI 100), .int (nI 60), .ref h13])), (h10, .inr (5, [.ref a4, .int (nI 0)])), (h11, .inr (5, [.ref a5, .int (nI 0)])), (h12, .inr (5, [.ref a6, .int (nI 0)])), (h13, .inl (K 1, 20, .inl (fun _ => nI 0))), (h14, .inr (1, [.ref h4, .ref h5, .int (nI 0)])), (h15, .inr (6, [.int (nI 0), .int (nI 0), .int (nI 0), .int (nI 0)])), (h16, .inr (12, [.int (nI 0), .ref h17])), (h17, .inr (10, [.ref h18, .ref h19, .ref h22, .ref h23, .ref h24, .int (nI 0), .int (nI 0), .int (nI 60), .int (nI 0), .int (nI 2), .int (nI 0), .int (nI 0), .int (nI 0), .int (nI 0), .int (nI 0), .int (nI 0), .int (nI 0)])), (h18, .inr (13, [.int (nI 0), .ref (G 0), .int (nI 0)])), (h19, .inr (13, [.int (nI 1), .ref h20, .int (nI 1)])), (h20, .inl (K 4, 10, .inr (.inr (.inr (.inr (va_up (fun _ => none) 0 (some h21))))))), (h21, .inl (K 2, 4, .inl (fun _ => (-1)))), (h22, .inl (K 2, 4, .inl (fun _ => (-1)))), (h23, .inr (13, [.int (nI 0), .ref (G 0), .int (nI 0)])), (h24, .inl (K 1, 20, .inl (fun _ => nI 0)))] H) (hD : va_D (fun q : Nat => s.heap.size ≤ q) [(h0, .inr (9, [.ref h4, .ref h5, .ref h9, .ref h15, .ref h14, .ref h2, .ref a0, .ref h1, .int (nI 0)])), (h1, .inr (0, [.ref h4, .ref h5, .ref h9, .ref h15, .ref h14, .ref h2])), (h2, .inr (8, [.ref h4, .ref h5, .ref h3, .int (nI 0), .int (nI 0), .null])), (h3, .inr (5, [.ref a1, .int (nI 0)])), (h4, .inr (5, [.ref a2, .int (nI 0)])), (h5, .inr (4, [.ref h6, .ref h7, .ref h8, .int (nI 1)])), (h6, .inr (5, [.ref a3, .int (nI 0)])), (h7, .inl (K 0, 32, .inr (.inr (.inr (.inr (fun _ => none)))))), (h8, .inl (K 0, 4, .inr (.inr (.inr (.inr (fun _ => none)))))), (h9, .inr (3, [.ref h10, .ref h11, .ref h12, .int (nI 0), .int (nI 0), .int (nI 100), .int (nI 60), .ref h13])), (h10, .inr (5, [.ref a4, .int (nI 0)])), (h11, .inr (5, [.ref a5, .int (nI 0)])), (h12, .inr (5, [.ref a6, .int (nI 0)])), (h13, .inl (K 1, 20, .inl (fun _ => nI 0))), (h14, .inr (1, [.ref h4, .ref h5, .int (nI 0)])), (h15, .inr (6, [.int (nI 0), .int (nI 0), .int (nI 0), .int (nI 0)])), (h16, .inr (12, [.int (nI 0), .ref h17])), (h17, .inr (10, [.ref h18, .ref h19, .ref h22, .ref h23, .ref h24, .int (nI 0), .int (nI 0), .int (nI 60), .int (nI 0), .int (nI 2), .int (nI 0), .int (nI 0), .int (nI 0), .int (nI 0), .int (nI 0), .int (nI 0), .int (nI 0)])), (h18, .inr (13, [.int (nI 0), .ref (G 0), .int (nI 0)])), (h19, .inr (13, [.int (nI 1), .ref h20, .int (nI 1)])), (h20, .inl (K 4, 10, .inr (.inr (.inr (.inr (va_up (fun _ => none) 0 (some h21))))))), (h21, .inl (K 2, 4, .inl (fun _ => (-1)))), (h22, .inl (K 2, 4, .inl (fun _ => (-1)))), (h23, .inr (13, [.int (nI 0), .ref (G 0), .int (nI 0)])), (h24, .inl (K 1, 20, .inl (fun _ => nI 0)))]) (hS : va_S (fun q : Nat => s.heap.size ≤ q) s.heap H locs) {ls : Array Slot} (hl : lv_has ls 9 [(0, .ref b), (1, .ref h0), (2, .ref h16), (3, .ref a7), (4, .int (nI 0))]) : W p l e room_1 s m #[Value.ref b] below meth c H locs cells slots (lw_Z below #[Value.ref b] s) (F0 m 883 ls []) := by
  have hA : ∀ q : Nat, s.heap.size ≤ q → (fun q : Nat => s.heap.size ≤ q) q := fun _ h => h
  have hbA : ¬ (fun q : Nat => s.heap.size ≤ q) b := Nat.not_le.mpr hbl
  refine lv_aload_n hx hb dL_law_883 rfl (lv_at hl 1 rfl) ?_
  refine lv_aload_n hx hb dL_law_884 rfl (lv_at hl 0 rfl) ?_
  refine lv_iload hx hb dL_law_885 (lv_at hl 4 rfl) ?_
  refine lv_iconst (v := nI 1) hx hb dL_law_887 (by decide +kernel) ?_
  refine lv_iadd hx hb dL_law_888 ?_
  refine w_toeq (show (nI 0) + (nI 1) = nI 1 by decide +kernel) ?_
  refine va_sld hx hb hX hbl hbA hS (vp_in_nI (n := 1) (by decide) (by decide)) dL_law_889 ?_
  refine w_toeq (show xs (nI 1).toNatClampNeg = nI ya by rw [nI_clamp (n := 1) (by decide)]; exact hx1) ?_
  refine lv_if_eq (tgt := 897) hx hb dL_law_890 (by decide) (fun c9 => absurd c9 (fun h9 => absurd ((nI_eq (a := ya) (b := 0) (by omega) (by omega)).mp h9) (by omega))) (fun _ => ?_)
  refine lv_iconst (v := nI 1) hx hb dL_law_893 (by decide +kernel) ?_
  refine lv_goto (tgt := 898) hx hb dL_law_894 (by decide) ?_
  refine k_i (wr := [(h16, .inr (12, [.int (nI 0), .ref h17])), (h17, .inr (10, [.ref h18, .ref h19, .ref h22, .ref h23, .ref h24, .int (nI 0), .int (nI 0), .int (nI 60), .int (nI 0), .int (nI 2), .int (nI 0), .int (nI 0), .int (nI 0), .int (nI 0), .int (nI 0), .int (nI 0), .int (nI 0)])), (h18, .inr (13, [.int (nI 0), .ref (G 0), .int (nI 0)])), (h19, .inr (13, [.int (nI 1), .ref h20, .int (nI 1)])), (h20, .inl (K 4, 10, .inr (.inr (.inr (.inr (va_up (fun _ => none) 0 (some h21))))))), (h21, .inl (K 2, 4, .inl (fun _ => (-1)))), (h22, .inl (K 2, 4, .inl (fun _ => (-1)))), (h23, .inr (13, [.int (nI 0), .ref (G 0), .int (nI 0)])), (h24, .inl (K 1, 20, .inl (fun _ => nI 0)))]) (run_V (rest := []) hx hb hml hown hts hK hP hD hS hA hm (C814_full l G D K H.size h0 h1 h2 h3 h4 h5 h6 h7 h8 h9 h10 h11 h12 h13 h14 h15 (.ref h4) (.ref h5) (.ref h9) (.ref h15) (.ref h14) (.ref h2) (.ref a0) (.int (nI 0)) (.ref h5) (.int (nI 0)) (.null) (.ref a1) (.ref a2) (.ref a3) (.int (nI 0)) (.int (nI 0)) (.ref a4) (.ref a5) (.ref a6) (.ref h4) (.ref h5) (.int (nI 0)) (.int (nI 0)) (.int (nI 0))) [0, 1, 2, 3, 4, 5, 6, 7, 8, 9, 10, 11, 12, 13, 14, 15] rfl rfl mok_yX9_full w_536 w_537 w_538 (rcv hK hP 0 rfl rfl rfl) ⟨Nat.le_of_ble_eq_true rfl, Nat.le_of_ble_eq_true rfl⟩ rfl hl.1 rfl (Nat.le_of_ble_eq_true rfl) dL_law_898 ⟨(by dsimp only [room_1]; omega), (by dsimp only [room_1]; omega)⟩) hP hD hS hA [0, 1, 2, 3, 4, 5, 6, 7, 8, 9, 10, 11, 12, 13, 14, 15] [16, 17, 18, 19, 20, 21, 22, 23, 24] rfl rfl rfl (by decide) (w2 := fun u0 => [(h16, .inr (12, [.int (nI 0), .ref h17])), (h17, .inr (10, [.ref h18, .ref h19, .ref h22, .ref h23, .ref h24, .int (nI 0), .int (nI 0), .int (nI 60), .int (nI 0), .int (nI 2), .int (nI 0), .int (nI 0), .int (nI 0), .int (nI 0), .int (nI 0), .int (nI 0), .int (nI 0)])), (h18, .inr (13, [.int (nI 0), .ref (G 0), .int (nI 0)])), (h19, .inr (13, [.int (nI 1), .ref h20, .int (nI 1)])), (h20, .inl (K 4, 10, .inr (.inr (.inr (.inr (va_up (fun _ => none) 0 (some h21))))))), (h21, .inl (K 2, 4, .inl (fun _ => (-1)))), (h22, .inl (K 2, 4, .inl (fun _ => (-1)))), (h23, .inr (13, [.int (nI 0), .ref (G 0), .int (nI 0)])), (h24, .inl (K 1, 20, .inl (fun _ => nI 0))), (h0, .inr (9, [.ref h4, .ref h5, .ref h9, .ref h15, .ref h14, .ref h2, .ref a0, .ref h1, .int (nI 0)])), (h7, .inl (K 0, 32, .inr (.inr (.inr (.inr (fun _ => none)))))), (h8, .inl (K 0, 4, .inr (.inr (.inr (.inr (fun _ => none)))))), (h5, .inr (4, [.ref h6, .ref h7, .ref h8, .int (nI 1)])), (h6, .inr (5, [.ref a3, .int (nI 0)])), (h2, .inr (8, [.ref h4, .ref h5, .ref h3, .int (nI 0), .int (nI 1), .null])), (h3, .inr (5, [.ref a1, .int (nI 0)])), (h1, .inr (0, [.ref h4, .ref h5, .ref h9, .ref h15, .ref h14, .ref h2])), (h4, .inr (5, [.ref a2, .int (nI 0)])), (h13, .inl (K 1, 20, .inl (fun _ => nI 0))), (h14, .inr (1, [.ref h4, .ref h5, .int (nI 0)])), (h9, .inr (3, [.ref h10, .ref h11, .ref h12, .int (nI 0), .int (nI 0), .int (nI 100), .int (nI 60), .ref h13])), (h10, .inr (5, [.ref a4, .int (nI 0)])), (h11, .inr (5, [.ref a5, .int (nI 0)])), (h12, .inr (5, [.ref a6, .int (nI 0)])), (h15, .inr (6, [.int (nI 0), .int (nI 1), .int (nI 0), .int (nI 0)]))]) (fun _ => rfl) (fun u0 H locs hP hD hS => ?_)
  refine lv_aload_n hx hb dL_law_901 rfl (lv_at hl 2 rfl) ?_
  refine lv_aload_n hx hb dL_law_902 rfl (lv_at hl 0 rfl) ?_
  refine lv_iload hx hb dL_law_903 (lv_at hl 4 rfl) ?_
  refine lv_iconst (v := nI 1) hx hb dL_law_905 (by decide +kernel) ?_
  refine lv_iadd hx hb dL_law_906 ?_
  refine w_toeq (show (nI 0) + (nI 1) = nI 1 by decide +kernel) ?_
  refine va_sld hx hb hX hbl hbA hS (vp_in_nI (n := 1) (by decide) (by decide)) dL_law_907 ?_
  refine w_toeq (show xs (nI 1).toNatClampNeg = nI ya by rw [nI_clamp (n := 1) (by decide)]; exact hx1) ?_
  refine lv_if_eq (tgt := 915) hx hb dL_law_908 (by decide) (fun c9 => absurd c9 (fun h9 => absurd ((nI_eq (a := ya) (b := 0) (by omega) (by omega)).mp h9) (by omega))) (fun _ => ?_)
  refine lv_iconst (v := nI 1) hx hb dL_law_911 (by decide +kernel) ?_
  refine lv_goto (tgt := 916) hx hb dL_law_912 (by decide) ?_
  refine k_i (wr := [(h0, .inr (9, [.ref h4, .ref h5, .ref h9, .ref h15, .ref h14, .ref h2, .ref a0, .ref h1, .int (nI 0)])), (h7, .inl (K 0, 32, .inr (.inr (.inr (.inr (fun _ => none)))))), (h8, .inl (K 0, 4, .inr (.inr (.inr (.inr (fun _ => none)))))), (h5, .inr (4, [.ref h6, .ref h7, .ref h8, .int (nI 1)])), (h6, .inr (5, [.ref a3, .int (nI 0)])), (h2, .inr (8, [.ref h4, .ref h5, .ref h3, .int (nI 0), .int (nI 1), .null])), (h3, .inr (5, [.ref a1, .int (nI 0)])), (h1, .inr (0, [.ref h4, .ref h5, .ref h9, .ref h15, .ref h14, .ref h2])), (h4, .inr (5, [.ref a2, .int (nI 0)])), (h13, .inl (K 1, 20, .inl (fun _ => nI 0))), (h14, .inr (1, [.ref h4, .ref h5, .int (nI 0)])), (h9, .inr (3, [.ref h10, .ref h11, .ref h12, .int (nI 0), .int (nI 0), .int (nI 100), .int (nI 60), .ref h13])), (h10, .inr (5, [.ref a4, .int (nI 0)])), (h11, .inr (5, [.ref a5, .int (nI 0)])), (h12, .inr (5, [.ref a6, .int (nI 0)])), (h15, .inr (6, [.int (nI 0), .int (nI 1), .int (nI 0), .int (nI 0)]))]) (run_V (rest := [.int (nI 0)]) hx hb hml hown hts hK hP hD hS hA hm (C820_full l G D K H.size h16 h17 h18 h19 h20 h21 h22 h23 h24 (.int (nI 0)) (.int (nI 0)) (.int (nI 0)) (.int (nI 2)) (.int (nI 0)) (.int (nI 0)) (.int (nI 0)) (.int (nI 0)) (.int (nI 0)) (.ref (G 0))) [0, 1, 2, 3, 4, 5, 6, 7, 8] rfl rfl mok_yX12_full w_1956 w_1957 w_1958 (rcv hK hP 0 rfl rfl rfl) ⟨Nat.le_of_ble_eq_true rfl, Nat.le_of_ble_eq_true rfl⟩ rfl hl.1 rfl (Nat.le_of_ble_eq_true rfl) dL_law_916 ⟨(by dsimp only [room_1]; omega), (by dsimp only [room_1]; omega)⟩) hP hD hS hA [0, 1, 2, 3, 4, 5, 6, 7, 8] [9, 10, 11, 12, 13, 14, 15, 16, 17, 18, 19, 20, 21, 22, 23, 24] rfl rfl rfl (by decide) (w2 := fun u1 => [(h0, .inr (9, [.ref h4, .ref h5, .ref h9, .ref h15, .ref h14, .ref h2, .ref a0, .ref h1, .int (nI 0)])), (h7, .inl (K 0, 32, .inr (.inr (.inr (.inr (fun _ => none)))))), (h8, .inl (K 0, 4, .inr (.inr (.inr (.inr (fun _ => none)))))), (h5, .inr (4, [.ref h6, .ref h7, .ref h8, .int (nI 1)])), (h6, .inr (5, [.ref a3, .int (nI 0)])), (h2, .inr (8, [.ref h4, .ref h5, .ref h3, .int (nI 0), .int (nI 1), .null])), (h3, .inr (5, [.ref a1, .int (nI 0)])), (h1, .inr (0, [.ref h4, .ref h5, .ref h9, .ref h15, .ref h14, .ref h2])), (h4, .inr (5, [.ref a2, .int (nI 0)])), (h13, .inl (K 1, 20, .inl (fun _ => nI 0))), (h14, .inr (1, [.ref h4, .ref h5, .int (nI 0)])), (h9, .inr (3, [.ref h10, .ref h11, .ref h12, .int (nI 0), .int (nI 0), .int (nI 100), .int (nI 60), .ref h13])), (h10, .inr (5, [.ref a4, .int (nI 0)])), (h11, .inr (5, [.ref a5, .int (nI 0)])), (h12, .inr (5, [.ref a6, .int (nI 0)])), (h15, .inr (6, [.int (nI 0), .int (nI 1), .int (nI 0), .int (nI 0)])), (h16, .inr (12, [.int (nI 0), .ref h17])), ((u1 0), .inl (K 1, 0, .inl (fun _ => nI 0))), (h21, .inl (K 2, 4, .inl (fun _ => (-1)))), (h22, .inl (K 2, 4, .inl (fun _ => (-1)))), (h20, .inl (K 4, 10, .inr (.inr (.inr (.inr (va_up (fun _ => none) 0 (some h21))))))), ((u1 2), .inr (14, [.int (nI 1), .int (nI 0), .int (nI 1), .ref h19])), (h19, .inr (13, [.int (nI 1), .ref h20, .int (nI 1)])), ((u1 4), .inl (K 4, 0, .inr (.inr (.inr (.inr (fun _ => none)))))), ((u1 3), .inl (K 4, 10, .inr (.inr (.inr (.inr (va_up (va_up (va_up (va_up (va_up (va_up (va_up (va_up (fun _ => none) 0 (some (G (3 + 127)))) 1 (some (G (3 + 127)))) 2 (some (G (3 + 127)))) 3 (some (G (3 + 127)))) 4 (some (G (3 + 127)))) 5 (some (G (3 + 127)))) 6 (some (G (3 + 127)))) 7 (some (G (3 + 127))))))))), ((u1 5), .inr (14, [.int (nI 8), .int (nI 7), .int (nI 9), .ref (u1 1)])), ((u1 1), .inr (13, [.int (nI 9), .ref (u1 3), .int (nI 8)])), ((u1 6), .inr (14, [.int (nI 0), .int (-1), .int (nI 0), .ref h18])), ((u1 7), .inr (14, [.int (nI 0), .int (-1), .int (nI 0), .ref h18])), ((u1 8), .inr (14, [.int (nI 0), .int (-1), .int (nI 0), .ref h18])), ((u1 9), .inr (14, [.int (nI 0), .int (-1), .int (nI 0), .ref h18])), ((u1 10), .inr (14, [.int (nI 0), .int (-1), .int (nI 0), .ref h18])), ((u1 11), .inr (14, [.int (nI 0), .int (-1), .int (nI 0), .ref h23])), (h23, .inr (13, [.int (nI 0), .ref (G 0), .int (nI 0)])), ((u1 12), .inr (14, [.int (nI 0), .int (-1), .int (nI 0), .ref h18])), ((u1 13), .inr (14, [.int (nI 0), .int (-1), .int (nI 0), .ref h18])), ((u1 14), .inr (14, [.int (nI 0), .int (-1), .int (nI 0), .ref h18])), ((u1 17), .inr (14, [.int (nI 0), .int (-1), .int (nI 0), .ref h18])), ((u1 18), .inr (14, [.int (nI 0), .int (-1), .int (nI 0), .ref (u1 16)])), ((u1 16), .inr (13, [.int (nI 0), .ref (G 0), .int (nI 0)])), ((u1 20), .inr (14, [.int (nI 0), .int (-1), .int (nI 0), .ref h18])), ((u1 21), .inr (14, [.int (nI 0), .int (-1), .int (nI 0), .ref (u1 19)])), ((u1 22), .inr (14, [.int (nI 0), .int (-1), .int (nI 0), .ref (u1 19)])), ((u1 19), .inr (13, [.int (nI 0), .ref (G 0), .int (nI 0)])), (h24, .inl (K 1, 20, .inl (fun _ => nI 0))), ((u1 23), .inr (14, [.int (nI 0), .int (-1), .int (nI 0), .ref h18])), ((u1 24), .inr (14, [.int (nI 0), .int (-1), .int (nI 0), .ref h18])), ((u1 25), .inr (14, [.int (nI 0), .int (-1), .int (nI 0), .ref (u1 15)])), ((u1 15), .inr (13, [.int (nI 0), .ref (G 0), .int (nI 0)])), (h17, .inr (10, [.ref h18, .ref h19, .ref h22, .ref h23, .ref h24, .int (nI 0), .int (nI 0), .int (nI 60), .int (nI 0), .int (nI 2), .int (nI 0), .int (nI 0), .int (nI 1), .int (nI 0), .int (nI 0), .int (nI 0), .int (nI 0)])), ((u1 26), .inr (14, [.int (nI 0), .int (-1), .int (nI 0), .ref h18])), (h18, .inr (13, [.int (nI 0), .ref (G 0), .int (nI 0)]))]) (fun _ => rfl) (fun u1 H locs hP hD hS => ?_)
  refine lv_icmp_eq (tgt := 1762) hx hb dL_law_919 (by decide) (fun _ => ?_) (fun c9 => absurd (by decide +kernel) c9)
  refine lv_iinc (v := nI 4) (lv' := [(4, .int (nI 4)), (0, .ref b), (1, .ref h0), (2, .ref h16), (3, .ref a7)]) hx hb dL_law_1762 hl (k := 4) rfl (by decide +kernel) (by decide) rfl (fun ls hl => ?_)
  refine lv_goto (tgt := 23) hx hb dL_law_1765 (by decide) ?_
  refine lv_iload hx hb dL_law_23 (lv_at hl 0 rfl) ?_
  refine lv_aload_n hx hb dL_law_25 rfl (lv_at hl 1 rfl) ?_
  refine va_slen hx hb hX hbl hbA hS dL_law_26 ?_
  refine w_toeq (show Int32.ofNat 4 = nI 4 from rfl) ?_
  refine lv_iconst (v := nI 4) hx hb dL_law_27 (by decide +kernel) ?_
  refine lv_isub hx hb dL_law_28 ?_
  refine w_toeq (show (nI 4) - (nI 4) = nI 0 by decide +kernel) ?_
  refine lv_icmp_gt (tgt := 1768) hx hb dL_law_29 (by decide) (fun _ => ?_) (fun c9 => absurd (by decide +kernel) c9)
  refine lv_iconst (v := nI 1) hx hb dL_law_1768 (by decide +kernel) ?_
  exact law_end hx hb hr hlk hS (by dsimp only; omega) (by dsimp only; omega) dL_law_1769
set_option maxHeartbeats 4000000 in
set_option maxRecDepth 100000 in
theorem LW171_start {p : Program} {e : Env} {s : State} {m : MethodId} {below : List Frame} {meth : Method} {c : Code} {l : Launch} {G : Nat → Nat} {D : va_G} {K : Nat → ClassId} {b : Nat} {xs : Nat → Int32} (hx : p.tables.exec = Jvm.exec) (hb : c.code = cL_law) (hr : meth.sig.returnType = some .boolean) (hlk : meth.locks = false) (hl0 : l.stackTraces = false) (hnc : Ncs s) (hml : c.maxLocals = 9) (hown : s.vm.findClass RL = some m.cls) (hts : ∀ w ∈ lw_gw, w.before #[Value.ref b] s = true) (hK : va_K D cl (tys K) s) (hm : Amb G (fun q : Nat => s.heap.size ≤ q) s s.heap) (hX : va_X b 4 xs s s.heap) (hbl : b < s.heap.size) {h0 h1 h2 h3 h4 h5 h6 h7 h8 h9 h10 h11 h12 h13 h14 h15 a0 a1 a2 a3 a4 a5 a6 a7 : Nat}  {H : Heap} {locs : List Loc} {cells slots : Nat} (hcs : cells ≤ 1000) (hss : slots ≤ 100000) (hP : va_P D cl [(h0, .inr (9, [.ref h2, .ref h3, .ref a0, .ref a1, .ref h1, .ref a2, .ref a3, .ref a4, .int (nI 0)])), (h1, .inr (1, [.ref h2, .ref h3, .int (nI 0)])), (h2, .inr (5, [.ref a5, .int (nI 0)])), (h3, .inr (4, [.ref h4, .ref h5, .ref h6, .int (nI 1)])), (h4, .inr (5, [.ref a6, .int (nI 0)])), (h5, .inl (K 0, 32, .inr (.inr (.inr (.inr (fun _ => none)))))), (h6, .inl (K 0, 4, .inr (.inr (.inr (.inr (fun _ => none)))))), (h7, .inl (K 3, 1, .inr (.inl (fun _ => 0)))), (h8, .inr (12, [.int (nI 0), .ref h9])), (h9, .inr (10, [.ref h10, .ref h11, .ref h14, .ref h15, .ref a7, .int (nI 0), .int (nI 0), .int (nI 60), .int (nI 0), .int (nI 2), .int (nI 0), .int (nI 0), .int (nI 0), .int (nI 0), .int (nI 0), .int (nI 0), .int (nI 0)])), (h10, .inr (13, [.int (nI 0), .ref (G 0), .int (nI 0)])), (h11, .inr (13, [.int (nI 1), .ref h12, .int (nI 1)])), (h12, .inl (K 4, 10, .inr (.inr (.inr (.inr (va_up (fun _ => none) 0 (some h13))))))), (h13, .inl (K 2, 4, .inl (fun _ => (-1)))), (h14, .inl (K 2, 4, .inl (fun _ => (-1)))), (h15, .inr (13, [.int (nI 0), .ref (G 0), .int (nI 0)]))] H) (hD : va_D (fun q : Nat => s.heap.size ≤ q) [(h0, .inr (9, [.ref h2, .ref h3, .ref a0, .ref a1, .ref h1, .ref a2, .ref a3, .ref a4, .int (nI 0)])), (h1, .inr (1, [.ref h2, .ref h3, .int (nI 0)])), (h2, .inr (5, [.ref a5, .int (nI 0)])), (h3, .inr (4, [.ref h4, .ref h5, .ref h6, .int (nI 1)])), (h4, .inr (5, [.ref a6, .int (nI 0)])), (h5, .inl (K 0, 32, .inr (.inr (.inr (.inr (fun _ => none)))))), (h6, .inl (K 0, 4, .inr (.inr (.inr (.inr (fun _ => none)))))), (h7, .inl (K 3, 1, .inr (.inl (fun _ => 0)))), (h8, .inr (12, [.int (nI 0), .ref h9])), (h9, .inr (10, [.ref h10, .ref h11, .ref h14, .ref h15, .ref a7, .int (nI 0), .int (nI 0), .int (nI 60), .int (nI 0), .int (nI 2), .int (nI 0), .int (nI 0), .int (nI 0), .int (nI 0), .int (nI 0), .int (nI 0), .int (nI 0)])), (h10, .inr (13, [.int (nI 0), .ref (G 0), .int (nI 0)])), (h11, .inr (13, [.int (nI 1), .ref h12, .int (nI 1)])), (h12, .inl (K 4, 10, .inr (.inr (.inr (.inr (va_up (fun _ => none) 0 (some h13))))))), (h13, .inl (K 2, 4, .inl (fun _ => (-1)))), (h14, .inl (K 2, 4, .inl (fun _ => (-1)))), (h15, .inr (13, [.int (nI 0), .ref (G 0), .int (nI 0)]))]) (hS : va_S (fun q : Nat => s.heap.size ≤ q) s.heap H locs) {ls : Array Slot} (hl : lv_has ls 9 [(0, .ref b), (1, .ref h0), (2, .ref h8), (3, .ref h7), (4, .int (nI 0))]) : W p l e room_1 s m #[Value.ref b] below meth c H locs cells slots (lw_Z below #[Value.ref b] s) (F0 m 924 ls []) := by
  have hA : ∀ q : Nat, s.heap.size ≤ q → (fun q : Nat => s.heap.size ≤ q) q := fun _ h => h
  have hbA : ¬ (fun q : Nat => s.heap.size ≤ q) b := Nat.not_le.mpr hbl
  refine lv_aload_n hx hb dL_law_924 rfl (lv_at hl 1 rfl) ?_
  refine lv_aload_n hx hb dL_law_925 rfl (lv_at hl 3 rfl) ?_
  refine k_i (wr := [(h8, .inr (12, [.int (nI 0), .ref h9])), (h9, .inr (10, [.ref h10, .ref h11, .ref h14, .ref h15, .ref a7, .int (nI 0), .int (nI 0), .int (nI 60), .int (nI 0), .int (nI 2), .int (nI 0), .int (nI 0), .int (nI 0), .int (nI 0), .int (nI 0), .int (nI 0), .int (nI 0)])), (h10, .inr (13, [.int (nI 0), .ref (G 0), .int (nI 0)])), (h11, .inr (13, [.int (nI 1), .ref h12, .int (nI 1)])), (h12, .inl (K 4, 10, .inr (.inr (.inr (.inr (va_up (fun _ => none) 0 (some h13))))))), (h13, .inl (K 2, 4, .inl (fun _ => (-1)))), (h14, .inl (K 2, 4, .inl (fun _ => (-1)))), (h15, .inr (13, [.int (nI 0), .ref (G 0), .int (nI 0)]))]) (run_SW hnc (rest := []) hx hb hml hown hts hK hP hD hS hA hm (C1226_start l G D K H.size h0 h1 h2 h3 h4 h5 h6 h7 (.ref h2) (.ref h3) (.ref a0) (.ref a1) (.ref a2) (.ref a3) (.ref a4) (.int (nI 0)) (.ref a5) (.ref a6) (fun _ => 0)) [0, 1, 2, 3, 4, 5, 6, 7] rfl rfl mokh_yL_start w_1013 w_1014 ⟨Nat.le_of_ble_eq_true rfl, Nat.le_of_ble_eq_true rfl⟩ rfl hl.1 rfl (Nat.le_of_ble_eq_true rfl) dL_law_926 ⟨(by dsimp only [room_1]; omega), (by dsimp only [room_1]; omega)⟩) hP hD hS hA [0, 1, 2, 3, 4, 5, 6, 7] [8, 9, 10, 11, 12, 13, 14, 15] rfl rfl rfl (by decide) (w2 := fun u0 => [(h8, .inr (12, [.int (nI 0), .ref h9])), (h9, .inr (10, [.ref h10, .ref h11, .ref h14, .ref h15, .ref a7, .int (nI 0), .int (nI 0), .int (nI 60), .int (nI 0), .int (nI 2), .int (nI 0), .int (nI 0), .int (nI 0), .int (nI 0), .int (nI 0), .int (nI 0), .int (nI 0)])), (h10, .inr (13, [.int (nI 0), .ref (G 0), .int (nI 0)])), (h11, .inr (13, [.int (nI 1), .ref h12, .int (nI 1)])), (h12, .inl (K 4, 10, .inr (.inr (.inr (.inr (va_up (fun _ => none) 0 (some h13))))))), (h13, .inl (K 2, 4, .inl (fun _ => (-1)))), (h14, .inl (K 2, 4, .inl (fun _ => (-1)))), (h15, .inr (13, [.int (nI 0), .ref (G 0), .int (nI 0)])), (h7, .inl (K 3, 1, .inr (.inl (vp_updL (fun _ => 0) 0 0)))), (h0, .inr (9, [.ref h2, .ref h3, .ref a0, .ref a1, .ref h1, .ref a2, .ref a3, .ref a4, .int (nI 0)])), (h5, .inl (K 0, 32, .inr (.inr (.inr (.inr (fun _ => none)))))), (h6, .inl (K 0, 4, .inr (.inr (.inr (.inr (fun _ => none)))))), (h3, .inr (4, [.ref h4, .ref h5, .ref h6, .int (nI 1)])), (h4, .inr (5, [.ref a6, .int (nI 0)])), (h1, .inr (1, [.ref h2, .ref h3, .int (nI 1)])), (h2, .inr (5, [.ref a5, .int (nI 0)]))]) (fun _ => rfl) (fun u0 H locs hP hD hS => ?_)
  refine lv_istore (lv' := [(5, .int (nI 0)), (0, .ref b), (1, .ref h0), (2, .ref h8), (3, .ref h7), (4, .int (nI 0))]) hx hb dL_law_929 hl (by decide) rfl (fun ls hl => ?_)
  refine lv_aload_n hx hb dL_law_931 rfl (lv_at hl 3 rfl) ?_
  refine k_i (wr := [(h7, .inl (K 3, 1, .inr (.inl (vp_updL (fun _ => 0) 0 0)))), (h0, .inr (9, [.ref h2, .ref h3, .ref a0, .ref a1, .ref h1, .ref a2, .ref a3, .ref a4, .int (nI 0)])), (h5, .inl (K 0, 32, .inr (.inr (.inr (.inr (fun _ => none)))))), (h6, .inl (K 0, 4, .inr (.inr (.inr (.inr (fun _ => none)))))), (h3, .inr (4, [.ref h4, .ref h5, .ref h6, .int (nI 1)])), (h4, .inr (5, [.ref a6, .int (nI 0)])), (h1, .inr (1, [.ref h2, .ref h3, .int (nI 1)])), (h2, .inr (5, [.ref a5, .int (nI 0)]))]) (run_V (rest := []) hx hb hml hown hts hK hP hD hS hA hm (C831_start l G D K H.size h8 h9 h10 h11 h12 h13 h14 h15 (.ref a7) (.int (nI 0)) (.int (nI 0)) (.int (nI 60)) (.int (nI 0)) (.int (nI 2)) (.int (nI 0)) (.int (nI 0)) (.int (nI 0)) (.int (nI 0)) (.int (nI 0)) (.int (nI 0)) (.ref (G 0)) (.int (nI 0))) [0, 1, 2, 3, 4, 5, 6, 7] rfl rfl mok_yX12_start_ w_1961 w_1962 w_1963 (rcv hK hP 0 rfl rfl rfl) ⟨Nat.le_of_ble_eq_true rfl, Nat.le_of_ble_eq_true rfl⟩ rfl hl.1 rfl (Nat.le_of_ble_eq_true rfl) dL_law_932 ⟨(by dsimp only [room_1]; omega), (by dsimp only [room_1]; omega)⟩) hP hD hS hA [0, 1, 2, 3, 4, 5, 6, 7] [8, 9, 10, 11, 12, 13, 14, 15] rfl rfl rfl (by decide) (w2 := fun u1 => [(h7, .inl (K 3, 1, .inr (.inl (vp_updL (fun _ => 0) 0 0)))), (h0, .inr (9, [.ref h2, .ref h3, .ref a0, .ref a1, .ref h1, .ref a2, .ref a3, .ref a4, .int (nI 0)])), (h5, .inl (K 0, 32, .inr (.inr (.inr (.inr (fun _ => none)))))), (h6, .inl (K 0, 4, .inr (.inr (.inr (.inr (fun _ => none)))))), (h3, .inr (4, [.ref h4, .ref h5, .ref h6, .int (nI 1)])), (h4, .inr (5, [.ref a6, .int (nI 0)])), (h1, .inr (1, [.ref h2, .ref h3, .int (nI 1)])), (h2, .inr (5, [.ref a5, .int (nI 0)])), (h8, .inr (12, [.int (nI 0), .ref h9])), ((u1 0), .inr (14, [.int (nI 0), .int (-1), .int (nI 0), .ref h10])), (h13, .inl (K 2, 4, .inl (fun _ => (-1)))), (h14, .inl (K 2, 4, .inl (fun _ => (-1)))), (h12, .inl (K 4, 10, .inr (.inr (.inr (.inr (va_up (fun _ => none) 0 (some h13))))))), ((u1 2), .inr (14, [.int (nI 1), .int (nI 0), .int (nI 1), .ref h11])), (h11, .inr (13, [.int (nI 1), .ref h12, .int (nI 1)])), (h15, .inr (13, [.int (nI 0), .ref (G 0), .int (nI 0)])), ((u1 4), .inl (K 4, 0, .inr (.inr (.inr (.inr (fun _ => none)))))), ((u1 3), .inl (K 4, 10, .inr (.inr (.inr (.inr (va_up (va_up (va_up (va_up (va_up (va_up (va_up (va_up (fun _ => none) 0 (some (G (3 + 127)))) 1 (some (G (3 + 127)))) 2 (some (G (3 + 127)))) 3 (some (G (3 + 127)))) 4 (some (G (3 + 127)))) 5 (some (G (3 + 127)))) 6 (some (G (3 + 127)))) 7 (some (G (3 + 127))))))))), ((u1 5), .inr (14, [.int (nI 8), .int (nI 7), .int (nI 9), .ref (u1 1)])), ((u1 1), .inr (13, [.int (nI 9), .ref (u1 3), .int (nI 8)])), ((u1 6), .inr (14, [.int (nI 0), .int (-1), .int (nI 0), .ref h10])), (h9, .inr (10, [.ref h10, .ref h11, .ref h14, .ref h15, .ref a7, .int (nI 0), .int (nI 0), .int (nI 60), .int (nI 0), .int (nI 2), .int (nI 0), .int (nI 0), .int (nI 0), .int (nI 0), .int (nI 0), .int (nI 1), .int (nI 0)])), ((u1 7), .inr (14, [.int (nI 0), .int (-1), .int (nI 0), .ref h10])), (h10, .inr (13, [.int (nI 0), .ref (G 0), .int (nI 0)]))]) (fun _ => rfl) (fun u1 H locs hP hD hS => ?_)
  refine lv_istore (lv' := [(6, .int (nI 0)), (5, .int (nI 0)), (0, .ref b), (1, .ref h0), (2, .ref h8), (3, .ref h7), (4, .int (nI 0))]) hx hb dL_law_935 hl (by decide) rfl (fun ls hl => ?_)
  refine lv_aload_n hx hb dL_law_937 rfl (lv_at hl 4 rfl) ?_
  refine k_i (wr := [(h7, .inl (K 3, 1, .inr (.inl (vp_updL (fun _ => 0) 0 0)))), (h0, .inr (9, [.ref h2, .ref h3, .ref a0, .ref a1, .ref h1, .ref a2, .ref a3, .ref a4, .int (nI 0)])), (h5, .inl (K 0, 32, .inr (.inr (.inr (.inr (fun _ => none)))))), (h6, .inl (K 0, 4, .inr (.inr (.inr (.inr (fun _ => none)))))), (h3, .inr (4, [.ref h4, .ref h5, .ref h6, .int (nI 1)])), (h4, .inr (5, [.ref a6, .int (nI 0)])), (h1, .inr (1, [.ref h2, .ref h3, .int (nI 1)])), (h2, .inr (5, [.ref a5, .int (nI 0)])), ((u1 0), .inr (14, [.int (nI 0), .int (-1), .int (nI 0), .ref h10])), (h13, .inl (K 2, 4, .inl (fun _ => (-1)))), (h14, .inl (K 2, 4, .inl (fun _ => (-1)))), (h12, .inl (K 4, 10, .inr (.inr (.inr (.inr (va_up (fun _ => none) 0 (some h13))))))), ((u1 2), .inr (14, [.int (nI 1), .int (nI 0), .int (nI 1), .ref h11])), (h11, .inr (13, [.int (nI 1), .ref h12, .int (nI 1)])), (h15, .inr (13, [.int (nI 0), .ref (G 0), .int (nI 0)])), ((u1 4), .inl (K 4, 0, .inr (.inr (.inr (.inr (fun _ => none)))))), ((u1 3), .inl (K 4, 10, .inr (.inr (.inr (.inr (va_up (va_up (va_up (va_up (va_up (va_up (va_up (va_up (fun _ => none) 0 (some (G (3 + 127)))) 1 (some (G (3 + 127)))) 2 (some (G (3 + 127)))) 3 (some (G (3 + 127)))) 4 (some (G (3 + 127)))) 5 (some (G (3 + 127)))) 6 (some (G (3 + 127)))) 7 (some (G (3 + 127))))))))), ((u1 5), .inr (14, [.int (nI 8), .int (nI 7), .int (nI 9), .ref (u1 1)])), ((u1 1), .inr (13, [.int (nI 9), .ref (u1 3), .int (nI 8)])), ((u1 6), .inr (14, [.int (nI 0), .int (-1), .int (nI 0), .ref h10])), (h9, .inr (10, [.ref h10, .ref h11, .ref h14, .ref h15, .ref a7, .int (nI 0), .int (nI 0), .int (nI 60), .int (nI 0), .int (nI 2), .int (nI 0), .int (nI 0), .int (nI 0), .int (nI 0), .int (nI 0), .int (nI 1), .int (nI 0)])), ((u1 7), .inr (14, [.int (nI 0), .int (-1), .int (nI 0), .ref h10])), (h10, .inr (13, [.int (nI 0), .ref (G 0), .int (nI 0)]))]) (run_V (rest := []) hx hb hml hown hts hK hP hD hS hA hm (C1057_thrown l G D K H.size h8 (.ref h9)) [8] rfl rfl mok_yX12_thrown w_1300 w_1301 w_1302 (rcv hK hP 8 rfl rfl rfl) ⟨Nat.le_of_ble_eq_true rfl, Nat.le_of_ble_eq_true rfl⟩ rfl hl.1 rfl (Nat.le_of_ble_eq_true rfl) dL_law_938 ⟨(by dsimp only [room_1]; omega), (by dsimp only [room_1]; omega)⟩) hP hD hS hA [8] [0, 1, 2, 3, 4, 5, 6, 7, 9, 10, 11, 12, 13, 14, 15, 16, 17, 18, 19, 20, 21, 22, 23] rfl rfl rfl (by decide) (w2 := fun u2 => [(h7, .inl (K 3, 1, .inr (.inl (vp_updL (fun _ => 0) 0 0)))), (h0, .inr (9, [.ref h2, .ref h3, .ref a0, .ref a1, .ref h1, .ref a2, .ref a3, .ref a4, .int (nI 0)])), (h5, .inl (K 0, 32, .inr (.inr (.inr (.inr (fun _ => none)))))), (h6, .inl (K 0, 4, .inr (.inr (.inr (.inr (fun _ => none)))))), (h3, .inr (4, [.ref h4, .ref h5, .ref h6, .int (nI 1)])), (h4, .inr (5, [.ref a6, .int (nI 0)])), (h1, .inr (1, [.ref h2, .ref h3, .int (nI 1)])), (h2, .inr (5, [.ref a5, .int (nI 0)])), ((u1 0), .inr (14, [.int (nI 0), .int (-1), .int (nI 0), .ref h10])), (h13, .inl (K 2, 4, .inl (fun _ => (-1)))), (h14, .inl (K 2, 4, .inl (fun _ => (-1)))), (h12, .inl (K 4, 10, .inr (.inr (.inr (.inr (va_up (fun _ => none) 0 (some h13))))))), ((u1 2), .inr (14, [.int (nI 1), .int (nI 0), .int (nI 1), .ref h11])), (h11, .inr (13, [.int (nI 1), .ref h12, .int (nI 1)])), (h15, .inr (13, [.int (nI 0), .ref (G 0), .int (nI 0)])), ((u1 4), .inl (K 4, 0, .inr (.inr (.inr (.inr (fun _ => none)))))), ((u1 3), .inl (K 4, 10, .inr (.inr (.inr (.inr (va_up (va_up (va_up (va_up (va_up (va_up (va_up (va_up (fun _ => none) 0 (some (G (3 + 127)))) 1 (some (G (3 + 127)))) 2 (some (G (3 + 127)))) 3 (some (G (3 + 127)))) 4 (some (G (3 + 127)))) 5 (some (G (3 + 127)))) 6 (some (G (3 + 127)))) 7 (some (G (3 + 127))))))))), ((u1 5), .inr (14, [.int (nI 8), .int (nI 7), .int (nI 9), .ref (u1 1)])), ((u1 1), .inr (13, [.int (nI 9), .ref (u1 3), .int (nI 8)])), ((u1 6), .inr (14, [.int (nI 0), .int (-1), .int (nI 0), .ref h10])), (h9, .inr (10, [.ref h10, .ref h11, .ref h14, .ref h15, .ref a7, .int (nI 0), .int (nI 0), .int (nI 60), .int (nI 0), .int (nI 2), .int (nI 0), .int (nI 0), .int (nI 0), .int (nI 0), .int (nI 0), .int (nI 1), .int (nI 0)])), ((u1 7), .inr (14, [.int (nI 0), .int (-1), .int (nI 0), .ref h10])), (h10, .inr (13, [.int (nI 0), .ref (G 0), .int (nI 0)])), (h8, .inr (12, [.int (nI 0), .ref h9]))]) (fun _ => rfl) (fun u2 H locs hP hD hS => ?_)
  refine lv_iload hx hb dL_law_941 (lv_at hl 1 rfl) ?_
  refine lv_icmp_eq (tgt := 948) hx hb dL_law_943 (by decide) (fun _ => ?_) (fun c9 => absurd (by decide +kernel) c9)
  refine lv_iload hx hb dL_law_948 (lv_at hl 1 rfl) ?_
  refine lv_if_ne (tgt := 965) hx hb dL_law_950 (by decide) (fun c9 => absurd (by decide +kernel) c9) (fun _ => ?_)
  refine lv_aload_n hx hb dL_law_953 rfl (lv_at hl 5 rfl) ?_
  refine lv_iconst (v := nI 0) hx hb dL_law_954 (by decide +kernel) ?_
  refine r_lald (k := 0) hx hb hK hP 0 3 rfl rfl (Nat.le_of_ble_eq_true rfl) (by decide) (v := 0) rfl dL_law_955 ?_
  refine lv_iload hx hb dL_law_956 (lv_at hl 0 rfl) ?_
  refine lv_i2l (v := 0) hx hb dL_law_958 (by decide +kernel) ?_
  refine W.lcmp hx hb dL_law_959 ?_
  refine w_toeq (show lg_cmp 0 0 = nI 0 by decide +kernel) ?_
  refine lv_if_eq (tgt := 965) hx hb dL_law_960 (by decide) (fun _ => ?_) (fun c9 => absurd (by decide +kernel) c9)
  refine lv_goto (tgt := 1762) hx hb dL_law_965 (by decide) ?_
  refine lv_iinc (v := nI 4) (lv' := [(4, .int (nI 4)), (6, .int (nI 0)), (5, .int (nI 0)), (0, .ref b), (1, .ref h0), (2, .ref h8), (3, .ref h7)]) hx hb dL_law_1762 hl (k := 6) rfl (by decide +kernel) (by decide) rfl (fun ls hl => ?_)
  refine lv_goto (tgt := 23) hx hb dL_law_1765 (by decide) ?_
  refine lv_iload hx hb dL_law_23 (lv_at hl 0 rfl) ?_
  refine lv_aload_n hx hb dL_law_25 rfl (lv_at hl 3 rfl) ?_
  refine va_slen hx hb hX hbl hbA hS dL_law_26 ?_
  refine w_toeq (show Int32.ofNat 4 = nI 4 from rfl) ?_
  refine lv_iconst (v := nI 4) hx hb dL_law_27 (by decide +kernel) ?_
  refine lv_isub hx hb dL_law_28 ?_
  refine w_toeq (show (nI 4) - (nI 4) = nI 0 by decide +kernel) ?_
  refine lv_icmp_gt (tgt := 1768) hx hb dL_law_29 (by decide) (fun _ => ?_) (fun c9 => absurd (by decide +kernel) c9)
  refine lv_iconst (v := nI 1) hx hb dL_law_1768 (by decide +kernel) ?_
  exact law_end hx hb hr hlk hS (by dsimp only; omega) (by dsimp only; omega) dL_law_1769
set_option maxHeartbeats 4000000 in
set_option maxRecDepth 100000 in
theorem LW172_step {p : Program} {e : Env} {s : State} {m : MethodId} {below : List Frame} {meth : Method} {c : Code} {l : Launch} {G : Nat → Nat} {D : va_G} {K : Nat → ClassId} {b : Nat} {xs : Nat → Int32} (hx : p.tables.exec = Jvm.exec) (hb : c.code = cL_law) (hr : meth.sig.returnType = some .boolean) (hlk : meth.locks = false) (hl0 : l.stackTraces = false) (hnc : Ncs s) (hml : c.maxLocals = 9) (hown : s.vm.findClass RL = some m.cls) (hts : ∀ w ∈ lw_gw, w.before #[Value.ref b] s = true) (hK : va_K D cl (tys K) s) (hm : Amb G (fun q : Nat => s.heap.size ≤ q) s s.heap) (hX : va_X b 4 xs s s.heap) (hbl : b < s.heap.size) {h0 h1 a0 a1 a2 a3 a4 a5 a6 a7 a8 a9 : Nat} (ya : Int32) (hya : ya < 0) (hx1 : xs 1 = ya) {H : Heap} {locs : List Loc} {cells slots : Nat} (hcs : cells ≤ 1000) (hss : slots ≤ 100000) (hP : va_P D cl [(h0, .inr (9, [.ref a0, .ref a1, .ref a2, .ref a3, .ref a4, .ref a5, .ref a6, .ref a7, .int (nI 0)])), (h1, .inr (12, [.int (nI 0), .ref a8]))] H) (hD : va_D (fun q : Nat => s.heap.size ≤ q) [(h0, .inr (9, [.ref a0, .ref a1, .ref a2, .ref a3, .ref a4, .ref a5, .ref a6, .ref a7, .int (nI 0)])), (h1, .inr (12, [.int (nI 0), .ref a8]))]) (hS : va_S (fun q : Nat => s.heap.size ≤ q) s.heap H locs) {ls : Array Slot} (hl : lv_has ls 9 [(0, .ref b), (1, .ref h0), (2, .ref h1), (3, .ref a9), (4, .int (nI 0))]) : W p l e room_1 s m #[Value.ref b] below meth c H locs cells slots (lw_Z below #[Value.ref b] s) (F0 m 968 ls []) := by
  have hA : ∀ q : Nat, s.heap.size ≤ q → (fun q : Nat => s.heap.size ≤ q) q := fun _ h => h
  have hbA : ¬ (fun q : Nat => s.heap.size ≤ q) b := Nat.not_le.mpr hbl
  refine lv_aload_n hx hb dL_law_968 rfl (lv_at hl 1 rfl) ?_
  refine lv_aload_n hx hb dL_law_969 rfl (lv_at hl 0 rfl) ?_
  refine lv_iload hx hb dL_law_970 (lv_at hl 4 rfl) ?_
  refine lv_iconst (v := nI 1) hx hb dL_law_972 (by decide +kernel) ?_
  refine lv_iadd hx hb dL_law_973 ?_
  refine w_toeq (show (nI 0) + (nI 1) = nI 1 by decide +kernel) ?_
  refine va_sld hx hb hX hbl hbA hS (vp_in_nI (n := 1) (by decide) (by decide)) dL_law_974 ?_
  refine w_toeq (show xs (nI 1).toNatClampNeg = ya by rw [nI_clamp (n := 1) (by decide)]; exact hx1) ?_
  refine lv_aload_n hx hb dL_law_975 rfl (lv_at hl 3 rfl) ?_
  refine k_i (wr := [(h1, .inr (12, [.int (nI 0), .ref a8]))]) (run_SW hnc (rest := []) hx hb hml hown hts hK hP hD hS hA hm (C1227_step l G D K hl0 H.size h0 a9 (.ref a0) (.ref a1) (.ref a2) (.ref a3) (.ref a4) (.ref a5) (.ref a6) (.ref a7) (.int (nI 0)) ya hya) [0] rfl rfl mokh_yL_step w_1031 w_1032 ⟨Nat.le_of_ble_eq_true rfl, Nat.le_of_ble_eq_true rfl⟩ rfl hl.1 rfl (Nat.le_of_ble_eq_true rfl) dL_law_976 ⟨(by dsimp only [room_1]; omega), (by dsimp only [room_1]; omega)⟩) hP hD hS hA [0] [1] rfl rfl rfl (by decide) (w2 := fun u0 => [(h1, .inr (12, [.int (nI 0), .ref a8])), (h0, .inr (9, [.ref a0, .ref a1, .ref a2, .ref a3, .ref a4, .ref a5, .ref a6, .ref a7, .int (nI 0)]))]) (fun _ => rfl) (fun u0 H locs hP hD hS => ?_)
  refine lv_istore (lv' := [(5, .int (nI 1)), (0, .ref b), (1, .ref h0), (2, .ref h1), (3, .ref a9), (4, .int (nI 0))]) hx hb dL_law_979 hl (by decide) rfl (fun ls hl => ?_)
  refine lv_aload_n hx hb dL_law_981 rfl (lv_at hl 3 rfl) ?_
  refine lv_aload_n hx hb dL_law_982 rfl (lv_at hl 1 rfl) ?_
  refine lv_iload hx hb dL_law_983 (lv_at hl 5 rfl) ?_
  refine lv_iconst (v := nI 1) hx hb dL_law_985 (by decide +kernel) ?_
  refine lv_iadd hx hb dL_law_986 ?_
  refine w_toeq (show (nI 0) + (nI 1) = nI 1 by decide +kernel) ?_
  refine va_sld hx hb hX hbl hbA hS (vp_in_nI (n := 1) (by decide) (by decide)) dL_law_987 ?_
  refine w_toeq (show xs (nI 1).toNatClampNeg = ya by rw [nI_clamp (n := 1) (by decide)]; exact hx1) ?_
  refine k_i (wr := [(h0, .inr (9, [.ref a0, .ref a1, .ref a2, .ref a3, .ref a4, .ref a5, .ref a6, .ref a7, .int (nI 0)]))]) (run_V (rest := []) hx hb hml hown hts hK hP hD hS hA hm (C837_step l G D K H.size h1 (.ref a8) ya hya) [0] rfl rfl mok_yX12_step w_1977 w_1978 w_1979 (rcv hK hP 0 rfl rfl rfl) ⟨Nat.le_of_ble_eq_true rfl, Nat.le_of_ble_eq_true rfl⟩ rfl hl.1 rfl (Nat.le_of_ble_eq_true rfl) dL_law_988 ⟨(by dsimp only [room_1]; omega), (by dsimp only [room_1]; omega)⟩) hP hD hS hA [0] [1] rfl rfl rfl (by decide) (w2 := fun u1 => [(h0, .inr (9, [.ref a0, .ref a1, .ref a2, .ref a3, .ref a4, .ref a5, .ref a6, .ref a7, .int (nI 0)])), (h1, .inr (12, [.int (nI 1), .ref a8]))]) (fun _ => rfl) (fun u1 H locs hP hD hS => ?_)
  refine lv_istore (lv' := [(6, .int (nI 0)), (5, .int (nI 1)), (0, .ref b), (1, .ref h0), (2, .ref h1), (3, .ref a9), (4, .int (nI 0))]) hx hb dL_law_991 hl (by decide) rfl (fun ls hl => ?_)
  refine lv_aload_n hx hb dL_law_993 rfl (lv_at hl 4 rfl) ?_
  refine k_i (wr := [(h0, .inr (9, [.ref a0, .ref a1, .ref a2, .ref a3, .ref a4, .ref a5, .ref a6, .ref a7, .int (nI 0)]))]) (run_V (rest := []) hx hb hml hown hts hK hP hD hS hA hm (C1059_thrown l G D K H.size h1 (.ref a8)) [1] rfl rfl mok_yX12_thrown w_1300 w_1301 w_1302 (rcv hK hP 1 rfl rfl rfl) ⟨Nat.le_of_ble_eq_true rfl, Nat.le_of_ble_eq_true rfl⟩ rfl hl.1 rfl (Nat.le_of_ble_eq_true rfl) dL_law_994 ⟨(by dsimp only [room_1]; omega), (by dsimp only [room_1]; omega)⟩) hP hD hS hA [1] [0] rfl rfl rfl (by decide) (w2 := fun u2 => [(h0, .inr (9, [.ref a0, .ref a1, .ref a2, .ref a3, .ref a4, .ref a5, .ref a6, .ref a7, .int (nI 0)])), (h1, .inr (12, [.int (nI 1), .ref a8]))]) (fun _ => rfl) (fun u2 H locs hP hD hS => ?_)
  refine lv_iload hx hb dL_law_997 (lv_at hl 1 rfl) ?_
  refine lv_icmp_eq (tgt := 1004) hx hb dL_law_999 (by decide) (fun _ => ?_) (fun c9 => absurd (by decide +kernel) c9)
  refine lv_iload hx hb dL_law_1004 (lv_at hl 1 rfl) ?_
  refine lv_if_ne (tgt := 1021) hx hb dL_law_1006 (by decide) (fun _ => ?_) (fun c9 => absurd c9 (by decide +kernel))
  refine lv_goto (tgt := 1762) hx hb dL_law_1021 (by decide) ?_
  refine lv_iinc (v := nI 4) (lv' := [(4, .int (nI 4)), (6, .int (nI 0)), (5, .int (nI 1)), (0, .ref b), (1, .ref h0), (2, .ref h1), (3, .ref a9)]) hx hb dL_law_1762 hl (k := 6) rfl (by decide +kernel) (by decide) rfl (fun ls hl => ?_)
  refine lv_goto (tgt := 23) hx hb dL_law_1765 (by decide) ?_
  refine lv_iload hx hb dL_law_23 (lv_at hl 0 rfl) ?_
  refine lv_aload_n hx hb dL_law_25 rfl (lv_at hl 3 rfl) ?_
  refine va_slen hx hb hX hbl hbA hS dL_law_26 ?_
  refine w_toeq (show Int32.ofNat 4 = nI 4 from rfl) ?_
  refine lv_iconst (v := nI 4) hx hb dL_law_27 (by decide +kernel) ?_
  refine lv_isub hx hb dL_law_28 ?_
  refine w_toeq (show (nI 4) - (nI 4) = nI 0 by decide +kernel) ?_
  refine lv_icmp_gt (tgt := 1768) hx hb dL_law_29 (by decide) (fun _ => ?_) (fun c9 => absurd (by decide +kernel) c9)
  refine lv_iconst (v := nI 1) hx hb dL_law_1768 (by decide +kernel) ?_
  exact law_end hx hb hr hlk hS (by dsimp only; omega) (by dsimp only; omega) dL_law_1769
set_option maxHeartbeats 4000000 in
set_option maxRecDepth 100000 in
theorem LW173_step {p : Program} {e : Env} {s : State} {m : MethodId} {below : List Frame} {meth : Method} {c : Code} {l : Launch} {G : Nat → Nat} {D : va_G} {K : Nat → ClassId} {b : Nat} {xs : Nat → Int32} (hx : p.tables.exec = Jvm.exec) (hb : c.code = cL_law) (hr : meth.sig.returnType = some .boolean) (hlk : meth.locks = false) (hl0 : l.stackTraces = false) (hnc : Ncs s) (hml : c.maxLocals = 9) (hown : s.vm.findClass RL = some m.cls) (hts : ∀ w ∈ lw_gw, w.before #[Value.ref b] s = true) (hK : va_K D cl (tys K) s) (hm : Amb G (fun q : Nat => s.heap.size ≤ q) s s.heap) (hX : va_X b 4 xs s s.heap) (hbl : b < s.heap.size) {h0 h1 a0 a1 a2 a3 a4 a5 a6 a7 a8 a9 : Nat} (hx1 : xs 1 = nI 0) {H : Heap} {locs : List Loc} {cells slots : Nat} (hcs : cells ≤ 1000) (hss : slots ≤ 100000) (hP : va_P D cl [(h0, .inr (9, [.ref a0, .ref a1, .ref a2, .ref a3, .ref a4, .ref a5, .ref a6, .ref a7, .int (nI 0)])), (h1, .inr (12, [.int (nI 0), .ref a8]))] H) (hD : va_D (fun q : Nat => s.heap.size ≤ q) [(h0, .inr (9, [.ref a0, .ref a1, .ref a2, .ref a3, .ref a4, .ref a5, .ref a6, .ref a7, .int (nI 0)])), (h1, .inr (12, [.int (nI 0), .ref a8]))]) (hS : va_S (fun q : Nat => s.heap.size ≤ q) s.heap H locs) {ls : Array Slot} (hl : lv_has ls 9 [(0, .ref b), (1, .ref h0), (2, .ref h1), (3, .ref a9), (4, .int (nI 0))]) : W p l e room_1 s m #[Value.ref b] below meth c H locs cells slots (lw_Z below #[Value.ref b] s) (F0 m 968 ls []) := by
  have hA : ∀ q : Nat, s.heap.size ≤ q → (fun q : Nat => s.heap.size ≤ q) q := fun _ h => h
  have hbA : ¬ (fun q : Nat => s.heap.size ≤ q) b := Nat.not_le.mpr hbl
  refine lv_aload_n hx hb dL_law_968 rfl (lv_at hl 1 rfl) ?_
  refine lv_aload_n hx hb dL_law_969 rfl (lv_at hl 0 rfl) ?_
  refine lv_iload hx hb dL_law_970 (lv_at hl 4 rfl) ?_
  refine lv_iconst (v := nI 1) hx hb dL_law_972 (by decide +kernel) ?_
  refine lv_iadd hx hb dL_law_973 ?_
  refine w_toeq (show (nI 0) + (nI 1) = nI 1 by decide +kernel) ?_
  refine va_sld hx hb hX hbl hbA hS (vp_in_nI (n := 1) (by decide) (by decide)) dL_law_974 ?_
  refine w_toeq (show xs (nI 1).toNatClampNeg = nI 0 by rw [nI_clamp (n := 1) (by decide)]; exact hx1) ?_
  refine lv_aload_n hx hb dL_law_975 rfl (lv_at hl 3 rfl) ?_
  refine k_i (wr := [(h1, .inr (12, [.int (nI 0), .ref a8]))]) (run_SW hnc (rest := []) hx hb hml hown hts hK hP hD hS hA hm (C1228_step l G D K hl0 H.size h0 a9 (.ref a0) (.ref a1) (.ref a2) (.ref a3) (.ref a4) (.ref a5) (.ref a6) (.ref a7) (.int (nI 0))) [0] rfl rfl mokh_yL_step w_1031 w_1032 ⟨Nat.le_of_ble_eq_true rfl, Nat.le_of_ble_eq_true rfl⟩ rfl hl.1 rfl (Nat.le_of_ble_eq_true rfl) dL_law_976 ⟨(by dsimp only [room_1]; omega), (by dsimp only [room_1]; omega)⟩) hP hD hS hA [0] [1] rfl rfl rfl (by decide) (w2 := fun u0 => [(h1, .inr (12, [.int (nI 0), .ref a8])), (h0, .inr (9, [.ref a0, .ref a1, .ref a2, .ref a3, .ref a4, .ref a5, .ref a6, .ref a7, .int (nI 0)]))]) (fun _ => rfl) (fun u0 H locs hP hD hS => ?_)
  refine lv_istore (lv' := [(5, .int (nI 1)), (0, .ref b), (1, .ref h0), (2, .ref h1), (3, .ref a9), (4, .int (nI 0))]) hx hb dL_law_979 hl (by decide) rfl (fun ls hl => ?_)
  refine lv_aload_n hx hb dL_law_981 rfl (lv_at hl 3 rfl) ?_
  refine lv_aload_n hx hb dL_law_982 rfl (lv_at hl 1 rfl) ?_
  refine lv_iload hx hb dL_law_983 (lv_at hl 5 rfl) ?_
  refine lv_iconst (v := nI 1) hx hb dL_law_985 (by decide +kernel) ?_
  refine lv_iadd hx hb dL_law_986 ?_
  refine w_toeq (show (nI 0) + (nI 1) = nI 1 by decide +kernel) ?_
  refine va_sld hx hb hX hbl hbA hS (vp_in_nI (n := 1) (by decide) (by decide)) dL_law_987 ?_
  refine w_toeq (show xs (nI 1).toNatClampNeg = nI 0 by rw [nI_clamp (n := 1) (by decide)]; exact hx1) ?_
  refine k_i (wr := [(h0, .inr (9, [.ref a0, .ref a1, .ref a2, .ref a3, .ref a4, .ref a5, .ref a6, .ref a7, .int (nI 0)]))]) (run_V (rest := []) hx hb hml hown hts hK hP hD hS hA hm (C840_step l G D K H.size h1 (.ref a8)) [0] rfl rfl mok_yX12_step w_1977 w_1978 w_1979 (rcv hK hP 0 rfl rfl rfl) ⟨Nat.le_of_ble_eq_true rfl, Nat.le_of_ble_eq_true rfl⟩ rfl hl.1 rfl (Nat.le_of_ble_eq_true rfl) dL_law_988 ⟨(by dsimp only [room_1]; omega), (by dsimp only [room_1]; omega)⟩) hP hD hS hA [0] [1] rfl rfl rfl (by decide) (w2 := fun u1 => [(h0, .inr (9, [.ref a0, .ref a1, .ref a2, .ref a3, .ref a4, .ref a5, .ref a6, .ref a7, .int (nI 0)])), (h1, .inr (12, [.int (nI 1), .ref a8]))]) (fun _ => rfl) (fun u1 H locs hP hD hS => ?_)
  refine lv_istore (lv' := [(6, .int (nI 0)), (5, .int (nI 1)), (0, .ref b), (1, .ref h0), (2, .ref h1), (3, .ref a9), (4, .int (nI 0))]) hx hb dL_law_991 hl (by decide) rfl (fun ls hl => ?_)
  refine lv_aload_n hx hb dL_law_993 rfl (lv_at hl 4 rfl) ?_
  refine k_i (wr := [(h0, .inr (9, [.ref a0, .ref a1, .ref a2, .ref a3, .ref a4, .ref a5, .ref a6, .ref a7, .int (nI 0)]))]) (run_V (rest := []) hx hb hml hown hts hK hP hD hS hA hm (C1059_thrown l G D K H.size h1 (.ref a8)) [1] rfl rfl mok_yX12_thrown w_1300 w_1301 w_1302 (rcv hK hP 1 rfl rfl rfl) ⟨Nat.le_of_ble_eq_true rfl, Nat.le_of_ble_eq_true rfl⟩ rfl hl.1 rfl (Nat.le_of_ble_eq_true rfl) dL_law_994 ⟨(by dsimp only [room_1]; omega), (by dsimp only [room_1]; omega)⟩) hP hD hS hA [1] [0] rfl rfl rfl (by decide) (w2 := fun u2 => [(h0, .inr (9, [.ref a0, .ref a1, .ref a2, .ref a3, .ref a4, .ref a5, .ref a6, .ref a7, .int (nI 0)])), (h1, .inr (12, [.int (nI 1), .ref a8]))]) (fun _ => rfl) (fun u2 H locs hP hD hS => ?_)
  refine lv_iload hx hb dL_law_997 (lv_at hl 1 rfl) ?_
  refine lv_icmp_eq (tgt := 1004) hx hb dL_law_999 (by decide) (fun _ => ?_) (fun c9 => absurd (by decide +kernel) c9)
  refine lv_iload hx hb dL_law_1004 (lv_at hl 1 rfl) ?_
  refine lv_if_ne (tgt := 1021) hx hb dL_law_1006 (by decide) (fun _ => ?_) (fun c9 => absurd c9 (by decide +kernel))
  refine lv_goto (tgt := 1762) hx hb dL_law_1021 (by decide) ?_
  refine lv_iinc (v := nI 4) (lv' := [(4, .int (nI 4)), (6, .int (nI 0)), (5, .int (nI 1)), (0, .ref b), (1, .ref h0), (2, .ref h1), (3, .ref a9)]) hx hb dL_law_1762 hl (k := 6) rfl (by decide +kernel) (by decide) rfl (fun ls hl => ?_)
  refine lv_goto (tgt := 23) hx hb dL_law_1765 (by decide) ?_
  refine lv_iload hx hb dL_law_23 (lv_at hl 0 rfl) ?_
  refine lv_aload_n hx hb dL_law_25 rfl (lv_at hl 3 rfl) ?_
  refine va_slen hx hb hX hbl hbA hS dL_law_26 ?_
  refine w_toeq (show Int32.ofNat 4 = nI 4 from rfl) ?_
  refine lv_iconst (v := nI 4) hx hb dL_law_27 (by decide +kernel) ?_
  refine lv_isub hx hb dL_law_28 ?_
  refine w_toeq (show (nI 4) - (nI 4) = nI 0 by decide +kernel) ?_
  refine lv_icmp_gt (tgt := 1768) hx hb dL_law_29 (by decide) (fun _ => ?_) (fun c9 => absurd (by decide +kernel) c9)
  refine lv_iconst (v := nI 1) hx hb dL_law_1768 (by decide +kernel) ?_
  exact law_end hx hb hr hlk hS (by dsimp only; omega) (by dsimp only; omega) dL_law_1769
set_option maxHeartbeats 4000000 in
set_option maxRecDepth 100000 in
theorem LW174_step {p : Program} {e : Env} {s : State} {m : MethodId} {below : List Frame} {meth : Method} {c : Code} {l : Launch} {G : Nat → Nat} {D : va_G} {K : Nat → ClassId} {b : Nat} {xs : Nat → Int32} (hx : p.tables.exec = Jvm.exec) (hb : c.code = cL_law) (hr : meth.sig.returnType = some .boolean) (hlk : meth.locks = false) (hl0 : l.stackTraces = false) (hnc : Ncs s) (hml : c.maxLocals = 9) (hown : s.vm.findClass RL = some m.cls) (hts : ∀ w ∈ lw_gw, w.before #[Value.ref b] s = true) (hK : va_K D cl (tys K) s) (hm : Amb G (fun q : Nat => s.heap.size ≤ q) s s.heap) (hX : va_X b 4 xs s s.heap) (hbl : b < s.heap.size) {h0 h1 h2 h3 a0 a1 a2 a3 a4 a5 a6 a7 a8 a9 a10 a11 a12 : Nat} (ya : Nat) (lya : 1 ≤ ya) (gya : ya ≤ 50) (hx1 : xs 1 = nI ya) {H : Heap} {locs : List Loc} {cells slots : Nat} (hcs : cells ≤ 1000) (hss : slots ≤ 100000) (hP : va_P D cl [(h0, .inr (9, [.ref a0, .ref a1, .ref a2, .ref a3, .ref h1, .ref a4, .ref a5, .ref a6, .int (nI 0)])), (h1, .inr (1, [.ref a0, .ref a1, .int (nI 0)])), (h2, .inr (12, [.int (nI 0), .ref h3])), (h3, .inr (10, [.ref a7, .ref a8, .ref a9, .ref a10, .ref a11, .int (nI 0), .int (nI 0), .int (nI 60), .int (nI 0), .int (nI 2), .int (nI 0), .int (nI 0), .int (nI 0), .int (nI 0), .int (nI 0), .int (nI 0), .int (nI 0)]))] H) (hD : va_D (fun q : Nat => s.heap.size ≤ q) [(h0, .inr (9, [.ref a0, .ref a1, .ref a2, .ref a3, .ref h1, .ref a4, .ref a5, .ref a6, .int (nI 0)])), (h1, .inr (1, [.ref a0, .ref a1, .int (nI 0)])), (h2, .inr (12, [.int (nI 0), .ref h3])), (h3, .inr (10, [.ref a7, .ref a8, .ref a9, .ref a10, .ref a11, .int (nI 0), .int (nI 0), .int (nI 60), .int (nI 0), .int (nI 2), .int (nI 0), .int (nI 0), .int (nI 0), .int (nI 0), .int (nI 0), .int (nI 0), .int (nI 0)]))]) (hS : va_S (fun q : Nat => s.heap.size ≤ q) s.heap H locs) {ls : Array Slot} (hl : lv_has ls 9 [(0, .ref b), (1, .ref h0), (2, .ref h2), (3, .ref a12), (4, .int (nI 0))]) : W p l e room_1 s m #[Value.ref b] below meth c H locs cells slots (lw_Z below #[Value.ref b] s) (F0 m 968 ls []) := by
  have hA : ∀ q : Nat, s.heap.size ≤ q → (fun q : Nat => s.heap.size ≤ q) q := fun _ h => h
  have hbA : ¬ (fun q : Nat => s.heap.size ≤ q) b := Nat.not_le.mpr hbl
  refine lv_aload_n hx hb dL_law_968 rfl (lv_at hl 1 rfl) ?_
  refine lv_aload_n hx hb dL_law_969 rfl (lv_at hl 0 rfl) ?_
  refine lv_iload hx hb dL_law_970 (lv_at hl 4 rfl) ?_
  refine lv_iconst (v := nI 1) hx hb dL_law_972 (by decide +kernel) ?_
  refine lv_iadd hx hb dL_law_973 ?_
  refine w_toeq (show (nI 0) + (nI 1) = nI 1 by decide +kernel) ?_
  refine va_sld hx hb hX hbl hbA hS (vp_in_nI (n := 1) (by decide) (by decide)) dL_law_974 ?_
  refine w_toeq (show xs (nI 1).toNatClampNeg = nI ya by rw [nI_clamp (n := 1) (by decide)]; exact hx1) ?_
  refine lv_aload_n hx hb dL_law_975 rfl (lv_at hl 3 rfl) ?_
  refine k_i (wr := [(h2, .inr (12, [.int (nI 0), .ref h3])), (h3, .inr (10, [.ref a7, .ref a8, .ref a9, .ref a10, .ref a11, .int (nI 0), .int (nI 0), .int (nI 60), .int (nI 0), .int (nI 2), .int (nI 0), .int (nI 0), .int (nI 0), .int (nI 0), .int (nI 0), .int (nI 0), .int (nI 0)]))]) (run_SW hnc (rest := []) hx hb hml hown hts hK hP hD hS hA hm (C1229_step l G D K hl0 H.size h0 h1 a12 (.ref a0) (.ref a1) (.ref a2) (.ref a3) (.ref a4) (.ref a5) (.ref a6) (.int (nI 0)) (.ref a0) (.ref a1) ya (by omega) (by omega)) [0, 1] rfl rfl mokh_yL_step w_1031 w_1032 ⟨Nat.le_of_ble_eq_true rfl, Nat.le_of_ble_eq_true rfl⟩ rfl hl.1 rfl (Nat.le_of_ble_eq_true rfl) dL_law_976 ⟨(by dsimp only [room_1]; omega), (by dsimp only [room_1]; omega)⟩) hP hD hS hA [0, 1] [2, 3] rfl rfl rfl (by decide) (w2 := fun u0 => [(h2, .inr (12, [.int (nI 0), .ref h3])), (h3, .inr (10, [.ref a7, .ref a8, .ref a9, .ref a10, .ref a11, .int (nI 0), .int (nI 0), .int (nI 60), .int (nI 0), .int (nI 2), .int (nI 0), .int (nI 0), .int (nI 0), .int (nI 0), .int (nI 0), .int (nI 0), .int (nI 0)]))]) (fun _ => rfl) (fun u0 H locs hP hD hS => ?_)
  refine lv_istore (lv' := [(5, .int (nI 2)), (0, .ref b), (1, .ref h0), (2, .ref h2), (3, .ref a12), (4, .int (nI 0))]) hx hb dL_law_979 hl (by decide) rfl (fun ls hl => ?_)
  refine lv_aload_n hx hb dL_law_981 rfl (lv_at hl 3 rfl) ?_
  refine lv_aload_n hx hb dL_law_982 rfl (lv_at hl 1 rfl) ?_
  refine lv_iload hx hb dL_law_983 (lv_at hl 5 rfl) ?_
  refine lv_iconst (v := nI 1) hx hb dL_law_985 (by decide +kernel) ?_
  refine lv_iadd hx hb dL_law_986 ?_
  refine w_toeq (show (nI 0) + (nI 1) = nI 1 by decide +kernel) ?_
  refine va_sld hx hb hX hbl hbA hS (vp_in_nI (n := 1) (by decide) (by decide)) dL_law_987 ?_
  refine w_toeq (show xs (nI 1).toNatClampNeg = nI ya by rw [nI_clamp (n := 1) (by decide)]; exact hx1) ?_
  refine k_i (wr := []) (run_V (rest := []) hx hb hml hown hts hK hP hD hS hA hm (C843_step l G D K H.size h2 h3 (.ref a7) (.ref a8) (.ref a9) (.ref a10) (.ref a11) (.int (nI 0)) (.int (nI 0)) (.int (nI 60)) (.int (nI 0)) (.int (nI 2)) (.int (nI 0)) (.int (nI 0)) (.int (nI 0)) (.int (nI 0)) (.int (nI 0)) (.int (nI 0)) ya (by omega) (by omega)) [0, 1] rfl rfl mok_yX12_step w_1977 w_1978 w_1979 (rcv hK hP 0 rfl rfl rfl) ⟨Nat.le_of_ble_eq_true rfl, Nat.le_of_ble_eq_true rfl⟩ rfl hl.1 rfl (Nat.le_of_ble_eq_true rfl) dL_law_988 ⟨(by dsimp only [room_1]; omega), (by dsimp only [room_1]; omega)⟩) hP hD hS hA [0, 1] [] rfl rfl rfl (by decide) (w2 := fun u1 => [(h3, .inr (10, [.ref a7, .ref a8, .ref a9, .ref a10, .ref a11, .int (nI 0), .int (nI 0), .int (nI 60), .int (nI 0), .int (nI 2), .int (nI 0), .int (nI 0), .int (nI 0), .int (nI 0), .int (nI 0), .int (nI 0), .int (nI 0)])), (h2, .inr (12, [.int (nI 2), .ref h3]))]) (fun _ => rfl) (fun u1 H locs hP hD hS => ?_)
  refine lv_istore (lv' := [(6, .int (nI 0)), (5, .int (nI 2)), (0, .ref b), (1, .ref h0), (2, .ref h2), (3, .ref a12), (4, .int (nI 0))]) hx hb dL_law_991 hl (by decide) rfl (fun ls hl => ?_)
  refine lv_aload_n hx hb dL_law_993 rfl (lv_at hl 4 rfl) ?_
  refine k_i (wr := [(h3, .inr (10, [.ref a7, .ref a8, .ref a9, .ref a10, .ref a11, .int (nI 0), .int (nI 0), .int (nI 60), .int (nI 0), .int (nI 2), .int (nI 0), .int (nI 0), .int (nI 0), .int (nI 0), .int (nI 0), .int (nI 0), .int (nI 0)]))]) (run_V (rest := []) hx hb hml hown hts hK hP hD hS hA hm (C1075_thrown l G D K H.size h2 (.ref h3)) [1] rfl rfl mok_yX12_thrown w_1300 w_1301 w_1302 (rcv hK hP 1 rfl rfl rfl) ⟨Nat.le_of_ble_eq_true rfl, Nat.le_of_ble_eq_true rfl⟩ rfl hl.1 rfl (Nat.le_of_ble_eq_true rfl) dL_law_994 ⟨(by dsimp only [room_1]; omega), (by dsimp only [room_1]; omega)⟩) hP hD hS hA [1] [0] rfl rfl rfl (by decide) (w2 := fun u2 => [(h3, .inr (10, [.ref a7, .ref a8, .ref a9, .ref a10, .ref a11, .int (nI 0), .int (nI 0), .int (nI 60), .int (nI 0), .int (nI 2), .int (nI 0), .int (nI 0), .int (nI 0), .int (nI 0), .int (nI 0), .int (nI 0), .int (nI 0)])), (h2, .inr (12, [.int (nI 2), .ref h3]))]) (fun _ => rfl) (fun u2 H locs hP hD hS => ?_)
  refine lv_iload hx hb dL_law_997 (lv_at hl 1 rfl) ?_
  refine lv_icmp_eq (tgt := 1004) hx hb dL_law_999 (by decide) (fun _ => ?_) (fun c9 => absurd (by decide +kernel) c9)
  refine lv_iload hx hb dL_law_1004 (lv_at hl 1 rfl) ?_
  refine lv_if_ne (tgt := 1021) hx hb dL_law_1006 (by decide) (fun _ => ?_) (fun c9 => absurd c9 (by decide +kernel))
  refine lv_goto (tgt := 1762) hx hb dL_law_1021 (by decide) ?_
  refine lv_iinc (v := nI 4) (lv' := [(4, .int (nI 4)), (6, .int (nI 0)), (5, .int (nI 2)), (0, .ref b), (1, .ref h0), (2, .ref h2), (3, .ref a12)]) hx hb dL_law_1762 hl (k := 6) rfl (by decide +kernel) (by decide) rfl (fun ls hl => ?_)
  refine lv_goto (tgt := 23) hx hb dL_law_1765 (by decide) ?_
  refine lv_iload hx hb dL_law_23 (lv_at hl 0 rfl) ?_
  refine lv_aload_n hx hb dL_law_25 rfl (lv_at hl 3 rfl) ?_
  refine va_slen hx hb hX hbl hbA hS dL_law_26 ?_
  refine w_toeq (show Int32.ofNat 4 = nI 4 from rfl) ?_
  refine lv_iconst (v := nI 4) hx hb dL_law_27 (by decide +kernel) ?_
  refine lv_isub hx hb dL_law_28 ?_
  refine w_toeq (show (nI 4) - (nI 4) = nI 0 by decide +kernel) ?_
  refine lv_icmp_gt (tgt := 1768) hx hb dL_law_29 (by decide) (fun _ => ?_) (fun c9 => absurd (by decide +kernel) c9)
  refine lv_iconst (v := nI 1) hx hb dL_law_1768 (by decide +kernel) ?_
  exact law_end hx hb hr hlk hS (by dsimp only; omega) (by dsimp only; omega) dL_law_1769
set_option maxHeartbeats 4000000 in
set_option maxRecDepth 100000 in
theorem LW175_step {p : Program} {e : Env} {s : State} {m : MethodId} {below : List Frame} {meth : Method} {c : Code} {l : Launch} {G : Nat → Nat} {D : va_G} {K : Nat → ClassId} {b : Nat} {xs : Nat → Int32} (hx : p.tables.exec = Jvm.exec) (hb : c.code = cL_law) (hr : meth.sig.returnType = some .boolean) (hlk : meth.locks = false) (hl0 : l.stackTraces = false) (hnc : Ncs s) (hml : c.maxLocals = 9) (hown : s.vm.findClass RL = some m.cls) (hts : ∀ w ∈ lw_gw, w.before #[Value.ref b] s = true) (hK : va_K D cl (tys K) s) (hm : Amb G (fun q : Nat => s.heap.size ≤ q) s s.heap) (hX : va_X b 4 xs s s.heap) (hbl : b < s.heap.size) {h0 h1 a0 a1 a2 a3 a4 a5 a6 a7 a8 a9 : Nat} (ya : Nat) (lya : 51 ≤ ya) (gya : ya ≤ 2147483647) (hx1 : xs 1 = nI ya) {H : Heap} {locs : List Loc} {cells slots : Nat} (hcs : cells ≤ 1000) (hss : slots ≤ 100000) (hP : va_P D cl [(h0, .inr (9, [.ref a0, .ref a1, .ref a2, .ref a3, .ref a4, .ref a5, .ref a6, .ref a7, .int (nI 0)])), (h1, .inr (12, [.int (nI 0), .ref a8]))] H) (hD : va_D (fun q : Nat => s.heap.size ≤ q) [(h0, .inr (9, [.ref a0, .ref a1, .ref a2, .ref a3, .ref a4, .ref a5, .ref a6, .ref a7, .int (nI 0)])), (h1, .inr (12, [.int (nI 0), .ref a8]))]) (hS : va_S (fun q : Nat => s.heap.size ≤ q) s.heap H locs) {ls : Array Slot} (hl : lv_has ls 9 [(0, .ref b), (1, .ref h0), (2, .ref h1), (3, .ref a9), (4, .int (nI 0))]) : W p l e room_1 s m #[Value.ref b] below meth c H locs cells slots (lw_Z below #[Value.ref b] s) (F0 m 968 ls []) := by
  have hA : ∀ q : Nat, s.heap.size ≤ q → (fun q : Nat => s.heap.size ≤ q) q := fun _ h => h
  have hbA : ¬ (fun q : Nat => s.heap.size ≤ q) b := Nat.not_le.mpr hbl
  refine lv_aload_n hx hb dL_law_968 rfl (lv_at hl 1 rfl) ?_
  refine lv_aload_n hx hb dL_law_969 rfl (lv_at hl 0 rfl) ?_
  refine lv_iload hx hb dL_law_970 (lv_at hl 4 rfl) ?_
  refine lv_iconst (v := nI 1) hx hb dL_law_972 (by decide +kernel) ?_
  refine lv_iadd hx hb dL_law_973 ?_
  refine w_toeq (show (nI 0) + (nI 1) = nI 1 by decide +kernel) ?_
  refine va_sld hx hb hX hbl hbA hS (vp_in_nI (n := 1) (by decide) (by decide)) dL_law_974 ?_
  refine w_toeq (show xs (nI 1).toNatClampNeg = nI ya by rw [nI_clamp (n := 1) (by decide)]; exact hx1) ?_
  refine lv_aload_n hx hb dL_law_975 rfl (lv_at hl 3 rfl) ?_
  refine k_i (wr := [(h1, .inr (12, [.int (nI 0), .ref a8]))]) (run_SW hnc (rest := []) hx hb hml hown hts hK hP hD hS hA hm (C1230_step l G D K hl0 H.size h0 a9 (.ref a0) (.ref a1) (.ref a2) (.ref a3) (.ref a4) (.ref a5) (.ref a6) (.ref a7) (.int (nI 0)) ya (by omega) (by omega)) [0] rfl rfl mokh_yL_step w_1031 w_1032 ⟨Nat.le_of_ble_eq_true rfl, Nat.le_of_ble_eq_true rfl⟩ rfl hl.1 rfl (Nat.le_of_ble_eq_true rfl) dL_law_976 ⟨(by dsimp only [room_1]; omega), (by dsimp only [room_1]; omega)⟩) hP hD hS hA [0] [1] rfl rfl rfl (by decide) (w2 := fun u0 => [(h1, .inr (12, [.int (nI 0), .ref a8])), (h0, .inr (9, [.ref a0, .ref a1, .ref a2, .ref a3, .ref a4, .ref a5, .ref a6, .ref a7, .int (nI 0)]))]) (fun _ => rfl) (fun u0 H locs hP hD hS => ?_)
  refine lv_istore (lv' := [(5, .int (nI 1)), (0, .ref b), (1, .ref h0), (2, .ref h1), (3, .ref a9), (4, .int (nI 0))]) hx hb dL_law_979 hl (by decide) rfl (fun ls hl => ?_)
  refine lv_aload_n hx hb dL_law_981 rfl (lv_at hl 3 rfl) ?_
  refine lv_aload_n hx hb dL_law_982 rfl (lv_at hl 1 rfl) ?_
  refine lv_iload hx hb dL_law_983 (lv_at hl 5 rfl) ?_
  refine lv_iconst (v := nI 1) hx hb dL_law_985 (by decide +kernel) ?_
  refine lv_iadd hx hb dL_law_986 ?_
  refine w_toeq (show (nI 0) + (nI 1) = nI 1 by decide +kernel) ?_
  refine va_sld hx hb hX hbl hbA hS (vp_in_nI (n := 1) (by decide) (by decide)) dL_law_987 ?_
  refine w_toeq (show xs (nI 1).toNatClampNeg = nI ya by rw [nI_clamp (n := 1) (by decide)]; exact hx1) ?_
  refine k_i (wr := [(h0, .inr (9, [.ref a0, .ref a1, .ref a2, .ref a3, .ref a4, .ref a5, .ref a6, .ref a7, .int (nI 0)]))]) (run_V (rest := []) hx hb hml hown hts hK hP hD hS hA hm (C846_step l G D K H.size h1 (.ref a8) ya (by omega) (by omega)) [0] rfl rfl mok_yX12_step w_1977 w_1978 w_1979 (rcv hK hP 0 rfl rfl rfl) ⟨Nat.le_of_ble_eq_true rfl, Nat.le_of_ble_eq_true rfl⟩ rfl hl.1 rfl (Nat.le_of_ble_eq_true rfl) dL_law_988 ⟨(by dsimp only [room_1]; omega), (by dsimp only [room_1]; omega)⟩) hP hD hS hA [0] [1] rfl rfl rfl (by decide) (w2 := fun u1 => [(h0, .inr (9, [.ref a0, .ref a1, .ref a2, .ref a3, .ref a4, .ref a5, .ref a6, .ref a7, .int (nI 0)])), (h1, .inr (12, [.int (nI 1), .ref a8]))]) (fun _ => rfl) (fun u1 H locs hP hD hS => ?_)
  refine lv_istore (lv' := [(6, .int (nI 0)), (5, .int (nI 1)), (0, .ref b), (1, .ref h0), (2, .ref h1), (3, .ref a9), (4, .int (nI 0))]) hx hb dL_law_991 hl (by decide) rfl (fun ls hl => ?_)
  refine lv_aload_n hx hb dL_law_993 rfl (lv_at hl 4 rfl) ?_
  refine k_i (wr := [(h0, .inr (9, [.ref a0, .ref a1, .ref a2, .ref a3, .ref a4, .ref a5, .ref a6, .ref a7, .int (nI 0)]))]) (run_V (rest := []) hx hb hml hown hts hK hP hD hS hA hm (C1059_thrown l G D K H.size h1 (.ref a8)) [1] rfl rfl mok_yX12_thrown w_1300 w_1301 w_1302 (rcv hK hP 1 rfl rfl rfl) ⟨Nat.le_of_ble_eq_true rfl, Nat.le_of_ble_eq_true rfl⟩ rfl hl.1 rfl (Nat.le_of_ble_eq_true rfl) dL_law_994 ⟨(by dsimp only [room_1]; omega), (by dsimp only [room_1]; omega)⟩) hP hD hS hA [1] [0] rfl rfl rfl (by decide) (w2 := fun u2 => [(h0, .inr (9, [.ref a0, .ref a1, .ref a2, .ref a3, .ref a4, .ref a5, .ref a6, .ref a7, .int (nI 0)])), (h1, .inr (12, [.int (nI 1), .ref a8]))]) (fun _ => rfl) (fun u2 H locs hP hD hS => ?_)
  refine lv_iload hx hb dL_law_997 (lv_at hl 1 rfl) ?_
  refine lv_icmp_eq (tgt := 1004) hx hb dL_law_999 (by decide) (fun _ => ?_) (fun c9 => absurd (by decide +kernel) c9)
  refine lv_iload hx hb dL_law_1004 (lv_at hl 1 rfl) ?_
  refine lv_if_ne (tgt := 1021) hx hb dL_law_1006 (by decide) (fun _ => ?_) (fun c9 => absurd c9 (by decide +kernel))
  refine lv_goto (tgt := 1762) hx hb dL_law_1021 (by decide) ?_
  refine lv_iinc (v := nI 4) (lv' := [(4, .int (nI 4)), (6, .int (nI 0)), (5, .int (nI 1)), (0, .ref b), (1, .ref h0), (2, .ref h1), (3, .ref a9)]) hx hb dL_law_1762 hl (k := 6) rfl (by decide +kernel) (by decide) rfl (fun ls hl => ?_)
  refine lv_goto (tgt := 23) hx hb dL_law_1765 (by decide) ?_
  refine lv_iload hx hb dL_law_23 (lv_at hl 0 rfl) ?_
  refine lv_aload_n hx hb dL_law_25 rfl (lv_at hl 3 rfl) ?_
  refine va_slen hx hb hX hbl hbA hS dL_law_26 ?_
  refine w_toeq (show Int32.ofNat 4 = nI 4 from rfl) ?_
  refine lv_iconst (v := nI 4) hx hb dL_law_27 (by decide +kernel) ?_
  refine lv_isub hx hb dL_law_28 ?_
  refine w_toeq (show (nI 4) - (nI 4) = nI 0 by decide +kernel) ?_
  refine lv_icmp_gt (tgt := 1768) hx hb dL_law_29 (by decide) (fun _ => ?_) (fun c9 => absurd (by decide +kernel) c9)
  refine lv_iconst (v := nI 1) hx hb dL_law_1768 (by decide +kernel) ?_
  exact law_end hx hb hr hlk hS (by dsimp only; omega) (by dsimp only; omega) dL_law_1769
set_option maxHeartbeats 4000000 in
set_option maxRecDepth 100000 in
theorem LW176_finish {p : Program} {e : Env} {s : State} {m : MethodId} {below : List Frame} {meth : Method} {c : Code} {l : Launch} {G : Nat → Nat} {D : va_G} {K : Nat → ClassId} {b : Nat} {xs : Nat → Int32} (hx : p.tables.exec = Jvm.exec) (hb : c.code = cL_law) (hr : meth.sig.returnType = some .boolean) (hlk : meth.locks = false) (hl0 : l.stackTraces = false) (hnc : Ncs s) (hml : c.maxLocals = 9) (hown : s.vm.findClass RL = some m.cls) (hts : ∀ w ∈ lw_gw, w.before #[Value.ref b] s = true) (hK : va_K D cl (tys K) s) (hm : Amb G (fun q : Nat => s.heap.size ≤ q) s s.heap) (hX : va_X b 4 xs s s.heap) (hbl : b < s.heap.size) {h0 h1 h2 h3 a0 a1 a2 a3 a4 a5 a6 a7 a8 a9 a10 a11 a12 : Nat}  {H : Heap} {locs : List Loc} {cells slots : Nat} (hcs : cells ≤ 1000) (hss : slots ≤ 100000) (hP : va_P D cl [(h0, .inr (9, [.ref a0, .ref a1, .ref a2, .ref a3, .ref h1, .ref a4, .ref a5, .ref a6, .int (nI 0)])), (h1, .inr (1, [.ref a0, .ref a1, .int (nI 0)])), (h2, .inr (12, [.int (nI 0), .ref h3])), (h3, .inr (10, [.ref a7, .ref a8, .ref a9, .ref a10, .ref a11, .int (nI 0), .int (nI 0), .int (nI 60), .int (nI 0), .int (nI 2), .int (nI 0), .int (nI 0), .int (nI 0), .int (nI 0), .int (nI 0), .int (nI 0), .int (nI 0)]))] H) (hD : va_D (fun q : Nat => s.heap.size ≤ q) [(h0, .inr (9, [.ref a0, .ref a1, .ref a2, .ref a3, .ref h1, .ref a4, .ref a5, .ref a6, .int (nI 0)])), (h1, .inr (1, [.ref a0, .ref a1, .int (nI 0)])), (h2, .inr (12, [.int (nI 0), .ref h3])), (h3, .inr (10, [.ref a7, .ref a8, .ref a9, .ref a10, .ref a11, .int (nI 0), .int (nI 0), .int (nI 60), .int (nI 0), .int (nI 2), .int (nI 0), .int (nI 0), .int (nI 0), .int (nI 0), .int (nI 0), .int (nI 0), .int (nI 0)]))]) (hS : va_S (fun q : Nat => s.heap.size ≤ q) s.heap H locs) {ls : Array Slot} (hl : lv_has ls 9 [(0, .ref b), (1, .ref h0), (2, .ref h2), (3, .ref a12), (4, .int (nI 0))]) : W p l e room_1 s m #[Value.ref b] below meth c H locs cells slots (lw_Z below #[Value.ref b] s) (F0 m 1024 ls []) := by
  have hA : ∀ q : Nat, s.heap.size ≤ q → (fun q : Nat => s.heap.size ≤ q) q := fun _ h => h
  have hbA : ¬ (fun q : Nat => s.heap.size ≤ q) b := Nat.not_le.mpr hbl
  refine lv_aload_n hx hb dL_law_1024 rfl (lv_at hl 1 rfl) ?_
  refine lv_aload_n hx hb dL_law_1025 rfl (lv_at hl 3 rfl) ?_
  refine k_i (wr := [(h2, .inr (12, [.int (nI 0), .ref h3])), (h3, .inr (10, [.ref a7, .ref a8, .ref a9, .ref a10, .ref a11, .int (nI 0), .int (nI 0), .int (nI 60), .int (nI 0), .int (nI 2), .int (nI 0), .int (nI 0), .int (nI 0), .int (nI 0), .int (nI 0), .int (nI 0), .int (nI 0)]))]) (run_SW hnc (rest := []) hx hb hml hown hts hK hP hD hS hA hm (C1231_finish l G D K hl0 H.size h0 h1 a12 (.ref a0) (.ref a1) (.ref a2) (.ref a3) (.ref a4) (.ref a5) (.ref a6) (.int (nI 0)) (.ref a0) (.ref a1)) [0, 1] rfl rfl mokh_yL_finish w_1049 w_1050 ⟨Nat.le_of_ble_eq_true rfl, Nat.le_of_ble_eq_true rfl⟩ rfl hl.1 rfl (Nat.le_of_ble_eq_true rfl) dL_law_1026 ⟨(by dsimp only [room_1]; omega), (by dsimp only [room_1]; omega)⟩) hP hD hS hA [0, 1] [2, 3] rfl rfl rfl (by decide) (w2 := fun u0 => [(h2, .inr (12, [.int (nI 0), .ref h3])), (h3, .inr (10, [.ref a7, .ref a8, .ref a9, .ref a10, .ref a11, .int (nI 0), .int (nI 0), .int (nI 60), .int (nI 0), .int (nI 2), .int (nI 0), .int (nI 0), .int (nI 0), .int (nI 0), .int (nI 0), .int (nI 0), .int (nI 0)]))]) (fun _ => rfl) (fun u0 H locs hP hD hS => ?_)
  refine lv_istore (lv' := [(5, .int (nI 1)), (0, .ref b), (1, .ref h0), (2, .ref h2), (3, .ref a12), (4, .int (nI 0))]) hx hb dL_law_1029 hl (by decide) rfl (fun ls hl => ?_)
  refine lv_aload_n hx hb dL_law_1031 rfl (lv_at hl 3 rfl) ?_
  refine k_i (wr := []) (run_V (rest := []) hx hb hml hown hts hK hP hD hS hA hm (C834_finish l G D K H.size h2 h3 (.ref a7) (.ref a8) (.ref a9) (.ref a10) (.ref a11) (.int (nI 0)) (.int (nI 0)) (.int (nI 60)) (.int (nI 0)) (.int (nI 2)) (.int (nI 0)) (.int (nI 0)) (.int (nI 0)) (.int (nI 0)) (.int (nI 0)) (.int (nI 0))) [0, 1] rfl rfl mok_yX12_finish w_1987 w_1988 w_1989 (rcv hK hP 0 rfl rfl rfl) ⟨Nat.le_of_ble_eq_true rfl, Nat.le_of_ble_eq_true rfl⟩ rfl hl.1 rfl (Nat.le_of_ble_eq_true rfl) dL_law_1032 ⟨(by dsimp only [room_1]; omega), (by dsimp only [room_1]; omega)⟩) hP hD hS hA [0, 1] [] rfl rfl rfl (by decide) (w2 := fun u1 => [(h3, .inr (10, [.ref a7, .ref a8, .ref a9, .ref a10, .ref a11, .int (nI 0), .int (nI 0), .int (nI 60), .int (nI 0), .int (nI 2), .int (nI 0), .int (nI 0), .int (nI 0), .int (nI 0), .int (nI 0), .int (nI 0), .int (nI 0)])), (h2, .inr (12, [.int (nI 1), .ref h3]))]) (fun _ => rfl) (fun u1 H locs hP hD hS => ?_)
  refine lv_istore (lv' := [(6, .int (nI 0)), (5, .int (nI 1)), (0, .ref b), (1, .ref h0), (2, .ref h2), (3, .ref a12), (4, .int (nI 0))]) hx hb dL_law_1035 hl (by decide) rfl (fun ls hl => ?_)
  refine lv_aload_n hx hb dL_law_1037 rfl (lv_at hl 4 rfl) ?_
  refine k_i (wr := [(h3, .inr (10, [.ref a7, .ref a8, .ref a9, .ref a10, .ref a11, .int (nI 0), .int (nI 0), .int (nI 60), .int (nI 0), .int (nI 2), .int (nI 0), .int (nI 0), .int (nI 0), .int (nI 0), .int (nI 0), .int (nI 0), .int (nI 0)]))]) (run_V (rest := []) hx hb hml hown hts hK hP hD hS hA hm (C1059_thrown l G D K H.size h2 (.ref h3)) [1] rfl rfl mok_yX12_thrown w_1300 w_1301 w_1302 (rcv hK hP 1 rfl rfl rfl) ⟨Nat.le_of_ble_eq_true rfl, Nat.le_of_ble_eq_true rfl⟩ rfl hl.1 rfl (Nat.le_of_ble_eq_true rfl) dL_law_1038 ⟨(by dsimp only [room_1]; omega), (by dsimp only [room_1]; omega)⟩) hP hD hS hA [1] [0] rfl rfl rfl (by decide) (w2 := fun u2 => [(h3, .inr (10, [.ref a7, .ref a8, .ref a9, .ref a10, .ref a11, .int (nI 0), .int (nI 0), .int (nI 60), .int (nI 0), .int (nI 2), .int (nI 0), .int (nI 0), .int (nI 0), .int (nI 0), .int (nI 0), .int (nI 0), .int (nI 0)])), (h2, .inr (12, [.int (nI 1), .ref h3]))]) (fun _ => rfl) (fun u2 H locs hP hD hS => ?_)
  refine lv_iload hx hb dL_law_1041 (lv_at hl 1 rfl) ?_
  refine lv_icmp_eq (tgt := 1048) hx hb dL_law_1043 (by decide) (fun _ => ?_) (fun c9 => absurd (by decide +kernel) c9)
  refine lv_iload hx hb dL_law_1048 (lv_at hl 1 rfl) ?_
  refine lv_if_ne (tgt := 1065) hx hb dL_law_1050 (by decide) (fun _ => ?_) (fun c9 => absurd c9 (by decide +kernel))
  refine lv_goto (tgt := 1762) hx hb dL_law_1065 (by decide) ?_
  refine lv_iinc (v := nI 4) (lv' := [(4, .int (nI 4)), (6, .int (nI 0)), (5, .int (nI 1)), (0, .ref b), (1, .ref h0), (2, .ref h2), (3, .ref a12)]) hx hb dL_law_1762 hl (k := 6) rfl (by decide +kernel) (by decide) rfl (fun ls hl => ?_)
  refine lv_goto (tgt := 23) hx hb dL_law_1765 (by decide) ?_
  refine lv_iload hx hb dL_law_23 (lv_at hl 0 rfl) ?_
  refine lv_aload_n hx hb dL_law_25 rfl (lv_at hl 3 rfl) ?_
  refine va_slen hx hb hX hbl hbA hS dL_law_26 ?_
  refine w_toeq (show Int32.ofNat 4 = nI 4 from rfl) ?_
  refine lv_iconst (v := nI 4) hx hb dL_law_27 (by decide +kernel) ?_
  refine lv_isub hx hb dL_law_28 ?_
  refine w_toeq (show (nI 4) - (nI 4) = nI 0 by decide +kernel) ?_
  refine lv_icmp_gt (tgt := 1768) hx hb dL_law_29 (by decide) (fun _ => ?_) (fun c9 => absurd (by decide +kernel) c9)
  refine lv_iconst (v := nI 1) hx hb dL_law_1768 (by decide +kernel) ?_
  exact law_end hx hb hr hlk hS (by dsimp only; omega) (by dsimp only; omega) dL_law_1769
set_option maxHeartbeats 4000000 in
set_option maxRecDepth 100000 in
theorem LW177_tenure {p : Program} {e : Env} {s : State} {m : MethodId} {below : List Frame} {meth : Method} {c : Code} {l : Launch} {G : Nat → Nat} {D : va_G} {K : Nat → ClassId} {b : Nat} {xs : Nat → Int32} (hx : p.tables.exec = Jvm.exec) (hb : c.code = cL_law) (hr : meth.sig.returnType = some .boolean) (hlk : meth.locks = false) (hl0 : l.stackTraces = false) (hnc : Ncs s) (hml : c.maxLocals = 9) (hown : s.vm.findClass RL = some m.cls) (hts : ∀ w ∈ lw_gw, w.before #[Value.ref b] s = true) (hK : va_K D cl (tys K) s) (hm : Amb G (fun q : Nat => s.heap.size ≤ q) s s.heap) (hX : va_X b 4 xs s s.heap) (hbl : b < s.heap.size) {h0 h1 a0 a1 a2 a3 a4 a5 a6 a7 a8 a9 : Nat} (ya : Int32) (hya : ya < 0) (hx1 : xs 1 = ya) {H : Heap} {locs : List Loc} {cells slots : Nat} (hcs : cells ≤ 1000) (hss : slots ≤ 100000) (hP : va_P D cl [(h0, .inr (9, [.ref a0, .ref a1, .ref a2, .ref a3, .ref a4, .ref a5, .ref a6, .ref a7, .int (nI 0)])), (h1, .inr (12, [.int (nI 0), .ref a8]))] H) (hD : va_D (fun q : Nat => s.heap.size ≤ q) [(h0, .inr (9, [.ref a0, .ref a1, .ref a2, .ref a3, .ref a4, .ref a5, .ref a6, .ref a7, .int (nI 0)])), (h1, .inr (12, [.int (nI 0), .ref a8]))]) (hS : va_S (fun q : Nat => s.heap.size ≤ q) s.heap H locs) {ls : Array Slot} (hl : lv_has ls 9 [(0, .ref b), (1, .ref h0), (2, .ref h1), (3, .ref a9), (4, .int (nI 0))]) : W p l e room_1 s m #[Value.ref b] below meth c H locs cells slots (lw_Z below #[Value.ref b] s) (F0 m 1068 ls []) := by
  have hA : ∀ q : Nat, s.heap.size ≤ q → (fun q : Nat => s.heap.size ≤ q) q := fun _ h => h
  have hbA : ¬ (fun q : Nat => s.heap.size ≤ q) b := Nat.not_le.mpr hbl
  refine lv_aload_n hx hb dL_law_1068 rfl (lv_at hl 1 rfl) ?_
  refine lv_aload_n hx hb dL_law_1069 rfl (lv_at hl 0 rfl) ?_
  refine lv_iload hx hb dL_law_1070 (lv_at hl 4 rfl) ?_
  refine lv_iconst (v := nI 1) hx hb dL_law_1072 (by decide +kernel) ?_
  refine lv_iadd hx hb dL_law_1073 ?_
  refine w_toeq (show (nI 0) + (nI 1) = nI 1 by decide +kernel) ?_
  refine va_sld hx hb hX hbl hbA hS (vp_in_nI (n := 1) (by decide) (by decide)) dL_law_1074 ?_
  refine w_toeq (show xs (nI 1).toNatClampNeg = ya by rw [nI_clamp (n := 1) (by decide)]; exact hx1) ?_
  refine lv_aload_n hx hb dL_law_1075 rfl (lv_at hl 3 rfl) ?_
  refine k_i (wr := [(h1, .inr (12, [.int (nI 0), .ref a8]))]) (run_SW hnc (rest := []) hx hb hml hown hts hK hP hD hS hA hm (C1232_tenure l G D K hl0 H.size h0 a9 (.ref a0) (.ref a1) (.ref a2) (.ref a3) (.ref a4) (.ref a5) (.ref a6) (.ref a7) (.int (nI 0)) ya hya) [0] rfl rfl mokh_yL_tenure w_1061 w_1062 ⟨Nat.le_of_ble_eq_true rfl, Nat.le_of_ble_eq_true rfl⟩ rfl hl.1 rfl (Nat.le_of_ble_eq_true rfl) dL_law_1076 ⟨(by dsimp only [room_1]; omega), (by dsimp only [room_1]; omega)⟩) hP hD hS hA [0] [1] rfl rfl rfl (by decide) (w2 := fun u0 => [(h1, .inr (12, [.int (nI 0), .ref a8])), (h0, .inr (9, [.ref a0, .ref a1, .ref a2, .ref a3, .ref a4, .ref a5, .ref a6, .ref a7, .int (nI 0)]))]) (fun _ => rfl) (fun u0 H locs hP hD hS => ?_)
  refine lv_istore (lv' := [(5, .int (nI 1)), (0, .ref b), (1, .ref h0), (2, .ref h1), (3, .ref a9), (4, .int (nI 0))]) hx hb dL_law_1079 hl (by decide) rfl (fun ls hl => ?_)
  refine lv_aload_n hx hb dL_law_1081 rfl (lv_at hl 3 rfl) ?_
  refine lv_aload_n hx hb dL_law_1082 rfl (lv_at hl 1 rfl) ?_
  refine lv_iload hx hb dL_law_1083 (lv_at hl 5 rfl) ?_
  refine lv_iconst (v := nI 1) hx hb dL_law_1085 (by decide +kernel) ?_
  refine lv_iadd hx hb dL_law_1086 ?_
  refine w_toeq (show (nI 0) + (nI 1) = nI 1 by decide +kernel) ?_
  refine va_sld hx hb hX hbl hbA hS (vp_in_nI (n := 1) (by decide) (by decide)) dL_law_1087 ?_
  refine w_toeq (show xs (nI 1).toNatClampNeg = ya by rw [nI_clamp (n := 1) (by decide)]; exact hx1) ?_
  refine k_i (wr := [(h0, .inr (9, [.ref a0, .ref a1, .ref a2, .ref a3, .ref a4, .ref a5, .ref a6, .ref a7, .int (nI 0)]))]) (run_V (rest := []) hx hb hml hown hts hK hP hD hS hA hm (C849_tenure l G D K H.size h1 (.ref a8) ya hya) [0] rfl rfl mok_yX12_tenure w_1997 w_1998 w_1999 (rcv hK hP 0 rfl rfl rfl) ⟨Nat.le_of_ble_eq_true rfl, Nat.le_of_ble_eq_true rfl⟩ rfl hl.1 rfl (Nat.le_of_ble_eq_true rfl) dL_law_1088 ⟨(by dsimp only [room_1]; omega), (by dsimp only [room_1]; omega)⟩) hP hD hS hA [0] [1] rfl rfl rfl (by decide) (w2 := fun u1 => [(h0, .inr (9, [.ref a0, .ref a1, .ref a2, .ref a3, .ref a4, .ref a5, .ref a6, .ref a7, .int (nI 0)])), (h1, .inr (12, [.int (nI 1), .ref a8]))]) (fun _ => rfl) (fun u1 H locs hP hD hS => ?_)
  refine lv_istore (lv' := [(6, .int (nI 0)), (5, .int (nI 1)), (0, .ref b), (1, .ref h0), (2, .ref h1), (3, .ref a9), (4, .int (nI 0))]) hx hb dL_law_1091 hl (by decide) rfl (fun ls hl => ?_)
  refine lv_aload_n hx hb dL_law_1093 rfl (lv_at hl 4 rfl) ?_
  refine k_i (wr := [(h0, .inr (9, [.ref a0, .ref a1, .ref a2, .ref a3, .ref a4, .ref a5, .ref a6, .ref a7, .int (nI 0)]))]) (run_V (rest := []) hx hb hml hown hts hK hP hD hS hA hm (C1059_thrown l G D K H.size h1 (.ref a8)) [1] rfl rfl mok_yX12_thrown w_1300 w_1301 w_1302 (rcv hK hP 1 rfl rfl rfl) ⟨Nat.le_of_ble_eq_true rfl, Nat.le_of_ble_eq_true rfl⟩ rfl hl.1 rfl (Nat.le_of_ble_eq_true rfl) dL_law_1094 ⟨(by dsimp only [room_1]; omega), (by dsimp only [room_1]; omega)⟩) hP hD hS hA [1] [0] rfl rfl rfl (by decide) (w2 := fun u2 => [(h0, .inr (9, [.ref a0, .ref a1, .ref a2, .ref a3, .ref a4, .ref a5, .ref a6, .ref a7, .int (nI 0)])), (h1, .inr (12, [.int (nI 1), .ref a8]))]) (fun _ => rfl) (fun u2 H locs hP hD hS => ?_)
  refine lv_iload hx hb dL_law_1097 (lv_at hl 1 rfl) ?_
  refine lv_icmp_eq (tgt := 1104) hx hb dL_law_1099 (by decide) (fun _ => ?_) (fun c9 => absurd (by decide +kernel) c9)
  refine lv_iload hx hb dL_law_1104 (lv_at hl 1 rfl) ?_
  refine lv_if_ne (tgt := 1121) hx hb dL_law_1106 (by decide) (fun _ => ?_) (fun c9 => absurd c9 (by decide +kernel))
  refine lv_goto (tgt := 1762) hx hb dL_law_1121 (by decide) ?_
  refine lv_iinc (v := nI 4) (lv' := [(4, .int (nI 4)), (6, .int (nI 0)), (5, .int (nI 1)), (0, .ref b), (1, .ref h0), (2, .ref h1), (3, .ref a9)]) hx hb dL_law_1762 hl (k := 6) rfl (by decide +kernel) (by decide) rfl (fun ls hl => ?_)
  refine lv_goto (tgt := 23) hx hb dL_law_1765 (by decide) ?_
  refine lv_iload hx hb dL_law_23 (lv_at hl 0 rfl) ?_
  refine lv_aload_n hx hb dL_law_25 rfl (lv_at hl 3 rfl) ?_
  refine va_slen hx hb hX hbl hbA hS dL_law_26 ?_
  refine w_toeq (show Int32.ofNat 4 = nI 4 from rfl) ?_
  refine lv_iconst (v := nI 4) hx hb dL_law_27 (by decide +kernel) ?_
  refine lv_isub hx hb dL_law_28 ?_
  refine w_toeq (show (nI 4) - (nI 4) = nI 0 by decide +kernel) ?_
  refine lv_icmp_gt (tgt := 1768) hx hb dL_law_29 (by decide) (fun _ => ?_) (fun c9 => absurd (by decide +kernel) c9)
  refine lv_iconst (v := nI 1) hx hb dL_law_1768 (by decide +kernel) ?_
  exact law_end hx hb hr hlk hS (by dsimp only; omega) (by dsimp only; omega) dL_law_1769
set_option maxHeartbeats 4000000 in
set_option maxRecDepth 100000 in
theorem LW178_tenure {p : Program} {e : Env} {s : State} {m : MethodId} {below : List Frame} {meth : Method} {c : Code} {l : Launch} {G : Nat → Nat} {D : va_G} {K : Nat → ClassId} {b : Nat} {xs : Nat → Int32} (hx : p.tables.exec = Jvm.exec) (hb : c.code = cL_law) (hr : meth.sig.returnType = some .boolean) (hlk : meth.locks = false) (hl0 : l.stackTraces = false) (hnc : Ncs s) (hml : c.maxLocals = 9) (hown : s.vm.findClass RL = some m.cls) (hts : ∀ w ∈ lw_gw, w.before #[Value.ref b] s = true) (hK : va_K D cl (tys K) s) (hm : Amb G (fun q : Nat => s.heap.size ≤ q) s s.heap) (hX : va_X b 4 xs s s.heap) (hbl : b < s.heap.size) {h0 h1 a0 a1 a2 a3 a4 a5 a6 a7 a8 a9 : Nat} (hx1 : xs 1 = nI 0) {H : Heap} {locs : List Loc} {cells slots : Nat} (hcs : cells ≤ 1000) (hss : slots ≤ 100000) (hP : va_P D cl [(h0, .inr (9, [.ref a0, .ref a1, .ref a2, .ref a3, .ref a4, .ref a5, .ref a6, .ref a7, .int (nI 0)])), (h1, .inr (12, [.int (nI 0), .ref a8]))] H) (hD : va_D (fun q : Nat => s.heap.size ≤ q) [(h0, .inr (9, [.ref a0, .ref a1, .ref a2, .ref a3, .ref a4, .ref a5, .ref a6, .ref a7, .int (nI 0)])), (h1, .inr (12, [.int (nI 0), .ref a8]))]) (hS : va_S (fun q : Nat => s.heap.size ≤ q) s.heap H locs) {ls : Array Slot} (hl : lv_has ls 9 [(0, .ref b), (1, .ref h0), (2, .ref h1), (3, .ref a9), (4, .int (nI 0))]) : W p l e room_1 s m #[Value.ref b] below meth c H locs cells slots (lw_Z below #[Value.ref b] s) (F0 m 1068 ls []) := by
  have hA : ∀ q : Nat, s.heap.size ≤ q → (fun q : Nat => s.heap.size ≤ q) q := fun _ h => h
  have hbA : ¬ (fun q : Nat => s.heap.size ≤ q) b := Nat.not_le.mpr hbl
  refine lv_aload_n hx hb dL_law_1068 rfl (lv_at hl 1 rfl) ?_
  refine lv_aload_n hx hb dL_law_1069 rfl (lv_at hl 0 rfl) ?_
  refine lv_iload hx hb dL_law_1070 (lv_at hl 4 rfl) ?_
  refine lv_iconst (v := nI 1) hx hb dL_law_1072 (by decide +kernel) ?_
  refine lv_iadd hx hb dL_law_1073 ?_
  refine w_toeq (show (nI 0) + (nI 1) = nI 1 by decide +kernel) ?_
  refine va_sld hx hb hX hbl hbA hS (vp_in_nI (n := 1) (by decide) (by decide)) dL_law_1074 ?_
  refine w_toeq (show xs (nI 1).toNatClampNeg = nI 0 by rw [nI_clamp (n := 1) (by decide)]; exact hx1) ?_
  refine lv_aload_n hx hb dL_law_1075 rfl (lv_at hl 3 rfl) ?_
  refine k_i (wr := [(h1, .inr (12, [.int (nI 0), .ref a8]))]) (run_SW hnc (rest := []) hx hb hml hown hts hK hP hD hS hA hm (C1233_tenure l G D K hl0 H.size h0 a9 (.ref a0) (.ref a1) (.ref a2) (.ref a3) (.ref a4) (.ref a5) (.ref a6) (.ref a7) (.int (nI 0))) [0] rfl rfl mokh_yL_tenure w_1061 w_1062 ⟨Nat.le_of_ble_eq_true rfl, Nat.le_of_ble_eq_true rfl⟩ rfl hl.1 rfl (Nat.le_of_ble_eq_true rfl) dL_law_1076 ⟨(by dsimp only [room_1]; omega), (by dsimp only [room_1]; omega)⟩) hP hD hS hA [0] [1] rfl rfl rfl (by decide) (w2 := fun u0 => [(h1, .inr (12, [.int (nI 0), .ref a8])), (h0, .inr (9, [.ref a0, .ref a1, .ref a2, .ref a3, .ref a4, .ref a5, .ref a6, .ref a7, .int (nI 0)]))]) (fun _ => rfl) (fun u0 H locs hP hD hS => ?_)
  refine lv_istore (lv' := [(5, .int (nI 1)), (0, .ref b), (1, .ref h0), (2, .ref h1), (3, .ref a9), (4, .int (nI 0))]) hx hb dL_law_1079 hl (by decide) rfl (fun ls hl => ?_)
  refine lv_aload_n hx hb dL_law_1081 rfl (lv_at hl 3 rfl) ?_
  refine lv_aload_n hx hb dL_law_1082 rfl (lv_at hl 1 rfl) ?_
  refine lv_iload hx hb dL_law_1083 (lv_at hl 5 rfl) ?_
  refine lv_iconst (v := nI 1) hx hb dL_law_1085 (by decide +kernel) ?_
  refine lv_iadd hx hb dL_law_1086 ?_
  refine w_toeq (show (nI 0) + (nI 1) = nI 1 by decide +kernel) ?_
  refine va_sld hx hb hX hbl hbA hS (vp_in_nI (n := 1) (by decide) (by decide)) dL_law_1087 ?_
  refine w_toeq (show xs (nI 1).toNatClampNeg = nI 0 by rw [nI_clamp (n := 1) (by decide)]; exact hx1) ?_
  refine k_i (wr := [(h0, .inr (9, [.ref a0, .ref a1, .ref a2, .ref a3, .ref a4, .ref a5, .ref a6, .ref a7, .int (nI 0)]))]) (run_V (rest := []) hx hb hml hown hts hK hP hD hS hA hm (C852_tenure l G D K H.size h1 (.ref a8)) [0] rfl rfl mok_yX12_tenure w_1997 w_1998 w_1999 (rcv hK hP 0 rfl rfl rfl) ⟨Nat.le_of_ble_eq_true rfl, Nat.le_of_ble_eq_true rfl⟩ rfl hl.1 rfl (Nat.le_of_ble_eq_true rfl) dL_law_1088 ⟨(by dsimp only [room_1]; omega), (by dsimp only [room_1]; omega)⟩) hP hD hS hA [0] [1] rfl rfl rfl (by decide) (w2 := fun u1 => [(h0, .inr (9, [.ref a0, .ref a1, .ref a2, .ref a3, .ref a4, .ref a5, .ref a6, .ref a7, .int (nI 0)])), (h1, .inr (12, [.int (nI 1), .ref a8]))]) (fun _ => rfl) (fun u1 H locs hP hD hS => ?_)
  refine lv_istore (lv' := [(6, .int (nI 0)), (5, .int (nI 1)), (0, .ref b), (1, .ref h0), (2, .ref h1), (3, .ref a9), (4, .int (nI 0))]) hx hb dL_law_1091 hl (by decide) rfl (fun ls hl => ?_)
  refine lv_aload_n hx hb dL_law_1093 rfl (lv_at hl 4 rfl) ?_
  refine k_i (wr := [(h0, .inr (9, [.ref a0, .ref a1, .ref a2, .ref a3, .ref a4, .ref a5, .ref a6, .ref a7, .int (nI 0)]))]) (run_V (rest := []) hx hb hml hown hts hK hP hD hS hA hm (C1059_thrown l G D K H.size h1 (.ref a8)) [1] rfl rfl mok_yX12_thrown w_1300 w_1301 w_1302 (rcv hK hP 1 rfl rfl rfl) ⟨Nat.le_of_ble_eq_true rfl, Nat.le_of_ble_eq_true rfl⟩ rfl hl.1 rfl (Nat.le_of_ble_eq_true rfl) dL_law_1094 ⟨(by dsimp only [room_1]; omega), (by dsimp only [room_1]; omega)⟩) hP hD hS hA [1] [0] rfl rfl rfl (by decide) (w2 := fun u2 => [(h0, .inr (9, [.ref a0, .ref a1, .ref a2, .ref a3, .ref a4, .ref a5, .ref a6, .ref a7, .int (nI 0)])), (h1, .inr (12, [.int (nI 1), .ref a8]))]) (fun _ => rfl) (fun u2 H locs hP hD hS => ?_)
  refine lv_iload hx hb dL_law_1097 (lv_at hl 1 rfl) ?_
  refine lv_icmp_eq (tgt := 1104) hx hb dL_law_1099 (by decide) (fun _ => ?_) (fun c9 => absurd (by decide +kernel) c9)
  refine lv_iload hx hb dL_law_1104 (lv_at hl 1 rfl) ?_
  refine lv_if_ne (tgt := 1121) hx hb dL_law_1106 (by decide) (fun _ => ?_) (fun c9 => absurd c9 (by decide +kernel))
  refine lv_goto (tgt := 1762) hx hb dL_law_1121 (by decide) ?_
  refine lv_iinc (v := nI 4) (lv' := [(4, .int (nI 4)), (6, .int (nI 0)), (5, .int (nI 1)), (0, .ref b), (1, .ref h0), (2, .ref h1), (3, .ref a9)]) hx hb dL_law_1762 hl (k := 6) rfl (by decide +kernel) (by decide) rfl (fun ls hl => ?_)
  refine lv_goto (tgt := 23) hx hb dL_law_1765 (by decide) ?_
  refine lv_iload hx hb dL_law_23 (lv_at hl 0 rfl) ?_
  refine lv_aload_n hx hb dL_law_25 rfl (lv_at hl 3 rfl) ?_
  refine va_slen hx hb hX hbl hbA hS dL_law_26 ?_
  refine w_toeq (show Int32.ofNat 4 = nI 4 from rfl) ?_
  refine lv_iconst (v := nI 4) hx hb dL_law_27 (by decide +kernel) ?_
  refine lv_isub hx hb dL_law_28 ?_
  refine w_toeq (show (nI 4) - (nI 4) = nI 0 by decide +kernel) ?_
  refine lv_icmp_gt (tgt := 1768) hx hb dL_law_29 (by decide) (fun _ => ?_) (fun c9 => absurd (by decide +kernel) c9)
  refine lv_iconst (v := nI 1) hx hb dL_law_1768 (by decide +kernel) ?_
  exact law_end hx hb hr hlk hS (by dsimp only; omega) (by dsimp only; omega) dL_law_1769
set_option maxHeartbeats 4000000 in
set_option maxRecDepth 100000 in
theorem LW179_tenure {p : Program} {e : Env} {s : State} {m : MethodId} {below : List Frame} {meth : Method} {c : Code} {l : Launch} {G : Nat → Nat} {D : va_G} {K : Nat → ClassId} {b : Nat} {xs : Nat → Int32} (hx : p.tables.exec = Jvm.exec) (hb : c.code = cL_law) (hr : meth.sig.returnType = some .boolean) (hlk : meth.locks = false) (hl0 : l.stackTraces = false) (hnc : Ncs s) (hml : c.maxLocals = 9) (hown : s.vm.findClass RL = some m.cls) (hts : ∀ w ∈ lw_gw, w.before #[Value.ref b] s = true) (hK : va_K D cl (tys K) s) (hm : Amb G (fun q : Nat => s.heap.size ≤ q) s s.heap) (hX : va_X b 4 xs s s.heap) (hbl : b < s.heap.size) {h0 h1 h2 h3 h4 a0 a1 a2 a3 a4 a5 a6 a7 a8 a9 a10 a11 a12 : Nat} (ya : Nat) (lya : 1 ≤ ya) (gya : ya ≤ 9) (hx1 : xs 1 = nI ya) {H : Heap} {locs : List Loc} {cells slots : Nat} (hcs : cells ≤ 1000) (hss : slots ≤ 100000) (hP : va_P D cl [(h0, .inr (9, [.ref a0, .ref a1, .ref a2, .ref a3, .ref a4, .ref a5, .ref h1, .ref a6, .int (nI 0)])), (h1, .inr (2, [.int (nI 2), .ref a0, .ref a1, .ref a2, .ref a3, .ref a7, .int (nI 0), .int (nI 0), .int (nI 0)])), (h2, .inl (K 3, 1, .inr (.inl (fun _ => 0)))), (h3, .inr (12, [.int (nI 0), .ref h4])), (h4, .inr (10, [.ref a8, .ref a9, .ref a10, .ref a11, .ref a12, .int (nI 0), .int (nI 0), .int (nI 60), .int (nI 0), .int (nI 2), .int (nI 0), .int (nI 0), .int (nI 0), .int (nI 0), .int (nI 0), .int (nI 0), .int (nI 0)]))] H) (hD : va_D (fun q : Nat => s.heap.size ≤ q) [(h0, .inr (9, [.ref a0, .ref a1, .ref a2, .ref a3, .ref a4, .ref a5, .ref h1, .ref a6, .int (nI 0)])), (h1, .inr (2, [.int (nI 2), .ref a0, .ref a1, .ref a2, .ref a3, .ref a7, .int (nI 0), .int (nI 0), .int (nI 0)])), (h2, .inl (K 3, 1, .inr (.inl (fun _ => 0)))), (h3, .inr (12, [.int (nI 0), .ref h4])), (h4, .inr (10, [.ref a8, .ref a9, .ref a10, .ref a11, .ref a12, .int (nI 0), .int (nI 0), .int (nI 60), .int (nI 0), .int (nI 2), .int (nI 0), .int (nI 0), .int (nI 0), .int (nI 0), .int (nI 0), .int (nI 0), .int (nI 0)]))]) (hS : va_S (fun q : Nat => s.heap.size ≤ q) s.heap H locs) {ls : Array Slot} (hl : lv_has ls 9 [(0, .ref b), (1, .ref h0), (2, .ref h3), (3, .ref h2), (4, .int (nI 0))]) : W p l e room_1 s m #[Value.ref b] below meth c H locs cells slots (lw_Z below #[Value.ref b] s) (F0 m 1068 ls []) := by
  have hA : ∀ q : Nat, s.heap.size ≤ q → (fun q : Nat => s.heap.size ≤ q) q := fun _ h => h
  have hbA : ¬ (fun q : Nat => s.heap.size ≤ q) b := Nat.not_le.mpr hbl
  refine lv_aload_n hx hb dL_law_1068 rfl (lv_at hl 1 rfl) ?_
  refine lv_aload_n hx hb dL_law_1069 rfl (lv_at hl 0 rfl) ?_
  refine lv_iload hx hb dL_law_1070 (lv_at hl 4 rfl) ?_
  refine lv_iconst (v := nI 1) hx hb dL_law_1072 (by decide +kernel) ?_
  refine lv_iadd hx hb dL_law_1073 ?_
  refine w_toeq (show (nI 0) + (nI 1) = nI 1 by decide +kernel) ?_
  refine va_sld hx hb hX hbl hbA hS (vp_in_nI (n := 1) (by decide) (by decide)) dL_law_1074 ?_
  refine w_toeq (show xs (nI 1).toNatClampNeg = nI ya by rw [nI_clamp (n := 1) (by decide)]; exact hx1) ?_
  refine lv_aload_n hx hb dL_law_1075 rfl (lv_at hl 3 rfl) ?_
  refine k_i (wr := [(h3, .inr (12, [.int (nI 0), .ref h4])), (h4, .inr (10, [.ref a8, .ref a9, .ref a10, .ref a11, .ref a12, .int (nI 0), .int (nI 0), .int (nI 60), .int (nI 0), .int (nI 2), .int (nI 0), .int (nI 0), .int (nI 0), .int (nI 0), .int (nI 0), .int (nI 0), .int (nI 0)]))]) (run_SW hnc (rest := []) hx hb hml hown hts hK hP hD hS hA hm (C1234_tenure l G D K H.size h0 h1 h2 (.ref a0) (.ref a1) (.ref a2) (.ref a3) (.ref a4) (.ref a5) (.ref a6) (.int (nI 0)) (.ref a0) (.ref a1) (.ref a2) (.ref a3) (.ref a7) (.int (nI 0)) (.int (nI 0)) (.int (nI 0)) (fun _ => 0) ya (by omega) (by omega)) [0, 1, 2] rfl rfl mokh_yL_tenure w_1061 w_1062 ⟨Nat.le_of_ble_eq_true rfl, Nat.le_of_ble_eq_true rfl⟩ rfl hl.1 rfl (Nat.le_of_ble_eq_true rfl) dL_law_1076 ⟨(by dsimp only [room_1]; omega), (by dsimp only [room_1]; omega)⟩) hP hD hS hA [0, 1, 2] [3, 4] rfl rfl rfl (by decide) (w2 := fun u0 => [(h3, .inr (12, [.int (nI 0), .ref h4])), (h4, .inr (10, [.ref a8, .ref a9, .ref a10, .ref a11, .ref a12, .int (nI 0), .int (nI 0), .int (nI 60), .int (nI 0), .int (nI 2), .int (nI 0), .int (nI 0), .int (nI 0), .int (nI 0), .int (nI 0), .int (nI 0), .int (nI 0)])), (h2, .inl (K 3, 1, .inr (.inl (vp_updL (fun _ => 0) 0 2)))), (h0, .inr (9, [.ref a0, .ref a1, .ref a2, .ref a3, .ref a4, .ref a5, .ref h1, .ref a6, .int (nI 0)])), (h1, .inr (2, [.int (nI ya), .ref a0, .ref a1, .ref a2, .ref a3, .ref a7, .int (nI 0), .int (nI 0), .int (nI 0)]))]) (fun _ => rfl) (fun u0 H locs hP hD hS => ?_)
  refine lv_istore (lv' := [(5, .int (nI 0)), (0, .ref b), (1, .ref h0), (2, .ref h3), (3, .ref h2), (4, .int (nI 0))]) hx hb dL_law_1079 hl (by decide) rfl (fun ls hl => ?_)
  refine lv_aload_n hx hb dL_law_1081 rfl (lv_at hl 3 rfl) ?_
  refine lv_aload_n hx hb dL_law_1082 rfl (lv_at hl 1 rfl) ?_
  refine lv_iload hx hb dL_law_1083 (lv_at hl 5 rfl) ?_
  refine lv_iconst (v := nI 1) hx hb dL_law_1085 (by decide +kernel) ?_
  refine lv_iadd hx hb dL_law_1086 ?_
  refine w_toeq (show (nI 0) + (nI 1) = nI 1 by decide +kernel) ?_
  refine va_sld hx hb hX hbl hbA hS (vp_in_nI (n := 1) (by decide) (by decide)) dL_law_1087 ?_
  refine w_toeq (show xs (nI 1).toNatClampNeg = nI ya by rw [nI_clamp (n := 1) (by decide)]; exact hx1) ?_
  refine k_i (wr := [(h2, .inl (K 3, 1, .inr (.inl (vp_updL (fun _ => 0) 0 2)))), (h0, .inr (9, [.ref a0, .ref a1, .ref a2, .ref a3, .ref a4, .ref a5, .ref h1, .ref a6, .int (nI 0)])), (h1, .inr (2, [.int (nI ya), .ref a0, .ref a1, .ref a2, .ref a3, .ref a7, .int (nI 0), .int (nI 0), .int (nI 0)]))]) (run_V (rest := []) hx hb hml hown hts hK hP hD hS hA hm (C855_tenure l G D K H.size h3 h4 (.ref a8) (.ref a9) (.ref a10) (.ref a11) (.ref a12) (.int (nI 0)) (.int (nI 0)) (.int (nI 60)) (.int (nI 0)) (.int (nI 0)) (.int (nI 0)) (.int (nI 0)) (.int (nI 0)) (.int (nI 0)) (.int (nI 0)) (.int (nI 0)) ya (by omega) (by omega)) [0, 1] rfl rfl mok_yX12_tenure w_1997 w_1998 w_1999 (rcv hK hP 0 rfl rfl rfl) ⟨Nat.le_of_ble_eq_true rfl, Nat.le_of_ble_eq_true rfl⟩ rfl hl.1 rfl (Nat.le_of_ble_eq_true rfl) dL_law_1088 ⟨(by dsimp only [room_1]; omega), (by dsimp only [room_1]; omega)⟩) hP hD hS hA [0, 1] [2, 3, 4] rfl rfl rfl (by decide) (w2 := fun u1 => [(h2, .inl (K 3, 1, .inr (.inl (vp_updL (fun _ => 0) 0 2)))), (h0, .inr (9, [.ref a0, .ref a1, .ref a2, .ref a3, .ref a4, .ref a5, .ref h1, .ref a6, .int (nI 0)])), (h1, .inr (2, [.int (nI ya), .ref a0, .ref a1, .ref a2, .ref a3, .ref a7, .int (nI 0), .int (nI 0), .int (nI 0)])), (h4, .inr (10, [.ref a8, .ref a9, .ref a10, .ref a11, .ref a12, .int (nI 0), .int (nI 0), .int (nI 60), .int (nI 0), .int (nI ya), .int (nI 0), .int (nI 0), .int (nI 0), .int (nI 0), .int (nI 0), .int (nI 0), .int (nI 0)])), (h3, .inr (12, [.int (nI 0), .ref h4]))]) (fun _ => rfl) (fun u1 H locs hP hD hS => ?_)
  refine lv_istore (lv' := [(6, .int (nI 2)), (5, .int (nI 0)), (0, .ref b), (1, .ref h0), (2, .ref h3), (3, .ref h2), (4, .int (nI 0))]) hx hb dL_law_1091 hl (by decide) rfl (fun ls hl => ?_)
  refine lv_aload_n hx hb dL_law_1093 rfl (lv_at hl 4 rfl) ?_
  refine k_i (wr := [(h2, .inl (K 3, 1, .inr (.inl (vp_updL (fun _ => 0) 0 2)))), (h0, .inr (9, [.ref a0, .ref a1, .ref a2, .ref a3, .ref a4, .ref a5, .ref h1, .ref a6, .int (nI 0)])), (h1, .inr (2, [.int (nI ya), .ref a0, .ref a1, .ref a2, .ref a3, .ref a7, .int (nI 0), .int (nI 0), .int (nI 0)])), (h4, .inr (10, [.ref a8, .ref a9, .ref a10, .ref a11, .ref a12, .int (nI 0), .int (nI 0), .int (nI 60), .int (nI 0), .int (nI ya), .int (nI 0), .int (nI 0), .int (nI 0), .int (nI 0), .int (nI 0), .int (nI 0), .int (nI 0)]))]) (run_V (rest := []) hx hb hml hown hts hK hP hD hS hA hm (C1057_thrown l G D K H.size h3 (.ref h4)) [4] rfl rfl mok_yX12_thrown w_1300 w_1301 w_1302 (rcv hK hP 4 rfl rfl rfl) ⟨Nat.le_of_ble_eq_true rfl, Nat.le_of_ble_eq_true rfl⟩ rfl hl.1 rfl (Nat.le_of_ble_eq_true rfl) dL_law_1094 ⟨(by dsimp only [room_1]; omega), (by dsimp only [room_1]; omega)⟩) hP hD hS hA [4] [0, 1, 2, 3] rfl rfl rfl (by decide) (w2 := fun u2 => [(h2, .inl (K 3, 1, .inr (.inl (vp_updL (fun _ => 0) 0 2)))), (h0, .inr (9, [.ref a0, .ref a1, .ref a2, .ref a3, .ref a4, .ref a5, .ref h1, .ref a6, .int (nI 0)])), (h1, .inr (2, [.int (nI ya), .ref a0, .ref a1, .ref a2, .ref a3, .ref a7, .int (nI 0), .int (nI 0), .int (nI 0)])), (h4, .inr (10, [.ref a8, .ref a9, .ref a10, .ref a11, .ref a12, .int (nI 0), .int (nI 0), .int (nI 60), .int (nI 0), .int (nI ya), .int (nI 0), .int (nI 0), .int (nI 0), .int (nI 0), .int (nI 0), .int (nI 0), .int (nI 0)])), (h3, .inr (12, [.int (nI 0), .ref h4]))]) (fun _ => rfl) (fun u2 H locs hP hD hS => ?_)
  refine lv_iload hx hb dL_law_1097 (lv_at hl 1 rfl) ?_
  refine lv_icmp_eq (tgt := 1104) hx hb dL_law_1099 (by decide) (fun _ => ?_) (fun c9 => absurd (by decide +kernel) c9)
  refine lv_iload hx hb dL_law_1104 (lv_at hl 1 rfl) ?_
  refine lv_if_ne (tgt := 1121) hx hb dL_law_1106 (by decide) (fun c9 => absurd (by decide +kernel) c9) (fun _ => ?_)
  refine lv_aload_n hx hb dL_law_1109 rfl (lv_at hl 5 rfl) ?_
  refine lv_iconst (v := nI 0) hx hb dL_law_1110 (by decide +kernel) ?_
  refine r_lald (k := 0) hx hb hK hP 0 3 rfl rfl (Nat.le_of_ble_eq_true rfl) (by decide) (v := 2) rfl dL_law_1111 ?_
  refine lv_iload hx hb dL_law_1112 (lv_at hl 0 rfl) ?_
  refine lv_i2l (v := 2) hx hb dL_law_1114 (by decide +kernel) ?_
  refine W.lcmp hx hb dL_law_1115 ?_
  refine w_toeq (show lg_cmp 2 2 = nI 0 by decide +kernel) ?_
  refine lv_if_eq (tgt := 1121) hx hb dL_law_1116 (by decide) (fun _ => ?_) (fun c9 => absurd (by decide +kernel) c9)
  refine lv_goto (tgt := 1762) hx hb dL_law_1121 (by decide) ?_
  refine lv_iinc (v := nI 4) (lv' := [(4, .int (nI 4)), (6, .int (nI 2)), (5, .int (nI 0)), (0, .ref b), (1, .ref h0), (2, .ref h3), (3, .ref h2)]) hx hb dL_law_1762 hl (k := 6) rfl (by decide +kernel) (by decide) rfl (fun ls hl => ?_)
  refine lv_goto (tgt := 23) hx hb dL_law_1765 (by decide) ?_
  refine lv_iload hx hb dL_law_23 (lv_at hl 0 rfl) ?_
  refine lv_aload_n hx hb dL_law_25 rfl (lv_at hl 3 rfl) ?_
  refine va_slen hx hb hX hbl hbA hS dL_law_26 ?_
  refine w_toeq (show Int32.ofNat 4 = nI 4 from rfl) ?_
  refine lv_iconst (v := nI 4) hx hb dL_law_27 (by decide +kernel) ?_
  refine lv_isub hx hb dL_law_28 ?_
  refine w_toeq (show (nI 4) - (nI 4) = nI 0 by decide +kernel) ?_
  refine lv_icmp_gt (tgt := 1768) hx hb dL_law_29 (by decide) (fun _ => ?_) (fun c9 => absurd (by decide +kernel) c9)
  refine lv_iconst (v := nI 1) hx hb dL_law_1768 (by decide +kernel) ?_
  exact law_end hx hb hr hlk hS (by dsimp only; omega) (by dsimp only; omega) dL_law_1769
set_option maxHeartbeats 4000000 in
set_option maxRecDepth 100000 in
theorem LW180_tenure {p : Program} {e : Env} {s : State} {m : MethodId} {below : List Frame} {meth : Method} {c : Code} {l : Launch} {G : Nat → Nat} {D : va_G} {K : Nat → ClassId} {b : Nat} {xs : Nat → Int32} (hx : p.tables.exec = Jvm.exec) (hb : c.code = cL_law) (hr : meth.sig.returnType = some .boolean) (hlk : meth.locks = false) (hl0 : l.stackTraces = false) (hnc : Ncs s) (hml : c.maxLocals = 9) (hown : s.vm.findClass RL = some m.cls) (hts : ∀ w ∈ lw_gw, w.before #[Value.ref b] s = true) (hK : va_K D cl (tys K) s) (hm : Amb G (fun q : Nat => s.heap.size ≤ q) s s.heap) (hX : va_X b 4 xs s s.heap) (hbl : b < s.heap.size) {h0 h1 a0 a1 a2 a3 a4 a5 a6 a7 a8 a9 : Nat} (ya : Nat) (lya : 10 ≤ ya) (gya : ya ≤ 2147483647) (hx1 : xs 1 = nI ya) {H : Heap} {locs : List Loc} {cells slots : Nat} (hcs : cells ≤ 1000) (hss : slots ≤ 100000) (hP : va_P D cl [(h0, .inr (9, [.ref a0, .ref a1, .ref a2, .ref a3, .ref a4, .ref a5, .ref a6, .ref a7, .int (nI 0)])), (h1, .inr (12, [.int (nI 0), .ref a8]))] H) (hD : va_D (fun q : Nat => s.heap.size ≤ q) [(h0, .inr (9, [.ref a0, .ref a1, .ref a2, .ref a3, .ref a4, .ref a5, .ref a6, .ref a7, .int (nI 0)])), (h1, .inr (12, [.int (nI 0), .ref a8]))]) (hS : va_S (fun q : Nat => s.heap.size ≤ q) s.heap H locs) {ls : Array Slot} (hl : lv_has ls 9 [(0, .ref b), (1, .ref h0), (2, .ref h1), (3, .ref a9), (4, .int (nI 0))]) : W p l e room_1 s m #[Value.ref b] below meth c H locs cells slots (lw_Z below #[Value.ref b] s) (F0 m 1068 ls []) := by
  have hA : ∀ q : Nat, s.heap.size ≤ q → (fun q : Nat => s.heap.size ≤ q) q := fun _ h => h
  have hbA : ¬ (fun q : Nat => s.heap.size ≤ q) b := Nat.not_le.mpr hbl
  refine lv_aload_n hx hb dL_law_1068 rfl (lv_at hl 1 rfl) ?_
  refine lv_aload_n hx hb dL_law_1069 rfl (lv_at hl 0 rfl) ?_
  refine lv_iload hx hb dL_law_1070 (lv_at hl 4 rfl) ?_
  refine lv_iconst (v := nI 1) hx hb dL_law_1072 (by decide +kernel) ?_
  refine lv_iadd hx hb dL_law_1073 ?_
  refine w_toeq (show (nI 0) + (nI 1) = nI 1 by decide +kernel) ?_
  refine va_sld hx hb hX hbl hbA hS (vp_in_nI (n := 1) (by decide) (by decide)) dL_law_1074 ?_
  refine w_toeq (show xs (nI 1).toNatClampNeg = nI ya by rw [nI_clamp (n := 1) (by decide)]; exact hx1) ?_
  refine lv_aload_n hx hb dL_law_1075 rfl (lv_at hl 3 rfl) ?_
  refine k_i (wr := [(h1, .inr (12, [.int (nI 0), .ref a8]))]) (run_SW hnc (rest := []) hx hb hml hown hts hK hP hD hS hA hm (C1235_tenure l G D K hl0 H.size h0 a9 (.ref a0) (.ref a1) (.ref a2) (.ref a3) (.ref a4) (.ref a5) (.ref a6) (.ref a7) (.int (nI 0)) ya (by omega) (by omega)) [0] rfl rfl mokh_yL_tenure w_1061 w_1062 ⟨Nat.le_of_ble_eq_true rfl, Nat.le_of_ble_eq_true rfl⟩ rfl hl.1 rfl (Nat.le_of_ble_eq_true rfl) dL_law_1076 ⟨(by dsimp only [room_1]; omega), (by dsimp only [room_1]; omega)⟩) hP hD hS hA [0] [1] rfl rfl rfl (by decide) (w2 := fun u0 => [(h1, .inr (12, [.int (nI 0), .ref a8])), (h0, .inr (9, [.ref a0, .ref a1, .ref a2, .ref a3, .ref a4, .ref a5, .ref a6, .ref a7, .int (nI 0)]))]) (fun _ => rfl) (fun u0 H locs hP hD hS => ?_)
  refine lv_istore (lv' := [(5, .int (nI 1)), (0, .ref b), (1, .ref h0), (2, .ref h1), (3, .ref a9), (4, .int (nI 0))]) hx hb dL_law_1079 hl (by decide) rfl (fun ls hl => ?_)
  refine lv_aload_n hx hb dL_law_1081 rfl (lv_at hl 3 rfl) ?_
  refine lv_aload_n hx hb dL_law_1082 rfl (lv_at hl 1 rfl) ?_
  refine lv_iload hx hb dL_law_1083 (lv_at hl 5 rfl) ?_
  refine lv_iconst (v := nI 1) hx hb dL_law_1085 (by decide +kernel) ?_
  refine lv_iadd hx hb dL_law_1086 ?_
  refine w_toeq (show (nI 0) + (nI 1) = nI 1 by decide +kernel) ?_
  refine va_sld hx hb hX hbl hbA hS (vp_in_nI (n := 1) (by decide) (by decide)) dL_law_1087 ?_
  refine w_toeq (show xs (nI 1).toNatClampNeg = nI ya by rw [nI_clamp (n := 1) (by decide)]; exact hx1) ?_
  refine k_i (wr := [(h0, .inr (9, [.ref a0, .ref a1, .ref a2, .ref a3, .ref a4, .ref a5, .ref a6, .ref a7, .int (nI 0)]))]) (run_V (rest := []) hx hb hml hown hts hK hP hD hS hA hm (C858_tenure l G D K H.size h1 (.ref a8) ya (by omega) (by omega)) [0] rfl rfl mok_yX12_tenure w_1997 w_1998 w_1999 (rcv hK hP 0 rfl rfl rfl) ⟨Nat.le_of_ble_eq_true rfl, Nat.le_of_ble_eq_true rfl⟩ rfl hl.1 rfl (Nat.le_of_ble_eq_true rfl) dL_law_1088 ⟨(by dsimp only [room_1]; omega), (by dsimp only [room_1]; omega)⟩) hP hD hS hA [0] [1] rfl rfl rfl (by decide) (w2 := fun u1 => [(h0, .inr (9, [.ref a0, .ref a1, .ref a2, .ref a3, .ref a4, .ref a5, .ref a6, .ref a7, .int (nI 0)])), (h1, .inr (12, [.int (nI 1), .ref a8]))]) (fun _ => rfl) (fun u1 H locs hP hD hS => ?_)
  refine lv_istore (lv' := [(6, .int (nI 0)), (5, .int (nI 1)), (0, .ref b), (1, .ref h0), (2, .ref h1), (3, .ref a9), (4, .int (nI 0))]) hx hb dL_law_1091 hl (by decide) rfl (fun ls hl => ?_)
  refine lv_aload_n hx hb dL_law_1093 rfl (lv_at hl 4 rfl) ?_
  refine k_i (wr := [(h0, .inr (9, [.ref a0, .ref a1, .ref a2, .ref a3, .ref a4, .ref a5, .ref a6, .ref a7, .int (nI 0)]))]) (run_V (rest := []) hx hb hml hown hts hK hP hD hS hA hm (C1059_thrown l G D K H.size h1 (.ref a8)) [1] rfl rfl mok_yX12_thrown w_1300 w_1301 w_1302 (rcv hK hP 1 rfl rfl rfl) ⟨Nat.le_of_ble_eq_true rfl, Nat.le_of_ble_eq_true rfl⟩ rfl hl.1 rfl (Nat.le_of_ble_eq_true rfl) dL_law_1094 ⟨(by dsimp only [room_1]; omega), (by dsimp only [room_1]; omega)⟩) hP hD hS hA [1] [0] rfl rfl rfl (by decide) (w2 := fun u2 => [(h0, .inr (9, [.ref a0, .ref a1, .ref a2, .ref a3, .ref a4, .ref a5, .ref a6, .ref a7, .int (nI 0)])), (h1, .inr (12, [.int (nI 1), .ref a8]))]) (fun _ => rfl) (fun u2 H locs hP hD hS => ?_)
  refine lv_iload hx hb dL_law_1097 (lv_at hl 1 rfl) ?_
  refine lv_icmp_eq (tgt := 1104) hx hb dL_law_1099 (by decide) (fun _ => ?_) (fun c9 => absurd (by decide +kernel) c9)
  refine lv_iload hx hb dL_law_1104 (lv_at hl 1 rfl) ?_
  refine lv_if_ne (tgt := 1121) hx hb dL_law_1106 (by decide) (fun _ => ?_) (fun c9 => absurd c9 (by decide +kernel))
  refine lv_goto (tgt := 1762) hx hb dL_law_1121 (by decide) ?_
  refine lv_iinc (v := nI 4) (lv' := [(4, .int (nI 4)), (6, .int (nI 0)), (5, .int (nI 1)), (0, .ref b), (1, .ref h0), (2, .ref h1), (3, .ref a9)]) hx hb dL_law_1762 hl (k := 6) rfl (by decide +kernel) (by decide) rfl (fun ls hl => ?_)
  refine lv_goto (tgt := 23) hx hb dL_law_1765 (by decide) ?_
  refine lv_iload hx hb dL_law_23 (lv_at hl 0 rfl) ?_
  refine lv_aload_n hx hb dL_law_25 rfl (lv_at hl 3 rfl) ?_
  refine va_slen hx hb hX hbl hbA hS dL_law_26 ?_
  refine w_toeq (show Int32.ofNat 4 = nI 4 from rfl) ?_
  refine lv_iconst (v := nI 4) hx hb dL_law_27 (by decide +kernel) ?_
  refine lv_isub hx hb dL_law_28 ?_
  refine w_toeq (show (nI 4) - (nI 4) = nI 0 by decide +kernel) ?_
  refine lv_icmp_gt (tgt := 1768) hx hb dL_law_29 (by decide) (fun _ => ?_) (fun c9 => absurd (by decide +kernel) c9)
  refine lv_iconst (v := nI 1) hx hb dL_law_1768 (by decide +kernel) ?_
  exact law_end hx hb hr hlk hS (by dsimp only; omega) (by dsimp only; omega) dL_law_1769
set_option maxHeartbeats 4000000 in
set_option maxRecDepth 100000 in
theorem LW181_at {p : Program} {e : Env} {s : State} {m : MethodId} {below : List Frame} {meth : Method} {c : Code} {l : Launch} {G : Nat → Nat} {D : va_G} {K : Nat → ClassId} {b : Nat} {xs : Nat → Int32} (hx : p.tables.exec = Jvm.exec) (hb : c.code = cL_law) (hr : meth.sig.returnType = some .boolean) (hlk : meth.locks = false) (hl0 : l.stackTraces = false) (hnc : Ncs s) (hml : c.maxLocals = 9) (hown : s.vm.findClass RL = some m.cls) (hts : ∀ w ∈ lw_gw, w.before #[Value.ref b] s = true) (hK : va_K D cl (tys K) s) (hm : Amb G (fun q : Nat => s.heap.size ≤ q) s s.heap) (hX : va_X b 4 xs s s.heap) (hbl : b < s.heap.size) {h0 h1 a0 a1 a2 a3 a4 a5 a6 a7 a8 a9 : Nat} (ya : Int32) (hya : ya < 0) (hx1 : xs 1 = ya) {H : Heap} {locs : List Loc} {cells slots : Nat} (hcs : cells ≤ 1000) (hss : slots ≤ 100000) (hP : va_P D cl [(h0, .inr (9, [.ref a0, .ref a1, .ref a2, .ref a3, .ref a4, .ref a5, .ref a6, .ref a7, .int (nI 0)])), (h1, .inr (12, [.int (nI 0), .ref a8]))] H) (hD : va_D (fun q : Nat => s.heap.size ≤ q) [(h0, .inr (9, [.ref a0, .ref a1, .ref a2, .ref a3, .ref a4, .ref a5, .ref a6, .ref a7, .int (nI 0)])), (h1, .inr (12, [.int (nI 0), .ref a8]))]) (hS : va_S (fun q : Nat => s.heap.size ≤ q) s.heap H locs) {ls : Array Slot} (hl : lv_has ls 9 [(0, .ref b), (1, .ref h0), (2, .ref h1), (3, .ref a9), (4, .int (nI 0))]) : W p l e room_1 s m #[Value.ref b] below meth c H locs cells slots (lw_Z below #[Value.ref b] s) (F0 m 1124 ls []) := by
  have hA : ∀ q : Nat, s.heap.size ≤ q → (fun q : Nat => s.heap.size ≤ q) q := fun _ h => h
  have hbA : ¬ (fun q : Nat => s.heap.size ≤ q) b := Nat.not_le.mpr hbl
  refine lv_aload_n hx hb dL_law_1124 rfl (lv_at hl 1 rfl) ?_
  refine lv_aload_n hx hb dL_law_1125 rfl (lv_at hl 0 rfl) ?_
  refine lv_iload hx hb dL_law_1126 (lv_at hl 4 rfl) ?_
  refine lv_iconst (v := nI 1) hx hb dL_law_1128 (by decide +kernel) ?_
  refine lv_iadd hx hb dL_law_1129 ?_
  refine w_toeq (show (nI 0) + (nI 1) = nI 1 by decide +kernel) ?_
  refine va_sld hx hb hX hbl hbA hS (vp_in_nI (n := 1) (by decide) (by decide)) dL_law_1130 ?_
  refine w_toeq (show xs (nI 1).toNatClampNeg = ya by rw [nI_clamp (n := 1) (by decide)]; exact hx1) ?_
  refine lv_aload_n hx hb dL_law_1131 rfl (lv_at hl 3 rfl) ?_
  refine k_i (wr := [(h1, .inr (12, [.int (nI 0), .ref a8]))]) (run_SW hnc (rest := []) hx hb hml hown hts hK hP hD hS hA hm (C1236_at l G D K hl0 H.size h0 a9 (.ref a0) (.ref a1) (.ref a2) (.ref a3) (.ref a4) (.ref a5) (.ref a6) (.ref a7) (.int (nI 0)) ya hya) [0] rfl rfl mokh_yL_at w_1069 w_1070 ⟨Nat.le_of_ble_eq_true rfl, Nat.le_of_ble_eq_true rfl⟩ rfl hl.1 rfl (Nat.le_of_ble_eq_true rfl) dL_law_1132 ⟨(by dsimp only [room_1]; omega), (by dsimp only [room_1]; omega)⟩) hP hD hS hA [0] [1] rfl rfl rfl (by decide) (w2 := fun u0 => [(h1, .inr (12, [.int (nI 0), .ref a8])), (h0, .inr (9, [.ref a0, .ref a1, .ref a2, .ref a3, .ref a4, .ref a5, .ref a6, .ref a7, .int (nI 0)]))]) (fun _ => rfl) (fun u0 H locs hP hD hS => ?_)
  refine lv_istore (lv' := [(5, .int (nI 1)), (0, .ref b), (1, .ref h0), (2, .ref h1), (3, .ref a9), (4, .int (nI 0))]) hx hb dL_law_1135 hl (by decide) rfl (fun ls hl => ?_)
  refine lv_aload_n hx hb dL_law_1137 rfl (lv_at hl 3 rfl) ?_
  refine lv_aload_n hx hb dL_law_1138 rfl (lv_at hl 1 rfl) ?_
  refine lv_iload hx hb dL_law_1139 (lv_at hl 5 rfl) ?_
  refine lv_iconst (v := nI 1) hx hb dL_law_1141 (by decide +kernel) ?_
  refine lv_iadd hx hb dL_law_1142 ?_
  refine w_toeq (show (nI 0) + (nI 1) = nI 1 by decide +kernel) ?_
  refine va_sld hx hb hX hbl hbA hS (vp_in_nI (n := 1) (by decide) (by decide)) dL_law_1143 ?_
  refine w_toeq (show xs (nI 1).toNatClampNeg = ya by rw [nI_clamp (n := 1) (by decide)]; exact hx1) ?_
  refine k_i (wr := [(h0, .inr (9, [.ref a0, .ref a1, .ref a2, .ref a3, .ref a4, .ref a5, .ref a6, .ref a7, .int (nI 0)]))]) (run_V (rest := []) hx hb hml hown hts hK hP hD hS hA hm (C689_at l G D K H.size h1 (.ref a8) ya hya) [0] rfl rfl mok_yX12_at w_2001 w_2002 w_2003 (rcv hK hP 0 rfl rfl rfl) ⟨Nat.le_of_ble_eq_true rfl, Nat.le_of_ble_eq_true rfl⟩ rfl hl.1 rfl (Nat.le_of_ble_eq_true rfl) dL_law_1144 ⟨(by dsimp only [room_1]; omega), (by dsimp only [room_1]; omega)⟩) hP hD hS hA [0] [1] rfl rfl rfl (by decide) (w2 := fun u1 => [(h0, .inr (9, [.ref a0, .ref a1, .ref a2, .ref a3, .ref a4, .ref a5, .ref a6, .ref a7, .int (nI 0)])), (h1, .inr (12, [.int (nI 1), .ref a8]))]) (fun _ => rfl) (fun u1 H locs hP hD hS => ?_)
  refine lv_istore (lv' := [(6, .int (nI 0)), (5, .int (nI 1)), (0, .ref b), (1, .ref h0), (2, .ref h1), (3, .ref a9), (4, .int (nI 0))]) hx hb dL_law_1147 hl (by decide) rfl (fun ls hl => ?_)
  refine lv_aload_n hx hb dL_law_1149 rfl (lv_at hl 4 rfl) ?_
  refine k_i (wr := [(h0, .inr (9, [.ref a0, .ref a1, .ref a2, .ref a3, .ref a4, .ref a5, .ref a6, .ref a7, .int (nI 0)]))]) (run_V (rest := []) hx hb hml hown hts hK hP hD hS hA hm (C1059_thrown l G D K H.size h1 (.ref a8)) [1] rfl rfl mok_yX12_thrown w_1300 w_1301 w_1302 (rcv hK hP 1 rfl rfl rfl) ⟨Nat.le_of_ble_eq_true rfl, Nat.le_of_ble_eq_true rfl⟩ rfl hl.1 rfl (Nat.le_of_ble_eq_true rfl) dL_law_1150 ⟨(by dsimp only [room_1]; omega), (by dsimp only [room_1]; omega)⟩) hP hD hS hA [1] [0] rfl rfl rfl (by decide) (w2 := fun u2 => [(h0, .inr (9, [.ref a0, .ref a1, .ref a2, .ref a3, .ref a4, .ref a5, .ref a6, .ref a7, .int (nI 0)])), (h1, .inr (12, [.int (nI 1), .ref a8]))]) (fun _ => rfl) (fun u2 H locs hP hD hS => ?_)
  refine lv_iload hx hb dL_law_1153 (lv_at hl 1 rfl) ?_
  refine lv_icmp_eq (tgt := 1160) hx hb dL_law_1155 (by decide) (fun _ => ?_) (fun c9 => absurd (by decide +kernel) c9)
  refine lv_iload hx hb dL_law_1160 (lv_at hl 1 rfl) ?_
  refine lv_if_ne (tgt := 1177) hx hb dL_law_1162 (by decide) (fun _ => ?_) (fun c9 => absurd c9 (by decide +kernel))
  refine lv_goto (tgt := 1762) hx hb dL_law_1177 (by decide) ?_
  refine lv_iinc (v := nI 4) (lv' := [(4, .int (nI 4)), (6, .int (nI 0)), (5, .int (nI 1)), (0, .ref b), (1, .ref h0), (2, .ref h1), (3, .ref a9)]) hx hb dL_law_1762 hl (k := 6) rfl (by decide +kernel) (by decide) rfl (fun ls hl => ?_)
  refine lv_goto (tgt := 23) hx hb dL_law_1765 (by decide) ?_
  refine lv_iload hx hb dL_law_23 (lv_at hl 0 rfl) ?_
  refine lv_aload_n hx hb dL_law_25 rfl (lv_at hl 3 rfl) ?_
  refine va_slen hx hb hX hbl hbA hS dL_law_26 ?_
  refine w_toeq (show Int32.ofNat 4 = nI 4 from rfl) ?_
  refine lv_iconst (v := nI 4) hx hb dL_law_27 (by decide +kernel) ?_
  refine lv_isub hx hb dL_law_28 ?_
  refine w_toeq (show (nI 4) - (nI 4) = nI 0 by decide +kernel) ?_
  refine lv_icmp_gt (tgt := 1768) hx hb dL_law_29 (by decide) (fun _ => ?_) (fun c9 => absurd (by decide +kernel) c9)
  refine lv_iconst (v := nI 1) hx hb dL_law_1768 (by decide +kernel) ?_
  exact law_end hx hb hr hlk hS (by dsimp only; omega) (by dsimp only; omega) dL_law_1769
set_option maxHeartbeats 4000000 in
set_option maxRecDepth 100000 in
theorem LW182_at {p : Program} {e : Env} {s : State} {m : MethodId} {below : List Frame} {meth : Method} {c : Code} {l : Launch} {G : Nat → Nat} {D : va_G} {K : Nat → ClassId} {b : Nat} {xs : Nat → Int32} (hx : p.tables.exec = Jvm.exec) (hb : c.code = cL_law) (hr : meth.sig.returnType = some .boolean) (hlk : meth.locks = false) (hl0 : l.stackTraces = false) (hnc : Ncs s) (hml : c.maxLocals = 9) (hown : s.vm.findClass RL = some m.cls) (hts : ∀ w ∈ lw_gw, w.before #[Value.ref b] s = true) (hK : va_K D cl (tys K) s) (hm : Amb G (fun q : Nat => s.heap.size ≤ q) s s.heap) (hX : va_X b 4 xs s s.heap) (hbl : b < s.heap.size) {h0 h1 h2 h3 h4 h5 h6 h7 h8 a0 a1 a2 a3 a4 a5 a6 a7 a8 a9 a10 a11 a12 : Nat} (ya : Nat) (lya : 0 ≤ ya) (gya : ya ≤ 3) (hx1 : xs 1 = nI ya) {H : Heap} {locs : List Loc} {cells slots : Nat} (hcs : cells ≤ 1000) (hss : slots ≤ 100000) (hP : va_P D cl [(h0, .inr (9, [.ref a0, .ref h1, .ref a1, .ref a2, .ref a3, .ref a4, .ref a5, .ref a6, .int (nI 0)])), (h1, .inr (4, [.ref a7, .ref h2, .ref a8, .int (nI 1)])), (h2, .inl (K 0, 32, .inr (.inr (.inr (.inr (fun _ => none)))))), (h3, .inl (K 3, 1, .inr (.inl (fun _ => 0)))), (h4, .inr (12, [.int (nI 0), .ref h5])), (h5, .inr (10, [.ref a9, .ref h6, .ref a10, .ref a11, .ref a12, .int (nI 0), .int (nI 0), .int (nI 60), .int (nI 0), .int (nI 2), .int (nI 0), .int (nI 0), .int (nI 0), .int (nI 0), .int (nI 0), .int (nI 0), .int (nI 0)])), (h6, .inr (13, [.int (nI 1), .ref h7, .int (nI 1)])), (h7, .inl (K 4, 10, .inr (.inr (.inr (.inr (va_up (fun _ => none) 0 (some h8))))))), (h8, .inl (K 2, 4, .inl (fun _ => (-1))))] H) (hD : va_D (fun q : Nat => s.heap.size ≤ q) [(h0, .inr (9, [.ref a0, .ref h1, .ref a1, .ref a2, .ref a3, .ref a4, .ref a5, .ref a6, .int (nI 0)])), (h1, .inr (4, [.ref a7, .ref h2, .ref a8, .int (nI 1)])), (h2, .inl (K 0, 32, .inr (.inr (.inr (.inr (fun _ => none)))))), (h3, .inl (K 3, 1, .inr (.inl (fun _ => 0)))), (h4, .inr (12, [.int (nI 0), .ref h5])), (h5, .inr (10, [.ref a9, .ref h6, .ref a10, .ref a11, .ref a12, .int (nI 0), .int (nI 0), .int (nI 60), .int (nI 0), .int (nI 2), .int (nI 0), .int (nI 0), .int (nI 0), .int (nI 0), .int (nI 0), .int (nI 0), .int (nI 0)])), (h6, .inr (13, [.int (nI 1), .ref h7, .int (nI 1)])), (h7, .inl (K 4, 10, .inr (.inr (.inr (.inr (va_up (fun _ => none) 0 (some h8))))))), (h8, .inl (K 2, 4, .inl (fun _ => (-1))))]) (hS : va_S (fun q : Nat => s.heap.size ≤ q) s.heap H locs) {ls : Array Slot} (hl : lv_has ls 9 [(0, .ref b), (1, .ref h0), (2, .ref h4), (3, .ref h3), (4, .int (nI 0))]) : W p l e room_1 s m #[Value.ref b] below meth c H locs cells slots (lw_Z below #[Value.ref b] s) (F0 m 1124 ls []) := by
  have hA : ∀ q : Nat, s.heap.size ≤ q → (fun q : Nat => s.heap.size ≤ q) q := fun _ h => h
  have hbA : ¬ (fun q : Nat => s.heap.size ≤ q) b := Nat.not_le.mpr hbl
  refine lv_aload_n hx hb dL_law_1124 rfl (lv_at hl 1 rfl) ?_
  refine lv_aload_n hx hb dL_law_1125 rfl (lv_at hl 0 rfl) ?_
  refine lv_iload hx hb dL_law_1126 (lv_at hl 4 rfl) ?_
  refine lv_iconst (v := nI 1) hx hb dL_law_1128 (by decide +kernel) ?_
  refine lv_iadd hx hb dL_law_1129 ?_
  refine w_toeq (show (nI 0) + (nI 1) = nI 1 by decide +kernel) ?_
  refine va_sld hx hb hX hbl hbA hS (vp_in_nI (n := 1) (by decide) (by decide)) dL_law_1130 ?_
  refine w_toeq (show xs (nI 1).toNatClampNeg = nI ya by rw [nI_clamp (n := 1) (by decide)]; exact hx1) ?_
  refine lv_aload_n hx hb dL_law_1131 rfl (lv_at hl 3 rfl) ?_
  refine k_i (wr := [(h4, .inr (12, [.int (nI 0), .ref h5])), (h5, .inr (10, [.ref a9, .ref h6, .ref a10, .ref a11, .ref a12, .int (nI 0), .int (nI 0), .int (nI 60), .int (nI 0), .int (nI 2), .int (nI 0), .int (nI 0), .int (nI 0), .int (nI 0), .int (nI 0), .int (nI 0), .int (nI 0)])), (h6, .inr (13, [.int (nI 1), .ref h7, .int (nI 1)])), (h7, .inl (K 4, 10, .inr (.inr (.inr (.inr (va_up (fun _ => none) 0 (some h8))))))), (h8, .inl (K 2, 4, .inl (fun _ => (-1))))]) (run_SW hnc (rest := []) hx hb hml hown hts hK hP hD hS hA hm (C1237_at l G D K H.size h0 h1 h2 h3 (.ref a0) (.ref a1) (.ref a2) (.ref a3) (.ref a4) (.ref a5) (.ref a6) (.int (nI 0)) (.ref a7) (.ref a8) (fun _ => 0) ya (by omega) (by omega)) [0, 1, 2, 3] rfl rfl mokh_yL_at w_1069 w_1070 ⟨Nat.le_of_ble_eq_true rfl, Nat.le_of_ble_eq_true rfl⟩ rfl hl.1 rfl (Nat.le_of_ble_eq_true rfl) dL_law_1132 ⟨(by dsimp only [room_1]; omega), (by dsimp only [room_1]; omega)⟩) hP hD hS hA [0, 1, 2, 3] [4, 5, 6, 7, 8] rfl rfl rfl (by decide) (w2 := fun u0 => [(h4, .inr (12, [.int (nI 0), .ref h5])), (h5, .inr (10, [.ref a9, .ref h6, .ref a10, .ref a11, .ref a12, .int (nI 0), .int (nI 0), .int (nI 60), .int (nI 0), .int (nI 2), .int (nI 0), .int (nI 0), .int (nI 0), .int (nI 0), .int (nI 0), .int (nI 0), .int (nI 0)])), (h6, .inr (13, [.int (nI 1), .ref h7, .int (nI 1)])), (h7, .inl (K 4, 10, .inr (.inr (.inr (.inr (va_up (fun _ => none) 0 (some h8))))))), (h8, .inl (K 2, 4, .inl (fun _ => (-1)))), (h3, .inl (K 3, 1, .inr (.inl (vp_updL (fun _ => 0) 0 (-1))))), (h0, .inr (9, [.ref a0, .ref h1, .ref a1, .ref a2, .ref a3, .ref a4, .ref a5, .ref a6, .int (nI 0)])), (h2, .inl (K 0, 32, .inr (.inr (.inr (.inr (fun _ => none)))))), (h1, .inr (4, [.ref a7, .ref h2, .ref a8, .int (nI 1)]))]) (fun _ => rfl) (fun u0 H locs hP hD hS => ?_)
  refine lv_istore (lv' := [(5, .int (nI 0)), (0, .ref b), (1, .ref h0), (2, .ref h4), (3, .ref h3), (4, .int (nI 0))]) hx hb dL_law_1135 hl (by decide) rfl (fun ls hl => ?_)
  refine lv_aload_n hx hb dL_law_1137 rfl (lv_at hl 3 rfl) ?_
  refine lv_aload_n hx hb dL_law_1138 rfl (lv_at hl 1 rfl) ?_
  refine lv_iload hx hb dL_law_1139 (lv_at hl 5 rfl) ?_
  refine lv_iconst (v := nI 1) hx hb dL_law_1141 (by decide +kernel) ?_
  refine lv_iadd hx hb dL_law_1142 ?_
  refine w_toeq (show (nI 0) + (nI 1) = nI 1 by decide +kernel) ?_
  refine va_sld hx hb hX hbl hbA hS (vp_in_nI (n := 1) (by decide) (by decide)) dL_law_1143 ?_
  refine w_toeq (show xs (nI 1).toNatClampNeg = nI ya by rw [nI_clamp (n := 1) (by decide)]; exact hx1) ?_
  refine k_i (wr := [(h3, .inl (K 3, 1, .inr (.inl (vp_updL (fun _ => 0) 0 (-1))))), (h0, .inr (9, [.ref a0, .ref h1, .ref a1, .ref a2, .ref a3, .ref a4, .ref a5, .ref a6, .int (nI 0)])), (h2, .inl (K 0, 32, .inr (.inr (.inr (.inr (fun _ => none)))))), (h1, .inr (4, [.ref a7, .ref h2, .ref a8, .int (nI 1)]))]) (run_V (rest := []) hx hb hml hown hts hK hP hD hS hA hm (C691_at l G D K H.size h4 h5 h6 h7 h8 (.ref a9) (.ref a10) (.ref a11) (.ref a12) (.int (nI 0)) (.int (nI 0)) (.int (nI 60)) (.int (nI 0)) (.int (nI 2)) (.int (nI 0)) (.int (nI 0)) (.int (nI 0)) (.int (nI 0)) (.int (nI 0)) (.int (nI 0)) (.int (nI 0)) (.int (nI 1)) ya (by omega) (by omega)) [0, 1, 2, 3, 4] rfl rfl mok_yX12_at w_2001 w_2002 w_2003 (rcv hK hP 0 rfl rfl rfl) ⟨Nat.le_of_ble_eq_true rfl, Nat.le_of_ble_eq_true rfl⟩ rfl hl.1 rfl (Nat.le_of_ble_eq_true rfl) dL_law_1144 ⟨(by dsimp only [room_1]; omega), (by dsimp only [room_1]; omega)⟩) hP hD hS hA [0, 1, 2, 3, 4] [5, 6, 7, 8] rfl rfl rfl (by decide) (w2 := fun u1 => [(h3, .inl (K 3, 1, .inr (.inl (vp_updL (fun _ => 0) 0 (-1))))), (h0, .inr (9, [.ref a0, .ref h1, .ref a1, .ref a2, .ref a3, .ref a4, .ref a5, .ref a6, .int (nI 0)])), (h2, .inl (K 0, 32, .inr (.inr (.inr (.inr (fun _ => none)))))), (h1, .inr (4, [.ref a7, .ref h2, .ref a8, .int (nI 1)])), (h4, .inr (12, [.int (nI 0), .ref h5])), (h5, .inr (10, [.ref a9, .ref h6, .ref a10, .ref a11, .ref a12, .int (nI 0), .int (nI 0), .int (nI 60), .int (nI 0), .int (nI 2), .int (nI 0), .int (nI 0), .int (nI 0), .int (nI 0), .int (nI 0), .int (nI 0), .int (nI 0)])), (h8, .inl (K 2, 4, .inl (fun _ => (-1)))), (h6, .inr (13, [.int (nI 1), .ref h7, .int (nI 1)])), (h7, .inl (K 4, 10, .inr (.inr (.inr (.inr (va_up (fun _ => none) 0 (some h8)))))))]) (fun _ => rfl) (fun u1 H locs hP hD hS => ?_)
  refine lv_istore (lv' := [(6, .int (-1)), (5, .int (nI 0)), (0, .ref b), (1, .ref h0), (2, .ref h4), (3, .ref h3), (4, .int (nI 0))]) hx hb dL_law_1147 hl (by decide) rfl (fun ls hl => ?_)
  refine lv_aload_n hx hb dL_law_1149 rfl (lv_at hl 4 rfl) ?_
  refine k_i (wr := [(h3, .inl (K 3, 1, .inr (.inl (vp_updL (fun _ => 0) 0 (-1))))), (h0, .inr (9, [.ref a0, .ref h1, .ref a1, .ref a2, .ref a3, .ref a4, .ref a5, .ref a6, .int (nI 0)])), (h2, .inl (K 0, 32, .inr (.inr (.inr (.inr (fun _ => none)))))), (h1, .inr (4, [.ref a7, .ref h2, .ref a8, .int (nI 1)])), (h5, .inr (10, [.ref a9, .ref h6, .ref a10, .ref a11, .ref a12, .int (nI 0), .int (nI 0), .int (nI 60), .int (nI 0), .int (nI 2), .int (nI 0), .int (nI 0), .int (nI 0), .int (nI 0), .int (nI 0), .int (nI 0), .int (nI 0)])), (h8, .inl (K 2, 4, .inl (fun _ => (-1)))), (h6, .inr (13, [.int (nI 1), .ref h7, .int (nI 1)])), (h7, .inl (K 4, 10, .inr (.inr (.inr (.inr (va_up (fun _ => none) 0 (some h8)))))))]) (run_V (rest := []) hx hb hml hown hts hK hP hD hS hA hm (C1057_thrown l G D K H.size h4 (.ref h5)) [4] rfl rfl mok_yX12_thrown w_1300 w_1301 w_1302 (rcv hK hP 4 rfl rfl rfl) ⟨Nat.le_of_ble_eq_true rfl, Nat.le_of_ble_eq_true rfl⟩ rfl hl.1 rfl (Nat.le_of_ble_eq_true rfl) dL_law_1150 ⟨(by dsimp only [room_1]; omega), (by dsimp only [room_1]; omega)⟩) hP hD hS hA [4] [0, 1, 2, 3, 5, 6, 7, 8] rfl rfl rfl (by decide) (w2 := fun u2 => [(h3, .inl (K 3, 1, .inr (.inl (vp_updL (fun _ => 0) 0 (-1))))), (h0, .inr (9, [.ref a0, .ref h1, .ref a1, .ref a2, .ref a3, .ref a4, .ref a5, .ref a6, .int (nI 0)])), (h2, .inl (K 0, 32, .inr (.inr (.inr (.inr (fun _ => none)))))), (h1, .inr (4, [.ref a7, .ref h2, .ref a8, .int (nI 1)])), (h5, .inr (10, [.ref a9, .ref h6, .ref a10, .ref a11, .ref a12, .int (nI 0), .int (nI 0), .int (nI 60), .int (nI 0), .int (nI 2), .int (nI 0), .int (nI 0), .int (nI 0), .int (nI 0), .int (nI 0), .int (nI 0), .int (nI 0)])), (h8, .inl (K 2, 4, .inl (fun _ => (-1)))), (h6, .inr (13, [.int (nI 1), .ref h7, .int (nI 1)])), (h7, .inl (K 4, 10, .inr (.inr (.inr (.inr (va_up (fun _ => none) 0 (some h8))))))), (h4, .inr (12, [.int (nI 0), .ref h5]))]) (fun _ => rfl) (fun u2 H locs hP hD hS => ?_)
  refine lv_iload hx hb dL_law_1153 (lv_at hl 1 rfl) ?_
  refine lv_icmp_eq (tgt := 1160) hx hb dL_law_1155 (by decide) (fun _ => ?_) (fun c9 => absurd (by decide +kernel) c9)
  refine lv_iload hx hb dL_law_1160 (lv_at hl 1 rfl) ?_
  refine lv_if_ne (tgt := 1177) hx hb dL_law_1162 (by decide) (fun c9 => absurd (by decide +kernel) c9) (fun _ => ?_)
  refine lv_aload_n hx hb dL_law_1165 rfl (lv_at hl 5 rfl) ?_
  refine lv_iconst (v := nI 0) hx hb dL_law_1166 (by decide +kernel) ?_
  refine r_lald (k := 0) hx hb hK hP 0 3 rfl rfl (Nat.le_of_ble_eq_true rfl) (by decide) (v := (-1)) rfl dL_law_1167 ?_
  refine lv_iload hx hb dL_law_1168 (lv_at hl 0 rfl) ?_
  refine lv_i2l (v := (-1)) hx hb dL_law_1170 (by decide +kernel) ?_
  refine W.lcmp hx hb dL_law_1171 ?_
  refine w_toeq (show lg_cmp (-1) (-1) = nI 0 by decide +kernel) ?_
  refine lv_if_eq (tgt := 1177) hx hb dL_law_1172 (by decide) (fun _ => ?_) (fun c9 => absurd (by decide +kernel) c9)
  refine lv_goto (tgt := 1762) hx hb dL_law_1177 (by decide) ?_
  refine lv_iinc (v := nI 4) (lv' := [(4, .int (nI 4)), (6, .int (-1)), (5, .int (nI 0)), (0, .ref b), (1, .ref h0), (2, .ref h4), (3, .ref h3)]) hx hb dL_law_1762 hl (k := 6) rfl (by decide +kernel) (by decide) rfl (fun ls hl => ?_)
  refine lv_goto (tgt := 23) hx hb dL_law_1765 (by decide) ?_
  refine lv_iload hx hb dL_law_23 (lv_at hl 0 rfl) ?_
  refine lv_aload_n hx hb dL_law_25 rfl (lv_at hl 3 rfl) ?_
  refine va_slen hx hb hX hbl hbA hS dL_law_26 ?_
  refine w_toeq (show Int32.ofNat 4 = nI 4 from rfl) ?_
  refine lv_iconst (v := nI 4) hx hb dL_law_27 (by decide +kernel) ?_
  refine lv_isub hx hb dL_law_28 ?_
  refine w_toeq (show (nI 4) - (nI 4) = nI 0 by decide +kernel) ?_
  refine lv_icmp_gt (tgt := 1768) hx hb dL_law_29 (by decide) (fun _ => ?_) (fun c9 => absurd (by decide +kernel) c9)
  refine lv_iconst (v := nI 1) hx hb dL_law_1768 (by decide +kernel) ?_
  exact law_end hx hb hr hlk hS (by dsimp only; omega) (by dsimp only; omega) dL_law_1769
set_option maxHeartbeats 4000000 in
set_option maxRecDepth 100000 in
theorem LW183_at {p : Program} {e : Env} {s : State} {m : MethodId} {below : List Frame} {meth : Method} {c : Code} {l : Launch} {G : Nat → Nat} {D : va_G} {K : Nat → ClassId} {b : Nat} {xs : Nat → Int32} (hx : p.tables.exec = Jvm.exec) (hb : c.code = cL_law) (hr : meth.sig.returnType = some .boolean) (hlk : meth.locks = false) (hl0 : l.stackTraces = false) (hnc : Ncs s) (hml : c.maxLocals = 9) (hown : s.vm.findClass RL = some m.cls) (hts : ∀ w ∈ lw_gw, w.before #[Value.ref b] s = true) (hK : va_K D cl (tys K) s) (hm : Amb G (fun q : Nat => s.heap.size ≤ q) s s.heap) (hX : va_X b 4 xs s s.heap) (hbl : b < s.heap.size) {h0 h1 a0 a1 a2 a3 a4 a5 a6 a7 a8 a9 : Nat} (ya : Nat) (lya : 4 ≤ ya) (gya : ya ≤ 2147483647) (hx1 : xs 1 = nI ya) {H : Heap} {locs : List Loc} {cells slots : Nat} (hcs : cells ≤ 1000) (hss : slots ≤ 100000) (hP : va_P D cl [(h0, .inr (9, [.ref a0, .ref a1, .ref a2, .ref a3, .ref a4, .ref a5, .ref a6, .ref a7, .int (nI 0)])), (h1, .inr (12, [.int (nI 0), .ref a8]))] H) (hD : va_D (fun q : Nat => s.heap.size ≤ q) [(h0, .inr (9, [.ref a0, .ref a1, .ref a2, .ref a3, .ref a4, .ref a5, .ref a6, .ref a7, .int (nI 0)])), (h1, .inr (12, [.int (nI 0), .ref a8]))]) (hS : va_S (fun q : Nat => s.heap.size ≤ q) s.heap H locs) {ls : Array Slot} (hl : lv_has ls 9 [(0, .ref b), (1, .ref h0), (2, .ref h1), (3, .ref a9), (4, .int (nI 0))]) : W p l e room_1 s m #[Value.ref b] below meth c H locs cells slots (lw_Z below #[Value.ref b] s) (F0 m 1124 ls []) := by
  have hA : ∀ q : Nat, s.heap.size ≤ q → (fun q : Nat => s.heap.size ≤ q) q := fun _ h => h
  have hbA : ¬ (fun q : Nat => s.heap.size ≤ q) b := Nat.not_le.mpr hbl
  refine lv_aload_n hx hb dL_law_1124 rfl (lv_at hl 1 rfl) ?_
  refine lv_aload_n hx hb dL_law_1125 rfl (lv_at hl 0 rfl) ?_
  refine lv_iload hx hb dL_law_1126 (lv_at hl 4 rfl) ?_
  refine lv_iconst (v := nI 1) hx hb dL_law_1128 (by decide +kernel) ?_
  refine lv_iadd hx hb dL_law_1129 ?_
  refine w_toeq (show (nI 0) + (nI 1) = nI 1 by decide +kernel) ?_
  refine va_sld hx hb hX hbl hbA hS (vp_in_nI (n := 1) (by decide) (by decide)) dL_law_1130 ?_
  refine w_toeq (show xs (nI 1).toNatClampNeg = nI ya by rw [nI_clamp (n := 1) (by decide)]; exact hx1) ?_
  refine lv_aload_n hx hb dL_law_1131 rfl (lv_at hl 3 rfl) ?_
  refine k_i (wr := [(h1, .inr (12, [.int (nI 0), .ref a8]))]) (run_SW hnc (rest := []) hx hb hml hown hts hK hP hD hS hA hm (C1238_at l G D K hl0 H.size h0 a9 (.ref a0) (.ref a1) (.ref a2) (.ref a3) (.ref a4) (.ref a5) (.ref a6) (.ref a7) (.int (nI 0)) ya (by omega) (by omega)) [0] rfl rfl mokh_yL_at w_1069 w_1070 ⟨Nat.le_of_ble_eq_true rfl, Nat.le_of_ble_eq_true rfl⟩ rfl hl.1 rfl (Nat.le_of_ble_eq_true rfl) dL_law_1132 ⟨(by dsimp only [room_1]; omega), (by dsimp only [room_1]; omega)⟩) hP hD hS hA [0] [1] rfl rfl rfl (by decide) (w2 := fun u0 => [(h1, .inr (12, [.int (nI 0), .ref a8])), (h0, .inr (9, [.ref a0, .ref a1, .ref a2, .ref a3, .ref a4, .ref a5, .ref a6, .ref a7, .int (nI 0)]))]) (fun _ => rfl) (fun u0 H locs hP hD hS => ?_)
  refine lv_istore (lv' := [(5, .int (nI 1)), (0, .ref b), (1, .ref h0), (2, .ref h1), (3, .ref a9), (4, .int (nI 0))]) hx hb dL_law_1135 hl (by decide) rfl (fun ls hl => ?_)
  refine lv_aload_n hx hb dL_law_1137 rfl (lv_at hl 3 rfl) ?_
  refine lv_aload_n hx hb dL_law_1138 rfl (lv_at hl 1 rfl) ?_
  refine lv_iload hx hb dL_law_1139 (lv_at hl 5 rfl) ?_
  refine lv_iconst (v := nI 1) hx hb dL_law_1141 (by decide +kernel) ?_
  refine lv_iadd hx hb dL_law_1142 ?_
  refine w_toeq (show (nI 0) + (nI 1) = nI 1 by decide +kernel) ?_
  refine va_sld hx hb hX hbl hbA hS (vp_in_nI (n := 1) (by decide) (by decide)) dL_law_1143 ?_
  refine w_toeq (show xs (nI 1).toNatClampNeg = nI ya by rw [nI_clamp (n := 1) (by decide)]; exact hx1) ?_
  refine k_i (wr := [(h0, .inr (9, [.ref a0, .ref a1, .ref a2, .ref a3, .ref a4, .ref a5, .ref a6, .ref a7, .int (nI 0)]))]) (run_V (rest := []) hx hb hml hown hts hK hP hD hS hA hm (C693_at l G D K H.size h1 (.ref a8) ya (by omega) (by omega)) [0] rfl rfl mok_yX12_at w_2001 w_2002 w_2003 (rcv hK hP 0 rfl rfl rfl) ⟨Nat.le_of_ble_eq_true rfl, Nat.le_of_ble_eq_true rfl⟩ rfl hl.1 rfl (Nat.le_of_ble_eq_true rfl) dL_law_1144 ⟨(by dsimp only [room_1]; omega), (by dsimp only [room_1]; omega)⟩) hP hD hS hA [0] [1] rfl rfl rfl (by decide) (w2 := fun u1 => [(h0, .inr (9, [.ref a0, .ref a1, .ref a2, .ref a3, .ref a4, .ref a5, .ref a6, .ref a7, .int (nI 0)])), (h1, .inr (12, [.int (nI 1), .ref a8]))]) (fun _ => rfl) (fun u1 H locs hP hD hS => ?_)
  refine lv_istore (lv' := [(6, .int (nI 0)), (5, .int (nI 1)), (0, .ref b), (1, .ref h0), (2, .ref h1), (3, .ref a9), (4, .int (nI 0))]) hx hb dL_law_1147 hl (by decide) rfl (fun ls hl => ?_)
  refine lv_aload_n hx hb dL_law_1149 rfl (lv_at hl 4 rfl) ?_
  refine k_i (wr := [(h0, .inr (9, [.ref a0, .ref a1, .ref a2, .ref a3, .ref a4, .ref a5, .ref a6, .ref a7, .int (nI 0)]))]) (run_V (rest := []) hx hb hml hown hts hK hP hD hS hA hm (C1059_thrown l G D K H.size h1 (.ref a8)) [1] rfl rfl mok_yX12_thrown w_1300 w_1301 w_1302 (rcv hK hP 1 rfl rfl rfl) ⟨Nat.le_of_ble_eq_true rfl, Nat.le_of_ble_eq_true rfl⟩ rfl hl.1 rfl (Nat.le_of_ble_eq_true rfl) dL_law_1150 ⟨(by dsimp only [room_1]; omega), (by dsimp only [room_1]; omega)⟩) hP hD hS hA [1] [0] rfl rfl rfl (by decide) (w2 := fun u2 => [(h0, .inr (9, [.ref a0, .ref a1, .ref a2, .ref a3, .ref a4, .ref a5, .ref a6, .ref a7, .int (nI 0)])), (h1, .inr (12, [.int (nI 1), .ref a8]))]) (fun _ => rfl) (fun u2 H locs hP hD hS => ?_)
  refine lv_iload hx hb dL_law_1153 (lv_at hl 1 rfl) ?_
  refine lv_icmp_eq (tgt := 1160) hx hb dL_law_1155 (by decide) (fun _ => ?_) (fun c9 => absurd (by decide +kernel) c9)
  refine lv_iload hx hb dL_law_1160 (lv_at hl 1 rfl) ?_
  refine lv_if_ne (tgt := 1177) hx hb dL_law_1162 (by decide) (fun _ => ?_) (fun c9 => absurd c9 (by decide +kernel))
  refine lv_goto (tgt := 1762) hx hb dL_law_1177 (by decide) ?_
  refine lv_iinc (v := nI 4) (lv' := [(4, .int (nI 4)), (6, .int (nI 0)), (5, .int (nI 1)), (0, .ref b), (1, .ref h0), (2, .ref h1), (3, .ref a9)]) hx hb dL_law_1762 hl (k := 6) rfl (by decide +kernel) (by decide) rfl (fun ls hl => ?_)
  refine lv_goto (tgt := 23) hx hb dL_law_1765 (by decide) ?_
  refine lv_iload hx hb dL_law_23 (lv_at hl 0 rfl) ?_
  refine lv_aload_n hx hb dL_law_25 rfl (lv_at hl 3 rfl) ?_
  refine va_slen hx hb hX hbl hbA hS dL_law_26 ?_
  refine w_toeq (show Int32.ofNat 4 = nI 4 from rfl) ?_
  refine lv_iconst (v := nI 4) hx hb dL_law_27 (by decide +kernel) ?_
  refine lv_isub hx hb dL_law_28 ?_
  refine w_toeq (show (nI 4) - (nI 4) = nI 0 by decide +kernel) ?_
  refine lv_icmp_gt (tgt := 1768) hx hb dL_law_29 (by decide) (fun _ => ?_) (fun c9 => absurd (by decide +kernel) c9)
  refine lv_iconst (v := nI 1) hx hb dL_law_1768 (by decide +kernel) ?_
  exact law_end hx hb hr hlk hS (by dsimp only; omega) (by dsimp only; omega) dL_law_1769
set_option maxHeartbeats 4000000 in
set_option maxRecDepth 100000 in
theorem LW184_field {p : Program} {e : Env} {s : State} {m : MethodId} {below : List Frame} {meth : Method} {c : Code} {l : Launch} {G : Nat → Nat} {D : va_G} {K : Nat → ClassId} {b : Nat} {xs : Nat → Int32} (hx : p.tables.exec = Jvm.exec) (hb : c.code = cL_law) (hr : meth.sig.returnType = some .boolean) (hlk : meth.locks = false) (hl0 : l.stackTraces = false) (hnc : Ncs s) (hml : c.maxLocals = 9) (hown : s.vm.findClass RL = some m.cls) (hts : ∀ w ∈ lw_gw, w.before #[Value.ref b] s = true) (hK : va_K D cl (tys K) s) (hm : Amb G (fun q : Nat => s.heap.size ≤ q) s s.heap) (hX : va_X b 4 xs s s.heap) (hbl : b < s.heap.size) {h0 h1 h2 h3 h4 a0 a1 a2 a3 a4 a5 a6 a7 a8 a9 a10 a11 a12 : Nat} (ya : Int32) (hya : ya < 0) (hx1 : xs 1 = ya) (yb : Int32) (hx2 : xs 2 = yb) {H : Heap} {locs : List Loc} {cells slots : Nat} (hcs : cells ≤ 1000) (hss : slots ≤ 100000) (hP : va_P D cl [(h0, .inr (9, [.ref h1, .ref a0, .ref a1, .ref a2, .ref a3, .ref a4, .ref a5, .ref a6, .int (nI 0)])), (h1, .inr (5, [.ref a7, .int (nI 0)])), (h2, .inr (12, [.int (nI 0), .ref h3])), (h3, .inr (10, [.ref h4, .ref a8, .ref a9, .ref a10, .ref a11, .int (nI 0), .int (nI 0), .int (nI 60), .int (nI 0), .int (nI 2), .int (nI 0), .int (nI 0), .int (nI 0), .int (nI 0), .int (nI 0), .int (nI 0), .int (nI 0)])), (h4, .inr (13, [.int (nI 0), .ref (G 0), .int (nI 0)]))] H) (hD : va_D (fun q : Nat => s.heap.size ≤ q) [(h0, .inr (9, [.ref h1, .ref a0, .ref a1, .ref a2, .ref a3, .ref a4, .ref a5, .ref a6, .int (nI 0)])), (h1, .inr (5, [.ref a7, .int (nI 0)])), (h2, .inr (12, [.int (nI 0), .ref h3])), (h3, .inr (10, [.ref h4, .ref a8, .ref a9, .ref a10, .ref a11, .int (nI 0), .int (nI 0), .int (nI 60), .int (nI 0), .int (nI 2), .int (nI 0), .int (nI 0), .int (nI 0), .int (nI 0), .int (nI 0), .int (nI 0), .int (nI 0)])), (h4, .inr (13, [.int (nI 0), .ref (G 0), .int (nI 0)]))]) (hS : va_S (fun q : Nat => s.heap.size ≤ q) s.heap H locs) {ls : Array Slot} (hl : lv_has ls 9 [(0, .ref b), (1, .ref h0), (2, .ref h2), (3, .ref a12), (4, .int (nI 0))]) : W p l e room_1 s m #[Value.ref b] below meth c H locs cells slots (lw_Z below #[Value.ref b] s) (F0 m 1180 ls []) := by
  have hA : ∀ q : Nat, s.heap.size ≤ q → (fun q : Nat => s.heap.size ≤ q) q := fun _ h => h
  have hbA : ¬ (fun q : Nat => s.heap.size ≤ q) b := Nat.not_le.mpr hbl
  refine lv_aload_n hx hb dL_law_1180 rfl (lv_at hl 1 rfl) ?_
  refine lv_aload_n hx hb dL_law_1181 rfl (lv_at hl 0 rfl) ?_
  refine lv_iload hx hb dL_law_1182 (lv_at hl 4 rfl) ?_
  refine lv_iconst (v := nI 1) hx hb dL_law_1184 (by decide +kernel) ?_
  refine lv_iadd hx hb dL_law_1185 ?_
  refine w_toeq (show (nI 0) + (nI 1) = nI 1 by decide +kernel) ?_
  refine va_sld hx hb hX hbl hbA hS (vp_in_nI (n := 1) (by decide) (by decide)) dL_law_1186 ?_
  refine w_toeq (show xs (nI 1).toNatClampNeg = ya by rw [nI_clamp (n := 1) (by decide)]; exact hx1) ?_
  refine lv_aload_n hx hb dL_law_1187 rfl (lv_at hl 0 rfl) ?_
  refine lv_iload hx hb dL_law_1188 (lv_at hl 4 rfl) ?_
  refine lv_iconst (v := nI 2) hx hb dL_law_1190 (by decide +kernel) ?_
  refine lv_iadd hx hb dL_law_1191 ?_
  refine w_toeq (show (nI 0) + (nI 2) = nI 2 by decide +kernel) ?_
  refine va_sld hx hb hX hbl hbA hS (vp_in_nI (n := 2) (by decide) (by decide)) dL_law_1192 ?_
  refine w_toeq (show xs (nI 2).toNatClampNeg = yb by rw [nI_clamp (n := 2) (by decide)]; exact hx2) ?_
  refine lv_aload_n hx hb dL_law_1193 rfl (lv_at hl 3 rfl) ?_
  refine k_i (wr := [(h2, .inr (12, [.int (nI 0), .ref h3])), (h3, .inr (10, [.ref h4, .ref a8, .ref a9, .ref a10, .ref a11, .int (nI 0), .int (nI 0), .int (nI 60), .int (nI 0), .int (nI 2), .int (nI 0), .int (nI 0), .int (nI 0), .int (nI 0), .int (nI 0), .int (nI 0), .int (nI 0)])), (h4, .inr (13, [.int (nI 0), .ref (G 0), .int (nI 0)]))]) (run_SW hnc (rest := []) hx hb hml hown hts hK hP hD hS hA hm (C1239_field l G D K hl0 H.size h0 h1 a12 (.ref a0) (.ref a1) (.ref a2) (.ref a3) (.ref a4) (.ref a5) (.ref a6) (.int (nI 0)) (.ref a7) (.int (nI 0)) ya hya yb) [0, 1] rfl rfl mokh_yL_field w_1073 w_1074 ⟨Nat.le_of_ble_eq_true rfl, Nat.le_of_ble_eq_true rfl⟩ rfl hl.1 rfl (Nat.le_of_ble_eq_true rfl) dL_law_1194 ⟨(by dsimp only [room_1]; omega), (by dsimp only [room_1]; omega)⟩) hP hD hS hA [0, 1] [2, 3, 4] rfl rfl rfl (by decide) (w2 := fun u0 => [(h2, .inr (12, [.int (nI 0), .ref h3])), (h3, .inr (10, [.ref h4, .ref a8, .ref a9, .ref a10, .ref a11, .int (nI 0), .int (nI 0), .int (nI 60), .int (nI 0), .int (nI 2), .int (nI 0), .int (nI 0), .int (nI 0), .int (nI 0), .int (nI 0), .int (nI 0), .int (nI 0)])), (h4, .inr (13, [.int (nI 0), .ref (G 0), .int (nI 0)]))]) (fun _ => rfl) (fun u0 H locs hP hD hS => ?_)
  refine lv_istore (lv' := [(5, .int (nI 1)), (0, .ref b), (1, .ref h0), (2, .ref h2), (3, .ref a12), (4, .int (nI 0))]) hx hb dL_law_1197 hl (by decide) rfl (fun ls hl => ?_)
  refine lv_aload_n hx hb dL_law_1199 rfl (lv_at hl 3 rfl) ?_
  refine lv_aload_n hx hb dL_law_1200 rfl (lv_at hl 1 rfl) ?_
  refine lv_iload hx hb dL_law_1201 (lv_at hl 5 rfl) ?_
  refine lv_iconst (v := nI 1) hx hb dL_law_1203 (by decide +kernel) ?_
  refine lv_iadd hx hb dL_law_1204 ?_
  refine w_toeq (show (nI 0) + (nI 1) = nI 1 by decide +kernel) ?_
  refine va_sld hx hb hX hbl hbA hS (vp_in_nI (n := 1) (by decide) (by decide)) dL_law_1205 ?_
  refine w_toeq (show xs (nI 1).toNatClampNeg = ya by rw [nI_clamp (n := 1) (by decide)]; exact hx1) ?_
  refine lv_aload_n hx hb dL_law_1206 rfl (lv_at hl 1 rfl) ?_
  refine lv_iload hx hb dL_law_1207 (lv_at hl 5 rfl) ?_
  refine lv_iconst (v := nI 2) hx hb dL_law_1209 (by decide +kernel) ?_
  refine lv_iadd hx hb dL_law_1210 ?_
  refine w_toeq (show (nI 0) + (nI 2) = nI 2 by decide +kernel) ?_
  refine va_sld hx hb hX hbl hbA hS (vp_in_nI (n := 2) (by decide) (by decide)) dL_law_1211 ?_
  refine w_toeq (show xs (nI 2).toNatClampNeg = yb by rw [nI_clamp (n := 2) (by decide)]; exact hx2) ?_
  refine k_i (wr := []) (run_V (rest := []) hx hb hml hown hts hK hP hD hS hA hm (C864_field l G D K H.size h2 h3 h4 (.ref a8) (.ref a9) (.ref a10) (.ref a11) (.int (nI 0)) (.int (nI 0)) (.int (nI 60)) (.int (nI 0)) (.int (nI 2)) (.int (nI 0)) (.int (nI 0)) (.int (nI 0)) (.int (nI 0)) (.int (nI 0)) (.int (nI 0)) (.int (nI 0)) (.int (nI 0)) (.ref (G 0)) ya hya yb) [0, 1, 2] rfl rfl mok_yX12_field w_2005 w_2006 w_2007 (rcv hK hP 0 rfl rfl rfl) ⟨Nat.le_of_ble_eq_true rfl, Nat.le_of_ble_eq_true rfl⟩ rfl hl.1 rfl (Nat.le_of_ble_eq_true rfl) dL_law_1212 ⟨(by dsimp only [room_1]; omega), (by dsimp only [room_1]; omega)⟩) hP hD hS hA [0, 1, 2] [] rfl rfl rfl (by decide) (w2 := fun u1 => [(h3, .inr (10, [.ref h4, .ref a8, .ref a9, .ref a10, .ref a11, .int (nI 0), .int (nI 0), .int (nI 60), .int (nI 0), .int (nI 2), .int (nI 0), .int (nI 0), .int (nI 0), .int (nI 0), .int (nI 0), .int (nI 0), .int (nI 0)])), (h4, .inr (13, [.int (nI 0), .ref (G 0), .int (nI 0)])), (h2, .inr (12, [.int (nI 1), .ref h3]))]) (fun _ => rfl) (fun u1 H locs hP hD hS => ?_)
  refine lv_istore (lv' := [(6, .int (nI 0)), (5, .int (nI 1)), (0, .ref b), (1, .ref h0), (2, .ref h2), (3, .ref a12), (4, .int (nI 0))]) hx hb dL_law_1215 hl (by decide) rfl (fun ls hl => ?_)
  refine lv_aload_n hx hb dL_law_1217 rfl (lv_at hl 4 rfl) ?_
  refine k_i (wr := [(h3, .inr (10, [.ref h4, .ref a8, .ref a9, .ref a10, .ref a11, .int (nI 0), .int (nI 0), .int (nI 60), .int (nI 0), .int (nI 2), .int (nI 0), .int (nI 0), .int (nI 0), .int (nI 0), .int (nI 0), .int (nI 0), .int (nI 0)])), (h4, .inr (13, [.int (nI 0), .ref (G 0), .int (nI 0)]))]) (run_V (rest := []) hx hb hml hown hts hK hP hD hS hA hm (C1059_thrown l G D K H.size h2 (.ref h3)) [2] rfl rfl mok_yX12_thrown w_1300 w_1301 w_1302 (rcv hK hP 2 rfl rfl rfl) ⟨Nat.le_of_ble_eq_true rfl, Nat.le_of_ble_eq_true rfl⟩ rfl hl.1 rfl (Nat.le_of_ble_eq_true rfl) dL_law_1218 ⟨(by dsimp only [room_1]; omega), (by dsimp only [room_1]; omega)⟩) hP hD hS hA [2] [0, 1] rfl rfl rfl (by decide) (w2 := fun u2 => [(h3, .inr (10, [.ref h4, .ref a8, .ref a9, .ref a10, .ref a11, .int (nI 0), .int (nI 0), .int (nI 60), .int (nI 0), .int (nI 2), .int (nI 0), .int (nI 0), .int (nI 0), .int (nI 0), .int (nI 0), .int (nI 0), .int (nI 0)])), (h4, .inr (13, [.int (nI 0), .ref (G 0), .int (nI 0)])), (h2, .inr (12, [.int (nI 1), .ref h3]))]) (fun _ => rfl) (fun u2 H locs hP hD hS => ?_)
  refine lv_iload hx hb dL_law_1221 (lv_at hl 1 rfl) ?_
  refine lv_icmp_eq (tgt := 1228) hx hb dL_law_1223 (by decide) (fun _ => ?_) (fun c9 => absurd (by decide +kernel) c9)
  refine lv_iload hx hb dL_law_1228 (lv_at hl 1 rfl) ?_
  refine lv_if_ne (tgt := 1245) hx hb dL_law_1230 (by decide) (fun _ => ?_) (fun c9 => absurd c9 (by decide +kernel))
  refine lv_goto (tgt := 1762) hx hb dL_law_1245 (by decide) ?_
  refine lv_iinc (v := nI 4) (lv' := [(4, .int (nI 4)), (6, .int (nI 0)), (5, .int (nI 1)), (0, .ref b), (1, .ref h0), (2, .ref h2), (3, .ref a12)]) hx hb dL_law_1762 hl (k := 6) rfl (by decide +kernel) (by decide) rfl (fun ls hl => ?_)
  refine lv_goto (tgt := 23) hx hb dL_law_1765 (by decide) ?_
  refine lv_iload hx hb dL_law_23 (lv_at hl 0 rfl) ?_
  refine lv_aload_n hx hb dL_law_25 rfl (lv_at hl 3 rfl) ?_
  refine va_slen hx hb hX hbl hbA hS dL_law_26 ?_
  refine w_toeq (show Int32.ofNat 4 = nI 4 from rfl) ?_
  refine lv_iconst (v := nI 4) hx hb dL_law_27 (by decide +kernel) ?_
  refine lv_isub hx hb dL_law_28 ?_
  refine w_toeq (show (nI 4) - (nI 4) = nI 0 by decide +kernel) ?_
  refine lv_icmp_gt (tgt := 1768) hx hb dL_law_29 (by decide) (fun _ => ?_) (fun c9 => absurd (by decide +kernel) c9)
  refine lv_iconst (v := nI 1) hx hb dL_law_1768 (by decide +kernel) ?_
  exact law_end hx hb hr hlk hS (by dsimp only; omega) (by dsimp only; omega) dL_law_1769
set_option maxHeartbeats 4000000 in
set_option maxRecDepth 100000 in
theorem LW185_field {p : Program} {e : Env} {s : State} {m : MethodId} {below : List Frame} {meth : Method} {c : Code} {l : Launch} {G : Nat → Nat} {D : va_G} {K : Nat → ClassId} {b : Nat} {xs : Nat → Int32} (hx : p.tables.exec = Jvm.exec) (hb : c.code = cL_law) (hr : meth.sig.returnType = some .boolean) (hlk : meth.locks = false) (hl0 : l.stackTraces = false) (hnc : Ncs s) (hml : c.maxLocals = 9) (hown : s.vm.findClass RL = some m.cls) (hts : ∀ w ∈ lw_gw, w.before #[Value.ref b] s = true) (hK : va_K D cl (tys K) s) (hm : Amb G (fun q : Nat => s.heap.size ≤ q) s s.heap) (hX : va_X b 4 xs s s.heap) (hbl : b < s.heap.size) {h0 h1 h2 h3 h4 a0 a1 a2 a3 a4 a5 a6 a7 a8 a9 a10 a11 a12 : Nat} (ya : Nat) (lya : 0 ≤ ya) (gya : ya ≤ 2147483647) (hx1 : xs 1 = nI ya) (yb : Int32) (hx2 : xs 2 = yb) {H : Heap} {locs : List Loc} {cells slots : Nat} (hcs : cells ≤ 1000) (hss : slots ≤ 100000) (hP : va_P D cl [(h0, .inr (9, [.ref h1, .ref a0, .ref a1, .ref a2, .ref a3, .ref a4, .ref a5, .ref a6, .int (nI 0)])), (h1, .inr (5, [.ref a7, .int (nI 0)])), (h2, .inr (12, [.int (nI 0), .ref h3])), (h3, .inr (10, [.ref h4, .ref a8, .ref a9, .ref a10, .ref a11, .int (nI 0), .int (nI 0), .int (nI 60), .int (nI 0), .int (nI 2), .int (nI 0), .int (nI 0), .int (nI 0), .int (nI 0), .int (nI 0), .int (nI 0), .int (nI 0)])), (h4, .inr (13, [.int (nI 0), .ref (G 0), .int (nI 0)]))] H) (hD : va_D (fun q : Nat => s.heap.size ≤ q) [(h0, .inr (9, [.ref h1, .ref a0, .ref a1, .ref a2, .ref a3, .ref a4, .ref a5, .ref a6, .int (nI 0)])), (h1, .inr (5, [.ref a7, .int (nI 0)])), (h2, .inr (12, [.int (nI 0), .ref h3])), (h3, .inr (10, [.ref h4, .ref a8, .ref a9, .ref a10, .ref a11, .int (nI 0), .int (nI 0), .int (nI 60), .int (nI 0), .int (nI 2), .int (nI 0), .int (nI 0), .int (nI 0), .int (nI 0), .int (nI 0), .int (nI 0), .int (nI 0)])), (h4, .inr (13, [.int (nI 0), .ref (G 0), .int (nI 0)]))]) (hS : va_S (fun q : Nat => s.heap.size ≤ q) s.heap H locs) {ls : Array Slot} (hl : lv_has ls 9 [(0, .ref b), (1, .ref h0), (2, .ref h2), (3, .ref a12), (4, .int (nI 0))]) : W p l e room_1 s m #[Value.ref b] below meth c H locs cells slots (lw_Z below #[Value.ref b] s) (F0 m 1180 ls []) := by
  have hA : ∀ q : Nat, s.heap.size ≤ q → (fun q : Nat => s.heap.size ≤ q) q := fun _ h => h
  have hbA : ¬ (fun q : Nat => s.heap.size ≤ q) b := Nat.not_le.mpr hbl
  refine lv_aload_n hx hb dL_law_1180 rfl (lv_at hl 1 rfl) ?_
  refine lv_aload_n hx hb dL_law_1181 rfl (lv_at hl 0 rfl) ?_
  refine lv_iload hx hb dL_law_1182 (lv_at hl 4 rfl) ?_
  refine lv_iconst (v := nI 1) hx hb dL_law_1184 (by decide +kernel) ?_
  refine lv_iadd hx hb dL_law_1185 ?_
  refine w_toeq (show (nI 0) + (nI 1) = nI 1 by decide +kernel) ?_
  refine va_sld hx hb hX hbl hbA hS (vp_in_nI (n := 1) (by decide) (by decide)) dL_law_1186 ?_
  refine w_toeq (show xs (nI 1).toNatClampNeg = nI ya by rw [nI_clamp (n := 1) (by decide)]; exact hx1) ?_
  refine lv_aload_n hx hb dL_law_1187 rfl (lv_at hl 0 rfl) ?_
  refine lv_iload hx hb dL_law_1188 (lv_at hl 4 rfl) ?_
  refine lv_iconst (v := nI 2) hx hb dL_law_1190 (by decide +kernel) ?_
  refine lv_iadd hx hb dL_law_1191 ?_
  refine w_toeq (show (nI 0) + (nI 2) = nI 2 by decide +kernel) ?_
  refine va_sld hx hb hX hbl hbA hS (vp_in_nI (n := 2) (by decide) (by decide)) dL_law_1192 ?_
  refine w_toeq (show xs (nI 2).toNatClampNeg = yb by rw [nI_clamp (n := 2) (by decide)]; exact hx2) ?_
  refine lv_aload_n hx hb dL_law_1193 rfl (lv_at hl 3 rfl) ?_
  refine k_i (wr := [(h2, .inr (12, [.int (nI 0), .ref h3])), (h3, .inr (10, [.ref h4, .ref a8, .ref a9, .ref a10, .ref a11, .int (nI 0), .int (nI 0), .int (nI 60), .int (nI 0), .int (nI 2), .int (nI 0), .int (nI 0), .int (nI 0), .int (nI 0), .int (nI 0), .int (nI 0), .int (nI 0)])), (h4, .inr (13, [.int (nI 0), .ref (G 0), .int (nI 0)]))]) (run_SW hnc (rest := []) hx hb hml hown hts hK hP hD hS hA hm (C1240_field l G D K hl0 H.size h0 h1 a12 (.ref a0) (.ref a1) (.ref a2) (.ref a3) (.ref a4) (.ref a5) (.ref a6) (.int (nI 0)) (.ref a7) ya (by omega) (by omega) yb) [0, 1] rfl rfl mokh_yL_field w_1073 w_1074 ⟨Nat.le_of_ble_eq_true rfl, Nat.le_of_ble_eq_true rfl⟩ rfl hl.1 rfl (Nat.le_of_ble_eq_true rfl) dL_law_1194 ⟨(by dsimp only [room_1]; omega), (by dsimp only [room_1]; omega)⟩) hP hD hS hA [0, 1] [2, 3, 4] rfl rfl rfl (by decide) (w2 := fun u0 => [(h2, .inr (12, [.int (nI 0), .ref h3])), (h3, .inr (10, [.ref h4, .ref a8, .ref a9, .ref a10, .ref a11, .int (nI 0), .int (nI 0), .int (nI 60), .int (nI 0), .int (nI 2), .int (nI 0), .int (nI 0), .int (nI 0), .int (nI 0), .int (nI 0), .int (nI 0), .int (nI 0)])), (h4, .inr (13, [.int (nI 0), .ref (G 0), .int (nI 0)]))]) (fun _ => rfl) (fun u0 H locs hP hD hS => ?_)
  refine lv_istore (lv' := [(5, .int (nI 1)), (0, .ref b), (1, .ref h0), (2, .ref h2), (3, .ref a12), (4, .int (nI 0))]) hx hb dL_law_1197 hl (by decide) rfl (fun ls hl => ?_)
  refine lv_aload_n hx hb dL_law_1199 rfl (lv_at hl 3 rfl) ?_
  refine lv_aload_n hx hb dL_law_1200 rfl (lv_at hl 1 rfl) ?_
  refine lv_iload hx hb dL_law_1201 (lv_at hl 5 rfl) ?_
  refine lv_iconst (v := nI 1) hx hb dL_law_1203 (by decide +kernel) ?_
  refine lv_iadd hx hb dL_law_1204 ?_
  refine w_toeq (show (nI 0) + (nI 1) = nI 1 by decide +kernel) ?_
  refine va_sld hx hb hX hbl hbA hS (vp_in_nI (n := 1) (by decide) (by decide)) dL_law_1205 ?_
  refine w_toeq (show xs (nI 1).toNatClampNeg = nI ya by rw [nI_clamp (n := 1) (by decide)]; exact hx1) ?_
  refine lv_aload_n hx hb dL_law_1206 rfl (lv_at hl 1 rfl) ?_
  refine lv_iload hx hb dL_law_1207 (lv_at hl 5 rfl) ?_
  refine lv_iconst (v := nI 2) hx hb dL_law_1209 (by decide +kernel) ?_
  refine lv_iadd hx hb dL_law_1210 ?_
  refine w_toeq (show (nI 0) + (nI 2) = nI 2 by decide +kernel) ?_
  refine va_sld hx hb hX hbl hbA hS (vp_in_nI (n := 2) (by decide) (by decide)) dL_law_1211 ?_
  refine w_toeq (show xs (nI 2).toNatClampNeg = yb by rw [nI_clamp (n := 2) (by decide)]; exact hx2) ?_
  refine k_i (wr := []) (run_V (rest := []) hx hb hml hown hts hK hP hD hS hA hm (C870_field l G D K H.size h2 h3 h4 (.ref a8) (.ref a9) (.ref a10) (.ref a11) (.int (nI 0)) (.int (nI 0)) (.int (nI 60)) (.int (nI 0)) (.int (nI 2)) (.int (nI 0)) (.int (nI 0)) (.int (nI 0)) (.int (nI 0)) (.int (nI 0)) (.int (nI 0)) (.int (nI 0)) (.int (nI 0)) (.ref (G 0)) ya (by omega) (by omega) yb) [0, 1, 2] rfl rfl mok_yX12_field w_2005 w_2006 w_2007 (rcv hK hP 0 rfl rfl rfl) ⟨Nat.le_of_ble_eq_true rfl, Nat.le_of_ble_eq_true rfl⟩ rfl hl.1 rfl (Nat.le_of_ble_eq_true rfl) dL_law_1212 ⟨(by dsimp only [room_1]; omega), (by dsimp only [room_1]; omega)⟩) hP hD hS hA [0, 1, 2] [] rfl rfl rfl (by decide) (w2 := fun u1 => [(h3, .inr (10, [.ref h4, .ref a8, .ref a9, .ref a10, .ref a11, .int (nI 0), .int (nI 0), .int (nI 60), .int (nI 0), .int (nI 2), .int (nI 0), .int (nI 0), .int (nI 0), .int (nI 0), .int (nI 0), .int (nI 0), .int (nI 0)])), (h4, .inr (13, [.int (nI 0), .ref (G 0), .int (nI 0)])), (h2, .inr (12, [.int (nI 1), .ref h3]))]) (fun _ => rfl) (fun u1 H locs hP hD hS => ?_)
  refine lv_istore (lv' := [(6, .int (nI 0)), (5, .int (nI 1)), (0, .ref b), (1, .ref h0), (2, .ref h2), (3, .ref a12), (4, .int (nI 0))]) hx hb dL_law_1215 hl (by decide) rfl (fun ls hl => ?_)
  refine lv_aload_n hx hb dL_law_1217 rfl (lv_at hl 4 rfl) ?_
  refine k_i (wr := [(h3, .inr (10, [.ref h4, .ref a8, .ref a9, .ref a10, .ref a11, .int (nI 0), .int (nI 0), .int (nI 60), .int (nI 0), .int (nI 2), .int (nI 0), .int (nI 0), .int (nI 0), .int (nI 0), .int (nI 0), .int (nI 0), .int (nI 0)])), (h4, .inr (13, [.int (nI 0), .ref (G 0), .int (nI 0)]))]) (run_V (rest := []) hx hb hml hown hts hK hP hD hS hA hm (C1059_thrown l G D K H.size h2 (.ref h3)) [2] rfl rfl mok_yX12_thrown w_1300 w_1301 w_1302 (rcv hK hP 2 rfl rfl rfl) ⟨Nat.le_of_ble_eq_true rfl, Nat.le_of_ble_eq_true rfl⟩ rfl hl.1 rfl (Nat.le_of_ble_eq_true rfl) dL_law_1218 ⟨(by dsimp only [room_1]; omega), (by dsimp only [room_1]; omega)⟩) hP hD hS hA [2] [0, 1] rfl rfl rfl (by decide) (w2 := fun u2 => [(h3, .inr (10, [.ref h4, .ref a8, .ref a9, .ref a10, .ref a11, .int (nI 0), .int (nI 0), .int (nI 60), .int (nI 0), .int (nI 2), .int (nI 0), .int (nI 0), .int (nI 0), .int (nI 0), .int (nI 0), .int (nI 0), .int (nI 0)])), (h4, .inr (13, [.int (nI 0), .ref (G 0), .int (nI 0)])), (h2, .inr (12, [.int (nI 1), .ref h3]))]) (fun _ => rfl) (fun u2 H locs hP hD hS => ?_)
  refine lv_iload hx hb dL_law_1221 (lv_at hl 1 rfl) ?_
  refine lv_icmp_eq (tgt := 1228) hx hb dL_law_1223 (by decide) (fun _ => ?_) (fun c9 => absurd (by decide +kernel) c9)
  refine lv_iload hx hb dL_law_1228 (lv_at hl 1 rfl) ?_
  refine lv_if_ne (tgt := 1245) hx hb dL_law_1230 (by decide) (fun _ => ?_) (fun c9 => absurd c9 (by decide +kernel))
  refine lv_goto (tgt := 1762) hx hb dL_law_1245 (by decide) ?_
  refine lv_iinc (v := nI 4) (lv' := [(4, .int (nI 4)), (6, .int (nI 0)), (5, .int (nI 1)), (0, .ref b), (1, .ref h0), (2, .ref h2), (3, .ref a12)]) hx hb dL_law_1762 hl (k := 6) rfl (by decide +kernel) (by decide) rfl (fun ls hl => ?_)
  refine lv_goto (tgt := 23) hx hb dL_law_1765 (by decide) ?_
  refine lv_iload hx hb dL_law_23 (lv_at hl 0 rfl) ?_
  refine lv_aload_n hx hb dL_law_25 rfl (lv_at hl 3 rfl) ?_
  refine va_slen hx hb hX hbl hbA hS dL_law_26 ?_
  refine w_toeq (show Int32.ofNat 4 = nI 4 from rfl) ?_
  refine lv_iconst (v := nI 4) hx hb dL_law_27 (by decide +kernel) ?_
  refine lv_isub hx hb dL_law_28 ?_
  refine w_toeq (show (nI 4) - (nI 4) = nI 0 by decide +kernel) ?_
  refine lv_icmp_gt (tgt := 1768) hx hb dL_law_29 (by decide) (fun _ => ?_) (fun c9 => absurd (by decide +kernel) c9)
  refine lv_iconst (v := nI 1) hx hb dL_law_1768 (by decide +kernel) ?_
  exact law_end hx hb hr hlk hS (by dsimp only; omega) (by dsimp only; omega) dL_law_1769
set_option maxHeartbeats 4000000 in
set_option maxRecDepth 100000 in
theorem LW186_ofObject {p : Program} {e : Env} {s : State} {m : MethodId} {below : List Frame} {meth : Method} {c : Code} {l : Launch} {G : Nat → Nat} {D : va_G} {K : Nat → ClassId} {b : Nat} {xs : Nat → Int32} (hx : p.tables.exec = Jvm.exec) (hb : c.code = cL_law) (hr : meth.sig.returnType = some .boolean) (hlk : meth.locks = false) (hl0 : l.stackTraces = false) (hnc : Ncs s) (hml : c.maxLocals = 9) (hown : s.vm.findClass RL = some m.cls) (hts : ∀ w ∈ lw_gw, w.before #[Value.ref b] s = true) (hK : va_K D cl (tys K) s) (hm : Amb G (fun q : Nat => s.heap.size ≤ q) s s.heap) (hX : va_X b 4 xs s s.heap) (hbl : b < s.heap.size) {h0 h1 h2 h3 h4 a0 a1 a2 a3 a4 a5 a6 a7 a8 a9 a10 a11 a12 : Nat} (ya : Int32) (hya : ya < 0) (hx1 : xs 1 = ya) (yb : Int32) (hx2 : xs 2 = yb) {H : Heap} {locs : List Loc} {cells slots : Nat} (hcs : cells ≤ 1000) (hss : slots ≤ 100000) (hP : va_P D cl [(h0, .inr (9, [.ref h1, .ref a0, .ref a1, .ref a2, .ref a3, .ref a4, .ref a5, .ref a6, .int (nI 0)])), (h1, .inr (5, [.ref a7, .int (nI 0)])), (h2, .inr (12, [.int (nI 0), .ref h3])), (h3, .inr (10, [.ref h4, .ref a8, .ref a9, .ref a10, .ref a11, .int (nI 0), .int (nI 0), .int (nI 60), .int (nI 0), .int (nI 2), .int (nI 0), .int (nI 0), .int (nI 0), .int (nI 0), .int (nI 0), .int (nI 0), .int (nI 0)])), (h4, .inr (13, [.int (nI 0), .ref (G 0), .int (nI 0)]))] H) (hD : va_D (fun q : Nat => s.heap.size ≤ q) [(h0, .inr (9, [.ref h1, .ref a0, .ref a1, .ref a2, .ref a3, .ref a4, .ref a5, .ref a6, .int (nI 0)])), (h1, .inr (5, [.ref a7, .int (nI 0)])), (h2, .inr (12, [.int (nI 0), .ref h3])), (h3, .inr (10, [.ref h4, .ref a8, .ref a9, .ref a10, .ref a11, .int (nI 0), .int (nI 0), .int (nI 60), .int (nI 0), .int (nI 2), .int (nI 0), .int (nI 0), .int (nI 0), .int (nI 0), .int (nI 0), .int (nI 0), .int (nI 0)])), (h4, .inr (13, [.int (nI 0), .ref (G 0), .int (nI 0)]))]) (hS : va_S (fun q : Nat => s.heap.size ≤ q) s.heap H locs) {ls : Array Slot} (hl : lv_has ls 9 [(0, .ref b), (1, .ref h0), (2, .ref h2), (3, .ref a12), (4, .int (nI 0))]) : W p l e room_1 s m #[Value.ref b] below meth c H locs cells slots (lw_Z below #[Value.ref b] s) (F0 m 1248 ls []) := by
  have hA : ∀ q : Nat, s.heap.size ≤ q → (fun q : Nat => s.heap.size ≤ q) q := fun _ h => h
  have hbA : ¬ (fun q : Nat => s.heap.size ≤ q) b := Nat.not_le.mpr hbl
  refine lv_aload_n hx hb dL_law_1248 rfl (lv_at hl 1 rfl) ?_
  refine lv_aload_n hx hb dL_law_1249 rfl (lv_at hl 0 rfl) ?_
  refine lv_iload hx hb dL_law_1250 (lv_at hl 4 rfl) ?_
  refine lv_iconst (v := nI 1) hx hb dL_law_1252 (by decide +kernel) ?_
  refine lv_iadd hx hb dL_law_1253 ?_
  refine w_toeq (show (nI 0) + (nI 1) = nI 1 by decide +kernel) ?_
  refine va_sld hx hb hX hbl hbA hS (vp_in_nI (n := 1) (by decide) (by decide)) dL_law_1254 ?_
  refine w_toeq (show xs (nI 1).toNatClampNeg = ya by rw [nI_clamp (n := 1) (by decide)]; exact hx1) ?_
  refine lv_aload_n hx hb dL_law_1255 rfl (lv_at hl 0 rfl) ?_
  refine lv_iload hx hb dL_law_1256 (lv_at hl 4 rfl) ?_
  refine lv_iconst (v := nI 2) hx hb dL_law_1258 (by decide +kernel) ?_
  refine lv_iadd hx hb dL_law_1259 ?_
  refine w_toeq (show (nI 0) + (nI 2) = nI 2 by decide +kernel) ?_
  refine va_sld hx hb hX hbl hbA hS (vp_in_nI (n := 2) (by decide) (by decide)) dL_law_1260 ?_
  refine w_toeq (show xs (nI 2).toNatClampNeg = yb by rw [nI_clamp (n := 2) (by decide)]; exact hx2) ?_
  refine lv_aload_n hx hb dL_law_1261 rfl (lv_at hl 3 rfl) ?_
  refine k_i (wr := [(h2, .inr (12, [.int (nI 0), .ref h3])), (h3, .inr (10, [.ref h4, .ref a8, .ref a9, .ref a10, .ref a11, .int (nI 0), .int (nI 0), .int (nI 60), .int (nI 0), .int (nI 2), .int (nI 0), .int (nI 0), .int (nI 0), .int (nI 0), .int (nI 0), .int (nI 0), .int (nI 0)])), (h4, .inr (13, [.int (nI 0), .ref (G 0), .int (nI 0)]))]) (run_SW hnc (rest := []) hx hb hml hown hts hK hP hD hS hA hm (C1241_ofObject l G D K hl0 H.size h0 h1 a12 (.ref a0) (.ref a1) (.ref a2) (.ref a3) (.ref a4) (.ref a5) (.ref a6) (.int (nI 0)) (.ref a7) (.int (nI 0)) ya hya yb) [0, 1] rfl rfl mokh_yL_ofObject w_1080 w_1081 ⟨Nat.le_of_ble_eq_true rfl, Nat.le_of_ble_eq_true rfl⟩ rfl hl.1 rfl (Nat.le_of_ble_eq_true rfl) dL_law_1262 ⟨(by dsimp only [room_1]; omega), (by dsimp only [room_1]; omega)⟩) hP hD hS hA [0, 1] [2, 3, 4] rfl rfl rfl (by decide) (w2 := fun u0 => [(h2, .inr (12, [.int (nI 0), .ref h3])), (h3, .inr (10, [.ref h4, .ref a8, .ref a9, .ref a10, .ref a11, .int (nI 0), .int (nI 0), .int (nI 60), .int (nI 0), .int (nI 2), .int (nI 0), .int (nI 0), .int (nI 0), .int (nI 0), .int (nI 0), .int (nI 0), .int (nI 0)])), (h4, .inr (13, [.int (nI 0), .ref (G 0), .int (nI 0)]))]) (fun _ => rfl) (fun u0 H locs hP hD hS => ?_)
  refine lv_istore (lv' := [(5, .int (nI 1)), (0, .ref b), (1, .ref h0), (2, .ref h2), (3, .ref a12), (4, .int (nI 0))]) hx hb dL_law_1265 hl (by decide) rfl (fun ls hl => ?_)
  refine lv_aload_n hx hb dL_law_1267 rfl (lv_at hl 3 rfl) ?_
  refine lv_aload_n hx hb dL_law_1268 rfl (lv_at hl 1 rfl) ?_
  refine lv_iload hx hb dL_law_1269 (lv_at hl 5 rfl) ?_
  refine lv_iconst (v := nI 1) hx hb dL_law_1271 (by decide +kernel) ?_
  refine lv_iadd hx hb dL_law_1272 ?_
  refine w_toeq (show (nI 0) + (nI 1) = nI 1 by decide +kernel) ?_
  refine va_sld hx hb hX hbl hbA hS (vp_in_nI (n := 1) (by decide) (by decide)) dL_law_1273 ?_
  refine w_toeq (show xs (nI 1).toNatClampNeg = ya by rw [nI_clamp (n := 1) (by decide)]; exact hx1) ?_
  refine lv_aload_n hx hb dL_law_1274 rfl (lv_at hl 1 rfl) ?_
  refine lv_iload hx hb dL_law_1275 (lv_at hl 5 rfl) ?_
  refine lv_iconst (v := nI 2) hx hb dL_law_1277 (by decide +kernel) ?_
  refine lv_iadd hx hb dL_law_1278 ?_
  refine w_toeq (show (nI 0) + (nI 2) = nI 2 by decide +kernel) ?_
  refine va_sld hx hb hX hbl hbA hS (vp_in_nI (n := 2) (by decide) (by decide)) dL_law_1279 ?_
  refine w_toeq (show xs (nI 2).toNatClampNeg = yb by rw [nI_clamp (n := 2) (by decide)]; exact hx2) ?_
  refine k_i (wr := []) (run_V (rest := []) hx hb hml hown hts hK hP hD hS hA hm (C872_ofObject l G D K H.size h2 h3 h4 (.ref a8) (.ref a9) (.ref a10) (.ref a11) (.int (nI 0)) (.int (nI 0)) (.int (nI 60)) (.int (nI 0)) (.int (nI 2)) (.int (nI 0)) (.int (nI 0)) (.int (nI 0)) (.int (nI 0)) (.int (nI 0)) (.int (nI 0)) (.int (nI 0)) (.int (nI 0)) (.ref (G 0)) ya hya yb) [0, 1, 2] rfl rfl mok_yX12_ofObject w_2017 w_2018 w_2019 (rcv hK hP 0 rfl rfl rfl) ⟨Nat.le_of_ble_eq_true rfl, Nat.le_of_ble_eq_true rfl⟩ rfl hl.1 rfl (Nat.le_of_ble_eq_true rfl) dL_law_1280 ⟨(by dsimp only [room_1]; omega), (by dsimp only [room_1]; omega)⟩) hP hD hS hA [0, 1, 2] [] rfl rfl rfl (by decide) (w2 := fun u1 => [(h3, .inr (10, [.ref h4, .ref a8, .ref a9, .ref a10, .ref a11, .int (nI 0), .int (nI 0), .int (nI 60), .int (nI 0), .int (nI 2), .int (nI 0), .int (nI 0), .int (nI 0), .int (nI 0), .int (nI 0), .int (nI 0), .int (nI 0)])), (h4, .inr (13, [.int (nI 0), .ref (G 0), .int (nI 0)])), (h2, .inr (12, [.int (nI 1), .ref h3]))]) (fun _ => rfl) (fun u1 H locs hP hD hS => ?_)
  refine lv_istore (lv' := [(6, .int (nI 0)), (5, .int (nI 1)), (0, .ref b), (1, .ref h0), (2, .ref h2), (3, .ref a12), (4, .int (nI 0))]) hx hb dL_law_1283 hl (by decide) rfl (fun ls hl => ?_)
  refine lv_aload_n hx hb dL_law_1285 rfl (lv_at hl 4 rfl) ?_
  refine k_i (wr := [(h3, .inr (10, [.ref h4, .ref a8, .ref a9, .ref a10, .ref a11, .int (nI 0), .int (nI 0), .int (nI 60), .int (nI 0), .int (nI 2), .int (nI 0), .int (nI 0), .int (nI 0), .int (nI 0), .int (nI 0), .int (nI 0), .int (nI 0)])), (h4, .inr (13, [.int (nI 0), .ref (G 0), .int (nI 0)]))]) (run_V (rest := []) hx hb hml hown hts hK hP hD hS hA hm (C1059_thrown l G D K H.size h2 (.ref h3)) [2] rfl rfl mok_yX12_thrown w_1300 w_1301 w_1302 (rcv hK hP 2 rfl rfl rfl) ⟨Nat.le_of_ble_eq_true rfl, Nat.le_of_ble_eq_true rfl⟩ rfl hl.1 rfl (Nat.le_of_ble_eq_true rfl) dL_law_1286 ⟨(by dsimp only [room_1]; omega), (by dsimp only [room_1]; omega)⟩) hP hD hS hA [2] [0, 1] rfl rfl rfl (by decide) (w2 := fun u2 => [(h3, .inr (10, [.ref h4, .ref a8, .ref a9, .ref a10, .ref a11, .int (nI 0), .int (nI 0), .int (nI 60), .int (nI 0), .int (nI 2), .int (nI 0), .int (nI 0), .int (nI 0), .int (nI 0), .int (nI 0), .int (nI 0), .int (nI 0)])), (h4, .inr (13, [.int (nI 0), .ref (G 0), .int (nI 0)])), (h2, .inr (12, [.int (nI 1), .ref h3]))]) (fun _ => rfl) (fun u2 H locs hP hD hS => ?_)
  refine lv_iload hx hb dL_law_1289 (lv_at hl 1 rfl) ?_
  refine lv_icmp_eq (tgt := 1296) hx hb dL_law_1291 (by decide) (fun _ => ?_) (fun c9 => absurd (by decide +kernel) c9)
  refine lv_iload hx hb dL_law_1296 (lv_at hl 1 rfl) ?_
  refine lv_if_ne (tgt := 1313) hx hb dL_law_1298 (by decide) (fun _ => ?_) (fun c9 => absurd c9 (by decide +kernel))
  refine lv_goto (tgt := 1762) hx hb dL_law_1313 (by decide) ?_
  refine lv_iinc (v := nI 4) (lv' := [(4, .int (nI 4)), (6, .int (nI 0)), (5, .int (nI 1)), (0, .ref b), (1, .ref h0), (2, .ref h2), (3, .ref a12)]) hx hb dL_law_1762 hl (k := 6) rfl (by decide +kernel) (by decide) rfl (fun ls hl => ?_)
  refine lv_goto (tgt := 23) hx hb dL_law_1765 (by decide) ?_
  refine lv_iload hx hb dL_law_23 (lv_at hl 0 rfl) ?_
  refine lv_aload_n hx hb dL_law_25 rfl (lv_at hl 3 rfl) ?_
  refine va_slen hx hb hX hbl hbA hS dL_law_26 ?_
  refine w_toeq (show Int32.ofNat 4 = nI 4 from rfl) ?_
  refine lv_iconst (v := nI 4) hx hb dL_law_27 (by decide +kernel) ?_
  refine lv_isub hx hb dL_law_28 ?_
  refine w_toeq (show (nI 4) - (nI 4) = nI 0 by decide +kernel) ?_
  refine lv_icmp_gt (tgt := 1768) hx hb dL_law_29 (by decide) (fun _ => ?_) (fun c9 => absurd (by decide +kernel) c9)
  refine lv_iconst (v := nI 1) hx hb dL_law_1768 (by decide +kernel) ?_
  exact law_end hx hb hr hlk hS (by dsimp only; omega) (by dsimp only; omega) dL_law_1769
set_option maxHeartbeats 4000000 in
set_option maxRecDepth 100000 in
theorem LW187_ofObject {p : Program} {e : Env} {s : State} {m : MethodId} {below : List Frame} {meth : Method} {c : Code} {l : Launch} {G : Nat → Nat} {D : va_G} {K : Nat → ClassId} {b : Nat} {xs : Nat → Int32} (hx : p.tables.exec = Jvm.exec) (hb : c.code = cL_law) (hr : meth.sig.returnType = some .boolean) (hlk : meth.locks = false) (hl0 : l.stackTraces = false) (hnc : Ncs s) (hml : c.maxLocals = 9) (hown : s.vm.findClass RL = some m.cls) (hts : ∀ w ∈ lw_gw, w.before #[Value.ref b] s = true) (hK : va_K D cl (tys K) s) (hm : Amb G (fun q : Nat => s.heap.size ≤ q) s s.heap) (hX : va_X b 4 xs s s.heap) (hbl : b < s.heap.size) {h0 h1 h2 h3 h4 a0 a1 a2 a3 a4 a5 a6 a7 a8 a9 a10 a11 a12 : Nat} (ya : Nat) (lya : 0 ≤ ya) (gya : ya ≤ 2147483647) (hx1 : xs 1 = nI ya) (yb : Int32) (hx2 : xs 2 = yb) {H : Heap} {locs : List Loc} {cells slots : Nat} (hcs : cells ≤ 1000) (hss : slots ≤ 100000) (hP : va_P D cl [(h0, .inr (9, [.ref h1, .ref a0, .ref a1, .ref a2, .ref a3, .ref a4, .ref a5, .ref a6, .int (nI 0)])), (h1, .inr (5, [.ref a7, .int (nI 0)])), (h2, .inr (12, [.int (nI 0), .ref h3])), (h3, .inr (10, [.ref h4, .ref a8, .ref a9, .ref a10, .ref a11, .int (nI 0), .int (nI 0), .int (nI 60), .int (nI 0), .int (nI 2), .int (nI 0), .int (nI 0), .int (nI 0), .int (nI 0), .int (nI 0), .int (nI 0), .int (nI 0)])), (h4, .inr (13, [.int (nI 0), .ref (G 0), .int (nI 0)]))] H) (hD : va_D (fun q : Nat => s.heap.size ≤ q) [(h0, .inr (9, [.ref h1, .ref a0, .ref a1, .ref a2, .ref a3, .ref a4, .ref a5, .ref a6, .int (nI 0)])), (h1, .inr (5, [.ref a7, .int (nI 0)])), (h2, .inr (12, [.int (nI 0), .ref h3])), (h3, .inr (10, [.ref h4, .ref a8, .ref a9, .ref a10, .ref a11, .int (nI 0), .int (nI 0), .int (nI 60), .int (nI 0), .int (nI 2), .int (nI 0), .int (nI 0), .int (nI 0), .int (nI 0), .int (nI 0), .int (nI 0), .int (nI 0)])), (h4, .inr (13, [.int (nI 0), .ref (G 0), .int (nI 0)]))]) (hS : va_S (fun q : Nat => s.heap.size ≤ q) s.heap H locs) {ls : Array Slot} (hl : lv_has ls 9 [(0, .ref b), (1, .ref h0), (2, .ref h2), (3, .ref a12), (4, .int (nI 0))]) : W p l e room_1 s m #[Value.ref b] below meth c H locs cells slots (lw_Z below #[Value.ref b] s) (F0 m 1248 ls []) := by
  have hA : ∀ q : Nat, s.heap.size ≤ q → (fun q : Nat => s.heap.size ≤ q) q := fun _ h => h
  have hbA : ¬ (fun q : Nat => s.heap.size ≤ q) b := Nat.not_le.mpr hbl
  refine lv_aload_n hx hb dL_law_1248 rfl (lv_at hl 1 rfl) ?_
  refine lv_aload_n hx hb dL_law_1249 rfl (lv_at hl 0 rfl) ?_
  refine lv_iload hx hb dL_law_1250 (lv_at hl 4 rfl) ?_
  refine lv_iconst (v := nI 1) hx hb dL_law_1252 (by decide +kernel) ?_
  refine lv_iadd hx hb dL_law_1253 ?_
  refine w_toeq (show (nI 0) + (nI 1) = nI 1 by decide +kernel) ?_
  refine va_sld hx hb hX hbl hbA hS (vp_in_nI (n := 1) (by decide) (by decide)) dL_law_1254 ?_
  refine w_toeq (show xs (nI 1).toNatClampNeg = nI ya by rw [nI_clamp (n := 1) (by decide)]; exact hx1) ?_
  refine lv_aload_n hx hb dL_law_1255 rfl (lv_at hl 0 rfl) ?_
  refine lv_iload hx hb dL_law_1256 (lv_at hl 4 rfl) ?_
  refine lv_iconst (v := nI 2) hx hb dL_law_1258 (by decide +kernel) ?_
  refine lv_iadd hx hb dL_law_1259 ?_
  refine w_toeq (show (nI 0) + (nI 2) = nI 2 by decide +kernel) ?_
  refine va_sld hx hb hX hbl hbA hS (vp_in_nI (n := 2) (by decide) (by decide)) dL_law_1260 ?_
  refine w_toeq (show xs (nI 2).toNatClampNeg = yb by rw [nI_clamp (n := 2) (by decide)]; exact hx2) ?_
  refine lv_aload_n hx hb dL_law_1261 rfl (lv_at hl 3 rfl) ?_
  refine k_i (wr := [(h2, .inr (12, [.int (nI 0), .ref h3])), (h3, .inr (10, [.ref h4, .ref a8, .ref a9, .ref a10, .ref a11, .int (nI 0), .int (nI 0), .int (nI 60), .int (nI 0), .int (nI 2), .int (nI 0), .int (nI 0), .int (nI 0), .int (nI 0), .int (nI 0), .int (nI 0), .int (nI 0)])), (h4, .inr (13, [.int (nI 0), .ref (G 0), .int (nI 0)]))]) (run_SW hnc (rest := []) hx hb hml hown hts hK hP hD hS hA hm (C1242_ofObject l G D K hl0 H.size h0 h1 a12 (.ref a0) (.ref a1) (.ref a2) (.ref a3) (.ref a4) (.ref a5) (.ref a6) (.int (nI 0)) (.ref a7) ya (by omega) (by omega) yb) [0, 1] rfl rfl mokh_yL_ofObject w_1080 w_1081 ⟨Nat.le_of_ble_eq_true rfl, Nat.le_of_ble_eq_true rfl⟩ rfl hl.1 rfl (Nat.le_of_ble_eq_true rfl) dL_law_1262 ⟨(by dsimp only [room_1]; omega), (by dsimp only [room_1]; omega)⟩) hP hD hS hA [0, 1] [2, 3, 4] rfl rfl rfl (by decide) (w2 := fun u0 => [(h2, .inr (12, [.int (nI 0), .ref h3])), (h3, .inr (10, [.ref h4, .ref a8, .ref a9, .ref a10, .ref a11, .int (nI 0), .int (nI 0), .int (nI 60), .int (nI 0), .int (nI 2), .int (nI 0), .int (nI 0), .int (nI 0), .int (nI 0), .int (nI 0), .int (nI 0), .int (nI 0)])), (h4, .inr (13, [.int (nI 0), .ref (G 0), .int (nI 0)]))]) (fun _ => rfl) (fun u0 H locs hP hD hS => ?_)
  refine lv_istore (lv' := [(5, .int (nI 1)), (0, .ref b), (1, .ref h0), (2, .ref h2), (3, .ref a12), (4, .int (nI 0))]) hx hb dL_law_1265 hl (by decide) rfl (fun ls hl => ?_)
  refine lv_aload_n hx hb dL_law_1267 rfl (lv_at hl 3 rfl) ?_
  refine lv_aload_n hx hb dL_law_1268 rfl (lv_at hl 1 rfl) ?_
  refine lv_iload hx hb dL_law_1269 (lv_at hl 5 rfl) ?_
  refine lv_iconst (v := nI 1) hx hb dL_law_1271 (by decide +kernel) ?_
  refine lv_iadd hx hb dL_law_1272 ?_
  refine w_toeq (show (nI 0) + (nI 1) = nI 1 by decide +kernel) ?_
  refine va_sld hx hb hX hbl hbA hS (vp_in_nI (n := 1) (by decide) (by decide)) dL_law_1273 ?_
  refine w_toeq (show xs (nI 1).toNatClampNeg = nI ya by rw [nI_clamp (n := 1) (by decide)]; exact hx1) ?_
  refine lv_aload_n hx hb dL_law_1274 rfl (lv_at hl 1 rfl) ?_
  refine lv_iload hx hb dL_law_1275 (lv_at hl 5 rfl) ?_
  refine lv_iconst (v := nI 2) hx hb dL_law_1277 (by decide +kernel) ?_
  refine lv_iadd hx hb dL_law_1278 ?_
  refine w_toeq (show (nI 0) + (nI 2) = nI 2 by decide +kernel) ?_
  refine va_sld hx hb hX hbl hbA hS (vp_in_nI (n := 2) (by decide) (by decide)) dL_law_1279 ?_
  refine w_toeq (show xs (nI 2).toNatClampNeg = yb by rw [nI_clamp (n := 2) (by decide)]; exact hx2) ?_
  refine k_i (wr := []) (run_V (rest := []) hx hb hml hown hts hK hP hD hS hA hm (C874_ofObject l G D K H.size h2 h3 h4 (.ref a8) (.ref a9) (.ref a10) (.ref a11) (.int (nI 0)) (.int (nI 0)) (.int (nI 60)) (.int (nI 0)) (.int (nI 2)) (.int (nI 0)) (.int (nI 0)) (.int (nI 0)) (.int (nI 0)) (.int (nI 0)) (.int (nI 0)) (.int (nI 0)) (.int (nI 0)) (.ref (G 0)) ya (by omega) (by omega) yb) [0, 1, 2] rfl rfl mok_yX12_ofObject w_2017 w_2018 w_2019 (rcv hK hP 0 rfl rfl rfl) ⟨Nat.le_of_ble_eq_true rfl, Nat.le_of_ble_eq_true rfl⟩ rfl hl.1 rfl (Nat.le_of_ble_eq_true rfl) dL_law_1280 ⟨(by dsimp only [room_1]; omega), (by dsimp only [room_1]; omega)⟩) hP hD hS hA [0, 1, 2] [] rfl rfl rfl (by decide) (w2 := fun u1 => [(h3, .inr (10, [.ref h4, .ref a8, .ref a9, .ref a10, .ref a11, .int (nI 0), .int (nI 0), .int (nI 60), .int (nI 0), .int (nI 2), .int (nI 0), .int (nI 0), .int (nI 0), .int (nI 0), .int (nI 0), .int (nI 0), .int (nI 0)])), (h4, .inr (13, [.int (nI 0), .ref (G 0), .int (nI 0)])), (h2, .inr (12, [.int (nI 1), .ref h3]))]) (fun _ => rfl) (fun u1 H locs hP hD hS => ?_)
  refine lv_istore (lv' := [(6, .int (nI 0)), (5, .int (nI 1)), (0, .ref b), (1, .ref h0), (2, .ref h2), (3, .ref a12), (4, .int (nI 0))]) hx hb dL_law_1283 hl (by decide) rfl (fun ls hl => ?_)
  refine lv_aload_n hx hb dL_law_1285 rfl (lv_at hl 4 rfl) ?_
  refine k_i (wr := [(h3, .inr (10, [.ref h4, .ref a8, .ref a9, .ref a10, .ref a11, .int (nI 0), .int (nI 0), .int (nI 60), .int (nI 0), .int (nI 2), .int (nI 0), .int (nI 0), .int (nI 0), .int (nI 0), .int (nI 0), .int (nI 0), .int (nI 0)])), (h4, .inr (13, [.int (nI 0), .ref (G 0), .int (nI 0)]))]) (run_V (rest := []) hx hb hml hown hts hK hP hD hS hA hm (C1059_thrown l G D K H.size h2 (.ref h3)) [2] rfl rfl mok_yX12_thrown w_1300 w_1301 w_1302 (rcv hK hP 2 rfl rfl rfl) ⟨Nat.le_of_ble_eq_true rfl, Nat.le_of_ble_eq_true rfl⟩ rfl hl.1 rfl (Nat.le_of_ble_eq_true rfl) dL_law_1286 ⟨(by dsimp only [room_1]; omega), (by dsimp only [room_1]; omega)⟩) hP hD hS hA [2] [0, 1] rfl rfl rfl (by decide) (w2 := fun u2 => [(h3, .inr (10, [.ref h4, .ref a8, .ref a9, .ref a10, .ref a11, .int (nI 0), .int (nI 0), .int (nI 60), .int (nI 0), .int (nI 2), .int (nI 0), .int (nI 0), .int (nI 0), .int (nI 0), .int (nI 0), .int (nI 0), .int (nI 0)])), (h4, .inr (13, [.int (nI 0), .ref (G 0), .int (nI 0)])), (h2, .inr (12, [.int (nI 1), .ref h3]))]) (fun _ => rfl) (fun u2 H locs hP hD hS => ?_)
  refine lv_iload hx hb dL_law_1289 (lv_at hl 1 rfl) ?_
  refine lv_icmp_eq (tgt := 1296) hx hb dL_law_1291 (by decide) (fun _ => ?_) (fun c9 => absurd (by decide +kernel) c9)
  refine lv_iload hx hb dL_law_1296 (lv_at hl 1 rfl) ?_
  refine lv_if_ne (tgt := 1313) hx hb dL_law_1298 (by decide) (fun _ => ?_) (fun c9 => absurd c9 (by decide +kernel))
  refine lv_goto (tgt := 1762) hx hb dL_law_1313 (by decide) ?_
  refine lv_iinc (v := nI 4) (lv' := [(4, .int (nI 4)), (6, .int (nI 0)), (5, .int (nI 1)), (0, .ref b), (1, .ref h0), (2, .ref h2), (3, .ref a12)]) hx hb dL_law_1762 hl (k := 6) rfl (by decide +kernel) (by decide) rfl (fun ls hl => ?_)
  refine lv_goto (tgt := 23) hx hb dL_law_1765 (by decide) ?_
  refine lv_iload hx hb dL_law_23 (lv_at hl 0 rfl) ?_
  refine lv_aload_n hx hb dL_law_25 rfl (lv_at hl 3 rfl) ?_
  refine va_slen hx hb hX hbl hbA hS dL_law_26 ?_
  refine w_toeq (show Int32.ofNat 4 = nI 4 from rfl) ?_
  refine lv_iconst (v := nI 4) hx hb dL_law_27 (by decide +kernel) ?_
  refine lv_isub hx hb dL_law_28 ?_
  refine w_toeq (show (nI 4) - (nI 4) = nI 0 by decide +kernel) ?_
  refine lv_icmp_gt (tgt := 1768) hx hb dL_law_29 (by decide) (fun _ => ?_) (fun c9 => absurd (by decide +kernel) c9)
  refine lv_iconst (v := nI 1) hx hb dL_law_1768 (by decide +kernel) ?_
  exact law_end hx hb hr hlk hS (by dsimp only; omega) (by dsimp only; omega) dL_law_1769
set_option maxHeartbeats 4000000 in
set_option maxRecDepth 100000 in
theorem LW188_many {p : Program} {e : Env} {s : State} {m : MethodId} {below : List Frame} {meth : Method} {c : Code} {l : Launch} {G : Nat → Nat} {D : va_G} {K : Nat → ClassId} {b : Nat} {xs : Nat → Int32} (hx : p.tables.exec = Jvm.exec) (hb : c.code = cL_law) (hr : meth.sig.returnType = some .boolean) (hlk : meth.locks = false) (hl0 : l.stackTraces = false) (hnc : Ncs s) (hml : c.maxLocals = 9) (hown : s.vm.findClass RL = some m.cls) (hts : ∀ w ∈ lw_gw, w.before #[Value.ref b] s = true) (hK : va_K D cl (tys K) s) (hm : Amb G (fun q : Nat => s.heap.size ≤ q) s s.heap) (hX : va_X b 4 xs s s.heap) (hbl : b < s.heap.size) {h0 h1 a0 a1 a2 a3 a4 a5 a6 a7 a8 a9 : Nat} (ya : Int32) (hya : ya < 0) (hx1 : xs 1 = ya) {H : Heap} {locs : List Loc} {cells slots : Nat} (hcs : cells ≤ 1000) (hss : slots ≤ 100000) (hP : va_P D cl [(h0, .inr (9, [.ref a0, .ref a1, .ref a2, .ref a3, .ref a4, .ref a5, .ref a6, .ref a7, .int (nI 0)])), (h1, .inr (12, [.int (nI 0), .ref a8]))] H) (hD : va_D (fun q : Nat => s.heap.size ≤ q) [(h0, .inr (9, [.ref a0, .ref a1, .ref a2, .ref a3, .ref a4, .ref a5, .ref a6, .ref a7, .int (nI 0)])), (h1, .inr (12, [.int (nI 0), .ref a8]))]) (hS : va_S (fun q : Nat => s.heap.size ≤ q) s.heap H locs) {ls : Array Slot} (hl : lv_has ls 9 [(0, .ref b), (1, .ref h0), (2, .ref h1), (3, .ref a9), (4, .int (nI 0))]) : W p l e room_1 s m #[Value.ref b] below meth c H locs cells slots (lw_Z below #[Value.ref b] s) (F0 m 1316 ls []) := by
  have hA : ∀ q : Nat, s.heap.size ≤ q → (fun q : Nat => s.heap.size ≤ q) q := fun _ h => h
  have hbA : ¬ (fun q : Nat => s.heap.size ≤ q) b := Nat.not_le.mpr hbl
  refine lv_aload_n hx hb dL_law_1316 rfl (lv_at hl 1 rfl) ?_
  refine lv_aload_n hx hb dL_law_1317 rfl (lv_at hl 0 rfl) ?_
  refine lv_iload hx hb dL_law_1318 (lv_at hl 4 rfl) ?_
  refine lv_iconst (v := nI 1) hx hb dL_law_1320 (by decide +kernel) ?_
  refine lv_iadd hx hb dL_law_1321 ?_
  refine w_toeq (show (nI 0) + (nI 1) = nI 1 by decide +kernel) ?_
  refine va_sld hx hb hX hbl hbA hS (vp_in_nI (n := 1) (by decide) (by decide)) dL_law_1322 ?_
  refine w_toeq (show xs (nI 1).toNatClampNeg = ya by rw [nI_clamp (n := 1) (by decide)]; exact hx1) ?_
  refine lv_aload_n hx hb dL_law_1323 rfl (lv_at hl 3 rfl) ?_
  refine k_i (wr := [(h1, .inr (12, [.int (nI 0), .ref a8]))]) (run_SW hnc (rest := []) hx hb hml hown hts hK hP hD hS hA hm (C1243_many l G D K hl0 H.size h0 a9 (.ref a0) (.ref a1) (.ref a2) (.ref a3) (.ref a4) (.ref a5) (.ref a6) (.ref a7) (.int (nI 0)) ya hya) [0] rfl rfl mokh_yL_many w_1084 w_1085 ⟨Nat.le_of_ble_eq_true rfl, Nat.le_of_ble_eq_true rfl⟩ rfl hl.1 rfl (Nat.le_of_ble_eq_true rfl) dL_law_1324 ⟨(by dsimp only [room_1]; omega), (by dsimp only [room_1]; omega)⟩) hP hD hS hA [0] [1] rfl rfl rfl (by decide) (w2 := fun u0 => [(h1, .inr (12, [.int (nI 0), .ref a8])), (h0, .inr (9, [.ref a0, .ref a1, .ref a2, .ref a3, .ref a4, .ref a5, .ref a6, .ref a7, .int (nI 0)]))]) (fun _ => rfl) (fun u0 H locs hP hD hS => ?_)
  refine lv_istore (lv' := [(5, .int (nI 1)), (0, .ref b), (1, .ref h0), (2, .ref h1), (3, .ref a9), (4, .int (nI 0))]) hx hb dL_law_1327 hl (by decide) rfl (fun ls hl => ?_)
  refine lv_aload_n hx hb dL_law_1329 rfl (lv_at hl 3 rfl) ?_
  refine lv_aload_n hx hb dL_law_1330 rfl (lv_at hl 1 rfl) ?_
  refine lv_iload hx hb dL_law_1331 (lv_at hl 5 rfl) ?_
  refine lv_iconst (v := nI 1) hx hb dL_law_1333 (by decide +kernel) ?_
  refine lv_iadd hx hb dL_law_1334 ?_
  refine w_toeq (show (nI 0) + (nI 1) = nI 1 by decide +kernel) ?_
  refine va_sld hx hb hX hbl hbA hS (vp_in_nI (n := 1) (by decide) (by decide)) dL_law_1335 ?_
  refine w_toeq (show xs (nI 1).toNatClampNeg = ya by rw [nI_clamp (n := 1) (by decide)]; exact hx1) ?_
  refine k_i (wr := [(h0, .inr (9, [.ref a0, .ref a1, .ref a2, .ref a3, .ref a4, .ref a5, .ref a6, .ref a7, .int (nI 0)]))]) (run_V (rest := []) hx hb hml hown hts hK hP hD hS hA hm (C877_many l G D K H.size h1 (.ref a8) ya hya) [0] rfl rfl mok_yX12_many w_2025 w_2026 w_2027 (rcv hK hP 0 rfl rfl rfl) ⟨Nat.le_of_ble_eq_true rfl, Nat.le_of_ble_eq_true rfl⟩ rfl hl.1 rfl (Nat.le_of_ble_eq_true rfl) dL_law_1336 ⟨(by dsimp only [room_1]; omega), (by dsimp only [room_1]; omega)⟩) hP hD hS hA [0] [1] rfl rfl rfl (by decide) (w2 := fun u1 => [(h0, .inr (9, [.ref a0, .ref a1, .ref a2, .ref a3, .ref a4, .ref a5, .ref a6, .ref a7, .int (nI 0)])), (h1, .inr (12, [.int (nI 1), .ref a8]))]) (fun _ => rfl) (fun u1 H locs hP hD hS => ?_)
  refine lv_istore (lv' := [(6, .int (nI 0)), (5, .int (nI 1)), (0, .ref b), (1, .ref h0), (2, .ref h1), (3, .ref a9), (4, .int (nI 0))]) hx hb dL_law_1339 hl (by decide) rfl (fun ls hl => ?_)
  refine lv_aload_n hx hb dL_law_1341 rfl (lv_at hl 4 rfl) ?_
  refine k_i (wr := [(h0, .inr (9, [.ref a0, .ref a1, .ref a2, .ref a3, .ref a4, .ref a5, .ref a6, .ref a7, .int (nI 0)]))]) (run_V (rest := []) hx hb hml hown hts hK hP hD hS hA hm (C1059_thrown l G D K H.size h1 (.ref a8)) [1] rfl rfl mok_yX12_thrown w_1300 w_1301 w_1302 (rcv hK hP 1 rfl rfl rfl) ⟨Nat.le_of_ble_eq_true rfl, Nat.le_of_ble_eq_true rfl⟩ rfl hl.1 rfl (Nat.le_of_ble_eq_true rfl) dL_law_1342 ⟨(by dsimp only [room_1]; omega), (by dsimp only [room_1]; omega)⟩) hP hD hS hA [1] [0] rfl rfl rfl (by decide) (w2 := fun u2 => [(h0, .inr (9, [.ref a0, .ref a1, .ref a2, .ref a3, .ref a4, .ref a5, .ref a6, .ref a7, .int (nI 0)])), (h1, .inr (12, [.int (nI 1), .ref a8]))]) (fun _ => rfl) (fun u2 H locs hP hD hS => ?_)
  refine lv_iload hx hb dL_law_1345 (lv_at hl 1 rfl) ?_
  refine lv_icmp_eq (tgt := 1352) hx hb dL_law_1347 (by decide) (fun _ => ?_) (fun c9 => absurd (by decide +kernel) c9)
  refine lv_iload hx hb dL_law_1352 (lv_at hl 1 rfl) ?_
  refine lv_if_ne (tgt := 1369) hx hb dL_law_1354 (by decide) (fun _ => ?_) (fun c9 => absurd c9 (by decide +kernel))
  refine lv_goto (tgt := 1762) hx hb dL_law_1369 (by decide) ?_
  refine lv_iinc (v := nI 4) (lv' := [(4, .int (nI 4)), (6, .int (nI 0)), (5, .int (nI 1)), (0, .ref b), (1, .ref h0), (2, .ref h1), (3, .ref a9)]) hx hb dL_law_1762 hl (k := 6) rfl (by decide +kernel) (by decide) rfl (fun ls hl => ?_)
  refine lv_goto (tgt := 23) hx hb dL_law_1765 (by decide) ?_
  refine lv_iload hx hb dL_law_23 (lv_at hl 0 rfl) ?_
  refine lv_aload_n hx hb dL_law_25 rfl (lv_at hl 3 rfl) ?_
  refine va_slen hx hb hX hbl hbA hS dL_law_26 ?_
  refine w_toeq (show Int32.ofNat 4 = nI 4 from rfl) ?_
  refine lv_iconst (v := nI 4) hx hb dL_law_27 (by decide +kernel) ?_
  refine lv_isub hx hb dL_law_28 ?_
  refine w_toeq (show (nI 4) - (nI 4) = nI 0 by decide +kernel) ?_
  refine lv_icmp_gt (tgt := 1768) hx hb dL_law_29 (by decide) (fun _ => ?_) (fun c9 => absurd (by decide +kernel) c9)
  refine lv_iconst (v := nI 1) hx hb dL_law_1768 (by decide +kernel) ?_
  exact law_end hx hb hr hlk hS (by dsimp only; omega) (by dsimp only; omega) dL_law_1769
set_option maxHeartbeats 4000000 in
set_option maxRecDepth 100000 in
theorem LW189_many {p : Program} {e : Env} {s : State} {m : MethodId} {below : List Frame} {meth : Method} {c : Code} {l : Launch} {G : Nat → Nat} {D : va_G} {K : Nat → ClassId} {b : Nat} {xs : Nat → Int32} (hx : p.tables.exec = Jvm.exec) (hb : c.code = cL_law) (hr : meth.sig.returnType = some .boolean) (hlk : meth.locks = false) (hl0 : l.stackTraces = false) (hnc : Ncs s) (hml : c.maxLocals = 9) (hown : s.vm.findClass RL = some m.cls) (hts : ∀ w ∈ lw_gw, w.before #[Value.ref b] s = true) (hK : va_K D cl (tys K) s) (hm : Amb G (fun q : Nat => s.heap.size ≤ q) s s.heap) (hX : va_X b 4 xs s s.heap) (hbl : b < s.heap.size) {h0 h1 h2 h3 h4 h5 h6 h7 h8 a0 a1 a2 a3 a4 a5 a6 a7 a8 a9 : Nat} (hx1 : xs 1 = nI 0) {H : Heap} {locs : List Loc} {cells slots : Nat} (hcs : cells ≤ 1000) (hss : slots ≤ 100000) (hP : va_P D cl [(h0, .inr (9, [.ref h1, .ref a0, .ref a1, .ref a2, .ref a3, .ref a4, .ref a5, .ref a6, .int (nI 0)])), (h1, .inr (5, [.ref a7, .int (nI 0)])), (h2, .inl (K 3, 1, .inr (.inl (fun _ => 0)))), (h3, .inr (12, [.int (nI 0), .ref h4])), (h4, .inr (10, [.ref h5, .ref h7, .ref a8, .ref h8, .ref h6, .int (nI 0), .int (nI 0), .int (nI 60), .int (nI 0), .int (nI 2), .int (nI 0), .int (nI 0), .int (nI 0), .int (nI 0), .int (nI 0), .int (nI 0), .int (nI 0)])), (h5, .inr (13, [.int (nI 0), .ref (G 0), .int (nI 0)])), (h6, .inl (K 1, 20, .inl (fun _ => nI 0))), (h7, .inr (13, [.int (nI 1), .ref a9, .int (nI 1)])), (h8, .inr (13, [.int (nI 0), .ref (G 0), .int (nI 0)]))] H) (hD : va_D (fun q : Nat => s.heap.size ≤ q) [(h0, .inr (9, [.ref h1, .ref a0, .ref a1, .ref a2, .ref a3, .ref a4, .ref a5, .ref a6, .int (nI 0)])), (h1, .inr (5, [.ref a7, .int (nI 0)])), (h2, .inl (K 3, 1, .inr (.inl (fun _ => 0)))), (h3, .inr (12, [.int (nI 0), .ref h4])), (h4, .inr (10, [.ref h5, .ref h7, .ref a8, .ref h8, .ref h6, .int (nI 0), .int (nI 0), .int (nI 60), .int (nI 0), .int (nI 2), .int (nI 0), .int (nI 0), .int (nI 0), .int (nI 0), .int (nI 0), .int (nI 0), .int (nI 0)])), (h5, .inr (13, [.int (nI 0), .ref (G 0), .int (nI 0)])), (h6, .inl (K 1, 20, .inl (fun _ => nI 0))), (h7, .inr (13, [.int (nI 1), .ref a9, .int (nI 1)])), (h8, .inr (13, [.int (nI 0), .ref (G 0), .int (nI 0)]))]) (hS : va_S (fun q : Nat => s.heap.size ≤ q) s.heap H locs) {ls : Array Slot} (hl : lv_has ls 9 [(0, .ref b), (1, .ref h0), (2, .ref h3), (3, .ref h2), (4, .int (nI 0))]) : W p l e room_1 s m #[Value.ref b] below meth c H locs cells slots (lw_Z below #[Value.ref b] s) (F0 m 1316 ls []) := by
  have hA : ∀ q : Nat, s.heap.size ≤ q → (fun q : Nat => s.heap.size ≤ q) q := fun _ h => h
  have hbA : ¬ (fun q : Nat => s.heap.size ≤ q) b := Nat.not_le.mpr hbl
  refine lv_aload_n hx hb dL_law_1316 rfl (lv_at hl 1 rfl) ?_
  refine lv_aload_n hx hb dL_law_1317 rfl (lv_at hl 0 rfl) ?_
  refine lv_iload hx hb dL_law_1318 (lv_at hl 4 rfl) ?_
  refine lv_iconst (v := nI 1) hx hb dL_law_1320 (by decide +kernel) ?_
  refine lv_iadd hx hb dL_law_1321 ?_
  refine w_toeq (show (nI 0) + (nI 1) = nI 1 by decide +kernel) ?_
  refine va_sld hx hb hX hbl hbA hS (vp_in_nI (n := 1) (by decide) (by decide)) dL_law_1322 ?_
  refine w_toeq (show xs (nI 1).toNatClampNeg = nI 0 by rw [nI_clamp (n := 1) (by decide)]; exact hx1) ?_
  refine lv_aload_n hx hb dL_law_1323 rfl (lv_at hl 3 rfl) ?_
  refine k_i (wr := [(h3, .inr (12, [.int (nI 0), .ref h4])), (h4, .inr (10, [.ref h5, .ref h7, .ref a8, .ref h8, .ref h6, .int (nI 0), .int (nI 0), .int (nI 60), .int (nI 0), .int (nI 2), .int (nI 0), .int (nI 0), .int (nI 0), .int (nI 0), .int (nI 0), .int (nI 0), .int (nI 0)])), (h5, .inr (13, [.int (nI 0), .ref (G 0), .int (nI 0)])), (h6, .inl (K 1, 20, .inl (fun _ => nI 0))), (h7, .inr (13, [.int (nI 1), .ref a9, .int (nI 1)])), (h8, .inr (13, [.int (nI 0), .ref (G 0), .int (nI 0)]))]) (run_SW hnc (rest := []) hx hb hml hown hts hK hP hD hS hA hm (C1244_many l G D K H.size h0 h1 h2 (.ref a0) (.ref a1) (.ref a2) (.ref a3) (.ref a4) (.ref a5) (.ref a6) (.int (nI 0)) (.ref a7) (fun _ => 0)) [0, 1, 2] rfl rfl mokh_yL_many w_1084 w_1085 ⟨Nat.le_of_ble_eq_true rfl, Nat.le_of_ble_eq_true rfl⟩ rfl hl.1 rfl (Nat.le_of_ble_eq_true rfl) dL_law_1324 ⟨(by dsimp only [room_1]; omega), (by dsimp only [room_1]; omega)⟩) hP hD hS hA [0, 1, 2] [3, 4, 5, 6, 7, 8] rfl rfl rfl (by decide) (w2 := fun u0 => [(h3, .inr (12, [.int (nI 0), .ref h4])), (h4, .inr (10, [.ref h5, .ref h7, .ref a8, .ref h8, .ref h6, .int (nI 0), .int (nI 0), .int (nI 60), .int (nI 0), .int (nI 2), .int (nI 0), .int (nI 0), .int (nI 0), .int (nI 0), .int (nI 0), .int (nI 0), .int (nI 0)])), (h5, .inr (13, [.int (nI 0), .ref (G 0), .int (nI 0)])), (h6, .inl (K 1, 20, .inl (fun _ => nI 0))), (h7, .inr (13, [.int (nI 1), .ref a9, .int (nI 1)])), (h8, .inr (13, [.int (nI 0), .ref (G 0), .int (nI 0)])), (h2, .inl (K 3, 1, .inr (.inl (vp_updL (fun _ => 0) 0 0)))), (h0, .inr (9, [.ref h1, .ref a0, .ref a1, .ref a2, .ref a3, .ref a4, .ref a5, .ref a6, .int (nI 0)])), (h1, .inr (5, [.ref a7, .int (nI 0)]))]) (fun _ => rfl) (fun u0 H locs hP hD hS => ?_)
  refine lv_istore (lv' := [(5, .int (nI 0)), (0, .ref b), (1, .ref h0), (2, .ref h3), (3, .ref h2), (4, .int (nI 0))]) hx hb dL_law_1327 hl (by decide) rfl (fun ls hl => ?_)
  refine lv_aload_n hx hb dL_law_1329 rfl (lv_at hl 3 rfl) ?_
  refine lv_aload_n hx hb dL_law_1330 rfl (lv_at hl 1 rfl) ?_
  refine lv_iload hx hb dL_law_1331 (lv_at hl 5 rfl) ?_
  refine lv_iconst (v := nI 1) hx hb dL_law_1333 (by decide +kernel) ?_
  refine lv_iadd hx hb dL_law_1334 ?_
  refine w_toeq (show (nI 0) + (nI 1) = nI 1 by decide +kernel) ?_
  refine va_sld hx hb hX hbl hbA hS (vp_in_nI (n := 1) (by decide) (by decide)) dL_law_1335 ?_
  refine w_toeq (show xs (nI 1).toNatClampNeg = nI 0 by rw [nI_clamp (n := 1) (by decide)]; exact hx1) ?_
  refine k_i (wr := [(h2, .inl (K 3, 1, .inr (.inl (vp_updL (fun _ => 0) 0 0)))), (h0, .inr (9, [.ref h1, .ref a0, .ref a1, .ref a2, .ref a3, .ref a4, .ref a5, .ref a6, .int (nI 0)])), (h1, .inr (5, [.ref a7, .int (nI 0)]))]) (run_V (rest := []) hx hb hml hown hts hK hP hD hS hA hm (C882_many l G D K H.size h3 h4 h5 h6 h7 h8 (.ref a8) (.int (nI 2)) (.int (nI 0)) (.int (nI 0)) (.int (nI 0)) (.ref (G 0)) (.int (nI 1)) (.ref a9) (.int (nI 0)) (.ref (G 0))) [0, 1, 2, 3, 4, 5] rfl rfl mok_yX12_many w_2025 w_2026 w_2027 (rcv hK hP 0 rfl rfl rfl) ⟨Nat.le_of_ble_eq_true rfl, Nat.le_of_ble_eq_true rfl⟩ rfl hl.1 rfl (Nat.le_of_ble_eq_true rfl) dL_law_1336 ⟨(by dsimp only [room_1]; omega), (by dsimp only [room_1]; omega)⟩) hP hD hS hA [0, 1, 2, 3, 4, 5] [6, 7, 8] rfl rfl rfl (by decide) (w2 := fun u1 => [(h2, .inl (K 3, 1, .inr (.inl (vp_updL (fun _ => 0) 0 0)))), (h0, .inr (9, [.ref h1, .ref a0, .ref a1, .ref a2, .ref a3, .ref a4, .ref a5, .ref a6, .int (nI 0)])), (h1, .inr (5, [.ref a7, .int (nI 0)])), (h3, .inr (12, [.int (nI 0), .ref h4])), (h6, .inl (K 1, 20, .inl (fun _ => nI 0))), ((u1 1), .inr (14, [.int (nI 0), .int (-1), .int (nI 0), .ref h5])), ((u1 2), .inr (14, [.int (nI 0), .int (-1), .int (nI 0), .ref (u1 0)])), ((u1 0), .inr (13, [.int (nI 0), .ref (G 0), .int (nI 0)])), ((u1 3), .inl (K 2, 16, .inl (upd (upd (upd (upd (upd (upd (upd (upd (upd (upd (upd (upd (upd (upd (fun _ => nI 0) 2 (nI 1)) 3 (nI 0)) 4 (nI 0)) 5 (nI 0)) 6 (nI 60)) 7 (nI 0)) 8 (nI 1)) 9 (nI 0)) 10 (nI 0)) 11 (nI 0)) 12 (nI 0)) 13 (nI 0)) 14 (nI 0)) 15 (nI 0)))), ((u1 4), .inr (14, [.int (nI 0), .int (-1), .int (nI 0), .ref h5])), (h7, .inr (13, [.int (nI 1), .ref a9, .int (nI 1)])), ((u1 6), .inr (14, [.int (nI 0), .int (-1), .int (nI 0), .ref h5])), ((u1 7), .inr (14, [.int (nI 0), .int (-1), .int (nI 0), .ref (u1 5)])), ((u1 5), .inr (13, [.int (nI 0), .ref (G 0), .int (nI 0)])), (h8, .inr (13, [.int (nI 0), .ref (G 0), .int (nI 0)])), (h4, .inr (10, [.ref h5, .ref h7, .ref a8, .ref h8, .ref h6, .int (nI 0), .int (nI 0), .int (nI 60), .int (nI 0), .int (nI 2), .int (nI 0), .int (nI 0), .int (nI 0), .int (nI 0), .int (nI 0), .int (nI 0), .int (nI 0)])), ((u1 8), .inr (14, [.int (nI 0), .int (-1), .int (nI 0), .ref h5])), (h5, .inr (13, [.int (nI 0), .ref (G 0), .int (nI 0)]))]) (fun _ => rfl) (fun u1 H locs hP hD hS => ?_)
  refine lv_istore (lv' := [(6, .int (nI 0)), (5, .int (nI 0)), (0, .ref b), (1, .ref h0), (2, .ref h3), (3, .ref h2), (4, .int (nI 0))]) hx hb dL_law_1339 hl (by decide) rfl (fun ls hl => ?_)
  refine lv_aload_n hx hb dL_law_1341 rfl (lv_at hl 4 rfl) ?_
  refine k_i (wr := [(h2, .inl (K 3, 1, .inr (.inl (vp_updL (fun _ => 0) 0 0)))), (h0, .inr (9, [.ref h1, .ref a0, .ref a1, .ref a2, .ref a3, .ref a4, .ref a5, .ref a6, .int (nI 0)])), (h1, .inr (5, [.ref a7, .int (nI 0)])), (h6, .inl (K 1, 20, .inl (fun _ => nI 0))), ((u1 1), .inr (14, [.int (nI 0), .int (-1), .int (nI 0), .ref h5])), ((u1 2), .inr (14, [.int (nI 0), .int (-1), .int (nI 0), .ref (u1 0)])), ((u1 0), .inr (13, [.int (nI 0), .ref (G 0), .int (nI 0)])), ((u1 3), .inl (K 2, 16, .inl (upd (upd (upd (upd (upd (upd (upd (upd (upd (upd (upd (upd (upd (upd (fun _ => nI 0) 2 (nI 1)) 3 (nI 0)) 4 (nI 0)) 5 (nI 0)) 6 (nI 60)) 7 (nI 0)) 8 (nI 1)) 9 (nI 0)) 10 (nI 0)) 11 (nI 0)) 12 (nI 0)) 13 (nI 0)) 14 (nI 0)) 15 (nI 0)))), ((u1 4), .inr (14, [.int (nI 0), .int (-1), .int (nI 0), .ref h5])), (h7, .inr (13, [.int (nI 1), .ref a9, .int (nI 1)])), ((u1 6), .inr (14, [.int (nI 0), .int (-1), .int (nI 0), .ref h5])), ((u1 7), .inr (14, [.int (nI 0), .int (-1), .int (nI 0), .ref (u1 5)])), ((u1 5), .inr (13, [.int (nI 0), .ref (G 0), .int (nI 0)])), (h8, .inr (13, [.int (nI 0), .ref (G 0), .int (nI 0)])), (h4, .inr (10, [.ref h5, .ref h7, .ref a8, .ref h8, .ref h6, .int (nI 0), .int (nI 0), .int (nI 60), .int (nI 0), .int (nI 2), .int (nI 0), .int (nI 0), .int (nI 0), .int (nI 0), .int (nI 0), .int (nI 0), .int (nI 0)])), ((u1 8), .inr (14, [.int (nI 0), .int (-1), .int (nI 0), .ref h5])), (h5, .inr (13, [.int (nI 0), .ref (G 0), .int (nI 0)]))]) (run_V (rest := []) hx hb hml hown hts hK hP hD hS hA hm (C1057_thrown l G D K H.size h3 (.ref h4)) [3] rfl rfl mok_yX12_thrown w_1300 w_1301 w_1302 (rcv hK hP 3 rfl rfl rfl) ⟨Nat.le_of_ble_eq_true rfl, Nat.le_of_ble_eq_true rfl⟩ rfl hl.1 rfl (Nat.le_of_ble_eq_true rfl) dL_law_1342 ⟨(by dsimp only [room_1]; omega), (by dsimp only [room_1]; omega)⟩) hP hD hS hA [3] [0, 1, 2, 4, 5, 6, 7, 8, 9, 10, 11, 12, 13, 14, 15, 16, 17] rfl rfl rfl (by decide) (w2 := fun u2 => [(h2, .inl (K 3, 1, .inr (.inl (vp_updL (fun _ => 0) 0 0)))), (h0, .inr (9, [.ref h1, .ref a0, .ref a1, .ref a2, .ref a3, .ref a4, .ref a5, .ref a6, .int (nI 0)])), (h1, .inr (5, [.ref a7, .int (nI 0)])), (h6, .inl (K 1, 20, .inl (fun _ => nI 0))), ((u1 1), .inr (14, [.int (nI 0), .int (-1), .int (nI 0), .ref h5])), ((u1 2), .inr (14, [.int (nI 0), .int (-1), .int (nI 0), .ref (u1 0)])), ((u1 0), .inr (13, [.int (nI 0), .ref (G 0), .int (nI 0)])), ((u1 3), .inl (K 2, 16, .inl (upd (upd (upd (upd (upd (upd (upd (upd (upd (upd (upd (upd (upd (upd (fun _ => nI 0) 2 (nI 1)) 3 (nI 0)) 4 (nI 0)) 5 (nI 0)) 6 (nI 60)) 7 (nI 0)) 8 (nI 1)) 9 (nI 0)) 10 (nI 0)) 11 (nI 0)) 12 (nI 0)) 13 (nI 0)) 14 (nI 0)) 15 (nI 0)))), ((u1 4), .inr (14, [.int (nI 0), .int (-1), .int (nI 0), .ref h5])), (h7, .inr (13, [.int (nI 1), .ref a9, .int (nI 1)])), ((u1 6), .inr (14, [.int (nI 0), .int (-1), .int (nI 0), .ref h5])), ((u1 7), .inr (14, [.int (nI 0), .int (-1), .int (nI 0), .ref (u1 5)])), ((u1 5), .inr (13, [.int (nI 0), .ref (G 0), .int (nI 0)])), (h8, .inr (13, [.int (nI 0), .ref (G 0), .int (nI 0)])), (h4, .inr (10, [.ref h5, .ref h7, .ref a8, .ref h8, .ref h6, .int (nI 0), .int (nI 0), .int (nI 60), .int (nI 0), .int (nI 2), .int (nI 0), .int (nI 0), .int (nI 0), .int (nI 0), .int (nI 0), .int (nI 0), .int (nI 0)])), ((u1 8), .inr (14, [.int (nI 0), .int (-1), .int (nI 0), .ref h5])), (h5, .inr (13, [.int (nI 0), .ref (G 0), .int (nI 0)])), (h3, .inr (12, [.int (nI 0), .ref h4]))]) (fun _ => rfl) (fun u2 H locs hP hD hS => ?_)
  refine lv_iload hx hb dL_law_1345 (lv_at hl 1 rfl) ?_
  refine lv_icmp_eq (tgt := 1352) hx hb dL_law_1347 (by decide) (fun _ => ?_) (fun c9 => absurd (by decide +kernel) c9)
  refine lv_iload hx hb dL_law_1352 (lv_at hl 1 rfl) ?_
  refine lv_if_ne (tgt := 1369) hx hb dL_law_1354 (by decide) (fun c9 => absurd (by decide +kernel) c9) (fun _ => ?_)
  refine lv_aload_n hx hb dL_law_1357 rfl (lv_at hl 5 rfl) ?_
  refine lv_iconst (v := nI 0) hx hb dL_law_1358 (by decide +kernel) ?_
  refine r_lald (k := 0) hx hb hK hP 0 3 rfl rfl (Nat.le_of_ble_eq_true rfl) (by decide) (v := 0) rfl dL_law_1359 ?_
  refine lv_iload hx hb dL_law_1360 (lv_at hl 0 rfl) ?_
  refine lv_i2l (v := 0) hx hb dL_law_1362 (by decide +kernel) ?_
  refine W.lcmp hx hb dL_law_1363 ?_
  refine w_toeq (show lg_cmp 0 0 = nI 0 by decide +kernel) ?_
  refine lv_if_eq (tgt := 1369) hx hb dL_law_1364 (by decide) (fun _ => ?_) (fun c9 => absurd (by decide +kernel) c9)
  refine lv_goto (tgt := 1762) hx hb dL_law_1369 (by decide) ?_
  refine lv_iinc (v := nI 4) (lv' := [(4, .int (nI 4)), (6, .int (nI 0)), (5, .int (nI 0)), (0, .ref b), (1, .ref h0), (2, .ref h3), (3, .ref h2)]) hx hb dL_law_1762 hl (k := 6) rfl (by decide +kernel) (by decide) rfl (fun ls hl => ?_)
  refine lv_goto (tgt := 23) hx hb dL_law_1765 (by decide) ?_
  refine lv_iload hx hb dL_law_23 (lv_at hl 0 rfl) ?_
  refine lv_aload_n hx hb dL_law_25 rfl (lv_at hl 3 rfl) ?_
  refine va_slen hx hb hX hbl hbA hS dL_law_26 ?_
  refine w_toeq (show Int32.ofNat 4 = nI 4 from rfl) ?_
  refine lv_iconst (v := nI 4) hx hb dL_law_27 (by decide +kernel) ?_
  refine lv_isub hx hb dL_law_28 ?_
  refine w_toeq (show (nI 4) - (nI 4) = nI 0 by decide +kernel) ?_
  refine lv_icmp_gt (tgt := 1768) hx hb dL_law_29 (by decide) (fun _ => ?_) (fun c9 => absurd (by decide +kernel) c9)
  refine lv_iconst (v := nI 1) hx hb dL_law_1768 (by decide +kernel) ?_
  exact law_end hx hb hr hlk hS (by dsimp only; omega) (by dsimp only; omega) dL_law_1769
set_option maxHeartbeats 4000000 in
set_option maxRecDepth 100000 in
theorem LW190_many {p : Program} {e : Env} {s : State} {m : MethodId} {below : List Frame} {meth : Method} {c : Code} {l : Launch} {G : Nat → Nat} {D : va_G} {K : Nat → ClassId} {b : Nat} {xs : Nat → Int32} (hx : p.tables.exec = Jvm.exec) (hb : c.code = cL_law) (hr : meth.sig.returnType = some .boolean) (hlk : meth.locks = false) (hl0 : l.stackTraces = false) (hnc : Ncs s) (hml : c.maxLocals = 9) (hown : s.vm.findClass RL = some m.cls) (hts : ∀ w ∈ lw_gw, w.before #[Value.ref b] s = true) (hK : va_K D cl (tys K) s) (hm : Amb G (fun q : Nat => s.heap.size ≤ q) s s.heap) (hX : va_X b 4 xs s s.heap) (hbl : b < s.heap.size) {h0 h1 h2 h3 h4 h5 h6 h7 h8 h9 h10 h11 a0 a1 a2 a3 a4 a5 a6 a7 a8 a9 a10 a11 a12 : Nat} (hx1 : xs 1 = nI 1) {H : Heap} {locs : List Loc} {cells slots : Nat} (hcs : cells ≤ 1000) (hss : slots ≤ 100000) (hP : va_P D cl [(h0, .inr (9, [.ref a0, .ref a1, .ref h1, .ref a2, .ref a3, .ref a4, .ref a5, .ref a6, .int (nI 0)])), (h1, .inr (3, [.ref h2, .ref h3, .ref h4, .int (nI 0), .int (nI 0), .int (nI 100), .int (nI 60), .ref a7])), (h2, .inr (5, [.ref a8, .int (nI 0)])), (h3, .inr (5, [.ref a9, .int (nI 0)])), (h4, .inr (5, [.ref a10, .int (nI 0)])), (h5, .inl (K 3, 1, .inr (.inl (fun _ => 0)))), (h6, .inr (12, [.int (nI 0), .ref h7])), (h7, .inr (10, [.ref h8, .ref h10, .ref a11, .ref h11, .ref h9, .int (nI 0), .int (nI 0), .int (nI 60), .int (nI 0), .int (nI 2), .int (nI 0), .int (nI 0), .int (nI 0), .int (nI 0), .int (nI 0), .int (nI 0), .int (nI 0)])), (h8, .inr (13, [.int (nI 0), .ref (G 0), .int (nI 0)])), (h9, .inl (K 1, 20, .inl (fun _ => nI 0))), (h10, .inr (13, [.int (nI 1), .ref a12, .int (nI 1)])), (h11, .inr (13, [.int (nI 0), .ref (G 0), .int (nI 0)]))] H) (hD : va_D (fun q : Nat => s.heap.size ≤ q) [(h0, .inr (9, [.ref a0, .ref a1, .ref h1, .ref a2, .ref a3, .ref a4, .ref a5, .ref a6, .int (nI 0)])), (h1, .inr (3, [.ref h2, .ref h3, .ref h4, .int (nI 0), .int (nI 0), .int (nI 100), .int (nI 60), .ref a7])), (h2, .inr (5, [.ref a8, .int (nI 0)])), (h3, .inr (5, [.ref a9, .int (nI 0)])), (h4, .inr (5, [.ref a10, .int (nI 0)])), (h5, .inl (K 3, 1, .inr (.inl (fun _ => 0)))), (h6, .inr (12, [.int (nI 0), .ref h7])), (h7, .inr (10, [.ref h8, .ref h10, .ref a11, .ref h11, .ref h9, .int (nI 0), .int (nI 0), .int (nI 60), .int (nI 0), .int (nI 2), .int (nI 0), .int (nI 0), .int (nI 0), .int (nI 0), .int (nI 0), .int (nI 0), .int (nI 0)])), (h8, .inr (13, [.int (nI 0), .ref (G 0), .int (nI 0)])), (h9, .inl (K 1, 20, .inl (fun _ => nI 0))), (h10, .inr (13, [.int (nI 1), .ref a12, .int (nI 1)])), (h11, .inr (13, [.int (nI 0), .ref (G 0), .int (nI 0)]))]) (hS : va_S (fun q : Nat => s.heap.size ≤ q) s.heap H locs) {ls : Array Slot} (hl : lv_has ls 9 [(0, .ref b), (1, .ref h0), (2, .ref h6), (3, .ref h5), (4, .int (nI 0))]) : W p l e room_1 s m #[Value.ref b] below meth c H locs cells slots (lw_Z below #[Value.ref b] s) (F0 m 1316 ls []) := by
  have hA : ∀ q : Nat, s.heap.size ≤ q → (fun q : Nat => s.heap.size ≤ q) q := fun _ h => h
  have hbA : ¬ (fun q : Nat => s.heap.size ≤ q) b := Nat.not_le.mpr hbl
  refine lv_aload_n hx hb dL_law_1316 rfl (lv_at hl 1 rfl) ?_
  refine lv_aload_n hx hb dL_law_1317 rfl (lv_at hl 0 rfl) ?_
  refine lv_iload hx hb dL_law_1318 (lv_at hl 4 rfl) ?_
  refine lv_iconst (v := nI 1) hx hb dL_law_1320 (by decide +kernel) ?_
  refine lv_iadd hx hb dL_law_1321 ?_
  refine w_toeq (show (nI 0) + (nI 1) = nI 1 by decide +kernel) ?_
  refine va_sld hx hb hX hbl hbA hS (vp_in_nI (n := 1) (by decide) (by decide)) dL_law_1322 ?_
  refine w_toeq (show xs (nI 1).toNatClampNeg = nI 1 by rw [nI_clamp (n := 1) (by decide)]; exact hx1) ?_
  refine lv_aload_n hx hb dL_law_1323 rfl (lv_at hl 3 rfl) ?_
  refine k_i (wr := [(h6, .inr (12, [.int (nI 0), .ref h7])), (h7, .inr (10, [.ref h8, .ref h10, .ref a11, .ref h11, .ref h9, .int (nI 0), .int (nI 0), .int (nI 60), .int (nI 0), .int (nI 2), .int (nI 0), .int (nI 0), .int (nI 0), .int (nI 0), .int (nI 0), .int (nI 0), .int (nI 0)])), (h8, .inr (13, [.int (nI 0), .ref (G 0), .int (nI 0)])), (h9, .inl (K 1, 20, .inl (fun _ => nI 0))), (h10, .inr (13, [.int (nI 1), .ref a12, .int (nI 1)])), (h11, .inr (13, [.int (nI 0), .ref (G 0), .int (nI 0)]))]) (run_SW hnc (rest := []) hx hb hml hown hts hK hP hD hS hA hm (C1245_many l G D K H.size h0 h1 h2 h3 h4 h5 (.ref a0) (.ref a1) (.ref a2) (.ref a3) (.ref a4) (.ref a5) (.ref a6) (.int (nI 0)) (.int (nI 0)) (.int (nI 0)) (.int (nI 100)) (.int (nI 60)) (.ref a7) (.ref a8) (.ref a9) (.ref a10) (fun _ => 0)) [0, 1, 2, 3, 4, 5] rfl rfl mokh_yL_many w_1084 w_1085 ⟨Nat.le_of_ble_eq_true rfl, Nat.le_of_ble_eq_true rfl⟩ rfl hl.1 rfl (Nat.le_of_ble_eq_true rfl) dL_law_1324 ⟨(by dsimp only [room_1]; omega), (by dsimp only [room_1]; omega)⟩) hP hD hS hA [0, 1, 2, 3, 4, 5] [6, 7, 8, 9, 10, 11] rfl rfl rfl (by decide) (w2 := fun u0 => [(h6, .inr (12, [.int (nI 0), .ref h7])), (h7, .inr (10, [.ref h8, .ref h10, .ref a11, .ref h11, .ref h9, .int (nI 0), .int (nI 0), .int (nI 60), .int (nI 0), .int (nI 2), .int (nI 0), .int (nI 0), .int (nI 0), .int (nI 0), .int (nI 0), .int (nI 0), .int (nI 0)])), (h8, .inr (13, [.int (nI 0), .ref (G 0), .int (nI 0)])), (h9, .inl (K 1, 20, .inl (fun _ => nI 0))), (h10, .inr (13, [.int (nI 1), .ref a12, .int (nI 1)])), (h11, .inr (13, [.int (nI 0), .ref (G 0), .int (nI 0)])), (h5, .inl (K 3, 1, .inr (.inl (vp_updL (fun _ => 0) 0 0)))), (h0, .inr (9, [.ref a0, .ref a1, .ref h1, .ref a2, .ref a3, .ref a4, .ref a5, .ref a6, .int (nI 0)])), (h1, .inr (3, [.ref h2, .ref h3, .ref h4, .int (nI 0), .int (nI 0), .int (nI 100), .int (nI 60), .ref a7])), (h2, .inr (5, [.ref a8, .int (nI 0)])), (h3, .inr (5, [.ref a9, .int (nI 0)])), (h4, .inr (5, [.ref a10, .int (nI 0)]))]) (fun _ => rfl) (fun u0 H locs hP hD hS => ?_)
  refine lv_istore (lv' := [(5, .int (nI 0)), (0, .ref b), (1, .ref h0), (2, .ref h6), (3, .ref h5), (4, .int (nI 0))]) hx hb dL_law_1327 hl (by decide) rfl (fun ls hl => ?_)
  refine lv_aload_n hx hb dL_law_1329 rfl (lv_at hl 3 rfl) ?_
  refine lv_aload_n hx hb dL_law_1330 rfl (lv_at hl 1 rfl) ?_
  refine lv_iload hx hb dL_law_1331 (lv_at hl 5 rfl) ?_
  refine lv_iconst (v := nI 1) hx hb dL_law_1333 (by decide +kernel) ?_
  refine lv_iadd hx hb dL_law_1334 ?_
  refine w_toeq (show (nI 0) + (nI 1) = nI 1 by decide +kernel) ?_
  refine va_sld hx hb hX hbl hbA hS (vp_in_nI (n := 1) (by decide) (by decide)) dL_law_1335 ?_
  refine w_toeq (show xs (nI 1).toNatClampNeg = nI 1 by rw [nI_clamp (n := 1) (by decide)]; exact hx1) ?_
  refine k_i (wr := [(h5, .inl (K 3, 1, .inr (.inl (vp_updL (fun _ => 0) 0 0)))), (h0, .inr (9, [.ref a0, .ref a1, .ref h1, .ref a2, .ref a3, .ref a4, .ref a5, .ref a6, .int (nI 0)])), (h1, .inr (3, [.ref h2, .ref h3, .ref h4, .int (nI 0), .int (nI 0), .int (nI 100), .int (nI 60), .ref a7])), (h2, .inr (5, [.ref a8, .int (nI 0)])), (h3, .inr (5, [.ref a9, .int (nI 0)])), (h4, .inr (5, [.ref a10, .int (nI 0)]))]) (run_V (rest := []) hx hb hml hown hts hK hP hD hS hA hm (C887_many l G D K H.size h6 h7 h8 h9 h10 h11 (.ref a11) (.int (nI 2)) (.int (nI 0)) (.int (nI 0)) (.int (nI 0)) (.ref (G 0)) (.int (nI 1)) (.ref a12) (.int (nI 0)) (.ref (G 0))) [0, 1, 2, 3, 4, 5] rfl rfl mok_yX12_many w_2025 w_2026 w_2027 (rcv hK hP 0 rfl rfl rfl) ⟨Nat.le_of_ble_eq_true rfl, Nat.le_of_ble_eq_true rfl⟩ rfl hl.1 rfl (Nat.le_of_ble_eq_true rfl) dL_law_1336 ⟨(by dsimp only [room_1]; omega), (by dsimp only [room_1]; omega)⟩) hP hD hS hA [0, 1, 2, 3, 4, 5] [6, 7, 8, 9, 10, 11] rfl rfl rfl (by decide) (w2 := fun u1 => [(h5, .inl (K 3, 1, .inr (.inl (vp_updL (fun _ => 0) 0 0)))), (h0, .inr (9, [.ref a0, .ref a1, .ref h1, .ref a2, .ref a3, .ref a4, .ref a5, .ref a6, .int (nI 0)])), (h1, .inr (3, [.ref h2, .ref h3, .ref h4, .int (nI 0), .int (nI 0), .int (nI 100), .int (nI 60), .ref a7])), (h2, .inr (5, [.ref a8, .int (nI 0)])), (h3, .inr (5, [.ref a9, .int (nI 0)])), (h4, .inr (5, [.ref a10, .int (nI 0)])), (h6, .inr (12, [.int (nI 0), .ref h7])), (h9, .inl (K 1, 20, .inl (fun _ => nI 0))), ((u1 1), .inr (14, [.int (nI 0), .int (-1), .int (nI 0), .ref h8])), ((u1 2), .inr (14, [.int (nI 0), .int (-1), .int (nI 0), .ref (u1 0)])), ((u1 0), .inr (13, [.int (nI 0), .ref (G 0), .int (nI 0)])), ((u1 3), .inl (K 2, 16, .inl (upd (upd (upd (upd (upd (upd (upd (upd (upd (upd (upd (upd (upd (upd (fun _ => nI 0) 2 (nI 1)) 3 (nI 0)) 4 (nI 0)) 5 (nI 0)) 6 (nI 60)) 7 (nI 0)) 8 (nI 1)) 9 (nI 0)) 10 (nI 0)) 11 (nI 0)) 12 (nI 0)) 13 (nI 0)) 14 (nI 0)) 15 (nI 0)))), ((u1 4), .inr (14, [.int (nI 0), .int (-1), .int (nI 0), .ref h8])), (h10, .inr (13, [.int (nI 1), .ref a12, .int (nI 1)])), ((u1 6), .inr (14, [.int (nI 0), .int (-1), .int (nI 0), .ref h8])), ((u1 7), .inr (14, [.int (nI 0), .int (-1), .int (nI 0), .ref (u1 5)])), ((u1 5), .inr (13, [.int (nI 0), .ref (G 0), .int (nI 0)])), (h11, .inr (13, [.int (nI 0), .ref (G 0), .int (nI 0)])), (h7, .inr (10, [.ref h8, .ref h10, .ref a11, .ref h11, .ref h9, .int (nI 0), .int (nI 0), .int (nI 60), .int (nI 0), .int (nI 2), .int (nI 0), .int (nI 0), .int (nI 0), .int (nI 0), .int (nI 0), .int (nI 0), .int (nI 0)])), ((u1 8), .inr (14, [.int (nI 0), .int (-1), .int (nI 0), .ref h8])), (h8, .inr (13, [.int (nI 0), .ref (G 0), .int (nI 0)]))]) (fun _ => rfl) (fun u1 H locs hP hD hS => ?_)
  refine lv_istore (lv' := [(6, .int (nI 0)), (5, .int (nI 0)), (0, .ref b), (1, .ref h0), (2, .ref h6), (3, .ref h5), (4, .int (nI 0))]) hx hb dL_law_1339 hl (by decide) rfl (fun ls hl => ?_)
  refine lv_aload_n hx hb dL_law_1341 rfl (lv_at hl 4 rfl) ?_
  refine k_i (wr := [(h5, .inl (K 3, 1, .inr (.inl (vp_updL (fun _ => 0) 0 0)))), (h0, .inr (9, [.ref a0, .ref a1, .ref h1, .ref a2, .ref a3, .ref a4, .ref a5, .ref a6, .int (nI 0)])), (h1, .inr (3, [.ref h2, .ref h3, .ref h4, .int (nI 0), .int (nI 0), .int (nI 100), .int (nI 60), .ref a7])), (h2, .inr (5, [.ref a8, .int (nI 0)])), (h3, .inr (5, [.ref a9, .int (nI 0)])), (h4, .inr (5, [.ref a10, .int (nI 0)])), (h9, .inl (K 1, 20, .inl (fun _ => nI 0))), ((u1 1), .inr (14, [.int (nI 0), .int (-1), .int (nI 0), .ref h8])), ((u1 2), .inr (14, [.int (nI 0), .int (-1), .int (nI 0), .ref (u1 0)])), ((u1 0), .inr (13, [.int (nI 0), .ref (G 0), .int (nI 0)])), ((u1 3), .inl (K 2, 16, .inl (upd (upd (upd (upd (upd (upd (upd (upd (upd (upd (upd (upd (upd (upd (fun _ => nI 0) 2 (nI 1)) 3 (nI 0)) 4 (nI 0)) 5 (nI 0)) 6 (nI 60)) 7 (nI 0)) 8 (nI 1)) 9 (nI 0)) 10 (nI 0)) 11 (nI 0)) 12 (nI 0)) 13 (nI 0)) 14 (nI 0)) 15 (nI 0)))), ((u1 4), .inr (14, [.int (nI 0), .int (-1), .int (nI 0), .ref h8])), (h10, .inr (13, [.int (nI 1), .ref a12, .int (nI 1)])), ((u1 6), .inr (14, [.int (nI 0), .int (-1), .int (nI 0), .ref h8])), ((u1 7), .inr (14, [.int (nI 0), .int (-1), .int (nI 0), .ref (u1 5)])), ((u1 5), .inr (13, [.int (nI 0), .ref (G 0), .int (nI 0)])), (h11, .inr (13, [.int (nI 0), .ref (G 0), .int (nI 0)])), (h7, .inr (10, [.ref h8, .ref h10, .ref a11, .ref h11, .ref h9, .int (nI 0), .int (nI 0), .int (nI 60), .int (nI 0), .int (nI 2), .int (nI 0), .int (nI 0), .int (nI 0), .int (nI 0), .int (nI 0), .int (nI 0), .int (nI 0)])), ((u1 8), .inr (14, [.int (nI 0), .int (-1), .int (nI 0), .ref h8])), (h8, .inr (13, [.int (nI 0), .ref (G 0), .int (nI 0)]))]) (run_V (rest := []) hx hb hml hown hts hK hP hD hS hA hm (C1057_thrown l G D K H.size h6 (.ref h7)) [6] rfl rfl mok_yX12_thrown w_1300 w_1301 w_1302 (rcv hK hP 6 rfl rfl rfl) ⟨Nat.le_of_ble_eq_true rfl, Nat.le_of_ble_eq_true rfl⟩ rfl hl.1 rfl (Nat.le_of_ble_eq_true rfl) dL_law_1342 ⟨(by dsimp only [room_1]; omega), (by dsimp only [room_1]; omega)⟩) hP hD hS hA [6] [0, 1, 2, 3, 4, 5, 7, 8, 9, 10, 11, 12, 13, 14, 15, 16, 17, 18, 19, 20] rfl rfl rfl (by decide) (w2 := fun u2 => [(h5, .inl (K 3, 1, .inr (.inl (vp_updL (fun _ => 0) 0 0)))), (h0, .inr (9, [.ref a0, .ref a1, .ref h1, .ref a2, .ref a3, .ref a4, .ref a5, .ref a6, .int (nI 0)])), (h1, .inr (3, [.ref h2, .ref h3, .ref h4, .int (nI 0), .int (nI 0), .int (nI 100), .int (nI 60), .ref a7])), (h2, .inr (5, [.ref a8, .int (nI 0)])), (h3, .inr (5, [.ref a9, .int (nI 0)])), (h4, .inr (5, [.ref a10, .int (nI 0)])), (h9, .inl (K 1, 20, .inl (fun _ => nI 0))), ((u1 1), .inr (14, [.int (nI 0), .int (-1), .int (nI 0), .ref h8])), ((u1 2), .inr (14, [.int (nI 0), .int (-1), .int (nI 0), .ref (u1 0)])), ((u1 0), .inr (13, [.int (nI 0), .ref (G 0), .int (nI 0)])), ((u1 3), .inl (K 2, 16, .inl (upd (upd (upd (upd (upd (upd (upd (upd (upd (upd (upd (upd (upd (upd (fun _ => nI 0) 2 (nI 1)) 3 (nI 0)) 4 (nI 0)) 5 (nI 0)) 6 (nI 60)) 7 (nI 0)) 8 (nI 1)) 9 (nI 0)) 10 (nI 0)) 11 (nI 0)) 12 (nI 0)) 13 (nI 0)) 14 (nI 0)) 15 (nI 0)))), ((u1 4), .inr (14, [.int (nI 0), .int (-1), .int (nI 0), .ref h8])), (h10, .inr (13, [.int (nI 1), .ref a12, .int (nI 1)])), ((u1 6), .inr (14, [.int (nI 0), .int (-1), .int (nI 0), .ref h8])), ((u1 7), .inr (14, [.int (nI 0), .int (-1), .int (nI 0), .ref (u1 5)])), ((u1 5), .inr (13, [.int (nI 0), .ref (G 0), .int (nI 0)])), (h11, .inr (13, [.int (nI 0), .ref (G 0), .int (nI 0)])), (h7, .inr (10, [.ref h8, .ref h10, .ref a11, .ref h11, .ref h9, .int (nI 0), .int (nI 0), .int (nI 60), .int (nI 0), .int (nI 2), .int (nI 0), .int (nI 0), .int (nI 0), .int (nI 0), .int (nI 0), .int (nI 0), .int (nI 0)])), ((u1 8), .inr (14, [.int (nI 0), .int (-1), .int (nI 0), .ref h8])), (h8, .inr (13, [.int (nI 0), .ref (G 0), .int (nI 0)])), (h6, .inr (12, [.int (nI 0), .ref h7]))]) (fun _ => rfl) (fun u2 H locs hP hD hS => ?_)
  refine lv_iload hx hb dL_law_1345 (lv_at hl 1 rfl) ?_
  refine lv_icmp_eq (tgt := 1352) hx hb dL_law_1347 (by decide) (fun _ => ?_) (fun c9 => absurd (by decide +kernel) c9)
  refine lv_iload hx hb dL_law_1352 (lv_at hl 1 rfl) ?_
  refine lv_if_ne (tgt := 1369) hx hb dL_law_1354 (by decide) (fun c9 => absurd (by decide +kernel) c9) (fun _ => ?_)
  refine lv_aload_n hx hb dL_law_1357 rfl (lv_at hl 5 rfl) ?_
  refine lv_iconst (v := nI 0) hx hb dL_law_1358 (by decide +kernel) ?_
  refine r_lald (k := 0) hx hb hK hP 0 3 rfl rfl (Nat.le_of_ble_eq_true rfl) (by decide) (v := 0) rfl dL_law_1359 ?_
  refine lv_iload hx hb dL_law_1360 (lv_at hl 0 rfl) ?_
  refine lv_i2l (v := 0) hx hb dL_law_1362 (by decide +kernel) ?_
  refine W.lcmp hx hb dL_law_1363 ?_
  refine w_toeq (show lg_cmp 0 0 = nI 0 by decide +kernel) ?_
  refine lv_if_eq (tgt := 1369) hx hb dL_law_1364 (by decide) (fun _ => ?_) (fun c9 => absurd (by decide +kernel) c9)
  refine lv_goto (tgt := 1762) hx hb dL_law_1369 (by decide) ?_
  refine lv_iinc (v := nI 4) (lv' := [(4, .int (nI 4)), (6, .int (nI 0)), (5, .int (nI 0)), (0, .ref b), (1, .ref h0), (2, .ref h6), (3, .ref h5)]) hx hb dL_law_1762 hl (k := 6) rfl (by decide +kernel) (by decide) rfl (fun ls hl => ?_)
  refine lv_goto (tgt := 23) hx hb dL_law_1765 (by decide) ?_
  refine lv_iload hx hb dL_law_23 (lv_at hl 0 rfl) ?_
  refine lv_aload_n hx hb dL_law_25 rfl (lv_at hl 3 rfl) ?_
  refine va_slen hx hb hX hbl hbA hS dL_law_26 ?_
  refine w_toeq (show Int32.ofNat 4 = nI 4 from rfl) ?_
  refine lv_iconst (v := nI 4) hx hb dL_law_27 (by decide +kernel) ?_
  refine lv_isub hx hb dL_law_28 ?_
  refine w_toeq (show (nI 4) - (nI 4) = nI 0 by decide +kernel) ?_
  refine lv_icmp_gt (tgt := 1768) hx hb dL_law_29 (by decide) (fun _ => ?_) (fun c9 => absurd (by decide +kernel) c9)
  refine lv_iconst (v := nI 1) hx hb dL_law_1768 (by decide +kernel) ?_
  exact law_end hx hb hr hlk hS (by dsimp only; omega) (by dsimp only; omega) dL_law_1769
