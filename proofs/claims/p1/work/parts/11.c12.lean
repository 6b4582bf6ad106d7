/-! path contracts, written by wip/p1/sx.py -/
set_option maxHeartbeats 4000000 in
set_option maxRecDepth 100000 in
theorem C918_many (l : Launch) (G : Nat → Nat) (D : va_G) (K : Nat → ClassId) (sz : Nat) (h0 h1 h2 : Nat) (v0 v1 v2 v3 v4 v5 v6 v7 v8 v9 v10 v11 v12 v13 v14 : Value) : CM l yX9_many cX9_many 2 (some FieldType.int) ({ frames := 1, cells := 0, slots := 0, locals := 22 } : Room) G D K [.ref h0, .int (nI 9)] [(h0, .inr (9, [v0, v1, .ref h1, v2, v3, v4, v5, v6, v7])), (h1, .inr (3, [v8, v9, v10, v11, v12, v13, v14, .ref h2])), (h2, .inl (K 1, 20, .inl (fun _ => nI 0)))] sz (CQi (nI 0) D (fun _ => [(h0, .inr (9, [v0, v1, .ref h1, v2, v3, v4, v5, v6, v7])), (h1, .inr (3, [v8, v9, v10, v11, v12, v13, v14, .ref h2])), (h2, .inl (K 1, 20, .inl (fun _ => nI 0)))])) := by
  refine CM_of (lv0 := [(0, .ref h0), (1, .int (nI 9))]) pn_RX9 (Nat.le_of_ble_eq_true rfl) rfl (fun p e s m args below meth c A ls hx hb hr hml hown hts hlk hnm hP hK hD hS hA hm hl => ?_)
  have hown : s.vm.findClass RX9 = some m.cls := hown
  refine lv_iload_n hx hb dX9_many_0 rfl (lv_at hl 1 rfl) ?_
  refine lv_tableIn (off := 165) (tgt := 166) hx hb dX9_many_1 (by decide +kernel) (by decide +kernel) rfl (by decide) ?_
  refine lv_aload_n hx hb dX9_many_166 rfl (lv_at hl 0 rfl) ?_
  refine r_get hx hb hts ok_RX9 hown hK hP 0 rfl rfl 2 (by decide) w_260 (fun _ h9 => h9) rfl dX9_many_167 ?_
  refine k_i (wr := [(h0, .inr (9, [v0, v1, .ref h1, v2, v3, v4, v5, v6, v7]))]) (run_V (rest := []) hx hb hml hown hts hK hP hD hS hA hm (C917_dirtyCards l G D K s.heap.size h1 h2 (v8) (v9) (v10) (v11) (v12) (v13) (v14)) [1, 2] rfl rfl mok_yX3_dirtyCards w_584 w_585 w_586 (rcv hK hP 1 rfl rfl rfl) ⟨Nat.le_of_ble_eq_true rfl, Nat.le_of_ble_eq_true rfl⟩ rfl hl.1 rfl (Nat.le_of_ble_eq_true rfl) dX9_many_170 ⟨(Nat.le_of_ble_eq_true rfl), (Nat.le_of_ble_eq_true rfl)⟩) hP hD hS hA [1, 2] [0] rfl rfl rfl (by decide) (w2 := fun u0 => [(h0, .inr (9, [v0, v1, .ref h1, v2, v3, v4, v5, v6, v7])), (h1, .inr (3, [v8, v9, v10, v11, v12, v13, v14, .ref h2])), (h2, .inl (K 1, 20, .inl (fun _ => nI 0)))]) (fun _ => rfl) (fun u0 H locs hP hD hS => ?_)
  exact e_i hx hb hr hlk hP hD hS (fun _ => 0) rfl (Nat.le_of_ble_eq_true rfl) (Nat.le_of_ble_eq_true rfl) rfl dX9_many_173
set_option maxHeartbeats 4000000 in
set_option maxRecDepth 100000 in
theorem C919_isIn (l : Launch) (G : Nat → Nat) (D : va_G) (K : Nat → ClassId) (sz : Nat) : CM l yX12_isIn cX12_isIn 3 (some FieldType.boolean) ({ frames := 0, cells := 0, slots := 0, locals := 0 } : Room) G D K [.int (nI 9), .int (nI 0), .int (nI 15)] [] sz (CQi (nI 1) D (fun _ => [])) := by
  refine CM_of (lv0 := [(0, .int (nI 9)), (1, .int (nI 0)), (2, .int (nI 15))]) pn_RX12 (Nat.le_of_ble_eq_true rfl) rfl (fun p e s m args below meth c A ls hx hb hr hml hown hts hlk hnm hP hK hD hS hA hm hl => ?_)
  have hown : s.vm.findClass RX12 = some m.cls := hown
  refine lv_iload_n hx hb dX12_isIn_0 rfl (lv_at hl 0 rfl) ?_
  refine lv_iload_n hx hb dX12_isIn_1 rfl (lv_at hl 1 rfl) ?_
  refine lv_icmp_lt (tgt := 14) hx hb dX12_isIn_2 (by decide) (fun c9 => absurd c9 (by decide +kernel)) (fun _ => ?_)
  refine lv_iload_n hx hb dX12_isIn_5 rfl (lv_at hl 0 rfl) ?_
  refine lv_iload_n hx hb dX12_isIn_6 rfl (lv_at hl 2 rfl) ?_
  refine lv_icmp_gt (tgt := 14) hx hb dX12_isIn_7 (by decide) (fun c9 => absurd c9 (by decide +kernel)) (fun _ => ?_)
  refine lv_iconst (v := nI 1) hx hb dX12_isIn_10 (by decide +kernel) ?_
  refine lv_goto (tgt := 15) hx hb dX12_isIn_11 (by decide) ?_
  exact e_z hx hb hr hlk hP hD hS (fun _ => 0) rfl (Nat.le_of_ble_eq_true rfl) (Nat.le_of_ble_eq_true rfl) rfl (Or.inr rfl) dX12_isIn_15
set_option maxHeartbeats 4000000 in
set_option maxRecDepth 100000 in
theorem C920_count (l : Launch) (G : Nat → Nat) (D : va_G) (K : Nat → ClassId) (sz : Nat) (h0 h1 h2 h3 h4 h5 : Nat) (v0 v1 v2 v3 v4 v5 v6 v7 v8 v9 v10 : Value) : CM l yX12_count cX12_count 8 (some FieldType.int) ({ frames := 6, cells := 9, slots := 46, locals := 129 } : Room) G D K [.ref h0, .int (nI 9)] [(h0, .inr (12, [v0, .ref h1])), (h1, .inr (10, [.ref h2, .ref h4, v1, .ref h5, .ref h3, .int (nI 0), .int (nI 0), .int (nI 60), .int (nI 0), v2, v3, .int (nI 0), .int (nI 0), .int (nI 0), .int (nI 0), v4, v5])), (h2, .inr (13, [.int (nI 0), v6, .int (nI 0)])), (h3, .inl (K 1, 20, .inl (fun _ => nI 0))), (h4, .inr (13, [v7, v8, .int (nI 1)])), (h5, .inr (13, [v9, v10, .int (nI 0)]))] sz (CQi (nI 0) D (fun u => [(h0, .inr (12, [v0, .ref h1])), (h3, .inl (K 1, 20, .inl (fun _ => nI 0))), ((u 1), .inr (14, [.int (nI 0), .int (-1), .int (nI 0), .ref h2])), ((u 2), .inr (14, [.int (nI 0), .int (-1), .int (nI 0), .ref (u 0)])), ((u 0), .inr (13, [.int (nI 0), .ref (G 0), .int (nI 0)])), ((u 3), .inl (K 2, 16, .inl (upd (upd (upd (upd (upd (upd (upd (upd (upd (upd (upd (upd (upd (upd (fun _ => nI 0) 2 (nI 1)) 3 (nI 0)) 4 (nI 0)) 5 (nI 0)) 6 (nI 60)) 7 (nI 0)) 8 (nI 1)) 9 (nI 0)) 10 (nI 0)) 11 (nI 0)) 12 (nI 0)) 13 (nI 0)) 14 (nI 0)) 15 (nI 0)))), ((u 4), .inr (14, [.int (nI 0), .int (-1), .int (nI 0), .ref h2])), (h4, .inr (13, [v7, v8, .int (nI 1)])), ((u 6), .inr (14, [.int (nI 0), .int (-1), .int (nI 0), .ref h2])), ((u 7), .inr (14, [.int (nI 0), .int (-1), .int (nI 0), .ref (u 5)])), ((u 5), .inr (13, [.int (nI 0), .ref (G 0), .int (nI 0)])), (h5, .inr (13, [v9, v10, .int (nI 0)])), (h1, .inr (10, [.ref h2, .ref h4, v1, .ref h5, .ref h3, .int (nI 0), .int (nI 0), .int (nI 60), .int (nI 0), v2, v3, .int (nI 0), .int (nI 0), .int (nI 0), .int (nI 0), v4, v5])), ((u 8), .inr (14, [.int (nI 0), .int (-1), .int (nI 0), .ref h2])), (h2, .inr (13, [.int (nI 0), v6, .int (nI 0)]))])) := by
  refine CM_of (lv0 := [(0, .ref h0), (1, .int (nI 9))]) pn_RX12 (Nat.le_of_ble_eq_true rfl) rfl (fun p e s m args below meth c A ls hx hb hr hml hown hts hlk hnm hP hK hD hS hA hm hl => ?_)
  have hown : s.vm.findClass RX12 = some m.cls := hown
  refine lv_iconst (v := nI 0) hx hb dX12_count_0 (by decide +kernel) ?_
  refine lv_istore_n (lv' := [(2, .int (nI 0)), (0, .ref h0), (1, .int (nI 9))]) hx hb dX12_count_1 rfl hl (by decide) rfl (fun ls hl => ?_)
  refine lv_aload_n hx hb dX12_count_2 rfl (lv_at hl 1 rfl) ?_
  refine r_get hx hb hts ok_RX12 hown hK hP 0 rfl rfl 1 (by decide) w_1294 (fun _ h9 => h9) rfl dX12_count_3 ?_
  refine lv_iconst (v := nI 3) hx hb dX12_count_6 (by decide +kernel) ?_
  refine k_q (wr := [(h0, .inr (12, [v0, .ref h1])), (h3, .inl (K 1, 20, .inl (fun _ => nI 0))), (h4, .inr (13, [v7, v8, .int (nI 1)])), (h5, .inr (13, [v9, v10, .int (nI 0)]))]) (run_V (rest := []) hx hb hml hown hts hK hP hD hS hA hm (C259_in l G D K s.heap.size h1 h2 (.ref h4) (v1) (.ref h5) (.ref h3) (.int (nI 0)) (.int (nI 0)) (.int (nI 60)) (.int (nI 0)) (v2) (v3) (.int (nI 0)) (.int (nI 0)) (.int (nI 0)) (.int (nI 0)) (v4) (v5) (v6)) [1, 2] rfl rfl mok_yX10_in w_2033 w_1368 w_1369 (rcv hK hP 1 rfl rfl rfl) ⟨Nat.le_of_ble_eq_true rfl, Nat.le_of_ble_eq_true rfl⟩ rfl hl.1 rfl (Nat.le_of_ble_eq_true rfl) dX12_count_7 ⟨(Nat.le_of_ble_eq_true rfl), (Nat.le_of_ble_eq_true rfl)⟩) hP hD hS hA [1, 2] [0, 3, 4, 5] rfl rfl rfl (by decide) (w2 := fun u0 => [(h0, .inr (12, [v0, .ref h1])), (h3, .inl (K 1, 20, .inl (fun _ => nI 0))), (h4, .inr (13, [v7, v8, .int (nI 1)])), (h5, .inr (13, [v9, v10, .int (nI 0)])), (h1, .inr (10, [.ref h2, .ref h4, v1, .ref h5, .ref h3, .int (nI 0), .int (nI 0), .int (nI 60), .int (nI 0), v2, v3, .int (nI 0), .int (nI 0), .int (nI 0), .int (nI 0), v4, v5])), ((u0 0), .inr (13, [.int (nI 0), .ref (G 0), .int (nI 0)])), ((u0 1), .inr (14, [.int (nI 0), .int (-1), .int (nI 0), .ref h2])), (h2, .inr (13, [.int (nI 0), v6, .int (nI 0)]))]) (fun _ => rfl) (fun u0 H locs hP hD hS => ?_)
  refine w_tov (y := .ref (u0 0)) rfl ?_
  refine k_q (wr := [(h0, .inr (12, [v0, .ref h1])), (h3, .inl (K 1, 20, .inl (fun _ => nI 0))), (h4, .inr (13, [v7, v8, .int (nI 1)])), (h5, .inr (13, [v9, v10, .int (nI 0)])), (h1, .inr (10, [.ref h2, .ref h4, v1, .ref h5, .ref h3, .int (nI 0), .int (nI 0), .int (nI 60), .int (nI 0), v2, v3, .int (nI 0), .int (nI 0), .int (nI 0), .int (nI 0), v4, v5])), ((u0 1), .inr (14, [.int (nI 0), .int (-1), .int (nI 0), .ref h2])), (h2, .inr (13, [.int (nI 0), v6, .int (nI 0)]))]) (run_V (rest := []) hx hb hml hown hts hK hP hD hS hA hm (C257_iterator l G D K H.size (u0 0) (.ref (G 0)) (.int (nI 0))) [5] rfl rfl mok_yJx4a65c_iterator_32c93 w_2034 w_1372 w_1373 (rcv hK hP 5 rfl rfl rfl) ⟨Nat.le_of_ble_eq_true rfl, Nat.le_of_ble_eq_true rfl⟩ rfl hl.1 rfl (Nat.le_of_ble_eq_true rfl) dX12_count_10 ⟨(Nat.le_of_ble_eq_true rfl), (Nat.le_of_ble_eq_true rfl)⟩) hP hD hS hA [5] [0, 1, 2, 3, 4, 6, 7] rfl rfl rfl (by decide) (w2 := fun u1 => [(h0, .inr (12, [v0, .ref h1])), (h3, .inl (K 1, 20, .inl (fun _ => nI 0))), (h4, .inr (13, [v7, v8, .int (nI 1)])), (h5, .inr (13, [v9, v10, .int (nI 0)])), (h1, .inr (10, [.ref h2, .ref h4, v1, .ref h5, .ref h3, .int (nI 0), .int (nI 0), .int (nI 60), .int (nI 0), v2, v3, .int (nI 0), .int (nI 0), .int (nI 0), .int (nI 0), v4, v5])), ((u0 1), .inr (14, [.int (nI 0), .int (-1), .int (nI 0), .ref h2])), (h2, .inr (13, [.int (nI 0), v6, .int (nI 0)])), ((u1 0), .inr (14, [.int (nI 0), .int (-1), .int (nI 0), .ref (u0 0)])), ((u0 0), .inr (13, [.int (nI 0), .ref (G 0), .int (nI 0)]))]) (fun _ => rfl) (fun u1 H locs hP hD hS => ?_)
  refine w_tov (y := .ref (u1 0)) rfl ?_
  refine lv_astore_n (lv' := [(3, .ref (u1 0)), (2, .int (nI 0)), (0, .ref h0), (1, .int (nI 9))]) hx hb dX12_count_13 rfl hl (by decide) rfl (fun ls hl => ?_)
  refine lv_aload_n hx hb dX12_count_14 rfl (lv_at hl 0 rfl) ?_
  refine k5_i (wr := [(h0, .inr (12, [v0, .ref h1])), (h3, .inl (K 1, 20, .inl (fun _ => nI 0))), (h4, .inr (13, [v7, v8, .int (nI 1)])), (h5, .inr (13, [v9, v10, .int (nI 0)])), (h1, .inr (10, [.ref h2, .ref h4, v1, .ref h5, .ref h3, .int (nI 0), .int (nI 0), .int (nI 60), .int (nI 0), v2, v3, .int (nI 0), .int (nI 0), .int (nI 0), .int (nI 0), v4, v5])), ((u0 1), .inr (14, [.int (nI 0), .int (-1), .int (nI 0), .ref h2])), (h2, .inr (13, [.int (nI 0), v6, .int (nI 0)]))]) (run_F (rest := []) hx hb hml hown hts hK hP hD hS hA hm (C258_hasNext l G D K H.size (u1 0) (u0 0) (.int (-1)) (.int (nI 0)) (.int (nI 0)) (.ref (G 0))) [7, 8] rfl rfl mok_yJx35411_hasNext_aae02 w_2036 w_1399 w_1401 hm.2.2.2.2.2.2.1 7 rfl rfl rfl (by decide +kernel) ⟨Nat.le_of_ble_eq_true rfl, Nat.le_of_ble_eq_true rfl⟩ rfl hl.1 rfl (Nat.le_of_ble_eq_true rfl) dX12_count_15 ⟨(Nat.le_of_ble_eq_true rfl), (Nat.le_of_ble_eq_true rfl)⟩) hP hD hS hA [7, 8] [0, 1, 2, 3, 4, 5, 6] rfl rfl rfl (by decide) (w2 := fun u2 => [(h0, .inr (12, [v0, .ref h1])), (h3, .inl (K 1, 20, .inl (fun _ => nI 0))), (h4, .inr (13, [v7, v8, .int (nI 1)])), (h5, .inr (13, [v9, v10, .int (nI 0)])), (h1, .inr (10, [.ref h2, .ref h4, v1, .ref h5, .ref h3, .int (nI 0), .int (nI 0), .int (nI 60), .int (nI 0), v2, v3, .int (nI 0), .int (nI 0), .int (nI 0), .int (nI 0), v4, v5])), ((u0 1), .inr (14, [.int (nI 0), .int (-1), .int (nI 0), .ref h2])), (h2, .inr (13, [.int (nI 0), v6, .int (nI 0)])), ((u1 0), .inr (14, [.int (nI 0), .int (-1), .int (nI 0), .ref (u0 0)])), ((u0 0), .inr (13, [.int (nI 0), .ref (G 0), .int (nI 0)]))]) (fun _ => rfl) (fun u2 H locs hP hD hS => ?_)
  refine lv_if_eq (tgt := 45) hx hb dX12_count_20 (by decide) (fun _ => ?_) (fun c9 => absurd (by decide +kernel) c9)
  refine lv_iconst (v := nI 0) hx hb dX12_count_45 (by decide +kernel) ?_
  refine lv_istore_n (lv' := [(3, .int (nI 0)), (2, .int (nI 0)), (0, .ref h0), (1, .int (nI 9))]) hx hb dX12_count_46 rfl hl (by decide) rfl (fun ls hl => ?_)
  refine lv_aload_n hx hb dX12_count_47 rfl (lv_at hl 2 rfl) ?_
  refine r_get hx hb hts ok_RX12 hown hK hP 0 rfl rfl 1 (by decide) w_1294 (fun _ h9 => h9) rfl dX12_count_48 ?_
  refine r_get hx hb hts ok_RX10 hown hK hP 4 rfl rfl 4 (by decide) w_1233 (fun _ h9 => h9) rfl dX12_count_51 ?_
  refine lv_astore (lv' := [(4, .ref h3), (3, .int (nI 0)), (2, .int (nI 0)), (0, .ref h0), (1, .int (nI 9))]) hx hb dX12_count_54 hl (by decide) rfl (fun ls hl => ?_)
  refine lv_aload hx hb dX12_count_56 (lv_at hl 0 rfl) ?_
  refine r_alen (n := 20) hx hb hK hP 1 1 rfl rfl rfl dX12_count_58 ?_
  refine lv_istore (lv' := [(5, .int (nI 20)), (4, .ref h3), (3, .int (nI 0)), (2, .int (nI 0)), (0, .ref h0), (1, .int (nI 9))]) hx hb dX12_count_59 hl (by decide) rfl (fun ls hl => ?_)
  refine lv_iconst (v := nI 0) hx hb dX12_count_61 (by decide +kernel) ?_
  refine lv_istore (lv' := [(6, .int (nI 0)), (5, .int (nI 20)), (4, .ref h3), (3, .int (nI 0)), (2, .int (nI 0)), (0, .ref h0), (1, .int (nI 9))]) hx hb dX12_count_62 hl (by decide) rfl (fun ls hl => ?_)
  refine lv_iload hx hb dX12_count_64 (lv_at hl 0 rfl) ?_
  refine lv_iload hx hb dX12_count_66 (lv_at hl 1 rfl) ?_
  refine lv_icmp_ge (tgt := 97) hx hb dX12_count_68 (by decide) (fun c9 => absurd c9 (by decide +kernel)) (fun _ => ?_)
  refine lv_aload hx hb dX12_count_71 (lv_at hl 2 rfl) ?_
  refine lv_iload hx hb dX12_count_73 (lv_at hl 0 rfl) ?_
  refine r_zald (k := 0) hx hb hK hP 1 1 rfl rfl (Nat.le_of_ble_eq_true rfl) (by decide) (v := nI 0) rfl dX12_count_75 ?_
  refine lv_istore (lv' := [(7, .int (nI 0)), (6, .int (nI 0)), (5, .int (nI 20)), (4, .ref h3), (3, .int (nI 0)), (2, .int (nI 0)), (0, .ref h0), (1, .int (nI 9))]) hx hb dX12_count_76 hl (by decide) rfl (fun ls hl => ?_)
  refine lv_iload_n hx hb dX12_count_78 rfl (lv_at hl 4 rfl) ?_
  refine lv_iload hx hb dX12_count_79 (lv_at hl 0 rfl) ?_
  refine lv_if_eq (tgt := 88) hx hb dX12_count_81 (by decide) (fun _ => ?_) (fun c9 => absurd (by decide +kernel) c9)
  refine lv_iconst (v := nI 0) hx hb dX12_count_88 (by decide +kernel) ?_
  refine lv_iadd hx hb dX12_count_89 ?_
  refine w_toeq (show (nI 0) + (nI 0) = nI 0 by decide +kernel) ?_
  refine lv_istore_n (lv' := [(3, .int (nI 0)), (7, .int (nI 0)), (6, .int (nI 0)), (5, .int (nI 20)), (4, .ref h3), (2, .int (nI 0)), (0, .ref h0), (1, .int (nI 9))]) hx hb dX12_count_90 rfl hl (by decide) rfl (fun ls hl => ?_)
  refine lv_iinc (v := nI 1) (lv' := [(6, .int (nI 1)), (3, .int (nI 0)), (7, .int (nI 0)), (5, .int (nI 20)), (4, .ref h3), (2, .int (nI 0)), (0, .ref h0), (1, .int (nI 9))]) hx hb dX12_count_91 hl (k := 2) rfl (by decide +kernel) (by decide) rfl (fun ls hl => ?_)
  refine lv_goto (tgt := 64) hx hb dX12_count_94 (by decide) ?_
  refine lv_iload hx hb dX12_count_64 (lv_at hl 0 rfl) ?_
  refine lv_iload hx hb dX12_count_66 (lv_at hl 3 rfl) ?_
  refine lv_icmp_ge (tgt := 97) hx hb dX12_count_68 (by decide) (fun c9 => absurd c9 (by decide +kernel)) (fun _ => ?_)
  refine lv_aload hx hb dX12_count_71 (lv_at hl 4 rfl) ?_
  refine lv_iload hx hb dX12_count_73 (lv_at hl 0 rfl) ?_
  refine r_zald (k := 1) hx hb hK hP 1 1 rfl rfl (Nat.le_of_ble_eq_true rfl) (by decide) (v := nI 0) rfl dX12_count_75 ?_
  refine lv_istore (lv' := [(7, .int (nI 0)), (6, .int (nI 1)), (3, .int (nI 0)), (5, .int (nI 20)), (4, .ref h3), (2, .int (nI 0)), (0, .ref h0), (1, .int (nI 9))]) hx hb dX12_count_76 hl (by decide) rfl (fun ls hl => ?_)
  refine lv_iload_n hx hb dX12_count_78 rfl (lv_at hl 2 rfl) ?_
  refine lv_iload hx hb dX12_count_79 (lv_at hl 0 rfl) ?_
  refine lv_if_eq (tgt := 88) hx hb dX12_count_81 (by decide) (fun _ => ?_) (fun c9 => absurd (by decide +kernel) c9)
  refine lv_iconst (v := nI 0) hx hb dX12_count_88 (by decide +kernel) ?_
  refine lv_iadd hx hb dX12_count_89 ?_
  refine w_toeq (show (nI 0) + (nI 0) = nI 0 by decide +kernel) ?_
  refine lv_istore_n (lv' := [(3, .int (nI 0)), (7, .int (nI 0)), (6, .int (nI 1)), (5, .int (nI 20)), (4, .ref h3), (2, .int (nI 0)), (0, .ref h0), (1, .int (nI 9))]) hx hb dX12_count_90 rfl hl (by decide) rfl (fun ls hl => ?_)
  refine lv_iinc (v := nI 2) (lv' := [(6, .int (nI 2)), (3, .int (nI 0)), (7, .int (nI 0)), (5, .int (nI 20)), (4, .ref h3), (2, .int (nI 0)), (0, .ref h0), (1, .int (nI 9))]) hx hb dX12_count_91 hl (k := 2) rfl (by decide +kernel) (by decide) rfl (fun ls hl => ?_)
  refine lv_goto (tgt := 64) hx hb dX12_count_94 (by decide) ?_
  refine lv_iload hx hb dX12_count_64 (lv_at hl 0 rfl) ?_
  refine lv_iload hx hb dX12_count_66 (lv_at hl 3 rfl) ?_
  refine lv_icmp_ge (tgt := 97) hx hb dX12_count_68 (by decide) (fun c9 => absurd c9 (by decide +kernel)) (fun _ => ?_)
  refine lv_aload hx hb dX12_count_71 (lv_at hl 4 rfl) ?_
  refine lv_iload hx hb dX12_count_73 (lv_at hl 0 rfl) ?_
  refine r_zald (k := 2) hx hb hK hP 1 1 rfl rfl (Nat.le_of_ble_eq_true rfl) (by decide) (v := nI 0) rfl dX12_count_75 ?_
  refine lv_istore (lv' := [(7, .int (nI 0)), (6, .int (nI 2)), (3, .int (nI 0)), (5, .int (nI 20)), (4, .ref h3), (2, .int (nI 0)), (0, .ref h0), (1, .int (nI 9))]) hx hb dX12_count_76 hl (by decide) rfl (fun ls hl => ?_)
  refine lv_iload_n hx hb dX12_count_78 rfl (lv_at hl 2 rfl) ?_
  refine lv_iload hx hb dX12_count_79 (lv_at hl 0 rfl) ?_
  refine lv_if_eq (tgt := 88) hx hb dX12_count_81 (by decide) (fun _ => ?_) (fun c9 => absurd (by decide +kernel) c9)
  refine lv_iconst (v := nI 0) hx hb dX12_count_88 (by decide +kernel) ?_
  refine lv_iadd hx hb dX12_count_89 ?_
  refine w_toeq (show (nI 0) + (nI 0) = nI 0 by decide +kernel) ?_
  refine lv_istore_n (lv' := [(3, .int (nI 0)), (7, .int (nI 0)), (6, .int (nI 2)), (5, .int (nI 20)), (4, .ref h3), (2, .int (nI 0)), (0, .ref h0), (1, .int (nI 9))]) hx hb dX12_count_90 rfl hl (by decide) rfl (fun ls hl => ?_)
  refine lv_iinc (v := nI 3) (lv' := [(6, .int (nI 3)), (3, .int (nI 0)), (7, .int (nI 0)), (5, .int (nI 20)), (4, .ref h3), (2, .int (nI 0)), (0, .ref h0), (1, .int (nI 9))]) hx hb dX12_count_91 hl (k := 2) rfl (by decide +kernel) (by decide) rfl (fun ls hl => ?_)
  refine lv_goto (tgt := 64) hx hb dX12_count_94 (by decide) ?_
  refine lv_iload hx hb dX12_count_64 (lv_at hl 0 rfl) ?_
  refine lv_iload hx hb dX12_count_66 (lv_at hl 3 rfl) ?_
  refine lv_icmp_ge (tgt := 97) hx hb dX12_count_68 (by decide) (fun c9 => absurd c9 (by decide +kernel)) (fun _ => ?_)
  refine lv_aload hx hb dX12_count_71 (lv_at hl 4 rfl) ?_
  refine lv_iload hx hb dX12_count_73 (lv_at hl 0 rfl) ?_
  refine r_zald (k := 3) hx hb hK hP 1 1 rfl rfl (Nat.le_of_ble_eq_true rfl) (by decide) (v := nI 0) rfl dX12_count_75 ?_
  refine lv_istore (lv' := [(7, .int (nI 0)), (6, .int (nI 3)), (3, .int (nI 0)), (5, .int (nI 20)), (4, .ref h3), (2, .int (nI 0)), (0, .ref h0), (1, .int (nI 9))]) hx hb dX12_count_76 hl (by decide) rfl (fun ls hl => ?_)
  refine lv_iload_n hx hb dX12_count_78 rfl (lv_at hl 2 rfl) ?_
  refine lv_iload hx hb dX12_count_79 (lv_at hl 0 rfl) ?_
  refine lv_if_eq (tgt := 88) hx hb dX12_count_81 (by decide) (fun _ => ?_) (fun c9 => absurd (by decide +kernel) c9)
  refine lv_iconst (v := nI 0) hx hb dX12_count_88 (by decide +kernel) ?_
  refine lv_iadd hx hb dX12_count_89 ?_
  refine w_toeq (show (nI 0) + (nI 0) = nI 0 by decide +kernel) ?_
  refine lv_istore_n (lv' := [(3, .int (nI 0)), (7, .int (nI 0)), (6, .int (nI 3)), (5, .int (nI 20)), (4, .ref h3), (2, .int (nI 0)), (0, .ref h0), (1, .int (nI 9))]) hx hb dX12_count_90 rfl hl (by decide) rfl (fun ls hl => ?_)
  refine lv_iinc (v := nI 4) (lv' := [(6, .int (nI 4)), (3, .int (nI 0)), (7, .int (nI 0)), (5, .int (nI 20)), (4, .ref h3), (2, .int (nI 0)), (0, .ref h0), (1, .int (nI 9))]) hx hb dX12_count_91 hl (k := 2) rfl (by decide +kernel) (by decide) rfl (fun ls hl => ?_)
  refine lv_goto (tgt := 64) hx hb dX12_count_94 (by decide) ?_
  refine lv_iload hx hb dX12_count_64 (lv_at hl 0 rfl) ?_
  refine lv_iload hx hb dX12_count_66 (lv_at hl 3 rfl) ?_
  refine lv_icmp_ge (tgt := 97) hx hb dX12_count_68 (by decide) (fun c9 => absurd c9 (by decide +kernel)) (fun _ => ?_)
  refine lv_aload hx hb dX12_count_71 (lv_at hl 4 rfl) ?_
  refine lv_iload hx hb dX12_count_73 (lv_at hl 0 rfl) ?_
  refine r_zald (k := 4) hx hb hK hP 1 1 rfl rfl (Nat.le_of_ble_eq_true rfl) (by decide) (v := nI 0) rfl dX12_count_75 ?_
  refine lv_istore (lv' := [(7, .int (nI 0)), (6, .int (nI 4)), (3, .int (nI 0)), (5, .int (nI 20)), (4, .ref h3), (2, .int (nI 0)), (0, .ref h0), (1, .int (nI 9))]) hx hb dX12_count_76 hl (by decide) rfl (fun ls hl => ?_)
  refine lv_iload_n hx hb dX12_count_78 rfl (lv_at hl 2 rfl) ?_
  refine lv_iload hx hb dX12_count_79 (lv_at hl 0 rfl) ?_
  refine lv_if_eq (tgt := 88) hx hb dX12_count_81 (by decide) (fun _ => ?_) (fun c9 => absurd (by decide +kernel) c9)
  refine lv_iconst (v := nI 0) hx hb dX12_count_88 (by decide +kernel) ?_
  refine lv_iadd hx hb dX12_count_89 ?_
  refine w_toeq (show (nI 0) + (nI 0) = nI 0 by decide +kernel) ?_
  refine lv_istore_n (lv' := [(3, .int (nI 0)), (7, .int (nI 0)), (6, .int (nI 4)), (5, .int (nI 20)), (4, .ref h3), (2, .int (nI 0)), (0, .ref h0), (1, .int (nI 9))]) hx hb dX12_count_90 rfl hl (by decide) rfl (fun ls hl => ?_)
  refine lv_iinc (v := nI 5) (lv' := [(6, .int (nI 5)), (3, .int (nI 0)), (7, .int (nI 0)), (5, .int (nI 20)), (4, .ref h3), (2, .int (nI 0)), (0, .ref h0), (1, .int (nI 9))]) hx hb dX12_count_91 hl (k := 2) rfl (by decide +kernel) (by decide) rfl (fun ls hl => ?_)
  refine lv_goto (tgt := 64) hx hb dX12_count_94 (by decide) ?_
  refine lv_iload hx hb dX12_count_64 (lv_at hl 0 rfl) ?_
  refine lv_iload hx hb dX12_count_66 (lv_at hl 3 rfl) ?_
  refine lv_icmp_ge (tgt := 97) hx hb dX12_count_68 (by decide) (fun c9 => absurd c9 (by decide +kernel)) (fun _ => ?_)
  refine lv_aload hx hb dX12_count_71 (lv_at hl 4 rfl) ?_
  refine lv_iload hx hb dX12_count_73 (lv_at hl 0 rfl) ?_
  refine r_zald (k := 5) hx hb hK hP 1 1 rfl rfl (Nat.le_of_ble_eq_true rfl) (by decide) (v := nI 0) rfl dX12_count_75 ?_
  refine lv_istore (lv' := [(7, .int (nI 0)), (6, .int (nI 5)), (3, .int (nI 0)), (5, .int (nI 20)), (4, .ref h3), (2, .int (nI 0)), (0, .ref h0), (1, .int (nI 9))]) hx hb dX12_count_76 hl (by decide) rfl (fun ls hl => ?_)
  refine lv_iload_n hx hb dX12_count_78 rfl (lv_at hl 2 rfl) ?_
  refine lv_iload hx hb dX12_count_79 (lv_at hl 0 rfl) ?_
  refine lv_if_eq (tgt := 88) hx hb dX12_count_81 (by decide) (fun _ => ?_) (fun c9 => absurd (by decide +kernel) c9)
  refine lv_iconst (v := nI 0) hx hb dX12_count_88 (by decide +kernel) ?_
  refine lv_iadd hx hb dX12_count_89 ?_
  refine w_toeq (show (nI 0) + (nI 0) = nI 0 by decide +kernel) ?_
  refine lv_istore_n (lv' := [(3, .int (nI 0)), (7, .int (nI 0)), (6, .int (nI 5)), (5, .int (nI 20)), (4, .ref h3), (2, .int (nI 0)), (0, .ref h0), (1, .int (nI 9))]) hx hb dX12_count_90 rfl hl (by decide) rfl (fun ls hl => ?_)
  refine lv_iinc (v := nI 6) (lv' := [(6, .int (nI 6)), (3, .int (nI 0)), (7, .int (nI 0)), (5, .int (nI 20)), (4, .ref h3), (2, .int (nI 0)), (0, .ref h0), (1, .int (nI 9))]) hx hb dX12_count_91 hl (k := 2) rfl (by decide +kernel) (by decide) rfl (fun ls hl => ?_)
  refine lv_goto (tgt := 64) hx hb dX12_count_94 (by decide) ?_
  refine lv_iload hx hb dX12_count_64 (lv_at hl 0 rfl) ?_
  refine lv_iload hx hb dX12_count_66 (lv_at hl 3 rfl) ?_
  refine lv_icmp_ge (tgt := 97) hx hb dX12_count_68 (by decide) (fun c9 => absurd c9 (by decide +kernel)) (fun _ => ?_)
  refine lv_aload hx hb dX12_count_71 (lv_at hl 4 rfl) ?_
  refine lv_iload hx hb dX12_count_73 (lv_at hl 0 rfl) ?_
  refine r_zald (k := 6) hx hb hK hP 1 1 rfl rfl (Nat.le_of_ble_eq_true rfl) (by decide) (v := nI 0) rfl dX12_count_75 ?_
  refine lv_istore (lv' := [(7, .int (nI 0)), (6, .int (nI 6)), (3, .int (nI 0)), (5, .int (nI 20)), (4, .ref h3), (2, .int (nI 0)), (0, .ref h0), (1, .int (nI 9))]) hx hb dX12_count_76 hl (by decide) rfl (fun ls hl => ?_)
  refine lv_iload_n hx hb dX12_count_78 rfl (lv_at hl 2 rfl) ?_
  refine lv_iload hx hb dX12_count_79 (lv_at hl 0 rfl) ?_
  refine lv_if_eq (tgt := 88) hx hb dX12_count_81 (by decide) (fun _ => ?_) (fun c9 => absurd (by decide +kernel) c9)
  refine lv_iconst (v := nI 0) hx hb dX12_count_88 (by decide +kernel) ?_
  refine lv_iadd hx hb dX12_count_89 ?_
  refine w_toeq (show (nI 0) + (nI 0) = nI 0 by decide +kernel) ?_
  refine lv_istore_n (lv' := [(3, .int (nI 0)), (7, .int (nI 0)), (6, .int (nI 6)), (5, .int (nI 20)), (4, .ref h3), (2, .int (nI 0)), (0, .ref h0), (1, .int (nI 9))]) hx hb dX12_count_90 rfl hl (by decide) rfl (fun ls hl => ?_)
  refine lv_iinc (v := nI 7) (lv' := [(6, .int (nI 7)), (3, .int (nI 0)), (7, .int (nI 0)), (5, .int (nI 20)), (4, .ref h3), (2, .int (nI 0)), (0, .ref h0), (1, .int (nI 9))]) hx hb dX12_count_91 hl (k := 2) rfl (by decide +kernel) (by decide) rfl (fun ls hl => ?_)
  refine lv_goto (tgt := 64) hx hb dX12_count_94 (by decide) ?_
  refine lv_iload hx hb dX12_count_64 (lv_at hl 0 rfl) ?_
  refine lv_iload hx hb dX12_count_66 (lv_at hl 3 rfl) ?_
  refine lv_icmp_ge (tgt := 97) hx hb dX12_count_68 (by decide) (fun c9 => absurd c9 (by decide +kernel)) (fun _ => ?_)
  refine lv_aload hx hb dX12_count_71 (lv_at hl 4 rfl) ?_
  refine lv_iload hx hb dX12_count_73 (lv_at hl 0 rfl) ?_
  refine r_zald (k := 7) hx hb hK hP 1 1 rfl rfl (Nat.le_of_ble_eq_true rfl) (by decide) (v := nI 0) rfl dX12_count_75 ?_
  refine lv_istore (lv' := [(7, .int (nI 0)), (6, .int (nI 7)), (3, .int (nI 0)), (5, .int (nI 20)), (4, .ref h3), (2, .int (nI 0)), (0, .ref h0), (1, .int (nI 9))]) hx hb dX12_count_76 hl (by decide) rfl (fun ls hl => ?_)
  refine lv_iload_n hx hb dX12_count_78 rfl (lv_at hl 2 rfl) ?_
  refine lv_iload hx hb dX12_count_79 (lv_at hl 0 rfl) ?_
  refine lv_if_eq (tgt := 88) hx hb dX12_count_81 (by decide) (fun _ => ?_) (fun c9 => absurd (by decide +kernel) c9)
  refine lv_iconst (v := nI 0) hx hb dX12_count_88 (by decide +kernel) ?_
  refine lv_iadd hx hb dX12_count_89 ?_
  refine w_toeq (show (nI 0) + (nI 0) = nI 0 by decide +kernel) ?_
  refine lv_istore_n (lv' := [(3, .int (nI 0)), (7, .int (nI 0)), (6, .int (nI 7)), (5, .int (nI 20)), (4, .ref h3), (2, .int (nI 0)), (0, .ref h0), (1, .int (nI 9))]) hx hb dX12_count_90 rfl hl (by decide) rfl (fun ls hl => ?_)
  refine lv_iinc (v := nI 8) (lv' := [(6, .int (nI 8)), (3, .int (nI 0)), (7, .int (nI 0)), (5, .int (nI 20)), (4, .ref h3), (2, .int (nI 0)), (0, .ref h0), (1, .int (nI 9))]) hx hb dX12_count_91 hl (k := 2) rfl (by decide +kernel) (by decide) rfl (fun ls hl => ?_)
  refine lv_goto (tgt := 64) hx hb dX12_count_94 (by decide) ?_
  refine lv_iload hx hb dX12_count_64 (lv_at hl 0 rfl) ?_
  refine lv_iload hx hb dX12_count_66 (lv_at hl 3 rfl) ?_
  refine lv_icmp_ge (tgt := 97) hx hb dX12_count_68 (by decide) (fun c9 => absurd c9 (by decide +kernel)) (fun _ => ?_)
  refine lv_aload hx hb dX12_count_71 (lv_at hl 4 rfl) ?_
  refine lv_iload hx hb dX12_count_73 (lv_at hl 0 rfl) ?_
  refine r_zald (k := 8) hx hb hK hP 1 1 rfl rfl (Nat.le_of_ble_eq_true rfl) (by decide) (v := nI 0) rfl dX12_count_75 ?_
  refine lv_istore (lv' := [(7, .int (nI 0)), (6, .int (nI 8)), (3, .int (nI 0)), (5, .int (nI 20)), (4, .ref h3), (2, .int (nI 0)), (0, .ref h0), (1, .int (nI 9))]) hx hb dX12_count_76 hl (by decide) rfl (fun ls hl => ?_)
  refine lv_iload_n hx hb dX12_count_78 rfl (lv_at hl 2 rfl) ?_
  refine lv_iload hx hb dX12_count_79 (lv_at hl 0 rfl) ?_
  refine lv_if_eq (tgt := 88) hx hb dX12_count_81 (by decide) (fun _ => ?_) (fun c9 => absurd (by decide +kernel) c9)
  refine lv_iconst (v := nI 0) hx hb dX12_count_88 (by decide +kernel) ?_
  refine lv_iadd hx hb dX12_count_89 ?_
  refine w_toeq (show (nI 0) + (nI 0) = nI 0 by decide +kernel) ?_
  refine lv_istore_n (lv' := [(3, .int (nI 0)), (7, .int (nI 0)), (6, .int (nI 8)), (5, .int (nI 20)), (4, .ref h3), (2, .int (nI 0)), (0, .ref h0), (1, .int (nI 9))]) hx hb dX12_count_90 rfl hl (by decide) rfl (fun ls hl => ?_)
  refine lv_iinc (v := nI 9) (lv' := [(6, .int (nI 9)), (3, .int (nI 0)), (7, .int (nI 0)), (5, .int (nI 20)), (4, .ref h3), (2, .int (nI 0)), (0, .ref h0), (1, .int (nI 9))]) hx hb dX12_count_91 hl (k := 2) rfl (by decide +kernel) (by decide) rfl (fun ls hl => ?_)
  refine lv_goto (tgt := 64) hx hb dX12_count_94 (by decide) ?_
  refine lv_iload hx hb dX12_count_64 (lv_at hl 0 rfl) ?_
  refine lv_iload hx hb dX12_count_66 (lv_at hl 3 rfl) ?_
  refine lv_icmp_ge (tgt := 97) hx hb dX12_count_68 (by decide) (fun c9 => absurd c9 (by decide +kernel)) (fun _ => ?_)
  refine lv_aload hx hb dX12_count_71 (lv_at hl 4 rfl) ?_
  refine lv_iload hx hb dX12_count_73 (lv_at hl 0 rfl) ?_
  refine r_zald (k := 9) hx hb hK hP 1 1 rfl rfl (Nat.le_of_ble_eq_true rfl) (by decide) (v := nI 0) rfl dX12_count_75 ?_
  refine lv_istore (lv' := [(7, .int (nI 0)), (6, .int (nI 9)), (3, .int (nI 0)), (5, .int (nI 20)), (4, .ref h3), (2, .int (nI 0)), (0, .ref h0), (1, .int (nI 9))]) hx hb dX12_count_76 hl (by decide) rfl (fun ls hl => ?_)
  refine lv_iload_n hx hb dX12_count_78 rfl (lv_at hl 2 rfl) ?_
  refine lv_iload hx hb dX12_count_79 (lv_at hl 0 rfl) ?_
  refine lv_if_eq (tgt := 88) hx hb dX12_count_81 (by decide) (fun _ => ?_) (fun c9 => absurd (by decide +kernel) c9)
  refine lv_iconst (v := nI 0) hx hb dX12_count_88 (by decide +kernel) ?_
  refine lv_iadd hx hb dX12_count_89 ?_
  refine w_toeq (show (nI 0) + (nI 0) = nI 0 by decide +kernel) ?_
  refine lv_istore_n (lv' := [(3, .int (nI 0)), (7, .int (nI 0)), (6, .int (nI 9)), (5, .int (nI 20)), (4, .ref h3), (2, .int (nI 0)), (0, .ref h0), (1, .int (nI 9))]) hx hb dX12_count_90 rfl hl (by decide) rfl (fun ls hl => ?_)
  refine lv_iinc (v := nI 10) (lv' := [(6, .int (nI 10)), (3, .int (nI 0)), (7, .int (nI 0)), (5, .int (nI 20)), (4, .ref h3), (2, .int (nI 0)), (0, .ref h0), (1, .int (nI 9))]) hx hb dX12_count_91 hl (k := 2) rfl (by decide +kernel) (by decide) rfl (fun ls hl => ?_)
  refine lv_goto (tgt := 64) hx hb dX12_count_94 (by decide) ?_
  refine lv_iload hx hb dX12_count_64 (lv_at hl 0 rfl) ?_
  refine lv_iload hx hb dX12_count_66 (lv_at hl 3 rfl) ?_
  refine lv_icmp_ge (tgt := 97) hx hb dX12_count_68 (by decide) (fun c9 => absurd c9 (by decide +kernel)) (fun _ => ?_)
  refine lv_aload hx hb dX12_count_71 (lv_at hl 4 rfl) ?_
  refine lv_iload hx hb dX12_count_73 (lv_at hl 0 rfl) ?_
  refine r_zald (k := 10) hx hb hK hP 1 1 rfl rfl (Nat.le_of_ble_eq_true rfl) (by decide) (v := nI 0) rfl dX12_count_75 ?_
  refine lv_istore (lv' := [(7, .int (nI 0)), (6, .int (nI 10)), (3, .int (nI 0)), (5, .int (nI 20)), (4, .ref h3), (2, .int (nI 0)), (0, .ref h0), (1, .int (nI 9))]) hx hb dX12_count_76 hl (by decide) rfl (fun ls hl => ?_)
  refine lv_iload_n hx hb dX12_count_78 rfl (lv_at hl 2 rfl) ?_
  refine lv_iload hx hb dX12_count_79 (lv_at hl 0 rfl) ?_
  refine lv_if_eq (tgt := 88) hx hb dX12_count_81 (by decide) (fun _ => ?_) (fun c9 => absurd (by decide +kernel) c9)
  refine lv_iconst (v := nI 0) hx hb dX12_count_88 (by decide +kernel) ?_
  refine lv_iadd hx hb dX12_count_89 ?_
  refine w_toeq (show (nI 0) + (nI 0) = nI 0 by decide +kernel) ?_
  refine lv_istore_n (lv' := [(3, .int (nI 0)), (7, .int (nI 0)), (6, .int (nI 10)), (5, .int (nI 20)), (4, .ref h3), (2, .int (nI 0)), (0, .ref h0), (1, .int (nI 9))]) hx hb dX12_count_90 rfl hl (by decide) rfl (fun ls hl => ?_)
  refine lv_iinc (v := nI 11) (lv' := [(6, .int (nI 11)), (3, .int (nI 0)), (7, .int (nI 0)), (5, .int (nI 20)), (4, .ref h3), (2, .int (nI 0)), (0, .ref h0), (1, .int (nI 9))]) hx hb dX12_count_91 hl (k := 2) rfl (by decide +kernel) (by decide) rfl (fun ls hl => ?_)
  refine lv_goto (tgt := 64) hx hb dX12_count_94 (by decide) ?_
  refine lv_iload hx hb dX12_count_64 (lv_at hl 0 rfl) ?_
  refine lv_iload hx hb dX12_count_66 (lv_at hl 3 rfl) ?_
  refine lv_icmp_ge (tgt := 97) hx hb dX12_count_68 (by decide) (fun c9 => absurd c9 (by decide +kernel)) (fun _ => ?_)
  refine lv_aload hx hb dX12_count_71 (lv_at hl 4 rfl) ?_
  refine lv_iload hx hb dX12_count_73 (lv_at hl 0 rfl) ?_
  refine r_zald (k := 11) hx hb hK hP 1 1 rfl rfl (Nat.le_of_ble_eq_true rfl) (by decide) (v := nI 0) rfl dX12_count_75 ?_
  refine lv_istore (lv' := [(7, .int (nI 0)), (6, .int (nI 11)), (3, .int (nI 0)), (5, .int (nI 20)), (4, .ref h3), (2, .int (nI 0)), (0, .ref h0), (1, .int (nI 9))]) hx hb dX12_count_76 hl (by decide) rfl (fun ls hl => ?_)
  refine lv_iload_n hx hb dX12_count_78 rfl (lv_at hl 2 rfl) ?_
  refine lv_iload hx hb dX12_count_79 (lv_at hl 0 rfl) ?_
  refine lv_if_eq (tgt := 88) hx hb dX12_count_81 (by decide) (fun _ => ?_) (fun c9 => absurd (by decide +kernel) c9)
  refine lv_iconst (v := nI 0) hx hb dX12_count_88 (by decide +kernel) ?_
  refine lv_iadd hx hb dX12_count_89 ?_
  refine w_toeq (show (nI 0) + (nI 0) = nI 0 by decide +kernel) ?_
  refine lv_istore_n (lv' := [(3, .int (nI 0)), (7, .int (nI 0)), (6, .int (nI 11)), (5, .int (nI 20)), (4, .ref h3), (2, .int (nI 0)), (0, .ref h0), (1, .int (nI 9))]) hx hb dX12_count_90 rfl hl (by decide) rfl (fun ls hl => ?_)
  refine lv_iinc (v := nI 12) (lv' := [(6, .int (nI 12)), (3, .int (nI 0)), (7, .int (nI 0)), (5, .int (nI 20)), (4, .ref h3), (2, .int (nI 0)), (0, .ref h0), (1, .int (nI 9))]) hx hb dX12_count_91 hl (k := 2) rfl (by decide +kernel) (by decide) rfl (fun ls hl => ?_)
  refine lv_goto (tgt := 64) hx hb dX12_count_94 (by decide) ?_
  refine lv_iload hx hb dX12_count_64 (lv_at hl 0 rfl) ?_
  refine lv_iload hx hb dX12_count_66 (lv_at hl 3 rfl) ?_
  refine lv_icmp_ge (tgt := 97) hx hb dX12_count_68 (by decide) (fun c9 => absurd c9 (by decide +kernel)) (fun _ => ?_)
  refine lv_aload hx hb dX12_count_71 (lv_at hl 4 rfl) ?_
  refine lv_iload hx hb dX12_count_73 (lv_at hl 0 rfl) ?_
  refine r_zald (k := 12) hx hb hK hP 1 1 rfl rfl (Nat.le_of_ble_eq_true rfl) (by decide) (v := nI 0) rfl dX12_count_75 ?_
  refine lv_istore (lv' := [(7, .int (nI 0)), (6, .int (nI 12)), (3, .int (nI 0)), (5, .int (nI 20)), (4, .ref h3), (2, .int (nI 0)), (0, .ref h0), (1, .int (nI 9))]) hx hb dX12_count_76 hl (by decide) rfl (fun ls hl => ?_)
  refine lv_iload_n hx hb dX12_count_78 rfl (lv_at hl 2 rfl) ?_
  refine lv_iload hx hb dX12_count_79 (lv_at hl 0 rfl) ?_
  refine lv_if_eq (tgt := 88) hx hb dX12_count_81 (by decide) (fun _ => ?_) (fun c9 => absurd (by decide +kernel) c9)
  refine lv_iconst (v := nI 0) hx hb dX12_count_88 (by decide +kernel) ?_
  refine lv_iadd hx hb dX12_count_89 ?_
  refine w_toeq (show (nI 0) + (nI 0) = nI 0 by decide +kernel) ?_
  refine lv_istore_n (lv' := [(3, .int (nI 0)), (7, .int (nI 0)), (6, .int (nI 12)), (5, .int (nI 20)), (4, .ref h3), (2, .int (nI 0)), (0, .ref h0), (1, .int (nI 9))]) hx hb dX12_count_90 rfl hl (by decide) rfl (fun ls hl => ?_)
  refine lv_iinc (v := nI 13) (lv' := [(6, .int (nI 13)), (3, .int (nI 0)), (7, .int (nI 0)), (5, .int (nI 20)), (4, .ref h3), (2, .int (nI 0)), (0, .ref h0), (1, .int (nI 9))]) hx hb dX12_count_91 hl (k := 2) rfl (by decide +kernel) (by decide) rfl (fun ls hl => ?_)
  refine lv_goto (tgt := 64) hx hb dX12_count_94 (by decide) ?_
  refine lv_iload hx hb dX12_count_64 (lv_at hl 0 rfl) ?_
  refine lv_iload hx hb dX12_count_66 (lv_at hl 3 rfl) ?_
  refine lv_icmp_ge (tgt := 97) hx hb dX12_count_68 (by decide) (fun c9 => absurd c9 (by decide +kernel)) (fun _ => ?_)
  refine lv_aload hx hb dX12_count_71 (lv_at hl 4 rfl) ?_
  refine lv_iload hx hb dX12_count_73 (lv_at hl 0 rfl) ?_
  refine r_zald (k := 13) hx hb hK hP 1 1 rfl rfl (Nat.le_of_ble_eq_true rfl) (by decide) (v := nI 0) rfl dX12_count_75 ?_
  refine lv_istore (lv' := [(7, .int (nI 0)), (6, .int (nI 13)), (3, .int (nI 0)), (5, .int (nI 20)), (4, .ref h3), (2, .int (nI 0)), (0, .ref h0), (1, .int (nI 9))]) hx hb dX12_count_76 hl (by decide) rfl (fun ls hl => ?_)
  refine lv_iload_n hx hb dX12_count_78 rfl (lv_at hl 2 rfl) ?_
  refine lv_iload hx hb dX12_count_79 (lv_at hl 0 rfl) ?_
  refine lv_if_eq (tgt := 88) hx hb dX12_count_81 (by decide) (fun _ => ?_) (fun c9 => absurd (by decide +kernel) c9)
  refine lv_iconst (v := nI 0) hx hb dX12_count_88 (by decide +kernel) ?_
  refine lv_iadd hx hb dX12_count_89 ?_
  refine w_toeq (show (nI 0) + (nI 0) = nI 0 by decide +kernel) ?_
  refine lv_istore_n (lv' := [(3, .int (nI 0)), (7, .int (nI 0)), (6, .int (nI 13)), (5, .int (nI 20)), (4, .ref h3), (2, .int (nI 0)), (0, .ref h0), (1, .int (nI 9))]) hx hb dX12_count_90 rfl hl (by decide) rfl (fun ls hl => ?_)
  refine lv_iinc (v := nI 14) (lv' := [(6, .int (nI 14)), (3, .int (nI 0)), (7, .int (nI 0)), (5, .int (nI 20)), (4, .ref h3), (2, .int (nI 0)), (0, .ref h0), (1, .int (nI 9))]) hx hb dX12_count_91 hl (k := 2) rfl (by decide +kernel) (by decide) rfl (fun ls hl => ?_)
  refine lv_goto (tgt := 64) hx hb dX12_count_94 (by decide) ?_
  refine lv_iload hx hb dX12_count_64 (lv_at hl 0 rfl) ?_
  refine lv_iload hx hb dX12_count_66 (lv_at hl 3 rfl) ?_
  refine lv_icmp_ge (tgt := 97) hx hb dX12_count_68 (by decide) (fun c9 => absurd c9 (by decide +kernel)) (fun _ => ?_)
  refine lv_aload hx hb dX12_count_71 (lv_at hl 4 rfl) ?_
  refine lv_iload hx hb dX12_count_73 (lv_at hl 0 rfl) ?_
  refine r_zald (k := 14) hx hb hK hP 1 1 rfl rfl (Nat.le_of_ble_eq_true rfl) (by decide) (v := nI 0) rfl dX12_count_75 ?_
  refine lv_istore (lv' := [(7, .int (nI 0)), (6, .int (nI 14)), (3, .int (nI 0)), (5, .int (nI 20)), (4, .ref h3), (2, .int (nI 0)), (0, .ref h0), (1, .int (nI 9))]) hx hb dX12_count_76 hl (by decide) rfl (fun ls hl => ?_)
  refine lv_iload_n hx hb dX12_count_78 rfl (lv_at hl 2 rfl) ?_
  refine lv_iload hx hb dX12_count_79 (lv_at hl 0 rfl) ?_
  refine lv_if_eq (tgt := 88) hx hb dX12_count_81 (by decide) (fun _ => ?_) (fun c9 => absurd (by decide +kernel) c9)
  refine lv_iconst (v := nI 0) hx hb dX12_count_88 (by decide +kernel) ?_
  refine lv_iadd hx hb dX12_count_89 ?_
  refine w_toeq (show (nI 0) + (nI 0) = nI 0 by decide +kernel) ?_
  refine lv_istore_n (lv' := [(3, .int (nI 0)), (7, .int (nI 0)), (6, .int (nI 14)), (5, .int (nI 20)), (4, .ref h3), (2, .int (nI 0)), (0, .ref h0), (1, .int (nI 9))]) hx hb dX12_count_90 rfl hl (by decide) rfl (fun ls hl => ?_)
  refine lv_iinc (v := nI 15) (lv' := [(6, .int (nI 15)), (3, .int (nI 0)), (7, .int (nI 0)), (5, .int (nI 20)), (4, .ref h3), (2, .int (nI 0)), (0, .ref h0), (1, .int (nI 9))]) hx hb dX12_count_91 hl (k := 2) rfl (by decide +kernel) (by decide) rfl (fun ls hl => ?_)
  refine lv_goto (tgt := 64) hx hb dX12_count_94 (by decide) ?_
  refine lv_iload hx hb dX12_count_64 (lv_at hl 0 rfl) ?_
  refine lv_iload hx hb dX12_count_66 (lv_at hl 3 rfl) ?_
  refine lv_icmp_ge (tgt := 97) hx hb dX12_count_68 (by decide) (fun c9 => absurd c9 (by decide +kernel)) (fun _ => ?_)
  refine lv_aload hx hb dX12_count_71 (lv_at hl 4 rfl) ?_
  refine lv_iload hx hb dX12_count_73 (lv_at hl 0 rfl) ?_
  refine r_zald (k := 15) hx hb hK hP 1 1 rfl rfl (Nat.le_of_ble_eq_true rfl) (by decide) (v := nI 0) rfl dX12_count_75 ?_
  refine lv_istore (lv' := [(7, .int (nI 0)), (6, .int (nI 15)), (3, .int (nI 0)), (5, .int (nI 20)), (4, .ref h3), (2, .int (nI 0)), (0, .ref h0), (1, .int (nI 9))]) hx hb dX12_count_76 hl (by decide) rfl (fun ls hl => ?_)
  refine lv_iload_n hx hb dX12_count_78 rfl (lv_at hl 2 rfl) ?_
  refine lv_iload hx hb dX12_count_79 (lv_at hl 0 rfl) ?_
  refine lv_if_eq (tgt := 88) hx hb dX12_count_81 (by decide) (fun _ => ?_) (fun c9 => absurd (by decide +kernel) c9)
  refine lv_iconst (v := nI 0) hx hb dX12_count_88 (by decide +kernel) ?_
  refine lv_iadd hx hb dX12_count_89 ?_
  refine w_toeq (show (nI 0) + (nI 0) = nI 0 by decide +kernel) ?_
  refine lv_istore_n (lv' := [(3, .int (nI 0)), (7, .int (nI 0)), (6, .int (nI 15)), (5, .int (nI 20)), (4, .ref h3), (2, .int (nI 0)), (0, .ref h0), (1, .int (nI 9))]) hx hb dX12_count_90 rfl hl (by decide) rfl (fun ls hl => ?_)
  refine lv_iinc (v := nI 16) (lv' := [(6, .int (nI 16)), (3, .int (nI 0)), (7, .int (nI 0)), (5, .int (nI 20)), (4, .ref h3), (2, .int (nI 0)), (0, .ref h0), (1, .int (nI 9))]) hx hb dX12_count_91 hl (k := 2) rfl (by decide +kernel) (by decide) rfl (fun ls hl => ?_)
  refine lv_goto (tgt := 64) hx hb dX12_count_94 (by decide) ?_
  refine lv_iload hx hb dX12_count_64 (lv_at hl 0 rfl) ?_
  refine lv_iload hx hb dX12_count_66 (lv_at hl 3 rfl) ?_
  refine lv_icmp_ge (tgt := 97) hx hb dX12_count_68 (by decide) (fun c9 => absurd c9 (by decide +kernel)) (fun _ => ?_)
  refine lv_aload hx hb dX12_count_71 (lv_at hl 4 rfl) ?_
  refine lv_iload hx hb dX12_count_73 (lv_at hl 0 rfl) ?_
  refine r_zald (k := 16) hx hb hK hP 1 1 rfl rfl (Nat.le_of_ble_eq_true rfl) (by decide) (v := nI 0) rfl dX12_count_75 ?_
  refine lv_istore (lv' := [(7, .int (nI 0)), (6, .int (nI 16)), (3, .int (nI 0)), (5, .int (nI 20)), (4, .ref h3), (2, .int (nI 0)), (0, .ref h0), (1, .int (nI 9))]) hx hb dX12_count_76 hl (by decide) rfl (fun ls hl => ?_)
  refine lv_iload_n hx hb dX12_count_78 rfl (lv_at hl 2 rfl) ?_
  refine lv_iload hx hb dX12_count_79 (lv_at hl 0 rfl) ?_
  refine lv_if_eq (tgt := 88) hx hb dX12_count_81 (by decide) (fun _ => ?_) (fun c9 => absurd (by decide +kernel) c9)
  refine lv_iconst (v := nI 0) hx hb dX12_count_88 (by decide +kernel) ?_
  refine lv_iadd hx hb dX12_count_89 ?_
  refine w_toeq (show (nI 0) + (nI 0) = nI 0 by decide +kernel) ?_
  refine lv_istore_n (lv' := [(3, .int (nI 0)), (7, .int (nI 0)), (6, .int (nI 16)), (5, .int (nI 20)), (4, .ref h3), (2, .int (nI 0)), (0, .ref h0), (1, .int (nI 9))]) hx hb dX12_count_90 rfl hl (by decide) rfl (fun ls hl => ?_)
  refine lv_iinc (v := nI 17) (lv' := [(6, .int (nI 17)), (3, .int (nI 0)), (7, .int (nI 0)), (5, .int (nI 20)), (4, .ref h3), (2, .int (nI 0)), (0, .ref h0), (1, .int (nI 9))]) hx hb dX12_count_91 hl (k := 2) rfl (by decide +kernel) (by decide) rfl (fun ls hl => ?_)
  refine lv_goto (tgt := 64) hx hb dX12_count_94 (by decide) ?_
  refine lv_iload hx hb dX12_count_64 (lv_at hl 0 rfl) ?_
  refine lv_iload hx hb dX12_count_66 (lv_at hl 3 rfl) ?_
  refine lv_icmp_ge (tgt := 97) hx hb dX12_count_68 (by decide) (fun c9 => absurd c9 (by decide +kernel)) (fun _ => ?_)
  refine lv_aload hx hb dX12_count_71 (lv_at hl 4 rfl) ?_
  refine lv_iload hx hb dX12_count_73 (lv_at hl 0 rfl) ?_
  refine r_zald (k := 17) hx hb hK hP 1 1 rfl rfl (Nat.le_of_ble_eq_true rfl) (by decide) (v := nI 0) rfl dX12_count_75 ?_
  refine lv_istore (lv' := [(7, .int (nI 0)), (6, .int (nI 17)), (3, .int (nI 0)), (5, .int (nI 20)), (4, .ref h3), (2, .int (nI 0)), (0, .ref h0), (1, .int (nI 9))]) hx hb dX12_count_76 hl (by decide) rfl (fun ls hl => ?_)
  refine lv_iload_n hx hb dX12_count_78 rfl (lv_at hl 2 rfl) ?_
  refine lv_iload hx hb dX12_count_79 (lv_at hl 0 rfl) ?_
  refine lv_if_eq (tgt := 88) hx hb dX12_count_81 (by decide) (fun _ => ?_) (fun c9 => absurd (by decide +kernel) c9)
  refine lv_iconst (v := nI 0) hx hb dX12_count_88 (by decide +kernel) ?_
  refine lv_iadd hx hb dX12_count_89 ?_
  refine w_toeq (show (nI 0) + (nI 0) = nI 0 by decide +kernel) ?_
  refine lv_istore_n (lv' := [(3, .int (nI 0)), (7, .int (nI 0)), (6, .int (nI 17)), (5, .int (nI 20)), (4, .ref h3), (2, .int (nI 0)), (0, .ref h0), (1, .int (nI 9))]) hx hb dX12_count_90 rfl hl (by decide) rfl (fun ls hl => ?_)
  refine lv_iinc (v := nI 18) (lv' := [(6, .int (nI 18)), (3, .int (nI 0)), (7, .int (nI 0)), (5, .int (nI 20)), (4, .ref h3), (2, .int (nI 0)), (0, .ref h0), (1, .int (nI 9))]) hx hb dX12_count_91 hl (k := 2) rfl (by decide +kernel) (by decide) rfl (fun ls hl => ?_)
  refine lv_goto (tgt := 64) hx hb dX12_count_94 (by decide) ?_
  refine lv_iload hx hb dX12_count_64 (lv_at hl 0 rfl) ?_
  refine lv_iload hx hb dX12_count_66 (lv_at hl 3 rfl) ?_
  refine lv_icmp_ge (tgt := 97) hx hb dX12_count_68 (by decide) (fun c9 => absurd c9 (by decide +kernel)) (fun _ => ?_)
  refine lv_aload hx hb dX12_count_71 (lv_at hl 4 rfl) ?_
  refine lv_iload hx hb dX12_count_73 (lv_at hl 0 rfl) ?_
  refine r_zald (k := 18) hx hb hK hP 1 1 rfl rfl (Nat.le_of_ble_eq_true rfl) (by decide) (v := nI 0) rfl dX12_count_75 ?_
  refine lv_istore (lv' := [(7, .int (nI 0)), (6, .int (nI 18)), (3, .int (nI 0)), (5, .int (nI 20)), (4, .ref h3), (2, .int (nI 0)), (0, .ref h0), (1, .int (nI 9))]) hx hb dX12_count_76 hl (by decide) rfl (fun ls hl => ?_)
  refine lv_iload_n hx hb dX12_count_78 rfl (lv_at hl 2 rfl) ?_
  refine lv_iload hx hb dX12_count_79 (lv_at hl 0 rfl) ?_
  refine lv_if_eq (tgt := 88) hx hb dX12_count_81 (by decide) (fun _ => ?_) (fun c9 => absurd (by decide +kernel) c9)
  refine lv_iconst (v := nI 0) hx hb dX12_count_88 (by decide +kernel) ?_
  refine lv_iadd hx hb dX12_count_89 ?_
  refine w_toeq (show (nI 0) + (nI 0) = nI 0 by decide +kernel) ?_
  refine lv_istore_n (lv' := [(3, .int (nI 0)), (7, .int (nI 0)), (6, .int (nI 18)), (5, .int (nI 20)), (4, .ref h3), (2, .int (nI 0)), (0, .ref h0), (1, .int (nI 9))]) hx hb dX12_count_90 rfl hl (by decide) rfl (fun ls hl => ?_)
  refine lv_iinc (v := nI 19) (lv' := [(6, .int (nI 19)), (3, .int (nI 0)), (7, .int (nI 0)), (5, .int (nI 20)), (4, .ref h3), (2, .int (nI 0)), (0, .ref h0), (1, .int (nI 9))]) hx hb dX12_count_91 hl (k := 2) rfl (by decide +kernel) (by decide) rfl (fun ls hl => ?_)
  refine lv_goto (tgt := 64) hx hb dX12_count_94 (by decide) ?_
  refine lv_iload hx hb dX12_count_64 (lv_at hl 0 rfl) ?_
  refine lv_iload hx hb dX12_count_66 (lv_at hl 3 rfl) ?_
  refine lv_icmp_ge (tgt := 97) hx hb dX12_count_68 (by decide) (fun c9 => absurd c9 (by decide +kernel)) (fun _ => ?_)
  refine lv_aload hx hb dX12_count_71 (lv_at hl 4 rfl) ?_
  refine lv_iload hx hb dX12_count_73 (lv_at hl 0 rfl) ?_
  refine r_zald (k := 19) hx hb hK hP 1 1 rfl rfl (Nat.le_of_ble_eq_true rfl) (by decide) (v := nI 0) rfl dX12_count_75 ?_
  refine lv_istore (lv' := [(7, .int (nI 0)), (6, .int (nI 19)), (3, .int (nI 0)), (5, .int (nI 20)), (4, .ref h3), (2, .int (nI 0)), (0, .ref h0), (1, .int (nI 9))]) hx hb dX12_count_76 hl (by decide) rfl (fun ls hl => ?_)
  refine lv_iload_n hx hb dX12_count_78 rfl (lv_at hl 2 rfl) ?_
  refine lv_iload hx hb dX12_count_79 (lv_at hl 0 rfl) ?_
  refine lv_if_eq (tgt := 88) hx hb dX12_count_81 (by decide) (fun _ => ?_) (fun c9 => absurd (by decide +kernel) c9)
  refine lv_iconst (v := nI 0) hx hb dX12_count_88 (by decide +kernel) ?_
  refine lv_iadd hx hb dX12_count_89 ?_
  refine w_toeq (show (nI 0) + (nI 0) = nI 0 by decide +kernel) ?_
  refine lv_istore_n (lv' := [(3, .int (nI 0)), (7, .int (nI 0)), (6, .int (nI 19)), (5, .int (nI 20)), (4, .ref h3), (2, .int (nI 0)), (0, .ref h0), (1, .int (nI 9))]) hx hb dX12_count_90 rfl hl (by decide) rfl (fun ls hl => ?_)
  refine lv_iinc (v := nI 20) (lv' := [(6, .int (nI 20)), (3, .int (nI 0)), (7, .int (nI 0)), (5, .int (nI 20)), (4, .ref h3), (2, .int (nI 0)), (0, .ref h0), (1, .int (nI 9))]) hx hb dX12_count_91 hl (k := 2) rfl (by decide +kernel) (by decide) rfl (fun ls hl => ?_)
  refine lv_goto (tgt := 64) hx hb dX12_count_94 (by decide) ?_
  refine lv_iload hx hb dX12_count_64 (lv_at hl 0 rfl) ?_
  refine lv_iload hx hb dX12_count_66 (lv_at hl 3 rfl) ?_
  refine lv_icmp_ge (tgt := 97) hx hb dX12_count_68 (by decide) (fun _ => ?_) (fun c9 => absurd (by decide +kernel) c9)
  refine lv_bipush (v := nI 16) hx hb dX12_count_97 (by decide +kernel) ?_
  refine r_newa (atype := .int) hx hb hts w_1292 rfl hK hP hD hS hA 2 rfl (N := 16) (a0 := (16, .inl (fun _ => nI 0))) (fun _ => rfl) (by decide +kernel) (by decide +kernel) (by decide) (Nat.le_of_ble_eq_true rfl) (Nat.le_of_ble_eq_true rfl) dX12_count_99 (w2 := fun q0 => [(h0, .inr (12, [v0, .ref h1])), (h3, .inl (K 1, 20, .inl (fun _ => nI 0))), (h4, .inr (13, [v7, v8, .int (nI 1)])), (h5, .inr (13, [v9, v10, .int (nI 0)])), (h1, .inr (10, [.ref h2, .ref h4, v1, .ref h5, .ref h3, .int (nI 0), .int (nI 0), .int (nI 60), .int (nI 0), v2, v3, .int (nI 0), .int (nI 0), .int (nI 0), .int (nI 0), v4, v5])), ((u0 1), .inr (14, [.int (nI 0), .int (-1), .int (nI 0), .ref h2])), (h2, .inr (13, [.int (nI 0), v6, .int (nI 0)])), ((u1 0), .inr (14, [.int (nI 0), .int (-1), .int (nI 0), .ref (u0 0)])), ((u0 0), .inr (13, [.int (nI 0), .ref (G 0), .int (nI 0)])), (q0, .inl (K 2, 16, .inl (fun _ => nI 0)))]) (fun _ => rfl) (fun q0 H hP hD hS => ?_)
  refine lv_dup hx hb dX12_count_101 rfl ?_
  refine lv_iconst (v := nI 0) hx hb dX12_count_102 (by decide +kernel) ?_
  refine lv_aload_n hx hb dX12_count_103 rfl (lv_at hl 6 rfl) ?_
  refine r_get hx hb hts ok_RX12 hown hK hP 0 rfl rfl 1 (by decide) w_1294 (fun _ h9 => h9) rfl dX12_count_104 ?_
  refine r_get hx hb hts ok_RX10 hown hK hP 4 rfl rfl 0 (by decide) w_1225 (fun _ h9 => h9) rfl dX12_count_107 ?_
  refine k_i (wr := [(h0, .inr (12, [v0, .ref h1])), (h3, .inl (K 1, 20, .inl (fun _ => nI 0))), (h4, .inr (13, [v7, v8, .int (nI 1)])), (h5, .inr (13, [v9, v10, .int (nI 0)])), (h1, .inr (10, [.ref h2, .ref h4, v1, .ref h5, .ref h3, .int (nI 0), .int (nI 0), .int (nI 60), .int (nI 0), v2, v3, .int (nI 0), .int (nI 0), .int (nI 0), .int (nI 0), v4, v5])), ((u0 1), .inr (14, [.int (nI 0), .int (-1), .int (nI 0), .ref h2])), ((u1 0), .inr (14, [.int (nI 0), .int (-1), .int (nI 0), .ref (u0 0)])), ((u0 0), .inr (13, [.int (nI 0), .ref (G 0), .int (nI 0)])), (q0, .inl (K 2, 16, .inl (fun _ => nI 0)))]) (run_V (rest := [.int (nI 0), .ref q0, .ref q0]) hx hb hml hown hts hK hP hD hS hA hm (C102_size l G D K H.size h2 (.int (nI 0)) (v6)) [6] rfl rfl mok_yJx4a65c_size_8abf5 w_1308 w_1309 w_1310 (rcv hK hP 6 rfl rfl rfl) ⟨Nat.le_of_ble_eq_true rfl, Nat.le_of_ble_eq_true rfl⟩ rfl hl.1 rfl (Nat.le_of_ble_eq_true rfl) dX12_count_110 ⟨(Nat.le_of_ble_eq_true rfl), (Nat.le_of_ble_eq_true rfl)⟩) hP hD hS hA [6] [0, 1, 2, 3, 4, 5, 7, 8, 9] rfl rfl rfl (by decide) (w2 := fun u3 => [(h0, .inr (12, [v0, .ref h1])), (h3, .inl (K 1, 20, .inl (fun _ => nI 0))), (h4, .inr (13, [v7, v8, .int (nI 1)])), (h5, .inr (13, [v9, v10, .int (nI 0)])), (h1, .inr (10, [.ref h2, .ref h4, v1, .ref h5, .ref h3, .int (nI 0), .int (nI 0), .int (nI 60), .int (nI 0), v2, v3, .int (nI 0), .int (nI 0), .int (nI 0), .int (nI 0), v4, v5])), ((u0 1), .inr (14, [.int (nI 0), .int (-1), .int (nI 0), .ref h2])), ((u1 0), .inr (14, [.int (nI 0), .int (-1), .int (nI 0), .ref (u0 0)])), ((u0 0), .inr (13, [.int (nI 0), .ref (G 0), .int (nI 0)])), (q0, .inl (K 2, 16, .inl (fun _ => nI 0))), (h2, .inr (13, [.int (nI 0), v6, .int (nI 0)]))]) (fun _ => rfl) (fun u3 H locs hP hD hS => ?_)
  refine r_iast (k := 0) hx hb hK hP hD hS 8 2 rfl rfl (Nat.le_of_ble_eq_true rfl) (by decide) dX12_count_113 (ws' := [(h0, .inr (12, [v0, .ref h1])), (h3, .inl (K 1, 20, .inl (fun _ => nI 0))), (h4, .inr (13, [v7, v8, .int (nI 1)])), (h5, .inr (13, [v9, v10, .int (nI 0)])), (h1, .inr (10, [.ref h2, .ref h4, v1, .ref h5, .ref h3, .int (nI 0), .int (nI 0), .int (nI 60), .int (nI 0), v2, v3, .int (nI 0), .int (nI 0), .int (nI 0), .int (nI 0), v4, v5])), ((u0 1), .inr (14, [.int (nI 0), .int (-1), .int (nI 0), .ref h2])), ((u1 0), .inr (14, [.int (nI 0), .int (-1), .int (nI 0), .ref (u0 0)])), ((u0 0), .inr (13, [.int (nI 0), .ref (G 0), .int (nI 0)])), (q0, .inl (K 2, 16, .inl (fun _ => nI 0))), (h2, .inr (13, [.int (nI 0), v6, .int (nI 0)]))]) (by rw [upd_c]; rfl) (fun H locs hP hD hS => ?_)
  refine lv_dup hx hb dX12_count_114 rfl ?_
  refine lv_iconst (v := nI 1) hx hb dX12_count_115 (by decide +kernel) ?_
  refine lv_aload_n hx hb dX12_count_116 rfl (lv_at hl 6 rfl) ?_
  refine r_get hx hb hts ok_RX12 hown hK hP 0 rfl rfl 1 (by decide) w_1294 (fun _ h9 => h9) rfl dX12_count_117 ?_
  refine k_i (wr := [(h0, .inr (12, [v0, .ref h1])), (h3, .inl (K 1, 20, .inl (fun _ => nI 0))), (h4, .inr (13, [v7, v8, .int (nI 1)])), (h5, .inr (13, [v9, v10, .int (nI 0)])), ((u0 1), .inr (14, [.int (nI 0), .int (-1), .int (nI 0), .ref h2])), ((u1 0), .inr (14, [.int (nI 0), .int (-1), .int (nI 0), .ref (u0 0)])), ((u0 0), .inr (13, [.int (nI 0), .ref (G 0), .int (nI 0)])), (q0, .inl (K 2, 16, .inl (fun _ => nI 0)))]) (run_VN (rest := [.int (nI 1), .ref q0, .ref q0]) hx hb hml hown hts hK hP hD hS hA hm (C723_there l G D K H.size h1 h2 (.ref h4) (v1) (.ref h5) (.ref h3) (.int (nI 0)) (.int (nI 0)) (.int (nI 60)) (.int (nI 0)) (v2) (v3) (.int (nI 0)) (.int (nI 0)) (.int (nI 0)) (.int (nI 0)) (v4) (v5) (v6)) [4, 9] rfl rfl mok_yX10_there w_2040 w_1758 w_p38 (rcv hK hP 4 rfl rfl rfl) ⟨Nat.le_of_ble_eq_true rfl, Nat.le_of_ble_eq_true rfl⟩ rfl hl.1 rfl (Nat.le_of_ble_eq_true rfl) dX12_count_120 ⟨(Nat.le_of_ble_eq_true rfl), (Nat.le_of_ble_eq_true rfl)⟩) hP hD hS hA [4, 9] [0, 1, 2, 3, 5, 6, 7, 8] rfl rfl rfl (by decide) (w2 := fun u4 => [(h0, .inr (12, [v0, .ref h1])), (h3, .inl (K 1, 20, .inl (fun _ => nI 0))), (h4, .inr (13, [v7, v8, .int (nI 1)])), (h5, .inr (13, [v9, v10, .int (nI 0)])), ((u0 1), .inr (14, [.int (nI 0), .int (-1), .int (nI 0), .ref h2])), ((u1 0), .inr (14, [.int (nI 0), .int (-1), .int (nI 0), .ref (u0 0)])), ((u0 0), .inr (13, [.int (nI 0), .ref (G 0), .int (nI 0)])), (q0, .inl (K 2, 16, .inl (fun _ => nI 0))), (h1, .inr (10, [.ref h2, .ref h4, v1, .ref h5, .ref h3, .int (nI 0), .int (nI 0), .int (nI 60), .int (nI 0), v2, v3, .int (nI 0), .int (nI 0), .int (nI 0), .int (nI 0), v4, v5])), ((u4 0), .inr (14, [.int (nI 0), .int (-1), .int (nI 0), .ref h2])), (h2, .inr (13, [.int (nI 0), v6, .int (nI 0)]))]) (fun _ => rfl) (fun u4 H locs hP hD hS => ?_)
  refine r_iast (k := 1) hx hb hK hP hD hS 7 2 rfl rfl (Nat.le_of_ble_eq_true rfl) (by decide) dX12_count_123 (ws' := [(h0, .inr (12, [v0, .ref h1])), (h3, .inl (K 1, 20, .inl (fun _ => nI 0))), (h4, .inr (13, [v7, v8, .int (nI 1)])), (h5, .inr (13, [v9, v10, .int (nI 0)])), ((u0 1), .inr (14, [.int (nI 0), .int (-1), .int (nI 0), .ref h2])), ((u1 0), .inr (14, [.int (nI 0), .int (-1), .int (nI 0), .ref (u0 0)])), ((u0 0), .inr (13, [.int (nI 0), .ref (G 0), .int (nI 0)])), (q0, .inl (K 2, 16, .inl (fun _ => nI 0))), (h1, .inr (10, [.ref h2, .ref h4, v1, .ref h5, .ref h3, .int (nI 0), .int (nI 0), .int (nI 60), .int (nI 0), v2, v3, .int (nI 0), .int (nI 0), .int (nI 0), .int (nI 0), v4, v5])), ((u4 0), .inr (14, [.int (nI 0), .int (-1), .int (nI 0), .ref h2])), (h2, .inr (13, [.int (nI 0), v6, .int (nI 0)]))]) (by rw [upd_c]; rfl) (fun H locs hP hD hS => ?_)
  refine lv_dup hx hb dX12_count_124 rfl ?_
  refine lv_iconst (v := nI 2) hx hb dX12_count_125 (by decide +kernel) ?_
  refine lv_aload_n hx hb dX12_count_126 rfl (lv_at hl 6 rfl) ?_
  refine r_get hx hb hts ok_RX12 hown hK hP 0 rfl rfl 1 (by decide) w_1294 (fun _ h9 => h9) rfl dX12_count_127 ?_
  refine r_get hx hb hts ok_RX10 hown hK hP 8 rfl rfl 1 (by decide) w_1227 (fun _ h9 => h9) rfl dX12_count_130 ?_
  refine k_i (wr := [(h0, .inr (12, [v0, .ref h1])), (h3, .inl (K 1, 20, .inl (fun _ => nI 0))), (h5, .inr (13, [v9, v10, .int (nI 0)])), ((u0 1), .inr (14, [.int (nI 0), .int (-1), .int (nI 0), .ref h2])), ((u1 0), .inr (14, [.int (nI 0), .int (-1), .int (nI 0), .ref (u0 0)])), ((u0 0), .inr (13, [.int (nI 0), .ref (G 0), .int (nI 0)])), (q0, .inl (K 2, 16, .inl (fun _ => nI 0))), (h1, .inr (10, [.ref h2, .ref h4, v1, .ref h5, .ref h3, .int (nI 0), .int (nI 0), .int (nI 60), .int (nI 0), v2, v3, .int (nI 0), .int (nI 0), .int (nI 0), .int (nI 0), v4, v5])), ((u4 0), .inr (14, [.int (nI 0), .int (-1), .int (nI 0), .ref h2])), (h2, .inr (13, [.int (nI 0), v6, .int (nI 0)]))]) (run_V (rest := [.int (nI 2), .ref q0, .ref q0]) hx hb hml hown hts hK hP hD hS hA hm (C23_size l G D K H.size h4 (v7) (v8)) [2] rfl rfl mok_yJx4a65c_size_8abf5 w_1308 w_1309 w_1310 (rcv hK hP 2 rfl rfl rfl) ⟨Nat.le_of_ble_eq_true rfl, Nat.le_of_ble_eq_true rfl⟩ rfl hl.1 rfl (Nat.le_of_ble_eq_true rfl) dX12_count_133 ⟨(Nat.le_of_ble_eq_true rfl), (Nat.le_of_ble_eq_true rfl)⟩) hP hD hS hA [2] [0, 1, 3, 4, 5, 6, 7, 8, 9, 10] rfl rfl rfl (by decide) (w2 := fun u5 => [(h0, .inr (12, [v0, .ref h1])), (h3, .inl (K 1, 20, .inl (fun _ => nI 0))), (h5, .inr (13, [v9, v10, .int (nI 0)])), ((u0 1), .inr (14, [.int (nI 0), .int (-1), .int (nI 0), .ref h2])), ((u1 0), .inr (14, [.int (nI 0), .int (-1), .int (nI 0), .ref (u0 0)])), ((u0 0), .inr (13, [.int (nI 0), .ref (G 0), .int (nI 0)])), (q0, .inl (K 2, 16, .inl (fun _ => nI 0))), (h1, .inr (10, [.ref h2, .ref h4, v1, .ref h5, .ref h3, .int (nI 0), .int (nI 0), .int (nI 60), .int (nI 0), v2, v3, .int (nI 0), .int (nI 0), .int (nI 0), .int (nI 0), v4, v5])), ((u4 0), .inr (14, [.int (nI 0), .int (-1), .int (nI 0), .ref h2])), (h2, .inr (13, [.int (nI 0), v6, .int (nI 0)])), (h4, .inr (13, [v7, v8, .int (nI 1)]))]) (fun _ => rfl) (fun u5 H locs hP hD hS => ?_)
  refine r_iast (k := 2) hx hb hK hP hD hS 6 2 rfl rfl (Nat.le_of_ble_eq_true rfl) (by decide) dX12_count_136 (ws' := [(h0, .inr (12, [v0, .ref h1])), (h3, .inl (K 1, 20, .inl (fun _ => nI 0))), (h5, .inr (13, [v9, v10, .int (nI 0)])), ((u0 1), .inr (14, [.int (nI 0), .int (-1), .int (nI 0), .ref h2])), ((u1 0), .inr (14, [.int (nI 0), .int (-1), .int (nI 0), .ref (u0 0)])), ((u0 0), .inr (13, [.int (nI 0), .ref (G 0), .int (nI 0)])), (q0, .inl (K 2, 16, .inl (upd (fun _ => nI 0) 2 (nI 1)))), (h1, .inr (10, [.ref h2, .ref h4, v1, .ref h5, .ref h3, .int (nI 0), .int (nI 0), .int (nI 60), .int (nI 0), v2, v3, .int (nI 0), .int (nI 0), .int (nI 0), .int (nI 0), v4, v5])), ((u4 0), .inr (14, [.int (nI 0), .int (-1), .int (nI 0), .ref h2])), (h2, .inr (13, [.int (nI 0), v6, .int (nI 0)])), (h4, .inr (13, [v7, v8, .int (nI 1)]))]) rfl (fun H locs hP hD hS => ?_)
  refine lv_dup hx hb dX12_count_137 rfl ?_
  refine lv_iconst (v := nI 3) hx hb dX12_count_138 (by decide +kernel) ?_
  refine lv_aload_n hx hb dX12_count_139 rfl (lv_at hl 6 rfl) ?_
  refine r_get hx hb hts ok_RX12 hown hK hP 0 rfl rfl 1 (by decide) w_1294 (fun _ h9 => h9) rfl dX12_count_140 ?_
  refine r_get hx hb hts ok_RX10 hown hK hP 7 rfl rfl 6 (by decide) w_1237 (fun _ h9 => h9) rfl dX12_count_143 ?_
  refine r_iast (k := 3) hx hb hK hP hD hS 6 2 rfl rfl (Nat.le_of_ble_eq_true rfl) (by decide) dX12_count_146 (ws' := [(h0, .inr (12, [v0, .ref h1])), (h3, .inl (K 1, 20, .inl (fun _ => nI 0))), (h5, .inr (13, [v9, v10, .int (nI 0)])), ((u0 1), .inr (14, [.int (nI 0), .int (-1), .int (nI 0), .ref h2])), ((u1 0), .inr (14, [.int (nI 0), .int (-1), .int (nI 0), .ref (u0 0)])), ((u0 0), .inr (13, [.int (nI 0), .ref (G 0), .int (nI 0)])), (q0, .inl (K 2, 16, .inl (upd (upd (fun _ => nI 0) 2 (nI 1)) 3 (nI 0)))), (h1, .inr (10, [.ref h2, .ref h4, v1, .ref h5, .ref h3, .int (nI 0), .int (nI 0), .int (nI 60), .int (nI 0), v2, v3, .int (nI 0), .int (nI 0), .int (nI 0), .int (nI 0), v4, v5])), ((u4 0), .inr (14, [.int (nI 0), .int (-1), .int (nI 0), .ref h2])), (h2, .inr (13, [.int (nI 0), v6, .int (nI 0)])), (h4, .inr (13, [v7, v8, .int (nI 1)]))]) rfl (fun H locs hP hD hS => ?_)
  refine lv_dup hx hb dX12_count_147 rfl ?_
  refine lv_iconst (v := nI 4) hx hb dX12_count_148 (by decide +kernel) ?_
  refine lv_aload_n hx hb dX12_count_149 rfl (lv_at hl 6 rfl) ?_
  refine r_get hx hb hts ok_RX12 hown hK hP 0 rfl rfl 1 (by decide) w_1294 (fun _ h9 => h9) rfl dX12_count_150 ?_
  refine r_get hx hb hts ok_RX10 hown hK hP 7 rfl rfl 5 (by decide) w_1235 (fun _ h9 => h9) rfl dX12_count_153 ?_
  refine r_iast (k := 4) hx hb hK hP hD hS 6 2 rfl rfl (Nat.le_of_ble_eq_true rfl) (by decide) dX12_count_156 (ws' := [(h0, .inr (12, [v0, .ref h1])), (h3, .inl (K 1, 20, .inl (fun _ => nI 0))), (h5, .inr (13, [v9, v10, .int (nI 0)])), ((u0 1), .inr (14, [.int (nI 0), .int (-1), .int (nI 0), .ref h2])), ((u1 0), .inr (14, [.int (nI 0), .int (-1), .int (nI 0), .ref (u0 0)])), ((u0 0), .inr (13, [.int (nI 0), .ref (G 0), .int (nI 0)])), (q0, .inl (K 2, 16, .inl (upd (upd (upd (fun _ => nI 0) 2 (nI 1)) 3 (nI 0)) 4 (nI 0)))), (h1, .inr (10, [.ref h2, .ref h4, v1, .ref h5, .ref h3, .int (nI 0), .int (nI 0), .int (nI 60), .int (nI 0), v2, v3, .int (nI 0), .int (nI 0), .int (nI 0), .int (nI 0), v4, v5])), ((u4 0), .inr (14, [.int (nI 0), .int (-1), .int (nI 0), .ref h2])), (h2, .inr (13, [.int (nI 0), v6, .int (nI 0)])), (h4, .inr (13, [v7, v8, .int (nI 1)]))]) rfl (fun H locs hP hD hS => ?_)
  refine lv_dup hx hb dX12_count_157 rfl ?_
  refine lv_iconst (v := nI 5) hx hb dX12_count_158 (by decide +kernel) ?_
  refine lv_aload_n hx hb dX12_count_159 rfl (lv_at hl 6 rfl) ?_
  refine r_get hx hb hts ok_RX12 hown hK hP 0 rfl rfl 1 (by decide) w_1294 (fun _ h9 => h9) rfl dX12_count_160 ?_
  refine r_get hx hb hts ok_RX10 hown hK hP 7 rfl rfl 8 (by decide) w_1241 (fun _ h9 => h9) rfl dX12_count_163 ?_
  refine r_iast (k := 5) hx hb hK hP hD hS 6 2 rfl rfl (Nat.le_of_ble_eq_true rfl) (by decide) dX12_count_166 (ws' := [(h0, .inr (12, [v0, .ref h1])), (h3, .inl (K 1, 20, .inl (fun _ => nI 0))), (h5, .inr (13, [v9, v10, .int (nI 0)])), ((u0 1), .inr (14, [.int (nI 0), .int (-1), .int (nI 0), .ref h2])), ((u1 0), .inr (14, [.int (nI 0), .int (-1), .int (nI 0), .ref (u0 0)])), ((u0 0), .inr (13, [.int (nI 0), .ref (G 0), .int (nI 0)])), (q0, .inl (K 2, 16, .inl (upd (upd (upd (upd (fun _ => nI 0) 2 (nI 1)) 3 (nI 0)) 4 (nI 0)) 5 (nI 0)))), (h1, .inr (10, [.ref h2, .ref h4, v1, .ref h5, .ref h3, .int (nI 0), .int (nI 0), .int (nI 60), .int (nI 0), v2, v3, .int (nI 0), .int (nI 0), .int (nI 0), .int (nI 0), v4, v5])), ((u4 0), .inr (14, [.int (nI 0), .int (-1), .int (nI 0), .ref h2])), (h2, .inr (13, [.int (nI 0), v6, .int (nI 0)])), (h4, .inr (13, [v7, v8, .int (nI 1)]))]) rfl (fun H locs hP hD hS => ?_)
  refine lv_dup hx hb dX12_count_167 rfl ?_
  refine lv_bipush (v := nI 6) hx hb dX12_count_168 (by decide +kernel) ?_
  refine lv_aload_n hx hb dX12_count_170 rfl (lv_at hl 6 rfl) ?_
  refine r_get hx hb hts ok_RX12 hown hK hP 0 rfl rfl 1 (by decide) w_1294 (fun _ h9 => h9) rfl dX12_count_171 ?_
  refine r_get hx hb hts ok_RX10 hown hK hP 7 rfl rfl 7 (by decide) w_1239 (fun _ h9 => h9) rfl dX12_count_174 ?_
  refine r_iast (k := 6) hx hb hK hP hD hS 6 2 rfl rfl (Nat.le_of_ble_eq_true rfl) (by decide) dX12_count_177 (ws' := [(h0, .inr (12, [v0, .ref h1])), (h3, .inl (K 1, 20, .inl (fun _ => nI 0))), (h5, .inr (13, [v9, v10, .int (nI 0)])), ((u0 1), .inr (14, [.int (nI 0), .int (-1), .int (nI 0), .ref h2])), ((u1 0), .inr (14, [.int (nI 0), .int (-1), .int (nI 0), .ref (u0 0)])), ((u0 0), .inr (13, [.int (nI 0), .ref (G 0), .int (nI 0)])), (q0, .inl (K 2, 16, .inl (upd (upd (upd (upd (upd (fun _ => nI 0) 2 (nI 1)) 3 (nI 0)) 4 (nI 0)) 5 (nI 0)) 6 (nI 60)))), (h1, .inr (10, [.ref h2, .ref h4, v1, .ref h5, .ref h3, .int (nI 0), .int (nI 0), .int (nI 60), .int (nI 0), v2, v3, .int (nI 0), .int (nI 0), .int (nI 0), .int (nI 0), v4, v5])), ((u4 0), .inr (14, [.int (nI 0), .int (-1), .int (nI 0), .ref h2])), (h2, .inr (13, [.int (nI 0), v6, .int (nI 0)])), (h4, .inr (13, [v7, v8, .int (nI 1)]))]) rfl (fun H locs hP hD hS => ?_)
  refine lv_dup hx hb dX12_count_178 rfl ?_
  refine lv_bipush (v := nI 7) hx hb dX12_count_179 (by decide +kernel) ?_
  refine lv_iload_n hx hb dX12_count_181 rfl (lv_at hl 5 rfl) ?_
  refine r_iast (k := 7) hx hb hK hP hD hS 6 2 rfl rfl (Nat.le_of_ble_eq_true rfl) (by decide) dX12_count_182 (ws' := [(h0, .inr (12, [v0, .ref h1])), (h3, .inl (K 1, 20, .inl (fun _ => nI 0))), (h5, .inr (13, [v9, v10, .int (nI 0)])), ((u0 1), .inr (14, [.int (nI 0), .int (-1), .int (nI 0), .ref h2])), ((u1 0), .inr (14, [.int (nI 0), .int (-1), .int (nI 0), .ref (u0 0)])), ((u0 0), .inr (13, [.int (nI 0), .ref (G 0), .int (nI 0)])), (q0, .inl (K 2, 16, .inl (upd (upd (upd (upd (upd (upd (fun _ => nI 0) 2 (nI 1)) 3 (nI 0)) 4 (nI 0)) 5 (nI 0)) 6 (nI 60)) 7 (nI 0)))), (h1, .inr (10, [.ref h2, .ref h4, v1, .ref h5, .ref h3, .int (nI 0), .int (nI 0), .int (nI 60), .int (nI 0), v2, v3, .int (nI 0), .int (nI 0), .int (nI 0), .int (nI 0), v4, v5])), ((u4 0), .inr (14, [.int (nI 0), .int (-1), .int (nI 0), .ref h2])), (h2, .inr (13, [.int (nI 0), v6, .int (nI 0)])), (h4, .inr (13, [v7, v8, .int (nI 1)]))]) rfl (fun H locs hP hD hS => ?_)
  refine lv_dup hx hb dX12_count_183 rfl ?_
  refine lv_bipush (v := nI 8) hx hb dX12_count_184 (by decide +kernel) ?_
  refine lv_aload_n hx hb dX12_count_186 rfl (lv_at hl 6 rfl) ?_
  refine r_get hx hb hts ok_RX12 hown hK hP 0 rfl rfl 1 (by decide) w_1294 (fun _ h9 => h9) rfl dX12_count_187 ?_
  refine k_i (wr := [(h0, .inr (12, [v0, .ref h1])), (h3, .inl (K 1, 20, .inl (fun _ => nI 0))), (h5, .inr (13, [v9, v10, .int (nI 0)])), ((u0 1), .inr (14, [.int (nI 0), .int (-1), .int (nI 0), .ref h2])), ((u1 0), .inr (14, [.int (nI 0), .int (-1), .int (nI 0), .ref (u0 0)])), ((u0 0), .inr (13, [.int (nI 0), .ref (G 0), .int (nI 0)])), (q0, .inl (K 2, 16, .inl (upd (upd (upd (upd (upd (upd (fun _ => nI 0) 2 (nI 1)) 3 (nI 0)) 4 (nI 0)) 5 (nI 0)) 6 (nI 60)) 7 (nI 0)))), ((u4 0), .inr (14, [.int (nI 0), .int (-1), .int (nI 0), .ref h2])), (h4, .inr (13, [v7, v8, .int (nI 1)]))]) (run_V (rest := [.int (nI 8), .ref q0, .ref q0]) hx hb hml hown hts hK hP hD hS hA hm (C880_gaps l G D K H.size h1 h2 (.ref h4) (v1) (.ref h5) (.ref h3) (.int (nI 0)) (.int (nI 0)) (.int (nI 60)) (.int (nI 0)) (v2) (v3) (.int (nI 0)) (.int (nI 0)) (.int (nI 0)) (.int (nI 0)) (v4) (v5) (v6)) [7, 9] rfl rfl mok_yX10_gaps w_2041 w_2042 w_2043 (rcv hK hP 7 rfl rfl rfl) ⟨Nat.le_of_ble_eq_true rfl, Nat.le_of_ble_eq_true rfl⟩ rfl hl.1 rfl (Nat.le_of_ble_eq_true rfl) dX12_count_190 ⟨(Nat.le_of_ble_eq_true rfl), (Nat.le_of_ble_eq_true rfl)⟩) hP hD hS hA [7, 9] [0, 1, 2, 3, 4, 5, 6, 8, 10] rfl rfl rfl (by decide) (w2 := fun u6 => [(h0, .inr (12, [v0, .ref h1])), (h3, .inl (K 1, 20, .inl (fun _ => nI 0))), (h5, .inr (13, [v9, v10, .int (nI 0)])), ((u0 1), .inr (14, [.int (nI 0), .int (-1), .int (nI 0), .ref h2])), ((u1 0), .inr (14, [.int (nI 0), .int (-1), .int (nI 0), .ref (u0 0)])), ((u0 0), .inr (13, [.int (nI 0), .ref (G 0), .int (nI 0)])), (q0, .inl (K 2, 16, .inl (upd (upd (upd (upd (upd (upd (fun _ => nI 0) 2 (nI 1)) 3 (nI 0)) 4 (nI 0)) 5 (nI 0)) 6 (nI 60)) 7 (nI 0)))), ((u4 0), .inr (14, [.int (nI 0), .int (-1), .int (nI 0), .ref h2])), (h4, .inr (13, [v7, v8, .int (nI 1)])), (h1, .inr (10, [.ref h2, .ref h4, v1, .ref h5, .ref h3, .int (nI 0), .int (nI 0), .int (nI 60), .int (nI 0), v2, v3, .int (nI 0), .int (nI 0), .int (nI 0), .int (nI 0), v4, v5])), ((u6 1), .inr (14, [.int (nI 0), .int (-1), .int (nI 0), .ref h2])), (h2, .inr (13, [.int (nI 0), v6, .int (nI 0)])), ((u6 2), .inr (14, [.int (nI 0), .int (-1), .int (nI 0), .ref (u6 0)])), ((u6 0), .inr (13, [.int (nI 0), .ref (G 0), .int (nI 0)]))]) (fun _ => rfl) (fun u6 H locs hP hD hS => ?_)
  refine r_iast (k := 8) hx hb hK hP hD hS 6 2 rfl rfl (Nat.le_of_ble_eq_true rfl) (by decide) dX12_count_193 (ws' := [(h0, .inr (12, [v0, .ref h1])), (h3, .inl (K 1, 20, .inl (fun _ => nI 0))), (h5, .inr (13, [v9, v10, .int (nI 0)])), ((u0 1), .inr (14, [.int (nI 0), .int (-1), .int (nI 0), .ref h2])), ((u1 0), .inr (14, [.int (nI 0), .int (-1), .int (nI 0), .ref (u0 0)])), ((u0 0), .inr (13, [.int (nI 0), .ref (G 0), .int (nI 0)])), (q0, .inl (K 2, 16, .inl (upd (upd (upd (upd (upd (upd (upd (fun _ => nI 0) 2 (nI 1)) 3 (nI 0)) 4 (nI 0)) 5 (nI 0)) 6 (nI 60)) 7 (nI 0)) 8 (nI 1)))), ((u4 0), .inr (14, [.int (nI 0), .int (-1), .int (nI 0), .ref h2])), (h4, .inr (13, [v7, v8, .int (nI 1)])), (h1, .inr (10, [.ref h2, .ref h4, v1, .ref h5, .ref h3, .int (nI 0), .int (nI 0), .int (nI 60), .int (nI 0), v2, v3, .int (nI 0), .int (nI 0), .int (nI 0), .int (nI 0), v4, v5])), ((u6 1), .inr (14, [.int (nI 0), .int (-1), .int (nI 0), .ref h2])), (h2, .inr (13, [.int (nI 0), v6, .int (nI 0)])), ((u6 2), .inr (14, [.int (nI 0), .int (-1), .int (nI 0), .ref (u6 0)])), ((u6 0), .inr (13, [.int (nI 0), .ref (G 0), .int (nI 0)]))]) rfl (fun H locs hP hD hS => ?_)
  refine lv_dup hx hb dX12_count_194 rfl ?_
  refine lv_bipush (v := nI 9) hx hb dX12_count_195 (by decide +kernel) ?_
  refine lv_iload_n hx hb dX12_count_197 rfl (lv_at hl 1 rfl) ?_
  refine r_iast (k := 9) hx hb hK hP hD hS 6 2 rfl rfl (Nat.le_of_ble_eq_true rfl) (by decide) dX12_count_198 (ws' := [(h0, .inr (12, [v0, .ref h1])), (h3, .inl (K 1, 20, .inl (fun _ => nI 0))), (h5, .inr (13, [v9, v10, .int (nI 0)])), ((u0 1), .inr (14, [.int (nI 0), .int (-1), .int (nI 0), .ref h2])), ((u1 0), .inr (14, [.int (nI 0), .int (-1), .int (nI 0), .ref (u0 0)])), ((u0 0), .inr (13, [.int (nI 0), .ref (G 0), .int (nI 0)])), (q0, .inl (K 2, 16, .inl (upd (upd (upd (upd (upd (upd (upd (upd (fun _ => nI 0) 2 (nI 1)) 3 (nI 0)) 4 (nI 0)) 5 (nI 0)) 6 (nI 60)) 7 (nI 0)) 8 (nI 1)) 9 (nI 0)))), ((u4 0), .inr (14, [.int (nI 0), .int (-1), .int (nI 0), .ref h2])), (h4, .inr (13, [v7, v8, .int (nI 1)])), (h1, .inr (10, [.ref h2, .ref h4, v1, .ref h5, .ref h3, .int (nI 0), .int (nI 0), .int (nI 60), .int (nI 0), v2, v3, .int (nI 0), .int (nI 0), .int (nI 0), .int (nI 0), v4, v5])), ((u6 1), .inr (14, [.int (nI 0), .int (-1), .int (nI 0), .ref h2])), (h2, .inr (13, [.int (nI 0), v6, .int (nI 0)])), ((u6 2), .inr (14, [.int (nI 0), .int (-1), .int (nI 0), .ref (u6 0)])), ((u6 0), .inr (13, [.int (nI 0), .ref (G 0), .int (nI 0)]))]) rfl (fun H locs hP hD hS => ?_)
  refine lv_dup hx hb dX12_count_199 rfl ?_
  refine lv_bipush (v := nI 10) hx hb dX12_count_200 (by decide +kernel) ?_
  refine lv_aload_n hx hb dX12_count_202 rfl (lv_at hl 6 rfl) ?_
  refine r_get hx hb hts ok_RX12 hown hK hP 0 rfl rfl 1 (by decide) w_1294 (fun _ h9 => h9) rfl dX12_count_203 ?_
  refine r_get hx hb hts ok_RX10 hown hK hP 9 rfl rfl 3 (by decide) w_1231 (fun _ h9 => h9) rfl dX12_count_206 ?_
  refine k_i (wr := [(h0, .inr (12, [v0, .ref h1])), (h3, .inl (K 1, 20, .inl (fun _ => nI 0))), ((u0 1), .inr (14, [.int (nI 0), .int (-1), .int (nI 0), .ref h2])), ((u1 0), .inr (14, [.int (nI 0), .int (-1), .int (nI 0), .ref (u0 0)])), ((u0 0), .inr (13, [.int (nI 0), .ref (G 0), .int (nI 0)])), (q0, .inl (K 2, 16, .inl (upd (upd (upd (upd (upd (upd (upd (upd (fun _ => nI 0) 2 (nI 1)) 3 (nI 0)) 4 (nI 0)) 5 (nI 0)) 6 (nI 60)) 7 (nI 0)) 8 (nI 1)) 9 (nI 0)))), ((u4 0), .inr (14, [.int (nI 0), .int (-1), .int (nI 0), .ref h2])), (h4, .inr (13, [v7, v8, .int (nI 1)])), (h1, .inr (10, [.ref h2, .ref h4, v1, .ref h5, .ref h3, .int (nI 0), .int (nI 0), .int (nI 60), .int (nI 0), v2, v3, .int (nI 0), .int (nI 0), .int (nI 0), .int (nI 0), v4, v5])), ((u6 1), .inr (14, [.int (nI 0), .int (-1), .int (nI 0), .ref h2])), (h2, .inr (13, [.int (nI 0), v6, .int (nI 0)])), ((u6 2), .inr (14, [.int (nI 0), .int (-1), .int (nI 0), .ref (u6 0)])), ((u6 0), .inr (13, [.int (nI 0), .ref (G 0), .int (nI 0)]))]) (run_V (rest := [.int (nI 10), .ref q0, .ref q0]) hx hb hml hown hts hK hP hD hS hA hm (C102_size l G D K H.size h5 (v9) (v10)) [2] rfl rfl mok_yJx4a65c_size_8abf5 w_1308 w_1309 w_1310 (rcv hK hP 2 rfl rfl rfl) ⟨Nat.le_of_ble_eq_true rfl, Nat.le_of_ble_eq_true rfl⟩ rfl hl.1 rfl (Nat.le_of_ble_eq_true rfl) dX12_count_209 ⟨(Nat.le_of_ble_eq_true rfl), (Nat.le_of_ble_eq_true rfl)⟩) hP hD hS hA [2] [0, 1, 3, 4, 5, 6, 7, 8, 9, 10, 11, 12, 13] rfl rfl rfl (by decide) (w2 := fun u7 => [(h0, .inr (12, [v0, .ref h1])), (h3, .inl (K 1, 20, .inl (fun _ => nI 0))), ((u0 1), .inr (14, [.int (nI 0), .int (-1), .int (nI 0), .ref h2])), ((u1 0), .inr (14, [.int (nI 0), .int (-1), .int (nI 0), .ref (u0 0)])), ((u0 0), .inr (13, [.int (nI 0), .ref (G 0), .int (nI 0)])), (q0, .inl (K 2, 16, .inl (upd (upd (upd (upd (upd (upd (upd (upd (fun _ => nI 0) 2 (nI 1)) 3 (nI 0)) 4 (nI 0)) 5 (nI 0)) 6 (nI 60)) 7 (nI 0)) 8 (nI 1)) 9 (nI 0)))), ((u4 0), .inr (14, [.int (nI 0), .int (-1), .int (nI 0), .ref h2])), (h4, .inr (13, [v7, v8, .int (nI 1)])), (h1, .inr (10, [.ref h2, .ref h4, v1, .ref h5, .ref h3, .int (nI 0), .int (nI 0), .int (nI 60), .int (nI 0), v2, v3, .int (nI 0), .int (nI 0), .int (nI 0), .int (nI 0), v4, v5])), ((u6 1), .inr (14, [.int (nI 0), .int (-1), .int (nI 0), .ref h2])), (h2, .inr (13, [.int (nI 0), v6, .int (nI 0)])), ((u6 2), .inr (14, [.int (nI 0), .int (-1), .int (nI 0), .ref (u6 0)])), ((u6 0), .inr (13, [.int (nI 0), .ref (G 0), .int (nI 0)])), (h5, .inr (13, [v9, v10, .int (nI 0)]))]) (fun _ => rfl) (fun u7 H locs hP hD hS => ?_)
  refine r_iast (k := 10) hx hb hK hP hD hS 5 2 rfl rfl (Nat.le_of_ble_eq_true rfl) (by decide) dX12_count_212 (ws' := [(h0, .inr (12, [v0, .ref h1])), (h3, .inl (K 1, 20, .inl (fun _ => nI 0))), ((u0 1), .inr (14, [.int (nI 0), .int (-1), .int (nI 0), .ref h2])), ((u1 0), .inr (14, [.int (nI 0), .int (-1), .int (nI 0), .ref (u0 0)])), ((u0 0), .inr (13, [.int (nI 0), .ref (G 0), .int (nI 0)])), (q0, .inl (K 2, 16, .inl (upd (upd (upd (upd (upd (upd (upd (upd (upd (fun _ => nI 0) 2 (nI 1)) 3 (nI 0)) 4 (nI 0)) 5 (nI 0)) 6 (nI 60)) 7 (nI 0)) 8 (nI 1)) 9 (nI 0)) 10 (nI 0)))), ((u4 0), .inr (14, [.int (nI 0), .int (-1), .int (nI 0), .ref h2])), (h4, .inr (13, [v7, v8, .int (nI 1)])), (h1, .inr (10, [.ref h2, .ref h4, v1, .ref h5, .ref h3, .int (nI 0), .int (nI 0), .int (nI 60), .int (nI 0), v2, v3, .int (nI 0), .int (nI 0), .int (nI 0), .int (nI 0), v4, v5])), ((u6 1), .inr (14, [.int (nI 0), .int (-1), .int (nI 0), .ref h2])), (h2, .inr (13, [.int (nI 0), v6, .int (nI 0)])), ((u6 2), .inr (14, [.int (nI 0), .int (-1), .int (nI 0), .ref (u6 0)])), ((u6 0), .inr (13, [.int (nI 0), .ref (G 0), .int (nI 0)])), (h5, .inr (13, [v9, v10, .int (nI 0)]))]) rfl (fun H locs hP hD hS => ?_)
  refine lv_dup hx hb dX12_count_213 rfl ?_
  refine lv_bipush (v := nI 11) hx hb dX12_count_214 (by decide +kernel) ?_
  refine lv_aload_n hx hb dX12_count_216 rfl (lv_at hl 6 rfl) ?_
  refine r_get hx hb hts ok_RX12 hown hK hP 0 rfl rfl 1 (by decide) w_1294 (fun _ h9 => h9) rfl dX12_count_217 ?_
  refine r_get hx hb hts ok_RX10 hown hK hP 8 rfl rfl 11 (by decide) w_1247 (fun _ h9 => h9) rfl dX12_count_220 ?_
  refine r_iast (k := 11) hx hb hK hP hD hS 5 2 rfl rfl (Nat.le_of_ble_eq_true rfl) (by decide) dX12_count_223 (ws' := [(h0, .inr (12, [v0, .ref h1])), (h3, .inl (K 1, 20, .inl (fun _ => nI 0))), ((u0 1), .inr (14, [.int (nI 0), .int (-1), .int (nI 0), .ref h2])), ((u1 0), .inr (14, [.int (nI 0), .int (-1), .int (nI 0), .ref (u0 0)])), ((u0 0), .inr (13, [.int (nI 0), .ref (G 0), .int (nI 0)])), (q0, .inl (K 2, 16, .inl (upd (upd (upd (upd (upd (upd (upd (upd (upd (upd (fun _ => nI 0) 2 (nI 1)) 3 (nI 0)) 4 (nI 0)) 5 (nI 0)) 6 (nI 60)) 7 (nI 0)) 8 (nI 1)) 9 (nI 0)) 10 (nI 0)) 11 (nI 0)))), ((u4 0), .inr (14, [.int (nI 0), .int (-1), .int (nI 0), .ref h2])), (h4, .inr (13, [v7, v8, .int (nI 1)])), (h1, .inr (10, [.ref h2, .ref h4, v1, .ref h5, .ref h3, .int (nI 0), .int (nI 0), .int (nI 60), .int (nI 0), v2, v3, .int (nI 0), .int (nI 0), .int (nI 0), .int (nI 0), v4, v5])), ((u6 1), .inr (14, [.int (nI 0), .int (-1), .int (nI 0), .ref h2])), (h2, .inr (13, [.int (nI 0), v6, .int (nI 0)])), ((u6 2), .inr (14, [.int (nI 0), .int (-1), .int (nI 0), .ref (u6 0)])), ((u6 0), .inr (13, [.int (nI 0), .ref (G 0), .int (nI 0)])), (h5, .inr (13, [v9, v10, .int (nI 0)]))]) rfl (fun H locs hP hD hS => ?_)
  refine lv_dup hx hb dX12_count_224 rfl ?_
  refine lv_bipush (v := nI 12) hx hb dX12_count_225 (by decide +kernel) ?_
  refine lv_aload_n hx hb dX12_count_227 rfl (lv_at hl 6 rfl) ?_
  refine r_get hx hb hts ok_RX12 hown hK hP 0 rfl rfl 1 (by decide) w_1294 (fun _ h9 => h9) rfl dX12_count_228 ?_
  refine r_get hx hb hts ok_RX10 hown hK hP 8 rfl rfl 12 (by decide) w_1249 (fun _ h9 => h9) rfl dX12_count_231 ?_
  refine r_iast (k := 12) hx hb hK hP hD hS 5 2 rfl rfl (Nat.le_of_ble_eq_true rfl) (by decide) dX12_count_234 (ws' := [(h0, .inr (12, [v0, .ref h1])), (h3, .inl (K 1, 20, .inl (fun _ => nI 0))), ((u0 1), .inr (14, [.int (nI 0), .int (-1), .int (nI 0), .ref h2])), ((u1 0), .inr (14, [.int (nI 0), .int (-1), .int (nI 0), .ref (u0 0)])), ((u0 0), .inr (13, [.int (nI 0), .ref (G 0), .int (nI 0)])), (q0, .inl (K 2, 16, .inl (upd (upd (upd (upd (upd (upd (upd (upd (upd (upd (upd (fun _ => nI 0) 2 (nI 1)) 3 (nI 0)) 4 (nI 0)) 5 (nI 0)) 6 (nI 60)) 7 (nI 0)) 8 (nI 1)) 9 (nI 0)) 10 (nI 0)) 11 (nI 0)) 12 (nI 0)))), ((u4 0), .inr (14, [.int (nI 0), .int (-1), .int (nI 0), .ref h2])), (h4, .inr (13, [v7, v8, .int (nI 1)])), (h1, .inr (10, [.ref h2, .ref h4, v1, .ref h5, .ref h3, .int (nI 0), .int (nI 0), .int (nI 60), .int (nI 0), v2, v3, .int (nI 0), .int (nI 0), .int (nI 0), .int (nI 0), v4, v5])), ((u6 1), .inr (14, [.int (nI 0), .int (-1), .int (nI 0), .ref h2])), (h2, .inr (13, [.int (nI 0), v6, .int (nI 0)])), ((u6 2), .inr (14, [.int (nI 0), .int (-1), .int (nI 0), .ref (u6 0)])), ((u6 0), .inr (13, [.int (nI 0), .ref (G 0), .int (nI 0)])), (h5, .inr (13, [v9, v10, .int (nI 0)]))]) rfl (fun H locs hP hD hS => ?_)
  refine lv_dup hx hb dX12_count_235 rfl ?_
  refine lv_bipush (v := nI 13) hx hb dX12_count_236 (by decide +kernel) ?_
  refine lv_aload_n hx hb dX12_count_238 rfl (lv_at hl 6 rfl) ?_
  refine r_get hx hb hts ok_RX12 hown hK hP 0 rfl rfl 1 (by decide) w_1294 (fun _ h9 => h9) rfl dX12_count_239 ?_
  refine r_get hx hb hts ok_RX10 hown hK hP 8 rfl rfl 13 (by decide) w_1251 (fun _ h9 => h9) rfl dX12_count_242 ?_
  refine r_iast (k := 13) hx hb hK hP hD hS 5 2 rfl rfl (Nat.le_of_ble_eq_true rfl) (by decide) dX12_count_245 (ws' := [(h0, .inr (12, [v0, .ref h1])), (h3, .inl (K 1, 20, .inl (fun _ => nI 0))), ((u0 1), .inr (14, [.int (nI 0), .int (-1), .int (nI 0), .ref h2])), ((u1 0), .inr (14, [.int (nI 0), .int (-1), .int (nI 0), .ref (u0 0)])), ((u0 0), .inr (13, [.int (nI 0), .ref (G 0), .int (nI 0)])), (q0, .inl (K 2, 16, .inl (upd (upd (upd (upd (upd (upd (upd (upd (upd (upd (upd (upd (fun _ => nI 0) 2 (nI 1)) 3 (nI 0)) 4 (nI 0)) 5 (nI 0)) 6 (nI 60)) 7 (nI 0)) 8 (nI 1)) 9 (nI 0)) 10 (nI 0)) 11 (nI 0)) 12 (nI 0)) 13 (nI 0)))), ((u4 0), .inr (14, [.int (nI 0), .int (-1), .int (nI 0), .ref h2])), (h4, .inr (13, [v7, v8, .int (nI 1)])), (h1, .inr (10, [.ref h2, .ref h4, v1, .ref h5, .ref h3, .int (nI 0), .int (nI 0), .int (nI 60), .int (nI 0), v2, v3, .int (nI 0), .int (nI 0), .int (nI 0), .int (nI 0), v4, v5])), ((u6 1), .inr (14, [.int (nI 0), .int (-1), .int (nI 0), .ref h2])), (h2, .inr (13, [.int (nI 0), v6, .int (nI 0)])), ((u6 2), .inr (14, [.int (nI 0), .int (-1), .int (nI 0), .ref (u6 0)])), ((u6 0), .inr (13, [.int (nI 0), .ref (G 0), .int (nI 0)])), (h5, .inr (13, [v9, v10, .int (nI 0)]))]) rfl (fun H locs hP hD hS => ?_)
  refine lv_dup hx hb dX12_count_246 rfl ?_
  refine lv_bipush (v := nI 14) hx hb dX12_count_247 (by decide +kernel) ?_
  refine lv_aload_n hx hb dX12_count_249 rfl (lv_at hl 6 rfl) ?_
  refine r_get hx hb hts ok_RX12 hown hK hP 0 rfl rfl 1 (by decide) w_1294 (fun _ h9 => h9) rfl dX12_count_250 ?_
  refine r_get hx hb hts ok_RX10 hown hK hP 8 rfl rfl 14 (by decide) w_1253 (fun _ h9 => h9) rfl dX12_count_253 ?_
  refine r_iast (k := 14) hx hb hK hP hD hS 5 2 rfl rfl (Nat.le_of_ble_eq_true rfl) (by decide) dX12_count_256 (ws' := [(h0, .inr (12, [v0, .ref h1])), (h3, .inl (K 1, 20, .inl (fun _ => nI 0))), ((u0 1), .inr (14, [.int (nI 0), .int (-1), .int (nI 0), .ref h2])), ((u1 0), .inr (14, [.int (nI 0), .int (-1), .int (nI 0), .ref (u0 0)])), ((u0 0), .inr (13, [.int (nI 0), .ref (G 0), .int (nI 0)])), (q0, .inl (K 2, 16, .inl (upd (upd (upd (upd (upd (upd (upd (upd (upd (upd (upd (upd (upd (fun _ => nI 0) 2 (nI 1)) 3 (nI 0)) 4 (nI 0)) 5 (nI 0)) 6 (nI 60)) 7 (nI 0)) 8 (nI 1)) 9 (nI 0)) 10 (nI 0)) 11 (nI 0)) 12 (nI 0)) 13 (nI 0)) 14 (nI 0)))), ((u4 0), .inr (14, [.int (nI 0), .int (-1), .int (nI 0), .ref h2])), (h4, .inr (13, [v7, v8, .int (nI 1)])), (h1, .inr (10, [.ref h2, .ref h4, v1, .ref h5, .ref h3, .int (nI 0), .int (nI 0), .int (nI 60), .int (nI 0), v2, v3, .int (nI 0), .int (nI 0), .int (nI 0), .int (nI 0), v4, v5])), ((u6 1), .inr (14, [.int (nI 0), .int (-1), .int (nI 0), .ref h2])), (h2, .inr (13, [.int (nI 0), v6, .int (nI 0)])), ((u6 2), .inr (14, [.int (nI 0), .int (-1), .int (nI 0), .ref (u6 0)])), ((u6 0), .inr (13, [.int (nI 0), .ref (G 0), .int (nI 0)])), (h5, .inr (13, [v9, v10, .int (nI 0)]))]) rfl (fun H locs hP hD hS => ?_)
  refine lv_dup hx hb dX12_count_257 rfl ?_
  refine lv_bipush (v := nI 15) hx hb dX12_count_258 (by decide +kernel) ?_
  refine lv_aload_n hx hb dX12_count_260 rfl (lv_at hl 6 rfl) ?_
  refine r_get hx hb hts ok_RX12 hown hK hP 0 rfl rfl 1 (by decide) w_1294 (fun _ h9 => h9) rfl dX12_count_261 ?_
  refine k_i (wr := [(h0, .inr (12, [v0, .ref h1])), (h3, .inl (K 1, 20, .inl (fun _ => nI 0))), ((u0 1), .inr (14, [.int (nI 0), .int (-1), .int (nI 0), .ref h2])), ((u1 0), .inr (14, [.int (nI 0), .int (-1), .int (nI 0), .ref (u0 0)])), ((u0 0), .inr (13, [.int (nI 0), .ref (G 0), .int (nI 0)])), (q0, .inl (K 2, 16, .inl (upd (upd (upd (upd (upd (upd (upd (upd (upd (upd (upd (upd (upd (fun _ => nI 0) 2 (nI 1)) 3 (nI 0)) 4 (nI 0)) 5 (nI 0)) 6 (nI 60)) 7 (nI 0)) 8 (nI 1)) 9 (nI 0)) 10 (nI 0)) 11 (nI 0)) 12 (nI 0)) 13 (nI 0)) 14 (nI 0)))), ((u4 0), .inr (14, [.int (nI 0), .int (-1), .int (nI 0), .ref h2])), (h4, .inr (13, [v7, v8, .int (nI 1)])), ((u6 1), .inr (14, [.int (nI 0), .int (-1), .int (nI 0), .ref h2])), ((u6 2), .inr (14, [.int (nI 0), .int (-1), .int (nI 0), .ref (u6 0)])), ((u6 0), .inr (13, [.int (nI 0), .ref (G 0), .int (nI 0)])), (h5, .inr (13, [v9, v10, .int (nI 0)]))]) (run_V (rest := [.int (nI 15), .ref q0, .ref q0]) hx hb hml hown hts hK hP hD hS hA hm (C830_greys l G D K H.size h1 h2 (.ref h4) (v1) (.ref h5) (.ref h3) (.int (nI 0)) (.int (nI 0)) (.int (nI 60)) (.int (nI 0)) (v2) (v3) (.int (nI 0)) (.int (nI 0)) (.int (nI 0)) (.int (nI 0)) (v4) (v5) (v6)) [8, 10] rfl rfl mok_yX10_greys w_1973 w_1974 w_1975 (rcv hK hP 8 rfl rfl rfl) ⟨Nat.le_of_ble_eq_true rfl, Nat.le_of_ble_eq_true rfl⟩ rfl hl.1 rfl (Nat.le_of_ble_eq_true rfl) dX12_count_264 ⟨(Nat.le_of_ble_eq_true rfl), (Nat.le_of_ble_eq_true rfl)⟩) hP hD hS hA [8, 10] [0, 1, 2, 3, 4, 5, 6, 7, 9, 11, 12, 13] rfl rfl rfl (by decide) (w2 := fun u8 => [(h0, .inr (12, [v0, .ref h1])), (h3, .inl (K 1, 20, .inl (fun _ => nI 0))), ((u0 1), .inr (14, [.int (nI 0), .int (-1), .int (nI 0), .ref h2])), ((u1 0), .inr (14, [.int (nI 0), .int (-1), .int (nI 0), .ref (u0 0)])), ((u0 0), .inr (13, [.int (nI 0), .ref (G 0), .int (nI 0)])), (q0, .inl (K 2, 16, .inl (upd (upd (upd (upd (upd (upd (upd (upd (upd (upd (upd (upd (upd (fun _ => nI 0) 2 (nI 1)) 3 (nI 0)) 4 (nI 0)) 5 (nI 0)) 6 (nI 60)) 7 (nI 0)) 8 (nI 1)) 9 (nI 0)) 10 (nI 0)) 11 (nI 0)) 12 (nI 0)) 13 (nI 0)) 14 (nI 0)))), ((u4 0), .inr (14, [.int (nI 0), .int (-1), .int (nI 0), .ref h2])), (h4, .inr (13, [v7, v8, .int (nI 1)])), ((u6 1), .inr (14, [.int (nI 0), .int (-1), .int (nI 0), .ref h2])), ((u6 2), .inr (14, [.int (nI 0), .int (-1), .int (nI 0), .ref (u6 0)])), ((u6 0), .inr (13, [.int (nI 0), .ref (G 0), .int (nI 0)])), (h5, .inr (13, [v9, v10, .int (nI 0)])), (h1, .inr (10, [.ref h2, .ref h4, v1, .ref h5, .ref h3, .int (nI 0), .int (nI 0), .int (nI 60), .int (nI 0), v2, v3, .int (nI 0), .int (nI 0), .int (nI 0), .int (nI 0), v4, v5])), ((u8 0), .inr (14, [.int (nI 0), .int (-1), .int (nI 0), .ref h2])), (h2, .inr (13, [.int (nI 0), v6, .int (nI 0)]))]) (fun _ => rfl) (fun u8 H locs hP hD hS => ?_)
  refine r_iast (k := 15) hx hb hK hP hD hS 5 2 rfl rfl (Nat.le_of_ble_eq_true rfl) (by decide) dX12_count_267 (ws' := [(h0, .inr (12, [v0, .ref h1])), (h3, .inl (K 1, 20, .inl (fun _ => nI 0))), ((u0 1), .inr (14, [.int (nI 0), .int (-1), .int (nI 0), .ref h2])), ((u1 0), .inr (14, [.int (nI 0), .int (-1), .int (nI 0), .ref (u0 0)])), ((u0 0), .inr (13, [.int (nI 0), .ref (G 0), .int (nI 0)])), (q0, .inl (K 2, 16, .inl (upd (upd (upd (upd (upd (upd (upd (upd (upd (upd (upd (upd (upd (upd (fun _ => nI 0) 2 (nI 1)) 3 (nI 0)) 4 (nI 0)) 5 (nI 0)) 6 (nI 60)) 7 (nI 0)) 8 (nI 1)) 9 (nI 0)) 10 (nI 0)) 11 (nI 0)) 12 (nI 0)) 13 (nI 0)) 14 (nI 0)) 15 (nI 0)))), ((u4 0), .inr (14, [.int (nI 0), .int (-1), .int (nI 0), .ref h2])), (h4, .inr (13, [v7, v8, .int (nI 1)])), ((u6 1), .inr (14, [.int (nI 0), .int (-1), .int (nI 0), .ref h2])), ((u6 2), .inr (14, [.int (nI 0), .int (-1), .int (nI 0), .ref (u6 0)])), ((u6 0), .inr (13, [.int (nI 0), .ref (G 0), .int (nI 0)])), (h5, .inr (13, [v9, v10, .int (nI 0)])), (h1, .inr (10, [.ref h2, .ref h4, v1, .ref h5, .ref h3, .int (nI 0), .int (nI 0), .int (nI 60), .int (nI 0), v2, v3, .int (nI 0), .int (nI 0), .int (nI 0), .int (nI 0), v4, v5])), ((u8 0), .inr (14, [.int (nI 0), .int (-1), .int (nI 0), .ref h2])), (h2, .inr (13, [.int (nI 0), v6, .int (nI 0)]))]) rfl (fun H locs hP hD hS => ?_)
  refine lv_astore (lv' := [(4, .ref q0), (6, .int (nI 20)), (3, .int (nI 0)), (7, .int (nI 0)), (5, .int (nI 20)), (2, .int (nI 0)), (0, .ref h0), (1, .int (nI 9))]) hx hb dX12_count_268 hl (by decide) rfl (fun ls hl => ?_)
  refine lv_aload hx hb dX12_count_270 (lv_at hl 0 rfl) ?_
  refine lv_iload_n hx hb dX12_count_272 rfl (lv_at hl 7 rfl) ?_
  refine r_iald (k := 9) hx hb hK hP 5 2 rfl rfl (Nat.le_of_ble_eq_true rfl) (by decide) (v := nI 0) rfl dX12_count_273 ?_
  exact e_i hx hb hr hlk hP hD hS (fun k => match k with | 0 => (u0 0) | 1 => (u0 1) | 2 => (u1 0) | 3 => q0 | 4 => (u4 0) | 5 => (u6 0) | 6 => (u6 1) | 7 => (u6 2) | 8 => (u8 0) | _ => 0) rfl (Nat.le_of_ble_eq_true rfl) (Nat.le_of_ble_eq_true rfl) rfl dX12_count_274
set_option maxHeartbeats 4000000 in
set_option maxRecDepth 100000 in
theorem C921_many (l : Launch) (G : Nat → Nat) (D : va_G) (K : Nat → ClassId) (sz : Nat) (h0 h1 h2 h3 h4 h5 : Nat) (v0 v1 v2 v3 v4 v5 v6 v7 v8 v9 : Value) : CM l yX12_many cX12_many 2 (some FieldType.int) ({ frames := 7, cells := 9, slots := 46, locals := 156 } : Room) G D K [.ref h0, .int (nI 9)] [(h0, .inr (12, [.int (nI 0), .ref h1])), (h1, .inr (10, [.ref h2, .ref h4, v0, .ref h5, .ref h3, .int (nI 0), .int (nI 0), .int (nI 60), .int (nI 0), v1, v2, .int (nI 0), .int (nI 0), .int (nI 0), .int (nI 0), v3, v4])), (h2, .inr (13, [.int (nI 0), v5, .int (nI 0)])), (h3, .inl (K 1, 20, .inl (fun _ => nI 0))), (h4, .inr (13, [v6, v7, .int (nI 1)])), (h5, .inr (13, [v8, v9, .int (nI 0)]))] sz (CQi (nI 0) D (fun u => [(h0, .inr (12, [.int (nI 0), .ref h1])), (h3, .inl (K 1, 20, .inl (fun _ => nI 0))), ((u 1), .inr (14, [.int (nI 0), .int (-1), .int (nI 0), .ref h2])), ((u 2), .inr (14, [.int (nI 0), .int (-1), .int (nI 0), .ref (u 0)])), ((u 0), .inr (13, [.int (nI 0), .ref (G 0), .int (nI 0)])), ((u 3), .inl (K 2, 16, .inl (upd (upd (upd (upd (upd (upd (upd (upd (upd (upd (upd (upd (upd (upd (fun _ => nI 0) 2 (nI 1)) 3 (nI 0)) 4 (nI 0)) 5 (nI 0)) 6 (nI 60)) 7 (nI 0)) 8 (nI 1)) 9 (nI 0)) 10 (nI 0)) 11 (nI 0)) 12 (nI 0)) 13 (nI 0)) 14 (nI 0)) 15 (nI 0)))), ((u 4), .inr (14, [.int (nI 0), .int (-1), .int (nI 0), .ref h2])), (h4, .inr (13, [v6, v7, .int (nI 1)])), ((u 6), .inr (14, [.int (nI 0), .int (-1), .int (nI 0), .ref h2])), ((u 7), .inr (14, [.int (nI 0), .int (-1), .int (nI 0), .ref (u 5)])), ((u 5), .inr (13, [.int (nI 0), .ref (G 0), .int (nI 0)])), (h5, .inr (13, [v8, v9, .int (nI 0)])), (h1, .inr (10, [.ref h2, .ref h4, v0, .ref h5, .ref h3, .int (nI 0), .int (nI 0), .int (nI 60), .int (nI 0), v1, v2, .int (nI 0), .int (nI 0), .int (nI 0), .int (nI 0), v3, v4])), ((u 8), .inr (14, [.int (nI 0), .int (-1), .int (nI 0), .ref h2])), (h2, .inr (13, [.int (nI 0), v5, .int (nI 0)]))])) := by
  refine CM_of (lv0 := [(0, .ref h0), (1, .int (nI 9))]) pn_RX12 (Nat.le_of_ble_eq_true rfl) rfl (fun p e s m args below meth c A ls hx hb hr hml hown hts hlk hnm hP hK hD hS hA hm hl => ?_)
  have hown : s.vm.findClass RX12 = some m.cls := hown
  refine lv_aload_n hx hb dX12_many_0 rfl (lv_at hl 0 rfl) ?_
  refine lv_iload_n hx hb dX12_many_1 rfl (lv_at hl 1 rfl) ?_
  refine lv_iconst (v := nI 0) hx hb dX12_many_2 (by decide +kernel) ?_
  refine lv_bipush (v := nI 15) hx hb dX12_many_3 (by decide +kernel) ?_
  refine k_i (wr := [(h0, .inr (12, [.int (nI 0), .ref h1])), (h1, .inr (10, [.ref h2, .ref h4, v0, .ref h5, .ref h3, .int (nI 0), .int (nI 0), .int (nI 60), .int (nI 0), v1, v2, .int (nI 0), .int (nI 0), .int (nI 0), .int (nI 0), v3, v4])), (h2, .inr (13, [.int (nI 0), v5, .int (nI 0)])), (h3, .inl (K 1, 20, .inl (fun _ => nI 0))), (h4, .inr (13, [v6, v7, .int (nI 1)])), (h5, .inr (13, [v8, v9, .int (nI 0)]))]) (run_S (rest := [.ref h0]) hx hb hml hown hts hK hP hD hS hA hm (C919_isIn l G D K s.heap.size) [] rfl rfl mok_yX12_isIn w_1352 w_1353 ⟨Nat.le_of_ble_eq_true rfl, Nat.le_of_ble_eq_true rfl⟩ rfl hl.1 rfl (Nat.le_of_ble_eq_true rfl) dX12_many_5 ⟨(Nat.le_of_ble_eq_true rfl), (Nat.le_of_ble_eq_true rfl)⟩) hP hD hS hA [] [0, 1, 2, 3, 4, 5] rfl rfl rfl (by decide) (w2 := fun u0 => [(h0, .inr (12, [.int (nI 0), .ref h1])), (h1, .inr (10, [.ref h2, .ref h4, v0, .ref h5, .ref h3, .int (nI 0), .int (nI 0), .int (nI 60), .int (nI 0), v1, v2, .int (nI 0), .int (nI 0), .int (nI 0), .int (nI 0), v3, v4])), (h2, .inr (13, [.int (nI 0), v5, .int (nI 0)])), (h3, .inl (K 1, 20, .inl (fun _ => nI 0))), (h4, .inr (13, [v6, v7, .int (nI 1)])), (h5, .inr (13, [v8, v9, .int (nI 0)]))]) (fun _ => rfl) (fun u0 H locs hP hD hS => ?_)
  refine lv_if_ne (tgt := 15) hx hb dX12_many_8 (by decide) (fun _ => ?_) (fun c9 => absurd c9 (by decide +kernel))
  refine lv_iconst (v := nI 0) hx hb dX12_many_15 (by decide +kernel) ?_
  refine lv_iconst (v := nI 1) hx hb dX12_many_16 (by decide +kernel) ?_
  refine k_i (wr := [(h1, .inr (10, [.ref h2, .ref h4, v0, .ref h5, .ref h3, .int (nI 0), .int (nI 0), .int (nI 60), .int (nI 0), v1, v2, .int (nI 0), .int (nI 0), .int (nI 0), .int (nI 0), v3, v4])), (h2, .inr (13, [.int (nI 0), v5, .int (nI 0)])), (h3, .inl (K 1, 20, .inl (fun _ => nI 0))), (h4, .inr (13, [v6, v7, .int (nI 1)])), (h5, .inr (13, [v8, v9, .int (nI 0)]))]) (run_V (rest := []) hx hb hml hown hts hK hP hD hS hA hm (C25_start l G D K H.size h0 (.ref h1)) [0] rfl rfl mok_yX12_start w_1312 w_1314 w_p30 (rcv hK hP 0 rfl rfl rfl) ⟨Nat.le_of_ble_eq_true rfl, Nat.le_of_ble_eq_true rfl⟩ rfl hl.1 rfl (Nat.le_of_ble_eq_true rfl) dX12_many_17 ⟨(Nat.le_of_ble_eq_true rfl), (Nat.le_of_ble_eq_true rfl)⟩) hP hD hS hA [0] [1, 2, 3, 4, 5] rfl rfl rfl (by decide) (w2 := fun u1 => [(h1, .inr (10, [.ref h2, .ref h4, v0, .ref h5, .ref h3, .int (nI 0), .int (nI 0), .int (nI 60), .int (nI 0), v1, v2, .int (nI 0), .int (nI 0), .int (nI 0), .int (nI 0), v3, v4])), (h2, .inr (13, [.int (nI 0), v5, .int (nI 0)])), (h3, .inl (K 1, 20, .inl (fun _ => nI 0))), (h4, .inr (13, [v6, v7, .int (nI 1)])), (h5, .inr (13, [v8, v9, .int (nI 0)])), (h0, .inr (12, [.int (nI 0), .ref h1]))]) (fun _ => rfl) (fun u1 H locs hP hD hS => ?_)
  refine lv_if_eq (tgt := 27) hx hb dX12_many_20 (by decide) (fun _ => ?_) (fun c9 => absurd (by decide +kernel) c9)
  refine lv_aload_n hx hb dX12_many_27 rfl (lv_at hl 0 rfl) ?_
  refine lv_iload_n hx hb dX12_many_28 rfl (lv_at hl 1 rfl) ?_
  refine k_i (wr := []) (run_V (rest := []) hx hb hml hown hts hK hP hD hS hA hm (C920_count l G D K H.size h0 h1 h2 h3 h4 h5 (.int (nI 0)) (v0) (v1) (v2) (v3) (v4) (v5) (v6) (v7) (v8) (v9)) [5, 0, 1, 2, 3, 4] rfl rfl mok_yX12_count w_2029 w_2031 w_p57 (rcv hK hP 5 rfl rfl rfl) ⟨Nat.le_of_ble_eq_true rfl, Nat.le_of_ble_eq_true rfl⟩ rfl hl.1 rfl (Nat.le_of_ble_eq_true rfl) dX12_many_29 ⟨(Nat.le_of_ble_eq_true rfl), (Nat.le_of_ble_eq_true rfl)⟩) hP hD hS hA [5, 0, 1, 2, 3, 4] [] rfl rfl rfl (by decide) (w2 := fun u2 => [(h0, .inr (12, [.int (nI 0), .ref h1])), (h3, .inl (K 1, 20, .inl (fun _ => nI 0))), ((u2 1), .inr (14, [.int (nI 0), .int (-1), .int (nI 0), .ref h2])), ((u2 2), .inr (14, [.int (nI 0), .int (-1), .int (nI 0), .ref (u2 0)])), ((u2 0), .inr (13, [.int (nI 0), .ref (G 0), .int (nI 0)])), ((u2 3), .inl (K 2, 16, .inl (upd (upd (upd (upd (upd (upd (upd (upd (upd (upd (upd (upd (upd (upd (fun _ => nI 0) 2 (nI 1)) 3 (nI 0)) 4 (nI 0)) 5 (nI 0)) 6 (nI 60)) 7 (nI 0)) 8 (nI 1)) 9 (nI 0)) 10 (nI 0)) 11 (nI 0)) 12 (nI 0)) 13 (nI 0)) 14 (nI 0)) 15 (nI 0)))), ((u2 4), .inr (14, [.int (nI 0), .int (-1), .int (nI 0), .ref h2])), (h4, .inr (13, [v6, v7, .int (nI 1)])), ((u2 6), .inr (14, [.int (nI 0), .int (-1), .int (nI 0), .ref h2])), ((u2 7), .inr (14, [.int (nI 0), .int (-1), .int (nI 0), .ref (u2 5)])), ((u2 5), .inr (13, [.int (nI 0), .ref (G 0), .int (nI 0)])), (h5, .inr (13, [v8, v9, .int (nI 0)])), (h1, .inr (10, [.ref h2, .ref h4, v0, .ref h5, .ref h3, .int (nI 0), .int (nI 0), .int (nI 60), .int (nI 0), v1, v2, .int (nI 0), .int (nI 0), .int (nI 0), .int (nI 0), v3, v4])), ((u2 8), .inr (14, [.int (nI 0), .int (-1), .int (nI 0), .ref h2])), (h2, .inr (13, [.int (nI 0), v5, .int (nI 0)]))]) (fun _ => rfl) (fun u2 H locs hP hD hS => ?_)
  exact e_i hx hb hr hlk hP hD hS (fun k => match k with | 0 => (u2 0) | 1 => (u2 1) | 2 => (u2 2) | 3 => (u2 3) | 4 => (u2 4) | 5 => (u2 5) | 6 => (u2 6) | 7 => (u2 7) | 8 => (u2 8) | _ => 0) rfl (Nat.le_of_ble_eq_true rfl) (Nat.le_of_ble_eq_true rfl) rfl dX12_many_32
set_option maxHeartbeats 4000000 in
set_option maxRecDepth 100000 in
theorem C922_many (l : Launch) (G : Nat → Nat) (D : va_G) (K : Nat → ClassId) (sz : Nat) (h0 h1 h2 : Nat) (v0 v1 v2 v3 v4 v5 v6 v7 v8 v9 v10 v11 : Value) : CM l yX9_many cX9_many 2 (some FieldType.int) ({ frames := 1, cells := 0, slots := 0, locals := 20 } : Room) G D K [.ref h0, .int (nI 10)] [(h0, .inr (9, [v0, .ref h1, v1, v2, v3, v4, v5, v6, v7])), (h1, .inr (4, [.ref h2, v8, v9, v10])), (h2, .inr (5, [v11, .int (nI 0)]))] sz (CQi (nI 0) D (fun _ => [(h0, .inr (9, [v0, .ref h1, v1, v2, v3, v4, v5, v6, v7])), (h1, .inr (4, [.ref h2, v8, v9, v10])), (h2, .inr (5, [v11, .int (nI 0)]))])) := by
  refine CM_of (lv0 := [(0, .ref h0), (1, .int (nI 10))]) pn_RX9 (Nat.le_of_ble_eq_true rfl) rfl (fun p e s m args below meth c A ls hx hb hr hml hown hts hlk hnm hP hK hD hS hA hm hl => ?_)
  have hown : s.vm.findClass RX9 = some m.cls := hown
  refine lv_iload_n hx hb dX9_many_0 rfl (lv_at hl 1 rfl) ?_
  refine lv_tableIn (off := 173) (tgt := 174) hx hb dX9_many_1 (by decide +kernel) (by decide +kernel) rfl (by decide) ?_
  refine lv_aload_n hx hb dX9_many_174 rfl (lv_at hl 0 rfl) ?_
  refine r_get hx hb hts ok_RX9 hown hK hP 0 rfl rfl 1 (by decide) w_259 (fun _ h9 => h9) rfl dX9_many_175 ?_
  refine r_get hx hb hts ok_RX4 hown hK hP 1 rfl rfl 0 (by decide) w_73 (fun _ h9 => h9) rfl dX9_many_178 ?_
  refine k_i (wr := [(h0, .inr (9, [v0, .ref h1, v1, v2, v3, v4, v5, v6, v7])), (h1, .inr (4, [.ref h2, v8, v9, v10]))]) (run_V (rest := []) hx hb hml hown hts hK hP hD hS hA hm (C89_size l G D K s.heap.size h2 (v11)) [2] rfl rfl mok_yX5_size w_574 w_295 w_296 (rcv hK hP 2 rfl rfl rfl) ⟨Nat.le_of_ble_eq_true rfl, Nat.le_of_ble_eq_true rfl⟩ rfl hl.1 rfl (Nat.le_of_ble_eq_true rfl) dX9_many_181 ⟨(Nat.le_of_ble_eq_true rfl), (Nat.le_of_ble_eq_true rfl)⟩) hP hD hS hA [2] [0, 1] rfl rfl rfl (by decide) (w2 := fun u0 => [(h0, .inr (9, [v0, .ref h1, v1, v2, v3, v4, v5, v6, v7])), (h1, .inr (4, [.ref h2, v8, v9, v10])), (h2, .inr (5, [v11, .int (nI 0)]))]) (fun _ => rfl) (fun u0 H locs hP hD hS => ?_)
  exact e_i hx hb hr hlk hP hD hS (fun _ => 0) rfl (Nat.le_of_ble_eq_true rfl) (Nat.le_of_ble_eq_true rfl) rfl dX9_many_184
set_option maxHeartbeats 4000000 in
set_option maxRecDepth 100000 in
theorem C923_isIn (l : Launch) (G : Nat → Nat) (D : va_G) (K : Nat → ClassId) (sz : Nat) : CM l yX12_isIn cX12_isIn 3 (some FieldType.boolean) ({ frames := 0, cells := 0, slots := 0, locals := 0 } : Room) G D K [.int (nI 10), .int (nI 0), .int (nI 15)] [] sz (CQi (nI 1) D (fun _ => [])) := by
  refine CM_of (lv0 := [(0, .int (nI 10)), (1, .int (nI 0)), (2, .int (nI 15))]) pn_RX12 (Nat.le_of_ble_eq_true rfl) rfl (fun p e s m args below meth c A ls hx hb hr hml hown hts hlk hnm hP hK hD hS hA hm hl => ?_)
  have hown : s.vm.findClass RX12 = some m.cls := hown
  refine lv_iload_n hx hb dX12_isIn_0 rfl (lv_at hl 0 rfl) ?_
  refine lv_iload_n hx hb dX12_isIn_1 rfl (lv_at hl 1 rfl) ?_
  refine lv_icmp_lt (tgt := 14) hx hb dX12_isIn_2 (by decide) (fun c9 => absurd c9 (by decide +kernel)) (fun _ => ?_)
  refine lv_iload_n hx hb dX12_isIn_5 rfl (lv_at hl 0 rfl) ?_
  refine lv_iload_n hx hb dX12_isIn_6 rfl (lv_at hl 2 rfl) ?_
  refine lv_icmp_gt (tgt := 14) hx hb dX12_isIn_7 (by decide) (fun c9 => absurd c9 (by decide +kernel)) (fun _ => ?_)
  refine lv_iconst (v := nI 1) hx hb dX12_isIn_10 (by decide +kernel) ?_
  refine lv_goto (tgt := 15) hx hb dX12_isIn_11 (by decide) ?_
  exact e_z hx hb hr hlk hP hD hS (fun _ => 0) rfl (Nat.le_of_ble_eq_true rfl) (Nat.le_of_ble_eq_true rfl) rfl (Or.inr rfl) dX12_isIn_15
set_option maxHeartbeats 4000000 in
set_option maxRecDepth 100000 in
theorem C924_count (l : Launch) (G : Nat → Nat) (D : va_G) (K : Nat → ClassId) (sz : Nat) (h0 h1 h2 h3 h4 h5 : Nat) (v0 v1 v2 v3 v4 v5 v6 v7 v8 v9 v10 : Value) : CM l yX12_count cX12_count 8 (some FieldType.int) ({ frames := 6, cells := 9, slots := 46, locals := 129 } : Room) G D K [.ref h0, .int (nI 10)] [(h0, .inr (12, [v0, .ref h1])), (h1, .inr (10, [.ref h2, .ref h4, v1, .ref h5, .ref h3, .int (nI 0), .int (nI 0), .int (nI 60), .int (nI 0), v2, v3, .int (nI 0), .int (nI 0), .int (nI 0), .int (nI 0), v4, v5])), (h2, .inr (13, [.int (nI 0), v6, .int (nI 0)])), (h3, .inl (K 1, 20, .inl (fun _ => nI 0))), (h4, .inr (13, [v7, v8, .int (nI 1)])), (h5, .inr (13, [v9, v10, .int (nI 0)]))] sz (CQi (nI 0) D (fun u => [(h0, .inr (12, [v0, .ref h1])), (h3, .inl (K 1, 20, .inl (fun _ => nI 0))), ((u 1), .inr (14, [.int (nI 0), .int (-1), .int (nI 0), .ref h2])), ((u 2), .inr (14, [.int (nI 0), .int (-1), .int (nI 0), .ref (u 0)])), ((u 0), .inr (13, [.int (nI 0), .ref (G 0), .int (nI 0)])), ((u 3), .inl (K 2, 16, .inl (upd (upd (upd (upd (upd (upd (upd (upd (upd (upd (upd (upd (upd (upd (fun _ => nI 0) 2 (nI 1)) 3 (nI 0)) 4 (nI 0)) 5 (nI 0)) 6 (nI 60)) 7 (nI 0)) 8 (nI 1)) 9 (nI 0)) 10 (nI 0)) 11 (nI 0)) 12 (nI 0)) 13 (nI 0)) 14 (nI 0)) 15 (nI 0)))), ((u 4), .inr (14, [.int (nI 0), .int (-1), .int (nI 0), .ref h2])), (h4, .inr (13, [v7, v8, .int (nI 1)])), ((u 6), .inr (14, [.int (nI 0), .int (-1), .int (nI 0), .ref h2])), ((u 7), .inr (14, [.int (nI 0), .int (-1), .int (nI 0), .ref (u 5)])), ((u 5), .inr (13, [.int (nI 0), .ref (G 0), .int (nI 0)])), (h5, .inr (13, [v9, v10, .int (nI 0)])), (h1, .inr (10, [.ref h2, .ref h4, v1, .ref h5, .ref h3, .int (nI 0), .int (nI 0), .int (nI 60), .int (nI 0), v2, v3, .int (nI 0), .int (nI 0), .int (nI 0), .int (nI 0), v4, v5])), ((u 8), .inr (14, [.int (nI 0), .int (-1), .int (nI 0), .ref h2])), (h2, .inr (13, [.int (nI 0), v6, .int (nI 0)]))])) := by
  refine CM_of (lv0 := [(0, .ref h0), (1, .int (nI 10))]) pn_RX12 (Nat.le_of_ble_eq_true rfl) rfl (fun p e s m args below meth c A ls hx hb hr hml hown hts hlk hnm hP hK hD hS hA hm hl => ?_)
  have hown : s.vm.findClass RX12 = some m.cls := hown
  refine lv_iconst (v := nI 0) hx hb dX12_count_0 (by decide +kernel) ?_
  refine lv_istore_n (lv' := [(2, .int (nI 0)), (0, .ref h0), (1, .int (nI 10))]) hx hb dX12_count_1 rfl hl (by decide) rfl (fun ls hl => ?_)
  refine lv_aload_n hx hb dX12_count_2 rfl (lv_at hl 1 rfl) ?_
  refine r_get hx hb hts ok_RX12 hown hK hP 0 rfl rfl 1 (by decide) w_1294 (fun _ h9 => h9) rfl dX12_count_3 ?_
  refine lv_iconst (v := nI 3) hx hb dX12_count_6 (by decide +kernel) ?_
  refine k_q (wr := [(h0, .inr (12, [v0, .ref h1])), (h3, .inl (K 1, 20, .inl (fun _ => nI 0))), (h4, .inr (13, [v7, v8, .int (nI 1)])), (h5, .inr (13, [v9, v10, .int (nI 0)]))]) (run_V (rest := []) hx hb hml hown hts hK hP hD hS hA hm (C259_in l G D K s.heap.size h1 h2 (.ref h4) (v1) (.ref h5) (.ref h3) (.int (nI 0)) (.int (nI 0)) (.int (nI 60)) (.int (nI 0)) (v2) (v3) (.int (nI 0)) (.int (nI 0)) (.int (nI 0)) (.int (nI 0)) (v4) (v5) (v6)) [1, 2] rfl rfl mok_yX10_in w_2033 w_1368 w_1369 (rcv hK hP 1 rfl rfl rfl) ⟨Nat.le_of_ble_eq_true rfl, Nat.le_of_ble_eq_true rfl⟩ rfl hl.1 rfl (Nat.le_of_ble_eq_true rfl) dX12_count_7 ⟨(Nat.le_of_ble_eq_true rfl), (Nat.le_of_ble_eq_true rfl)⟩) hP hD hS hA [1, 2] [0, 3, 4, 5] rfl rfl rfl (by decide) (w2 := fun u0 => [(h0, .inr (12, [v0, .ref h1])), (h3, .inl (K 1, 20, .inl (fun _ => nI 0))), (h4, .inr (13, [v7, v8, .int (nI 1)])), (h5, .inr (13, [v9, v10, .int (nI 0)])), (h1, .inr (10, [.ref h2, .ref h4, v1, .ref h5, .ref h3, .int (nI 0), .int (nI 0), .int (nI 60), .int (nI 0), v2, v3, .int (nI 0), .int (nI 0), .int (nI 0), .int (nI 0), v4, v5])), ((u0 0), .inr (13, [.int (nI 0), .ref (G 0), .int (nI 0)])), ((u0 1), .inr (14, [.int (nI 0), .int (-1), .int (nI 0), .ref h2])), (h2, .inr (13, [.int (nI 0), v6, .int (nI 0)]))]) (fun _ => rfl) (fun u0 H locs hP hD hS => ?_)
  refine w_tov (y := .ref (u0 0)) rfl ?_
  refine k_q (wr := [(h0, .inr (12, [v0, .ref h1])), (h3, .inl (K 1, 20, .inl (fun _ => nI 0))), (h4, .inr (13, [v7, v8, .int (nI 1)])), (h5, .inr (13, [v9, v10, .int (nI 0)])), (h1, .inr (10, [.ref h2, .ref h4, v1, .ref h5, .ref h3, .int (nI 0), .int (nI 0), .int (nI 60), .int (nI 0), v2, v3, .int (nI 0), .int (nI 0), .int (nI 0), .int (nI 0), v4, v5])), ((u0 1), .inr (14, [.int (nI 0), .int (-1), .int (nI 0), .ref h2])), (h2, .inr (13, [.int (nI 0), v6, .int (nI 0)]))]) (run_V (rest := []) hx hb hml hown hts hK hP hD hS hA hm (C257_iterator l G D K H.size (u0 0) (.ref (G 0)) (.int (nI 0))) [5] rfl rfl mok_yJx4a65c_iterator_32c93 w_2034 w_1372 w_1373 (rcv hK hP 5 rfl rfl rfl) ⟨Nat.le_of_ble_eq_true rfl, Nat.le_of_ble_eq_true rfl⟩ rfl hl.1 rfl (Nat.le_of_ble_eq_true rfl) dX12_count_10 ⟨(Nat.le_of_ble_eq_true rfl), (Nat.le_of_ble_eq_true rfl)⟩) hP hD hS hA [5] [0, 1, 2, 3, 4, 6, 7] rfl rfl rfl (by decide) (w2 := fun u1 => [(h0, .inr (12, [v0, .ref h1])), (h3, .inl (K 1, 20, .inl (fun _ => nI 0))), (h4, .inr (13, [v7, v8, .int (nI 1)])), (h5, .inr (13, [v9, v10, .int (nI 0)])), (h1, .inr (10, [.ref h2, .ref h4, v1, .ref h5, .ref h3, .int (nI 0), .int (nI 0), .int (nI 60), .int (nI 0), v2, v3, .int (nI 0), .int (nI 0), .int (nI 0), .int (nI 0), v4, v5])), ((u0 1), .inr (14, [.int (nI 0), .int (-1), .int (nI 0), .ref h2])), (h2, .inr (13, [.int (nI 0), v6, .int (nI 0)])), ((u1 0), .inr (14, [.int (nI 0), .int (-1), .int (nI 0), .ref (u0 0)])), ((u0 0), .inr (13, [.int (nI 0), .ref (G 0), .int (nI 0)]))]) (fun _ => rfl) (fun u1 H locs hP hD hS => ?_)
  refine w_tov (y := .ref (u1 0)) rfl ?_
  refine lv_astore_n (lv' := [(3, .ref (u1 0)), (2, .int (nI 0)), (0, .ref h0), (1, .int (nI 10))]) hx hb dX12_count_13 rfl hl (by decide) rfl (fun ls hl => ?_)
  refine lv_aload_n hx hb dX12_count_14 rfl (lv_at hl 0 rfl) ?_
  refine k5_i (wr := [(h0, .inr (12, [v0, .ref h1])), (h3, .inl (K 1, 20, .inl (fun _ => nI 0))), (h4, .inr (13, [v7, v8, .int (nI 1)])), (h5, .inr (13, [v9, v10, .int (nI 0)])), (h1, .inr (10, [.ref h2, .ref h4, v1, .ref h5, .ref h3, .int (nI 0), .int (nI 0), .int (nI 60), .int (nI 0), v2, v3, .int (nI 0), .int (nI 0), .int (nI 0), .int (nI 0), v4, v5])), ((u0 1), .inr (14, [.int (nI 0), .int (-1), .int (nI 0), .ref h2])), (h2, .inr (13, [.int (nI 0), v6, .int (nI 0)]))]) (run_F (rest := []) hx hb hml hown hts hK hP hD hS hA hm (C258_hasNext l G D K H.size (u1 0) (u0 0) (.int (-1)) (.int (nI 0)) (.int (nI 0)) (.ref (G 0))) [7, 8] rfl rfl mok_yJx35411_hasNext_aae02 w_2036 w_1399 w_1401 hm.2.2.2.2.2.2.1 7 rfl rfl rfl (by decide +kernel) ⟨Nat.le_of_ble_eq_true rfl, Nat.le_of_ble_eq_true rfl⟩ rfl hl.1 rfl (Nat.le_of_ble_eq_true rfl) dX12_count_15 ⟨(Nat.le_of_ble_eq_true rfl), (Nat.le_of_ble_eq_true rfl)⟩) hP hD hS hA [7, 8] [0, 1, 2, 3, 4, 5, 6] rfl rfl rfl (by decide) (w2 := fun u2 => [(h0, .inr (12, [v0, .ref h1])), (h3, .inl (K 1, 20, .inl (fun _ => nI 0))), (h4, .inr (13, [v7, v8, .int (nI 1)])), (h5, .inr (13, [v9, v10, .int (nI 0)])), (h1, .inr (10, [.ref h2, .ref h4, v1, .ref h5, .ref h3, .int (nI 0), .int (nI 0), .int (nI 60), .int (nI 0), v2, v3, .int (nI 0), .int (nI 0), .int (nI 0), .int (nI 0), v4, v5])), ((u0 1), .inr (14, [.int (nI 0), .int (-1), .int (nI 0), .ref h2])), (h2, .inr (13, [.int (nI 0), v6, .int (nI 0)])), ((u1 0), .inr (14, [.int (nI 0), .int (-1), .int (nI 0), .ref (u0 0)])), ((u0 0), .inr (13, [.int (nI 0), .ref (G 0), .int (nI 0)]))]) (fun _ => rfl) (fun u2 H locs hP hD hS => ?_)
  refine lv_if_eq (tgt := 45) hx hb dX12_count_20 (by decide) (fun _ => ?_) (fun c9 => absurd (by decide +kernel) c9)
  refine lv_iconst (v := nI 0) hx hb dX12_count_45 (by decide +kernel) ?_
  refine lv_istore_n (lv' := [(3, .int (nI 0)), (2, .int (nI 0)), (0, .ref h0), (1, .int (nI 10))]) hx hb dX12_count_46 rfl hl (by decide) rfl (fun ls hl => ?_)
  refine lv_aload_n hx hb dX12_count_47 rfl (lv_at hl 2 rfl) ?_
  refine r_get hx hb hts ok_RX12 hown hK hP 0 rfl rfl 1 (by decide) w_1294 (fun _ h9 => h9) rfl dX12_count_48 ?_
  refine r_get hx hb hts ok_RX10 hown hK hP 4 rfl rfl 4 (by decide) w_1233 (fun _ h9 => h9) rfl dX12_count_51 ?_
  refine lv_astore (lv' := [(4, .ref h3), (3, .int (nI 0)), (2, .int (nI 0)), (0, .ref h0), (1, .int (nI 10))]) hx hb dX12_count_54 hl (by decide) rfl (fun ls hl => ?_)
  refine lv_aload hx hb dX12_count_56 (lv_at hl 0 rfl) ?_
  refine r_alen (n := 20) hx hb hK hP 1 1 rfl rfl rfl dX12_count_58 ?_
  refine lv_istore (lv' := [(5, .int (nI 20)), (4, .ref h3), (3, .int (nI 0)), (2, .int (nI 0)), (0, .ref h0), (1, .int (nI 10))]) hx hb dX12_count_59 hl (by decide) rfl (fun ls hl => ?_)
  refine lv_iconst (v := nI 0) hx hb dX12_count_61 (by decide +kernel) ?_
  refine lv_istore (lv' := [(6, .int (nI 0)), (5, .int (nI 20)), (4, .ref h3), (3, .int (nI 0)), (2, .int (nI 0)), (0, .ref h0), (1, .int (nI 10))]) hx hb dX12_count_62 hl (by decide) rfl (fun ls hl => ?_)
  refine lv_iload hx hb dX12_count_64 (lv_at hl 0 rfl) ?_
  refine lv_iload hx hb dX12_count_66 (lv_at hl 1 rfl) ?_
  refine lv_icmp_ge (tgt := 97) hx hb dX12_count_68 (by decide) (fun c9 => absurd c9 (by decide +kernel)) (fun _ => ?_)
  refine lv_aload hx hb dX12_count_71 (lv_at hl 2 rfl) ?_
  refine lv_iload hx hb dX12_count_73 (lv_at hl 0 rfl) ?_
  refine r_zald (k := 0) hx hb hK hP 1 1 rfl rfl (Nat.le_of_ble_eq_true rfl) (by decide) (v := nI 0) rfl dX12_count_75 ?_
  refine lv_istore (lv' := [(7, .int (nI 0)), (6, .int (nI 0)), (5, .int (nI 20)), (4, .ref h3), (3, .int (nI 0)), (2, .int (nI 0)), (0, .ref h0), (1, .int (nI 10))]) hx hb dX12_count_76 hl (by decide) rfl (fun ls hl => ?_)
  refine lv_iload_n hx hb dX12_count_78 rfl (lv_at hl 4 rfl) ?_
  refine lv_iload hx hb dX12_count_79 (lv_at hl 0 rfl) ?_
  refine lv_if_eq (tgt := 88) hx hb dX12_count_81 (by decide) (fun _ => ?_) (fun c9 => absurd (by decide +kernel) c9)
  refine lv_iconst (v := nI 0) hx hb dX12_count_88 (by decide +kernel) ?_
  refine lv_iadd hx hb dX12_count_89 ?_
  refine w_toeq (show (nI 0) + (nI 0) = nI 0 by decide +kernel) ?_
  refine lv_istore_n (lv' := [(3, .int (nI 0)), (7, .int (nI 0)), (6, .int (nI 0)), (5, .int (nI 20)), (4, .ref h3), (2, .int (nI 0)), (0, .ref h0), (1, .int (nI 10))]) hx hb dX12_count_90 rfl hl (by decide) rfl (fun ls hl => ?_)
  refine lv_iinc (v := nI 1) (lv' := [(6, .int (nI 1)), (3, .int (nI 0)), (7, .int (nI 0)), (5, .int (nI 20)), (4, .ref h3), (2, .int (nI 0)), (0, .ref h0), (1, .int (nI 10))]) hx hb dX12_count_91 hl (k := 2) rfl (by decide +kernel) (by decide) rfl (fun ls hl => ?_)
  refine lv_goto (tgt := 64) hx hb dX12_count_94 (by decide) ?_
  refine lv_iload hx hb dX12_count_64 (lv_at hl 0 rfl) ?_
  refine lv_iload hx hb dX12_count_66 (lv_at hl 3 rfl) ?_
  refine lv_icmp_ge (tgt := 97) hx hb dX12_count_68 (by decide) (fun c9 => absurd c9 (by decide +kernel)) (fun _ => ?_)
  refine lv_aload hx hb dX12_count_71 (lv_at hl 4 rfl) ?_
  refine lv_iload hx hb dX12_count_73 (lv_at hl 0 rfl) ?_
  refine r_zald (k := 1) hx hb hK hP 1 1 rfl rfl (Nat.le_of_ble_eq_true rfl) (by decide) (v := nI 0) rfl dX12_count_75 ?_
  refine lv_istore (lv' := [(7, .int (nI 0)), (6, .int (nI 1)), (3, .int (nI 0)), (5, .int (nI 20)), (4, .ref h3), (2, .int (nI 0)), (0, .ref h0), (1, .int (nI 10))]) hx hb dX12_count_76 hl (by decide) rfl (fun ls hl => ?_)
  refine lv_iload_n hx hb dX12_count_78 rfl (lv_at hl 2 rfl) ?_
  refine lv_iload hx hb dX12_count_79 (lv_at hl 0 rfl) ?_
  refine lv_if_eq (tgt := 88) hx hb dX12_count_81 (by decide) (fun _ => ?_) (fun c9 => absurd (by decide +kernel) c9)
  refine lv_iconst (v := nI 0) hx hb dX12_count_88 (by decide +kernel) ?_
  refine lv_iadd hx hb dX12_count_89 ?_
  refine w_toeq (show (nI 0) + (nI 0) = nI 0 by decide +kernel) ?_
  refine lv_istore_n (lv' := [(3, .int (nI 0)), (7, .int (nI 0)), (6, .int (nI 1)), (5, .int (nI 20)), (4, .ref h3), (2, .int (nI 0)), (0, .ref h0), (1, .int (nI 10))]) hx hb dX12_count_90 rfl hl (by decide) rfl (fun ls hl => ?_)
  refine lv_iinc (v := nI 2) (lv' := [(6, .int (nI 2)), (3, .int (nI 0)), (7, .int (nI 0)), (5, .int (nI 20)), (4, .ref h3), (2, .int (nI 0)), (0, .ref h0), (1, .int (nI 10))]) hx hb dX12_count_91 hl (k := 2) rfl (by decide +kernel) (by decide) rfl (fun ls hl => ?_)
  refine lv_goto (tgt := 64) hx hb dX12_count_94 (by decide) ?_
  refine lv_iload hx hb dX12_count_64 (lv_at hl 0 rfl) ?_
  refine lv_iload hx hb dX12_count_66 (lv_at hl 3 rfl) ?_
  refine lv_icmp_ge (tgt := 97) hx hb dX12_count_68 (by decide) (fun c9 => absurd c9 (by decide +kernel)) (fun _ => ?_)
  refine lv_aload hx hb dX12_count_71 (lv_at hl 4 rfl) ?_
  refine lv_iload hx hb dX12_count_73 (lv_at hl 0 rfl) ?_
  refine r_zald (k := 2) hx hb hK hP 1 1 rfl rfl (Nat.le_of_ble_eq_true rfl) (by decide) (v := nI 0) rfl dX12_count_75 ?_
  refine lv_istore (lv' := [(7, .int (nI 0)), (6, .int (nI 2)), (3, .int (nI 0)), (5, .int (nI 20)), (4, .ref h3), (2, .int (nI 0)), (0, .ref h0), (1, .int (nI 10))]) hx hb dX12_count_76 hl (by decide) rfl (fun ls hl => ?_)
  refine lv_iload_n hx hb dX12_count_78 rfl (lv_at hl 2 rfl) ?_
  refine lv_iload hx hb dX12_count_79 (lv_at hl 0 rfl) ?_
  refine lv_if_eq (tgt := 88) hx hb dX12_count_81 (by decide) (fun _ => ?_) (fun c9 => absurd (by decide +kernel) c9)
  refine lv_iconst (v := nI 0) hx hb dX12_count_88 (by decide +kernel) ?_
  refine lv_iadd hx hb dX12_count_89 ?_
  refine w_toeq (show (nI 0) + (nI 0) = nI 0 by decide +kernel) ?_
  refine lv_istore_n (lv' := [(3, .int (nI 0)), (7, .int (nI 0)), (6, .int (nI 2)), (5, .int (nI 20)), (4, .ref h3), (2, .int (nI 0)), (0, .ref h0), (1, .int (nI 10))]) hx hb dX12_count_90 rfl hl (by decide) rfl (fun ls hl => ?_)
  refine lv_iinc (v := nI 3) (lv' := [(6, .int (nI 3)), (3, .int (nI 0)), (7, .int (nI 0)), (5, .int (nI 20)), (4, .ref h3), (2, .int (nI 0)), (0, .ref h0), (1, .int (nI 10))]) hx hb dX12_count_91 hl (k := 2) rfl (by decide +kernel) (by decide) rfl (fun ls hl => ?_)
  refine lv_goto (tgt := 64) hx hb dX12_count_94 (by decide) ?_
  refine lv_iload hx hb dX12_count_64 (lv_at hl 0 rfl) ?_
  refine lv_iload hx hb dX12_count_66 (lv_at hl 3 rfl) ?_
  refine lv_icmp_ge (tgt := 97) hx hb dX12_count_68 (by decide) (fun c9 => absurd c9 (by decide +kernel)) (fun _ => ?_)
  refine lv_aload hx hb dX12_count_71 (lv_at hl 4 rfl) ?_
  refine lv_iload hx hb dX12_count_73 (lv_at hl 0 rfl) ?_
  refine r_zald (k := 3) hx hb hK hP 1 1 rfl rfl (Nat.le_of_ble_eq_true rfl) (by decide) (v := nI 0) rfl dX12_count_75 ?_
  refine lv_istore (lv' := [(7, .int (nI 0)), (6, .int (nI 3)), (3, .int (nI 0)), (5, .int (nI 20)), (4, .ref h3), (2, .int (nI 0)), (0, .ref h0), (1, .int (nI 10))]) hx hb dX12_count_76 hl (by decide) rfl (fun ls hl => ?_)
  refine lv_iload_n hx hb dX12_count_78 rfl (lv_at hl 2 rfl) ?_
  refine lv_iload hx hb dX12_count_79 (lv_at hl 0 rfl) ?_
  refine lv_if_eq (tgt := 88) hx hb dX12_count_81 (by decide) (fun _ => ?_) (fun c9 => absurd (by decide +kernel) c9)
  refine lv_iconst (v := nI 0) hx hb dX12_count_88 (by decide +kernel) ?_
  refine lv_iadd hx hb dX12_count_89 ?_
  refine w_toeq (show (nI 0) + (nI 0) = nI 0 by decide +kernel) ?_
  refine lv_istore_n (lv' := [(3, .int (nI 0)), (7, .int (nI 0)), (6, .int (nI 3)), (5, .int (nI 20)), (4, .ref h3), (2, .int (nI 0)), (0, .ref h0), (1, .int (nI 10))]) hx hb dX12_count_90 rfl hl (by decide) rfl (fun ls hl => ?_)
  refine lv_iinc (v := nI 4) (lv' := [(6, .int (nI 4)), (3, .int (nI 0)), (7, .int (nI 0)), (5, .int (nI 20)), (4, .ref h3), (2, .int (nI 0)), (0, .ref h0), (1, .int (nI 10))]) hx hb dX12_count_91 hl (k := 2) rfl (by decide +kernel) (by decide) rfl (fun ls hl => ?_)
  refine lv_goto (tgt := 64) hx hb dX12_count_94 (by decide) ?_
  refine lv_iload hx hb dX12_count_64 (lv_at hl 0 rfl) ?_
  refine lv_iload hx hb dX12_count_66 (lv_at hl 3 rfl) ?_
  refine lv_icmp_ge (tgt := 97) hx hb dX12_count_68 (by decide) (fun c9 => absurd c9 (by decide +kernel)) (fun _ => ?_)
  refine lv_aload hx hb dX12_count_71 (lv_at hl 4 rfl) ?_
  refine lv_iload hx hb dX12_count_73 (lv_at hl 0 rfl) ?_
  refine r_zald (k := 4) hx hb hK hP 1 1 rfl rfl (Nat.le_of_ble_eq_true rfl) (by decide) (v := nI 0) rfl dX12_count_75 ?_
  refine lv_istore (lv' := [(7, .int (nI 0)), (6, .int (nI 4)), (3, .int (nI 0)), (5, .int (nI 20)), (4, .ref h3), (2, .int (nI 0)), (0, .ref h0), (1, .int (nI 10))]) hx hb dX12_count_76 hl (by decide) rfl (fun ls hl => ?_)
  refine lv_iload_n hx hb dX12_count_78 rfl (lv_at hl 2 rfl) ?_
  refine lv_iload hx hb dX12_count_79 (lv_at hl 0 rfl) ?_
  refine lv_if_eq (tgt := 88) hx hb dX12_count_81 (by decide) (fun _ => ?_) (fun c9 => absurd (by decide +kernel) c9)
  refine lv_iconst (v := nI 0) hx hb dX12_count_88 (by decide +kernel) ?_
  refine lv_iadd hx hb dX12_count_89 ?_
  refine w_toeq (show (nI 0) + (nI 0) = nI 0 by decide +kernel) ?_
  refine lv_istore_n (lv' := [(3, .int (nI 0)), (7, .int (nI 0)), (6, .int (nI 4)), (5, .int (nI 20)), (4, .ref h3), (2, .int (nI 0)), (0, .ref h0), (1, .int (nI 10))]) hx hb dX12_count_90 rfl hl (by decide) rfl (fun ls hl => ?_)
  refine lv_iinc (v := nI 5) (lv' := [(6, .int (nI 5)), (3, .int (nI 0)), (7, .int (nI 0)), (5, .int (nI 20)), (4, .ref h3), (2, .int (nI 0)), (0, .ref h0), (1, .int (nI 10))]) hx hb dX12_count_91 hl (k := 2) rfl (by decide +kernel) (by decide) rfl (fun ls hl => ?_)
  refine lv_goto (tgt := 64) hx hb dX12_count_94 (by decide) ?_
  refine lv_iload hx hb dX12_count_64 (lv_at hl 0 rfl) ?_
  refine lv_iload hx hb dX12_count_66 (lv_at hl 3 rfl) ?_
  refine lv_icmp_ge (tgt := 97) hx hb dX12_count_68 (by decide) (fun c9 => absurd c9 (by decide +kernel)) (fun _ => ?_)
  refine lv_aload hx hb dX12_count_71 (lv_at hl 4 rfl) ?_
  refine lv_iload hx hb dX12_count_73 (lv_at hl 0 rfl) ?_
  refine r_zald (k := 5) hx hb hK hP 1 1 rfl rfl (Nat.le_of_ble_eq_true rfl) (by decide) (v := nI 0) rfl dX12_count_75 ?_
  refine lv_istore (lv' := [(7, .int (nI 0)), (6, .int (nI 5)), (3, .int (nI 0)), (5, .int (nI 20)), (4, .ref h3), (2, .int (nI 0)), (0, .ref h0), (1, .int (nI 10))]) hx hb dX12_count_76 hl (by decide) rfl (fun ls hl => ?_)
  refine lv_iload_n hx hb dX12_count_78 rfl (lv_at hl 2 rfl) ?_
  refine lv_iload hx hb dX12_count_79 (lv_at hl 0 rfl) ?_
  refine lv_if_eq (tgt := 88) hx hb dX12_count_81 (by decide) (fun _ => ?_) (fun c9 => absurd (by decide +kernel) c9)
  refine lv_iconst (v := nI 0) hx hb dX12_count_88 (by decide +kernel) ?_
  refine lv_iadd hx hb dX12_count_89 ?_
  refine w_toeq (show (nI 0) + (nI 0) = nI 0 by decide +kernel) ?_
  refine lv_istore_n (lv' := [(3, .int (nI 0)), (7, .int (nI 0)), (6, .int (nI 5)), (5, .int (nI 20)), (4, .ref h3), (2, .int (nI 0)), (0, .ref h0), (1, .int (nI 10))]) hx hb dX12_count_90 rfl hl (by decide) rfl (fun ls hl => ?_)
  refine lv_iinc (v := nI 6) (lv' := [(6, .int (nI 6)), (3, .int (nI 0)), (7, .int (nI 0)), (5, .int (nI 20)), (4, .ref h3), (2, .int (nI 0)), (0, .ref h0), (1, .int (nI 10))]) hx hb dX12_count_91 hl (k := 2) rfl (by decide +kernel) (by decide) rfl (fun ls hl => ?_)
  refine lv_goto (tgt := 64) hx hb dX12_count_94 (by decide) ?_
  refine lv_iload hx hb dX12_count_64 (lv_at hl 0 rfl) ?_
  refine lv_iload hx hb dX12_count_66 (lv_at hl 3 rfl) ?_
  refine lv_icmp_ge (tgt := 97) hx hb dX12_count_68 (by decide) (fun c9 => absurd c9 (by decide +kernel)) (fun _ => ?_)
  refine lv_aload hx hb dX12_count_71 (lv_at hl 4 rfl) ?_
  refine lv_iload hx hb dX12_count_73 (lv_at hl 0 rfl) ?_
  refine r_zald (k := 6) hx hb hK hP 1 1 rfl rfl (Nat.le_of_ble_eq_true rfl) (by decide) (v := nI 0) rfl dX12_count_75 ?_
  refine lv_istore (lv' := [(7, .int (nI 0)), (6, .int (nI 6)), (3, .int (nI 0)), (5, .int (nI 20)), (4, .ref h3), (2, .int (nI 0)), (0, .ref h0), (1, .int (nI 10))]) hx hb dX12_count_76 hl (by decide) rfl (fun ls hl => ?_)
  refine lv_iload_n hx hb dX12_count_78 rfl (lv_at hl 2 rfl) ?_
  refine lv_iload hx hb dX12_count_79 (lv_at hl 0 rfl) ?_
  refine lv_if_eq (tgt := 88) hx hb dX12_count_81 (by decide) (fun _ => ?_) (fun c9 => absurd (by decide +kernel) c9)
  refine lv_iconst (v := nI 0) hx hb dX12_count_88 (by decide +kernel) ?_
  refine lv_iadd hx hb dX12_count_89 ?_
  refine w_toeq (show (nI 0) + (nI 0) = nI 0 by decide +kernel) ?_
  refine lv_istore_n (lv' := [(3, .int (nI 0)), (7, .int (nI 0)), (6, .int (nI 6)), (5, .int (nI 20)), (4, .ref h3), (2, .int (nI 0)), (0, .ref h0), (1, .int (nI 10))]) hx hb dX12_count_90 rfl hl (by decide) rfl (fun ls hl => ?_)
  refine lv_iinc (v := nI 7) (lv' := [(6, .int (nI 7)), (3, .int (nI 0)), (7, .int (nI 0)), (5, .int (nI 20)), (4, .ref h3), (2, .int (nI 0)), (0, .ref h0), (1, .int (nI 10))]) hx hb dX12_count_91 hl (k := 2) rfl (by decide +kernel) (by decide) rfl (fun ls hl => ?_)
  refine lv_goto (tgt := 64) hx hb dX12_count_94 (by decide) ?_
  refine lv_iload hx hb dX12_count_64 (lv_at hl 0 rfl) ?_
  refine lv_iload hx hb dX12_count_66 (lv_at hl 3 rfl) ?_
  refine lv_icmp_ge (tgt := 97) hx hb dX12_count_68 (by decide) (fun c9 => absurd c9 (by decide +kernel)) (fun _ => ?_)
  refine lv_aload hx hb dX12_count_71 (lv_at hl 4 rfl) ?_
  refine lv_iload hx hb dX12_count_73 (lv_at hl 0 rfl) ?_
  refine r_zald (k := 7) hx hb hK hP 1 1 rfl rfl (Nat.le_of_ble_eq_true rfl) (by decide) (v := nI 0) rfl dX12_count_75 ?_
  refine lv_istore (lv' := [(7, .int (nI 0)), (6, .int (nI 7)), (3, .int (nI 0)), (5, .int (nI 20)), (4, .ref h3), (2, .int (nI 0)), (0, .ref h0), (1, .int (nI 10))]) hx hb dX12_count_76 hl (by decide) rfl (fun ls hl => ?_)
  refine lv_iload_n hx hb dX12_count_78 rfl (lv_at hl 2 rfl) ?_
  refine lv_iload hx hb dX12_count_79 (lv_at hl 0 rfl) ?_
  refine lv_if_eq (tgt := 88) hx hb dX12_count_81 (by decide) (fun _ => ?_) (fun c9 => absurd (by decide +kernel) c9)
  refine lv_iconst (v := nI 0) hx hb dX12_count_88 (by decide +kernel) ?_
  refine lv_iadd hx hb dX12_count_89 ?_
  refine w_toeq (show (nI 0) + (nI 0) = nI 0 by decide +kernel) ?_
  refine lv_istore_n (lv' := [(3, .int (nI 0)), (7, .int (nI 0)), (6, .int (nI 7)), (5, .int (nI 20)), (4, .ref h3), (2, .int (nI 0)), (0, .ref h0), (1, .int (nI 10))]) hx hb dX12_count_90 rfl hl (by decide) rfl (fun ls hl => ?_)
  refine lv_iinc (v := nI 8) (lv' := [(6, .int (nI 8)), (3, .int (nI 0)), (7, .int (nI 0)), (5, .int (nI 20)), (4, .ref h3), (2, .int (nI 0)), (0, .ref h0), (1, .int (nI 10))]) hx hb dX12_count_91 hl (k := 2) rfl (by decide +kernel) (by decide) rfl (fun ls hl => ?_)
  refine lv_goto (tgt := 64) hx hb dX12_count_94 (by decide) ?_
  refine lv_iload hx hb dX12_count_64 (lv_at hl 0 rfl) ?_
  refine lv_iload hx hb dX12_count_66 (lv_at hl 3 rfl) ?_
  refine lv_icmp_ge (tgt := 97) hx hb dX12_count_68 (by decide) (fun c9 => absurd c9 (by decide +kernel)) (fun _ => ?_)
  refine lv_aload hx hb dX12_count_71 (lv_at hl 4 rfl) ?_
  refine lv_iload hx hb dX12_count_73 (lv_at hl 0 rfl) ?_
  refine r_zald (k := 8) hx hb hK hP 1 1 rfl rfl (Nat.le_of_ble_eq_true rfl) (by decide) (v := nI 0) rfl dX12_count_75 ?_
  refine lv_istore (lv' := [(7, .int (nI 0)), (6, .int (nI 8)), (3, .int (nI 0)), (5, .int (nI 20)), (4, .ref h3), (2, .int (nI 0)), (0, .ref h0), (1, .int (nI 10))]) hx hb dX12_count_76 hl (by decide) rfl (fun ls hl => ?_)
  refine lv_iload_n hx hb dX12_count_78 rfl (lv_at hl 2 rfl) ?_
  refine lv_iload hx hb dX12_count_79 (lv_at hl 0 rfl) ?_
  refine lv_if_eq (tgt := 88) hx hb dX12_count_81 (by decide) (fun _ => ?_) (fun c9 => absurd (by decide +kernel) c9)
  refine lv_iconst (v := nI 0) hx hb dX12_count_88 (by decide +kernel) ?_
  refine lv_iadd hx hb dX12_count_89 ?_
  refine w_toeq (show (nI 0) + (nI 0) = nI 0 by decide +kernel) ?_
  refine lv_istore_n (lv' := [(3, .int (nI 0)), (7, .int (nI 0)), (6, .int (nI 8)), (5, .int (nI 20)), (4, .ref h3), (2, .int (nI 0)), (0, .ref h0), (1, .int (nI 10))]) hx hb dX12_count_90 rfl hl (by decide) rfl (fun ls hl => ?_)
  refine lv_iinc (v := nI 9) (lv' := [(6, .int (nI 9)), (3, .int (nI 0)), (7, .int (nI 0)), (5, .int (nI 20)), (4, .ref h3), (2, .int (nI 0)), (0, .ref h0), (1, .int (nI 10))]) hx hb dX12_count_91 hl (k := 2) rfl (by decide +kernel) (by decide) rfl (fun ls hl => ?_)
  refine lv_goto (tgt := 64) hx hb dX12_count_94 (by decide) ?_
  refine lv_iload hx hb dX12_count_64 (lv_at hl 0 rfl) ?_
  refine lv_iload hx hb dX12_count_66 (lv_at hl 3 rfl) ?_
  refine lv_icmp_ge (tgt := 97) hx hb dX12_count_68 (by decide) (fun c9 => absurd c9 (by decide +kernel)) (fun _ => ?_)
  refine lv_aload hx hb dX12_count_71 (lv_at hl 4 rfl) ?_
  refine lv_iload hx hb dX12_count_73 (lv_at hl 0 rfl) ?_
  refine r_zald (k := 9) hx hb hK hP 1 1 rfl rfl (Nat.le_of_ble_eq_true rfl) (by decide) (v := nI 0) rfl dX12_count_75 ?_
  refine lv_istore (lv' := [(7, .int (nI 0)), (6, .int (nI 9)), (3, .int (nI 0)), (5, .int (nI 20)), (4, .ref h3), (2, .int (nI 0)), (0, .ref h0), (1, .int (nI 10))]) hx hb dX12_count_76 hl (by decide) rfl (fun ls hl => ?_)
  refine lv_iload_n hx hb dX12_count_78 rfl (lv_at hl 2 rfl) ?_
  refine lv_iload hx hb dX12_count_79 (lv_at hl 0 rfl) ?_
  refine lv_if_eq (tgt := 88) hx hb dX12_count_81 (by decide) (fun _ => ?_) (fun c9 => absurd (by decide +kernel) c9)
  refine lv_iconst (v := nI 0) hx hb dX12_count_88 (by decide +kernel) ?_
  refine lv_iadd hx hb dX12_count_89 ?_
  refine w_toeq (show (nI 0) + (nI 0) = nI 0 by decide +kernel) ?_
  refine lv_istore_n (lv' := [(3, .int (nI 0)), (7, .int (nI 0)), (6, .int (nI 9)), (5, .int (nI 20)), (4, .ref h3), (2, .int (nI 0)), (0, .ref h0), (1, .int (nI 10))]) hx hb dX12_count_90 rfl hl (by decide) rfl (fun ls hl => ?_)
  refine lv_iinc (v := nI 10) (lv' := [(6, .int (nI 10)), (3, .int (nI 0)), (7, .int (nI 0)), (5, .int (nI 20)), (4, .ref h3), (2, .int (nI 0)), (0, .ref h0), (1, .int (nI 10))]) hx hb dX12_count_91 hl (k := 2) rfl (by decide +kernel) (by decide) rfl (fun ls hl => ?_)
  refine lv_goto (tgt := 64) hx hb dX12_count_94 (by decide) ?_
  refine lv_iload hx hb dX12_count_64 (lv_at hl 0 rfl) ?_
  refine lv_iload hx hb dX12_count_66 (lv_at hl 3 rfl) ?_
  refine lv_icmp_ge (tgt := 97) hx hb dX12_count_68 (by decide) (fun c9 => absurd c9 (by decide +kernel)) (fun _ => ?_)
  refine lv_aload hx hb dX12_count_71 (lv_at hl 4 rfl) ?_
  refine lv_iload hx hb dX12_count_73 (lv_at hl 0 rfl) ?_
  refine r_zald (k := 10) hx hb hK hP 1 1 rfl rfl (Nat.le_of_ble_eq_true rfl) (by decide) (v := nI 0) rfl dX12_count_75 ?_
  refine lv_istore (lv' := [(7, .int (nI 0)), (6, .int (nI 10)), (3, .int (nI 0)), (5, .int (nI 20)), (4, .ref h3), (2, .int (nI 0)), (0, .ref h0), (1, .int (nI 10))]) hx hb dX12_count_76 hl (by decide) rfl (fun ls hl => ?_)
  refine lv_iload_n hx hb dX12_count_78 rfl (lv_at hl 2 rfl) ?_
  refine lv_iload hx hb dX12_count_79 (lv_at hl 0 rfl) ?_
  refine lv_if_eq (tgt := 88) hx hb dX12_count_81 (by decide) (fun _ => ?_) (fun c9 => absurd (by decide +kernel) c9)
  refine lv_iconst (v := nI 0) hx hb dX12_count_88 (by decide +kernel) ?_
  refine lv_iadd hx hb dX12_count_89 ?_
  refine w_toeq (show (nI 0) + (nI 0) = nI 0 by decide +kernel) ?_
  refine lv_istore_n (lv' := [(3, .int (nI 0)), (7, .int (nI 0)), (6, .int (nI 10)), (5, .int (nI 20)), (4, .ref h3), (2, .int (nI 0)), (0, .ref h0), (1, .int (nI 10))]) hx hb dX12_count_90 rfl hl (by decide) rfl (fun ls hl => ?_)
  refine lv_iinc (v := nI 11) (lv' := [(6, .int (nI 11)), (3, .int (nI 0)), (7, .int (nI 0)), (5, .int (nI 20)), (4, .ref h3), (2, .int (nI 0)), (0, .ref h0), (1, .int (nI 10))]) hx hb dX12_count_91 hl (k := 2) rfl (by decide +kernel) (by decide) rfl (fun ls hl => ?_)
  refine lv_goto (tgt := 64) hx hb dX12_count_94 (by decide) ?_
  refine lv_iload hx hb dX12_count_64 (lv_at hl 0 rfl) ?_
  refine lv_iload hx hb dX12_count_66 (lv_at hl 3 rfl) ?_
  refine lv_icmp_ge (tgt := 97) hx hb dX12_count_68 (by decide) (fun c9 => absurd c9 (by decide +kernel)) (fun _ => ?_)
  refine lv_aload hx hb dX12_count_71 (lv_at hl 4 rfl) ?_
  refine lv_iload hx hb dX12_count_73 (lv_at hl 0 rfl) ?_
  refine r_zald (k := 11) hx hb hK hP 1 1 rfl rfl (Nat.le_of_ble_eq_true rfl) (by decide) (v := nI 0) rfl dX12_count_75 ?_
  refine lv_istore (lv' := [(7, .int (nI 0)), (6, .int (nI 11)), (3, .int (nI 0)), (5, .int (nI 20)), (4, .ref h3), (2, .int (nI 0)), (0, .ref h0), (1, .int (nI 10))]) hx hb dX12_count_76 hl (by decide) rfl (fun ls hl => ?_)
  refine lv_iload_n hx hb dX12_count_78 rfl (lv_at hl 2 rfl) ?_
  refine lv_iload hx hb dX12_count_79 (lv_at hl 0 rfl) ?_
  refine lv_if_eq (tgt := 88) hx hb dX12_count_81 (by decide) (fun _ => ?_) (fun c9 => absurd (by decide +kernel) c9)
  refine lv_iconst (v := nI 0) hx hb dX12_count_88 (by decide +kernel) ?_
  refine lv_iadd hx hb dX12_count_89 ?_
  refine w_toeq (show (nI 0) + (nI 0) = nI 0 by decide +kernel) ?_
  refine lv_istore_n (lv' := [(3, .int (nI 0)), (7, .int (nI 0)), (6, .int (nI 11)), (5, .int (nI 20)), (4, .ref h3), (2, .int (nI 0)), (0, .ref h0), (1, .int (nI 10))]) hx hb dX12_count_90 rfl hl (by decide) rfl (fun ls hl => ?_)
  refine lv_iinc (v := nI 12) (lv' := [(6, .int (nI 12)), (3, .int (nI 0)), (7, .int (nI 0)), (5, .int (nI 20)), (4, .ref h3), (2, .int (nI 0)), (0, .ref h0), (1, .int (nI 10))]) hx hb dX12_count_91 hl (k := 2) rfl (by decide +kernel) (by decide) rfl (fun ls hl => ?_)
  refine lv_goto (tgt := 64) hx hb dX12_count_94 (by decide) ?_
  refine lv_iload hx hb dX12_count_64 (lv_at hl 0 rfl) ?_
  refine lv_iload hx hb dX12_count_66 (lv_at hl 3 rfl) ?_
  refine lv_icmp_ge (tgt := 97) hx hb dX12_count_68 (by decide) (fun c9 => absurd c9 (by decide +kernel)) (fun _ => ?_)
  refine lv_aload hx hb dX12_count_71 (lv_at hl 4 rfl) ?_
  refine lv_iload hx hb dX12_count_73 (lv_at hl 0 rfl) ?_
  refine r_zald (k := 12) hx hb hK hP 1 1 rfl rfl (Nat.le_of_ble_eq_true rfl) (by decide) (v := nI 0) rfl dX12_count_75 ?_
  refine lv_istore (lv' := [(7, .int (nI 0)), (6, .int (nI 12)), (3, .int (nI 0)), (5, .int (nI 20)), (4, .ref h3), (2, .int (nI 0)), (0, .ref h0), (1, .int (nI 10))]) hx hb dX12_count_76 hl (by decide) rfl (fun ls hl => ?_)
  refine lv_iload_n hx hb dX12_count_78 rfl (lv_at hl 2 rfl) ?_
  refine lv_iload hx hb dX12_count_79 (lv_at hl 0 rfl) ?_
  refine lv_if_eq (tgt := 88) hx hb dX12_count_81 (by decide) (fun _ => ?_) (fun c9 => absurd (by decide +kernel) c9)
  refine lv_iconst (v := nI 0) hx hb dX12_count_88 (by decide +kernel) ?_
  refine lv_iadd hx hb dX12_count_89 ?_
  refine w_toeq (show (nI 0) + (nI 0) = nI 0 by decide +kernel) ?_
  refine lv_istore_n (lv' := [(3, .int (nI 0)), (7, .int (nI 0)), (6, .int (nI 12)), (5, .int (nI 20)), (4, .ref h3), (2, .int (nI 0)), (0, .ref h0), (1, .int (nI 10))]) hx hb dX12_count_90 rfl hl (by decide) rfl (fun ls hl => ?_)
  refine lv_iinc (v := nI 13) (lv' := [(6, .int (nI 13)), (3, .int (nI 0)), (7, .int (nI 0)), (5, .int (nI 20)), (4, .ref h3), (2, .int (nI 0)), (0, .ref h0), (1, .int (nI 10))]) hx hb dX12_count_91 hl (k := 2) rfl (by decide +kernel) (by decide) rfl (fun ls hl => ?_)
  refine lv_goto (tgt := 64) hx hb dX12_count_94 (by decide) ?_
  refine lv_iload hx hb dX12_count_64 (lv_at hl 0 rfl) ?_
  refine lv_iload hx hb dX12_count_66 (lv_at hl 3 rfl) ?_
  refine lv_icmp_ge (tgt := 97) hx hb dX12_count_68 (by decide) (fun c9 => absurd c9 (by decide +kernel)) (fun _ => ?_)
  refine lv_aload hx hb dX12_count_71 (lv_at hl 4 rfl) ?_
  refine lv_iload hx hb dX12_count_73 (lv_at hl 0 rfl) ?_
  refine r_zald (k := 13) hx hb hK hP 1 1 rfl rfl (Nat.le_of_ble_eq_true rfl) (by decide) (v := nI 0) rfl dX12_count_75 ?_
  refine lv_istore (lv' := [(7, .int (nI 0)), (6, .int (nI 13)), (3, .int (nI 0)), (5, .int (nI 20)), (4, .ref h3), (2, .int (nI 0)), (0, .ref h0), (1, .int (nI 10))]) hx hb dX12_count_76 hl (by decide) rfl (fun ls hl => ?_)
  refine lv_iload_n hx hb dX12_count_78 rfl (lv_at hl 2 rfl) ?_
  refine lv_iload hx hb dX12_count_79 (lv_at hl 0 rfl) ?_
  refine lv_if_eq (tgt := 88) hx hb dX12_count_81 (by decide) (fun _ => ?_) (fun c9 => absurd (by decide +kernel) c9)
  refine lv_iconst (v := nI 0) hx hb dX12_count_88 (by decide +kernel) ?_
  refine lv_iadd hx hb dX12_count_89 ?_
  refine w_toeq (show (nI 0) + (nI 0) = nI 0 by decide +kernel) ?_
  refine lv_istore_n (lv' := [(3, .int (nI 0)), (7, .int (nI 0)), (6, .int (nI 13)), (5, .int (nI 20)), (4, .ref h3), (2, .int (nI 0)), (0, .ref h0), (1, .int (nI 10))]) hx hb dX12_count_90 rfl hl (by decide) rfl (fun ls hl => ?_)
  refine lv_iinc (v := nI 14) (lv' := [(6, .int (nI 14)), (3, .int (nI 0)), (7, .int (nI 0)), (5, .int (nI 20)), (4, .ref h3), (2, .int (nI 0)), (0, .ref h0), (1, .int (nI 10))]) hx hb dX12_count_91 hl (k := 2) rfl (by decide +kernel) (by decide) rfl (fun ls hl => ?_)
  refine lv_goto (tgt := 64) hx hb dX12_count_94 (by decide) ?_
  refine lv_iload hx hb dX12_count_64 (lv_at hl 0 rfl) ?_
  refine lv_iload hx hb dX12_count_66 (lv_at hl 3 rfl) ?_
  refine lv_icmp_ge (tgt := 97) hx hb dX12_count_68 (by decide) (fun c9 => absurd c9 (by decide +kernel)) (fun _ => ?_)
  refine lv_aload hx hb dX12_count_71 (lv_at hl 4 rfl) ?_
  refine lv_iload hx hb dX12_count_73 (lv_at hl 0 rfl) ?_
  refine r_zald (k := 14) hx hb hK hP 1 1 rfl rfl (Nat.le_of_ble_eq_true rfl) (by decide) (v := nI 0) rfl dX12_count_75 ?_
  refine lv_istore (lv' := [(7, .int (nI 0)), (6, .int (nI 14)), (3, .int (nI 0)), (5, .int (nI 20)), (4, .ref h3), (2, .int (nI 0)), (0, .ref h0), (1, .int (nI 10))]) hx hb dX12_count_76 hl (by decide) rfl (fun ls hl => ?_)
  refine lv_iload_n hx hb dX12_count_78 rfl (lv_at hl 2 rfl) ?_
  refine lv_iload hx hb dX12_count_79 (lv_at hl 0 rfl) ?_
  refine lv_if_eq (tgt := 88) hx hb dX12_count_81 (by decide) (fun _ => ?_) (fun c9 => absurd (by decide +kernel) c9)
  refine lv_iconst (v := nI 0) hx hb dX12_count_88 (by decide +kernel) ?_
  refine lv_iadd hx hb dX12_count_89 ?_
  refine w_toeq (show (nI 0) + (nI 0) = nI 0 by decide +kernel) ?_
  refine lv_istore_n (lv' := [(3, .int (nI 0)), (7, .int (nI 0)), (6, .int (nI 14)), (5, .int (nI 20)), (4, .ref h3), (2, .int (nI 0)), (0, .ref h0), (1, .int (nI 10))]) hx hb dX12_count_90 rfl hl (by decide) rfl (fun ls hl => ?_)
  refine lv_iinc (v := nI 15) (lv' := [(6, .int (nI 15)), (3, .int (nI 0)), (7, .int (nI 0)), (5, .int (nI 20)), (4, .ref h3), (2, .int (nI 0)), (0, .ref h0), (1, .int (nI 10))]) hx hb dX12_count_91 hl (k := 2) rfl (by decide +kernel) (by decide) rfl (fun ls hl => ?_)
  refine lv_goto (tgt := 64) hx hb dX12_count_94 (by decide) ?_
  refine lv_iload hx hb dX12_count_64 (lv_at hl 0 rfl) ?_
  refine lv_iload hx hb dX12_count_66 (lv_at hl 3 rfl) ?_
  refine lv_icmp_ge (tgt := 97) hx hb dX12_count_68 (by decide) (fun c9 => absurd c9 (by decide +kernel)) (fun _ => ?_)
  refine lv_aload hx hb dX12_count_71 (lv_at hl 4 rfl) ?_
  refine lv_iload hx hb dX12_count_73 (lv_at hl 0 rfl) ?_
  refine r_zald (k := 15) hx hb hK hP 1 1 rfl rfl (Nat.le_of_ble_eq_true rfl) (by decide) (v := nI 0) rfl dX12_count_75 ?_
  refine lv_istore (lv' := [(7, .int (nI 0)), (6, .int (nI 15)), (3, .int (nI 0)), (5, .int (nI 20)), (4, .ref h3), (2, .int (nI 0)), (0, .ref h0), (1, .int (nI 10))]) hx hb dX12_count_76 hl (by decide) rfl (fun ls hl => ?_)
  refine lv_iload_n hx hb dX12_count_78 rfl (lv_at hl 2 rfl) ?_
  refine lv_iload hx hb dX12_count_79 (lv_at hl 0 rfl) ?_
  refine lv_if_eq (tgt := 88) hx hb dX12_count_81 (by decide) (fun _ => ?_) (fun c9 => absurd (by decide +kernel) c9)
  refine lv_iconst (v := nI 0) hx hb dX12_count_88 (by decide +kernel) ?_
  refine lv_iadd hx hb dX12_count_89 ?_
  refine w_toeq (show (nI 0) + (nI 0) = nI 0 by decide +kernel) ?_
  refine lv_istore_n (lv' := [(3, .int (nI 0)), (7, .int (nI 0)), (6, .int (nI 15)), (5, .int (nI 20)), (4, .ref h3), (2, .int (nI 0)), (0, .ref h0), (1, .int (nI 10))]) hx hb dX12_count_90 rfl hl (by decide) rfl (fun ls hl => ?_)
  refine lv_iinc (v := nI 16) (lv' := [(6, .int (nI 16)), (3, .int (nI 0)), (7, .int (nI 0)), (5, .int (nI 20)), (4, .ref h3), (2, .int (nI 0)), (0, .ref h0), (1, .int (nI 10))]) hx hb dX12_count_91 hl (k := 2) rfl (by decide +kernel) (by decide) rfl (fun ls hl => ?_)
  refine lv_goto (tgt := 64) hx hb dX12_count_94 (by decide) ?_
  refine lv_iload hx hb dX12_count_64 (lv_at hl 0 rfl) ?_
  refine lv_iload hx hb dX12_count_66 (lv_at hl 3 rfl) ?_
  refine lv_icmp_ge (tgt := 97) hx hb dX12_count_68 (by decide) (fun c9 => absurd c9 (by decide +kernel)) (fun _ => ?_)
  refine lv_aload hx hb dX12_count_71 (lv_at hl 4 rfl) ?_
  refine lv_iload hx hb dX12_count_73 (lv_at hl 0 rfl) ?_
  refine r_zald (k := 16) hx hb hK hP 1 1 rfl rfl (Nat.le_of_ble_eq_true rfl) (by decide) (v := nI 0) rfl dX12_count_75 ?_
  refine lv_istore (lv' := [(7, .int (nI 0)), (6, .int (nI 16)), (3, .int (nI 0)), (5, .int (nI 20)), (4, .ref h3), (2, .int (nI 0)), (0, .ref h0), (1, .int (nI 10))]) hx hb dX12_count_76 hl (by decide) rfl (fun ls hl => ?_)
  refine lv_iload_n hx hb dX12_count_78 rfl (lv_at hl 2 rfl) ?_
  refine lv_iload hx hb dX12_count_79 (lv_at hl 0 rfl) ?_
  refine lv_if_eq (tgt := 88) hx hb dX12_count_81 (by decide) (fun _ => ?_) (fun c9 => absurd (by decide +kernel) c9)
  refine lv_iconst (v := nI 0) hx hb dX12_count_88 (by decide +kernel) ?_
  refine lv_iadd hx hb dX12_count_89 ?_
  refine w_toeq (show (nI 0) + (nI 0) = nI 0 by decide +kernel) ?_
  refine lv_istore_n (lv' := [(3, .int (nI 0)), (7, .int (nI 0)), (6, .int (nI 16)), (5, .int (nI 20)), (4, .ref h3), (2, .int (nI 0)), (0, .ref h0), (1, .int (nI 10))]) hx hb dX12_count_90 rfl hl (by decide) rfl (fun ls hl => ?_)
  refine lv_iinc (v := nI 17) (lv' := [(6, .int (nI 17)), (3, .int (nI 0)), (7, .int (nI 0)), (5, .int (nI 20)), (4, .ref h3), (2, .int (nI 0)), (0, .ref h0), (1, .int (nI 10))]) hx hb dX12_count_91 hl (k := 2) rfl (by decide +kernel) (by decide) rfl (fun ls hl => ?_)
  refine lv_goto (tgt := 64) hx hb dX12_count_94 (by decide) ?_
  refine lv_iload hx hb dX12_count_64 (lv_at hl 0 rfl) ?_
  refine lv_iload hx hb dX12_count_66 (lv_at hl 3 rfl) ?_
  refine lv_icmp_ge (tgt := 97) hx hb dX12_count_68 (by decide) (fun c9 => absurd c9 (by decide +kernel)) (fun _ => ?_)
  refine lv_aload hx hb dX12_count_71 (lv_at hl 4 rfl) ?_
  refine lv_iload hx hb dX12_count_73 (lv_at hl 0 rfl) ?_
  refine r_zald (k := 17) hx hb hK hP 1 1 rfl rfl (Nat.le_of_ble_eq_true rfl) (by decide) (v := nI 0) rfl dX12_count_75 ?_
  refine lv_istore (lv' := [(7, .int (nI 0)), (6, .int (nI 17)), (3, .int (nI 0)), (5, .int (nI 20)), (4, .ref h3), (2, .int (nI 0)), (0, .ref h0), (1, .int (nI 10))]) hx hb dX12_count_76 hl (by decide) rfl (fun ls hl => ?_)
  refine lv_iload_n hx hb dX12_count_78 rfl (lv_at hl 2 rfl) ?_
  refine lv_iload hx hb dX12_count_79 (lv_at hl 0 rfl) ?_
  refine lv_if_eq (tgt := 88) hx hb dX12_count_81 (by decide) (fun _ => ?_) (fun c9 => absurd (by decide +kernel) c9)
  refine lv_iconst (v := nI 0) hx hb dX12_count_88 (by decide +kernel) ?_
  refine lv_iadd hx hb dX12_count_89 ?_
  refine w_toeq (show (nI 0) + (nI 0) = nI 0 by decide +kernel) ?_
  refine lv_istore_n (lv' := [(3, .int (nI 0)), (7, .int (nI 0)), (6, .int (nI 17)), (5, .int (nI 20)), (4, .ref h3), (2, .int (nI 0)), (0, .ref h0), (1, .int (nI 10))]) hx hb dX12_count_90 rfl hl (by decide) rfl (fun ls hl => ?_)
  refine lv_iinc (v := nI 18) (lv' := [(6, .int (nI 18)), (3, .int (nI 0)), (7, .int (nI 0)), (5, .int (nI 20)), (4, .ref h3), (2, .int (nI 0)), (0, .ref h0), (1, .int (nI 10))]) hx hb dX12_count_91 hl (k := 2) rfl (by decide +kernel) (by decide) rfl (fun ls hl => ?_)
  refine lv_goto (tgt := 64) hx hb dX12_count_94 (by decide) ?_
  refine lv_iload hx hb dX12_count_64 (lv_at hl 0 rfl) ?_
  refine lv_iload hx hb dX12_count_66 (lv_at hl 3 rfl) ?_
  refine lv_icmp_ge (tgt := 97) hx hb dX12_count_68 (by decide) (fun c9 => absurd c9 (by decide +kernel)) (fun _ => ?_)
  refine lv_aload hx hb dX12_count_71 (lv_at hl 4 rfl) ?_
  refine lv_iload hx hb dX12_count_73 (lv_at hl 0 rfl) ?_
  refine r_zald (k := 18) hx hb hK hP 1 1 rfl rfl (Nat.le_of_ble_eq_true rfl) (by decide) (v := nI 0) rfl dX12_count_75 ?_
  refine lv_istore (lv' := [(7, .int (nI 0)), (6, .int (nI 18)), (3, .int (nI 0)), (5, .int (nI 20)), (4, .ref h3), (2, .int (nI 0)), (0, .ref h0), (1, .int (nI 10))]) hx hb dX12_count_76 hl (by decide) rfl (fun ls hl => ?_)
  refine lv_iload_n hx hb dX12_count_78 rfl (lv_at hl 2 rfl) ?_
  refine lv_iload hx hb dX12_count_79 (lv_at hl 0 rfl) ?_
  refine lv_if_eq (tgt := 88) hx hb dX12_count_81 (by decide) (fun _ => ?_) (fun c9 => absurd (by decide +kernel) c9)
  refine lv_iconst (v := nI 0) hx hb dX12_count_88 (by decide +kernel) ?_
  refine lv_iadd hx hb dX12_count_89 ?_
  refine w_toeq (show (nI 0) + (nI 0) = nI 0 by decide +kernel) ?_
  refine lv_istore_n (lv' := [(3, .int (nI 0)), (7, .int (nI 0)), (6, .int (nI 18)), (5, .int (nI 20)), (4, .ref h3), (2, .int (nI 0)), (0, .ref h0), (1, .int (nI 10))]) hx hb dX12_count_90 rfl hl (by decide) rfl (fun ls hl => ?_)
  refine lv_iinc (v := nI 19) (lv' := [(6, .int (nI 19)), (3, .int (nI 0)), (7, .int (nI 0)), (5, .int (nI 20)), (4, .ref h3), (2, .int (nI 0)), (0, .ref h0), (1, .int (nI 10))]) hx hb dX12_count_91 hl (k := 2) rfl (by decide +kernel) (by decide) rfl (fun ls hl => ?_)
  refine lv_goto (tgt := 64) hx hb dX12_count_94 (by decide) ?_
  refine lv_iload hx hb dX12_count_64 (lv_at hl 0 rfl) ?_
  refine lv_iload hx hb dX12_count_66 (lv_at hl 3 rfl) ?_
  refine lv_icmp_ge (tgt := 97) hx hb dX12_count_68 (by decide) (fun c9 => absurd c9 (by decide +kernel)) (fun _ => ?_)
  refine lv_aload hx hb dX12_count_71 (lv_at hl 4 rfl) ?_
  refine lv_iload hx hb dX12_count_73 (lv_at hl 0 rfl) ?_
  refine r_zald (k := 19) hx hb hK hP 1 1 rfl rfl (Nat.le_of_ble_eq_true rfl) (by decide) (v := nI 0) rfl dX12_count_75 ?_
  refine lv_istore (lv' := [(7, .int (nI 0)), (6, .int (nI 19)), (3, .int (nI 0)), (5, .int (nI 20)), (4, .ref h3), (2, .int (nI 0)), (0, .ref h0), (1, .int (nI 10))]) hx hb dX12_count_76 hl (by decide) rfl (fun ls hl => ?_)
  refine lv_iload_n hx hb dX12_count_78 rfl (lv_at hl 2 rfl) ?_
  refine lv_iload hx hb dX12_count_79 (lv_at hl 0 rfl) ?_
  refine lv_if_eq (tgt := 88) hx hb dX12_count_81 (by decide) (fun _ => ?_) (fun c9 => absurd (by decide +kernel) c9)
  refine lv_iconst (v := nI 0) hx hb dX12_count_88 (by decide +kernel) ?_
  refine lv_iadd hx hb dX12_count_89 ?_
  refine w_toeq (show (nI 0) + (nI 0) = nI 0 by decide +kernel) ?_
  refine lv_istore_n (lv' := [(3, .int (nI 0)), (7, .int (nI 0)), (6, .int (nI 19)), (5, .int (nI 20)), (4, .ref h3), (2, .int (nI 0)), (0, .ref h0), (1, .int (nI 10))]) hx hb dX12_count_90 rfl hl (by decide) rfl (fun ls hl => ?_)
  refine lv_iinc (v := nI 20) (lv' := [(6, .int (nI 20)), (3, .int (nI 0)), (7, .int (nI 0)), (5, .int (nI 20)), (4, .ref h3), (2, .int (nI 0)), (0, .ref h0), (1, .int (nI 10))]) hx hb dX12_count_91 hl (k := 2) rfl (by decide +kernel) (by decide) rfl (fun ls hl => ?_)
  refine lv_goto (tgt := 64) hx hb dX12_count_94 (by decide) ?_
  refine lv_iload hx hb dX12_count_64 (lv_at hl 0 rfl) ?_
  refine lv_iload hx hb dX12_count_66 (lv_at hl 3 rfl) ?_
  refine lv_icmp_ge (tgt := 97) hx hb dX12_count_68 (by decide) (fun _ => ?_) (fun c9 => absurd (by decide +kernel) c9)
  refine lv_bipush (v := nI 16) hx hb dX12_count_97 (by decide +kernel) ?_
  refine r_newa (atype := .int) hx hb hts w_1292 rfl hK hP hD hS hA 2 rfl (N := 16) (a0 := (16, .inl (fun _ => nI 0))) (fun _ => rfl) (by decide +kernel) (by decide +kernel) (by decide) (Nat.le_of_ble_eq_true rfl) (Nat.le_of_ble_eq_true rfl) dX12_count_99 (w2 := fun q0 => [(h0, .inr (12, [v0, .ref h1])), (h3, .inl (K 1, 20, .inl (fun _ => nI 0))), (h4, .inr (13, [v7, v8, .int (nI 1)])), (h5, .inr (13, [v9, v10, .int (nI 0)])), (h1, .inr (10, [.ref h2, .ref h4, v1, .ref h5, .ref h3, .int (nI 0), .int (nI 0), .int (nI 60), .int (nI 0), v2, v3, .int (nI 0), .int (nI 0), .int (nI 0), .int (nI 0), v4, v5])), ((u0 1), .inr (14, [.int (nI 0), .int (-1), .int (nI 0), .ref h2])), (h2, .inr (13, [.int (nI 0), v6, .int (nI 0)])), ((u1 0), .inr (14, [.int (nI 0), .int (-1), .int (nI 0), .ref (u0 0)])), ((u0 0), .inr (13, [.int (nI 0), .ref (G 0), .int (nI 0)])), (q0, .inl (K 2, 16, .inl (fun _ => nI 0)))]) (fun _ => rfl) (fun q0 H hP hD hS => ?_)
  refine lv_dup hx hb dX12_count_101 rfl ?_
  refine lv_iconst (v := nI 0) hx hb dX12_count_102 (by decide +kernel) ?_
  refine lv_aload_n hx hb dX12_count_103 rfl (lv_at hl 6 rfl) ?_
  refine r_get hx hb hts ok_RX12 hown hK hP 0 rfl rfl 1 (by decide) w_1294 (fun _ h9 => h9) rfl dX12_count_104 ?_
  refine r_get hx hb hts ok_RX10 hown hK hP 4 rfl rfl 0 (by decide) w_1225 (fun _ h9 => h9) rfl dX12_count_107 ?_
  refine k_i (wr := [(h0, .inr (12, [v0, .ref h1])), (h3, .inl (K 1, 20, .inl (fun _ => nI 0))), (h4, .inr (13, [v7, v8, .int (nI 1)])), (h5, .inr (13, [v9, v10, .int (nI 0)])), (h1, .inr (10, [.ref h2, .ref h4, v1, .ref h5, .ref h3, .int (nI 0), .int (nI 0), .int (nI 60), .int (nI 0), v2, v3, .int (nI 0), .int (nI 0), .int (nI 0), .int (nI 0), v4, v5])), ((u0 1), .inr (14, [.int (nI 0), .int (-1), .int (nI 0), .ref h2])), ((u1 0), .inr (14, [.int (nI 0), .int (-1), .int (nI 0), .ref (u0 0)])), ((u0 0), .inr (13, [.int (nI 0), .ref (G 0), .int (nI 0)])), (q0, .inl (K 2, 16, .inl (fun _ => nI 0)))]) (run_V (rest := [.int (nI 0), .ref q0, .ref q0]) hx hb hml hown hts hK hP hD hS hA hm (C102_size l G D K H.size h2 (.int (nI 0)) (v6)) [6] rfl rfl mok_yJx4a65c_size_8abf5 w_1308 w_1309 w_1310 (rcv hK hP 6 rfl rfl rfl) ⟨Nat.le_of_ble_eq_true rfl, Nat.le_of_ble_eq_true rfl⟩ rfl hl.1 rfl (Nat.le_of_ble_eq_true rfl) dX12_count_110 ⟨(Nat.le_of_ble_eq_true rfl), (Nat.le_of_ble_eq_true rfl)⟩) hP hD hS hA [6] [0, 1, 2, 3, 4, 5, 7, 8, 9] rfl rfl rfl (by decide) (w2 := fun u3 => [(h0, .inr (12, [v0, .ref h1])), (h3, .inl (K 1, 20, .inl (fun _ => nI 0))), (h4, .inr (13, [v7, v8, .int (nI 1)])), (h5, .inr (13, [v9, v10, .int (nI 0)])), (h1, .inr (10, [.ref h2, .ref h4, v1, .ref h5, .ref h3, .int (nI 0), .int (nI 0), .int (nI 60), .int (nI 0), v2, v3, .int (nI 0), .int (nI 0), .int (nI 0), .int (nI 0), v4, v5])), ((u0 1), .inr (14, [.int (nI 0), .int (-1), .int (nI 0), .ref h2])), ((u1 0), .inr (14, [.int (nI 0), .int (-1), .int (nI 0), .ref (u0 0)])), ((u0 0), .inr (13, [.int (nI 0), .ref (G 0), .int (nI 0)])), (q0, .inl (K 2, 16, .inl (fun _ => nI 0))), (h2, .inr (13, [.int (nI 0), v6, .int (nI 0)]))]) (fun _ => rfl) (fun u3 H locs hP hD hS => ?_)
  refine r_iast (k := 0) hx hb hK hP hD hS 8 2 rfl rfl (Nat.le_of_ble_eq_true rfl) (by decide) dX12_count_113 (ws' := [(h0, .inr (12, [v0, .ref h1])), (h3, .inl (K 1, 20, .inl (fun _ => nI 0))), (h4, .inr (13, [v7, v8, .int (nI 1)])), (h5, .inr (13, [v9, v10, .int (nI 0)])), (h1, .inr (10, [.ref h2, .ref h4, v1, .ref h5, .ref h3, .int (nI 0), .int (nI 0), .int (nI 60), .int (nI 0), v2, v3, .int (nI 0), .int (nI 0), .int (nI 0), .int (nI 0), v4, v5])), ((u0 1), .inr (14, [.int (nI 0), .int (-1), .int (nI 0), .ref h2])), ((u1 0), .inr (14, [.int (nI 0), .int (-1), .int (nI 0), .ref (u0 0)])), ((u0 0), .inr (13, [.int (nI 0), .ref (G 0), .int (nI 0)])), (q0, .inl (K 2, 16, .inl (fun _ => nI 0))), (h2, .inr (13, [.int (nI 0), v6, .int (nI 0)]))]) (by rw [upd_c]; rfl) (fun H locs hP hD hS => ?_)
  refine lv_dup hx hb dX12_count_114 rfl ?_
  refine lv_iconst (v := nI 1) hx hb dX12_count_115 (by decide +kernel) ?_
  refine lv_aload_n hx hb dX12_count_116 rfl (lv_at hl 6 rfl) ?_
  refine r_get hx hb hts ok_RX12 hown hK hP 0 rfl rfl 1 (by decide) w_1294 (fun _ h9 => h9) rfl dX12_count_117 ?_
  refine k_i (wr := [(h0, .inr (12, [v0, .ref h1])), (h3, .inl (K 1, 20, .inl (fun _ => nI 0))), (h4, .inr (13, [v7, v8, .int (nI 1)])), (h5, .inr (13, [v9, v10, .int (nI 0)])), ((u0 1), .inr (14, [.int (nI 0), .int (-1), .int (nI 0), .ref h2])), ((u1 0), .inr (14, [.int (nI 0), .int (-1), .int (nI 0), .ref (u0 0)])), ((u0 0), .inr (13, [.int (nI 0), .ref (G 0), .int (nI 0)])), (q0, .inl (K 2, 16, .inl (fun _ => nI 0)))]) (run_VN (rest := [.int (nI 1), .ref q0, .ref q0]) hx hb hml hown hts hK hP hD hS hA hm (C723_there l G D K H.size h1 h2 (.ref h4) (v1) (.ref h5) (.ref h3) (.int (nI 0)) (.int (nI 0)) (.int (nI 60)) (.int (nI 0)) (v2) (v3) (.int (nI 0)) (.int (nI 0)) (.int (nI 0)) (.int (nI 0)) (v4) (v5) (v6)) [4, 9] rfl rfl mok_yX10_there w_2040 w_1758 w_p38 (rcv hK hP 4 rfl rfl rfl) ⟨Nat.le_of_ble_eq_true rfl, Nat.le_of_ble_eq_true rfl⟩ rfl hl.1 rfl (Nat.le_of_ble_eq_true rfl) dX12_count_120 ⟨(Nat.le_of_ble_eq_true rfl), (Nat.le_of_ble_eq_true rfl)⟩) hP hD hS hA [4, 9] [0, 1, 2, 3, 5, 6, 7, 8] rfl rfl rfl (by decide) (w2 := fun u4 => [(h0, .inr (12, [v0, .ref h1])), (h3, .inl (K 1, 20, .inl (fun _ => nI 0))), (h4, .inr (13, [v7, v8, .int (nI 1)])), (h5, .inr (13, [v9, v10, .int (nI 0)])), ((u0 1), .inr (14, [.int (nI 0), .int (-1), .int (nI 0), .ref h2])), ((u1 0), .inr (14, [.int (nI 0), .int (-1), .int (nI 0), .ref (u0 0)])), ((u0 0), .inr (13, [.int (nI 0), .ref (G 0), .int (nI 0)])), (q0, .inl (K 2, 16, .inl (fun _ => nI 0))), (h1, .inr (10, [.ref h2, .ref h4, v1, .ref h5, .ref h3, .int (nI 0), .int (nI 0), .int (nI 60), .int (nI 0), v2, v3, .int (nI 0), .int (nI 0), .int (nI 0), .int (nI 0), v4, v5])), ((u4 0), .inr (14, [.int (nI 0), .int (-1), .int (nI 0), .ref h2])), (h2, .inr (13, [.int (nI 0), v6, .int (nI 0)]))]) (fun _ => rfl) (fun u4 H locs hP hD hS => ?_)
  refine r_iast (k := 1) hx hb hK hP hD hS 7 2 rfl rfl (Nat.le_of_ble_eq_true rfl) (by decide) dX12_count_123 (ws' := [(h0, .inr (12, [v0, .ref h1])), (h3, .inl (K 1, 20, .inl (fun _ => nI 0))), (h4, .inr (13, [v7, v8, .int (nI 1)])), (h5, .inr (13, [v9, v10, .int (nI 0)])), ((u0 1), .inr (14, [.int (nI 0), .int (-1), .int (nI 0), .ref h2])), ((u1 0), .inr (14, [.int (nI 0), .int (-1), .int (nI 0), .ref (u0 0)])), ((u0 0), .inr (13, [.int (nI 0), .ref (G 0), .int (nI 0)])), (q0, .inl (K 2, 16, .inl (fun _ => nI 0))), (h1, .inr (10, [.ref h2, .ref h4, v1, .ref h5, .ref h3, .int (nI 0), .int (nI 0), .int (nI 60), .int (nI 0), v2, v3, .int (nI 0), .int (nI 0), .int (nI 0), .int (nI 0), v4, v5])), ((u4 0), .inr (14, [.int (nI 0), .int (-1), .int (nI 0), .ref h2])), (h2, .inr (13, [.int (nI 0), v6, .int (nI 0)]))]) (by rw [upd_c]; rfl) (fun H locs hP hD hS => ?_)
  refine lv_dup hx hb dX12_count_124 rfl ?_
  refine lv_iconst (v := nI 2) hx hb dX12_count_125 (by decide +kernel) ?_
  refine lv_aload_n hx hb dX12_count_126 rfl (lv_at hl 6 rfl) ?_
  refine r_get hx hb hts ok_RX12 hown hK hP 0 rfl rfl 1 (by decide) w_1294 (fun _ h9 => h9) rfl dX12_count_127 ?_
  refine r_get hx hb hts ok_RX10 hown hK hP 8 rfl rfl 1 (by decide) w_1227 (fun _ h9 => h9) rfl dX12_count_130 ?_
  refine k_i (wr := [(h0, .inr (12, [v0, .ref h1])), (h3, .inl (K 1, 20, .inl (fun _ => nI 0))), (h5, .inr (13, [v9, v10, .int (nI 0)])), ((u0 1), .inr (14, [.int (nI 0), .int (-1), .int (nI 0), .ref h2])), ((u1 0), .inr (14, [.int (nI 0), .int (-1), .int (nI 0), .ref (u0 0)])), ((u0 0), .inr (13, [.int (nI 0), .ref (G 0), .int (nI 0)])), (q0, .inl (K 2, 16, .inl (fun _ => nI 0))), (h1, .inr (10, [.ref h2, .ref h4, v1, .ref h5, .ref h3, .int (nI 0), .int (nI 0), .int (nI 60), .int (nI 0), v2, v3, .int (nI 0), .int (nI 0), .int (nI 0), .int (nI 0), v4, v5])), ((u4 0), .inr (14, [.int (nI 0), .int (-1), .int (nI 0), .ref h2])), (h2, .inr (13, [.int (nI 0), v6, .int (nI 0)]))]) (run_V (rest := [.int (nI 2), .ref q0, .ref q0]) hx hb hml hown hts hK hP hD hS hA hm (C23_size l G D K H.size h4 (v7) (v8)) [2] rfl rfl mok_yJx4a65c_size_8abf5 w_1308 w_1309 w_1310 (rcv hK hP 2 rfl rfl rfl) ⟨Nat.le_of_ble_eq_true rfl, Nat.le_of_ble_eq_true rfl⟩ rfl hl.1 rfl (Nat.le_of_ble_eq_true rfl) dX12_count_133 ⟨(Nat.le_of_ble_eq_true rfl), (Nat.le_of_ble_eq_true rfl)⟩) hP hD hS hA [2] [0, 1, 3, 4, 5, 6, 7, 8, 9, 10] rfl rfl rfl (by decide) (w2 := fun u5 => [(h0, .inr (12, [v0, .ref h1])), (h3, .inl (K 1, 20, .inl (fun _ => nI 0))), (h5, .inr (13, [v9, v10, .int (nI 0)])), ((u0 1), .inr (14, [.int (nI 0), .int (-1), .int (nI 0), .ref h2])), ((u1 0), .inr (14, [.int (nI 0), .int (-1), .int (nI 0), .ref (u0 0)])), ((u0 0), .inr (13, [.int (nI 0), .ref (G 0), .int (nI 0)])), (q0, .inl (K 2, 16, .inl (fun _ => nI 0))), (h1, .inr (10, [.ref h2, .ref h4, v1, .ref h5, .ref h3, .int (nI 0), .int (nI 0), .int (nI 60), .int (nI 0), v2, v3, .int (nI 0), .int (nI 0), .int (nI 0), .int (nI 0), v4, v5])), ((u4 0), .inr (14, [.int (nI 0), .int (-1), .int (nI 0), .ref h2])), (h2, .inr (13, [.int (nI 0), v6, .int (nI 0)])), (h4, .inr (13, [v7, v8, .int (nI 1)]))]) (fun _ => rfl) (fun u5 H locs hP hD hS => ?_)
  refine r_iast (k := 2) hx hb hK hP hD hS 6 2 rfl rfl (Nat.le_of_ble_eq_true rfl) (by decide) dX12_count_136 (ws' := [(h0, .inr (12, [v0, .ref h1])), (h3, .inl (K 1, 20, .inl (fun _ => nI 0))), (h5, .inr (13, [v9, v10, .int (nI 0)])), ((u0 1), .inr (14, [.int (nI 0), .int (-1), .int (nI 0), .ref h2])), ((u1 0), .inr (14, [.int (nI 0), .int (-1), .int (nI 0), .ref (u0 0)])), ((u0 0), .inr (13, [.int (nI 0), .ref (G 0), .int (nI 0)])), (q0, .inl (K 2, 16, .inl (upd (fun _ => nI 0) 2 (nI 1)))), (h1, .inr (10, [.ref h2, .ref h4, v1, .ref h5, .ref h3, .int (nI 0), .int (nI 0), .int (nI 60), .int (nI 0), v2, v3, .int (nI 0), .int (nI 0), .int (nI 0), .int (nI 0), v4, v5])), ((u4 0), .inr (14, [.int (nI 0), .int (-1), .int (nI 0), .ref h2])), (h2, .inr (13, [.int (nI 0), v6, .int (nI 0)])), (h4, .inr (13, [v7, v8, .int (nI 1)]))]) rfl (fun H locs hP hD hS => ?_)
  refine lv_dup hx hb dX12_count_137 rfl ?_
  refine lv_iconst (v := nI 3) hx hb dX12_count_138 (by decide +kernel) ?_
  refine lv_aload_n hx hb dX12_count_139 rfl (lv_at hl 6 rfl) ?_
  refine r_get hx hb hts ok_RX12 hown hK hP 0 rfl rfl 1 (by decide) w_1294 (fun _ h9 => h9) rfl dX12_count_140 ?_
  refine r_get hx hb hts ok_RX10 hown hK hP 7 rfl rfl 6 (by decide) w_1237 (fun _ h9 => h9) rfl dX12_count_143 ?_
  refine r_iast (k := 3) hx hb hK hP hD hS 6 2 rfl rfl (Nat.le_of_ble_eq_true rfl) (by decide) dX12_count_146 (ws' := [(h0, .inr (12, [v0, .ref h1])), (h3, .inl (K 1, 20, .inl (fun _ => nI 0))), (h5, .inr (13, [v9, v10, .int (nI 0)])), ((u0 1), .inr (14, [.int (nI 0), .int (-1), .int (nI 0), .ref h2])), ((u1 0), .inr (14, [.int (nI 0), .int (-1), .int (nI 0), .ref (u0 0)])), ((u0 0), .inr (13, [.int (nI 0), .ref (G 0), .int (nI 0)])), (q0, .inl (K 2, 16, .inl (upd (upd (fun _ => nI 0) 2 (nI 1)) 3 (nI 0)))), (h1, .inr (10, [.ref h2, .ref h4, v1, .ref h5, .ref h3, .int (nI 0), .int (nI 0), .int (nI 60), .int (nI 0), v2, v3, .int (nI 0), .int (nI 0), .int (nI 0), .int (nI 0), v4, v5])), ((u4 0), .inr (14, [.int (nI 0), .int (-1), .int (nI 0), .ref h2])), (h2, .inr (13, [.int (nI 0), v6, .int (nI 0)])), (h4, .inr (13, [v7, v8, .int (nI 1)]))]) rfl (fun H locs hP hD hS => ?_)
  refine lv_dup hx hb dX12_count_147 rfl ?_
  refine lv_iconst (v := nI 4) hx hb dX12_count_148 (by decide +kernel) ?_
  refine lv_aload_n hx hb dX12_count_149 rfl (lv_at hl 6 rfl) ?_
  refine r_get hx hb hts ok_RX12 hown hK hP 0 rfl rfl 1 (by decide) w_1294 (fun _ h9 => h9) rfl dX12_count_150 ?_
  refine r_get hx hb hts ok_RX10 hown hK hP 7 rfl rfl 5 (by decide) w_1235 (fun _ h9 => h9) rfl dX12_count_153 ?_
  refine r_iast (k := 4) hx hb hK hP hD hS 6 2 rfl rfl (Nat.le_of_ble_eq_true rfl) (by decide) dX12_count_156 (ws' := [(h0, .inr (12, [v0, .ref h1])), (h3, .inl (K 1, 20, .inl (fun _ => nI 0))), (h5, .inr (13, [v9, v10, .int (nI 0)])), ((u0 1), .inr (14, [.int (nI 0), .int (-1), .int (nI 0), .ref h2])), ((u1 0), .inr (14, [.int (nI 0), .int (-1), .int (nI 0), .ref (u0 0)])), ((u0 0), .inr (13, [.int (nI 0), .ref (G 0), .int (nI 0)])), (q0, .inl (K 2, 16, .inl (upd (upd (upd (fun _ => nI 0) 2 (nI 1)) 3 (nI 0)) 4 (nI 0)))), (h1, .inr (10, [.ref h2, .ref h4, v1, .ref h5, .ref h3, .int (nI 0), .int (nI 0), .int (nI 60), .int (nI 0), v2, v3, .int (nI 0), .int (nI 0), .int (nI 0), .int (nI 0), v4, v5])), ((u4 0), .inr (14, [.int (nI 0), .int (-1), .int (nI 0), .ref h2])), (h2, .inr (13, [.int (nI 0), v6, .int (nI 0)])), (h4, .inr (13, [v7, v8, .int (nI 1)]))]) rfl (fun H locs hP hD hS => ?_)
  refine lv_dup hx hb dX12_count_157 rfl ?_
  refine lv_iconst (v := nI 5) hx hb dX12_count_158 (by decide +kernel) ?_
  refine lv_aload_n hx hb dX12_count_159 rfl (lv_at hl 6 rfl) ?_
  refine r_get hx hb hts ok_RX12 hown hK hP 0 rfl rfl 1 (by decide) w_1294 (fun _ h9 => h9) rfl dX12_count_160 ?_
  refine r_get hx hb hts ok_RX10 hown hK hP 7 rfl rfl 8 (by decide) w_1241 (fun _ h9 => h9) rfl dX12_count_163 ?_
  refine r_iast (k := 5) hx hb hK hP hD hS 6 2 rfl rfl (Nat.le_of_ble_eq_true rfl) (by decide) dX12_count_166 (ws' := [(h0, .inr (12, [v0, .ref h1])), (h3, .inl (K 1, 20, .inl (fun _ => nI 0))), (h5, .inr (13, [v9, v10, .int (nI 0)])), ((u0 1), .inr (14, [.int (nI 0), .int (-1), .int (nI 0), .ref h2])), ((u1 0), .inr (14, [.int (nI 0), .int (-1), .int (nI 0), .ref (u0 0)])), ((u0 0), .inr (13, [.int (nI 0), .ref (G 0), .int (nI 0)])), (q0, .inl (K 2, 16, .inl (upd (upd (upd (upd (fun _ => nI 0) 2 (nI 1)) 3 (nI 0)) 4 (nI 0)) 5 (nI 0)))), (h1, .inr (10, [.ref h2, .ref h4, v1, .ref h5, .ref h3, .int (nI 0), .int (nI 0), .int (nI 60), .int (nI 0), v2, v3, .int (nI 0), .int (nI 0), .int (nI 0), .int (nI 0), v4, v5])), ((u4 0), .inr (14, [.int (nI 0), .int (-1), .int (nI 0), .ref h2])), (h2, .inr (13, [.int (nI 0), v6, .int (nI 0)])), (h4, .inr (13, [v7, v8, .int (nI 1)]))]) rfl (fun H locs hP hD hS => ?_)
  refine lv_dup hx hb dX12_count_167 rfl ?_
  refine lv_bipush (v := nI 6) hx hb dX12_count_168 (by decide +kernel) ?_
  refine lv_aload_n hx hb dX12_count_170 rfl (lv_at hl 6 rfl) ?_
  refine r_get hx hb hts ok_RX12 hown hK hP 0 rfl rfl 1 (by decide) w_1294 (fun _ h9 => h9) rfl dX12_count_171 ?_
  refine r_get hx hb hts ok_RX10 hown hK hP 7 rfl rfl 7 (by decide) w_1239 (fun _ h9 => h9) rfl dX12_count_174 ?_
  refine r_iast (k := 6) hx hb hK hP hD hS 6 2 rfl rfl (Nat.le_of_ble_eq_true rfl) (by decide) dX12_count_177 (ws' := [(h0, .inr (12, [v0, .ref h1])), (h3, .inl (K 1, 20, .inl (fun _ => nI 0))), (h5, .inr (13, [v9, v10, .int (nI 0)])), ((u0 1), .inr (14, [.int (nI 0), .int (-1), .int (nI 0), .ref h2])), ((u1 0), .inr (14, [.int (nI 0), .int (-1), .int (nI 0), .ref (u0 0)])), ((u0 0), .inr (13, [.int (nI 0), .ref (G 0), .int (nI 0)])), (q0, .inl (K 2, 16, .inl (upd (upd (upd (upd (upd (fun _ => nI 0) 2 (nI 1)) 3 (nI 0)) 4 (nI 0)) 5 (nI 0)) 6 (nI 60)))), (h1, .inr (10, [.ref h2, .ref h4, v1, .ref h5, .ref h3, .int (nI 0), .int (nI 0), .int (nI 60), .int (nI 0), v2, v3, .int (nI 0), .int (nI 0), .int (nI 0), .int (nI 0), v4, v5])), ((u4 0), .inr (14, [.int (nI 0), .int (-1), .int (nI 0), .ref h2])), (h2, .inr (13, [.int (nI 0), v6, .int (nI 0)])), (h4, .inr (13, [v7, v8, .int (nI 1)]))]) rfl (fun H locs hP hD hS => ?_)
  refine lv_dup hx hb dX12_count_178 rfl ?_
  refine lv_bipush (v := nI 7) hx hb dX12_count_179 (by decide +kernel) ?_
  refine lv_iload_n hx hb dX12_count_181 rfl (lv_at hl 5 rfl) ?_
  refine r_iast (k := 7) hx hb hK hP hD hS 6 2 rfl rfl (Nat.le_of_ble_eq_true rfl) (by decide) dX12_count_182 (ws' := [(h0, .inr (12, [v0, .ref h1])), (h3, .inl (K 1, 20, .inl (fun _ => nI 0))), (h5, .inr (13, [v9, v10, .int (nI 0)])), ((u0 1), .inr (14, [.int (nI 0), .int (-1), .int (nI 0), .ref h2])), ((u1 0), .inr (14, [.int (nI 0), .int (-1), .int (nI 0), .ref (u0 0)])), ((u0 0), .inr (13, [.int (nI 0), .ref (G 0), .int (nI 0)])), (q0, .inl (K 2, 16, .inl (upd (upd (upd (upd (upd (upd (fun _ => nI 0) 2 (nI 1)) 3 (nI 0)) 4 (nI 0)) 5 (nI 0)) 6 (nI 60)) 7 (nI 0)))), (h1, .inr (10, [.ref h2, .ref h4, v1, .ref h5, .ref h3, .int (nI 0), .int (nI 0), .int (nI 60), .int (nI 0), v2, v3, .int (nI 0), .int (nI 0), .int (nI 0), .int (nI 0), v4, v5])), ((u4 0), .inr (14, [.int (nI 0), .int (-1), .int (nI 0), .ref h2])), (h2, .inr (13, [.int (nI 0), v6, .int (nI 0)])), (h4, .inr (13, [v7, v8, .int (nI 1)]))]) rfl (fun H locs hP hD hS => ?_)
  refine lv_dup hx hb dX12_count_183 rfl ?_
  refine lv_bipush (v := nI 8) hx hb dX12_count_184 (by decide +kernel) ?_
  refine lv_aload_n hx hb dX12_count_186 rfl (lv_at hl 6 rfl) ?_
  refine r_get hx hb hts ok_RX12 hown hK hP 0 rfl rfl 1 (by decide) w_1294 (fun _ h9 => h9) rfl dX12_count_187 ?_
  refine k_i (wr := [(h0, .inr (12, [v0, .ref h1])), (h3, .inl (K 1, 20, .inl (fun _ => nI 0))), (h5, .inr (13, [v9, v10, .int (nI 0)])), ((u0 1), .inr (14, [.int (nI 0), .int (-1), .int (nI 0), .ref h2])), ((u1 0), .inr (14, [.int (nI 0), .int (-1), .int (nI 0), .ref (u0 0)])), ((u0 0), .inr (13, [.int (nI 0), .ref (G 0), .int (nI 0)])), (q0, .inl (K 2, 16, .inl (upd (upd (upd (upd (upd (upd (fun _ => nI 0) 2 (nI 1)) 3 (nI 0)) 4 (nI 0)) 5 (nI 0)) 6 (nI 60)) 7 (nI 0)))), ((u4 0), .inr (14, [.int (nI 0), .int (-1), .int (nI 0), .ref h2])), (h4, .inr (13, [v7, v8, .int (nI 1)]))]) (run_V (rest := [.int (nI 8), .ref q0, .ref q0]) hx hb hml hown hts hK hP hD hS hA hm (C880_gaps l G D K H.size h1 h2 (.ref h4) (v1) (.ref h5) (.ref h3) (.int (nI 0)) (.int (nI 0)) (.int (nI 60)) (.int (nI 0)) (v2) (v3) (.int (nI 0)) (.int (nI 0)) (.int (nI 0)) (.int (nI 0)) (v4) (v5) (v6)) [7, 9] rfl rfl mok_yX10_gaps w_2041 w_2042 w_2043 (rcv hK hP 7 rfl rfl rfl) ⟨Nat.le_of_ble_eq_true rfl, Nat.le_of_ble_eq_true rfl⟩ rfl hl.1 rfl (Nat.le_of_ble_eq_true rfl) dX12_count_190 ⟨(Nat.le_of_ble_eq_true rfl), (Nat.le_of_ble_eq_true rfl)⟩) hP hD hS hA [7, 9] [0, 1, 2, 3, 4, 5, 6, 8, 10] rfl rfl rfl (by decide) (w2 := fun u6 => [(h0, .inr (12, [v0, .ref h1])), (h3, .inl (K 1, 20, .inl (fun _ => nI 0))), (h5, .inr (13, [v9, v10, .int (nI 0)])), ((u0 1), .inr (14, [.int (nI 0), .int (-1), .int (nI 0), .ref h2])), ((u1 0), .inr (14, [.int (nI 0), .int (-1), .int (nI 0), .ref (u0 0)])), ((u0 0), .inr (13, [.int (nI 0), .ref (G 0), .int (nI 0)])), (q0, .inl (K 2, 16, .inl (upd (upd (upd (upd (upd (upd (fun _ => nI 0) 2 (nI 1)) 3 (nI 0)) 4 (nI 0)) 5 (nI 0)) 6 (nI 60)) 7 (nI 0)))), ((u4 0), .inr (14, [.int (nI 0), .int (-1), .int (nI 0), .ref h2])), (h4, .inr (13, [v7, v8, .int (nI 1)])), (h1, .inr (10, [.ref h2, .ref h4, v1, .ref h5, .ref h3, .int (nI 0), .int (nI 0), .int (nI 60), .int (nI 0), v2, v3, .int (nI 0), .int (nI 0), .int (nI 0), .int (nI 0), v4, v5])), ((u6 1), .inr (14, [.int (nI 0), .int (-1), .int (nI 0), .ref h2])), (h2, .inr (13, [.int (nI 0), v6, .int (nI 0)])), ((u6 2), .inr (14, [.int (nI 0), .int (-1), .int (nI 0), .ref (u6 0)])), ((u6 0), .inr (13, [.int (nI 0), .ref (G 0), .int (nI 0)]))]) (fun _ => rfl) (fun u6 H locs hP hD hS => ?_)
  refine r_iast (k := 8) hx hb hK hP hD hS 6 2 rfl rfl (Nat.le_of_ble_eq_true rfl) (by decide) dX12_count_193 (ws' := [(h0, .inr (12, [v0, .ref h1])), (h3, .inl (K 1, 20, .inl (fun _ => nI 0))), (h5, .inr (13, [v9, v10, .int (nI 0)])), ((u0 1), .inr (14, [.int (nI 0), .int (-1), .int (nI 0), .ref h2])), ((u1 0), .inr (14, [.int (nI 0), .int (-1), .int (nI 0), .ref (u0 0)])), ((u0 0), .inr (13, [.int (nI 0), .ref (G 0), .int (nI 0)])), (q0, .inl (K 2, 16, .inl (upd (upd (upd (upd (upd (upd (upd (fun _ => nI 0) 2 (nI 1)) 3 (nI 0)) 4 (nI 0)) 5 (nI 0)) 6 (nI 60)) 7 (nI 0)) 8 (nI 1)))), ((u4 0), .inr (14, [.int (nI 0), .int (-1), .int (nI 0), .ref h2])), (h4, .inr (13, [v7, v8, .int (nI 1)])), (h1, .inr (10, [.ref h2, .ref h4, v1, .ref h5, .ref h3, .int (nI 0), .int (nI 0), .int (nI 60), .int (nI 0), v2, v3, .int (nI 0), .int (nI 0), .int (nI 0), .int (nI 0), v4, v5])), ((u6 1), .inr (14, [.int (nI 0), .int (-1), .int (nI 0), .ref h2])), (h2, .inr (13, [.int (nI 0), v6, .int (nI 0)])), ((u6 2), .inr (14, [.int (nI 0), .int (-1), .int (nI 0), .ref (u6 0)])), ((u6 0), .inr (13, [.int (nI 0), .ref (G 0), .int (nI 0)]))]) rfl (fun H locs hP hD hS => ?_)
  refine lv_dup hx hb dX12_count_194 rfl ?_
  refine lv_bipush (v := nI 9) hx hb dX12_count_195 (by decide +kernel) ?_
  refine lv_iload_n hx hb dX12_count_197 rfl (lv_at hl 1 rfl) ?_
  refine r_iast (k := 9) hx hb hK hP hD hS 6 2 rfl rfl (Nat.le_of_ble_eq_true rfl) (by decide) dX12_count_198 (ws' := [(h0, .inr (12, [v0, .ref h1])), (h3, .inl (K 1, 20, .inl (fun _ => nI 0))), (h5, .inr (13, [v9, v10, .int (nI 0)])), ((u0 1), .inr (14, [.int (nI 0), .int (-1), .int (nI 0), .ref h2])), ((u1 0), .inr (14, [.int (nI 0), .int (-1), .int (nI 0), .ref (u0 0)])), ((u0 0), .inr (13, [.int (nI 0), .ref (G 0), .int (nI 0)])), (q0, .inl (K 2, 16, .inl (upd (upd (upd (upd (upd (upd (upd (upd (fun _ => nI 0) 2 (nI 1)) 3 (nI 0)) 4 (nI 0)) 5 (nI 0)) 6 (nI 60)) 7 (nI 0)) 8 (nI 1)) 9 (nI 0)))), ((u4 0), .inr (14, [.int (nI 0), .int (-1), .int (nI 0), .ref h2])), (h4, .inr (13, [v7, v8, .int (nI 1)])), (h1, .inr (10, [.ref h2, .ref h4, v1, .ref h5, .ref h3, .int (nI 0), .int (nI 0), .int (nI 60), .int (nI 0), v2, v3, .int (nI 0), .int (nI 0), .int (nI 0), .int (nI 0), v4, v5])), ((u6 1), .inr (14, [.int (nI 0), .int (-1), .int (nI 0), .ref h2])), (h2, .inr (13, [.int (nI 0), v6, .int (nI 0)])), ((u6 2), .inr (14, [.int (nI 0), .int (-1), .int (nI 0), .ref (u6 0)])), ((u6 0), .inr (13, [.int (nI 0), .ref (G 0), .int (nI 0)]))]) rfl (fun H locs hP hD hS => ?_)
  refine lv_dup hx hb dX12_count_199 rfl ?_
  refine lv_bipush (v := nI 10) hx hb dX12_count_200 (by decide +kernel) ?_
  refine lv_aload_n hx hb dX12_count_202 rfl (lv_at hl 6 rfl) ?_
  refine r_get hx hb hts ok_RX12 hown hK hP 0 rfl rfl 1 (by decide) w_1294 (fun _ h9 => h9) rfl dX12_count_203 ?_
  refine r_get hx hb hts ok_RX10 hown hK hP 9 rfl rfl 3 (by decide) w_1231 (fun _ h9 => h9) rfl dX12_count_206 ?_
  refine k_i (wr := [(h0, .inr (12, [v0, .ref h1])), (h3, .inl (K 1, 20, .inl (fun _ => nI 0))), ((u0 1), .inr (14, [.int (nI 0), .int (-1), .int (nI 0), .ref h2])), ((u1 0), .inr (14, [.int (nI 0), .int (-1), .int (nI 0), .ref (u0 0)])), ((u0 0), .inr (13, [.int (nI 0), .ref (G 0), .int (nI 0)])), (q0, .inl (K 2, 16, .inl (upd (upd (upd (upd (upd (upd (upd (upd (fun _ => nI 0) 2 (nI 1)) 3 (nI 0)) 4 (nI 0)) 5 (nI 0)) 6 (nI 60)) 7 (nI 0)) 8 (nI 1)) 9 (nI 0)))), ((u4 0), .inr (14, [.int (nI 0), .int (-1), .int (nI 0), .ref h2])), (h4, .inr (13, [v7, v8, .int (nI 1)])), (h1, .inr (10, [.ref h2, .ref h4, v1, .ref h5, .ref h3, .int (nI 0), .int (nI 0), .int (nI 60), .int (nI 0), v2, v3, .int (nI 0), .int (nI 0), .int (nI 0), .int (nI 0), v4, v5])), ((u6 1), .inr (14, [.int (nI 0), .int (-1), .int (nI 0), .ref h2])), (h2, .inr (13, [.int (nI 0), v6, .int (nI 0)])), ((u6 2), .inr (14, [.int (nI 0), .int (-1), .int (nI 0), .ref (u6 0)])), ((u6 0), .inr (13, [.int (nI 0), .ref (G 0), .int (nI 0)]))]) (run_V (rest := [.int (nI 10), .ref q0, .ref q0]) hx hb hml hown hts hK hP hD hS hA hm (C102_size l G D K H.size h5 (v9) (v10)) [2] rfl rfl mok_yJx4a65c_size_8abf5 w_1308 w_1309 w_1310 (rcv hK hP 2 rfl rfl rfl) ⟨Nat.le_of_ble_eq_true rfl, Nat.le_of_ble_eq_true rfl⟩ rfl hl.1 rfl (Nat.le_of_ble_eq_true rfl) dX12_count_209 ⟨(Nat.le_of_ble_eq_true rfl), (Nat.le_of_ble_eq_true rfl)⟩) hP hD hS hA [2] [0, 1, 3, 4, 5, 6, 7, 8, 9, 10, 11, 12, 13] rfl rfl rfl (by decide) (w2 := fun u7 => [(h0, .inr (12, [v0, .ref h1])), (h3, .inl (K 1, 20, .inl (fun _ => nI 0))), ((u0 1), .inr (14, [.int (nI 0), .int (-1), .int (nI 0), .ref h2])), ((u1 0), .inr (14, [.int (nI 0), .int (-1), .int (nI 0), .ref (u0 0)])), ((u0 0), .inr (13, [.int (nI 0), .ref (G 0), .int (nI 0)])), (q0, .inl (K 2, 16, .inl (upd (upd (upd (upd (upd (upd (upd (upd (fun _ => nI 0) 2 (nI 1)) 3 (nI 0)) 4 (nI 0)) 5 (nI 0)) 6 (nI 60)) 7 (nI 0)) 8 (nI 1)) 9 (nI 0)))), ((u4 0), .inr (14, [.int (nI 0), .int (-1), .int (nI 0), .ref h2])), (h4, .inr (13, [v7, v8, .int (nI 1)])), (h1, .inr (10, [.ref h2, .ref h4, v1, .ref h5, .ref h3, .int (nI 0), .int (nI 0), .int (nI 60), .int (nI 0), v2, v3, .int (nI 0), .int (nI 0), .int (nI 0), .int (nI 0), v4, v5])), ((u6 1), .inr (14, [.int (nI 0), .int (-1), .int (nI 0), .ref h2])), (h2, .inr (13, [.int (nI 0), v6, .int (nI 0)])), ((u6 2), .inr (14, [.int (nI 0), .int (-1), .int (nI 0), .ref (u6 0)])), ((u6 0), .inr (13, [.int (nI 0), .ref (G 0), .int (nI 0)])), (h5, .inr (13, [v9, v10, .int (nI 0)]))]) (fun _ => rfl) (fun u7 H locs hP hD hS => ?_)
  refine r_iast (k := 10) hx hb hK hP hD hS 5 2 rfl rfl (Nat.le_of_ble_eq_true rfl) (by decide) dX12_count_212 (ws' := [(h0, .inr (12, [v0, .ref h1])), (h3, .inl (K 1, 20, .inl (fun _ => nI 0))), ((u0 1), .inr (14, [.int (nI 0), .int (-1), .int (nI 0), .ref h2])), ((u1 0), .inr (14, [.int (nI 0), .int (-1), .int (nI 0), .ref (u0 0)])), ((u0 0), .inr (13, [.int (nI 0), .ref (G 0), .int (nI 0)])), (q0, .inl (K 2, 16, .inl (upd (upd (upd (upd (upd (upd (upd (upd (upd (fun _ => nI 0) 2 (nI 1)) 3 (nI 0)) 4 (nI 0)) 5 (nI 0)) 6 (nI 60)) 7 (nI 0)) 8 (nI 1)) 9 (nI 0)) 10 (nI 0)))), ((u4 0), .inr (14, [.int (nI 0), .int (-1), .int (nI 0), .ref h2])), (h4, .inr (13, [v7, v8, .int (nI 1)])), (h1, .inr (10, [.ref h2, .ref h4, v1, .ref h5, .ref h3, .int (nI 0), .int (nI 0), .int (nI 60), .int (nI 0), v2, v3, .int (nI 0), .int (nI 0), .int (nI 0), .int (nI 0), v4, v5])), ((u6 1), .inr (14, [.int (nI 0), .int (-1), .int (nI 0), .ref h2])), (h2, .inr (13, [.int (nI 0), v6, .int (nI 0)])), ((u6 2), .inr (14, [.int (nI 0), .int (-1), .int (nI 0), .ref (u6 0)])), ((u6 0), .inr (13, [.int (nI 0), .ref (G 0), .int (nI 0)])), (h5, .inr (13, [v9, v10, .int (nI 0)]))]) rfl (fun H locs hP hD hS => ?_)
  refine lv_dup hx hb dX12_count_213 rfl ?_
  refine lv_bipush (v := nI 11) hx hb dX12_count_214 (by decide +kernel) ?_
  refine lv_aload_n hx hb dX12_count_216 rfl (lv_at hl 6 rfl) ?_
  refine r_get hx hb hts ok_RX12 hown hK hP 0 rfl rfl 1 (by decide) w_1294 (fun _ h9 => h9) rfl dX12_count_217 ?_
  refine r_get hx hb hts ok_RX10 hown hK hP 8 rfl rfl 11 (by decide) w_1247 (fun _ h9 => h9) rfl dX12_count_220 ?_
  refine r_iast (k := 11) hx hb hK hP hD hS 5 2 rfl rfl (Nat.le_of_ble_eq_true rfl) (by decide) dX12_count_223 (ws' := [(h0, .inr (12, [v0, .ref h1])), (h3, .inl (K 1, 20, .inl (fun _ => nI 0))), ((u0 1), .inr (14, [.int (nI 0), .int (-1), .int (nI 0), .ref h2])), ((u1 0), .inr (14, [.int (nI 0), .int (-1), .int (nI 0), .ref (u0 0)])), ((u0 0), .inr (13, [.int (nI 0), .ref (G 0), .int (nI 0)])), (q0, .inl (K 2, 16, .inl (upd (upd (upd (upd (upd (upd (upd (upd (upd (upd (fun _ => nI 0) 2 (nI 1)) 3 (nI 0)) 4 (nI 0)) 5 (nI 0)) 6 (nI 60)) 7 (nI 0)) 8 (nI 1)) 9 (nI 0)) 10 (nI 0)) 11 (nI 0)))), ((u4 0), .inr (14, [.int (nI 0), .int (-1), .int (nI 0), .ref h2])), (h4, .inr (13, [v7, v8, .int (nI 1)])), (h1, .inr (10, [.ref h2, .ref h4, v1, .ref h5, .ref h3, .int (nI 0), .int (nI 0), .int (nI 60), .int (nI 0), v2, v3, .int (nI 0), .int (nI 0), .int (nI 0), .int (nI 0), v4, v5])), ((u6 1), .inr (14, [.int (nI 0), .int (-1), .int (nI 0), .ref h2])), (h2, .inr (13, [.int (nI 0), v6, .int (nI 0)])), ((u6 2), .inr (14, [.int (nI 0), .int (-1), .int (nI 0), .ref (u6 0)])), ((u6 0), .inr (13, [.int (nI 0), .ref (G 0), .int (nI 0)])), (h5, .inr (13, [v9, v10, .int (nI 0)]))]) rfl (fun H locs hP hD hS => ?_)
  refine lv_dup hx hb dX12_count_224 rfl ?_
  refine lv_bipush (v := nI 12) hx hb dX12_count_225 (by decide +kernel) ?_
  refine lv_aload_n hx hb dX12_count_227 rfl (lv_at hl 6 rfl) ?_
  refine r_get hx hb hts ok_RX12 hown hK hP 0 rfl rfl 1 (by decide) w_1294 (fun _ h9 => h9) rfl dX12_count_228 ?_
  refine r_get hx hb hts ok_RX10 hown hK hP 8 rfl rfl 12 (by decide) w_1249 (fun _ h9 => h9) rfl dX12_count_231 ?_
  refine r_iast (k := 12) hx hb hK hP hD hS 5 2 rfl rfl (Nat.le_of_ble_eq_true rfl) (by decide) dX12_count_234 (ws' := [(h0, .inr (12, [v0, .ref h1])), (h3, .inl (K 1, 20, .inl (fun _ => nI 0))), ((u0 1), .inr (14, [.int (nI 0), .int (-1), .int (nI 0), .ref h2])), ((u1 0), .inr (14, [.int (nI 0), .int (-1), .int (nI 0), .ref (u0 0)])), ((u0 0), .inr (13, [.int (nI 0), .ref (G 0), .int (nI 0)])), (q0, .inl (K 2, 16, .inl (upd (upd (upd (upd (upd (upd (upd (upd (upd (upd (upd (fun _ => nI 0) 2 (nI 1)) 3 (nI 0)) 4 (nI 0)) 5 (nI 0)) 6 (nI 60)) 7 (nI 0)) 8 (nI 1)) 9 (nI 0)) 10 (nI 0)) 11 (nI 0)) 12 (nI 0)))), ((u4 0), .inr (14, [.int (nI 0), .int (-1), .int (nI 0), .ref h2])), (h4, .inr (13, [v7, v8, .int (nI 1)])), (h1, .inr (10, [.ref h2, .ref h4, v1, .ref h5, .ref h3, .int (nI 0), .int (nI 0), .int (nI 60), .int (nI 0), v2, v3, .int (nI 0), .int (nI 0), .int (nI 0), .int (nI 0), v4, v5])), ((u6 1), .inr (14, [.int (nI 0), .int (-1), .int (nI 0), .ref h2])), (h2, .inr (13, [.int (nI 0), v6, .int (nI 0)])), ((u6 2), .inr (14, [.int (nI 0), .int (-1), .int (nI 0), .ref (u6 0)])), ((u6 0), .inr (13, [.int (nI 0), .ref (G 0), .int (nI 0)])), (h5, .inr (13, [v9, v10, .int (nI 0)]))]) rfl (fun H locs hP hD hS => ?_)
  refine lv_dup hx hb dX12_count_235 rfl ?_
  refine lv_bipush (v := nI 13) hx hb dX12_count_236 (by decide +kernel) ?_
  refine lv_aload_n hx hb dX12_count_238 rfl (lv_at hl 6 rfl) ?_
  refine r_get hx hb hts ok_RX12 hown hK hP 0 rfl rfl 1 (by decide) w_1294 (fun _ h9 => h9) rfl dX12_count_239 ?_
  refine r_get hx hb hts ok_RX10 hown hK hP 8 rfl rfl 13 (by decide) w_1251 (fun _ h9 => h9) rfl dX12_count_242 ?_
  refine r_iast (k := 13) hx hb hK hP hD hS 5 2 rfl rfl (Nat.le_of_ble_eq_true rfl) (by decide) dX12_count_245 (ws' := [(h0, .inr (12, [v0, .ref h1])), (h3, .inl (K 1, 20, .inl (fun _ => nI 0))), ((u0 1), .inr (14, [.int (nI 0), .int (-1), .int (nI 0), .ref h2])), ((u1 0), .inr (14, [.int (nI 0), .int (-1), .int (nI 0), .ref (u0 0)])), ((u0 0), .inr (13, [.int (nI 0), .ref (G 0), .int (nI 0)])), (q0, .inl (K 2, 16, .inl (upd (upd (upd (upd (upd (upd (upd (upd (upd (upd (upd (upd (fun _ => nI 0) 2 (nI 1)) 3 (nI 0)) 4 (nI 0)) 5 (nI 0)) 6 (nI 60)) 7 (nI 0)) 8 (nI 1)) 9 (nI 0)) 10 (nI 0)) 11 (nI 0)) 12 (nI 0)) 13 (nI 0)))), ((u4 0), .inr (14, [.int (nI 0), .int (-1), .int (nI 0), .ref h2])), (h4, .inr (13, [v7, v8, .int (nI 1)])), (h1, .inr (10, [.ref h2, .ref h4, v1, .ref h5, .ref h3, .int (nI 0), .int (nI 0), .int (nI 60), .int (nI 0), v2, v3, .int (nI 0), .int (nI 0), .int (nI 0), .int (nI 0), v4, v5])), ((u6 1), .inr (14, [.int (nI 0), .int (-1), .int (nI 0), .ref h2])), (h2, .inr (13, [.int (nI 0), v6, .int (nI 0)])), ((u6 2), .inr (14, [.int (nI 0), .int (-1), .int (nI 0), .ref (u6 0)])), ((u6 0), .inr (13, [.int (nI 0), .ref (G 0), .int (nI 0)])), (h5, .inr (13, [v9, v10, .int (nI 0)]))]) rfl (fun H locs hP hD hS => ?_)
  refine lv_dup hx hb dX12_count_246 rfl ?_
  refine lv_bipush (v := nI 14) hx hb dX12_count_247 (by decide +kernel) ?_
  refine lv_aload_n hx hb dX12_count_249 rfl (lv_at hl 6 rfl) ?_
  refine r_get hx hb hts ok_RX12 hown hK hP 0 rfl rfl 1 (by decide) w_1294 (fun _ h9 => h9) rfl dX12_count_250 ?_
  refine r_get hx hb hts ok_RX10 hown hK hP 8 rfl rfl 14 (by decide) w_1253 (fun _ h9 => h9) rfl dX12_count_253 ?_
  refine r_iast (k := 14) hx hb hK hP hD hS 5 2 rfl rfl (Nat.le_of_ble_eq_true rfl) (by decide) dX12_count_256 (ws' := [(h0, .inr (12, [v0, .ref h1])), (h3, .inl (K 1, 20, .inl (fun _ => nI 0))), ((u0 1), .inr (14, [.int (nI 0), .int (-1), .int (nI 0), .ref h2])), ((u1 0), .inr (14, [.int (nI 0), .int (-1), .int (nI 0), .ref (u0 0)])), ((u0 0), .inr (13, [.int (nI 0), .ref (G 0), .int (nI 0)])), (q0, .inl (K 2, 16, .inl (upd (upd (upd (upd (upd (upd (upd (upd (upd (upd (upd (upd (upd (fun _ => nI 0) 2 (nI 1)) 3 (nI 0)) 4 (nI 0)) 5 (nI 0)) 6 (nI 60)) 7 (nI 0)) 8 (nI 1)) 9 (nI 0)) 10 (nI 0)) 11 (nI 0)) 12 (nI 0)) 13 (nI 0)) 14 (nI 0)))), ((u4 0), .inr (14, [.int (nI 0), .int (-1), .int (nI 0), .ref h2])), (h4, .inr (13, [v7, v8, .int (nI 1)])), (h1, .inr (10, [.ref h2, .ref h4, v1, .ref h5, .ref h3, .int (nI 0), .int (nI 0), .int (nI 60), .int (nI 0), v2, v3, .int (nI 0), .int (nI 0), .int (nI 0), .int (nI 0), v4, v5])), ((u6 1), .inr (14, [.int (nI 0), .int (-1), .int (nI 0), .ref h2])), (h2, .inr (13, [.int (nI 0), v6, .int (nI 0)])), ((u6 2), .inr (14, [.int (nI 0), .int (-1), .int (nI 0), .ref (u6 0)])), ((u6 0), .inr (13, [.int (nI 0), .ref (G 0), .int (nI 0)])), (h5, .inr (13, [v9, v10, .int (nI 0)]))]) rfl (fun H locs hP hD hS => ?_)
  refine lv_dup hx hb dX12_count_257 rfl ?_
  refine lv_bipush (v := nI 15) hx hb dX12_count_258 (by decide +kernel) ?_
  refine lv_aload_n hx hb dX12_count_260 rfl (lv_at hl 6 rfl) ?_
  refine r_get hx hb hts ok_RX12 hown hK hP 0 rfl rfl 1 (by decide) w_1294 (fun _ h9 => h9) rfl dX12_count_261 ?_
  refine k_i (wr := [(h0, .inr (12, [v0, .ref h1])), (h3, .inl (K 1, 20, .inl (fun _ => nI 0))), ((u0 1), .inr (14, [.int (nI 0), .int (-1), .int (nI 0), .ref h2])), ((u1 0), .inr (14, [.int (nI 0), .int (-1), .int (nI 0), .ref (u0 0)])), ((u0 0), .inr (13, [.int (nI 0), .ref (G 0), .int (nI 0)])), (q0, .inl (K 2, 16, .inl (upd (upd (upd (upd (upd (upd (upd (upd (upd (upd (upd (upd (upd (fun _ => nI 0) 2 (nI 1)) 3 (nI 0)) 4 (nI 0)) 5 (nI 0)) 6 (nI 60)) 7 (nI 0)) 8 (nI 1)) 9 (nI 0)) 10 (nI 0)) 11 (nI 0)) 12 (nI 0)) 13 (nI 0)) 14 (nI 0)))), ((u4 0), .inr (14, [.int (nI 0), .int (-1), .int (nI 0), .ref h2])), (h4, .inr (13, [v7, v8, .int (nI 1)])), ((u6 1), .inr (14, [.int (nI 0), .int (-1), .int (nI 0), .ref h2])), ((u6 2), .inr (14, [.int (nI 0), .int (-1), .int (nI 0), .ref (u6 0)])), ((u6 0), .inr (13, [.int (nI 0), .ref (G 0), .int (nI 0)])), (h5, .inr (13, [v9, v10, .int (nI 0)]))]) (run_V (rest := [.int (nI 15), .ref q0, .ref q0]) hx hb hml hown hts hK hP hD hS hA hm (C830_greys l G D K H.size h1 h2 (.ref h4) (v1) (.ref h5) (.ref h3) (.int (nI 0)) (.int (nI 0)) (.int (nI 60)) (.int (nI 0)) (v2) (v3) (.int (nI 0)) (.int (nI 0)) (.int (nI 0)) (.int (nI 0)) (v4) (v5) (v6)) [8, 10] rfl rfl mok_yX10_greys w_1973 w_1974 w_1975 (rcv hK hP 8 rfl rfl rfl) ⟨Nat.le_of_ble_eq_true rfl, Nat.le_of_ble_eq_true rfl⟩ rfl hl.1 rfl (Nat.le_of_ble_eq_true rfl) dX12_count_264 ⟨(Nat.le_of_ble_eq_true rfl), (Nat.le_of_ble_eq_true rfl)⟩) hP hD hS hA [8, 10] [0, 1, 2, 3, 4, 5, 6, 7, 9, 11, 12, 13] rfl rfl rfl (by decide) (w2 := fun u8 => [(h0, .inr (12, [v0, .ref h1])), (h3, .inl (K 1, 20, .inl (fun _ => nI 0))), ((u0 1), .inr (14, [.int (nI 0), .int (-1), .int (nI 0), .ref h2])), ((u1 0), .inr (14, [.int (nI 0), .int (-1), .int (nI 0), .ref (u0 0)])), ((u0 0), .inr (13, [.int (nI 0), .ref (G 0), .int (nI 0)])), (q0, .inl (K 2, 16, .inl (upd (upd (upd (upd (upd (upd (upd (upd (upd (upd (upd (upd (upd (fun _ => nI 0) 2 (nI 1)) 3 (nI 0)) 4 (nI 0)) 5 (nI 0)) 6 (nI 60)) 7 (nI 0)) 8 (nI 1)) 9 (nI 0)) 10 (nI 0)) 11 (nI 0)) 12 (nI 0)) 13 (nI 0)) 14 (nI 0)))), ((u4 0), .inr (14, [.int (nI 0), .int (-1), .int (nI 0), .ref h2])), (h4, .inr (13, [v7, v8, .int (nI 1)])), ((u6 1), .inr (14, [.int (nI 0), .int (-1), .int (nI 0), .ref h2])), ((u6 2), .inr (14, [.int (nI 0), .int (-1), .int (nI 0), .ref (u6 0)])), ((u6 0), .inr (13, [.int (nI 0), .ref (G 0), .int (nI 0)])), (h5, .inr (13, [v9, v10, .int (nI 0)])), (h1, .inr (10, [.ref h2, .ref h4, v1, .ref h5, .ref h3, .int (nI 0), .int (nI 0), .int (nI 60), .int (nI 0), v2, v3, .int (nI 0), .int (nI 0), .int (nI 0), .int (nI 0), v4, v5])), ((u8 0), .inr (14, [.int (nI 0), .int (-1), .int (nI 0), .ref h2])), (h2, .inr (13, [.int (nI 0), v6, .int (nI 0)]))]) (fun _ => rfl) (fun u8 H locs hP hD hS => ?_)
  refine r_iast (k := 15) hx hb hK hP hD hS 5 2 rfl rfl (Nat.le_of_ble_eq_true rfl) (by decide) dX12_count_267 (ws' := [(h0, .inr (12, [v0, .ref h1])), (h3, .inl (K 1, 20, .inl (fun _ => nI 0))), ((u0 1), .inr (14, [.int (nI 0), .int (-1), .int (nI 0), .ref h2])), ((u1 0), .inr (14, [.int (nI 0), .int (-1), .int (nI 0), .ref (u0 0)])), ((u0 0), .inr (13, [.int (nI 0), .ref (G 0), .int (nI 0)])), (q0, .inl (K 2, 16, .inl (upd (upd (upd (upd (upd (upd (upd (upd (upd (upd (upd (upd (upd (upd (fun _ => nI 0) 2 (nI 1)) 3 (nI 0)) 4 (nI 0)) 5 (nI 0)) 6 (nI 60)) 7 (nI 0)) 8 (nI 1)) 9 (nI 0)) 10 (nI 0)) 11 (nI 0)) 12 (nI 0)) 13 (nI 0)) 14 (nI 0)) 15 (nI 0)))), ((u4 0), .inr (14, [.int (nI 0), .int (-1), .int (nI 0), .ref h2])), (h4, .inr (13, [v7, v8, .int (nI 1)])), ((u6 1), .inr (14, [.int (nI 0), .int (-1), .int (nI 0), .ref h2])), ((u6 2), .inr (14, [.int (nI 0), .int (-1), .int (nI 0), .ref (u6 0)])), ((u6 0), .inr (13, [.int (nI 0), .ref (G 0), .int (nI 0)])), (h5, .inr (13, [v9, v10, .int (nI 0)])), (h1, .inr (10, [.ref h2, .ref h4, v1, .ref h5, .ref h3, .int (nI 0), .int (nI 0), .int (nI 60), .int (nI 0), v2, v3, .int (nI 0), .int (nI 0), .int (nI 0), .int (nI 0), v4, v5])), ((u8 0), .inr (14, [.int (nI 0), .int (-1), .int (nI 0), .ref h2])), (h2, .inr (13, [.int (nI 0), v6, .int (nI 0)]))]) rfl (fun H locs hP hD hS => ?_)
  refine lv_astore (lv' := [(4, .ref q0), (6, .int (nI 20)), (3, .int (nI 0)), (7, .int (nI 0)), (5, .int (nI 20)), (2, .int (nI 0)), (0, .ref h0), (1, .int (nI 10))]) hx hb dX12_count_268 hl (by decide) rfl (fun ls hl => ?_)
  refine lv_aload hx hb dX12_count_270 (lv_at hl 0 rfl) ?_
  refine lv_iload_n hx hb dX12_count_272 rfl (lv_at hl 7 rfl) ?_
  refine r_iald (k := 10) hx hb hK hP 5 2 rfl rfl (Nat.le_of_ble_eq_true rfl) (by decide) (v := nI 0) rfl dX12_count_273 ?_
  exact e_i hx hb hr hlk hP hD hS (fun k => match k with | 0 => (u0 0) | 1 => (u0 1) | 2 => (u1 0) | 3 => q0 | 4 => (u4 0) | 5 => (u6 0) | 6 => (u6 1) | 7 => (u6 2) | 8 => (u8 0) | _ => 0) rfl (Nat.le_of_ble_eq_true rfl) (Nat.le_of_ble_eq_true rfl) rfl dX12_count_274
set_option maxHeartbeats 4000000 in
set_option maxRecDepth 100000 in
theorem C925_many (l : Launch) (G : Nat → Nat) (D : va_G) (K : Nat → ClassId) (sz : Nat) (h0 h1 h2 h3 h4 h5 : Nat) (v0 v1 v2 v3 v4 v5 v6 v7 v8 v9 : Value) : CM l yX12_many cX12_many 2 (some FieldType.int) ({ frames := 7, cells := 9, slots := 46, locals := 156 } : Room) G D K [.ref h0, .int (nI 10)] [(h0, .inr (12, [.int (nI 0), .ref h1])), (h1, .inr (10, [.ref h2, .ref h4, v0, .ref h5, .ref h3, .int (nI 0), .int (nI 0), .int (nI 60), .int (nI 0), v1, v2, .int (nI 0), .int (nI 0), .int (nI 0), .int (nI 0), v3, v4])), (h2, .inr (13, [.int (nI 0), v5, .int (nI 0)])), (h3, .inl (K 1, 20, .inl (fun _ => nI 0))), (h4, .inr (13, [v6, v7, .int (nI 1)])), (h5, .inr (13, [v8, v9, .int (nI 0)]))] sz (CQi (nI 0) D (fun u => [(h0, .inr (12, [.int (nI 0), .ref h1])), (h3, .inl (K 1, 20, .inl (fun _ => nI 0))), ((u 1), .inr (14, [.int (nI 0), .int (-1), .int (nI 0), .ref h2])), ((u 2), .inr (14, [.int (nI 0), .int (-1), .int (nI 0), .ref (u 0)])), ((u 0), .inr (13, [.int (nI 0), .ref (G 0), .int (nI 0)])), ((u 3), .inl (K 2, 16, .inl (upd (upd (upd (upd (upd (upd (upd (upd (upd (upd (upd (upd (upd (upd (fun _ => nI 0) 2 (nI 1)) 3 (nI 0)) 4 (nI 0)) 5 (nI 0)) 6 (nI 60)) 7 (nI 0)) 8 (nI 1)) 9 (nI 0)) 10 (nI 0)) 11 (nI 0)) 12 (nI 0)) 13 (nI 0)) 14 (nI 0)) 15 (nI 0)))), ((u 4), .inr (14, [.int (nI 0), .int (-1), .int (nI 0), .ref h2])), (h4, .inr (13, [v6, v7, .int (nI 1)])), ((u 6), .inr (14, [.int (nI 0), .int (-1), .int (nI 0), .ref h2])), ((u 7), .inr (14, [.int (nI 0), .int (-1), .int (nI 0), .ref (u 5)])), ((u 5), .inr (13, [.int (nI 0), .ref (G 0), .int (nI 0)])), (h5, .inr (13, [v8, v9, .int (nI 0)])), (h1, .inr (10, [.ref h2, .ref h4, v0, .ref h5, .ref h3, .int (nI 0), .int (nI 0), .int (nI 60), .int (nI 0), v1, v2, .int (nI 0), .int (nI 0), .int (nI 0), .int (nI 0), v3, v4])), ((u 8), .inr (14, [.int (nI 0), .int (-1), .int (nI 0), .ref h2])), (h2, .inr (13, [.int (nI 0), v5, .int (nI 0)]))])) := by
  refine CM_of (lv0 := [(0, .ref h0), (1, .int (nI 10))]) pn_RX12 (Nat.le_of_ble_eq_true rfl) rfl (fun p e s m args below meth c A ls hx hb hr hml hown hts hlk hnm hP hK hD hS hA hm hl => ?_)
  have hown : s.vm.findClass RX12 = some m.cls := hown
  refine lv_aload_n hx hb dX12_many_0 rfl (lv_at hl 0 rfl) ?_
  refine lv_iload_n hx hb dX12_many_1 rfl (lv_at hl 1 rfl) ?_
  refine lv_iconst (v := nI 0) hx hb dX12_many_2 (by decide +kernel) ?_
  refine lv_bipush (v := nI 15) hx hb dX12_many_3 (by decide +kernel) ?_
  refine k_i (wr := [(h0, .inr (12, [.int (nI 0), .ref h1])), (h1, .inr (10, [.ref h2, .ref h4, v0, .ref h5, .ref h3, .int (nI 0), .int (nI 0), .int (nI 60), .int (nI 0), v1, v2, .int (nI 0), .int (nI 0), .int (nI 0), .int (nI 0), v3, v4])), (h2, .inr (13, [.int (nI 0), v5, .int (nI 0)])), (h3, .inl (K 1, 20, .inl (fun _ => nI 0))), (h4, .inr (13, [v6, v7, .int (nI 1)])), (h5, .inr (13, [v8, v9, .int (nI 0)]))]) (run_S (rest := [.ref h0]) hx hb hml hown hts hK hP hD hS hA hm (C923_isIn l G D K s.heap.size) [] rfl rfl mok_yX12_isIn w_1352 w_1353 ⟨Nat.le_of_ble_eq_true rfl, Nat.le_of_ble_eq_true rfl⟩ rfl hl.1 rfl (Nat.le_of_ble_eq_true rfl) dX12_many_5 ⟨(Nat.le_of_ble_eq_true rfl), (Nat.le_of_ble_eq_true rfl)⟩) hP hD hS hA [] [0, 1, 2, 3, 4, 5] rfl rfl rfl (by decide) (w2 := fun u0 => [(h0, .inr (12, [.int (nI 0), .ref h1])), (h1, .inr (10, [.ref h2, .ref h4, v0, .ref h5, .ref h3, .int (nI 0), .int (nI 0), .int (nI 60), .int (nI 0), v1, v2, .int (nI 0), .int (nI 0), .int (nI 0), .int (nI 0), v3, v4])), (h2, .inr (13, [.int (nI 0), v5, .int (nI 0)])), (h3, .inl (K 1, 20, .inl (fun _ => nI 0))), (h4, .inr (13, [v6, v7, .int (nI 1)])), (h5, .inr (13, [v8, v9, .int (nI 0)]))]) (fun _ => rfl) (fun u0 H locs hP hD hS => ?_)
  refine lv_if_ne (tgt := 15) hx hb dX12_many_8 (by decide) (fun _ => ?_) (fun c9 => absurd c9 (by decide +kernel))
  refine lv_iconst (v := nI 0) hx hb dX12_many_15 (by decide +kernel) ?_
  refine lv_iconst (v := nI 1) hx hb dX12_many_16 (by decide +kernel) ?_
  refine k_i (wr := [(h1, .inr (10, [.ref h2, .ref h4, v0, .ref h5, .ref h3, .int (nI 0), .int (nI 0), .int (nI 60), .int (nI 0), v1, v2, .int (nI 0), .int (nI 0), .int (nI 0), .int (nI 0), v3, v4])), (h2, .inr (13, [.int (nI 0), v5, .int (nI 0)])), (h3, .inl (K 1, 20, .inl (fun _ => nI 0))), (h4, .inr (13, [v6, v7, .int (nI 1)])), (h5, .inr (13, [v8, v9, .int (nI 0)]))]) (run_V (rest := []) hx hb hml hown hts hK hP hD hS hA hm (C25_start l G D K H.size h0 (.ref h1)) [0] rfl rfl mok_yX12_start w_1312 w_1314 w_p30 (rcv hK hP 0 rfl rfl rfl) ⟨Nat.le_of_ble_eq_true rfl, Nat.le_of_ble_eq_true rfl⟩ rfl hl.1 rfl (Nat.le_of_ble_eq_true rfl) dX12_many_17 ⟨(Nat.le_of_ble_eq_true rfl), (Nat.le_of_ble_eq_true rfl)⟩) hP hD hS hA [0] [1, 2, 3, 4, 5] rfl rfl rfl (by decide) (w2 := fun u1 => [(h1, .inr (10, [.ref h2, .ref h4, v0, .ref h5, .ref h3, .int (nI 0), .int (nI 0), .int (nI 60), .int (nI 0), v1, v2, .int (nI 0), .int (nI 0), .int (nI 0), .int (nI 0), v3, v4])), (h2, .inr (13, [.int (nI 0), v5, .int (nI 0)])), (h3, .inl (K 1, 20, .inl (fun _ => nI 0))), (h4, .inr (13, [v6, v7, .int (nI 1)])), (h5, .inr (13, [v8, v9, .int (nI 0)])), (h0, .inr (12, [.int (nI 0), .ref h1]))]) (fun _ => rfl) (fun u1 H locs hP hD hS => ?_)
  refine lv_if_eq (tgt := 27) hx hb dX12_many_20 (by decide) (fun _ => ?_) (fun c9 => absurd (by decide +kernel) c9)
  refine lv_aload_n hx hb dX12_many_27 rfl (lv_at hl 0 rfl) ?_
  refine lv_iload_n hx hb dX12_many_28 rfl (lv_at hl 1 rfl) ?_
  refine k_i (wr := []) (run_V (rest := []) hx hb hml hown hts hK hP hD hS hA hm (C924_count l G D K H.size h0 h1 h2 h3 h4 h5 (.int (nI 0)) (v0) (v1) (v2) (v3) (v4) (v5) (v6) (v7) (v8) (v9)) [5, 0, 1, 2, 3, 4] rfl rfl mok_yX12_count w_2029 w_2031 w_p57 (rcv hK hP 5 rfl rfl rfl) ⟨Nat.le_of_ble_eq_true rfl, Nat.le_of_ble_eq_true rfl⟩ rfl hl.1 rfl (Nat.le_of_ble_eq_true rfl) dX12_many_29 ⟨(Nat.le_of_ble_eq_true rfl), (Nat.le_of_ble_eq_true rfl)⟩) hP hD hS hA [5, 0, 1, 2, 3, 4] [] rfl rfl rfl (by decide) (w2 := fun u2 => [(h0, .inr (12, [.int (nI 0), .ref h1])), (h3, .inl (K 1, 20, .inl (fun _ => nI 0))), ((u2 1), .inr (14, [.int (nI 0), .int (-1), .int (nI 0), .ref h2])), ((u2 2), .inr (14, [.int (nI 0), .int (-1), .int (nI 0), .ref (u2 0)])), ((u2 0), .inr (13, [.int (nI 0), .ref (G 0), .int (nI 0)])), ((u2 3), .inl (K 2, 16, .inl (upd (upd (upd (upd (upd (upd (upd (upd (upd (upd (upd (upd (upd (upd (fun _ => nI 0) 2 (nI 1)) 3 (nI 0)) 4 (nI 0)) 5 (nI 0)) 6 (nI 60)) 7 (nI 0)) 8 (nI 1)) 9 (nI 0)) 10 (nI 0)) 11 (nI 0)) 12 (nI 0)) 13 (nI 0)) 14 (nI 0)) 15 (nI 0)))), ((u2 4), .inr (14, [.int (nI 0), .int (-1), .int (nI 0), .ref h2])), (h4, .inr (13, [v6, v7, .int (nI 1)])), ((u2 6), .inr (14, [.int (nI 0), .int (-1), .int (nI 0), .ref h2])), ((u2 7), .inr (14, [.int (nI 0), .int (-1), .int (nI 0), .ref (u2 5)])), ((u2 5), .inr (13, [.int (nI 0), .ref (G 0), .int (nI 0)])), (h5, .inr (13, [v8, v9, .int (nI 0)])), (h1, .inr (10, [.ref h2, .ref h4, v0, .ref h5, .ref h3, .int (nI 0), .int (nI 0), .int (nI 60), .int (nI 0), v1, v2, .int (nI 0), .int (nI 0), .int (nI 0), .int (nI 0), v3, v4])), ((u2 8), .inr (14, [.int (nI 0), .int (-1), .int (nI 0), .ref h2])), (h2, .inr (13, [.int (nI 0), v5, .int (nI 0)]))]) (fun _ => rfl) (fun u2 H locs hP hD hS => ?_)
  exact e_i hx hb hr hlk hP hD hS (fun k => match k with | 0 => (u2 0) | 1 => (u2 1) | 2 => (u2 2) | 3 => (u2 3) | 4 => (u2 4) | 5 => (u2 5) | 6 => (u2 6) | 7 => (u2 7) | 8 => (u2 8) | _ => 0) rfl (Nat.le_of_ble_eq_true rfl) (Nat.le_of_ble_eq_true rfl) rfl dX12_many_32
set_option maxHeartbeats 4000000 in
set_option maxRecDepth 100000 in
theorem C926_many (l : Launch) (G : Nat → Nat) (D : va_G) (K : Nat → ClassId) (sz : Nat) (h0 h1 : Nat) (v0 v1 v2 v3 v4 v5 v6 v7 v8 v9 v10 : Value) : CM l yX9_many cX9_many 2 (some FieldType.int) ({ frames := 0, cells := 0, slots := 0, locals := 0 } : Room) G D K [.ref h0, .int (nI 11)] [(h0, .inr (9, [v0, v1, v2, .ref h1, v3, v4, v5, v6, v7])), (h1, .inr (6, [.int (nI 0), v8, v9, v10]))] sz (CQi (nI 0) D (fun _ => [(h0, .inr (9, [v0, v1, v2, .ref h1, v3, v4, v5, v6, v7])), (h1, .inr (6, [.int (nI 0), v8, v9, v10]))])) := by
  refine CM_of (lv0 := [(0, .ref h0), (1, .int (nI 11))]) pn_RX9 (Nat.le_of_ble_eq_true rfl) rfl (fun p e s m args below meth c A ls hx hb hr hml hown hts hlk hnm hP hK hD hS hA hm hl => ?_)
  have hown : s.vm.findClass RX9 = some m.cls := hown
  refine lv_iload_n hx hb dX9_many_0 rfl (lv_at hl 1 rfl) ?_
  refine lv_tableIn (off := 184) (tgt := 185) hx hb dX9_many_1 (by decide +kernel) (by decide +kernel) rfl (by decide) ?_
  refine lv_aload_n hx hb dX9_many_185 rfl (lv_at hl 0 rfl) ?_
  refine r_get hx hb hts ok_RX9 hown hK hP 0 rfl rfl 3 (by decide) w_261 (fun _ h9 => h9) rfl dX9_many_186 ?_
  refine r_get hx hb hts ok_RX6 hown hK hP 1 rfl rfl 0 (by decide) w_137 (fun _ h9 => h9) rfl dX9_many_189 ?_
  exact e_i hx hb hr hlk hP hD hS (fun _ => 0) rfl (Nat.le_of_ble_eq_true rfl) (Nat.le_of_ble_eq_true rfl) rfl dX9_many_192
set_option maxHeartbeats 4000000 in
set_option maxRecDepth 100000 in
theorem C927_isIn (l : Launch) (G : Nat → Nat) (D : va_G) (K : Nat → ClassId) (sz : Nat) : CM l yX12_isIn cX12_isIn 3 (some FieldType.boolean) ({ frames := 0, cells := 0, slots := 0, locals := 0 } : Room) G D K [.int (nI 11), .int (nI 0), .int (nI 15)] [] sz (CQi (nI 1) D (fun _ => [])) := by
  refine CM_of (lv0 := [(0, .int (nI 11)), (1, .int (nI 0)), (2, .int (nI 15))]) pn_RX12 (Nat.le_of_ble_eq_true rfl) rfl (fun p e s m args below meth c A ls hx hb hr hml hown hts hlk hnm hP hK hD hS hA hm hl => ?_)
  have hown : s.vm.findClass RX12 = some m.cls := hown
  refine lv_iload_n hx hb dX12_isIn_0 rfl (lv_at hl 0 rfl) ?_
  refine lv_iload_n hx hb dX12_isIn_1 rfl (lv_at hl 1 rfl) ?_
  refine lv_icmp_lt (tgt := 14) hx hb dX12_isIn_2 (by decide) (fun c9 => absurd c9 (by decide +kernel)) (fun _ => ?_)
  refine lv_iload_n hx hb dX12_isIn_5 rfl (lv_at hl 0 rfl) ?_
  refine lv_iload_n hx hb dX12_isIn_6 rfl (lv_at hl 2 rfl) ?_
  refine lv_icmp_gt (tgt := 14) hx hb dX12_isIn_7 (by decide) (fun c9 => absurd c9 (by decide +kernel)) (fun _ => ?_)
  refine lv_iconst (v := nI 1) hx hb dX12_isIn_10 (by decide +kernel) ?_
  refine lv_goto (tgt := 15) hx hb dX12_isIn_11 (by decide) ?_
  exact e_z hx hb hr hlk hP hD hS (fun _ => 0) rfl (Nat.le_of_ble_eq_true rfl) (Nat.le_of_ble_eq_true rfl) rfl (Or.inr rfl) dX12_isIn_15
set_option maxHeartbeats 4000000 in
set_option maxRecDepth 100000 in
theorem C928_count (l : Launch) (G : Nat → Nat) (D : va_G) (K : Nat → ClassId) (sz : Nat) (h0 h1 h2 h3 h4 h5 : Nat) (v0 v1 v2 v3 v4 v5 v6 v7 v8 v9 v10 : Value) : CM l yX12_count cX12_count 8 (some FieldType.int) ({ frames := 6, cells := 9, slots := 46, locals := 129 } : Room) G D K [.ref h0, .int (nI 11)] [(h0, .inr (12, [v0, .ref h1])), (h1, .inr (10, [.ref h2, .ref h4, v1, .ref h5, .ref h3, .int (nI 0), .int (nI 0), .int (nI 60), .int (nI 0), v2, v3, .int (nI 0), .int (nI 0), .int (nI 0), .int (nI 0), v4, v5])), (h2, .inr (13, [.int (nI 0), v6, .int (nI 0)])), (h3, .inl (K 1, 20, .inl (fun _ => nI 0))), (h4, .inr (13, [v7, v8, .int (nI 1)])), (h5, .inr (13, [v9, v10, .int (nI 0)]))] sz (CQi (nI 0) D (fun u => [(h0, .inr (12, [v0, .ref h1])), (h3, .inl (K 1, 20, .inl (fun _ => nI 0))), ((u 1), .inr (14, [.int (nI 0), .int (-1), .int (nI 0), .ref h2])), ((u 2), .inr (14, [.int (nI 0), .int (-1), .int (nI 0), .ref (u 0)])), ((u 0), .inr (13, [.int (nI 0), .ref (G 0), .int (nI 0)])), ((u 3), .inl (K 2, 16, .inl (upd (upd (upd (upd (upd (upd (upd (upd (upd (upd (upd (upd (upd (upd (fun _ => nI 0) 2 (nI 1)) 3 (nI 0)) 4 (nI 0)) 5 (nI 0)) 6 (nI 60)) 7 (nI 0)) 8 (nI 1)) 9 (nI 0)) 10 (nI 0)) 11 (nI 0)) 12 (nI 0)) 13 (nI 0)) 14 (nI 0)) 15 (nI 0)))), ((u 4), .inr (14, [.int (nI 0), .int (-1), .int (nI 0), .ref h2])), (h4, .inr (13, [v7, v8, .int (nI 1)])), ((u 6), .inr (14, [.int (nI 0), .int (-1), .int (nI 0), .ref h2])), ((u 7), .inr (14, [.int (nI 0), .int (-1), .int (nI 0), .ref (u 5)])), ((u 5), .inr (13, [.int (nI 0), .ref (G 0), .int (nI 0)])), (h5, .inr (13, [v9, v10, .int (nI 0)])), (h1, .inr (10, [.ref h2, .ref h4, v1, .ref h5, .ref h3, .int (nI 0), .int (nI 0), .int (nI 60), .int (nI 0), v2, v3, .int (nI 0), .int (nI 0), .int (nI 0), .int (nI 0), v4, v5])), ((u 8), .inr (14, [.int (nI 0), .int (-1), .int (nI 0), .ref h2])), (h2, .inr (13, [.int (nI 0), v6, .int (nI 0)]))])) := by
  refine CM_of (lv0 := [(0, .ref h0), (1, .int (nI 11))]) pn_RX12 (Nat.le_of_ble_eq_true rfl) rfl (fun p e s m args below meth c A ls hx hb hr hml hown hts hlk hnm hP hK hD hS hA hm hl => ?_)
  have hown : s.vm.findClass RX12 = some m.cls := hown
  refine lv_iconst (v := nI 0) hx hb dX12_count_0 (by decide +kernel) ?_
  refine lv_istore_n (lv' := [(2, .int (nI 0)), (0, .ref h0), (1, .int (nI 11))]) hx hb dX12_count_1 rfl hl (by decide) rfl (fun ls hl => ?_)
  refine lv_aload_n hx hb dX12_count_2 rfl (lv_at hl 1 rfl) ?_
  refine r_get hx hb hts ok_RX12 hown hK hP 0 rfl rfl 1 (by decide) w_1294 (fun _ h9 => h9) rfl dX12_count_3 ?_
  refine lv_iconst (v := nI 3) hx hb dX12_count_6 (by decide +kernel) ?_
  refine k_q (wr := [(h0, .inr (12, [v0, .ref h1])), (h3, .inl (K 1, 20, .inl (fun _ => nI 0))), (h4, .inr (13, [v7, v8, .int (nI 1)])), (h5, .inr (13, [v9, v10, .int (nI 0)]))]) (run_V (rest := []) hx hb hml hown hts hK hP hD hS hA hm (C259_in l G D K s.heap.size h1 h2 (.ref h4) (v1) (.ref h5) (.ref h3) (.int (nI 0)) (.int (nI 0)) (.int (nI 60)) (.int (nI 0)) (v2) (v3) (.int (nI 0)) (.int (nI 0)) (.int (nI 0)) (.int (nI 0)) (v4) (v5) (v6)) [1, 2] rfl rfl mok_yX10_in w_2033 w_1368 w_1369 (rcv hK hP 1 rfl rfl rfl) ⟨Nat.le_of_ble_eq_true rfl, Nat.le_of_ble_eq_true rfl⟩ rfl hl.1 rfl (Nat.le_of_ble_eq_true rfl) dX12_count_7 ⟨(Nat.le_of_ble_eq_true rfl), (Nat.le_of_ble_eq_true rfl)⟩) hP hD hS hA [1, 2] [0, 3, 4, 5] rfl rfl rfl (by decide) (w2 := fun u0 => [(h0, .inr (12, [v0, .ref h1])), (h3, .inl (K 1, 20, .inl (fun _ => nI 0))), (h4, .inr (13, [v7, v8, .int (nI 1)])), (h5, .inr (13, [v9, v10, .int (nI 0)])), (h1, .inr (10, [.ref h2, .ref h4, v1, .ref h5, .ref h3, .int (nI 0), .int (nI 0), .int (nI 60), .int (nI 0), v2, v3, .int (nI 0), .int (nI 0), .int (nI 0), .int (nI 0), v4, v5])), ((u0 0), .inr (13, [.int (nI 0), .ref (G 0), .int (nI 0)])), ((u0 1), .inr (14, [.int (nI 0), .int (-1), .int (nI 0), .ref h2])), (h2, .inr (13, [.int (nI 0), v6, .int (nI 0)]))]) (fun _ => rfl) (fun u0 H locs hP hD hS => ?_)
  refine w_tov (y := .ref (u0 0)) rfl ?_
  refine k_q (wr := [(h0, .inr (12, [v0, .ref h1])), (h3, .inl (K 1, 20, .inl (fun _ => nI 0))), (h4, .inr (13, [v7, v8, .int (nI 1)])), (h5, .inr (13, [v9, v10, .int (nI 0)])), (h1, .inr (10, [.ref h2, .ref h4, v1, .ref h5, .ref h3, .int (nI 0), .int (nI 0), .int (nI 60), .int (nI 0), v2, v3, .int (nI 0), .int (nI 0), .int (nI 0), .int (nI 0), v4, v5])), ((u0 1), .inr (14, [.int (nI 0), .int (-1), .int (nI 0), .ref h2])), (h2, .inr (13, [.int (nI 0), v6, .int (nI 0)]))]) (run_V (rest := []) hx hb hml hown hts hK hP hD hS hA hm (C257_iterator l G D K H.size (u0 0) (.ref (G 0)) (.int (nI 0))) [5] rfl rfl mok_yJx4a65c_iterator_32c93 w_2034 w_1372 w_1373 (rcv hK hP 5 rfl rfl rfl) ⟨Nat.le_of_ble_eq_true rfl, Nat.le_of_ble_eq_true rfl⟩ rfl hl.1 rfl (Nat.le_of_ble_eq_true rfl) dX12_count_10 ⟨(Nat.le_of_ble_eq_true rfl), (Nat.le_of_ble_eq_true rfl)⟩) hP hD hS hA [5] [0, 1, 2, 3, 4, 6, 7] rfl rfl rfl (by decide) (w2 := fun u1 => [(h0, .inr (12, [v0, .ref h1])), (h3, .inl (K 1, 20, .inl (fun _ => nI 0))), (h4, .inr (13, [v7, v8, .int (nI 1)])), (h5, .inr (13, [v9, v10, .int (nI 0)])), (h1, .inr (10, [.ref h2, .ref h4, v1, .ref h5, .ref h3, .int (nI 0), .int (nI 0), .int (nI 60), .int (nI 0), v2, v3, .int (nI 0), .int (nI 0), .int (nI 0), .int (nI 0), v4, v5])), ((u0 1), .inr (14, [.int (nI 0), .int (-1), .int (nI 0), .ref h2])), (h2, .inr (13, [.int (nI 0), v6, .int (nI 0)])), ((u1 0), .inr (14, [.int (nI 0), .int (-1), .int (nI 0), .ref (u0 0)])), ((u0 0), .inr (13, [.int (nI 0), .ref (G 0), .int (nI 0)]))]) (fun _ => rfl) (fun u1 H locs hP hD hS => ?_)
  refine w_tov (y := .ref (u1 0)) rfl ?_
  refine lv_astore_n (lv' := [(3, .ref (u1 0)), (2, .int (nI 0)), (0, .ref h0), (1, .int (nI 11))]) hx hb dX12_count_13 rfl hl (by decide) rfl (fun ls hl => ?_)
  refine lv_aload_n hx hb dX12_count_14 rfl (lv_at hl 0 rfl) ?_
  refine k5_i (wr := [(h0, .inr (12, [v0, .ref h1])), (h3, .inl (K 1, 20, .inl (fun _ => nI 0))), (h4, .inr (13, [v7, v8, .int (nI 1)])), (h5, .inr (13, [v9, v10, .int (nI 0)])), (h1, .inr (10, [.ref h2, .ref h4, v1, .ref h5, .ref h3, .int (nI 0), .int (nI 0), .int (nI 60), .int (nI 0), v2, v3, .int (nI 0), .int (nI 0), .int (nI 0), .int (nI 0), v4, v5])), ((u0 1), .inr (14, [.int (nI 0), .int (-1), .int (nI 0), .ref h2])), (h2, .inr (13, [.int (nI 0), v6, .int (nI 0)]))]) (run_F (rest := []) hx hb hml hown hts hK hP hD hS hA hm (C258_hasNext l G D K H.size (u1 0) (u0 0) (.int (-1)) (.int (nI 0)) (.int (nI 0)) (.ref (G 0))) [7, 8] rfl rfl mok_yJx35411_hasNext_aae02 w_2036 w_1399 w_1401 hm.2.2.2.2.2.2.1 7 rfl rfl rfl (by decide +kernel) ⟨Nat.le_of_ble_eq_true rfl, Nat.le_of_ble_eq_true rfl⟩ rfl hl.1 rfl (Nat.le_of_ble_eq_true rfl) dX12_count_15 ⟨(Nat.le_of_ble_eq_true rfl), (Nat.le_of_ble_eq_true rfl)⟩) hP hD hS hA [7, 8] [0, 1, 2, 3, 4, 5, 6] rfl rfl rfl (by decide) (w2 := fun u2 => [(h0, .inr (12, [v0, .ref h1])), (h3, .inl (K 1, 20, .inl (fun _ => nI 0))), (h4, .inr (13, [v7, v8, .int (nI 1)])), (h5, .inr (13, [v9, v10, .int (nI 0)])), (h1, .inr (10, [.ref h2, .ref h4, v1, .ref h5, .ref h3, .int (nI 0), .int (nI 0), .int (nI 60), .int (nI 0), v2, v3, .int (nI 0), .int (nI 0), .int (nI 0), .int (nI 0), v4, v5])), ((u0 1), .inr (14, [.int (nI 0), .int (-1), .int (nI 0), .ref h2])), (h2, .inr (13, [.int (nI 0), v6, .int (nI 0)])), ((u1 0), .inr (14, [.int (nI 0), .int (-1), .int (nI 0), .ref (u0 0)])), ((u0 0), .inr (13, [.int (nI 0), .ref (G 0), .int (nI 0)]))]) (fun _ => rfl) (fun u2 H locs hP hD hS => ?_)
  refine lv_if_eq (tgt := 45) hx hb dX12_count_20 (by decide) (fun _ => ?_) (fun c9 => absurd (by decide +kernel) c9)
  refine lv_iconst (v := nI 0) hx hb dX12_count_45 (by decide +kernel) ?_
  refine lv_istore_n (lv' := [(3, .int (nI 0)), (2, .int (nI 0)), (0, .ref h0), (1, .int (nI 11))]) hx hb dX12_count_46 rfl hl (by decide) rfl (fun ls hl => ?_)
  refine lv_aload_n hx hb dX12_count_47 rfl (lv_at hl 2 rfl) ?_
  refine r_get hx hb hts ok_RX12 hown hK hP 0 rfl rfl 1 (by decide) w_1294 (fun _ h9 => h9) rfl dX12_count_48 ?_
  refine r_get hx hb hts ok_RX10 hown hK hP 4 rfl rfl 4 (by decide) w_1233 (fun _ h9 => h9) rfl dX12_count_51 ?_
  refine lv_astore (lv' := [(4, .ref h3), (3, .int (nI 0)), (2, .int (nI 0)), (0, .ref h0), (1, .int (nI 11))]) hx hb dX12_count_54 hl (by decide) rfl (fun ls hl => ?_)
  refine lv_aload hx hb dX12_count_56 (lv_at hl 0 rfl) ?_
  refine r_alen (n := 20) hx hb hK hP 1 1 rfl rfl rfl dX12_count_58 ?_
  refine lv_istore (lv' := [(5, .int (nI 20)), (4, .ref h3), (3, .int (nI 0)), (2, .int (nI 0)), (0, .ref h0), (1, .int (nI 11))]) hx hb dX12_count_59 hl (by decide) rfl (fun ls hl => ?_)
  refine lv_iconst (v := nI 0) hx hb dX12_count_61 (by decide +kernel) ?_
  refine lv_istore (lv' := [(6, .int (nI 0)), (5, .int (nI 20)), (4, .ref h3), (3, .int (nI 0)), (2, .int (nI 0)), (0, .ref h0), (1, .int (nI 11))]) hx hb dX12_count_62 hl (by decide) rfl (fun ls hl => ?_)
  refine lv_iload hx hb dX12_count_64 (lv_at hl 0 rfl) ?_
  refine lv_iload hx hb dX12_count_66 (lv_at hl 1 rfl) ?_
  refine lv_icmp_ge (tgt := 97) hx hb dX12_count_68 (by decide) (fun c9 => absurd c9 (by decide +kernel)) (fun _ => ?_)
  refine lv_aload hx hb dX12_count_71 (lv_at hl 2 rfl) ?_
  refine lv_iload hx hb dX12_count_73 (lv_at hl 0 rfl) ?_
  refine r_zald (k := 0) hx hb hK hP 1 1 rfl rfl (Nat.le_of_ble_eq_true rfl) (by decide) (v := nI 0) rfl dX12_count_75 ?_
  refine lv_istore (lv' := [(7, .int (nI 0)), (6, .int (nI 0)), (5, .int (nI 20)), (4, .ref h3), (3, .int (nI 0)), (2, .int (nI 0)), (0, .ref h0), (1, .int (nI 11))]) hx hb dX12_count_76 hl (by decide) rfl (fun ls hl => ?_)
  refine lv_iload_n hx hb dX12_count_78 rfl (lv_at hl 4 rfl) ?_
  refine lv_iload hx hb dX12_count_79 (lv_at hl 0 rfl) ?_
  refine lv_if_eq (tgt := 88) hx hb dX12_count_81 (by decide) (fun _ => ?_) (fun c9 => absurd (by decide +kernel) c9)
  refine lv_iconst (v := nI 0) hx hb dX12_count_88 (by decide +kernel) ?_
  refine lv_iadd hx hb dX12_count_89 ?_
  refine w_toeq (show (nI 0) + (nI 0) = nI 0 by decide +kernel) ?_
  refine lv_istore_n (lv' := [(3, .int (nI 0)), (7, .int (nI 0)), (6, .int (nI 0)), (5, .int (nI 20)), (4, .ref h3), (2, .int (nI 0)), (0, .ref h0), (1, .int (nI 11))]) hx hb dX12_count_90 rfl hl (by decide) rfl (fun ls hl => ?_)
  refine lv_iinc (v := nI 1) (lv' := [(6, .int (nI 1)), (3, .int (nI 0)), (7, .int (nI 0)), (5, .int (nI 20)), (4, .ref h3), (2, .int (nI 0)), (0, .ref h0), (1, .int (nI 11))]) hx hb dX12_count_91 hl (k := 2) rfl (by decide +kernel) (by decide) rfl (fun ls hl => ?_)
  refine lv_goto (tgt := 64) hx hb dX12_count_94 (by decide) ?_
  refine lv_iload hx hb dX12_count_64 (lv_at hl 0 rfl) ?_
  refine lv_iload hx hb dX12_count_66 (lv_at hl 3 rfl) ?_
  refine lv_icmp_ge (tgt := 97) hx hb dX12_count_68 (by decide) (fun c9 => absurd c9 (by decide +kernel)) (fun _ => ?_)
  refine lv_aload hx hb dX12_count_71 (lv_at hl 4 rfl) ?_
  refine lv_iload hx hb dX12_count_73 (lv_at hl 0 rfl) ?_
  refine r_zald (k := 1) hx hb hK hP 1 1 rfl rfl (Nat.le_of_ble_eq_true rfl) (by decide) (v := nI 0) rfl dX12_count_75 ?_
  refine lv_istore (lv' := [(7, .int (nI 0)), (6, .int (nI 1)), (3, .int (nI 0)), (5, .int (nI 20)), (4, .ref h3), (2, .int (nI 0)), (0, .ref h0), (1, .int (nI 11))]) hx hb dX12_count_76 hl (by decide) rfl (fun ls hl => ?_)
  refine lv_iload_n hx hb dX12_count_78 rfl (lv_at hl 2 rfl) ?_
  refine lv_iload hx hb dX12_count_79 (lv_at hl 0 rfl) ?_
  refine lv_if_eq (tgt := 88) hx hb dX12_count_81 (by decide) (fun _ => ?_) (fun c9 => absurd (by decide +kernel) c9)
  refine lv_iconst (v := nI 0) hx hb dX12_count_88 (by decide +kernel) ?_
  refine lv_iadd hx hb dX12_count_89 ?_
  refine w_toeq (show (nI 0) + (nI 0) = nI 0 by decide +kernel) ?_
  refine lv_istore_n (lv' := [(3, .int (nI 0)), (7, .int (nI 0)), (6, .int (nI 1)), (5, .int (nI 20)), (4, .ref h3), (2, .int (nI 0)), (0, .ref h0), (1, .int (nI 11))]) hx hb dX12_count_90 rfl hl (by decide) rfl (fun ls hl => ?_)
  refine lv_iinc (v := nI 2) (lv' := [(6, .int (nI 2)), (3, .int (nI 0)), (7, .int (nI 0)), (5, .int (nI 20)), (4, .ref h3), (2, .int (nI 0)), (0, .ref h0), (1, .int (nI 11))]) hx hb dX12_count_91 hl (k := 2) rfl (by decide +kernel) (by decide) rfl (fun ls hl => ?_)
  refine lv_goto (tgt := 64) hx hb dX12_count_94 (by decide) ?_
  refine lv_iload hx hb dX12_count_64 (lv_at hl 0 rfl) ?_
  refine lv_iload hx hb dX12_count_66 (lv_at hl 3 rfl) ?_
  refine lv_icmp_ge (tgt := 97) hx hb dX12_count_68 (by decide) (fun c9 => absurd c9 (by decide +kernel)) (fun _ => ?_)
  refine lv_aload hx hb dX12_count_71 (lv_at hl 4 rfl) ?_
  refine lv_iload hx hb dX12_count_73 (lv_at hl 0 rfl) ?_
  refine r_zald (k := 2) hx hb hK hP 1 1 rfl rfl (Nat.le_of_ble_eq_true rfl) (by decide) (v := nI 0) rfl dX12_count_75 ?_
  refine lv_istore (lv' := [(7, .int (nI 0)), (6, .int (nI 2)), (3, .int (nI 0)), (5, .int (nI 20)), (4, .ref h3), (2, .int (nI 0)), (0, .ref h0), (1, .int (nI 11))]) hx hb dX12_count_76 hl (by decide) rfl (fun ls hl => ?_)
  refine lv_iload_n hx hb dX12_count_78 rfl (lv_at hl 2 rfl) ?_
  refine lv_iload hx hb dX12_count_79 (lv_at hl 0 rfl) ?_
  refine lv_if_eq (tgt := 88) hx hb dX12_count_81 (by decide) (fun _ => ?_) (fun c9 => absurd (by decide +kernel) c9)
  refine lv_iconst (v := nI 0) hx hb dX12_count_88 (by decide +kernel) ?_
  refine lv_iadd hx hb dX12_count_89 ?_
  refine w_toeq (show (nI 0) + (nI 0) = nI 0 by decide +kernel) ?_
  refine lv_istore_n (lv' := [(3, .int (nI 0)), (7, .int (nI 0)), (6, .int (nI 2)), (5, .int (nI 20)), (4, .ref h3), (2, .int (nI 0)), (0, .ref h0), (1, .int (nI 11))]) hx hb dX12_count_90 rfl hl (by decide) rfl (fun ls hl => ?_)
  refine lv_iinc (v := nI 3) (lv' := [(6, .int (nI 3)), (3, .int (nI 0)), (7, .int (nI 0)), (5, .int (nI 20)), (4, .ref h3), (2, .int (nI 0)), (0, .ref h0), (1, .int (nI 11))]) hx hb dX12_count_91 hl (k := 2) rfl (by decide +kernel) (by decide) rfl (fun ls hl => ?_)
  refine lv_goto (tgt := 64) hx hb dX12_count_94 (by decide) ?_
  refine lv_iload hx hb dX12_count_64 (lv_at hl 0 rfl) ?_
  refine lv_iload hx hb dX12_count_66 (lv_at hl 3 rfl) ?_
  refine lv_icmp_ge (tgt := 97) hx hb dX12_count_68 (by decide) (fun c9 => absurd c9 (by decide +kernel)) (fun _ => ?_)
  refine lv_aload hx hb dX12_count_71 (lv_at hl 4 rfl) ?_
  refine lv_iload hx hb dX12_count_73 (lv_at hl 0 rfl) ?_
  refine r_zald (k := 3) hx hb hK hP 1 1 rfl rfl (Nat.le_of_ble_eq_true rfl) (by decide) (v := nI 0) rfl dX12_count_75 ?_
  refine lv_istore (lv' := [(7, .int (nI 0)), (6, .int (nI 3)), (3, .int (nI 0)), (5, .int (nI 20)), (4, .ref h3), (2, .int (nI 0)), (0, .ref h0), (1, .int (nI 11))]) hx hb dX12_count_76 hl (by decide) rfl (fun ls hl => ?_)
  refine lv_iload_n hx hb dX12_count_78 rfl (lv_at hl 2 rfl) ?_
  refine lv_iload hx hb dX12_count_79 (lv_at hl 0 rfl) ?_
  refine lv_if_eq (tgt := 88) hx hb dX12_count_81 (by decide) (fun _ => ?_) (fun c9 => absurd (by decide +kernel) c9)
  refine lv_iconst (v := nI 0) hx hb dX12_count_88 (by decide +kernel) ?_
  refine lv_iadd hx hb dX12_count_89 ?_
  refine w_toeq (show (nI 0) + (nI 0) = nI 0 by decide +kernel) ?_
  refine lv_istore_n (lv' := [(3, .int (nI 0)), (7, .int (nI 0)), (6, .int (nI 3)), (5, .int (nI 20)), (4, .ref h3), (2, .int (nI 0)), (0, .ref h0), (1, .int (nI 11))]) hx hb dX12_count_90 rfl hl (by decide) rfl (fun ls hl => ?_)
  refine lv_iinc (v := nI 4) (lv' := [(6, .int (nI 4)), (3, .int (nI 0)), (7, .int (nI 0)), (5, .int (nI 20)), (4, .ref h3), (2, .int (nI 0)), (0, .ref h0), (1, .int (nI 11))]) hx hb dX12_count_91 hl (k := 2) rfl (by decide +kernel) (by decide) rfl (fun ls hl => ?_)
  refine lv_goto (tgt := 64) hx hb dX12_count_94 (by decide) ?_
  refine lv_iload hx hb dX12_count_64 (lv_at hl 0 rfl) ?_
  refine lv_iload hx hb dX12_count_66 (lv_at hl 3 rfl) ?_
  refine lv_icmp_ge (tgt := 97) hx hb dX12_count_68 (by decide) (fun c9 => absurd c9 (by decide +kernel)) (fun _ => ?_)
  refine lv_aload hx hb dX12_count_71 (lv_at hl 4 rfl) ?_
  refine lv_iload hx hb dX12_count_73 (lv_at hl 0 rfl) ?_
  refine r_zald (k := 4) hx hb hK hP 1 1 rfl rfl (Nat.le_of_ble_eq_true rfl) (by decide) (v := nI 0) rfl dX12_count_75 ?_
  refine lv_istore (lv' := [(7, .int (nI 0)), (6, .int (nI 4)), (3, .int (nI 0)), (5, .int (nI 20)), (4, .ref h3), (2, .int (nI 0)), (0, .ref h0), (1, .int (nI 11))]) hx hb dX12_count_76 hl (by decide) rfl (fun ls hl => ?_)
  refine lv_iload_n hx hb dX12_count_78 rfl (lv_at hl 2 rfl) ?_
  refine lv_iload hx hb dX12_count_79 (lv_at hl 0 rfl) ?_
  refine lv_if_eq (tgt := 88) hx hb dX12_count_81 (by decide) (fun _ => ?_) (fun c9 => absurd (by decide +kernel) c9)
  refine lv_iconst (v := nI 0) hx hb dX12_count_88 (by decide +kernel) ?_
  refine lv_iadd hx hb dX12_count_89 ?_
  refine w_toeq (show (nI 0) + (nI 0) = nI 0 by decide +kernel) ?_
  refine lv_istore_n (lv' := [(3, .int (nI 0)), (7, .int (nI 0)), (6, .int (nI 4)), (5, .int (nI 20)), (4, .ref h3), (2, .int (nI 0)), (0, .ref h0), (1, .int (nI 11))]) hx hb dX12_count_90 rfl hl (by decide) rfl (fun ls hl => ?_)
  refine lv_iinc (v := nI 5) (lv' := [(6, .int (nI 5)), (3, .int (nI 0)), (7, .int (nI 0)), (5, .int (nI 20)), (4, .ref h3), (2, .int (nI 0)), (0, .ref h0), (1, .int (nI 11))]) hx hb dX12_count_91 hl (k := 2) rfl (by decide +kernel) (by decide) rfl (fun ls hl => ?_)
  refine lv_goto (tgt := 64) hx hb dX12_count_94 (by decide) ?_
  refine lv_iload hx hb dX12_count_64 (lv_at hl 0 rfl) ?_
  refine lv_iload hx hb dX12_count_66 (lv_at hl 3 rfl) ?_
  refine lv_icmp_ge (tgt := 97) hx hb dX12_count_68 (by decide) (fun c9 => absurd c9 (by decide +kernel)) (fun _ => ?_)
  refine lv_aload hx hb dX12_count_71 (lv_at hl 4 rfl) ?_
  refine lv_iload hx hb dX12_count_73 (lv_at hl 0 rfl) ?_
  refine r_zald (k := 5) hx hb hK hP 1 1 rfl rfl (Nat.le_of_ble_eq_true rfl) (by decide) (v := nI 0) rfl dX12_count_75 ?_
  refine lv_istore (lv' := [(7, .int (nI 0)), (6, .int (nI 5)), (3, .int (nI 0)), (5, .int (nI 20)), (4, .ref h3), (2, .int (nI 0)), (0, .ref h0), (1, .int (nI 11))]) hx hb dX12_count_76 hl (by decide) rfl (fun ls hl => ?_)
  refine lv_iload_n hx hb dX12_count_78 rfl (lv_at hl 2 rfl) ?_
  refine lv_iload hx hb dX12_count_79 (lv_at hl 0 rfl) ?_
  refine lv_if_eq (tgt := 88) hx hb dX12_count_81 (by decide) (fun _ => ?_) (fun c9 => absurd (by decide +kernel) c9)
  refine lv_iconst (v := nI 0) hx hb dX12_count_88 (by decide +kernel) ?_
  refine lv_iadd hx hb dX12_count_89 ?_
  refine w_toeq (show (nI 0) + (nI 0) = nI 0 by decide +kernel) ?_
  refine lv_istore_n (lv' := [(3, .int (nI 0)), (7, .int (nI 0)), (6, .int (nI 5)), (5, .int (nI 20)), (4, .ref h3), (2, .int (nI 0)), (0, .ref h0), (1, .int (nI 11))]) hx hb dX12_count_90 rfl hl (by decide) rfl (fun ls hl => ?_)
  refine lv_iinc (v := nI 6) (lv' := [(6, .int (nI 6)), (3, .int (nI 0)), (7, .int (nI 0)), (5, .int (nI 20)), (4, .ref h3), (2, .int (nI 0)), (0, .ref h0), (1, .int (nI 11))]) hx hb dX12_count_91 hl (k := 2) rfl (by decide +kernel) (by decide) rfl (fun ls hl => ?_)
  refine lv_goto (tgt := 64) hx hb dX12_count_94 (by decide) ?_
  refine lv_iload hx hb dX12_count_64 (lv_at hl 0 rfl) ?_
  refine lv_iload hx hb dX12_count_66 (lv_at hl 3 rfl) ?_
  refine lv_icmp_ge (tgt := 97) hx hb dX12_count_68 (by decide) (fun c9 => absurd c9 (by decide +kernel)) (fun _ => ?_)
  refine lv_aload hx hb dX12_count_71 (lv_at hl 4 rfl) ?_
  refine lv_iload hx hb dX12_count_73 (lv_at hl 0 rfl) ?_
  refine r_zald (k := 6) hx hb hK hP 1 1 rfl rfl (Nat.le_of_ble_eq_true rfl) (by decide) (v := nI 0) rfl dX12_count_75 ?_
  refine lv_istore (lv' := [(7, .int (nI 0)), (6, .int (nI 6)), (3, .int (nI 0)), (5, .int (nI 20)), (4, .ref h3), (2, .int (nI 0)), (0, .ref h0), (1, .int (nI 11))]) hx hb dX12_count_76 hl (by decide) rfl (fun ls hl => ?_)
  refine lv_iload_n hx hb dX12_count_78 rfl (lv_at hl 2 rfl) ?_
  refine lv_iload hx hb dX12_count_79 (lv_at hl 0 rfl) ?_
  refine lv_if_eq (tgt := 88) hx hb dX12_count_81 (by decide) (fun _ => ?_) (fun c9 => absurd (by decide +kernel) c9)
  refine lv_iconst (v := nI 0) hx hb dX12_count_88 (by decide +kernel) ?_
  refine lv_iadd hx hb dX12_count_89 ?_
  refine w_toeq (show (nI 0) + (nI 0) = nI 0 by decide +kernel) ?_
  refine lv_istore_n (lv' := [(3, .int (nI 0)), (7, .int (nI 0)), (6, .int (nI 6)), (5, .int (nI 20)), (4, .ref h3), (2, .int (nI 0)), (0, .ref h0), (1, .int (nI 11))]) hx hb dX12_count_90 rfl hl (by decide) rfl (fun ls hl => ?_)
  refine lv_iinc (v := nI 7) (lv' := [(6, .int (nI 7)), (3, .int (nI 0)), (7, .int (nI 0)), (5, .int (nI 20)), (4, .ref h3), (2, .int (nI 0)), (0, .ref h0), (1, .int (nI 11))]) hx hb dX12_count_91 hl (k := 2) rfl (by decide +kernel) (by decide) rfl (fun ls hl => ?_)
  refine lv_goto (tgt := 64) hx hb dX12_count_94 (by decide) ?_
  refine lv_iload hx hb dX12_count_64 (lv_at hl 0 rfl) ?_
  refine lv_iload hx hb dX12_count_66 (lv_at hl 3 rfl) ?_
  refine lv_icmp_ge (tgt := 97) hx hb dX12_count_68 (by decide) (fun c9 => absurd c9 (by decide +kernel)) (fun _ => ?_)
  refine lv_aload hx hb dX12_count_71 (lv_at hl 4 rfl) ?_
  refine lv_iload hx hb dX12_count_73 (lv_at hl 0 rfl) ?_
  refine r_zald (k := 7) hx hb hK hP 1 1 rfl rfl (Nat.le_of_ble_eq_true rfl) (by decide) (v := nI 0) rfl dX12_count_75 ?_
  refine lv_istore (lv' := [(7, .int (nI 0)), (6, .int (nI 7)), (3, .int (nI 0)), (5, .int (nI 20)), (4, .ref h3), (2, .int (nI 0)), (0, .ref h0), (1, .int (nI 11))]) hx hb dX12_count_76 hl (by decide) rfl (fun ls hl => ?_)
  refine lv_iload_n hx hb dX12_count_78 rfl (lv_at hl 2 rfl) ?_
  refine lv_iload hx hb dX12_count_79 (lv_at hl 0 rfl) ?_
  refine lv_if_eq (tgt := 88) hx hb dX12_count_81 (by decide) (fun _ => ?_) (fun c9 => absurd (by decide +kernel) c9)
  refine lv_iconst (v := nI 0) hx hb dX12_count_88 (by decide +kernel) ?_
  refine lv_iadd hx hb dX12_count_89 ?_
  refine w_toeq (show (nI 0) + (nI 0) = nI 0 by decide +kernel) ?_
  refine lv_istore_n (lv' := [(3, .int (nI 0)), (7, .int (nI 0)), (6, .int (nI 7)), (5, .int (nI 20)), (4, .ref h3), (2, .int (nI 0)), (0, .ref h0), (1, .int (nI 11))]) hx hb dX12_count_90 rfl hl (by decide) rfl (fun ls hl => ?_)
  refine lv_iinc (v := nI 8) (lv' := [(6, .int (nI 8)), (3, .int (nI 0)), (7, .int (nI 0)), (5, .int (nI 20)), (4, .ref h3), (2, .int (nI 0)), (0, .ref h0), (1, .int (nI 11))]) hx hb dX12_count_91 hl (k := 2) rfl (by decide +kernel) (by decide) rfl (fun ls hl => ?_)
  refine lv_goto (tgt := 64) hx hb dX12_count_94 (by decide) ?_
  refine lv_iload hx hb dX12_count_64 (lv_at hl 0 rfl) ?_
  refine lv_iload hx hb dX12_count_66 (lv_at hl 3 rfl) ?_
  refine lv_icmp_ge (tgt := 97) hx hb dX12_count_68 (by decide) (fun c9 => absurd c9 (by decide +kernel)) (fun _ => ?_)
  refine lv_aload hx hb dX12_count_71 (lv_at hl 4 rfl) ?_
  refine lv_iload hx hb dX12_count_73 (lv_at hl 0 rfl) ?_
  refine r_zald (k := 8) hx hb hK hP 1 1 rfl rfl (Nat.le_of_ble_eq_true rfl) (by decide) (v := nI 0) rfl dX12_count_75 ?_
  refine lv_istore (lv' := [(7, .int (nI 0)), (6, .int (nI 8)), (3, .int (nI 0)), (5, .int (nI 20)), (4, .ref h3), (2, .int (nI 0)), (0, .ref h0), (1, .int (nI 11))]) hx hb dX12_count_76 hl (by decide) rfl (fun ls hl => ?_)
  refine lv_iload_n hx hb dX12_count_78 rfl (lv_at hl 2 rfl) ?_
  refine lv_iload hx hb dX12_count_79 (lv_at hl 0 rfl) ?_
  refine lv_if_eq (tgt := 88) hx hb dX12_count_81 (by decide) (fun _ => ?_) (fun c9 => absurd (by decide +kernel) c9)
  refine lv_iconst (v := nI 0) hx hb dX12_count_88 (by decide +kernel) ?_
  refine lv_iadd hx hb dX12_count_89 ?_
  refine w_toeq (show (nI 0) + (nI 0) = nI 0 by decide +kernel) ?_
  refine lv_istore_n (lv' := [(3, .int (nI 0)), (7, .int (nI 0)), (6, .int (nI 8)), (5, .int (nI 20)), (4, .ref h3), (2, .int (nI 0)), (0, .ref h0), (1, .int (nI 11))]) hx hb dX12_count_90 rfl hl (by decide) rfl (fun ls hl => ?_)
  refine lv_iinc (v := nI 9) (lv' := [(6, .int (nI 9)), (3, .int (nI 0)), (7, .int (nI 0)), (5, .int (nI 20)), (4, .ref h3), (2, .int (nI 0)), (0, .ref h0), (1, .int (nI 11))]) hx hb dX12_count_91 hl (k := 2) rfl (by decide +kernel) (by decide) rfl (fun ls hl => ?_)
  refine lv_goto (tgt := 64) hx hb dX12_count_94 (by decide) ?_
  refine lv_iload hx hb dX12_count_64 (lv_at hl 0 rfl) ?_
  refine lv_iload hx hb dX12_count_66 (lv_at hl 3 rfl) ?_
  refine lv_icmp_ge (tgt := 97) hx hb dX12_count_68 (by decide) (fun c9 => absurd c9 (by decide +kernel)) (fun _ => ?_)
  refine lv_aload hx hb dX12_count_71 (lv_at hl 4 rfl) ?_
  refine lv_iload hx hb dX12_count_73 (lv_at hl 0 rfl) ?_
  refine r_zald (k := 9) hx hb hK hP 1 1 rfl rfl (Nat.le_of_ble_eq_true rfl) (by decide) (v := nI 0) rfl dX12_count_75 ?_
  refine lv_istore (lv' := [(7, .int (nI 0)), (6, .int (nI 9)), (3, .int (nI 0)), (5, .int (nI 20)), (4, .ref h3), (2, .int (nI 0)), (0, .ref h0), (1, .int (nI 11))]) hx hb dX12_count_76 hl (by decide) rfl (fun ls hl => ?_)
  refine lv_iload_n hx hb dX12_count_78 rfl (lv_at hl 2 rfl) ?_
  refine lv_iload hx hb dX12_count_79 (lv_at hl 0 rfl) ?_
  refine lv_if_eq (tgt := 88) hx hb dX12_count_81 (by decide) (fun _ => ?_) (fun c9 => absurd (by decide +kernel) c9)
  refine lv_iconst (v := nI 0) hx hb dX12_count_88 (by decide +kernel) ?_
  refine lv_iadd hx hb dX12_count_89 ?_
  refine w_toeq (show (nI 0) + (nI 0) = nI 0 by decide +kernel) ?_
  refine lv_istore_n (lv' := [(3, .int (nI 0)), (7, .int (nI 0)), (6, .int (nI 9)), (5, .int (nI 20)), (4, .ref h3), (2, .int (nI 0)), (0, .ref h0), (1, .int (nI 11))]) hx hb dX12_count_90 rfl hl (by decide) rfl (fun ls hl => ?_)
  refine lv_iinc (v := nI 10) (lv' := [(6, .int (nI 10)), (3, .int (nI 0)), (7, .int (nI 0)), (5, .int (nI 20)), (4, .ref h3), (2, .int (nI 0)), (0, .ref h0), (1, .int (nI 11))]) hx hb dX12_count_91 hl (k := 2) rfl (by decide +kernel) (by decide) rfl (fun ls hl => ?_)
  refine lv_goto (tgt := 64) hx hb dX12_count_94 (by decide) ?_
  refine lv_iload hx hb dX12_count_64 (lv_at hl 0 rfl) ?_
  refine lv_iload hx hb dX12_count_66 (lv_at hl 3 rfl) ?_
  refine lv_icmp_ge (tgt := 97) hx hb dX12_count_68 (by decide) (fun c9 => absurd c9 (by decide +kernel)) (fun _ => ?_)
  refine lv_aload hx hb dX12_count_71 (lv_at hl 4 rfl) ?_
  refine lv_iload hx hb dX12_count_73 (lv_at hl 0 rfl) ?_
  refine r_zald (k := 10) hx hb hK hP 1 1 rfl rfl (Nat.le_of_ble_eq_true rfl) (by decide) (v := nI 0) rfl dX12_count_75 ?_
  refine lv_istore (lv' := [(7, .int (nI 0)), (6, .int (nI 10)), (3, .int (nI 0)), (5, .int (nI 20)), (4, .ref h3), (2, .int (nI 0)), (0, .ref h0), (1, .int (nI 11))]) hx hb dX12_count_76 hl (by decide) rfl (fun ls hl => ?_)
  refine lv_iload_n hx hb dX12_count_78 rfl (lv_at hl 2 rfl) ?_
  refine lv_iload hx hb dX12_count_79 (lv_at hl 0 rfl) ?_
  refine lv_if_eq (tgt := 88) hx hb dX12_count_81 (by decide) (fun _ => ?_) (fun c9 => absurd (by decide +kernel) c9)
  refine lv_iconst (v := nI 0) hx hb dX12_count_88 (by decide +kernel) ?_
  refine lv_iadd hx hb dX12_count_89 ?_
  refine w_toeq (show (nI 0) + (nI 0) = nI 0 by decide +kernel) ?_
  refine lv_istore_n (lv' := [(3, .int (nI 0)), (7, .int (nI 0)), (6, .int (nI 10)), (5, .int (nI 20)), (4, .ref h3), (2, .int (nI 0)), (0, .ref h0), (1, .int (nI 11))]) hx hb dX12_count_90 rfl hl (by decide) rfl (fun ls hl => ?_)
  refine lv_iinc (v := nI 11) (lv' := [(6, .int (nI 11)), (3, .int (nI 0)), (7, .int (nI 0)), (5, .int (nI 20)), (4, .ref h3), (2, .int (nI 0)), (0, .ref h0), (1, .int (nI 11))]) hx hb dX12_count_91 hl (k := 2) rfl (by decide +kernel) (by decide) rfl (fun ls hl => ?_)
  refine lv_goto (tgt := 64) hx hb dX12_count_94 (by decide) ?_
  refine lv_iload hx hb dX12_count_64 (lv_at hl 0 rfl) ?_
  refine lv_iload hx hb dX12_count_66 (lv_at hl 3 rfl) ?_
  refine lv_icmp_ge (tgt := 97) hx hb dX12_count_68 (by decide) (fun c9 => absurd c9 (by decide +kernel)) (fun _ => ?_)
  refine lv_aload hx hb dX12_count_71 (lv_at hl 4 rfl) ?_
  refine lv_iload hx hb dX12_count_73 (lv_at hl 0 rfl) ?_
  refine r_zald (k := 11) hx hb hK hP 1 1 rfl rfl (Nat.le_of_ble_eq_true rfl) (by decide) (v := nI 0) rfl dX12_count_75 ?_
  refine lv_istore (lv' := [(7, .int (nI 0)), (6, .int (nI 11)), (3, .int (nI 0)), (5, .int (nI 20)), (4, .ref h3), (2, .int (nI 0)), (0, .ref h0), (1, .int (nI 11))]) hx hb dX12_count_76 hl (by decide) rfl (fun ls hl => ?_)
  refine lv_iload_n hx hb dX12_count_78 rfl (lv_at hl 2 rfl) ?_
  refine lv_iload hx hb dX12_count_79 (lv_at hl 0 rfl) ?_
  refine lv_if_eq (tgt := 88) hx hb dX12_count_81 (by decide) (fun _ => ?_) (fun c9 => absurd (by decide +kernel) c9)
  refine lv_iconst (v := nI 0) hx hb dX12_count_88 (by decide +kernel) ?_
  refine lv_iadd hx hb dX12_count_89 ?_
  refine w_toeq (show (nI 0) + (nI 0) = nI 0 by decide +kernel) ?_
  refine lv_istore_n (lv' := [(3, .int (nI 0)), (7, .int (nI 0)), (6, .int (nI 11)), (5, .int (nI 20)), (4, .ref h3), (2, .int (nI 0)), (0, .ref h0), (1, .int (nI 11))]) hx hb dX12_count_90 rfl hl (by decide) rfl (fun ls hl => ?_)
  refine lv_iinc (v := nI 12) (lv' := [(6, .int (nI 12)), (3, .int (nI 0)), (7, .int (nI 0)), (5, .int (nI 20)), (4, .ref h3), (2, .int (nI 0)), (0, .ref h0), (1, .int (nI 11))]) hx hb dX12_count_91 hl (k := 2) rfl (by decide +kernel) (by decide) rfl (fun ls hl => ?_)
  refine lv_goto (tgt := 64) hx hb dX12_count_94 (by decide) ?_
  refine lv_iload hx hb dX12_count_64 (lv_at hl 0 rfl) ?_
  refine lv_iload hx hb dX12_count_66 (lv_at hl 3 rfl) ?_
  refine lv_icmp_ge (tgt := 97) hx hb dX12_count_68 (by decide) (fun c9 => absurd c9 (by decide +kernel)) (fun _ => ?_)
  refine lv_aload hx hb dX12_count_71 (lv_at hl 4 rfl) ?_
  refine lv_iload hx hb dX12_count_73 (lv_at hl 0 rfl) ?_
  refine r_zald (k := 12) hx hb hK hP 1 1 rfl rfl (Nat.le_of_ble_eq_true rfl) (by decide) (v := nI 0) rfl dX12_count_75 ?_
  refine lv_istore (lv' := [(7, .int (nI 0)), (6, .int (nI 12)), (3, .int (nI 0)), (5, .int (nI 20)), (4, .ref h3), (2, .int (nI 0)), (0, .ref h0), (1, .int (nI 11))]) hx hb dX12_count_76 hl (by decide) rfl (fun ls hl => ?_)
  refine lv_iload_n hx hb dX12_count_78 rfl (lv_at hl 2 rfl) ?_
  refine lv_iload hx hb dX12_count_79 (lv_at hl 0 rfl) ?_
  refine lv_if_eq (tgt := 88) hx hb dX12_count_81 (by decide) (fun _ => ?_) (fun c9 => absurd (by decide +kernel) c9)
  refine lv_iconst (v := nI 0) hx hb dX12_count_88 (by decide +kernel) ?_
  refine lv_iadd hx hb dX12_count_89 ?_
  refine w_toeq (show (nI 0) + (nI 0) = nI 0 by decide +kernel) ?_
  refine lv_istore_n (lv' := [(3, .int (nI 0)), (7, .int (nI 0)), (6, .int (nI 12)), (5, .int (nI 20)), (4, .ref h3), (2, .int (nI 0)), (0, .ref h0), (1, .int (nI 11))]) hx hb dX12_count_90 rfl hl (by decide) rfl (fun ls hl => ?_)
  refine lv_iinc (v := nI 13) (lv' := [(6, .int (nI 13)), (3, .int (nI 0)), (7, .int (nI 0)), (5, .int (nI 20)), (4, .ref h3), (2, .int (nI 0)), (0, .ref h0), (1, .int (nI 11))]) hx hb dX12_count_91 hl (k := 2) rfl (by decide +kernel) (by decide) rfl (fun ls hl => ?_)
  refine lv_goto (tgt := 64) hx hb dX12_count_94 (by decide) ?_
  refine lv_iload hx hb dX12_count_64 (lv_at hl 0 rfl) ?_
  refine lv_iload hx hb dX12_count_66 (lv_at hl 3 rfl) ?_
  refine lv_icmp_ge (tgt := 97) hx hb dX12_count_68 (by decide) (fun c9 => absurd c9 (by decide +kernel)) (fun _ => ?_)
  refine lv_aload hx hb dX12_count_71 (lv_at hl 4 rfl) ?_
  refine lv_iload hx hb dX12_count_73 (lv_at hl 0 rfl) ?_
  refine r_zald (k := 13) hx hb hK hP 1 1 rfl rfl (Nat.le_of_ble_eq_true rfl) (by decide) (v := nI 0) rfl dX12_count_75 ?_
  refine lv_istore (lv' := [(7, .int (nI 0)), (6, .int (nI 13)), (3, .int (nI 0)), (5, .int (nI 20)), (4, .ref h3), (2, .int (nI 0)), (0, .ref h0), (1, .int (nI 11))]) hx hb dX12_count_76 hl (by decide) rfl (fun ls hl => ?_)
  refine lv_iload_n hx hb dX12_count_78 rfl (lv_at hl 2 rfl) ?_
  refine lv_iload hx hb dX12_count_79 (lv_at hl 0 rfl) ?_
  refine lv_if_eq (tgt := 88) hx hb dX12_count_81 (by decide) (fun _ => ?_) (fun c9 => absurd (by decide +kernel) c9)
  refine lv_iconst (v := nI 0) hx hb dX12_count_88 (by decide +kernel) ?_
  refine lv_iadd hx hb dX12_count_89 ?_
  refine w_toeq (show (nI 0) + (nI 0) = nI 0 by decide +kernel) ?_
  refine lv_istore_n (lv' := [(3, .int (nI 0)), (7, .int (nI 0)), (6, .int (nI 13)), (5, .int (nI 20)), (4, .ref h3), (2, .int (nI 0)), (0, .ref h0), (1, .int (nI 11))]) hx hb dX12_count_90 rfl hl (by decide) rfl (fun ls hl => ?_)
  refine lv_iinc (v := nI 14) (lv' := [(6, .int (nI 14)), (3, .int (nI 0)), (7, .int (nI 0)), (5, .int (nI 20)), (4, .ref h3), (2, .int (nI 0)), (0, .ref h0), (1, .int (nI 11))]) hx hb dX12_count_91 hl (k := 2) rfl (by decide +kernel) (by decide) rfl (fun ls hl => ?_)
  refine lv_goto (tgt := 64) hx hb dX12_count_94 (by decide) ?_
  refine lv_iload hx hb dX12_count_64 (lv_at hl 0 rfl) ?_
  refine lv_iload hx hb dX12_count_66 (lv_at hl 3 rfl) ?_
  refine lv_icmp_ge (tgt := 97) hx hb dX12_count_68 (by decide) (fun c9 => absurd c9 (by decide +kernel)) (fun _ => ?_)
  refine lv_aload hx hb dX12_count_71 (lv_at hl 4 rfl) ?_
  refine lv_iload hx hb dX12_count_73 (lv_at hl 0 rfl) ?_
  refine r_zald (k := 14) hx hb hK hP 1 1 rfl rfl (Nat.le_of_ble_eq_true rfl) (by decide) (v := nI 0) rfl dX12_count_75 ?_
  refine lv_istore (lv' := [(7, .int (nI 0)), (6, .int (nI 14)), (3, .int (nI 0)), (5, .int (nI 20)), (4, .ref h3), (2, .int (nI 0)), (0, .ref h0), (1, .int (nI 11))]) hx hb dX12_count_76 hl (by decide) rfl (fun ls hl => ?_)
  refine lv_iload_n hx hb dX12_count_78 rfl (lv_at hl 2 rfl) ?_
  refine lv_iload hx hb dX12_count_79 (lv_at hl 0 rfl) ?_
  refine lv_if_eq (tgt := 88) hx hb dX12_count_81 (by decide) (fun _ => ?_) (fun c9 => absurd (by decide +kernel) c9)
  refine lv_iconst (v := nI 0) hx hb dX12_count_88 (by decide +kernel) ?_
  refine lv_iadd hx hb dX12_count_89 ?_
  refine w_toeq (show (nI 0) + (nI 0) = nI 0 by decide +kernel) ?_
  refine lv_istore_n (lv' := [(3, .int (nI 0)), (7, .int (nI 0)), (6, .int (nI 14)), (5, .int (nI 20)), (4, .ref h3), (2, .int (nI 0)), (0, .ref h0), (1, .int (nI 11))]) hx hb dX12_count_90 rfl hl (by decide) rfl (fun ls hl => ?_)
  refine lv_iinc (v := nI 15) (lv' := [(6, .int (nI 15)), (3, .int (nI 0)), (7, .int (nI 0)), (5, .int (nI 20)), (4, .ref h3), (2, .int (nI 0)), (0, .ref h0), (1, .int (nI 11))]) hx hb dX12_count_91 hl (k := 2) rfl (by decide +kernel) (by decide) rfl (fun ls hl => ?_)
  refine lv_goto (tgt := 64) hx hb dX12_count_94 (by decide) ?_
  refine lv_iload hx hb dX12_count_64 (lv_at hl 0 rfl) ?_
  refine lv_iload hx hb dX12_count_66 (lv_at hl 3 rfl) ?_
  refine lv_icmp_ge (tgt := 97) hx hb dX12_count_68 (by decide) (fun c9 => absurd c9 (by decide +kernel)) (fun _ => ?_)
  refine lv_aload hx hb dX12_count_71 (lv_at hl 4 rfl) ?_
  refine lv_iload hx hb dX12_count_73 (lv_at hl 0 rfl) ?_
  refine r_zald (k := 15) hx hb hK hP 1 1 rfl rfl (Nat.le_of_ble_eq_true rfl) (by decide) (v := nI 0) rfl dX12_count_75 ?_
  refine lv_istore (lv' := [(7, .int (nI 0)), (6, .int (nI 15)), (3, .int (nI 0)), (5, .int (nI 20)), (4, .ref h3), (2, .int (nI 0)), (0, .ref h0), (1, .int (nI 11))]) hx hb dX12_count_76 hl (by decide) rfl (fun ls hl => ?_)
  refine lv_iload_n hx hb dX12_count_78 rfl (lv_at hl 2 rfl) ?_
  refine lv_iload hx hb dX12_count_79 (lv_at hl 0 rfl) ?_
  refine lv_if_eq (tgt := 88) hx hb dX12_count_81 (by decide) (fun _ => ?_) (fun c9 => absurd (by decide +kernel) c9)
  refine lv_iconst (v := nI 0) hx hb dX12_count_88 (by decide +kernel) ?_
  refine lv_iadd hx hb dX12_count_89 ?_
  refine w_toeq (show (nI 0) + (nI 0) = nI 0 by decide +kernel) ?_
  refine lv_istore_n (lv' := [(3, .int (nI 0)), (7, .int (nI 0)), (6, .int (nI 15)), (5, .int (nI 20)), (4, .ref h3), (2, .int (nI 0)), (0, .ref h0), (1, .int (nI 11))]) hx hb dX12_count_90 rfl hl (by decide) rfl (fun ls hl => ?_)
  refine lv_iinc (v := nI 16) (lv' := [(6, .int (nI 16)), (3, .int (nI 0)), (7, .int (nI 0)), (5, .int (nI 20)), (4, .ref h3), (2, .int (nI 0)), (0, .ref h0), (1, .int (nI 11))]) hx hb dX12_count_91 hl (k := 2) rfl (by decide +kernel) (by decide) rfl (fun ls hl => ?_)
  refine lv_goto (tgt := 64) hx hb dX12_count_94 (by decide) ?_
  refine lv_iload hx hb dX12_count_64 (lv_at hl 0 rfl) ?_
  refine lv_iload hx hb dX12_count_66 (lv_at hl 3 rfl) ?_
  refine lv_icmp_ge (tgt := 97) hx hb dX12_count_68 (by decide) (fun c9 => absurd c9 (by decide +kernel)) (fun _ => ?_)
  refine lv_aload hx hb dX12_count_71 (lv_at hl 4 rfl) ?_
  refine lv_iload hx hb dX12_count_73 (lv_at hl 0 rfl) ?_
  refine r_zald (k := 16) hx hb hK hP 1 1 rfl rfl (Nat.le_of_ble_eq_true rfl) (by decide) (v := nI 0) rfl dX12_count_75 ?_
  refine lv_istore (lv' := [(7, .int (nI 0)), (6, .int (nI 16)), (3, .int (nI 0)), (5, .int (nI 20)), (4, .ref h3), (2, .int (nI 0)), (0, .ref h0), (1, .int (nI 11))]) hx hb dX12_count_76 hl (by decide) rfl (fun ls hl => ?_)
  refine lv_iload_n hx hb dX12_count_78 rfl (lv_at hl 2 rfl) ?_
  refine lv_iload hx hb dX12_count_79 (lv_at hl 0 rfl) ?_
  refine lv_if_eq (tgt := 88) hx hb dX12_count_81 (by decide) (fun _ => ?_) (fun c9 => absurd (by decide +kernel) c9)
  refine lv_iconst (v := nI 0) hx hb dX12_count_88 (by decide +kernel) ?_
  refine lv_iadd hx hb dX12_count_89 ?_
  refine w_toeq (show (nI 0) + (nI 0) = nI 0 by decide +kernel) ?_
  refine lv_istore_n (lv' := [(3, .int (nI 0)), (7, .int (nI 0)), (6, .int (nI 16)), (5, .int (nI 20)), (4, .ref h3), (2, .int (nI 0)), (0, .ref h0), (1, .int (nI 11))]) hx hb dX12_count_90 rfl hl (by decide) rfl (fun ls hl => ?_)
  refine lv_iinc (v := nI 17) (lv' := [(6, .int (nI 17)), (3, .int (nI 0)), (7, .int (nI 0)), (5, .int (nI 20)), (4, .ref h3), (2, .int (nI 0)), (0, .ref h0), (1, .int (nI 11))]) hx hb dX12_count_91 hl (k := 2) rfl (by decide +kernel) (by decide) rfl (fun ls hl => ?_)
  refine lv_goto (tgt := 64) hx hb dX12_count_94 (by decide) ?_
  refine lv_iload hx hb dX12_count_64 (lv_at hl 0 rfl) ?_
  refine lv_iload hx hb dX12_count_66 (lv_at hl 3 rfl) ?_
  refine lv_icmp_ge (tgt := 97) hx hb dX12_count_68 (by decide) (fun c9 => absurd c9 (by decide +kernel)) (fun _ => ?_)
  refine lv_aload hx hb dX12_count_71 (lv_at hl 4 rfl) ?_
  refine lv_iload hx hb dX12_count_73 (lv_at hl 0 rfl) ?_
  refine r_zald (k := 17) hx hb hK hP 1 1 rfl rfl (Nat.le_of_ble_eq_true rfl) (by decide) (v := nI 0) rfl dX12_count_75 ?_
  refine lv_istore (lv' := [(7, .int (nI 0)), (6, .int (nI 17)), (3, .int (nI 0)), (5, .int (nI 20)), (4, .ref h3), (2, .int (nI 0)), (0, .ref h0), (1, .int (nI 11))]) hx hb dX12_count_76 hl (by decide) rfl (fun ls hl => ?_)
  refine lv_iload_n hx hb dX12_count_78 rfl (lv_at hl 2 rfl) ?_
  refine lv_iload hx hb dX12_count_79 (lv_at hl 0 rfl) ?_
  refine lv_if_eq (tgt := 88) hx hb dX12_count_81 (by decide) (fun _ => ?_) (fun c9 => absurd (by decide +kernel) c9)
  refine lv_iconst (v := nI 0) hx hb dX12_count_88 (by decide +kernel) ?_
  refine lv_iadd hx hb dX12_count_89 ?_
  refine w_toeq (show (nI 0) + (nI 0) = nI 0 by decide +kernel) ?_
  refine lv_istore_n (lv' := [(3, .int (nI 0)), (7, .int (nI 0)), (6, .int (nI 17)), (5, .int (nI 20)), (4, .ref h3), (2, .int (nI 0)), (0, .ref h0), (1, .int (nI 11))]) hx hb dX12_count_90 rfl hl (by decide) rfl (fun ls hl => ?_)
  refine lv_iinc (v := nI 18) (lv' := [(6, .int (nI 18)), (3, .int (nI 0)), (7, .int (nI 0)), (5, .int (nI 20)), (4, .ref h3), (2, .int (nI 0)), (0, .ref h0), (1, .int (nI 11))]) hx hb dX12_count_91 hl (k := 2) rfl (by decide +kernel) (by decide) rfl (fun ls hl => ?_)
  refine lv_goto (tgt := 64) hx hb dX12_count_94 (by decide) ?_
  refine lv_iload hx hb dX12_count_64 (lv_at hl 0 rfl) ?_
  refine lv_iload hx hb dX12_count_66 (lv_at hl 3 rfl) ?_
  refine lv_icmp_ge (tgt := 97) hx hb dX12_count_68 (by decide) (fun c9 => absurd c9 (by decide +kernel)) (fun _ => ?_)
  refine lv_aload hx hb dX12_count_71 (lv_at hl 4 rfl) ?_
  refine lv_iload hx hb dX12_count_73 (lv_at hl 0 rfl) ?_
  refine r_zald (k := 18) hx hb hK hP 1 1 rfl rfl (Nat.le_of_ble_eq_true rfl) (by decide) (v := nI 0) rfl dX12_count_75 ?_
  refine lv_istore (lv' := [(7, .int (nI 0)), (6, .int (nI 18)), (3, .int (nI 0)), (5, .int (nI 20)), (4, .ref h3), (2, .int (nI 0)), (0, .ref h0), (1, .int (nI 11))]) hx hb dX12_count_76 hl (by decide) rfl (fun ls hl => ?_)
  refine lv_iload_n hx hb dX12_count_78 rfl (lv_at hl 2 rfl) ?_
  refine lv_iload hx hb dX12_count_79 (lv_at hl 0 rfl) ?_
  refine lv_if_eq (tgt := 88) hx hb dX12_count_81 (by decide) (fun _ => ?_) (fun c9 => absurd (by decide +kernel) c9)
  refine lv_iconst (v := nI 0) hx hb dX12_count_88 (by decide +kernel) ?_
  refine lv_iadd hx hb dX12_count_89 ?_
  refine w_toeq (show (nI 0) + (nI 0) = nI 0 by decide +kernel) ?_
  refine lv_istore_n (lv' := [(3, .int (nI 0)), (7, .int (nI 0)), (6, .int (nI 18)), (5, .int (nI 20)), (4, .ref h3), (2, .int (nI 0)), (0, .ref h0), (1, .int (nI 11))]) hx hb dX12_count_90 rfl hl (by decide) rfl (fun ls hl => ?_)
  refine lv_iinc (v := nI 19) (lv' := [(6, .int (nI 19)), (3, .int (nI 0)), (7, .int (nI 0)), (5, .int (nI 20)), (4, .ref h3), (2, .int (nI 0)), (0, .ref h0), (1, .int (nI 11))]) hx hb dX12_count_91 hl (k := 2) rfl (by decide +kernel) (by decide) rfl (fun ls hl => ?_)
  refine lv_goto (tgt := 64) hx hb dX12_count_94 (by decide) ?_
  refine lv_iload hx hb dX12_count_64 (lv_at hl 0 rfl) ?_
  refine lv_iload hx hb dX12_count_66 (lv_at hl 3 rfl) ?_
  refine lv_icmp_ge (tgt := 97) hx hb dX12_count_68 (by decide) (fun c9 => absurd c9 (by decide +kernel)) (fun _ => ?_)
  refine lv_aload hx hb dX12_count_71 (lv_at hl 4 rfl) ?_
  refine lv_iload hx hb dX12_count_73 (lv_at hl 0 rfl) ?_
  refine r_zald (k := 19) hx hb hK hP 1 1 rfl rfl (Nat.le_of_ble_eq_true rfl) (by decide) (v := nI 0) rfl dX12_count_75 ?_
  refine lv_istore (lv' := [(7, .int (nI 0)), (6, .int (nI 19)), (3, .int (nI 0)), (5, .int (nI 20)), (4, .ref h3), (2, .int (nI 0)), (0, .ref h0), (1, .int (nI 11))]) hx hb dX12_count_76 hl (by decide) rfl (fun ls hl => ?_)
  refine lv_iload_n hx hb dX12_count_78 rfl (lv_at hl 2 rfl) ?_
  refine lv_iload hx hb dX12_count_79 (lv_at hl 0 rfl) ?_
  refine lv_if_eq (tgt := 88) hx hb dX12_count_81 (by decide) (fun _ => ?_) (fun c9 => absurd (by decide +kernel) c9)
  refine lv_iconst (v := nI 0) hx hb dX12_count_88 (by decide +kernel) ?_
  refine lv_iadd hx hb dX12_count_89 ?_
  refine w_toeq (show (nI 0) + (nI 0) = nI 0 by decide +kernel) ?_
  refine lv_istore_n (lv' := [(3, .int (nI 0)), (7, .int (nI 0)), (6, .int (nI 19)), (5, .int (nI 20)), (4, .ref h3), (2, .int (nI 0)), (0, .ref h0), (1, .int (nI 11))]) hx hb dX12_count_90 rfl hl (by decide) rfl (fun ls hl => ?_)
  refine lv_iinc (v := nI 20) (lv' := [(6, .int (nI 20)), (3, .int (nI 0)), (7, .int (nI 0)), (5, .int (nI 20)), (4, .ref h3), (2, .int (nI 0)), (0, .ref h0), (1, .int (nI 11))]) hx hb dX12_count_91 hl (k := 2) rfl (by decide +kernel) (by decide) rfl (fun ls hl => ?_)
  refine lv_goto (tgt := 64) hx hb dX12_count_94 (by decide) ?_
  refine lv_iload hx hb dX12_count_64 (lv_at hl 0 rfl) ?_
  refine lv_iload hx hb dX12_count_66 (lv_at hl 3 rfl) ?_
  refine lv_icmp_ge (tgt := 97) hx hb dX12_count_68 (by decide) (fun _ => ?_) (fun c9 => absurd (by decide +kernel) c9)
  refine lv_bipush (v := nI 16) hx hb dX12_count_97 (by decide +kernel) ?_
  refine r_newa (atype := .int) hx hb hts w_1292 rfl hK hP hD hS hA 2 rfl (N := 16) (a0 := (16, .inl (fun _ => nI 0))) (fun _ => rfl) (by decide +kernel) (by decide +kernel) (by decide) (Nat.le_of_ble_eq_true rfl) (Nat.le_of_ble_eq_true rfl) dX12_count_99 (w2 := fun q0 => [(h0, .inr (12, [v0, .ref h1])), (h3, .inl (K 1, 20, .inl (fun _ => nI 0))), (h4, .inr (13, [v7, v8, .int (nI 1)])), (h5, .inr (13, [v9, v10, .int (nI 0)])), (h1, .inr (10, [.ref h2, .ref h4, v1, .ref h5, .ref h3, .int (nI 0), .int (nI 0), .int (nI 60), .int (nI 0), v2, v3, .int (nI 0), .int (nI 0), .int (nI 0), .int (nI 0), v4, v5])), ((u0 1), .inr (14, [.int (nI 0), .int (-1), .int (nI 0), .ref h2])), (h2, .inr (13, [.int (nI 0), v6, .int (nI 0)])), ((u1 0), .inr (14, [.int (nI 0), .int (-1), .int (nI 0), .ref (u0 0)])), ((u0 0), .inr (13, [.int (nI 0), .ref (G 0), .int (nI 0)])), (q0, .inl (K 2, 16, .inl (fun _ => nI 0)))]) (fun _ => rfl) (fun q0 H hP hD hS => ?_)
  refine lv_dup hx hb dX12_count_101 rfl ?_
  refine lv_iconst (v := nI 0) hx hb dX12_count_102 (by decide +kernel) ?_
  refine lv_aload_n hx hb dX12_count_103 rfl (lv_at hl 6 rfl) ?_
  refine r_get hx hb hts ok_RX12 hown hK hP 0 rfl rfl 1 (by decide) w_1294 (fun _ h9 => h9) rfl dX12_count_104 ?_
  refine r_get hx hb hts ok_RX10 hown hK hP 4 rfl rfl 0 (by decide) w_1225 (fun _ h9 => h9) rfl dX12_count_107 ?_
  refine k_i (wr := [(h0, .inr (12, [v0, .ref h1])), (h3, .inl (K 1, 20, .inl (fun _ => nI 0))), (h4, .inr (13, [v7, v8, .int (nI 1)])), (h5, .inr (13, [v9, v10, .int (nI 0)])), (h1, .inr (10, [.ref h2, .ref h4, v1, .ref h5, .ref h3, .int (nI 0), .int (nI 0), .int (nI 60), .int (nI 0), v2, v3, .int (nI 0), .int (nI 0), .int (nI 0), .int (nI 0), v4, v5])), ((u0 1), .inr (14, [.int (nI 0), .int (-1), .int (nI 0), .ref h2])), ((u1 0), .inr (14, [.int (nI 0), .int (-1), .int (nI 0), .ref (u0 0)])), ((u0 0), .inr (13, [.int (nI 0), .ref (G 0), .int (nI 0)])), (q0, .inl (K 2, 16, .inl (fun _ => nI 0)))]) (run_V (rest := [.int (nI 0), .ref q0, .ref q0]) hx hb hml hown hts hK hP hD hS hA hm (C102_size l G D K H.size h2 (.int (nI 0)) (v6)) [6] rfl rfl mok_yJx4a65c_size_8abf5 w_1308 w_1309 w_1310 (rcv hK hP 6 rfl rfl rfl) ⟨Nat.le_of_ble_eq_true rfl, Nat.le_of_ble_eq_true rfl⟩ rfl hl.1 rfl (Nat.le_of_ble_eq_true rfl) dX12_count_110 ⟨(Nat.le_of_ble_eq_true rfl), (Nat.le_of_ble_eq_true rfl)⟩) hP hD hS hA [6] [0, 1, 2, 3, 4, 5, 7, 8, 9] rfl rfl rfl (by decide) (w2 := fun u3 => [(h0, .inr (12, [v0, .ref h1])), (h3, .inl (K 1, 20, .inl (fun _ => nI 0))), (h4, .inr (13, [v7, v8, .int (nI 1)])), (h5, .inr (13, [v9, v10, .int (nI 0)])), (h1, .inr (10, [.ref h2, .ref h4, v1, .ref h5, .ref h3, .int (nI 0), .int (nI 0), .int (nI 60), .int (nI 0), v2, v3, .int (nI 0), .int (nI 0), .int (nI 0), .int (nI 0), v4, v5])), ((u0 1), .inr (14, [.int (nI 0), .int (-1), .int (nI 0), .ref h2])), ((u1 0), .inr (14, [.int (nI 0), .int (-1), .int (nI 0), .ref (u0 0)])), ((u0 0), .inr (13, [.int (nI 0), .ref (G 0), .int (nI 0)])), (q0, .inl (K 2, 16, .inl (fun _ => nI 0))), (h2, .inr (13, [.int (nI 0), v6, .int (nI 0)]))]) (fun _ => rfl) (fun u3 H locs hP hD hS => ?_)
  refine r_iast (k := 0) hx hb hK hP hD hS 8 2 rfl rfl (Nat.le_of_ble_eq_true rfl) (by decide) dX12_count_113 (ws' := [(h0, .inr (12, [v0, .ref h1])), (h3, .inl (K 1, 20, .inl (fun _ => nI 0))), (h4, .inr (13, [v7, v8, .int (nI 1)])), (h5, .inr (13, [v9, v10, .int (nI 0)])), (h1, .inr (10, [.ref h2, .ref h4, v1, .ref h5, .ref h3, .int (nI 0), .int (nI 0), .int (nI 60), .int (nI 0), v2, v3, .int (nI 0), .int (nI 0), .int (nI 0), .int (nI 0), v4, v5])), ((u0 1), .inr (14, [.int (nI 0), .int (-1), .int (nI 0), .ref h2])), ((u1 0), .inr (14, [.int (nI 0), .int (-1), .int (nI 0), .ref (u0 0)])), ((u0 0), .inr (13, [.int (nI 0), .ref (G 0), .int (nI 0)])), (q0, .inl (K 2, 16, .inl (fun _ => nI 0))), (h2, .inr (13, [.int (nI 0), v6, .int (nI 0)]))]) (by rw [upd_c]; rfl) (fun H locs hP hD hS => ?_)
  refine lv_dup hx hb dX12_count_114 rfl ?_
  refine lv_iconst (v := nI 1) hx hb dX12_count_115 (by decide +kernel) ?_
  refine lv_aload_n hx hb dX12_count_116 rfl (lv_at hl 6 rfl) ?_
  refine r_get hx hb hts ok_RX12 hown hK hP 0 rfl rfl 1 (by decide) w_1294 (fun _ h9 => h9) rfl dX12_count_117 ?_
  refine k_i (wr := [(h0, .inr (12, [v0, .ref h1])), (h3, .inl (K 1, 20, .inl (fun _ => nI 0))), (h4, .inr (13, [v7, v8, .int (nI 1)])), (h5, .inr (13, [v9, v10, .int (nI 0)])), ((u0 1), .inr (14, [.int (nI 0), .int (-1), .int (nI 0), .ref h2])), ((u1 0), .inr (14, [.int (nI 0), .int (-1), .int (nI 0), .ref (u0 0)])), ((u0 0), .inr (13, [.int (nI 0), .ref (G 0), .int (nI 0)])), (q0, .inl (K 2, 16, .inl (fun _ => nI 0)))]) (run_VN (rest := [.int (nI 1), .ref q0, .ref q0]) hx hb hml hown hts hK hP hD hS hA hm (C723_there l G D K H.size h1 h2 (.ref h4) (v1) (.ref h5) (.ref h3) (.int (nI 0)) (.int (nI 0)) (.int (nI 60)) (.int (nI 0)) (v2) (v3) (.int (nI 0)) (.int (nI 0)) (.int (nI 0)) (.int (nI 0)) (v4) (v5) (v6)) [4, 9] rfl rfl mok_yX10_there w_2040 w_1758 w_p38 (rcv hK hP 4 rfl rfl rfl) ⟨Nat.le_of_ble_eq_true rfl, Nat.le_of_ble_eq_true rfl⟩ rfl hl.1 rfl (Nat.le_of_ble_eq_true rfl) dX12_count_120 ⟨(Nat.le_of_ble_eq_true rfl), (Nat.le_of_ble_eq_true rfl)⟩) hP hD hS hA [4, 9] [0, 1, 2, 3, 5, 6, 7, 8] rfl rfl rfl (by decide) (w2 := fun u4 => [(h0, .inr (12, [v0, .ref h1])), (h3, .inl (K 1, 20, .inl (fun _ => nI 0))), (h4, .inr (13, [v7, v8, .int (nI 1)])), (h5, .inr (13, [v9, v10, .int (nI 0)])), ((u0 1), .inr (14, [.int (nI 0), .int (-1), .int (nI 0), .ref h2])), ((u1 0), .inr (14, [.int (nI 0), .int (-1), .int (nI 0), .ref (u0 0)])), ((u0 0), .inr (13, [.int (nI 0), .ref (G 0), .int (nI 0)])), (q0, .inl (K 2, 16, .inl (fun _ => nI 0))), (h1, .inr (10, [.ref h2, .ref h4, v1, .ref h5, .ref h3, .int (nI 0), .int (nI 0), .int (nI 60), .int (nI 0), v2, v3, .int (nI 0), .int (nI 0), .int (nI 0), .int (nI 0), v4, v5])), ((u4 0), .inr (14, [.int (nI 0), .int (-1), .int (nI 0), .ref h2])), (h2, .inr (13, [.int (nI 0), v6, .int (nI 0)]))]) (fun _ => rfl) (fun u4 H locs hP hD hS => ?_)
  refine r_iast (k := 1) hx hb hK hP hD hS 7 2 rfl rfl (Nat.le_of_ble_eq_true rfl) (by decide) dX12_count_123 (ws' := [(h0, .inr (12, [v0, .ref h1])), (h3, .inl (K 1, 20, .inl (fun _ => nI 0))), (h4, .inr (13, [v7, v8, .int (nI 1)])), (h5, .inr (13, [v9, v10, .int (nI 0)])), ((u0 1), .inr (14, [.int (nI 0), .int (-1), .int (nI 0), .ref h2])), ((u1 0), .inr (14, [.int (nI 0), .int (-1), .int (nI 0), .ref (u0 0)])), ((u0 0), .inr (13, [.int (nI 0), .ref (G 0), .int (nI 0)])), (q0, .inl (K 2, 16, .inl (fun _ => nI 0))), (h1, .inr (10, [.ref h2, .ref h4, v1, .ref h5, .ref h3, .int (nI 0), .int (nI 0), .int (nI 60), .int (nI 0), v2, v3, .int (nI 0), .int (nI 0), .int (nI 0), .int (nI 0), v4, v5])), ((u4 0), .inr (14, [.int (nI 0), .int (-1), .int (nI 0), .ref h2])), (h2, .inr (13, [.int (nI 0), v6, .int (nI 0)]))]) (by rw [upd_c]; rfl) (fun H locs hP hD hS => ?_)
  refine lv_dup hx hb dX12_count_124 rfl ?_
  refine lv_iconst (v := nI 2) hx hb dX12_count_125 (by decide +kernel) ?_
  refine lv_aload_n hx hb dX12_count_126 rfl (lv_at hl 6 rfl) ?_
  refine r_get hx hb hts ok_RX12 hown hK hP 0 rfl rfl 1 (by decide) w_1294 (fun _ h9 => h9) rfl dX12_count_127 ?_
  refine r_get hx hb hts ok_RX10 hown hK hP 8 rfl rfl 1 (by decide) w_1227 (fun _ h9 => h9) rfl dX12_count_130 ?_
  refine k_i (wr := [(h0, .inr (12, [v0, .ref h1])), (h3, .inl (K 1, 20, .inl (fun _ => nI 0))), (h5, .inr (13, [v9, v10, .int (nI 0)])), ((u0 1), .inr (14, [.int (nI 0), .int (-1), .int (nI 0), .ref h2])), ((u1 0), .inr (14, [.int (nI 0), .int (-1), .int (nI 0), .ref (u0 0)])), ((u0 0), .inr (13, [.int (nI 0), .ref (G 0), .int (nI 0)])), (q0, .inl (K 2, 16, .inl (fun _ => nI 0))), (h1, .inr (10, [.ref h2, .ref h4, v1, .ref h5, .ref h3, .int (nI 0), .int (nI 0), .int (nI 60), .int (nI 0), v2, v3, .int (nI 0), .int (nI 0), .int (nI 0), .int (nI 0), v4, v5])), ((u4 0), .inr (14, [.int (nI 0), .int (-1), .int (nI 0), .ref h2])), (h2, .inr (13, [.int (nI 0), v6, .int (nI 0)]))]) (run_V (rest := [.int (nI 2), .ref q0, .ref q0]) hx hb hml hown hts hK hP hD hS hA hm (C23_size l G D K H.size h4 (v7) (v8)) [2] rfl rfl mok_yJx4a65c_size_8abf5 w_1308 w_1309 w_1310 (rcv hK hP 2 rfl rfl rfl) ⟨Nat.le_of_ble_eq_true rfl, Nat.le_of_ble_eq_true rfl⟩ rfl hl.1 rfl (Nat.le_of_ble_eq_true rfl) dX12_count_133 ⟨(Nat.le_of_ble_eq_true rfl), (Nat.le_of_ble_eq_true rfl)⟩) hP hD hS hA [2] [0, 1, 3, 4, 5, 6, 7, 8, 9, 10] rfl rfl rfl (by decide) (w2 := fun u5 => [(h0, .inr (12, [v0, .ref h1])), (h3, .inl (K 1, 20, .inl (fun _ => nI 0))), (h5, .inr (13, [v9, v10, .int (nI 0)])), ((u0 1), .inr (14, [.int (nI 0), .int (-1), .int (nI 0), .ref h2])), ((u1 0), .inr (14, [.int (nI 0), .int (-1), .int (nI 0), .ref (u0 0)])), ((u0 0), .inr (13, [.int (nI 0), .ref (G 0), .int (nI 0)])), (q0, .inl (K 2, 16, .inl (fun _ => nI 0))), (h1, .inr (10, [.ref h2, .ref h4, v1, .ref h5, .ref h3, .int (nI 0), .int (nI 0), .int (nI 60), .int (nI 0), v2, v3, .int (nI 0), .int (nI 0), .int (nI 0), .int (nI 0), v4, v5])), ((u4 0), .inr (14, [.int (nI 0), .int (-1), .int (nI 0), .ref h2])), (h2, .inr (13, [.int (nI 0), v6, .int (nI 0)])), (h4, .inr (13, [v7, v8, .int (nI 1)]))]) (fun _ => rfl) (fun u5 H locs hP hD hS => ?_)
  refine r_iast (k := 2) hx hb hK hP hD hS 6 2 rfl rfl (Nat.le_of_ble_eq_true rfl) (by decide) dX12_count_136 (ws' := [(h0, .inr (12, [v0, .ref h1])), (h3, .inl (K 1, 20, .inl (fun _ => nI 0))), (h5, .inr (13, [v9, v10, .int (nI 0)])), ((u0 1), .inr (14, [.int (nI 0), .int (-1), .int (nI 0), .ref h2])), ((u1 0), .inr (14, [.int (nI 0), .int (-1), .int (nI 0), .ref (u0 0)])), ((u0 0), .inr (13, [.int (nI 0), .ref (G 0), .int (nI 0)])), (q0, .inl (K 2, 16, .inl (upd (fun _ => nI 0) 2 (nI 1)))), (h1, .inr (10, [.ref h2, .ref h4, v1, .ref h5, .ref h3, .int (nI 0), .int (nI 0), .int (nI 60), .int (nI 0), v2, v3, .int (nI 0), .int (nI 0), .int (nI 0), .int (nI 0), v4, v5])), ((u4 0), .inr (14, [.int (nI 0), .int (-1), .int (nI 0), .ref h2])), (h2, .inr (13, [.int (nI 0), v6, .int (nI 0)])), (h4, .inr (13, [v7, v8, .int (nI 1)]))]) rfl (fun H locs hP hD hS => ?_)
  refine lv_dup hx hb dX12_count_137 rfl ?_
  refine lv_iconst (v := nI 3) hx hb dX12_count_138 (by decide +kernel) ?_
  refine lv_aload_n hx hb dX12_count_139 rfl (lv_at hl 6 rfl) ?_
  refine r_get hx hb hts ok_RX12 hown hK hP 0 rfl rfl 1 (by decide) w_1294 (fun _ h9 => h9) rfl dX12_count_140 ?_
  refine r_get hx hb hts ok_RX10 hown hK hP 7 rfl rfl 6 (by decide) w_1237 (fun _ h9 => h9) rfl dX12_count_143 ?_
  refine r_iast (k := 3) hx hb hK hP hD hS 6 2 rfl rfl (Nat.le_of_ble_eq_true rfl) (by decide) dX12_count_146 (ws' := [(h0, .inr (12, [v0, .ref h1])), (h3, .inl (K 1, 20, .inl (fun _ => nI 0))), (h5, .inr (13, [v9, v10, .int (nI 0)])), ((u0 1), .inr (14, [.int (nI 0), .int (-1), .int (nI 0), .ref h2])), ((u1 0), .inr (14, [.int (nI 0), .int (-1), .int (nI 0), .ref (u0 0)])), ((u0 0), .inr (13, [.int (nI 0), .ref (G 0), .int (nI 0)])), (q0, .inl (K 2, 16, .inl (upd (upd (fun _ => nI 0) 2 (nI 1)) 3 (nI 0)))), (h1, .inr (10, [.ref h2, .ref h4, v1, .ref h5, .ref h3, .int (nI 0), .int (nI 0), .int (nI 60), .int (nI 0), v2, v3, .int (nI 0), .int (nI 0), .int (nI 0), .int (nI 0), v4, v5])), ((u4 0), .inr (14, [.int (nI 0), .int (-1), .int (nI 0), .ref h2])), (h2, .inr (13, [.int (nI 0), v6, .int (nI 0)])), (h4, .inr (13, [v7, v8, .int (nI 1)]))]) rfl (fun H locs hP hD hS => ?_)
  refine lv_dup hx hb dX12_count_147 rfl ?_
  refine lv_iconst (v := nI 4) hx hb dX12_count_148 (by decide +kernel) ?_
  refine lv_aload_n hx hb dX12_count_149 rfl (lv_at hl 6 rfl) ?_
  refine r_get hx hb hts ok_RX12 hown hK hP 0 rfl rfl 1 (by decide) w_1294 (fun _ h9 => h9) rfl dX12_count_150 ?_
  refine r_get hx hb hts ok_RX10 hown hK hP 7 rfl rfl 5 (by decide) w_1235 (fun _ h9 => h9) rfl dX12_count_153 ?_
  refine r_iast (k := 4) hx hb hK hP hD hS 6 2 rfl rfl (Nat.le_of_ble_eq_true rfl) (by decide) dX12_count_156 (ws' := [(h0, .inr (12, [v0, .ref h1])), (h3, .inl (K 1, 20, .inl (fun _ => nI 0))), (h5, .inr (13, [v9, v10, .int (nI 0)])), ((u0 1), .inr (14, [.int (nI 0), .int (-1), .int (nI 0), .ref h2])), ((u1 0), .inr (14, [.int (nI 0), .int (-1), .int (nI 0), .ref (u0 0)])), ((u0 0), .inr (13, [.int (nI 0), .ref (G 0), .int (nI 0)])), (q0, .inl (K 2, 16, .inl (upd (upd (upd (fun _ => nI 0) 2 (nI 1)) 3 (nI 0)) 4 (nI 0)))), (h1, .inr (10, [.ref h2, .ref h4, v1, .ref h5, .ref h3, .int (nI 0), .int (nI 0), .int (nI 60), .int (nI 0), v2, v3, .int (nI 0), .int (nI 0), .int (nI 0), .int (nI 0), v4, v5])), ((u4 0), .inr (14, [.int (nI 0), .int (-1), .int (nI 0), .ref h2])), (h2, .inr (13, [.int (nI 0), v6, .int (nI 0)])), (h4, .inr (13, [v7, v8, .int (nI 1)]))]) rfl (fun H locs hP hD hS => ?_)
  refine lv_dup hx hb dX12_count_157 rfl ?_
  refine lv_iconst (v := nI 5) hx hb dX12_count_158 (by decide +kernel) ?_
  refine lv_aload_n hx hb dX12_count_159 rfl (lv_at hl 6 rfl) ?_
  refine r_get hx hb hts ok_RX12 hown hK hP 0 rfl rfl 1 (by decide) w_1294 (fun _ h9 => h9) rfl dX12_count_160 ?_
  refine r_get hx hb hts ok_RX10 hown hK hP 7 rfl rfl 8 (by decide) w_1241 (fun _ h9 => h9) rfl dX12_count_163 ?_
  refine r_iast (k := 5) hx hb hK hP hD hS 6 2 rfl rfl (Nat.le_of_ble_eq_true rfl) (by decide) dX12_count_166 (ws' := [(h0, .inr (12, [v0, .ref h1])), (h3, .inl (K 1, 20, .inl (fun _ => nI 0))), (h5, .inr (13, [v9, v10, .int (nI 0)])), ((u0 1), .inr (14, [.int (nI 0), .int (-1), .int (nI 0), .ref h2])), ((u1 0), .inr (14, [.int (nI 0), .int (-1), .int (nI 0), .ref (u0 0)])), ((u0 0), .inr (13, [.int (nI 0), .ref (G 0), .int (nI 0)])), (q0, .inl (K 2, 16, .inl (upd (upd (upd (upd (fun _ => nI 0) 2 (nI 1)) 3 (nI 0)) 4 (nI 0)) 5 (nI 0)))), (h1, .inr (10, [.ref h2, .ref h4, v1, .ref h5, .ref h3, .int (nI 0), .int (nI 0), .int (nI 60), .int (nI 0), v2, v3, .int (nI 0), .int (nI 0), .int (nI 0), .int (nI 0), v4, v5])), ((u4 0), .inr (14, [.int (nI 0), .int (-1), .int (nI 0), .ref h2])), (h2, .inr (13, [.int (nI 0), v6, .int (nI 0)])), (h4, .inr (13, [v7, v8, .int (nI 1)]))]) rfl (fun H locs hP hD hS => ?_)
  refine lv_dup hx hb dX12_count_167 rfl ?_
  refine lv_bipush (v := nI 6) hx hb dX12_count_168 (by decide +kernel) ?_
  refine lv_aload_n hx hb dX12_count_170 rfl (lv_at hl 6 rfl) ?_
  refine r_get hx hb hts ok_RX12 hown hK hP 0 rfl rfl 1 (by decide) w_1294 (fun _ h9 => h9) rfl dX12_count_171 ?_
  refine r_get hx hb hts ok_RX10 hown hK hP 7 rfl rfl 7 (by decide) w_1239 (fun _ h9 => h9) rfl dX12_count_174 ?_
  refine r_iast (k := 6) hx hb hK hP hD hS 6 2 rfl rfl (Nat.le_of_ble_eq_true rfl) (by decide) dX12_count_177 (ws' := [(h0, .inr (12, [v0, .ref h1])), (h3, .inl (K 1, 20, .inl (fun _ => nI 0))), (h5, .inr (13, [v9, v10, .int (nI 0)])), ((u0 1), .inr (14, [.int (nI 0), .int (-1), .int (nI 0), .ref h2])), ((u1 0), .inr (14, [.int (nI 0), .int (-1), .int (nI 0), .ref (u0 0)])), ((u0 0), .inr (13, [.int (nI 0), .ref (G 0), .int (nI 0)])), (q0, .inl (K 2, 16, .inl (upd (upd (upd (upd (upd (fun _ => nI 0) 2 (nI 1)) 3 (nI 0)) 4 (nI 0)) 5 (nI 0)) 6 (nI 60)))), (h1, .inr (10, [.ref h2, .ref h4, v1, .ref h5, .ref h3, .int (nI 0), .int (nI 0), .int (nI 60), .int (nI 0), v2, v3, .int (nI 0), .int (nI 0), .int (nI 0), .int (nI 0), v4, v5])), ((u4 0), .inr (14, [.int (nI 0), .int (-1), .int (nI 0), .ref h2])), (h2, .inr (13, [.int (nI 0), v6, .int (nI 0)])), (h4, .inr (13, [v7, v8, .int (nI 1)]))]) rfl (fun H locs hP hD hS => ?_)
  refine lv_dup hx hb dX12_count_178 rfl ?_
  refine lv_bipush (v := nI 7) hx hb dX12_count_179 (by decide +kernel) ?_
  refine lv_iload_n hx hb dX12_count_181 rfl (lv_at hl 5 rfl) ?_
  refine r_iast (k := 7) hx hb hK hP hD hS 6 2 rfl rfl (Nat.le_of_ble_eq_true rfl) (by decide) dX12_count_182 (ws' := [(h0, .inr (12, [v0, .ref h1])), (h3, .inl (K 1, 20, .inl (fun _ => nI 0))), (h5, .inr (13, [v9, v10, .int (nI 0)])), ((u0 1), .inr (14, [.int (nI 0), .int (-1), .int (nI 0), .ref h2])), ((u1 0), .inr (14, [.int (nI 0), .int (-1), .int (nI 0), .ref (u0 0)])), ((u0 0), .inr (13, [.int (nI 0), .ref (G 0), .int (nI 0)])), (q0, .inl (K 2, 16, .inl (upd (upd (upd (upd (upd (upd (fun _ => nI 0) 2 (nI 1)) 3 (nI 0)) 4 (nI 0)) 5 (nI 0)) 6 (nI 60)) 7 (nI 0)))), (h1, .inr (10, [.ref h2, .ref h4, v1, .ref h5, .ref h3, .int (nI 0), .int (nI 0), .int (nI 60), .int (nI 0), v2, v3, .int (nI 0), .int (nI 0), .int (nI 0), .int (nI 0), v4, v5])), ((u4 0), .inr (14, [.int (nI 0), .int (-1), .int (nI 0), .ref h2])), (h2, .inr (13, [.int (nI 0), v6, .int (nI 0)])), (h4, .inr (13, [v7, v8, .int (nI 1)]))]) rfl (fun H locs hP hD hS => ?_)
  refine lv_dup hx hb dX12_count_183 rfl ?_
  refine lv_bipush (v := nI 8) hx hb dX12_count_184 (by decide +kernel) ?_
  refine lv_aload_n hx hb dX12_count_186 rfl (lv_at hl 6 rfl) ?_
  refine r_get hx hb hts ok_RX12 hown hK hP 0 rfl rfl 1 (by decide) w_1294 (fun _ h9 => h9) rfl dX12_count_187 ?_
  refine k_i (wr := [(h0, .inr (12, [v0, .ref h1])), (h3, .inl (K 1, 20, .inl (fun _ => nI 0))), (h5, .inr (13, [v9, v10, .int (nI 0)])), ((u0 1), .inr (14, [.int (nI 0), .int (-1), .int (nI 0), .ref h2])), ((u1 0), .inr (14, [.int (nI 0), .int (-1), .int (nI 0), .ref (u0 0)])), ((u0 0), .inr (13, [.int (nI 0), .ref (G 0), .int (nI 0)])), (q0, .inl (K 2, 16, .inl (upd (upd (upd (upd (upd (upd (fun _ => nI 0) 2 (nI 1)) 3 (nI 0)) 4 (nI 0)) 5 (nI 0)) 6 (nI 60)) 7 (nI 0)))), ((u4 0), .inr (14, [.int (nI 0), .int (-1), .int (nI 0), .ref h2])), (h4, .inr (13, [v7, v8, .int (nI 1)]))]) (run_V (rest := [.int (nI 8), .ref q0, .ref q0]) hx hb hml hown hts hK hP hD hS hA hm (C880_gaps l G D K H.size h1 h2 (.ref h4) (v1) (.ref h5) (.ref h3) (.int (nI 0)) (.int (nI 0)) (.int (nI 60)) (.int (nI 0)) (v2) (v3) (.int (nI 0)) (.int (nI 0)) (.int (nI 0)) (.int (nI 0)) (v4) (v5) (v6)) [7, 9] rfl rfl mok_yX10_gaps w_2041 w_2042 w_2043 (rcv hK hP 7 rfl rfl rfl) ⟨Nat.le_of_ble_eq_true rfl, Nat.le_of_ble_eq_true rfl⟩ rfl hl.1 rfl (Nat.le_of_ble_eq_true rfl) dX12_count_190 ⟨(Nat.le_of_ble_eq_true rfl), (Nat.le_of_ble_eq_true rfl)⟩) hP hD hS hA [7, 9] [0, 1, 2, 3, 4, 5, 6, 8, 10] rfl rfl rfl (by decide) (w2 := fun u6 => [(h0, .inr (12, [v0, .ref h1])), (h3, .inl (K 1, 20, .inl (fun _ => nI 0))), (h5, .inr (13, [v9, v10, .int (nI 0)])), ((u0 1), .inr (14, [.int (nI 0), .int (-1), .int (nI 0), .ref h2])), ((u1 0), .inr (14, [.int (nI 0), .int (-1), .int (nI 0), .ref (u0 0)])), ((u0 0), .inr (13, [.int (nI 0), .ref (G 0), .int (nI 0)])), (q0, .inl (K 2, 16, .inl (upd (upd (upd (upd (upd (upd (fun _ => nI 0) 2 (nI 1)) 3 (nI 0)) 4 (nI 0)) 5 (nI 0)) 6 (nI 60)) 7 (nI 0)))), ((u4 0), .inr (14, [.int (nI 0), .int (-1), .int (nI 0), .ref h2])), (h4, .inr (13, [v7, v8, .int (nI 1)])), (h1, .inr (10, [.ref h2, .ref h4, v1, .ref h5, .ref h3, .int (nI 0), .int (nI 0), .int (nI 60), .int (nI 0), v2, v3, .int (nI 0), .int (nI 0), .int (nI 0), .int (nI 0), v4, v5])), ((u6 1), .inr (14, [.int (nI 0), .int (-1), .int (nI 0), .ref h2])), (h2, .inr (13, [.int (nI 0), v6, .int (nI 0)])), ((u6 2), .inr (14, [.int (nI 0), .int (-1), .int (nI 0), .ref (u6 0)])), ((u6 0), .inr (13, [.int (nI 0), .ref (G 0), .int (nI 0)]))]) (fun _ => rfl) (fun u6 H locs hP hD hS => ?_)
  refine r_iast (k := 8) hx hb hK hP hD hS 6 2 rfl rfl (Nat.le_of_ble_eq_true rfl) (by decide) dX12_count_193 (ws' := [(h0, .inr (12, [v0, .ref h1])), (h3, .inl (K 1, 20, .inl (fun _ => nI 0))), (h5, .inr (13, [v9, v10, .int (nI 0)])), ((u0 1), .inr (14, [.int (nI 0), .int (-1), .int (nI 0), .ref h2])), ((u1 0), .inr (14, [.int (nI 0), .int (-1), .int (nI 0), .ref (u0 0)])), ((u0 0), .inr (13, [.int (nI 0), .ref (G 0), .int (nI 0)])), (q0, .inl (K 2, 16, .inl (upd (upd (upd (upd (upd (upd (upd (fun _ => nI 0) 2 (nI 1)) 3 (nI 0)) 4 (nI 0)) 5 (nI 0)) 6 (nI 60)) 7 (nI 0)) 8 (nI 1)))), ((u4 0), .inr (14, [.int (nI 0), .int (-1), .int (nI 0), .ref h2])), (h4, .inr (13, [v7, v8, .int (nI 1)])), (h1, .inr (10, [.ref h2, .ref h4, v1, .ref h5, .ref h3, .int (nI 0), .int (nI 0), .int (nI 60), .int (nI 0), v2, v3, .int (nI 0), .int (nI 0), .int (nI 0), .int (nI 0), v4, v5])), ((u6 1), .inr (14, [.int (nI 0), .int (-1), .int (nI 0), .ref h2])), (h2, .inr (13, [.int (nI 0), v6, .int (nI 0)])), ((u6 2), .inr (14, [.int (nI 0), .int (-1), .int (nI 0), .ref (u6 0)])), ((u6 0), .inr (13, [.int (nI 0), .ref (G 0), .int (nI 0)]))]) rfl (fun H locs hP hD hS => ?_)
  refine lv_dup hx hb dX12_count_194 rfl ?_
  refine lv_bipush (v := nI 9) hx hb dX12_count_195 (by decide +kernel) ?_
  refine lv_iload_n hx hb dX12_count_197 rfl (lv_at hl 1 rfl) ?_
  refine r_iast (k := 9) hx hb hK hP hD hS 6 2 rfl rfl (Nat.le_of_ble_eq_true rfl) (by decide) dX12_count_198 (ws' := [(h0, .inr (12, [v0, .ref h1])), (h3, .inl (K 1, 20, .inl (fun _ => nI 0))), (h5, .inr (13, [v9, v10, .int (nI 0)])), ((u0 1), .inr (14, [.int (nI 0), .int (-1), .int (nI 0), .ref h2])), ((u1 0), .inr (14, [.int (nI 0), .int (-1), .int (nI 0), .ref (u0 0)])), ((u0 0), .inr (13, [.int (nI 0), .ref (G 0), .int (nI 0)])), (q0, .inl (K 2, 16, .inl (upd (upd (upd (upd (upd (upd (upd (upd (fun _ => nI 0) 2 (nI 1)) 3 (nI 0)) 4 (nI 0)) 5 (nI 0)) 6 (nI 60)) 7 (nI 0)) 8 (nI 1)) 9 (nI 0)))), ((u4 0), .inr (14, [.int (nI 0), .int (-1), .int (nI 0), .ref h2])), (h4, .inr (13, [v7, v8, .int (nI 1)])), (h1, .inr (10, [.ref h2, .ref h4, v1, .ref h5, .ref h3, .int (nI 0), .int (nI 0), .int (nI 60), .int (nI 0), v2, v3, .int (nI 0), .int (nI 0), .int (nI 0), .int (nI 0), v4, v5])), ((u6 1), .inr (14, [.int (nI 0), .int (-1), .int (nI 0), .ref h2])), (h2, .inr (13, [.int (nI 0), v6, .int (nI 0)])), ((u6 2), .inr (14, [.int (nI 0), .int (-1), .int (nI 0), .ref (u6 0)])), ((u6 0), .inr (13, [.int (nI 0), .ref (G 0), .int (nI 0)]))]) rfl (fun H locs hP hD hS => ?_)
  refine lv_dup hx hb dX12_count_199 rfl ?_
  refine lv_bipush (v := nI 10) hx hb dX12_count_200 (by decide +kernel) ?_
  refine lv_aload_n hx hb dX12_count_202 rfl (lv_at hl 6 rfl) ?_
  refine r_get hx hb hts ok_RX12 hown hK hP 0 rfl rfl 1 (by decide) w_1294 (fun _ h9 => h9) rfl dX12_count_203 ?_
  refine r_get hx hb hts ok_RX10 hown hK hP 9 rfl rfl 3 (by decide) w_1231 (fun _ h9 => h9) rfl dX12_count_206 ?_
  refine k_i (wr := [(h0, .inr (12, [v0, .ref h1])), (h3, .inl (K 1, 20, .inl (fun _ => nI 0))), ((u0 1), .inr (14, [.int (nI 0), .int (-1), .int (nI 0), .ref h2])), ((u1 0), .inr (14, [.int (nI 0), .int (-1), .int (nI 0), .ref (u0 0)])), ((u0 0), .inr (13, [.int (nI 0), .ref (G 0), .int (nI 0)])), (q0, .inl (K 2, 16, .inl (upd (upd (upd (upd (upd (upd (upd (upd (fun _ => nI 0) 2 (nI 1)) 3 (nI 0)) 4 (nI 0)) 5 (nI 0)) 6 (nI 60)) 7 (nI 0)) 8 (nI 1)) 9 (nI 0)))), ((u4 0), .inr (14, [.int (nI 0), .int (-1), .int (nI 0), .ref h2])), (h4, .inr (13, [v7, v8, .int (nI 1)])), (h1, .inr (10, [.ref h2, .ref h4, v1, .ref h5, .ref h3, .int (nI 0), .int (nI 0), .int (nI 60), .int (nI 0), v2, v3, .int (nI 0), .int (nI 0), .int (nI 0), .int (nI 0), v4, v5])), ((u6 1), .inr (14, [.int (nI 0), .int (-1), .int (nI 0), .ref h2])), (h2, .inr (13, [.int (nI 0), v6, .int (nI 0)])), ((u6 2), .inr (14, [.int (nI 0), .int (-1), .int (nI 0), .ref (u6 0)])), ((u6 0), .inr (13, [.int (nI 0), .ref (G 0), .int (nI 0)]))]) (run_V (rest := [.int (nI 10), .ref q0, .ref q0]) hx hb hml hown hts hK hP hD hS hA hm (C102_size l G D K H.size h5 (v9) (v10)) [2] rfl rfl mok_yJx4a65c_size_8abf5 w_1308 w_1309 w_1310 (rcv hK hP 2 rfl rfl rfl) ⟨Nat.le_of_ble_eq_true rfl, Nat.le_of_ble_eq_true rfl⟩ rfl hl.1 rfl (Nat.le_of_ble_eq_true rfl) dX12_count_209 ⟨(Nat.le_of_ble_eq_true rfl), (Nat.le_of_ble_eq_true rfl)⟩) hP hD hS hA [2] [0, 1, 3, 4, 5, 6, 7, 8, 9, 10, 11, 12, 13] rfl rfl rfl (by decide) (w2 := fun u7 => [(h0, .inr (12, [v0, .ref h1])), (h3, .inl (K 1, 20, .inl (fun _ => nI 0))), ((u0 1), .inr (14, [.int (nI 0), .int (-1), .int (nI 0), .ref h2])), ((u1 0), .inr (14, [.int (nI 0), .int (-1), .int (nI 0), .ref (u0 0)])), ((u0 0), .inr (13, [.int (nI 0), .ref (G 0), .int (nI 0)])), (q0, .inl (K 2, 16, .inl (upd (upd (upd (upd (upd (upd (upd (upd (fun _ => nI 0) 2 (nI 1)) 3 (nI 0)) 4 (nI 0)) 5 (nI 0)) 6 (nI 60)) 7 (nI 0)) 8 (nI 1)) 9 (nI 0)))), ((u4 0), .inr (14, [.int (nI 0), .int (-1), .int (nI 0), .ref h2])), (h4, .inr (13, [v7, v8, .int (nI 1)])), (h1, .inr (10, [.ref h2, .ref h4, v1, .ref h5, .ref h3, .int (nI 0), .int (nI 0), .int (nI 60), .int (nI 0), v2, v3, .int (nI 0), .int (nI 0), .int (nI 0), .int (nI 0), v4, v5])), ((u6 1), .inr (14, [.int (nI 0), .int (-1), .int (nI 0), .ref h2])), (h2, .inr (13, [.int (nI 0), v6, .int (nI 0)])), ((u6 2), .inr (14, [.int (nI 0), .int (-1), .int (nI 0), .ref (u6 0)])), ((u6 0), .inr (13, [.int (nI 0), .ref (G 0), .int (nI 0)])), (h5, .inr (13, [v9, v10, .int (nI 0)]))]) (fun _ => rfl) (fun u7 H locs hP hD hS => ?_)
  refine r_iast (k := 10) hx hb hK hP hD hS 5 2 rfl rfl (Nat.le_of_ble_eq_true rfl) (by decide) dX12_count_212 (ws' := [(h0, .inr (12, [v0, .ref h1])), (h3, .inl (K 1, 20, .inl (fun _ => nI 0))), ((u0 1), .inr (14, [.int (nI 0), .int (-1), .int (nI 0), .ref h2])), ((u1 0), .inr (14, [.int (nI 0), .int (-1), .int (nI 0), .ref (u0 0)])), ((u0 0), .inr (13, [.int (nI 0), .ref (G 0), .int (nI 0)])), (q0, .inl (K 2, 16, .inl (upd (upd (upd (upd (upd (upd (upd (upd (upd (fun _ => nI 0) 2 (nI 1)) 3 (nI 0)) 4 (nI 0)) 5 (nI 0)) 6 (nI 60)) 7 (nI 0)) 8 (nI 1)) 9 (nI 0)) 10 (nI 0)))), ((u4 0), .inr (14, [.int (nI 0), .int (-1), .int (nI 0), .ref h2])), (h4, .inr (13, [v7, v8, .int (nI 1)])), (h1, .inr (10, [.ref h2, .ref h4, v1, .ref h5, .ref h3, .int (nI 0), .int (nI 0), .int (nI 60), .int (nI 0), v2, v3, .int (nI 0), .int (nI 0), .int (nI 0), .int (nI 0), v4, v5])), ((u6 1), .inr (14, [.int (nI 0), .int (-1), .int (nI 0), .ref h2])), (h2, .inr (13, [.int (nI 0), v6, .int (nI 0)])), ((u6 2), .inr (14, [.int (nI 0), .int (-1), .int (nI 0), .ref (u6 0)])), ((u6 0), .inr (13, [.int (nI 0), .ref (G 0), .int (nI 0)])), (h5, .inr (13, [v9, v10, .int (nI 0)]))]) rfl (fun H locs hP hD hS => ?_)
  refine lv_dup hx hb dX12_count_213 rfl ?_
  refine lv_bipush (v := nI 11) hx hb dX12_count_214 (by decide +kernel) ?_
  refine lv_aload_n hx hb dX12_count_216 rfl (lv_at hl 6 rfl) ?_
  refine r_get hx hb hts ok_RX12 hown hK hP 0 rfl rfl 1 (by decide) w_1294 (fun _ h9 => h9) rfl dX12_count_217 ?_
  refine r_get hx hb hts ok_RX10 hown hK hP 8 rfl rfl 11 (by decide) w_1247 (fun _ h9 => h9) rfl dX12_count_220 ?_
  refine r_iast (k := 11) hx hb hK hP hD hS 5 2 rfl rfl (Nat.le_of_ble_eq_true rfl) (by decide) dX12_count_223 (ws' := [(h0, .inr (12, [v0, .ref h1])), (h3, .inl (K 1, 20, .inl (fun _ => nI 0))), ((u0 1), .inr (14, [.int (nI 0), .int (-1), .int (nI 0), .ref h2])), ((u1 0), .inr (14, [.int (nI 0), .int (-1), .int (nI 0), .ref (u0 0)])), ((u0 0), .inr (13, [.int (nI 0), .ref (G 0), .int (nI 0)])), (q0, .inl (K 2, 16, .inl (upd (upd (upd (upd (upd (upd (upd (upd (upd (upd (fun _ => nI 0) 2 (nI 1)) 3 (nI 0)) 4 (nI 0)) 5 (nI 0)) 6 (nI 60)) 7 (nI 0)) 8 (nI 1)) 9 (nI 0)) 10 (nI 0)) 11 (nI 0)))), ((u4 0), .inr (14, [.int (nI 0), .int (-1), .int (nI 0), .ref h2])), (h4, .inr (13, [v7, v8, .int (nI 1)])), (h1, .inr (10, [.ref h2, .ref h4, v1, .ref h5, .ref h3, .int (nI 0), .int (nI 0), .int (nI 60), .int (nI 0), v2, v3, .int (nI 0), .int (nI 0), .int (nI 0), .int (nI 0), v4, v5])), ((u6 1), .inr (14, [.int (nI 0), .int (-1), .int (nI 0), .ref h2])), (h2, .inr (13, [.int (nI 0), v6, .int (nI 0)])), ((u6 2), .inr (14, [.int (nI 0), .int (-1), .int (nI 0), .ref (u6 0)])), ((u6 0), .inr (13, [.int (nI 0), .ref (G 0), .int (nI 0)])), (h5, .inr (13, [v9, v10, .int (nI 0)]))]) rfl (fun H locs hP hD hS => ?_)
  refine lv_dup hx hb dX12_count_224 rfl ?_
  refine lv_bipush (v := nI 12) hx hb dX12_count_225 (by decide +kernel) ?_
  refine lv_aload_n hx hb dX12_count_227 rfl (lv_at hl 6 rfl) ?_
  refine r_get hx hb hts ok_RX12 hown hK hP 0 rfl rfl 1 (by decide) w_1294 (fun _ h9 => h9) rfl dX12_count_228 ?_
  refine r_get hx hb hts ok_RX10 hown hK hP 8 rfl rfl 12 (by decide) w_1249 (fun _ h9 => h9) rfl dX12_count_231 ?_
  refine r_iast (k := 12) hx hb hK hP hD hS 5 2 rfl rfl (Nat.le_of_ble_eq_true rfl) (by decide) dX12_count_234 (ws' := [(h0, .inr (12, [v0, .ref h1])), (h3, .inl (K 1, 20, .inl (fun _ => nI 0))), ((u0 1), .inr (14, [.int (nI 0), .int (-1), .int (nI 0), .ref h2])), ((u1 0), .inr (14, [.int (nI 0), .int (-1), .int (nI 0), .ref (u0 0)])), ((u0 0), .inr (13, [.int (nI 0), .ref (G 0), .int (nI 0)])), (q0, .inl (K 2, 16, .inl (upd (upd (upd (upd (upd (upd (upd (upd (upd (upd (upd (fun _ => nI 0) 2 (nI 1)) 3 (nI 0)) 4 (nI 0)) 5 (nI 0)) 6 (nI 60)) 7 (nI 0)) 8 (nI 1)) 9 (nI 0)) 10 (nI 0)) 11 (nI 0)) 12 (nI 0)))), ((u4 0), .inr (14, [.int (nI 0), .int (-1), .int (nI 0), .ref h2])), (h4, .inr (13, [v7, v8, .int (nI 1)])), (h1, .inr (10, [.ref h2, .ref h4, v1, .ref h5, .ref h3, .int (nI 0), .int (nI 0), .int (nI 60), .int (nI 0), v2, v3, .int (nI 0), .int (nI 0), .int (nI 0), .int (nI 0), v4, v5])), ((u6 1), .inr (14, [.int (nI 0), .int (-1), .int (nI 0), .ref h2])), (h2, .inr (13, [.int (nI 0), v6, .int (nI 0)])), ((u6 2), .inr (14, [.int (nI 0), .int (-1), .int (nI 0), .ref (u6 0)])), ((u6 0), .inr (13, [.int (nI 0), .ref (G 0), .int (nI 0)])), (h5, .inr (13, [v9, v10, .int (nI 0)]))]) rfl (fun H locs hP hD hS => ?_)
  refine lv_dup hx hb dX12_count_235 rfl ?_
  refine lv_bipush (v := nI 13) hx hb dX12_count_236 (by decide +kernel) ?_
  refine lv_aload_n hx hb dX12_count_238 rfl (lv_at hl 6 rfl) ?_
  refine r_get hx hb hts ok_RX12 hown hK hP 0 rfl rfl 1 (by decide) w_1294 (fun _ h9 => h9) rfl dX12_count_239 ?_
  refine r_get hx hb hts ok_RX10 hown hK hP 8 rfl rfl 13 (by decide) w_1251 (fun _ h9 => h9) rfl dX12_count_242 ?_
  refine r_iast (k := 13) hx hb hK hP hD hS 5 2 rfl rfl (Nat.le_of_ble_eq_true rfl) (by decide) dX12_count_245 (ws' := [(h0, .inr (12, [v0, .ref h1])), (h3, .inl (K 1, 20, .inl (fun _ => nI 0))), ((u0 1), .inr (14, [.int (nI 0), .int (-1), .int (nI 0), .ref h2])), ((u1 0), .inr (14, [.int (nI 0), .int (-1), .int (nI 0), .ref (u0 0)])), ((u0 0), .inr (13, [.int (nI 0), .ref (G 0), .int (nI 0)])), (q0, .inl (K 2, 16, .inl (upd (upd (upd (upd (upd (upd (upd (upd (upd (upd (upd (upd (fun _ => nI 0) 2 (nI 1)) 3 (nI 0)) 4 (nI 0)) 5 (nI 0)) 6 (nI 60)) 7 (nI 0)) 8 (nI 1)) 9 (nI 0)) 10 (nI 0)) 11 (nI 0)) 12 (nI 0)) 13 (nI 0)))), ((u4 0), .inr (14, [.int (nI 0), .int (-1), .int (nI 0), .ref h2])), (h4, .inr (13, [v7, v8, .int (nI 1)])), (h1, .inr (10, [.ref h2, .ref h4, v1, .ref h5, .ref h3, .int (nI 0), .int (nI 0), .int (nI 60), .int (nI 0), v2, v3, .int (nI 0), .int (nI 0), .int (nI 0), .int (nI 0), v4, v5])), ((u6 1), .inr (14, [.int (nI 0), .int (-1), .int (nI 0), .ref h2])), (h2, .inr (13, [.int (nI 0), v6, .int (nI 0)])), ((u6 2), .inr (14, [.int (nI 0), .int (-1), .int (nI 0), .ref (u6 0)])), ((u6 0), .inr (13, [.int (nI 0), .ref (G 0), .int (nI 0)])), (h5, .inr (13, [v9, v10, .int (nI 0)]))]) rfl (fun H locs hP hD hS => ?_)
  refine lv_dup hx hb dX12_count_246 rfl ?_
  refine lv_bipush (v := nI 14) hx hb dX12_count_247 (by decide +kernel) ?_
  refine lv_aload_n hx hb dX12_count_249 rfl (lv_at hl 6 rfl) ?_
  refine r_get hx hb hts ok_RX12 hown hK hP 0 rfl rfl 1 (by decide) w_1294 (fun _ h9 => h9) rfl dX12_count_250 ?_
  refine r_get hx hb hts ok_RX10 hown hK hP 8 rfl rfl 14 (by decide) w_1253 (fun _ h9 => h9) rfl dX12_count_253 ?_
  refine r_iast (k := 14) hx hb hK hP hD hS 5 2 rfl rfl (Nat.le_of_ble_eq_true rfl) (by decide) dX12_count_256 (ws' := [(h0, .inr (12, [v0, .ref h1])), (h3, .inl (K 1, 20, .inl (fun _ => nI 0))), ((u0 1), .inr (14, [.int (nI 0), .int (-1), .int (nI 0), .ref h2])), ((u1 0), .inr (14, [.int (nI 0), .int (-1), .int (nI 0), .ref (u0 0)])), ((u0 0), .inr (13, [.int (nI 0), .ref (G 0), .int (nI 0)])), (q0, .inl (K 2, 16, .inl (upd (upd (upd (upd (upd (upd (upd (upd (upd (upd (upd (upd (upd (fun _ => nI 0) 2 (nI 1)) 3 (nI 0)) 4 (nI 0)) 5 (nI 0)) 6 (nI 60)) 7 (nI 0)) 8 (nI 1)) 9 (nI 0)) 10 (nI 0)) 11 (nI 0)) 12 (nI 0)) 13 (nI 0)) 14 (nI 0)))), ((u4 0), .inr (14, [.int (nI 0), .int (-1), .int (nI 0), .ref h2])), (h4, .inr (13, [v7, v8, .int (nI 1)])), (h1, .inr (10, [.ref h2, .ref h4, v1, .ref h5, .ref h3, .int (nI 0), .int (nI 0), .int (nI 60), .int (nI 0), v2, v3, .int (nI 0), .int (nI 0), .int (nI 0), .int (nI 0), v4, v5])), ((u6 1), .inr (14, [.int (nI 0), .int (-1), .int (nI 0), .ref h2])), (h2, .inr (13, [.int (nI 0), v6, .int (nI 0)])), ((u6 2), .inr (14, [.int (nI 0), .int (-1), .int (nI 0), .ref (u6 0)])), ((u6 0), .inr (13, [.int (nI 0), .ref (G 0), .int (nI 0)])), (h5, .inr (13, [v9, v10, .int (nI 0)]))]) rfl (fun H locs hP hD hS => ?_)
  refine lv_dup hx hb dX12_count_257 rfl ?_
  refine lv_bipush (v := nI 15) hx hb dX12_count_258 (by decide +kernel) ?_
  refine lv_aload_n hx hb dX12_count_260 rfl (lv_at hl 6 rfl) ?_
  refine r_get hx hb hts ok_RX12 hown hK hP 0 rfl rfl 1 (by decide) w_1294 (fun _ h9 => h9) rfl dX12_count_261 ?_
  refine k_i (wr := [(h0, .inr (12, [v0, .ref h1])), (h3, .inl (K 1, 20, .inl (fun _ => nI 0))), ((u0 1), .inr (14, [.int (nI 0), .int (-1), .int (nI 0), .ref h2])), ((u1 0), .inr (14, [.int (nI 0), .int (-1), .int (nI 0), .ref (u0 0)])), ((u0 0), .inr (13, [.int (nI 0), .ref (G 0), .int (nI 0)])), (q0, .inl (K 2, 16, .inl (upd (upd (upd (upd (upd (upd (upd (upd (upd (upd (upd (upd (upd (fun _ => nI 0) 2 (nI 1)) 3 (nI 0)) 4 (nI 0)) 5 (nI 0)) 6 (nI 60)) 7 (nI 0)) 8 (nI 1)) 9 (nI 0)) 10 (nI 0)) 11 (nI 0)) 12 (nI 0)) 13 (nI 0)) 14 (nI 0)))), ((u4 0), .inr (14, [.int (nI 0), .int (-1), .int (nI 0), .ref h2])), (h4, .inr (13, [v7, v8, .int (nI 1)])), ((u6 1), .inr (14, [.int (nI 0), .int (-1), .int (nI 0), .ref h2])), ((u6 2), .inr (14, [.int (nI 0), .int (-1), .int (nI 0), .ref (u6 0)])), ((u6 0), .inr (13, [.int (nI 0), .ref (G 0), .int (nI 0)])), (h5, .inr (13, [v9, v10, .int (nI 0)]))]) (run_V (rest := [.int (nI 15), .ref q0, .ref q0]) hx hb hml hown hts hK hP hD hS hA hm (C830_greys l G D K H.size h1 h2 (.ref h4) (v1) (.ref h5) (.ref h3) (.int (nI 0)) (.int (nI 0)) (.int (nI 60)) (.int (nI 0)) (v2) (v3) (.int (nI 0)) (.int (nI 0)) (.int (nI 0)) (.int (nI 0)) (v4) (v5) (v6)) [8, 10] rfl rfl mok_yX10_greys w_1973 w_1974 w_1975 (rcv hK hP 8 rfl rfl rfl) ⟨Nat.le_of_ble_eq_true rfl, Nat.le_of_ble_eq_true rfl⟩ rfl hl.1 rfl (Nat.le_of_ble_eq_true rfl) dX12_count_264 ⟨(Nat.le_of_ble_eq_true rfl), (Nat.le_of_ble_eq_true rfl)⟩) hP hD hS hA [8, 10] [0, 1, 2, 3, 4, 5, 6, 7, 9, 11, 12, 13] rfl rfl rfl (by decide) (w2 := fun u8 => [(h0, .inr (12, [v0, .ref h1])), (h3, .inl (K 1, 20, .inl (fun _ => nI 0))), ((u0 1), .inr (14, [.int (nI 0), .int (-1), .int (nI 0), .ref h2])), ((u1 0), .inr (14, [.int (nI 0), .int (-1), .int (nI 0), .ref (u0 0)])), ((u0 0), .inr (13, [.int (nI 0), .ref (G 0), .int (nI 0)])), (q0, .inl (K 2, 16, .inl (upd (upd (upd (upd (upd (upd (upd (upd (upd (upd (upd (upd (upd (fun _ => nI 0) 2 (nI 1)) 3 (nI 0)) 4 (nI 0)) 5 (nI 0)) 6 (nI 60)) 7 (nI 0)) 8 (nI 1)) 9 (nI 0)) 10 (nI 0)) 11 (nI 0)) 12 (nI 0)) 13 (nI 0)) 14 (nI 0)))), ((u4 0), .inr (14, [.int (nI 0), .int (-1), .int (nI 0), .ref h2])), (h4, .inr (13, [v7, v8, .int (nI 1)])), ((u6 1), .inr (14, [.int (nI 0), .int (-1), .int (nI 0), .ref h2])), ((u6 2), .inr (14, [.int (nI 0), .int (-1), .int (nI 0), .ref (u6 0)])), ((u6 0), .inr (13, [.int (nI 0), .ref (G 0), .int (nI 0)])), (h5, .inr (13, [v9, v10, .int (nI 0)])), (h1, .inr (10, [.ref h2, .ref h4, v1, .ref h5, .ref h3, .int (nI 0), .int (nI 0), .int (nI 60), .int (nI 0), v2, v3, .int (nI 0), .int (nI 0), .int (nI 0), .int (nI 0), v4, v5])), ((u8 0), .inr (14, [.int (nI 0), .int (-1), .int (nI 0), .ref h2])), (h2, .inr (13, [.int (nI 0), v6, .int (nI 0)]))]) (fun _ => rfl) (fun u8 H locs hP hD hS => ?_)
  refine r_iast (k := 15) hx hb hK hP hD hS 5 2 rfl rfl (Nat.le_of_ble_eq_true rfl) (by decide) dX12_count_267 (ws' := [(h0, .inr (12, [v0, .ref h1])), (h3, .inl (K 1, 20, .inl (fun _ => nI 0))), ((u0 1), .inr (14, [.int (nI 0), .int (-1), .int (nI 0), .ref h2])), ((u1 0), .inr (14, [.int (nI 0), .int (-1), .int (nI 0), .ref (u0 0)])), ((u0 0), .inr (13, [.int (nI 0), .ref (G 0), .int (nI 0)])), (q0, .inl (K 2, 16, .inl (upd (upd (upd (upd (upd (upd (upd (upd (upd (upd (upd (upd (upd (upd (fun _ => nI 0) 2 (nI 1)) 3 (nI 0)) 4 (nI 0)) 5 (nI 0)) 6 (nI 60)) 7 (nI 0)) 8 (nI 1)) 9 (nI 0)) 10 (nI 0)) 11 (nI 0)) 12 (nI 0)) 13 (nI 0)) 14 (nI 0)) 15 (nI 0)))), ((u4 0), .inr (14, [.int (nI 0), .int (-1), .int (nI 0), .ref h2])), (h4, .inr (13, [v7, v8, .int (nI 1)])), ((u6 1), .inr (14, [.int (nI 0), .int (-1), .int (nI 0), .ref h2])), ((u6 2), .inr (14, [.int (nI 0), .int (-1), .int (nI 0), .ref (u6 0)])), ((u6 0), .inr (13, [.int (nI 0), .ref (G 0), .int (nI 0)])), (h5, .inr (13, [v9, v10, .int (nI 0)])), (h1, .inr (10, [.ref h2, .ref h4, v1, .ref h5, .ref h3, .int (nI 0), .int (nI 0), .int (nI 60), .int (nI 0), v2, v3, .int (nI 0), .int (nI 0), .int (nI 0), .int (nI 0), v4, v5])), ((u8 0), .inr (14, [.int (nI 0), .int (-1), .int (nI 0), .ref h2])), (h2, .inr (13, [.int (nI 0), v6, .int (nI 0)]))]) rfl (fun H locs hP hD hS => ?_)
  refine lv_astore (lv' := [(4, .ref q0), (6, .int (nI 20)), (3, .int (nI 0)), (7, .int (nI 0)), (5, .int (nI 20)), (2, .int (nI 0)), (0, .ref h0), (1, .int (nI 11))]) hx hb dX12_count_268 hl (by decide) rfl (fun ls hl => ?_)
  refine lv_aload hx hb dX12_count_270 (lv_at hl 0 rfl) ?_
  refine lv_iload_n hx hb dX12_count_272 rfl (lv_at hl 7 rfl) ?_
  refine r_iald (k := 11) hx hb hK hP 5 2 rfl rfl (Nat.le_of_ble_eq_true rfl) (by decide) (v := nI 0) rfl dX12_count_273 ?_
  exact e_i hx hb hr hlk hP hD hS (fun k => match k with | 0 => (u0 0) | 1 => (u0 1) | 2 => (u1 0) | 3 => q0 | 4 => (u4 0) | 5 => (u6 0) | 6 => (u6 1) | 7 => (u6 2) | 8 => (u8 0) | _ => 0) rfl (Nat.le_of_ble_eq_true rfl) (Nat.le_of_ble_eq_true rfl) rfl dX12_count_274
set_option maxHeartbeats 4000000 in
set_option maxRecDepth 100000 in
theorem C929_many (l : Launch) (G : Nat → Nat) (D : va_G) (K : Nat → ClassId) (sz : Nat) (h0 h1 h2 h3 h4 h5 : Nat) (v0 v1 v2 v3 v4 v5 v6 v7 v8 v9 : Value) : CM l yX12_many cX12_many 2 (some FieldType.int) ({ frames := 7, cells := 9, slots := 46, locals := 156 } : Room) G D K [.ref h0, .int (nI 11)] [(h0, .inr (12, [.int (nI 0), .ref h1])), (h1, .inr (10, [.ref h2, .ref h4, v0, .ref h5, .ref h3, .int (nI 0), .int (nI 0), .int (nI 60), .int (nI 0), v1, v2, .int (nI 0), .int (nI 0), .int (nI 0), .int (nI 0), v3, v4])), (h2, .inr (13, [.int (nI 0), v5, .int (nI 0)])), (h3, .inl (K 1, 20, .inl (fun _ => nI 0))), (h4, .inr (13, [v6, v7, .int (nI 1)])), (h5, .inr (13, [v8, v9, .int (nI 0)]))] sz (CQi (nI 0) D (fun u => [(h0, .inr (12, [.int (nI 0), .ref h1])), (h3, .inl (K 1, 20, .inl (fun _ => nI 0))), ((u 1), .inr (14, [.int (nI 0), .int (-1), .int (nI 0), .ref h2])), ((u 2), .inr (14, [.int (nI 0), .int (-1), .int (nI 0), .ref (u 0)])), ((u 0), .inr (13, [.int (nI 0), .ref (G 0), .int (nI 0)])), ((u 3), .inl (K 2, 16, .inl (upd (upd (upd (upd (upd (upd (upd (upd (upd (upd (upd (upd (upd (upd (fun _ => nI 0) 2 (nI 1)) 3 (nI 0)) 4 (nI 0)) 5 (nI 0)) 6 (nI 60)) 7 (nI 0)) 8 (nI 1)) 9 (nI 0)) 10 (nI 0)) 11 (nI 0)) 12 (nI 0)) 13 (nI 0)) 14 (nI 0)) 15 (nI 0)))), ((u 4), .inr (14, [.int (nI 0), .int (-1), .int (nI 0), .ref h2])), (h4, .inr (13, [v6, v7, .int (nI 1)])), ((u 6), .inr (14, [.int (nI 0), .int (-1), .int (nI 0), .ref h2])), ((u 7), .inr (14, [.int (nI 0), .int (-1), .int (nI 0), .ref (u 5)])), ((u 5), .inr (13, [.int (nI 0), .ref (G 0), .int (nI 0)])), (h5, .inr (13, [v8, v9, .int (nI 0)])), (h1, .inr (10, [.ref h2, .ref h4, v0, .ref h5, .ref h3, .int (nI 0), .int (nI 0), .int (nI 60), .int (nI 0), v1, v2, .int (nI 0), .int (nI 0), .int (nI 0), .int (nI 0), v3, v4])), ((u 8), .inr (14, [.int (nI 0), .int (-1), .int (nI 0), .ref h2])), (h2, .inr (13, [.int (nI 0), v5, .int (nI 0)]))])) := by
  refine CM_of (lv0 := [(0, .ref h0), (1, .int (nI 11))]) pn_RX12 (Nat.le_of_ble_eq_true rfl) rfl (fun p e s m args below meth c A ls hx hb hr hml hown hts hlk hnm hP hK hD hS hA hm hl => ?_)
  have hown : s.vm.findClass RX12 = some m.cls := hown
  refine lv_aload_n hx hb dX12_many_0 rfl (lv_at hl 0 rfl) ?_
  refine lv_iload_n hx hb dX12_many_1 rfl (lv_at hl 1 rfl) ?_
  refine lv_iconst (v := nI 0) hx hb dX12_many_2 (by decide +kernel) ?_
  refine lv_bipush (v := nI 15) hx hb dX12_many_3 (by decide +kernel) ?_
  refine k_i (wr := [(h0, .inr (12, [.int (nI 0), .ref h1])), (h1, .inr (10, [.ref h2, .ref h4, v0, .ref h5, .ref h3, .int (nI 0), .int (nI 0), .int (nI 60), .int (nI 0), v1, v2, .int (nI 0), .int (nI 0), .int (nI 0), .int (nI 0), v3, v4])), (h2, .inr (13, [.int (nI 0), v5, .int (nI 0)])), (h3, .inl (K 1, 20, .inl (fun _ => nI 0))), (h4, .inr (13, [v6, v7, .int (nI 1)])), (h5, .inr (13, [v8, v9, .int (nI 0)]))]) (run_S (rest := [.ref h0]) hx hb hml hown hts hK hP hD hS hA hm (C927_isIn l G D K s.heap.size) [] rfl rfl mok_yX12_isIn w_1352 w_1353 ⟨Nat.le_of_ble_eq_true rfl, Nat.le_of_ble_eq_true rfl⟩ rfl hl.1 rfl (Nat.le_of_ble_eq_true rfl) dX12_many_5 ⟨(Nat.le_of_ble_eq_true rfl), (Nat.le_of_ble_eq_true rfl)⟩) hP hD hS hA [] [0, 1, 2, 3, 4, 5] rfl rfl rfl (by decide) (w2 := fun u0 => [(h0, .inr (12, [.int (nI 0), .ref h1])), (h1, .inr (10, [.ref h2, .ref h4, v0, .ref h5, .ref h3, .int (nI 0), .int (nI 0), .int (nI 60), .int (nI 0), v1, v2, .int (nI 0), .int (nI 0), .int (nI 0), .int (nI 0), v3, v4])), (h2, .inr (13, [.int (nI 0), v5, .int (nI 0)])), (h3, .inl (K 1, 20, .inl (fun _ => nI 0))), (h4, .inr (13, [v6, v7, .int (nI 1)])), (h5, .inr (13, [v8, v9, .int (nI 0)]))]) (fun _ => rfl) (fun u0 H locs hP hD hS => ?_)
  refine lv_if_ne (tgt := 15) hx hb dX12_many_8 (by decide) (fun _ => ?_) (fun c9 => absurd c9 (by decide +kernel))
  refine lv_iconst (v := nI 0) hx hb dX12_many_15 (by decide +kernel) ?_
  refine lv_iconst (v := nI 1) hx hb dX12_many_16 (by decide +kernel) ?_
  refine k_i (wr := [(h1, .inr (10, [.ref h2, .ref h4, v0, .ref h5, .ref h3, .int (nI 0), .int (nI 0), .int (nI 60), .int (nI 0), v1, v2, .int (nI 0), .int (nI 0), .int (nI 0), .int (nI 0), v3, v4])), (h2, .inr (13, [.int (nI 0), v5, .int (nI 0)])), (h3, .inl (K 1, 20, .inl (fun _ => nI 0))), (h4, .inr (13, [v6, v7, .int (nI 1)])), (h5, .inr (13, [v8, v9, .int (nI 0)]))]) (run_V (rest := []) hx hb hml hown hts hK hP hD hS hA hm (C25_start l G D K H.size h0 (.ref h1)) [0] rfl rfl mok_yX12_start w_1312 w_1314 w_p30 (rcv hK hP 0 rfl rfl rfl) ⟨Nat.le_of_ble_eq_true rfl, Nat.le_of_ble_eq_true rfl⟩ rfl hl.1 rfl (Nat.le_of_ble_eq_true rfl) dX12_many_17 ⟨(Nat.le_of_ble_eq_true rfl), (Nat.le_of_ble_eq_true rfl)⟩) hP hD hS hA [0] [1, 2, 3, 4, 5] rfl rfl rfl (by decide) (w2 := fun u1 => [(h1, .inr (10, [.ref h2, .ref h4, v0, .ref h5, .ref h3, .int (nI 0), .int (nI 0), .int (nI 60), .int (nI 0), v1, v2, .int (nI 0), .int (nI 0), .int (nI 0), .int (nI 0), v3, v4])), (h2, .inr (13, [.int (nI 0), v5, .int (nI 0)])), (h3, .inl (K 1, 20, .inl (fun _ => nI 0))), (h4, .inr (13, [v6, v7, .int (nI 1)])), (h5, .inr (13, [v8, v9, .int (nI 0)])), (h0, .inr (12, [.int (nI 0), .ref h1]))]) (fun _ => rfl) (fun u1 H locs hP hD hS => ?_)
  refine lv_if_eq (tgt := 27) hx hb dX12_many_20 (by decide) (fun _ => ?_) (fun c9 => absurd (by decide +kernel) c9)
  refine lv_aload_n hx hb dX12_many_27 rfl (lv_at hl 0 rfl) ?_
  refine lv_iload_n hx hb dX12_many_28 rfl (lv_at hl 1 rfl) ?_
  refine k_i (wr := []) (run_V (rest := []) hx hb hml hown hts hK hP hD hS hA hm (C928_count l G D K H.size h0 h1 h2 h3 h4 h5 (.int (nI 0)) (v0) (v1) (v2) (v3) (v4) (v5) (v6) (v7) (v8) (v9)) [5, 0, 1, 2, 3, 4] rfl rfl mok_yX12_count w_2029 w_2031 w_p57 (rcv hK hP 5 rfl rfl rfl) ⟨Nat.le_of_ble_eq_true rfl, Nat.le_of_ble_eq_true rfl⟩ rfl hl.1 rfl (Nat.le_of_ble_eq_true rfl) dX12_many_29 ⟨(Nat.le_of_ble_eq_true rfl), (Nat.le_of_ble_eq_true rfl)⟩) hP hD hS hA [5, 0, 1, 2, 3, 4] [] rfl rfl rfl (by decide) (w2 := fun u2 => [(h0, .inr (12, [.int (nI 0), .ref h1])), (h3, .inl (K 1, 20, .inl (fun _ => nI 0))), ((u2 1), .inr (14, [.int (nI 0), .int (-1), .int (nI 0), .ref h2])), ((u2 2), .inr (14, [.int (nI 0), .int (-1), .int (nI 0), .ref (u2 0)])), ((u2 0), .inr (13, [.int (nI 0), .ref (G 0), .int (nI 0)])), ((u2 3), .inl (K 2, 16, .inl (upd (upd (upd (upd (upd (upd (upd (upd (upd (upd (upd (upd (upd (upd (fun _ => nI 0) 2 (nI 1)) 3 (nI 0)) 4 (nI 0)) 5 (nI 0)) 6 (nI 60)) 7 (nI 0)) 8 (nI 1)) 9 (nI 0)) 10 (nI 0)) 11 (nI 0)) 12 (nI 0)) 13 (nI 0)) 14 (nI 0)) 15 (nI 0)))), ((u2 4), .inr (14, [.int (nI 0), .int (-1), .int (nI 0), .ref h2])), (h4, .inr (13, [v6, v7, .int (nI 1)])), ((u2 6), .inr (14, [.int (nI 0), .int (-1), .int (nI 0), .ref h2])), ((u2 7), .inr (14, [.int (nI 0), .int (-1), .int (nI 0), .ref (u2 5)])), ((u2 5), .inr (13, [.int (nI 0), .ref (G 0), .int (nI 0)])), (h5, .inr (13, [v8, v9, .int (nI 0)])), (h1, .inr (10, [.ref h2, .ref h4, v0, .ref h5, .ref h3, .int (nI 0), .int (nI 0), .int (nI 60), .int (nI 0), v1, v2, .int (nI 0), .int (nI 0), .int (nI 0), .int (nI 0), v3, v4])), ((u2 8), .inr (14, [.int (nI 0), .int (-1), .int (nI 0), .ref h2])), (h2, .inr (13, [.int (nI 0), v5, .int (nI 0)]))]) (fun _ => rfl) (fun u2 H locs hP hD hS => ?_)
  exact e_i hx hb hr hlk hP hD hS (fun k => match k with | 0 => (u2 0) | 1 => (u2 1) | 2 => (u2 2) | 3 => (u2 3) | 4 => (u2 4) | 5 => (u2 5) | 6 => (u2 6) | 7 => (u2 7) | 8 => (u2 8) | _ => 0) rfl (Nat.le_of_ble_eq_true rfl) (Nat.le_of_ble_eq_true rfl) rfl dX12_many_32
set_option maxHeartbeats 4000000 in
set_option maxRecDepth 100000 in
theorem C930_many (l : Launch) (G : Nat → Nat) (D : va_G) (K : Nat → ClassId) (sz : Nat) (h0 h1 : Nat) (v0 v1 v2 v3 v4 v5 v6 v7 v8 v9 v10 : Value) : CM l yX9_many cX9_many 2 (some FieldType.int) ({ frames := 0, cells := 0, slots := 0, locals := 0 } : Room) G D K [.ref h0, .int (nI 12)] [(h0, .inr (9, [v0, v1, v2, .ref h1, v3, v4, v5, v6, v7])), (h1, .inr (6, [v8, .int (nI 0), v9, v10]))] sz (CQi (nI 0) D (fun _ => [(h0, .inr (9, [v0, v1, v2, .ref h1, v3, v4, v5, v6, v7])), (h1, .inr (6, [v8, .int (nI 0), v9, v10]))])) := by
  refine CM_of (lv0 := [(0, .ref h0), (1, .int (nI 12))]) pn_RX9 (Nat.le_of_ble_eq_true rfl) rfl (fun p e s m args below meth c A ls hx hb hr hml hown hts hlk hnm hP hK hD hS hA hm hl => ?_)
  have hown : s.vm.findClass RX9 = some m.cls := hown
  refine lv_iload_n hx hb dX9_many_0 rfl (lv_at hl 1 rfl) ?_
  refine lv_tableIn (off := 192) (tgt := 193) hx hb dX9_many_1 (by decide +kernel) (by decide +kernel) rfl (by decide) ?_
  refine lv_aload_n hx hb dX9_many_193 rfl (lv_at hl 0 rfl) ?_
  refine r_get hx hb hts ok_RX9 hown hK hP 0 rfl rfl 3 (by decide) w_261 (fun _ h9 => h9) rfl dX9_many_194 ?_
  refine r_get hx hb hts ok_RX6 hown hK hP 1 rfl rfl 1 (by decide) w_139 (fun _ h9 => h9) rfl dX9_many_197 ?_
  exact e_i hx hb hr hlk hP hD hS (fun _ => 0) rfl (Nat.le_of_ble_eq_true rfl) (Nat.le_of_ble_eq_true rfl) rfl dX9_many_200
set_option maxHeartbeats 4000000 in
set_option maxRecDepth 100000 in
theorem C931_isIn (l : Launch) (G : Nat → Nat) (D : va_G) (K : Nat → ClassId) (sz : Nat) : CM l yX12_isIn cX12_isIn 3 (some FieldType.boolean) ({ frames := 0, cells := 0, slots := 0, locals := 0 } : Room) G D K [.int (nI 12), .int (nI 0), .int (nI 15)] [] sz (CQi (nI 1) D (fun _ => [])) := by
  refine CM_of (lv0 := [(0, .int (nI 12)), (1, .int (nI 0)), (2, .int (nI 15))]) pn_RX12 (Nat.le_of_ble_eq_true rfl) rfl (fun p e s m args below meth c A ls hx hb hr hml hown hts hlk hnm hP hK hD hS hA hm hl => ?_)
  have hown : s.vm.findClass RX12 = some m.cls := hown
  refine lv_iload_n hx hb dX12_isIn_0 rfl (lv_at hl 0 rfl) ?_
  refine lv_iload_n hx hb dX12_isIn_1 rfl (lv_at hl 1 rfl) ?_
  refine lv_icmp_lt (tgt := 14) hx hb dX12_isIn_2 (by decide) (fun c9 => absurd c9 (by decide +kernel)) (fun _ => ?_)
  refine lv_iload_n hx hb dX12_isIn_5 rfl (lv_at hl 0 rfl) ?_
  refine lv_iload_n hx hb dX12_isIn_6 rfl (lv_at hl 2 rfl) ?_
  refine lv_icmp_gt (tgt := 14) hx hb dX12_isIn_7 (by decide) (fun c9 => absurd c9 (by decide +kernel)) (fun _ => ?_)
  refine lv_iconst (v := nI 1) hx hb dX12_isIn_10 (by decide +kernel) ?_
  refine lv_goto (tgt := 15) hx hb dX12_isIn_11 (by decide) ?_
  exact e_z hx hb hr hlk hP hD hS (fun _ => 0) rfl (Nat.le_of_ble_eq_true rfl) (Nat.le_of_ble_eq_true rfl) rfl (Or.inr rfl) dX12_isIn_15
set_option maxHeartbeats 4000000 in
set_option maxRecDepth 100000 in
theorem C932_count (l : Launch) (G : Nat → Nat) (D : va_G) (K : Nat → ClassId) (sz : Nat) (h0 h1 h2 h3 h4 h5 : Nat) (v0 v1 v2 v3 v4 v5 v6 v7 v8 v9 v10 : Value) : CM l yX12_count cX12_count 8 (some FieldType.int) ({ frames := 6, cells := 9, slots := 46, locals := 129 } : Room) G D K [.ref h0, .int (nI 12)] [(h0, .inr (12, [v0, .ref h1])), (h1, .inr (10, [.ref h2, .ref h4, v1, .ref h5, .ref h3, .int (nI 0), .int (nI 0), .int (nI 60), .int (nI 0), v2, v3, .int (nI 0), .int (nI 0), .int (nI 0), .int (nI 0), v4, v5])), (h2, .inr (13, [.int (nI 0), v6, .int (nI 0)])), (h3, .inl (K 1, 20, .inl (fun _ => nI 0))), (h4, .inr (13, [v7, v8, .int (nI 1)])), (h5, .inr (13, [v9, v10, .int (nI 0)]))] sz (CQi (nI 0) D (fun u => [(h0, .inr (12, [v0, .ref h1])), (h3, .inl (K 1, 20, .inl (fun _ => nI 0))), ((u 1), .inr (14, [.int (nI 0), .int (-1), .int (nI 0), .ref h2])), ((u 2), .inr (14, [.int (nI 0), .int (-1), .int (nI 0), .ref (u 0)])), ((u 0), .inr (13, [.int (nI 0), .ref (G 0), .int (nI 0)])), ((u 3), .inl (K 2, 16, .inl (upd (upd (upd (upd (upd (upd (upd (upd (upd (upd (upd (upd (upd (upd (fun _ => nI 0) 2 (nI 1)) 3 (nI 0)) 4 (nI 0)) 5 (nI 0)) 6 (nI 60)) 7 (nI 0)) 8 (nI 1)) 9 (nI 0)) 10 (nI 0)) 11 (nI 0)) 12 (nI 0)) 13 (nI 0)) 14 (nI 0)) 15 (nI 0)))), ((u 4), .inr (14, [.int (nI 0), .int (-1), .int (nI 0), .ref h2])), (h4, .inr (13, [v7, v8, .int (nI 1)])), ((u 6), .inr (14, [.int (nI 0), .int (-1), .int (nI 0), .ref h2])), ((u 7), .inr (14, [.int (nI 0), .int (-1), .int (nI 0), .ref (u 5)])), ((u 5), .inr (13, [.int (nI 0), .ref (G 0), .int (nI 0)])), (h5, .inr (13, [v9, v10, .int (nI 0)])), (h1, .inr (10, [.ref h2, .ref h4, v1, .ref h5, .ref h3, .int (nI 0), .int (nI 0), .int (nI 60), .int (nI 0), v2, v3, .int (nI 0), .int (nI 0), .int (nI 0), .int (nI 0), v4, v5])), ((u 8), .inr (14, [.int (nI 0), .int (-1), .int (nI 0), .ref h2])), (h2, .inr (13, [.int (nI 0), v6, .int (nI 0)]))])) := by
  refine CM_of (lv0 := [(0, .ref h0), (1, .int (nI 12))]) pn_RX12 (Nat.le_of_ble_eq_true rfl) rfl (fun p e s m args below meth c A ls hx hb hr hml hown hts hlk hnm hP hK hD hS hA hm hl => ?_)
  have hown : s.vm.findClass RX12 = some m.cls := hown
  refine lv_iconst (v := nI 0) hx hb dX12_count_0 (by decide +kernel) ?_
  refine lv_istore_n (lv' := [(2, .int (nI 0)), (0, .ref h0), (1, .int (nI 12))]) hx hb dX12_count_1 rfl hl (by decide) rfl (fun ls hl => ?_)
  refine lv_aload_n hx hb dX12_count_2 rfl (lv_at hl 1 rfl) ?_
  refine r_get hx hb hts ok_RX12 hown hK hP 0 rfl rfl 1 (by decide) w_1294 (fun _ h9 => h9) rfl dX12_count_3 ?_
  refine lv_iconst (v := nI 3) hx hb dX12_count_6 (by decide +kernel) ?_
  refine k_q (wr := [(h0, .inr (12, [v0, .ref h1])), (h3, .inl (K 1, 20, .inl (fun _ => nI 0))), (h4, .inr (13, [v7, v8, .int (nI 1)])), (h5, .inr (13, [v9, v10, .int (nI 0)]))]) (run_V (rest := []) hx hb hml hown hts hK hP hD hS hA hm (C259_in l G D K s.heap.size h1 h2 (.ref h4) (v1) (.ref h5) (.ref h3) (.int (nI 0)) (.int (nI 0)) (.int (nI 60)) (.int (nI 0)) (v2) (v3) (.int (nI 0)) (.int (nI 0)) (.int (nI 0)) (.int (nI 0)) (v4) (v5) (v6)) [1, 2] rfl rfl mok_yX10_in w_2033 w_1368 w_1369 (rcv hK hP 1 rfl rfl rfl) ⟨Nat.le_of_ble_eq_true rfl, Nat.le_of_ble_eq_true rfl⟩ rfl hl.1 rfl (Nat.le_of_ble_eq_true rfl) dX12_count_7 ⟨(Nat.le_of_ble_eq_true rfl), (Nat.le_of_ble_eq_true rfl)⟩) hP hD hS hA [1, 2] [0, 3, 4, 5] rfl rfl rfl (by decide) (w2 := fun u0 => [(h0, .inr (12, [v0, .ref h1])), (h3, .inl (K 1, 20, .inl (fun _ => nI 0))), (h4, .inr (13, [v7, v8, .int (nI 1)])), (h5, .inr (13, [v9, v10, .int (nI 0)])), (h1, .inr (10, [.ref h2, .ref h4, v1, .ref h5, .ref h3, .int (nI 0), .int (nI 0), .int (nI 60), .int (nI 0), v2, v3, .int (nI 0), .int (nI 0), .int (nI 0), .int (nI 0), v4, v5])), ((u0 0), .inr (13, [.int (nI 0), .ref (G 0), .int (nI 0)])), ((u0 1), .inr (14, [.int (nI 0), .int (-1), .int (nI 0), .ref h2])), (h2, .inr (13, [.int (nI 0), v6, .int (nI 0)]))]) (fun _ => rfl) (fun u0 H locs hP hD hS => ?_)
  refine w_tov (y := .ref (u0 0)) rfl ?_
  refine k_q (wr := [(h0, .inr (12, [v0, .ref h1])), (h3, .inl (K 1, 20, .inl (fun _ => nI 0))), (h4, .inr (13, [v7, v8, .int (nI 1)])), (h5, .inr (13, [v9, v10, .int (nI 0)])), (h1, .inr (10, [.ref h2, .ref h4, v1, .ref h5, .ref h3, .int (nI 0), .int (nI 0), .int (nI 60), .int (nI 0), v2, v3, .int (nI 0), .int (nI 0), .int (nI 0), .int (nI 0), v4, v5])), ((u0 1), .inr (14, [.int (nI 0), .int (-1), .int (nI 0), .ref h2])), (h2, .inr (13, [.int (nI 0), v6, .int (nI 0)]))]) (run_V (rest := []) hx hb hml hown hts hK hP hD hS hA hm (C257_iterator l G D K H.size (u0 0) (.ref (G 0)) (.int (nI 0))) [5] rfl rfl mok_yJx4a65c_iterator_32c93 w_2034 w_1372 w_1373 (rcv hK hP 5 rfl rfl rfl) ⟨Nat.le_of_ble_eq_true rfl, Nat.le_of_ble_eq_true rfl⟩ rfl hl.1 rfl (Nat.le_of_ble_eq_true rfl) dX12_count_10 ⟨(Nat.le_of_ble_eq_true rfl), (Nat.le_of_ble_eq_true rfl)⟩) hP hD hS hA [5] [0, 1, 2, 3, 4, 6, 7] rfl rfl rfl (by decide) (w2 := fun u1 => [(h0, .inr (12, [v0, .ref h1])), (h3, .inl (K 1, 20, .inl (fun _ => nI 0))), (h4, .inr (13, [v7, v8, .int (nI 1)])), (h5, .inr (13, [v9, v10, .int (nI 0)])), (h1, .inr (10, [.ref h2, .ref h4, v1, .ref h5, .ref h3, .int (nI 0), .int (nI 0), .int (nI 60), .int (nI 0), v2, v3, .int (nI 0), .int (nI 0), .int (nI 0), .int (nI 0), v4, v5])), ((u0 1), .inr (14, [.int (nI 0), .int (-1), .int (nI 0), .ref h2])), (h2, .inr (13, [.int (nI 0), v6, .int (nI 0)])), ((u1 0), .inr (14, [.int (nI 0), .int (-1), .int (nI 0), .ref (u0 0)])), ((u0 0), .inr (13, [.int (nI 0), .ref (G 0), .int (nI 0)]))]) (fun _ => rfl) (fun u1 H locs hP hD hS => ?_)
  refine w_tov (y := .ref (u1 0)) rfl ?_
  refine lv_astore_n (lv' := [(3, .ref (u1 0)), (2, .int (nI 0)), (0, .ref h0), (1, .int (nI 12))]) hx hb dX12_count_13 rfl hl (by decide) rfl (fun ls hl => ?_)
  refine lv_aload_n hx hb dX12_count_14 rfl (lv_at hl 0 rfl) ?_
  refine k5_i (wr := [(h0, .inr (12, [v0, .ref h1])), (h3, .inl (K 1, 20, .inl (fun _ => nI 0))), (h4, .inr (13, [v7, v8, .int (nI 1)])), (h5, .inr (13, [v9, v10, .int (nI 0)])), (h1, .inr (10, [.ref h2, .ref h4, v1, .ref h5, .ref h3, .int (nI 0), .int (nI 0), .int (nI 60), .int (nI 0), v2, v3, .int (nI 0), .int (nI 0), .int (nI 0), .int (nI 0), v4, v5])), ((u0 1), .inr (14, [.int (nI 0), .int (-1), .int (nI 0), .ref h2])), (h2, .inr (13, [.int (nI 0), v6, .int (nI 0)]))]) (run_F (rest := []) hx hb hml hown hts hK hP hD hS hA hm (C258_hasNext l G D K H.size (u1 0) (u0 0) (.int (-1)) (.int (nI 0)) (.int (nI 0)) (.ref (G 0))) [7, 8] rfl rfl mok_yJx35411_hasNext_aae02 w_2036 w_1399 w_1401 hm.2.2.2.2.2.2.1 7 rfl rfl rfl (by decide +kernel) ⟨Nat.le_of_ble_eq_true rfl, Nat.le_of_ble_eq_true rfl⟩ rfl hl.1 rfl (Nat.le_of_ble_eq_true rfl) dX12_count_15 ⟨(Nat.le_of_ble_eq_true rfl), (Nat.le_of_ble_eq_true rfl)⟩) hP hD hS hA [7, 8] [0, 1, 2, 3, 4, 5, 6] rfl rfl rfl (by decide) (w2 := fun u2 => [(h0, .inr (12, [v0, .ref h1])), (h3, .inl (K 1, 20, .inl (fun _ => nI 0))), (h4, .inr (13, [v7, v8, .int (nI 1)])), (h5, .inr (13, [v9, v10, .int (nI 0)])), (h1, .inr (10, [.ref h2, .ref h4, v1, .ref h5, .ref h3, .int (nI 0), .int (nI 0), .int (nI 60), .int (nI 0), v2, v3, .int (nI 0), .int (nI 0), .int (nI 0), .int (nI 0), v4, v5])), ((u0 1), .inr (14, [.int (nI 0), .int (-1), .int (nI 0), .ref h2])), (h2, .inr (13, [.int (nI 0), v6, .int (nI 0)])), ((u1 0), .inr (14, [.int (nI 0), .int (-1), .int (nI 0), .ref (u0 0)])), ((u0 0), .inr (13, [.int (nI 0), .ref (G 0), .int (nI 0)]))]) (fun _ => rfl) (fun u2 H locs hP hD hS => ?_)
  refine lv_if_eq (tgt := 45) hx hb dX12_count_20 (by decide) (fun _ => ?_) (fun c9 => absurd (by decide +kernel) c9)
  refine lv_iconst (v := nI 0) hx hb dX12_count_45 (by decide +kernel) ?_
  refine lv_istore_n (lv' := [(3, .int (nI 0)), (2, .int (nI 0)), (0, .ref h0), (1, .int (nI 12))]) hx hb dX12_count_46 rfl hl (by decide) rfl (fun ls hl => ?_)
  refine lv_aload_n hx hb dX12_count_47 rfl (lv_at hl 2 rfl) ?_
  refine r_get hx hb hts ok_RX12 hown hK hP 0 rfl rfl 1 (by decide) w_1294 (fun _ h9 => h9) rfl dX12_count_48 ?_
  refine r_get hx hb hts ok_RX10 hown hK hP 4 rfl rfl 4 (by decide) w_1233 (fun _ h9 => h9) rfl dX12_count_51 ?_
  refine lv_astore (lv' := [(4, .ref h3), (3, .int (nI 0)), (2, .int (nI 0)), (0, .ref h0), (1, .int (nI 12))]) hx hb dX12_count_54 hl (by decide) rfl (fun ls hl => ?_)
  refine lv_aload hx hb dX12_count_56 (lv_at hl 0 rfl) ?_
  refine r_alen (n := 20) hx hb hK hP 1 1 rfl rfl rfl dX12_count_58 ?_
  refine lv_istore (lv' := [(5, .int (nI 20)), (4, .ref h3), (3, .int (nI 0)), (2, .int (nI 0)), (0, .ref h0), (1, .int (nI 12))]) hx hb dX12_count_59 hl (by decide) rfl (fun ls hl => ?_)
  refine lv_iconst (v := nI 0) hx hb dX12_count_61 (by decide +kernel) ?_
  refine lv_istore (lv' := [(6, .int (nI 0)), (5, .int (nI 20)), (4, .ref h3), (3, .int (nI 0)), (2, .int (nI 0)), (0, .ref h0), (1, .int (nI 12))]) hx hb dX12_count_62 hl (by decide) rfl (fun ls hl => ?_)
  refine lv_iload hx hb dX12_count_64 (lv_at hl 0 rfl) ?_
  refine lv_iload hx hb dX12_count_66 (lv_at hl 1 rfl) ?_
  refine lv_icmp_ge (tgt := 97) hx hb dX12_count_68 (by decide) (fun c9 => absurd c9 (by decide +kernel)) (fun _ => ?_)
  refine lv_aload hx hb dX12_count_71 (lv_at hl 2 rfl) ?_
  refine lv_iload hx hb dX12_count_73 (lv_at hl 0 rfl) ?_
  refine r_zald (k := 0) hx hb hK hP 1 1 rfl rfl (Nat.le_of_ble_eq_true rfl) (by decide) (v := nI 0) rfl dX12_count_75 ?_
  refine lv_istore (lv' := [(7, .int (nI 0)), (6, .int (nI 0)), (5, .int (nI 20)), (4, .ref h3), (3, .int (nI 0)), (2, .int (nI 0)), (0, .ref h0), (1, .int (nI 12))]) hx hb dX12_count_76 hl (by decide) rfl (fun ls hl => ?_)
  refine lv_iload_n hx hb dX12_count_78 rfl (lv_at hl 4 rfl) ?_
  refine lv_iload hx hb dX12_count_79 (lv_at hl 0 rfl) ?_
  refine lv_if_eq (tgt := 88) hx hb dX12_count_81 (by decide) (fun _ => ?_) (fun c9 => absurd (by decide +kernel) c9)
  refine lv_iconst (v := nI 0) hx hb dX12_count_88 (by decide +kernel) ?_
  refine lv_iadd hx hb dX12_count_89 ?_
  refine w_toeq (show (nI 0) + (nI 0) = nI 0 by decide +kernel) ?_
  refine lv_istore_n (lv' := [(3, .int (nI 0)), (7, .int (nI 0)), (6, .int (nI 0)), (5, .int (nI 20)), (4, .ref h3), (2, .int (nI 0)), (0, .ref h0), (1, .int (nI 12))]) hx hb dX12_count_90 rfl hl (by decide) rfl (fun ls hl => ?_)
  refine lv_iinc (v := nI 1) (lv' := [(6, .int (nI 1)), (3, .int (nI 0)), (7, .int (nI 0)), (5, .int (nI 20)), (4, .ref h3), (2, .int (nI 0)), (0, .ref h0), (1, .int (nI 12))]) hx hb dX12_count_91 hl (k := 2) rfl (by decide +kernel) (by decide) rfl (fun ls hl => ?_)
  refine lv_goto (tgt := 64) hx hb dX12_count_94 (by decide) ?_
  refine lv_iload hx hb dX12_count_64 (lv_at hl 0 rfl) ?_
  refine lv_iload hx hb dX12_count_66 (lv_at hl 3 rfl) ?_
  refine lv_icmp_ge (tgt := 97) hx hb dX12_count_68 (by decide) (fun c9 => absurd c9 (by decide +kernel)) (fun _ => ?_)
  refine lv_aload hx hb dX12_count_71 (lv_at hl 4 rfl) ?_
  refine lv_iload hx hb dX12_count_73 (lv_at hl 0 rfl) ?_
  refine r_zald (k := 1) hx hb hK hP 1 1 rfl rfl (Nat.le_of_ble_eq_true rfl) (by decide) (v := nI 0) rfl dX12_count_75 ?_
  refine lv_istore (lv' := [(7, .int (nI 0)), (6, .int (nI 1)), (3, .int (nI 0)), (5, .int (nI 20)), (4, .ref h3), (2, .int (nI 0)), (0, .ref h0), (1, .int (nI 12))]) hx hb dX12_count_76 hl (by decide) rfl (fun ls hl => ?_)
  refine lv_iload_n hx hb dX12_count_78 rfl (lv_at hl 2 rfl) ?_
  refine lv_iload hx hb dX12_count_79 (lv_at hl 0 rfl) ?_
  refine lv_if_eq (tgt := 88) hx hb dX12_count_81 (by decide) (fun _ => ?_) (fun c9 => absurd (by decide +kernel) c9)
  refine lv_iconst (v := nI 0) hx hb dX12_count_88 (by decide +kernel) ?_
  refine lv_iadd hx hb dX12_count_89 ?_
  refine w_toeq (show (nI 0) + (nI 0) = nI 0 by decide +kernel) ?_
  refine lv_istore_n (lv' := [(3, .int (nI 0)), (7, .int (nI 0)), (6, .int (nI 1)), (5, .int (nI 20)), (4, .ref h3), (2, .int (nI 0)), (0, .ref h0), (1, .int (nI 12))]) hx hb dX12_count_90 rfl hl (by decide) rfl (fun ls hl => ?_)
  refine lv_iinc (v := nI 2) (lv' := [(6, .int (nI 2)), (3, .int (nI 0)), (7, .int (nI 0)), (5, .int (nI 20)), (4, .ref h3), (2, .int (nI 0)), (0, .ref h0), (1, .int (nI 12))]) hx hb dX12_count_91 hl (k := 2) rfl (by decide +kernel) (by decide) rfl (fun ls hl => ?_)
  refine lv_goto (tgt := 64) hx hb dX12_count_94 (by decide) ?_
  refine lv_iload hx hb dX12_count_64 (lv_at hl 0 rfl) ?_
  refine lv_iload hx hb dX12_count_66 (lv_at hl 3 rfl) ?_
  refine lv_icmp_ge (tgt := 97) hx hb dX12_count_68 (by decide) (fun c9 => absurd c9 (by decide +kernel)) (fun _ => ?_)
  refine lv_aload hx hb dX12_count_71 (lv_at hl 4 rfl) ?_
  refine lv_iload hx hb dX12_count_73 (lv_at hl 0 rfl) ?_
  refine r_zald (k := 2) hx hb hK hP 1 1 rfl rfl (Nat.le_of_ble_eq_true rfl) (by decide) (v := nI 0) rfl dX12_count_75 ?_
  refine lv_istore (lv' := [(7, .int (nI 0)), (6, .int (nI 2)), (3, .int (nI 0)), (5, .int (nI 20)), (4, .ref h3), (2, .int (nI 0)), (0, .ref h0), (1, .int (nI 12))]) hx hb dX12_count_76 hl (by decide) rfl (fun ls hl => ?_)
  refine lv_iload_n hx hb dX12_count_78 rfl (lv_at hl 2 rfl) ?_
  refine lv_iload hx hb dX12_count_79 (lv_at hl 0 rfl) ?_
  refine lv_if_eq (tgt := 88) hx hb dX12_count_81 (by decide) (fun _ => ?_) (fun c9 => absurd (by decide +kernel) c9)
  refine lv_iconst (v := nI 0) hx hb dX12_count_88 (by decide +kernel) ?_
  refine lv_iadd hx hb dX12_count_89 ?_
  refine w_toeq (show (nI 0) + (nI 0) = nI 0 by decide +kernel) ?_
  refine lv_istore_n (lv' := [(3, .int (nI 0)), (7, .int (nI 0)), (6, .int (nI 2)), (5, .int (nI 20)), (4, .ref h3), (2, .int (nI 0)), (0, .ref h0), (1, .int (nI 12))]) hx hb dX12_count_90 rfl hl (by decide) rfl (fun ls hl => ?_)
  refine lv_iinc (v := nI 3) (lv' := [(6, .int (nI 3)), (3, .int (nI 0)), (7, .int (nI 0)), (5, .int (nI 20)), (4, .ref h3), (2, .int (nI 0)), (0, .ref h0), (1, .int (nI 12))]) hx hb dX12_count_91 hl (k := 2) rfl (by decide +kernel) (by decide) rfl (fun ls hl => ?_)
  refine lv_goto (tgt := 64) hx hb dX12_count_94 (by decide) ?_
  refine lv_iload hx hb dX12_count_64 (lv_at hl 0 rfl) ?_
  refine lv_iload hx hb dX12_count_66 (lv_at hl 3 rfl) ?_
  refine lv_icmp_ge (tgt := 97) hx hb dX12_count_68 (by decide) (fun c9 => absurd c9 (by decide +kernel)) (fun _ => ?_)
  refine lv_aload hx hb dX12_count_71 (lv_at hl 4 rfl) ?_
  refine lv_iload hx hb dX12_count_73 (lv_at hl 0 rfl) ?_
  refine r_zald (k := 3) hx hb hK hP 1 1 rfl rfl (Nat.le_of_ble_eq_true rfl) (by decide) (v := nI 0) rfl dX12_count_75 ?_
  refine lv_istore (lv' := [(7, .int (nI 0)), (6, .int (nI 3)), (3, .int (nI 0)), (5, .int (nI 20)), (4, .ref h3), (2, .int (nI 0)), (0, .ref h0), (1, .int (nI 12))]) hx hb dX12_count_76 hl (by decide) rfl (fun ls hl => ?_)
  refine lv_iload_n hx hb dX12_count_78 rfl (lv_at hl 2 rfl) ?_
  refine lv_iload hx hb dX12_count_79 (lv_at hl 0 rfl) ?_
  refine lv_if_eq (tgt := 88) hx hb dX12_count_81 (by decide) (fun _ => ?_) (fun c9 => absurd (by decide +kernel) c9)
  refine lv_iconst (v := nI 0) hx hb dX12_count_88 (by decide +kernel) ?_
  refine lv_iadd hx hb dX12_count_89 ?_
  refine w_toeq (show (nI 0) + (nI 0) = nI 0 by decide +kernel) ?_
  refine lv_istore_n (lv' := [(3, .int (nI 0)), (7, .int (nI 0)), (6, .int (nI 3)), (5, .int (nI 20)), (4, .ref h3), (2, .int (nI 0)), (0, .ref h0), (1, .int (nI 12))]) hx hb dX12_count_90 rfl hl (by decide) rfl (fun ls hl => ?_)
  refine lv_iinc (v := nI 4) (lv' := [(6, .int (nI 4)), (3, .int (nI 0)), (7, .int (nI 0)), (5, .int (nI 20)), (4, .ref h3), (2, .int (nI 0)), (0, .ref h0), (1, .int (nI 12))]) hx hb dX12_count_91 hl (k := 2) rfl (by decide +kernel) (by decide) rfl (fun ls hl => ?_)
  refine lv_goto (tgt := 64) hx hb dX12_count_94 (by decide) ?_
  refine lv_iload hx hb dX12_count_64 (lv_at hl 0 rfl) ?_
  refine lv_iload hx hb dX12_count_66 (lv_at hl 3 rfl) ?_
  refine lv_icmp_ge (tgt := 97) hx hb dX12_count_68 (by decide) (fun c9 => absurd c9 (by decide +kernel)) (fun _ => ?_)
  refine lv_aload hx hb dX12_count_71 (lv_at hl 4 rfl) ?_
  refine lv_iload hx hb dX12_count_73 (lv_at hl 0 rfl) ?_
  refine r_zald (k := 4) hx hb hK hP 1 1 rfl rfl (Nat.le_of_ble_eq_true rfl) (by decide) (v := nI 0) rfl dX12_count_75 ?_
  refine lv_istore (lv' := [(7, .int (nI 0)), (6, .int (nI 4)), (3, .int (nI 0)), (5, .int (nI 20)), (4, .ref h3), (2, .int (nI 0)), (0, .ref h0), (1, .int (nI 12))]) hx hb dX12_count_76 hl (by decide) rfl (fun ls hl => ?_)
  refine lv_iload_n hx hb dX12_count_78 rfl (lv_at hl 2 rfl) ?_
  refine lv_iload hx hb dX12_count_79 (lv_at hl 0 rfl) ?_
  refine lv_if_eq (tgt := 88) hx hb dX12_count_81 (by decide) (fun _ => ?_) (fun c9 => absurd (by decide +kernel) c9)
  refine lv_iconst (v := nI 0) hx hb dX12_count_88 (by decide +kernel) ?_
  refine lv_iadd hx hb dX12_count_89 ?_
  refine w_toeq (show (nI 0) + (nI 0) = nI 0 by decide +kernel) ?_
  refine lv_istore_n (lv' := [(3, .int (nI 0)), (7, .int (nI 0)), (6, .int (nI 4)), (5, .int (nI 20)), (4, .ref h3), (2, .int (nI 0)), (0, .ref h0), (1, .int (nI 12))]) hx hb dX12_count_90 rfl hl (by decide) rfl (fun ls hl => ?_)
  refine lv_iinc (v := nI 5) (lv' := [(6, .int (nI 5)), (3, .int (nI 0)), (7, .int (nI 0)), (5, .int (nI 20)), (4, .ref h3), (2, .int (nI 0)), (0, .ref h0), (1, .int (nI 12))]) hx hb dX12_count_91 hl (k := 2) rfl (by decide +kernel) (by decide) rfl (fun ls hl => ?_)
  refine lv_goto (tgt := 64) hx hb dX12_count_94 (by decide) ?_
  refine lv_iload hx hb dX12_count_64 (lv_at hl 0 rfl) ?_
  refine lv_iload hx hb dX12_count_66 (lv_at hl 3 rfl) ?_
  refine lv_icmp_ge (tgt := 97) hx hb dX12_count_68 (by decide) (fun c9 => absurd c9 (by decide +kernel)) (fun _ => ?_)
  refine lv_aload hx hb dX12_count_71 (lv_at hl 4 rfl) ?_
  refine lv_iload hx hb dX12_count_73 (lv_at hl 0 rfl) ?_
  refine r_zald (k := 5) hx hb hK hP 1 1 rfl rfl (Nat.le_of_ble_eq_true rfl) (by decide) (v := nI 0) rfl dX12_count_75 ?_
  refine lv_istore (lv' := [(7, .int (nI 0)), (6, .int (nI 5)), (3, .int (nI 0)), (5, .int (nI 20)), (4, .ref h3), (2, .int (nI 0)), (0, .ref h0), (1, .int (nI 12))]) hx hb dX12_count_76 hl (by decide) rfl (fun ls hl => ?_)
  refine lv_iload_n hx hb dX12_count_78 rfl (lv_at hl 2 rfl) ?_
  refine lv_iload hx hb dX12_count_79 (lv_at hl 0 rfl) ?_
  refine lv_if_eq (tgt := 88) hx hb dX12_count_81 (by decide) (fun _ => ?_) (fun c9 => absurd (by decide +kernel) c9)
  refine lv_iconst (v := nI 0) hx hb dX12_count_88 (by decide +kernel) ?_
  refine lv_iadd hx hb dX12_count_89 ?_
  refine w_toeq (show (nI 0) + (nI 0) = nI 0 by decide +kernel) ?_
  refine lv_istore_n (lv' := [(3, .int (nI 0)), (7, .int (nI 0)), (6, .int (nI 5)), (5, .int (nI 20)), (4, .ref h3), (2, .int (nI 0)), (0, .ref h0), (1, .int (nI 12))]) hx hb dX12_count_90 rfl hl (by decide) rfl (fun ls hl => ?_)
  refine lv_iinc (v := nI 6) (lv' := [(6, .int (nI 6)), (3, .int (nI 0)), (7, .int (nI 0)), (5, .int (nI 20)), (4, .ref h3), (2, .int (nI 0)), (0, .ref h0), (1, .int (nI 12))]) hx hb dX12_count_91 hl (k := 2) rfl (by decide +kernel) (by decide) rfl (fun ls hl => ?_)
  refine lv_goto (tgt := 64) hx hb dX12_count_94 (by decide) ?_
  refine lv_iload hx hb dX12_count_64 (lv_at hl 0 rfl) ?_
  refine lv_iload hx hb dX12_count_66 (lv_at hl 3 rfl) ?_
  refine lv_icmp_ge (tgt := 97) hx hb dX12_count_68 (by decide) (fun c9 => absurd c9 (by decide +kernel)) (fun _ => ?_)
  refine lv_aload hx hb dX12_count_71 (lv_at hl 4 rfl) ?_
  refine lv_iload hx hb dX12_count_73 (lv_at hl 0 rfl) ?_
  refine r_zald (k := 6) hx hb hK hP 1 1 rfl rfl (Nat.le_of_ble_eq_true rfl) (by decide) (v := nI 0) rfl dX12_count_75 ?_
  refine lv_istore (lv' := [(7, .int (nI 0)), (6, .int (nI 6)), (3, .int (nI 0)), (5, .int (nI 20)), (4, .ref h3), (2, .int (nI 0)), (0, .ref h0), (1, .int (nI 12))]) hx hb dX12_count_76 hl (by decide) rfl (fun ls hl => ?_)
  refine lv_iload_n hx hb dX12_count_78 rfl (lv_at hl 2 rfl) ?_
  refine lv_iload hx hb dX12_count_79 (lv_at hl 0 rfl) ?_
  refine lv_if_eq (tgt := 88) hx hb dX12_count_81 (by decide) (fun _ => ?_) (fun c9 => absurd (by decide +kernel) c9)
  refine lv_iconst (v := nI 0) hx hb dX12_count_88 (by decide +kernel) ?_
  refine lv_iadd hx hb dX12_count_89 ?_
  refine w_toeq (show (nI 0) + (nI 0) = nI 0 by decide +kernel) ?_
  refine lv_istore_n (lv' := [(3, .int (nI 0)), (7, .int (nI 0)), (6, .int (nI 6)), (5, .int (nI 20)), (4, .ref h3), (2, .int (nI 0)), (0, .ref h0), (1, .int (nI 12))]) hx hb dX12_count_90 rfl hl (by decide) rfl (fun ls hl => ?_)
  refine lv_iinc (v := nI 7) (lv' := [(6, .int (nI 7)), (3, .int (nI 0)), (7, .int (nI 0)), (5, .int (nI 20)), (4, .ref h3), (2, .int (nI 0)), (0, .ref h0), (1, .int (nI 12))]) hx hb dX12_count_91 hl (k := 2) rfl (by decide +kernel) (by decide) rfl (fun ls hl => ?_)
  refine lv_goto (tgt := 64) hx hb dX12_count_94 (by decide) ?_
  refine lv_iload hx hb dX12_count_64 (lv_at hl 0 rfl) ?_
  refine lv_iload hx hb dX12_count_66 (lv_at hl 3 rfl) ?_
  refine lv_icmp_ge (tgt := 97) hx hb dX12_count_68 (by decide) (fun c9 => absurd c9 (by decide +kernel)) (fun _ => ?_)
  refine lv_aload hx hb dX12_count_71 (lv_at hl 4 rfl) ?_
  refine lv_iload hx hb dX12_count_73 (lv_at hl 0 rfl) ?_
  refine r_zald (k := 7) hx hb hK hP 1 1 rfl rfl (Nat.le_of_ble_eq_true rfl) (by decide) (v := nI 0) rfl dX12_count_75 ?_
  refine lv_istore (lv' := [(7, .int (nI 0)), (6, .int (nI 7)), (3, .int (nI 0)), (5, .int (nI 20)), (4, .ref h3), (2, .int (nI 0)), (0, .ref h0), (1, .int (nI 12))]) hx hb dX12_count_76 hl (by decide) rfl (fun ls hl => ?_)
  refine lv_iload_n hx hb dX12_count_78 rfl (lv_at hl 2 rfl) ?_
  refine lv_iload hx hb dX12_count_79 (lv_at hl 0 rfl) ?_
  refine lv_if_eq (tgt := 88) hx hb dX12_count_81 (by decide) (fun _ => ?_) (fun c9 => absurd (by decide +kernel) c9)
  refine lv_iconst (v := nI 0) hx hb dX12_count_88 (by decide +kernel) ?_
  refine lv_iadd hx hb dX12_count_89 ?_
  refine w_toeq (show (nI 0) + (nI 0) = nI 0 by decide +kernel) ?_
  refine lv_istore_n (lv' := [(3, .int (nI 0)), (7, .int (nI 0)), (6, .int (nI 7)), (5, .int (nI 20)), (4, .ref h3), (2, .int (nI 0)), (0, .ref h0), (1, .int (nI 12))]) hx hb dX12_count_90 rfl hl (by decide) rfl (fun ls hl => ?_)
  refine lv_iinc (v := nI 8) (lv' := [(6, .int (nI 8)), (3, .int (nI 0)), (7, .int (nI 0)), (5, .int (nI 20)), (4, .ref h3), (2, .int (nI 0)), (0, .ref h0), (1, .int (nI 12))]) hx hb dX12_count_91 hl (k := 2) rfl (by decide +kernel) (by decide) rfl (fun ls hl => ?_)
  refine lv_goto (tgt := 64) hx hb dX12_count_94 (by decide) ?_
  refine lv_iload hx hb dX12_count_64 (lv_at hl 0 rfl) ?_
  refine lv_iload hx hb dX12_count_66 (lv_at hl 3 rfl) ?_
  refine lv_icmp_ge (tgt := 97) hx hb dX12_count_68 (by decide) (fun c9 => absurd c9 (by decide +kernel)) (fun _ => ?_)
  refine lv_aload hx hb dX12_count_71 (lv_at hl 4 rfl) ?_
  refine lv_iload hx hb dX12_count_73 (lv_at hl 0 rfl) ?_
  refine r_zald (k := 8) hx hb hK hP 1 1 rfl rfl (Nat.le_of_ble_eq_true rfl) (by decide) (v := nI 0) rfl dX12_count_75 ?_
  refine lv_istore (lv' := [(7, .int (nI 0)), (6, .int (nI 8)), (3, .int (nI 0)), (5, .int (nI 20)), (4, .ref h3), (2, .int (nI 0)), (0, .ref h0), (1, .int (nI 12))]) hx hb dX12_count_76 hl (by decide) rfl (fun ls hl => ?_)
  refine lv_iload_n hx hb dX12_count_78 rfl (lv_at hl 2 rfl) ?_
  refine lv_iload hx hb dX12_count_79 (lv_at hl 0 rfl) ?_
  refine lv_if_eq (tgt := 88) hx hb dX12_count_81 (by decide) (fun _ => ?_) (fun c9 => absurd (by decide +kernel) c9)
  refine lv_iconst (v := nI 0) hx hb dX12_count_88 (by decide +kernel) ?_
  refine lv_iadd hx hb dX12_count_89 ?_
  refine w_toeq (show (nI 0) + (nI 0) = nI 0 by decide +kernel) ?_
  refine lv_istore_n (lv' := [(3, .int (nI 0)), (7, .int (nI 0)), (6, .int (nI 8)), (5, .int (nI 20)), (4, .ref h3), (2, .int (nI 0)), (0, .ref h0), (1, .int (nI 12))]) hx hb dX12_count_90 rfl hl (by decide) rfl (fun ls hl => ?_)
  refine lv_iinc (v := nI 9) (lv' := [(6, .int (nI 9)), (3, .int (nI 0)), (7, .int (nI 0)), (5, .int (nI 20)), (4, .ref h3), (2, .int (nI 0)), (0, .ref h0), (1, .int (nI 12))]) hx hb dX12_count_91 hl (k := 2) rfl (by decide +kernel) (by decide) rfl (fun ls hl => ?_)
  refine lv_goto (tgt := 64) hx hb dX12_count_94 (by decide) ?_
  refine lv_iload hx hb dX12_count_64 (lv_at hl 0 rfl) ?_
  refine lv_iload hx hb dX12_count_66 (lv_at hl 3 rfl) ?_
  refine lv_icmp_ge (tgt := 97) hx hb dX12_count_68 (by decide) (fun c9 => absurd c9 (by decide +kernel)) (fun _ => ?_)
  refine lv_aload hx hb dX12_count_71 (lv_at hl 4 rfl) ?_
  refine lv_iload hx hb dX12_count_73 (lv_at hl 0 rfl) ?_
  refine r_zald (k := 9) hx hb hK hP 1 1 rfl rfl (Nat.le_of_ble_eq_true rfl) (by decide) (v := nI 0) rfl dX12_count_75 ?_
  refine lv_istore (lv' := [(7, .int (nI 0)), (6, .int (nI 9)), (3, .int (nI 0)), (5, .int (nI 20)), (4, .ref h3), (2, .int (nI 0)), (0, .ref h0), (1, .int (nI 12))]) hx hb dX12_count_76 hl (by decide) rfl (fun ls hl => ?_)
  refine lv_iload_n hx hb dX12_count_78 rfl (lv_at hl 2 rfl) ?_
  refine lv_iload hx hb dX12_count_79 (lv_at hl 0 rfl) ?_
  refine lv_if_eq (tgt := 88) hx hb dX12_count_81 (by decide) (fun _ => ?_) (fun c9 => absurd (by decide +kernel) c9)
  refine lv_iconst (v := nI 0) hx hb dX12_count_88 (by decide +kernel) ?_
  refine lv_iadd hx hb dX12_count_89 ?_
  refine w_toeq (show (nI 0) + (nI 0) = nI 0 by decide +kernel) ?_
  refine lv_istore_n (lv' := [(3, .int (nI 0)), (7, .int (nI 0)), (6, .int (nI 9)), (5, .int (nI 20)), (4, .ref h3), (2, .int (nI 0)), (0, .ref h0), (1, .int (nI 12))]) hx hb dX12_count_90 rfl hl (by decide) rfl (fun ls hl => ?_)
  refine lv_iinc (v := nI 10) (lv' := [(6, .int (nI 10)), (3, .int (nI 0)), (7, .int (nI 0)), (5, .int (nI 20)), (4, .ref h3), (2, .int (nI 0)), (0, .ref h0), (1, .int (nI 12))]) hx hb dX12_count_91 hl (k := 2) rfl (by decide +kernel) (by decide) rfl (fun ls hl => ?_)
  refine lv_goto (tgt := 64) hx hb dX12_count_94 (by decide) ?_
  refine lv_iload hx hb dX12_count_64 (lv_at hl 0 rfl) ?_
  refine lv_iload hx hb dX12_count_66 (lv_at hl 3 rfl) ?_
  refine lv_icmp_ge (tgt := 97) hx hb dX12_count_68 (by decide) (fun c9 => absurd c9 (by decide +kernel)) (fun _ => ?_)
  refine lv_aload hx hb dX12_count_71 (lv_at hl 4 rfl) ?_
  refine lv_iload hx hb dX12_count_73 (lv_at hl 0 rfl) ?_
  refine r_zald (k := 10) hx hb hK hP 1 1 rfl rfl (Nat.le_of_ble_eq_true rfl) (by decide) (v := nI 0) rfl dX12_count_75 ?_
  refine lv_istore (lv' := [(7, .int (nI 0)), (6, .int (nI 10)), (3, .int (nI 0)), (5, .int (nI 20)), (4, .ref h3), (2, .int (nI 0)), (0, .ref h0), (1, .int (nI 12))]) hx hb dX12_count_76 hl (by decide) rfl (fun ls hl => ?_)
  refine lv_iload_n hx hb dX12_count_78 rfl (lv_at hl 2 rfl) ?_
  refine lv_iload hx hb dX12_count_79 (lv_at hl 0 rfl) ?_
  refine lv_if_eq (tgt := 88) hx hb dX12_count_81 (by decide) (fun _ => ?_) (fun c9 => absurd (by decide +kernel) c9)
  refine lv_iconst (v := nI 0) hx hb dX12_count_88 (by decide +kernel) ?_
  refine lv_iadd hx hb dX12_count_89 ?_
  refine w_toeq (show (nI 0) + (nI 0) = nI 0 by decide +kernel) ?_
  refine lv_istore_n (lv' := [(3, .int (nI 0)), (7, .int (nI 0)), (6, .int (nI 10)), (5, .int (nI 20)), (4, .ref h3), (2, .int (nI 0)), (0, .ref h0), (1, .int (nI 12))]) hx hb dX12_count_90 rfl hl (by decide) rfl (fun ls hl => ?_)
  refine lv_iinc (v := nI 11) (lv' := [(6, .int (nI 11)), (3, .int (nI 0)), (7, .int (nI 0)), (5, .int (nI 20)), (4, .ref h3), (2, .int (nI 0)), (0, .ref h0), (1, .int (nI 12))]) hx hb dX12_count_91 hl (k := 2) rfl (by decide +kernel) (by decide) rfl (fun ls hl => ?_)
  refine lv_goto (tgt := 64) hx hb dX12_count_94 (by decide) ?_
  refine lv_iload hx hb dX12_count_64 (lv_at hl 0 rfl) ?_
  refine lv_iload hx hb dX12_count_66 (lv_at hl 3 rfl) ?_
  refine lv_icmp_ge (tgt := 97) hx hb dX12_count_68 (by decide) (fun c9 => absurd c9 (by decide +kernel)) (fun _ => ?_)
  refine lv_aload hx hb dX12_count_71 (lv_at hl 4 rfl) ?_
  refine lv_iload hx hb dX12_count_73 (lv_at hl 0 rfl) ?_
  refine r_zald (k := 11) hx hb hK hP 1 1 rfl rfl (Nat.le_of_ble_eq_true rfl) (by decide) (v := nI 0) rfl dX12_count_75 ?_
  refine lv_istore (lv' := [(7, .int (nI 0)), (6, .int (nI 11)), (3, .int (nI 0)), (5, .int (nI 20)), (4, .ref h3), (2, .int (nI 0)), (0, .ref h0), (1, .int (nI 12))]) hx hb dX12_count_76 hl (by decide) rfl (fun ls hl => ?_)
  refine lv_iload_n hx hb dX12_count_78 rfl (lv_at hl 2 rfl) ?_
  refine lv_iload hx hb dX12_count_79 (lv_at hl 0 rfl) ?_
  refine lv_if_eq (tgt := 88) hx hb dX12_count_81 (by decide) (fun _ => ?_) (fun c9 => absurd (by decide +kernel) c9)
  refine lv_iconst (v := nI 0) hx hb dX12_count_88 (by decide +kernel) ?_
  refine lv_iadd hx hb dX12_count_89 ?_
  refine w_toeq (show (nI 0) + (nI 0) = nI 0 by decide +kernel) ?_
  refine lv_istore_n (lv' := [(3, .int (nI 0)), (7, .int (nI 0)), (6, .int (nI 11)), (5, .int (nI 20)), (4, .ref h3), (2, .int (nI 0)), (0, .ref h0), (1, .int (nI 12))]) hx hb dX12_count_90 rfl hl (by decide) rfl (fun ls hl => ?_)
  refine lv_iinc (v := nI 12) (lv' := [(6, .int (nI 12)), (3, .int (nI 0)), (7, .int (nI 0)), (5, .int (nI 20)), (4, .ref h3), (2, .int (nI 0)), (0, .ref h0), (1, .int (nI 12))]) hx hb dX12_count_91 hl (k := 2) rfl (by decide +kernel) (by decide) rfl (fun ls hl => ?_)
  refine lv_goto (tgt := 64) hx hb dX12_count_94 (by decide) ?_
  refine lv_iload hx hb dX12_count_64 (lv_at hl 0 rfl) ?_
  refine lv_iload hx hb dX12_count_66 (lv_at hl 3 rfl) ?_
  refine lv_icmp_ge (tgt := 97) hx hb dX12_count_68 (by decide) (fun c9 => absurd c9 (by decide +kernel)) (fun _ => ?_)
  refine lv_aload hx hb dX12_count_71 (lv_at hl 4 rfl) ?_
  refine lv_iload hx hb dX12_count_73 (lv_at hl 0 rfl) ?_
  refine r_zald (k := 12) hx hb hK hP 1 1 rfl rfl (Nat.le_of_ble_eq_true rfl) (by decide) (v := nI 0) rfl dX12_count_75 ?_
  refine lv_istore (lv' := [(7, .int (nI 0)), (6, .int (nI 12)), (3, .int (nI 0)), (5, .int (nI 20)), (4, .ref h3), (2, .int (nI 0)), (0, .ref h0), (1, .int (nI 12))]) hx hb dX12_count_76 hl (by decide) rfl (fun ls hl => ?_)
  refine lv_iload_n hx hb dX12_count_78 rfl (lv_at hl 2 rfl) ?_
  refine lv_iload hx hb dX12_count_79 (lv_at hl 0 rfl) ?_
  refine lv_if_eq (tgt := 88) hx hb dX12_count_81 (by decide) (fun _ => ?_) (fun c9 => absurd (by decide +kernel) c9)
  refine lv_iconst (v := nI 0) hx hb dX12_count_88 (by decide +kernel) ?_
  refine lv_iadd hx hb dX12_count_89 ?_
  refine w_toeq (show (nI 0) + (nI 0) = nI 0 by decide +kernel) ?_
  refine lv_istore_n (lv' := [(3, .int (nI 0)), (7, .int (nI 0)), (6, .int (nI 12)), (5, .int (nI 20)), (4, .ref h3), (2, .int (nI 0)), (0, .ref h0), (1, .int (nI 12))]) hx hb dX12_count_90 rfl hl (by decide) rfl (fun ls hl => ?_)
  refine lv_iinc (v := nI 13) (lv' := [(6, .int (nI 13)), (3, .int (nI 0)), (7, .int (nI 0)), (5, .int (nI 20)), (4, .ref h3), (2, .int (nI 0)), (0, .ref h0), (1, .int (nI 12))]) hx hb dX12_count_91 hl (k := 2) rfl (by decide +kernel) (by decide) rfl (fun ls hl => ?_)
  refine lv_goto (tgt := 64) hx hb dX12_count_94 (by decide) ?_
  refine lv_iload hx hb dX12_count_64 (lv_at hl 0 rfl) ?_
  refine lv_iload hx hb dX12_count_66 (lv_at hl 3 rfl) ?_
  refine lv_icmp_ge (tgt := 97) hx hb dX12_count_68 (by decide) (fun c9 => absurd c9 (by decide +kernel)) (fun _ => ?_)
  refine lv_aload hx hb dX12_count_71 (lv_at hl 4 rfl) ?_
  refine lv_iload hx hb dX12_count_73 (lv_at hl 0 rfl) ?_
  refine r_zald (k := 13) hx hb hK hP 1 1 rfl rfl (Nat.le_of_ble_eq_true rfl) (by decide) (v := nI 0) rfl dX12_count_75 ?_
  refine lv_istore (lv' := [(7, .int (nI 0)), (6, .int (nI 13)), (3, .int (nI 0)), (5, .int (nI 20)), (4, .ref h3), (2, .int (nI 0)), (0, .ref h0), (1, .int (nI 12))]) hx hb dX12_count_76 hl (by decide) rfl (fun ls hl => ?_)
  refine lv_iload_n hx hb dX12_count_78 rfl (lv_at hl 2 rfl) ?_
  refine lv_iload hx hb dX12_count_79 (lv_at hl 0 rfl) ?_
  refine lv_if_eq (tgt := 88) hx hb dX12_count_81 (by decide) (fun _ => ?_) (fun c9 => absurd (by decide +kernel) c9)
  refine lv_iconst (v := nI 0) hx hb dX12_count_88 (by decide +kernel) ?_
  refine lv_iadd hx hb dX12_count_89 ?_
  refine w_toeq (show (nI 0) + (nI 0) = nI 0 by decide +kernel) ?_
  refine lv_istore_n (lv' := [(3, .int (nI 0)), (7, .int (nI 0)), (6, .int (nI 13)), (5, .int (nI 20)), (4, .ref h3), (2, .int (nI 0)), (0, .ref h0), (1, .int (nI 12))]) hx hb dX12_count_90 rfl hl (by decide) rfl (fun ls hl => ?_)
  refine lv_iinc (v := nI 14) (lv' := [(6, .int (nI 14)), (3, .int (nI 0)), (7, .int (nI 0)), (5, .int (nI 20)), (4, .ref h3), (2, .int (nI 0)), (0, .ref h0), (1, .int (nI 12))]) hx hb dX12_count_91 hl (k := 2) rfl (by decide +kernel) (by decide) rfl (fun ls hl => ?_)
  refine lv_goto (tgt := 64) hx hb dX12_count_94 (by decide) ?_
  refine lv_iload hx hb dX12_count_64 (lv_at hl 0 rfl) ?_
  refine lv_iload hx hb dX12_count_66 (lv_at hl 3 rfl) ?_
  refine lv_icmp_ge (tgt := 97) hx hb dX12_count_68 (by decide) (fun c9 => absurd c9 (by decide +kernel)) (fun _ => ?_)
  refine lv_aload hx hb dX12_count_71 (lv_at hl 4 rfl) ?_
  refine lv_iload hx hb dX12_count_73 (lv_at hl 0 rfl) ?_
  refine r_zald (k := 14) hx hb hK hP 1 1 rfl rfl (Nat.le_of_ble_eq_true rfl) (by decide) (v := nI 0) rfl dX12_count_75 ?_
  refine lv_istore (lv' := [(7, .int (nI 0)), (6, .int (nI 14)), (3, .int (nI 0)), (5, .int (nI 20)), (4, .ref h3), (2, .int (nI 0)), (0, .ref h0), (1, .int (nI 12))]) hx hb dX12_count_76 hl (by decide) rfl (fun ls hl => ?_)
  refine lv_iload_n hx hb dX12_count_78 rfl (lv_at hl 2 rfl) ?_
  refine lv_iload hx hb dX12_count_79 (lv_at hl 0 rfl) ?_
  refine lv_if_eq (tgt := 88) hx hb dX12_count_81 (by decide) (fun _ => ?_) (fun c9 => absurd (by decide +kernel) c9)
  refine lv_iconst (v := nI 0) hx hb dX12_count_88 (by decide +kernel) ?_
  refine lv_iadd hx hb dX12_count_89 ?_
  refine w_toeq (show (nI 0) + (nI 0) = nI 0 by decide +kernel) ?_
  refine lv_istore_n (lv' := [(3, .int (nI 0)), (7, .int (nI 0)), (6, .int (nI 14)), (5, .int (nI 20)), (4, .ref h3), (2, .int (nI 0)), (0, .ref h0), (1, .int (nI 12))]) hx hb dX12_count_90 rfl hl (by decide) rfl (fun ls hl => ?_)
  refine lv_iinc (v := nI 15) (lv' := [(6, .int (nI 15)), (3, .int (nI 0)), (7, .int (nI 0)), (5, .int (nI 20)), (4, .ref h3), (2, .int (nI 0)), (0, .ref h0), (1, .int (nI 12))]) hx hb dX12_count_91 hl (k := 2) rfl (by decide +kernel) (by decide) rfl (fun ls hl => ?_)
  refine lv_goto (tgt := 64) hx hb dX12_count_94 (by decide) ?_
  refine lv_iload hx hb dX12_count_64 (lv_at hl 0 rfl) ?_
  refine lv_iload hx hb dX12_count_66 (lv_at hl 3 rfl) ?_
  refine lv_icmp_ge (tgt := 97) hx hb dX12_count_68 (by decide) (fun c9 => absurd c9 (by decide +kernel)) (fun _ => ?_)
  refine lv_aload hx hb dX12_count_71 (lv_at hl 4 rfl) ?_
  refine lv_iload hx hb dX12_count_73 (lv_at hl 0 rfl) ?_
  refine r_zald (k := 15) hx hb hK hP 1 1 rfl rfl (Nat.le_of_ble_eq_true rfl) (by decide) (v := nI 0) rfl dX12_count_75 ?_
  refine lv_istore (lv' := [(7, .int (nI 0)), (6, .int (nI 15)), (3, .int (nI 0)), (5, .int (nI 20)), (4, .ref h3), (2, .int (nI 0)), (0, .ref h0), (1, .int (nI 12))]) hx hb dX12_count_76 hl (by decide) rfl (fun ls hl => ?_)
  refine lv_iload_n hx hb dX12_count_78 rfl (lv_at hl 2 rfl) ?_
  refine lv_iload hx hb dX12_count_79 (lv_at hl 0 rfl) ?_
  refine lv_if_eq (tgt := 88) hx hb dX12_count_81 (by decide) (fun _ => ?_) (fun c9 => absurd (by decide +kernel) c9)
  refine lv_iconst (v := nI 0) hx hb dX12_count_88 (by decide +kernel) ?_
  refine lv_iadd hx hb dX12_count_89 ?_
  refine w_toeq (show (nI 0) + (nI 0) = nI 0 by decide +kernel) ?_
  refine lv_istore_n (lv' := [(3, .int (nI 0)), (7, .int (nI 0)), (6, .int (nI 15)), (5, .int (nI 20)), (4, .ref h3), (2, .int (nI 0)), (0, .ref h0), (1, .int (nI 12))]) hx hb dX12_count_90 rfl hl (by decide) rfl (fun ls hl => ?_)
  refine lv_iinc (v := nI 16) (lv' := [(6, .int (nI 16)), (3, .int (nI 0)), (7, .int (nI 0)), (5, .int (nI 20)), (4, .ref h3), (2, .int (nI 0)), (0, .ref h0), (1, .int (nI 12))]) hx hb dX12_count_91 hl (k := 2) rfl (by decide +kernel) (by decide) rfl (fun ls hl => ?_)
  refine lv_goto (tgt := 64) hx hb dX12_count_94 (by decide) ?_
  refine lv_iload hx hb dX12_count_64 (lv_at hl 0 rfl) ?_
  refine lv_iload hx hb dX12_count_66 (lv_at hl 3 rfl) ?_
  refine lv_icmp_ge (tgt := 97) hx hb dX12_count_68 (by decide) (fun c9 => absurd c9 (by decide +kernel)) (fun _ => ?_)
  refine lv_aload hx hb dX12_count_71 (lv_at hl 4 rfl) ?_
  refine lv_iload hx hb dX12_count_73 (lv_at hl 0 rfl) ?_
  refine r_zald (k := 16) hx hb hK hP 1 1 rfl rfl (Nat.le_of_ble_eq_true rfl) (by decide) (v := nI 0) rfl dX12_count_75 ?_
  refine lv_istore (lv' := [(7, .int (nI 0)), (6, .int (nI 16)), (3, .int (nI 0)), (5, .int (nI 20)), (4, .ref h3), (2, .int (nI 0)), (0, .ref h0), (1, .int (nI 12))]) hx hb dX12_count_76 hl (by decide) rfl (fun ls hl => ?_)
  refine lv_iload_n hx hb dX12_count_78 rfl (lv_at hl 2 rfl) ?_
  refine lv_iload hx hb dX12_count_79 (lv_at hl 0 rfl) ?_
  refine lv_if_eq (tgt := 88) hx hb dX12_count_81 (by decide) (fun _ => ?_) (fun c9 => absurd (by decide +kernel) c9)
  refine lv_iconst (v := nI 0) hx hb dX12_count_88 (by decide +kernel) ?_
  refine lv_iadd hx hb dX12_count_89 ?_
  refine w_toeq (show (nI 0) + (nI 0) = nI 0 by decide +kernel) ?_
  refine lv_istore_n (lv' := [(3, .int (nI 0)), (7, .int (nI 0)), (6, .int (nI 16)), (5, .int (nI 20)), (4, .ref h3), (2, .int (nI 0)), (0, .ref h0), (1, .int (nI 12))]) hx hb dX12_count_90 rfl hl (by decide) rfl (fun ls hl => ?_)
  refine lv_iinc (v := nI 17) (lv' := [(6, .int (nI 17)), (3, .int (nI 0)), (7, .int (nI 0)), (5, .int (nI 20)), (4, .ref h3), (2, .int (nI 0)), (0, .ref h0), (1, .int (nI 12))]) hx hb dX12_count_91 hl (k := 2) rfl (by decide +kernel) (by decide) rfl (fun ls hl => ?_)
  refine lv_goto (tgt := 64) hx hb dX12_count_94 (by decide) ?_
  refine lv_iload hx hb dX12_count_64 (lv_at hl 0 rfl) ?_
  refine lv_iload hx hb dX12_count_66 (lv_at hl 3 rfl) ?_
  refine lv_icmp_ge (tgt := 97) hx hb dX12_count_68 (by decide) (fun c9 => absurd c9 (by decide +kernel)) (fun _ => ?_)
  refine lv_aload hx hb dX12_count_71 (lv_at hl 4 rfl) ?_
  refine lv_iload hx hb dX12_count_73 (lv_at hl 0 rfl) ?_
  refine r_zald (k := 17) hx hb hK hP 1 1 rfl rfl (Nat.le_of_ble_eq_true rfl) (by decide) (v := nI 0) rfl dX12_count_75 ?_
  refine lv_istore (lv' := [(7, .int (nI 0)), (6, .int (nI 17)), (3, .int (nI 0)), (5, .int (nI 20)), (4, .ref h3), (2, .int (nI 0)), (0, .ref h0), (1, .int (nI 12))]) hx hb dX12_count_76 hl (by decide) rfl (fun ls hl => ?_)
  refine lv_iload_n hx hb dX12_count_78 rfl (lv_at hl 2 rfl) ?_
  refine lv_iload hx hb dX12_count_79 (lv_at hl 0 rfl) ?_
  refine lv_if_eq (tgt := 88) hx hb dX12_count_81 (by decide) (fun _ => ?_) (fun c9 => absurd (by decide +kernel) c9)
  refine lv_iconst (v := nI 0) hx hb dX12_count_88 (by decide +kernel) ?_
  refine lv_iadd hx hb dX12_count_89 ?_
  refine w_toeq (show (nI 0) + (nI 0) = nI 0 by decide +kernel) ?_
  refine lv_istore_n (lv' := [(3, .int (nI 0)), (7, .int (nI 0)), (6, .int (nI 17)), (5, .int (nI 20)), (4, .ref h3), (2, .int (nI 0)), (0, .ref h0), (1, .int (nI 12))]) hx hb dX12_count_90 rfl hl (by decide) rfl (fun ls hl => ?_)
  refine lv_iinc (v := nI 18) (lv' := [(6, .int (nI 18)), (3, .int (nI 0)), (7, .int (nI 0)), (5, .int (nI 20)), (4, .ref h3), (2, .int (nI 0)), (0, .ref h0), (1, .int (nI 12))]) hx hb dX12_count_91 hl (k := 2) rfl (by decide +kernel) (by decide) rfl (fun ls hl => ?_)
  refine lv_goto (tgt := 64) hx hb dX12_count_94 (by decide) ?_
  refine lv_iload hx hb dX12_count_64 (lv_at hl 0 rfl) ?_
  refine lv_iload hx hb dX12_count_66 (lv_at hl 3 rfl) ?_
  refine lv_icmp_ge (tgt := 97) hx hb dX12_count_68 (by decide) (fun c9 => absurd c9 (by decide +kernel)) (fun _ => ?_)
  refine lv_aload hx hb dX12_count_71 (lv_at hl 4 rfl) ?_
  refine lv_iload hx hb dX12_count_73 (lv_at hl 0 rfl) ?_
  refine r_zald (k := 18) hx hb hK hP 1 1 rfl rfl (Nat.le_of_ble_eq_true rfl) (by decide) (v := nI 0) rfl dX12_count_75 ?_
  refine lv_istore (lv' := [(7, .int (nI 0)), (6, .int (nI 18)), (3, .int (nI 0)), (5, .int (nI 20)), (4, .ref h3), (2, .int (nI 0)), (0, .ref h0), (1, .int (nI 12))]) hx hb dX12_count_76 hl (by decide) rfl (fun ls hl => ?_)
  refine lv_iload_n hx hb dX12_count_78 rfl (lv_at hl 2 rfl) ?_
  refine lv_iload hx hb dX12_count_79 (lv_at hl 0 rfl) ?_
  refine lv_if_eq (tgt := 88) hx hb dX12_count_81 (by decide) (fun _ => ?_) (fun c9 => absurd (by decide +kernel) c9)
  refine lv_iconst (v := nI 0) hx hb dX12_count_88 (by decide +kernel) ?_
  refine lv_iadd hx hb dX12_count_89 ?_
  refine w_toeq (show (nI 0) + (nI 0) = nI 0 by decide +kernel) ?_
  refine lv_istore_n (lv' := [(3, .int (nI 0)), (7, .int (nI 0)), (6, .int (nI 18)), (5, .int (nI 20)), (4, .ref h3), (2, .int (nI 0)), (0, .ref h0), (1, .int (nI 12))]) hx hb dX12_count_90 rfl hl (by decide) rfl (fun ls hl => ?_)
  refine lv_iinc (v := nI 19) (lv' := [(6, .int (nI 19)), (3, .int (nI 0)), (7, .int (nI 0)), (5, .int (nI 20)), (4, .ref h3), (2, .int (nI 0)), (0, .ref h0), (1, .int (nI 12))]) hx hb dX12_count_91 hl (k := 2) rfl (by decide +kernel) (by decide) rfl (fun ls hl => ?_)
  refine lv_goto (tgt := 64) hx hb dX12_count_94 (by decide) ?_
  refine lv_iload hx hb dX12_count_64 (lv_at hl 0 rfl) ?_
  refine lv_iload hx hb dX12_count_66 (lv_at hl 3 rfl) ?_
  refine lv_icmp_ge (tgt := 97) hx hb dX12_count_68 (by decide) (fun c9 => absurd c9 (by decide +kernel)) (fun _ => ?_)
  refine lv_aload hx hb dX12_count_71 (lv_at hl 4 rfl) ?_
  refine lv_iload hx hb dX12_count_73 (lv_at hl 0 rfl) ?_
  refine r_zald (k := 19) hx hb hK hP 1 1 rfl rfl (Nat.le_of_ble_eq_true rfl) (by decide) (v := nI 0) rfl dX12_count_75 ?_
  refine lv_istore (lv' := [(7, .int (nI 0)), (6, .int (nI 19)), (3, .int (nI 0)), (5, .int (nI 20)), (4, .ref h3), (2, .int (nI 0)), (0, .ref h0), (1, .int (nI 12))]) hx hb dX12_count_76 hl (by decide) rfl (fun ls hl => ?_)
  refine lv_iload_n hx hb dX12_count_78 rfl (lv_at hl 2 rfl) ?_
  refine lv_iload hx hb dX12_count_79 (lv_at hl 0 rfl) ?_
  refine lv_if_eq (tgt := 88) hx hb dX12_count_81 (by decide) (fun _ => ?_) (fun c9 => absurd (by decide +kernel) c9)
  refine lv_iconst (v := nI 0) hx hb dX12_count_88 (by decide +kernel) ?_
  refine lv_iadd hx hb dX12_count_89 ?_
  refine w_toeq (show (nI 0) + (nI 0) = nI 0 by decide +kernel) ?_
  refine lv_istore_n (lv' := [(3, .int (nI 0)), (7, .int (nI 0)), (6, .int (nI 19)), (5, .int (nI 20)), (4, .ref h3), (2, .int (nI 0)), (0, .ref h0), (1, .int (nI 12))]) hx hb dX12_count_90 rfl hl (by decide) rfl (fun ls hl => ?_)
  refine lv_iinc (v := nI 20) (lv' := [(6, .int (nI 20)), (3, .int (nI 0)), (7, .int (nI 0)), (5, .int (nI 20)), (4, .ref h3), (2, .int (nI 0)), (0, .ref h0), (1, .int (nI 12))]) hx hb dX12_count_91 hl (k := 2) rfl (by decide +kernel) (by decide) rfl (fun ls hl => ?_)
  refine lv_goto (tgt := 64) hx hb dX12_count_94 (by decide) ?_
  refine lv_iload hx hb dX12_count_64 (lv_at hl 0 rfl) ?_
  refine lv_iload hx hb dX12_count_66 (lv_at hl 3 rfl) ?_
  refine lv_icmp_ge (tgt := 97) hx hb dX12_count_68 (by decide) (fun _ => ?_) (fun c9 => absurd (by decide +kernel) c9)
  refine lv_bipush (v := nI 16) hx hb dX12_count_97 (by decide +kernel) ?_
  refine r_newa (atype := .int) hx hb hts w_1292 rfl hK hP hD hS hA 2 rfl (N := 16) (a0 := (16, .inl (fun _ => nI 0))) (fun _ => rfl) (by decide +kernel) (by decide +kernel) (by decide) (Nat.le_of_ble_eq_true rfl) (Nat.le_of_ble_eq_true rfl) dX12_count_99 (w2 := fun q0 => [(h0, .inr (12, [v0, .ref h1])), (h3, .inl (K 1, 20, .inl (fun _ => nI 0))), (h4, .inr (13, [v7, v8, .int (nI 1)])), (h5, .inr (13, [v9, v10, .int (nI 0)])), (h1, .inr (10, [.ref h2, .ref h4, v1, .ref h5, .ref h3, .int (nI 0), .int (nI 0), .int (nI 60), .int (nI 0), v2, v3, .int (nI 0), .int (nI 0), .int (nI 0), .int (nI 0), v4, v5])), ((u0 1), .inr (14, [.int (nI 0), .int (-1), .int (nI 0), .ref h2])), (h2, .inr (13, [.int (nI 0), v6, .int (nI 0)])), ((u1 0), .inr (14, [.int (nI 0), .int (-1), .int (nI 0), .ref (u0 0)])), ((u0 0), .inr (13, [.int (nI 0), .ref (G 0), .int (nI 0)])), (q0, .inl (K 2, 16, .inl (fun _ => nI 0)))]) (fun _ => rfl) (fun q0 H hP hD hS => ?_)
  refine lv_dup hx hb dX12_count_101 rfl ?_
  refine lv_iconst (v := nI 0) hx hb dX12_count_102 (by decide +kernel) ?_
  refine lv_aload_n hx hb dX12_count_103 rfl (lv_at hl 6 rfl) ?_
  refine r_get hx hb hts ok_RX12 hown hK hP 0 rfl rfl 1 (by decide) w_1294 (fun _ h9 => h9) rfl dX12_count_104 ?_
  refine r_get hx hb hts ok_RX10 hown hK hP 4 rfl rfl 0 (by decide) w_1225 (fun _ h9 => h9) rfl dX12_count_107 ?_
  refine k_i (wr := [(h0, .inr (12, [v0, .ref h1])), (h3, .inl (K 1, 20, .inl (fun _ => nI 0))), (h4, .inr (13, [v7, v8, .int (nI 1)])), (h5, .inr (13, [v9, v10, .int (nI 0)])), (h1, .inr (10, [.ref h2, .ref h4, v1, .ref h5, .ref h3, .int (nI 0), .int (nI 0), .int (nI 60), .int (nI 0), v2, v3, .int (nI 0), .int (nI 0), .int (nI 0), .int (nI 0), v4, v5])), ((u0 1), .inr (14, [.int (nI 0), .int (-1), .int (nI 0), .ref h2])), ((u1 0), .inr (14, [.int (nI 0), .int (-1), .int (nI 0), .ref (u0 0)])), ((u0 0), .inr (13, [.int (nI 0), .ref (G 0), .int (nI 0)])), (q0, .inl (K 2, 16, .inl (fun _ => nI 0)))]) (run_V (rest := [.int (nI 0), .ref q0, .ref q0]) hx hb hml hown hts hK hP hD hS hA hm (C102_size l G D K H.size h2 (.int (nI 0)) (v6)) [6] rfl rfl mok_yJx4a65c_size_8abf5 w_1308 w_1309 w_1310 (rcv hK hP 6 rfl rfl rfl) ⟨Nat.le_of_ble_eq_true rfl, Nat.le_of_ble_eq_true rfl⟩ rfl hl.1 rfl (Nat.le_of_ble_eq_true rfl) dX12_count_110 ⟨(Nat.le_of_ble_eq_true rfl), (Nat.le_of_ble_eq_true rfl)⟩) hP hD hS hA [6] [0, 1, 2, 3, 4, 5, 7, 8, 9] rfl rfl rfl (by decide) (w2 := fun u3 => [(h0, .inr (12, [v0, .ref h1])), (h3, .inl (K 1, 20, .inl (fun _ => nI 0))), (h4, .inr (13, [v7, v8, .int (nI 1)])), (h5, .inr (13, [v9, v10, .int (nI 0)])), (h1, .inr (10, [.ref h2, .ref h4, v1, .ref h5, .ref h3, .int (nI 0), .int (nI 0), .int (nI 60), .int (nI 0), v2, v3, .int (nI 0), .int (nI 0), .int (nI 0), .int (nI 0), v4, v5])), ((u0 1), .inr (14, [.int (nI 0), .int (-1), .int (nI 0), .ref h2])), ((u1 0), .inr (14, [.int (nI 0), .int (-1), .int (nI 0), .ref (u0 0)])), ((u0 0), .inr (13, [.int (nI 0), .ref (G 0), .int (nI 0)])), (q0, .inl (K 2, 16, .inl (fun _ => nI 0))), (h2, .inr (13, [.int (nI 0), v6, .int (nI 0)]))]) (fun _ => rfl) (fun u3 H locs hP hD hS => ?_)
  refine r_iast (k := 0) hx hb hK hP hD hS 8 2 rfl rfl (Nat.le_of_ble_eq_true rfl) (by decide) dX12_count_113 (ws' := [(h0, .inr (12, [v0, .ref h1])), (h3, .inl (K 1, 20, .inl (fun _ => nI 0))), (h4, .inr (13, [v7, v8, .int (nI 1)])), (h5, .inr (13, [v9, v10, .int (nI 0)])), (h1, .inr (10, [.ref h2, .ref h4, v1, .ref h5, .ref h3, .int (nI 0), .int (nI 0), .int (nI 60), .int (nI 0), v2, v3, .int (nI 0), .int (nI 0), .int (nI 0), .int (nI 0), v4, v5])), ((u0 1), .inr (14, [.int (nI 0), .int (-1), .int (nI 0), .ref h2])), ((u1 0), .inr (14, [.int (nI 0), .int (-1), .int (nI 0), .ref (u0 0)])), ((u0 0), .inr (13, [.int (nI 0), .ref (G 0), .int (nI 0)])), (q0, .inl (K 2, 16, .inl (fun _ => nI 0))), (h2, .inr (13, [.int (nI 0), v6, .int (nI 0)]))]) (by rw [upd_c]; rfl) (fun H locs hP hD hS => ?_)
  refine lv_dup hx hb dX12_count_114 rfl ?_
  refine lv_iconst (v := nI 1) hx hb dX12_count_115 (by decide +kernel) ?_
  refine lv_aload_n hx hb dX12_count_116 rfl (lv_at hl 6 rfl) ?_
  refine r_get hx hb hts ok_RX12 hown hK hP 0 rfl rfl 1 (by decide) w_1294 (fun _ h9 => h9) rfl dX12_count_117 ?_
  refine k_i (wr := [(h0, .inr (12, [v0, .ref h1])), (h3, .inl (K 1, 20, .inl (fun _ => nI 0))), (h4, .inr (13, [v7, v8, .int (nI 1)])), (h5, .inr (13, [v9, v10, .int (nI 0)])), ((u0 1), .inr (14, [.int (nI 0), .int (-1), .int (nI 0), .ref h2])), ((u1 0), .inr (14, [.int (nI 0), .int (-1), .int (nI 0), .ref (u0 0)])), ((u0 0), .inr (13, [.int (nI 0), .ref (G 0), .int (nI 0)])), (q0, .inl (K 2, 16, .inl (fun _ => nI 0)))]) (run_VN (rest := [.int (nI 1), .ref q0, .ref q0]) hx hb hml hown hts hK hP hD hS hA hm (C723_there l G D K H.size h1 h2 (.ref h4) (v1) (.ref h5) (.ref h3) (.int (nI 0)) (.int (nI 0)) (.int (nI 60)) (.int (nI 0)) (v2) (v3) (.int (nI 0)) (.int (nI 0)) (.int (nI 0)) (.int (nI 0)) (v4) (v5) (v6)) [4, 9] rfl rfl mok_yX10_there w_2040 w_1758 w_p38 (rcv hK hP 4 rfl rfl rfl) ⟨Nat.le_of_ble_eq_true rfl, Nat.le_of_ble_eq_true rfl⟩ rfl hl.1 rfl (Nat.le_of_ble_eq_true rfl) dX12_count_120 ⟨(Nat.le_of_ble_eq_true rfl), (Nat.le_of_ble_eq_true rfl)⟩) hP hD hS hA [4, 9] [0, 1, 2, 3, 5, 6, 7, 8] rfl rfl rfl (by decide) (w2 := fun u4 => [(h0, .inr (12, [v0, .ref h1])), (h3, .inl (K 1, 20, .inl (fun _ => nI 0))), (h4, .inr (13, [v7, v8, .int (nI 1)])), (h5, .inr (13, [v9, v10, .int (nI 0)])), ((u0 1), .inr (14, [.int (nI 0), .int (-1), .int (nI 0), .ref h2])), ((u1 0), .inr (14, [.int (nI 0), .int (-1), .int (nI 0), .ref (u0 0)])), ((u0 0), .inr (13, [.int (nI 0), .ref (G 0), .int (nI 0)])), (q0, .inl (K 2, 16, .inl (fun _ => nI 0))), (h1, .inr (10, [.ref h2, .ref h4, v1, .ref h5, .ref h3, .int (nI 0), .int (nI 0), .int (nI 60), .int (nI 0), v2, v3, .int (nI 0), .int (nI 0), .int (nI 0), .int (nI 0), v4, v5])), ((u4 0), .inr (14, [.int (nI 0), .int (-1), .int (nI 0), .ref h2])), (h2, .inr (13, [.int (nI 0), v6, .int (nI 0)]))]) (fun _ => rfl) (fun u4 H locs hP hD hS => ?_)
  refine r_iast (k := 1) hx hb hK hP hD hS 7 2 rfl rfl (Nat.le_of_ble_eq_true rfl) (by decide) dX12_count_123 (ws' := [(h0, .inr (12, [v0, .ref h1])), (h3, .inl (K 1, 20, .inl (fun _ => nI 0))), (h4, .inr (13, [v7, v8, .int (nI 1)])), (h5, .inr (13, [v9, v10, .int (nI 0)])), ((u0 1), .inr (14, [.int (nI 0), .int (-1), .int (nI 0), .ref h2])), ((u1 0), .inr (14, [.int (nI 0), .int (-1), .int (nI 0), .ref (u0 0)])), ((u0 0), .inr (13, [.int (nI 0), .ref (G 0), .int (nI 0)])), (q0, .inl (K 2, 16, .inl (fun _ => nI 0))), (h1, .inr (10, [.ref h2, .ref h4, v1, .ref h5, .ref h3, .int (nI 0), .int (nI 0), .int (nI 60), .int (nI 0), v2, v3, .int (nI 0), .int (nI 0), .int (nI 0), .int (nI 0), v4, v5])), ((u4 0), .inr (14, [.int (nI 0), .int (-1), .int (nI 0), .ref h2])), (h2, .inr (13, [.int (nI 0), v6, .int (nI 0)]))]) (by rw [upd_c]; rfl) (fun H locs hP hD hS => ?_)
  refine lv_dup hx hb dX12_count_124 rfl ?_
  refine lv_iconst (v := nI 2) hx hb dX12_count_125 (by decide +kernel) ?_
  refine lv_aload_n hx hb dX12_count_126 rfl (lv_at hl 6 rfl) ?_
  refine r_get hx hb hts ok_RX12 hown hK hP 0 rfl rfl 1 (by decide) w_1294 (fun _ h9 => h9) rfl dX12_count_127 ?_
  refine r_get hx hb hts ok_RX10 hown hK hP 8 rfl rfl 1 (by decide) w_1227 (fun _ h9 => h9) rfl dX12_count_130 ?_
  refine k_i (wr := [(h0, .inr (12, [v0, .ref h1])), (h3, .inl (K 1, 20, .inl (fun _ => nI 0))), (h5, .inr (13, [v9, v10, .int (nI 0)])), ((u0 1), .inr (14, [.int (nI 0), .int (-1), .int (nI 0), .ref h2])), ((u1 0), .inr (14, [.int (nI 0), .int (-1), .int (nI 0), .ref (u0 0)])), ((u0 0), .inr (13, [.int (nI 0), .ref (G 0), .int (nI 0)])), (q0, .inl (K 2, 16, .inl (fun _ => nI 0))), (h1, .inr (10, [.ref h2, .ref h4, v1, .ref h5, .ref h3, .int (nI 0), .int (nI 0), .int (nI 60), .int (nI 0), v2, v3, .int (nI 0), .int (nI 0), .int (nI 0), .int (nI 0), v4, v5])), ((u4 0), .inr (14, [.int (nI 0), .int (-1), .int (nI 0), .ref h2])), (h2, .inr (13, [.int (nI 0), v6, .int (nI 0)]))]) (run_V (rest := [.int (nI 2), .ref q0, .ref q0]) hx hb hml hown hts hK hP hD hS hA hm (C23_size l G D K H.size h4 (v7) (v8)) [2] rfl rfl mok_yJx4a65c_size_8abf5 w_1308 w_1309 w_1310 (rcv hK hP 2 rfl rfl rfl) ⟨Nat.le_of_ble_eq_true rfl, Nat.le_of_ble_eq_true rfl⟩ rfl hl.1 rfl (Nat.le_of_ble_eq_true rfl) dX12_count_133 ⟨(Nat.le_of_ble_eq_true rfl), (Nat.le_of_ble_eq_true rfl)⟩) hP hD hS hA [2] [0, 1, 3, 4, 5, 6, 7, 8, 9, 10] rfl rfl rfl (by decide) (w2 := fun u5 => [(h0, .inr (12, [v0, .ref h1])), (h3, .inl (K 1, 20, .inl (fun _ => nI 0))), (h5, .inr (13, [v9, v10, .int (nI 0)])), ((u0 1), .inr (14, [.int (nI 0), .int (-1), .int (nI 0), .ref h2])), ((u1 0), .inr (14, [.int (nI 0), .int (-1), .int (nI 0), .ref (u0 0)])), ((u0 0), .inr (13, [.int (nI 0), .ref (G 0), .int (nI 0)])), (q0, .inl (K 2, 16, .inl (fun _ => nI 0))), (h1, .inr (10, [.ref h2, .ref h4, v1, .ref h5, .ref h3, .int (nI 0), .int (nI 0), .int (nI 60), .int (nI 0), v2, v3, .int (nI 0), .int (nI 0), .int (nI 0), .int (nI 0), v4, v5])), ((u4 0), .inr (14, [.int (nI 0), .int (-1), .int (nI 0), .ref h2])), (h2, .inr (13, [.int (nI 0), v6, .int (nI 0)])), (h4, .inr (13, [v7, v8, .int (nI 1)]))]) (fun _ => rfl) (fun u5 H locs hP hD hS => ?_)
  refine r_iast (k := 2) hx hb hK hP hD hS 6 2 rfl rfl (Nat.le_of_ble_eq_true rfl) (by decide) dX12_count_136 (ws' := [(h0, .inr (12, [v0, .ref h1])), (h3, .inl (K 1, 20, .inl (fun _ => nI 0))), (h5, .inr (13, [v9, v10, .int (nI 0)])), ((u0 1), .inr (14, [.int (nI 0), .int (-1), .int (nI 0), .ref h2])), ((u1 0), .inr (14, [.int (nI 0), .int (-1), .int (nI 0), .ref (u0 0)])), ((u0 0), .inr (13, [.int (nI 0), .ref (G 0), .int (nI 0)])), (q0, .inl (K 2, 16, .inl (upd (fun _ => nI 0) 2 (nI 1)))), (h1, .inr (10, [.ref h2, .ref h4, v1, .ref h5, .ref h3, .int (nI 0), .int (nI 0), .int (nI 60), .int (nI 0), v2, v3, .int (nI 0), .int (nI 0), .int (nI 0), .int (nI 0), v4, v5])), ((u4 0), .inr (14, [.int (nI 0), .int (-1), .int (nI 0), .ref h2])), (h2, .inr (13, [.int (nI 0), v6, .int (nI 0)])), (h4, .inr (13, [v7, v8, .int (nI 1)]))]) rfl (fun H locs hP hD hS => ?_)
  refine lv_dup hx hb dX12_count_137 rfl ?_
  refine lv_iconst (v := nI 3) hx hb dX12_count_138 (by decide +kernel) ?_
  refine lv_aload_n hx hb dX12_count_139 rfl (lv_at hl 6 rfl) ?_
  refine r_get hx hb hts ok_RX12 hown hK hP 0 rfl rfl 1 (by decide) w_1294 (fun _ h9 => h9) rfl dX12_count_140 ?_
  refine r_get hx hb hts ok_RX10 hown hK hP 7 rfl rfl 6 (by decide) w_1237 (fun _ h9 => h9) rfl dX12_count_143 ?_
  refine r_iast (k := 3) hx hb hK hP hD hS 6 2 rfl rfl (Nat.le_of_ble_eq_true rfl) (by decide) dX12_count_146 (ws' := [(h0, .inr (12, [v0, .ref h1])), (h3, .inl (K 1, 20, .inl (fun _ => nI 0))), (h5, .inr (13, [v9, v10, .int (nI 0)])), ((u0 1), .inr (14, [.int (nI 0), .int (-1), .int (nI 0), .ref h2])), ((u1 0), .inr (14, [.int (nI 0), .int (-1), .int (nI 0), .ref (u0 0)])), ((u0 0), .inr (13, [.int (nI 0), .ref (G 0), .int (nI 0)])), (q0, .inl (K 2, 16, .inl (upd (upd (fun _ => nI 0) 2 (nI 1)) 3 (nI 0)))), (h1, .inr (10, [.ref h2, .ref h4, v1, .ref h5, .ref h3, .int (nI 0), .int (nI 0), .int (nI 60), .int (nI 0), v2, v3, .int (nI 0), .int (nI 0), .int (nI 0), .int (nI 0), v4, v5])), ((u4 0), .inr (14, [.int (nI 0), .int (-1), .int (nI 0), .ref h2])), (h2, .inr (13, [.int (nI 0), v6, .int (nI 0)])), (h4, .inr (13, [v7, v8, .int (nI 1)]))]) rfl (fun H locs hP hD hS => ?_)
  refine lv_dup hx hb dX12_count_147 rfl ?_
  refine lv_iconst (v := nI 4) hx hb dX12_count_148 (by decide +kernel) ?_
  refine lv_aload_n hx hb dX12_count_149 rfl (lv_at hl 6 rfl) ?_
  refine r_get hx hb hts ok_RX12 hown hK hP 0 rfl rfl 1 (by decide) w_1294 (fun _ h9 => h9) rfl dX12_count_150 ?_
  refine r_get hx hb hts ok_RX10 hown hK hP 7 rfl rfl 5 (by decide) w_1235 (fun _ h9 => h9) rfl dX12_count_153 ?_
  refine r_iast (k := 4) hx hb hK hP hD hS 6 2 rfl rfl (Nat.le_of_ble_eq_true rfl) (by decide) dX12_count_156 (ws' := [(h0, .inr (12, [v0, .ref h1])), (h3, .inl (K 1, 20, .inl (fun _ => nI 0))), (h5, .inr (13, [v9, v10, .int (nI 0)])), ((u0 1), .inr (14, [.int (nI 0), .int (-1), .int (nI 0), .ref h2])), ((u1 0), .inr (14, [.int (nI 0), .int (-1), .int (nI 0), .ref (u0 0)])), ((u0 0), .inr (13, [.int (nI 0), .ref (G 0), .int (nI 0)])), (q0, .inl (K 2, 16, .inl (upd (upd (upd (fun _ => nI 0) 2 (nI 1)) 3 (nI 0)) 4 (nI 0)))), (h1, .inr (10, [.ref h2, .ref h4, v1, .ref h5, .ref h3, .int (nI 0), .int (nI 0), .int (nI 60), .int (nI 0), v2, v3, .int (nI 0), .int (nI 0), .int (nI 0), .int (nI 0), v4, v5])), ((u4 0), .inr (14, [.int (nI 0), .int (-1), .int (nI 0), .ref h2])), (h2, .inr (13, [.int (nI 0), v6, .int (nI 0)])), (h4, .inr (13, [v7, v8, .int (nI 1)]))]) rfl (fun H locs hP hD hS => ?_)
  refine lv_dup hx hb dX12_count_157 rfl ?_
  refine lv_iconst (v := nI 5) hx hb dX12_count_158 (by decide +kernel) ?_
  refine lv_aload_n hx hb dX12_count_159 rfl (lv_at hl 6 rfl) ?_
  refine r_get hx hb hts ok_RX12 hown hK hP 0 rfl rfl 1 (by decide) w_1294 (fun _ h9 => h9) rfl dX12_count_160 ?_
  refine r_get hx hb hts ok_RX10 hown hK hP 7 rfl rfl 8 (by decide) w_1241 (fun _ h9 => h9) rfl dX12_count_163 ?_
  refine r_iast (k := 5) hx hb hK hP hD hS 6 2 rfl rfl (Nat.le_of_ble_eq_true rfl) (by decide) dX12_count_166 (ws' := [(h0, .inr (12, [v0, .ref h1])), (h3, .inl (K 1, 20, .inl (fun _ => nI 0))), (h5, .inr (13, [v9, v10, .int (nI 0)])), ((u0 1), .inr (14, [.int (nI 0), .int (-1), .int (nI 0), .ref h2])), ((u1 0), .inr (14, [.int (nI 0), .int (-1), .int (nI 0), .ref (u0 0)])), ((u0 0), .inr (13, [.int (nI 0), .ref (G 0), .int (nI 0)])), (q0, .inl (K 2, 16, .inl (upd (upd (upd (upd (fun _ => nI 0) 2 (nI 1)) 3 (nI 0)) 4 (nI 0)) 5 (nI 0)))), (h1, .inr (10, [.ref h2, .ref h4, v1, .ref h5, .ref h3, .int (nI 0), .int (nI 0), .int (nI 60), .int (nI 0), v2, v3, .int (nI 0), .int (nI 0), .int (nI 0), .int (nI 0), v4, v5])), ((u4 0), .inr (14, [.int (nI 0), .int (-1), .int (nI 0), .ref h2])), (h2, .inr (13, [.int (nI 0), v6, .int (nI 0)])), (h4, .inr (13, [v7, v8, .int (nI 1)]))]) rfl (fun H locs hP hD hS => ?_)
  refine lv_dup hx hb dX12_count_167 rfl ?_
  refine lv_bipush (v := nI 6) hx hb dX12_count_168 (by decide +kernel) ?_
  refine lv_aload_n hx hb dX12_count_170 rfl (lv_at hl 6 rfl) ?_
  refine r_get hx hb hts ok_RX12 hown hK hP 0 rfl rfl 1 (by decide) w_1294 (fun _ h9 => h9) rfl dX12_count_171 ?_
  refine r_get hx hb hts ok_RX10 hown hK hP 7 rfl rfl 7 (by decide) w_1239 (fun _ h9 => h9) rfl dX12_count_174 ?_
  refine r_iast (k := 6) hx hb hK hP hD hS 6 2 rfl rfl (Nat.le_of_ble_eq_true rfl) (by decide) dX12_count_177 (ws' := [(h0, .inr (12, [v0, .ref h1])), (h3, .inl (K 1, 20, .inl (fun _ => nI 0))), (h5, .inr (13, [v9, v10, .int (nI 0)])), ((u0 1), .inr (14, [.int (nI 0), .int (-1), .int (nI 0), .ref h2])), ((u1 0), .inr (14, [.int (nI 0), .int (-1), .int (nI 0), .ref (u0 0)])), ((u0 0), .inr (13, [.int (nI 0), .ref (G 0), .int (nI 0)])), (q0, .inl (K 2, 16, .inl (upd (upd (upd (upd (upd (fun _ => nI 0) 2 (nI 1)) 3 (nI 0)) 4 (nI 0)) 5 (nI 0)) 6 (nI 60)))), (h1, .inr (10, [.ref h2, .ref h4, v1, .ref h5, .ref h3, .int (nI 0), .int (nI 0), .int (nI 60), .int (nI 0), v2, v3, .int (nI 0), .int (nI 0), .int (nI 0), .int (nI 0), v4, v5])), ((u4 0), .inr (14, [.int (nI 0), .int (-1), .int (nI 0), .ref h2])), (h2, .inr (13, [.int (nI 0), v6, .int (nI 0)])), (h4, .inr (13, [v7, v8, .int (nI 1)]))]) rfl (fun H locs hP hD hS => ?_)
  refine lv_dup hx hb dX12_count_178 rfl ?_
  refine lv_bipush (v := nI 7) hx hb dX12_count_179 (by decide +kernel) ?_
  refine lv_iload_n hx hb dX12_count_181 rfl (lv_at hl 5 rfl) ?_
  refine r_iast (k := 7) hx hb hK hP hD hS 6 2 rfl rfl (Nat.le_of_ble_eq_true rfl) (by decide) dX12_count_182 (ws' := [(h0, .inr (12, [v0, .ref h1])), (h3, .inl (K 1, 20, .inl (fun _ => nI 0))), (h5, .inr (13, [v9, v10, .int (nI 0)])), ((u0 1), .inr (14, [.int (nI 0), .int (-1), .int (nI 0), .ref h2])), ((u1 0), .inr (14, [.int (nI 0), .int (-1), .int (nI 0), .ref (u0 0)])), ((u0 0), .inr (13, [.int (nI 0), .ref (G 0), .int (nI 0)])), (q0, .inl (K 2, 16, .inl (upd (upd (upd (upd (upd (upd (fun _ => nI 0) 2 (nI 1)) 3 (nI 0)) 4 (nI 0)) 5 (nI 0)) 6 (nI 60)) 7 (nI 0)))), (h1, .inr (10, [.ref h2, .ref h4, v1, .ref h5, .ref h3, .int (nI 0), .int (nI 0), .int (nI 60), .int (nI 0), v2, v3, .int (nI 0), .int (nI 0), .int (nI 0), .int (nI 0), v4, v5])), ((u4 0), .inr (14, [.int (nI 0), .int (-1), .int (nI 0), .ref h2])), (h2, .inr (13, [.int (nI 0), v6, .int (nI 0)])), (h4, .inr (13, [v7, v8, .int (nI 1)]))]) rfl (fun H locs hP hD hS => ?_)
  refine lv_dup hx hb dX12_count_183 rfl ?_
  refine lv_bipush (v := nI 8) hx hb dX12_count_184 (by decide +kernel) ?_
  refine lv_aload_n hx hb dX12_count_186 rfl (lv_at hl 6 rfl) ?_
  refine r_get hx hb hts ok_RX12 hown hK hP 0 rfl rfl 1 (by decide) w_1294 (fun _ h9 => h9) rfl dX12_count_187 ?_
  refine k_i (wr := [(h0, .inr (12, [v0, .ref h1])), (h3, .inl (K 1, 20, .inl (fun _ => nI 0))), (h5, .inr (13, [v9, v10, .int (nI 0)])), ((u0 1), .inr (14, [.int (nI 0), .int (-1), .int (nI 0), .ref h2])), ((u1 0), .inr (14, [.int (nI 0), .int (-1), .int (nI 0), .ref (u0 0)])), ((u0 0), .inr (13, [.int (nI 0), .ref (G 0), .int (nI 0)])), (q0, .inl (K 2, 16, .inl (upd (upd (upd (upd (upd (upd (fun _ => nI 0) 2 (nI 1)) 3 (nI 0)) 4 (nI 0)) 5 (nI 0)) 6 (nI 60)) 7 (nI 0)))), ((u4 0), .inr (14, [.int (nI 0), .int (-1), .int (nI 0), .ref h2])), (h4, .inr (13, [v7, v8, .int (nI 1)]))]) (run_V (rest := [.int (nI 8), .ref q0, .ref q0]) hx hb hml hown hts hK hP hD hS hA hm (C880_gaps l G D K H.size h1 h2 (.ref h4) (v1) (.ref h5) (.ref h3) (.int (nI 0)) (.int (nI 0)) (.int (nI 60)) (.int (nI 0)) (v2) (v3) (.int (nI 0)) (.int (nI 0)) (.int (nI 0)) (.int (nI 0)) (v4) (v5) (v6)) [7, 9] rfl rfl mok_yX10_gaps w_2041 w_2042 w_2043 (rcv hK hP 7 rfl rfl rfl) ⟨Nat.le_of_ble_eq_true rfl, Nat.le_of_ble_eq_true rfl⟩ rfl hl.1 rfl (Nat.le_of_ble_eq_true rfl) dX12_count_190 ⟨(Nat.le_of_ble_eq_true rfl), (Nat.le_of_ble_eq_true rfl)⟩) hP hD hS hA [7, 9] [0, 1, 2, 3, 4, 5, 6, 8, 10] rfl rfl rfl (by decide) (w2 := fun u6 => [(h0, .inr (12, [v0, .ref h1])), (h3, .inl (K 1, 20, .inl (fun _ => nI 0))), (h5, .inr (13, [v9, v10, .int (nI 0)])), ((u0 1), .inr (14, [.int (nI 0), .int (-1), .int (nI 0), .ref h2])), ((u1 0), .inr (14, [.int (nI 0), .int (-1), .int (nI 0), .ref (u0 0)])), ((u0 0), .inr (13, [.int (nI 0), .ref (G 0), .int (nI 0)])), (q0, .inl (K 2, 16, .inl (upd (upd (upd (upd (upd (upd (fun _ => nI 0) 2 (nI 1)) 3 (nI 0)) 4 (nI 0)) 5 (nI 0)) 6 (nI 60)) 7 (nI 0)))), ((u4 0), .inr (14, [.int (nI 0), .int (-1), .int (nI 0), .ref h2])), (h4, .inr (13, [v7, v8, .int (nI 1)])), (h1, .inr (10, [.ref h2, .ref h4, v1, .ref h5, .ref h3, .int (nI 0), .int (nI 0), .int (nI 60), .int (nI 0), v2, v3, .int (nI 0), .int (nI 0), .int (nI 0), .int (nI 0), v4, v5])), ((u6 1), .inr (14, [.int (nI 0), .int (-1), .int (nI 0), .ref h2])), (h2, .inr (13, [.int (nI 0), v6, .int (nI 0)])), ((u6 2), .inr (14, [.int (nI 0), .int (-1), .int (nI 0), .ref (u6 0)])), ((u6 0), .inr (13, [.int (nI 0), .ref (G 0), .int (nI 0)]))]) (fun _ => rfl) (fun u6 H locs hP hD hS => ?_)
  refine r_iast (k := 8) hx hb hK hP hD hS 6 2 rfl rfl (Nat.le_of_ble_eq_true rfl) (by decide) dX12_count_193 (ws' := [(h0, .inr (12, [v0, .ref h1])), (h3, .inl (K 1, 20, .inl (fun _ => nI 0))), (h5, .inr (13, [v9, v10, .int (nI 0)])), ((u0 1), .inr (14, [.int (nI 0), .int (-1), .int (nI 0), .ref h2])), ((u1 0), .inr (14, [.int (nI 0), .int (-1), .int (nI 0), .ref (u0 0)])), ((u0 0), .inr (13, [.int (nI 0), .ref (G 0), .int (nI 0)])), (q0, .inl (K 2, 16, .inl (upd (upd (upd (upd (upd (upd (upd (fun _ => nI 0) 2 (nI 1)) 3 (nI 0)) 4 (nI 0)) 5 (nI 0)) 6 (nI 60)) 7 (nI 0)) 8 (nI 1)))), ((u4 0), .inr (14, [.int (nI 0), .int (-1), .int (nI 0), .ref h2])), (h4, .inr (13, [v7, v8, .int (nI 1)])), (h1, .inr (10, [.ref h2, .ref h4, v1, .ref h5, .ref h3, .int (nI 0), .int (nI 0), .int (nI 60), .int (nI 0), v2, v3, .int (nI 0), .int (nI 0), .int (nI 0), .int (nI 0), v4, v5])), ((u6 1), .inr (14, [.int (nI 0), .int (-1), .int (nI 0), .ref h2])), (h2, .inr (13, [.int (nI 0), v6, .int (nI 0)])), ((u6 2), .inr (14, [.int (nI 0), .int (-1), .int (nI 0), .ref (u6 0)])), ((u6 0), .inr (13, [.int (nI 0), .ref (G 0), .int (nI 0)]))]) rfl (fun H locs hP hD hS => ?_)
  refine lv_dup hx hb dX12_count_194 rfl ?_
  refine lv_bipush (v := nI 9) hx hb dX12_count_195 (by decide +kernel) ?_
  refine lv_iload_n hx hb dX12_count_197 rfl (lv_at hl 1 rfl) ?_
  refine r_iast (k := 9) hx hb hK hP hD hS 6 2 rfl rfl (Nat.le_of_ble_eq_true rfl) (by decide) dX12_count_198 (ws' := [(h0, .inr (12, [v0, .ref h1])), (h3, .inl (K 1, 20, .inl (fun _ => nI 0))), (h5, .inr (13, [v9, v10, .int (nI 0)])), ((u0 1), .inr (14, [.int (nI 0), .int (-1), .int (nI 0), .ref h2])), ((u1 0), .inr (14, [.int (nI 0), .int (-1), .int (nI 0), .ref (u0 0)])), ((u0 0), .inr (13, [.int (nI 0), .ref (G 0), .int (nI 0)])), (q0, .inl (K 2, 16, .inl (upd (upd (upd (upd (upd (upd (upd (upd (fun _ => nI 0) 2 (nI 1)) 3 (nI 0)) 4 (nI 0)) 5 (nI 0)) 6 (nI 60)) 7 (nI 0)) 8 (nI 1)) 9 (nI 0)))), ((u4 0), .inr (14, [.int (nI 0), .int (-1), .int (nI 0), .ref h2])), (h4, .inr (13, [v7, v8, .int (nI 1)])), (h1, .inr (10, [.ref h2, .ref h4, v1, .ref h5, .ref h3, .int (nI 0), .int (nI 0), .int (nI 60), .int (nI 0), v2, v3, .int (nI 0), .int (nI 0), .int (nI 0), .int (nI 0), v4, v5])), ((u6 1), .inr (14, [.int (nI 0), .int (-1), .int (nI 0), .ref h2])), (h2, .inr (13, [.int (nI 0), v6, .int (nI 0)])), ((u6 2), .inr (14, [.int (nI 0), .int (-1), .int (nI 0), .ref (u6 0)])), ((u6 0), .inr (13, [.int (nI 0), .ref (G 0), .int (nI 0)]))]) rfl (fun H locs hP hD hS => ?_)
  refine lv_dup hx hb dX12_count_199 rfl ?_
  refine lv_bipush (v := nI 10) hx hb dX12_count_200 (by decide +kernel) ?_
  refine lv_aload_n hx hb dX12_count_202 rfl (lv_at hl 6 rfl) ?_
  refine r_get hx hb hts ok_RX12 hown hK hP 0 rfl rfl 1 (by decide) w_1294 (fun _ h9 => h9) rfl dX12_count_203 ?_
  refine r_get hx hb hts ok_RX10 hown hK hP 9 rfl rfl 3 (by decide) w_1231 (fun _ h9 => h9) rfl dX12_count_206 ?_
  refine k_i (wr := [(h0, .inr (12, [v0, .ref h1])), (h3, .inl (K 1, 20, .inl (fun _ => nI 0))), ((u0 1), .inr (14, [.int (nI 0), .int (-1), .int (nI 0), .ref h2])), ((u1 0), .inr (14, [.int (nI 0), .int (-1), .int (nI 0), .ref (u0 0)])), ((u0 0), .inr (13, [.int (nI 0), .ref (G 0), .int (nI 0)])), (q0, .inl (K 2, 16, .inl (upd (upd (upd (upd (upd (upd (upd (upd (fun _ => nI 0) 2 (nI 1)) 3 (nI 0)) 4 (nI 0)) 5 (nI 0)) 6 (nI 60)) 7 (nI 0)) 8 (nI 1)) 9 (nI 0)))), ((u4 0), .inr (14, [.int (nI 0), .int (-1), .int (nI 0), .ref h2])), (h4, .inr (13, [v7, v8, .int (nI 1)])), (h1, .inr (10, [.ref h2, .ref h4, v1, .ref h5, .ref h3, .int (nI 0), .int (nI 0), .int (nI 60), .int (nI 0), v2, v3, .int (nI 0), .int (nI 0), .int (nI 0), .int (nI 0), v4, v5])), ((u6 1), .inr (14, [.int (nI 0), .int (-1), .int (nI 0), .ref h2])), (h2, .inr (13, [.int (nI 0), v6, .int (nI 0)])), ((u6 2), .inr (14, [.int (nI 0), .int (-1), .int (nI 0), .ref (u6 0)])), ((u6 0), .inr (13, [.int (nI 0), .ref (G 0), .int (nI 0)]))]) (run_V (rest := [.int (nI 10), .ref q0, .ref q0]) hx hb hml hown hts hK hP hD hS hA hm (C102_size l G D K H.size h5 (v9) (v10)) [2] rfl rfl mok_yJx4a65c_size_8abf5 w_1308 w_1309 w_1310 (rcv hK hP 2 rfl rfl rfl) ⟨Nat.le_of_ble_eq_true rfl, Nat.le_of_ble_eq_true rfl⟩ rfl hl.1 rfl (Nat.le_of_ble_eq_true rfl) dX12_count_209 ⟨(Nat.le_of_ble_eq_true rfl), (Nat.le_of_ble_eq_true rfl)⟩) hP hD hS hA [2] [0, 1, 3, 4, 5, 6, 7, 8, 9, 10, 11, 12, 13] rfl rfl rfl (by decide) (w2 := fun u7 => [(h0, .inr (12, [v0, .ref h1])), (h3, .inl (K 1, 20, .inl (fun _ => nI 0))), ((u0 1), .inr (14, [.int (nI 0), .int (-1), .int (nI 0), .ref h2])), ((u1 0), .inr (14, [.int (nI 0), .int (-1), .int (nI 0), .ref (u0 0)])), ((u0 0), .inr (13, [.int (nI 0), .ref (G 0), .int (nI 0)])), (q0, .inl (K 2, 16, .inl (upd (upd (upd (upd (upd (upd (upd (upd (fun _ => nI 0) 2 (nI 1)) 3 (nI 0)) 4 (nI 0)) 5 (nI 0)) 6 (nI 60)) 7 (nI 0)) 8 (nI 1)) 9 (nI 0)))), ((u4 0), .inr (14, [.int (nI 0), .int (-1), .int (nI 0), .ref h2])), (h4, .inr (13, [v7, v8, .int (nI 1)])), (h1, .inr (10, [.ref h2, .ref h4, v1, .ref h5, .ref h3, .int (nI 0), .int (nI 0), .int (nI 60), .int (nI 0), v2, v3, .int (nI 0), .int (nI 0), .int (nI 0), .int (nI 0), v4, v5])), ((u6 1), .inr (14, [.int (nI 0), .int (-1), .int (nI 0), .ref h2])), (h2, .inr (13, [.int (nI 0), v6, .int (nI 0)])), ((u6 2), .inr (14, [.int (nI 0), .int (-1), .int (nI 0), .ref (u6 0)])), ((u6 0), .inr (13, [.int (nI 0), .ref (G 0), .int (nI 0)])), (h5, .inr (13, [v9, v10, .int (nI 0)]))]) (fun _ => rfl) (fun u7 H locs hP hD hS => ?_)
  refine r_iast (k := 10) hx hb hK hP hD hS 5 2 rfl rfl (Nat.le_of_ble_eq_true rfl) (by decide) dX12_count_212 (ws' := [(h0, .inr (12, [v0, .ref h1])), (h3, .inl (K 1, 20, .inl (fun _ => nI 0))), ((u0 1), .inr (14, [.int (nI 0), .int (-1), .int (nI 0), .ref h2])), ((u1 0), .inr (14, [.int (nI 0), .int (-1), .int (nI 0), .ref (u0 0)])), ((u0 0), .inr (13, [.int (nI 0), .ref (G 0), .int (nI 0)])), (q0, .inl (K 2, 16, .inl (upd (upd (upd (upd (upd (upd (upd (upd (upd (fun _ => nI 0) 2 (nI 1)) 3 (nI 0)) 4 (nI 0)) 5 (nI 0)) 6 (nI 60)) 7 (nI 0)) 8 (nI 1)) 9 (nI 0)) 10 (nI 0)))), ((u4 0), .inr (14, [.int (nI 0), .int (-1), .int (nI 0), .ref h2])), (h4, .inr (13, [v7, v8, .int (nI 1)])), (h1, .inr (10, [.ref h2, .ref h4, v1, .ref h5, .ref h3, .int (nI 0), .int (nI 0), .int (nI 60), .int (nI 0), v2, v3, .int (nI 0), .int (nI 0), .int (nI 0), .int (nI 0), v4, v5])), ((u6 1), .inr (14, [.int (nI 0), .int (-1), .int (nI 0), .ref h2])), (h2, .inr (13, [.int (nI 0), v6, .int (nI 0)])), ((u6 2), .inr (14, [.int (nI 0), .int (-1), .int (nI 0), .ref (u6 0)])), ((u6 0), .inr (13, [.int (nI 0), .ref (G 0), .int (nI 0)])), (h5, .inr (13, [v9, v10, .int (nI 0)]))]) rfl (fun H locs hP hD hS => ?_)
  refine lv_dup hx hb dX12_count_213 rfl ?_
  refine lv_bipush (v := nI 11) hx hb dX12_count_214 (by decide +kernel) ?_
  refine lv_aload_n hx hb dX12_count_216 rfl (lv_at hl 6 rfl) ?_
  refine r_get hx hb hts ok_RX12 hown hK hP 0 rfl rfl 1 (by decide) w_1294 (fun _ h9 => h9) rfl dX12_count_217 ?_
  refine r_get hx hb hts ok_RX10 hown hK hP 8 rfl rfl 11 (by decide) w_1247 (fun _ h9 => h9) rfl dX12_count_220 ?_
  refine r_iast (k := 11) hx hb hK hP hD hS 5 2 rfl rfl (Nat.le_of_ble_eq_true rfl) (by decide) dX12_count_223 (ws' := [(h0, .inr (12, [v0, .ref h1])), (h3, .inl (K 1, 20, .inl (fun _ => nI 0))), ((u0 1), .inr (14, [.int (nI 0), .int (-1), .int (nI 0), .ref h2])), ((u1 0), .inr (14, [.int (nI 0), .int (-1), .int (nI 0), .ref (u0 0)])), ((u0 0), .inr (13, [.int (nI 0), .ref (G 0), .int (nI 0)])), (q0, .inl (K 2, 16, .inl (upd (upd (upd (upd (upd (upd (upd (upd (upd (upd (fun _ => nI 0) 2 (nI 1)) 3 (nI 0)) 4 (nI 0)) 5 (nI 0)) 6 (nI 60)) 7 (nI 0)) 8 (nI 1)) 9 (nI 0)) 10 (nI 0)) 11 (nI 0)))), ((u4 0), .inr (14, [.int (nI 0), .int (-1), .int (nI 0), .ref h2])), (h4, .inr (13, [v7, v8, .int (nI 1)])), (h1, .inr (10, [.ref h2, .ref h4, v1, .ref h5, .ref h3, .int (nI 0), .int (nI 0), .int (nI 60), .int (nI 0), v2, v3, .int (nI 0), .int (nI 0), .int (nI 0), .int (nI 0), v4, v5])), ((u6 1), .inr (14, [.int (nI 0), .int (-1), .int (nI 0), .ref h2])), (h2, .inr (13, [.int (nI 0), v6, .int (nI 0)])), ((u6 2), .inr (14, [.int (nI 0), .int (-1), .int (nI 0), .ref (u6 0)])), ((u6 0), .inr (13, [.int (nI 0), .ref (G 0), .int (nI 0)])), (h5, .inr (13, [v9, v10, .int (nI 0)]))]) rfl (fun H locs hP hD hS => ?_)
  refine lv_dup hx hb dX12_count_224 rfl ?_
  refine lv_bipush (v := nI 12) hx hb dX12_count_225 (by decide +kernel) ?_
  refine lv_aload_n hx hb dX12_count_227 rfl (lv_at hl 6 rfl) ?_
  refine r_get hx hb hts ok_RX12 hown hK hP 0 rfl rfl 1 (by decide) w_1294 (fun _ h9 => h9) rfl dX12_count_228 ?_
  refine r_get hx hb hts ok_RX10 hown hK hP 8 rfl rfl 12 (by decide) w_1249 (fun _ h9 => h9) rfl dX12_count_231 ?_
  refine r_iast (k := 12) hx hb hK hP hD hS 5 2 rfl rfl (Nat.le_of_ble_eq_true rfl) (by decide) dX12_count_234 (ws' := [(h0, .inr (12, [v0, .ref h1])), (h3, .inl (K 1, 20, .inl (fun _ => nI 0))), ((u0 1), .inr (14, [.int (nI 0), .int (-1), .int (nI 0), .ref h2])), ((u1 0), .inr (14, [.int (nI 0), .int (-1), .int (nI 0), .ref (u0 0)])), ((u0 0), .inr (13, [.int (nI 0), .ref (G 0), .int (nI 0)])), (q0, .inl (K 2, 16, .inl (upd (upd (upd (upd (upd (upd (upd (upd (upd (upd (upd (fun _ => nI 0) 2 (nI 1)) 3 (nI 0)) 4 (nI 0)) 5 (nI 0)) 6 (nI 60)) 7 (nI 0)) 8 (nI 1)) 9 (nI 0)) 10 (nI 0)) 11 (nI 0)) 12 (nI 0)))), ((u4 0), .inr (14, [.int (nI 0), .int (-1), .int (nI 0), .ref h2])), (h4, .inr (13, [v7, v8, .int (nI 1)])), (h1, .inr (10, [.ref h2, .ref h4, v1, .ref h5, .ref h3, .int (nI 0), .int (nI 0), .int (nI 60), .int (nI 0), v2, v3, .int (nI 0), .int (nI 0), .int (nI 0), .int (nI 0), v4, v5])), ((u6 1), .inr (14, [.int (nI 0), .int (-1), .int (nI 0), .ref h2])), (h2, .inr (13, [.int (nI 0), v6, .int (nI 0)])), ((u6 2), .inr (14, [.int (nI 0), .int (-1), .int (nI 0), .ref (u6 0)])), ((u6 0), .inr (13, [.int (nI 0), .ref (G 0), .int (nI 0)])), (h5, .inr (13, [v9, v10, .int (nI 0)]))]) rfl (fun H locs hP hD hS => ?_)
  refine lv_dup hx hb dX12_count_235 rfl ?_
  refine lv_bipush (v := nI 13) hx hb dX12_count_236 (by decide +kernel) ?_
  refine lv_aload_n hx hb dX12_count_238 rfl (lv_at hl 6 rfl) ?_
  refine r_get hx hb hts ok_RX12 hown hK hP 0 rfl rfl 1 (by decide) w_1294 (fun _ h9 => h9) rfl dX12_count_239 ?_
  refine r_get hx hb hts ok_RX10 hown hK hP 8 rfl rfl 13 (by decide) w_1251 (fun _ h9 => h9) rfl dX12_count_242 ?_
  refine r_iast (k := 13) hx hb hK hP hD hS 5 2 rfl rfl (Nat.le_of_ble_eq_true rfl) (by decide) dX12_count_245 (ws' := [(h0, .inr (12, [v0, .ref h1])), (h3, .inl (K 1, 20, .inl (fun _ => nI 0))), ((u0 1), .inr (14, [.int (nI 0), .int (-1), .int (nI 0), .ref h2])), ((u1 0), .inr (14, [.int (nI 0), .int (-1), .int (nI 0), .ref (u0 0)])), ((u0 0), .inr (13, [.int (nI 0), .ref (G 0), .int (nI 0)])), (q0, .inl (K 2, 16, .inl (upd (upd (upd (upd (upd (upd (upd (upd (upd (upd (upd (upd (fun _ => nI 0) 2 (nI 1)) 3 (nI 0)) 4 (nI 0)) 5 (nI 0)) 6 (nI 60)) 7 (nI 0)) 8 (nI 1)) 9 (nI 0)) 10 (nI 0)) 11 (nI 0)) 12 (nI 0)) 13 (nI 0)))), ((u4 0), .inr (14, [.int (nI 0), .int (-1), .int (nI 0), .ref h2])), (h4, .inr (13, [v7, v8, .int (nI 1)])), (h1, .inr (10, [.ref h2, .ref h4, v1, .ref h5, .ref h3, .int (nI 0), .int (nI 0), .int (nI 60), .int (nI 0), v2, v3, .int (nI 0), .int (nI 0), .int (nI 0), .int (nI 0), v4, v5])), ((u6 1), .inr (14, [.int (nI 0), .int (-1), .int (nI 0), .ref h2])), (h2, .inr (13, [.int (nI 0), v6, .int (nI 0)])), ((u6 2), .inr (14, [.int (nI 0), .int (-1), .int (nI 0), .ref (u6 0)])), ((u6 0), .inr (13, [.int (nI 0), .ref (G 0), .int (nI 0)])), (h5, .inr (13, [v9, v10, .int (nI 0)]))]) rfl (fun H locs hP hD hS => ?_)
  refine lv_dup hx hb dX12_count_246 rfl ?_
  refine lv_bipush (v := nI 14) hx hb dX12_count_247 (by decide +kernel) ?_
  refine lv_aload_n hx hb dX12_count_249 rfl (lv_at hl 6 rfl) ?_
  refine r_get hx hb hts ok_RX12 hown hK hP 0 rfl rfl 1 (by decide) w_1294 (fun _ h9 => h9) rfl dX12_count_250 ?_
  refine r_get hx hb hts ok_RX10 hown hK hP 8 rfl rfl 14 (by decide) w_1253 (fun _ h9 => h9) rfl dX12_count_253 ?_
  refine r_iast (k := 14) hx hb hK hP hD hS 5 2 rfl rfl (Nat.le_of_ble_eq_true rfl) (by decide) dX12_count_256 (ws' := [(h0, .inr (12, [v0, .ref h1])), (h3, .inl (K 1, 20, .inl (fun _ => nI 0))), ((u0 1), .inr (14, [.int (nI 0), .int (-1), .int (nI 0), .ref h2])), ((u1 0), .inr (14, [.int (nI 0), .int (-1), .int (nI 0), .ref (u0 0)])), ((u0 0), .inr (13, [.int (nI 0), .ref (G 0), .int (nI 0)])), (q0, .inl (K 2, 16, .inl (upd (upd (upd (upd (upd (upd (upd (upd (upd (upd (upd (upd (upd (fun _ => nI 0) 2 (nI 1)) 3 (nI 0)) 4 (nI 0)) 5 (nI 0)) 6 (nI 60)) 7 (nI 0)) 8 (nI 1)) 9 (nI 0)) 10 (nI 0)) 11 (nI 0)) 12 (nI 0)) 13 (nI 0)) 14 (nI 0)))), ((u4 0), .inr (14, [.int (nI 0), .int (-1), .int (nI 0), .ref h2])), (h4, .inr (13, [v7, v8, .int (nI 1)])), (h1, .inr (10, [.ref h2, .ref h4, v1, .ref h5, .ref h3, .int (nI 0), .int (nI 0), .int (nI 60), .int (nI 0), v2, v3, .int (nI 0), .int (nI 0), .int (nI 0), .int (nI 0), v4, v5])), ((u6 1), .inr (14, [.int (nI 0), .int (-1), .int (nI 0), .ref h2])), (h2, .inr (13, [.int (nI 0), v6, .int (nI 0)])), ((u6 2), .inr (14, [.int (nI 0), .int (-1), .int (nI 0), .ref (u6 0)])), ((u6 0), .inr (13, [.int (nI 0), .ref (G 0), .int (nI 0)])), (h5, .inr (13, [v9, v10, .int (nI 0)]))]) rfl (fun H locs hP hD hS => ?_)
  refine lv_dup hx hb dX12_count_257 rfl ?_
  refine lv_bipush (v := nI 15) hx hb dX12_count_258 (by decide +kernel) ?_
  refine lv_aload_n hx hb dX12_count_260 rfl (lv_at hl 6 rfl) ?_
  refine r_get hx hb hts ok_RX12 hown hK hP 0 rfl rfl 1 (by decide) w_1294 (fun _ h9 => h9) rfl dX12_count_261 ?_
  refine k_i (wr := [(h0, .inr (12, [v0, .ref h1])), (h3, .inl (K 1, 20, .inl (fun _ => nI 0))), ((u0 1), .inr (14, [.int (nI 0), .int (-1), .int (nI 0), .ref h2])), ((u1 0), .inr (14, [.int (nI 0), .int (-1), .int (nI 0), .ref (u0 0)])), ((u0 0), .inr (13, [.int (nI 0), .ref (G 0), .int (nI 0)])), (q0, .inl (K 2, 16, .inl (upd (upd (upd (upd (upd (upd (upd (upd (upd (upd (upd (upd (upd (fun _ => nI 0) 2 (nI 1)) 3 (nI 0)) 4 (nI 0)) 5 (nI 0)) 6 (nI 60)) 7 (nI 0)) 8 (nI 1)) 9 (nI 0)) 10 (nI 0)) 11 (nI 0)) 12 (nI 0)) 13 (nI 0)) 14 (nI 0)))), ((u4 0), .inr (14, [.int (nI 0), .int (-1), .int (nI 0), .ref h2])), (h4, .inr (13, [v7, v8, .int (nI 1)])), ((u6 1), .inr (14, [.int (nI 0), .int (-1), .int (nI 0), .ref h2])), ((u6 2), .inr (14, [.int (nI 0), .int (-1), .int (nI 0), .ref (u6 0)])), ((u6 0), .inr (13, [.int (nI 0), .ref (G 0), .int (nI 0)])), (h5, .inr (13, [v9, v10, .int (nI 0)]))]) (run_V (rest := [.int (nI 15), .ref q0, .ref q0]) hx hb hml hown hts hK hP hD hS hA hm (C830_greys l G D K H.size h1 h2 (.ref h4) (v1) (.ref h5) (.ref h3) (.int (nI 0)) (.int (nI 0)) (.int (nI 60)) (.int (nI 0)) (v2) (v3) (.int (nI 0)) (.int (nI 0)) (.int (nI 0)) (.int (nI 0)) (v4) (v5) (v6)) [8, 10] rfl rfl mok_yX10_greys w_1973 w_1974 w_1975 (rcv hK hP 8 rfl rfl rfl) ⟨Nat.le_of_ble_eq_true rfl, Nat.le_of_ble_eq_true rfl⟩ rfl hl.1 rfl (Nat.le_of_ble_eq_true rfl) dX12_count_264 ⟨(Nat.le_of_ble_eq_true rfl), (Nat.le_of_ble_eq_true rfl)⟩) hP hD hS hA [8, 10] [0, 1, 2, 3, 4, 5, 6, 7, 9, 11, 12, 13] rfl rfl rfl (by decide) (w2 := fun u8 => [(h0, .inr (12, [v0, .ref h1])), (h3, .inl (K 1, 20, .inl (fun _ => nI 0))), ((u0 1), .inr (14, [.int (nI 0), .int (-1), .int (nI 0), .ref h2])), ((u1 0), .inr (14, [.int (nI 0), .int (-1), .int (nI 0), .ref (u0 0)])), ((u0 0), .inr (13, [.int (nI 0), .ref (G 0), .int (nI 0)])), (q0, .inl (K 2, 16, .inl (upd (upd (upd (upd (upd (upd (upd (upd (upd (upd (upd (upd (upd (fun _ => nI 0) 2 (nI 1)) 3 (nI 0)) 4 (nI 0)) 5 (nI 0)) 6 (nI 60)) 7 (nI 0)) 8 (nI 1)) 9 (nI 0)) 10 (nI 0)) 11 (nI 0)) 12 (nI 0)) 13 (nI 0)) 14 (nI 0)))), ((u4 0), .inr (14, [.int (nI 0), .int (-1), .int (nI 0), .ref h2])), (h4, .inr (13, [v7, v8, .int (nI 1)])), ((u6 1), .inr (14, [.int (nI 0), .int (-1), .int (nI 0), .ref h2])), ((u6 2), .inr (14, [.int (nI 0), .int (-1), .int (nI 0), .ref (u6 0)])), ((u6 0), .inr (13, [.int (nI 0), .ref (G 0), .int (nI 0)])), (h5, .inr (13, [v9, v10, .int (nI 0)])), (h1, .inr (10, [.ref h2, .ref h4, v1, .ref h5, .ref h3, .int (nI 0), .int (nI 0), .int (nI 60), .int (nI 0), v2, v3, .int (nI 0), .int (nI 0), .int (nI 0), .int (nI 0), v4, v5])), ((u8 0), .inr (14, [.int (nI 0), .int (-1), .int (nI 0), .ref h2])), (h2, .inr (13, [.int (nI 0), v6, .int (nI 0)]))]) (fun _ => rfl) (fun u8 H locs hP hD hS => ?_)
  refine r_iast (k := 15) hx hb hK hP hD hS 5 2 rfl rfl (Nat.le_of_ble_eq_true rfl) (by decide) dX12_count_267 (ws' := [(h0, .inr (12, [v0, .ref h1])), (h3, .inl (K 1, 20, .inl (fun _ => nI 0))), ((u0 1), .inr (14, [.int (nI 0), .int (-1), .int (nI 0), .ref h2])), ((u1 0), .inr (14, [.int (nI 0), .int (-1), .int (nI 0), .ref (u0 0)])), ((u0 0), .inr (13, [.int (nI 0), .ref (G 0), .int (nI 0)])), (q0, .inl (K 2, 16, .inl (upd (upd (upd (upd (upd (upd (upd (upd (upd (upd (upd (upd (upd (upd (fun _ => nI 0) 2 (nI 1)) 3 (nI 0)) 4 (nI 0)) 5 (nI 0)) 6 (nI 60)) 7 (nI 0)) 8 (nI 1)) 9 (nI 0)) 10 (nI 0)) 11 (nI 0)) 12 (nI 0)) 13 (nI 0)) 14 (nI 0)) 15 (nI 0)))), ((u4 0), .inr (14, [.int (nI 0), .int (-1), .int (nI 0), .ref h2])), (h4, .inr (13, [v7, v8, .int (nI 1)])), ((u6 1), .inr (14, [.int (nI 0), .int (-1), .int (nI 0), .ref h2])), ((u6 2), .inr (14, [.int (nI 0), .int (-1), .int (nI 0), .ref (u6 0)])), ((u6 0), .inr (13, [.int (nI 0), .ref (G 0), .int (nI 0)])), (h5, .inr (13, [v9, v10, .int (nI 0)])), (h1, .inr (10, [.ref h2, .ref h4, v1, .ref h5, .ref h3, .int (nI 0), .int (nI 0), .int (nI 60), .int (nI 0), v2, v3, .int (nI 0), .int (nI 0), .int (nI 0), .int (nI 0), v4, v5])), ((u8 0), .inr (14, [.int (nI 0), .int (-1), .int (nI 0), .ref h2])), (h2, .inr (13, [.int (nI 0), v6, .int (nI 0)]))]) rfl (fun H locs hP hD hS => ?_)
  refine lv_astore (lv' := [(4, .ref q0), (6, .int (nI 20)), (3, .int (nI 0)), (7, .int (nI 0)), (5, .int (nI 20)), (2, .int (nI 0)), (0, .ref h0), (1, .int (nI 12))]) hx hb dX12_count_268 hl (by decide) rfl (fun ls hl => ?_)
  refine lv_aload hx hb dX12_count_270 (lv_at hl 0 rfl) ?_
  refine lv_iload_n hx hb dX12_count_272 rfl (lv_at hl 7 rfl) ?_
  refine r_iald (k := 12) hx hb hK hP 5 2 rfl rfl (Nat.le_of_ble_eq_true rfl) (by decide) (v := nI 0) rfl dX12_count_273 ?_
  exact e_i hx hb hr hlk hP hD hS (fun k => match k with | 0 => (u0 0) | 1 => (u0 1) | 2 => (u1 0) | 3 => q0 | 4 => (u4 0) | 5 => (u6 0) | 6 => (u6 1) | 7 => (u6 2) | 8 => (u8 0) | _ => 0) rfl (Nat.le_of_ble_eq_true rfl) (Nat.le_of_ble_eq_true rfl) rfl dX12_count_274
set_option maxHeartbeats 4000000 in
set_option maxRecDepth 100000 in
theorem C933_many (l : Launch) (G : Nat → Nat) (D : va_G) (K : Nat → ClassId) (sz : Nat) (h0 h1 h2 h3 h4 h5 : Nat) (v0 v1 v2 v3 v4 v5 v6 v7 v8 v9 : Value) : CM l yX12_many cX12_many 2 (some FieldType.int) ({ frames := 7, cells := 9, slots := 46, locals := 156 } : Room) G D K [.ref h0, .int (nI 12)] [(h0, .inr (12, [.int (nI 0), .ref h1])), (h1, .inr (10, [.ref h2, .ref h4, v0, .ref h5, .ref h3, .int (nI 0), .int (nI 0), .int (nI 60), .int (nI 0), v1, v2, .int (nI 0), .int (nI 0), .int (nI 0), .int (nI 0), v3, v4])), (h2, .inr (13, [.int (nI 0), v5, .int (nI 0)])), (h3, .inl (K 1, 20, .inl (fun _ => nI 0))), (h4, .inr (13, [v6, v7, .int (nI 1)])), (h5, .inr (13, [v8, v9, .int (nI 0)]))] sz (CQi (nI 0) D (fun u => [(h0, .inr (12, [.int (nI 0), .ref h1])), (h3, .inl (K 1, 20, .inl (fun _ => nI 0))), ((u 1), .inr (14, [.int (nI 0), .int (-1), .int (nI 0), .ref h2])), ((u 2), .inr (14, [.int (nI 0), .int (-1), .int (nI 0), .ref (u 0)])), ((u 0), .inr (13, [.int (nI 0), .ref (G 0), .int (nI 0)])), ((u 3), .inl (K 2, 16, .inl (upd (upd (upd (upd (upd (upd (upd (upd (upd (upd (upd (upd (upd (upd (fun _ => nI 0) 2 (nI 1)) 3 (nI 0)) 4 (nI 0)) 5 (nI 0)) 6 (nI 60)) 7 (nI 0)) 8 (nI 1)) 9 (nI 0)) 10 (nI 0)) 11 (nI 0)) 12 (nI 0)) 13 (nI 0)) 14 (nI 0)) 15 (nI 0)))), ((u 4), .inr (14, [.int (nI 0), .int (-1), .int (nI 0), .ref h2])), (h4, .inr (13, [v6, v7, .int (nI 1)])), ((u 6), .inr (14, [.int (nI 0), .int (-1), .int (nI 0), .ref h2])), ((u 7), .inr (14, [.int (nI 0), .int (-1), .int (nI 0), .ref (u 5)])), ((u 5), .inr (13, [.int (nI 0), .ref (G 0), .int (nI 0)])), (h5, .inr (13, [v8, v9, .int (nI 0)])), (h1, .inr (10, [.ref h2, .ref h4, v0, .ref h5, .ref h3, .int (nI 0), .int (nI 0), .int (nI 60), .int (nI 0), v1, v2, .int (nI 0), .int (nI 0), .int (nI 0), .int (nI 0), v3, v4])), ((u 8), .inr (14, [.int (nI 0), .int (-1), .int (nI 0), .ref h2])), (h2, .inr (13, [.int (nI 0), v5, .int (nI 0)]))])) := by
  refine CM_of (lv0 := [(0, .ref h0), (1, .int (nI 12))]) pn_RX12 (Nat.le_of_ble_eq_true rfl) rfl (fun p e s m args below meth c A ls hx hb hr hml hown hts hlk hnm hP hK hD hS hA hm hl => ?_)
  have hown : s.vm.findClass RX12 = some m.cls := hown
  refine lv_aload_n hx hb dX12_many_0 rfl (lv_at hl 0 rfl) ?_
  refine lv_iload_n hx hb dX12_many_1 rfl (lv_at hl 1 rfl) ?_
  refine lv_iconst (v := nI 0) hx hb dX12_many_2 (by decide +kernel) ?_
  refine lv_bipush (v := nI 15) hx hb dX12_many_3 (by decide +kernel) ?_
  refine k_i (wr := [(h0, .inr (12, [.int (nI 0), .ref h1])), (h1, .inr (10, [.ref h2, .ref h4, v0, .ref h5, .ref h3, .int (nI 0), .int (nI 0), .int (nI 60), .int (nI 0), v1, v2, .int (nI 0), .int (nI 0), .int (nI 0), .int (nI 0), v3, v4])), (h2, .inr (13, [.int (nI 0), v5, .int (nI 0)])), (h3, .inl (K 1, 20, .inl (fun _ => nI 0))), (h4, .inr (13, [v6, v7, .int (nI 1)])), (h5, .inr (13, [v8, v9, .int (nI 0)]))]) (run_S (rest := [.ref h0]) hx hb hml hown hts hK hP hD hS hA hm (C931_isIn l G D K s.heap.size) [] rfl rfl mok_yX12_isIn w_1352 w_1353 ⟨Nat.le_of_ble_eq_true rfl, Nat.le_of_ble_eq_true rfl⟩ rfl hl.1 rfl (Nat.le_of_ble_eq_true rfl) dX12_many_5 ⟨(Nat.le_of_ble_eq_true rfl), (Nat.le_of_ble_eq_true rfl)⟩) hP hD hS hA [] [0, 1, 2, 3, 4, 5] rfl rfl rfl (by decide) (w2 := fun u0 => [(h0, .inr (12, [.int (nI 0), .ref h1])), (h1, .inr (10, [.ref h2, .ref h4, v0, .ref h5, .ref h3, .int (nI 0), .int (nI 0), .int (nI 60), .int (nI 0), v1, v2, .int (nI 0), .int (nI 0), .int (nI 0), .int (nI 0), v3, v4])), (h2, .inr (13, [.int (nI 0), v5, .int (nI 0)])), (h3, .inl (K 1, 20, .inl (fun _ => nI 0))), (h4, .inr (13, [v6, v7, .int (nI 1)])), (h5, .inr (13, [v8, v9, .int (nI 0)]))]) (fun _ => rfl) (fun u0 H locs hP hD hS => ?_)
  refine lv_if_ne (tgt := 15) hx hb dX12_many_8 (by decide) (fun _ => ?_) (fun c9 => absurd c9 (by decide +kernel))
  refine lv_iconst (v := nI 0) hx hb dX12_many_15 (by decide +kernel) ?_
  refine lv_iconst (v := nI 1) hx hb dX12_many_16 (by decide +kernel) ?_
  refine k_i (wr := [(h1, .inr (10, [.ref h2, .ref h4, v0, .ref h5, .ref h3, .int (nI 0), .int (nI 0), .int (nI 60), .int (nI 0), v1, v2, .int (nI 0), .int (nI 0), .int (nI 0), .int (nI 0), v3, v4])), (h2, .inr (13, [.int (nI 0), v5, .int (nI 0)])), (h3, .inl (K 1, 20, .inl (fun _ => nI 0))), (h4, .inr (13, [v6, v7, .int (nI 1)])), (h5, .inr (13, [v8, v9, .int (nI 0)]))]) (run_V (rest := []) hx hb hml hown hts hK hP hD hS hA hm (C25_start l G D K H.size h0 (.ref h1)) [0] rfl rfl mok_yX12_start w_1312 w_1314 w_p30 (rcv hK hP 0 rfl rfl rfl) ⟨Nat.le_of_ble_eq_true rfl, Nat.le_of_ble_eq_true rfl⟩ rfl hl.1 rfl (Nat.le_of_ble_eq_true rfl) dX12_many_17 ⟨(Nat.le_of_ble_eq_true rfl), (Nat.le_of_ble_eq_true rfl)⟩) hP hD hS hA [0] [1, 2, 3, 4, 5] rfl rfl rfl (by decide) (w2 := fun u1 => [(h1, .inr (10, [.ref h2, .ref h4, v0, .ref h5, .ref h3, .int (nI 0), .int (nI 0), .int (nI 60), .int (nI 0), v1, v2, .int (nI 0), .int (nI 0), .int (nI 0), .int (nI 0), v3, v4])), (h2, .inr (13, [.int (nI 0), v5, .int (nI 0)])), (h3, .inl (K 1, 20, .inl (fun _ => nI 0))), (h4, .inr (13, [v6, v7, .int (nI 1)])), (h5, .inr (13, [v8, v9, .int (nI 0)])), (h0, .inr (12, [.int (nI 0), .ref h1]))]) (fun _ => rfl) (fun u1 H locs hP hD hS => ?_)
  refine lv_if_eq (tgt := 27) hx hb dX12_many_20 (by decide) (fun _ => ?_) (fun c9 => absurd (by decide +kernel) c9)
  refine lv_aload_n hx hb dX12_many_27 rfl (lv_at hl 0 rfl) ?_
  refine lv_iload_n hx hb dX12_many_28 rfl (lv_at hl 1 rfl) ?_
  refine k_i (wr := []) (run_V (rest := []) hx hb hml hown hts hK hP hD hS hA hm (C932_count l G D K H.size h0 h1 h2 h3 h4 h5 (.int (nI 0)) (v0) (v1) (v2) (v3) (v4) (v5) (v6) (v7) (v8) (v9)) [5, 0, 1, 2, 3, 4] rfl rfl mok_yX12_count w_2029 w_2031 w_p57 (rcv hK hP 5 rfl rfl rfl) ⟨Nat.le_of_ble_eq_true rfl, Nat.le_of_ble_eq_true rfl⟩ rfl hl.1 rfl (Nat.le_of_ble_eq_true rfl) dX12_many_29 ⟨(Nat.le_of_ble_eq_true rfl), (Nat.le_of_ble_eq_true rfl)⟩) hP hD hS hA [5, 0, 1, 2, 3, 4] [] rfl rfl rfl (by decide) (w2 := fun u2 => [(h0, .inr (12, [.int (nI 0), .ref h1])), (h3, .inl (K 1, 20, .inl (fun _ => nI 0))), ((u2 1), .inr (14, [.int (nI 0), .int (-1), .int (nI 0), .ref h2])), ((u2 2), .inr (14, [.int (nI 0), .int (-1), .int (nI 0), .ref (u2 0)])), ((u2 0), .inr (13, [.int (nI 0), .ref (G 0), .int (nI 0)])), ((u2 3), .inl (K 2, 16, .inl (upd (upd (upd (upd (upd (upd (upd (upd (upd (upd (upd (upd (upd (upd (fun _ => nI 0) 2 (nI 1)) 3 (nI 0)) 4 (nI 0)) 5 (nI 0)) 6 (nI 60)) 7 (nI 0)) 8 (nI 1)) 9 (nI 0)) 10 (nI 0)) 11 (nI 0)) 12 (nI 0)) 13 (nI 0)) 14 (nI 0)) 15 (nI 0)))), ((u2 4), .inr (14, [.int (nI 0), .int (-1), .int (nI 0), .ref h2])), (h4, .inr (13, [v6, v7, .int (nI 1)])), ((u2 6), .inr (14, [.int (nI 0), .int (-1), .int (nI 0), .ref h2])), ((u2 7), .inr (14, [.int (nI 0), .int (-1), .int (nI 0), .ref (u2 5)])), ((u2 5), .inr (13, [.int (nI 0), .ref (G 0), .int (nI 0)])), (h5, .inr (13, [v8, v9, .int (nI 0)])), (h1, .inr (10, [.ref h2, .ref h4, v0, .ref h5, .ref h3, .int (nI 0), .int (nI 0), .int (nI 60), .int (nI 0), v1, v2, .int (nI 0), .int (nI 0), .int (nI 0), .int (nI 0), v3, v4])), ((u2 8), .inr (14, [.int (nI 0), .int (-1), .int (nI 0), .ref h2])), (h2, .inr (13, [.int (nI 0), v5, .int (nI 0)]))]) (fun _ => rfl) (fun u2 H locs hP hD hS => ?_)
  exact e_i hx hb hr hlk hP hD hS (fun k => match k with | 0 => (u2 0) | 1 => (u2 1) | 2 => (u2 2) | 3 => (u2 3) | 4 => (u2 4) | 5 => (u2 5) | 6 => (u2 6) | 7 => (u2 7) | 8 => (u2 8) | _ => 0) rfl (Nat.le_of_ble_eq_true rfl) (Nat.le_of_ble_eq_true rfl) rfl dX12_many_32
set_option maxHeartbeats 4000000 in
set_option maxRecDepth 100000 in
theorem C934_many (l : Launch) (G : Nat → Nat) (D : va_G) (K : Nat → ClassId) (sz : Nat) (h0 h1 : Nat) (v0 v1 v2 v3 v4 v5 v6 v7 v8 v9 v10 : Value) : CM l yX9_many cX9_many 2 (some FieldType.int) ({ frames := 0, cells := 0, slots := 0, locals := 0 } : Room) G D K [.ref h0, .int (nI 13)] [(h0, .inr (9, [v0, v1, v2, .ref h1, v3, v4, v5, v6, v7])), (h1, .inr (6, [v8, v9, .int (nI 0), v10]))] sz (CQi (nI 0) D (fun _ => [(h0, .inr (9, [v0, v1, v2, .ref h1, v3, v4, v5, v6, v7])), (h1, .inr (6, [v8, v9, .int (nI 0), v10]))])) := by
  refine CM_of (lv0 := [(0, .ref h0), (1, .int (nI 13))]) pn_RX9 (Nat.le_of_ble_eq_true rfl) rfl (fun p e s m args below meth c A ls hx hb hr hml hown hts hlk hnm hP hK hD hS hA hm hl => ?_)
  have hown : s.vm.findClass RX9 = some m.cls := hown
  refine lv_iload_n hx hb dX9_many_0 rfl (lv_at hl 1 rfl) ?_
  refine lv_tableIn (off := 200) (tgt := 201) hx hb dX9_many_1 (by decide +kernel) (by decide +kernel) rfl (by decide) ?_
  refine lv_aload_n hx hb dX9_many_201 rfl (lv_at hl 0 rfl) ?_
  refine r_get hx hb hts ok_RX9 hown hK hP 0 rfl rfl 3 (by decide) w_261 (fun _ h9 => h9) rfl dX9_many_202 ?_
  refine r_get hx hb hts ok_RX6 hown hK hP 1 rfl rfl 2 (by decide) w_141 (fun _ h9 => h9) rfl dX9_many_205 ?_
  exact e_i hx hb hr hlk hP hD hS (fun _ => 0) rfl (Nat.le_of_ble_eq_true rfl) (Nat.le_of_ble_eq_true rfl) rfl dX9_many_208
set_option maxHeartbeats 4000000 in
set_option maxRecDepth 100000 in
theorem C935_isIn (l : Launch) (G : Nat → Nat) (D : va_G) (K : Nat → ClassId) (sz : Nat) : CM l yX12_isIn cX12_isIn 3 (some FieldType.boolean) ({ frames := 0, cells := 0, slots := 0, locals := 0 } : Room) G D K [.int (nI 13), .int (nI 0), .int (nI 15)] [] sz (CQi (nI 1) D (fun _ => [])) := by
  refine CM_of (lv0 := [(0, .int (nI 13)), (1, .int (nI 0)), (2, .int (nI 15))]) pn_RX12 (Nat.le_of_ble_eq_true rfl) rfl (fun p e s m args below meth c A ls hx hb hr hml hown hts hlk hnm hP hK hD hS hA hm hl => ?_)
  have hown : s.vm.findClass RX12 = some m.cls := hown
  refine lv_iload_n hx hb dX12_isIn_0 rfl (lv_at hl 0 rfl) ?_
  refine lv_iload_n hx hb dX12_isIn_1 rfl (lv_at hl 1 rfl) ?_
  refine lv_icmp_lt (tgt := 14) hx hb dX12_isIn_2 (by decide) (fun c9 => absurd c9 (by decide +kernel)) (fun _ => ?_)
  refine lv_iload_n hx hb dX12_isIn_5 rfl (lv_at hl 0 rfl) ?_
  refine lv_iload_n hx hb dX12_isIn_6 rfl (lv_at hl 2 rfl) ?_
  refine lv_icmp_gt (tgt := 14) hx hb dX12_isIn_7 (by decide) (fun c9 => absurd c9 (by decide +kernel)) (fun _ => ?_)
  refine lv_iconst (v := nI 1) hx hb dX12_isIn_10 (by decide +kernel) ?_
  refine lv_goto (tgt := 15) hx hb dX12_isIn_11 (by decide) ?_
  exact e_z hx hb hr hlk hP hD hS (fun _ => 0) rfl (Nat.le_of_ble_eq_true rfl) (Nat.le_of_ble_eq_true rfl) rfl (Or.inr rfl) dX12_isIn_15
set_option maxHeartbeats 4000000 in
set_option maxRecDepth 100000 in
theorem C936_count (l : Launch) (G : Nat → Nat) (D : va_G) (K : Nat → ClassId) (sz : Nat) (h0 h1 h2 h3 h4 h5 : Nat) (v0 v1 v2 v3 v4 v5 v6 v7 v8 v9 v10 : Value) : CM l yX12_count cX12_count 8 (some FieldType.int) ({ frames := 6, cells := 9, slots := 46, locals := 129 } : Room) G D K [.ref h0, .int (nI 13)] [(h0, .inr (12, [v0, .ref h1])), (h1, .inr (10, [.ref h2, .ref h4, v1, .ref h5, .ref h3, .int (nI 0), .int (nI 0), .int (nI 60), .int (nI 0), v2, v3, .int (nI 0), .int (nI 0), .int (nI 0), .int (nI 0), v4, v5])), (h2, .inr (13, [.int (nI 0), v6, .int (nI 0)])), (h3, .inl (K 1, 20, .inl (fun _ => nI 0))), (h4, .inr (13, [v7, v8, .int (nI 1)])), (h5, .inr (13, [v9, v10, .int (nI 0)]))] sz (CQi (nI 0) D (fun u => [(h0, .inr (12, [v0, .ref h1])), (h3, .inl (K 1, 20, .inl (fun _ => nI 0))), ((u 1), .inr (14, [.int (nI 0), .int (-1), .int (nI 0), .ref h2])), ((u 2), .inr (14, [.int (nI 0), .int (-1), .int (nI 0), .ref (u 0)])), ((u 0), .inr (13, [.int (nI 0), .ref (G 0), .int (nI 0)])), ((u 3), .inl (K 2, 16, .inl (upd (upd (upd (upd (upd (upd (upd (upd (upd (upd (upd (upd (upd (upd (fun _ => nI 0) 2 (nI 1)) 3 (nI 0)) 4 (nI 0)) 5 (nI 0)) 6 (nI 60)) 7 (nI 0)) 8 (nI 1)) 9 (nI 0)) 10 (nI 0)) 11 (nI 0)) 12 (nI 0)) 13 (nI 0)) 14 (nI 0)) 15 (nI 0)))), ((u 4), .inr (14, [.int (nI 0), .int (-1), .int (nI 0), .ref h2])), (h4, .inr (13, [v7, v8, .int (nI 1)])), ((u 6), .inr (14, [.int (nI 0), .int (-1), .int (nI 0), .ref h2])), ((u 7), .inr (14, [.int (nI 0), .int (-1), .int (nI 0), .ref (u 5)])), ((u 5), .inr (13, [.int (nI 0), .ref (G 0), .int (nI 0)])), (h5, .inr (13, [v9, v10, .int (nI 0)])), (h1, .inr (10, [.ref h2, .ref h4, v1, .ref h5, .ref h3, .int (nI 0), .int (nI 0), .int (nI 60), .int (nI 0), v2, v3, .int (nI 0), .int (nI 0), .int (nI 0), .int (nI 0), v4, v5])), ((u 8), .inr (14, [.int (nI 0), .int (-1), .int (nI 0), .ref h2])), (h2, .inr (13, [.int (nI 0), v6, .int (nI 0)]))])) := by
  refine CM_of (lv0 := [(0, .ref h0), (1, .int (nI 13))]) pn_RX12 (Nat.le_of_ble_eq_true rfl) rfl (fun p e s m args below meth c A ls hx hb hr hml hown hts hlk hnm hP hK hD hS hA hm hl => ?_)
  have hown : s.vm.findClass RX12 = some m.cls := hown
  refine lv_iconst (v := nI 0) hx hb dX12_count_0 (by decide +kernel) ?_
  refine lv_istore_n (lv' := [(2, .int (nI 0)), (0, .ref h0), (1, .int (nI 13))]) hx hb dX12_count_1 rfl hl (by decide) rfl (fun ls hl => ?_)
  refine lv_aload_n hx hb dX12_count_2 rfl (lv_at hl 1 rfl) ?_
  refine r_get hx hb hts ok_RX12 hown hK hP 0 rfl rfl 1 (by decide) w_1294 (fun _ h9 => h9) rfl dX12_count_3 ?_
  refine lv_iconst (v := nI 3) hx hb dX12_count_6 (by decide +kernel) ?_
  refine k_q (wr := [(h0, .inr (12, [v0, .ref h1])), (h3, .inl (K 1, 20, .inl (fun _ => nI 0))), (h4, .inr (13, [v7, v8, .int (nI 1)])), (h5, .inr (13, [v9, v10, .int (nI 0)]))]) (run_V (rest := []) hx hb hml hown hts hK hP hD hS hA hm (C259_in l G D K s.heap.size h1 h2 (.ref h4) (v1) (.ref h5) (.ref h3) (.int (nI 0)) (.int (nI 0)) (.int (nI 60)) (.int (nI 0)) (v2) (v3) (.int (nI 0)) (.int (nI 0)) (.int (nI 0)) (.int (nI 0)) (v4) (v5) (v6)) [1, 2] rfl rfl mok_yX10_in w_2033 w_1368 w_1369 (rcv hK hP 1 rfl rfl rfl) ⟨Nat.le_of_ble_eq_true rfl, Nat.le_of_ble_eq_true rfl⟩ rfl hl.1 rfl (Nat.le_of_ble_eq_true rfl) dX12_count_7 ⟨(Nat.le_of_ble_eq_true rfl), (Nat.le_of_ble_eq_true rfl)⟩) hP hD hS hA [1, 2] [0, 3, 4, 5] rfl rfl rfl (by decide) (w2 := fun u0 => [(h0, .inr (12, [v0, .ref h1])), (h3, .inl (K 1, 20, .inl (fun _ => nI 0))), (h4, .inr (13, [v7, v8, .int (nI 1)])), (h5, .inr (13, [v9, v10, .int (nI 0)])), (h1, .inr (10, [.ref h2, .ref h4, v1, .ref h5, .ref h3, .int (nI 0), .int (nI 0), .int (nI 60), .int (nI 0), v2, v3, .int (nI 0), .int (nI 0), .int (nI 0), .int (nI 0), v4, v5])), ((u0 0), .inr (13, [.int (nI 0), .ref (G 0), .int (nI 0)])), ((u0 1), .inr (14, [.int (nI 0), .int (-1), .int (nI 0), .ref h2])), (h2, .inr (13, [.int (nI 0), v6, .int (nI 0)]))]) (fun _ => rfl) (fun u0 H locs hP hD hS => ?_)
  refine w_tov (y := .ref (u0 0)) rfl ?_
  refine k_q (wr := [(h0, .inr (12, [v0, .ref h1])), (h3, .inl (K 1, 20, .inl (fun _ => nI 0))), (h4, .inr (13, [v7, v8, .int (nI 1)])), (h5, .inr (13, [v9, v10, .int (nI 0)])), (h1, .inr (10, [.ref h2, .ref h4, v1, .ref h5, .ref h3, .int (nI 0), .int (nI 0), .int (nI 60), .int (nI 0), v2, v3, .int (nI 0), .int (nI 0), .int (nI 0), .int (nI 0), v4, v5])), ((u0 1), .inr (14, [.int (nI 0), .int (-1), .int (nI 0), .ref h2])), (h2, .inr (13, [.int (nI 0), v6, .int (nI 0)]))]) (run_V (rest := []) hx hb hml hown hts hK hP hD hS hA hm (C257_iterator l G D K H.size (u0 0) (.ref (G 0)) (.int (nI 0))) [5] rfl rfl mok_yJx4a65c_iterator_32c93 w_2034 w_1372 w_1373 (rcv hK hP 5 rfl rfl rfl) ⟨Nat.le_of_ble_eq_true rfl, Nat.le_of_ble_eq_true rfl⟩ rfl hl.1 rfl (Nat.le_of_ble_eq_true rfl) dX12_count_10 ⟨(Nat.le_of_ble_eq_true rfl), (Nat.le_of_ble_eq_true rfl)⟩) hP hD hS hA [5] [0, 1, 2, 3, 4, 6, 7] rfl rfl rfl (by decide) (w2 := fun u1 => [(h0, .inr (12, [v0, .ref h1])), (h3, .inl (K 1, 20, .inl (fun _ => nI 0))), (h4, .inr (13, [v7, v8, .int (nI 1)])), (h5, .inr (13, [v9, v10, .int (nI 0)])), (h1, .inr (10, [.ref h2, .ref h4, v1, .ref h5, .ref h3, .int (nI 0), .int (nI 0), .int (nI 60), .int (nI 0), v2, v3, .int (nI 0), .int (nI 0), .int (nI 0), .int (nI 0), v4, v5])), ((u0 1), .inr (14, [.int (nI 0), .int (-1), .int (nI 0), .ref h2])), (h2, .inr (13, [.int (nI 0), v6, .int (nI 0)])), ((u1 0), .inr (14, [.int (nI 0), .int (-1), .int (nI 0), .ref (u0 0)])), ((u0 0), .inr (13, [.int (nI 0), .ref (G 0), .int (nI 0)]))]) (fun _ => rfl) (fun u1 H locs hP hD hS => ?_)
  refine w_tov (y := .ref (u1 0)) rfl ?_
  refine lv_astore_n (lv' := [(3, .ref (u1 0)), (2, .int (nI 0)), (0, .ref h0), (1, .int (nI 13))]) hx hb dX12_count_13 rfl hl (by decide) rfl (fun ls hl => ?_)
  refine lv_aload_n hx hb dX12_count_14 rfl (lv_at hl 0 rfl) ?_
  refine k5_i (wr := [(h0, .inr (12, [v0, .ref h1])), (h3, .inl (K 1, 20, .inl (fun _ => nI 0))), (h4, .inr (13, [v7, v8, .int (nI 1)])), (h5, .inr (13, [v9, v10, .int (nI 0)])), (h1, .inr (10, [.ref h2, .ref h4, v1, .ref h5, .ref h3, .int (nI 0), .int (nI 0), .int (nI 60), .int (nI 0), v2, v3, .int (nI 0), .int (nI 0), .int (nI 0), .int (nI 0), v4, v5])), ((u0 1), .inr (14, [.int (nI 0), .int (-1), .int (nI 0), .ref h2])), (h2, .inr (13, [.int (nI 0), v6, .int (nI 0)]))]) (run_F (rest := []) hx hb hml hown hts hK hP hD hS hA hm (C258_hasNext l G D K H.size (u1 0) (u0 0) (.int (-1)) (.int (nI 0)) (.int (nI 0)) (.ref (G 0))) [7, 8] rfl rfl mok_yJx35411_hasNext_aae02 w_2036 w_1399 w_1401 hm.2.2.2.2.2.2.1 7 rfl rfl rfl (by decide +kernel) ⟨Nat.le_of_ble_eq_true rfl, Nat.le_of_ble_eq_true rfl⟩ rfl hl.1 rfl (Nat.le_of_ble_eq_true rfl) dX12_count_15 ⟨(Nat.le_of_ble_eq_true rfl), (Nat.le_of_ble_eq_true rfl)⟩) hP hD hS hA [7, 8] [0, 1, 2, 3, 4, 5, 6] rfl rfl rfl (by decide) (w2 := fun u2 => [(h0, .inr (12, [v0, .ref h1])), (h3, .inl (K 1, 20, .inl (fun _ => nI 0))), (h4, .inr (13, [v7, v8, .int (nI 1)])), (h5, .inr (13, [v9, v10, .int (nI 0)])), (h1, .inr (10, [.ref h2, .ref h4, v1, .ref h5, .ref h3, .int (nI 0), .int (nI 0), .int (nI 60), .int (nI 0), v2, v3, .int (nI 0), .int (nI 0), .int (nI 0), .int (nI 0), v4, v5])), ((u0 1), .inr (14, [.int (nI 0), .int (-1), .int (nI 0), .ref h2])), (h2, .inr (13, [.int (nI 0), v6, .int (nI 0)])), ((u1 0), .inr (14, [.int (nI 0), .int (-1), .int (nI 0), .ref (u0 0)])), ((u0 0), .inr (13, [.int (nI 0), .ref (G 0), .int (nI 0)]))]) (fun _ => rfl) (fun u2 H locs hP hD hS => ?_)
  refine lv_if_eq (tgt := 45) hx hb dX12_count_20 (by decide) (fun _ => ?_) (fun c9 => absurd (by decide +kernel) c9)
  refine lv_iconst (v := nI 0) hx hb dX12_count_45 (by decide +kernel) ?_
  refine lv_istore_n (lv' := [(3, .int (nI 0)), (2, .int (nI 0)), (0, .ref h0), (1, .int (nI 13))]) hx hb dX12_count_46 rfl hl (by decide) rfl (fun ls hl => ?_)
  refine lv_aload_n hx hb dX12_count_47 rfl (lv_at hl 2 rfl) ?_
  refine r_get hx hb hts ok_RX12 hown hK hP 0 rfl rfl 1 (by decide) w_1294 (fun _ h9 => h9) rfl dX12_count_48 ?_
  refine r_get hx hb hts ok_RX10 hown hK hP 4 rfl rfl 4 (by decide) w_1233 (fun _ h9 => h9) rfl dX12_count_51 ?_
  refine lv_astore (lv' := [(4, .ref h3), (3, .int (nI 0)), (2, .int (nI 0)), (0, .ref h0), (1, .int (nI 13))]) hx hb dX12_count_54 hl (by decide) rfl (fun ls hl => ?_)
  refine lv_aload hx hb dX12_count_56 (lv_at hl 0 rfl) ?_
  refine r_alen (n := 20) hx hb hK hP 1 1 rfl rfl rfl dX12_count_58 ?_
  refine lv_istore (lv' := [(5, .int (nI 20)), (4, .ref h3), (3, .int (nI 0)), (2, .int (nI 0)), (0, .ref h0), (1, .int (nI 13))]) hx hb dX12_count_59 hl (by decide) rfl (fun ls hl => ?_)
  refine lv_iconst (v := nI 0) hx hb dX12_count_61 (by decide +kernel) ?_
  refine lv_istore (lv' := [(6, .int (nI 0)), (5, .int (nI 20)), (4, .ref h3), (3, .int (nI 0)), (2, .int (nI 0)), (0, .ref h0), (1, .int (nI 13))]) hx hb dX12_count_62 hl (by decide) rfl (fun ls hl => ?_)
  refine lv_iload hx hb dX12_count_64 (lv_at hl 0 rfl) ?_
  refine lv_iload hx hb dX12_count_66 (lv_at hl 1 rfl) ?_
  refine lv_icmp_ge (tgt := 97) hx hb dX12_count_68 (by decide) (fun c9 => absurd c9 (by decide +kernel)) (fun _ => ?_)
  refine lv_aload hx hb dX12_count_71 (lv_at hl 2 rfl) ?_
  refine lv_iload hx hb dX12_count_73 (lv_at hl 0 rfl) ?_
  refine r_zald (k := 0) hx hb hK hP 1 1 rfl rfl (Nat.le_of_ble_eq_true rfl) (by decide) (v := nI 0) rfl dX12_count_75 ?_
  refine lv_istore (lv' := [(7, .int (nI 0)), (6, .int (nI 0)), (5, .int (nI 20)), (4, .ref h3), (3, .int (nI 0)), (2, .int (nI 0)), (0, .ref h0), (1, .int (nI 13))]) hx hb dX12_count_76 hl (by decide) rfl (fun ls hl => ?_)
  refine lv_iload_n hx hb dX12_count_78 rfl (lv_at hl 4 rfl) ?_
  refine lv_iload hx hb dX12_count_79 (lv_at hl 0 rfl) ?_
  refine lv_if_eq (tgt := 88) hx hb dX12_count_81 (by decide) (fun _ => ?_) (fun c9 => absurd (by decide +kernel) c9)
  refine lv_iconst (v := nI 0) hx hb dX12_count_88 (by decide +kernel) ?_
  refine lv_iadd hx hb dX12_count_89 ?_
  refine w_toeq (show (nI 0) + (nI 0) = nI 0 by decide +kernel) ?_
  refine lv_istore_n (lv' := [(3, .int (nI 0)), (7, .int (nI 0)), (6, .int (nI 0)), (5, .int (nI 20)), (4, .ref h3), (2, .int (nI 0)), (0, .ref h0), (1, .int (nI 13))]) hx hb dX12_count_90 rfl hl (by decide) rfl (fun ls hl => ?_)
  refine lv_iinc (v := nI 1) (lv' := [(6, .int (nI 1)), (3, .int (nI 0)), (7, .int (nI 0)), (5, .int (nI 20)), (4, .ref h3), (2, .int (nI 0)), (0, .ref h0), (1, .int (nI 13))]) hx hb dX12_count_91 hl (k := 2) rfl (by decide +kernel) (by decide) rfl (fun ls hl => ?_)
  refine lv_goto (tgt := 64) hx hb dX12_count_94 (by decide) ?_
  refine lv_iload hx hb dX12_count_64 (lv_at hl 0 rfl) ?_
  refine lv_iload hx hb dX12_count_66 (lv_at hl 3 rfl) ?_
  refine lv_icmp_ge (tgt := 97) hx hb dX12_count_68 (by decide) (fun c9 => absurd c9 (by decide +kernel)) (fun _ => ?_)
  refine lv_aload hx hb dX12_count_71 (lv_at hl 4 rfl) ?_
  refine lv_iload hx hb dX12_count_73 (lv_at hl 0 rfl) ?_
  refine r_zald (k := 1) hx hb hK hP 1 1 rfl rfl (Nat.le_of_ble_eq_true rfl) (by decide) (v := nI 0) rfl dX12_count_75 ?_
  refine lv_istore (lv' := [(7, .int (nI 0)), (6, .int (nI 1)), (3, .int (nI 0)), (5, .int (nI 20)), (4, .ref h3), (2, .int (nI 0)), (0, .ref h0), (1, .int (nI 13))]) hx hb dX12_count_76 hl (by decide) rfl (fun ls hl => ?_)
  refine lv_iload_n hx hb dX12_count_78 rfl (lv_at hl 2 rfl) ?_
  refine lv_iload hx hb dX12_count_79 (lv_at hl 0 rfl) ?_
  refine lv_if_eq (tgt := 88) hx hb dX12_count_81 (by decide) (fun _ => ?_) (fun c9 => absurd (by decide +kernel) c9)
  refine lv_iconst (v := nI 0) hx hb dX12_count_88 (by decide +kernel) ?_
  refine lv_iadd hx hb dX12_count_89 ?_
  refine w_toeq (show (nI 0) + (nI 0) = nI 0 by decide +kernel) ?_
  refine lv_istore_n (lv' := [(3, .int (nI 0)), (7, .int (nI 0)), (6, .int (nI 1)), (5, .int (nI 20)), (4, .ref h3), (2, .int (nI 0)), (0, .ref h0), (1, .int (nI 13))]) hx hb dX12_count_90 rfl hl (by decide) rfl (fun ls hl => ?_)
  refine lv_iinc (v := nI 2) (lv' := [(6, .int (nI 2)), (3, .int (nI 0)), (7, .int (nI 0)), (5, .int (nI 20)), (4, .ref h3), (2, .int (nI 0)), (0, .ref h0), (1, .int (nI 13))]) hx hb dX12_count_91 hl (k := 2) rfl (by decide +kernel) (by decide) rfl (fun ls hl => ?_)
  refine lv_goto (tgt := 64) hx hb dX12_count_94 (by decide) ?_
  refine lv_iload hx hb dX12_count_64 (lv_at hl 0 rfl) ?_
  refine lv_iload hx hb dX12_count_66 (lv_at hl 3 rfl) ?_
  refine lv_icmp_ge (tgt := 97) hx hb dX12_count_68 (by decide) (fun c9 => absurd c9 (by decide +kernel)) (fun _ => ?_)
  refine lv_aload hx hb dX12_count_71 (lv_at hl 4 rfl) ?_
  refine lv_iload hx hb dX12_count_73 (lv_at hl 0 rfl) ?_
  refine r_zald (k := 2) hx hb hK hP 1 1 rfl rfl (Nat.le_of_ble_eq_true rfl) (by decide) (v := nI 0) rfl dX12_count_75 ?_
  refine lv_istore (lv' := [(7, .int (nI 0)), (6, .int (nI 2)), (3, .int (nI 0)), (5, .int (nI 20)), (4, .ref h3), (2, .int (nI 0)), (0, .ref h0), (1, .int (nI 13))]) hx hb dX12_count_76 hl (by decide) rfl (fun ls hl => ?_)
  refine lv_iload_n hx hb dX12_count_78 rfl (lv_at hl 2 rfl) ?_
  refine lv_iload hx hb dX12_count_79 (lv_at hl 0 rfl) ?_
  refine lv_if_eq (tgt := 88) hx hb dX12_count_81 (by decide) (fun _ => ?_) (fun c9 => absurd (by decide +kernel) c9)
  refine lv_iconst (v := nI 0) hx hb dX12_count_88 (by decide +kernel) ?_
  refine lv_iadd hx hb dX12_count_89 ?_
  refine w_toeq (show (nI 0) + (nI 0) = nI 0 by decide +kernel) ?_
  refine lv_istore_n (lv' := [(3, .int (nI 0)), (7, .int (nI 0)), (6, .int (nI 2)), (5, .int (nI 20)), (4, .ref h3), (2, .int (nI 0)), (0, .ref h0), (1, .int (nI 13))]) hx hb dX12_count_90 rfl hl (by decide) rfl (fun ls hl => ?_)
  refine lv_iinc (v := nI 3) (lv' := [(6, .int (nI 3)), (3, .int (nI 0)), (7, .int (nI 0)), (5, .int (nI 20)), (4, .ref h3), (2, .int (nI 0)), (0, .ref h0), (1, .int (nI 13))]) hx hb dX12_count_91 hl (k := 2) rfl (by decide +kernel) (by decide) rfl (fun ls hl => ?_)
  refine lv_goto (tgt := 64) hx hb dX12_count_94 (by decide) ?_
  refine lv_iload hx hb dX12_count_64 (lv_at hl 0 rfl) ?_
  refine lv_iload hx hb dX12_count_66 (lv_at hl 3 rfl) ?_
  refine lv_icmp_ge (tgt := 97) hx hb dX12_count_68 (by decide) (fun c9 => absurd c9 (by decide +kernel)) (fun _ => ?_)
  refine lv_aload hx hb dX12_count_71 (lv_at hl 4 rfl) ?_
  refine lv_iload hx hb dX12_count_73 (lv_at hl 0 rfl) ?_
  refine r_zald (k := 3) hx hb hK hP 1 1 rfl rfl (Nat.le_of_ble_eq_true rfl) (by decide) (v := nI 0) rfl dX12_count_75 ?_
  refine lv_istore (lv' := [(7, .int (nI 0)), (6, .int (nI 3)), (3, .int (nI 0)), (5, .int (nI 20)), (4, .ref h3), (2, .int (nI 0)), (0, .ref h0), (1, .int (nI 13))]) hx hb dX12_count_76 hl (by decide) rfl (fun ls hl => ?_)
  refine lv_iload_n hx hb dX12_count_78 rfl (lv_at hl 2 rfl) ?_
  refine lv_iload hx hb dX12_count_79 (lv_at hl 0 rfl) ?_
  refine lv_if_eq (tgt := 88) hx hb dX12_count_81 (by decide) (fun _ => ?_) (fun c9 => absurd (by decide +kernel) c9)
  refine lv_iconst (v := nI 0) hx hb dX12_count_88 (by decide +kernel) ?_
  refine lv_iadd hx hb dX12_count_89 ?_
  refine w_toeq (show (nI 0) + (nI 0) = nI 0 by decide +kernel) ?_
  refine lv_istore_n (lv' := [(3, .int (nI 0)), (7, .int (nI 0)), (6, .int (nI 3)), (5, .int (nI 20)), (4, .ref h3), (2, .int (nI 0)), (0, .ref h0), (1, .int (nI 13))]) hx hb dX12_count_90 rfl hl (by decide) rfl (fun ls hl => ?_)
  refine lv_iinc (v := nI 4) (lv' := [(6, .int (nI 4)), (3, .int (nI 0)), (7, .int (nI 0)), (5, .int (nI 20)), (4, .ref h3), (2, .int (nI 0)), (0, .ref h0), (1, .int (nI 13))]) hx hb dX12_count_91 hl (k := 2) rfl (by decide +kernel) (by decide) rfl (fun ls hl => ?_)
  refine lv_goto (tgt := 64) hx hb dX12_count_94 (by decide) ?_
  refine lv_iload hx hb dX12_count_64 (lv_at hl 0 rfl) ?_
  refine lv_iload hx hb dX12_count_66 (lv_at hl 3 rfl) ?_
  refine lv_icmp_ge (tgt := 97) hx hb dX12_count_68 (by decide) (fun c9 => absurd c9 (by decide +kernel)) (fun _ => ?_)
  refine lv_aload hx hb dX12_count_71 (lv_at hl 4 rfl) ?_
  refine lv_iload hx hb dX12_count_73 (lv_at hl 0 rfl) ?_
  refine r_zald (k := 4) hx hb hK hP 1 1 rfl rfl (Nat.le_of_ble_eq_true rfl) (by decide) (v := nI 0) rfl dX12_count_75 ?_
  refine lv_istore (lv' := [(7, .int (nI 0)), (6, .int (nI 4)), (3, .int (nI 0)), (5, .int (nI 20)), (4, .ref h3), (2, .int (nI 0)), (0, .ref h0), (1, .int (nI 13))]) hx hb dX12_count_76 hl (by decide) rfl (fun ls hl => ?_)
  refine lv_iload_n hx hb dX12_count_78 rfl (lv_at hl 2 rfl) ?_
  refine lv_iload hx hb dX12_count_79 (lv_at hl 0 rfl) ?_
  refine lv_if_eq (tgt := 88) hx hb dX12_count_81 (by decide) (fun _ => ?_) (fun c9 => absurd (by decide +kernel) c9)
  refine lv_iconst (v := nI 0) hx hb dX12_count_88 (by decide +kernel) ?_
  refine lv_iadd hx hb dX12_count_89 ?_
  refine w_toeq (show (nI 0) + (nI 0) = nI 0 by decide +kernel) ?_
  refine lv_istore_n (lv' := [(3, .int (nI 0)), (7, .int (nI 0)), (6, .int (nI 4)), (5, .int (nI 20)), (4, .ref h3), (2, .int (nI 0)), (0, .ref h0), (1, .int (nI 13))]) hx hb dX12_count_90 rfl hl (by decide) rfl (fun ls hl => ?_)
  refine lv_iinc (v := nI 5) (lv' := [(6, .int (nI 5)), (3, .int (nI 0)), (7, .int (nI 0)), (5, .int (nI 20)), (4, .ref h3), (2, .int (nI 0)), (0, .ref h0), (1, .int (nI 13))]) hx hb dX12_count_91 hl (k := 2) rfl (by decide +kernel) (by decide) rfl (fun ls hl => ?_)
  refine lv_goto (tgt := 64) hx hb dX12_count_94 (by decide) ?_
  refine lv_iload hx hb dX12_count_64 (lv_at hl 0 rfl) ?_
  refine lv_iload hx hb dX12_count_66 (lv_at hl 3 rfl) ?_
  refine lv_icmp_ge (tgt := 97) hx hb dX12_count_68 (by decide) (fun c9 => absurd c9 (by decide +kernel)) (fun _ => ?_)
  refine lv_aload hx hb dX12_count_71 (lv_at hl 4 rfl) ?_
  refine lv_iload hx hb dX12_count_73 (lv_at hl 0 rfl) ?_
  refine r_zald (k := 5) hx hb hK hP 1 1 rfl rfl (Nat.le_of_ble_eq_true rfl) (by decide) (v := nI 0) rfl dX12_count_75 ?_
  refine lv_istore (lv' := [(7, .int (nI 0)), (6, .int (nI 5)), (3, .int (nI 0)), (5, .int (nI 20)), (4, .ref h3), (2, .int (nI 0)), (0, .ref h0), (1, .int (nI 13))]) hx hb dX12_count_76 hl (by decide) rfl (fun ls hl => ?_)
  refine lv_iload_n hx hb dX12_count_78 rfl (lv_at hl 2 rfl) ?_
  refine lv_iload hx hb dX12_count_79 (lv_at hl 0 rfl) ?_
  refine lv_if_eq (tgt := 88) hx hb dX12_count_81 (by decide) (fun _ => ?_) (fun c9 => absurd (by decide +kernel) c9)
  refine lv_iconst (v := nI 0) hx hb dX12_count_88 (by decide +kernel) ?_
  refine lv_iadd hx hb dX12_count_89 ?_
  refine w_toeq (show (nI 0) + (nI 0) = nI 0 by decide +kernel) ?_
  refine lv_istore_n (lv' := [(3, .int (nI 0)), (7, .int (nI 0)), (6, .int (nI 5)), (5, .int (nI 20)), (4, .ref h3), (2, .int (nI 0)), (0, .ref h0), (1, .int (nI 13))]) hx hb dX12_count_90 rfl hl (by decide) rfl (fun ls hl => ?_)
  refine lv_iinc (v := nI 6) (lv' := [(6, .int (nI 6)), (3, .int (nI 0)), (7, .int (nI 0)), (5, .int (nI 20)), (4, .ref h3), (2, .int (nI 0)), (0, .ref h0), (1, .int (nI 13))]) hx hb dX12_count_91 hl (k := 2) rfl (by decide +kernel) (by decide) rfl (fun ls hl => ?_)
  refine lv_goto (tgt := 64) hx hb dX12_count_94 (by decide) ?_
  refine lv_iload hx hb dX12_count_64 (lv_at hl 0 rfl) ?_
  refine lv_iload hx hb dX12_count_66 (lv_at hl 3 rfl) ?_
  refine lv_icmp_ge (tgt := 97) hx hb dX12_count_68 (by decide) (fun c9 => absurd c9 (by decide +kernel)) (fun _ => ?_)
  refine lv_aload hx hb dX12_count_71 (lv_at hl 4 rfl) ?_
  refine lv_iload hx hb dX12_count_73 (lv_at hl 0 rfl) ?_
  refine r_zald (k := 6) hx hb hK hP 1 1 rfl rfl (Nat.le_of_ble_eq_true rfl) (by decide) (v := nI 0) rfl dX12_count_75 ?_
  refine lv_istore (lv' := [(7, .int (nI 0)), (6, .int (nI 6)), (3, .int (nI 0)), (5, .int (nI 20)), (4, .ref h3), (2, .int (nI 0)), (0, .ref h0), (1, .int (nI 13))]) hx hb dX12_count_76 hl (by decide) rfl (fun ls hl => ?_)
  refine lv_iload_n hx hb dX12_count_78 rfl (lv_at hl 2 rfl) ?_
  refine lv_iload hx hb dX12_count_79 (lv_at hl 0 rfl) ?_
  refine lv_if_eq (tgt := 88) hx hb dX12_count_81 (by decide) (fun _ => ?_) (fun c9 => absurd (by decide +kernel) c9)
  refine lv_iconst (v := nI 0) hx hb dX12_count_88 (by decide +kernel) ?_
  refine lv_iadd hx hb dX12_count_89 ?_
  refine w_toeq (show (nI 0) + (nI 0) = nI 0 by decide +kernel) ?_
  refine lv_istore_n (lv' := [(3, .int (nI 0)), (7, .int (nI 0)), (6, .int (nI 6)), (5, .int (nI 20)), (4, .ref h3), (2, .int (nI 0)), (0, .ref h0), (1, .int (nI 13))]) hx hb dX12_count_90 rfl hl (by decide) rfl (fun ls hl => ?_)
  refine lv_iinc (v := nI 7) (lv' := [(6, .int (nI 7)), (3, .int (nI 0)), (7, .int (nI 0)), (5, .int (nI 20)), (4, .ref h3), (2, .int (nI 0)), (0, .ref h0), (1, .int (nI 13))]) hx hb dX12_count_91 hl (k := 2) rfl (by decide +kernel) (by decide) rfl (fun ls hl => ?_)
  refine lv_goto (tgt := 64) hx hb dX12_count_94 (by decide) ?_
  refine lv_iload hx hb dX12_count_64 (lv_at hl 0 rfl) ?_
  refine lv_iload hx hb dX12_count_66 (lv_at hl 3 rfl) ?_
  refine lv_icmp_ge (tgt := 97) hx hb dX12_count_68 (by decide) (fun c9 => absurd c9 (by decide +kernel)) (fun _ => ?_)
  refine lv_aload hx hb dX12_count_71 (lv_at hl 4 rfl) ?_
  refine lv_iload hx hb dX12_count_73 (lv_at hl 0 rfl) ?_
  refine r_zald (k := 7) hx hb hK hP 1 1 rfl rfl (Nat.le_of_ble_eq_true rfl) (by decide) (v := nI 0) rfl dX12_count_75 ?_
  refine lv_istore (lv' := [(7, .int (nI 0)), (6, .int (nI 7)), (3, .int (nI 0)), (5, .int (nI 20)), (4, .ref h3), (2, .int (nI 0)), (0, .ref h0), (1, .int (nI 13))]) hx hb dX12_count_76 hl (by decide) rfl (fun ls hl => ?_)
  refine lv_iload_n hx hb dX12_count_78 rfl (lv_at hl 2 rfl) ?_
  refine lv_iload hx hb dX12_count_79 (lv_at hl 0 rfl) ?_
  refine lv_if_eq (tgt := 88) hx hb dX12_count_81 (by decide) (fun _ => ?_) (fun c9 => absurd (by decide +kernel) c9)
  refine lv_iconst (v := nI 0) hx hb dX12_count_88 (by decide +kernel) ?_
  refine lv_iadd hx hb dX12_count_89 ?_
  refine w_toeq (show (nI 0) + (nI 0) = nI 0 by decide +kernel) ?_
  refine lv_istore_n (lv' := [(3, .int (nI 0)), (7, .int (nI 0)), (6, .int (nI 7)), (5, .int (nI 20)), (4, .ref h3), (2, .int (nI 0)), (0, .ref h0), (1, .int (nI 13))]) hx hb dX12_count_90 rfl hl (by decide) rfl (fun ls hl => ?_)
  refine lv_iinc (v := nI 8) (lv' := [(6, .int (nI 8)), (3, .int (nI 0)), (7, .int (nI 0)), (5, .int (nI 20)), (4, .ref h3), (2, .int (nI 0)), (0, .ref h0), (1, .int (nI 13))]) hx hb dX12_count_91 hl (k := 2) rfl (by decide +kernel) (by decide) rfl (fun ls hl => ?_)
  refine lv_goto (tgt := 64) hx hb dX12_count_94 (by decide) ?_
  refine lv_iload hx hb dX12_count_64 (lv_at hl 0 rfl) ?_
  refine lv_iload hx hb dX12_count_66 (lv_at hl 3 rfl) ?_
  refine lv_icmp_ge (tgt := 97) hx hb dX12_count_68 (by decide) (fun c9 => absurd c9 (by decide +kernel)) (fun _ => ?_)
  refine lv_aload hx hb dX12_count_71 (lv_at hl 4 rfl) ?_
  refine lv_iload hx hb dX12_count_73 (lv_at hl 0 rfl) ?_
  refine r_zald (k := 8) hx hb hK hP 1 1 rfl rfl (Nat.le_of_ble_eq_true rfl) (by decide) (v := nI 0) rfl dX12_count_75 ?_
  refine lv_istore (lv' := [(7, .int (nI 0)), (6, .int (nI 8)), (3, .int (nI 0)), (5, .int (nI 20)), (4, .ref h3), (2, .int (nI 0)), (0, .ref h0), (1, .int (nI 13))]) hx hb dX12_count_76 hl (by decide) rfl (fun ls hl => ?_)
  refine lv_iload_n hx hb dX12_count_78 rfl (lv_at hl 2 rfl) ?_
  refine lv_iload hx hb dX12_count_79 (lv_at hl 0 rfl) ?_
  refine lv_if_eq (tgt := 88) hx hb dX12_count_81 (by decide) (fun _ => ?_) (fun c9 => absurd (by decide +kernel) c9)
  refine lv_iconst (v := nI 0) hx hb dX12_count_88 (by decide +kernel) ?_
  refine lv_iadd hx hb dX12_count_89 ?_
  refine w_toeq (show (nI 0) + (nI 0) = nI 0 by decide +kernel) ?_
  refine lv_istore_n (lv' := [(3, .int (nI 0)), (7, .int (nI 0)), (6, .int (nI 8)), (5, .int (nI 20)), (4, .ref h3), (2, .int (nI 0)), (0, .ref h0), (1, .int (nI 13))]) hx hb dX12_count_90 rfl hl (by decide) rfl (fun ls hl => ?_)
  refine lv_iinc (v := nI 9) (lv' := [(6, .int (nI 9)), (3, .int (nI 0)), (7, .int (nI 0)), (5, .int (nI 20)), (4, .ref h3), (2, .int (nI 0)), (0, .ref h0), (1, .int (nI 13))]) hx hb dX12_count_91 hl (k := 2) rfl (by decide +kernel) (by decide) rfl (fun ls hl => ?_)
  refine lv_goto (tgt := 64) hx hb dX12_count_94 (by decide) ?_
  refine lv_iload hx hb dX12_count_64 (lv_at hl 0 rfl) ?_
  refine lv_iload hx hb dX12_count_66 (lv_at hl 3 rfl) ?_
  refine lv_icmp_ge (tgt := 97) hx hb dX12_count_68 (by decide) (fun c9 => absurd c9 (by decide +kernel)) (fun _ => ?_)
  refine lv_aload hx hb dX12_count_71 (lv_at hl 4 rfl) ?_
  refine lv_iload hx hb dX12_count_73 (lv_at hl 0 rfl) ?_
  refine r_zald (k := 9) hx hb hK hP 1 1 rfl rfl (Nat.le_of_ble_eq_true rfl) (by decide) (v := nI 0) rfl dX12_count_75 ?_
  refine lv_istore (lv' := [(7, .int (nI 0)), (6, .int (nI 9)), (3, .int (nI 0)), (5, .int (nI 20)), (4, .ref h3), (2, .int (nI 0)), (0, .ref h0), (1, .int (nI 13))]) hx hb dX12_count_76 hl (by decide) rfl (fun ls hl => ?_)
  refine lv_iload_n hx hb dX12_count_78 rfl (lv_at hl 2 rfl) ?_
  refine lv_iload hx hb dX12_count_79 (lv_at hl 0 rfl) ?_
  refine lv_if_eq (tgt := 88) hx hb dX12_count_81 (by decide) (fun _ => ?_) (fun c9 => absurd (by decide +kernel) c9)
  refine lv_iconst (v := nI 0) hx hb dX12_count_88 (by decide +kernel) ?_
  refine lv_iadd hx hb dX12_count_89 ?_
  refine w_toeq (show (nI 0) + (nI 0) = nI 0 by decide +kernel) ?_
  refine lv_istore_n (lv' := [(3, .int (nI 0)), (7, .int (nI 0)), (6, .int (nI 9)), (5, .int (nI 20)), (4, .ref h3), (2, .int (nI 0)), (0, .ref h0), (1, .int (nI 13))]) hx hb dX12_count_90 rfl hl (by decide) rfl (fun ls hl => ?_)
  refine lv_iinc (v := nI 10) (lv' := [(6, .int (nI 10)), (3, .int (nI 0)), (7, .int (nI 0)), (5, .int (nI 20)), (4, .ref h3), (2, .int (nI 0)), (0, .ref h0), (1, .int (nI 13))]) hx hb dX12_count_91 hl (k := 2) rfl (by decide +kernel) (by decide) rfl (fun ls hl => ?_)
  refine lv_goto (tgt := 64) hx hb dX12_count_94 (by decide) ?_
  refine lv_iload hx hb dX12_count_64 (lv_at hl 0 rfl) ?_
  refine lv_iload hx hb dX12_count_66 (lv_at hl 3 rfl) ?_
  refine lv_icmp_ge (tgt := 97) hx hb dX12_count_68 (by decide) (fun c9 => absurd c9 (by decide +kernel)) (fun _ => ?_)
  refine lv_aload hx hb dX12_count_71 (lv_at hl 4 rfl) ?_
  refine lv_iload hx hb dX12_count_73 (lv_at hl 0 rfl) ?_
  refine r_zald (k := 10) hx hb hK hP 1 1 rfl rfl (Nat.le_of_ble_eq_true rfl) (by decide) (v := nI 0) rfl dX12_count_75 ?_
  refine lv_istore (lv' := [(7, .int (nI 0)), (6, .int (nI 10)), (3, .int (nI 0)), (5, .int (nI 20)), (4, .ref h3), (2, .int (nI 0)), (0, .ref h0), (1, .int (nI 13))]) hx hb dX12_count_76 hl (by decide) rfl (fun ls hl => ?_)
  refine lv_iload_n hx hb dX12_count_78 rfl (lv_at hl 2 rfl) ?_
  refine lv_iload hx hb dX12_count_79 (lv_at hl 0 rfl) ?_
  refine lv_if_eq (tgt := 88) hx hb dX12_count_81 (by decide) (fun _ => ?_) (fun c9 => absurd (by decide +kernel) c9)
  refine lv_iconst (v := nI 0) hx hb dX12_count_88 (by decide +kernel) ?_
  refine lv_iadd hx hb dX12_count_89 ?_
  refine w_toeq (show (nI 0) + (nI 0) = nI 0 by decide +kernel) ?_
  refine lv_istore_n (lv' := [(3, .int (nI 0)), (7, .int (nI 0)), (6, .int (nI 10)), (5, .int (nI 20)), (4, .ref h3), (2, .int (nI 0)), (0, .ref h0), (1, .int (nI 13))]) hx hb dX12_count_90 rfl hl (by decide) rfl (fun ls hl => ?_)
  refine lv_iinc (v := nI 11) (lv' := [(6, .int (nI 11)), (3, .int (nI 0)), (7, .int (nI 0)), (5, .int (nI 20)), (4, .ref h3), (2, .int (nI 0)), (0, .ref h0), (1, .int (nI 13))]) hx hb dX12_count_91 hl (k := 2) rfl (by decide +kernel) (by decide) rfl (fun ls hl => ?_)
  refine lv_goto (tgt := 64) hx hb dX12_count_94 (by decide) ?_
  refine lv_iload hx hb dX12_count_64 (lv_at hl 0 rfl) ?_
  refine lv_iload hx hb dX12_count_66 (lv_at hl 3 rfl) ?_
  refine lv_icmp_ge (tgt := 97) hx hb dX12_count_68 (by decide) (fun c9 => absurd c9 (by decide +kernel)) (fun _ => ?_)
  refine lv_aload hx hb dX12_count_71 (lv_at hl 4 rfl) ?_
  refine lv_iload hx hb dX12_count_73 (lv_at hl 0 rfl) ?_
  refine r_zald (k := 11) hx hb hK hP 1 1 rfl rfl (Nat.le_of_ble_eq_true rfl) (by decide) (v := nI 0) rfl dX12_count_75 ?_
  refine lv_istore (lv' := [(7, .int (nI 0)), (6, .int (nI 11)), (3, .int (nI 0)), (5, .int (nI 20)), (4, .ref h3), (2, .int (nI 0)), (0, .ref h0), (1, .int (nI 13))]) hx hb dX12_count_76 hl (by decide) rfl (fun ls hl => ?_)
  refine lv_iload_n hx hb dX12_count_78 rfl (lv_at hl 2 rfl) ?_
  refine lv_iload hx hb dX12_count_79 (lv_at hl 0 rfl) ?_
  refine lv_if_eq (tgt := 88) hx hb dX12_count_81 (by decide) (fun _ => ?_) (fun c9 => absurd (by decide +kernel) c9)
  refine lv_iconst (v := nI 0) hx hb dX12_count_88 (by decide +kernel) ?_
  refine lv_iadd hx hb dX12_count_89 ?_
  refine w_toeq (show (nI 0) + (nI 0) = nI 0 by decide +kernel) ?_
  refine lv_istore_n (lv' := [(3, .int (nI 0)), (7, .int (nI 0)), (6, .int (nI 11)), (5, .int (nI 20)), (4, .ref h3), (2, .int (nI 0)), (0, .ref h0), (1, .int (nI 13))]) hx hb dX12_count_90 rfl hl (by decide) rfl (fun ls hl => ?_)
  refine lv_iinc (v := nI 12) (lv' := [(6, .int (nI 12)), (3, .int (nI 0)), (7, .int (nI 0)), (5, .int (nI 20)), (4, .ref h3), (2, .int (nI 0)), (0, .ref h0), (1, .int (nI 13))]) hx hb dX12_count_91 hl (k := 2) rfl (by decide +kernel) (by decide) rfl (fun ls hl => ?_)
  refine lv_goto (tgt := 64) hx hb dX12_count_94 (by decide) ?_
  refine lv_iload hx hb dX12_count_64 (lv_at hl 0 rfl) ?_
  refine lv_iload hx hb dX12_count_66 (lv_at hl 3 rfl) ?_
  refine lv_icmp_ge (tgt := 97) hx hb dX12_count_68 (by decide) (fun c9 => absurd c9 (by decide +kernel)) (fun _ => ?_)
  refine lv_aload hx hb dX12_count_71 (lv_at hl 4 rfl) ?_
  refine lv_iload hx hb dX12_count_73 (lv_at hl 0 rfl) ?_
  refine r_zald (k := 12) hx hb hK hP 1 1 rfl rfl (Nat.le_of_ble_eq_true rfl) (by decide) (v := nI 0) rfl dX12_count_75 ?_
  refine lv_istore (lv' := [(7, .int (nI 0)), (6, .int (nI 12)), (3, .int (nI 0)), (5, .int (nI 20)), (4, .ref h3), (2, .int (nI 0)), (0, .ref h0), (1, .int (nI 13))]) hx hb dX12_count_76 hl (by decide) rfl (fun ls hl => ?_)
  refine lv_iload_n hx hb dX12_count_78 rfl (lv_at hl 2 rfl) ?_
  refine lv_iload hx hb dX12_count_79 (lv_at hl 0 rfl) ?_
  refine lv_if_eq (tgt := 88) hx hb dX12_count_81 (by decide) (fun _ => ?_) (fun c9 => absurd (by decide +kernel) c9)
  refine lv_iconst (v := nI 0) hx hb dX12_count_88 (by decide +kernel) ?_
  refine lv_iadd hx hb dX12_count_89 ?_
  refine w_toeq (show (nI 0) + (nI 0) = nI 0 by decide +kernel) ?_
  refine lv_istore_n (lv' := [(3, .int (nI 0)), (7, .int (nI 0)), (6, .int (nI 12)), (5, .int (nI 20)), (4, .ref h3), (2, .int (nI 0)), (0, .ref h0), (1, .int (nI 13))]) hx hb dX12_count_90 rfl hl (by decide) rfl (fun ls hl => ?_)
  refine lv_iinc (v := nI 13) (lv' := [(6, .int (nI 13)), (3, .int (nI 0)), (7, .int (nI 0)), (5, .int (nI 20)), (4, .ref h3), (2, .int (nI 0)), (0, .ref h0), (1, .int (nI 13))]) hx hb dX12_count_91 hl (k := 2) rfl (by decide +kernel) (by decide) rfl (fun ls hl => ?_)
  refine lv_goto (tgt := 64) hx hb dX12_count_94 (by decide) ?_
  refine lv_iload hx hb dX12_count_64 (lv_at hl 0 rfl) ?_
  refine lv_iload hx hb dX12_count_66 (lv_at hl 3 rfl) ?_
  refine lv_icmp_ge (tgt := 97) hx hb dX12_count_68 (by decide) (fun c9 => absurd c9 (by decide +kernel)) (fun _ => ?_)
  refine lv_aload hx hb dX12_count_71 (lv_at hl 4 rfl) ?_
  refine lv_iload hx hb dX12_count_73 (lv_at hl 0 rfl) ?_
  refine r_zald (k := 13) hx hb hK hP 1 1 rfl rfl (Nat.le_of_ble_eq_true rfl) (by decide) (v := nI 0) rfl dX12_count_75 ?_
  refine lv_istore (lv' := [(7, .int (nI 0)), (6, .int (nI 13)), (3, .int (nI 0)), (5, .int (nI 20)), (4, .ref h3), (2, .int (nI 0)), (0, .ref h0), (1, .int (nI 13))]) hx hb dX12_count_76 hl (by decide) rfl (fun ls hl => ?_)
  refine lv_iload_n hx hb dX12_count_78 rfl (lv_at hl 2 rfl) ?_
  refine lv_iload hx hb dX12_count_79 (lv_at hl 0 rfl) ?_
  refine lv_if_eq (tgt := 88) hx hb dX12_count_81 (by decide) (fun _ => ?_) (fun c9 => absurd (by decide +kernel) c9)
  refine lv_iconst (v := nI 0) hx hb dX12_count_88 (by decide +kernel) ?_
  refine lv_iadd hx hb dX12_count_89 ?_
  refine w_toeq (show (nI 0) + (nI 0) = nI 0 by decide +kernel) ?_
  refine lv_istore_n (lv' := [(3, .int (nI 0)), (7, .int (nI 0)), (6, .int (nI 13)), (5, .int (nI 20)), (4, .ref h3), (2, .int (nI 0)), (0, .ref h0), (1, .int (nI 13))]) hx hb dX12_count_90 rfl hl (by decide) rfl (fun ls hl => ?_)
  refine lv_iinc (v := nI 14) (lv' := [(6, .int (nI 14)), (3, .int (nI 0)), (7, .int (nI 0)), (5, .int (nI 20)), (4, .ref h3), (2, .int (nI 0)), (0, .ref h0), (1, .int (nI 13))]) hx hb dX12_count_91 hl (k := 2) rfl (by decide +kernel) (by decide) rfl (fun ls hl => ?_)
  refine lv_goto (tgt := 64) hx hb dX12_count_94 (by decide) ?_
  refine lv_iload hx hb dX12_count_64 (lv_at hl 0 rfl) ?_
  refine lv_iload hx hb dX12_count_66 (lv_at hl 3 rfl) ?_
  refine lv_icmp_ge (tgt := 97) hx hb dX12_count_68 (by decide) (fun c9 => absurd c9 (by decide +kernel)) (fun _ => ?_)
  refine lv_aload hx hb dX12_count_71 (lv_at hl 4 rfl) ?_
  refine lv_iload hx hb dX12_count_73 (lv_at hl 0 rfl) ?_
  refine r_zald (k := 14) hx hb hK hP 1 1 rfl rfl (Nat.le_of_ble_eq_true rfl) (by decide) (v := nI 0) rfl dX12_count_75 ?_
  refine lv_istore (lv' := [(7, .int (nI 0)), (6, .int (nI 14)), (3, .int (nI 0)), (5, .int (nI 20)), (4, .ref h3), (2, .int (nI 0)), (0, .ref h0), (1, .int (nI 13))]) hx hb dX12_count_76 hl (by decide) rfl (fun ls hl => ?_)
  refine lv_iload_n hx hb dX12_count_78 rfl (lv_at hl 2 rfl) ?_
  refine lv_iload hx hb dX12_count_79 (lv_at hl 0 rfl) ?_
  refine lv_if_eq (tgt := 88) hx hb dX12_count_81 (by decide) (fun _ => ?_) (fun c9 => absurd (by decide +kernel) c9)
  refine lv_iconst (v := nI 0) hx hb dX12_count_88 (by decide +kernel) ?_
  refine lv_iadd hx hb dX12_count_89 ?_
  refine w_toeq (show (nI 0) + (nI 0) = nI 0 by decide +kernel) ?_
  refine lv_istore_n (lv' := [(3, .int (nI 0)), (7, .int (nI 0)), (6, .int (nI 14)), (5, .int (nI 20)), (4, .ref h3), (2, .int (nI 0)), (0, .ref h0), (1, .int (nI 13))]) hx hb dX12_count_90 rfl hl (by decide) rfl (fun ls hl => ?_)
  refine lv_iinc (v := nI 15) (lv' := [(6, .int (nI 15)), (3, .int (nI 0)), (7, .int (nI 0)), (5, .int (nI 20)), (4, .ref h3), (2, .int (nI 0)), (0, .ref h0), (1, .int (nI 13))]) hx hb dX12_count_91 hl (k := 2) rfl (by decide +kernel) (by decide) rfl (fun ls hl => ?_)
  refine lv_goto (tgt := 64) hx hb dX12_count_94 (by decide) ?_
  refine lv_iload hx hb dX12_count_64 (lv_at hl 0 rfl) ?_
  refine lv_iload hx hb dX12_count_66 (lv_at hl 3 rfl) ?_
  refine lv_icmp_ge (tgt := 97) hx hb dX12_count_68 (by decide) (fun c9 => absurd c9 (by decide +kernel)) (fun _ => ?_)
  refine lv_aload hx hb dX12_count_71 (lv_at hl 4 rfl) ?_
  refine lv_iload hx hb dX12_count_73 (lv_at hl 0 rfl) ?_
  refine r_zald (k := 15) hx hb hK hP 1 1 rfl rfl (Nat.le_of_ble_eq_true rfl) (by decide) (v := nI 0) rfl dX12_count_75 ?_
  refine lv_istore (lv' := [(7, .int (nI 0)), (6, .int (nI 15)), (3, .int (nI 0)), (5, .int (nI 20)), (4, .ref h3), (2, .int (nI 0)), (0, .ref h0), (1, .int (nI 13))]) hx hb dX12_count_76 hl (by decide) rfl (fun ls hl => ?_)
  refine lv_iload_n hx hb dX12_count_78 rfl (lv_at hl 2 rfl) ?_
  refine lv_iload hx hb dX12_count_79 (lv_at hl 0 rfl) ?_
  refine lv_if_eq (tgt := 88) hx hb dX12_count_81 (by decide) (fun _ => ?_) (fun c9 => absurd (by decide +kernel) c9)
  refine lv_iconst (v := nI 0) hx hb dX12_count_88 (by decide +kernel) ?_
  refine lv_iadd hx hb dX12_count_89 ?_
  refine w_toeq (show (nI 0) + (nI 0) = nI 0 by decide +kernel) ?_
  refine lv_istore_n (lv' := [(3, .int (nI 0)), (7, .int (nI 0)), (6, .int (nI 15)), (5, .int (nI 20)), (4, .ref h3), (2, .int (nI 0)), (0, .ref h0), (1, .int (nI 13))]) hx hb dX12_count_90 rfl hl (by decide) rfl (fun ls hl => ?_)
  refine lv_iinc (v := nI 16) (lv' := [(6, .int (nI 16)), (3, .int (nI 0)), (7, .int (nI 0)), (5, .int (nI 20)), (4, .ref h3), (2, .int (nI 0)), (0, .ref h0), (1, .int (nI 13))]) hx hb dX12_count_91 hl (k := 2) rfl (by decide +kernel) (by decide) rfl (fun ls hl => ?_)
  refine lv_goto (tgt := 64) hx hb dX12_count_94 (by decide) ?_
  refine lv_iload hx hb dX12_count_64 (lv_at hl 0 rfl) ?_
  refine lv_iload hx hb dX12_count_66 (lv_at hl 3 rfl) ?_
  refine lv_icmp_ge (tgt := 97) hx hb dX12_count_68 (by decide) (fun c9 => absurd c9 (by decide +kernel)) (fun _ => ?_)
  refine lv_aload hx hb dX12_count_71 (lv_at hl 4 rfl) ?_
  refine lv_iload hx hb dX12_count_73 (lv_at hl 0 rfl) ?_
  refine r_zald (k := 16) hx hb hK hP 1 1 rfl rfl (Nat.le_of_ble_eq_true rfl) (by decide) (v := nI 0) rfl dX12_count_75 ?_
  refine lv_istore (lv' := [(7, .int (nI 0)), (6, .int (nI 16)), (3, .int (nI 0)), (5, .int (nI 20)), (4, .ref h3), (2, .int (nI 0)), (0, .ref h0), (1, .int (nI 13))]) hx hb dX12_count_76 hl (by decide) rfl (fun ls hl => ?_)
  refine lv_iload_n hx hb dX12_count_78 rfl (lv_at hl 2 rfl) ?_
  refine lv_iload hx hb dX12_count_79 (lv_at hl 0 rfl) ?_
  refine lv_if_eq (tgt := 88) hx hb dX12_count_81 (by decide) (fun _ => ?_) (fun c9 => absurd (by decide +kernel) c9)
  refine lv_iconst (v := nI 0) hx hb dX12_count_88 (by decide +kernel) ?_
  refine lv_iadd hx hb dX12_count_89 ?_
  refine w_toeq (show (nI 0) + (nI 0) = nI 0 by decide +kernel) ?_
  refine lv_istore_n (lv' := [(3, .int (nI 0)), (7, .int (nI 0)), (6, .int (nI 16)), (5, .int (nI 20)), (4, .ref h3), (2, .int (nI 0)), (0, .ref h0), (1, .int (nI 13))]) hx hb dX12_count_90 rfl hl (by decide) rfl (fun ls hl => ?_)
  refine lv_iinc (v := nI 17) (lv' := [(6, .int (nI 17)), (3, .int (nI 0)), (7, .int (nI 0)), (5, .int (nI 20)), (4, .ref h3), (2, .int (nI 0)), (0, .ref h0), (1, .int (nI 13))]) hx hb dX12_count_91 hl (k := 2) rfl (by decide +kernel) (by decide) rfl (fun ls hl => ?_)
  refine lv_goto (tgt := 64) hx hb dX12_count_94 (by decide) ?_
  refine lv_iload hx hb dX12_count_64 (lv_at hl 0 rfl) ?_
  refine lv_iload hx hb dX12_count_66 (lv_at hl 3 rfl) ?_
  refine lv_icmp_ge (tgt := 97) hx hb dX12_count_68 (by decide) (fun c9 => absurd c9 (by decide +kernel)) (fun _ => ?_)
  refine lv_aload hx hb dX12_count_71 (lv_at hl 4 rfl) ?_
  refine lv_iload hx hb dX12_count_73 (lv_at hl 0 rfl) ?_
  refine r_zald (k := 17) hx hb hK hP 1 1 rfl rfl (Nat.le_of_ble_eq_true rfl) (by decide) (v := nI 0) rfl dX12_count_75 ?_
  refine lv_istore (lv' := [(7, .int (nI 0)), (6, .int (nI 17)), (3, .int (nI 0)), (5, .int (nI 20)), (4, .ref h3), (2, .int (nI 0)), (0, .ref h0), (1, .int (nI 13))]) hx hb dX12_count_76 hl (by decide) rfl (fun ls hl => ?_)
  refine lv_iload_n hx hb dX12_count_78 rfl (lv_at hl 2 rfl) ?_
  refine lv_iload hx hb dX12_count_79 (lv_at hl 0 rfl) ?_
  refine lv_if_eq (tgt := 88) hx hb dX12_count_81 (by decide) (fun _ => ?_) (fun c9 => absurd (by decide +kernel) c9)
  refine lv_iconst (v := nI 0) hx hb dX12_count_88 (by decide +kernel) ?_
  refine lv_iadd hx hb dX12_count_89 ?_
  refine w_toeq (show (nI 0) + (nI 0) = nI 0 by decide +kernel) ?_
  refine lv_istore_n (lv' := [(3, .int (nI 0)), (7, .int (nI 0)), (6, .int (nI 17)), (5, .int (nI 20)), (4, .ref h3), (2, .int (nI 0)), (0, .ref h0), (1, .int (nI 13))]) hx hb dX12_count_90 rfl hl (by decide) rfl (fun ls hl => ?_)
  refine lv_iinc (v := nI 18) (lv' := [(6, .int (nI 18)), (3, .int (nI 0)), (7, .int (nI 0)), (5, .int (nI 20)), (4, .ref h3), (2, .int (nI 0)), (0, .ref h0), (1, .int (nI 13))]) hx hb dX12_count_91 hl (k := 2) rfl (by decide +kernel) (by decide) rfl (fun ls hl => ?_)
  refine lv_goto (tgt := 64) hx hb dX12_count_94 (by decide) ?_
  refine lv_iload hx hb dX12_count_64 (lv_at hl 0 rfl) ?_
  refine lv_iload hx hb dX12_count_66 (lv_at hl 3 rfl) ?_
  refine lv_icmp_ge (tgt := 97) hx hb dX12_count_68 (by decide) (fun c9 => absurd c9 (by decide +kernel)) (fun _ => ?_)
  refine lv_aload hx hb dX12_count_71 (lv_at hl 4 rfl) ?_
  refine lv_iload hx hb dX12_count_73 (lv_at hl 0 rfl) ?_
  refine r_zald (k := 18) hx hb hK hP 1 1 rfl rfl (Nat.le_of_ble_eq_true rfl) (by decide) (v := nI 0) rfl dX12_count_75 ?_
  refine lv_istore (lv' := [(7, .int (nI 0)), (6, .int (nI 18)), (3, .int (nI 0)), (5, .int (nI 20)), (4, .ref h3), (2, .int (nI 0)), (0, .ref h0), (1, .int (nI 13))]) hx hb dX12_count_76 hl (by decide) rfl (fun ls hl => ?_)
  refine lv_iload_n hx hb dX12_count_78 rfl (lv_at hl 2 rfl) ?_
  refine lv_iload hx hb dX12_count_79 (lv_at hl 0 rfl) ?_
  refine lv_if_eq (tgt := 88) hx hb dX12_count_81 (by decide) (fun _ => ?_) (fun c9 => absurd (by decide +kernel) c9)
  refine lv_iconst (v := nI 0) hx hb dX12_count_88 (by decide +kernel) ?_
  refine lv_iadd hx hb dX12_count_89 ?_
  refine w_toeq (show (nI 0) + (nI 0) = nI 0 by decide +kernel) ?_
  refine lv_istore_n (lv' := [(3, .int (nI 0)), (7, .int (nI 0)), (6, .int (nI 18)), (5, .int (nI 20)), (4, .ref h3), (2, .int (nI 0)), (0, .ref h0), (1, .int (nI 13))]) hx hb dX12_count_90 rfl hl (by decide) rfl (fun ls hl => ?_)
  refine lv_iinc (v := nI 19) (lv' := [(6, .int (nI 19)), (3, .int (nI 0)), (7, .int (nI 0)), (5, .int (nI 20)), (4, .ref h3), (2, .int (nI 0)), (0, .ref h0), (1, .int (nI 13))]) hx hb dX12_count_91 hl (k := 2) rfl (by decide +kernel) (by decide) rfl (fun ls hl => ?_)
  refine lv_goto (tgt := 64) hx hb dX12_count_94 (by decide) ?_
  refine lv_iload hx hb dX12_count_64 (lv_at hl 0 rfl) ?_
  refine lv_iload hx hb dX12_count_66 (lv_at hl 3 rfl) ?_
  refine lv_icmp_ge (tgt := 97) hx hb dX12_count_68 (by decide) (fun c9 => absurd c9 (by decide +kernel)) (fun _ => ?_)
  refine lv_aload hx hb dX12_count_71 (lv_at hl 4 rfl) ?_
  refine lv_iload hx hb dX12_count_73 (lv_at hl 0 rfl) ?_
  refine r_zald (k := 19) hx hb hK hP 1 1 rfl rfl (Nat.le_of_ble_eq_true rfl) (by decide) (v := nI 0) rfl dX12_count_75 ?_
  refine lv_istore (lv' := [(7, .int (nI 0)), (6, .int (nI 19)), (3, .int (nI 0)), (5, .int (nI 20)), (4, .ref h3), (2, .int (nI 0)), (0, .ref h0), (1, .int (nI 13))]) hx hb dX12_count_76 hl (by decide) rfl (fun ls hl => ?_)
  refine lv_iload_n hx hb dX12_count_78 rfl (lv_at hl 2 rfl) ?_
  refine lv_iload hx hb dX12_count_79 (lv_at hl 0 rfl) ?_
  refine lv_if_eq (tgt := 88) hx hb dX12_count_81 (by decide) (fun _ => ?_) (fun c9 => absurd (by decide +kernel) c9)
  refine lv_iconst (v := nI 0) hx hb dX12_count_88 (by decide +kernel) ?_
  refine lv_iadd hx hb dX12_count_89 ?_
  refine w_toeq (show (nI 0) + (nI 0) = nI 0 by decide +kernel) ?_
  refine lv_istore_n (lv' := [(3, .int (nI 0)), (7, .int (nI 0)), (6, .int (nI 19)), (5, .int (nI 20)), (4, .ref h3), (2, .int (nI 0)), (0, .ref h0), (1, .int (nI 13))]) hx hb dX12_count_90 rfl hl (by decide) rfl (fun ls hl => ?_)
  refine lv_iinc (v := nI 20) (lv' := [(6, .int (nI 20)), (3, .int (nI 0)), (7, .int (nI 0)), (5, .int (nI 20)), (4, .ref h3), (2, .int (nI 0)), (0, .ref h0), (1, .int (nI 13))]) hx hb dX12_count_91 hl (k := 2) rfl (by decide +kernel) (by decide) rfl (fun ls hl => ?_)
  refine lv_goto (tgt := 64) hx hb dX12_count_94 (by decide) ?_
  refine lv_iload hx hb dX12_count_64 (lv_at hl 0 rfl) ?_
  refine lv_iload hx hb dX12_count_66 (lv_at hl 3 rfl) ?_
  refine lv_icmp_ge (tgt := 97) hx hb dX12_count_68 (by decide) (fun _ => ?_) (fun c9 => absurd (by decide +kernel) c9)
  refine lv_bipush (v := nI 16) hx hb dX12_count_97 (by decide +kernel) ?_
  refine r_newa (atype := .int) hx hb hts w_1292 rfl hK hP hD hS hA 2 rfl (N := 16) (a0 := (16, .inl (fun _ => nI 0))) (fun _ => rfl) (by decide +kernel) (by decide +kernel) (by decide) (Nat.le_of_ble_eq_true rfl) (Nat.le_of_ble_eq_true rfl) dX12_count_99 (w2 := fun q0 => [(h0, .inr (12, [v0, .ref h1])), (h3, .inl (K 1, 20, .inl (fun _ => nI 0))), (h4, .inr (13, [v7, v8, .int (nI 1)])), (h5, .inr (13, [v9, v10, .int (nI 0)])), (h1, .inr (10, [.ref h2, .ref h4, v1, .ref h5, .ref h3, .int (nI 0), .int (nI 0), .int (nI 60), .int (nI 0), v2, v3, .int (nI 0), .int (nI 0), .int (nI 0), .int (nI 0), v4, v5])), ((u0 1), .inr (14, [.int (nI 0), .int (-1), .int (nI 0), .ref h2])), (h2, .inr (13, [.int (nI 0), v6, .int (nI 0)])), ((u1 0), .inr (14, [.int (nI 0), .int (-1), .int (nI 0), .ref (u0 0)])), ((u0 0), .inr (13, [.int (nI 0), .ref (G 0), .int (nI 0)])), (q0, .inl (K 2, 16, .inl (fun _ => nI 0)))]) (fun _ => rfl) (fun q0 H hP hD hS => ?_)
  refine lv_dup hx hb dX12_count_101 rfl ?_
  refine lv_iconst (v := nI 0) hx hb dX12_count_102 (by decide +kernel) ?_
  refine lv_aload_n hx hb dX12_count_103 rfl (lv_at hl 6 rfl) ?_
  refine r_get hx hb hts ok_RX12 hown hK hP 0 rfl rfl 1 (by decide) w_1294 (fun _ h9 => h9) rfl dX12_count_104 ?_
  refine r_get hx hb hts ok_RX10 hown hK hP 4 rfl rfl 0 (by decide) w_1225 (fun _ h9 => h9) rfl dX12_count_107 ?_
  refine k_i (wr := [(h0, .inr (12, [v0, .ref h1])), (h3, .inl (K 1, 20, .inl (fun _ => nI 0))), (h4, .inr (13, [v7, v8, .int (nI 1)])), (h5, .inr (13, [v9, v10, .int (nI 0)])), (h1, .inr (10, [.ref h2, .ref h4, v1, .ref h5, .ref h3, .int (nI 0), .int (nI 0), .int (nI 60), .int (nI 0), v2, v3, .int (nI 0), .int (nI 0), .int (nI 0), .int (nI 0), v4, v5])), ((u0 1), .inr (14, [.int (nI 0), .int (-1), .int (nI 0), .ref h2])), ((u1 0), .inr (14, [.int (nI 0), .int (-1), .int (nI 0), .ref (u0 0)])), ((u0 0), .inr (13, [.int (nI 0), .ref (G 0), .int (nI 0)])), (q0, .inl (K 2, 16, .inl (fun _ => nI 0)))]) (run_V (rest := [.int (nI 0), .ref q0, .ref q0]) hx hb hml hown hts hK hP hD hS hA hm (C102_size l G D K H.size h2 (.int (nI 0)) (v6)) [6] rfl rfl mok_yJx4a65c_size_8abf5 w_1308 w_1309 w_1310 (rcv hK hP 6 rfl rfl rfl) ⟨Nat.le_of_ble_eq_true rfl, Nat.le_of_ble_eq_true rfl⟩ rfl hl.1 rfl (Nat.le_of_ble_eq_true rfl) dX12_count_110 ⟨(Nat.le_of_ble_eq_true rfl), (Nat.le_of_ble_eq_true rfl)⟩) hP hD hS hA [6] [0, 1, 2, 3, 4, 5, 7, 8, 9] rfl rfl rfl (by decide) (w2 := fun u3 => [(h0, .inr (12, [v0, .ref h1])), (h3, .inl (K 1, 20, .inl (fun _ => nI 0))), (h4, .inr (13, [v7, v8, .int (nI 1)])), (h5, .inr (13, [v9, v10, .int (nI 0)])), (h1, .inr (10, [.ref h2, .ref h4, v1, .ref h5, .ref h3, .int (nI 0), .int (nI 0), .int (nI 60), .int (nI 0), v2, v3, .int (nI 0), .int (nI 0), .int (nI 0), .int (nI 0), v4, v5])), ((u0 1), .inr (14, [.int (nI 0), .int (-1), .int (nI 0), .ref h2])), ((u1 0), .inr (14, [.int (nI 0), .int (-1), .int (nI 0), .ref (u0 0)])), ((u0 0), .inr (13, [.int (nI 0), .ref (G 0), .int (nI 0)])), (q0, .inl (K 2, 16, .inl (fun _ => nI 0))), (h2, .inr (13, [.int (nI 0), v6, .int (nI 0)]))]) (fun _ => rfl) (fun u3 H locs hP hD hS => ?_)
  refine r_iast (k := 0) hx hb hK hP hD hS 8 2 rfl rfl (Nat.le_of_ble_eq_true rfl) (by decide) dX12_count_113 (ws' := [(h0, .inr (12, [v0, .ref h1])), (h3, .inl (K 1, 20, .inl (fun _ => nI 0))), (h4, .inr (13, [v7, v8, .int (nI 1)])), (h5, .inr (13, [v9, v10, .int (nI 0)])), (h1, .inr (10, [.ref h2, .ref h4, v1, .ref h5, .ref h3, .int (nI 0), .int (nI 0), .int (nI 60), .int (nI 0), v2, v3, .int (nI 0), .int (nI 0), .int (nI 0), .int (nI 0), v4, v5])), ((u0 1), .inr (14, [.int (nI 0), .int (-1), .int (nI 0), .ref h2])), ((u1 0), .inr (14, [.int (nI 0), .int (-1), .int (nI 0), .ref (u0 0)])), ((u0 0), .inr (13, [.int (nI 0), .ref (G 0), .int (nI 0)])), (q0, .inl (K 2, 16, .inl (fun _ => nI 0))), (h2, .inr (13, [.int (nI 0), v6, .int (nI 0)]))]) (by rw [upd_c]; rfl) (fun H locs hP hD hS => ?_)
  refine lv_dup hx hb dX12_count_114 rfl ?_
  refine lv_iconst (v := nI 1) hx hb dX12_count_115 (by decide +kernel) ?_
  refine lv_aload_n hx hb dX12_count_116 rfl (lv_at hl 6 rfl) ?_
  refine r_get hx hb hts ok_RX12 hown hK hP 0 rfl rfl 1 (by decide) w_1294 (fun _ h9 => h9) rfl dX12_count_117 ?_
  refine k_i (wr := [(h0, .inr (12, [v0, .ref h1])), (h3, .inl (K 1, 20, .inl (fun _ => nI 0))), (h4, .inr (13, [v7, v8, .int (nI 1)])), (h5, .inr (13, [v9, v10, .int (nI 0)])), ((u0 1), .inr (14, [.int (nI 0), .int (-1), .int (nI 0), .ref h2])), ((u1 0), .inr (14, [.int (nI 0), .int (-1), .int (nI 0), .ref (u0 0)])), ((u0 0), .inr (13, [.int (nI 0), .ref (G 0), .int (nI 0)])), (q0, .inl (K 2, 16, .inl (fun _ => nI 0)))]) (run_VN (rest := [.int (nI 1), .ref q0, .ref q0]) hx hb hml hown hts hK hP hD hS hA hm (C723_there l G D K H.size h1 h2 (.ref h4) (v1) (.ref h5) (.ref h3) (.int (nI 0)) (.int (nI 0)) (.int (nI 60)) (.int (nI 0)) (v2) (v3) (.int (nI 0)) (.int (nI 0)) (.int (nI 0)) (.int (nI 0)) (v4) (v5) (v6)) [4, 9] rfl rfl mok_yX10_there w_2040 w_1758 w_p38 (rcv hK hP 4 rfl rfl rfl) ⟨Nat.le_of_ble_eq_true rfl, Nat.le_of_ble_eq_true rfl⟩ rfl hl.1 rfl (Nat.le_of_ble_eq_true rfl) dX12_count_120 ⟨(Nat.le_of_ble_eq_true rfl), (Nat.le_of_ble_eq_true rfl)⟩) hP hD hS hA [4, 9] [0, 1, 2, 3, 5, 6, 7, 8] rfl rfl rfl (by decide) (w2 := fun u4 => [(h0, .inr (12, [v0, .ref h1])), (h3, .inl (K 1, 20, .inl (fun _ => nI 0))), (h4, .inr (13, [v7, v8, .int (nI 1)])), (h5, .inr (13, [v9, v10, .int (nI 0)])), ((u0 1), .inr (14, [.int (nI 0), .int (-1), .int (nI 0), .ref h2])), ((u1 0), .inr (14, [.int (nI 0), .int (-1), .int (nI 0), .ref (u0 0)])), ((u0 0), .inr (13, [.int (nI 0), .ref (G 0), .int (nI 0)])), (q0, .inl (K 2, 16, .inl (fun _ => nI 0))), (h1, .inr (10, [.ref h2, .ref h4, v1, .ref h5, .ref h3, .int (nI 0), .int (nI 0), .int (nI 60), .int (nI 0), v2, v3, .int (nI 0), .int (nI 0), .int (nI 0), .int (nI 0), v4, v5])), ((u4 0), .inr (14, [.int (nI 0), .int (-1), .int (nI 0), .ref h2])), (h2, .inr (13, [.int (nI 0), v6, .int (nI 0)]))]) (fun _ => rfl) (fun u4 H locs hP hD hS => ?_)
  refine r_iast (k := 1) hx hb hK hP hD hS 7 2 rfl rfl (Nat.le_of_ble_eq_true rfl) (by decide) dX12_count_123 (ws' := [(h0, .inr (12, [v0, .ref h1])), (h3, .inl (K 1, 20, .inl (fun _ => nI 0))), (h4, .inr (13, [v7, v8, .int (nI 1)])), (h5, .inr (13, [v9, v10, .int (nI 0)])), ((u0 1), .inr (14, [.int (nI 0), .int (-1), .int (nI 0), .ref h2])), ((u1 0), .inr (14, [.int (nI 0), .int (-1), .int (nI 0), .ref (u0 0)])), ((u0 0), .inr (13, [.int (nI 0), .ref (G 0), .int (nI 0)])), (q0, .inl (K 2, 16, .inl (fun _ => nI 0))), (h1, .inr (10, [.ref h2, .ref h4, v1, .ref h5, .ref h3, .int (nI 0), .int (nI 0), .int (nI 60), .int (nI 0), v2, v3, .int (nI 0), .int (nI 0), .int (nI 0), .int (nI 0), v4, v5])), ((u4 0), .inr (14, [.int (nI 0), .int (-1), .int (nI 0), .ref h2])), (h2, .inr (13, [.int (nI 0), v6, .int (nI 0)]))]) (by rw [upd_c]; rfl) (fun H locs hP hD hS => ?_)
  refine lv_dup hx hb dX12_count_124 rfl ?_
  refine lv_iconst (v := nI 2) hx hb dX12_count_125 (by decide +kernel) ?_
  refine lv_aload_n hx hb dX12_count_126 rfl (lv_at hl 6 rfl) ?_
  refine r_get hx hb hts ok_RX12 hown hK hP 0 rfl rfl 1 (by decide) w_1294 (fun _ h9 => h9) rfl dX12_count_127 ?_
  refine r_get hx hb hts ok_RX10 hown hK hP 8 rfl rfl 1 (by decide) w_1227 (fun _ h9 => h9) rfl dX12_count_130 ?_
  refine k_i (wr := [(h0, .inr (12, [v0, .ref h1])), (h3, .inl (K 1, 20, .inl (fun _ => nI 0))), (h5, .inr (13, [v9, v10, .int (nI 0)])), ((u0 1), .inr (14, [.int (nI 0), .int (-1), .int (nI 0), .ref h2])), ((u1 0), .inr (14, [.int (nI 0), .int (-1), .int (nI 0), .ref (u0 0)])), ((u0 0), .inr (13, [.int (nI 0), .ref (G 0), .int (nI 0)])), (q0, .inl (K 2, 16, .inl (fun _ => nI 0))), (h1, .inr (10, [.ref h2, .ref h4, v1, .ref h5, .ref h3, .int (nI 0), .int (nI 0), .int (nI 60), .int (nI 0), v2, v3, .int (nI 0), .int (nI 0), .int (nI 0), .int (nI 0), v4, v5])), ((u4 0), .inr (14, [.int (nI 0), .int (-1), .int (nI 0), .ref h2])), (h2, .inr (13, [.int (nI 0), v6, .int (nI 0)]))]) (run_V (rest := [.int (nI 2), .ref q0, .ref q0]) hx hb hml hown hts hK hP hD hS hA hm (C23_size l G D K H.size h4 (v7) (v8)) [2] rfl rfl mok_yJx4a65c_size_8abf5 w_1308 w_1309 w_1310 (rcv hK hP 2 rfl rfl rfl) ⟨Nat.le_of_ble_eq_true rfl, Nat.le_of_ble_eq_true rfl⟩ rfl hl.1 rfl (Nat.le_of_ble_eq_true rfl) dX12_count_133 ⟨(Nat.le_of_ble_eq_true rfl), (Nat.le_of_ble_eq_true rfl)⟩) hP hD hS hA [2] [0, 1, 3, 4, 5, 6, 7, 8, 9, 10] rfl rfl rfl (by decide) (w2 := fun u5 => [(h0, .inr (12, [v0, .ref h1])), (h3, .inl (K 1, 20, .inl (fun _ => nI 0))), (h5, .inr (13, [v9, v10, .int (nI 0)])), ((u0 1), .inr (14, [.int (nI 0), .int (-1), .int (nI 0), .ref h2])), ((u1 0), .inr (14, [.int (nI 0), .int (-1), .int (nI 0), .ref (u0 0)])), ((u0 0), .inr (13, [.int (nI 0), .ref (G 0), .int (nI 0)])), (q0, .inl (K 2, 16, .inl (fun _ => nI 0))), (h1, .inr (10, [.ref h2, .ref h4, v1, .ref h5, .ref h3, .int (nI 0), .int (nI 0), .int (nI 60), .int (nI 0), v2, v3, .int (nI 0), .int (nI 0), .int (nI 0), .int (nI 0), v4, v5])), ((u4 0), .inr (14, [.int (nI 0), .int (-1), .int (nI 0), .ref h2])), (h2, .inr (13, [.int (nI 0), v6, .int (nI 0)])), (h4, .inr (13, [v7, v8, .int (nI 1)]))]) (fun _ => rfl) (fun u5 H locs hP hD hS => ?_)
  refine r_iast (k := 2) hx hb hK hP hD hS 6 2 rfl rfl (Nat.le_of_ble_eq_true rfl) (by decide) dX12_count_136 (ws' := [(h0, .inr (12, [v0, .ref h1])), (h3, .inl (K 1, 20, .inl (fun _ => nI 0))), (h5, .inr (13, [v9, v10, .int (nI 0)])), ((u0 1), .inr (14, [.int (nI 0), .int (-1), .int (nI 0), .ref h2])), ((u1 0), .inr (14, [.int (nI 0), .int (-1), .int (nI 0), .ref (u0 0)])), ((u0 0), .inr (13, [.int (nI 0), .ref (G 0), .int (nI 0)])), (q0, .inl (K 2, 16, .inl (upd (fun _ => nI 0) 2 (nI 1)))), (h1, .inr (10, [.ref h2, .ref h4, v1, .ref h5, .ref h3, .int (nI 0), .int (nI 0), .int (nI 60), .int (nI 0), v2, v3, .int (nI 0), .int (nI 0), .int (nI 0), .int (nI 0), v4, v5])), ((u4 0), .inr (14, [.int (nI 0), .int (-1), .int (nI 0), .ref h2])), (h2, .inr (13, [.int (nI 0), v6, .int (nI 0)])), (h4, .inr (13, [v7, v8, .int (nI 1)]))]) rfl (fun H locs hP hD hS => ?_)
  refine lv_dup hx hb dX12_count_137 rfl ?_
  refine lv_iconst (v := nI 3) hx hb dX12_count_138 (by decide +kernel) ?_
  refine lv_aload_n hx hb dX12_count_139 rfl (lv_at hl 6 rfl) ?_
  refine r_get hx hb hts ok_RX12 hown hK hP 0 rfl rfl 1 (by decide) w_1294 (fun _ h9 => h9) rfl dX12_count_140 ?_
  refine r_get hx hb hts ok_RX10 hown hK hP 7 rfl rfl 6 (by decide) w_1237 (fun _ h9 => h9) rfl dX12_count_143 ?_
  refine r_iast (k := 3) hx hb hK hP hD hS 6 2 rfl rfl (Nat.le_of_ble_eq_true rfl) (by decide) dX12_count_146 (ws' := [(h0, .inr (12, [v0, .ref h1])), (h3, .inl (K 1, 20, .inl (fun _ => nI 0))), (h5, .inr (13, [v9, v10, .int (nI 0)])), ((u0 1), .inr (14, [.int (nI 0), .int (-1), .int (nI 0), .ref h2])), ((u1 0), .inr (14, [.int (nI 0), .int (-1), .int (nI 0), .ref (u0 0)])), ((u0 0), .inr (13, [.int (nI 0), .ref (G 0), .int (nI 0)])), (q0, .inl (K 2, 16, .inl (upd (upd (fun _ => nI 0) 2 (nI 1)) 3 (nI 0)))), (h1, .inr (10, [.ref h2, .ref h4, v1, .ref h5, .ref h3, .int (nI 0), .int (nI 0), .int (nI 60), .int (nI 0), v2, v3, .int (nI 0), .int (nI 0), .int (nI 0), .int (nI 0), v4, v5])), ((u4 0), .inr (14, [.int (nI 0), .int (-1), .int (nI 0), .ref h2])), (h2, .inr (13, [.int (nI 0), v6, .int (nI 0)])), (h4, .inr (13, [v7, v8, .int (nI 1)]))]) rfl (fun H locs hP hD hS => ?_)
  refine lv_dup hx hb dX12_count_147 rfl ?_
  refine lv_iconst (v := nI 4) hx hb dX12_count_148 (by decide +kernel) ?_
  refine lv_aload_n hx hb dX12_count_149 rfl (lv_at hl 6 rfl) ?_
  refine r_get hx hb hts ok_RX12 hown hK hP 0 rfl rfl 1 (by decide) w_1294 (fun _ h9 => h9) rfl dX12_count_150 ?_
  refine r_get hx hb hts ok_RX10 hown hK hP 7 rfl rfl 5 (by decide) w_1235 (fun _ h9 => h9) rfl dX12_count_153 ?_
  refine r_iast (k := 4) hx hb hK hP hD hS 6 2 rfl rfl (Nat.le_of_ble_eq_true rfl) (by decide) dX12_count_156 (ws' := [(h0, .inr (12, [v0, .ref h1])), (h3, .inl (K 1, 20, .inl (fun _ => nI 0))), (h5, .inr (13, [v9, v10, .int (nI 0)])), ((u0 1), .inr (14, [.int (nI 0), .int (-1), .int (nI 0), .ref h2])), ((u1 0), .inr (14, [.int (nI 0), .int (-1), .int (nI 0), .ref (u0 0)])), ((u0 0), .inr (13, [.int (nI 0), .ref (G 0), .int (nI 0)])), (q0, .inl (K 2, 16, .inl (upd (upd (upd (fun _ => nI 0) 2 (nI 1)) 3 (nI 0)) 4 (nI 0)))), (h1, .inr (10, [.ref h2, .ref h4, v1, .ref h5, .ref h3, .int (nI 0), .int (nI 0), .int (nI 60), .int (nI 0), v2, v3, .int (nI 0), .int (nI 0), .int (nI 0), .int (nI 0), v4, v5])), ((u4 0), .inr (14, [.int (nI 0), .int (-1), .int (nI 0), .ref h2])), (h2, .inr (13, [.int (nI 0), v6, .int (nI 0)])), (h4, .inr (13, [v7, v8, .int (nI 1)]))]) rfl (fun H locs hP hD hS => ?_)
  refine lv_dup hx hb dX12_count_157 rfl ?_
  refine lv_iconst (v := nI 5) hx hb dX12_count_158 (by decide +kernel) ?_
  refine lv_aload_n hx hb dX12_count_159 rfl (lv_at hl 6 rfl) ?_
  refine r_get hx hb hts ok_RX12 hown hK hP 0 rfl rfl 1 (by decide) w_1294 (fun _ h9 => h9) rfl dX12_count_160 ?_
  refine r_get hx hb hts ok_RX10 hown hK hP 7 rfl rfl 8 (by decide) w_1241 (fun _ h9 => h9) rfl dX12_count_163 ?_
  refine r_iast (k := 5) hx hb hK hP hD hS 6 2 rfl rfl (Nat.le_of_ble_eq_true rfl) (by decide) dX12_count_166 (ws' := [(h0, .inr (12, [v0, .ref h1])), (h3, .inl (K 1, 20, .inl (fun _ => nI 0))), (h5, .inr (13, [v9, v10, .int (nI 0)])), ((u0 1), .inr (14, [.int (nI 0), .int (-1), .int (nI 0), .ref h2])), ((u1 0), .inr (14, [.int (nI 0), .int (-1), .int (nI 0), .ref (u0 0)])), ((u0 0), .inr (13, [.int (nI 0), .ref (G 0), .int (nI 0)])), (q0, .inl (K 2, 16, .inl (upd (upd (upd (upd (fun _ => nI 0) 2 (nI 1)) 3 (nI 0)) 4 (nI 0)) 5 (nI 0)))), (h1, .inr (10, [.ref h2, .ref h4, v1, .ref h5, .ref h3, .int (nI 0), .int (nI 0), .int (nI 60), .int (nI 0), v2, v3, .int (nI 0), .int (nI 0), .int (nI 0), .int (nI 0), v4, v5])), ((u4 0), .inr (14, [.int (nI 0), .int (-1), .int (nI 0), .ref h2])), (h2, .inr (13, [.int (nI 0), v6, .int (nI 0)])), (h4, .inr (13, [v7, v8, .int (nI 1)]))]) rfl (fun H locs hP hD hS => ?_)
  refine lv_dup hx hb dX12_count_167 rfl ?_
  refine lv_bipush (v := nI 6) hx hb dX12_count_168 (by decide +kernel) ?_
  refine lv_aload_n hx hb dX12_count_170 rfl (lv_at hl 6 rfl) ?_
  refine r_get hx hb hts ok_RX12 hown hK hP 0 rfl rfl 1 (by decide) w_1294 (fun _ h9 => h9) rfl dX12_count_171 ?_
  refine r_get hx hb hts ok_RX10 hown hK hP 7 rfl rfl 7 (by decide) w_1239 (fun _ h9 => h9) rfl dX12_count_174 ?_
  refine r_iast (k := 6) hx hb hK hP hD hS 6 2 rfl rfl (Nat.le_of_ble_eq_true rfl) (by decide) dX12_count_177 (ws' := [(h0, .inr (12, [v0, .ref h1])), (h3, .inl (K 1, 20, .inl (fun _ => nI 0))), (h5, .inr (13, [v9, v10, .int (nI 0)])), ((u0 1), .inr (14, [.int (nI 0), .int (-1), .int (nI 0), .ref h2])), ((u1 0), .inr (14, [.int (nI 0), .int (-1), .int (nI 0), .ref (u0 0)])), ((u0 0), .inr (13, [.int (nI 0), .ref (G 0), .int (nI 0)])), (q0, .inl (K 2, 16, .inl (upd (upd (upd (upd (upd (fun _ => nI 0) 2 (nI 1)) 3 (nI 0)) 4 (nI 0)) 5 (nI 0)) 6 (nI 60)))), (h1, .inr (10, [.ref h2, .ref h4, v1, .ref h5, .ref h3, .int (nI 0), .int (nI 0), .int (nI 60), .int (nI 0), v2, v3, .int (nI 0), .int (nI 0), .int (nI 0), .int (nI 0), v4, v5])), ((u4 0), .inr (14, [.int (nI 0), .int (-1), .int (nI 0), .ref h2])), (h2, .inr (13, [.int (nI 0), v6, .int (nI 0)])), (h4, .inr (13, [v7, v8, .int (nI 1)]))]) rfl (fun H locs hP hD hS => ?_)
  refine lv_dup hx hb dX12_count_178 rfl ?_
  refine lv_bipush (v := nI 7) hx hb dX12_count_179 (by decide +kernel) ?_
  refine lv_iload_n hx hb dX12_count_181 rfl (lv_at hl 5 rfl) ?_
  refine r_iast (k := 7) hx hb hK hP hD hS 6 2 rfl rfl (Nat.le_of_ble_eq_true rfl) (by decide) dX12_count_182 (ws' := [(h0, .inr (12, [v0, .ref h1])), (h3, .inl (K 1, 20, .inl (fun _ => nI 0))), (h5, .inr (13, [v9, v10, .int (nI 0)])), ((u0 1), .inr (14, [.int (nI 0), .int (-1), .int (nI 0), .ref h2])), ((u1 0), .inr (14, [.int (nI 0), .int (-1), .int (nI 0), .ref (u0 0)])), ((u0 0), .inr (13, [.int (nI 0), .ref (G 0), .int (nI 0)])), (q0, .inl (K 2, 16, .inl (upd (upd (upd (upd (upd (upd (fun _ => nI 0) 2 (nI 1)) 3 (nI 0)) 4 (nI 0)) 5 (nI 0)) 6 (nI 60)) 7 (nI 0)))), (h1, .inr (10, [.ref h2, .ref h4, v1, .ref h5, .ref h3, .int (nI 0), .int (nI 0), .int (nI 60), .int (nI 0), v2, v3, .int (nI 0), .int (nI 0), .int (nI 0), .int (nI 0), v4, v5])), ((u4 0), .inr (14, [.int (nI 0), .int (-1), .int (nI 0), .ref h2])), (h2, .inr (13, [.int (nI 0), v6, .int (nI 0)])), (h4, .inr (13, [v7, v8, .int (nI 1)]))]) rfl (fun H locs hP hD hS => ?_)
  refine lv_dup hx hb dX12_count_183 rfl ?_
  refine lv_bipush (v := nI 8) hx hb dX12_count_184 (by decide +kernel) ?_
  refine lv_aload_n hx hb dX12_count_186 rfl (lv_at hl 6 rfl) ?_
  refine r_get hx hb hts ok_RX12 hown hK hP 0 rfl rfl 1 (by decide) w_1294 (fun _ h9 => h9) rfl dX12_count_187 ?_
  refine k_i (wr := [(h0, .inr (12, [v0, .ref h1])), (h3, .inl (K 1, 20, .inl (fun _ => nI 0))), (h5, .inr (13, [v9, v10, .int (nI 0)])), ((u0 1), .inr (14, [.int (nI 0), .int (-1), .int (nI 0), .ref h2])), ((u1 0), .inr (14, [.int (nI 0), .int (-1), .int (nI 0), .ref (u0 0)])), ((u0 0), .inr (13, [.int (nI 0), .ref (G 0), .int (nI 0)])), (q0, .inl (K 2, 16, .inl (upd (upd (upd (upd (upd (upd (fun _ => nI 0) 2 (nI 1)) 3 (nI 0)) 4 (nI 0)) 5 (nI 0)) 6 (nI 60)) 7 (nI 0)))), ((u4 0), .inr (14, [.int (nI 0), .int (-1), .int (nI 0), .ref h2])), (h4, .inr (13, [v7, v8, .int (nI 1)]))]) (run_V (rest := [.int (nI 8), .ref q0, .ref q0]) hx hb hml hown hts hK hP hD hS hA hm (C880_gaps l G D K H.size h1 h2 (.ref h4) (v1) (.ref h5) (.ref h3) (.int (nI 0)) (.int (nI 0)) (.int (nI 60)) (.int (nI 0)) (v2) (v3) (.int (nI 0)) (.int (nI 0)) (.int (nI 0)) (.int (nI 0)) (v4) (v5) (v6)) [7, 9] rfl rfl mok_yX10_gaps w_2041 w_2042 w_2043 (rcv hK hP 7 rfl rfl rfl) ⟨Nat.le_of_ble_eq_true rfl, Nat.le_of_ble_eq_true rfl⟩ rfl hl.1 rfl (Nat.le_of_ble_eq_true rfl) dX12_count_190 ⟨(Nat.le_of_ble_eq_true rfl), (Nat.le_of_ble_eq_true rfl)⟩) hP hD hS hA [7, 9] [0, 1, 2, 3, 4, 5, 6, 8, 10] rfl rfl rfl (by decide) (w2 := fun u6 => [(h0, .inr (12, [v0, .ref h1])), (h3, .inl (K 1, 20, .inl (fun _ => nI 0))), (h5, .inr (13, [v9, v10, .int (nI 0)])), ((u0 1), .inr (14, [.int (nI 0), .int (-1), .int (nI 0), .ref h2])), ((u1 0), .inr (14, [.int (nI 0), .int (-1), .int (nI 0), .ref (u0 0)])), ((u0 0), .inr (13, [.int (nI 0), .ref (G 0), .int (nI 0)])), (q0, .inl (K 2, 16, .inl (upd (upd (upd (upd (upd (upd (fun _ => nI 0) 2 (nI 1)) 3 (nI 0)) 4 (nI 0)) 5 (nI 0)) 6 (nI 60)) 7 (nI 0)))), ((u4 0), .inr (14, [.int (nI 0), .int (-1), .int (nI 0), .ref h2])), (h4, .inr (13, [v7, v8, .int (nI 1)])), (h1, .inr (10, [.ref h2, .ref h4, v1, .ref h5, .ref h3, .int (nI 0), .int (nI 0), .int (nI 60), .int (nI 0), v2, v3, .int (nI 0), .int (nI 0), .int (nI 0), .int (nI 0), v4, v5])), ((u6 1), .inr (14, [.int (nI 0), .int (-1), .int (nI 0), .ref h2])), (h2, .inr (13, [.int (nI 0), v6, .int (nI 0)])), ((u6 2), .inr (14, [.int (nI 0), .int (-1), .int (nI 0), .ref (u6 0)])), ((u6 0), .inr (13, [.int (nI 0), .ref (G 0), .int (nI 0)]))]) (fun _ => rfl) (fun u6 H locs hP hD hS => ?_)
  refine r_iast (k := 8) hx hb hK hP hD hS 6 2 rfl rfl (Nat.le_of_ble_eq_true rfl) (by decide) dX12_count_193 (ws' := [(h0, .inr (12, [v0, .ref h1])), (h3, .inl (K 1, 20, .inl (fun _ => nI 0))), (h5, .inr (13, [v9, v10, .int (nI 0)])), ((u0 1), .inr (14, [.int (nI 0), .int (-1), .int (nI 0), .ref h2])), ((u1 0), .inr (14, [.int (nI 0), .int (-1), .int (nI 0), .ref (u0 0)])), ((u0 0), .inr (13, [.int (nI 0), .ref (G 0), .int (nI 0)])), (q0, .inl (K 2, 16, .inl (upd (upd (upd (upd (upd (upd (upd (fun _ => nI 0) 2 (nI 1)) 3 (nI 0)) 4 (nI 0)) 5 (nI 0)) 6 (nI 60)) 7 (nI 0)) 8 (nI 1)))), ((u4 0), .inr (14, [.int (nI 0), .int (-1), .int (nI 0), .ref h2])), (h4, .inr (13, [v7, v8, .int (nI 1)])), (h1, .inr (10, [.ref h2, .ref h4, v1, .ref h5, .ref h3, .int (nI 0), .int (nI 0), .int (nI 60), .int (nI 0), v2, v3, .int (nI 0), .int (nI 0), .int (nI 0), .int (nI 0), v4, v5])), ((u6 1), .inr (14, [.int (nI 0), .int (-1), .int (nI 0), .ref h2])), (h2, .inr (13, [.int (nI 0), v6, .int (nI 0)])), ((u6 2), .inr (14, [.int (nI 0), .int (-1), .int (nI 0), .ref (u6 0)])), ((u6 0), .inr (13, [.int (nI 0), .ref (G 0), .int (nI 0)]))]) rfl (fun H locs hP hD hS => ?_)
  refine lv_dup hx hb dX12_count_194 rfl ?_
  refine lv_bipush (v := nI 9) hx hb dX12_count_195 (by decide +kernel) ?_
  refine lv_iload_n hx hb dX12_count_197 rfl (lv_at hl 1 rfl) ?_
  refine r_iast (k := 9) hx hb hK hP hD hS 6 2 rfl rfl (Nat.le_of_ble_eq_true rfl) (by decide) dX12_count_198 (ws' := [(h0, .inr (12, [v0, .ref h1])), (h3, .inl (K 1, 20, .inl (fun _ => nI 0))), (h5, .inr (13, [v9, v10, .int (nI 0)])), ((u0 1), .inr (14, [.int (nI 0), .int (-1), .int (nI 0), .ref h2])), ((u1 0), .inr (14, [.int (nI 0), .int (-1), .int (nI 0), .ref (u0 0)])), ((u0 0), .inr (13, [.int (nI 0), .ref (G 0), .int (nI 0)])), (q0, .inl (K 2, 16, .inl (upd (upd (upd (upd (upd (upd (upd (upd (fun _ => nI 0) 2 (nI 1)) 3 (nI 0)) 4 (nI 0)) 5 (nI 0)) 6 (nI 60)) 7 (nI 0)) 8 (nI 1)) 9 (nI 0)))), ((u4 0), .inr (14, [.int (nI 0), .int (-1), .int (nI 0), .ref h2])), (h4, .inr (13, [v7, v8, .int (nI 1)])), (h1, .inr (10, [.ref h2, .ref h4, v1, .ref h5, .ref h3, .int (nI 0), .int (nI 0), .int (nI 60), .int (nI 0), v2, v3, .int (nI 0), .int (nI 0), .int (nI 0), .int (nI 0), v4, v5])), ((u6 1), .inr (14, [.int (nI 0), .int (-1), .int (nI 0), .ref h2])), (h2, .inr (13, [.int (nI 0), v6, .int (nI 0)])), ((u6 2), .inr (14, [.int (nI 0), .int (-1), .int (nI 0), .ref (u6 0)])), ((u6 0), .inr (13, [.int (nI 0), .ref (G 0), .int (nI 0)]))]) rfl (fun H locs hP hD hS => ?_)
  refine lv_dup hx hb dX12_count_199 rfl ?_
  refine lv_bipush (v := nI 10) hx hb dX12_count_200 (by decide +kernel) ?_
  refine lv_aload_n hx hb dX12_count_202 rfl (lv_at hl 6 rfl) ?_
  refine r_get hx hb hts ok_RX12 hown hK hP 0 rfl rfl 1 (by decide) w_1294 (fun _ h9 => h9) rfl dX12_count_203 ?_
  refine r_get hx hb hts ok_RX10 hown hK hP 9 rfl rfl 3 (by decide) w_1231 (fun _ h9 => h9) rfl dX12_count_206 ?_
  refine k_i (wr := [(h0, .inr (12, [v0, .ref h1])), (h3, .inl (K 1, 20, .inl (fun _ => nI 0))), ((u0 1), .inr (14, [.int (nI 0), .int (-1), .int (nI 0), .ref h2])), ((u1 0), .inr (14, [.int (nI 0), .int (-1), .int (nI 0), .ref (u0 0)])), ((u0 0), .inr (13, [.int (nI 0), .ref (G 0), .int (nI 0)])), (q0, .inl (K 2, 16, .inl (upd (upd (upd (upd (upd (upd (upd (upd (fun _ => nI 0) 2 (nI 1)) 3 (nI 0)) 4 (nI 0)) 5 (nI 0)) 6 (nI 60)) 7 (nI 0)) 8 (nI 1)) 9 (nI 0)))), ((u4 0), .inr (14, [.int (nI 0), .int (-1), .int (nI 0), .ref h2])), (h4, .inr (13, [v7, v8, .int (nI 1)])), (h1, .inr (10, [.ref h2, .ref h4, v1, .ref h5, .ref h3, .int (nI 0), .int (nI 0), .int (nI 60), .int (nI 0), v2, v3, .int (nI 0), .int (nI 0), .int (nI 0), .int (nI 0), v4, v5])), ((u6 1), .inr (14, [.int (nI 0), .int (-1), .int (nI 0), .ref h2])), (h2, .inr (13, [.int (nI 0), v6, .int (nI 0)])), ((u6 2), .inr (14, [.int (nI 0), .int (-1), .int (nI 0), .ref (u6 0)])), ((u6 0), .inr (13, [.int (nI 0), .ref (G 0), .int (nI 0)]))]) (run_V (rest := [.int (nI 10), .ref q0, .ref q0]) hx hb hml hown hts hK hP hD hS hA hm (C102_size l G D K H.size h5 (v9) (v10)) [2] rfl rfl mok_yJx4a65c_size_8abf5 w_1308 w_1309 w_1310 (rcv hK hP 2 rfl rfl rfl) ⟨Nat.le_of_ble_eq_true rfl, Nat.le_of_ble_eq_true rfl⟩ rfl hl.1 rfl (Nat.le_of_ble_eq_true rfl) dX12_count_209 ⟨(Nat.le_of_ble_eq_true rfl), (Nat.le_of_ble_eq_true rfl)⟩) hP hD hS hA [2] [0, 1, 3, 4, 5, 6, 7, 8, 9, 10, 11, 12, 13] rfl rfl rfl (by decide) (w2 := fun u7 => [(h0, .inr (12, [v0, .ref h1])), (h3, .inl (K 1, 20, .inl (fun _ => nI 0))), ((u0 1), .inr (14, [.int (nI 0), .int (-1), .int (nI 0), .ref h2])), ((u1 0), .inr (14, [.int (nI 0), .int (-1), .int (nI 0), .ref (u0 0)])), ((u0 0), .inr (13, [.int (nI 0), .ref (G 0), .int (nI 0)])), (q0, .inl (K 2, 16, .inl (upd (upd (upd (upd (upd (upd (upd (upd (fun _ => nI 0) 2 (nI 1)) 3 (nI 0)) 4 (nI 0)) 5 (nI 0)) 6 (nI 60)) 7 (nI 0)) 8 (nI 1)) 9 (nI 0)))), ((u4 0), .inr (14, [.int (nI 0), .int (-1), .int (nI 0), .ref h2])), (h4, .inr (13, [v7, v8, .int (nI 1)])), (h1, .inr (10, [.ref h2, .ref h4, v1, .ref h5, .ref h3, .int (nI 0), .int (nI 0), .int (nI 60), .int (nI 0), v2, v3, .int (nI 0), .int (nI 0), .int (nI 0), .int (nI 0), v4, v5])), ((u6 1), .inr (14, [.int (nI 0), .int (-1), .int (nI 0), .ref h2])), (h2, .inr (13, [.int (nI 0), v6, .int (nI 0)])), ((u6 2), .inr (14, [.int (nI 0), .int (-1), .int (nI 0), .ref (u6 0)])), ((u6 0), .inr (13, [.int (nI 0), .ref (G 0), .int (nI 0)])), (h5, .inr (13, [v9, v10, .int (nI 0)]))]) (fun _ => rfl) (fun u7 H locs hP hD hS => ?_)
  refine r_iast (k := 10) hx hb hK hP hD hS 5 2 rfl rfl (Nat.le_of_ble_eq_true rfl) (by decide) dX12_count_212 (ws' := [(h0, .inr (12, [v0, .ref h1])), (h3, .inl (K 1, 20, .inl (fun _ => nI 0))), ((u0 1), .inr (14, [.int (nI 0), .int (-1), .int (nI 0), .ref h2])), ((u1 0), .inr (14, [.int (nI 0), .int (-1), .int (nI 0), .ref (u0 0)])), ((u0 0), .inr (13, [.int (nI 0), .ref (G 0), .int (nI 0)])), (q0, .inl (K 2, 16, .inl (upd (upd (upd (upd (upd (upd (upd (upd (upd (fun _ => nI 0) 2 (nI 1)) 3 (nI 0)) 4 (nI 0)) 5 (nI 0)) 6 (nI 60)) 7 (nI 0)) 8 (nI 1)) 9 (nI 0)) 10 (nI 0)))), ((u4 0), .inr (14, [.int (nI 0), .int (-1), .int (nI 0), .ref h2])), (h4, .inr (13, [v7, v8, .int (nI 1)])), (h1, .inr (10, [.ref h2, .ref h4, v1, .ref h5, .ref h3, .int (nI 0), .int (nI 0), .int (nI 60), .int (nI 0), v2, v3, .int (nI 0), .int (nI 0), .int (nI 0), .int (nI 0), v4, v5])), ((u6 1), .inr (14, [.int (nI 0), .int (-1), .int (nI 0), .ref h2])), (h2, .inr (13, [.int (nI 0), v6, .int (nI 0)])), ((u6 2), .inr (14, [.int (nI 0), .int (-1), .int (nI 0), .ref (u6 0)])), ((u6 0), .inr (13, [.int (nI 0), .ref (G 0), .int (nI 0)])), (h5, .inr (13, [v9, v10, .int (nI 0)]))]) rfl (fun H locs hP hD hS => ?_)
  refine lv_dup hx hb dX12_count_213 rfl ?_
  refine lv_bipush (v := nI 11) hx hb dX12_count_214 (by decide +kernel) ?_
  refine lv_aload_n hx hb dX12_count_216 rfl (lv_at hl 6 rfl) ?_
  refine r_get hx hb hts ok_RX12 hown hK hP 0 rfl rfl 1 (by decide) w_1294 (fun _ h9 => h9) rfl dX12_count_217 ?_
  refine r_get hx hb hts ok_RX10 hown hK hP 8 rfl rfl 11 (by decide) w_1247 (fun _ h9 => h9) rfl dX12_count_220 ?_
  refine r_iast (k := 11) hx hb hK hP hD hS 5 2 rfl rfl (Nat.le_of_ble_eq_true rfl) (by decide) dX12_count_223 (ws' := [(h0, .inr (12, [v0, .ref h1])), (h3, .inl (K 1, 20, .inl (fun _ => nI 0))), ((u0 1), .inr (14, [.int (nI 0), .int (-1), .int (nI 0), .ref h2])), ((u1 0), .inr (14, [.int (nI 0), .int (-1), .int (nI 0), .ref (u0 0)])), ((u0 0), .inr (13, [.int (nI 0), .ref (G 0), .int (nI 0)])), (q0, .inl (K 2, 16, .inl (upd (upd (upd (upd (upd (upd (upd (upd (upd (upd (fun _ => nI 0) 2 (nI 1)) 3 (nI 0)) 4 (nI 0)) 5 (nI 0)) 6 (nI 60)) 7 (nI 0)) 8 (nI 1)) 9 (nI 0)) 10 (nI 0)) 11 (nI 0)))), ((u4 0), .inr (14, [.int (nI 0), .int (-1), .int (nI 0), .ref h2])), (h4, .inr (13, [v7, v8, .int (nI 1)])), (h1, .inr (10, [.ref h2, .ref h4, v1, .ref h5, .ref h3, .int (nI 0), .int (nI 0), .int (nI 60), .int (nI 0), v2, v3, .int (nI 0), .int (nI 0), .int (nI 0), .int (nI 0), v4, v5])), ((u6 1), .inr (14, [.int (nI 0), .int (-1), .int (nI 0), .ref h2])), (h2, .inr (13, [.int (nI 0), v6, .int (nI 0)])), ((u6 2), .inr (14, [.int (nI 0), .int (-1), .int (nI 0), .ref (u6 0)])), ((u6 0), .inr (13, [.int (nI 0), .ref (G 0), .int (nI 0)])), (h5, .inr (13, [v9, v10, .int (nI 0)]))]) rfl (fun H locs hP hD hS => ?_)
  refine lv_dup hx hb dX12_count_224 rfl ?_
  refine lv_bipush (v := nI 12) hx hb dX12_count_225 (by decide +kernel) ?_
  refine lv_aload_n hx hb dX12_count_227 rfl (lv_at hl 6 rfl) ?_
  refine r_get hx hb hts ok_RX12 hown hK hP 0 rfl rfl 1 (by decide) w_1294 (fun _ h9 => h9) rfl dX12_count_228 ?_
  refine r_get hx hb hts ok_RX10 hown hK hP 8 rfl rfl 12 (by decide) w_1249 (fun _ h9 => h9) rfl dX12_count_231 ?_
  refine r_iast (k := 12) hx hb hK hP hD hS 5 2 rfl rfl (Nat.le_of_ble_eq_true rfl) (by decide) dX12_count_234 (ws' := [(h0, .inr (12, [v0, .ref h1])), (h3, .inl (K 1, 20, .inl (fun _ => nI 0))), ((u0 1), .inr (14, [.int (nI 0), .int (-1), .int (nI 0), .ref h2])), ((u1 0), .inr (14, [.int (nI 0), .int (-1), .int (nI 0), .ref (u0 0)])), ((u0 0), .inr (13, [.int (nI 0), .ref (G 0), .int (nI 0)])), (q0, .inl (K 2, 16, .inl (upd (upd (upd (upd (upd (upd (upd (upd (upd (upd (upd (fun _ => nI 0) 2 (nI 1)) 3 (nI 0)) 4 (nI 0)) 5 (nI 0)) 6 (nI 60)) 7 (nI 0)) 8 (nI 1)) 9 (nI 0)) 10 (nI 0)) 11 (nI 0)) 12 (nI 0)))), ((u4 0), .inr (14, [.int (nI 0), .int (-1), .int (nI 0), .ref h2])), (h4, .inr (13, [v7, v8, .int (nI 1)])), (h1, .inr (10, [.ref h2, .ref h4, v1, .ref h5, .ref h3, .int (nI 0), .int (nI 0), .int (nI 60), .int (nI 0), v2, v3, .int (nI 0), .int (nI 0), .int (nI 0), .int (nI 0), v4, v5])), ((u6 1), .inr (14, [.int (nI 0), .int (-1), .int (nI 0), .ref h2])), (h2, .inr (13, [.int (nI 0), v6, .int (nI 0)])), ((u6 2), .inr (14, [.int (nI 0), .int (-1), .int (nI 0), .ref (u6 0)])), ((u6 0), .inr (13, [.int (nI 0), .ref (G 0), .int (nI 0)])), (h5, .inr (13, [v9, v10, .int (nI 0)]))]) rfl (fun H locs hP hD hS => ?_)
  refine lv_dup hx hb dX12_count_235 rfl ?_
  refine lv_bipush (v := nI 13) hx hb dX12_count_236 (by decide +kernel) ?_
  refine lv_aload_n hx hb dX12_count_238 rfl (lv_at hl 6 rfl) ?_
  refine r_get hx hb hts ok_RX12 hown hK hP 0 rfl rfl 1 (by decide) w_1294 (fun _ h9 => h9) rfl dX12_count_239 ?_
  refine r_get hx hb hts ok_RX10 hown hK hP 8 rfl rfl 13 (by decide) w_1251 (fun _ h9 => h9) rfl dX12_count_242 ?_
  refine r_iast (k := 13) hx hb hK hP hD hS 5 2 rfl rfl (Nat.le_of_ble_eq_true rfl) (by decide) dX12_count_245 (ws' := [(h0, .inr (12, [v0, .ref h1])), (h3, .inl (K 1, 20, .inl (fun _ => nI 0))), ((u0 1), .inr (14, [.int (nI 0), .int (-1), .int (nI 0), .ref h2])), ((u1 0), .inr (14, [.int (nI 0), .int (-1), .int (nI 0), .ref (u0 0)])), ((u0 0), .inr (13, [.int (nI 0), .ref (G 0), .int (nI 0)])), (q0, .inl (K 2, 16, .inl (upd (upd (upd (upd (upd (upd (upd (upd (upd (upd (upd (upd (fun _ => nI 0) 2 (nI 1)) 3 (nI 0)) 4 (nI 0)) 5 (nI 0)) 6 (nI 60)) 7 (nI 0)) 8 (nI 1)) 9 (nI 0)) 10 (nI 0)) 11 (nI 0)) 12 (nI 0)) 13 (nI 0)))), ((u4 0), .inr (14, [.int (nI 0), .int (-1), .int (nI 0), .ref h2])), (h4, .inr (13, [v7, v8, .int (nI 1)])), (h1, .inr (10, [.ref h2, .ref h4, v1, .ref h5, .ref h3, .int (nI 0), .int (nI 0), .int (nI 60), .int (nI 0), v2, v3, .int (nI 0), .int (nI 0), .int (nI 0), .int (nI 0), v4, v5])), ((u6 1), .inr (14, [.int (nI 0), .int (-1), .int (nI 0), .ref h2])), (h2, .inr (13, [.int (nI 0), v6, .int (nI 0)])), ((u6 2), .inr (14, [.int (nI 0), .int (-1), .int (nI 0), .ref (u6 0)])), ((u6 0), .inr (13, [.int (nI 0), .ref (G 0), .int (nI 0)])), (h5, .inr (13, [v9, v10, .int (nI 0)]))]) rfl (fun H locs hP hD hS => ?_)
  refine lv_dup hx hb dX12_count_246 rfl ?_
  refine lv_bipush (v := nI 14) hx hb dX12_count_247 (by decide +kernel) ?_
  refine lv_aload_n hx hb dX12_count_249 rfl (lv_at hl 6 rfl) ?_
  refine r_get hx hb hts ok_RX12 hown hK hP 0 rfl rfl 1 (by decide) w_1294 (fun _ h9 => h9) rfl dX12_count_250 ?_
  refine r_get hx hb hts ok_RX10 hown hK hP 8 rfl rfl 14 (by decide) w_1253 (fun _ h9 => h9) rfl dX12_count_253 ?_
  refine r_iast (k := 14) hx hb hK hP hD hS 5 2 rfl rfl (Nat.le_of_ble_eq_true rfl) (by decide) dX12_count_256 (ws' := [(h0, .inr (12, [v0, .ref h1])), (h3, .inl (K 1, 20, .inl (fun _ => nI 0))), ((u0 1), .inr (14, [.int (nI 0), .int (-1), .int (nI 0), .ref h2])), ((u1 0), .inr (14, [.int (nI 0), .int (-1), .int (nI 0), .ref (u0 0)])), ((u0 0), .inr (13, [.int (nI 0), .ref (G 0), .int (nI 0)])), (q0, .inl (K 2, 16, .inl (upd (upd (upd (upd (upd (upd (upd (upd (upd (upd (upd (upd (upd (fun _ => nI 0) 2 (nI 1)) 3 (nI 0)) 4 (nI 0)) 5 (nI 0)) 6 (nI 60)) 7 (nI 0)) 8 (nI 1)) 9 (nI 0)) 10 (nI 0)) 11 (nI 0)) 12 (nI 0)) 13 (nI 0)) 14 (nI 0)))), ((u4 0), .inr (14, [.int (nI 0), .int (-1), .int (nI 0), .ref h2])), (h4, .inr (13, [v7, v8, .int (nI 1)])), (h1, .inr (10, [.ref h2, .ref h4, v1, .ref h5, .ref h3, .int (nI 0), .int (nI 0), .int (nI 60), .int (nI 0), v2, v3, .int (nI 0), .int (nI 0), .int (nI 0), .int (nI 0), v4, v5])), ((u6 1), .inr (14, [.int (nI 0), .int (-1), .int (nI 0), .ref h2])), (h2, .inr (13, [.int (nI 0), v6, .int (nI 0)])), ((u6 2), .inr (14, [.int (nI 0), .int (-1), .int (nI 0), .ref (u6 0)])), ((u6 0), .inr (13, [.int (nI 0), .ref (G 0), .int (nI 0)])), (h5, .inr (13, [v9, v10, .int (nI 0)]))]) rfl (fun H locs hP hD hS => ?_)
  refine lv_dup hx hb dX12_count_257 rfl ?_
  refine lv_bipush (v := nI 15) hx hb dX12_count_258 (by decide +kernel) ?_
  refine lv_aload_n hx hb dX12_count_260 rfl (lv_at hl 6 rfl) ?_
  refine r_get hx hb hts ok_RX12 hown hK hP 0 rfl rfl 1 (by decide) w_1294 (fun _ h9 => h9) rfl dX12_count_261 ?_
  refine k_i (wr := [(h0, .inr (12, [v0, .ref h1])), (h3, .inl (K 1, 20, .inl (fun _ => nI 0))), ((u0 1), .inr (14, [.int (nI 0), .int (-1), .int (nI 0), .ref h2])), ((u1 0), .inr (14, [.int (nI 0), .int (-1), .int (nI 0), .ref (u0 0)])), ((u0 0), .inr (13, [.int (nI 0), .ref (G 0), .int (nI 0)])), (q0, .inl (K 2, 16, .inl (upd (upd (upd (upd (upd (upd (upd (upd (upd (upd (upd (upd (upd (fun _ => nI 0) 2 (nI 1)) 3 (nI 0)) 4 (nI 0)) 5 (nI 0)) 6 (nI 60)) 7 (nI 0)) 8 (nI 1)) 9 (nI 0)) 10 (nI 0)) 11 (nI 0)) 12 (nI 0)) 13 (nI 0)) 14 (nI 0)))), ((u4 0), .inr (14, [.int (nI 0), .int (-1), .int (nI 0), .ref h2])), (h4, .inr (13, [v7, v8, .int (nI 1)])), ((u6 1), .inr (14, [.int (nI 0), .int (-1), .int (nI 0), .ref h2])), ((u6 2), .inr (14, [.int (nI 0), .int (-1), .int (nI 0), .ref (u6 0)])), ((u6 0), .inr (13, [.int (nI 0), .ref (G 0), .int (nI 0)])), (h5, .inr (13, [v9, v10, .int (nI 0)]))]) (run_V (rest := [.int (nI 15), .ref q0, .ref q0]) hx hb hml hown hts hK hP hD hS hA hm (C830_greys l G D K H.size h1 h2 (.ref h4) (v1) (.ref h5) (.ref h3) (.int (nI 0)) (.int (nI 0)) (.int (nI 60)) (.int (nI 0)) (v2) (v3) (.int (nI 0)) (.int (nI 0)) (.int (nI 0)) (.int (nI 0)) (v4) (v5) (v6)) [8, 10] rfl rfl mok_yX10_greys w_1973 w_1974 w_1975 (rcv hK hP 8 rfl rfl rfl) ⟨Nat.le_of_ble_eq_true rfl, Nat.le_of_ble_eq_true rfl⟩ rfl hl.1 rfl (Nat.le_of_ble_eq_true rfl) dX12_count_264 ⟨(Nat.le_of_ble_eq_true rfl), (Nat.le_of_ble_eq_true rfl)⟩) hP hD hS hA [8, 10] [0, 1, 2, 3, 4, 5, 6, 7, 9, 11, 12, 13] rfl rfl rfl (by decide) (w2 := fun u8 => [(h0, .inr (12, [v0, .ref h1])), (h3, .inl (K 1, 20, .inl (fun _ => nI 0))), ((u0 1), .inr (14, [.int (nI 0), .int (-1), .int (nI 0), .ref h2])), ((u1 0), .inr (14, [.int (nI 0), .int (-1), .int (nI 0), .ref (u0 0)])), ((u0 0), .inr (13, [.int (nI 0), .ref (G 0), .int (nI 0)])), (q0, .inl (K 2, 16, .inl (upd (upd (upd (upd (upd (upd (upd (upd (upd (upd (upd (upd (upd (fun _ => nI 0) 2 (nI 1)) 3 (nI 0)) 4 (nI 0)) 5 (nI 0)) 6 (nI 60)) 7 (nI 0)) 8 (nI 1)) 9 (nI 0)) 10 (nI 0)) 11 (nI 0)) 12 (nI 0)) 13 (nI 0)) 14 (nI 0)))), ((u4 0), .inr (14, [.int (nI 0), .int (-1), .int (nI 0), .ref h2])), (h4, .inr (13, [v7, v8, .int (nI 1)])), ((u6 1), .inr (14, [.int (nI 0), .int (-1), .int (nI 0), .ref h2])), ((u6 2), .inr (14, [.int (nI 0), .int (-1), .int (nI 0), .ref (u6 0)])), ((u6 0), .inr (13, [.int (nI 0), .ref (G 0), .int (nI 0)])), (h5, .inr (13, [v9, v10, .int (nI 0)])), (h1, .inr (10, [.ref h2, .ref h4, v1, .ref h5, .ref h3, .int (nI 0), .int (nI 0), .int (nI 60), .int (nI 0), v2, v3, .int (nI 0), .int (nI 0), .int (nI 0), .int (nI 0), v4, v5])), ((u8 0), .inr (14, [.int (nI 0), .int (-1), .int (nI 0), .ref h2])), (h2, .inr (13, [.int (nI 0), v6, .int (nI 0)]))]) (fun _ => rfl) (fun u8 H locs hP hD hS => ?_)
  refine r_iast (k := 15) hx hb hK hP hD hS 5 2 rfl rfl (Nat.le_of_ble_eq_true rfl) (by decide) dX12_count_267 (ws' := [(h0, .inr (12, [v0, .ref h1])), (h3, .inl (K 1, 20, .inl (fun _ => nI 0))), ((u0 1), .inr (14, [.int (nI 0), .int (-1), .int (nI 0), .ref h2])), ((u1 0), .inr (14, [.int (nI 0), .int (-1), .int (nI 0), .ref (u0 0)])), ((u0 0), .inr (13, [.int (nI 0), .ref (G 0), .int (nI 0)])), (q0, .inl (K 2, 16, .inl (upd (upd (upd (upd (upd (upd (upd (upd (upd (upd (upd (upd (upd (upd (fun _ => nI 0) 2 (nI 1)) 3 (nI 0)) 4 (nI 0)) 5 (nI 0)) 6 (nI 60)) 7 (nI 0)) 8 (nI 1)) 9 (nI 0)) 10 (nI 0)) 11 (nI 0)) 12 (nI 0)) 13 (nI 0)) 14 (nI 0)) 15 (nI 0)))), ((u4 0), .inr (14, [.int (nI 0), .int (-1), .int (nI 0), .ref h2])), (h4, .inr (13, [v7, v8, .int (nI 1)])), ((u6 1), .inr (14, [.int (nI 0), .int (-1), .int (nI 0), .ref h2])), ((u6 2), .inr (14, [.int (nI 0), .int (-1), .int (nI 0), .ref (u6 0)])), ((u6 0), .inr (13, [.int (nI 0), .ref (G 0), .int (nI 0)])), (h5, .inr (13, [v9, v10, .int (nI 0)])), (h1, .inr (10, [.ref h2, .ref h4, v1, .ref h5, .ref h3, .int (nI 0), .int (nI 0), .int (nI 60), .int (nI 0), v2, v3, .int (nI 0), .int (nI 0), .int (nI 0), .int (nI 0), v4, v5])), ((u8 0), .inr (14, [.int (nI 0), .int (-1), .int (nI 0), .ref h2])), (h2, .inr (13, [.int (nI 0), v6, .int (nI 0)]))]) rfl (fun H locs hP hD hS => ?_)
  refine lv_astore (lv' := [(4, .ref q0), (6, .int (nI 20)), (3, .int (nI 0)), (7, .int (nI 0)), (5, .int (nI 20)), (2, .int (nI 0)), (0, .ref h0), (1, .int (nI 13))]) hx hb dX12_count_268 hl (by decide) rfl (fun ls hl => ?_)
  refine lv_aload hx hb dX12_count_270 (lv_at hl 0 rfl) ?_
  refine lv_iload_n hx hb dX12_count_272 rfl (lv_at hl 7 rfl) ?_
  refine r_iald (k := 13) hx hb hK hP 5 2 rfl rfl (Nat.le_of_ble_eq_true rfl) (by decide) (v := nI 0) rfl dX12_count_273 ?_
  exact e_i hx hb hr hlk hP hD hS (fun k => match k with | 0 => (u0 0) | 1 => (u0 1) | 2 => (u1 0) | 3 => q0 | 4 => (u4 0) | 5 => (u6 0) | 6 => (u6 1) | 7 => (u6 2) | 8 => (u8 0) | _ => 0) rfl (Nat.le_of_ble_eq_true rfl) (Nat.le_of_ble_eq_true rfl) rfl dX12_count_274
set_option maxHeartbeats 4000000 in
set_option maxRecDepth 100000 in
theorem C937_many (l : Launch) (G : Nat → Nat) (D : va_G) (K : Nat → ClassId) (sz : Nat) (h0 h1 h2 h3 h4 h5 : Nat) (v0 v1 v2 v3 v4 v5 v6 v7 v8 v9 : Value) : CM l yX12_many cX12_many 2 (some FieldType.int) ({ frames := 7, cells := 9, slots := 46, locals := 156 } : Room) G D K [.ref h0, .int (nI 13)] [(h0, .inr (12, [.int (nI 0), .ref h1])), (h1, .inr (10, [.ref h2, .ref h4, v0, .ref h5, .ref h3, .int (nI 0), .int (nI 0), .int (nI 60), .int (nI 0), v1, v2, .int (nI 0), .int (nI 0), .int (nI 0), .int (nI 0), v3, v4])), (h2, .inr (13, [.int (nI 0), v5, .int (nI 0)])), (h3, .inl (K 1, 20, .inl (fun _ => nI 0))), (h4, .inr (13, [v6, v7, .int (nI 1)])), (h5, .inr (13, [v8, v9, .int (nI 0)]))] sz (CQi (nI 0) D (fun u => [(h0, .inr (12, [.int (nI 0), .ref h1])), (h3, .inl (K 1, 20, .inl (fun _ => nI 0))), ((u 1), .inr (14, [.int (nI 0), .int (-1), .int (nI 0), .ref h2])), ((u 2), .inr (14, [.int (nI 0), .int (-1), .int (nI 0), .ref (u 0)])), ((u 0), .inr (13, [.int (nI 0), .ref (G 0), .int (nI 0)])), ((u 3), .inl (K 2, 16, .inl (upd (upd (upd (upd (upd (upd (upd (upd (upd (upd (upd (upd (upd (upd (fun _ => nI 0) 2 (nI 1)) 3 (nI 0)) 4 (nI 0)) 5 (nI 0)) 6 (nI 60)) 7 (nI 0)) 8 (nI 1)) 9 (nI 0)) 10 (nI 0)) 11 (nI 0)) 12 (nI 0)) 13 (nI 0)) 14 (nI 0)) 15 (nI 0)))), ((u 4), .inr (14, [.int (nI 0), .int (-1), .int (nI 0), .ref h2])), (h4, .inr (13, [v6, v7, .int (nI 1)])), ((u 6), .inr (14, [.int (nI 0), .int (-1), .int (nI 0), .ref h2])), ((u 7), .inr (14, [.int (nI 0), .int (-1), .int (nI 0), .ref (u 5)])), ((u 5), .inr (13, [.int (nI 0), .ref (G 0), .int (nI 0)])), (h5, .inr (13, [v8, v9, .int (nI 0)])), (h1, .inr (10, [.ref h2, .ref h4, v0, .ref h5, .ref h3, .int (nI 0), .int (nI 0), .int (nI 60), .int (nI 0), v1, v2, .int (nI 0), .int (nI 0), .int (nI 0), .int (nI 0), v3, v4])), ((u 8), .inr (14, [.int (nI 0), .int (-1), .int (nI 0), .ref h2])), (h2, .inr (13, [.int (nI 0), v5, .int (nI 0)]))])) := by
  refine CM_of (lv0 := [(0, .ref h0), (1, .int (nI 13))]) pn_RX12 (Nat.le_of_ble_eq_true rfl) rfl (fun p e s m args below meth c A ls hx hb hr hml hown hts hlk hnm hP hK hD hS hA hm hl => ?_)
  have hown : s.vm.findClass RX12 = some m.cls := hown
  refine lv_aload_n hx hb dX12_many_0 rfl (lv_at hl 0 rfl) ?_
  refine lv_iload_n hx hb dX12_many_1 rfl (lv_at hl 1 rfl) ?_
  refine lv_iconst (v := nI 0) hx hb dX12_many_2 (by decide +kernel) ?_
  refine lv_bipush (v := nI 15) hx hb dX12_many_3 (by decide +kernel) ?_
  refine k_i (wr := [(h0, .inr (12, [.int (nI 0), .ref h1])), (h1, .inr (10, [.ref h2, .ref h4, v0, .ref h5, .ref h3, .int (nI 0), .int (nI 0), .int (nI 60), .int (nI 0), v1, v2, .int (nI 0), .int (nI 0), .int (nI 0), .int (nI 0), v3, v4])), (h2, .inr (13, [.int (nI 0), v5, .int (nI 0)])), (h3, .inl (K 1, 20, .inl (fun _ => nI 0))), (h4, .inr (13, [v6, v7, .int (nI 1)])), (h5, .inr (13, [v8, v9, .int (nI 0)]))]) (run_S (rest := [.ref h0]) hx hb hml hown hts hK hP hD hS hA hm (C935_isIn l G D K s.heap.size) [] rfl rfl mok_yX12_isIn w_1352 w_1353 ⟨Nat.le_of_ble_eq_true rfl, Nat.le_of_ble_eq_true rfl⟩ rfl hl.1 rfl (Nat.le_of_ble_eq_true rfl) dX12_many_5 ⟨(Nat.le_of_ble_eq_true rfl), (Nat.le_of_ble_eq_true rfl)⟩) hP hD hS hA [] [0, 1, 2, 3, 4, 5] rfl rfl rfl (by decide) (w2 := fun u0 => [(h0, .inr (12, [.int (nI 0), .ref h1])), (h1, .inr (10, [.ref h2, .ref h4, v0, .ref h5, .ref h3, .int (nI 0), .int (nI 0), .int (nI 60), .int (nI 0), v1, v2, .int (nI 0), .int (nI 0), .int (nI 0), .int (nI 0), v3, v4])), (h2, .inr (13, [.int (nI 0), v5, .int (nI 0)])), (h3, .inl (K 1, 20, .inl (fun _ => nI 0))), (h4, .inr (13, [v6, v7, .int (nI 1)])), (h5, .inr (13, [v8, v9, .int (nI 0)]))]) (fun _ => rfl) (fun u0 H locs hP hD hS => ?_)
  refine lv_if_ne (tgt := 15) hx hb dX12_many_8 (by decide) (fun _ => ?_) (fun c9 => absurd c9 (by decide +kernel))
  refine lv_iconst (v := nI 0) hx hb dX12_many_15 (by decide +kernel) ?_
  refine lv_iconst (v := nI 1) hx hb dX12_many_16 (by decide +kernel) ?_
  refine k_i (wr := [(h1, .inr (10, [.ref h2, .ref h4, v0, .ref h5, .ref h3, .int (nI 0), .int (nI 0), .int (nI 60), .int (nI 0), v1, v2, .int (nI 0), .int (nI 0), .int (nI 0), .int (nI 0), v3, v4])), (h2, .inr (13, [.int (nI 0), v5, .int (nI 0)])), (h3, .inl (K 1, 20, .inl (fun _ => nI 0))), (h4, .inr (13, [v6, v7, .int (nI 1)])), (h5, .inr (13, [v8, v9, .int (nI 0)]))]) (run_V (rest := []) hx hb hml hown hts hK hP hD hS hA hm (C25_start l G D K H.size h0 (.ref h1)) [0] rfl rfl mok_yX12_start w_1312 w_1314 w_p30 (rcv hK hP 0 rfl rfl rfl) ⟨Nat.le_of_ble_eq_true rfl, Nat.le_of_ble_eq_true rfl⟩ rfl hl.1 rfl (Nat.le_of_ble_eq_true rfl) dX12_many_17 ⟨(Nat.le_of_ble_eq_true rfl), (Nat.le_of_ble_eq_true rfl)⟩) hP hD hS hA [0] [1, 2, 3, 4, 5] rfl rfl rfl (by decide) (w2 := fun u1 => [(h1, .inr (10, [.ref h2, .ref h4, v0, .ref h5, .ref h3, .int (nI 0), .int (nI 0), .int (nI 60), .int (nI 0), v1, v2, .int (nI 0), .int (nI 0), .int (nI 0), .int (nI 0), v3, v4])), (h2, .inr (13, [.int (nI 0), v5, .int (nI 0)])), (h3, .inl (K 1, 20, .inl (fun _ => nI 0))), (h4, .inr (13, [v6, v7, .int (nI 1)])), (h5, .inr (13, [v8, v9, .int (nI 0)])), (h0, .inr (12, [.int (nI 0), .ref h1]))]) (fun _ => rfl) (fun u1 H locs hP hD hS => ?_)
  refine lv_if_eq (tgt := 27) hx hb dX12_many_20 (by decide) (fun _ => ?_) (fun c9 => absurd (by decide +kernel) c9)
  refine lv_aload_n hx hb dX12_many_27 rfl (lv_at hl 0 rfl) ?_
  refine lv_iload_n hx hb dX12_many_28 rfl (lv_at hl 1 rfl) ?_
  refine k_i (wr := []) (run_V (rest := []) hx hb hml hown hts hK hP hD hS hA hm (C936_count l G D K H.size h0 h1 h2 h3 h4 h5 (.int (nI 0)) (v0) (v1) (v2) (v3) (v4) (v5) (v6) (v7) (v8) (v9)) [5, 0, 1, 2, 3, 4] rfl rfl mok_yX12_count w_2029 w_2031 w_p57 (rcv hK hP 5 rfl rfl rfl) ⟨Nat.le_of_ble_eq_true rfl, Nat.le_of_ble_eq_true rfl⟩ rfl hl.1 rfl (Nat.le_of_ble_eq_true rfl) dX12_many_29 ⟨(Nat.le_of_ble_eq_true rfl), (Nat.le_of_ble_eq_true rfl)⟩) hP hD hS hA [5, 0, 1, 2, 3, 4] [] rfl rfl rfl (by decide) (w2 := fun u2 => [(h0, .inr (12, [.int (nI 0), .ref h1])), (h3, .inl (K 1, 20, .inl (fun _ => nI 0))), ((u2 1), .inr (14, [.int (nI 0), .int (-1), .int (nI 0), .ref h2])), ((u2 2), .inr (14, [.int (nI 0), .int (-1), .int (nI 0), .ref (u2 0)])), ((u2 0), .inr (13, [.int (nI 0), .ref (G 0), .int (nI 0)])), ((u2 3), .inl (K 2, 16, .inl (upd (upd (upd (upd (upd (upd (upd (upd (upd (upd (upd (upd (upd (upd (fun _ => nI 0) 2 (nI 1)) 3 (nI 0)) 4 (nI 0)) 5 (nI 0)) 6 (nI 60)) 7 (nI 0)) 8 (nI 1)) 9 (nI 0)) 10 (nI 0)) 11 (nI 0)) 12 (nI 0)) 13 (nI 0)) 14 (nI 0)) 15 (nI 0)))), ((u2 4), .inr (14, [.int (nI 0), .int (-1), .int (nI 0), .ref h2])), (h4, .inr (13, [v6, v7, .int (nI 1)])), ((u2 6), .inr (14, [.int (nI 0), .int (-1), .int (nI 0), .ref h2])), ((u2 7), .inr (14, [.int (nI 0), .int (-1), .int (nI 0), .ref (u2 5)])), ((u2 5), .inr (13, [.int (nI 0), .ref (G 0), .int (nI 0)])), (h5, .inr (13, [v8, v9, .int (nI 0)])), (h1, .inr (10, [.ref h2, .ref h4, v0, .ref h5, .ref h3, .int (nI 0), .int (nI 0), .int (nI 60), .int (nI 0), v1, v2, .int (nI 0), .int (nI 0), .int (nI 0), .int (nI 0), v3, v4])), ((u2 8), .inr (14, [.int (nI 0), .int (-1), .int (nI 0), .ref h2])), (h2, .inr (13, [.int (nI 0), v5, .int (nI 0)]))]) (fun _ => rfl) (fun u2 H locs hP hD hS => ?_)
  exact e_i hx hb hr hlk hP hD hS (fun k => match k with | 0 => (u2 0) | 1 => (u2 1) | 2 => (u2 2) | 3 => (u2 3) | 4 => (u2 4) | 5 => (u2 5) | 6 => (u2 6) | 7 => (u2 7) | 8 => (u2 8) | _ => 0) rfl (Nat.le_of_ble_eq_true rfl) (Nat.le_of_ble_eq_true rfl) rfl dX12_many_32
set_option maxHeartbeats 4000000 in
set_option maxRecDepth 100000 in
theorem C938_many (l : Launch) (G : Nat → Nat) (D : va_G) (K : Nat → ClassId) (sz : Nat) (h0 h1 : Nat) (v0 v1 v2 v3 v4 v5 v6 v7 v8 v9 v10 : Value) : CM l yX9_many cX9_many 2 (some FieldType.int) ({ frames := 0, cells := 0, slots := 0, locals := 0 } : Room) G D K [.ref h0, .int (nI 14)] [(h0, .inr (9, [v0, v1, v2, .ref h1, v3, v4, v5, v6, v7])), (h1, .inr (6, [v8, v9, v10, .int (nI 0)]))] sz (CQi (nI 0) D (fun _ => [(h0, .inr (9, [v0, v1, v2, .ref h1, v3, v4, v5, v6, v7])), (h1, .inr (6, [v8, v9, v10, .int (nI 0)]))])) := by
  refine CM_of (lv0 := [(0, .ref h0), (1, .int (nI 14))]) pn_RX9 (Nat.le_of_ble_eq_true rfl) rfl (fun p e s m args below meth c A ls hx hb hr hml hown hts hlk hnm hP hK hD hS hA hm hl => ?_)
  have hown : s.vm.findClass RX9 = some m.cls := hown
  refine lv_iload_n hx hb dX9_many_0 rfl (lv_at hl 1 rfl) ?_
  refine lv_tableIn (off := 208) (tgt := 209) hx hb dX9_many_1 (by decide +kernel) (by decide +kernel) rfl (by decide) ?_
  refine lv_aload_n hx hb dX9_many_209 rfl (lv_at hl 0 rfl) ?_
  refine r_get hx hb hts ok_RX9 hown hK hP 0 rfl rfl 3 (by decide) w_261 (fun _ h9 => h9) rfl dX9_many_210 ?_
  refine r_get hx hb hts ok_RX6 hown hK hP 1 rfl rfl 3 (by decide) w_143 (fun _ h9 => h9) rfl dX9_many_213 ?_
  exact e_i hx hb hr hlk hP hD hS (fun _ => 0) rfl (Nat.le_of_ble_eq_true rfl) (Nat.le_of_ble_eq_true rfl) rfl dX9_many_216
set_option maxHeartbeats 4000000 in
set_option maxRecDepth 100000 in
theorem C939_isIn (l : Launch) (G : Nat → Nat) (D : va_G) (K : Nat → ClassId) (sz : Nat) : CM l yX12_isIn cX12_isIn 3 (some FieldType.boolean) ({ frames := 0, cells := 0, slots := 0, locals := 0 } : Room) G D K [.int (nI 14), .int (nI 0), .int (nI 15)] [] sz (CQi (nI 1) D (fun _ => [])) := by
  refine CM_of (lv0 := [(0, .int (nI 14)), (1, .int (nI 0)), (2, .int (nI 15))]) pn_RX12 (Nat.le_of_ble_eq_true rfl) rfl (fun p e s m args below meth c A ls hx hb hr hml hown hts hlk hnm hP hK hD hS hA hm hl => ?_)
  have hown : s.vm.findClass RX12 = some m.cls := hown
  refine lv_iload_n hx hb dX12_isIn_0 rfl (lv_at hl 0 rfl) ?_
  refine lv_iload_n hx hb dX12_isIn_1 rfl (lv_at hl 1 rfl) ?_
  refine lv_icmp_lt (tgt := 14) hx hb dX12_isIn_2 (by decide) (fun c9 => absurd c9 (by decide +kernel)) (fun _ => ?_)
  refine lv_iload_n hx hb dX12_isIn_5 rfl (lv_at hl 0 rfl) ?_
  refine lv_iload_n hx hb dX12_isIn_6 rfl (lv_at hl 2 rfl) ?_
  refine lv_icmp_gt (tgt := 14) hx hb dX12_isIn_7 (by decide) (fun c9 => absurd c9 (by decide +kernel)) (fun _ => ?_)
  refine lv_iconst (v := nI 1) hx hb dX12_isIn_10 (by decide +kernel) ?_
  refine lv_goto (tgt := 15) hx hb dX12_isIn_11 (by decide) ?_
  exact e_z hx hb hr hlk hP hD hS (fun _ => 0) rfl (Nat.le_of_ble_eq_true rfl) (Nat.le_of_ble_eq_true rfl) rfl (Or.inr rfl) dX12_isIn_15
set_option maxHeartbeats 4000000 in
set_option maxRecDepth 100000 in
theorem C940_count (l : Launch) (G : Nat → Nat) (D : va_G) (K : Nat → ClassId) (sz : Nat) (h0 h1 h2 h3 h4 h5 : Nat) (v0 v1 v2 v3 v4 v5 v6 v7 v8 v9 v10 : Value) : CM l yX12_count cX12_count 8 (some FieldType.int) ({ frames := 6, cells := 9, slots := 46, locals := 129 } : Room) G D K [.ref h0, .int (nI 14)] [(h0, .inr (12, [v0, .ref h1])), (h1, .inr (10, [.ref h2, .ref h4, v1, .ref h5, .ref h3, .int (nI 0), .int (nI 0), .int (nI 60), .int (nI 0), v2, v3, .int (nI 0), .int (nI 0), .int (nI 0), .int (nI 0), v4, v5])), (h2, .inr (13, [.int (nI 0), v6, .int (nI 0)])), (h3, .inl (K 1, 20, .inl (fun _ => nI 0))), (h4, .inr (13, [v7, v8, .int (nI 1)])), (h5, .inr (13, [v9, v10, .int (nI 0)]))] sz (CQi (nI 0) D (fun u => [(h0, .inr (12, [v0, .ref h1])), (h3, .inl (K 1, 20, .inl (fun _ => nI 0))), ((u 1), .inr (14, [.int (nI 0), .int (-1), .int (nI 0), .ref h2])), ((u 2), .inr (14, [.int (nI 0), .int (-1), .int (nI 0), .ref (u 0)])), ((u 0), .inr (13, [.int (nI 0), .ref (G 0), .int (nI 0)])), ((u 3), .inl (K 2, 16, .inl (upd (upd (upd (upd (upd (upd (upd (upd (upd (upd (upd (upd (upd (upd (fun _ => nI 0) 2 (nI 1)) 3 (nI 0)) 4 (nI 0)) 5 (nI 0)) 6 (nI 60)) 7 (nI 0)) 8 (nI 1)) 9 (nI 0)) 10 (nI 0)) 11 (nI 0)) 12 (nI 0)) 13 (nI 0)) 14 (nI 0)) 15 (nI 0)))), ((u 4), .inr (14, [.int (nI 0), .int (-1), .int (nI 0), .ref h2])), (h4, .inr (13, [v7, v8, .int (nI 1)])), ((u 6), .inr (14, [.int (nI 0), .int (-1), .int (nI 0), .ref h2])), ((u 7), .inr (14, [.int (nI 0), .int (-1), .int (nI 0), .ref (u 5)])), ((u 5), .inr (13, [.int (nI 0), .ref (G 0), .int (nI 0)])), (h5, .inr (13, [v9, v10, .int (nI 0)])), (h1, .inr (10, [.ref h2, .ref h4, v1, .ref h5, .ref h3, .int (nI 0), .int (nI 0), .int (nI 60), .int (nI 0), v2, v3, .int (nI 0), .int (nI 0), .int (nI 0), .int (nI 0), v4, v5])), ((u 8), .inr (14, [.int (nI 0), .int (-1), .int (nI 0), .ref h2])), (h2, .inr (13, [.int (nI 0), v6, .int (nI 0)]))])) := by
  refine CM_of (lv0 := [(0, .ref h0), (1, .int (nI 14))]) pn_RX12 (Nat.le_of_ble_eq_true rfl) rfl (fun p e s m args below meth c A ls hx hb hr hml hown hts hlk hnm hP hK hD hS hA hm hl => ?_)
  have hown : s.vm.findClass RX12 = some m.cls := hown
  refine lv_iconst (v := nI 0) hx hb dX12_count_0 (by decide +kernel) ?_
  refine lv_istore_n (lv' := [(2, .int (nI 0)), (0, .ref h0), (1, .int (nI 14))]) hx hb dX12_count_1 rfl hl (by decide) rfl (fun ls hl => ?_)
  refine lv_aload_n hx hb dX12_count_2 rfl (lv_at hl 1 rfl) ?_
  refine r_get hx hb hts ok_RX12 hown hK hP 0 rfl rfl 1 (by decide) w_1294 (fun _ h9 => h9) rfl dX12_count_3 ?_
  refine lv_iconst (v := nI 3) hx hb dX12_count_6 (by decide +kernel) ?_
  refine k_q (wr := [(h0, .inr (12, [v0, .ref h1])), (h3, .inl (K 1, 20, .inl (fun _ => nI 0))), (h4, .inr (13, [v7, v8, .int (nI 1)])), (h5, .inr (13, [v9, v10, .int (nI 0)]))]) (run_V (rest := []) hx hb hml hown hts hK hP hD hS hA hm (C259_in l G D K s.heap.size h1 h2 (.ref h4) (v1) (.ref h5) (.ref h3) (.int (nI 0)) (.int (nI 0)) (.int (nI 60)) (.int (nI 0)) (v2) (v3) (.int (nI 0)) (.int (nI 0)) (.int (nI 0)) (.int (nI 0)) (v4) (v5) (v6)) [1, 2] rfl rfl mok_yX10_in w_2033 w_1368 w_1369 (rcv hK hP 1 rfl rfl rfl) ⟨Nat.le_of_ble_eq_true rfl, Nat.le_of_ble_eq_true rfl⟩ rfl hl.1 rfl (Nat.le_of_ble_eq_true rfl) dX12_count_7 ⟨(Nat.le_of_ble_eq_true rfl), (Nat.le_of_ble_eq_true rfl)⟩) hP hD hS hA [1, 2] [0, 3, 4, 5] rfl rfl rfl (by decide) (w2 := fun u0 => [(h0, .inr (12, [v0, .ref h1])), (h3, .inl (K 1, 20, .inl (fun _ => nI 0))), (h4, .inr (13, [v7, v8, .int (nI 1)])), (h5, .inr (13, [v9, v10, .int (nI 0)])), (h1, .inr (10, [.ref h2, .ref h4, v1, .ref h5, .ref h3, .int (nI 0), .int (nI 0), .int (nI 60), .int (nI 0), v2, v3, .int (nI 0), .int (nI 0), .int (nI 0), .int (nI 0), v4, v5])), ((u0 0), .inr (13, [.int (nI 0), .ref (G 0), .int (nI 0)])), ((u0 1), .inr (14, [.int (nI 0), .int (-1), .int (nI 0), .ref h2])), (h2, .inr (13, [.int (nI 0), v6, .int (nI 0)]))]) (fun _ => rfl) (fun u0 H locs hP hD hS => ?_)
  refine w_tov (y := .ref (u0 0)) rfl ?_
  refine k_q (wr := [(h0, .inr (12, [v0, .ref h1])), (h3, .inl (K 1, 20, .inl (fun _ => nI 0))), (h4, .inr (13, [v7, v8, .int (nI 1)])), (h5, .inr (13, [v9, v10, .int (nI 0)])), (h1, .inr (10, [.ref h2, .ref h4, v1, .ref h5, .ref h3, .int (nI 0), .int (nI 0), .int (nI 60), .int (nI 0), v2, v3, .int (nI 0), .int (nI 0), .int (nI 0), .int (nI 0), v4, v5])), ((u0 1), .inr (14, [.int (nI 0), .int (-1), .int (nI 0), .ref h2])), (h2, .inr (13, [.int (nI 0), v6, .int (nI 0)]))]) (run_V (rest := []) hx hb hml hown hts hK hP hD hS hA hm (C257_iterator l G D K H.size (u0 0) (.ref (G 0)) (.int (nI 0))) [5] rfl rfl mok_yJx4a65c_iterator_32c93 w_2034 w_1372 w_1373 (rcv hK hP 5 rfl rfl rfl) ⟨Nat.le_of_ble_eq_true rfl, Nat.le_of_ble_eq_true rfl⟩ rfl hl.1 rfl (Nat.le_of_ble_eq_true rfl) dX12_count_10 ⟨(Nat.le_of_ble_eq_true rfl), (Nat.le_of_ble_eq_true rfl)⟩) hP hD hS hA [5] [0, 1, 2, 3, 4, 6, 7] rfl rfl rfl (by decide) (w2 := fun u1 => [(h0, .inr (12, [v0, .ref h1])), (h3, .inl (K 1, 20, .inl (fun _ => nI 0))), (h4, .inr (13, [v7, v8, .int (nI 1)])), (h5, .inr (13, [v9, v10, .int (nI 0)])), (h1, .inr (10, [.ref h2, .ref h4, v1, .ref h5, .ref h3, .int (nI 0), .int (nI 0), .int (nI 60), .int (nI 0), v2, v3, .int (nI 0), .int (nI 0), .int (nI 0), .int (nI 0), v4, v5])), ((u0 1), .inr (14, [.int (nI 0), .int (-1), .int (nI 0), .ref h2])), (h2, .inr (13, [.int (nI 0), v6, .int (nI 0)])), ((u1 0), .inr (14, [.int (nI 0), .int (-1), .int (nI 0), .ref (u0 0)])), ((u0 0), .inr (13, [.int (nI 0), .ref (G 0), .int (nI 0)]))]) (fun _ => rfl) (fun u1 H locs hP hD hS => ?_)
  refine w_tov (y := .ref (u1 0)) rfl ?_
  refine lv_astore_n (lv' := [(3, .ref (u1 0)), (2, .int (nI 0)), (0, .ref h0), (1, .int (nI 14))]) hx hb dX12_count_13 rfl hl (by decide) rfl (fun ls hl => ?_)
  refine lv_aload_n hx hb dX12_count_14 rfl (lv_at hl 0 rfl) ?_
  refine k5_i (wr := [(h0, .inr (12, [v0, .ref h1])), (h3, .inl (K 1, 20, .inl (fun _ => nI 0))), (h4, .inr (13, [v7, v8, .int (nI 1)])), (h5, .inr (13, [v9, v10, .int (nI 0)])), (h1, .inr (10, [.ref h2, .ref h4, v1, .ref h5, .ref h3, .int (nI 0), .int (nI 0), .int (nI 60), .int (nI 0), v2, v3, .int (nI 0), .int (nI 0), .int (nI 0), .int (nI 0), v4, v5])), ((u0 1), .inr (14, [.int (nI 0), .int (-1), .int (nI 0), .ref h2])), (h2, .inr (13, [.int (nI 0), v6, .int (nI 0)]))]) (run_F (rest := []) hx hb hml hown hts hK hP hD hS hA hm (C258_hasNext l G D K H.size (u1 0) (u0 0) (.int (-1)) (.int (nI 0)) (.int (nI 0)) (.ref (G 0))) [7, 8] rfl rfl mok_yJx35411_hasNext_aae02 w_2036 w_1399 w_1401 hm.2.2.2.2.2.2.1 7 rfl rfl rfl (by decide +kernel) ⟨Nat.le_of_ble_eq_true rfl, Nat.le_of_ble_eq_true rfl⟩ rfl hl.1 rfl (Nat.le_of_ble_eq_true rfl) dX12_count_15 ⟨(Nat.le_of_ble_eq_true rfl), (Nat.le_of_ble_eq_true rfl)⟩) hP hD hS hA [7, 8] [0, 1, 2, 3, 4, 5, 6] rfl rfl rfl (by decide) (w2 := fun u2 => [(h0, .inr (12, [v0, .ref h1])), (h3, .inl (K 1, 20, .inl (fun _ => nI 0))), (h4, .inr (13, [v7, v8, .int (nI 1)])), (h5, .inr (13, [v9, v10, .int (nI 0)])), (h1, .inr (10, [.ref h2, .ref h4, v1, .ref h5, .ref h3, .int (nI 0), .int (nI 0), .int (nI 60), .int (nI 0), v2, v3, .int (nI 0), .int (nI 0), .int (nI 0), .int (nI 0), v4, v5])), ((u0 1), .inr (14, [.int (nI 0), .int (-1), .int (nI 0), .ref h2])), (h2, .inr (13, [.int (nI 0), v6, .int (nI 0)])), ((u1 0), .inr (14, [.int (nI 0), .int (-1), .int (nI 0), .ref (u0 0)])), ((u0 0), .inr (13, [.int (nI 0), .ref (G 0), .int (nI 0)]))]) (fun _ => rfl) (fun u2 H locs hP hD hS => ?_)
  refine lv_if_eq (tgt := 45) hx hb dX12_count_20 (by decide) (fun _ => ?_) (fun c9 => absurd (by decide +kernel) c9)
  refine lv_iconst (v := nI 0) hx hb dX12_count_45 (by decide +kernel) ?_
  refine lv_istore_n (lv' := [(3, .int (nI 0)), (2, .int (nI 0)), (0, .ref h0), (1, .int (nI 14))]) hx hb dX12_count_46 rfl hl (by decide) rfl (fun ls hl => ?_)
  refine lv_aload_n hx hb dX12_count_47 rfl (lv_at hl 2 rfl) ?_
  refine r_get hx hb hts ok_RX12 hown hK hP 0 rfl rfl 1 (by decide) w_1294 (fun _ h9 => h9) rfl dX12_count_48 ?_
  refine r_get hx hb hts ok_RX10 hown hK hP 4 rfl rfl 4 (by decide) w_1233 (fun _ h9 => h9) rfl dX12_count_51 ?_
  refine lv_astore (lv' := [(4, .ref h3), (3, .int (nI 0)), (2, .int (nI 0)), (0, .ref h0), (1, .int (nI 14))]) hx hb dX12_count_54 hl (by decide) rfl (fun ls hl => ?_)
  refine lv_aload hx hb dX12_count_56 (lv_at hl 0 rfl) ?_
  refine r_alen (n := 20) hx hb hK hP 1 1 rfl rfl rfl dX12_count_58 ?_
  refine lv_istore (lv' := [(5, .int (nI 20)), (4, .ref h3), (3, .int (nI 0)), (2, .int (nI 0)), (0, .ref h0), (1, .int (nI 14))]) hx hb dX12_count_59 hl (by decide) rfl (fun ls hl => ?_)
  refine lv_iconst (v := nI 0) hx hb dX12_count_61 (by decide +kernel) ?_
  refine lv_istore (lv' := [(6, .int (nI 0)), (5, .int (nI 20)), (4, .ref h3), (3, .int (nI 0)), (2, .int (nI 0)), (0, .ref h0), (1, .int (nI 14))]) hx hb dX12_count_62 hl (by decide) rfl (fun ls hl => ?_)
  refine lv_iload hx hb dX12_count_64 (lv_at hl 0 rfl) ?_
  refine lv_iload hx hb dX12_count_66 (lv_at hl 1 rfl) ?_
  refine lv_icmp_ge (tgt := 97) hx hb dX12_count_68 (by decide) (fun c9 => absurd c9 (by decide +kernel)) (fun _ => ?_)
  refine lv_aload hx hb dX12_count_71 (lv_at hl 2 rfl) ?_
  refine lv_iload hx hb dX12_count_73 (lv_at hl 0 rfl) ?_
  refine r_zald (k := 0) hx hb hK hP 1 1 rfl rfl (Nat.le_of_ble_eq_true rfl) (by decide) (v := nI 0) rfl dX12_count_75 ?_
  refine lv_istore (lv' := [(7, .int (nI 0)), (6, .int (nI 0)), (5, .int (nI 20)), (4, .ref h3), (3, .int (nI 0)), (2, .int (nI 0)), (0, .ref h0), (1, .int (nI 14))]) hx hb dX12_count_76 hl (by decide) rfl (fun ls hl => ?_)
  refine lv_iload_n hx hb dX12_count_78 rfl (lv_at hl 4 rfl) ?_
  refine lv_iload hx hb dX12_count_79 (lv_at hl 0 rfl) ?_
  refine lv_if_eq (tgt := 88) hx hb dX12_count_81 (by decide) (fun _ => ?_) (fun c9 => absurd (by decide +kernel) c9)
  refine lv_iconst (v := nI 0) hx hb dX12_count_88 (by decide +kernel) ?_
  refine lv_iadd hx hb dX12_count_89 ?_
  refine w_toeq (show (nI 0) + (nI 0) = nI 0 by decide +kernel) ?_
  refine lv_istore_n (lv' := [(3, .int (nI 0)), (7, .int (nI 0)), (6, .int (nI 0)), (5, .int (nI 20)), (4, .ref h3), (2, .int (nI 0)), (0, .ref h0), (1, .int (nI 14))]) hx hb dX12_count_90 rfl hl (by decide) rfl (fun ls hl => ?_)
  refine lv_iinc (v := nI 1) (lv' := [(6, .int (nI 1)), (3, .int (nI 0)), (7, .int (nI 0)), (5, .int (nI 20)), (4, .ref h3), (2, .int (nI 0)), (0, .ref h0), (1, .int (nI 14))]) hx hb dX12_count_91 hl (k := 2) rfl (by decide +kernel) (by decide) rfl (fun ls hl => ?_)
  refine lv_goto (tgt := 64) hx hb dX12_count_94 (by decide) ?_
  refine lv_iload hx hb dX12_count_64 (lv_at hl 0 rfl) ?_
  refine lv_iload hx hb dX12_count_66 (lv_at hl 3 rfl) ?_
  refine lv_icmp_ge (tgt := 97) hx hb dX12_count_68 (by decide) (fun c9 => absurd c9 (by decide +kernel)) (fun _ => ?_)
  refine lv_aload hx hb dX12_count_71 (lv_at hl 4 rfl) ?_
  refine lv_iload hx hb dX12_count_73 (lv_at hl 0 rfl) ?_
  refine r_zald (k := 1) hx hb hK hP 1 1 rfl rfl (Nat.le_of_ble_eq_true rfl) (by decide) (v := nI 0) rfl dX12_count_75 ?_
  refine lv_istore (lv' := [(7, .int (nI 0)), (6, .int (nI 1)), (3, .int (nI 0)), (5, .int (nI 20)), (4, .ref h3), (2, .int (nI 0)), (0, .ref h0), (1, .int (nI 14))]) hx hb dX12_count_76 hl (by decide) rfl (fun ls hl => ?_)
  refine lv_iload_n hx hb dX12_count_78 rfl (lv_at hl 2 rfl) ?_
  refine lv_iload hx hb dX12_count_79 (lv_at hl 0 rfl) ?_
  refine lv_if_eq (tgt := 88) hx hb dX12_count_81 (by decide) (fun _ => ?_) (fun c9 => absurd (by decide +kernel) c9)
  refine lv_iconst (v := nI 0) hx hb dX12_count_88 (by decide +kernel) ?_
  refine lv_iadd hx hb dX12_count_89 ?_
  refine w_toeq (show (nI 0) + (nI 0) = nI 0 by decide +kernel) ?_
  refine lv_istore_n (lv' := [(3, .int (nI 0)), (7, .int (nI 0)), (6, .int (nI 1)), (5, .int (nI 20)), (4, .ref h3), (2, .int (nI 0)), (0, .ref h0), (1, .int (nI 14))]) hx hb dX12_count_90 rfl hl (by decide) rfl (fun ls hl => ?_)
  refine lv_iinc (v := nI 2) (lv' := [(6, .int (nI 2)), (3, .int (nI 0)), (7, .int (nI 0)), (5, .int (nI 20)), (4, .ref h3), (2, .int (nI 0)), (0, .ref h0), (1, .int (nI 14))]) hx hb dX12_count_91 hl (k := 2) rfl (by decide +kernel) (by decide) rfl (fun ls hl => ?_)
  refine lv_goto (tgt := 64) hx hb dX12_count_94 (by decide) ?_
  refine lv_iload hx hb dX12_count_64 (lv_at hl 0 rfl) ?_
  refine lv_iload hx hb dX12_count_66 (lv_at hl 3 rfl) ?_
  refine lv_icmp_ge (tgt := 97) hx hb dX12_count_68 (by decide) (fun c9 => absurd c9 (by decide +kernel)) (fun _ => ?_)
  refine lv_aload hx hb dX12_count_71 (lv_at hl 4 rfl) ?_
  refine lv_iload hx hb dX12_count_73 (lv_at hl 0 rfl) ?_
  refine r_zald (k := 2) hx hb hK hP 1 1 rfl rfl (Nat.le_of_ble_eq_true rfl) (by decide) (v := nI 0) rfl dX12_count_75 ?_
  refine lv_istore (lv' := [(7, .int (nI 0)), (6, .int (nI 2)), (3, .int (nI 0)), (5, .int (nI 20)), (4, .ref h3), (2, .int (nI 0)), (0, .ref h0), (1, .int (nI 14))]) hx hb dX12_count_76 hl (by decide) rfl (fun ls hl => ?_)
  refine lv_iload_n hx hb dX12_count_78 rfl (lv_at hl 2 rfl) ?_
  refine lv_iload hx hb dX12_count_79 (lv_at hl 0 rfl) ?_
  refine lv_if_eq (tgt := 88) hx hb dX12_count_81 (by decide) (fun _ => ?_) (fun c9 => absurd (by decide +kernel) c9)
  refine lv_iconst (v := nI 0) hx hb dX12_count_88 (by decide +kernel) ?_
  refine lv_iadd hx hb dX12_count_89 ?_
  refine w_toeq (show (nI 0) + (nI 0) = nI 0 by decide +kernel) ?_
  refine lv_istore_n (lv' := [(3, .int (nI 0)), (7, .int (nI 0)), (6, .int (nI 2)), (5, .int (nI 20)), (4, .ref h3), (2, .int (nI 0)), (0, .ref h0), (1, .int (nI 14))]) hx hb dX12_count_90 rfl hl (by decide) rfl (fun ls hl => ?_)
  refine lv_iinc (v := nI 3) (lv' := [(6, .int (nI 3)), (3, .int (nI 0)), (7, .int (nI 0)), (5, .int (nI 20)), (4, .ref h3), (2, .int (nI 0)), (0, .ref h0), (1, .int (nI 14))]) hx hb dX12_count_91 hl (k := 2) rfl (by decide +kernel) (by decide) rfl (fun ls hl => ?_)
  refine lv_goto (tgt := 64) hx hb dX12_count_94 (by decide) ?_
  refine lv_iload hx hb dX12_count_64 (lv_at hl 0 rfl) ?_
  refine lv_iload hx hb dX12_count_66 (lv_at hl 3 rfl) ?_
  refine lv_icmp_ge (tgt := 97) hx hb dX12_count_68 (by decide) (fun c9 => absurd c9 (by decide +kernel)) (fun _ => ?_)
  refine lv_aload hx hb dX12_count_71 (lv_at hl 4 rfl) ?_
  refine lv_iload hx hb dX12_count_73 (lv_at hl 0 rfl) ?_
  refine r_zald (k := 3) hx hb hK hP 1 1 rfl rfl (Nat.le_of_ble_eq_true rfl) (by decide) (v := nI 0) rfl dX12_count_75 ?_
  refine lv_istore (lv' := [(7, .int (nI 0)), (6, .int (nI 3)), (3, .int (nI 0)), (5, .int (nI 20)), (4, .ref h3), (2, .int (nI 0)), (0, .ref h0), (1, .int (nI 14))]) hx hb dX12_count_76 hl (by decide) rfl (fun ls hl => ?_)
  refine lv_iload_n hx hb dX12_count_78 rfl (lv_at hl 2 rfl) ?_
  refine lv_iload hx hb dX12_count_79 (lv_at hl 0 rfl) ?_
  refine lv_if_eq (tgt := 88) hx hb dX12_count_81 (by decide) (fun _ => ?_) (fun c9 => absurd (by decide +kernel) c9)
  refine lv_iconst (v := nI 0) hx hb dX12_count_88 (by decide +kernel) ?_
  refine lv_iadd hx hb dX12_count_89 ?_
  refine w_toeq (show (nI 0) + (nI 0) = nI 0 by decide +kernel) ?_
  refine lv_istore_n (lv' := [(3, .int (nI 0)), (7, .int (nI 0)), (6, .int (nI 3)), (5, .int (nI 20)), (4, .ref h3), (2, .int (nI 0)), (0, .ref h0), (1, .int (nI 14))]) hx hb dX12_count_90 rfl hl (by decide) rfl (fun ls hl => ?_)
  refine lv_iinc (v := nI 4) (lv' := [(6, .int (nI 4)), (3, .int (nI 0)), (7, .int (nI 0)), (5, .int (nI 20)), (4, .ref h3), (2, .int (nI 0)), (0, .ref h0), (1, .int (nI 14))]) hx hb dX12_count_91 hl (k := 2) rfl (by decide +kernel) (by decide) rfl (fun ls hl => ?_)
  refine lv_goto (tgt := 64) hx hb dX12_count_94 (by decide) ?_
  refine lv_iload hx hb dX12_count_64 (lv_at hl 0 rfl) ?_
  refine lv_iload hx hb dX12_count_66 (lv_at hl 3 rfl) ?_
  refine lv_icmp_ge (tgt := 97) hx hb dX12_count_68 (by decide) (fun c9 => absurd c9 (by decide +kernel)) (fun _ => ?_)
  refine lv_aload hx hb dX12_count_71 (lv_at hl 4 rfl) ?_
  refine lv_iload hx hb dX12_count_73 (lv_at hl 0 rfl) ?_
  refine r_zald (k := 4) hx hb hK hP 1 1 rfl rfl (Nat.le_of_ble_eq_true rfl) (by decide) (v := nI 0) rfl dX12_count_75 ?_
  refine lv_istore (lv' := [(7, .int (nI 0)), (6, .int (nI 4)), (3, .int (nI 0)), (5, .int (nI 20)), (4, .ref h3), (2, .int (nI 0)), (0, .ref h0), (1, .int (nI 14))]) hx hb dX12_count_76 hl (by decide) rfl (fun ls hl => ?_)
  refine lv_iload_n hx hb dX12_count_78 rfl (lv_at hl 2 rfl) ?_
  refine lv_iload hx hb dX12_count_79 (lv_at hl 0 rfl) ?_
  refine lv_if_eq (tgt := 88) hx hb dX12_count_81 (by decide) (fun _ => ?_) (fun c9 => absurd (by decide +kernel) c9)
  refine lv_iconst (v := nI 0) hx hb dX12_count_88 (by decide +kernel) ?_
  refine lv_iadd hx hb dX12_count_89 ?_
  refine w_toeq (show (nI 0) + (nI 0) = nI 0 by decide +kernel) ?_
  refine lv_istore_n (lv' := [(3, .int (nI 0)), (7, .int (nI 0)), (6, .int (nI 4)), (5, .int (nI 20)), (4, .ref h3), (2, .int (nI 0)), (0, .ref h0), (1, .int (nI 14))]) hx hb dX12_count_90 rfl hl (by decide) rfl (fun ls hl => ?_)
  refine lv_iinc (v := nI 5) (lv' := [(6, .int (nI 5)), (3, .int (nI 0)), (7, .int (nI 0)), (5, .int (nI 20)), (4, .ref h3), (2, .int (nI 0)), (0, .ref h0), (1, .int (nI 14))]) hx hb dX12_count_91 hl (k := 2) rfl (by decide +kernel) (by decide) rfl (fun ls hl => ?_)
  refine lv_goto (tgt := 64) hx hb dX12_count_94 (by decide) ?_
  refine lv_iload hx hb dX12_count_64 (lv_at hl 0 rfl) ?_
  refine lv_iload hx hb dX12_count_66 (lv_at hl 3 rfl) ?_
  refine lv_icmp_ge (tgt := 97) hx hb dX12_count_68 (by decide) (fun c9 => absurd c9 (by decide +kernel)) (fun _ => ?_)
  refine lv_aload hx hb dX12_count_71 (lv_at hl 4 rfl) ?_
  refine lv_iload hx hb dX12_count_73 (lv_at hl 0 rfl) ?_
  refine r_zald (k := 5) hx hb hK hP 1 1 rfl rfl (Nat.le_of_ble_eq_true rfl) (by decide) (v := nI 0) rfl dX12_count_75 ?_
  refine lv_istore (lv' := [(7, .int (nI 0)), (6, .int (nI 5)), (3, .int (nI 0)), (5, .int (nI 20)), (4, .ref h3), (2, .int (nI 0)), (0, .ref h0), (1, .int (nI 14))]) hx hb dX12_count_76 hl (by decide) rfl (fun ls hl => ?_)
  refine lv_iload_n hx hb dX12_count_78 rfl (lv_at hl 2 rfl) ?_
  refine lv_iload hx hb dX12_count_79 (lv_at hl 0 rfl) ?_
  refine lv_if_eq (tgt := 88) hx hb dX12_count_81 (by decide) (fun _ => ?_) (fun c9 => absurd (by decide +kernel) c9)
  refine lv_iconst (v := nI 0) hx hb dX12_count_88 (by decide +kernel) ?_
  refine lv_iadd hx hb dX12_count_89 ?_
  refine w_toeq (show (nI 0) + (nI 0) = nI 0 by decide +kernel) ?_
  refine lv_istore_n (lv' := [(3, .int (nI 0)), (7, .int (nI 0)), (6, .int (nI 5)), (5, .int (nI 20)), (4, .ref h3), (2, .int (nI 0)), (0, .ref h0), (1, .int (nI 14))]) hx hb dX12_count_90 rfl hl (by decide) rfl (fun ls hl => ?_)
  refine lv_iinc (v := nI 6) (lv' := [(6, .int (nI 6)), (3, .int (nI 0)), (7, .int (nI 0)), (5, .int (nI 20)), (4, .ref h3), (2, .int (nI 0)), (0, .ref h0), (1, .int (nI 14))]) hx hb dX12_count_91 hl (k := 2) rfl (by decide +kernel) (by decide) rfl (fun ls hl => ?_)
  refine lv_goto (tgt := 64) hx hb dX12_count_94 (by decide) ?_
  refine lv_iload hx hb dX12_count_64 (lv_at hl 0 rfl) ?_
  refine lv_iload hx hb dX12_count_66 (lv_at hl 3 rfl) ?_
  refine lv_icmp_ge (tgt := 97) hx hb dX12_count_68 (by decide) (fun c9 => absurd c9 (by decide +kernel)) (fun _ => ?_)
  refine lv_aload hx hb dX12_count_71 (lv_at hl 4 rfl) ?_
  refine lv_iload hx hb dX12_count_73 (lv_at hl 0 rfl) ?_
  refine r_zald (k := 6) hx hb hK hP 1 1 rfl rfl (Nat.le_of_ble_eq_true rfl) (by decide) (v := nI 0) rfl dX12_count_75 ?_
  refine lv_istore (lv' := [(7, .int (nI 0)), (6, .int (nI 6)), (3, .int (nI 0)), (5, .int (nI 20)), (4, .ref h3), (2, .int (nI 0)), (0, .ref h0), (1, .int (nI 14))]) hx hb dX12_count_76 hl (by decide) rfl (fun ls hl => ?_)
  refine lv_iload_n hx hb dX12_count_78 rfl (lv_at hl 2 rfl) ?_
  refine lv_iload hx hb dX12_count_79 (lv_at hl 0 rfl) ?_
  refine lv_if_eq (tgt := 88) hx hb dX12_count_81 (by decide) (fun _ => ?_) (fun c9 => absurd (by decide +kernel) c9)
  refine lv_iconst (v := nI 0) hx hb dX12_count_88 (by decide +kernel) ?_
  refine lv_iadd hx hb dX12_count_89 ?_
  refine w_toeq (show (nI 0) + (nI 0) = nI 0 by decide +kernel) ?_
  refine lv_istore_n (lv' := [(3, .int (nI 0)), (7, .int (nI 0)), (6, .int (nI 6)), (5, .int (nI 20)), (4, .ref h3), (2, .int (nI 0)), (0, .ref h0), (1, .int (nI 14))]) hx hb dX12_count_90 rfl hl (by decide) rfl (fun ls hl => ?_)
  refine lv_iinc (v := nI 7) (lv' := [(6, .int (nI 7)), (3, .int (nI 0)), (7, .int (nI 0)), (5, .int (nI 20)), (4, .ref h3), (2, .int (nI 0)), (0, .ref h0), (1, .int (nI 14))]) hx hb dX12_count_91 hl (k := 2) rfl (by decide +kernel) (by decide) rfl (fun ls hl => ?_)
  refine lv_goto (tgt := 64) hx hb dX12_count_94 (by decide) ?_
  refine lv_iload hx hb dX12_count_64 (lv_at hl 0 rfl) ?_
  refine lv_iload hx hb dX12_count_66 (lv_at hl 3 rfl) ?_
  refine lv_icmp_ge (tgt := 97) hx hb dX12_count_68 (by decide) (fun c9 => absurd c9 (by decide +kernel)) (fun _ => ?_)
  refine lv_aload hx hb dX12_count_71 (lv_at hl 4 rfl) ?_
  refine lv_iload hx hb dX12_count_73 (lv_at hl 0 rfl) ?_
  refine r_zald (k := 7) hx hb hK hP 1 1 rfl rfl (Nat.le_of_ble_eq_true rfl) (by decide) (v := nI 0) rfl dX12_count_75 ?_
  refine lv_istore (lv' := [(7, .int (nI 0)), (6, .int (nI 7)), (3, .int (nI 0)), (5, .int (nI 20)), (4, .ref h3), (2, .int (nI 0)), (0, .ref h0), (1, .int (nI 14))]) hx hb dX12_count_76 hl (by decide) rfl (fun ls hl => ?_)
  refine lv_iload_n hx hb dX12_count_78 rfl (lv_at hl 2 rfl) ?_
  refine lv_iload hx hb dX12_count_79 (lv_at hl 0 rfl) ?_
  refine lv_if_eq (tgt := 88) hx hb dX12_count_81 (by decide) (fun _ => ?_) (fun c9 => absurd (by decide +kernel) c9)
  refine lv_iconst (v := nI 0) hx hb dX12_count_88 (by decide +kernel) ?_
  refine lv_iadd hx hb dX12_count_89 ?_
  refine w_toeq (show (nI 0) + (nI 0) = nI 0 by decide +kernel) ?_
  refine lv_istore_n (lv' := [(3, .int (nI 0)), (7, .int (nI 0)), (6, .int (nI 7)), (5, .int (nI 20)), (4, .ref h3), (2, .int (nI 0)), (0, .ref h0), (1, .int (nI 14))]) hx hb dX12_count_90 rfl hl (by decide) rfl (fun ls hl => ?_)
  refine lv_iinc (v := nI 8) (lv' := [(6, .int (nI 8)), (3, .int (nI 0)), (7, .int (nI 0)), (5, .int (nI 20)), (4, .ref h3), (2, .int (nI 0)), (0, .ref h0), (1, .int (nI 14))]) hx hb dX12_count_91 hl (k := 2) rfl (by decide +kernel) (by decide) rfl (fun ls hl => ?_)
  refine lv_goto (tgt := 64) hx hb dX12_count_94 (by decide) ?_
  refine lv_iload hx hb dX12_count_64 (lv_at hl 0 rfl) ?_
  refine lv_iload hx hb dX12_count_66 (lv_at hl 3 rfl) ?_
  refine lv_icmp_ge (tgt := 97) hx hb dX12_count_68 (by decide) (fun c9 => absurd c9 (by decide +kernel)) (fun _ => ?_)
  refine lv_aload hx hb dX12_count_71 (lv_at hl 4 rfl) ?_
  refine lv_iload hx hb dX12_count_73 (lv_at hl 0 rfl) ?_
  refine r_zald (k := 8) hx hb hK hP 1 1 rfl rfl (Nat.le_of_ble_eq_true rfl) (by decide) (v := nI 0) rfl dX12_count_75 ?_
  refine lv_istore (lv' := [(7, .int (nI 0)), (6, .int (nI 8)), (3, .int (nI 0)), (5, .int (nI 20)), (4, .ref h3), (2, .int (nI 0)), (0, .ref h0), (1, .int (nI 14))]) hx hb dX12_count_76 hl (by decide) rfl (fun ls hl => ?_)
  refine lv_iload_n hx hb dX12_count_78 rfl (lv_at hl 2 rfl) ?_
  refine lv_iload hx hb dX12_count_79 (lv_at hl 0 rfl) ?_
  refine lv_if_eq (tgt := 88) hx hb dX12_count_81 (by decide) (fun _ => ?_) (fun c9 => absurd (by decide +kernel) c9)
  refine lv_iconst (v := nI 0) hx hb dX12_count_88 (by decide +kernel) ?_
  refine lv_iadd hx hb dX12_count_89 ?_
  refine w_toeq (show (nI 0) + (nI 0) = nI 0 by decide +kernel) ?_
  refine lv_istore_n (lv' := [(3, .int (nI 0)), (7, .int (nI 0)), (6, .int (nI 8)), (5, .int (nI 20)), (4, .ref h3), (2, .int (nI 0)), (0, .ref h0), (1, .int (nI 14))]) hx hb dX12_count_90 rfl hl (by decide) rfl (fun ls hl => ?_)
  refine lv_iinc (v := nI 9) (lv' := [(6, .int (nI 9)), (3, .int (nI 0)), (7, .int (nI 0)), (5, .int (nI 20)), (4, .ref h3), (2, .int (nI 0)), (0, .ref h0), (1, .int (nI 14))]) hx hb dX12_count_91 hl (k := 2) rfl (by decide +kernel) (by decide) rfl (fun ls hl => ?_)
  refine lv_goto (tgt := 64) hx hb dX12_count_94 (by decide) ?_
  refine lv_iload hx hb dX12_count_64 (lv_at hl 0 rfl) ?_
  refine lv_iload hx hb dX12_count_66 (lv_at hl 3 rfl) ?_
  refine lv_icmp_ge (tgt := 97) hx hb dX12_count_68 (by decide) (fun c9 => absurd c9 (by decide +kernel)) (fun _ => ?_)
  refine lv_aload hx hb dX12_count_71 (lv_at hl 4 rfl) ?_
  refine lv_iload hx hb dX12_count_73 (lv_at hl 0 rfl) ?_
  refine r_zald (k := 9) hx hb hK hP 1 1 rfl rfl (Nat.le_of_ble_eq_true rfl) (by decide) (v := nI 0) rfl dX12_count_75 ?_
  refine lv_istore (lv' := [(7, .int (nI 0)), (6, .int (nI 9)), (3, .int (nI 0)), (5, .int (nI 20)), (4, .ref h3), (2, .int (nI 0)), (0, .ref h0), (1, .int (nI 14))]) hx hb dX12_count_76 hl (by decide) rfl (fun ls hl => ?_)
  refine lv_iload_n hx hb dX12_count_78 rfl (lv_at hl 2 rfl) ?_
  refine lv_iload hx hb dX12_count_79 (lv_at hl 0 rfl) ?_
  refine lv_if_eq (tgt := 88) hx hb dX12_count_81 (by decide) (fun _ => ?_) (fun c9 => absurd (by decide +kernel) c9)
  refine lv_iconst (v := nI 0) hx hb dX12_count_88 (by decide +kernel) ?_
  refine lv_iadd hx hb dX12_count_89 ?_
  refine w_toeq (show (nI 0) + (nI 0) = nI 0 by decide +kernel) ?_
  refine lv_istore_n (lv' := [(3, .int (nI 0)), (7, .int (nI 0)), (6, .int (nI 9)), (5, .int (nI 20)), (4, .ref h3), (2, .int (nI 0)), (0, .ref h0), (1, .int (nI 14))]) hx hb dX12_count_90 rfl hl (by decide) rfl (fun ls hl => ?_)
  refine lv_iinc (v := nI 10) (lv' := [(6, .int (nI 10)), (3, .int (nI 0)), (7, .int (nI 0)), (5, .int (nI 20)), (4, .ref h3), (2, .int (nI 0)), (0, .ref h0), (1, .int (nI 14))]) hx hb dX12_count_91 hl (k := 2) rfl (by decide +kernel) (by decide) rfl (fun ls hl => ?_)
  refine lv_goto (tgt := 64) hx hb dX12_count_94 (by decide) ?_
  refine lv_iload hx hb dX12_count_64 (lv_at hl 0 rfl) ?_
  refine lv_iload hx hb dX12_count_66 (lv_at hl 3 rfl) ?_
  refine lv_icmp_ge (tgt := 97) hx hb dX12_count_68 (by decide) (fun c9 => absurd c9 (by decide +kernel)) (fun _ => ?_)
  refine lv_aload hx hb dX12_count_71 (lv_at hl 4 rfl) ?_
  refine lv_iload hx hb dX12_count_73 (lv_at hl 0 rfl) ?_
  refine r_zald (k := 10) hx hb hK hP 1 1 rfl rfl (Nat.le_of_ble_eq_true rfl) (by decide) (v := nI 0) rfl dX12_count_75 ?_
  refine lv_istore (lv' := [(7, .int (nI 0)), (6, .int (nI 10)), (3, .int (nI 0)), (5, .int (nI 20)), (4, .ref h3), (2, .int (nI 0)), (0, .ref h0), (1, .int (nI 14))]) hx hb dX12_count_76 hl (by decide) rfl (fun ls hl => ?_)
  refine lv_iload_n hx hb dX12_count_78 rfl (lv_at hl 2 rfl) ?_
  refine lv_iload hx hb dX12_count_79 (lv_at hl 0 rfl) ?_
  refine lv_if_eq (tgt := 88) hx hb dX12_count_81 (by decide) (fun _ => ?_) (fun c9 => absurd (by decide +kernel) c9)
  refine lv_iconst (v := nI 0) hx hb dX12_count_88 (by decide +kernel) ?_
  refine lv_iadd hx hb dX12_count_89 ?_
  refine w_toeq (show (nI 0) + (nI 0) = nI 0 by decide +kernel) ?_
  refine lv_istore_n (lv' := [(3, .int (nI 0)), (7, .int (nI 0)), (6, .int (nI 10)), (5, .int (nI 20)), (4, .ref h3), (2, .int (nI 0)), (0, .ref h0), (1, .int (nI 14))]) hx hb dX12_count_90 rfl hl (by decide) rfl (fun ls hl => ?_)
  refine lv_iinc (v := nI 11) (lv' := [(6, .int (nI 11)), (3, .int (nI 0)), (7, .int (nI 0)), (5, .int (nI 20)), (4, .ref h3), (2, .int (nI 0)), (0, .ref h0), (1, .int (nI 14))]) hx hb dX12_count_91 hl (k := 2) rfl (by decide +kernel) (by decide) rfl (fun ls hl => ?_)
  refine lv_goto (tgt := 64) hx hb dX12_count_94 (by decide) ?_
  refine lv_iload hx hb dX12_count_64 (lv_at hl 0 rfl) ?_
  refine lv_iload hx hb dX12_count_66 (lv_at hl 3 rfl) ?_
  refine lv_icmp_ge (tgt := 97) hx hb dX12_count_68 (by decide) (fun c9 => absurd c9 (by decide +kernel)) (fun _ => ?_)
  refine lv_aload hx hb dX12_count_71 (lv_at hl 4 rfl) ?_
  refine lv_iload hx hb dX12_count_73 (lv_at hl 0 rfl) ?_
  refine r_zald (k := 11) hx hb hK hP 1 1 rfl rfl (Nat.le_of_ble_eq_true rfl) (by decide) (v := nI 0) rfl dX12_count_75 ?_
  refine lv_istore (lv' := [(7, .int (nI 0)), (6, .int (nI 11)), (3, .int (nI 0)), (5, .int (nI 20)), (4, .ref h3), (2, .int (nI 0)), (0, .ref h0), (1, .int (nI 14))]) hx hb dX12_count_76 hl (by decide) rfl (fun ls hl => ?_)
  refine lv_iload_n hx hb dX12_count_78 rfl (lv_at hl 2 rfl) ?_
  refine lv_iload hx hb dX12_count_79 (lv_at hl 0 rfl) ?_
  refine lv_if_eq (tgt := 88) hx hb dX12_count_81 (by decide) (fun _ => ?_) (fun c9 => absurd (by decide +kernel) c9)
  refine lv_iconst (v := nI 0) hx hb dX12_count_88 (by decide +kernel) ?_
  refine lv_iadd hx hb dX12_count_89 ?_
  refine w_toeq (show (nI 0) + (nI 0) = nI 0 by decide +kernel) ?_
  refine lv_istore_n (lv' := [(3, .int (nI 0)), (7, .int (nI 0)), (6, .int (nI 11)), (5, .int (nI 20)), (4, .ref h3), (2, .int (nI 0)), (0, .ref h0), (1, .int (nI 14))]) hx hb dX12_count_90 rfl hl (by decide) rfl (fun ls hl => ?_)
  refine lv_iinc (v := nI 12) (lv' := [(6, .int (nI 12)), (3, .int (nI 0)), (7, .int (nI 0)), (5, .int (nI 20)), (4, .ref h3), (2, .int (nI 0)), (0, .ref h0), (1, .int (nI 14))]) hx hb dX12_count_91 hl (k := 2) rfl (by decide +kernel) (by decide) rfl (fun ls hl => ?_)
  refine lv_goto (tgt := 64) hx hb dX12_count_94 (by decide) ?_
  refine lv_iload hx hb dX12_count_64 (lv_at hl 0 rfl) ?_
  refine lv_iload hx hb dX12_count_66 (lv_at hl 3 rfl) ?_
  refine lv_icmp_ge (tgt := 97) hx hb dX12_count_68 (by decide) (fun c9 => absurd c9 (by decide +kernel)) (fun _ => ?_)
  refine lv_aload hx hb dX12_count_71 (lv_at hl 4 rfl) ?_
  refine lv_iload hx hb dX12_count_73 (lv_at hl 0 rfl) ?_
  refine r_zald (k := 12) hx hb hK hP 1 1 rfl rfl (Nat.le_of_ble_eq_true rfl) (by decide) (v := nI 0) rfl dX12_count_75 ?_
  refine lv_istore (lv' := [(7, .int (nI 0)), (6, .int (nI 12)), (3, .int (nI 0)), (5, .int (nI 20)), (4, .ref h3), (2, .int (nI 0)), (0, .ref h0), (1, .int (nI 14))]) hx hb dX12_count_76 hl (by decide) rfl (fun ls hl => ?_)
  refine lv_iload_n hx hb dX12_count_78 rfl (lv_at hl 2 rfl) ?_
  refine lv_iload hx hb dX12_count_79 (lv_at hl 0 rfl) ?_
  refine lv_if_eq (tgt := 88) hx hb dX12_count_81 (by decide) (fun _ => ?_) (fun c9 => absurd (by decide +kernel) c9)
  refine lv_iconst (v := nI 0) hx hb dX12_count_88 (by decide +kernel) ?_
  refine lv_iadd hx hb dX12_count_89 ?_
  refine w_toeq (show (nI 0) + (nI 0) = nI 0 by decide +kernel) ?_
  refine lv_istore_n (lv' := [(3, .int (nI 0)), (7, .int (nI 0)), (6, .int (nI 12)), (5, .int (nI 20)), (4, .ref h3), (2, .int (nI 0)), (0, .ref h0), (1, .int (nI 14))]) hx hb dX12_count_90 rfl hl (by decide) rfl (fun ls hl => ?_)
  refine lv_iinc (v := nI 13) (lv' := [(6, .int (nI 13)), (3, .int (nI 0)), (7, .int (nI 0)), (5, .int (nI 20)), (4, .ref h3), (2, .int (nI 0)), (0, .ref h0), (1, .int (nI 14))]) hx hb dX12_count_91 hl (k := 2) rfl (by decide +kernel) (by decide) rfl (fun ls hl => ?_)
  refine lv_goto (tgt := 64) hx hb dX12_count_94 (by decide) ?_
  refine lv_iload hx hb dX12_count_64 (lv_at hl 0 rfl) ?_
  refine lv_iload hx hb dX12_count_66 (lv_at hl 3 rfl) ?_
  refine lv_icmp_ge (tgt := 97) hx hb dX12_count_68 (by decide) (fun c9 => absurd c9 (by decide +kernel)) (fun _ => ?_)
  refine lv_aload hx hb dX12_count_71 (lv_at hl 4 rfl) ?_
  refine lv_iload hx hb dX12_count_73 (lv_at hl 0 rfl) ?_
  refine r_zald (k := 13) hx hb hK hP 1 1 rfl rfl (Nat.le_of_ble_eq_true rfl) (by decide) (v := nI 0) rfl dX12_count_75 ?_
  refine lv_istore (lv' := [(7, .int (nI 0)), (6, .int (nI 13)), (3, .int (nI 0)), (5, .int (nI 20)), (4, .ref h3), (2, .int (nI 0)), (0, .ref h0), (1, .int (nI 14))]) hx hb dX12_count_76 hl (by decide) rfl (fun ls hl => ?_)
  refine lv_iload_n hx hb dX12_count_78 rfl (lv_at hl 2 rfl) ?_
  refine lv_iload hx hb dX12_count_79 (lv_at hl 0 rfl) ?_
  refine lv_if_eq (tgt := 88) hx hb dX12_count_81 (by decide) (fun _ => ?_) (fun c9 => absurd (by decide +kernel) c9)
  refine lv_iconst (v := nI 0) hx hb dX12_count_88 (by decide +kernel) ?_
  refine lv_iadd hx hb dX12_count_89 ?_
  refine w_toeq (show (nI 0) + (nI 0) = nI 0 by decide +kernel) ?_
  refine lv_istore_n (lv' := [(3, .int (nI 0)), (7, .int (nI 0)), (6, .int (nI 13)), (5, .int (nI 20)), (4, .ref h3), (2, .int (nI 0)), (0, .ref h0), (1, .int (nI 14))]) hx hb dX12_count_90 rfl hl (by decide) rfl (fun ls hl => ?_)
  refine lv_iinc (v := nI 14) (lv' := [(6, .int (nI 14)), (3, .int (nI 0)), (7, .int (nI 0)), (5, .int (nI 20)), (4, .ref h3), (2, .int (nI 0)), (0, .ref h0), (1, .int (nI 14))]) hx hb dX12_count_91 hl (k := 2) rfl (by decide +kernel) (by decide) rfl (fun ls hl => ?_)
  refine lv_goto (tgt := 64) hx hb dX12_count_94 (by decide) ?_
  refine lv_iload hx hb dX12_count_64 (lv_at hl 0 rfl) ?_
  refine lv_iload hx hb dX12_count_66 (lv_at hl 3 rfl) ?_
  refine lv_icmp_ge (tgt := 97) hx hb dX12_count_68 (by decide) (fun c9 => absurd c9 (by decide +kernel)) (fun _ => ?_)
  refine lv_aload hx hb dX12_count_71 (lv_at hl 4 rfl) ?_
  refine lv_iload hx hb dX12_count_73 (lv_at hl 0 rfl) ?_
  refine r_zald (k := 14) hx hb hK hP 1 1 rfl rfl (Nat.le_of_ble_eq_true rfl) (by decide) (v := nI 0) rfl dX12_count_75 ?_
  refine lv_istore (lv' := [(7, .int (nI 0)), (6, .int (nI 14)), (3, .int (nI 0)), (5, .int (nI 20)), (4, .ref h3), (2, .int (nI 0)), (0, .ref h0), (1, .int (nI 14))]) hx hb dX12_count_76 hl (by decide) rfl (fun ls hl => ?_)
  refine lv_iload_n hx hb dX12_count_78 rfl (lv_at hl 2 rfl) ?_
  refine lv_iload hx hb dX12_count_79 (lv_at hl 0 rfl) ?_
  refine lv_if_eq (tgt := 88) hx hb dX12_count_81 (by decide) (fun _ => ?_) (fun c9 => absurd (by decide +kernel) c9)
  refine lv_iconst (v := nI 0) hx hb dX12_count_88 (by decide +kernel) ?_
  refine lv_iadd hx hb dX12_count_89 ?_
  refine w_toeq (show (nI 0) + (nI 0) = nI 0 by decide +kernel) ?_
  refine lv_istore_n (lv' := [(3, .int (nI 0)), (7, .int (nI 0)), (6, .int (nI 14)), (5, .int (nI 20)), (4, .ref h3), (2, .int (nI 0)), (0, .ref h0), (1, .int (nI 14))]) hx hb dX12_count_90 rfl hl (by decide) rfl (fun ls hl => ?_)
  refine lv_iinc (v := nI 15) (lv' := [(6, .int (nI 15)), (3, .int (nI 0)), (7, .int (nI 0)), (5, .int (nI 20)), (4, .ref h3), (2, .int (nI 0)), (0, .ref h0), (1, .int (nI 14))]) hx hb dX12_count_91 hl (k := 2) rfl (by decide +kernel) (by decide) rfl (fun ls hl => ?_)
  refine lv_goto (tgt := 64) hx hb dX12_count_94 (by decide) ?_
  refine lv_iload hx hb dX12_count_64 (lv_at hl 0 rfl) ?_
  refine lv_iload hx hb dX12_count_66 (lv_at hl 3 rfl) ?_
  refine lv_icmp_ge (tgt := 97) hx hb dX12_count_68 (by decide) (fun c9 => absurd c9 (by decide +kernel)) (fun _ => ?_)
  refine lv_aload hx hb dX12_count_71 (lv_at hl 4 rfl) ?_
  refine lv_iload hx hb dX12_count_73 (lv_at hl 0 rfl) ?_
  refine r_zald (k := 15) hx hb hK hP 1 1 rfl rfl (Nat.le_of_ble_eq_true rfl) (by decide) (v := nI 0) rfl dX12_count_75 ?_
  refine lv_istore (lv' := [(7, .int (nI 0)), (6, .int (nI 15)), (3, .int (nI 0)), (5, .int (nI 20)), (4, .ref h3), (2, .int (nI 0)), (0, .ref h0), (1, .int (nI 14))]) hx hb dX12_count_76 hl (by decide) rfl (fun ls hl => ?_)
  refine lv_iload_n hx hb dX12_count_78 rfl (lv_at hl 2 rfl) ?_
  refine lv_iload hx hb dX12_count_79 (lv_at hl 0 rfl) ?_
  refine lv_if_eq (tgt := 88) hx hb dX12_count_81 (by decide) (fun _ => ?_) (fun c9 => absurd (by decide +kernel) c9)
  refine lv_iconst (v := nI 0) hx hb dX12_count_88 (by decide +kernel) ?_
  refine lv_iadd hx hb dX12_count_89 ?_
  refine w_toeq (show (nI 0) + (nI 0) = nI 0 by decide +kernel) ?_
  refine lv_istore_n (lv' := [(3, .int (nI 0)), (7, .int (nI 0)), (6, .int (nI 15)), (5, .int (nI 20)), (4, .ref h3), (2, .int (nI 0)), (0, .ref h0), (1, .int (nI 14))]) hx hb dX12_count_90 rfl hl (by decide) rfl (fun ls hl => ?_)
  refine lv_iinc (v := nI 16) (lv' := [(6, .int (nI 16)), (3, .int (nI 0)), (7, .int (nI 0)), (5, .int (nI 20)), (4, .ref h3), (2, .int (nI 0)), (0, .ref h0), (1, .int (nI 14))]) hx hb dX12_count_91 hl (k := 2) rfl (by decide +kernel) (by decide) rfl (fun ls hl => ?_)
  refine lv_goto (tgt := 64) hx hb dX12_count_94 (by decide) ?_
  refine lv_iload hx hb dX12_count_64 (lv_at hl 0 rfl) ?_
  refine lv_iload hx hb dX12_count_66 (lv_at hl 3 rfl) ?_
  refine lv_icmp_ge (tgt := 97) hx hb dX12_count_68 (by decide) (fun c9 => absurd c9 (by decide +kernel)) (fun _ => ?_)
  refine lv_aload hx hb dX12_count_71 (lv_at hl 4 rfl) ?_
  refine lv_iload hx hb dX12_count_73 (lv_at hl 0 rfl) ?_
  refine r_zald (k := 16) hx hb hK hP 1 1 rfl rfl (Nat.le_of_ble_eq_true rfl) (by decide) (v := nI 0) rfl dX12_count_75 ?_
  refine lv_istore (lv' := [(7, .int (nI 0)), (6, .int (nI 16)), (3, .int (nI 0)), (5, .int (nI 20)), (4, .ref h3), (2, .int (nI 0)), (0, .ref h0), (1, .int (nI 14))]) hx hb dX12_count_76 hl (by decide) rfl (fun ls hl => ?_)
  refine lv_iload_n hx hb dX12_count_78 rfl (lv_at hl 2 rfl) ?_
  refine lv_iload hx hb dX12_count_79 (lv_at hl 0 rfl) ?_
  refine lv_if_eq (tgt := 88) hx hb dX12_count_81 (by decide) (fun _ => ?_) (fun c9 => absurd (by decide +kernel) c9)
  refine lv_iconst (v := nI 0) hx hb dX12_count_88 (by decide +kernel) ?_
  refine lv_iadd hx hb dX12_count_89 ?_
  refine w_toeq (show (nI 0) + (nI 0) = nI 0 by decide +kernel) ?_
  refine lv_istore_n (lv' := [(3, .int (nI 0)), (7, .int (nI 0)), (6, .int (nI 16)), (5, .int (nI 20)), (4, .ref h3), (2, .int (nI 0)), (0, .ref h0), (1, .int (nI 14))]) hx hb dX12_count_90 rfl hl (by decide) rfl (fun ls hl => ?_)
  refine lv_iinc (v := nI 17) (lv' := [(6, .int (nI 17)), (3, .int (nI 0)), (7, .int (nI 0)), (5, .int (nI 20)), (4, .ref h3), (2, .int (nI 0)), (0, .ref h0), (1, .int (nI 14))]) hx hb dX12_count_91 hl (k := 2) rfl (by decide +kernel) (by decide) rfl (fun ls hl => ?_)
  refine lv_goto (tgt := 64) hx hb dX12_count_94 (by decide) ?_
  refine lv_iload hx hb dX12_count_64 (lv_at hl 0 rfl) ?_
  refine lv_iload hx hb dX12_count_66 (lv_at hl 3 rfl) ?_
  refine lv_icmp_ge (tgt := 97) hx hb dX12_count_68 (by decide) (fun c9 => absurd c9 (by decide +kernel)) (fun _ => ?_)
  refine lv_aload hx hb dX12_count_71 (lv_at hl 4 rfl) ?_
  refine lv_iload hx hb dX12_count_73 (lv_at hl 0 rfl) ?_
  refine r_zald (k := 17) hx hb hK hP 1 1 rfl rfl (Nat.le_of_ble_eq_true rfl) (by decide) (v := nI 0) rfl dX12_count_75 ?_
  refine lv_istore (lv' := [(7, .int (nI 0)), (6, .int (nI 17)), (3, .int (nI 0)), (5, .int (nI 20)), (4, .ref h3), (2, .int (nI 0)), (0, .ref h0), (1, .int (nI 14))]) hx hb dX12_count_76 hl (by decide) rfl (fun ls hl => ?_)
  refine lv_iload_n hx hb dX12_count_78 rfl (lv_at hl 2 rfl) ?_
  refine lv_iload hx hb dX12_count_79 (lv_at hl 0 rfl) ?_
  refine lv_if_eq (tgt := 88) hx hb dX12_count_81 (by decide) (fun _ => ?_) (fun c9 => absurd (by decide +kernel) c9)
  refine lv_iconst (v := nI 0) hx hb dX12_count_88 (by decide +kernel) ?_
  refine lv_iadd hx hb dX12_count_89 ?_
  refine w_toeq (show (nI 0) + (nI 0) = nI 0 by decide +kernel) ?_
  refine lv_istore_n (lv' := [(3, .int (nI 0)), (7, .int (nI 0)), (6, .int (nI 17)), (5, .int (nI 20)), (4, .ref h3), (2, .int (nI 0)), (0, .ref h0), (1, .int (nI 14))]) hx hb dX12_count_90 rfl hl (by decide) rfl (fun ls hl => ?_)
  refine lv_iinc (v := nI 18) (lv' := [(6, .int (nI 18)), (3, .int (nI 0)), (7, .int (nI 0)), (5, .int (nI 20)), (4, .ref h3), (2, .int (nI 0)), (0, .ref h0), (1, .int (nI 14))]) hx hb dX12_count_91 hl (k := 2) rfl (by decide +kernel) (by decide) rfl (fun ls hl => ?_)
  refine lv_goto (tgt := 64) hx hb dX12_count_94 (by decide) ?_
  refine lv_iload hx hb dX12_count_64 (lv_at hl 0 rfl) ?_
  refine lv_iload hx hb dX12_count_66 (lv_at hl 3 rfl) ?_
  refine lv_icmp_ge (tgt := 97) hx hb dX12_count_68 (by decide) (fun c9 => absurd c9 (by decide +kernel)) (fun _ => ?_)
  refine lv_aload hx hb dX12_count_71 (lv_at hl 4 rfl) ?_
  refine lv_iload hx hb dX12_count_73 (lv_at hl 0 rfl) ?_
  refine r_zald (k := 18) hx hb hK hP 1 1 rfl rfl (Nat.le_of_ble_eq_true rfl) (by decide) (v := nI 0) rfl dX12_count_75 ?_
  refine lv_istore (lv' := [(7, .int (nI 0)), (6, .int (nI 18)), (3, .int (nI 0)), (5, .int (nI 20)), (4, .ref h3), (2, .int (nI 0)), (0, .ref h0), (1, .int (nI 14))]) hx hb dX12_count_76 hl (by decide) rfl (fun ls hl => ?_)
  refine lv_iload_n hx hb dX12_count_78 rfl (lv_at hl 2 rfl) ?_
  refine lv_iload hx hb dX12_count_79 (lv_at hl 0 rfl) ?_
  refine lv_if_eq (tgt := 88) hx hb dX12_count_81 (by decide) (fun _ => ?_) (fun c9 => absurd (by decide +kernel) c9)
  refine lv_iconst (v := nI 0) hx hb dX12_count_88 (by decide +kernel) ?_
  refine lv_iadd hx hb dX12_count_89 ?_
  refine w_toeq (show (nI 0) + (nI 0) = nI 0 by decide +kernel) ?_
  refine lv_istore_n (lv' := [(3, .int (nI 0)), (7, .int (nI 0)), (6, .int (nI 18)), (5, .int (nI 20)), (4, .ref h3), (2, .int (nI 0)), (0, .ref h0), (1, .int (nI 14))]) hx hb dX12_count_90 rfl hl (by decide) rfl (fun ls hl => ?_)
  refine lv_iinc (v := nI 19) (lv' := [(6, .int (nI 19)), (3, .int (nI 0)), (7, .int (nI 0)), (5, .int (nI 20)), (4, .ref h3), (2, .int (nI 0)), (0, .ref h0), (1, .int (nI 14))]) hx hb dX12_count_91 hl (k := 2) rfl (by decide +kernel) (by decide) rfl (fun ls hl => ?_)
  refine lv_goto (tgt := 64) hx hb dX12_count_94 (by decide) ?_
  refine lv_iload hx hb dX12_count_64 (lv_at hl 0 rfl) ?_
  refine lv_iload hx hb dX12_count_66 (lv_at hl 3 rfl) ?_
  refine lv_icmp_ge (tgt := 97) hx hb dX12_count_68 (by decide) (fun c9 => absurd c9 (by decide +kernel)) (fun _ => ?_)
  refine lv_aload hx hb dX12_count_71 (lv_at hl 4 rfl) ?_
  refine lv_iload hx hb dX12_count_73 (lv_at hl 0 rfl) ?_
  refine r_zald (k := 19) hx hb hK hP 1 1 rfl rfl (Nat.le_of_ble_eq_true rfl) (by decide) (v := nI 0) rfl dX12_count_75 ?_
  refine lv_istore (lv' := [(7, .int (nI 0)), (6, .int (nI 19)), (3, .int (nI 0)), (5, .int (nI 20)), (4, .ref h3), (2, .int (nI 0)), (0, .ref h0), (1, .int (nI 14))]) hx hb dX12_count_76 hl (by decide) rfl (fun ls hl => ?_)
  refine lv_iload_n hx hb dX12_count_78 rfl (lv_at hl 2 rfl) ?_
  refine lv_iload hx hb dX12_count_79 (lv_at hl 0 rfl) ?_
  refine lv_if_eq (tgt := 88) hx hb dX12_count_81 (by decide) (fun _ => ?_) (fun c9 => absurd (by decide +kernel) c9)
  refine lv_iconst (v := nI 0) hx hb dX12_count_88 (by decide +kernel) ?_
  refine lv_iadd hx hb dX12_count_89 ?_
  refine w_toeq (show (nI 0) + (nI 0) = nI 0 by decide +kernel) ?_
  refine lv_istore_n (lv' := [(3, .int (nI 0)), (7, .int (nI 0)), (6, .int (nI 19)), (5, .int (nI 20)), (4, .ref h3), (2, .int (nI 0)), (0, .ref h0), (1, .int (nI 14))]) hx hb dX12_count_90 rfl hl (by decide) rfl (fun ls hl => ?_)
  refine lv_iinc (v := nI 20) (lv' := [(6, .int (nI 20)), (3, .int (nI 0)), (7, .int (nI 0)), (5, .int (nI 20)), (4, .ref h3), (2, .int (nI 0)), (0, .ref h0), (1, .int (nI 14))]) hx hb dX12_count_91 hl (k := 2) rfl (by decide +kernel) (by decide) rfl (fun ls hl => ?_)
  refine lv_goto (tgt := 64) hx hb dX12_count_94 (by decide) ?_
  refine lv_iload hx hb dX12_count_64 (lv_at hl 0 rfl) ?_
  refine lv_iload hx hb dX12_count_66 (lv_at hl 3 rfl) ?_
  refine lv_icmp_ge (tgt := 97) hx hb dX12_count_68 (by decide) (fun _ => ?_) (fun c9 => absurd (by decide +kernel) c9)
  refine lv_bipush (v := nI 16) hx hb dX12_count_97 (by decide +kernel) ?_
  refine r_newa (atype := .int) hx hb hts w_1292 rfl hK hP hD hS hA 2 rfl (N := 16) (a0 := (16, .inl (fun _ => nI 0))) (fun _ => rfl) (by decide +kernel) (by decide +kernel) (by decide) (Nat.le_of_ble_eq_true rfl) (Nat.le_of_ble_eq_true rfl) dX12_count_99 (w2 := fun q0 => [(h0, .inr (12, [v0, .ref h1])), (h3, .inl (K 1, 20, .inl (fun _ => nI 0))), (h4, .inr (13, [v7, v8, .int (nI 1)])), (h5, .inr (13, [v9, v10, .int (nI 0)])), (h1, .inr (10, [.ref h2, .ref h4, v1, .ref h5, .ref h3, .int (nI 0), .int (nI 0), .int (nI 60), .int (nI 0), v2, v3, .int (nI 0), .int (nI 0), .int (nI 0), .int (nI 0), v4, v5])), ((u0 1), .inr (14, [.int (nI 0), .int (-1), .int (nI 0), .ref h2])), (h2, .inr (13, [.int (nI 0), v6, .int (nI 0)])), ((u1 0), .inr (14, [.int (nI 0), .int (-1), .int (nI 0), .ref (u0 0)])), ((u0 0), .inr (13, [.int (nI 0), .ref (G 0), .int (nI 0)])), (q0, .inl (K 2, 16, .inl (fun _ => nI 0)))]) (fun _ => rfl) (fun q0 H hP hD hS => ?_)
  refine lv_dup hx hb dX12_count_101 rfl ?_
  refine lv_iconst (v := nI 0) hx hb dX12_count_102 (by decide +kernel) ?_
  refine lv_aload_n hx hb dX12_count_103 rfl (lv_at hl 6 rfl) ?_
  refine r_get hx hb hts ok_RX12 hown hK hP 0 rfl rfl 1 (by decide) w_1294 (fun _ h9 => h9) rfl dX12_count_104 ?_
  refine r_get hx hb hts ok_RX10 hown hK hP 4 rfl rfl 0 (by decide) w_1225 (fun _ h9 => h9) rfl dX12_count_107 ?_
  refine k_i (wr := [(h0, .inr (12, [v0, .ref h1])), (h3, .inl (K 1, 20, .inl (fun _ => nI 0))), (h4, .inr (13, [v7, v8, .int (nI 1)])), (h5, .inr (13, [v9, v10, .int (nI 0)])), (h1, .inr (10, [.ref h2, .ref h4, v1, .ref h5, .ref h3, .int (nI 0), .int (nI 0), .int (nI 60), .int (nI 0), v2, v3, .int (nI 0), .int (nI 0), .int (nI 0), .int (nI 0), v4, v5])), ((u0 1), .inr (14, [.int (nI 0), .int (-1), .int (nI 0), .ref h2])), ((u1 0), .inr (14, [.int (nI 0), .int (-1), .int (nI 0), .ref (u0 0)])), ((u0 0), .inr (13, [.int (nI 0), .ref (G 0), .int (nI 0)])), (q0, .inl (K 2, 16, .inl (fun _ => nI 0)))]) (run_V (rest := [.int (nI 0), .ref q0, .ref q0]) hx hb hml hown hts hK hP hD hS hA hm (C102_size l G D K H.size h2 (.int (nI 0)) (v6)) [6] rfl rfl mok_yJx4a65c_size_8abf5 w_1308 w_1309 w_1310 (rcv hK hP 6 rfl rfl rfl) ⟨Nat.le_of_ble_eq_true rfl, Nat.le_of_ble_eq_true rfl⟩ rfl hl.1 rfl (Nat.le_of_ble_eq_true rfl) dX12_count_110 ⟨(Nat.le_of_ble_eq_true rfl), (Nat.le_of_ble_eq_true rfl)⟩) hP hD hS hA [6] [0, 1, 2, 3, 4, 5, 7, 8, 9] rfl rfl rfl (by decide) (w2 := fun u3 => [(h0, .inr (12, [v0, .ref h1])), (h3, .inl (K 1, 20, .inl (fun _ => nI 0))), (h4, .inr (13, [v7, v8, .int (nI 1)])), (h5, .inr (13, [v9, v10, .int (nI 0)])), (h1, .inr (10, [.ref h2, .ref h4, v1, .ref h5, .ref h3, .int (nI 0), .int (nI 0), .int (nI 60), .int (nI 0), v2, v3, .int (nI 0), .int (nI 0), .int (nI 0), .int (nI 0), v4, v5])), ((u0 1), .inr (14, [.int (nI 0), .int (-1), .int (nI 0), .ref h2])), ((u1 0), .inr (14, [.int (nI 0), .int (-1), .int (nI 0), .ref (u0 0)])), ((u0 0), .inr (13, [.int (nI 0), .ref (G 0), .int (nI 0)])), (q0, .inl (K 2, 16, .inl (fun _ => nI 0))), (h2, .inr (13, [.int (nI 0), v6, .int (nI 0)]))]) (fun _ => rfl) (fun u3 H locs hP hD hS => ?_)
  refine r_iast (k := 0) hx hb hK hP hD hS 8 2 rfl rfl (Nat.le_of_ble_eq_true rfl) (by decide) dX12_count_113 (ws' := [(h0, .inr (12, [v0, .ref h1])), (h3, .inl (K 1, 20, .inl (fun _ => nI 0))), (h4, .inr (13, [v7, v8, .int (nI 1)])), (h5, .inr (13, [v9, v10, .int (nI 0)])), (h1, .inr (10, [.ref h2, .ref h4, v1, .ref h5, .ref h3, .int (nI 0), .int (nI 0), .int (nI 60), .int (nI 0), v2, v3, .int (nI 0), .int (nI 0), .int (nI 0), .int (nI 0), v4, v5])), ((u0 1), .inr (14, [.int (nI 0), .int (-1), .int (nI 0), .ref h2])), ((u1 0), .inr (14, [.int (nI 0), .int (-1), .int (nI 0), .ref (u0 0)])), ((u0 0), .inr (13, [.int (nI 0), .ref (G 0), .int (nI 0)])), (q0, .inl (K 2, 16, .inl (fun _ => nI 0))), (h2, .inr (13, [.int (nI 0), v6, .int (nI 0)]))]) (by rw [upd_c]; rfl) (fun H locs hP hD hS => ?_)
  refine lv_dup hx hb dX12_count_114 rfl ?_
  refine lv_iconst (v := nI 1) hx hb dX12_count_115 (by decide +kernel) ?_
  refine lv_aload_n hx hb dX12_count_116 rfl (lv_at hl 6 rfl) ?_
  refine r_get hx hb hts ok_RX12 hown hK hP 0 rfl rfl 1 (by decide) w_1294 (fun _ h9 => h9) rfl dX12_count_117 ?_
  refine k_i (wr := [(h0, .inr (12, [v0, .ref h1])), (h3, .inl (K 1, 20, .inl (fun _ => nI 0))), (h4, .inr (13, [v7, v8, .int (nI 1)])), (h5, .inr (13, [v9, v10, .int (nI 0)])), ((u0 1), .inr (14, [.int (nI 0), .int (-1), .int (nI 0), .ref h2])), ((u1 0), .inr (14, [.int (nI 0), .int (-1), .int (nI 0), .ref (u0 0)])), ((u0 0), .inr (13, [.int (nI 0), .ref (G 0), .int (nI 0)])), (q0, .inl (K 2, 16, .inl (fun _ => nI 0)))]) (run_VN (rest := [.int (nI 1), .ref q0, .ref q0]) hx hb hml hown hts hK hP hD hS hA hm (C723_there l G D K H.size h1 h2 (.ref h4) (v1) (.ref h5) (.ref h3) (.int (nI 0)) (.int (nI 0)) (.int (nI 60)) (.int (nI 0)) (v2) (v3) (.int (nI 0)) (.int (nI 0)) (.int (nI 0)) (.int (nI 0)) (v4) (v5) (v6)) [4, 9] rfl rfl mok_yX10_there w_2040 w_1758 w_p38 (rcv hK hP 4 rfl rfl rfl) ⟨Nat.le_of_ble_eq_true rfl, Nat.le_of_ble_eq_true rfl⟩ rfl hl.1 rfl (Nat.le_of_ble_eq_true rfl) dX12_count_120 ⟨(Nat.le_of_ble_eq_true rfl), (Nat.le_of_ble_eq_true rfl)⟩) hP hD hS hA [4, 9] [0, 1, 2, 3, 5, 6, 7, 8] rfl rfl rfl (by decide) (w2 := fun u4 => [(h0, .inr (12, [v0, .ref h1])), (h3, .inl (K 1, 20, .inl (fun _ => nI 0))), (h4, .inr (13, [v7, v8, .int (nI 1)])), (h5, .inr (13, [v9, v10, .int (nI 0)])), ((u0 1), .inr (14, [.int (nI 0), .int (-1), .int (nI 0), .ref h2])), ((u1 0), .inr (14, [.int (nI 0), .int (-1), .int (nI 0), .ref (u0 0)])), ((u0 0), .inr (13, [.int (nI 0), .ref (G 0), .int (nI 0)])), (q0, .inl (K 2, 16, .inl (fun _ => nI 0))), (h1, .inr (10, [.ref h2, .ref h4, v1, .ref h5, .ref h3, .int (nI 0), .int (nI 0), .int (nI 60), .int (nI 0), v2, v3, .int (nI 0), .int (nI 0), .int (nI 0), .int (nI 0), v4, v5])), ((u4 0), .inr (14, [.int (nI 0), .int (-1), .int (nI 0), .ref h2])), (h2, .inr (13, [.int (nI 0), v6, .int (nI 0)]))]) (fun _ => rfl) (fun u4 H locs hP hD hS => ?_)
  refine r_iast (k := 1) hx hb hK hP hD hS 7 2 rfl rfl (Nat.le_of_ble_eq_true rfl) (by decide) dX12_count_123 (ws' := [(h0, .inr (12, [v0, .ref h1])), (h3, .inl (K 1, 20, .inl (fun _ => nI 0))), (h4, .inr (13, [v7, v8, .int (nI 1)])), (h5, .inr (13, [v9, v10, .int (nI 0)])), ((u0 1), .inr (14, [.int (nI 0), .int (-1), .int (nI 0), .ref h2])), ((u1 0), .inr (14, [.int (nI 0), .int (-1), .int (nI 0), .ref (u0 0)])), ((u0 0), .inr (13, [.int (nI 0), .ref (G 0), .int (nI 0)])), (q0, .inl (K 2, 16, .inl (fun _ => nI 0))), (h1, .inr (10, [.ref h2, .ref h4, v1, .ref h5, .ref h3, .int (nI 0), .int (nI 0), .int (nI 60), .int (nI 0), v2, v3, .int (nI 0), .int (nI 0), .int (nI 0), .int (nI 0), v4, v5])), ((u4 0), .inr (14, [.int (nI 0), .int (-1), .int (nI 0), .ref h2])), (h2, .inr (13, [.int (nI 0), v6, .int (nI 0)]))]) (by rw [upd_c]; rfl) (fun H locs hP hD hS => ?_)
  refine lv_dup hx hb dX12_count_124 rfl ?_
  refine lv_iconst (v := nI 2) hx hb dX12_count_125 (by decide +kernel) ?_
  refine lv_aload_n hx hb dX12_count_126 rfl (lv_at hl 6 rfl) ?_
  refine r_get hx hb hts ok_RX12 hown hK hP 0 rfl rfl 1 (by decide) w_1294 (fun _ h9 => h9) rfl dX12_count_127 ?_
  refine r_get hx hb hts ok_RX10 hown hK hP 8 rfl rfl 1 (by decide) w_1227 (fun _ h9 => h9) rfl dX12_count_130 ?_
  refine k_i (wr := [(h0, .inr (12, [v0, .ref h1])), (h3, .inl (K 1, 20, .inl (fun _ => nI 0))), (h5, .inr (13, [v9, v10, .int (nI 0)])), ((u0 1), .inr (14, [.int (nI 0), .int (-1), .int (nI 0), .ref h2])), ((u1 0), .inr (14, [.int (nI 0), .int (-1), .int (nI 0), .ref (u0 0)])), ((u0 0), .inr (13, [.int (nI 0), .ref (G 0), .int (nI 0)])), (q0, .inl (K 2, 16, .inl (fun _ => nI 0))), (h1, .inr (10, [.ref h2, .ref h4, v1, .ref h5, .ref h3, .int (nI 0), .int (nI 0), .int (nI 60), .int (nI 0), v2, v3, .int (nI 0), .int (nI 0), .int (nI 0), .int (nI 0), v4, v5])), ((u4 0), .inr (14, [.int (nI 0), .int (-1), .int (nI 0), .ref h2])), (h2, .inr (13, [.int (nI 0), v6, .int (nI 0)]))]) (run_V (rest := [.int (nI 2), .ref q0, .ref q0]) hx hb hml hown hts hK hP hD hS hA hm (C23_size l G D K H.size h4 (v7) (v8)) [2] rfl rfl mok_yJx4a65c_size_8abf5 w_1308 w_1309 w_1310 (rcv hK hP 2 rfl rfl rfl) ⟨Nat.le_of_ble_eq_true rfl, Nat.le_of_ble_eq_true rfl⟩ rfl hl.1 rfl (Nat.le_of_ble_eq_true rfl) dX12_count_133 ⟨(Nat.le_of_ble_eq_true rfl), (Nat.le_of_ble_eq_true rfl)⟩) hP hD hS hA [2] [0, 1, 3, 4, 5, 6, 7, 8, 9, 10] rfl rfl rfl (by decide) (w2 := fun u5 => [(h0, .inr (12, [v0, .ref h1])), (h3, .inl (K 1, 20, .inl (fun _ => nI 0))), (h5, .inr (13, [v9, v10, .int (nI 0)])), ((u0 1), .inr (14, [.int (nI 0), .int (-1), .int (nI 0), .ref h2])), ((u1 0), .inr (14, [.int (nI 0), .int (-1), .int (nI 0), .ref (u0 0)])), ((u0 0), .inr (13, [.int (nI 0), .ref (G 0), .int (nI 0)])), (q0, .inl (K 2, 16, .inl (fun _ => nI 0))), (h1, .inr (10, [.ref h2, .ref h4, v1, .ref h5, .ref h3, .int (nI 0), .int (nI 0), .int (nI 60), .int (nI 0), v2, v3, .int (nI 0), .int (nI 0), .int (nI 0), .int (nI 0), v4, v5])), ((u4 0), .inr (14, [.int (nI 0), .int (-1), .int (nI 0), .ref h2])), (h2, .inr (13, [.int (nI 0), v6, .int (nI 0)])), (h4, .inr (13, [v7, v8, .int (nI 1)]))]) (fun _ => rfl) (fun u5 H locs hP hD hS => ?_)
  refine r_iast (k := 2) hx hb hK hP hD hS 6 2 rfl rfl (Nat.le_of_ble_eq_true rfl) (by decide) dX12_count_136 (ws' := [(h0, .inr (12, [v0, .ref h1])), (h3, .inl (K 1, 20, .inl (fun _ => nI 0))), (h5, .inr (13, [v9, v10, .int (nI 0)])), ((u0 1), .inr (14, [.int (nI 0), .int (-1), .int (nI 0), .ref h2])), ((u1 0), .inr (14, [.int (nI 0), .int (-1), .int (nI 0), .ref (u0 0)])), ((u0 0), .inr (13, [.int (nI 0), .ref (G 0), .int (nI 0)])), (q0, .inl (K 2, 16, .inl (upd (fun _ => nI 0) 2 (nI 1)))), (h1, .inr (10, [.ref h2, .ref h4, v1, .ref h5, .ref h3, .int (nI 0), .int (nI 0), .int (nI 60), .int (nI 0), v2, v3, .int (nI 0), .int (nI 0), .int (nI 0), .int (nI 0), v4, v5])), ((u4 0), .inr (14, [.int (nI 0), .int (-1), .int (nI 0), .ref h2])), (h2, .inr (13, [.int (nI 0), v6, .int (nI 0)])), (h4, .inr (13, [v7, v8, .int (nI 1)]))]) rfl (fun H locs hP hD hS => ?_)
  refine lv_dup hx hb dX12_count_137 rfl ?_
  refine lv_iconst (v := nI 3) hx hb dX12_count_138 (by decide +kernel) ?_
  refine lv_aload_n hx hb dX12_count_139 rfl (lv_at hl 6 rfl) ?_
  refine r_get hx hb hts ok_RX12 hown hK hP 0 rfl rfl 1 (by decide) w_1294 (fun _ h9 => h9) rfl dX12_count_140 ?_
  refine r_get hx hb hts ok_RX10 hown hK hP 7 rfl rfl 6 (by decide) w_1237 (fun _ h9 => h9) rfl dX12_count_143 ?_
  refine r_iast (k := 3) hx hb hK hP hD hS 6 2 rfl rfl (Nat.le_of_ble_eq_true rfl) (by decide) dX12_count_146 (ws' := [(h0, .inr (12, [v0, .ref h1])), (h3, .inl (K 1, 20, .inl (fun _ => nI 0))), (h5, .inr (13, [v9, v10, .int (nI 0)])), ((u0 1), .inr (14, [.int (nI 0), .int (-1), .int (nI 0), .ref h2])), ((u1 0), .inr (14, [.int (nI 0), .int (-1), .int (nI 0), .ref (u0 0)])), ((u0 0), .inr (13, [.int (nI 0), .ref (G 0), .int (nI 0)])), (q0, .inl (K 2, 16, .inl (upd (upd (fun _ => nI 0) 2 (nI 1)) 3 (nI 0)))), (h1, .inr (10, [.ref h2, .ref h4, v1, .ref h5, .ref h3, .int (nI 0), .int (nI 0), .int (nI 60), .int (nI 0), v2, v3, .int (nI 0), .int (nI 0), .int (nI 0), .int (nI 0), v4, v5])), ((u4 0), .inr (14, [.int (nI 0), .int (-1), .int (nI 0), .ref h2])), (h2, .inr (13, [.int (nI 0), v6, .int (nI 0)])), (h4, .inr (13, [v7, v8, .int (nI 1)]))]) rfl (fun H locs hP hD hS => ?_)
  refine lv_dup hx hb dX12_count_147 rfl ?_
  refine lv_iconst (v := nI 4) hx hb dX12_count_148 (by decide +kernel) ?_
  refine lv_aload_n hx hb dX12_count_149 rfl (lv_at hl 6 rfl) ?_
  refine r_get hx hb hts ok_RX12 hown hK hP 0 rfl rfl 1 (by decide) w_1294 (fun _ h9 => h9) rfl dX12_count_150 ?_
  refine r_get hx hb hts ok_RX10 hown hK hP 7 rfl rfl 5 (by decide) w_1235 (fun _ h9 => h9) rfl dX12_count_153 ?_
  refine r_iast (k := 4) hx hb hK hP hD hS 6 2 rfl rfl (Nat.le_of_ble_eq_true rfl) (by decide) dX12_count_156 (ws' := [(h0, .inr (12, [v0, .ref h1])), (h3, .inl (K 1, 20, .inl (fun _ => nI 0))), (h5, .inr (13, [v9, v10, .int (nI 0)])), ((u0 1), .inr (14, [.int (nI 0), .int (-1), .int (nI 0), .ref h2])), ((u1 0), .inr (14, [.int (nI 0), .int (-1), .int (nI 0), .ref (u0 0)])), ((u0 0), .inr (13, [.int (nI 0), .ref (G 0), .int (nI 0)])), (q0, .inl (K 2, 16, .inl (upd (upd (upd (fun _ => nI 0) 2 (nI 1)) 3 (nI 0)) 4 (nI 0)))), (h1, .inr (10, [.ref h2, .ref h4, v1, .ref h5, .ref h3, .int (nI 0), .int (nI 0), .int (nI 60), .int (nI 0), v2, v3, .int (nI 0), .int (nI 0), .int (nI 0), .int (nI 0), v4, v5])), ((u4 0), .inr (14, [.int (nI 0), .int (-1), .int (nI 0), .ref h2])), (h2, .inr (13, [.int (nI 0), v6, .int (nI 0)])), (h4, .inr (13, [v7, v8, .int (nI 1)]))]) rfl (fun H locs hP hD hS => ?_)
  refine lv_dup hx hb dX12_count_157 rfl ?_
  refine lv_iconst (v := nI 5) hx hb dX12_count_158 (by decide +kernel) ?_
  refine lv_aload_n hx hb dX12_count_159 rfl (lv_at hl 6 rfl) ?_
  refine r_get hx hb hts ok_RX12 hown hK hP 0 rfl rfl 1 (by decide) w_1294 (fun _ h9 => h9) rfl dX12_count_160 ?_
  refine r_get hx hb hts ok_RX10 hown hK hP 7 rfl rfl 8 (by decide) w_1241 (fun _ h9 => h9) rfl dX12_count_163 ?_
  refine r_iast (k := 5) hx hb hK hP hD hS 6 2 rfl rfl (Nat.le_of_ble_eq_true rfl) (by decide) dX12_count_166 (ws' := [(h0, .inr (12, [v0, .ref h1])), (h3, .inl (K 1, 20, .inl (fun _ => nI 0))), (h5, .inr (13, [v9, v10, .int (nI 0)])), ((u0 1), .inr (14, [.int (nI 0), .int (-1), .int (nI 0), .ref h2])), ((u1 0), .inr (14, [.int (nI 0), .int (-1), .int (nI 0), .ref (u0 0)])), ((u0 0), .inr (13, [.int (nI 0), .ref (G 0), .int (nI 0)])), (q0, .inl (K 2, 16, .inl (upd (upd (upd (upd (fun _ => nI 0) 2 (nI 1)) 3 (nI 0)) 4 (nI 0)) 5 (nI 0)))), (h1, .inr (10, [.ref h2, .ref h4, v1, .ref h5, .ref h3, .int (nI 0), .int (nI 0), .int (nI 60), .int (nI 0), v2, v3, .int (nI 0), .int (nI 0), .int (nI 0), .int (nI 0), v4, v5])), ((u4 0), .inr (14, [.int (nI 0), .int (-1), .int (nI 0), .ref h2])), (h2, .inr (13, [.int (nI 0), v6, .int (nI 0)])), (h4, .inr (13, [v7, v8, .int (nI 1)]))]) rfl (fun H locs hP hD hS => ?_)
  refine lv_dup hx hb dX12_count_167 rfl ?_
  refine lv_bipush (v := nI 6) hx hb dX12_count_168 (by decide +kernel) ?_
  refine lv_aload_n hx hb dX12_count_170 rfl (lv_at hl 6 rfl) ?_
  refine r_get hx hb hts ok_RX12 hown hK hP 0 rfl rfl 1 (by decide) w_1294 (fun _ h9 => h9) rfl dX12_count_171 ?_
  refine r_get hx hb hts ok_RX10 hown hK hP 7 rfl rfl 7 (by decide) w_1239 (fun _ h9 => h9) rfl dX12_count_174 ?_
  refine r_iast (k := 6) hx hb hK hP hD hS 6 2 rfl rfl (Nat.le_of_ble_eq_true rfl) (by decide) dX12_count_177 (ws' := [(h0, .inr (12, [v0, .ref h1])), (h3, .inl (K 1, 20, .inl (fun _ => nI 0))), (h5, .inr (13, [v9, v10, .int (nI 0)])), ((u0 1), .inr (14, [.int (nI 0), .int (-1), .int (nI 0), .ref h2])), ((u1 0), .inr (14, [.int (nI 0), .int (-1), .int (nI 0), .ref (u0 0)])), ((u0 0), .inr (13, [.int (nI 0), .ref (G 0), .int (nI 0)])), (q0, .inl (K 2, 16, .inl (upd (upd (upd (upd (upd (fun _ => nI 0) 2 (nI 1)) 3 (nI 0)) 4 (nI 0)) 5 (nI 0)) 6 (nI 60)))), (h1, .inr (10, [.ref h2, .ref h4, v1, .ref h5, .ref h3, .int (nI 0), .int (nI 0), .int (nI 60), .int (nI 0), v2, v3, .int (nI 0), .int (nI 0), .int (nI 0), .int (nI 0), v4, v5])), ((u4 0), .inr (14, [.int (nI 0), .int (-1), .int (nI 0), .ref h2])), (h2, .inr (13, [.int (nI 0), v6, .int (nI 0)])), (h4, .inr (13, [v7, v8, .int (nI 1)]))]) rfl (fun H locs hP hD hS => ?_)
  refine lv_dup hx hb dX12_count_178 rfl ?_
  refine lv_bipush (v := nI 7) hx hb dX12_count_179 (by decide +kernel) ?_
  refine lv_iload_n hx hb dX12_count_181 rfl (lv_at hl 5 rfl) ?_
  refine r_iast (k := 7) hx hb hK hP hD hS 6 2 rfl rfl (Nat.le_of_ble_eq_true rfl) (by decide) dX12_count_182 (ws' := [(h0, .inr (12, [v0, .ref h1])), (h3, .inl (K 1, 20, .inl (fun _ => nI 0))), (h5, .inr (13, [v9, v10, .int (nI 0)])), ((u0 1), .inr (14, [.int (nI 0), .int (-1), .int (nI 0), .ref h2])), ((u1 0), .inr (14, [.int (nI 0), .int (-1), .int (nI 0), .ref (u0 0)])), ((u0 0), .inr (13, [.int (nI 0), .ref (G 0), .int (nI 0)])), (q0, .inl (K 2, 16, .inl (upd (upd (upd (upd (upd (upd (fun _ => nI 0) 2 (nI 1)) 3 (nI 0)) 4 (nI 0)) 5 (nI 0)) 6 (nI 60)) 7 (nI 0)))), (h1, .inr (10, [.ref h2, .ref h4, v1, .ref h5, .ref h3, .int (nI 0), .int (nI 0), .int (nI 60), .int (nI 0), v2, v3, .int (nI 0), .int (nI 0), .int (nI 0), .int (nI 0), v4, v5])), ((u4 0), .inr (14, [.int (nI 0), .int (-1), .int (nI 0), .ref h2])), (h2, .inr (13, [.int (nI 0), v6, .int (nI 0)])), (h4, .inr (13, [v7, v8, .int (nI 1)]))]) rfl (fun H locs hP hD hS => ?_)
  refine lv_dup hx hb dX12_count_183 rfl ?_
  refine lv_bipush (v := nI 8) hx hb dX12_count_184 (by decide +kernel) ?_
  refine lv_aload_n hx hb dX12_count_186 rfl (lv_at hl 6 rfl) ?_
  refine r_get hx hb hts ok_RX12 hown hK hP 0 rfl rfl 1 (by decide) w_1294 (fun _ h9 => h9) rfl dX12_count_187 ?_
  refine k_i (wr := [(h0, .inr (12, [v0, .ref h1])), (h3, .inl (K 1, 20, .inl (fun _ => nI 0))), (h5, .inr (13, [v9, v10, .int (nI 0)])), ((u0 1), .inr (14, [.int (nI 0), .int (-1), .int (nI 0), .ref h2])), ((u1 0), .inr (14, [.int (nI 0), .int (-1), .int (nI 0), .ref (u0 0)])), ((u0 0), .inr (13, [.int (nI 0), .ref (G 0), .int (nI 0)])), (q0, .inl (K 2, 16, .inl (upd (upd (upd (upd (upd (upd (fun _ => nI 0) 2 (nI 1)) 3 (nI 0)) 4 (nI 0)) 5 (nI 0)) 6 (nI 60)) 7 (nI 0)))), ((u4 0), .inr (14, [.int (nI 0), .int (-1), .int (nI 0), .ref h2])), (h4, .inr (13, [v7, v8, .int (nI 1)]))]) (run_V (rest := [.int (nI 8), .ref q0, .ref q0]) hx hb hml hown hts hK hP hD hS hA hm (C880_gaps l G D K H.size h1 h2 (.ref h4) (v1) (.ref h5) (.ref h3) (.int (nI 0)) (.int (nI 0)) (.int (nI 60)) (.int (nI 0)) (v2) (v3) (.int (nI 0)) (.int (nI 0)) (.int (nI 0)) (.int (nI 0)) (v4) (v5) (v6)) [7, 9] rfl rfl mok_yX10_gaps w_2041 w_2042 w_2043 (rcv hK hP 7 rfl rfl rfl) ⟨Nat.le_of_ble_eq_true rfl, Nat.le_of_ble_eq_true rfl⟩ rfl hl.1 rfl (Nat.le_of_ble_eq_true rfl) dX12_count_190 ⟨(Nat.le_of_ble_eq_true rfl), (Nat.le_of_ble_eq_true rfl)⟩) hP hD hS hA [7, 9] [0, 1, 2, 3, 4, 5, 6, 8, 10] rfl rfl rfl (by decide) (w2 := fun u6 => [(h0, .inr (12, [v0, .ref h1])), (h3, .inl (K 1, 20, .inl (fun _ => nI 0))), (h5, .inr (13, [v9, v10, .int (nI 0)])), ((u0 1), .inr (14, [.int (nI 0), .int (-1), .int (nI 0), .ref h2])), ((u1 0), .inr (14, [.int (nI 0), .int (-1), .int (nI 0), .ref (u0 0)])), ((u0 0), .inr (13, [.int (nI 0), .ref (G 0), .int (nI 0)])), (q0, .inl (K 2, 16, .inl (upd (upd (upd (upd (upd (upd (fun _ => nI 0) 2 (nI 1)) 3 (nI 0)) 4 (nI 0)) 5 (nI 0)) 6 (nI 60)) 7 (nI 0)))), ((u4 0), .inr (14, [.int (nI 0), .int (-1), .int (nI 0), .ref h2])), (h4, .inr (13, [v7, v8, .int (nI 1)])), (h1, .inr (10, [.ref h2, .ref h4, v1, .ref h5, .ref h3, .int (nI 0), .int (nI 0), .int (nI 60), .int (nI 0), v2, v3, .int (nI 0), .int (nI 0), .int (nI 0), .int (nI 0), v4, v5])), ((u6 1), .inr (14, [.int (nI 0), .int (-1), .int (nI 0), .ref h2])), (h2, .inr (13, [.int (nI 0), v6, .int (nI 0)])), ((u6 2), .inr (14, [.int (nI 0), .int (-1), .int (nI 0), .ref (u6 0)])), ((u6 0), .inr (13, [.int (nI 0), .ref (G 0), .int (nI 0)]))]) (fun _ => rfl) (fun u6 H locs hP hD hS => ?_)
  refine r_iast (k := 8) hx hb hK hP hD hS 6 2 rfl rfl (Nat.le_of_ble_eq_true rfl) (by decide) dX12_count_193 (ws' := [(h0, .inr (12, [v0, .ref h1])), (h3, .inl (K 1, 20, .inl (fun _ => nI 0))), (h5, .inr (13, [v9, v10, .int (nI 0)])), ((u0 1), .inr (14, [.int (nI 0), .int (-1), .int (nI 0), .ref h2])), ((u1 0), .inr (14, [.int (nI 0), .int (-1), .int (nI 0), .ref (u0 0)])), ((u0 0), .inr (13, [.int (nI 0), .ref (G 0), .int (nI 0)])), (q0, .inl (K 2, 16, .inl (upd (upd (upd (upd (upd (upd (upd (fun _ => nI 0) 2 (nI 1)) 3 (nI 0)) 4 (nI 0)) 5 (nI 0)) 6 (nI 60)) 7 (nI 0)) 8 (nI 1)))), ((u4 0), .inr (14, [.int (nI 0), .int (-1), .int (nI 0), .ref h2])), (h4, .inr (13, [v7, v8, .int (nI 1)])), (h1, .inr (10, [.ref h2, .ref h4, v1, .ref h5, .ref h3, .int (nI 0), .int (nI 0), .int (nI 60), .int (nI 0), v2, v3, .int (nI 0), .int (nI 0), .int (nI 0), .int (nI 0), v4, v5])), ((u6 1), .inr (14, [.int (nI 0), .int (-1), .int (nI 0), .ref h2])), (h2, .inr (13, [.int (nI 0), v6, .int (nI 0)])), ((u6 2), .inr (14, [.int (nI 0), .int (-1), .int (nI 0), .ref (u6 0)])), ((u6 0), .inr (13, [.int (nI 0), .ref (G 0), .int (nI 0)]))]) rfl (fun H locs hP hD hS => ?_)
  refine lv_dup hx hb dX12_count_194 rfl ?_
  refine lv_bipush (v := nI 9) hx hb dX12_count_195 (by decide +kernel) ?_
  refine lv_iload_n hx hb dX12_count_197 rfl (lv_at hl 1 rfl) ?_
  refine r_iast (k := 9) hx hb hK hP hD hS 6 2 rfl rfl (Nat.le_of_ble_eq_true rfl) (by decide) dX12_count_198 (ws' := [(h0, .inr (12, [v0, .ref h1])), (h3, .inl (K 1, 20, .inl (fun _ => nI 0))), (h5, .inr (13, [v9, v10, .int (nI 0)])), ((u0 1), .inr (14, [.int (nI 0), .int (-1), .int (nI 0), .ref h2])), ((u1 0), .inr (14, [.int (nI 0), .int (-1), .int (nI 0), .ref (u0 0)])), ((u0 0), .inr (13, [.int (nI 0), .ref (G 0), .int (nI 0)])), (q0, .inl (K 2, 16, .inl (upd (upd (upd (upd (upd (upd (upd (upd (fun _ => nI 0) 2 (nI 1)) 3 (nI 0)) 4 (nI 0)) 5 (nI 0)) 6 (nI 60)) 7 (nI 0)) 8 (nI 1)) 9 (nI 0)))), ((u4 0), .inr (14, [.int (nI 0), .int (-1), .int (nI 0), .ref h2])), (h4, .inr (13, [v7, v8, .int (nI 1)])), (h1, .inr (10, [.ref h2, .ref h4, v1, .ref h5, .ref h3, .int (nI 0), .int (nI 0), .int (nI 60), .int (nI 0), v2, v3, .int (nI 0), .int (nI 0), .int (nI 0), .int (nI 0), v4, v5])), ((u6 1), .inr (14, [.int (nI 0), .int (-1), .int (nI 0), .ref h2])), (h2, .inr (13, [.int (nI 0), v6, .int (nI 0)])), ((u6 2), .inr (14, [.int (nI 0), .int (-1), .int (nI 0), .ref (u6 0)])), ((u6 0), .inr (13, [.int (nI 0), .ref (G 0), .int (nI 0)]))]) rfl (fun H locs hP hD hS => ?_)
  refine lv_dup hx hb dX12_count_199 rfl ?_
  refine lv_bipush (v := nI 10) hx hb dX12_count_200 (by decide +kernel) ?_
  refine lv_aload_n hx hb dX12_count_202 rfl (lv_at hl 6 rfl) ?_
  refine r_get hx hb hts ok_RX12 hown hK hP 0 rfl rfl 1 (by decide) w_1294 (fun _ h9 => h9) rfl dX12_count_203 ?_
  refine r_get hx hb hts ok_RX10 hown hK hP 9 rfl rfl 3 (by decide) w_1231 (fun _ h9 => h9) rfl dX12_count_206 ?_
  refine k_i (wr := [(h0, .inr (12, [v0, .ref h1])), (h3, .inl (K 1, 20, .inl (fun _ => nI 0))), ((u0 1), .inr (14, [.int (nI 0), .int (-1), .int (nI 0), .ref h2])), ((u1 0), .inr (14, [.int (nI 0), .int (-1), .int (nI 0), .ref (u0 0)])), ((u0 0), .inr (13, [.int (nI 0), .ref (G 0), .int (nI 0)])), (q0, .inl (K 2, 16, .inl (upd (upd (upd (upd (upd (upd (upd (upd (fun _ => nI 0) 2 (nI 1)) 3 (nI 0)) 4 (nI 0)) 5 (nI 0)) 6 (nI 60)) 7 (nI 0)) 8 (nI 1)) 9 (nI 0)))), ((u4 0), .inr (14, [.int (nI 0), .int (-1), .int (nI 0), .ref h2])), (h4, .inr (13, [v7, v8, .int (nI 1)])), (h1, .inr (10, [.ref h2, .ref h4, v1, .ref h5, .ref h3, .int (nI 0), .int (nI 0), .int (nI 60), .int (nI 0), v2, v3, .int (nI 0), .int (nI 0), .int (nI 0), .int (nI 0), v4, v5])), ((u6 1), .inr (14, [.int (nI 0), .int (-1), .int (nI 0), .ref h2])), (h2, .inr (13, [.int (nI 0), v6, .int (nI 0)])), ((u6 2), .inr (14, [.int (nI 0), .int (-1), .int (nI 0), .ref (u6 0)])), ((u6 0), .inr (13, [.int (nI 0), .ref (G 0), .int (nI 0)]))]) (run_V (rest := [.int (nI 10), .ref q0, .ref q0]) hx hb hml hown hts hK hP hD hS hA hm (C102_size l G D K H.size h5 (v9) (v10)) [2] rfl rfl mok_yJx4a65c_size_8abf5 w_1308 w_1309 w_1310 (rcv hK hP 2 rfl rfl rfl) ⟨Nat.le_of_ble_eq_true rfl, Nat.le_of_ble_eq_true rfl⟩ rfl hl.1 rfl (Nat.le_of_ble_eq_true rfl) dX12_count_209 ⟨(Nat.le_of_ble_eq_true rfl), (Nat.le_of_ble_eq_true rfl)⟩) hP hD hS hA [2] [0, 1, 3, 4, 5, 6, 7, 8, 9, 10, 11, 12, 13] rfl rfl rfl (by decide) (w2 := fun u7 => [(h0, .inr (12, [v0, .ref h1])), (h3, .inl (K 1, 20, .inl (fun _ => nI 0))), ((u0 1), .inr (14, [.int (nI 0), .int (-1), .int (nI 0), .ref h2])), ((u1 0), .inr (14, [.int (nI 0), .int (-1), .int (nI 0), .ref (u0 0)])), ((u0 0), .inr (13, [.int (nI 0), .ref (G 0), .int (nI 0)])), (q0, .inl (K 2, 16, .inl (upd (upd (upd (upd (upd (upd (upd (upd (fun _ => nI 0) 2 (nI 1)) 3 (nI 0)) 4 (nI 0)) 5 (nI 0)) 6 (nI 60)) 7 (nI 0)) 8 (nI 1)) 9 (nI 0)))), ((u4 0), .inr (14, [.int (nI 0), .int (-1), .int (nI 0), .ref h2])), (h4, .inr (13, [v7, v8, .int (nI 1)])), (h1, .inr (10, [.ref h2, .ref h4, v1, .ref h5, .ref h3, .int (nI 0), .int (nI 0), .int (nI 60), .int (nI 0), v2, v3, .int (nI 0), .int (nI 0), .int (nI 0), .int (nI 0), v4, v5])), ((u6 1), .inr (14, [.int (nI 0), .int (-1), .int (nI 0), .ref h2])), (h2, .inr (13, [.int (nI 0), v6, .int (nI 0)])), ((u6 2), .inr (14, [.int (nI 0), .int (-1), .int (nI 0), .ref (u6 0)])), ((u6 0), .inr (13, [.int (nI 0), .ref (G 0), .int (nI 0)])), (h5, .inr (13, [v9, v10, .int (nI 0)]))]) (fun _ => rfl) (fun u7 H locs hP hD hS => ?_)
  refine r_iast (k := 10) hx hb hK hP hD hS 5 2 rfl rfl (Nat.le_of_ble_eq_true rfl) (by decide) dX12_count_212 (ws' := [(h0, .inr (12, [v0, .ref h1])), (h3, .inl (K 1, 20, .inl (fun _ => nI 0))), ((u0 1), .inr (14, [.int (nI 0), .int (-1), .int (nI 0), .ref h2])), ((u1 0), .inr (14, [.int (nI 0), .int (-1), .int (nI 0), .ref (u0 0)])), ((u0 0), .inr (13, [.int (nI 0), .ref (G 0), .int (nI 0)])), (q0, .inl (K 2, 16, .inl (upd (upd (upd (upd (upd (upd (upd (upd (upd (fun _ => nI 0) 2 (nI 1)) 3 (nI 0)) 4 (nI 0)) 5 (nI 0)) 6 (nI 60)) 7 (nI 0)) 8 (nI 1)) 9 (nI 0)) 10 (nI 0)))), ((u4 0), .inr (14, [.int (nI 0), .int (-1), .int (nI 0), .ref h2])), (h4, .inr (13, [v7, v8, .int (nI 1)])), (h1, .inr (10, [.ref h2, .ref h4, v1, .ref h5, .ref h3, .int (nI 0), .int (nI 0), .int (nI 60), .int (nI 0), v2, v3, .int (nI 0), .int (nI 0), .int (nI 0), .int (nI 0), v4, v5])), ((u6 1), .inr (14, [.int (nI 0), .int (-1), .int (nI 0), .ref h2])), (h2, .inr (13, [.int (nI 0), v6, .int (nI 0)])), ((u6 2), .inr (14, [.int (nI 0), .int (-1), .int (nI 0), .ref (u6 0)])), ((u6 0), .inr (13, [.int (nI 0), .ref (G 0), .int (nI 0)])), (h5, .inr (13, [v9, v10, .int (nI 0)]))]) rfl (fun H locs hP hD hS => ?_)
  refine lv_dup hx hb dX12_count_213 rfl ?_
  refine lv_bipush (v := nI 11) hx hb dX12_count_214 (by decide +kernel) ?_
  refine lv_aload_n hx hb dX12_count_216 rfl (lv_at hl 6 rfl) ?_
  refine r_get hx hb hts ok_RX12 hown hK hP 0 rfl rfl 1 (by decide) w_1294 (fun _ h9 => h9) rfl dX12_count_217 ?_
  refine r_get hx hb hts ok_RX10 hown hK hP 8 rfl rfl 11 (by decide) w_1247 (fun _ h9 => h9) rfl dX12_count_220 ?_
  refine r_iast (k := 11) hx hb hK hP hD hS 5 2 rfl rfl (Nat.le_of_ble_eq_true rfl) (by decide) dX12_count_223 (ws' := [(h0, .inr (12, [v0, .ref h1])), (h3, .inl (K 1, 20, .inl (fun _ => nI 0))), ((u0 1), .inr (14, [.int (nI 0), .int (-1), .int (nI 0), .ref h2])), ((u1 0), .inr (14, [.int (nI 0), .int (-1), .int (nI 0), .ref (u0 0)])), ((u0 0), .inr (13, [.int (nI 0), .ref (G 0), .int (nI 0)])), (q0, .inl (K 2, 16, .inl (upd (upd (upd (upd (upd (upd (upd (upd (upd (upd (fun _ => nI 0) 2 (nI 1)) 3 (nI 0)) 4 (nI 0)) 5 (nI 0)) 6 (nI 60)) 7 (nI 0)) 8 (nI 1)) 9 (nI 0)) 10 (nI 0)) 11 (nI 0)))), ((u4 0), .inr (14, [.int (nI 0), .int (-1), .int (nI 0), .ref h2])), (h4, .inr (13, [v7, v8, .int (nI 1)])), (h1, .inr (10, [.ref h2, .ref h4, v1, .ref h5, .ref h3, .int (nI 0), .int (nI 0), .int (nI 60), .int (nI 0), v2, v3, .int (nI 0), .int (nI 0), .int (nI 0), .int (nI 0), v4, v5])), ((u6 1), .inr (14, [.int (nI 0), .int (-1), .int (nI 0), .ref h2])), (h2, .inr (13, [.int (nI 0), v6, .int (nI 0)])), ((u6 2), .inr (14, [.int (nI 0), .int (-1), .int (nI 0), .ref (u6 0)])), ((u6 0), .inr (13, [.int (nI 0), .ref (G 0), .int (nI 0)])), (h5, .inr (13, [v9, v10, .int (nI 0)]))]) rfl (fun H locs hP hD hS => ?_)
  refine lv_dup hx hb dX12_count_224 rfl ?_
  refine lv_bipush (v := nI 12) hx hb dX12_count_225 (by decide +kernel) ?_
  refine lv_aload_n hx hb dX12_count_227 rfl (lv_at hl 6 rfl) ?_
  refine r_get hx hb hts ok_RX12 hown hK hP 0 rfl rfl 1 (by decide) w_1294 (fun _ h9 => h9) rfl dX12_count_228 ?_
  refine r_get hx hb hts ok_RX10 hown hK hP 8 rfl rfl 12 (by decide) w_1249 (fun _ h9 => h9) rfl dX12_count_231 ?_
  refine r_iast (k := 12) hx hb hK hP hD hS 5 2 rfl rfl (Nat.le_of_ble_eq_true rfl) (by decide) dX12_count_234 (ws' := [(h0, .inr (12, [v0, .ref h1])), (h3, .inl (K 1, 20, .inl (fun _ => nI 0))), ((u0 1), .inr (14, [.int (nI 0), .int (-1), .int (nI 0), .ref h2])), ((u1 0), .inr (14, [.int (nI 0), .int (-1), .int (nI 0), .ref (u0 0)])), ((u0 0), .inr (13, [.int (nI 0), .ref (G 0), .int (nI 0)])), (q0, .inl (K 2, 16, .inl (upd (upd (upd (upd (upd (upd (upd (upd (upd (upd (upd (fun _ => nI 0) 2 (nI 1)) 3 (nI 0)) 4 (nI 0)) 5 (nI 0)) 6 (nI 60)) 7 (nI 0)) 8 (nI 1)) 9 (nI 0)) 10 (nI 0)) 11 (nI 0)) 12 (nI 0)))), ((u4 0), .inr (14, [.int (nI 0), .int (-1), .int (nI 0), .ref h2])), (h4, .inr (13, [v7, v8, .int (nI 1)])), (h1, .inr (10, [.ref h2, .ref h4, v1, .ref h5, .ref h3, .int (nI 0), .int (nI 0), .int (nI 60), .int (nI 0), v2, v3, .int (nI 0), .int (nI 0), .int (nI 0), .int (nI 0), v4, v5])), ((u6 1), .inr (14, [.int (nI 0), .int (-1), .int (nI 0), .ref h2])), (h2, .inr (13, [.int (nI 0), v6, .int (nI 0)])), ((u6 2), .inr (14, [.int (nI 0), .int (-1), .int (nI 0), .ref (u6 0)])), ((u6 0), .inr (13, [.int (nI 0), .ref (G 0), .int (nI 0)])), (h5, .inr (13, [v9, v10, .int (nI 0)]))]) rfl (fun H locs hP hD hS => ?_)
  refine lv_dup hx hb dX12_count_235 rfl ?_
  refine lv_bipush (v := nI 13) hx hb dX12_count_236 (by decide +kernel) ?_
  refine lv_aload_n hx hb dX12_count_238 rfl (lv_at hl 6 rfl) ?_
  refine r_get hx hb hts ok_RX12 hown hK hP 0 rfl rfl 1 (by decide) w_1294 (fun _ h9 => h9) rfl dX12_count_239 ?_
  refine r_get hx hb hts ok_RX10 hown hK hP 8 rfl rfl 13 (by decide) w_1251 (fun _ h9 => h9) rfl dX12_count_242 ?_
  refine r_iast (k := 13) hx hb hK hP hD hS 5 2 rfl rfl (Nat.le_of_ble_eq_true rfl) (by decide) dX12_count_245 (ws' := [(h0, .inr (12, [v0, .ref h1])), (h3, .inl (K 1, 20, .inl (fun _ => nI 0))), ((u0 1), .inr (14, [.int (nI 0), .int (-1), .int (nI 0), .ref h2])), ((u1 0), .inr (14, [.int (nI 0), .int (-1), .int (nI 0), .ref (u0 0)])), ((u0 0), .inr (13, [.int (nI 0), .ref (G 0), .int (nI 0)])), (q0, .inl (K 2, 16, .inl (upd (upd (upd (upd (upd (upd (upd (upd (upd (upd (upd (upd (fun _ => nI 0) 2 (nI 1)) 3 (nI 0)) 4 (nI 0)) 5 (nI 0)) 6 (nI 60)) 7 (nI 0)) 8 (nI 1)) 9 (nI 0)) 10 (nI 0)) 11 (nI 0)) 12 (nI 0)) 13 (nI 0)))), ((u4 0), .inr (14, [.int (nI 0), .int (-1), .int (nI 0), .ref h2])), (h4, .inr (13, [v7, v8, .int (nI 1)])), (h1, .inr (10, [.ref h2, .ref h4, v1, .ref h5, .ref h3, .int (nI 0), .int (nI 0), .int (nI 60), .int (nI 0), v2, v3, .int (nI 0), .int (nI 0), .int (nI 0), .int (nI 0), v4, v5])), ((u6 1), .inr (14, [.int (nI 0), .int (-1), .int (nI 0), .ref h2])), (h2, .inr (13, [.int (nI 0), v6, .int (nI 0)])), ((u6 2), .inr (14, [.int (nI 0), .int (-1), .int (nI 0), .ref (u6 0)])), ((u6 0), .inr (13, [.int (nI 0), .ref (G 0), .int (nI 0)])), (h5, .inr (13, [v9, v10, .int (nI 0)]))]) rfl (fun H locs hP hD hS => ?_)
  refine lv_dup hx hb dX12_count_246 rfl ?_
  refine lv_bipush (v := nI 14) hx hb dX12_count_247 (by decide +kernel) ?_
  refine lv_aload_n hx hb dX12_count_249 rfl (lv_at hl 6 rfl) ?_
  refine r_get hx hb hts ok_RX12 hown hK hP 0 rfl rfl 1 (by decide) w_1294 (fun _ h9 => h9) rfl dX12_count_250 ?_
  refine r_get hx hb hts ok_RX10 hown hK hP 8 rfl rfl 14 (by decide) w_1253 (fun _ h9 => h9) rfl dX12_count_253 ?_
  refine r_iast (k := 14) hx hb hK hP hD hS 5 2 rfl rfl (Nat.le_of_ble_eq_true rfl) (by decide) dX12_count_256 (ws' := [(h0, .inr (12, [v0, .ref h1])), (h3, .inl (K 1, 20, .inl (fun _ => nI 0))), ((u0 1), .inr (14, [.int (nI 0), .int (-1), .int (nI 0), .ref h2])), ((u1 0), .inr (14, [.int (nI 0), .int (-1), .int (nI 0), .ref (u0 0)])), ((u0 0), .inr (13, [.int (nI 0), .ref (G 0), .int (nI 0)])), (q0, .inl (K 2, 16, .inl (upd (upd (upd (upd (upd (upd (upd (upd (upd (upd (upd (upd (upd (fun _ => nI 0) 2 (nI 1)) 3 (nI 0)) 4 (nI 0)) 5 (nI 0)) 6 (nI 60)) 7 (nI 0)) 8 (nI 1)) 9 (nI 0)) 10 (nI 0)) 11 (nI 0)) 12 (nI 0)) 13 (nI 0)) 14 (nI 0)))), ((u4 0), .inr (14, [.int (nI 0), .int (-1), .int (nI 0), .ref h2])), (h4, .inr (13, [v7, v8, .int (nI 1)])), (h1, .inr (10, [.ref h2, .ref h4, v1, .ref h5, .ref h3, .int (nI 0), .int (nI 0), .int (nI 60), .int (nI 0), v2, v3, .int (nI 0), .int (nI 0), .int (nI 0), .int (nI 0), v4, v5])), ((u6 1), .inr (14, [.int (nI 0), .int (-1), .int (nI 0), .ref h2])), (h2, .inr (13, [.int (nI 0), v6, .int (nI 0)])), ((u6 2), .inr (14, [.int (nI 0), .int (-1), .int (nI 0), .ref (u6 0)])), ((u6 0), .inr (13, [.int (nI 0), .ref (G 0), .int (nI 0)])), (h5, .inr (13, [v9, v10, .int (nI 0)]))]) rfl (fun H locs hP hD hS => ?_)
  refine lv_dup hx hb dX12_count_257 rfl ?_
  refine lv_bipush (v := nI 15) hx hb dX12_count_258 (by decide +kernel) ?_
  refine lv_aload_n hx hb dX12_count_260 rfl (lv_at hl 6 rfl) ?_
  refine r_get hx hb hts ok_RX12 hown hK hP 0 rfl rfl 1 (by decide) w_1294 (fun _ h9 => h9) rfl dX12_count_261 ?_
  refine k_i (wr := [(h0, .inr (12, [v0, .ref h1])), (h3, .inl (K 1, 20, .inl (fun _ => nI 0))), ((u0 1), .inr (14, [.int (nI 0), .int (-1), .int (nI 0), .ref h2])), ((u1 0), .inr (14, [.int (nI 0), .int (-1), .int (nI 0), .ref (u0 0)])), ((u0 0), .inr (13, [.int (nI 0), .ref (G 0), .int (nI 0)])), (q0, .inl (K 2, 16, .inl (upd (upd (upd (upd (upd (upd (upd (upd (upd (upd (upd (upd (upd (fun _ => nI 0) 2 (nI 1)) 3 (nI 0)) 4 (nI 0)) 5 (nI 0)) 6 (nI 60)) 7 (nI 0)) 8 (nI 1)) 9 (nI 0)) 10 (nI 0)) 11 (nI 0)) 12 (nI 0)) 13 (nI 0)) 14 (nI 0)))), ((u4 0), .inr (14, [.int (nI 0), .int (-1), .int (nI 0), .ref h2])), (h4, .inr (13, [v7, v8, .int (nI 1)])), ((u6 1), .inr (14, [.int (nI 0), .int (-1), .int (nI 0), .ref h2])), ((u6 2), .inr (14, [.int (nI 0), .int (-1), .int (nI 0), .ref (u6 0)])), ((u6 0), .inr (13, [.int (nI 0), .ref (G 0), .int (nI 0)])), (h5, .inr (13, [v9, v10, .int (nI 0)]))]) (run_V (rest := [.int (nI 15), .ref q0, .ref q0]) hx hb hml hown hts hK hP hD hS hA hm (C830_greys l G D K H.size h1 h2 (.ref h4) (v1) (.ref h5) (.ref h3) (.int (nI 0)) (.int (nI 0)) (.int (nI 60)) (.int (nI 0)) (v2) (v3) (.int (nI 0)) (.int (nI 0)) (.int (nI 0)) (.int (nI 0)) (v4) (v5) (v6)) [8, 10] rfl rfl mok_yX10_greys w_1973 w_1974 w_1975 (rcv hK hP 8 rfl rfl rfl) ⟨Nat.le_of_ble_eq_true rfl, Nat.le_of_ble_eq_true rfl⟩ rfl hl.1 rfl (Nat.le_of_ble_eq_true rfl) dX12_count_264 ⟨(Nat.le_of_ble_eq_true rfl), (Nat.le_of_ble_eq_true rfl)⟩) hP hD hS hA [8, 10] [0, 1, 2, 3, 4, 5, 6, 7, 9, 11, 12, 13] rfl rfl rfl (by decide) (w2 := fun u8 => [(h0, .inr (12, [v0, .ref h1])), (h3, .inl (K 1, 20, .inl (fun _ => nI 0))), ((u0 1), .inr (14, [.int (nI 0), .int (-1), .int (nI 0), .ref h2])), ((u1 0), .inr (14, [.int (nI 0), .int (-1), .int (nI 0), .ref (u0 0)])), ((u0 0), .inr (13, [.int (nI 0), .ref (G 0), .int (nI 0)])), (q0, .inl (K 2, 16, .inl (upd (upd (upd (upd (upd (upd (upd (upd (upd (upd (upd (upd (upd (fun _ => nI 0) 2 (nI 1)) 3 (nI 0)) 4 (nI 0)) 5 (nI 0)) 6 (nI 60)) 7 (nI 0)) 8 (nI 1)) 9 (nI 0)) 10 (nI 0)) 11 (nI 0)) 12 (nI 0)) 13 (nI 0)) 14 (nI 0)))), ((u4 0), .inr (14, [.int (nI 0), .int (-1), .int (nI 0), .ref h2])), (h4, .inr (13, [v7, v8, .int (nI 1)])), ((u6 1), .inr (14, [.int (nI 0), .int (-1), .int (nI 0), .ref h2])), ((u6 2), .inr (14, [.int (nI 0), .int (-1), .int (nI 0), .ref (u6 0)])), ((u6 0), .inr (13, [.int (nI 0), .ref (G 0), .int (nI 0)])), (h5, .inr (13, [v9, v10, .int (nI 0)])), (h1, .inr (10, [.ref h2, .ref h4, v1, .ref h5, .ref h3, .int (nI 0), .int (nI 0), .int (nI 60), .int (nI 0), v2, v3, .int (nI 0), .int (nI 0), .int (nI 0), .int (nI 0), v4, v5])), ((u8 0), .inr (14, [.int (nI 0), .int (-1), .int (nI 0), .ref h2])), (h2, .inr (13, [.int (nI 0), v6, .int (nI 0)]))]) (fun _ => rfl) (fun u8 H locs hP hD hS => ?_)
  refine r_iast (k := 15) hx hb hK hP hD hS 5 2 rfl rfl (Nat.le_of_ble_eq_true rfl) (by decide) dX12_count_267 (ws' := [(h0, .inr (12, [v0, .ref h1])), (h3, .inl (K 1, 20, .inl (fun _ => nI 0))), ((u0 1), .inr (14, [.int (nI 0), .int (-1), .int (nI 0), .ref h2])), ((u1 0), .inr (14, [.int (nI 0), .int (-1), .int (nI 0), .ref (u0 0)])), ((u0 0), .inr (13, [.int (nI 0), .ref (G 0), .int (nI 0)])), (q0, .inl (K 2, 16, .inl (upd (upd (upd (upd (upd (upd (upd (upd (upd (upd (upd (upd (upd (upd (fun _ => nI 0) 2 (nI 1)) 3 (nI 0)) 4 (nI 0)) 5 (nI 0)) 6 (nI 60)) 7 (nI 0)) 8 (nI 1)) 9 (nI 0)) 10 (nI 0)) 11 (nI 0)) 12 (nI 0)) 13 (nI 0)) 14 (nI 0)) 15 (nI 0)))), ((u4 0), .inr (14, [.int (nI 0), .int (-1), .int (nI 0), .ref h2])), (h4, .inr (13, [v7, v8, .int (nI 1)])), ((u6 1), .inr (14, [.int (nI 0), .int (-1), .int (nI 0), .ref h2])), ((u6 2), .inr (14, [.int (nI 0), .int (-1), .int (nI 0), .ref (u6 0)])), ((u6 0), .inr (13, [.int (nI 0), .ref (G 0), .int (nI 0)])), (h5, .inr (13, [v9, v10, .int (nI 0)])), (h1, .inr (10, [.ref h2, .ref h4, v1, .ref h5, .ref h3, .int (nI 0), .int (nI 0), .int (nI 60), .int (nI 0), v2, v3, .int (nI 0), .int (nI 0), .int (nI 0), .int (nI 0), v4, v5])), ((u8 0), .inr (14, [.int (nI 0), .int (-1), .int (nI 0), .ref h2])), (h2, .inr (13, [.int (nI 0), v6, .int (nI 0)]))]) rfl (fun H locs hP hD hS => ?_)
  refine lv_astore (lv' := [(4, .ref q0), (6, .int (nI 20)), (3, .int (nI 0)), (7, .int (nI 0)), (5, .int (nI 20)), (2, .int (nI 0)), (0, .ref h0), (1, .int (nI 14))]) hx hb dX12_count_268 hl (by decide) rfl (fun ls hl => ?_)
  refine lv_aload hx hb dX12_count_270 (lv_at hl 0 rfl) ?_
  refine lv_iload_n hx hb dX12_count_272 rfl (lv_at hl 7 rfl) ?_
  refine r_iald (k := 14) hx hb hK hP 5 2 rfl rfl (Nat.le_of_ble_eq_true rfl) (by decide) (v := nI 0) rfl dX12_count_273 ?_
  exact e_i hx hb hr hlk hP hD hS (fun k => match k with | 0 => (u0 0) | 1 => (u0 1) | 2 => (u1 0) | 3 => q0 | 4 => (u4 0) | 5 => (u6 0) | 6 => (u6 1) | 7 => (u6 2) | 8 => (u8 0) | _ => 0) rfl (Nat.le_of_ble_eq_true rfl) (Nat.le_of_ble_eq_true rfl) rfl dX12_count_274
