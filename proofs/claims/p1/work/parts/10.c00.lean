/-! path contracts, written by wip/p1/sx.py -/
set_option maxHeartbeats 4000000 in
set_option maxRecDepth 100000 in
theorem C0_init (l : Launch) (G : Nat → Nat) (D : va_G) (K : Nat → ClassId) (sz : Nat) (h0 : Nat) (v0 v1 : Value) : CM l yX5_init cX5_init 1 (none : Option FieldType) ({ frames := 1, cells := 1, slots := 200, locals := 20 } : Room) G D K [.ref h0] [(h0, .inr (5, [v0, v1]))] sz (CQv D (fun u => [(h0, .inr (5, [.ref (u 0), v1])), ((u 0), .inl (K 0, 200, .inr (.inr (.inr (.inr (fun _ => none))))))])) := by
  refine CM_of (lv0 := [(0, .ref h0)]) pn_RX5 (Nat.le_of_ble_eq_true rfl) rfl (fun p e s m args below meth c A ls hx hb hr hml hown hts hlk hnm hP hK hD hS hA hm hl => ?_)
  have hown : s.vm.findClass RX5 = some m.cls := hown
  refine lv_aload_n hx hb dX5_init_0 rfl (lv_at hl 0 rfl) ?_
  refine r_oinit hx hb hts hown w_51 w_44 w_45 hml hl.1 dX5_init_1 (Nat.le_of_ble_eq_true rfl) (Nat.le_of_ble_eq_true rfl) ?_
  refine lv_aload_n hx hb dX5_init_4 rfl (lv_at hl 0 rfl) ?_
  refine lv_sipush (v := nI 200) hx hb dX5_init_5 (by decide +kernel) ?_
  refine r_newq hx hb hts hown w_52 hm.2.2.1.1 hK hP hD hS hA 0 rfl (N := 200) (by decide +kernel) (by decide +kernel) (Nat.le_of_ble_eq_true rfl) (Nat.le_of_ble_eq_true rfl) (Nat.le_of_ble_eq_true rfl) dX5_init_8 (w2 := fun q0 => [(h0, .inr (5, [v0, v1])), (q0, .inl (K 0, 200, .inr (.inr (.inr (.inr (fun _ => none))))))]) (fun _ => rfl) (fun q0 H hP hD hS => ?_)
  refine r_putF hx hb hts ok_RX5 hown hK hP hD hS 0 rfl rfl 0 (by decide) w_54 (fun _ h9 => h9) rfl hnm rfl (v := .ref q0) rfl rfl (Nat.le_of_ble_eq_true rfl) dX5_init_11 (ws' := [(h0, .inr (5, [.ref q0, v1])), (q0, .inl (K 0, 200, .inr (.inr (.inr (.inr (fun _ => none))))))]) rfl (fun H locs hP hD hS => ?_)
  exact e_v hx hb hr hlk hP hD hS (fun k => match k with | 0 => q0 | _ => 0) rfl (Nat.le_of_ble_eq_true rfl) (Nat.le_of_ble_eq_true rfl) dX5_init_14
set_option maxHeartbeats 4000000 in
set_option maxRecDepth 100000 in
theorem C1_init (l : Launch) (G : Nat → Nat) (D : va_G) (K : Nat → ClassId) (sz : Nat) (h0 : Nat) (v0 v1 v2 v3 : Value) : CM l yX4_init cX4_init 1 (none : Option FieldType) ({ frames := 2, cells := 4, slots := 238, locals := 40 } : Room) G D K [.ref h0] [(h0, .inr (4, [v0, v1, v2, v3]))] sz (CQv D (fun u => [(h0, .inr (4, [.ref (u 0), .ref (u 2), .ref (u 3), .int (nI 1)])), ((u 0), .inr (5, [.ref (u 1), .int (nI 0)])), ((u 1), .inl (K 0, 200, .inr (.inr (.inr (.inr (fun _ => none)))))), ((u 2), .inl (K 0, 32, .inr (.inr (.inr (.inr (fun _ => none)))))), ((u 3), .inl (K 0, 4, .inr (.inr (.inr (.inr (fun _ => none))))))])) := by
  refine CM_of (lv0 := [(0, .ref h0)]) pn_RX4 (Nat.le_of_ble_eq_true rfl) rfl (fun p e s m args below meth c A ls hx hb hr hml hown hts hlk hnm hP hK hD hS hA hm hl => ?_)
  have hown : s.vm.findClass RX4 = some m.cls := hown
  refine lv_aload_n hx hb dX4_init_0 rfl (lv_at hl 0 rfl) ?_
  refine r_oinit hx hb hts hown w_66 w_44 w_45 hml hl.1 dX4_init_1 (Nat.le_of_ble_eq_true rfl) (Nat.le_of_ble_eq_true rfl) ?_
  refine lv_aload_n hx hb dX4_init_4 rfl (lv_at hl 0 rfl) ?_
  refine r_new (ci := 5) (C := RX5) (T := TX5) (N := 2) hx hb hts ok_RX5 hown w_67 w_47 w_2 hK hP hD hS hA rfl df_RX5 (Nat.le_of_ble_eq_true rfl) (Nat.le_of_ble_eq_true rfl) dX4_init_5 (w2 := fun q0 => [(h0, .inr (4, [v0, v1, v2, v3])), (q0, .inr (5, [.null, .int (nI 0)]))]) (fun _ => rfl) (fun q0 H hP hD hS => ?_)
  refine lv_dup hx hb dX4_init_8 rfl ?_
  refine k_v (wr := [(h0, .inr (4, [v0, v1, v2, v3]))]) (run_IN (rest := [.ref q0, .ref h0]) hx hb hml hown hts hK hP hD hS hA hm (C0_init l G D K H.size q0 (.null) (.int (nI 0))) [1] rfl rfl mok_yX5_init w_68 w_49 rfl ⟨Nat.le_of_ble_eq_true rfl, Nat.le_of_ble_eq_true rfl⟩ rfl hl.1 rfl (Nat.le_of_ble_eq_true rfl) dX4_init_9 ⟨(Nat.le_of_ble_eq_true rfl), (Nat.le_of_ble_eq_true rfl)⟩) hP hD hS hA [1] [0] rfl rfl rfl (by decide) (w2 := fun u0 => [(h0, .inr (4, [v0, v1, v2, v3])), (q0, .inr (5, [.ref (u0 0), .int (nI 0)])), ((u0 0), .inl (K 0, 200, .inr (.inr (.inr (.inr (fun _ => none))))))]) (fun _ => rfl) (fun u0 H locs hP hD hS => ?_)
  refine r_putF hx hb hts ok_RX4 hown hK hP hD hS 0 rfl rfl 0 (by decide) w_70 (fun _ h9 => h9) rfl hnm rfl (v := .ref q0) rfl rfl (Nat.le_of_ble_eq_true rfl) dX4_init_12 (ws' := [(h0, .inr (4, [.ref q0, v1, v2, v3])), (q0, .inr (5, [.ref (u0 0), .int (nI 0)])), ((u0 0), .inl (K 0, 200, .inr (.inr (.inr (.inr (fun _ => none))))))]) rfl (fun H locs hP hD hS => ?_)
  refine lv_aload_n hx hb dX4_init_15 rfl (lv_at hl 0 rfl) ?_
  refine lv_bipush (v := nI 32) hx hb dX4_init_16 (by decide +kernel) ?_
  refine r_newq hx hb hts hown w_69 hm.2.2.1.1 hK hP hD hS hA 0 rfl (N := 32) (by decide +kernel) (by decide +kernel) (Nat.le_of_ble_eq_true rfl) (Nat.le_of_ble_eq_true rfl) (Nat.le_of_ble_eq_true rfl) dX4_init_18 (w2 := fun q1 => [(h0, .inr (4, [.ref q0, v1, v2, v3])), (q0, .inr (5, [.ref (u0 0), .int (nI 0)])), ((u0 0), .inl (K 0, 200, .inr (.inr (.inr (.inr (fun _ => none)))))), (q1, .inl (K 0, 32, .inr (.inr (.inr (.inr (fun _ => none))))))]) (fun _ => rfl) (fun q1 H hP hD hS => ?_)
  refine r_putF hx hb hts ok_RX4 hown hK hP hD hS 0 rfl rfl 1 (by decide) w_74 (fun _ h9 => h9) rfl hnm rfl (v := .ref q1) rfl rfl (Nat.le_of_ble_eq_true rfl) dX4_init_21 (ws' := [(h0, .inr (4, [.ref q0, .ref q1, v2, v3])), (q0, .inr (5, [.ref (u0 0), .int (nI 0)])), ((u0 0), .inl (K 0, 200, .inr (.inr (.inr (.inr (fun _ => none)))))), (q1, .inl (K 0, 32, .inr (.inr (.inr (.inr (fun _ => none))))))]) rfl (fun H locs hP hD hS => ?_)
  refine lv_aload_n hx hb dX4_init_24 rfl (lv_at hl 0 rfl) ?_
  refine lv_iconst (v := nI 4) hx hb dX4_init_25 (by decide +kernel) ?_
  refine r_newq hx hb hts hown w_69 hm.2.2.1.1 hK hP hD hS hA 0 rfl (N := 4) (by decide +kernel) (by decide +kernel) (Nat.le_of_ble_eq_true rfl) (Nat.le_of_ble_eq_true rfl) (Nat.le_of_ble_eq_true rfl) dX4_init_26 (w2 := fun q2 => [(h0, .inr (4, [.ref q0, .ref q1, v2, v3])), (q0, .inr (5, [.ref (u0 0), .int (nI 0)])), ((u0 0), .inl (K 0, 200, .inr (.inr (.inr (.inr (fun _ => none)))))), (q1, .inl (K 0, 32, .inr (.inr (.inr (.inr (fun _ => none)))))), (q2, .inl (K 0, 4, .inr (.inr (.inr (.inr (fun _ => none))))))]) (fun _ => rfl) (fun q2 H hP hD hS => ?_)
  refine r_putF hx hb hts ok_RX4 hown hK hP hD hS 0 rfl rfl 2 (by decide) w_75 (fun _ h9 => h9) rfl hnm rfl (v := .ref q2) rfl rfl (Nat.le_of_ble_eq_true rfl) dX4_init_29 (ws' := [(h0, .inr (4, [.ref q0, .ref q1, .ref q2, v3])), (q0, .inr (5, [.ref (u0 0), .int (nI 0)])), ((u0 0), .inl (K 0, 200, .inr (.inr (.inr (.inr (fun _ => none)))))), (q1, .inl (K 0, 32, .inr (.inr (.inr (.inr (fun _ => none)))))), (q2, .inl (K 0, 4, .inr (.inr (.inr (.inr (fun _ => none))))))]) rfl (fun H locs hP hD hS => ?_)
  refine lv_aload_n hx hb dX4_init_32 rfl (lv_at hl 0 rfl) ?_
  refine lv_iconst (v := nI 1) hx hb dX4_init_33 (by decide +kernel) ?_
  refine r_put hx hb hts ok_RX4 hown hK hP hD hS 0 rfl rfl 3 (by decide) w_76 (fun _ h9 => h9) rfl (v := .int (nI 1)) rfl rfl (Nat.le_of_ble_eq_true rfl) dX4_init_34 (ws' := [(h0, .inr (4, [.ref q0, .ref q1, .ref q2, .int (nI 1)])), (q0, .inr (5, [.ref (u0 0), .int (nI 0)])), ((u0 0), .inl (K 0, 200, .inr (.inr (.inr (.inr (fun _ => none)))))), (q1, .inl (K 0, 32, .inr (.inr (.inr (.inr (fun _ => none)))))), (q2, .inl (K 0, 4, .inr (.inr (.inr (.inr (fun _ => none))))))]) rfl (fun H locs hP hD hS => ?_)
  exact e_v hx hb hr hlk hP hD hS (fun k => match k with | 0 => q0 | 1 => (u0 0) | 2 => q1 | 3 => q2 | _ => 0) rfl (Nat.le_of_ble_eq_true rfl) (Nat.le_of_ble_eq_true rfl) dX4_init_37
set_option maxHeartbeats 4000000 in
set_option maxRecDepth 100000 in
theorem C2_init (l : Launch) (G : Nat → Nat) (D : va_G) (K : Nat → ClassId) (sz : Nat) (h0 : Nat) (v0 v1 v2 v3 v4 v5 v6 v7 : Value) : CM l yX3_init cX3_init 1 (none : Option FieldType) ({ frames := 2, cells := 7, slots := 626, locals := 40 } : Room) G D K [.ref h0] [(h0, .inr (3, [v0, v1, v2, v3, v4, v5, v6, v7]))] sz (CQv D (fun u => [(h0, .inr (3, [.ref (u 0), .ref (u 2), .ref (u 4), v3, v4, .int (nI 100), .int (nI 60), .ref (u 6)])), ((u 0), .inr (5, [.ref (u 1), .int (nI 0)])), ((u 1), .inl (K 0, 200, .inr (.inr (.inr (.inr (fun _ => none)))))), ((u 2), .inr (5, [.ref (u 3), .int (nI 0)])), ((u 3), .inl (K 0, 200, .inr (.inr (.inr (.inr (fun _ => none)))))), ((u 4), .inr (5, [.ref (u 5), .int (nI 0)])), ((u 5), .inl (K 0, 200, .inr (.inr (.inr (.inr (fun _ => none)))))), ((u 6), .inl (K 1, 20, .inl (fun _ => nI 0)))])) := by
  refine CM_of (lv0 := [(0, .ref h0)]) pn_RX3 (Nat.le_of_ble_eq_true rfl) rfl (fun p e s m args below meth c A ls hx hb hr hml hown hts hlk hnm hP hK hD hS hA hm hl => ?_)
  have hown : s.vm.findClass RX3 = some m.cls := hown
  refine lv_aload_n hx hb dX3_init_0 rfl (lv_at hl 0 rfl) ?_
  refine r_oinit hx hb hts hown w_91 w_44 w_45 hml hl.1 dX3_init_1 (Nat.le_of_ble_eq_true rfl) (Nat.le_of_ble_eq_true rfl) ?_
  refine lv_aload_n hx hb dX3_init_4 rfl (lv_at hl 0 rfl) ?_
  refine r_new (ci := 5) (C := RX5) (T := TX5) (N := 2) hx hb hts ok_RX5 hown w_92 w_47 w_2 hK hP hD hS hA rfl df_RX5 (Nat.le_of_ble_eq_true rfl) (Nat.le_of_ble_eq_true rfl) dX3_init_5 (w2 := fun q0 => [(h0, .inr (3, [v0, v1, v2, v3, v4, v5, v6, v7])), (q0, .inr (5, [.null, .int (nI 0)]))]) (fun _ => rfl) (fun q0 H hP hD hS => ?_)
  refine lv_dup hx hb dX3_init_8 rfl ?_
  refine k_v (wr := [(h0, .inr (3, [v0, v1, v2, v3, v4, v5, v6, v7]))]) (run_IN (rest := [.ref q0, .ref h0]) hx hb hml hown hts hK hP hD hS hA hm (C0_init l G D K H.size q0 (.null) (.int (nI 0))) [1] rfl rfl mok_yX5_init w_93 w_49 rfl ⟨Nat.le_of_ble_eq_true rfl, Nat.le_of_ble_eq_true rfl⟩ rfl hl.1 rfl (Nat.le_of_ble_eq_true rfl) dX3_init_9 ⟨(Nat.le_of_ble_eq_true rfl), (Nat.le_of_ble_eq_true rfl)⟩) hP hD hS hA [1] [0] rfl rfl rfl (by decide) (w2 := fun u0 => [(h0, .inr (3, [v0, v1, v2, v3, v4, v5, v6, v7])), (q0, .inr (5, [.ref (u0 0), .int (nI 0)])), ((u0 0), .inl (K 0, 200, .inr (.inr (.inr (.inr (fun _ => none))))))]) (fun _ => rfl) (fun u0 H locs hP hD hS => ?_)
  refine r_putF hx hb hts ok_RX3 hown hK hP hD hS 0 rfl rfl 0 (by decide) w_94 (fun _ h9 => h9) rfl hnm rfl (v := .ref q0) rfl rfl (Nat.le_of_ble_eq_true rfl) dX3_init_12 (ws' := [(h0, .inr (3, [.ref q0, v1, v2, v3, v4, v5, v6, v7])), (q0, .inr (5, [.ref (u0 0), .int (nI 0)])), ((u0 0), .inl (K 0, 200, .inr (.inr (.inr (.inr (fun _ => none))))))]) rfl (fun H locs hP hD hS => ?_)
  refine lv_aload_n hx hb dX3_init_15 rfl (lv_at hl 0 rfl) ?_
  refine r_new (ci := 5) (C := RX5) (T := TX5) (N := 2) hx hb hts ok_RX5 hown w_92 w_47 w_2 hK hP hD hS hA rfl df_RX5 (Nat.le_of_ble_eq_true rfl) (Nat.le_of_ble_eq_true rfl) dX3_init_16 (w2 := fun q1 => [(h0, .inr (3, [.ref q0, v1, v2, v3, v4, v5, v6, v7])), (q0, .inr (5, [.ref (u0 0), .int (nI 0)])), ((u0 0), .inl (K 0, 200, .inr (.inr (.inr (.inr (fun _ => none)))))), (q1, .inr (5, [.null, .int (nI 0)]))]) (fun _ => rfl) (fun q1 H hP hD hS => ?_)
  refine lv_dup hx hb dX3_init_19 rfl ?_
  refine k_v (wr := [(h0, .inr (3, [.ref q0, v1, v2, v3, v4, v5, v6, v7])), (q0, .inr (5, [.ref (u0 0), .int (nI 0)])), ((u0 0), .inl (K 0, 200, .inr (.inr (.inr (.inr (fun _ => none))))))]) (run_IN (rest := [.ref q1, .ref h0]) hx hb hml hown hts hK hP hD hS hA hm (C0_init l G D K H.size q1 (.null) (.int (nI 0))) [3] rfl rfl mok_yX5_init w_93 w_49 rfl ⟨Nat.le_of_ble_eq_true rfl, Nat.le_of_ble_eq_true rfl⟩ rfl hl.1 rfl (Nat.le_of_ble_eq_true rfl) dX3_init_20 ⟨(Nat.le_of_ble_eq_true rfl), (Nat.le_of_ble_eq_true rfl)⟩) hP hD hS hA [3] [0, 1, 2] rfl rfl rfl (by decide) (w2 := fun u1 => [(h0, .inr (3, [.ref q0, v1, v2, v3, v4, v5, v6, v7])), (q0, .inr (5, [.ref (u0 0), .int (nI 0)])), ((u0 0), .inl (K 0, 200, .inr (.inr (.inr (.inr (fun _ => none)))))), (q1, .inr (5, [.ref (u1 0), .int (nI 0)])), ((u1 0), .inl (K 0, 200, .inr (.inr (.inr (.inr (fun _ => none))))))]) (fun _ => rfl) (fun u1 H locs hP hD hS => ?_)
  refine r_putF hx hb hts ok_RX3 hown hK hP hD hS 0 rfl rfl 1 (by decide) w_96 (fun _ h9 => h9) rfl hnm rfl (v := .ref q1) rfl rfl (Nat.le_of_ble_eq_true rfl) dX3_init_23 (ws' := [(h0, .inr (3, [.ref q0, .ref q1, v2, v3, v4, v5, v6, v7])), (q0, .inr (5, [.ref (u0 0), .int (nI 0)])), ((u0 0), .inl (K 0, 200, .inr (.inr (.inr (.inr (fun _ => none)))))), (q1, .inr (5, [.ref (u1 0), .int (nI 0)])), ((u1 0), .inl (K 0, 200, .inr (.inr (.inr (.inr (fun _ => none))))))]) rfl (fun H locs hP hD hS => ?_)
  refine lv_aload_n hx hb dX3_init_26 rfl (lv_at hl 0 rfl) ?_
  refine r_new (ci := 5) (C := RX5) (T := TX5) (N := 2) hx hb hts ok_RX5 hown w_92 w_47 w_2 hK hP hD hS hA rfl df_RX5 (Nat.le_of_ble_eq_true rfl) (Nat.le_of_ble_eq_true rfl) dX3_init_27 (w2 := fun q2 => [(h0, .inr (3, [.ref q0, .ref q1, v2, v3, v4, v5, v6, v7])), (q0, .inr (5, [.ref (u0 0), .int (nI 0)])), ((u0 0), .inl (K 0, 200, .inr (.inr (.inr (.inr (fun _ => none)))))), (q1, .inr (5, [.ref (u1 0), .int (nI 0)])), ((u1 0), .inl (K 0, 200, .inr (.inr (.inr (.inr (fun _ => none)))))), (q2, .inr (5, [.null, .int (nI 0)]))]) (fun _ => rfl) (fun q2 H hP hD hS => ?_)
  refine lv_dup hx hb dX3_init_30 rfl ?_
  refine k_v (wr := [(h0, .inr (3, [.ref q0, .ref q1, v2, v3, v4, v5, v6, v7])), (q0, .inr (5, [.ref (u0 0), .int (nI 0)])), ((u0 0), .inl (K 0, 200, .inr (.inr (.inr (.inr (fun _ => none)))))), (q1, .inr (5, [.ref (u1 0), .int (nI 0)])), ((u1 0), .inl (K 0, 200, .inr (.inr (.inr (.inr (fun _ => none))))))]) (run_IN (rest := [.ref q2, .ref h0]) hx hb hml hown hts hK hP hD hS hA hm (C0_init l G D K H.size q2 (.null) (.int (nI 0))) [5] rfl rfl mok_yX5_init w_93 w_49 rfl ⟨Nat.le_of_ble_eq_true rfl, Nat.le_of_ble_eq_true rfl⟩ rfl hl.1 rfl (Nat.le_of_ble_eq_true rfl) dX3_init_31 ⟨(Nat.le_of_ble_eq_true rfl), (Nat.le_of_ble_eq_true rfl)⟩) hP hD hS hA [5] [0, 1, 2, 3, 4] rfl rfl rfl (by decide) (w2 := fun u2 => [(h0, .inr (3, [.ref q0, .ref q1, v2, v3, v4, v5, v6, v7])), (q0, .inr (5, [.ref (u0 0), .int (nI 0)])), ((u0 0), .inl (K 0, 200, .inr (.inr (.inr (.inr (fun _ => none)))))), (q1, .inr (5, [.ref (u1 0), .int (nI 0)])), ((u1 0), .inl (K 0, 200, .inr (.inr (.inr (.inr (fun _ => none)))))), (q2, .inr (5, [.ref (u2 0), .int (nI 0)])), ((u2 0), .inl (K 0, 200, .inr (.inr (.inr (.inr (fun _ => none))))))]) (fun _ => rfl) (fun u2 H locs hP hD hS => ?_)
  refine r_putF hx hb hts ok_RX3 hown hK hP hD hS 0 rfl rfl 2 (by decide) w_98 (fun _ h9 => h9) rfl hnm rfl (v := .ref q2) rfl rfl (Nat.le_of_ble_eq_true rfl) dX3_init_34 (ws' := [(h0, .inr (3, [.ref q0, .ref q1, .ref q2, v3, v4, v5, v6, v7])), (q0, .inr (5, [.ref (u0 0), .int (nI 0)])), ((u0 0), .inl (K 0, 200, .inr (.inr (.inr (.inr (fun _ => none)))))), (q1, .inr (5, [.ref (u1 0), .int (nI 0)])), ((u1 0), .inl (K 0, 200, .inr (.inr (.inr (.inr (fun _ => none)))))), (q2, .inr (5, [.ref (u2 0), .int (nI 0)])), ((u2 0), .inl (K 0, 200, .inr (.inr (.inr (.inr (fun _ => none))))))]) rfl (fun H locs hP hD hS => ?_)
  refine lv_aload_n hx hb dX3_init_37 rfl (lv_at hl 0 rfl) ?_
  refine lv_bipush (v := nI 100) hx hb dX3_init_38 (by decide +kernel) ?_
  refine r_put hx hb hts ok_RX3 hown hK hP hD hS 0 rfl rfl 5 (by decide) w_107 (fun _ h9 => h9) rfl (v := .int (nI 100)) rfl rfl (Nat.le_of_ble_eq_true rfl) dX3_init_40 (ws' := [(h0, .inr (3, [.ref q0, .ref q1, .ref q2, v3, v4, .int (nI 100), v6, v7])), (q0, .inr (5, [.ref (u0 0), .int (nI 0)])), ((u0 0), .inl (K 0, 200, .inr (.inr (.inr (.inr (fun _ => none)))))), (q1, .inr (5, [.ref (u1 0), .int (nI 0)])), ((u1 0), .inl (K 0, 200, .inr (.inr (.inr (.inr (fun _ => none)))))), (q2, .inr (5, [.ref (u2 0), .int (nI 0)])), ((u2 0), .inl (K 0, 200, .inr (.inr (.inr (.inr (fun _ => none))))))]) rfl (fun H locs hP hD hS => ?_)
  refine lv_aload_n hx hb dX3_init_43 rfl (lv_at hl 0 rfl) ?_
  refine lv_bipush (v := nI 60) hx hb dX3_init_44 (by decide +kernel) ?_
  refine r_put hx hb hts ok_RX3 hown hK hP hD hS 0 rfl rfl 6 (by decide) w_109 (fun _ h9 => h9) rfl (v := .int (nI 60)) rfl rfl (Nat.le_of_ble_eq_true rfl) dX3_init_46 (ws' := [(h0, .inr (3, [.ref q0, .ref q1, .ref q2, v3, v4, .int (nI 100), .int (nI 60), v7])), (q0, .inr (5, [.ref (u0 0), .int (nI 0)])), ((u0 0), .inl (K 0, 200, .inr (.inr (.inr (.inr (fun _ => none)))))), (q1, .inr (5, [.ref (u1 0), .int (nI 0)])), ((u1 0), .inl (K 0, 200, .inr (.inr (.inr (.inr (fun _ => none)))))), (q2, .inr (5, [.ref (u2 0), .int (nI 0)])), ((u2 0), .inl (K 0, 200, .inr (.inr (.inr (.inr (fun _ => none))))))]) rfl (fun H locs hP hD hS => ?_)
  refine lv_aload_n hx hb dX3_init_49 rfl (lv_at hl 0 rfl) ?_
  refine lv_bipush (v := nI 20) hx hb dX3_init_50 (by decide +kernel) ?_
  refine r_newa (atype := .boolean) hx hb hts w_129 rfl hK hP hD hS hA 1 rfl (N := 20) (a0 := (20, .inl (fun _ => nI 0))) (fun _ => rfl) (by decide +kernel) (by decide +kernel) (by decide) (Nat.le_of_ble_eq_true rfl) (Nat.le_of_ble_eq_true rfl) dX3_init_52 (w2 := fun q3 => [(h0, .inr (3, [.ref q0, .ref q1, .ref q2, v3, v4, .int (nI 100), .int (nI 60), v7])), (q0, .inr (5, [.ref (u0 0), .int (nI 0)])), ((u0 0), .inl (K 0, 200, .inr (.inr (.inr (.inr (fun _ => none)))))), (q1, .inr (5, [.ref (u1 0), .int (nI 0)])), ((u1 0), .inl (K 0, 200, .inr (.inr (.inr (.inr (fun _ => none)))))), (q2, .inr (5, [.ref (u2 0), .int (nI 0)])), ((u2 0), .inl (K 0, 200, .inr (.inr (.inr (.inr (fun _ => none)))))), (q3, .inl (K 1, 20, .inl (fun _ => nI 0)))]) (fun _ => rfl) (fun q3 H hP hD hS => ?_)
  refine r_putF hx hb hts ok_RX3 hown hK hP hD hS 0 rfl rfl 7 (by decide) w_111 (fun _ h9 => h9) rfl hnm rfl (v := .ref q3) rfl rfl (Nat.le_of_ble_eq_true rfl) dX3_init_54 (ws' := [(h0, .inr (3, [.ref q0, .ref q1, .ref q2, v3, v4, .int (nI 100), .int (nI 60), .ref q3])), (q0, .inr (5, [.ref (u0 0), .int (nI 0)])), ((u0 0), .inl (K 0, 200, .inr (.inr (.inr (.inr (fun _ => none)))))), (q1, .inr (5, [.ref (u1 0), .int (nI 0)])), ((u1 0), .inl (K 0, 200, .inr (.inr (.inr (.inr (fun _ => none)))))), (q2, .inr (5, [.ref (u2 0), .int (nI 0)])), ((u2 0), .inl (K 0, 200, .inr (.inr (.inr (.inr (fun _ => none)))))), (q3, .inl (K 1, 20, .inl (fun _ => nI 0)))]) rfl (fun H locs hP hD hS => ?_)
  exact e_v hx hb hr hlk hP hD hS (fun k => match k with | 0 => q0 | 1 => (u0 0) | 2 => q1 | 3 => (u1 0) | 4 => q2 | 5 => (u2 0) | 6 => q3 | _ => 0) rfl (Nat.le_of_ble_eq_true rfl) (Nat.le_of_ble_eq_true rfl) dX3_init_57
set_option maxHeartbeats 4000000 in
set_option maxRecDepth 100000 in
theorem C3_init (l : Launch) (G : Nat → Nat) (D : va_G) (K : Nat → ClassId) (sz : Nat) (a0 : Nat) : CM l yX6_init cX6_init 1 (none : Option FieldType) ({ frames := 1, cells := 0, slots := 0, locals := 20 } : Room) G D K [.ref a0] [] sz (CQv D (fun _ => [])) := by
  refine CM_of (lv0 := [(0, .ref a0)]) pn_RX6 (Nat.le_of_ble_eq_true rfl) rfl (fun p e s m args below meth c A ls hx hb hr hml hown hts hlk hnm hP hK hD hS hA hm hl => ?_)
  have hown : s.vm.findClass RX6 = some m.cls := hown
  refine lv_aload_n hx hb dX6_init_0 rfl (lv_at hl 0 rfl) ?_
  refine r_oinit hx hb hts hown w_135 w_44 w_45 hml hl.1 dX6_init_1 (Nat.le_of_ble_eq_true rfl) (Nat.le_of_ble_eq_true rfl) ?_
  exact e_v hx hb hr hlk hP hD hS (fun _ => 0) rfl (Nat.le_of_ble_eq_true rfl) (Nat.le_of_ble_eq_true rfl) dX6_init_4
set_option maxHeartbeats 4000000 in
set_option maxRecDepth 100000 in
theorem C4_init (l : Launch) (G : Nat → Nat) (D : va_G) (K : Nat → ClassId) (sz : Nat) (h0 : Nat) (a0 a1 : Nat) (v0 v1 v2 : Value) : CM l yX1_init cX1_init 3 (none : Option FieldType) ({ frames := 1, cells := 0, slots := 0, locals := 20 } : Room) G D K [.ref h0, .ref a0, .ref a1] [(h0, .inr (1, [v0, v1, v2]))] sz (CQv D (fun _ => [(h0, .inr (1, [.ref a0, .ref a1, v2]))])) := by
  refine CM_of (lv0 := [(0, .ref h0), (1, .ref a0), (2, .ref a1)]) pn_RX1 (Nat.le_of_ble_eq_true rfl) rfl (fun p e s m args below meth c A ls hx hb hr hml hown hts hlk hnm hP hK hD hS hA hm hl => ?_)
  have hown : s.vm.findClass RX1 = some m.cls := hown
  refine lv_aload_n hx hb dX1_init_0 rfl (lv_at hl 0 rfl) ?_
  refine r_oinit hx hb hts hown w_158 w_44 w_45 hml hl.1 dX1_init_1 (Nat.le_of_ble_eq_true rfl) (Nat.le_of_ble_eq_true rfl) ?_
  refine lv_aload_n hx hb dX1_init_4 rfl (lv_at hl 0 rfl) ?_
  refine lv_aload_n hx hb dX1_init_5 rfl (lv_at hl 1 rfl) ?_
  refine r_putF hx hb hts ok_RX1 hown hK hP hD hS 0 rfl rfl 0 (by decide) w_159 (fun _ h9 => h9) rfl hnm rfl (v := .ref a0) rfl rfl (Nat.le_of_ble_eq_true rfl) dX1_init_6 (ws' := [(h0, .inr (1, [.ref a0, v1, v2]))]) rfl (fun H locs hP hD hS => ?_)
  refine lv_aload_n hx hb dX1_init_9 rfl (lv_at hl 0 rfl) ?_
  refine lv_aload_n hx hb dX1_init_10 rfl (lv_at hl 2 rfl) ?_
  refine r_putF hx hb hts ok_RX1 hown hK hP hD hS 0 rfl rfl 1 (by decide) w_160 (fun _ h9 => h9) rfl hnm rfl (v := .ref a1) rfl rfl (Nat.le_of_ble_eq_true rfl) dX1_init_11 (ws' := [(h0, .inr (1, [.ref a0, .ref a1, v2]))]) rfl (fun H locs hP hD hS => ?_)
  exact e_v hx hb hr hlk hP hD hS (fun _ => 0) rfl (Nat.le_of_ble_eq_true rfl) (Nat.le_of_ble_eq_true rfl) dX1_init_14
set_option maxHeartbeats 4000000 in
set_option maxRecDepth 100000 in
theorem C5_init (l : Launch) (G : Nat → Nat) (D : va_G) (K : Nat → ClassId) (sz : Nat) (h0 : Nat) (a0 a1 : Nat) (v0 v1 v2 v3 v4 v5 : Value) : CM l yX8_init cX8_init 3 (none : Option FieldType) ({ frames := 2, cells := 2, slots := 202, locals := 40 } : Room) G D K [.ref h0, .ref a0, .ref a1] [(h0, .inr (8, [v0, v1, v2, v3, v4, v5]))] sz (CQv D (fun u => [(h0, .inr (8, [.ref a0, .ref a1, .ref (u 0), v3, v4, v5])), ((u 0), .inr (5, [.ref (u 1), .int (nI 0)])), ((u 1), .inl (K 0, 200, .inr (.inr (.inr (.inr (fun _ => none))))))])) := by
  refine CM_of (lv0 := [(0, .ref h0), (1, .ref a0), (2, .ref a1)]) pn_RX8 (Nat.le_of_ble_eq_true rfl) rfl (fun p e s m args below meth c A ls hx hb hr hml hown hts hlk hnm hP hK hD hS hA hm hl => ?_)
  have hown : s.vm.findClass RX8 = some m.cls := hown
  refine lv_aload_n hx hb dX8_init_0 rfl (lv_at hl 0 rfl) ?_
  refine r_oinit hx hb hts hown w_174 w_44 w_45 hml hl.1 dX8_init_1 (Nat.le_of_ble_eq_true rfl) (Nat.le_of_ble_eq_true rfl) ?_
  refine lv_aload_n hx hb dX8_init_4 rfl (lv_at hl 0 rfl) ?_
  refine r_new (ci := 5) (C := RX5) (T := TX5) (N := 2) hx hb hts ok_RX5 hown w_175 w_47 w_2 hK hP hD hS hA rfl df_RX5 (Nat.le_of_ble_eq_true rfl) (Nat.le_of_ble_eq_true rfl) dX8_init_5 (w2 := fun q0 => [(h0, .inr (8, [v0, v1, v2, v3, v4, v5])), (q0, .inr (5, [.null, .int (nI 0)]))]) (fun _ => rfl) (fun q0 H hP hD hS => ?_)
  refine lv_dup hx hb dX8_init_8 rfl ?_
  refine k_v (wr := [(h0, .inr (8, [v0, v1, v2, v3, v4, v5]))]) (run_IN (rest := [.ref q0, .ref h0]) hx hb hml hown hts hK hP hD hS hA hm (C0_init l G D K H.size q0 (.null) (.int (nI 0))) [1] rfl rfl mok_yX5_init w_176 w_49 rfl ⟨Nat.le_of_ble_eq_true rfl, Nat.le_of_ble_eq_true rfl⟩ rfl hl.1 rfl (Nat.le_of_ble_eq_true rfl) dX8_init_9 ⟨(Nat.le_of_ble_eq_true rfl), (Nat.le_of_ble_eq_true rfl)⟩) hP hD hS hA [1] [0] rfl rfl rfl (by decide) (w2 := fun u0 => [(h0, .inr (8, [v0, v1, v2, v3, v4, v5])), (q0, .inr (5, [.ref (u0 0), .int (nI 0)])), ((u0 0), .inl (K 0, 200, .inr (.inr (.inr (.inr (fun _ => none))))))]) (fun _ => rfl) (fun u0 H locs hP hD hS => ?_)
  refine r_putF hx hb hts ok_RX8 hown hK hP hD hS 0 rfl rfl 2 (by decide) w_179 (fun _ h9 => h9) rfl hnm rfl (v := .ref q0) rfl rfl (Nat.le_of_ble_eq_true rfl) dX8_init_12 (ws' := [(h0, .inr (8, [v0, v1, .ref q0, v3, v4, v5])), (q0, .inr (5, [.ref (u0 0), .int (nI 0)])), ((u0 0), .inl (K 0, 200, .inr (.inr (.inr (.inr (fun _ => none))))))]) rfl (fun H locs hP hD hS => ?_)
  refine lv_aload_n hx hb dX8_init_15 rfl (lv_at hl 0 rfl) ?_
  refine lv_aload_n hx hb dX8_init_16 rfl (lv_at hl 1 rfl) ?_
  refine r_putF hx hb hts ok_RX8 hown hK hP hD hS 0 rfl rfl 0 (by decide) w_177 (fun _ h9 => h9) rfl hnm rfl (v := .ref a0) rfl rfl (Nat.le_of_ble_eq_true rfl) dX8_init_17 (ws' := [(h0, .inr (8, [.ref a0, v1, .ref q0, v3, v4, v5])), (q0, .inr (5, [.ref (u0 0), .int (nI 0)])), ((u0 0), .inl (K 0, 200, .inr (.inr (.inr (.inr (fun _ => none))))))]) rfl (fun H locs hP hD hS => ?_)
  refine lv_aload_n hx hb dX8_init_20 rfl (lv_at hl 0 rfl) ?_
  refine lv_aload_n hx hb dX8_init_21 rfl (lv_at hl 2 rfl) ?_
  refine r_putF hx hb hts ok_RX8 hown hK hP hD hS 0 rfl rfl 1 (by decide) w_178 (fun _ h9 => h9) rfl hnm rfl (v := .ref a1) rfl rfl (Nat.le_of_ble_eq_true rfl) dX8_init_22 (ws' := [(h0, .inr (8, [.ref a0, .ref a1, .ref q0, v3, v4, v5])), (q0, .inr (5, [.ref (u0 0), .int (nI 0)])), ((u0 0), .inl (K 0, 200, .inr (.inr (.inr (.inr (fun _ => none))))))]) rfl (fun H locs hP hD hS => ?_)
  exact e_v hx hb hr hlk hP hD hS (fun k => match k with | 0 => q0 | 1 => (u0 0) | _ => 0) rfl (Nat.le_of_ble_eq_true rfl) (Nat.le_of_ble_eq_true rfl) dX8_init_25
set_option maxHeartbeats 4000000 in
set_option maxRecDepth 100000 in
theorem C6_init (l : Launch) (G : Nat → Nat) (D : va_G) (K : Nat → ClassId) (sz : Nat) (h0 : Nat) (a0 a1 a2 a3 : Nat) (v0 v1 v2 v3 v4 v5 v6 v7 v8 : Value) : CM l yX2_init cX2_init 5 (none : Option FieldType) ({ frames := 2, cells := 2, slots := 202, locals := 40 } : Room) G D K [.ref h0, .ref a0, .ref a1, .ref a2, .ref a3] [(h0, .inr (2, [v0, v1, v2, v3, v4, v5, v6, v7, v8]))] sz (CQv D (fun u => [(h0, .inr (2, [.int (nI 2), .ref a0, .ref a1, .ref a2, .ref a3, .ref (u 0), v6, v7, v8])), ((u 0), .inr (5, [.ref (u 1), .int (nI 0)])), ((u 1), .inl (K 0, 200, .inr (.inr (.inr (.inr (fun _ => none))))))])) := by
  refine CM_of (lv0 := [(0, .ref h0), (1, .ref a0), (2, .ref a1), (3, .ref a2), (4, .ref a3)]) pn_RX2 (Nat.le_of_ble_eq_true rfl) rfl (fun p e s m args below meth c A ls hx hb hr hml hown hts hlk hnm hP hK hD hS hA hm hl => ?_)
  have hown : s.vm.findClass RX2 = some m.cls := hown
  refine lv_aload_n hx hb dX2_init_0 rfl (lv_at hl 0 rfl) ?_
  refine r_oinit hx hb hts hown w_201 w_44 w_45 hml hl.1 dX2_init_1 (Nat.le_of_ble_eq_true rfl) (Nat.le_of_ble_eq_true rfl) ?_
  refine lv_aload_n hx hb dX2_init_4 rfl (lv_at hl 0 rfl) ?_
  refine lv_iconst (v := nI 2) hx hb dX2_init_5 (by decide +kernel) ?_
  refine r_put hx hb hts ok_RX2 hown hK hP hD hS 0 rfl rfl 0 (by decide) w_204 (fun _ h9 => h9) rfl (v := .int (nI 2)) rfl rfl (Nat.le_of_ble_eq_true rfl) dX2_init_6 (ws' := [(h0, .inr (2, [.int (nI 2), v1, v2, v3, v4, v5, v6, v7, v8]))]) rfl (fun H locs hP hD hS => ?_)
  refine lv_aload_n hx hb dX2_init_9 rfl (lv_at hl 0 rfl) ?_
  refine r_new (ci := 5) (C := RX5) (T := TX5) (N := 2) hx hb hts ok_RX5 hown w_202 w_47 w_2 hK hP hD hS hA rfl df_RX5 (Nat.le_of_ble_eq_true rfl) (Nat.le_of_ble_eq_true rfl) dX2_init_10 (w2 := fun q0 => [(h0, .inr (2, [.int (nI 2), v1, v2, v3, v4, v5, v6, v7, v8])), (q0, .inr (5, [.null, .int (nI 0)]))]) (fun _ => rfl) (fun q0 H hP hD hS => ?_)
  refine lv_dup hx hb dX2_init_13 rfl ?_
  refine k_v (wr := [(h0, .inr (2, [.int (nI 2), v1, v2, v3, v4, v5, v6, v7, v8]))]) (run_IN (rest := [.ref q0, .ref h0]) hx hb hml hown hts hK hP hD hS hA hm (C0_init l G D K H.size q0 (.null) (.int (nI 0))) [1] rfl rfl mok_yX5_init w_203 w_49 rfl ⟨Nat.le_of_ble_eq_true rfl, Nat.le_of_ble_eq_true rfl⟩ rfl hl.1 rfl (Nat.le_of_ble_eq_true rfl) dX2_init_14 ⟨(Nat.le_of_ble_eq_true rfl), (Nat.le_of_ble_eq_true rfl)⟩) hP hD hS hA [1] [0] rfl rfl rfl (by decide) (w2 := fun u0 => [(h0, .inr (2, [.int (nI 2), v1, v2, v3, v4, v5, v6, v7, v8])), (q0, .inr (5, [.ref (u0 0), .int (nI 0)])), ((u0 0), .inl (K 0, 200, .inr (.inr (.inr (.inr (fun _ => none))))))]) (fun _ => rfl) (fun u0 H locs hP hD hS => ?_)
  refine r_putF hx hb hts ok_RX2 hown hK hP hD hS 0 rfl rfl 5 (by decide) w_210 (fun _ h9 => h9) rfl hnm rfl (v := .ref q0) rfl rfl (Nat.le_of_ble_eq_true rfl) dX2_init_17 (ws' := [(h0, .inr (2, [.int (nI 2), v1, v2, v3, v4, .ref q0, v6, v7, v8])), (q0, .inr (5, [.ref (u0 0), .int (nI 0)])), ((u0 0), .inl (K 0, 200, .inr (.inr (.inr (.inr (fun _ => none))))))]) rfl (fun H locs hP hD hS => ?_)
  refine lv_aload_n hx hb dX2_init_20 rfl (lv_at hl 0 rfl) ?_
  refine lv_aload_n hx hb dX2_init_21 rfl (lv_at hl 1 rfl) ?_
  refine r_putF hx hb hts ok_RX2 hown hK hP hD hS 0 rfl rfl 1 (by decide) w_206 (fun _ h9 => h9) rfl hnm rfl (v := .ref a0) rfl rfl (Nat.le_of_ble_eq_true rfl) dX2_init_22 (ws' := [(h0, .inr (2, [.int (nI 2), .ref a0, v2, v3, v4, .ref q0, v6, v7, v8])), (q0, .inr (5, [.ref (u0 0), .int (nI 0)])), ((u0 0), .inl (K 0, 200, .inr (.inr (.inr (.inr (fun _ => none))))))]) rfl (fun H locs hP hD hS => ?_)
  refine lv_aload_n hx hb dX2_init_25 rfl (lv_at hl 0 rfl) ?_
  refine lv_aload_n hx hb dX2_init_26 rfl (lv_at hl 2 rfl) ?_
  refine r_putF hx hb hts ok_RX2 hown hK hP hD hS 0 rfl rfl 2 (by decide) w_207 (fun _ h9 => h9) rfl hnm rfl (v := .ref a1) rfl rfl (Nat.le_of_ble_eq_true rfl) dX2_init_27 (ws' := [(h0, .inr (2, [.int (nI 2), .ref a0, .ref a1, v3, v4, .ref q0, v6, v7, v8])), (q0, .inr (5, [.ref (u0 0), .int (nI 0)])), ((u0 0), .inl (K 0, 200, .inr (.inr (.inr (.inr (fun _ => none))))))]) rfl (fun H locs hP hD hS => ?_)
  refine lv_aload_n hx hb dX2_init_30 rfl (lv_at hl 0 rfl) ?_
  refine lv_aload_n hx hb dX2_init_31 rfl (lv_at hl 3 rfl) ?_
  refine r_putF hx hb hts ok_RX2 hown hK hP hD hS 0 rfl rfl 3 (by decide) w_208 (fun _ h9 => h9) rfl hnm rfl (v := .ref a2) rfl rfl (Nat.le_of_ble_eq_true rfl) dX2_init_32 (ws' := [(h0, .inr (2, [.int (nI 2), .ref a0, .ref a1, .ref a2, v4, .ref q0, v6, v7, v8])), (q0, .inr (5, [.ref (u0 0), .int (nI 0)])), ((u0 0), .inl (K 0, 200, .inr (.inr (.inr (.inr (fun _ => none))))))]) rfl (fun H locs hP hD hS => ?_)
  refine lv_aload_n hx hb dX2_init_35 rfl (lv_at hl 0 rfl) ?_
  refine lv_aload hx hb dX2_init_36 (lv_at hl 4 rfl) ?_
  refine r_putF hx hb hts ok_RX2 hown hK hP hD hS 0 rfl rfl 4 (by decide) w_209 (fun _ h9 => h9) rfl hnm rfl (v := .ref a3) rfl rfl (Nat.le_of_ble_eq_true rfl) dX2_init_38 (ws' := [(h0, .inr (2, [.int (nI 2), .ref a0, .ref a1, .ref a2, .ref a3, .ref q0, v6, v7, v8])), (q0, .inr (5, [.ref (u0 0), .int (nI 0)])), ((u0 0), .inl (K 0, 200, .inr (.inr (.inr (.inr (fun _ => none))))))]) rfl (fun H locs hP hD hS => ?_)
  exact e_v hx hb hr hlk hP hD hS (fun k => match k with | 0 => q0 | 1 => (u0 0) | _ => 0) rfl (Nat.le_of_ble_eq_true rfl) (Nat.le_of_ble_eq_true rfl) dX2_init_41
set_option maxHeartbeats 4000000 in
set_option maxRecDepth 100000 in
theorem C7_init (l : Launch) (G : Nat → Nat) (D : va_G) (K : Nat → ClassId) (sz : Nat) (h0 : Nat) (a0 a1 a2 a3 a4 a5 : Nat) (v0 v1 v2 v3 v4 v5 : Value) : CM l yX0_init cX0_init 7 (none : Option FieldType) ({ frames := 1, cells := 0, slots := 0, locals := 20 } : Room) G D K [.ref h0, .ref a0, .ref a1, .ref a2, .ref a3, .ref a4, .ref a5] [(h0, .inr (0, [v0, v1, v2, v3, v4, v5]))] sz (CQv D (fun _ => [(h0, .inr (0, [.ref a0, .ref a1, .ref a2, .ref a3, .ref a4, .ref a5]))])) := by
  refine CM_of (lv0 := [(0, .ref h0), (1, .ref a0), (2, .ref a1), (3, .ref a2), (4, .ref a3), (5, .ref a4), (6, .ref a5)]) pn_RX0 (Nat.le_of_ble_eq_true rfl) rfl (fun p e s m args below meth c A ls hx hb hr hml hown hts hlk hnm hP hK hD hS hA hm hl => ?_)
  have hown : s.vm.findClass RX0 = some m.cls := hown
  refine lv_aload_n hx hb dX0_init_0 rfl (lv_at hl 0 rfl) ?_
  refine r_oinit hx hb hts hown w_238 w_44 w_45 hml hl.1 dX0_init_1 (Nat.le_of_ble_eq_true rfl) (Nat.le_of_ble_eq_true rfl) ?_
  refine lv_aload_n hx hb dX0_init_4 rfl (lv_at hl 0 rfl) ?_
  refine lv_aload_n hx hb dX0_init_5 rfl (lv_at hl 1 rfl) ?_
  refine r_putF hx hb hts ok_RX0 hown hK hP hD hS 0 rfl rfl 0 (by decide) w_239 (fun _ h9 => h9) rfl hnm rfl (v := .ref a0) rfl rfl (Nat.le_of_ble_eq_true rfl) dX0_init_6 (ws' := [(h0, .inr (0, [.ref a0, v1, v2, v3, v4, v5]))]) rfl (fun H locs hP hD hS => ?_)
  refine lv_aload_n hx hb dX0_init_9 rfl (lv_at hl 0 rfl) ?_
  refine lv_aload_n hx hb dX0_init_10 rfl (lv_at hl 2 rfl) ?_
  refine r_putF hx hb hts ok_RX0 hown hK hP hD hS 0 rfl rfl 1 (by decide) w_240 (fun _ h9 => h9) rfl hnm rfl (v := .ref a1) rfl rfl (Nat.le_of_ble_eq_true rfl) dX0_init_11 (ws' := [(h0, .inr (0, [.ref a0, .ref a1, v2, v3, v4, v5]))]) rfl (fun H locs hP hD hS => ?_)
  refine lv_aload_n hx hb dX0_init_14 rfl (lv_at hl 0 rfl) ?_
  refine lv_aload_n hx hb dX0_init_15 rfl (lv_at hl 3 rfl) ?_
  refine r_putF hx hb hts ok_RX0 hown hK hP hD hS 0 rfl rfl 2 (by decide) w_241 (fun _ h9 => h9) rfl hnm rfl (v := .ref a2) rfl rfl (Nat.le_of_ble_eq_true rfl) dX0_init_16 (ws' := [(h0, .inr (0, [.ref a0, .ref a1, .ref a2, v3, v4, v5]))]) rfl (fun H locs hP hD hS => ?_)
  refine lv_aload_n hx hb dX0_init_19 rfl (lv_at hl 0 rfl) ?_
  refine lv_aload hx hb dX0_init_20 (lv_at hl 4 rfl) ?_
  refine r_putF hx hb hts ok_RX0 hown hK hP hD hS 0 rfl rfl 3 (by decide) w_242 (fun _ h9 => h9) rfl hnm rfl (v := .ref a3) rfl rfl (Nat.le_of_ble_eq_true rfl) dX0_init_22 (ws' := [(h0, .inr (0, [.ref a0, .ref a1, .ref a2, .ref a3, v4, v5]))]) rfl (fun H locs hP hD hS => ?_)
  refine lv_aload_n hx hb dX0_init_25 rfl (lv_at hl 0 rfl) ?_
  refine lv_aload hx hb dX0_init_26 (lv_at hl 5 rfl) ?_
  refine r_putF hx hb hts ok_RX0 hown hK hP hD hS 0 rfl rfl 4 (by decide) w_243 (fun _ h9 => h9) rfl hnm rfl (v := .ref a4) rfl rfl (Nat.le_of_ble_eq_true rfl) dX0_init_28 (ws' := [(h0, .inr (0, [.ref a0, .ref a1, .ref a2, .ref a3, .ref a4, v5]))]) rfl (fun H locs hP hD hS => ?_)
  refine lv_aload_n hx hb dX0_init_31 rfl (lv_at hl 0 rfl) ?_
  refine lv_aload hx hb dX0_init_32 (lv_at hl 6 rfl) ?_
  refine r_putF hx hb hts ok_RX0 hown hK hP hD hS 0 rfl rfl 5 (by decide) w_244 (fun _ h9 => h9) rfl hnm rfl (v := .ref a5) rfl rfl (Nat.le_of_ble_eq_true rfl) dX0_init_34 (ws' := [(h0, .inr (0, [.ref a0, .ref a1, .ref a2, .ref a3, .ref a4, .ref a5]))]) rfl (fun H locs hP hD hS => ?_)
  exact e_v hx hb hr hlk hP hD hS (fun _ => 0) rfl (Nat.le_of_ble_eq_true rfl) (Nat.le_of_ble_eq_true rfl) dX0_init_37
set_option maxHeartbeats 4000000 in
set_option maxRecDepth 100000 in
theorem C8_init (l : Launch) (G : Nat → Nat) (D : va_G) (K : Nat → ClassId) (sz : Nat) (h0 : Nat) (v0 v1 v2 : Value) : CM l yX9_init cX9_init 1 (none : Option FieldType) ({ frames := 3, cells := 24, slots := 1510, locals := 64 } : Room) G D K [.ref h0] [(h0, .inr (9, [.null, .null, .null, .null, .null, .null, v0, v1, v2]))] sz (CQv D (fun u => [(h0, .inr (9, [.ref (u 0), .ref (u 2), .ref (u 7), .ref (u 15), .ref (u 16), .ref (u 17), .ref (u 20), .ref (u 23), v2])), ((u 0), .inr (5, [.ref (u 1), .int (nI 0)])), ((u 1), .inl (K 0, 200, .inr (.inr (.inr (.inr (fun _ => none)))))), ((u 2), .inr (4, [.ref (u 3), .ref (u 5), .ref (u 6), .int (nI 1)])), ((u 3), .inr (5, [.ref (u 4), .int (nI 0)])), ((u 4), .inl (K 0, 200, .inr (.inr (.inr (.inr (fun _ => none)))))), ((u 5), .inl (K 0, 32, .inr (.inr (.inr (.inr (fun _ => none)))))), ((u 6), .inl (K 0, 4, .inr (.inr (.inr (.inr (fun _ => none)))))), ((u 7), .inr (3, [.ref (u 8), .ref (u 10), .ref (u 12), .int (nI 0), .int (nI 0), .int (nI 100), .int (nI 60), .ref (u 14)])), ((u 8), .inr (5, [.ref (u 9), .int (nI 0)])), ((u 9), .inl (K 0, 200, .inr (.inr (.inr (.inr (fun _ => none)))))), ((u 10), .inr (5, [.ref (u 11), .int (nI 0)])), ((u 11), .inl (K 0, 200, .inr (.inr (.inr (.inr (fun _ => none)))))), ((u 12), .inr (5, [.ref (u 13), .int (nI 0)])), ((u 13), .inl (K 0, 200, .inr (.inr (.inr (.inr (fun _ => none)))))), ((u 14), .inl (K 1, 20, .inl (fun _ => nI 0))), ((u 15), .inr (6, [.int (nI 0), .int (nI 0), .int (nI 0), .int (nI 0)])), ((u 16), .inr (1, [.ref (u 0), .ref (u 2), .int (nI 0)])), ((u 17), .inr (8, [.ref (u 0), .ref (u 2), .ref (u 18), .int (nI 0), .int (nI 0), .null])), ((u 18), .inr (5, [.ref (u 19), .int (nI 0)])), ((u 19), .inl (K 0, 200, .inr (.inr (.inr (.inr (fun _ => none)))))), ((u 20), .inr (2, [.int (nI 2), .ref (u 0), .ref (u 2), .ref (u 7), .ref (u 15), .ref (u 21), .int (nI 0), .int (nI 0), .int (nI 0)])), ((u 21), .inr (5, [.ref (u 22), .int (nI 0)])), ((u 22), .inl (K 0, 200, .inr (.inr (.inr (.inr (fun _ => none)))))), ((u 23), .inr (0, [.ref (u 0), .ref (u 2), .ref (u 7), .ref (u 15), .ref (u 16), .ref (u 17)]))])) := by
  refine CM_of (lv0 := [(0, .ref h0)]) pn_RX9 (Nat.le_of_ble_eq_true rfl) rfl (fun p e s m args below meth c A ls hx hb hr hml hown hts hlk hnm hP hK hD hS hA hm hl => ?_)
  have hown : s.vm.findClass RX9 = some m.cls := hown
  refine lv_aload_n hx hb dX9_init_0 rfl (lv_at hl 0 rfl) ?_
  refine r_oinit hx hb hts hown w_43 w_44 w_45 hml hl.1 dX9_init_1 (Nat.le_of_ble_eq_true rfl) (Nat.le_of_ble_eq_true rfl) ?_
  refine lv_aload_n hx hb dX9_init_4 rfl (lv_at hl 0 rfl) ?_
  refine r_new (ci := 5) (C := RX5) (T := TX5) (N := 2) hx hb hts ok_RX5 hown w_46 w_47 w_2 hK hP hD hS hA rfl df_RX5 (Nat.le_of_ble_eq_true rfl) (Nat.le_of_ble_eq_true rfl) dX9_init_5 (w2 := fun q0 => [(h0, .inr (9, [.null, .null, .null, .null, .null, .null, v0, v1, v2])), (q0, .inr (5, [.null, .int (nI 0)]))]) (fun _ => rfl) (fun q0 H hP hD hS => ?_)
  refine lv_dup hx hb dX9_init_8 rfl ?_
  refine k_v (wr := [(h0, .inr (9, [.null, .null, .null, .null, .null, .null, v0, v1, v2]))]) (run_IN (rest := [.ref q0, .ref h0]) hx hb hml hown hts hK hP hD hS hA hm (C0_init l G D K H.size q0 (.null) (.int (nI 0))) [1] rfl rfl mok_yX5_init w_48 w_49 rfl ⟨Nat.le_of_ble_eq_true rfl, Nat.le_of_ble_eq_true rfl⟩ rfl hl.1 rfl (Nat.le_of_ble_eq_true rfl) dX9_init_9 ⟨(Nat.le_of_ble_eq_true rfl), (Nat.le_of_ble_eq_true rfl)⟩) hP hD hS hA [1] [0] rfl rfl rfl (by decide) (w2 := fun u0 => [(h0, .inr (9, [.null, .null, .null, .null, .null, .null, v0, v1, v2])), (q0, .inr (5, [.ref (u0 0), .int (nI 0)])), ((u0 0), .inl (K 0, 200, .inr (.inr (.inr (.inr (fun _ => none))))))]) (fun _ => rfl) (fun u0 H locs hP hD hS => ?_)
  refine r_putF hx hb hts ok_RX9 hown hK hP hD hS 0 rfl rfl 0 (by decide) w_258 (fun _ h9 => h9) rfl hnm rfl (v := .ref q0) rfl rfl (Nat.le_of_ble_eq_true rfl) dX9_init_12 (ws' := [(h0, .inr (9, [.ref q0, .null, .null, .null, .null, .null, v0, v1, v2])), (q0, .inr (5, [.ref (u0 0), .int (nI 0)])), ((u0 0), .inl (K 0, 200, .inr (.inr (.inr (.inr (fun _ => none))))))]) rfl (fun H locs hP hD hS => ?_)
  refine lv_aload_n hx hb dX9_init_15 rfl (lv_at hl 0 rfl) ?_
  refine r_new (ci := 4) (C := RX4) (T := TX4) (N := 4) hx hb hts ok_RX4 hown w_61 w_62 w_3 hK hP hD hS hA rfl df_RX4 (Nat.le_of_ble_eq_true rfl) (Nat.le_of_ble_eq_true rfl) dX9_init_16 (w2 := fun q1 => [(h0, .inr (9, [.ref q0, .null, .null, .null, .null, .null, v0, v1, v2])), (q0, .inr (5, [.ref (u0 0), .int (nI 0)])), ((u0 0), .inl (K 0, 200, .inr (.inr (.inr (.inr (fun _ => none)))))), (q1, .inr (4, [.null, .null, .null, .int (nI 0)]))]) (fun _ => rfl) (fun q1 H hP hD hS => ?_)
  refine lv_dup hx hb dX9_init_19 rfl ?_
  refine k_v (wr := [(h0, .inr (9, [.ref q0, .null, .null, .null, .null, .null, v0, v1, v2])), (q0, .inr (5, [.ref (u0 0), .int (nI 0)])), ((u0 0), .inl (K 0, 200, .inr (.inr (.inr (.inr (fun _ => none))))))]) (run_IN (rest := [.ref q1, .ref h0]) hx hb hml hown hts hK hP hD hS hA hm (C1_init l G D K H.size q1 (.null) (.null) (.null) (.int (nI 0))) [3] rfl rfl mok_yX4_init w_63 w_64 rfl ⟨Nat.le_of_ble_eq_true rfl, Nat.le_of_ble_eq_true rfl⟩ rfl hl.1 rfl (Nat.le_of_ble_eq_true rfl) dX9_init_20 ⟨(Nat.le_of_ble_eq_true rfl), (Nat.le_of_ble_eq_true rfl)⟩) hP hD hS hA [3] [0, 1, 2] rfl rfl rfl (by decide) (w2 := fun u1 => [(h0, .inr (9, [.ref q0, .null, .null, .null, .null, .null, v0, v1, v2])), (q0, .inr (5, [.ref (u0 0), .int (nI 0)])), ((u0 0), .inl (K 0, 200, .inr (.inr (.inr (.inr (fun _ => none)))))), (q1, .inr (4, [.ref (u1 0), .ref (u1 2), .ref (u1 3), .int (nI 1)])), ((u1 0), .inr (5, [.ref (u1 1), .int (nI 0)])), ((u1 1), .inl (K 0, 200, .inr (.inr (.inr (.inr (fun _ => none)))))), ((u1 2), .inl (K 0, 32, .inr (.inr (.inr (.inr (fun _ => none)))))), ((u1 3), .inl (K 0, 4, .inr (.inr (.inr (.inr (fun _ => none))))))]) (fun _ => rfl) (fun u1 H locs hP hD hS => ?_)
  refine r_putF hx hb hts ok_RX9 hown hK hP hD hS 0 rfl rfl 1 (by decide) w_259 (fun _ h9 => h9) rfl hnm rfl (v := .ref q1) rfl rfl (Nat.le_of_ble_eq_true rfl) dX9_init_23 (ws' := [(h0, .inr (9, [.ref q0, .ref q1, .null, .null, .null, .null, v0, v1, v2])), (q0, .inr (5, [.ref (u0 0), .int (nI 0)])), ((u0 0), .inl (K 0, 200, .inr (.inr (.inr (.inr (fun _ => none)))))), (q1, .inr (4, [.ref (u1 0), .ref (u1 2), .ref (u1 3), .int (nI 1)])), ((u1 0), .inr (5, [.ref (u1 1), .int (nI 0)])), ((u1 1), .inl (K 0, 200, .inr (.inr (.inr (.inr (fun _ => none)))))), ((u1 2), .inl (K 0, 32, .inr (.inr (.inr (.inr (fun _ => none)))))), ((u1 3), .inl (K 0, 4, .inr (.inr (.inr (.inr (fun _ => none))))))]) rfl (fun H locs hP hD hS => ?_)
  refine lv_aload_n hx hb dX9_init_26 rfl (lv_at hl 0 rfl) ?_
  refine r_new (ci := 3) (C := RX3) (T := TX3) (N := 8) hx hb hts ok_RX3 hown w_86 w_87 w_4 hK hP hD hS hA rfl df_RX3 (Nat.le_of_ble_eq_true rfl) (Nat.le_of_ble_eq_true rfl) dX9_init_27 (w2 := fun q2 => [(h0, .inr (9, [.ref q0, .ref q1, .null, .null, .null, .null, v0, v1, v2])), (q0, .inr (5, [.ref (u0 0), .int (nI 0)])), ((u0 0), .inl (K 0, 200, .inr (.inr (.inr (.inr (fun _ => none)))))), (q1, .inr (4, [.ref (u1 0), .ref (u1 2), .ref (u1 3), .int (nI 1)])), ((u1 0), .inr (5, [.ref (u1 1), .int (nI 0)])), ((u1 1), .inl (K 0, 200, .inr (.inr (.inr (.inr (fun _ => none)))))), ((u1 2), .inl (K 0, 32, .inr (.inr (.inr (.inr (fun _ => none)))))), ((u1 3), .inl (K 0, 4, .inr (.inr (.inr (.inr (fun _ => none)))))), (q2, .inr (3, [.null, .null, .null, .int (nI 0), .int (nI 0), .int (nI 0), .int (nI 0), .null]))]) (fun _ => rfl) (fun q2 H hP hD hS => ?_)
  refine lv_dup hx hb dX9_init_30 rfl ?_
  refine k_v (wr := [(h0, .inr (9, [.ref q0, .ref q1, .null, .null, .null, .null, v0, v1, v2])), (q0, .inr (5, [.ref (u0 0), .int (nI 0)])), ((u0 0), .inl (K 0, 200, .inr (.inr (.inr (.inr (fun _ => none)))))), (q1, .inr (4, [.ref (u1 0), .ref (u1 2), .ref (u1 3), .int (nI 1)])), ((u1 0), .inr (5, [.ref (u1 1), .int (nI 0)])), ((u1 1), .inl (K 0, 200, .inr (.inr (.inr (.inr (fun _ => none)))))), ((u1 2), .inl (K 0, 32, .inr (.inr (.inr (.inr (fun _ => none)))))), ((u1 3), .inl (K 0, 4, .inr (.inr (.inr (.inr (fun _ => none))))))]) (run_IN (rest := [.ref q2, .ref h0]) hx hb hml hown hts hK hP hD hS hA hm (C2_init l G D K H.size q2 (.null) (.null) (.null) (.int (nI 0)) (.int (nI 0)) (.int (nI 0)) (.int (nI 0)) (.null)) [8] rfl rfl mok_yX3_init w_88 w_89 rfl ⟨Nat.le_of_ble_eq_true rfl, Nat.le_of_ble_eq_true rfl⟩ rfl hl.1 rfl (Nat.le_of_ble_eq_true rfl) dX9_init_31 ⟨(Nat.le_of_ble_eq_true rfl), (Nat.le_of_ble_eq_true rfl)⟩) hP hD hS hA [8] [0, 1, 2, 3, 4, 5, 6, 7] rfl rfl rfl (by decide) (w2 := fun u2 => [(h0, .inr (9, [.ref q0, .ref q1, .null, .null, .null, .null, v0, v1, v2])), (q0, .inr (5, [.ref (u0 0), .int (nI 0)])), ((u0 0), .inl (K 0, 200, .inr (.inr (.inr (.inr (fun _ => none)))))), (q1, .inr (4, [.ref (u1 0), .ref (u1 2), .ref (u1 3), .int (nI 1)])), ((u1 0), .inr (5, [.ref (u1 1), .int (nI 0)])), ((u1 1), .inl (K 0, 200, .inr (.inr (.inr (.inr (fun _ => none)))))), ((u1 2), .inl (K 0, 32, .inr (.inr (.inr (.inr (fun _ => none)))))), ((u1 3), .inl (K 0, 4, .inr (.inr (.inr (.inr (fun _ => none)))))), (q2, .inr (3, [.ref (u2 0), .ref (u2 2), .ref (u2 4), .int (nI 0), .int (nI 0), .int (nI 100), .int (nI 60), .ref (u2 6)])), ((u2 0), .inr (5, [.ref (u2 1), .int (nI 0)])), ((u2 1), .inl (K 0, 200, .inr (.inr (.inr (.inr (fun _ => none)))))), ((u2 2), .inr (5, [.ref (u2 3), .int (nI 0)])), ((u2 3), .inl (K 0, 200, .inr (.inr (.inr (.inr (fun _ => none)))))), ((u2 4), .inr (5, [.ref (u2 5), .int (nI 0)])), ((u2 5), .inl (K 0, 200, .inr (.inr (.inr (.inr (fun _ => none)))))), ((u2 6), .inl (K 1, 20, .inl (fun _ => nI 0)))]) (fun _ => rfl) (fun u2 H locs hP hD hS => ?_)
  refine r_putF hx hb hts ok_RX9 hown hK hP hD hS 0 rfl rfl 2 (by decide) w_260 (fun _ h9 => h9) rfl hnm rfl (v := .ref q2) rfl rfl (Nat.le_of_ble_eq_true rfl) dX9_init_34 (ws' := [(h0, .inr (9, [.ref q0, .ref q1, .ref q2, .null, .null, .null, v0, v1, v2])), (q0, .inr (5, [.ref (u0 0), .int (nI 0)])), ((u0 0), .inl (K 0, 200, .inr (.inr (.inr (.inr (fun _ => none)))))), (q1, .inr (4, [.ref (u1 0), .ref (u1 2), .ref (u1 3), .int (nI 1)])), ((u1 0), .inr (5, [.ref (u1 1), .int (nI 0)])), ((u1 1), .inl (K 0, 200, .inr (.inr (.inr (.inr (fun _ => none)))))), ((u1 2), .inl (K 0, 32, .inr (.inr (.inr (.inr (fun _ => none)))))), ((u1 3), .inl (K 0, 4, .inr (.inr (.inr (.inr (fun _ => none)))))), (q2, .inr (3, [.ref (u2 0), .ref (u2 2), .ref (u2 4), .int (nI 0), .int (nI 0), .int (nI 100), .int (nI 60), .ref (u2 6)])), ((u2 0), .inr (5, [.ref (u2 1), .int (nI 0)])), ((u2 1), .inl (K 0, 200, .inr (.inr (.inr (.inr (fun _ => none)))))), ((u2 2), .inr (5, [.ref (u2 3), .int (nI 0)])), ((u2 3), .inl (K 0, 200, .inr (.inr (.inr (.inr (fun _ => none)))))), ((u2 4), .inr (5, [.ref (u2 5), .int (nI 0)])), ((u2 5), .inl (K 0, 200, .inr (.inr (.inr (.inr (fun _ => none)))))), ((u2 6), .inl (K 1, 20, .inl (fun _ => nI 0)))]) rfl (fun H locs hP hD hS => ?_)
  refine lv_aload_n hx hb dX9_init_37 rfl (lv_at hl 0 rfl) ?_
  refine r_new (ci := 6) (C := RX6) (T := TX6) (N := 4) hx hb hts ok_RX6 hown w_130 w_131 w_5 hK hP hD hS hA rfl df_RX6 (Nat.le_of_ble_eq_true rfl) (Nat.le_of_ble_eq_true rfl) dX9_init_38 (w2 := fun q3 => [(h0, .inr (9, [.ref q0, .ref q1, .ref q2, .null, .null, .null, v0, v1, v2])), (q0, .inr (5, [.ref (u0 0), .int (nI 0)])), ((u0 0), .inl (K 0, 200, .inr (.inr (.inr (.inr (fun _ => none)))))), (q1, .inr (4, [.ref (u1 0), .ref (u1 2), .ref (u1 3), .int (nI 1)])), ((u1 0), .inr (5, [.ref (u1 1), .int (nI 0)])), ((u1 1), .inl (K 0, 200, .inr (.inr (.inr (.inr (fun _ => none)))))), ((u1 2), .inl (K 0, 32, .inr (.inr (.inr (.inr (fun _ => none)))))), ((u1 3), .inl (K 0, 4, .inr (.inr (.inr (.inr (fun _ => none)))))), (q2, .inr (3, [.ref (u2 0), .ref (u2 2), .ref (u2 4), .int (nI 0), .int (nI 0), .int (nI 100), .int (nI 60), .ref (u2 6)])), ((u2 0), .inr (5, [.ref (u2 1), .int (nI 0)])), ((u2 1), .inl (K 0, 200, .inr (.inr (.inr (.inr (fun _ => none)))))), ((u2 2), .inr (5, [.ref (u2 3), .int (nI 0)])), ((u2 3), .inl (K 0, 200, .inr (.inr (.inr (.inr (fun _ => none)))))), ((u2 4), .inr (5, [.ref (u2 5), .int (nI 0)])), ((u2 5), .inl (K 0, 200, .inr (.inr (.inr (.inr (fun _ => none)))))), ((u2 6), .inl (K 1, 20, .inl (fun _ => nI 0))), (q3, .inr (6, [.int (nI 0), .int (nI 0), .int (nI 0), .int (nI 0)]))]) (fun _ => rfl) (fun q3 H hP hD hS => ?_)
  refine lv_dup hx hb dX9_init_41 rfl ?_
  refine k_v (wr := [(h0, .inr (9, [.ref q0, .ref q1, .ref q2, .null, .null, .null, v0, v1, v2])), (q0, .inr (5, [.ref (u0 0), .int (nI 0)])), ((u0 0), .inl (K 0, 200, .inr (.inr (.inr (.inr (fun _ => none)))))), (q1, .inr (4, [.ref (u1 0), .ref (u1 2), .ref (u1 3), .int (nI 1)])), ((u1 0), .inr (5, [.ref (u1 1), .int (nI 0)])), ((u1 1), .inl (K 0, 200, .inr (.inr (.inr (.inr (fun _ => none)))))), ((u1 2), .inl (K 0, 32, .inr (.inr (.inr (.inr (fun _ => none)))))), ((u1 3), .inl (K 0, 4, .inr (.inr (.inr (.inr (fun _ => none)))))), (q2, .inr (3, [.ref (u2 0), .ref (u2 2), .ref (u2 4), .int (nI 0), .int (nI 0), .int (nI 100), .int (nI 60), .ref (u2 6)])), ((u2 0), .inr (5, [.ref (u2 1), .int (nI 0)])), ((u2 1), .inl (K 0, 200, .inr (.inr (.inr (.inr (fun _ => none)))))), ((u2 2), .inr (5, [.ref (u2 3), .int (nI 0)])), ((u2 3), .inl (K 0, 200, .inr (.inr (.inr (.inr (fun _ => none)))))), ((u2 4), .inr (5, [.ref (u2 5), .int (nI 0)])), ((u2 5), .inl (K 0, 200, .inr (.inr (.inr (.inr (fun _ => none)))))), ((u2 6), .inl (K 1, 20, .inl (fun _ => nI 0))), (q3, .inr (6, [.int (nI 0), .int (nI 0), .int (nI 0), .int (nI 0)]))]) (run_IN (rest := [.ref q3, .ref h0]) hx hb hml hown hts hK hP hD hS hA hm (C3_init l G D K H.size q3) [] rfl rfl mok_yX6_init w_132 w_133 rfl ⟨Nat.le_of_ble_eq_true rfl, Nat.le_of_ble_eq_true rfl⟩ rfl hl.1 rfl (Nat.le_of_ble_eq_true rfl) dX9_init_42 ⟨(Nat.le_of_ble_eq_true rfl), (Nat.le_of_ble_eq_true rfl)⟩) hP hD hS hA [] [0, 1, 2, 3, 4, 5, 6, 7, 8, 9, 10, 11, 12, 13, 14, 15, 16] rfl rfl rfl (by decide) (w2 := fun u3 => [(h0, .inr (9, [.ref q0, .ref q1, .ref q2, .null, .null, .null, v0, v1, v2])), (q0, .inr (5, [.ref (u0 0), .int (nI 0)])), ((u0 0), .inl (K 0, 200, .inr (.inr (.inr (.inr (fun _ => none)))))), (q1, .inr (4, [.ref (u1 0), .ref (u1 2), .ref (u1 3), .int (nI 1)])), ((u1 0), .inr (5, [.ref (u1 1), .int (nI 0)])), ((u1 1), .inl (K 0, 200, .inr (.inr (.inr (.inr (fun _ => none)))))), ((u1 2), .inl (K 0, 32, .inr (.inr (.inr (.inr (fun _ => none)))))), ((u1 3), .inl (K 0, 4, .inr (.inr (.inr (.inr (fun _ => none)))))), (q2, .inr (3, [.ref (u2 0), .ref (u2 2), .ref (u2 4), .int (nI 0), .int (nI 0), .int (nI 100), .int (nI 60), .ref (u2 6)])), ((u2 0), .inr (5, [.ref (u2 1), .int (nI 0)])), ((u2 1), .inl (K 0, 200, .inr (.inr (.inr (.inr (fun _ => none)))))), ((u2 2), .inr (5, [.ref (u2 3), .int (nI 0)])), ((u2 3), .inl (K 0, 200, .inr (.inr (.inr (.inr (fun _ => none)))))), ((u2 4), .inr (5, [.ref (u2 5), .int (nI 0)])), ((u2 5), .inl (K 0, 200, .inr (.inr (.inr (.inr (fun _ => none)))))), ((u2 6), .inl (K 1, 20, .inl (fun _ => nI 0))), (q3, .inr (6, [.int (nI 0), .int (nI 0), .int (nI 0), .int (nI 0)]))]) (fun _ => rfl) (fun u3 H locs hP hD hS => ?_)
  refine r_putF hx hb hts ok_RX9 hown hK hP hD hS 0 rfl rfl 3 (by decide) w_261 (fun _ h9 => h9) rfl hnm rfl (v := .ref q3) rfl rfl (Nat.le_of_ble_eq_true rfl) dX9_init_45 (ws' := [(h0, .inr (9, [.ref q0, .ref q1, .ref q2, .ref q3, .null, .null, v0, v1, v2])), (q0, .inr (5, [.ref (u0 0), .int (nI 0)])), ((u0 0), .inl (K 0, 200, .inr (.inr (.inr (.inr (fun _ => none)))))), (q1, .inr (4, [.ref (u1 0), .ref (u1 2), .ref (u1 3), .int (nI 1)])), ((u1 0), .inr (5, [.ref (u1 1), .int (nI 0)])), ((u1 1), .inl (K 0, 200, .inr (.inr (.inr (.inr (fun _ => none)))))), ((u1 2), .inl (K 0, 32, .inr (.inr (.inr (.inr (fun _ => none)))))), ((u1 3), .inl (K 0, 4, .inr (.inr (.inr (.inr (fun _ => none)))))), (q2, .inr (3, [.ref (u2 0), .ref (u2 2), .ref (u2 4), .int (nI 0), .int (nI 0), .int (nI 100), .int (nI 60), .ref (u2 6)])), ((u2 0), .inr (5, [.ref (u2 1), .int (nI 0)])), ((u2 1), .inl (K 0, 200, .inr (.inr (.inr (.inr (fun _ => none)))))), ((u2 2), .inr (5, [.ref (u2 3), .int (nI 0)])), ((u2 3), .inl (K 0, 200, .inr (.inr (.inr (.inr (fun _ => none)))))), ((u2 4), .inr (5, [.ref (u2 5), .int (nI 0)])), ((u2 5), .inl (K 0, 200, .inr (.inr (.inr (.inr (fun _ => none)))))), ((u2 6), .inl (K 1, 20, .inl (fun _ => nI 0))), (q3, .inr (6, [.int (nI 0), .int (nI 0), .int (nI 0), .int (nI 0)]))]) rfl (fun H locs hP hD hS => ?_)
  refine lv_aload_n hx hb dX9_init_48 rfl (lv_at hl 0 rfl) ?_
  refine r_new (ci := 1) (C := RX1) (T := TX1) (N := 3) hx hb hts ok_RX1 hown w_153 w_154 w_6 hK hP hD hS hA rfl df_RX1 (Nat.le_of_ble_eq_true rfl) (Nat.le_of_ble_eq_true rfl) dX9_init_49 (w2 := fun q4 => [(h0, .inr (9, [.ref q0, .ref q1, .ref q2, .ref q3, .null, .null, v0, v1, v2])), (q0, .inr (5, [.ref (u0 0), .int (nI 0)])), ((u0 0), .inl (K 0, 200, .inr (.inr (.inr (.inr (fun _ => none)))))), (q1, .inr (4, [.ref (u1 0), .ref (u1 2), .ref (u1 3), .int (nI 1)])), ((u1 0), .inr (5, [.ref (u1 1), .int (nI 0)])), ((u1 1), .inl (K 0, 200, .inr (.inr (.inr (.inr (fun _ => none)))))), ((u1 2), .inl (K 0, 32, .inr (.inr (.inr (.inr (fun _ => none)))))), ((u1 3), .inl (K 0, 4, .inr (.inr (.inr (.inr (fun _ => none)))))), (q2, .inr (3, [.ref (u2 0), .ref (u2 2), .ref (u2 4), .int (nI 0), .int (nI 0), .int (nI 100), .int (nI 60), .ref (u2 6)])), ((u2 0), .inr (5, [.ref (u2 1), .int (nI 0)])), ((u2 1), .inl (K 0, 200, .inr (.inr (.inr (.inr (fun _ => none)))))), ((u2 2), .inr (5, [.ref (u2 3), .int (nI 0)])), ((u2 3), .inl (K 0, 200, .inr (.inr (.inr (.inr (fun _ => none)))))), ((u2 4), .inr (5, [.ref (u2 5), .int (nI 0)])), ((u2 5), .inl (K 0, 200, .inr (.inr (.inr (.inr (fun _ => none)))))), ((u2 6), .inl (K 1, 20, .inl (fun _ => nI 0))), (q3, .inr (6, [.int (nI 0), .int (nI 0), .int (nI 0), .int (nI 0)])), (q4, .inr (1, [.null, .null, .int (nI 0)]))]) (fun _ => rfl) (fun q4 H hP hD hS => ?_)
  refine lv_dup hx hb dX9_init_52 rfl ?_
  refine lv_aload_n hx hb dX9_init_53 rfl (lv_at hl 0 rfl) ?_
  refine r_get hx hb hts ok_RX9 hown hK hP 0 rfl rfl 0 (by decide) w_258 (fun _ h9 => h9) rfl dX9_init_54 ?_
  refine lv_aload_n hx hb dX9_init_57 rfl (lv_at hl 0 rfl) ?_
  refine r_get hx hb hts ok_RX9 hown hK hP 0 rfl rfl 1 (by decide) w_259 (fun _ h9 => h9) rfl dX9_init_58 ?_
  refine k_v (wr := [(h0, .inr (9, [.ref q0, .ref q1, .ref q2, .ref q3, .null, .null, v0, v1, v2])), (q0, .inr (5, [.ref (u0 0), .int (nI 0)])), ((u0 0), .inl (K 0, 200, .inr (.inr (.inr (.inr (fun _ => none)))))), (q1, .inr (4, [.ref (u1 0), .ref (u1 2), .ref (u1 3), .int (nI 1)])), ((u1 0), .inr (5, [.ref (u1 1), .int (nI 0)])), ((u1 1), .inl (K 0, 200, .inr (.inr (.inr (.inr (fun _ => none)))))), ((u1 2), .inl (K 0, 32, .inr (.inr (.inr (.inr (fun _ => none)))))), ((u1 3), .inl (K 0, 4, .inr (.inr (.inr (.inr (fun _ => none)))))), (q2, .inr (3, [.ref (u2 0), .ref (u2 2), .ref (u2 4), .int (nI 0), .int (nI 0), .int (nI 100), .int (nI 60), .ref (u2 6)])), ((u2 0), .inr (5, [.ref (u2 1), .int (nI 0)])), ((u2 1), .inl (K 0, 200, .inr (.inr (.inr (.inr (fun _ => none)))))), ((u2 2), .inr (5, [.ref (u2 3), .int (nI 0)])), ((u2 3), .inl (K 0, 200, .inr (.inr (.inr (.inr (fun _ => none)))))), ((u2 4), .inr (5, [.ref (u2 5), .int (nI 0)])), ((u2 5), .inl (K 0, 200, .inr (.inr (.inr (.inr (fun _ => none)))))), ((u2 6), .inl (K 1, 20, .inl (fun _ => nI 0))), (q3, .inr (6, [.int (nI 0), .int (nI 0), .int (nI 0), .int (nI 0)]))]) (run_I (rest := [.ref q4, .ref h0]) hx hb hml hown hts hK hP hD hS hA hm (C4_init l G D K H.size q4 q0 q1 (.null) (.null) (.int (nI 0))) [17] rfl rfl mok_yX1_init w_155 w_156 rfl ⟨Nat.le_of_ble_eq_true rfl, Nat.le_of_ble_eq_true rfl⟩ rfl hl.1 rfl (Nat.le_of_ble_eq_true rfl) dX9_init_61 ⟨(Nat.le_of_ble_eq_true rfl), (Nat.le_of_ble_eq_true rfl)⟩) hP hD hS hA [17] [0, 1, 2, 3, 4, 5, 6, 7, 8, 9, 10, 11, 12, 13, 14, 15, 16] rfl rfl rfl (by decide) (w2 := fun u4 => [(h0, .inr (9, [.ref q0, .ref q1, .ref q2, .ref q3, .null, .null, v0, v1, v2])), (q0, .inr (5, [.ref (u0 0), .int (nI 0)])), ((u0 0), .inl (K 0, 200, .inr (.inr (.inr (.inr (fun _ => none)))))), (q1, .inr (4, [.ref (u1 0), .ref (u1 2), .ref (u1 3), .int (nI 1)])), ((u1 0), .inr (5, [.ref (u1 1), .int (nI 0)])), ((u1 1), .inl (K 0, 200, .inr (.inr (.inr (.inr (fun _ => none)))))), ((u1 2), .inl (K 0, 32, .inr (.inr (.inr (.inr (fun _ => none)))))), ((u1 3), .inl (K 0, 4, .inr (.inr (.inr (.inr (fun _ => none)))))), (q2, .inr (3, [.ref (u2 0), .ref (u2 2), .ref (u2 4), .int (nI 0), .int (nI 0), .int (nI 100), .int (nI 60), .ref (u2 6)])), ((u2 0), .inr (5, [.ref (u2 1), .int (nI 0)])), ((u2 1), .inl (K 0, 200, .inr (.inr (.inr (.inr (fun _ => none)))))), ((u2 2), .inr (5, [.ref (u2 3), .int (nI 0)])), ((u2 3), .inl (K 0, 200, .inr (.inr (.inr (.inr (fun _ => none)))))), ((u2 4), .inr (5, [.ref (u2 5), .int (nI 0)])), ((u2 5), .inl (K 0, 200, .inr (.inr (.inr (.inr (fun _ => none)))))), ((u2 6), .inl (K 1, 20, .inl (fun _ => nI 0))), (q3, .inr (6, [.int (nI 0), .int (nI 0), .int (nI 0), .int (nI 0)])), (q4, .inr (1, [.ref q0, .ref q1, .int (nI 0)]))]) (fun _ => rfl) (fun u4 H locs hP hD hS => ?_)
  refine r_putF hx hb hts ok_RX9 hown hK hP hD hS 0 rfl rfl 4 (by decide) w_262 (fun _ h9 => h9) rfl hnm rfl (v := .ref q4) rfl rfl (Nat.le_of_ble_eq_true rfl) dX9_init_64 (ws' := [(h0, .inr (9, [.ref q0, .ref q1, .ref q2, .ref q3, .ref q4, .null, v0, v1, v2])), (q0, .inr (5, [.ref (u0 0), .int (nI 0)])), ((u0 0), .inl (K 0, 200, .inr (.inr (.inr (.inr (fun _ => none)))))), (q1, .inr (4, [.ref (u1 0), .ref (u1 2), .ref (u1 3), .int (nI 1)])), ((u1 0), .inr (5, [.ref (u1 1), .int (nI 0)])), ((u1 1), .inl (K 0, 200, .inr (.inr (.inr (.inr (fun _ => none)))))), ((u1 2), .inl (K 0, 32, .inr (.inr (.inr (.inr (fun _ => none)))))), ((u1 3), .inl (K 0, 4, .inr (.inr (.inr (.inr (fun _ => none)))))), (q2, .inr (3, [.ref (u2 0), .ref (u2 2), .ref (u2 4), .int (nI 0), .int (nI 0), .int (nI 100), .int (nI 60), .ref (u2 6)])), ((u2 0), .inr (5, [.ref (u2 1), .int (nI 0)])), ((u2 1), .inl (K 0, 200, .inr (.inr (.inr (.inr (fun _ => none)))))), ((u2 2), .inr (5, [.ref (u2 3), .int (nI 0)])), ((u2 3), .inl (K 0, 200, .inr (.inr (.inr (.inr (fun _ => none)))))), ((u2 4), .inr (5, [.ref (u2 5), .int (nI 0)])), ((u2 5), .inl (K 0, 200, .inr (.inr (.inr (.inr (fun _ => none)))))), ((u2 6), .inl (K 1, 20, .inl (fun _ => nI 0))), (q3, .inr (6, [.int (nI 0), .int (nI 0), .int (nI 0), .int (nI 0)])), (q4, .inr (1, [.ref q0, .ref q1, .int (nI 0)]))]) rfl (fun H locs hP hD hS => ?_)
  refine lv_aload_n hx hb dX9_init_67 rfl (lv_at hl 0 rfl) ?_
  refine r_new (ci := 8) (C := RX8) (T := TX8) (N := 6) hx hb hts ok_RX8 hown w_169 w_170 w_7 hK hP hD hS hA rfl df_RX8 (Nat.le_of_ble_eq_true rfl) (Nat.le_of_ble_eq_true rfl) dX9_init_68 (w2 := fun q5 => [(h0, .inr (9, [.ref q0, .ref q1, .ref q2, .ref q3, .ref q4, .null, v0, v1, v2])), (q0, .inr (5, [.ref (u0 0), .int (nI 0)])), ((u0 0), .inl (K 0, 200, .inr (.inr (.inr (.inr (fun _ => none)))))), (q1, .inr (4, [.ref (u1 0), .ref (u1 2), .ref (u1 3), .int (nI 1)])), ((u1 0), .inr (5, [.ref (u1 1), .int (nI 0)])), ((u1 1), .inl (K 0, 200, .inr (.inr (.inr (.inr (fun _ => none)))))), ((u1 2), .inl (K 0, 32, .inr (.inr (.inr (.inr (fun _ => none)))))), ((u1 3), .inl (K 0, 4, .inr (.inr (.inr (.inr (fun _ => none)))))), (q2, .inr (3, [.ref (u2 0), .ref (u2 2), .ref (u2 4), .int (nI 0), .int (nI 0), .int (nI 100), .int (nI 60), .ref (u2 6)])), ((u2 0), .inr (5, [.ref (u2 1), .int (nI 0)])), ((u2 1), .inl (K 0, 200, .inr (.inr (.inr (.inr (fun _ => none)))))), ((u2 2), .inr (5, [.ref (u2 3), .int (nI 0)])), ((u2 3), .inl (K 0, 200, .inr (.inr (.inr (.inr (fun _ => none)))))), ((u2 4), .inr (5, [.ref (u2 5), .int (nI 0)])), ((u2 5), .inl (K 0, 200, .inr (.inr (.inr (.inr (fun _ => none)))))), ((u2 6), .inl (K 1, 20, .inl (fun _ => nI 0))), (q3, .inr (6, [.int (nI 0), .int (nI 0), .int (nI 0), .int (nI 0)])), (q4, .inr (1, [.ref q0, .ref q1, .int (nI 0)])), (q5, .inr (8, [.null, .null, .null, .int (nI 0), .int (nI 0), .null]))]) (fun _ => rfl) (fun q5 H hP hD hS => ?_)
  refine lv_dup hx hb dX9_init_71 rfl ?_
  refine lv_aload_n hx hb dX9_init_72 rfl (lv_at hl 0 rfl) ?_
  refine r_get hx hb hts ok_RX9 hown hK hP 0 rfl rfl 0 (by decide) w_258 (fun _ h9 => h9) rfl dX9_init_73 ?_
  refine lv_aload_n hx hb dX9_init_76 rfl (lv_at hl 0 rfl) ?_
  refine r_get hx hb hts ok_RX9 hown hK hP 0 rfl rfl 1 (by decide) w_259 (fun _ h9 => h9) rfl dX9_init_77 ?_
  refine k_v (wr := [(h0, .inr (9, [.ref q0, .ref q1, .ref q2, .ref q3, .ref q4, .null, v0, v1, v2])), (q0, .inr (5, [.ref (u0 0), .int (nI 0)])), ((u0 0), .inl (K 0, 200, .inr (.inr (.inr (.inr (fun _ => none)))))), (q1, .inr (4, [.ref (u1 0), .ref (u1 2), .ref (u1 3), .int (nI 1)])), ((u1 0), .inr (5, [.ref (u1 1), .int (nI 0)])), ((u1 1), .inl (K 0, 200, .inr (.inr (.inr (.inr (fun _ => none)))))), ((u1 2), .inl (K 0, 32, .inr (.inr (.inr (.inr (fun _ => none)))))), ((u1 3), .inl (K 0, 4, .inr (.inr (.inr (.inr (fun _ => none)))))), (q2, .inr (3, [.ref (u2 0), .ref (u2 2), .ref (u2 4), .int (nI 0), .int (nI 0), .int (nI 100), .int (nI 60), .ref (u2 6)])), ((u2 0), .inr (5, [.ref (u2 1), .int (nI 0)])), ((u2 1), .inl (K 0, 200, .inr (.inr (.inr (.inr (fun _ => none)))))), ((u2 2), .inr (5, [.ref (u2 3), .int (nI 0)])), ((u2 3), .inl (K 0, 200, .inr (.inr (.inr (.inr (fun _ => none)))))), ((u2 4), .inr (5, [.ref (u2 5), .int (nI 0)])), ((u2 5), .inl (K 0, 200, .inr (.inr (.inr (.inr (fun _ => none)))))), ((u2 6), .inl (K 1, 20, .inl (fun _ => nI 0))), (q3, .inr (6, [.int (nI 0), .int (nI 0), .int (nI 0), .int (nI 0)])), (q4, .inr (1, [.ref q0, .ref q1, .int (nI 0)]))]) (run_I (rest := [.ref q5, .ref h0]) hx hb hml hown hts hK hP hD hS hA hm (C5_init l G D K H.size q5 q0 q1 (.null) (.null) (.null) (.int (nI 0)) (.int (nI 0)) (.null)) [18] rfl rfl mok_yX8_init w_171 w_172 rfl ⟨Nat.le_of_ble_eq_true rfl, Nat.le_of_ble_eq_true rfl⟩ rfl hl.1 rfl (Nat.le_of_ble_eq_true rfl) dX9_init_80 ⟨(Nat.le_of_ble_eq_true rfl), (Nat.le_of_ble_eq_true rfl)⟩) hP hD hS hA [18] [0, 1, 2, 3, 4, 5, 6, 7, 8, 9, 10, 11, 12, 13, 14, 15, 16, 17] rfl rfl rfl (by decide) (w2 := fun u5 => [(h0, .inr (9, [.ref q0, .ref q1, .ref q2, .ref q3, .ref q4, .null, v0, v1, v2])), (q0, .inr (5, [.ref (u0 0), .int (nI 0)])), ((u0 0), .inl (K 0, 200, .inr (.inr (.inr (.inr (fun _ => none)))))), (q1, .inr (4, [.ref (u1 0), .ref (u1 2), .ref (u1 3), .int (nI 1)])), ((u1 0), .inr (5, [.ref (u1 1), .int (nI 0)])), ((u1 1), .inl (K 0, 200, .inr (.inr (.inr (.inr (fun _ => none)))))), ((u1 2), .inl (K 0, 32, .inr (.inr (.inr (.inr (fun _ => none)))))), ((u1 3), .inl (K 0, 4, .inr (.inr (.inr (.inr (fun _ => none)))))), (q2, .inr (3, [.ref (u2 0), .ref (u2 2), .ref (u2 4), .int (nI 0), .int (nI 0), .int (nI 100), .int (nI 60), .ref (u2 6)])), ((u2 0), .inr (5, [.ref (u2 1), .int (nI 0)])), ((u2 1), .inl (K 0, 200, .inr (.inr (.inr (.inr (fun _ => none)))))), ((u2 2), .inr (5, [.ref (u2 3), .int (nI 0)])), ((u2 3), .inl (K 0, 200, .inr (.inr (.inr (.inr (fun _ => none)))))), ((u2 4), .inr (5, [.ref (u2 5), .int (nI 0)])), ((u2 5), .inl (K 0, 200, .inr (.inr (.inr (.inr (fun _ => none)))))), ((u2 6), .inl (K 1, 20, .inl (fun _ => nI 0))), (q3, .inr (6, [.int (nI 0), .int (nI 0), .int (nI 0), .int (nI 0)])), (q4, .inr (1, [.ref q0, .ref q1, .int (nI 0)])), (q5, .inr (8, [.ref q0, .ref q1, .ref (u5 0), .int (nI 0), .int (nI 0), .null])), ((u5 0), .inr (5, [.ref (u5 1), .int (nI 0)])), ((u5 1), .inl (K 0, 200, .inr (.inr (.inr (.inr (fun _ => none))))))]) (fun _ => rfl) (fun u5 H locs hP hD hS => ?_)
  refine r_putF hx hb hts ok_RX9 hown hK hP hD hS 0 rfl rfl 5 (by decide) w_263 (fun _ h9 => h9) rfl hnm rfl (v := .ref q5) rfl rfl (Nat.le_of_ble_eq_true rfl) dX9_init_83 (ws' := [(h0, .inr (9, [.ref q0, .ref q1, .ref q2, .ref q3, .ref q4, .ref q5, v0, v1, v2])), (q0, .inr (5, [.ref (u0 0), .int (nI 0)])), ((u0 0), .inl (K 0, 200, .inr (.inr (.inr (.inr (fun _ => none)))))), (q1, .inr (4, [.ref (u1 0), .ref (u1 2), .ref (u1 3), .int (nI 1)])), ((u1 0), .inr (5, [.ref (u1 1), .int (nI 0)])), ((u1 1), .inl (K 0, 200, .inr (.inr (.inr (.inr (fun _ => none)))))), ((u1 2), .inl (K 0, 32, .inr (.inr (.inr (.inr (fun _ => none)))))), ((u1 3), .inl (K 0, 4, .inr (.inr (.inr (.inr (fun _ => none)))))), (q2, .inr (3, [.ref (u2 0), .ref (u2 2), .ref (u2 4), .int (nI 0), .int (nI 0), .int (nI 100), .int (nI 60), .ref (u2 6)])), ((u2 0), .inr (5, [.ref (u2 1), .int (nI 0)])), ((u2 1), .inl (K 0, 200, .inr (.inr (.inr (.inr (fun _ => none)))))), ((u2 2), .inr (5, [.ref (u2 3), .int (nI 0)])), ((u2 3), .inl (K 0, 200, .inr (.inr (.inr (.inr (fun _ => none)))))), ((u2 4), .inr (5, [.ref (u2 5), .int (nI 0)])), ((u2 5), .inl (K 0, 200, .inr (.inr (.inr (.inr (fun _ => none)))))), ((u2 6), .inl (K 1, 20, .inl (fun _ => nI 0))), (q3, .inr (6, [.int (nI 0), .int (nI 0), .int (nI 0), .int (nI 0)])), (q4, .inr (1, [.ref q0, .ref q1, .int (nI 0)])), (q5, .inr (8, [.ref q0, .ref q1, .ref (u5 0), .int (nI 0), .int (nI 0), .null])), ((u5 0), .inr (5, [.ref (u5 1), .int (nI 0)])), ((u5 1), .inl (K 0, 200, .inr (.inr (.inr (.inr (fun _ => none))))))]) rfl (fun H locs hP hD hS => ?_)
  refine lv_aload_n hx hb dX9_init_86 rfl (lv_at hl 0 rfl) ?_
  refine r_new (ci := 2) (C := RX2) (T := TX2) (N := 9) hx hb hts ok_RX2 hown w_196 w_197 w_8 hK hP hD hS hA rfl df_RX2 (Nat.le_of_ble_eq_true rfl) (Nat.le_of_ble_eq_true rfl) dX9_init_87 (w2 := fun q6 => [(h0, .inr (9, [.ref q0, .ref q1, .ref q2, .ref q3, .ref q4, .ref q5, v0, v1, v2])), (q0, .inr (5, [.ref (u0 0), .int (nI 0)])), ((u0 0), .inl (K 0, 200, .inr (.inr (.inr (.inr (fun _ => none)))))), (q1, .inr (4, [.ref (u1 0), .ref (u1 2), .ref (u1 3), .int (nI 1)])), ((u1 0), .inr (5, [.ref (u1 1), .int (nI 0)])), ((u1 1), .inl (K 0, 200, .inr (.inr (.inr (.inr (fun _ => none)))))), ((u1 2), .inl (K 0, 32, .inr (.inr (.inr (.inr (fun _ => none)))))), ((u1 3), .inl (K 0, 4, .inr (.inr (.inr (.inr (fun _ => none)))))), (q2, .inr (3, [.ref (u2 0), .ref (u2 2), .ref (u2 4), .int (nI 0), .int (nI 0), .int (nI 100), .int (nI 60), .ref (u2 6)])), ((u2 0), .inr (5, [.ref (u2 1), .int (nI 0)])), ((u2 1), .inl (K 0, 200, .inr (.inr (.inr (.inr (fun _ => none)))))), ((u2 2), .inr (5, [.ref (u2 3), .int (nI 0)])), ((u2 3), .inl (K 0, 200, .inr (.inr (.inr (.inr (fun _ => none)))))), ((u2 4), .inr (5, [.ref (u2 5), .int (nI 0)])), ((u2 5), .inl (K 0, 200, .inr (.inr (.inr (.inr (fun _ => none)))))), ((u2 6), .inl (K 1, 20, .inl (fun _ => nI 0))), (q3, .inr (6, [.int (nI 0), .int (nI 0), .int (nI 0), .int (nI 0)])), (q4, .inr (1, [.ref q0, .ref q1, .int (nI 0)])), (q5, .inr (8, [.ref q0, .ref q1, .ref (u5 0), .int (nI 0), .int (nI 0), .null])), ((u5 0), .inr (5, [.ref (u5 1), .int (nI 0)])), ((u5 1), .inl (K 0, 200, .inr (.inr (.inr (.inr (fun _ => none)))))), (q6, .inr (2, [.int (nI 0), .null, .null, .null, .null, .null, .int (nI 0), .int (nI 0), .int (nI 0)]))]) (fun _ => rfl) (fun q6 H hP hD hS => ?_)
  refine lv_dup hx hb dX9_init_90 rfl ?_
  refine lv_aload_n hx hb dX9_init_91 rfl (lv_at hl 0 rfl) ?_
  refine r_get hx hb hts ok_RX9 hown hK hP 0 rfl rfl 0 (by decide) w_258 (fun _ h9 => h9) rfl dX9_init_92 ?_
  refine lv_aload_n hx hb dX9_init_95 rfl (lv_at hl 0 rfl) ?_
  refine r_get hx hb hts ok_RX9 hown hK hP 0 rfl rfl 1 (by decide) w_259 (fun _ h9 => h9) rfl dX9_init_96 ?_
  refine lv_aload_n hx hb dX9_init_99 rfl (lv_at hl 0 rfl) ?_
  refine r_get hx hb hts ok_RX9 hown hK hP 0 rfl rfl 2 (by decide) w_260 (fun _ h9 => h9) rfl dX9_init_100 ?_
  refine lv_aload_n hx hb dX9_init_103 rfl (lv_at hl 0 rfl) ?_
  refine r_get hx hb hts ok_RX9 hown hK hP 0 rfl rfl 3 (by decide) w_261 (fun _ h9 => h9) rfl dX9_init_104 ?_
  refine k_v (wr := [(h0, .inr (9, [.ref q0, .ref q1, .ref q2, .ref q3, .ref q4, .ref q5, v0, v1, v2])), (q0, .inr (5, [.ref (u0 0), .int (nI 0)])), ((u0 0), .inl (K 0, 200, .inr (.inr (.inr (.inr (fun _ => none)))))), (q1, .inr (4, [.ref (u1 0), .ref (u1 2), .ref (u1 3), .int (nI 1)])), ((u1 0), .inr (5, [.ref (u1 1), .int (nI 0)])), ((u1 1), .inl (K 0, 200, .inr (.inr (.inr (.inr (fun _ => none)))))), ((u1 2), .inl (K 0, 32, .inr (.inr (.inr (.inr (fun _ => none)))))), ((u1 3), .inl (K 0, 4, .inr (.inr (.inr (.inr (fun _ => none)))))), (q2, .inr (3, [.ref (u2 0), .ref (u2 2), .ref (u2 4), .int (nI 0), .int (nI 0), .int (nI 100), .int (nI 60), .ref (u2 6)])), ((u2 0), .inr (5, [.ref (u2 1), .int (nI 0)])), ((u2 1), .inl (K 0, 200, .inr (.inr (.inr (.inr (fun _ => none)))))), ((u2 2), .inr (5, [.ref (u2 3), .int (nI 0)])), ((u2 3), .inl (K 0, 200, .inr (.inr (.inr (.inr (fun _ => none)))))), ((u2 4), .inr (5, [.ref (u2 5), .int (nI 0)])), ((u2 5), .inl (K 0, 200, .inr (.inr (.inr (.inr (fun _ => none)))))), ((u2 6), .inl (K 1, 20, .inl (fun _ => nI 0))), (q3, .inr (6, [.int (nI 0), .int (nI 0), .int (nI 0), .int (nI 0)])), (q4, .inr (1, [.ref q0, .ref q1, .int (nI 0)])), (q5, .inr (8, [.ref q0, .ref q1, .ref (u5 0), .int (nI 0), .int (nI 0), .null])), ((u5 0), .inr (5, [.ref (u5 1), .int (nI 0)])), ((u5 1), .inl (K 0, 200, .inr (.inr (.inr (.inr (fun _ => none))))))]) (run_I (rest := [.ref q6, .ref h0]) hx hb hml hown hts hK hP hD hS hA hm (C6_init l G D K H.size q6 q0 q1 q2 q3 (.int (nI 0)) (.null) (.null) (.null) (.null) (.null) (.int (nI 0)) (.int (nI 0)) (.int (nI 0))) [21] rfl rfl mok_yX2_init w_198 w_199 rfl ⟨Nat.le_of_ble_eq_true rfl, Nat.le_of_ble_eq_true rfl⟩ rfl hl.1 rfl (Nat.le_of_ble_eq_true rfl) dX9_init_107 ⟨(Nat.le_of_ble_eq_true rfl), (Nat.le_of_ble_eq_true rfl)⟩) hP hD hS hA [21] [0, 1, 2, 3, 4, 5, 6, 7, 8, 9, 10, 11, 12, 13, 14, 15, 16, 17, 18, 19, 20] rfl rfl rfl (by decide) (w2 := fun u6 => [(h0, .inr (9, [.ref q0, .ref q1, .ref q2, .ref q3, .ref q4, .ref q5, v0, v1, v2])), (q0, .inr (5, [.ref (u0 0), .int (nI 0)])), ((u0 0), .inl (K 0, 200, .inr (.inr (.inr (.inr (fun _ => none)))))), (q1, .inr (4, [.ref (u1 0), .ref (u1 2), .ref (u1 3), .int (nI 1)])), ((u1 0), .inr (5, [.ref (u1 1), .int (nI 0)])), ((u1 1), .inl (K 0, 200, .inr (.inr (.inr (.inr (fun _ => none)))))), ((u1 2), .inl (K 0, 32, .inr (.inr (.inr (.inr (fun _ => none)))))), ((u1 3), .inl (K 0, 4, .inr (.inr (.inr (.inr (fun _ => none)))))), (q2, .inr (3, [.ref (u2 0), .ref (u2 2), .ref (u2 4), .int (nI 0), .int (nI 0), .int (nI 100), .int (nI 60), .ref (u2 6)])), ((u2 0), .inr (5, [.ref (u2 1), .int (nI 0)])), ((u2 1), .inl (K 0, 200, .inr (.inr (.inr (.inr (fun _ => none)))))), ((u2 2), .inr (5, [.ref (u2 3), .int (nI 0)])), ((u2 3), .inl (K 0, 200, .inr (.inr (.inr (.inr (fun _ => none)))))), ((u2 4), .inr (5, [.ref (u2 5), .int (nI 0)])), ((u2 5), .inl (K 0, 200, .inr (.inr (.inr (.inr (fun _ => none)))))), ((u2 6), .inl (K 1, 20, .inl (fun _ => nI 0))), (q3, .inr (6, [.int (nI 0), .int (nI 0), .int (nI 0), .int (nI 0)])), (q4, .inr (1, [.ref q0, .ref q1, .int (nI 0)])), (q5, .inr (8, [.ref q0, .ref q1, .ref (u5 0), .int (nI 0), .int (nI 0), .null])), ((u5 0), .inr (5, [.ref (u5 1), .int (nI 0)])), ((u5 1), .inl (K 0, 200, .inr (.inr (.inr (.inr (fun _ => none)))))), (q6, .inr (2, [.int (nI 2), .ref q0, .ref q1, .ref q2, .ref q3, .ref (u6 0), .int (nI 0), .int (nI 0), .int (nI 0)])), ((u6 0), .inr (5, [.ref (u6 1), .int (nI 0)])), ((u6 1), .inl (K 0, 200, .inr (.inr (.inr (.inr (fun _ => none))))))]) (fun _ => rfl) (fun u6 H locs hP hD hS => ?_)
  refine r_putF hx hb hts ok_RX9 hown hK hP hD hS 0 rfl rfl 6 (by decide) w_264 (fun _ h9 => h9) rfl hnm rfl (v := .ref q6) rfl rfl (Nat.le_of_ble_eq_true rfl) dX9_init_110 (ws' := [(h0, .inr (9, [.ref q0, .ref q1, .ref q2, .ref q3, .ref q4, .ref q5, .ref q6, v1, v2])), (q0, .inr (5, [.ref (u0 0), .int (nI 0)])), ((u0 0), .inl (K 0, 200, .inr (.inr (.inr (.inr (fun _ => none)))))), (q1, .inr (4, [.ref (u1 0), .ref (u1 2), .ref (u1 3), .int (nI 1)])), ((u1 0), .inr (5, [.ref (u1 1), .int (nI 0)])), ((u1 1), .inl (K 0, 200, .inr (.inr (.inr (.inr (fun _ => none)))))), ((u1 2), .inl (K 0, 32, .inr (.inr (.inr (.inr (fun _ => none)))))), ((u1 3), .inl (K 0, 4, .inr (.inr (.inr (.inr (fun _ => none)))))), (q2, .inr (3, [.ref (u2 0), .ref (u2 2), .ref (u2 4), .int (nI 0), .int (nI 0), .int (nI 100), .int (nI 60), .ref (u2 6)])), ((u2 0), .inr (5, [.ref (u2 1), .int (nI 0)])), ((u2 1), .inl (K 0, 200, .inr (.inr (.inr (.inr (fun _ => none)))))), ((u2 2), .inr (5, [.ref (u2 3), .int (nI 0)])), ((u2 3), .inl (K 0, 200, .inr (.inr (.inr (.inr (fun _ => none)))))), ((u2 4), .inr (5, [.ref (u2 5), .int (nI 0)])), ((u2 5), .inl (K 0, 200, .inr (.inr (.inr (.inr (fun _ => none)))))), ((u2 6), .inl (K 1, 20, .inl (fun _ => nI 0))), (q3, .inr (6, [.int (nI 0), .int (nI 0), .int (nI 0), .int (nI 0)])), (q4, .inr (1, [.ref q0, .ref q1, .int (nI 0)])), (q5, .inr (8, [.ref q0, .ref q1, .ref (u5 0), .int (nI 0), .int (nI 0), .null])), ((u5 0), .inr (5, [.ref (u5 1), .int (nI 0)])), ((u5 1), .inl (K 0, 200, .inr (.inr (.inr (.inr (fun _ => none)))))), (q6, .inr (2, [.int (nI 2), .ref q0, .ref q1, .ref q2, .ref q3, .ref (u6 0), .int (nI 0), .int (nI 0), .int (nI 0)])), ((u6 0), .inr (5, [.ref (u6 1), .int (nI 0)])), ((u6 1), .inl (K 0, 200, .inr (.inr (.inr (.inr (fun _ => none))))))]) rfl (fun H locs hP hD hS => ?_)
  refine lv_aload_n hx hb dX9_init_113 rfl (lv_at hl 0 rfl) ?_
  refine r_new (ci := 0) (C := RX0) (T := TX0) (N := 6) hx hb hts ok_RX0 hown w_233 w_234 w_9 hK hP hD hS hA rfl df_RX0 (Nat.le_of_ble_eq_true rfl) (Nat.le_of_ble_eq_true rfl) dX9_init_114 (w2 := fun q7 => [(h0, .inr (9, [.ref q0, .ref q1, .ref q2, .ref q3, .ref q4, .ref q5, .ref q6, v1, v2])), (q0, .inr (5, [.ref (u0 0), .int (nI 0)])), ((u0 0), .inl (K 0, 200, .inr (.inr (.inr (.inr (fun _ => none)))))), (q1, .inr (4, [.ref (u1 0), .ref (u1 2), .ref (u1 3), .int (nI 1)])), ((u1 0), .inr (5, [.ref (u1 1), .int (nI 0)])), ((u1 1), .inl (K 0, 200, .inr (.inr (.inr (.inr (fun _ => none)))))), ((u1 2), .inl (K 0, 32, .inr (.inr (.inr (.inr (fun _ => none)))))), ((u1 3), .inl (K 0, 4, .inr (.inr (.inr (.inr (fun _ => none)))))), (q2, .inr (3, [.ref (u2 0), .ref (u2 2), .ref (u2 4), .int (nI 0), .int (nI 0), .int (nI 100), .int (nI 60), .ref (u2 6)])), ((u2 0), .inr (5, [.ref (u2 1), .int (nI 0)])), ((u2 1), .inl (K 0, 200, .inr (.inr (.inr (.inr (fun _ => none)))))), ((u2 2), .inr (5, [.ref (u2 3), .int (nI 0)])), ((u2 3), .inl (K 0, 200, .inr (.inr (.inr (.inr (fun _ => none)))))), ((u2 4), .inr (5, [.ref (u2 5), .int (nI 0)])), ((u2 5), .inl (K 0, 200, .inr (.inr (.inr (.inr (fun _ => none)))))), ((u2 6), .inl (K 1, 20, .inl (fun _ => nI 0))), (q3, .inr (6, [.int (nI 0), .int (nI 0), .int (nI 0), .int (nI 0)])), (q4, .inr (1, [.ref q0, .ref q1, .int (nI 0)])), (q5, .inr (8, [.ref q0, .ref q1, .ref (u5 0), .int (nI 0), .int (nI 0), .null])), ((u5 0), .inr (5, [.ref (u5 1), .int (nI 0)])), ((u5 1), .inl (K 0, 200, .inr (.inr (.inr (.inr (fun _ => none)))))), (q6, .inr (2, [.int (nI 2), .ref q0, .ref q1, .ref q2, .ref q3, .ref (u6 0), .int (nI 0), .int (nI 0), .int (nI 0)])), ((u6 0), .inr (5, [.ref (u6 1), .int (nI 0)])), ((u6 1), .inl (K 0, 200, .inr (.inr (.inr (.inr (fun _ => none)))))), (q7, .inr (0, [.null, .null, .null, .null, .null, .null]))]) (fun _ => rfl) (fun q7 H hP hD hS => ?_)
  refine lv_dup hx hb dX9_init_117 rfl ?_
  refine lv_aload_n hx hb dX9_init_118 rfl (lv_at hl 0 rfl) ?_
  refine r_get hx hb hts ok_RX9 hown hK hP 0 rfl rfl 0 (by decide) w_258 (fun _ h9 => h9) rfl dX9_init_119 ?_
  refine lv_aload_n hx hb dX9_init_122 rfl (lv_at hl 0 rfl) ?_
  refine r_get hx hb hts ok_RX9 hown hK hP 0 rfl rfl 1 (by decide) w_259 (fun _ h9 => h9) rfl dX9_init_123 ?_
  refine lv_aload_n hx hb dX9_init_126 rfl (lv_at hl 0 rfl) ?_
  refine r_get hx hb hts ok_RX9 hown hK hP 0 rfl rfl 2 (by decide) w_260 (fun _ h9 => h9) rfl dX9_init_127 ?_
  refine lv_aload_n hx hb dX9_init_130 rfl (lv_at hl 0 rfl) ?_
  refine r_get hx hb hts ok_RX9 hown hK hP 0 rfl rfl 3 (by decide) w_261 (fun _ h9 => h9) rfl dX9_init_131 ?_
  refine lv_aload_n hx hb dX9_init_134 rfl (lv_at hl 0 rfl) ?_
  refine r_get hx hb hts ok_RX9 hown hK hP 0 rfl rfl 4 (by decide) w_262 (fun _ h9 => h9) rfl dX9_init_135 ?_
  refine lv_aload_n hx hb dX9_init_138 rfl (lv_at hl 0 rfl) ?_
  refine r_get hx hb hts ok_RX9 hown hK hP 0 rfl rfl 5 (by decide) w_263 (fun _ h9 => h9) rfl dX9_init_139 ?_
  refine k_v (wr := [(h0, .inr (9, [.ref q0, .ref q1, .ref q2, .ref q3, .ref q4, .ref q5, .ref q6, v1, v2])), (q0, .inr (5, [.ref (u0 0), .int (nI 0)])), ((u0 0), .inl (K 0, 200, .inr (.inr (.inr (.inr (fun _ => none)))))), (q1, .inr (4, [.ref (u1 0), .ref (u1 2), .ref (u1 3), .int (nI 1)])), ((u1 0), .inr (5, [.ref (u1 1), .int (nI 0)])), ((u1 1), .inl (K 0, 200, .inr (.inr (.inr (.inr (fun _ => none)))))), ((u1 2), .inl (K 0, 32, .inr (.inr (.inr (.inr (fun _ => none)))))), ((u1 3), .inl (K 0, 4, .inr (.inr (.inr (.inr (fun _ => none)))))), (q2, .inr (3, [.ref (u2 0), .ref (u2 2), .ref (u2 4), .int (nI 0), .int (nI 0), .int (nI 100), .int (nI 60), .ref (u2 6)])), ((u2 0), .inr (5, [.ref (u2 1), .int (nI 0)])), ((u2 1), .inl (K 0, 200, .inr (.inr (.inr (.inr (fun _ => none)))))), ((u2 2), .inr (5, [.ref (u2 3), .int (nI 0)])), ((u2 3), .inl (K 0, 200, .inr (.inr (.inr (.inr (fun _ => none)))))), ((u2 4), .inr (5, [.ref (u2 5), .int (nI 0)])), ((u2 5), .inl (K 0, 200, .inr (.inr (.inr (.inr (fun _ => none)))))), ((u2 6), .inl (K 1, 20, .inl (fun _ => nI 0))), (q3, .inr (6, [.int (nI 0), .int (nI 0), .int (nI 0), .int (nI 0)])), (q4, .inr (1, [.ref q0, .ref q1, .int (nI 0)])), (q5, .inr (8, [.ref q0, .ref q1, .ref (u5 0), .int (nI 0), .int (nI 0), .null])), ((u5 0), .inr (5, [.ref (u5 1), .int (nI 0)])), ((u5 1), .inl (K 0, 200, .inr (.inr (.inr (.inr (fun _ => none)))))), (q6, .inr (2, [.int (nI 2), .ref q0, .ref q1, .ref q2, .ref q3, .ref (u6 0), .int (nI 0), .int (nI 0), .int (nI 0)])), ((u6 0), .inr (5, [.ref (u6 1), .int (nI 0)])), ((u6 1), .inl (K 0, 200, .inr (.inr (.inr (.inr (fun _ => none))))))]) (run_I (rest := [.ref q7, .ref h0]) hx hb hml hown hts hK hP hD hS hA hm (C7_init l G D K H.size q7 q0 q1 q2 q3 q4 q5 (.null) (.null) (.null) (.null) (.null) (.null)) [24] rfl rfl mok_yX0_init w_235 w_236 rfl ⟨Nat.le_of_ble_eq_true rfl, Nat.le_of_ble_eq_true rfl⟩ rfl hl.1 rfl (Nat.le_of_ble_eq_true rfl) dX9_init_142 ⟨(Nat.le_of_ble_eq_true rfl), (Nat.le_of_ble_eq_true rfl)⟩) hP hD hS hA [24] [0, 1, 2, 3, 4, 5, 6, 7, 8, 9, 10, 11, 12, 13, 14, 15, 16, 17, 18, 19, 20, 21, 22, 23] rfl rfl rfl (by decide) (w2 := fun u7 => [(h0, .inr (9, [.ref q0, .ref q1, .ref q2, .ref q3, .ref q4, .ref q5, .ref q6, v1, v2])), (q0, .inr (5, [.ref (u0 0), .int (nI 0)])), ((u0 0), .inl (K 0, 200, .inr (.inr (.inr (.inr (fun _ => none)))))), (q1, .inr (4, [.ref (u1 0), .ref (u1 2), .ref (u1 3), .int (nI 1)])), ((u1 0), .inr (5, [.ref (u1 1), .int (nI 0)])), ((u1 1), .inl (K 0, 200, .inr (.inr (.inr (.inr (fun _ => none)))))), ((u1 2), .inl (K 0, 32, .inr (.inr (.inr (.inr (fun _ => none)))))), ((u1 3), .inl (K 0, 4, .inr (.inr (.inr (.inr (fun _ => none)))))), (q2, .inr (3, [.ref (u2 0), .ref (u2 2), .ref (u2 4), .int (nI 0), .int (nI 0), .int (nI 100), .int (nI 60), .ref (u2 6)])), ((u2 0), .inr (5, [.ref (u2 1), .int (nI 0)])), ((u2 1), .inl (K 0, 200, .inr (.inr (.inr (.inr (fun _ => none)))))), ((u2 2), .inr (5, [.ref (u2 3), .int (nI 0)])), ((u2 3), .inl (K 0, 200, .inr (.inr (.inr (.inr (fun _ => none)))))), ((u2 4), .inr (5, [.ref (u2 5), .int (nI 0)])), ((u2 5), .inl (K 0, 200, .inr (.inr (.inr (.inr (fun _ => none)))))), ((u2 6), .inl (K 1, 20, .inl (fun _ => nI 0))), (q3, .inr (6, [.int (nI 0), .int (nI 0), .int (nI 0), .int (nI 0)])), (q4, .inr (1, [.ref q0, .ref q1, .int (nI 0)])), (q5, .inr (8, [.ref q0, .ref q1, .ref (u5 0), .int (nI 0), .int (nI 0), .null])), ((u5 0), .inr (5, [.ref (u5 1), .int (nI 0)])), ((u5 1), .inl (K 0, 200, .inr (.inr (.inr (.inr (fun _ => none)))))), (q6, .inr (2, [.int (nI 2), .ref q0, .ref q1, .ref q2, .ref q3, .ref (u6 0), .int (nI 0), .int (nI 0), .int (nI 0)])), ((u6 0), .inr (5, [.ref (u6 1), .int (nI 0)])), ((u6 1), .inl (K 0, 200, .inr (.inr (.inr (.inr (fun _ => none)))))), (q7, .inr (0, [.ref q0, .ref q1, .ref q2, .ref q3, .ref q4, .ref q5]))]) (fun _ => rfl) (fun u7 H locs hP hD hS => ?_)
  refine r_putF hx hb hts ok_RX9 hown hK hP hD hS 0 rfl rfl 7 (by decide) w_265 (fun _ h9 => h9) rfl hnm rfl (v := .ref q7) rfl rfl (Nat.le_of_ble_eq_true rfl) dX9_init_145 (ws' := [(h0, .inr (9, [.ref q0, .ref q1, .ref q2, .ref q3, .ref q4, .ref q5, .ref q6, .ref q7, v2])), (q0, .inr (5, [.ref (u0 0), .int (nI 0)])), ((u0 0), .inl (K 0, 200, .inr (.inr (.inr (.inr (fun _ => none)))))), (q1, .inr (4, [.ref (u1 0), .ref (u1 2), .ref (u1 3), .int (nI 1)])), ((u1 0), .inr (5, [.ref (u1 1), .int (nI 0)])), ((u1 1), .inl (K 0, 200, .inr (.inr (.inr (.inr (fun _ => none)))))), ((u1 2), .inl (K 0, 32, .inr (.inr (.inr (.inr (fun _ => none)))))), ((u1 3), .inl (K 0, 4, .inr (.inr (.inr (.inr (fun _ => none)))))), (q2, .inr (3, [.ref (u2 0), .ref (u2 2), .ref (u2 4), .int (nI 0), .int (nI 0), .int (nI 100), .int (nI 60), .ref (u2 6)])), ((u2 0), .inr (5, [.ref (u2 1), .int (nI 0)])), ((u2 1), .inl (K 0, 200, .inr (.inr (.inr (.inr (fun _ => none)))))), ((u2 2), .inr (5, [.ref (u2 3), .int (nI 0)])), ((u2 3), .inl (K 0, 200, .inr (.inr (.inr (.inr (fun _ => none)))))), ((u2 4), .inr (5, [.ref (u2 5), .int (nI 0)])), ((u2 5), .inl (K 0, 200, .inr (.inr (.inr (.inr (fun _ => none)))))), ((u2 6), .inl (K 1, 20, .inl (fun _ => nI 0))), (q3, .inr (6, [.int (nI 0), .int (nI 0), .int (nI 0), .int (nI 0)])), (q4, .inr (1, [.ref q0, .ref q1, .int (nI 0)])), (q5, .inr (8, [.ref q0, .ref q1, .ref (u5 0), .int (nI 0), .int (nI 0), .null])), ((u5 0), .inr (5, [.ref (u5 1), .int (nI 0)])), ((u5 1), .inl (K 0, 200, .inr (.inr (.inr (.inr (fun _ => none)))))), (q6, .inr (2, [.int (nI 2), .ref q0, .ref q1, .ref q2, .ref q3, .ref (u6 0), .int (nI 0), .int (nI 0), .int (nI 0)])), ((u6 0), .inr (5, [.ref (u6 1), .int (nI 0)])), ((u6 1), .inl (K 0, 200, .inr (.inr (.inr (.inr (fun _ => none)))))), (q7, .inr (0, [.ref q0, .ref q1, .ref q2, .ref q3, .ref q4, .ref q5]))]) rfl (fun H locs hP hD hS => ?_)
  exact e_v hx hb hr hlk hP hD hS (fun k => match k with | 0 => q0 | 1 => (u0 0) | 2 => q1 | 3 => (u1 0) | 4 => (u1 1) | 5 => (u1 2) | 6 => (u1 3) | 7 => q2 | 8 => (u2 0) | 9 => (u2 1) | 10 => (u2 2) | 11 => (u2 3) | 12 => (u2 4) | 13 => (u2 5) | 14 => (u2 6) | 15 => q3 | 16 => q4 | 17 => q5 | 18 => (u5 0) | 19 => (u5 1) | 20 => q6 | 21 => (u6 0) | 22 => (u6 1) | 23 => q7 | _ => 0) rfl (Nat.le_of_ble_eq_true rfl) (Nat.le_of_ble_eq_true rfl) dX9_init_148
set_option maxHeartbeats 4000000 in
set_option maxRecDepth 100000 in
theorem C9_init (l : Launch) (G : Nat → Nat) (D : va_G) (K : Nat → ClassId) (sz : Nat) (a0 : Nat) : CM l yJxa1e45_init_da8c8 cJxa1e45_init_da8c8 1 (none : Option FieldType) ({ frames := 1, cells := 0, slots := 0, locals := 20 } : Room) G D K [.ref a0] [] sz (CQv D (fun _ => [])) := by
  refine CM_of (lv0 := [(0, .ref a0)]) pn_RJxa1e45 (Nat.le_of_ble_eq_true rfl) rfl (fun p e s m args below meth c A ls hx hb hr hml hown hts hlk hnm hP hK hD hS hA hm hl => ?_)
  have hown : s.vm.findClass RJxa1e45 = some m.cls := hown
  refine lv_aload_n hx hb dJxa1e45_init_da8c8_0 rfl (lv_at hl 0 rfl) ?_
  refine r_oinit hx hb hts hown w_1139 w_44 w_45 hml hl.1 dJxa1e45_init_da8c8_1 (Nat.le_of_ble_eq_true rfl) (Nat.le_of_ble_eq_true rfl) ?_
  exact e_v hx hb hr hlk hP hD hS (fun _ => 0) rfl (Nat.le_of_ble_eq_true rfl) (Nat.le_of_ble_eq_true rfl) dJxa1e45_init_da8c8_4
set_option maxHeartbeats 4000000 in
set_option maxRecDepth 100000 in
theorem C10_init (l : Launch) (G : Nat → Nat) (D : va_G) (K : Nat → ClassId) (sz : Nat) (h0 : Nat) (v0 v1 v2 : Value) : CM l yJxc12de_init_da8c8 cJxc12de_init_da8c8 1 (none : Option FieldType) ({ frames := 2, cells := 0, slots := 0, locals := 40 } : Room) G D K [.ref h0] [(h0, .inr (13, [v0, v1, v2]))] sz (CQv D (fun _ => [(h0, .inr (13, [.int (nI 0), v1, v2]))])) := by
  refine CM_of (lv0 := [(0, .ref h0)]) pn_RJxc12de (Nat.le_of_ble_eq_true rfl) rfl (fun p e s m args below meth c A ls hx hb hr hml hown hts hlk hnm hP hK hD hS hA hm hl => ?_)
  have hown : s.vm.findClass RJxc12de = some m.cls := hown
  refine lv_aload_n hx hb dJxc12de_init_da8c8_0 rfl (lv_at hl 0 rfl) ?_
  refine k_v (wr := [(h0, .inr (13, [v0, v1, v2]))]) (run_I (rest := []) hx hb hml hown hts hK hP hD hS hA hm (C9_init l G D K s.heap.size h0) [] rfl rfl mok_yJxa1e45_init_da8c8 w_1136 w_1137 rfl ⟨Nat.le_of_ble_eq_true rfl, Nat.le_of_ble_eq_true rfl⟩ rfl hl.1 rfl (Nat.le_of_ble_eq_true rfl) dJxc12de_init_da8c8_1 ⟨(Nat.le_of_ble_eq_true rfl), (Nat.le_of_ble_eq_true rfl)⟩) hP hD hS hA [] [0] rfl rfl rfl (by decide) (w2 := fun u0 => [(h0, .inr (13, [v0, v1, v2]))]) (fun _ => rfl) (fun u0 H locs hP hD hS => ?_)
  refine lv_aload_n hx hb dJxc12de_init_da8c8_4 rfl (lv_at hl 0 rfl) ?_
  refine lv_iconst (v := nI 0) hx hb dJxc12de_init_da8c8_5 (by decide +kernel) ?_
  refine r_put hx hb hts ok_RJx4a65c hown hK hP hD hS 0 rfl rfl 0 (by decide) w_1146 (fun _ h9 => h9) rfl (v := .int (nI 0)) rfl rfl (Nat.le_of_ble_eq_true rfl) dJxc12de_init_da8c8_6 (ws' := [(h0, .inr (13, [.int (nI 0), v1, v2]))]) rfl (fun H locs hP hD hS => ?_)
  exact e_v hx hb hr hlk hP hD hS (fun _ => 0) rfl (Nat.le_of_ble_eq_true rfl) (Nat.le_of_ble_eq_true rfl) dJxc12de_init_da8c8_9
set_option maxHeartbeats 4000000 in
set_option maxRecDepth 100000 in
theorem C11_init (l : Launch) (G : Nat → Nat) (D : va_G) (K : Nat → ClassId) (sz : Nat) (h0 : Nat) (v0 v1 v2 : Value) : CM l yJx4a65c_init_da8c8 cJx4a65c_init_da8c8 1 (none : Option FieldType) ({ frames := 3, cells := 0, slots := 0, locals := 60 } : Room) G D K [.ref h0] [(h0, .inr (13, [v0, v1, v2]))] sz (CQv D (fun _ => [(h0, .inr (13, [.int (nI 0), .ref (G 0), v2]))])) := by
  refine CM_of (lv0 := [(0, .ref h0)]) pn_RJx4a65c (Nat.le_of_ble_eq_true rfl) rfl (fun p e s m args below meth c A ls hx hb hr hml hown hts hlk hnm hP hK hD hS hA hm hl => ?_)
  have hown : s.vm.findClass RJx4a65c = some m.cls := hown
  refine lv_aload_n hx hb dJx4a65c_init_da8c8_0 rfl (lv_at hl 0 rfl) ?_
  refine k_v (wr := []) (run_I (rest := []) hx hb hml hown hts hK hP hD hS hA hm (C10_init l G D K s.heap.size h0 (v0) (v1) (v2)) [0] rfl rfl mok_yJxc12de_init_da8c8 w_1133 w_1134 rfl ⟨Nat.le_of_ble_eq_true rfl, Nat.le_of_ble_eq_true rfl⟩ rfl hl.1 rfl (Nat.le_of_ble_eq_true rfl) dJx4a65c_init_da8c8_1 ⟨(Nat.le_of_ble_eq_true rfl), (Nat.le_of_ble_eq_true rfl)⟩) hP hD hS hA [0] [] rfl rfl rfl (by decide) (w2 := fun u0 => [(h0, .inr (13, [.int (nI 0), v1, v2]))]) (fun _ => rfl) (fun u0 H locs hP hD hS => ?_)
  refine lv_aload_n hx hb dJx4a65c_init_da8c8_4 rfl (lv_at hl 0 rfl) ?_
  refine va_gets hx hb hm.2.2.2.2.1.1 hS hown (hts _ w_1140) (fun _ h9 => h9) dJx4a65c_init_da8c8_5 ?_
  refine r_put hx hb hts ok_RJx4a65c hown hK hP hD hS 0 rfl rfl 1 (by decide) w_1142 (fun _ h9 => h9) rfl (v := .ref (G 0)) rfl rfl (Nat.le_of_ble_eq_true rfl) dJx4a65c_init_da8c8_8 (ws' := [(h0, .inr (13, [.int (nI 0), .ref (G 0), v2]))]) rfl (fun H locs hP hD hS => ?_)
  exact e_v hx hb hr hlk hP hD hS (fun _ => 0) rfl (Nat.le_of_ble_eq_true rfl) (Nat.le_of_ble_eq_true rfl) dJx4a65c_init_da8c8_11
set_option maxHeartbeats 4000000 in
set_option maxRecDepth 100000 in
theorem C12_frame (l : Launch) (G : Nat → Nat) (D : va_G) (K : Nat → ClassId) (sz : Nat) : CM l yX10_frame cX10_frame 0 (some (FieldType.array FieldType.int)) ({ frames := 0, cells := 1, slots := 4, locals := 0 } : Room) G D K [] [] sz (CQq (fun u => (some (u 0))) D (fun u => [((u 0), .inl (K 2, 4, .inl (fun _ => (-1))))])) := by
  refine CM_of (lv0 := []) pn_RX10 (Nat.le_of_ble_eq_true rfl) rfl (fun p e s m args below meth c A ls hx hb hr hml hown hts hlk hnm hP hK hD hS hA hm hl => ?_)
  have hown : s.vm.findClass RX10 = some m.cls := hown
  refine lv_iconst (v := nI 4) hx hb dX10_frame_0 (by decide +kernel) ?_
  refine r_newa (atype := .int) hx hb hts w_1292 rfl hK hP hD hS hA 2 rfl (N := 4) (a0 := (4, .inl (fun _ => nI 0))) (fun _ => rfl) (by decide +kernel) (by decide +kernel) (by decide) (Nat.le_of_ble_eq_true rfl) (Nat.le_of_ble_eq_true rfl) dX10_frame_1 (w2 := fun q0 => [(q0, .inl (K 2, 4, .inl (fun _ => nI 0)))]) (fun _ => rfl) (fun q0 H hP hD hS => ?_)
  refine lv_dup hx hb dX10_frame_3 rfl ?_
  refine lv_iconst (v := nI 0) hx hb dX10_frame_4 (by decide +kernel) ?_
  refine lv_iconst (v := (-1)) hx hb dX10_frame_5 (by decide +kernel) ?_
  refine r_iast (k := 0) hx hb hK hP hD hS 0 2 rfl rfl (Nat.le_of_ble_eq_true rfl) (by decide) dX10_frame_6 (ws' := [(q0, .inl (K 2, 4, .inl (upd (fun _ => nI 0) 0 (-1))))]) rfl (fun H locs hP hD hS => ?_)
  refine lv_dup hx hb dX10_frame_7 rfl ?_
  refine lv_iconst (v := nI 1) hx hb dX10_frame_8 (by decide +kernel) ?_
  refine lv_iconst (v := (-1)) hx hb dX10_frame_9 (by decide +kernel) ?_
  refine r_iast (k := 1) hx hb hK hP hD hS 0 2 rfl rfl (Nat.le_of_ble_eq_true rfl) (by decide) dX10_frame_10 (ws' := [(q0, .inl (K 2, 4, .inl (upd (upd (fun _ => nI 0) 0 (-1)) 1 (-1))))]) rfl (fun H locs hP hD hS => ?_)
  refine lv_dup hx hb dX10_frame_11 rfl ?_
  refine lv_iconst (v := nI 2) hx hb dX10_frame_12 (by decide +kernel) ?_
  refine lv_iconst (v := (-1)) hx hb dX10_frame_13 (by decide +kernel) ?_
  refine r_iast (k := 2) hx hb hK hP hD hS 0 2 rfl rfl (Nat.le_of_ble_eq_true rfl) (by decide) dX10_frame_14 (ws' := [(q0, .inl (K 2, 4, .inl (upd (upd (upd (fun _ => nI 0) 0 (-1)) 1 (-1)) 2 (-1))))]) rfl (fun H locs hP hD hS => ?_)
  refine lv_dup hx hb dX10_frame_15 rfl ?_
  refine lv_iconst (v := nI 3) hx hb dX10_frame_16 (by decide +kernel) ?_
  refine lv_iconst (v := (-1)) hx hb dX10_frame_17 (by decide +kernel) ?_
  refine r_iast (k := 3) hx hb hK hP hD hS 0 2 rfl rfl (Nat.le_of_ble_eq_true rfl) (by decide) dX10_frame_18 (ws' := [(q0, .inl (K 2, 4, .inl (upd (upd (upd (upd (fun _ => nI 0) 0 (-1)) 1 (-1)) 2 (-1)) 3 (-1))))]) rfl (fun H locs hP hD hS => ?_)
  obtain ⟨hP, hD⟩ := nrm (g := fun _ => (-1)) (ws' := [(q0, .inl (K 2, 4, .inl (fun _ => (-1))))]) hP hD 0 rfl (fun j hj => by rcases (show j = 0 ∨ j = 1 ∨ j = 2 ∨ j = 3 by omega) with rfl | rfl | rfl | rfl <;> rfl) rfl
  exact e_q hx hb hr (Or.inr ⟨_, rfl⟩) hlk hP hD hS (fun k => match k with | 0 => q0 | _ => 0) rfl (Nat.le_of_ble_eq_true rfl) (Nat.le_of_ble_eq_true rfl) (v := .ref q0) (r := fun u => (some (u 0))) rfl dX10_frame_19
set_option maxHeartbeats 4000000 in
set_option maxRecDepth 100000 in
theorem C13_grow (l : Launch) (G : Nat → Nat) (D : va_G) (K : Nat → ClassId) (sz : Nat) (h0 : Nat) (v0 v1 : Value) : CM l yJx4a65c_grow_92f84 cJx4a65c_grow_92f84 4 (some (FieldType.array (FieldType.object "java/lang/Object"))) ({ frames := 1, cells := 1, slots := 10, locals := 21 } : Room) G D K [.ref h0, .int (nI 1)] [(h0, .inr (13, [v0, .ref (G 0), v1]))] sz (CQq (fun u => (some (u 0))) D (fun u => [(h0, .inr (13, [v0, .ref (u 0), v1])), ((u 0), .inl (K 4, 10, .inr (.inr (.inr (.inr (fun _ => none))))))])) := by
  refine CM_of (lv0 := [(0, .ref h0), (1, .int (nI 1))]) pn_RJx4a65c (Nat.le_of_ble_eq_true rfl) rfl (fun p e s m args below meth c A ls hx hb hr hml hown hts hlk hnm hP hK hD hS hA hm hl => ?_)
  have hown : s.vm.findClass RJx4a65c = some m.cls := hown
  refine lv_aload_n hx hb dJx4a65c_grow_92f84_0 rfl (lv_at hl 0 rfl) ?_
  refine r_get hx hb hts ok_RJx4a65c hown hK hP 0 rfl rfl 1 (by decide) w_1142 (fun _ h9 => h9) rfl dJx4a65c_grow_92f84_1 ?_
  refine va_tlen (v := nI 0) hx hb hm.2.2.2.2.1.2.1 hS rfl dJx4a65c_grow_92f84_4 ?_
  refine lv_istore_n (lv' := [(2, .int (nI 0)), (0, .ref h0), (1, .int (nI 1))]) hx hb dJx4a65c_grow_92f84_5 rfl hl (by decide) rfl (fun ls hl => ?_)
  refine lv_iload_n hx hb dJx4a65c_grow_92f84_6 rfl (lv_at hl 0 rfl) ?_
  refine lv_if_gt (tgt := 20) hx hb dJx4a65c_grow_92f84_7 (by decide) (fun c9 => absurd c9 (by decide +kernel)) (fun _ => ?_)
  refine lv_aload_n hx hb dJx4a65c_grow_92f84_10 rfl (lv_at hl 1 rfl) ?_
  refine r_get hx hb hts ok_RJx4a65c hown hK hP 0 rfl rfl 1 (by decide) w_1142 (fun _ h9 => h9) rfl dJx4a65c_grow_92f84_11 ?_
  refine va_gets hx hb hm.2.2.2.2.1.1 hS hown (hts _ w_1140) (fun _ h9 => h9) dJx4a65c_grow_92f84_14 ?_
  refine lv_acmp_eq (rx := (some (G 0))) (ry := (some (G 0))) (tgt := 45) hx hb dJx4a65c_grow_92f84_17 (by decide) (fun _ => ?_) (fun c9 => absurd rfl c9)
  refine lv_aload_n hx hb dJx4a65c_grow_92f84_45 rfl (lv_at hl 1 rfl) ?_
  refine lv_bipush (v := nI 10) hx hb dJx4a65c_grow_92f84_46 (by decide +kernel) ?_
  refine lv_iload_n hx hb dJx4a65c_grow_92f84_48 rfl (lv_at hl 2 rfl) ?_
  refine va_mmax hx hb (hml.trans hl.1.symm) hown (hts _ w_1222) (hts _ w_426) (hts _ w_16) (hts _ w_427) (Nat.le_of_ble_eq_true rfl) (Nat.le_of_ble_eq_true rfl) (Nat.le_of_ble_eq_true rfl) (Nat.le_of_ble_eq_true rfl) dJx4a65c_grow_92f84_49 ?_
  refine w_toeq (show (if (nI 10) < (nI 1) then (nI 1) else (nI 10)) = nI 10 by decide +kernel) ?_
  refine r_newq hx hb hts hown w_1223 hm.2.2.1.2 hK hP hD hS hA 4 rfl (N := 10) (by decide +kernel) (by decide +kernel) (Nat.le_of_ble_eq_true rfl) (Nat.le_of_ble_eq_true rfl) (Nat.le_of_ble_eq_true rfl) dJx4a65c_grow_92f84_52 (w2 := fun q0 => [(h0, .inr (13, [v0, .ref (G 0), v1])), (q0, .inl (K 4, 10, .inr (.inr (.inr (.inr (fun _ => none))))))]) (fun _ => rfl) (fun q0 H hP hD hS => ?_)
  refine lv_dup_x1 hx hb dJx4a65c_grow_92f84_55 rfl rfl ?_
  refine r_put hx hb hts ok_RJx4a65c hown hK hP hD hS 0 rfl rfl 1 (by decide) w_1142 (fun _ h9 => h9) rfl (v := .ref q0) rfl rfl (Nat.le_of_ble_eq_true rfl) dJx4a65c_grow_92f84_56 (ws' := [(h0, .inr (13, [v0, .ref q0, v1])), (q0, .inl (K 4, 10, .inr (.inr (.inr (.inr (fun _ => none))))))]) rfl (fun H locs hP hD hS => ?_)
  exact e_q hx hb hr (Or.inr ⟨_, rfl⟩) hlk hP hD hS (fun k => match k with | 0 => q0 | _ => 0) rfl (Nat.le_of_ble_eq_true rfl) (Nat.le_of_ble_eq_true rfl) (v := .ref q0) (r := fun u => (some (u 0))) rfl dJx4a65c_grow_92f84_59
set_option maxHeartbeats 4000000 in
set_option maxRecDepth 100000 in
theorem C14_grow (l : Launch) (G : Nat → Nat) (D : va_G) (K : Nat → ClassId) (sz : Nat) (h0 : Nat) (v0 : Value) : CM l yJx4a65c_grow_d5877 cJx4a65c_grow_d5877 1 (some (FieldType.array (FieldType.object "java/lang/Object"))) ({ frames := 2, cells := 1, slots := 10, locals := 44 } : Room) G D K [.ref h0] [(h0, .inr (13, [v0, .ref (G 0), .int (nI 0)]))] sz (CQq (fun u => (some (u 0))) D (fun u => [(h0, .inr (13, [v0, .ref (u 0), .int (nI 0)])), ((u 0), .inl (K 4, 10, .inr (.inr (.inr (.inr (fun _ => none))))))])) := by
  refine CM_of (lv0 := [(0, .ref h0)]) pn_RJx4a65c (Nat.le_of_ble_eq_true rfl) rfl (fun p e s m args below meth c A ls hx hb hr hml hown hts hlk hnm hP hK hD hS hA hm hl => ?_)
  have hown : s.vm.findClass RJx4a65c = some m.cls := hown
  refine lv_aload_n hx hb dJx4a65c_grow_d5877_0 rfl (lv_at hl 0 rfl) ?_
  refine lv_aload_n hx hb dJx4a65c_grow_d5877_1 rfl (lv_at hl 0 rfl) ?_
  refine r_get hx hb hts ok_RJx4a65c hown hK hP 0 rfl rfl 2 (by decide) w_1145 (fun _ h9 => h9) rfl dJx4a65c_grow_d5877_2 ?_
  refine lv_iconst (v := nI 1) hx hb dJx4a65c_grow_d5877_5 (by decide +kernel) ?_
  refine lv_iadd hx hb dJx4a65c_grow_d5877_6 ?_
  refine w_toeq (show (nI 0) + (nI 1) = nI 1 by decide +kernel) ?_
  refine k_q (wr := []) (run_V (rest := []) hx hb hml hown hts hK hP hD hS hA hm (C13_grow l G D K s.heap.size h0 (v0) (.int (nI 0))) [0] rfl rfl mok_yJx4a65c_grow_92f84 w_1172 w_1174 w_p29 (rcv hK hP 0 rfl rfl rfl) ⟨Nat.le_of_ble_eq_true rfl, Nat.le_of_ble_eq_true rfl⟩ rfl hl.1 rfl (Nat.le_of_ble_eq_true rfl) dJx4a65c_grow_d5877_7 ⟨(Nat.le_of_ble_eq_true rfl), (Nat.le_of_ble_eq_true rfl)⟩) hP hD hS hA [0] [] rfl rfl rfl (by decide) (w2 := fun u0 => [(h0, .inr (13, [v0, .ref (u0 0), .int (nI 0)])), ((u0 0), .inl (K 4, 10, .inr (.inr (.inr (.inr (fun _ => none))))))]) (fun _ => rfl) (fun u0 H locs hP hD hS => ?_)
  refine w_tov (y := .ref (u0 0)) rfl ?_
  exact e_q hx hb hr (Or.inr ⟨_, rfl⟩) hlk hP hD hS (fun k => match k with | 0 => (u0 0) | _ => 0) rfl (Nat.le_of_ble_eq_true rfl) (Nat.le_of_ble_eq_true rfl) (v := .ref (u0 0)) (r := fun u => (some (u 0))) rfl dJx4a65c_grow_d5877_10
set_option maxHeartbeats 4000000 in
set_option maxRecDepth 100000 in
theorem C15_add (l : Launch) (G : Nat → Nat) (D : va_G) (K : Nat → ClassId) (sz : Nat) (h0 h1 : Nat) (v0 : Value) (f0 : Nat → Int32) : CM l yJx4a65c_add_72be8 cJx4a65c_add_72be8 4 (none : Option FieldType) ({ frames := 3, cells := 1, slots := 10, locals := 64 } : Room) G D K [.ref h0, .ref h1, .ref (G 0), .int (nI 0)] [(h0, .inr (13, [v0, .ref (G 0), .int (nI 0)])), (h1, .inl (K 2, 4, .inl f0))] sz (CQv D (fun u => [(h1, .inl (K 2, 4, .inl f0)), (h0, .inr (13, [v0, .ref (u 0), .int (nI 1)])), ((u 0), .inl (K 4, 10, .inr (.inr (.inr (.inr (va_up (fun _ => none) 0 (some h1)))))))])) := by
  refine CM_of (lv0 := [(0, .ref h0), (1, .ref h1), (2, .ref (G 0)), (3, .int (nI 0))]) pn_RJx4a65c (Nat.le_of_ble_eq_true rfl) rfl (fun p e s m args below meth c A ls hx hb hr hml hown hts hlk hnm hP hK hD hS hA hm hl => ?_)
  have hown : s.vm.findClass RJx4a65c = some m.cls := hown
  refine lv_iload_n hx hb dJx4a65c_add_72be8_0 rfl (lv_at hl 3 rfl) ?_
  refine lv_aload_n hx hb dJx4a65c_add_72be8_1 rfl (lv_at hl 2 rfl) ?_
  refine va_tlen (v := nI 0) hx hb hm.2.2.2.2.1.2.1 hS rfl dJx4a65c_add_72be8_2 ?_
  refine lv_icmp_ne (tgt := 11) hx hb dJx4a65c_add_72be8_3 (by decide) (fun c9 => absurd (by decide +kernel) c9) (fun _ => ?_)
  refine lv_aload_n hx hb dJx4a65c_add_72be8_6 rfl (lv_at hl 0 rfl) ?_
  refine k_q (wr := [(h1, .inl (K 2, 4, .inl f0))]) (run_V (rest := []) hx hb hml hown hts hK hP hD hS hA hm (C14_grow l G D K s.heap.size h0 (v0)) [0] rfl rfl mok_yJx4a65c_grow_d5877 w_1168 w_1170 w_p28 (rcv hK hP 0 rfl rfl rfl) ⟨Nat.le_of_ble_eq_true rfl, Nat.le_of_ble_eq_true rfl⟩ rfl hl.1 rfl (Nat.le_of_ble_eq_true rfl) dJx4a65c_add_72be8_7 ⟨(Nat.le_of_ble_eq_true rfl), (Nat.le_of_ble_eq_true rfl)⟩) hP hD hS hA [0] [1] rfl rfl rfl (by decide) (w2 := fun u0 => [(h1, .inl (K 2, 4, .inl f0)), (h0, .inr (13, [v0, .ref (u0 0), .int (nI 0)])), ((u0 0), .inl (K 4, 10, .inr (.inr (.inr (.inr (fun _ => none))))))]) (fun _ => rfl) (fun u0 H locs hP hD hS => ?_)
  refine w_tov (y := .ref (u0 0)) rfl ?_
  refine lv_astore_n (lv' := [(2, .ref (u0 0)), (0, .ref h0), (1, .ref h1), (3, .int (nI 0))]) hx hb dJx4a65c_add_72be8_10 rfl hl (by decide) rfl (fun ls hl => ?_)
  refine lv_aload_n hx hb dJx4a65c_add_72be8_11 rfl (lv_at hl 0 rfl) ?_
  refine lv_iload_n hx hb dJx4a65c_add_72be8_12 rfl (lv_at hl 3 rfl) ?_
  refine lv_aload_n hx hb dJx4a65c_add_72be8_13 rfl (lv_at hl 2 rfl) ?_
  refine r_aast (k := 0) hx hb hK hP hD hS 2 4 rfl rfl (any_of hm (rcvA hK hP 0 rfl (nm_int hK)) w_2152) (Nat.le_of_ble_eq_true rfl) (by decide) dJx4a65c_add_72be8_14 (ws' := [(h1, .inl (K 2, 4, .inl f0)), (h0, .inr (13, [v0, .ref (u0 0), .int (nI 0)])), ((u0 0), .inl (K 4, 10, .inr (.inr (.inr (.inr (va_up (fun _ => none) 0 (some h1)))))))]) rfl (fun H locs hP hD hS => ?_)
  refine lv_aload_n hx hb dJx4a65c_add_72be8_15 rfl (lv_at hl 1 rfl) ?_
  refine lv_iload_n hx hb dJx4a65c_add_72be8_16 rfl (lv_at hl 3 rfl) ?_
  refine lv_iconst (v := nI 1) hx hb dJx4a65c_add_72be8_17 (by decide +kernel) ?_
  refine lv_iadd hx hb dJx4a65c_add_72be8_18 ?_
  refine w_toeq (show (nI 0) + (nI 1) = nI 1 by decide +kernel) ?_
  refine r_put hx hb hts ok_RJx4a65c hown hK hP hD hS 1 rfl rfl 2 (by decide) w_1145 (fun _ h9 => h9) rfl (v := .int (nI 1)) rfl rfl (Nat.le_of_ble_eq_true rfl) dJx4a65c_add_72be8_19 (ws' := [(h1, .inl (K 2, 4, .inl f0)), (h0, .inr (13, [v0, .ref (u0 0), .int (nI 1)])), ((u0 0), .inl (K 4, 10, .inr (.inr (.inr (.inr (va_up (fun _ => none) 0 (some h1)))))))]) rfl (fun H locs hP hD hS => ?_)
  exact e_v hx hb hr hlk hP hD hS (fun k => match k with | 0 => (u0 0) | _ => 0) rfl (Nat.le_of_ble_eq_true rfl) (Nat.le_of_ble_eq_true rfl) dJx4a65c_add_72be8_22
set_option maxHeartbeats 4000000 in
set_option maxRecDepth 100000 in
theorem C16_add (l : Launch) (G : Nat → Nat) (D : va_G) (K : Nat → ClassId) (sz : Nat) (h0 h1 : Nat) (f0 : Nat → Int32) : CM l yJx4a65c_add_9ea2d cJx4a65c_add_9ea2d 2 (some FieldType.boolean) ({ frames := 4, cells := 1, slots := 10, locals := 87 } : Room) G D K [.ref h0, .ref h1] [(h0, .inr (13, [.int (nI 0), .ref (G 0), .int (nI 0)])), (h1, .inl (K 2, 4, .inl f0))] sz (CQi (nI 1) D (fun u => [(h1, .inl (K 2, 4, .inl f0)), (h0, .inr (13, [.int (nI 1), .ref (u 0), .int (nI 1)])), ((u 0), .inl (K 4, 10, .inr (.inr (.inr (.inr (va_up (fun _ => none) 0 (some h1)))))))])) := by
  refine CM_of (lv0 := [(0, .ref h0), (1, .ref h1)]) pn_RJx4a65c (Nat.le_of_ble_eq_true rfl) rfl (fun p e s m args below meth c A ls hx hb hr hml hown hts hlk hnm hP hK hD hS hA hm hl => ?_)
  have hown : s.vm.findClass RJx4a65c = some m.cls := hown
  refine lv_aload_n hx hb dJx4a65c_add_9ea2d_0 rfl (lv_at hl 0 rfl) ?_
  refine lv_dup hx hb dJx4a65c_add_9ea2d_1 rfl ?_
  refine r_get hx hb hts ok_RJx4a65c hown hK hP 0 rfl rfl 0 (by decide) w_1149 (fun x9 h9 => u_same (hts _ w_1148) x9 h9) rfl dJx4a65c_add_9ea2d_2 ?_
  refine lv_iconst (v := nI 1) hx hb dJx4a65c_add_9ea2d_5 (by decide +kernel) ?_
  refine lv_iadd hx hb dJx4a65c_add_9ea2d_6 ?_
  refine w_toeq (show (nI 0) + (nI 1) = nI 1 by decide +kernel) ?_
  refine r_put hx hb hts ok_RJx4a65c hown hK hP hD hS 0 rfl rfl 0 (by decide) w_1149 (fun x9 h9 => u_same (hts _ w_1148) x9 h9) rfl (v := .int (nI 1)) rfl rfl (Nat.le_of_ble_eq_true rfl) dJx4a65c_add_9ea2d_7 (ws' := [(h0, .inr (13, [.int (nI 1), .ref (G 0), .int (nI 0)])), (h1, .inl (K 2, 4, .inl f0))]) rfl (fun H locs hP hD hS => ?_)
  refine lv_aload_n hx hb dJx4a65c_add_9ea2d_10 rfl (lv_at hl 0 rfl) ?_
  refine lv_aload_n hx hb dJx4a65c_add_9ea2d_11 rfl (lv_at hl 1 rfl) ?_
  refine lv_aload_n hx hb dJx4a65c_add_9ea2d_12 rfl (lv_at hl 0 rfl) ?_
  refine r_get hx hb hts ok_RJx4a65c hown hK hP 0 rfl rfl 1 (by decide) w_1142 (fun _ h9 => h9) rfl dJx4a65c_add_9ea2d_13 ?_
  refine lv_aload_n hx hb dJx4a65c_add_9ea2d_16 rfl (lv_at hl 0 rfl) ?_
  refine r_get hx hb hts ok_RJx4a65c hown hK hP 0 rfl rfl 2 (by decide) w_1145 (fun _ h9 => h9) rfl dJx4a65c_add_9ea2d_17 ?_
  refine k_v (wr := []) (run_V (rest := []) hx hb hml hown hts hK hP hD hS hA hm (C15_add l G D K H.size h0 h1 (.int (nI 1)) f0) [0, 1] rfl rfl mok_yJx4a65c_add_72be8 w_1164 w_1166 w_p27 (rcv hK hP 0 rfl rfl rfl) ⟨Nat.le_of_ble_eq_true rfl, Nat.le_of_ble_eq_true rfl⟩ rfl hl.1 rfl (Nat.le_of_ble_eq_true rfl) dJx4a65c_add_9ea2d_20 ⟨(Nat.le_of_ble_eq_true rfl), (Nat.le_of_ble_eq_true rfl)⟩) hP hD hS hA [0, 1] [] rfl rfl rfl (by decide) (w2 := fun u0 => [(h1, .inl (K 2, 4, .inl f0)), (h0, .inr (13, [.int (nI 1), .ref (u0 0), .int (nI 1)])), ((u0 0), .inl (K 4, 10, .inr (.inr (.inr (.inr (va_up (fun _ => none) 0 (some h1)))))))]) (fun _ => rfl) (fun u0 H locs hP hD hS => ?_)
  refine lv_iconst (v := nI 1) hx hb dJx4a65c_add_9ea2d_23 (by decide +kernel) ?_
  exact e_z hx hb hr hlk hP hD hS (fun k => match k with | 0 => (u0 0) | _ => 0) rfl (Nat.le_of_ble_eq_true rfl) (Nat.le_of_ble_eq_true rfl) rfl (Or.inr rfl) dJx4a65c_add_9ea2d_24
set_option maxHeartbeats 4000000 in
set_option maxRecDepth 100000 in
theorem C17_init (l : Launch) (G : Nat → Nat) (D : va_G) (K : Nat → ClassId) (sz : Nat) (h0 : Nat) (v0 v1 v2 v3 v4 v5 v6 v7 v8 v9 v10 v11 v12 v13 v14 v15 : Value) : CM l yX10_init cX10_init 1 (none : Option FieldType) ({ frames := 5, cells := 7, slots := 47, locals := 108 } : Room) G D K [.ref h0] [(h0, .inr (10, [v0, .null, v1, v2, v3, v4, v5, v6, v7, v8, v9, v10, v11, v12, v13, v14, v15]))] sz (CQv D (fun u => [(h0, .inr (10, [.ref (u 0), .ref (u 1), .ref (u 2), .ref (u 3), .ref (u 4), v4, v5, .int (nI 60), v7, .int (nI 2), v9, v10, v11, v12, v13, v14, v15])), ((u 0), .inr (13, [.int (nI 0), .ref (G 0), .int (nI 0)])), ((u 2), .inl (K 2, 4, .inl (fun _ => (-1)))), ((u 3), .inr (13, [.int (nI 0), .ref (G 0), .int (nI 0)])), ((u 4), .inl (K 1, 20, .inl (fun _ => nI 0))), ((u 5), .inl (K 2, 4, .inl (fun _ => (-1)))), ((u 1), .inr (13, [.int (nI 1), .ref (u 6), .int (nI 1)])), ((u 6), .inl (K 4, 10, .inr (.inr (.inr (.inr (va_up (fun _ => none) 0 (some (u 5))))))))])) := by
  refine CM_of (lv0 := [(0, .ref h0)]) pn_RX10 (Nat.le_of_ble_eq_true rfl) rfl (fun p e s m args below meth c A ls hx hb hr hml hown hts hlk hnm hP hK hD hS hA hm hl => ?_)
  have hown : s.vm.findClass RX10 = some m.cls := hown
  refine lv_aload_n hx hb dX10_init_0 rfl (lv_at hl 0 rfl) ?_
  refine r_oinit hx hb hts hown w_1127 w_44 w_45 hml hl.1 dX10_init_1 (Nat.le_of_ble_eq_true rfl) (Nat.le_of_ble_eq_true rfl) ?_
  refine lv_aload_n hx hb dX10_init_4 rfl (lv_at hl 0 rfl) ?_
  refine r_new (ci := 13) (C := RJx4a65c) (T := TJx4a65c) (N := 3) hx hb hts ok_RJx4a65c hown w_1128 w_1129 w_14 hK hP hD hS hA rfl df_RJx4a65c (Nat.le_of_ble_eq_true rfl) (Nat.le_of_ble_eq_true rfl) dX10_init_5 (w2 := fun q0 => [(h0, .inr (10, [v0, .null, v1, v2, v3, v4, v5, v6, v7, v8, v9, v10, v11, v12, v13, v14, v15])), (q0, .inr (13, [.int (nI 0), .null, .int (nI 0)]))]) (fun _ => rfl) (fun q0 H hP hD hS => ?_)
  refine lv_dup hx hb dX10_init_8 rfl ?_
  refine k_v (wr := [(h0, .inr (10, [v0, .null, v1, v2, v3, v4, v5, v6, v7, v8, v9, v10, v11, v12, v13, v14, v15]))]) (run_I (rest := [.ref q0, .ref h0]) hx hb hml hown hts hK hP hD hS hA hm (C11_init l G D K H.size q0 (.int (nI 0)) (.null) (.int (nI 0))) [1] rfl rfl mok_yJx4a65c_init_da8c8 w_1130 w_1131 rfl ⟨Nat.le_of_ble_eq_true rfl, Nat.le_of_ble_eq_true rfl⟩ rfl hl.1 rfl (Nat.le_of_ble_eq_true rfl) dX10_init_9 ⟨(Nat.le_of_ble_eq_true rfl), (Nat.le_of_ble_eq_true rfl)⟩) hP hD hS hA [1] [0] rfl rfl rfl (by decide) (w2 := fun u0 => [(h0, .inr (10, [v0, .null, v1, v2, v3, v4, v5, v6, v7, v8, v9, v10, v11, v12, v13, v14, v15])), (q0, .inr (13, [.int (nI 0), .ref (G 0), .int (nI 0)]))]) (fun _ => rfl) (fun u0 H locs hP hD hS => ?_)
  refine r_putF hx hb hts ok_RX10 hown hK hP hD hS 0 rfl rfl 0 (by decide) w_1224 (fun _ h9 => h9) rfl hnm rfl (v := .ref q0) rfl rfl (Nat.le_of_ble_eq_true rfl) dX10_init_12 (ws' := [(h0, .inr (10, [.ref q0, .null, v1, v2, v3, v4, v5, v6, v7, v8, v9, v10, v11, v12, v13, v14, v15])), (q0, .inr (13, [.int (nI 0), .ref (G 0), .int (nI 0)]))]) rfl (fun H locs hP hD hS => ?_)
  refine lv_aload_n hx hb dX10_init_15 rfl (lv_at hl 0 rfl) ?_
  refine r_new (ci := 13) (C := RJx4a65c) (T := TJx4a65c) (N := 3) hx hb hts ok_RJx4a65c hown w_1128 w_1129 w_14 hK hP hD hS hA rfl df_RJx4a65c (Nat.le_of_ble_eq_true rfl) (Nat.le_of_ble_eq_true rfl) dX10_init_16 (w2 := fun q1 => [(h0, .inr (10, [.ref q0, .null, v1, v2, v3, v4, v5, v6, v7, v8, v9, v10, v11, v12, v13, v14, v15])), (q0, .inr (13, [.int (nI 0), .ref (G 0), .int (nI 0)])), (q1, .inr (13, [.int (nI 0), .null, .int (nI 0)]))]) (fun _ => rfl) (fun q1 H hP hD hS => ?_)
  refine lv_dup hx hb dX10_init_19 rfl ?_
  refine k_v (wr := [(h0, .inr (10, [.ref q0, .null, v1, v2, v3, v4, v5, v6, v7, v8, v9, v10, v11, v12, v13, v14, v15])), (q0, .inr (13, [.int (nI 0), .ref (G 0), .int (nI 0)]))]) (run_I (rest := [.ref q1, .ref h0]) hx hb hml hown hts hK hP hD hS hA hm (C11_init l G D K H.size q1 (.int (nI 0)) (.null) (.int (nI 0))) [2] rfl rfl mok_yJx4a65c_init_da8c8 w_1130 w_1131 rfl ⟨Nat.le_of_ble_eq_true rfl, Nat.le_of_ble_eq_true rfl⟩ rfl hl.1 rfl (Nat.le_of_ble_eq_true rfl) dX10_init_20 ⟨(Nat.le_of_ble_eq_true rfl), (Nat.le_of_ble_eq_true rfl)⟩) hP hD hS hA [2] [0, 1] rfl rfl rfl (by decide) (w2 := fun u1 => [(h0, .inr (10, [.ref q0, .null, v1, v2, v3, v4, v5, v6, v7, v8, v9, v10, v11, v12, v13, v14, v15])), (q0, .inr (13, [.int (nI 0), .ref (G 0), .int (nI 0)])), (q1, .inr (13, [.int (nI 0), .ref (G 0), .int (nI 0)]))]) (fun _ => rfl) (fun u1 H locs hP hD hS => ?_)
  refine r_putF hx hb hts ok_RX10 hown hK hP hD hS 0 rfl rfl 1 (by decide) w_1226 (fun _ h9 => h9) rfl hnm rfl (v := .ref q1) rfl rfl (Nat.le_of_ble_eq_true rfl) dX10_init_23 (ws' := [(h0, .inr (10, [.ref q0, .ref q1, v1, v2, v3, v4, v5, v6, v7, v8, v9, v10, v11, v12, v13, v14, v15])), (q0, .inr (13, [.int (nI 0), .ref (G 0), .int (nI 0)])), (q1, .inr (13, [.int (nI 0), .ref (G 0), .int (nI 0)]))]) rfl (fun H locs hP hD hS => ?_)
  refine lv_aload_n hx hb dX10_init_26 rfl (lv_at hl 0 rfl) ?_
  refine lv_iconst (v := nI 4) hx hb dX10_init_27 (by decide +kernel) ?_
  refine r_newa (atype := .int) hx hb hts w_1292 rfl hK hP hD hS hA 2 rfl (N := 4) (a0 := (4, .inl (fun _ => nI 0))) (fun _ => rfl) (by decide +kernel) (by decide +kernel) (by decide) (Nat.le_of_ble_eq_true rfl) (Nat.le_of_ble_eq_true rfl) dX10_init_28 (w2 := fun q2 => [(h0, .inr (10, [.ref q0, .ref q1, v1, v2, v3, v4, v5, v6, v7, v8, v9, v10, v11, v12, v13, v14, v15])), (q0, .inr (13, [.int (nI 0), .ref (G 0), .int (nI 0)])), (q1, .inr (13, [.int (nI 0), .ref (G 0), .int (nI 0)])), (q2, .inl (K 2, 4, .inl (fun _ => nI 0)))]) (fun _ => rfl) (fun q2 H hP hD hS => ?_)
  refine lv_dup hx hb dX10_init_30 rfl ?_
  refine lv_iconst (v := nI 0) hx hb dX10_init_31 (by decide +kernel) ?_
  refine lv_iconst (v := (-1)) hx hb dX10_init_32 (by decide +kernel) ?_
  refine r_iast (k := 0) hx hb hK hP hD hS 3 2 rfl rfl (Nat.le_of_ble_eq_true rfl) (by decide) dX10_init_33 (ws' := [(h0, .inr (10, [.ref q0, .ref q1, v1, v2, v3, v4, v5, v6, v7, v8, v9, v10, v11, v12, v13, v14, v15])), (q0, .inr (13, [.int (nI 0), .ref (G 0), .int (nI 0)])), (q1, .inr (13, [.int (nI 0), .ref (G 0), .int (nI 0)])), (q2, .inl (K 2, 4, .inl (upd (fun _ => nI 0) 0 (-1))))]) rfl (fun H locs hP hD hS => ?_)
  refine lv_dup hx hb dX10_init_34 rfl ?_
  refine lv_iconst (v := nI 1) hx hb dX10_init_35 (by decide +kernel) ?_
  refine lv_iconst (v := (-1)) hx hb dX10_init_36 (by decide +kernel) ?_
  refine r_iast (k := 1) hx hb hK hP hD hS 3 2 rfl rfl (Nat.le_of_ble_eq_true rfl) (by decide) dX10_init_37 (ws' := [(h0, .inr (10, [.ref q0, .ref q1, v1, v2, v3, v4, v5, v6, v7, v8, v9, v10, v11, v12, v13, v14, v15])), (q0, .inr (13, [.int (nI 0), .ref (G 0), .int (nI 0)])), (q1, .inr (13, [.int (nI 0), .ref (G 0), .int (nI 0)])), (q2, .inl (K 2, 4, .inl (upd (upd (fun _ => nI 0) 0 (-1)) 1 (-1))))]) rfl (fun H locs hP hD hS => ?_)
  refine lv_dup hx hb dX10_init_38 rfl ?_
  refine lv_iconst (v := nI 2) hx hb dX10_init_39 (by decide +kernel) ?_
  refine lv_iconst (v := (-1)) hx hb dX10_init_40 (by decide +kernel) ?_
  refine r_iast (k := 2) hx hb hK hP hD hS 3 2 rfl rfl (Nat.le_of_ble_eq_true rfl) (by decide) dX10_init_41 (ws' := [(h0, .inr (10, [.ref q0, .ref q1, v1, v2, v3, v4, v5, v6, v7, v8, v9, v10, v11, v12, v13, v14, v15])), (q0, .inr (13, [.int (nI 0), .ref (G 0), .int (nI 0)])), (q1, .inr (13, [.int (nI 0), .ref (G 0), .int (nI 0)])), (q2, .inl (K 2, 4, .inl (upd (upd (upd (fun _ => nI 0) 0 (-1)) 1 (-1)) 2 (-1))))]) rfl (fun H locs hP hD hS => ?_)
  refine lv_dup hx hb dX10_init_42 rfl ?_
  refine lv_iconst (v := nI 3) hx hb dX10_init_43 (by decide +kernel) ?_
  refine lv_iconst (v := (-1)) hx hb dX10_init_44 (by decide +kernel) ?_
  refine r_iast (k := 3) hx hb hK hP hD hS 3 2 rfl rfl (Nat.le_of_ble_eq_true rfl) (by decide) dX10_init_45 (ws' := [(h0, .inr (10, [.ref q0, .ref q1, v1, v2, v3, v4, v5, v6, v7, v8, v9, v10, v11, v12, v13, v14, v15])), (q0, .inr (13, [.int (nI 0), .ref (G 0), .int (nI 0)])), (q1, .inr (13, [.int (nI 0), .ref (G 0), .int (nI 0)])), (q2, .inl (K 2, 4, .inl (upd (upd (upd (upd (fun _ => nI 0) 0 (-1)) 1 (-1)) 2 (-1)) 3 (-1))))]) rfl (fun H locs hP hD hS => ?_)
  obtain ⟨hP, hD⟩ := nrm (g := fun _ => (-1)) (ws' := [(h0, .inr (10, [.ref q0, .ref q1, v1, v2, v3, v4, v5, v6, v7, v8, v9, v10, v11, v12, v13, v14, v15])), (q0, .inr (13, [.int (nI 0), .ref (G 0), .int (nI 0)])), (q1, .inr (13, [.int (nI 0), .ref (G 0), .int (nI 0)])), (q2, .inl (K 2, 4, .inl (fun _ => (-1))))]) hP hD 3 rfl (fun j hj => by rcases (show j = 0 ∨ j = 1 ∨ j = 2 ∨ j = 3 by omega) with rfl | rfl | rfl | rfl <;> rfl) rfl
  refine r_putF hx hb hts ok_RX10 hown hK hP hD hS 0 rfl rfl 2 (by decide) w_1228 (fun _ h9 => h9) rfl hnm rfl (v := .ref q2) rfl rfl (Nat.le_of_ble_eq_true rfl) dX10_init_46 (ws' := [(h0, .inr (10, [.ref q0, .ref q1, .ref q2, v2, v3, v4, v5, v6, v7, v8, v9, v10, v11, v12, v13, v14, v15])), (q0, .inr (13, [.int (nI 0), .ref (G 0), .int (nI 0)])), (q1, .inr (13, [.int (nI 0), .ref (G 0), .int (nI 0)])), (q2, .inl (K 2, 4, .inl (fun _ => (-1))))]) rfl (fun H locs hP hD hS => ?_)
  refine lv_aload_n hx hb dX10_init_49 rfl (lv_at hl 0 rfl) ?_
  refine r_new (ci := 13) (C := RJx4a65c) (T := TJx4a65c) (N := 3) hx hb hts ok_RJx4a65c hown w_1128 w_1129 w_14 hK hP hD hS hA rfl df_RJx4a65c (Nat.le_of_ble_eq_true rfl) (Nat.le_of_ble_eq_true rfl) dX10_init_50 (w2 := fun q3 => [(h0, .inr (10, [.ref q0, .ref q1, .ref q2, v2, v3, v4, v5, v6, v7, v8, v9, v10, v11, v12, v13, v14, v15])), (q0, .inr (13, [.int (nI 0), .ref (G 0), .int (nI 0)])), (q1, .inr (13, [.int (nI 0), .ref (G 0), .int (nI 0)])), (q2, .inl (K 2, 4, .inl (fun _ => (-1)))), (q3, .inr (13, [.int (nI 0), .null, .int (nI 0)]))]) (fun _ => rfl) (fun q3 H hP hD hS => ?_)
  refine lv_dup hx hb dX10_init_53 rfl ?_
  refine k_v (wr := [(h0, .inr (10, [.ref q0, .ref q1, .ref q2, v2, v3, v4, v5, v6, v7, v8, v9, v10, v11, v12, v13, v14, v15])), (q0, .inr (13, [.int (nI 0), .ref (G 0), .int (nI 0)])), (q1, .inr (13, [.int (nI 0), .ref (G 0), .int (nI 0)])), (q2, .inl (K 2, 4, .inl (fun _ => (-1))))]) (run_I (rest := [.ref q3, .ref h0]) hx hb hml hown hts hK hP hD hS hA hm (C11_init l G D K H.size q3 (.int (nI 0)) (.null) (.int (nI 0))) [4] rfl rfl mok_yJx4a65c_init_da8c8 w_1130 w_1131 rfl ⟨Nat.le_of_ble_eq_true rfl, Nat.le_of_ble_eq_true rfl⟩ rfl hl.1 rfl (Nat.le_of_ble_eq_true rfl) dX10_init_54 ⟨(Nat.le_of_ble_eq_true rfl), (Nat.le_of_ble_eq_true rfl)⟩) hP hD hS hA [4] [0, 1, 2, 3] rfl rfl rfl (by decide) (w2 := fun u2 => [(h0, .inr (10, [.ref q0, .ref q1, .ref q2, v2, v3, v4, v5, v6, v7, v8, v9, v10, v11, v12, v13, v14, v15])), (q0, .inr (13, [.int (nI 0), .ref (G 0), .int (nI 0)])), (q1, .inr (13, [.int (nI 0), .ref (G 0), .int (nI 0)])), (q2, .inl (K 2, 4, .inl (fun _ => (-1)))), (q3, .inr (13, [.int (nI 0), .ref (G 0), .int (nI 0)]))]) (fun _ => rfl) (fun u2 H locs hP hD hS => ?_)
  refine r_putF hx hb hts ok_RX10 hown hK hP hD hS 0 rfl rfl 3 (by decide) w_1230 (fun _ h9 => h9) rfl hnm rfl (v := .ref q3) rfl rfl (Nat.le_of_ble_eq_true rfl) dX10_init_57 (ws' := [(h0, .inr (10, [.ref q0, .ref q1, .ref q2, .ref q3, v3, v4, v5, v6, v7, v8, v9, v10, v11, v12, v13, v14, v15])), (q0, .inr (13, [.int (nI 0), .ref (G 0), .int (nI 0)])), (q1, .inr (13, [.int (nI 0), .ref (G 0), .int (nI 0)])), (q2, .inl (K 2, 4, .inl (fun _ => (-1)))), (q3, .inr (13, [.int (nI 0), .ref (G 0), .int (nI 0)]))]) rfl (fun H locs hP hD hS => ?_)
  refine lv_aload_n hx hb dX10_init_60 rfl (lv_at hl 0 rfl) ?_
  refine lv_bipush (v := nI 20) hx hb dX10_init_61 (by decide +kernel) ?_
  refine r_newa (atype := .boolean) hx hb hts w_129 rfl hK hP hD hS hA 1 rfl (N := 20) (a0 := (20, .inl (fun _ => nI 0))) (fun _ => rfl) (by decide +kernel) (by decide +kernel) (by decide) (Nat.le_of_ble_eq_true rfl) (Nat.le_of_ble_eq_true rfl) dX10_init_63 (w2 := fun q4 => [(h0, .inr (10, [.ref q0, .ref q1, .ref q2, .ref q3, v3, v4, v5, v6, v7, v8, v9, v10, v11, v12, v13, v14, v15])), (q0, .inr (13, [.int (nI 0), .ref (G 0), .int (nI 0)])), (q1, .inr (13, [.int (nI 0), .ref (G 0), .int (nI 0)])), (q2, .inl (K 2, 4, .inl (fun _ => (-1)))), (q3, .inr (13, [.int (nI 0), .ref (G 0), .int (nI 0)])), (q4, .inl (K 1, 20, .inl (fun _ => nI 0)))]) (fun _ => rfl) (fun q4 H hP hD hS => ?_)
  refine r_putF hx hb hts ok_RX10 hown hK hP hD hS 0 rfl rfl 4 (by decide) w_1232 (fun _ h9 => h9) rfl hnm rfl (v := .ref q4) rfl rfl (Nat.le_of_ble_eq_true rfl) dX10_init_65 (ws' := [(h0, .inr (10, [.ref q0, .ref q1, .ref q2, .ref q3, .ref q4, v4, v5, v6, v7, v8, v9, v10, v11, v12, v13, v14, v15])), (q0, .inr (13, [.int (nI 0), .ref (G 0), .int (nI 0)])), (q1, .inr (13, [.int (nI 0), .ref (G 0), .int (nI 0)])), (q2, .inl (K 2, 4, .inl (fun _ => (-1)))), (q3, .inr (13, [.int (nI 0), .ref (G 0), .int (nI 0)])), (q4, .inl (K 1, 20, .inl (fun _ => nI 0)))]) rfl (fun H locs hP hD hS => ?_)
  refine lv_aload_n hx hb dX10_init_68 rfl (lv_at hl 0 rfl) ?_
  refine lv_bipush (v := nI 60) hx hb dX10_init_69 (by decide +kernel) ?_
  refine r_put hx hb hts ok_RX10 hown hK hP hD hS 0 rfl rfl 7 (by decide) w_1238 (fun _ h9 => h9) rfl (v := .int (nI 60)) rfl rfl (Nat.le_of_ble_eq_true rfl) dX10_init_71 (ws' := [(h0, .inr (10, [.ref q0, .ref q1, .ref q2, .ref q3, .ref q4, v4, v5, .int (nI 60), v7, v8, v9, v10, v11, v12, v13, v14, v15])), (q0, .inr (13, [.int (nI 0), .ref (G 0), .int (nI 0)])), (q1, .inr (13, [.int (nI 0), .ref (G 0), .int (nI 0)])), (q2, .inl (K 2, 4, .inl (fun _ => (-1)))), (q3, .inr (13, [.int (nI 0), .ref (G 0), .int (nI 0)])), (q4, .inl (K 1, 20, .inl (fun _ => nI 0)))]) rfl (fun H locs hP hD hS => ?_)
  refine lv_aload_n hx hb dX10_init_74 rfl (lv_at hl 0 rfl) ?_
  refine lv_iconst (v := nI 2) hx hb dX10_init_75 (by decide +kernel) ?_
  refine r_put hx hb hts ok_RX10 hown hK hP hD hS 0 rfl rfl 9 (by decide) w_1242 (fun _ h9 => h9) rfl (v := .int (nI 2)) rfl rfl (Nat.le_of_ble_eq_true rfl) dX10_init_76 (ws' := [(h0, .inr (10, [.ref q0, .ref q1, .ref q2, .ref q3, .ref q4, v4, v5, .int (nI 60), v7, .int (nI 2), v9, v10, v11, v12, v13, v14, v15])), (q0, .inr (13, [.int (nI 0), .ref (G 0), .int (nI 0)])), (q1, .inr (13, [.int (nI 0), .ref (G 0), .int (nI 0)])), (q2, .inl (K 2, 4, .inl (fun _ => (-1)))), (q3, .inr (13, [.int (nI 0), .ref (G 0), .int (nI 0)])), (q4, .inl (K 1, 20, .inl (fun _ => nI 0)))]) rfl (fun H locs hP hD hS => ?_)
  refine lv_aload_n hx hb dX10_init_79 rfl (lv_at hl 0 rfl) ?_
  refine r_get hx hb hts ok_RX10 hown hK hP 0 rfl rfl 1 (by decide) w_1226 (fun _ h9 => h9) rfl dX10_init_80 ?_
  refine k_q (wr := [(h0, .inr (10, [.ref q0, .ref q1, .ref q2, .ref q3, .ref q4, v4, v5, .int (nI 60), v7, .int (nI 2), v9, v10, v11, v12, v13, v14, v15])), (q0, .inr (13, [.int (nI 0), .ref (G 0), .int (nI 0)])), (q1, .inr (13, [.int (nI 0), .ref (G 0), .int (nI 0)])), (q2, .inl (K 2, 4, .inl (fun _ => (-1)))), (q3, .inr (13, [.int (nI 0), .ref (G 0), .int (nI 0)])), (q4, .inl (K 1, 20, .inl (fun _ => nI 0)))]) (run_S (rest := [.ref q1]) hx hb hml hown hts hK hP hD hS hA hm (C12_frame l G D K H.size) [] rfl rfl mok_yX10_frame w_1157 w_1158 ⟨Nat.le_of_ble_eq_true rfl, Nat.le_of_ble_eq_true rfl⟩ rfl hl.1 rfl (Nat.le_of_ble_eq_true rfl) dX10_init_83 ⟨(Nat.le_of_ble_eq_true rfl), (Nat.le_of_ble_eq_true rfl)⟩) hP hD hS hA [] [0, 1, 2, 3, 4, 5] rfl rfl rfl (by decide) (w2 := fun u3 => [(h0, .inr (10, [.ref q0, .ref q1, .ref q2, .ref q3, .ref q4, v4, v5, .int (nI 60), v7, .int (nI 2), v9, v10, v11, v12, v13, v14, v15])), (q0, .inr (13, [.int (nI 0), .ref (G 0), .int (nI 0)])), (q1, .inr (13, [.int (nI 0), .ref (G 0), .int (nI 0)])), (q2, .inl (K 2, 4, .inl (fun _ => (-1)))), (q3, .inr (13, [.int (nI 0), .ref (G 0), .int (nI 0)])), (q4, .inl (K 1, 20, .inl (fun _ => nI 0))), ((u3 0), .inl (K 2, 4, .inl (fun _ => (-1))))]) (fun _ => rfl) (fun u3 H locs hP hD hS => ?_)
  refine w_tov (y := .ref (u3 0)) rfl ?_
  refine k_i (wr := [(h0, .inr (10, [.ref q0, .ref q1, .ref q2, .ref q3, .ref q4, v4, v5, .int (nI 60), v7, .int (nI 2), v9, v10, v11, v12, v13, v14, v15])), (q0, .inr (13, [.int (nI 0), .ref (G 0), .int (nI 0)])), (q2, .inl (K 2, 4, .inl (fun _ => (-1)))), (q3, .inr (13, [.int (nI 0), .ref (G 0), .int (nI 0)])), (q4, .inl (K 1, 20, .inl (fun _ => nI 0)))]) (run_V (rest := []) hx hb hml hown hts hK hP hD hS hA hm (C16_add l G D K H.size q1 (u3 0) (fun _ => (-1))) [2, 6] rfl rfl mok_yJx4a65c_add_9ea2d w_1160 w_1161 w_1162 (rcv hK hP 2 rfl rfl rfl) ⟨Nat.le_of_ble_eq_true rfl, Nat.le_of_ble_eq_true rfl⟩ rfl hl.1 rfl (Nat.le_of_ble_eq_true rfl) dX10_init_86 ⟨(Nat.le_of_ble_eq_true rfl), (Nat.le_of_ble_eq_true rfl)⟩) hP hD hS hA [2, 6] [0, 1, 3, 4, 5] rfl rfl rfl (by decide) (w2 := fun u4 => [(h0, .inr (10, [.ref q0, .ref q1, .ref q2, .ref q3, .ref q4, v4, v5, .int (nI 60), v7, .int (nI 2), v9, v10, v11, v12, v13, v14, v15])), (q0, .inr (13, [.int (nI 0), .ref (G 0), .int (nI 0)])), (q2, .inl (K 2, 4, .inl (fun _ => (-1)))), (q3, .inr (13, [.int (nI 0), .ref (G 0), .int (nI 0)])), (q4, .inl (K 1, 20, .inl (fun _ => nI 0))), ((u3 0), .inl (K 2, 4, .inl (fun _ => (-1)))), (q1, .inr (13, [.int (nI 1), .ref (u4 0), .int (nI 1)])), ((u4 0), .inl (K 4, 10, .inr (.inr (.inr (.inr (va_up (fun _ => none) 0 (some (u3 0))))))))]) (fun _ => rfl) (fun u4 H locs hP hD hS => ?_)
  refine lv_pop hx hb dX10_init_89 rfl ?_
  exact e_v hx hb hr hlk hP hD hS (fun k => match k with | 0 => q0 | 1 => q1 | 2 => q2 | 3 => q3 | 4 => q4 | 5 => (u3 0) | 6 => (u4 0) | _ => 0) rfl (Nat.le_of_ble_eq_true rfl) (Nat.le_of_ble_eq_true rfl) dX10_init_90
set_option maxHeartbeats 4000000 in
set_option maxRecDepth 100000 in
theorem C18_init (l : Launch) (G : Nat → Nat) (D : va_G) (K : Nat → ClassId) (sz : Nat) (h0 : Nat) (v0 v1 : Value) : CM l yX12_init cX12_init 1 (none : Option FieldType) ({ frames := 6, cells := 8, slots := 64, locals := 128 } : Room) G D K [.ref h0] [(h0, .inr (12, [v0, v1]))] sz (CQv D (fun u => [(h0, .inr (12, [v0, .ref (u 0)])), ((u 0), .inr (10, [.ref (u 1), .ref (u 2), .ref (u 3), .ref (u 4), .ref (u 5), .int (nI 0), .int (nI 0), .int (nI 60), .int (nI 0), .int (nI 2), .int (nI 0), .int (nI 0), .int (nI 0), .int (nI 0), .int (nI 0), .int (nI 0), .int (nI 0)])), ((u 1), .inr (13, [.int (nI 0), .ref (G 0), .int (nI 0)])), ((u 3), .inl (K 2, 4, .inl (fun _ => (-1)))), ((u 4), .inr (13, [.int (nI 0), .ref (G 0), .int (nI 0)])), ((u 5), .inl (K 1, 20, .inl (fun _ => nI 0))), ((u 6), .inl (K 2, 4, .inl (fun _ => (-1)))), ((u 2), .inr (13, [.int (nI 1), .ref (u 7), .int (nI 1)])), ((u 7), .inl (K 4, 10, .inr (.inr (.inr (.inr (va_up (fun _ => none) 0 (some (u 6))))))))])) := by
  refine CM_of (lv0 := [(0, .ref h0)]) pn_RX12 (Nat.le_of_ble_eq_true rfl) rfl (fun p e s m args below meth c A ls hx hb hr hml hown hts hlk hnm hP hK hD hS hA hm hl => ?_)
  have hown : s.vm.findClass RX12 = some m.cls := hown
  refine lv_aload_n hx hb dX12_init_0 rfl (lv_at hl 0 rfl) ?_
  refine r_oinit hx hb hts hown w_1121 w_44 w_45 hml hl.1 dX12_init_1 (Nat.le_of_ble_eq_true rfl) (Nat.le_of_ble_eq_true rfl) ?_
  refine lv_aload_n hx hb dX12_init_4 rfl (lv_at hl 0 rfl) ?_
  refine r_new (ci := 10) (C := RX10) (T := TX10) (N := 17) hx hb hts ok_RX10 hown w_1122 w_1123 w_11 hK hP hD hS hA rfl df_RX10 (Nat.le_of_ble_eq_true rfl) (Nat.le_of_ble_eq_true rfl) dX12_init_5 (w2 := fun q0 => [(h0, .inr (12, [v0, v1])), (q0, .inr (10, [.null, .null, .null, .null, .null, .int (nI 0), .int (nI 0), .int (nI 0), .int (nI 0), .int (nI 0), .int (nI 0), .int (nI 0), .int (nI 0), .int (nI 0), .int (nI 0), .int (nI 0), .int (nI 0)]))]) (fun _ => rfl) (fun q0 H hP hD hS => ?_)
  refine lv_dup hx hb dX12_init_8 rfl ?_
  refine k_v (wr := [(h0, .inr (12, [v0, v1]))]) (run_I (rest := [.ref q0, .ref h0]) hx hb hml hown hts hK hP hD hS hA hm (C17_init l G D K H.size q0 (.null) (.null) (.null) (.null) (.int (nI 0)) (.int (nI 0)) (.int (nI 0)) (.int (nI 0)) (.int (nI 0)) (.int (nI 0)) (.int (nI 0)) (.int (nI 0)) (.int (nI 0)) (.int (nI 0)) (.int (nI 0)) (.int (nI 0))) [1] rfl rfl mok_yX10_init w_1124 w_1125 rfl ⟨Nat.le_of_ble_eq_true rfl, Nat.le_of_ble_eq_true rfl⟩ rfl hl.1 rfl (Nat.le_of_ble_eq_true rfl) dX12_init_9 ⟨(Nat.le_of_ble_eq_true rfl), (Nat.le_of_ble_eq_true rfl)⟩) hP hD hS hA [1] [0] rfl rfl rfl (by decide) (w2 := fun u0 => [(h0, .inr (12, [v0, v1])), (q0, .inr (10, [.ref (u0 0), .ref (u0 1), .ref (u0 2), .ref (u0 3), .ref (u0 4), .int (nI 0), .int (nI 0), .int (nI 60), .int (nI 0), .int (nI 2), .int (nI 0), .int (nI 0), .int (nI 0), .int (nI 0), .int (nI 0), .int (nI 0), .int (nI 0)])), ((u0 0), .inr (13, [.int (nI 0), .ref (G 0), .int (nI 0)])), ((u0 2), .inl (K 2, 4, .inl (fun _ => (-1)))), ((u0 3), .inr (13, [.int (nI 0), .ref (G 0), .int (nI 0)])), ((u0 4), .inl (K 1, 20, .inl (fun _ => nI 0))), ((u0 5), .inl (K 2, 4, .inl (fun _ => (-1)))), ((u0 1), .inr (13, [.int (nI 1), .ref (u0 6), .int (nI 1)])), ((u0 6), .inl (K 4, 10, .inr (.inr (.inr (.inr (va_up (fun _ => none) 0 (some (u0 5))))))))]) (fun _ => rfl) (fun u0 H locs hP hD hS => ?_)
  refine r_putF hx hb hts ok_RX12 hown hK hP hD hS 0 rfl rfl 1 (by decide) w_1294 (fun _ h9 => h9) rfl hnm rfl (v := .ref q0) rfl rfl (Nat.le_of_ble_eq_true rfl) dX12_init_12 (ws' := [(h0, .inr (12, [v0, .ref q0])), (q0, .inr (10, [.ref (u0 0), .ref (u0 1), .ref (u0 2), .ref (u0 3), .ref (u0 4), .int (nI 0), .int (nI 0), .int (nI 60), .int (nI 0), .int (nI 2), .int (nI 0), .int (nI 0), .int (nI 0), .int (nI 0), .int (nI 0), .int (nI 0), .int (nI 0)])), ((u0 0), .inr (13, [.int (nI 0), .ref (G 0), .int (nI 0)])), ((u0 2), .inl (K 2, 4, .inl (fun _ => (-1)))), ((u0 3), .inr (13, [.int (nI 0), .ref (G 0), .int (nI 0)])), ((u0 4), .inl (K 1, 20, .inl (fun _ => nI 0))), ((u0 5), .inl (K 2, 4, .inl (fun _ => (-1)))), ((u0 1), .inr (13, [.int (nI 1), .ref (u0 6), .int (nI 1)])), ((u0 6), .inl (K 4, 10, .inr (.inr (.inr (.inr (va_up (fun _ => none) 0 (some (u0 5))))))))]) rfl (fun H locs hP hD hS => ?_)
  exact e_v hx hb hr hlk hP hD hS (fun k => match k with | 0 => q0 | 1 => (u0 0) | 2 => (u0 1) | 3 => (u0 2) | 4 => (u0 3) | 5 => (u0 4) | 6 => (u0 5) | 7 => (u0 6) | _ => 0) rfl (Nat.le_of_ble_eq_true rfl) (Nat.le_of_ble_eq_true rfl) dX12_init_15
set_option maxHeartbeats 4000000 in
set_option maxRecDepth 100000 in
theorem C19_frames (l : Launch) (G : Nat → Nat) (D : va_G) (K : Nat → ClassId) (sz : Nat) (h0 : Nat) (v0 v1 v2 : Value) : CM l yX4_frames cX4_frames 1 (some FieldType.int) ({ frames := 0, cells := 0, slots := 0, locals := 0 } : Room) G D K [.ref h0] [(h0, .inr (4, [v0, v1, v2, .int (nI 1)]))] sz (CQi (nI 1) D (fun _ => [(h0, .inr (4, [v0, v1, v2, .int (nI 1)]))])) := by
  refine CM_of (lv0 := [(0, .ref h0)]) pn_RX4 (Nat.le_of_ble_eq_true rfl) rfl (fun p e s m args below meth c A ls hx hb hr hml hown hts hlk hnm hP hK hD hS hA hm hl => ?_)
  have hown : s.vm.findClass RX4 = some m.cls := hown
  refine lv_aload_n hx hb dX4_frames_0 rfl (lv_at hl 0 rfl) ?_
  refine r_get hx hb hts ok_RX4 hown hK hP 0 rfl rfl 3 (by decide) w_76 (fun _ h9 => h9) rfl dX4_frames_1 ?_
  exact e_i hx hb hr hlk hP hD hS (fun _ => 0) rfl (Nat.le_of_ble_eq_true rfl) (Nat.le_of_ble_eq_true rfl) rfl dX4_frames_4
set_option maxHeartbeats 4000000 in
set_option maxRecDepth 100000 in
theorem C20_addFrame (l : Launch) (G : Nat → Nat) (D : va_G) (K : Nat → ClassId) (sz : Nat) (h0 : Nat) (v0 v1 v2 : Value) : CM l yX4_addFrame cX4_addFrame 1 (none : Option FieldType) ({ frames := 0, cells := 0, slots := 0, locals := 0 } : Room) G D K [.ref h0] [(h0, .inr (4, [v0, v1, v2, .int (nI 1)]))] sz (CQv D (fun _ => [(h0, .inr (4, [v0, v1, v2, .int (nI 2)]))])) := by
  refine CM_of (lv0 := [(0, .ref h0)]) pn_RX4 (Nat.le_of_ble_eq_true rfl) rfl (fun p e s m args below meth c A ls hx hb hr hml hown hts hlk hnm hP hK hD hS hA hm hl => ?_)
  have hown : s.vm.findClass RX4 = some m.cls := hown
  refine lv_aload_n hx hb dX4_addFrame_0 rfl (lv_at hl 0 rfl) ?_
  refine r_get hx hb hts ok_RX4 hown hK hP 0 rfl rfl 3 (by decide) w_76 (fun _ h9 => h9) rfl dX4_addFrame_1 ?_
  refine lv_bipush (v := nI 8) hx hb dX4_addFrame_4 (by decide +kernel) ?_
  refine lv_icmp_ge (tgt := 19) hx hb dX4_addFrame_6 (by decide) (fun c9 => absurd c9 (by decide +kernel)) (fun _ => ?_)
  refine lv_aload_n hx hb dX4_addFrame_9 rfl (lv_at hl 0 rfl) ?_
  refine lv_dup hx hb dX4_addFrame_10 rfl ?_
  refine r_get hx hb hts ok_RX4 hown hK hP 0 rfl rfl 3 (by decide) w_76 (fun _ h9 => h9) rfl dX4_addFrame_11 ?_
  refine lv_iconst (v := nI 1) hx hb dX4_addFrame_14 (by decide +kernel) ?_
  refine lv_iadd hx hb dX4_addFrame_15 ?_
  refine w_toeq (show (nI 1) + (nI 1) = nI 2 by decide +kernel) ?_
  refine r_put hx hb hts ok_RX4 hown hK hP hD hS 0 rfl rfl 3 (by decide) w_76 (fun _ h9 => h9) rfl (v := .int (nI 2)) rfl rfl (Nat.le_of_ble_eq_true rfl) dX4_addFrame_16 (ws' := [(h0, .inr (4, [v0, v1, v2, .int (nI 2)]))]) rfl (fun H locs hP hD hS => ?_)
  exact e_v hx hb hr hlk hP hD hS (fun _ => 0) rfl (Nat.le_of_ble_eq_true rfl) (Nat.le_of_ble_eq_true rfl) dX4_addFrame_19
set_option maxHeartbeats 4000000 in
set_option maxRecDepth 100000 in
theorem C21_frames (l : Launch) (G : Nat → Nat) (D : va_G) (K : Nat → ClassId) (sz : Nat) (h0 : Nat) (v0 v1 v2 : Value) : CM l yX4_frames cX4_frames 1 (some FieldType.int) ({ frames := 0, cells := 0, slots := 0, locals := 0 } : Room) G D K [.ref h0] [(h0, .inr (4, [v0, v1, v2, .int (nI 2)]))] sz (CQi (nI 2) D (fun _ => [(h0, .inr (4, [v0, v1, v2, .int (nI 2)]))])) := by
  refine CM_of (lv0 := [(0, .ref h0)]) pn_RX4 (Nat.le_of_ble_eq_true rfl) rfl (fun p e s m args below meth c A ls hx hb hr hml hown hts hlk hnm hP hK hD hS hA hm hl => ?_)
  have hown : s.vm.findClass RX4 = some m.cls := hown
  refine lv_aload_n hx hb dX4_frames_0 rfl (lv_at hl 0 rfl) ?_
  refine r_get hx hb hts ok_RX4 hown hK hP 0 rfl rfl 3 (by decide) w_76 (fun _ h9 => h9) rfl dX4_frames_1 ?_
  exact e_i hx hb hr hlk hP hD hS (fun _ => 0) rfl (Nat.le_of_ble_eq_true rfl) (Nat.le_of_ble_eq_true rfl) rfl dX4_frames_4
set_option maxHeartbeats 4000000 in
set_option maxRecDepth 100000 in
theorem C22_push (l : Launch) (G : Nat → Nat) (D : va_G) (K : Nat → ClassId) (sz : Nat) (h0 h1 : Nat) (v0 v1 v2 v3 v4 v5 v6 v7 v8 v9 v10 : Value) : CM l yX9_push cX9_push 1 (some FieldType.int) ({ frames := 1, cells := 0, slots := 0, locals := 20 } : Room) G D K [.ref h0] [(h0, .inr (9, [v0, .ref h1, v1, v2, v3, v4, v5, v6, v7])), (h1, .inr (4, [v8, v9, v10, .int (nI 1)]))] sz (CQi (nI 2) D (fun _ => [(h0, .inr (9, [v0, .ref h1, v1, v2, v3, v4, v5, v6, v7])), (h1, .inr (4, [v8, v9, v10, .int (nI 2)]))])) := by
  refine CM_of (lv0 := [(0, .ref h0)]) pn_RX9 (Nat.le_of_ble_eq_true rfl) rfl (fun p e s m args below meth c A ls hx hb hr hml hown hts hlk hnm hP hK hD hS hA hm hl => ?_)
  have hown : s.vm.findClass RX9 = some m.cls := hown
  refine lv_aload_n hx hb dX9_push_0 rfl (lv_at hl 0 rfl) ?_
  refine r_get hx hb hts ok_RX9 hown hK hP 0 rfl rfl 1 (by decide) w_259 (fun _ h9 => h9) rfl dX9_push_1 ?_
  refine k_i (wr := [(h0, .inr (9, [v0, .ref h1, v1, v2, v3, v4, v5, v6, v7]))]) (run_V (rest := []) hx hb hml hown hts hK hP hD hS hA hm (C19_frames l G D K s.heap.size h1 (v8) (v9) (v10)) [1] rfl rfl mok_yX4_frames w_575 w_576 w_577 (rcv hK hP 1 rfl rfl rfl) ⟨Nat.le_of_ble_eq_true rfl, Nat.le_of_ble_eq_true rfl⟩ rfl hl.1 rfl (Nat.le_of_ble_eq_true rfl) dX9_push_4 ⟨(Nat.le_of_ble_eq_true rfl), (Nat.le_of_ble_eq_true rfl)⟩) hP hD hS hA [1] [0] rfl rfl rfl (by decide) (w2 := fun u0 => [(h0, .inr (9, [v0, .ref h1, v1, v2, v3, v4, v5, v6, v7])), (h1, .inr (4, [v8, v9, v10, .int (nI 1)]))]) (fun _ => rfl) (fun u0 H locs hP hD hS => ?_)
  refine lv_bipush (v := nI 8) hx hb dX9_push_7 (by decide +kernel) ?_
  refine lv_icmp_lt (tgt := 22) hx hb dX9_push_9 (by decide) (fun _ => ?_) (fun c9 => absurd (by decide +kernel) c9)
  refine lv_aload_n hx hb dX9_push_22 rfl (lv_at hl 0 rfl) ?_
  refine r_get hx hb hts ok_RX9 hown hK hP 0 rfl rfl 1 (by decide) w_259 (fun _ h9 => h9) rfl dX9_push_23 ?_
  refine k_v (wr := [(h0, .inr (9, [v0, .ref h1, v1, v2, v3, v4, v5, v6, v7]))]) (run_V (rest := []) hx hb hml hown hts hK hP hD hS hA hm (C20_addFrame l G D K H.size h1 (v8) (v9) (v10)) [1] rfl rfl mok_yX4_addFrame w_766 w_767 w_768 (rcv hK hP 1 rfl rfl rfl) ⟨Nat.le_of_ble_eq_true rfl, Nat.le_of_ble_eq_true rfl⟩ rfl hl.1 rfl (Nat.le_of_ble_eq_true rfl) dX9_push_26 ⟨(Nat.le_of_ble_eq_true rfl), (Nat.le_of_ble_eq_true rfl)⟩) hP hD hS hA [1] [0] rfl rfl rfl (by decide) (w2 := fun u1 => [(h0, .inr (9, [v0, .ref h1, v1, v2, v3, v4, v5, v6, v7])), (h1, .inr (4, [v8, v9, v10, .int (nI 2)]))]) (fun _ => rfl) (fun u1 H locs hP hD hS => ?_)
  refine lv_aload_n hx hb dX9_push_29 rfl (lv_at hl 0 rfl) ?_
  refine r_get hx hb hts ok_RX9 hown hK hP 0 rfl rfl 1 (by decide) w_259 (fun _ h9 => h9) rfl dX9_push_30 ?_
  refine k_i (wr := [(h0, .inr (9, [v0, .ref h1, v1, v2, v3, v4, v5, v6, v7]))]) (run_V (rest := []) hx hb hml hown hts hK hP hD hS hA hm (C21_frames l G D K H.size h1 (v8) (v9) (v10)) [1] rfl rfl mok_yX4_frames w_575 w_576 w_577 (rcv hK hP 1 rfl rfl rfl) ⟨Nat.le_of_ble_eq_true rfl, Nat.le_of_ble_eq_true rfl⟩ rfl hl.1 rfl (Nat.le_of_ble_eq_true rfl) dX9_push_33 ⟨(Nat.le_of_ble_eq_true rfl), (Nat.le_of_ble_eq_true rfl)⟩) hP hD hS hA [1] [0] rfl rfl rfl (by decide) (w2 := fun u2 => [(h0, .inr (9, [v0, .ref h1, v1, v2, v3, v4, v5, v6, v7])), (h1, .inr (4, [v8, v9, v10, .int (nI 2)]))]) (fun _ => rfl) (fun u2 H locs hP hD hS => ?_)
  exact e_i hx hb hr hlk hP hD hS (fun _ => 0) rfl (Nat.le_of_ble_eq_true rfl) (Nat.le_of_ble_eq_true rfl) rfl dX9_push_36
set_option maxHeartbeats 4000000 in
set_option maxRecDepth 100000 in
theorem C23_size (l : Launch) (G : Nat → Nat) (D : va_G) (K : Nat → ClassId) (sz : Nat) (h0 : Nat) (v0 v1 : Value) : CM l yJx4a65c_size_8abf5 cJx4a65c_size_8abf5 1 (some FieldType.int) ({ frames := 0, cells := 0, slots := 0, locals := 0 } : Room) G D K [.ref h0] [(h0, .inr (13, [v0, v1, .int (nI 1)]))] sz (CQi (nI 1) D (fun _ => [(h0, .inr (13, [v0, v1, .int (nI 1)]))])) := by
  refine CM_of (lv0 := [(0, .ref h0)]) pn_RJx4a65c (Nat.le_of_ble_eq_true rfl) rfl (fun p e s m args below meth c A ls hx hb hr hml hown hts hlk hnm hP hK hD hS hA hm hl => ?_)
  have hown : s.vm.findClass RJx4a65c = some m.cls := hown
  refine lv_aload_n hx hb dJx4a65c_size_8abf5_0 rfl (lv_at hl 0 rfl) ?_
  refine r_get hx hb hts ok_RJx4a65c hown hK hP 0 rfl rfl 2 (by decide) w_1145 (fun _ h9 => h9) rfl dJx4a65c_size_8abf5_1 ?_
  exact e_i hx hb hr hlk hP hD hS (fun _ => 0) rfl (Nat.le_of_ble_eq_true rfl) (Nat.le_of_ble_eq_true rfl) rfl dJx4a65c_size_8abf5_4
set_option maxHeartbeats 4000000 in
set_option maxRecDepth 100000 in
theorem C24_refuse (l : Launch) (G : Nat → Nat) (D : va_G) (K : Nat → ClassId) (sz : Nat) (h0 : Nat) (v0 : Value) : CM l yX12_refuse cX12_refuse 3 (some FieldType.boolean) ({ frames := 0, cells := 0, slots := 0, locals := 0 } : Room) G D K [.ref h0, .int (nI 0), .int (nI 1)] [(h0, .inr (12, [.int (nI 0), v0]))] sz (CQi (nI 0) D (fun _ => [(h0, .inr (12, [.int (nI 0), v0]))])) := by
  refine CM_of (lv0 := [(0, .ref h0), (1, .int (nI 0)), (2, .int (nI 1))]) pn_RX12 (Nat.le_of_ble_eq_true rfl) rfl (fun p e s m args below meth c A ls hx hb hr hml hown hts hlk hnm hP hK hD hS hA hm hl => ?_)
  have hown : s.vm.findClass RX12 = some m.cls := hown
  refine lv_iload_n hx hb dX12_refuse_0 rfl (lv_at hl 1 rfl) ?_
  refine lv_if_eq (tgt := 16) hx hb dX12_refuse_1 (by decide) (fun _ => ?_) (fun c9 => absurd (by decide +kernel) c9)
  refine lv_aload_n hx hb dX12_refuse_16 rfl (lv_at hl 0 rfl) ?_
  refine r_get hx hb hts ok_RX12 hown hK hP 0 rfl rfl 0 (by decide) w_1293 (fun _ h9 => h9) rfl dX12_refuse_17 ?_
  refine lv_if_le (tgt := 27) hx hb dX12_refuse_20 (by decide) (fun _ => ?_) (fun c9 => absurd (by decide +kernel) c9)
  refine lv_iconst (v := nI 0) hx hb dX12_refuse_27 (by decide +kernel) ?_
  exact e_z hx hb hr hlk hP hD hS (fun _ => 0) rfl (Nat.le_of_ble_eq_true rfl) (Nat.le_of_ble_eq_true rfl) rfl (Or.inl rfl) dX12_refuse_28
set_option maxHeartbeats 4000000 in
set_option maxRecDepth 100000 in
theorem C25_start (l : Launch) (G : Nat → Nat) (D : va_G) (K : Nat → ClassId) (sz : Nat) (h0 : Nat) (v0 : Value) : CM l yX12_start cX12_start 3 (some FieldType.boolean) ({ frames := 1, cells := 0, slots := 0, locals := 22 } : Room) G D K [.ref h0, .int (nI 0), .int (nI 1)] [(h0, .inr (12, [.int (nI 0), v0]))] sz (CQi (nI 0) D (fun _ => [(h0, .inr (12, [.int (nI 0), v0]))])) := by
  refine CM_of (lv0 := [(0, .ref h0), (1, .int (nI 0)), (2, .int (nI 1))]) pn_RX12 (Nat.le_of_ble_eq_true rfl) rfl (fun p e s m args below meth c A ls hx hb hr hml hown hts hlk hnm hP hK hD hS hA hm hl => ?_)
  have hown : s.vm.findClass RX12 = some m.cls := hown
  refine lv_aload_n hx hb dX12_start_0 rfl (lv_at hl 0 rfl) ?_
  refine lv_iconst (v := nI 0) hx hb dX12_start_1 (by decide +kernel) ?_
  refine r_put hx hb hts ok_RX12 hown hK hP hD hS 0 rfl rfl 0 (by decide) w_1293 (fun _ h9 => h9) rfl (v := .int (nI 0)) rfl rfl (Nat.le_of_ble_eq_true rfl) dX12_start_2 (ws' := [(h0, .inr (12, [.int (nI 0), v0]))]) rfl (fun H locs hP hD hS => ?_)
  refine lv_aload_n hx hb dX12_start_5 rfl (lv_at hl 0 rfl) ?_
  refine lv_iload_n hx hb dX12_start_6 rfl (lv_at hl 1 rfl) ?_
  refine lv_iload_n hx hb dX12_start_7 rfl (lv_at hl 2 rfl) ?_
  refine k_i (wr := []) (run_V (rest := []) hx hb hml hown hts hK hP hD hS hA hm (C24_refuse l G D K H.size h0 (v0)) [0] rfl rfl mok_yX12_refuse w_1316 w_1318 w_p31 (rcv hK hP 0 rfl rfl rfl) ⟨Nat.le_of_ble_eq_true rfl, Nat.le_of_ble_eq_true rfl⟩ rfl hl.1 rfl (Nat.le_of_ble_eq_true rfl) dX12_start_8 ⟨(Nat.le_of_ble_eq_true rfl), (Nat.le_of_ble_eq_true rfl)⟩) hP hD hS hA [0] [] rfl rfl rfl (by decide) (w2 := fun u0 => [(h0, .inr (12, [.int (nI 0), v0]))]) (fun _ => rfl) (fun u0 H locs hP hD hS => ?_)
  exact e_z hx hb hr hlk hP hD hS (fun _ => 0) rfl (Nat.le_of_ble_eq_true rfl) (Nat.le_of_ble_eq_true rfl) rfl (Or.inl rfl) dX12_start_11
set_option maxHeartbeats 4000000 in
set_option maxRecDepth 100000 in
theorem C26_add (l : Launch) (G : Nat → Nat) (D : va_G) (K : Nat → ClassId) (sz : Nat) (h0 h1 h2 : Nat) (v0 v1 v2 : Value) (f0 : Nat → Option Nat) (f1 : Nat → Int32) : CM l yJx4a65c_add_72be8 cJx4a65c_add_72be8 4 (none : Option FieldType) ({ frames := 0, cells := 0, slots := 0, locals := 0 } : Room) G D K [.ref h2, .ref h1, .ref h0, .int (nI 1)] [(h0, .inl (K 4, 10, .inr (.inr (.inr (.inr f0))))), (h1, .inl (K 2, 4, .inl f1)), (h2, .inr (13, [v0, v1, v2]))] sz (CQv D (fun _ => [(h0, .inl (K 4, 10, .inr (.inr (.inr (.inr (va_up f0 1 (some h1))))))), (h1, .inl (K 2, 4, .inl f1)), (h2, .inr (13, [v0, v1, .int (nI 2)]))])) := by
  refine CM_of (lv0 := [(0, .ref h2), (1, .ref h1), (2, .ref h0), (3, .int (nI 1))]) pn_RJx4a65c (Nat.le_of_ble_eq_true rfl) rfl (fun p e s m args below meth c A ls hx hb hr hml hown hts hlk hnm hP hK hD hS hA hm hl => ?_)
  have hown : s.vm.findClass RJx4a65c = some m.cls := hown
  refine lv_iload_n hx hb dJx4a65c_add_72be8_0 rfl (lv_at hl 3 rfl) ?_
  refine lv_aload_n hx hb dJx4a65c_add_72be8_1 rfl (lv_at hl 2 rfl) ?_
  refine r_alen (n := 10) hx hb hK hP 0 4 rfl rfl rfl dJx4a65c_add_72be8_2 ?_
  refine lv_icmp_ne (tgt := 11) hx hb dJx4a65c_add_72be8_3 (by decide) (fun _ => ?_) (fun c9 => absurd c9 (by decide +kernel))
  refine lv_aload_n hx hb dJx4a65c_add_72be8_11 rfl (lv_at hl 2 rfl) ?_
  refine lv_iload_n hx hb dJx4a65c_add_72be8_12 rfl (lv_at hl 3 rfl) ?_
  refine lv_aload_n hx hb dJx4a65c_add_72be8_13 rfl (lv_at hl 1 rfl) ?_
  refine r_aast (k := 1) hx hb hK hP hD hS 0 4 rfl rfl (any_of hm (rcvA hK hP 1 rfl (nm_int hK)) w_2152) (Nat.le_of_ble_eq_true rfl) (by decide) dJx4a65c_add_72be8_14 (ws' := [(h0, .inl (K 4, 10, .inr (.inr (.inr (.inr (va_up f0 1 (some h1))))))), (h1, .inl (K 2, 4, .inl f1)), (h2, .inr (13, [v0, v1, v2]))]) rfl (fun H locs hP hD hS => ?_)
  refine lv_aload_n hx hb dJx4a65c_add_72be8_15 rfl (lv_at hl 0 rfl) ?_
  refine lv_iload_n hx hb dJx4a65c_add_72be8_16 rfl (lv_at hl 3 rfl) ?_
  refine lv_iconst (v := nI 1) hx hb dJx4a65c_add_72be8_17 (by decide +kernel) ?_
  refine lv_iadd hx hb dJx4a65c_add_72be8_18 ?_
  refine w_toeq (show (nI 1) + (nI 1) = nI 2 by decide +kernel) ?_
  refine r_put hx hb hts ok_RJx4a65c hown hK hP hD hS 2 rfl rfl 2 (by decide) w_1145 (fun _ h9 => h9) rfl (v := .int (nI 2)) rfl rfl (Nat.le_of_ble_eq_true rfl) dJx4a65c_add_72be8_19 (ws' := [(h0, .inl (K 4, 10, .inr (.inr (.inr (.inr (va_up f0 1 (some h1))))))), (h1, .inl (K 2, 4, .inl f1)), (h2, .inr (13, [v0, v1, .int (nI 2)]))]) rfl (fun H locs hP hD hS => ?_)
  exact e_v hx hb hr hlk hP hD hS (fun _ => 0) rfl (Nat.le_of_ble_eq_true rfl) (Nat.le_of_ble_eq_true rfl) dJx4a65c_add_72be8_22
set_option maxHeartbeats 4000000 in
set_option maxRecDepth 100000 in
theorem C27_add (l : Launch) (G : Nat → Nat) (D : va_G) (K : Nat → ClassId) (sz : Nat) (h0 h1 h2 : Nat) (f0 : Nat → Option Nat) (f1 : Nat → Int32) : CM l yJx4a65c_add_9ea2d cJx4a65c_add_9ea2d 2 (some FieldType.boolean) ({ frames := 1, cells := 0, slots := 0, locals := 23 } : Room) G D K [.ref h0, .ref h2] [(h0, .inr (13, [.int (nI 1), .ref h1, .int (nI 1)])), (h1, .inl (K 4, 10, .inr (.inr (.inr (.inr f0))))), (h2, .inl (K 2, 4, .inl f1))] sz (CQi (nI 1) D (fun _ => [(h1, .inl (K 4, 10, .inr (.inr (.inr (.inr (va_up f0 1 (some h2))))))), (h2, .inl (K 2, 4, .inl f1)), (h0, .inr (13, [.int (nI 2), .ref h1, .int (nI 2)]))])) := by
  refine CM_of (lv0 := [(0, .ref h0), (1, .ref h2)]) pn_RJx4a65c (Nat.le_of_ble_eq_true rfl) rfl (fun p e s m args below meth c A ls hx hb hr hml hown hts hlk hnm hP hK hD hS hA hm hl => ?_)
  have hown : s.vm.findClass RJx4a65c = some m.cls := hown
  refine lv_aload_n hx hb dJx4a65c_add_9ea2d_0 rfl (lv_at hl 0 rfl) ?_
  refine lv_dup hx hb dJx4a65c_add_9ea2d_1 rfl ?_
  refine r_get hx hb hts ok_RJx4a65c hown hK hP 0 rfl rfl 0 (by decide) w_1149 (fun x9 h9 => u_same (hts _ w_1148) x9 h9) rfl dJx4a65c_add_9ea2d_2 ?_
  refine lv_iconst (v := nI 1) hx hb dJx4a65c_add_9ea2d_5 (by decide +kernel) ?_
  refine lv_iadd hx hb dJx4a65c_add_9ea2d_6 ?_
  refine w_toeq (show (nI 1) + (nI 1) = nI 2 by decide +kernel) ?_
  refine r_put hx hb hts ok_RJx4a65c hown hK hP hD hS 0 rfl rfl 0 (by decide) w_1149 (fun x9 h9 => u_same (hts _ w_1148) x9 h9) rfl (v := .int (nI 2)) rfl rfl (Nat.le_of_ble_eq_true rfl) dJx4a65c_add_9ea2d_7 (ws' := [(h0, .inr (13, [.int (nI 2), .ref h1, .int (nI 1)])), (h1, .inl (K 4, 10, .inr (.inr (.inr (.inr f0))))), (h2, .inl (K 2, 4, .inl f1))]) rfl (fun H locs hP hD hS => ?_)
  refine lv_aload_n hx hb dJx4a65c_add_9ea2d_10 rfl (lv_at hl 0 rfl) ?_
  refine lv_aload_n hx hb dJx4a65c_add_9ea2d_11 rfl (lv_at hl 1 rfl) ?_
  refine lv_aload_n hx hb dJx4a65c_add_9ea2d_12 rfl (lv_at hl 0 rfl) ?_
  refine r_get hx hb hts ok_RJx4a65c hown hK hP 0 rfl rfl 1 (by decide) w_1142 (fun _ h9 => h9) rfl dJx4a65c_add_9ea2d_13 ?_
  refine lv_aload_n hx hb dJx4a65c_add_9ea2d_16 rfl (lv_at hl 0 rfl) ?_
  refine r_get hx hb hts ok_RJx4a65c hown hK hP 0 rfl rfl 2 (by decide) w_1145 (fun _ h9 => h9) rfl dJx4a65c_add_9ea2d_17 ?_
  refine k_v (wr := []) (run_V (rest := []) hx hb hml hown hts hK hP hD hS hA hm (C26_add l G D K H.size h1 h2 h0 (.int (nI 2)) (.ref h1) (.int (nI 1)) f0 f1) [1, 2, 0] rfl rfl mok_yJx4a65c_add_72be8 w_1164 w_1166 w_p27 (rcv hK hP 0 rfl rfl rfl) ⟨Nat.le_of_ble_eq_true rfl, Nat.le_of_ble_eq_true rfl⟩ rfl hl.1 rfl (Nat.le_of_ble_eq_true rfl) dJx4a65c_add_9ea2d_20 ⟨(Nat.le_of_ble_eq_true rfl), (Nat.le_of_ble_eq_true rfl)⟩) hP hD hS hA [1, 2, 0] [] rfl rfl rfl (by decide) (w2 := fun u0 => [(h1, .inl (K 4, 10, .inr (.inr (.inr (.inr (va_up f0 1 (some h2))))))), (h2, .inl (K 2, 4, .inl f1)), (h0, .inr (13, [.int (nI 2), .ref h1, .int (nI 2)]))]) (fun _ => rfl) (fun u0 H locs hP hD hS => ?_)
  refine lv_iconst (v := nI 1) hx hb dJx4a65c_add_9ea2d_23 (by decide +kernel) ?_
  exact e_z hx hb hr hlk hP hD hS (fun _ => 0) rfl (Nat.le_of_ble_eq_true rfl) (Nat.le_of_ble_eq_true rfl) rfl (Or.inr rfl) dJx4a65c_add_9ea2d_24
set_option maxHeartbeats 4000000 in
set_option maxRecDepth 100000 in
theorem C28_size (l : Launch) (G : Nat → Nat) (D : va_G) (K : Nat → ClassId) (sz : Nat) (h0 : Nat) (v0 v1 : Value) : CM l yJx4a65c_size_8abf5 cJx4a65c_size_8abf5 1 (some FieldType.int) ({ frames := 0, cells := 0, slots := 0, locals := 0 } : Room) G D K [.ref h0] [(h0, .inr (13, [v0, v1, .int (nI 2)]))] sz (CQi (nI 2) D (fun _ => [(h0, .inr (13, [v0, v1, .int (nI 2)]))])) := by
  refine CM_of (lv0 := [(0, .ref h0)]) pn_RJx4a65c (Nat.le_of_ble_eq_true rfl) rfl (fun p e s m args below meth c A ls hx hb hr hml hown hts hlk hnm hP hK hD hS hA hm hl => ?_)
  have hown : s.vm.findClass RJx4a65c = some m.cls := hown
  refine lv_aload_n hx hb dJx4a65c_size_8abf5_0 rfl (lv_at hl 0 rfl) ?_
  refine r_get hx hb hts ok_RJx4a65c hown hK hP 0 rfl rfl 2 (by decide) w_1145 (fun _ h9 => h9) rfl dJx4a65c_size_8abf5_1 ?_
  exact e_i hx hb hr hlk hP hD hS (fun _ => 0) rfl (Nat.le_of_ble_eq_true rfl) (Nat.le_of_ble_eq_true rfl) rfl dJx4a65c_size_8abf5_4
set_option maxHeartbeats 4000000 in
set_option maxRecDepth 100000 in
theorem C29_push (l : Launch) (G : Nat → Nat) (D : va_G) (K : Nat → ClassId) (sz : Nat) (h0 h1 h2 h3 : Nat) (v0 v1 v2 v3 v4 v5 v6 v7 v8 v9 v10 v11 v12 v13 v14 v15 : Value) (f0 : Nat → Option Nat) : CM l yX12_push cX12_push 1 (some FieldType.int) ({ frames := 2, cells := 1, slots := 4, locals := 44 } : Room) G D K [.ref h0] [(h0, .inr (12, [.int (nI 0), .ref h1])), (h1, .inr (10, [v0, .ref h2, v1, v2, v3, v4, v5, v6, v7, v8, v9, v10, v11, v12, v13, v14, v15])), (h2, .inr (13, [.int (nI 1), .ref h3, .int (nI 1)])), (h3, .inl (K 4, 10, .inr (.inr (.inr (.inr f0)))))] sz (CQi (nI 2) D (fun u => [(h1, .inr (10, [v0, .ref h2, v1, v2, v3, v4, v5, v6, v7, v8, v9, v10, v11, v12, v13, v14, v15])), (h0, .inr (12, [.int (nI 0), .ref h1])), (h3, .inl (K 4, 10, .inr (.inr (.inr (.inr (va_up f0 1 (some (u 0)))))))), ((u 0), .inl (K 2, 4, .inl (fun _ => (-1)))), (h2, .inr (13, [.int (nI 2), .ref h3, .int (nI 2)]))])) := by
  refine CM_of (lv0 := [(0, .ref h0)]) pn_RX12 (Nat.le_of_ble_eq_true rfl) rfl (fun p e s m args below meth c A ls hx hb hr hml hown hts hlk hnm hP hK hD hS hA hm hl => ?_)
  have hown : s.vm.findClass RX12 = some m.cls := hown
  refine lv_aload_n hx hb dX12_push_0 rfl (lv_at hl 0 rfl) ?_
  refine lv_aload_n hx hb dX12_push_1 rfl (lv_at hl 0 rfl) ?_
  refine r_get hx hb hts ok_RX12 hown hK hP 0 rfl rfl 1 (by decide) w_1294 (fun _ h9 => h9) rfl dX12_push_2 ?_
  refine r_get hx hb hts ok_RX10 hown hK hP 1 rfl rfl 1 (by decide) w_1227 (fun _ h9 => h9) rfl dX12_push_5 ?_
  refine k_i (wr := [(h0, .inr (12, [.int (nI 0), .ref h1])), (h1, .inr (10, [v0, .ref h2, v1, v2, v3, v4, v5, v6, v7, v8, v9, v10, v11, v12, v13, v14, v15])), (h3, .inl (K 4, 10, .inr (.inr (.inr (.inr f0)))))]) (run_V (rest := [.ref h0]) hx hb hml hown hts hK hP hD hS hA hm (C23_size l G D K s.heap.size h2 (.int (nI 1)) (.ref h3)) [2] rfl rfl mok_yJx4a65c_size_8abf5 w_1308 w_1309 w_1310 (rcv hK hP 2 rfl rfl rfl) ⟨Nat.le_of_ble_eq_true rfl, Nat.le_of_ble_eq_true rfl⟩ rfl hl.1 rfl (Nat.le_of_ble_eq_true rfl) dX12_push_8 ⟨(Nat.le_of_ble_eq_true rfl), (Nat.le_of_ble_eq_true rfl)⟩) hP hD hS hA [2] [0, 1, 3] rfl rfl rfl (by decide) (w2 := fun u0 => [(h0, .inr (12, [.int (nI 0), .ref h1])), (h1, .inr (10, [v0, .ref h2, v1, v2, v3, v4, v5, v6, v7, v8, v9, v10, v11, v12, v13, v14, v15])), (h3, .inl (K 4, 10, .inr (.inr (.inr (.inr f0))))), (h2, .inr (13, [.int (nI 1), .ref h3, .int (nI 1)]))]) (fun _ => rfl) (fun u0 H locs hP hD hS => ?_)
  refine lv_bipush (v := nI 8) hx hb dX12_push_11 (by decide +kernel) ?_
  refine lv_icmp_ne (tgt := 20) hx hb dX12_push_13 (by decide) (fun _ => ?_) (fun c9 => absurd c9 (by decide +kernel))
  refine lv_iconst (v := nI 0) hx hb dX12_push_20 (by decide +kernel) ?_
  refine lv_iconst (v := nI 1) hx hb dX12_push_21 (by decide +kernel) ?_
  refine k_i (wr := [(h1, .inr (10, [v0, .ref h2, v1, v2, v3, v4, v5, v6, v7, v8, v9, v10, v11, v12, v13, v14, v15])), (h3, .inl (K 4, 10, .inr (.inr (.inr (.inr f0))))), (h2, .inr (13, [.int (nI 1), .ref h3, .int (nI 1)]))]) (run_V (rest := []) hx hb hml hown hts hK hP hD hS hA hm (C25_start l G D K H.size h0 (.ref h1)) [0] rfl rfl mok_yX12_start w_1312 w_1314 w_p30 (rcv hK hP 0 rfl rfl rfl) ⟨Nat.le_of_ble_eq_true rfl, Nat.le_of_ble_eq_true rfl⟩ rfl hl.1 rfl (Nat.le_of_ble_eq_true rfl) dX12_push_22 ⟨(Nat.le_of_ble_eq_true rfl), (Nat.le_of_ble_eq_true rfl)⟩) hP hD hS hA [0] [1, 2, 3] rfl rfl rfl (by decide) (w2 := fun u1 => [(h1, .inr (10, [v0, .ref h2, v1, v2, v3, v4, v5, v6, v7, v8, v9, v10, v11, v12, v13, v14, v15])), (h3, .inl (K 4, 10, .inr (.inr (.inr (.inr f0))))), (h2, .inr (13, [.int (nI 1), .ref h3, .int (nI 1)])), (h0, .inr (12, [.int (nI 0), .ref h1]))]) (fun _ => rfl) (fun u1 H locs hP hD hS => ?_)
  refine lv_if_eq (tgt := 30) hx hb dX12_push_25 (by decide) (fun _ => ?_) (fun c9 => absurd (by decide +kernel) c9)
  refine lv_aload_n hx hb dX12_push_30 rfl (lv_at hl 0 rfl) ?_
  refine r_get hx hb hts ok_RX12 hown hK hP 3 rfl rfl 1 (by decide) w_1294 (fun _ h9 => h9) rfl dX12_push_31 ?_
  refine r_get hx hb hts ok_RX10 hown hK hP 0 rfl rfl 1 (by decide) w_1227 (fun _ h9 => h9) rfl dX12_push_34 ?_
  refine k_q (wr := [(h1, .inr (10, [v0, .ref h2, v1, v2, v3, v4, v5, v6, v7, v8, v9, v10, v11, v12, v13, v14, v15])), (h3, .inl (K 4, 10, .inr (.inr (.inr (.inr f0))))), (h2, .inr (13, [.int (nI 1), .ref h3, .int (nI 1)])), (h0, .inr (12, [.int (nI 0), .ref h1]))]) (run_S (rest := [.ref h2]) hx hb hml hown hts hK hP hD hS hA hm (C12_frame l G D K H.size) [] rfl rfl mok_yX10_frame w_1320 w_1158 ⟨Nat.le_of_ble_eq_true rfl, Nat.le_of_ble_eq_true rfl⟩ rfl hl.1 rfl (Nat.le_of_ble_eq_true rfl) dX12_push_37 ⟨(Nat.le_of_ble_eq_true rfl), (Nat.le_of_ble_eq_true rfl)⟩) hP hD hS hA [] [0, 1, 2, 3] rfl rfl rfl (by decide) (w2 := fun u2 => [(h1, .inr (10, [v0, .ref h2, v1, v2, v3, v4, v5, v6, v7, v8, v9, v10, v11, v12, v13, v14, v15])), (h3, .inl (K 4, 10, .inr (.inr (.inr (.inr f0))))), (h2, .inr (13, [.int (nI 1), .ref h3, .int (nI 1)])), (h0, .inr (12, [.int (nI 0), .ref h1])), ((u2 0), .inl (K 2, 4, .inl (fun _ => (-1))))]) (fun _ => rfl) (fun u2 H locs hP hD hS => ?_)
  refine w_tov (y := .ref (u2 0)) rfl ?_
  refine k_i (wr := [(h1, .inr (10, [v0, .ref h2, v1, v2, v3, v4, v5, v6, v7, v8, v9, v10, v11, v12, v13, v14, v15])), (h0, .inr (12, [.int (nI 0), .ref h1]))]) (run_V (rest := []) hx hb hml hown hts hK hP hD hS hA hm (C27_add l G D K H.size h2 h3 (u2 0) f0 (fun _ => (-1))) [2, 1, 4] rfl rfl mok_yJx4a65c_add_9ea2d w_1321 w_1161 w_1162 (rcv hK hP 2 rfl rfl rfl) ⟨Nat.le_of_ble_eq_true rfl, Nat.le_of_ble_eq_true rfl⟩ rfl hl.1 rfl (Nat.le_of_ble_eq_true rfl) dX12_push_40 ⟨(Nat.le_of_ble_eq_true rfl), (Nat.le_of_ble_eq_true rfl)⟩) hP hD hS hA [2, 1, 4] [0, 3] rfl rfl rfl (by decide) (w2 := fun u3 => [(h1, .inr (10, [v0, .ref h2, v1, v2, v3, v4, v5, v6, v7, v8, v9, v10, v11, v12, v13, v14, v15])), (h0, .inr (12, [.int (nI 0), .ref h1])), (h3, .inl (K 4, 10, .inr (.inr (.inr (.inr (va_up f0 1 (some (u2 0)))))))), ((u2 0), .inl (K 2, 4, .inl (fun _ => (-1)))), (h2, .inr (13, [.int (nI 2), .ref h3, .int (nI 2)]))]) (fun _ => rfl) (fun u3 H locs hP hD hS => ?_)
  refine lv_pop hx hb dX12_push_43 rfl ?_
  refine lv_aload_n hx hb dX12_push_44 rfl (lv_at hl 0 rfl) ?_
  refine r_get hx hb hts ok_RX12 hown hK hP 1 rfl rfl 1 (by decide) w_1294 (fun _ h9 => h9) rfl dX12_push_45 ?_
  refine r_get hx hb hts ok_RX10 hown hK hP 0 rfl rfl 1 (by decide) w_1227 (fun _ h9 => h9) rfl dX12_push_48 ?_
  refine k_i (wr := [(h1, .inr (10, [v0, .ref h2, v1, v2, v3, v4, v5, v6, v7, v8, v9, v10, v11, v12, v13, v14, v15])), (h0, .inr (12, [.int (nI 0), .ref h1])), (h3, .inl (K 4, 10, .inr (.inr (.inr (.inr (va_up f0 1 (some (u2 0)))))))), ((u2 0), .inl (K 2, 4, .inl (fun _ => (-1))))]) (run_V (rest := []) hx hb hml hown hts hK hP hD hS hA hm (C28_size l G D K H.size h2 (.int (nI 2)) (.ref h3)) [4] rfl rfl mok_yJx4a65c_size_8abf5 w_1308 w_1309 w_1310 (rcv hK hP 4 rfl rfl rfl) ⟨Nat.le_of_ble_eq_true rfl, Nat.le_of_ble_eq_true rfl⟩ rfl hl.1 rfl (Nat.le_of_ble_eq_true rfl) dX12_push_51 ⟨(Nat.le_of_ble_eq_true rfl), (Nat.le_of_ble_eq_true rfl)⟩) hP hD hS hA [4] [0, 1, 2, 3] rfl rfl rfl (by decide) (w2 := fun u4 => [(h1, .inr (10, [v0, .ref h2, v1, v2, v3, v4, v5, v6, v7, v8, v9, v10, v11, v12, v13, v14, v15])), (h0, .inr (12, [.int (nI 0), .ref h1])), (h3, .inl (K 4, 10, .inr (.inr (.inr (.inr (va_up f0 1 (some (u2 0)))))))), ((u2 0), .inl (K 2, 4, .inl (fun _ => (-1)))), (h2, .inr (13, [.int (nI 2), .ref h3, .int (nI 2)]))]) (fun _ => rfl) (fun u4 H locs hP hD hS => ?_)
  exact e_i hx hb hr hlk hP hD hS (fun k => match k with | 0 => (u2 0) | _ => 0) rfl (Nat.le_of_ble_eq_true rfl) (Nat.le_of_ble_eq_true rfl) rfl dX12_push_54
set_option maxHeartbeats 4000000 in
set_option maxRecDepth 100000 in
theorem C30_pop (l : Launch) (G : Nat → Nat) (D : va_G) (K : Nat → ClassId) (hl0 : l.stackTraces = false) (sz : Nat) (h0 h1 : Nat) (v0 v1 v2 v3 v4 v5 v6 v7 v8 v9 v10 : Value) : CMX l yX9_pop cX9_pop 1 (some FieldType.int) ({ frames := 6, cells := 1, slots := 6, locals := 90 } : Room) G D K [.ref h0] [(h0, .inr (9, [v0, .ref h1, v1, v2, v3, v4, v5, v6, v7])), (h1, .inr (4, [v8, v9, v10, .int (nI 1)]))] sz "java/lang/IllegalStateException" := by
  refine CMX_of (lv0 := [(0, .ref h0)]) pn_RX9 (Nat.le_of_ble_eq_true rfl) rfl (fun p e s m args below meth c A ls hx hb htab hml hown hts hlk hnm hP hK hD hS hA hm hl => ?_)
  have hown : s.vm.findClass RX9 = some m.cls := hown
  refine lv_aload_n hx hb dX9_pop_0 rfl (lv_at hl 0 rfl) ?_
  refine r_get hx hb hts ok_RX9 hown hK hP 0 rfl rfl 1 (by decide) w_259 (fun _ h9 => h9) rfl dX9_pop_1 ?_
  refine k_i (wr := [(h0, .inr (9, [v0, .ref h1, v1, v2, v3, v4, v5, v6, v7]))]) (run_V (rest := []) hx hb hml hown hts hK hP hD hS hA hm (C19_frames l G D K s.heap.size h1 (v8) (v9) (v10)) [1] rfl rfl mok_yX4_frames w_575 w_576 w_577 (rcv hK hP 1 rfl rfl rfl) ⟨Nat.le_of_ble_eq_true rfl, Nat.le_of_ble_eq_true rfl⟩ rfl hl.1 rfl (Nat.le_of_ble_eq_true rfl) dX9_pop_4 ⟨(Nat.le_of_ble_eq_true rfl), (Nat.le_of_ble_eq_true rfl)⟩) hP hD hS hA [1] [0] rfl rfl rfl (by decide) (w2 := fun u0 => [(h0, .inr (9, [v0, .ref h1, v1, v2, v3, v4, v5, v6, v7])), (h1, .inr (4, [v8, v9, v10, .int (nI 1)]))]) (fun _ => rfl) (fun u0 H locs hP hD hS => ?_)
  refine lv_iconst (v := nI 1) hx hb dX9_pop_7 (by decide +kernel) ?_
  refine lv_icmp_gt (tgt := 21) hx hb dX9_pop_8 (by decide) (fun c9 => absurd c9 (by decide +kernel)) (fun _ => ?_)
  exact x_throw (names := ["java/lang/RuntimeException", "java/lang/Exception"]) (text := "it is the only FRAME") hx hb hl0 htab hml hown hts hlk hS hm hl.1 (by decide +kernel) (by decide +kernel) w_750 w_22 (str_85) hat_ise_79 dX9_pop_11 dX9_pop_14 dX9_pop_15 dX9_pop_17 dX9_pop_20 (Nat.le_of_ble_eq_true rfl) (Nat.le_of_ble_eq_true rfl) (Nat.le_of_ble_eq_true rfl) (Nat.le_of_ble_eq_true rfl) (Nat.le_of_ble_eq_true rfl) (Nat.le_of_ble_eq_true rfl)
set_option maxHeartbeats 4000000 in
set_option maxRecDepth 100000 in
theorem C31_refuse (l : Launch) (G : Nat → Nat) (D : va_G) (K : Nat → ClassId) (sz : Nat) (h0 : Nat) (v0 : Value) : CM l yX12_refuse cX12_refuse 3 (some FieldType.boolean) ({ frames := 0, cells := 0, slots := 0, locals := 0 } : Room) G D K [.ref h0, .int (nI 1), .int (nI 1)] [(h0, .inr (12, [.int (nI 0), v0]))] sz (CQi (nI 1) D (fun _ => [(h0, .inr (12, [.int (nI 1), v0]))])) := by
  refine CM_of (lv0 := [(0, .ref h0), (1, .int (nI 1)), (2, .int (nI 1))]) pn_RX12 (Nat.le_of_ble_eq_true rfl) rfl (fun p e s m args below meth c A ls hx hb hr hml hown hts hlk hnm hP hK hD hS hA hm hl => ?_)
  have hown : s.vm.findClass RX12 = some m.cls := hown
  refine lv_iload_n hx hb dX12_refuse_0 rfl (lv_at hl 1 rfl) ?_
  refine lv_if_eq (tgt := 16) hx hb dX12_refuse_1 (by decide) (fun c9 => absurd c9 (by decide +kernel)) (fun _ => ?_)
  refine lv_aload_n hx hb dX12_refuse_4 rfl (lv_at hl 0 rfl) ?_
  refine r_get hx hb hts ok_RX12 hown hK hP 0 rfl rfl 0 (by decide) w_1293 (fun _ h9 => h9) rfl dX12_refuse_5 ?_
  refine lv_if_ne (tgt := 16) hx hb dX12_refuse_8 (by decide) (fun c9 => absurd (by decide +kernel) c9) (fun _ => ?_)
  refine lv_aload_n hx hb dX12_refuse_11 rfl (lv_at hl 0 rfl) ?_
  refine lv_iload_n hx hb dX12_refuse_12 rfl (lv_at hl 2 rfl) ?_
  refine r_put hx hb hts ok_RX12 hown hK hP hD hS 0 rfl rfl 0 (by decide) w_1293 (fun _ h9 => h9) rfl (v := .int (nI 1)) rfl rfl (Nat.le_of_ble_eq_true rfl) dX12_refuse_13 (ws' := [(h0, .inr (12, [.int (nI 1), v0]))]) rfl (fun H locs hP hD hS => ?_)
  refine lv_aload_n hx hb dX12_refuse_16 rfl (lv_at hl 0 rfl) ?_
  refine r_get hx hb hts ok_RX12 hown hK hP 0 rfl rfl 0 (by decide) w_1293 (fun _ h9 => h9) rfl dX12_refuse_17 ?_
  refine lv_if_le (tgt := 27) hx hb dX12_refuse_20 (by decide) (fun c9 => absurd c9 (by decide +kernel)) (fun _ => ?_)
  refine lv_iconst (v := nI 1) hx hb dX12_refuse_23 (by decide +kernel) ?_
  refine lv_goto (tgt := 28) hx hb dX12_refuse_24 (by decide) ?_
  exact e_z hx hb hr hlk hP hD hS (fun _ => 0) rfl (Nat.le_of_ble_eq_true rfl) (Nat.le_of_ble_eq_true rfl) rfl (Or.inr rfl) dX12_refuse_28
set_option maxHeartbeats 4000000 in
set_option maxRecDepth 100000 in
theorem C32_start (l : Launch) (G : Nat → Nat) (D : va_G) (K : Nat → ClassId) (sz : Nat) (h0 : Nat) (v0 : Value) : CM l yX12_start cX12_start 3 (some FieldType.boolean) ({ frames := 1, cells := 0, slots := 0, locals := 22 } : Room) G D K [.ref h0, .int (nI 1), .int (nI 1)] [(h0, .inr (12, [.int (nI 0), v0]))] sz (CQi (nI 1) D (fun _ => [(h0, .inr (12, [.int (nI 1), v0]))])) := by
  refine CM_of (lv0 := [(0, .ref h0), (1, .int (nI 1)), (2, .int (nI 1))]) pn_RX12 (Nat.le_of_ble_eq_true rfl) rfl (fun p e s m args below meth c A ls hx hb hr hml hown hts hlk hnm hP hK hD hS hA hm hl => ?_)
  have hown : s.vm.findClass RX12 = some m.cls := hown
  refine lv_aload_n hx hb dX12_start_0 rfl (lv_at hl 0 rfl) ?_
  refine lv_iconst (v := nI 0) hx hb dX12_start_1 (by decide +kernel) ?_
  refine r_put hx hb hts ok_RX12 hown hK hP hD hS 0 rfl rfl 0 (by decide) w_1293 (fun _ h9 => h9) rfl (v := .int (nI 0)) rfl rfl (Nat.le_of_ble_eq_true rfl) dX12_start_2 (ws' := [(h0, .inr (12, [.int (nI 0), v0]))]) rfl (fun H locs hP hD hS => ?_)
  refine lv_aload_n hx hb dX12_start_5 rfl (lv_at hl 0 rfl) ?_
  refine lv_iload_n hx hb dX12_start_6 rfl (lv_at hl 1 rfl) ?_
  refine lv_iload_n hx hb dX12_start_7 rfl (lv_at hl 2 rfl) ?_
  refine k_i (wr := []) (run_V (rest := []) hx hb hml hown hts hK hP hD hS hA hm (C31_refuse l G D K H.size h0 (v0)) [0] rfl rfl mok_yX12_refuse w_1316 w_1318 w_p31 (rcv hK hP 0 rfl rfl rfl) ⟨Nat.le_of_ble_eq_true rfl, Nat.le_of_ble_eq_true rfl⟩ rfl hl.1 rfl (Nat.le_of_ble_eq_true rfl) dX12_start_8 ⟨(Nat.le_of_ble_eq_true rfl), (Nat.le_of_ble_eq_true rfl)⟩) hP hD hS hA [0] [] rfl rfl rfl (by decide) (w2 := fun u0 => [(h0, .inr (12, [.int (nI 1), v0]))]) (fun _ => rfl) (fun u0 H locs hP hD hS => ?_)
  exact e_z hx hb hr hlk hP hD hS (fun _ => 0) rfl (Nat.le_of_ble_eq_true rfl) (Nat.le_of_ble_eq_true rfl) rfl (Or.inr rfl) dX12_start_11
set_option maxHeartbeats 4000000 in
set_option maxRecDepth 100000 in
theorem C33_pop (l : Launch) (G : Nat → Nat) (D : va_G) (K : Nat → ClassId) (sz : Nat) (h0 h1 h2 : Nat) (v0 v1 v2 v3 v4 v5 v6 v7 v8 v9 v10 v11 v12 v13 v14 v15 v16 v17 : Value) : CM l yX12_pop cX12_pop 1 (some FieldType.int) ({ frames := 2, cells := 0, slots := 0, locals := 44 } : Room) G D K [.ref h0] [(h0, .inr (12, [.int (nI 0), .ref h1])), (h1, .inr (10, [v0, .ref h2, v1, v2, v3, v4, v5, v6, v7, v8, v9, v10, v11, v12, v13, v14, v15])), (h2, .inr (13, [v16, v17, .int (nI 1)]))] sz (CQi (nI 0) D (fun _ => [(h1, .inr (10, [v0, .ref h2, v1, v2, v3, v4, v5, v6, v7, v8, v9, v10, v11, v12, v13, v14, v15])), (h2, .inr (13, [v16, v17, .int (nI 1)])), (h0, .inr (12, [.int (nI 1), .ref h1]))])) := by
  refine CM_of (lv0 := [(0, .ref h0)]) pn_RX12 (Nat.le_of_ble_eq_true rfl) rfl (fun p e s m args below meth c A ls hx hb hr hml hown hts hlk hnm hP hK hD hS hA hm hl => ?_)
  have hown : s.vm.findClass RX12 = some m.cls := hown
  refine lv_aload_n hx hb dX12_pop_0 rfl (lv_at hl 0 rfl) ?_
  refine lv_aload_n hx hb dX12_pop_1 rfl (lv_at hl 0 rfl) ?_
  refine r_get hx hb hts ok_RX12 hown hK hP 0 rfl rfl 1 (by decide) w_1294 (fun _ h9 => h9) rfl dX12_pop_2 ?_
  refine r_get hx hb hts ok_RX10 hown hK hP 1 rfl rfl 1 (by decide) w_1227 (fun _ h9 => h9) rfl dX12_pop_5 ?_
  refine k_i (wr := [(h0, .inr (12, [.int (nI 0), .ref h1])), (h1, .inr (10, [v0, .ref h2, v1, v2, v3, v4, v5, v6, v7, v8, v9, v10, v11, v12, v13, v14, v15]))]) (run_V (rest := [.ref h0]) hx hb hml hown hts hK hP hD hS hA hm (C23_size l G D K s.heap.size h2 (v16) (v17)) [2] rfl rfl mok_yJx4a65c_size_8abf5 w_1308 w_1309 w_1310 (rcv hK hP 2 rfl rfl rfl) ⟨Nat.le_of_ble_eq_true rfl, Nat.le_of_ble_eq_true rfl⟩ rfl hl.1 rfl (Nat.le_of_ble_eq_true rfl) dX12_pop_8 ⟨(Nat.le_of_ble_eq_true rfl), (Nat.le_of_ble_eq_true rfl)⟩) hP hD hS hA [2] [0, 1] rfl rfl rfl (by decide) (w2 := fun u0 => [(h0, .inr (12, [.int (nI 0), .ref h1])), (h1, .inr (10, [v0, .ref h2, v1, v2, v3, v4, v5, v6, v7, v8, v9, v10, v11, v12, v13, v14, v15])), (h2, .inr (13, [v16, v17, .int (nI 1)]))]) (fun _ => rfl) (fun u0 H locs hP hD hS => ?_)
  refine lv_iconst (v := nI 1) hx hb dX12_pop_11 (by decide +kernel) ?_
  refine lv_icmp_ne (tgt := 19) hx hb dX12_pop_12 (by decide) (fun c9 => absurd (by decide +kernel) c9) (fun _ => ?_)
  refine lv_iconst (v := nI 1) hx hb dX12_pop_15 (by decide +kernel) ?_
  refine lv_goto (tgt := 20) hx hb dX12_pop_16 (by decide) ?_
  refine lv_iconst (v := nI 1) hx hb dX12_pop_20 (by decide +kernel) ?_
  refine k_i (wr := [(h1, .inr (10, [v0, .ref h2, v1, v2, v3, v4, v5, v6, v7, v8, v9, v10, v11, v12, v13, v14, v15])), (h2, .inr (13, [v16, v17, .int (nI 1)]))]) (run_V (rest := []) hx hb hml hown hts hK hP hD hS hA hm (C32_start l G D K H.size h0 (.ref h1)) [0] rfl rfl mok_yX12_start w_1312 w_1314 w_p30 (rcv hK hP 0 rfl rfl rfl) ⟨Nat.le_of_ble_eq_true rfl, Nat.le_of_ble_eq_true rfl⟩ rfl hl.1 rfl (Nat.le_of_ble_eq_true rfl) dX12_pop_21 ⟨(Nat.le_of_ble_eq_true rfl), (Nat.le_of_ble_eq_true rfl)⟩) hP hD hS hA [0] [1, 2] rfl rfl rfl (by decide) (w2 := fun u1 => [(h1, .inr (10, [v0, .ref h2, v1, v2, v3, v4, v5, v6, v7, v8, v9, v10, v11, v12, v13, v14, v15])), (h2, .inr (13, [v16, v17, .int (nI 1)])), (h0, .inr (12, [.int (nI 1), .ref h1]))]) (fun _ => rfl) (fun u1 H locs hP hD hS => ?_)
  refine lv_if_eq (tgt := 29) hx hb dX12_pop_24 (by decide) (fun c9 => absurd c9 (by decide +kernel)) (fun _ => ?_)
  refine lv_iconst (v := nI 0) hx hb dX12_pop_27 (by decide +kernel) ?_
  exact e_i hx hb hr hlk hP hD hS (fun _ => 0) rfl (Nat.le_of_ble_eq_true rfl) (Nat.le_of_ble_eq_true rfl) rfl dX12_pop_28
set_option maxHeartbeats 4000000 in
set_option maxRecDepth 100000 in
theorem C34_requireSlot (l : Launch) (G : Nat → Nat) (D : va_G) (K : Nat → ClassId) (hl0 : l.stackTraces = false) (sz : Nat) (x0 : Int32) (hx0 : x0 < 0) : CMX l yX9_requireSlot cX9_requireSlot 1 (none : Option FieldType) ({ frames := 6, cells := 1, slots := 6, locals := 90 } : Room) G D K [.int x0] [] sz "java/lang/IndexOutOfBoundsException" := by
  refine CMX_of (lv0 := [(0, .int x0)]) pn_RX9 (Nat.le_of_ble_eq_true rfl) rfl (fun p e s m args below meth c A ls hx hb htab hml hown hts hlk hnm hP hK hD hS hA hm hl => ?_)
  have hown : s.vm.findClass RX9 = some m.cls := hown
  refine lv_iload_n hx hb dX9_requireSlot_0 rfl (lv_at hl 0 rfl) ?_
  refine lv_if_lt (tgt := 9) hx hb dX9_requireSlot_1 (by decide) (fun _ => ?_) (fun c9 => absurd (ng_lt hx0 (n := 0) (by omega)) c9)
  exact x_throwW (names := ["java/lang/RuntimeException", "java/lang/Exception"]) (text := "no such SLOT") hx hb hl0 htab hml hown hts hlk hS hm hl.1 (by decide +kernel) (by decide +kernel) w_667 w_25 (str_387) hat_iobe_174 dX9_requireSlot_9 dX9_requireSlot_12 dX9_requireSlot_13 dX9_requireSlot_16 dX9_requireSlot_19 (Nat.le_of_ble_eq_true rfl) (Nat.le_of_ble_eq_true rfl) (Nat.le_of_ble_eq_true rfl) (Nat.le_of_ble_eq_true rfl) (Nat.le_of_ble_eq_true rfl) (Nat.le_of_ble_eq_true rfl)
set_option maxHeartbeats 4000000 in
set_option maxRecDepth 100000 in
theorem C35_make (l : Launch) (G : Nat → Nat) (D : va_G) (K : Nat → ClassId) (hl0 : l.stackTraces = false) (sz : Nat) (a0 : Nat) (x0 : Int32) (hx0 : x0 < 0) (x1 : Int32) (hx1 : x1 < 0) (o0 : Int32) : CMX l yX9_make cX9_make 6 (some FieldType.int) ({ frames := 7, cells := 1, slots := 6, locals := 110 } : Room) G D K [.ref a0, .int x0, .int x1, .int o0] [] sz "java/lang/IndexOutOfBoundsException" := by
  refine CMX_of (lv0 := [(0, .ref a0), (1, .int x0), (2, .int x1), (3, .int o0)]) pn_RX9 (Nat.le_of_ble_eq_true rfl) rfl (fun p e s m args below meth c A ls hx hb htab hml hown hts hlk hnm hP hK hD hS hA hm hl => ?_)
  have hown : s.vm.findClass RX9 = some m.cls := hown
  refine lv_iload_n hx hb dX9_make_0 rfl (lv_at hl 1 rfl) ?_
  exact k_x (xun_S (rest := []) hx hb hml hown hts hK hP hD hS hA hm (C34_requireSlot l G D K hl0 s.heap.size x0 hx0) [] rfl rfl mok_yX9_requireSlot w_687 w_688 ⟨Nat.le_of_ble_eq_true rfl, Nat.le_of_ble_eq_true rfl⟩ rfl hl.1 rfl (Nat.le_of_ble_eq_true rfl) dX9_make_1 ⟨(Nat.le_of_ble_eq_true rfl), (Nat.le_of_ble_eq_true rfl)⟩) htab hlk hD hS hA [] rfl (Nat.le_of_ble_eq_true rfl) (Nat.le_of_ble_eq_true rfl)
set_option maxHeartbeats 4000000 in
set_option maxRecDepth 100000 in
theorem C36_isIn (l : Launch) (G : Nat → Nat) (D : va_G) (K : Nat → ClassId) (sz : Nat) (x0 : Int32) (hx0 : x0 < 0) : CM l yX12_isIn cX12_isIn 3 (some FieldType.boolean) ({ frames := 0, cells := 0, slots := 0, locals := 0 } : Room) G D K [.int x0, .int (nI 0), .int (nI 3)] [] sz (CQi (nI 0) D (fun _ => [])) := by
  refine CM_of (lv0 := [(0, .int x0), (1, .int (nI 0)), (2, .int (nI 3))]) pn_RX12 (Nat.le_of_ble_eq_true rfl) rfl (fun p e s m args below meth c A ls hx hb hr hml hown hts hlk hnm hP hK hD hS hA hm hl => ?_)
  have hown : s.vm.findClass RX12 = some m.cls := hown
  refine lv_iload_n hx hb dX12_isIn_0 rfl (lv_at hl 0 rfl) ?_
  refine lv_iload_n hx hb dX12_isIn_1 rfl (lv_at hl 1 rfl) ?_
  refine lv_icmp_lt (tgt := 14) hx hb dX12_isIn_2 (by decide) (fun _ => ?_) (fun c9 => absurd (ng_lt hx0 (n := 0) (by omega)) c9)
  refine lv_iconst (v := nI 0) hx hb dX12_isIn_14 (by decide +kernel) ?_
  exact e_z hx hb hr hlk hP hD hS (fun _ => 0) rfl (Nat.le_of_ble_eq_true rfl) (Nat.le_of_ble_eq_true rfl) rfl (Or.inl rfl) dX12_isIn_15
set_option maxHeartbeats 4000000 in
set_option maxRecDepth 100000 in
theorem C37_isNo (l : Launch) (G : Nat → Nat) (D : va_G) (K : Nat → ClassId) (sz : Nat) (x0 : Int32) (hx0 : x0 < 0) : CM l yX12_isNo cX12_isNo 1 (some FieldType.boolean) ({ frames := 1, cells := 0, slots := 0, locals := 22 } : Room) G D K [.int x0] [] sz (CQi (nI 1) D (fun _ => [])) := by
  refine CM_of (lv0 := [(0, .int x0)]) pn_RX12 (Nat.le_of_ble_eq_true rfl) rfl (fun p e s m args below meth c A ls hx hb hr hml hown hts hlk hnm hP hK hD hS hA hm hl => ?_)
  have hown : s.vm.findClass RX12 = some m.cls := hown
  refine lv_iload_n hx hb dX12_isNo_0 rfl (lv_at hl 0 rfl) ?_
  refine lv_iconst (v := nI 0) hx hb dX12_isNo_1 (by decide +kernel) ?_
  refine lv_iconst (v := nI 3) hx hb dX12_isNo_2 (by decide +kernel) ?_
  refine k_i (wr := []) (run_S (rest := []) hx hb hml hown hts hK hP hD hS hA hm (C36_isIn l G D K s.heap.size x0 hx0) [] rfl rfl mok_yX12_isIn w_1352 w_1353 ⟨Nat.le_of_ble_eq_true rfl, Nat.le_of_ble_eq_true rfl⟩ rfl hl.1 rfl (Nat.le_of_ble_eq_true rfl) dX12_isNo_3 ⟨(Nat.le_of_ble_eq_true rfl), (Nat.le_of_ble_eq_true rfl)⟩) hP hD hS hA [] [] rfl rfl rfl (by decide) (w2 := fun u0 => []) (fun _ => rfl) (fun u0 H locs hP hD hS => ?_)
  refine lv_if_ne (tgt := 13) hx hb dX12_isNo_6 (by decide) (fun c9 => absurd (by decide +kernel) c9) (fun _ => ?_)
  refine lv_iconst (v := nI 1) hx hb dX12_isNo_9 (by decide +kernel) ?_
  refine lv_goto (tgt := 14) hx hb dX12_isNo_10 (by decide) ?_
  exact e_z hx hb hr hlk hP hD hS (fun _ => 0) rfl (Nat.le_of_ble_eq_true rfl) (Nat.le_of_ble_eq_true rfl) rfl (Or.inr rfl) dX12_isNo_14
set_option maxHeartbeats 4000000 in
set_option maxRecDepth 100000 in
theorem C38_isNoSlot (l : Launch) (G : Nat → Nat) (D : va_G) (K : Nat → ClassId) (sz : Nat) (h0 : Nat) (v0 : Value) (x0 : Int32) (hx0 : x0 < 0) : CM l yX12_isNoSlot cX12_isNoSlot 2 (some FieldType.boolean) ({ frames := 2, cells := 0, slots := 0, locals := 44 } : Room) G D K [.ref h0, .int x0] [(h0, .inr (12, [.int (nI 0), v0]))] sz (CQi (nI 1) D (fun _ => [(h0, .inr (12, [.int (nI 1), v0]))])) := by
  refine CM_of (lv0 := [(0, .ref h0), (1, .int x0)]) pn_RX12 (Nat.le_of_ble_eq_true rfl) rfl (fun p e s m args below meth c A ls hx hb hr hml hown hts hlk hnm hP hK hD hS hA hm hl => ?_)
  have hown : s.vm.findClass RX12 = some m.cls := hown
  refine lv_aload_n hx hb dX12_isNoSlot_0 rfl (lv_at hl 0 rfl) ?_
  refine lv_iload_n hx hb dX12_isNoSlot_1 rfl (lv_at hl 1 rfl) ?_
  refine k_i (wr := [(h0, .inr (12, [.int (nI 0), v0]))]) (run_S (rest := [.ref h0]) hx hb hml hown hts hK hP hD hS hA hm (C37_isNo l G D K s.heap.size x0 hx0) [] rfl rfl mok_yX12_isNo w_1349 w_1350 ⟨Nat.le_of_ble_eq_true rfl, Nat.le_of_ble_eq_true rfl⟩ rfl hl.1 rfl (Nat.le_of_ble_eq_true rfl) dX12_isNoSlot_2 ⟨(Nat.le_of_ble_eq_true rfl), (Nat.le_of_ble_eq_true rfl)⟩) hP hD hS hA [] [0] rfl rfl rfl (by decide) (w2 := fun u0 => [(h0, .inr (12, [.int (nI 0), v0]))]) (fun _ => rfl) (fun u0 H locs hP hD hS => ?_)
  refine lv_iconst (v := nI 1) hx hb dX12_isNoSlot_5 (by decide +kernel) ?_
  refine k_i (wr := []) (run_V (rest := []) hx hb hml hown hts hK hP hD hS hA hm (C32_start l G D K H.size h0 (v0)) [0] rfl rfl mok_yX12_start w_1312 w_1314 w_p30 (rcv hK hP 0 rfl rfl rfl) ⟨Nat.le_of_ble_eq_true rfl, Nat.le_of_ble_eq_true rfl⟩ rfl hl.1 rfl (Nat.le_of_ble_eq_true rfl) dX12_isNoSlot_6 ⟨(Nat.le_of_ble_eq_true rfl), (Nat.le_of_ble_eq_true rfl)⟩) hP hD hS hA [0] [] rfl rfl rfl (by decide) (w2 := fun u1 => [(h0, .inr (12, [.int (nI 1), v0]))]) (fun _ => rfl) (fun u1 H locs hP hD hS => ?_)
  exact e_z hx hb hr hlk hP hD hS (fun _ => 0) rfl (Nat.le_of_ble_eq_true rfl) (Nat.le_of_ble_eq_true rfl) rfl (Or.inr rfl) dX12_isNoSlot_9
set_option maxHeartbeats 4000000 in
set_option maxRecDepth 100000 in
theorem C39_make (l : Launch) (G : Nat → Nat) (D : va_G) (K : Nat → ClassId) (sz : Nat) (h0 : Nat) (v0 : Value) (x0 : Int32) (hx0 : x0 < 0) (x1 : Int32) (hx1 : x1 < 0) (o0 : Int32) : CM l yX12_make cX12_make 6 (some FieldType.int) ({ frames := 3, cells := 0, slots := 0, locals := 65 } : Room) G D K [.ref h0, .int x0, .int x1, .int o0] [(h0, .inr (12, [.int (nI 0), v0]))] sz (CQi (nI 0) D (fun _ => [(h0, .inr (12, [.int (nI 1), v0]))])) := by
  refine CM_of (lv0 := [(0, .ref h0), (1, .int x0), (2, .int x1), (3, .int o0)]) pn_RX12 (Nat.le_of_ble_eq_true rfl) rfl (fun p e s m args below meth c A ls hx hb hr hml hown hts hlk hnm hP hK hD hS hA hm hl => ?_)
  have hown : s.vm.findClass RX12 = some m.cls := hown
  refine lv_iload_n hx hb dX12_make_0 rfl (lv_at hl 2 rfl) ?_
  refine lv_iconst (v := nI 3) hx hb dX12_make_1 (by decide +kernel) ?_
  refine lv_icmp_ne (tgt := 9) hx hb dX12_make_2 (by decide) (fun _ => ?_) (fun c9 => absurd c9 (ng_eqN hx1 (n := 3) (by omega)))
  refine lv_iload_n hx hb dX12_make_9 rfl (lv_at hl 2 rfl) ?_
  refine lv_iconst (v := nI 1) hx hb dX12_make_10 (by decide +kernel) ?_
  refine lv_icmp_eq (tgt := 19) hx hb dX12_make_11 (by decide) (fun c9 => absurd c9 (ng_eqN hx1 (n := 1) (by omega))) (fun _ => ?_)
  refine lv_iload_n hx hb dX12_make_14 rfl (lv_at hl 2 rfl) ?_
  refine lv_iconst (v := nI 2) hx hb dX12_make_15 (by decide +kernel) ?_
  refine lv_icmp_ne (tgt := 23) hx hb dX12_make_16 (by decide) (fun _ => ?_) (fun c9 => absurd c9 (ng_eqN hx1 (n := 2) (by omega)))
  refine lv_iconst (v := nI 0) hx hb dX12_make_23 (by decide +kernel) ?_
  refine lv_istore (lv' := [(4, .int (nI 0)), (0, .ref h0), (1, .int x0), (2, .int x1), (3, .int o0)]) hx hb dX12_make_24 hl (by decide) rfl (fun ls hl => ?_)
  refine lv_aload_n hx hb dX12_make_26 rfl (lv_at hl 1 rfl) ?_
  refine lv_iload_n hx hb dX12_make_27 rfl (lv_at hl 2 rfl) ?_
  refine k_i (wr := []) (run_V (rest := []) hx hb hml hown hts hK hP hD hS hA hm (C38_isNoSlot l G D K s.heap.size h0 (v0) x0 hx0) [0] rfl rfl mok_yX12_isNoSlot w_1345 w_1347 w_p33 (rcv hK hP 0 rfl rfl rfl) ⟨Nat.le_of_ble_eq_true rfl, Nat.le_of_ble_eq_true rfl⟩ rfl hl.1 rfl (Nat.le_of_ble_eq_true rfl) dX12_make_28 ⟨(Nat.le_of_ble_eq_true rfl), (Nat.le_of_ble_eq_true rfl)⟩) hP hD hS hA [0] [] rfl rfl rfl (by decide) (w2 := fun u0 => [(h0, .inr (12, [.int (nI 1), v0]))]) (fun _ => rfl) (fun u0 H locs hP hD hS => ?_)
  refine lv_if_ne (tgt := 96) hx hb dX12_make_31 (by decide) (fun _ => ?_) (fun c9 => absurd c9 (by decide +kernel))
  refine lv_iconst (v := nI 0) hx hb dX12_make_96 (by decide +kernel) ?_
  exact e_i hx hb hr hlk hP hD hS (fun _ => 0) rfl (Nat.le_of_ble_eq_true rfl) (Nat.le_of_ble_eq_true rfl) rfl dX12_make_97
set_option maxHeartbeats 4000000 in
set_option maxRecDepth 100000 in
theorem C40_make (l : Launch) (G : Nat → Nat) (D : va_G) (K : Nat → ClassId) (hl0 : l.stackTraces = false) (sz : Nat) (a0 : Nat) (x0 : Int32) (hx0 : x0 < 0) (o0 : Int32) : CMX l yX9_make cX9_make 6 (some FieldType.int) ({ frames := 7, cells := 1, slots := 6, locals := 110 } : Room) G D K [.ref a0, .int x0, .int (nI 0), .int o0] [] sz "java/lang/IndexOutOfBoundsException" := by
  refine CMX_of (lv0 := [(0, .ref a0), (1, .int x0), (2, .int (nI 0)), (3, .int o0)]) pn_RX9 (Nat.le_of_ble_eq_true rfl) rfl (fun p e s m args below meth c A ls hx hb htab hml hown hts hlk hnm hP hK hD hS hA hm hl => ?_)
  have hown : s.vm.findClass RX9 = some m.cls := hown
  refine lv_iload_n hx hb dX9_make_0 rfl (lv_at hl 1 rfl) ?_
  exact k_x (xun_S (rest := []) hx hb hml hown hts hK hP hD hS hA hm (C34_requireSlot l G D K hl0 s.heap.size x0 hx0) [] rfl rfl mok_yX9_requireSlot w_687 w_688 ⟨Nat.le_of_ble_eq_true rfl, Nat.le_of_ble_eq_true rfl⟩ rfl hl.1 rfl (Nat.le_of_ble_eq_true rfl) dX9_make_1 ⟨(Nat.le_of_ble_eq_true rfl), (Nat.le_of_ble_eq_true rfl)⟩) htab hlk hD hS hA [] rfl (Nat.le_of_ble_eq_true rfl) (Nat.le_of_ble_eq_true rfl)
set_option maxHeartbeats 4000000 in
set_option maxRecDepth 100000 in
theorem C41_make (l : Launch) (G : Nat → Nat) (D : va_G) (K : Nat → ClassId) (sz : Nat) (h0 : Nat) (v0 : Value) (x0 : Int32) (hx0 : x0 < 0) (o0 : Int32) : CM l yX12_make cX12_make 6 (some FieldType.int) ({ frames := 3, cells := 0, slots := 0, locals := 65 } : Room) G D K [.ref h0, .int x0, .int (nI 0), .int o0] [(h0, .inr (12, [.int (nI 0), v0]))] sz (CQi (nI 0) D (fun _ => [(h0, .inr (12, [.int (nI 1), v0]))])) := by
  refine CM_of (lv0 := [(0, .ref h0), (1, .int x0), (2, .int (nI 0)), (3, .int o0)]) pn_RX12 (Nat.le_of_ble_eq_true rfl) rfl (fun p e s m args below meth c A ls hx hb hr hml hown hts hlk hnm hP hK hD hS hA hm hl => ?_)
  have hown : s.vm.findClass RX12 = some m.cls := hown
  refine lv_iload_n hx hb dX12_make_0 rfl (lv_at hl 2 rfl) ?_
  refine lv_iconst (v := nI 3) hx hb dX12_make_1 (by decide +kernel) ?_
  refine lv_icmp_ne (tgt := 9) hx hb dX12_make_2 (by decide) (fun _ => ?_) (fun c9 => absurd c9 (by decide +kernel))
  refine lv_iload_n hx hb dX12_make_9 rfl (lv_at hl 2 rfl) ?_
  refine lv_iconst (v := nI 1) hx hb dX12_make_10 (by decide +kernel) ?_
  refine lv_icmp_eq (tgt := 19) hx hb dX12_make_11 (by decide) (fun c9 => absurd c9 (by decide +kernel)) (fun _ => ?_)
  refine lv_iload_n hx hb dX12_make_14 rfl (lv_at hl 2 rfl) ?_
  refine lv_iconst (v := nI 2) hx hb dX12_make_15 (by decide +kernel) ?_
  refine lv_icmp_ne (tgt := 23) hx hb dX12_make_16 (by decide) (fun _ => ?_) (fun c9 => absurd c9 (by decide +kernel))
  refine lv_iconst (v := nI 0) hx hb dX12_make_23 (by decide +kernel) ?_
  refine lv_istore (lv' := [(4, .int (nI 0)), (0, .ref h0), (1, .int x0), (2, .int (nI 0)), (3, .int o0)]) hx hb dX12_make_24 hl (by decide) rfl (fun ls hl => ?_)
  refine lv_aload_n hx hb dX12_make_26 rfl (lv_at hl 1 rfl) ?_
  refine lv_iload_n hx hb dX12_make_27 rfl (lv_at hl 2 rfl) ?_
  refine k_i (wr := []) (run_V (rest := []) hx hb hml hown hts hK hP hD hS hA hm (C38_isNoSlot l G D K s.heap.size h0 (v0) x0 hx0) [0] rfl rfl mok_yX12_isNoSlot w_1345 w_1347 w_p33 (rcv hK hP 0 rfl rfl rfl) ⟨Nat.le_of_ble_eq_true rfl, Nat.le_of_ble_eq_true rfl⟩ rfl hl.1 rfl (Nat.le_of_ble_eq_true rfl) dX12_make_28 ⟨(Nat.le_of_ble_eq_true rfl), (Nat.le_of_ble_eq_true rfl)⟩) hP hD hS hA [0] [] rfl rfl rfl (by decide) (w2 := fun u0 => [(h0, .inr (12, [.int (nI 1), v0]))]) (fun _ => rfl) (fun u0 H locs hP hD hS => ?_)
  refine lv_if_ne (tgt := 96) hx hb dX12_make_31 (by decide) (fun _ => ?_) (fun c9 => absurd c9 (by decide +kernel))
  refine lv_iconst (v := nI 0) hx hb dX12_make_96 (by decide +kernel) ?_
  exact e_i hx hb hr hlk hP hD hS (fun _ => 0) rfl (Nat.le_of_ble_eq_true rfl) (Nat.le_of_ble_eq_true rfl) rfl dX12_make_97
set_option maxHeartbeats 4000000 in
set_option maxRecDepth 100000 in
theorem C42_make (l : Launch) (G : Nat → Nat) (D : va_G) (K : Nat → ClassId) (hl0 : l.stackTraces = false) (sz : Nat) (a0 : Nat) (x0 : Int32) (hx0 : x0 < 0) (o0 : Int32) : CMX l yX9_make cX9_make 6 (some FieldType.int) ({ frames := 7, cells := 1, slots := 6, locals := 110 } : Room) G D K [.ref a0, .int x0, .int (nI 1), .int o0] [] sz "java/lang/IndexOutOfBoundsException" := by
  refine CMX_of (lv0 := [(0, .ref a0), (1, .int x0), (2, .int (nI 1)), (3, .int o0)]) pn_RX9 (Nat.le_of_ble_eq_true rfl) rfl (fun p e s m args below meth c A ls hx hb htab hml hown hts hlk hnm hP hK hD hS hA hm hl => ?_)
  have hown : s.vm.findClass RX9 = some m.cls := hown
  refine lv_iload_n hx hb dX9_make_0 rfl (lv_at hl 1 rfl) ?_
  exact k_x (xun_S (rest := []) hx hb hml hown hts hK hP hD hS hA hm (C34_requireSlot l G D K hl0 s.heap.size x0 hx0) [] rfl rfl mok_yX9_requireSlot w_687 w_688 ⟨Nat.le_of_ble_eq_true rfl, Nat.le_of_ble_eq_true rfl⟩ rfl hl.1 rfl (Nat.le_of_ble_eq_true rfl) dX9_make_1 ⟨(Nat.le_of_ble_eq_true rfl), (Nat.le_of_ble_eq_true rfl)⟩) htab hlk hD hS hA [] rfl (Nat.le_of_ble_eq_true rfl) (Nat.le_of_ble_eq_true rfl)
set_option maxHeartbeats 4000000 in
set_option maxRecDepth 100000 in
theorem C43_make (l : Launch) (G : Nat → Nat) (D : va_G) (K : Nat → ClassId) (sz : Nat) (h0 : Nat) (v0 : Value) (x0 : Int32) (hx0 : x0 < 0) (o0 : Int32) : CM l yX12_make cX12_make 6 (some FieldType.int) ({ frames := 3, cells := 0, slots := 0, locals := 65 } : Room) G D K [.ref h0, .int x0, .int (nI 1), .int o0] [(h0, .inr (12, [.int (nI 0), v0]))] sz (CQi (nI 0) D (fun _ => [(h0, .inr (12, [.int (nI 1), v0]))])) := by
  refine CM_of (lv0 := [(0, .ref h0), (1, .int x0), (2, .int (nI 1)), (3, .int o0)]) pn_RX12 (Nat.le_of_ble_eq_true rfl) rfl (fun p e s m args below meth c A ls hx hb hr hml hown hts hlk hnm hP hK hD hS hA hm hl => ?_)
  have hown : s.vm.findClass RX12 = some m.cls := hown
  refine lv_iload_n hx hb dX12_make_0 rfl (lv_at hl 2 rfl) ?_
  refine lv_iconst (v := nI 3) hx hb dX12_make_1 (by decide +kernel) ?_
  refine lv_icmp_ne (tgt := 9) hx hb dX12_make_2 (by decide) (fun _ => ?_) (fun c9 => absurd c9 (by decide +kernel))
  refine lv_iload_n hx hb dX12_make_9 rfl (lv_at hl 2 rfl) ?_
  refine lv_iconst (v := nI 1) hx hb dX12_make_10 (by decide +kernel) ?_
  refine lv_icmp_eq (tgt := 19) hx hb dX12_make_11 (by decide) (fun _ => ?_) (fun c9 => absurd (by decide +kernel) c9)
  refine lv_iconst (v := nI 1) hx hb dX12_make_19 (by decide +kernel) ?_
  refine lv_goto (tgt := 24) hx hb dX12_make_20 (by decide) ?_
  refine lv_istore (lv' := [(4, .int (nI 1)), (0, .ref h0), (1, .int x0), (2, .int (nI 1)), (3, .int o0)]) hx hb dX12_make_24 hl (by decide) rfl (fun ls hl => ?_)
  refine lv_aload_n hx hb dX12_make_26 rfl (lv_at hl 1 rfl) ?_
  refine lv_iload_n hx hb dX12_make_27 rfl (lv_at hl 2 rfl) ?_
  refine k_i (wr := []) (run_V (rest := []) hx hb hml hown hts hK hP hD hS hA hm (C38_isNoSlot l G D K s.heap.size h0 (v0) x0 hx0) [0] rfl rfl mok_yX12_isNoSlot w_1345 w_1347 w_p33 (rcv hK hP 0 rfl rfl rfl) ⟨Nat.le_of_ble_eq_true rfl, Nat.le_of_ble_eq_true rfl⟩ rfl hl.1 rfl (Nat.le_of_ble_eq_true rfl) dX12_make_28 ⟨(Nat.le_of_ble_eq_true rfl), (Nat.le_of_ble_eq_true rfl)⟩) hP hD hS hA [0] [] rfl rfl rfl (by decide) (w2 := fun u0 => [(h0, .inr (12, [.int (nI 1), v0]))]) (fun _ => rfl) (fun u0 H locs hP hD hS => ?_)
  refine lv_if_ne (tgt := 96) hx hb dX12_make_31 (by decide) (fun _ => ?_) (fun c9 => absurd c9 (by decide +kernel))
  refine lv_iconst (v := nI 0) hx hb dX12_make_96 (by decide +kernel) ?_
  exact e_i hx hb hr hlk hP hD hS (fun _ => 0) rfl (Nat.le_of_ble_eq_true rfl) (Nat.le_of_ble_eq_true rfl) rfl dX12_make_97
set_option maxHeartbeats 4000000 in
set_option maxRecDepth 100000 in
theorem C44_make (l : Launch) (G : Nat → Nat) (D : va_G) (K : Nat → ClassId) (hl0 : l.stackTraces = false) (sz : Nat) (a0 : Nat) (x0 : Int32) (hx0 : x0 < 0) (o0 : Int32) : CMX l yX9_make cX9_make 6 (some FieldType.int) ({ frames := 7, cells := 1, slots := 6, locals := 110 } : Room) G D K [.ref a0, .int x0, .int (nI 2), .int o0] [] sz "java/lang/IndexOutOfBoundsException" := by
  refine CMX_of (lv0 := [(0, .ref a0), (1, .int x0), (2, .int (nI 2)), (3, .int o0)]) pn_RX9 (Nat.le_of_ble_eq_true rfl) rfl (fun p e s m args below meth c A ls hx hb htab hml hown hts hlk hnm hP hK hD hS hA hm hl => ?_)
  have hown : s.vm.findClass RX9 = some m.cls := hown
  refine lv_iload_n hx hb dX9_make_0 rfl (lv_at hl 1 rfl) ?_
  exact k_x (xun_S (rest := []) hx hb hml hown hts hK hP hD hS hA hm (C34_requireSlot l G D K hl0 s.heap.size x0 hx0) [] rfl rfl mok_yX9_requireSlot w_687 w_688 ⟨Nat.le_of_ble_eq_true rfl, Nat.le_of_ble_eq_true rfl⟩ rfl hl.1 rfl (Nat.le_of_ble_eq_true rfl) dX9_make_1 ⟨(Nat.le_of_ble_eq_true rfl), (Nat.le_of_ble_eq_true rfl)⟩) htab hlk hD hS hA [] rfl (Nat.le_of_ble_eq_true rfl) (Nat.le_of_ble_eq_true rfl)
set_option maxHeartbeats 4000000 in
set_option maxRecDepth 100000 in
theorem C45_make (l : Launch) (G : Nat → Nat) (D : va_G) (K : Nat → ClassId) (sz : Nat) (h0 : Nat) (v0 : Value) (x0 : Int32) (hx0 : x0 < 0) (o0 : Int32) : CM l yX12_make cX12_make 6 (some FieldType.int) ({ frames := 3, cells := 0, slots := 0, locals := 65 } : Room) G D K [.ref h0, .int x0, .int (nI 2), .int o0] [(h0, .inr (12, [.int (nI 0), v0]))] sz (CQi (nI 0) D (fun _ => [(h0, .inr (12, [.int (nI 1), v0]))])) := by
  refine CM_of (lv0 := [(0, .ref h0), (1, .int x0), (2, .int (nI 2)), (3, .int o0)]) pn_RX12 (Nat.le_of_ble_eq_true rfl) rfl (fun p e s m args below meth c A ls hx hb hr hml hown hts hlk hnm hP hK hD hS hA hm hl => ?_)
  have hown : s.vm.findClass RX12 = some m.cls := hown
  refine lv_iload_n hx hb dX12_make_0 rfl (lv_at hl 2 rfl) ?_
  refine lv_iconst (v := nI 3) hx hb dX12_make_1 (by decide +kernel) ?_
  refine lv_icmp_ne (tgt := 9) hx hb dX12_make_2 (by decide) (fun _ => ?_) (fun c9 => absurd c9 (by decide +kernel))
  refine lv_iload_n hx hb dX12_make_9 rfl (lv_at hl 2 rfl) ?_
  refine lv_iconst (v := nI 1) hx hb dX12_make_10 (by decide +kernel) ?_
  refine lv_icmp_eq (tgt := 19) hx hb dX12_make_11 (by decide) (fun c9 => absurd c9 (by decide +kernel)) (fun _ => ?_)
  refine lv_iload_n hx hb dX12_make_14 rfl (lv_at hl 2 rfl) ?_
  refine lv_iconst (v := nI 2) hx hb dX12_make_15 (by decide +kernel) ?_
  refine lv_icmp_ne (tgt := 23) hx hb dX12_make_16 (by decide) (fun c9 => absurd (by decide +kernel) c9) (fun _ => ?_)
  refine lv_iconst (v := nI 1) hx hb dX12_make_19 (by decide +kernel) ?_
  refine lv_goto (tgt := 24) hx hb dX12_make_20 (by decide) ?_
  refine lv_istore (lv' := [(4, .int (nI 1)), (0, .ref h0), (1, .int x0), (2, .int (nI 2)), (3, .int o0)]) hx hb dX12_make_24 hl (by decide) rfl (fun ls hl => ?_)
  refine lv_aload_n hx hb dX12_make_26 rfl (lv_at hl 1 rfl) ?_
  refine lv_iload_n hx hb dX12_make_27 rfl (lv_at hl 2 rfl) ?_
  refine k_i (wr := []) (run_V (rest := []) hx hb hml hown hts hK hP hD hS hA hm (C38_isNoSlot l G D K s.heap.size h0 (v0) x0 hx0) [0] rfl rfl mok_yX12_isNoSlot w_1345 w_1347 w_p33 (rcv hK hP 0 rfl rfl rfl) ⟨Nat.le_of_ble_eq_true rfl, Nat.le_of_ble_eq_true rfl⟩ rfl hl.1 rfl (Nat.le_of_ble_eq_true rfl) dX12_make_28 ⟨(Nat.le_of_ble_eq_true rfl), (Nat.le_of_ble_eq_true rfl)⟩) hP hD hS hA [0] [] rfl rfl rfl (by decide) (w2 := fun u0 => [(h0, .inr (12, [.int (nI 1), v0]))]) (fun _ => rfl) (fun u0 H locs hP hD hS => ?_)
  refine lv_if_ne (tgt := 96) hx hb dX12_make_31 (by decide) (fun _ => ?_) (fun c9 => absurd c9 (by decide +kernel))
  refine lv_iconst (v := nI 0) hx hb dX12_make_96 (by decide +kernel) ?_
  exact e_i hx hb hr hlk hP hD hS (fun _ => 0) rfl (Nat.le_of_ble_eq_true rfl) (Nat.le_of_ble_eq_true rfl) rfl dX12_make_97
set_option maxHeartbeats 4000000 in
set_option maxRecDepth 100000 in
theorem C46_make (l : Launch) (G : Nat → Nat) (D : va_G) (K : Nat → ClassId) (hl0 : l.stackTraces = false) (sz : Nat) (a0 : Nat) (x0 : Int32) (hx0 : x0 < 0) (o0 : Int32) : CMX l yX9_make cX9_make 6 (some FieldType.int) ({ frames := 7, cells := 1, slots := 6, locals := 110 } : Room) G D K [.ref a0, .int x0, .int (nI 3), .int o0] [] sz "java/lang/IndexOutOfBoundsException" := by
  refine CMX_of (lv0 := [(0, .ref a0), (1, .int x0), (2, .int (nI 3)), (3, .int o0)]) pn_RX9 (Nat.le_of_ble_eq_true rfl) rfl (fun p e s m args below meth c A ls hx hb htab hml hown hts hlk hnm hP hK hD hS hA hm hl => ?_)
  have hown : s.vm.findClass RX9 = some m.cls := hown
  refine lv_iload_n hx hb dX9_make_0 rfl (lv_at hl 1 rfl) ?_
  exact k_x (xun_S (rest := []) hx hb hml hown hts hK hP hD hS hA hm (C34_requireSlot l G D K hl0 s.heap.size x0 hx0) [] rfl rfl mok_yX9_requireSlot w_687 w_688 ⟨Nat.le_of_ble_eq_true rfl, Nat.le_of_ble_eq_true rfl⟩ rfl hl.1 rfl (Nat.le_of_ble_eq_true rfl) dX9_make_1 ⟨(Nat.le_of_ble_eq_true rfl), (Nat.le_of_ble_eq_true rfl)⟩) htab hlk hD hS hA [] rfl (Nat.le_of_ble_eq_true rfl) (Nat.le_of_ble_eq_true rfl)
set_option maxHeartbeats 4000000 in
set_option maxRecDepth 100000 in
theorem C47_make (l : Launch) (G : Nat → Nat) (D : va_G) (K : Nat → ClassId) (sz : Nat) (h0 : Nat) (v0 : Value) (x0 : Int32) (hx0 : x0 < 0) (o0 : Int32) : CM l yX12_make cX12_make 6 (some FieldType.int) ({ frames := 3, cells := 0, slots := 0, locals := 65 } : Room) G D K [.ref h0, .int x0, .int (nI 3), .int o0] [(h0, .inr (12, [.int (nI 0), v0]))] sz (CQi (nI 0) D (fun _ => [(h0, .inr (12, [.int (nI 1), v0]))])) := by
  refine CM_of (lv0 := [(0, .ref h0), (1, .int x0), (2, .int (nI 3)), (3, .int o0)]) pn_RX12 (Nat.le_of_ble_eq_true rfl) rfl (fun p e s m args below meth c A ls hx hb hr hml hown hts hlk hnm hP hK hD hS hA hm hl => ?_)
  have hown : s.vm.findClass RX12 = some m.cls := hown
  refine lv_iload_n hx hb dX12_make_0 rfl (lv_at hl 2 rfl) ?_
  refine lv_iconst (v := nI 3) hx hb dX12_make_1 (by decide +kernel) ?_
  refine lv_icmp_ne (tgt := 9) hx hb dX12_make_2 (by decide) (fun c9 => absurd (by decide +kernel) c9) (fun _ => ?_)
  refine lv_iconst (v := nI 2) hx hb dX12_make_5 (by decide +kernel) ?_
  refine lv_goto (tgt := 24) hx hb dX12_make_6 (by decide) ?_
  refine lv_istore (lv' := [(4, .int (nI 2)), (0, .ref h0), (1, .int x0), (2, .int (nI 3)), (3, .int o0)]) hx hb dX12_make_24 hl (by decide) rfl (fun ls hl => ?_)
  refine lv_aload_n hx hb dX12_make_26 rfl (lv_at hl 1 rfl) ?_
  refine lv_iload_n hx hb dX12_make_27 rfl (lv_at hl 2 rfl) ?_
  refine k_i (wr := []) (run_V (rest := []) hx hb hml hown hts hK hP hD hS hA hm (C38_isNoSlot l G D K s.heap.size h0 (v0) x0 hx0) [0] rfl rfl mok_yX12_isNoSlot w_1345 w_1347 w_p33 (rcv hK hP 0 rfl rfl rfl) ⟨Nat.le_of_ble_eq_true rfl, Nat.le_of_ble_eq_true rfl⟩ rfl hl.1 rfl (Nat.le_of_ble_eq_true rfl) dX12_make_28 ⟨(Nat.le_of_ble_eq_true rfl), (Nat.le_of_ble_eq_true rfl)⟩) hP hD hS hA [0] [] rfl rfl rfl (by decide) (w2 := fun u0 => [(h0, .inr (12, [.int (nI 1), v0]))]) (fun _ => rfl) (fun u0 H locs hP hD hS => ?_)
  refine lv_if_ne (tgt := 96) hx hb dX12_make_31 (by decide) (fun _ => ?_) (fun c9 => absurd c9 (by decide +kernel))
  refine lv_iconst (v := nI 0) hx hb dX12_make_96 (by decide +kernel) ?_
  exact e_i hx hb hr hlk hP hD hS (fun _ => 0) rfl (Nat.le_of_ble_eq_true rfl) (Nat.le_of_ble_eq_true rfl) rfl dX12_make_97
set_option maxHeartbeats 4000000 in
set_option maxRecDepth 100000 in
theorem C48_make (l : Launch) (G : Nat → Nat) (D : va_G) (K : Nat → ClassId) (hl0 : l.stackTraces = false) (sz : Nat) (a0 : Nat) (x0 : Int32) (hx0 : x0 < 0) (o0 : Int32) : CMX l yX9_make cX9_make 6 (some FieldType.int) ({ frames := 7, cells := 1, slots := 6, locals := 110 } : Room) G D K [.ref a0, .int x0, .int (nI 4), .int o0] [] sz "java/lang/IndexOutOfBoundsException" := by
  refine CMX_of (lv0 := [(0, .ref a0), (1, .int x0), (2, .int (nI 4)), (3, .int o0)]) pn_RX9 (Nat.le_of_ble_eq_true rfl) rfl (fun p e s m args below meth c A ls hx hb htab hml hown hts hlk hnm hP hK hD hS hA hm hl => ?_)
  have hown : s.vm.findClass RX9 = some m.cls := hown
  refine lv_iload_n hx hb dX9_make_0 rfl (lv_at hl 1 rfl) ?_
  exact k_x (xun_S (rest := []) hx hb hml hown hts hK hP hD hS hA hm (C34_requireSlot l G D K hl0 s.heap.size x0 hx0) [] rfl rfl mok_yX9_requireSlot w_687 w_688 ⟨Nat.le_of_ble_eq_true rfl, Nat.le_of_ble_eq_true rfl⟩ rfl hl.1 rfl (Nat.le_of_ble_eq_true rfl) dX9_make_1 ⟨(Nat.le_of_ble_eq_true rfl), (Nat.le_of_ble_eq_true rfl)⟩) htab hlk hD hS hA [] rfl (Nat.le_of_ble_eq_true rfl) (Nat.le_of_ble_eq_true rfl)
set_option maxHeartbeats 4000000 in
set_option maxRecDepth 100000 in
theorem C49_make (l : Launch) (G : Nat → Nat) (D : va_G) (K : Nat → ClassId) (sz : Nat) (h0 : Nat) (v0 : Value) (x0 : Int32) (hx0 : x0 < 0) (o0 : Int32) : CM l yX12_make cX12_make 6 (some FieldType.int) ({ frames := 3, cells := 0, slots := 0, locals := 65 } : Room) G D K [.ref h0, .int x0, .int (nI 4), .int o0] [(h0, .inr (12, [.int (nI 0), v0]))] sz (CQi (nI 0) D (fun _ => [(h0, .inr (12, [.int (nI 1), v0]))])) := by
  refine CM_of (lv0 := [(0, .ref h0), (1, .int x0), (2, .int (nI 4)), (3, .int o0)]) pn_RX12 (Nat.le_of_ble_eq_true rfl) rfl (fun p e s m args below meth c A ls hx hb hr hml hown hts hlk hnm hP hK hD hS hA hm hl => ?_)
  have hown : s.vm.findClass RX12 = some m.cls := hown
  refine lv_iload_n hx hb dX12_make_0 rfl (lv_at hl 2 rfl) ?_
  refine lv_iconst (v := nI 3) hx hb dX12_make_1 (by decide +kernel) ?_
  refine lv_icmp_ne (tgt := 9) hx hb dX12_make_2 (by decide) (fun _ => ?_) (fun c9 => absurd c9 (by decide +kernel))
  refine lv_iload_n hx hb dX12_make_9 rfl (lv_at hl 2 rfl) ?_
  refine lv_iconst (v := nI 1) hx hb dX12_make_10 (by decide +kernel) ?_
  refine lv_icmp_eq (tgt := 19) hx hb dX12_make_11 (by decide) (fun c9 => absurd c9 (by decide +kernel)) (fun _ => ?_)
  refine lv_iload_n hx hb dX12_make_14 rfl (lv_at hl 2 rfl) ?_
  refine lv_iconst (v := nI 2) hx hb dX12_make_15 (by decide +kernel) ?_
  refine lv_icmp_ne (tgt := 23) hx hb dX12_make_16 (by decide) (fun _ => ?_) (fun c9 => absurd c9 (by decide +kernel))
  refine lv_iconst (v := nI 0) hx hb dX12_make_23 (by decide +kernel) ?_
  refine lv_istore (lv' := [(4, .int (nI 0)), (0, .ref h0), (1, .int x0), (2, .int (nI 4)), (3, .int o0)]) hx hb dX12_make_24 hl (by decide) rfl (fun ls hl => ?_)
  refine lv_aload_n hx hb dX12_make_26 rfl (lv_at hl 1 rfl) ?_
  refine lv_iload_n hx hb dX12_make_27 rfl (lv_at hl 2 rfl) ?_
  refine k_i (wr := []) (run_V (rest := []) hx hb hml hown hts hK hP hD hS hA hm (C38_isNoSlot l G D K s.heap.size h0 (v0) x0 hx0) [0] rfl rfl mok_yX12_isNoSlot w_1345 w_1347 w_p33 (rcv hK hP 0 rfl rfl rfl) ⟨Nat.le_of_ble_eq_true rfl, Nat.le_of_ble_eq_true rfl⟩ rfl hl.1 rfl (Nat.le_of_ble_eq_true rfl) dX12_make_28 ⟨(Nat.le_of_ble_eq_true rfl), (Nat.le_of_ble_eq_true rfl)⟩) hP hD hS hA [0] [] rfl rfl rfl (by decide) (w2 := fun u0 => [(h0, .inr (12, [.int (nI 1), v0]))]) (fun _ => rfl) (fun u0 H locs hP hD hS => ?_)
  refine lv_if_ne (tgt := 96) hx hb dX12_make_31 (by decide) (fun _ => ?_) (fun c9 => absurd c9 (by decide +kernel))
  refine lv_iconst (v := nI 0) hx hb dX12_make_96 (by decide +kernel) ?_
  exact e_i hx hb hr hlk hP hD hS (fun _ => 0) rfl (Nat.le_of_ble_eq_true rfl) (Nat.le_of_ble_eq_true rfl) rfl dX12_make_97
set_option maxHeartbeats 4000000 in
set_option maxRecDepth 100000 in
theorem C50_make (l : Launch) (G : Nat → Nat) (D : va_G) (K : Nat → ClassId) (hl0 : l.stackTraces = false) (sz : Nat) (a0 : Nat) (j0 : Nat) (lj0 : 5 ≤ j0) (gj0 : j0 ≤ 2147483647) (x0 : Int32) (hx0 : x0 < 0) (o0 : Int32) : CMX l yX9_make cX9_make 6 (some FieldType.int) ({ frames := 7, cells := 1, slots := 6, locals := 110 } : Room) G D K [.ref a0, .int x0, .int (nI j0), .int o0] [] sz "java/lang/IndexOutOfBoundsException" := by
  refine CMX_of (lv0 := [(0, .ref a0), (1, .int x0), (2, .int (nI j0)), (3, .int o0)]) pn_RX9 (Nat.le_of_ble_eq_true rfl) rfl (fun p e s m args below meth c A ls hx hb htab hml hown hts hlk hnm hP hK hD hS hA hm hl => ?_)
  have hown : s.vm.findClass RX9 = some m.cls := hown
  refine lv_iload_n hx hb dX9_make_0 rfl (lv_at hl 1 rfl) ?_
  exact k_x (xun_S (rest := []) hx hb hml hown hts hK hP hD hS hA hm (C34_requireSlot l G D K hl0 s.heap.size x0 hx0) [] rfl rfl mok_yX9_requireSlot w_687 w_688 ⟨Nat.le_of_ble_eq_true rfl, Nat.le_of_ble_eq_true rfl⟩ rfl hl.1 rfl (Nat.le_of_ble_eq_true rfl) dX9_make_1 ⟨(Nat.le_of_ble_eq_true rfl), (Nat.le_of_ble_eq_true rfl)⟩) htab hlk hD hS hA [] rfl (Nat.le_of_ble_eq_true rfl) (Nat.le_of_ble_eq_true rfl)
set_option maxHeartbeats 4000000 in
set_option maxRecDepth 100000 in
theorem C51_make (l : Launch) (G : Nat → Nat) (D : va_G) (K : Nat → ClassId) (sz : Nat) (h0 : Nat) (v0 : Value) (j0 : Nat) (lj0 : 5 ≤ j0) (gj0 : j0 ≤ 2147483647) (x0 : Int32) (hx0 : x0 < 0) (o0 : Int32) : CM l yX12_make cX12_make 6 (some FieldType.int) ({ frames := 3, cells := 0, slots := 0, locals := 65 } : Room) G D K [.ref h0, .int x0, .int (nI j0), .int o0] [(h0, .inr (12, [.int (nI 0), v0]))] sz (CQi (nI 0) D (fun _ => [(h0, .inr (12, [.int (nI 1), v0]))])) := by
  refine CM_of (lv0 := [(0, .ref h0), (1, .int x0), (2, .int (nI j0)), (3, .int o0)]) pn_RX12 (Nat.le_of_ble_eq_true rfl) rfl (fun p e s m args below meth c A ls hx hb hr hml hown hts hlk hnm hP hK hD hS hA hm hl => ?_)
  have hown : s.vm.findClass RX12 = some m.cls := hown
  refine lv_iload_n hx hb dX12_make_0 rfl (lv_at hl 2 rfl) ?_
  refine lv_iconst (v := nI 3) hx hb dX12_make_1 (by decide +kernel) ?_
  refine lv_icmp_ne (tgt := 9) hx hb dX12_make_2 (by decide) (fun _ => ?_) (fun c9 => absurd c9 (fun h9 => absurd ((nI_eq (a := j0) (b := 3) (by omega) (by omega)).mp h9) (by omega)))
  refine lv_iload_n hx hb dX12_make_9 rfl (lv_at hl 2 rfl) ?_
  refine lv_iconst (v := nI 1) hx hb dX12_make_10 (by decide +kernel) ?_
  refine lv_icmp_eq (tgt := 19) hx hb dX12_make_11 (by decide) (fun c9 => absurd c9 (fun h9 => absurd ((nI_eq (a := j0) (b := 1) (by omega) (by omega)).mp h9) (by omega))) (fun _ => ?_)
  refine lv_iload_n hx hb dX12_make_14 rfl (lv_at hl 2 rfl) ?_
  refine lv_iconst (v := nI 2) hx hb dX12_make_15 (by decide +kernel) ?_
  refine lv_icmp_ne (tgt := 23) hx hb dX12_make_16 (by decide) (fun _ => ?_) (fun c9 => absurd c9 (fun h9 => absurd ((nI_eq (a := j0) (b := 2) (by omega) (by omega)).mp h9) (by omega)))
  refine lv_iconst (v := nI 0) hx hb dX12_make_23 (by decide +kernel) ?_
  refine lv_istore (lv' := [(4, .int (nI 0)), (0, .ref h0), (1, .int x0), (2, .int (nI j0)), (3, .int o0)]) hx hb dX12_make_24 hl (by decide) rfl (fun ls hl => ?_)
  refine lv_aload_n hx hb dX12_make_26 rfl (lv_at hl 1 rfl) ?_
  refine lv_iload_n hx hb dX12_make_27 rfl (lv_at hl 2 rfl) ?_
  refine k_i (wr := []) (run_V (rest := []) hx hb hml hown hts hK hP hD hS hA hm (C38_isNoSlot l G D K s.heap.size h0 (v0) x0 hx0) [0] rfl rfl mok_yX12_isNoSlot w_1345 w_1347 w_p33 (rcv hK hP 0 rfl rfl rfl) ⟨Nat.le_of_ble_eq_true rfl, Nat.le_of_ble_eq_true rfl⟩ rfl hl.1 rfl (Nat.le_of_ble_eq_true rfl) dX12_make_28 ⟨(Nat.le_of_ble_eq_true rfl), (Nat.le_of_ble_eq_true rfl)⟩) hP hD hS hA [0] [] rfl rfl rfl (by decide) (w2 := fun u0 => [(h0, .inr (12, [.int (nI 1), v0]))]) (fun _ => rfl) (fun u0 H locs hP hD hS => ?_)
  refine lv_if_ne (tgt := 96) hx hb dX12_make_31 (by decide) (fun _ => ?_) (fun c9 => absurd c9 (by decide +kernel))
  refine lv_iconst (v := nI 0) hx hb dX12_make_96 (by decide +kernel) ?_
  exact e_i hx hb hr hlk hP hD hS (fun _ => 0) rfl (Nat.le_of_ble_eq_true rfl) (Nat.le_of_ble_eq_true rfl) rfl dX12_make_97
set_option maxHeartbeats 4000000 in
set_option maxRecDepth 100000 in
theorem C52_requireSlot (l : Launch) (G : Nat → Nat) (D : va_G) (K : Nat → ClassId) (hl0 : l.stackTraces = false) (sz : Nat) (j0 : Nat) (lj0 : 4 ≤ j0) (gj0 : j0 ≤ 2147483647) : CMX l yX9_requireSlot cX9_requireSlot 1 (none : Option FieldType) ({ frames := 6, cells := 1, slots := 6, locals := 90 } : Room) G D K [.int (nI j0)] [] sz "java/lang/IndexOutOfBoundsException" := by
  refine CMX_of (lv0 := [(0, .int (nI j0))]) pn_RX9 (Nat.le_of_ble_eq_true rfl) rfl (fun p e s m args below meth c A ls hx hb htab hml hown hts hlk hnm hP hK hD hS hA hm hl => ?_)
  have hown : s.vm.findClass RX9 = some m.cls := hown
  refine lv_iload_n hx hb dX9_requireSlot_0 rfl (lv_at hl 0 rfl) ?_
  refine lv_if_lt (tgt := 9) hx hb dX9_requireSlot_1 (by decide) (fun c9 => absurd c9 (fun h9 => absurd ((nI_ltI (a := j0) (b := 0) (by omega) (by omega)).mp h9) (by omega))) (fun _ => ?_)
  refine lv_iload_n hx hb dX9_requireSlot_4 rfl (lv_at hl 0 rfl) ?_
  refine lv_iconst (v := nI 4) hx hb dX9_requireSlot_5 (by decide +kernel) ?_
  refine lv_icmp_lt (tgt := 20) hx hb dX9_requireSlot_6 (by decide) (fun c9 => absurd c9 (fun h9 => absurd ((nI_ltI (a := j0) (b := 4) (by omega) (by omega)).mp h9) (by omega))) (fun _ => ?_)
  exact x_throwW (names := ["java/lang/RuntimeException", "java/lang/Exception"]) (text := "no such SLOT") hx hb hl0 htab hml hown hts hlk hS hm hl.1 (by decide +kernel) (by decide +kernel) w_667 w_25 (str_387) hat_iobe_174 dX9_requireSlot_9 dX9_requireSlot_12 dX9_requireSlot_13 dX9_requireSlot_16 dX9_requireSlot_19 (Nat.le_of_ble_eq_true rfl) (Nat.le_of_ble_eq_true rfl) (Nat.le_of_ble_eq_true rfl) (Nat.le_of_ble_eq_true rfl) (Nat.le_of_ble_eq_true rfl) (Nat.le_of_ble_eq_true rfl)
set_option maxHeartbeats 4000000 in
set_option maxRecDepth 100000 in
theorem C53_make (l : Launch) (G : Nat → Nat) (D : va_G) (K : Nat → ClassId) (hl0 : l.stackTraces = false) (sz : Nat) (a0 : Nat) (j0 : Nat) (lj0 : 4 ≤ j0) (gj0 : j0 ≤ 2147483647) (x0 : Int32) (hx0 : x0 < 0) (o0 : Int32) : CMX l yX9_make cX9_make 6 (some FieldType.int) ({ frames := 7, cells := 1, slots := 6, locals := 110 } : Room) G D K [.ref a0, .int (nI j0), .int x0, .int o0] [] sz "java/lang/IndexOutOfBoundsException" := by
  refine CMX_of (lv0 := [(0, .ref a0), (1, .int (nI j0)), (2, .int x0), (3, .int o0)]) pn_RX9 (Nat.le_of_ble_eq_true rfl) rfl (fun p e s m args below meth c A ls hx hb htab hml hown hts hlk hnm hP hK hD hS hA hm hl => ?_)
  have hown : s.vm.findClass RX9 = some m.cls := hown
  refine lv_iload_n hx hb dX9_make_0 rfl (lv_at hl 1 rfl) ?_
  exact k_x (xun_S (rest := []) hx hb hml hown hts hK hP hD hS hA hm (C52_requireSlot l G D K hl0 s.heap.size j0 (by omega) (by omega)) [] rfl rfl mok_yX9_requireSlot w_687 w_688 ⟨Nat.le_of_ble_eq_true rfl, Nat.le_of_ble_eq_true rfl⟩ rfl hl.1 rfl (Nat.le_of_ble_eq_true rfl) dX9_make_1 ⟨(Nat.le_of_ble_eq_true rfl), (Nat.le_of_ble_eq_true rfl)⟩) htab hlk hD hS hA [] rfl (Nat.le_of_ble_eq_true rfl) (Nat.le_of_ble_eq_true rfl)
set_option maxHeartbeats 4000000 in
set_option maxRecDepth 100000 in
theorem C54_isIn (l : Launch) (G : Nat → Nat) (D : va_G) (K : Nat → ClassId) (sz : Nat) (j0 : Nat) (lj0 : 4 ≤ j0) (gj0 : j0 ≤ 2147483647) : CM l yX12_isIn cX12_isIn 3 (some FieldType.boolean) ({ frames := 0, cells := 0, slots := 0, locals := 0 } : Room) G D K [.int (nI j0), .int (nI 0), .int (nI 3)] [] sz (CQi (nI 0) D (fun _ => [])) := by
  refine CM_of (lv0 := [(0, .int (nI j0)), (1, .int (nI 0)), (2, .int (nI 3))]) pn_RX12 (Nat.le_of_ble_eq_true rfl) rfl (fun p e s m args below meth c A ls hx hb hr hml hown hts hlk hnm hP hK hD hS hA hm hl => ?_)
  have hown : s.vm.findClass RX12 = some m.cls := hown
  refine lv_iload_n hx hb dX12_isIn_0 rfl (lv_at hl 0 rfl) ?_
  refine lv_iload_n hx hb dX12_isIn_1 rfl (lv_at hl 1 rfl) ?_
  refine lv_icmp_lt (tgt := 14) hx hb dX12_isIn_2 (by decide) (fun c9 => absurd c9 (fun h9 => absurd ((nI_ltI (a := j0) (b := 0) (by omega) (by omega)).mp h9) (by omega))) (fun _ => ?_)
  refine lv_iload_n hx hb dX12_isIn_5 rfl (lv_at hl 0 rfl) ?_
  refine lv_iload_n hx hb dX12_isIn_6 rfl (lv_at hl 2 rfl) ?_
  refine lv_icmp_gt (tgt := 14) hx hb dX12_isIn_7 (by decide) (fun _ => ?_) (fun c9 => absurd ((nI_ltI (a := 3) (b := j0) (by omega) (by omega)).mpr (by omega)) c9)
  refine lv_iconst (v := nI 0) hx hb dX12_isIn_14 (by decide +kernel) ?_
  exact e_z hx hb hr hlk hP hD hS (fun _ => 0) rfl (Nat.le_of_ble_eq_true rfl) (Nat.le_of_ble_eq_true rfl) rfl (Or.inl rfl) dX12_isIn_15
set_option maxHeartbeats 4000000 in
set_option maxRecDepth 100000 in
theorem C55_isNo (l : Launch) (G : Nat → Nat) (D : va_G) (K : Nat → ClassId) (sz : Nat) (j0 : Nat) (lj0 : 4 ≤ j0) (gj0 : j0 ≤ 2147483647) : CM l yX12_isNo cX12_isNo 1 (some FieldType.boolean) ({ frames := 1, cells := 0, slots := 0, locals := 22 } : Room) G D K [.int (nI j0)] [] sz (CQi (nI 1) D (fun _ => [])) := by
  refine CM_of (lv0 := [(0, .int (nI j0))]) pn_RX12 (Nat.le_of_ble_eq_true rfl) rfl (fun p e s m args below meth c A ls hx hb hr hml hown hts hlk hnm hP hK hD hS hA hm hl => ?_)
  have hown : s.vm.findClass RX12 = some m.cls := hown
  refine lv_iload_n hx hb dX12_isNo_0 rfl (lv_at hl 0 rfl) ?_
  refine lv_iconst (v := nI 0) hx hb dX12_isNo_1 (by decide +kernel) ?_
  refine lv_iconst (v := nI 3) hx hb dX12_isNo_2 (by decide +kernel) ?_
  refine k_i (wr := []) (run_S (rest := []) hx hb hml hown hts hK hP hD hS hA hm (C54_isIn l G D K s.heap.size j0 (by omega) (by omega)) [] rfl rfl mok_yX12_isIn w_1352 w_1353 ⟨Nat.le_of_ble_eq_true rfl, Nat.le_of_ble_eq_true rfl⟩ rfl hl.1 rfl (Nat.le_of_ble_eq_true rfl) dX12_isNo_3 ⟨(Nat.le_of_ble_eq_true rfl), (Nat.le_of_ble_eq_true rfl)⟩) hP hD hS hA [] [] rfl rfl rfl (by decide) (w2 := fun u0 => []) (fun _ => rfl) (fun u0 H locs hP hD hS => ?_)
  refine lv_if_ne (tgt := 13) hx hb dX12_isNo_6 (by decide) (fun c9 => absurd (by decide +kernel) c9) (fun _ => ?_)
  refine lv_iconst (v := nI 1) hx hb dX12_isNo_9 (by decide +kernel) ?_
  refine lv_goto (tgt := 14) hx hb dX12_isNo_10 (by decide) ?_
  exact e_z hx hb hr hlk hP hD hS (fun _ => 0) rfl (Nat.le_of_ble_eq_true rfl) (Nat.le_of_ble_eq_true rfl) rfl (Or.inr rfl) dX12_isNo_14
set_option maxHeartbeats 4000000 in
set_option maxRecDepth 100000 in
theorem C56_isNoSlot (l : Launch) (G : Nat → Nat) (D : va_G) (K : Nat → ClassId) (sz : Nat) (h0 : Nat) (v0 : Value) (j0 : Nat) (lj0 : 4 ≤ j0) (gj0 : j0 ≤ 2147483647) : CM l yX12_isNoSlot cX12_isNoSlot 2 (some FieldType.boolean) ({ frames := 2, cells := 0, slots := 0, locals := 44 } : Room) G D K [.ref h0, .int (nI j0)] [(h0, .inr (12, [.int (nI 0), v0]))] sz (CQi (nI 1) D (fun _ => [(h0, .inr (12, [.int (nI 1), v0]))])) := by
  refine CM_of (lv0 := [(0, .ref h0), (1, .int (nI j0))]) pn_RX12 (Nat.le_of_ble_eq_true rfl) rfl (fun p e s m args below meth c A ls hx hb hr hml hown hts hlk hnm hP hK hD hS hA hm hl => ?_)
  have hown : s.vm.findClass RX12 = some m.cls := hown
  refine lv_aload_n hx hb dX12_isNoSlot_0 rfl (lv_at hl 0 rfl) ?_
  refine lv_iload_n hx hb dX12_isNoSlot_1 rfl (lv_at hl 1 rfl) ?_
  refine k_i (wr := [(h0, .inr (12, [.int (nI 0), v0]))]) (run_S (rest := [.ref h0]) hx hb hml hown hts hK hP hD hS hA hm (C55_isNo l G D K s.heap.size j0 (by omega) (by omega)) [] rfl rfl mok_yX12_isNo w_1349 w_1350 ⟨Nat.le_of_ble_eq_true rfl, Nat.le_of_ble_eq_true rfl⟩ rfl hl.1 rfl (Nat.le_of_ble_eq_true rfl) dX12_isNoSlot_2 ⟨(Nat.le_of_ble_eq_true rfl), (Nat.le_of_ble_eq_true rfl)⟩) hP hD hS hA [] [0] rfl rfl rfl (by decide) (w2 := fun u0 => [(h0, .inr (12, [.int (nI 0), v0]))]) (fun _ => rfl) (fun u0 H locs hP hD hS => ?_)
  refine lv_iconst (v := nI 1) hx hb dX12_isNoSlot_5 (by decide +kernel) ?_
  refine k_i (wr := []) (run_V (rest := []) hx hb hml hown hts hK hP hD hS hA hm (C32_start l G D K H.size h0 (v0)) [0] rfl rfl mok_yX12_start w_1312 w_1314 w_p30 (rcv hK hP 0 rfl rfl rfl) ⟨Nat.le_of_ble_eq_true rfl, Nat.le_of_ble_eq_true rfl⟩ rfl hl.1 rfl (Nat.le_of_ble_eq_true rfl) dX12_isNoSlot_6 ⟨(Nat.le_of_ble_eq_true rfl), (Nat.le_of_ble_eq_true rfl)⟩) hP hD hS hA [0] [] rfl rfl rfl (by decide) (w2 := fun u1 => [(h0, .inr (12, [.int (nI 1), v0]))]) (fun _ => rfl) (fun u1 H locs hP hD hS => ?_)
  exact e_z hx hb hr hlk hP hD hS (fun _ => 0) rfl (Nat.le_of_ble_eq_true rfl) (Nat.le_of_ble_eq_true rfl) rfl (Or.inr rfl) dX12_isNoSlot_9
set_option maxHeartbeats 4000000 in
set_option maxRecDepth 100000 in
theorem C57_make (l : Launch) (G : Nat → Nat) (D : va_G) (K : Nat → ClassId) (sz : Nat) (h0 : Nat) (v0 : Value) (j0 : Nat) (lj0 : 4 ≤ j0) (gj0 : j0 ≤ 2147483647) (x0 : Int32) (hx0 : x0 < 0) (o0 : Int32) : CM l yX12_make cX12_make 6 (some FieldType.int) ({ frames := 3, cells := 0, slots := 0, locals := 65 } : Room) G D K [.ref h0, .int (nI j0), .int x0, .int o0] [(h0, .inr (12, [.int (nI 0), v0]))] sz (CQi (nI 0) D (fun _ => [(h0, .inr (12, [.int (nI 1), v0]))])) := by
  refine CM_of (lv0 := [(0, .ref h0), (1, .int (nI j0)), (2, .int x0), (3, .int o0)]) pn_RX12 (Nat.le_of_ble_eq_true rfl) rfl (fun p e s m args below meth c A ls hx hb hr hml hown hts hlk hnm hP hK hD hS hA hm hl => ?_)
  have hown : s.vm.findClass RX12 = some m.cls := hown
  refine lv_iload_n hx hb dX12_make_0 rfl (lv_at hl 2 rfl) ?_
  refine lv_iconst (v := nI 3) hx hb dX12_make_1 (by decide +kernel) ?_
  refine lv_icmp_ne (tgt := 9) hx hb dX12_make_2 (by decide) (fun _ => ?_) (fun c9 => absurd c9 (ng_eqN hx0 (n := 3) (by omega)))
  refine lv_iload_n hx hb dX12_make_9 rfl (lv_at hl 2 rfl) ?_
  refine lv_iconst (v := nI 1) hx hb dX12_make_10 (by decide +kernel) ?_
  refine lv_icmp_eq (tgt := 19) hx hb dX12_make_11 (by decide) (fun c9 => absurd c9 (ng_eqN hx0 (n := 1) (by omega))) (fun _ => ?_)
  refine lv_iload_n hx hb dX12_make_14 rfl (lv_at hl 2 rfl) ?_
  refine lv_iconst (v := nI 2) hx hb dX12_make_15 (by decide +kernel) ?_
  refine lv_icmp_ne (tgt := 23) hx hb dX12_make_16 (by decide) (fun _ => ?_) (fun c9 => absurd c9 (ng_eqN hx0 (n := 2) (by omega)))
  refine lv_iconst (v := nI 0) hx hb dX12_make_23 (by decide +kernel) ?_
  refine lv_istore (lv' := [(4, .int (nI 0)), (0, .ref h0), (1, .int (nI j0)), (2, .int x0), (3, .int o0)]) hx hb dX12_make_24 hl (by decide) rfl (fun ls hl => ?_)
  refine lv_aload_n hx hb dX12_make_26 rfl (lv_at hl 1 rfl) ?_
  refine lv_iload_n hx hb dX12_make_27 rfl (lv_at hl 2 rfl) ?_
  refine k_i (wr := []) (run_V (rest := []) hx hb hml hown hts hK hP hD hS hA hm (C56_isNoSlot l G D K s.heap.size h0 (v0) j0 (by omega) (by omega)) [0] rfl rfl mok_yX12_isNoSlot w_1345 w_1347 w_p33 (rcv hK hP 0 rfl rfl rfl) ⟨Nat.le_of_ble_eq_true rfl, Nat.le_of_ble_eq_true rfl⟩ rfl hl.1 rfl (Nat.le_of_ble_eq_true rfl) dX12_make_28 ⟨(Nat.le_of_ble_eq_true rfl), (Nat.le_of_ble_eq_true rfl)⟩) hP hD hS hA [0] [] rfl rfl rfl (by decide) (w2 := fun u0 => [(h0, .inr (12, [.int (nI 1), v0]))]) (fun _ => rfl) (fun u0 H locs hP hD hS => ?_)
  refine lv_if_ne (tgt := 96) hx hb dX12_make_31 (by decide) (fun _ => ?_) (fun c9 => absurd c9 (by decide +kernel))
  refine lv_iconst (v := nI 0) hx hb dX12_make_96 (by decide +kernel) ?_
  exact e_i hx hb hr hlk hP hD hS (fun _ => 0) rfl (Nat.le_of_ble_eq_true rfl) (Nat.le_of_ble_eq_true rfl) rfl dX12_make_97
set_option maxHeartbeats 4000000 in
set_option maxRecDepth 100000 in
theorem C58_make (l : Launch) (G : Nat → Nat) (D : va_G) (K : Nat → ClassId) (hl0 : l.stackTraces = false) (sz : Nat) (a0 : Nat) (j0 : Nat) (lj0 : 4 ≤ j0) (gj0 : j0 ≤ 2147483647) (o0 : Int32) : CMX l yX9_make cX9_make 6 (some FieldType.int) ({ frames := 7, cells := 1, slots := 6, locals := 110 } : Room) G D K [.ref a0, .int (nI j0), .int (nI 0), .int o0] [] sz "java/lang/IndexOutOfBoundsException" := by
  refine CMX_of (lv0 := [(0, .ref a0), (1, .int (nI j0)), (2, .int (nI 0)), (3, .int o0)]) pn_RX9 (Nat.le_of_ble_eq_true rfl) rfl (fun p e s m args below meth c A ls hx hb htab hml hown hts hlk hnm hP hK hD hS hA hm hl => ?_)
  have hown : s.vm.findClass RX9 = some m.cls := hown
  refine lv_iload_n hx hb dX9_make_0 rfl (lv_at hl 1 rfl) ?_
  exact k_x (xun_S (rest := []) hx hb hml hown hts hK hP hD hS hA hm (C52_requireSlot l G D K hl0 s.heap.size j0 (by omega) (by omega)) [] rfl rfl mok_yX9_requireSlot w_687 w_688 ⟨Nat.le_of_ble_eq_true rfl, Nat.le_of_ble_eq_true rfl⟩ rfl hl.1 rfl (Nat.le_of_ble_eq_true rfl) dX9_make_1 ⟨(Nat.le_of_ble_eq_true rfl), (Nat.le_of_ble_eq_true rfl)⟩) htab hlk hD hS hA [] rfl (Nat.le_of_ble_eq_true rfl) (Nat.le_of_ble_eq_true rfl)
set_option maxHeartbeats 4000000 in
set_option maxRecDepth 100000 in
theorem C59_make (l : Launch) (G : Nat → Nat) (D : va_G) (K : Nat → ClassId) (sz : Nat) (h0 : Nat) (v0 : Value) (j0 : Nat) (lj0 : 4 ≤ j0) (gj0 : j0 ≤ 2147483647) (o0 : Int32) : CM l yX12_make cX12_make 6 (some FieldType.int) ({ frames := 3, cells := 0, slots := 0, locals := 65 } : Room) G D K [.ref h0, .int (nI j0), .int (nI 0), .int o0] [(h0, .inr (12, [.int (nI 0), v0]))] sz (CQi (nI 0) D (fun _ => [(h0, .inr (12, [.int (nI 1), v0]))])) := by
  refine CM_of (lv0 := [(0, .ref h0), (1, .int (nI j0)), (2, .int (nI 0)), (3, .int o0)]) pn_RX12 (Nat.le_of_ble_eq_true rfl) rfl (fun p e s m args below meth c A ls hx hb hr hml hown hts hlk hnm hP hK hD hS hA hm hl => ?_)
  have hown : s.vm.findClass RX12 = some m.cls := hown
  refine lv_iload_n hx hb dX12_make_0 rfl (lv_at hl 2 rfl) ?_
  refine lv_iconst (v := nI 3) hx hb dX12_make_1 (by decide +kernel) ?_
  refine lv_icmp_ne (tgt := 9) hx hb dX12_make_2 (by decide) (fun _ => ?_) (fun c9 => absurd c9 (by decide +kernel))
  refine lv_iload_n hx hb dX12_make_9 rfl (lv_at hl 2 rfl) ?_
  refine lv_iconst (v := nI 1) hx hb dX12_make_10 (by decide +kernel) ?_
  refine lv_icmp_eq (tgt := 19) hx hb dX12_make_11 (by decide) (fun c9 => absurd c9 (by decide +kernel)) (fun _ => ?_)
  refine lv_iload_n hx hb dX12_make_14 rfl (lv_at hl 2 rfl) ?_
  refine lv_iconst (v := nI 2) hx hb dX12_make_15 (by decide +kernel) ?_
  refine lv_icmp_ne (tgt := 23) hx hb dX12_make_16 (by decide) (fun _ => ?_) (fun c9 => absurd c9 (by decide +kernel))
  refine lv_iconst (v := nI 0) hx hb dX12_make_23 (by decide +kernel) ?_
  refine lv_istore (lv' := [(4, .int (nI 0)), (0, .ref h0), (1, .int (nI j0)), (2, .int (nI 0)), (3, .int o0)]) hx hb dX12_make_24 hl (by decide) rfl (fun ls hl => ?_)
  refine lv_aload_n hx hb dX12_make_26 rfl (lv_at hl 1 rfl) ?_
  refine lv_iload_n hx hb dX12_make_27 rfl (lv_at hl 2 rfl) ?_
  refine k_i (wr := []) (run_V (rest := []) hx hb hml hown hts hK hP hD hS hA hm (C56_isNoSlot l G D K s.heap.size h0 (v0) j0 (by omega) (by omega)) [0] rfl rfl mok_yX12_isNoSlot w_1345 w_1347 w_p33 (rcv hK hP 0 rfl rfl rfl) ⟨Nat.le_of_ble_eq_true rfl, Nat.le_of_ble_eq_true rfl⟩ rfl hl.1 rfl (Nat.le_of_ble_eq_true rfl) dX12_make_28 ⟨(Nat.le_of_ble_eq_true rfl), (Nat.le_of_ble_eq_true rfl)⟩) hP hD hS hA [0] [] rfl rfl rfl (by decide) (w2 := fun u0 => [(h0, .inr (12, [.int (nI 1), v0]))]) (fun _ => rfl) (fun u0 H locs hP hD hS => ?_)
  refine lv_if_ne (tgt := 96) hx hb dX12_make_31 (by decide) (fun _ => ?_) (fun c9 => absurd c9 (by decide +kernel))
  refine lv_iconst (v := nI 0) hx hb dX12_make_96 (by decide +kernel) ?_
  exact e_i hx hb hr hlk hP hD hS (fun _ => 0) rfl (Nat.le_of_ble_eq_true rfl) (Nat.le_of_ble_eq_true rfl) rfl dX12_make_97
set_option maxHeartbeats 4000000 in
set_option maxRecDepth 100000 in
theorem C60_make (l : Launch) (G : Nat → Nat) (D : va_G) (K : Nat → ClassId) (hl0 : l.stackTraces = false) (sz : Nat) (a0 : Nat) (j0 : Nat) (lj0 : 4 ≤ j0) (gj0 : j0 ≤ 2147483647) (o0 : Int32) : CMX l yX9_make cX9_make 6 (some FieldType.int) ({ frames := 7, cells := 1, slots := 6, locals := 110 } : Room) G D K [.ref a0, .int (nI j0), .int (nI 1), .int o0] [] sz "java/lang/IndexOutOfBoundsException" := by
  refine CMX_of (lv0 := [(0, .ref a0), (1, .int (nI j0)), (2, .int (nI 1)), (3, .int o0)]) pn_RX9 (Nat.le_of_ble_eq_true rfl) rfl (fun p e s m args below meth c A ls hx hb htab hml hown hts hlk hnm hP hK hD hS hA hm hl => ?_)
  have hown : s.vm.findClass RX9 = some m.cls := hown
  refine lv_iload_n hx hb dX9_make_0 rfl (lv_at hl 1 rfl) ?_
  exact k_x (xun_S (rest := []) hx hb hml hown hts hK hP hD hS hA hm (C52_requireSlot l G D K hl0 s.heap.size j0 (by omega) (by omega)) [] rfl rfl mok_yX9_requireSlot w_687 w_688 ⟨Nat.le_of_ble_eq_true rfl, Nat.le_of_ble_eq_true rfl⟩ rfl hl.1 rfl (Nat.le_of_ble_eq_true rfl) dX9_make_1 ⟨(Nat.le_of_ble_eq_true rfl), (Nat.le_of_ble_eq_true rfl)⟩) htab hlk hD hS hA [] rfl (Nat.le_of_ble_eq_true rfl) (Nat.le_of_ble_eq_true rfl)
set_option maxHeartbeats 4000000 in
set_option maxRecDepth 100000 in
theorem C61_make (l : Launch) (G : Nat → Nat) (D : va_G) (K : Nat → ClassId) (sz : Nat) (h0 : Nat) (v0 : Value) (j0 : Nat) (lj0 : 4 ≤ j0) (gj0 : j0 ≤ 2147483647) (o0 : Int32) : CM l yX12_make cX12_make 6 (some FieldType.int) ({ frames := 3, cells := 0, slots := 0, locals := 65 } : Room) G D K [.ref h0, .int (nI j0), .int (nI 1), .int o0] [(h0, .inr (12, [.int (nI 0), v0]))] sz (CQi (nI 0) D (fun _ => [(h0, .inr (12, [.int (nI 1), v0]))])) := by
  refine CM_of (lv0 := [(0, .ref h0), (1, .int (nI j0)), (2, .int (nI 1)), (3, .int o0)]) pn_RX12 (Nat.le_of_ble_eq_true rfl) rfl (fun p e s m args below meth c A ls hx hb hr hml hown hts hlk hnm hP hK hD hS hA hm hl => ?_)
  have hown : s.vm.findClass RX12 = some m.cls := hown
  refine lv_iload_n hx hb dX12_make_0 rfl (lv_at hl 2 rfl) ?_
  refine lv_iconst (v := nI 3) hx hb dX12_make_1 (by decide +kernel) ?_
  refine lv_icmp_ne (tgt := 9) hx hb dX12_make_2 (by decide) (fun _ => ?_) (fun c9 => absurd c9 (by decide +kernel))
  refine lv_iload_n hx hb dX12_make_9 rfl (lv_at hl 2 rfl) ?_
  refine lv_iconst (v := nI 1) hx hb dX12_make_10 (by decide +kernel) ?_
  refine lv_icmp_eq (tgt := 19) hx hb dX12_make_11 (by decide) (fun _ => ?_) (fun c9 => absurd (by decide +kernel) c9)
  refine lv_iconst (v := nI 1) hx hb dX12_make_19 (by decide +kernel) ?_
  refine lv_goto (tgt := 24) hx hb dX12_make_20 (by decide) ?_
  refine lv_istore (lv' := [(4, .int (nI 1)), (0, .ref h0), (1, .int (nI j0)), (2, .int (nI 1)), (3, .int o0)]) hx hb dX12_make_24 hl (by decide) rfl (fun ls hl => ?_)
  refine lv_aload_n hx hb dX12_make_26 rfl (lv_at hl 1 rfl) ?_
  refine lv_iload_n hx hb dX12_make_27 rfl (lv_at hl 2 rfl) ?_
  refine k_i (wr := []) (run_V (rest := []) hx hb hml hown hts hK hP hD hS hA hm (C56_isNoSlot l G D K s.heap.size h0 (v0) j0 (by omega) (by omega)) [0] rfl rfl mok_yX12_isNoSlot w_1345 w_1347 w_p33 (rcv hK hP 0 rfl rfl rfl) ⟨Nat.le_of_ble_eq_true rfl, Nat.le_of_ble_eq_true rfl⟩ rfl hl.1 rfl (Nat.le_of_ble_eq_true rfl) dX12_make_28 ⟨(Nat.le_of_ble_eq_true rfl), (Nat.le_of_ble_eq_true rfl)⟩) hP hD hS hA [0] [] rfl rfl rfl (by decide) (w2 := fun u0 => [(h0, .inr (12, [.int (nI 1), v0]))]) (fun _ => rfl) (fun u0 H locs hP hD hS => ?_)
  refine lv_if_ne (tgt := 96) hx hb dX12_make_31 (by decide) (fun _ => ?_) (fun c9 => absurd c9 (by decide +kernel))
  refine lv_iconst (v := nI 0) hx hb dX12_make_96 (by decide +kernel) ?_
  exact e_i hx hb hr hlk hP hD hS (fun _ => 0) rfl (Nat.le_of_ble_eq_true rfl) (Nat.le_of_ble_eq_true rfl) rfl dX12_make_97
set_option maxHeartbeats 4000000 in
set_option maxRecDepth 100000 in
theorem C62_make (l : Launch) (G : Nat → Nat) (D : va_G) (K : Nat → ClassId) (hl0 : l.stackTraces = false) (sz : Nat) (a0 : Nat) (j0 : Nat) (lj0 : 4 ≤ j0) (gj0 : j0 ≤ 2147483647) (o0 : Int32) : CMX l yX9_make cX9_make 6 (some FieldType.int) ({ frames := 7, cells := 1, slots := 6, locals := 110 } : Room) G D K [.ref a0, .int (nI j0), .int (nI 2), .int o0] [] sz "java/lang/IndexOutOfBoundsException" := by
  refine CMX_of (lv0 := [(0, .ref a0), (1, .int (nI j0)), (2, .int (nI 2)), (3, .int o0)]) pn_RX9 (Nat.le_of_ble_eq_true rfl) rfl (fun p e s m args below meth c A ls hx hb htab hml hown hts hlk hnm hP hK hD hS hA hm hl => ?_)
  have hown : s.vm.findClass RX9 = some m.cls := hown
  refine lv_iload_n hx hb dX9_make_0 rfl (lv_at hl 1 rfl) ?_
  exact k_x (xun_S (rest := []) hx hb hml hown hts hK hP hD hS hA hm (C52_requireSlot l G D K hl0 s.heap.size j0 (by omega) (by omega)) [] rfl rfl mok_yX9_requireSlot w_687 w_688 ⟨Nat.le_of_ble_eq_true rfl, Nat.le_of_ble_eq_true rfl⟩ rfl hl.1 rfl (Nat.le_of_ble_eq_true rfl) dX9_make_1 ⟨(Nat.le_of_ble_eq_true rfl), (Nat.le_of_ble_eq_true rfl)⟩) htab hlk hD hS hA [] rfl (Nat.le_of_ble_eq_true rfl) (Nat.le_of_ble_eq_true rfl)
set_option maxHeartbeats 4000000 in
set_option maxRecDepth 100000 in
theorem C63_make (l : Launch) (G : Nat → Nat) (D : va_G) (K : Nat → ClassId) (sz : Nat) (h0 : Nat) (v0 : Value) (j0 : Nat) (lj0 : 4 ≤ j0) (gj0 : j0 ≤ 2147483647) (o0 : Int32) : CM l yX12_make cX12_make 6 (some FieldType.int) ({ frames := 3, cells := 0, slots := 0, locals := 65 } : Room) G D K [.ref h0, .int (nI j0), .int (nI 2), .int o0] [(h0, .inr (12, [.int (nI 0), v0]))] sz (CQi (nI 0) D (fun _ => [(h0, .inr (12, [.int (nI 1), v0]))])) := by
  refine CM_of (lv0 := [(0, .ref h0), (1, .int (nI j0)), (2, .int (nI 2)), (3, .int o0)]) pn_RX12 (Nat.le_of_ble_eq_true rfl) rfl (fun p e s m args below meth c A ls hx hb hr hml hown hts hlk hnm hP hK hD hS hA hm hl => ?_)
  have hown : s.vm.findClass RX12 = some m.cls := hown
  refine lv_iload_n hx hb dX12_make_0 rfl (lv_at hl 2 rfl) ?_
  refine lv_iconst (v := nI 3) hx hb dX12_make_1 (by decide +kernel) ?_
  refine lv_icmp_ne (tgt := 9) hx hb dX12_make_2 (by decide) (fun _ => ?_) (fun c9 => absurd c9 (by decide +kernel))
  refine lv_iload_n hx hb dX12_make_9 rfl (lv_at hl 2 rfl) ?_
  refine lv_iconst (v := nI 1) hx hb dX12_make_10 (by decide +kernel) ?_
  refine lv_icmp_eq (tgt := 19) hx hb dX12_make_11 (by decide) (fun c9 => absurd c9 (by decide +kernel)) (fun _ => ?_)
  refine lv_iload_n hx hb dX12_make_14 rfl (lv_at hl 2 rfl) ?_
  refine lv_iconst (v := nI 2) hx hb dX12_make_15 (by decide +kernel) ?_
  refine lv_icmp_ne (tgt := 23) hx hb dX12_make_16 (by decide) (fun c9 => absurd (by decide +kernel) c9) (fun _ => ?_)
  refine lv_iconst (v := nI 1) hx hb dX12_make_19 (by decide +kernel) ?_
  refine lv_goto (tgt := 24) hx hb dX12_make_20 (by decide) ?_
  refine lv_istore (lv' := [(4, .int (nI 1)), (0, .ref h0), (1, .int (nI j0)), (2, .int (nI 2)), (3, .int o0)]) hx hb dX12_make_24 hl (by decide) rfl (fun ls hl => ?_)
  refine lv_aload_n hx hb dX12_make_26 rfl (lv_at hl 1 rfl) ?_
  refine lv_iload_n hx hb dX12_make_27 rfl (lv_at hl 2 rfl) ?_
  refine k_i (wr := []) (run_V (rest := []) hx hb hml hown hts hK hP hD hS hA hm (C56_isNoSlot l G D K s.heap.size h0 (v0) j0 (by omega) (by omega)) [0] rfl rfl mok_yX12_isNoSlot w_1345 w_1347 w_p33 (rcv hK hP 0 rfl rfl rfl) ⟨Nat.le_of_ble_eq_true rfl, Nat.le_of_ble_eq_true rfl⟩ rfl hl.1 rfl (Nat.le_of_ble_eq_true rfl) dX12_make_28 ⟨(Nat.le_of_ble_eq_true rfl), (Nat.le_of_ble_eq_true rfl)⟩) hP hD hS hA [0] [] rfl rfl rfl (by decide) (w2 := fun u0 => [(h0, .inr (12, [.int (nI 1), v0]))]) (fun _ => rfl) (fun u0 H locs hP hD hS => ?_)
  refine lv_if_ne (tgt := 96) hx hb dX12_make_31 (by decide) (fun _ => ?_) (fun c9 => absurd c9 (by decide +kernel))
  refine lv_iconst (v := nI 0) hx hb dX12_make_96 (by decide +kernel) ?_
  exact e_i hx hb hr hlk hP hD hS (fun _ => 0) rfl (Nat.le_of_ble_eq_true rfl) (Nat.le_of_ble_eq_true rfl) rfl dX12_make_97
set_option maxHeartbeats 4000000 in
set_option maxRecDepth 100000 in
theorem C64_make (l : Launch) (G : Nat → Nat) (D : va_G) (K : Nat → ClassId) (hl0 : l.stackTraces = false) (sz : Nat) (a0 : Nat) (j0 : Nat) (lj0 : 4 ≤ j0) (gj0 : j0 ≤ 2147483647) (o0 : Int32) : CMX l yX9_make cX9_make 6 (some FieldType.int) ({ frames := 7, cells := 1, slots := 6, locals := 110 } : Room) G D K [.ref a0, .int (nI j0), .int (nI 3), .int o0] [] sz "java/lang/IndexOutOfBoundsException" := by
  refine CMX_of (lv0 := [(0, .ref a0), (1, .int (nI j0)), (2, .int (nI 3)), (3, .int o0)]) pn_RX9 (Nat.le_of_ble_eq_true rfl) rfl (fun p e s m args below meth c A ls hx hb htab hml hown hts hlk hnm hP hK hD hS hA hm hl => ?_)
  have hown : s.vm.findClass RX9 = some m.cls := hown
  refine lv_iload_n hx hb dX9_make_0 rfl (lv_at hl 1 rfl) ?_
  exact k_x (xun_S (rest := []) hx hb hml hown hts hK hP hD hS hA hm (C52_requireSlot l G D K hl0 s.heap.size j0 (by omega) (by omega)) [] rfl rfl mok_yX9_requireSlot w_687 w_688 ⟨Nat.le_of_ble_eq_true rfl, Nat.le_of_ble_eq_true rfl⟩ rfl hl.1 rfl (Nat.le_of_ble_eq_true rfl) dX9_make_1 ⟨(Nat.le_of_ble_eq_true rfl), (Nat.le_of_ble_eq_true rfl)⟩) htab hlk hD hS hA [] rfl (Nat.le_of_ble_eq_true rfl) (Nat.le_of_ble_eq_true rfl)
set_option maxHeartbeats 4000000 in
set_option maxRecDepth 100000 in
theorem C65_make (l : Launch) (G : Nat → Nat) (D : va_G) (K : Nat → ClassId) (sz : Nat) (h0 : Nat) (v0 : Value) (j0 : Nat) (lj0 : 4 ≤ j0) (gj0 : j0 ≤ 2147483647) (o0 : Int32) : CM l yX12_make cX12_make 6 (some FieldType.int) ({ frames := 3, cells := 0, slots := 0, locals := 65 } : Room) G D K [.ref h0, .int (nI j0), .int (nI 3), .int o0] [(h0, .inr (12, [.int (nI 0), v0]))] sz (CQi (nI 0) D (fun _ => [(h0, .inr (12, [.int (nI 1), v0]))])) := by
  refine CM_of (lv0 := [(0, .ref h0), (1, .int (nI j0)), (2, .int (nI 3)), (3, .int o0)]) pn_RX12 (Nat.le_of_ble_eq_true rfl) rfl (fun p e s m args below meth c A ls hx hb hr hml hown hts hlk hnm hP hK hD hS hA hm hl => ?_)
  have hown : s.vm.findClass RX12 = some m.cls := hown
  refine lv_iload_n hx hb dX12_make_0 rfl (lv_at hl 2 rfl) ?_
  refine lv_iconst (v := nI 3) hx hb dX12_make_1 (by decide +kernel) ?_
  refine lv_icmp_ne (tgt := 9) hx hb dX12_make_2 (by decide) (fun c9 => absurd (by decide +kernel) c9) (fun _ => ?_)
  refine lv_iconst (v := nI 2) hx hb dX12_make_5 (by decide +kernel) ?_
  refine lv_goto (tgt := 24) hx hb dX12_make_6 (by decide) ?_
  refine lv_istore (lv' := [(4, .int (nI 2)), (0, .ref h0), (1, .int (nI j0)), (2, .int (nI 3)), (3, .int o0)]) hx hb dX12_make_24 hl (by decide) rfl (fun ls hl => ?_)
  refine lv_aload_n hx hb dX12_make_26 rfl (lv_at hl 1 rfl) ?_
  refine lv_iload_n hx hb dX12_make_27 rfl (lv_at hl 2 rfl) ?_
  refine k_i (wr := []) (run_V (rest := []) hx hb hml hown hts hK hP hD hS hA hm (C56_isNoSlot l G D K s.heap.size h0 (v0) j0 (by omega) (by omega)) [0] rfl rfl mok_yX12_isNoSlot w_1345 w_1347 w_p33 (rcv hK hP 0 rfl rfl rfl) ⟨Nat.le_of_ble_eq_true rfl, Nat.le_of_ble_eq_true rfl⟩ rfl hl.1 rfl (Nat.le_of_ble_eq_true rfl) dX12_make_28 ⟨(Nat.le_of_ble_eq_true rfl), (Nat.le_of_ble_eq_true rfl)⟩) hP hD hS hA [0] [] rfl rfl rfl (by decide) (w2 := fun u0 => [(h0, .inr (12, [.int (nI 1), v0]))]) (fun _ => rfl) (fun u0 H locs hP hD hS => ?_)
  refine lv_if_ne (tgt := 96) hx hb dX12_make_31 (by decide) (fun _ => ?_) (fun c9 => absurd c9 (by decide +kernel))
  refine lv_iconst (v := nI 0) hx hb dX12_make_96 (by decide +kernel) ?_
  exact e_i hx hb hr hlk hP hD hS (fun _ => 0) rfl (Nat.le_of_ble_eq_true rfl) (Nat.le_of_ble_eq_true rfl) rfl dX12_make_97
set_option maxHeartbeats 4000000 in
set_option maxRecDepth 100000 in
theorem C66_make (l : Launch) (G : Nat → Nat) (D : va_G) (K : Nat → ClassId) (hl0 : l.stackTraces = false) (sz : Nat) (a0 : Nat) (j0 : Nat) (lj0 : 4 ≤ j0) (gj0 : j0 ≤ 2147483647) (o0 : Int32) : CMX l yX9_make cX9_make 6 (some FieldType.int) ({ frames := 7, cells := 1, slots := 6, locals := 110 } : Room) G D K [.ref a0, .int (nI j0), .int (nI 4), .int o0] [] sz "java/lang/IndexOutOfBoundsException" := by
  refine CMX_of (lv0 := [(0, .ref a0), (1, .int (nI j0)), (2, .int (nI 4)), (3, .int o0)]) pn_RX9 (Nat.le_of_ble_eq_true rfl) rfl (fun p e s m args below meth c A ls hx hb htab hml hown hts hlk hnm hP hK hD hS hA hm hl => ?_)
  have hown : s.vm.findClass RX9 = some m.cls := hown
  refine lv_iload_n hx hb dX9_make_0 rfl (lv_at hl 1 rfl) ?_
  exact k_x (xun_S (rest := []) hx hb hml hown hts hK hP hD hS hA hm (C52_requireSlot l G D K hl0 s.heap.size j0 (by omega) (by omega)) [] rfl rfl mok_yX9_requireSlot w_687 w_688 ⟨Nat.le_of_ble_eq_true rfl, Nat.le_of_ble_eq_true rfl⟩ rfl hl.1 rfl (Nat.le_of_ble_eq_true rfl) dX9_make_1 ⟨(Nat.le_of_ble_eq_true rfl), (Nat.le_of_ble_eq_true rfl)⟩) htab hlk hD hS hA [] rfl (Nat.le_of_ble_eq_true rfl) (Nat.le_of_ble_eq_true rfl)
set_option maxHeartbeats 4000000 in
set_option maxRecDepth 100000 in
theorem C67_make (l : Launch) (G : Nat → Nat) (D : va_G) (K : Nat → ClassId) (sz : Nat) (h0 : Nat) (v0 : Value) (j0 : Nat) (lj0 : 4 ≤ j0) (gj0 : j0 ≤ 2147483647) (o0 : Int32) : CM l yX12_make cX12_make 6 (some FieldType.int) ({ frames := 3, cells := 0, slots := 0, locals := 65 } : Room) G D K [.ref h0, .int (nI j0), .int (nI 4), .int o0] [(h0, .inr (12, [.int (nI 0), v0]))] sz (CQi (nI 0) D (fun _ => [(h0, .inr (12, [.int (nI 1), v0]))])) := by
  refine CM_of (lv0 := [(0, .ref h0), (1, .int (nI j0)), (2, .int (nI 4)), (3, .int o0)]) pn_RX12 (Nat.le_of_ble_eq_true rfl) rfl (fun p e s m args below meth c A ls hx hb hr hml hown hts hlk hnm hP hK hD hS hA hm hl => ?_)
  have hown : s.vm.findClass RX12 = some m.cls := hown
  refine lv_iload_n hx hb dX12_make_0 rfl (lv_at hl 2 rfl) ?_
  refine lv_iconst (v := nI 3) hx hb dX12_make_1 (by decide +kernel) ?_
  refine lv_icmp_ne (tgt := 9) hx hb dX12_make_2 (by decide) (fun _ => ?_) (fun c9 => absurd c9 (by decide +kernel))
  refine lv_iload_n hx hb dX12_make_9 rfl (lv_at hl 2 rfl) ?_
  refine lv_iconst (v := nI 1) hx hb dX12_make_10 (by decide +kernel) ?_
  refine lv_icmp_eq (tgt := 19) hx hb dX12_make_11 (by decide) (fun c9 => absurd c9 (by decide +kernel)) (fun _ => ?_)
  refine lv_iload_n hx hb dX12_make_14 rfl (lv_at hl 2 rfl) ?_
  refine lv_iconst (v := nI 2) hx hb dX12_make_15 (by decide +kernel) ?_
  refine lv_icmp_ne (tgt := 23) hx hb dX12_make_16 (by decide) (fun _ => ?_) (fun c9 => absurd c9 (by decide +kernel))
  refine lv_iconst (v := nI 0) hx hb dX12_make_23 (by decide +kernel) ?_
  refine lv_istore (lv' := [(4, .int (nI 0)), (0, .ref h0), (1, .int (nI j0)), (2, .int (nI 4)), (3, .int o0)]) hx hb dX12_make_24 hl (by decide) rfl (fun ls hl => ?_)
  refine lv_aload_n hx hb dX12_make_26 rfl (lv_at hl 1 rfl) ?_
  refine lv_iload_n hx hb dX12_make_27 rfl (lv_at hl 2 rfl) ?_
  refine k_i (wr := []) (run_V (rest := []) hx hb hml hown hts hK hP hD hS hA hm (C56_isNoSlot l G D K s.heap.size h0 (v0) j0 (by omega) (by omega)) [0] rfl rfl mok_yX12_isNoSlot w_1345 w_1347 w_p33 (rcv hK hP 0 rfl rfl rfl) ⟨Nat.le_of_ble_eq_true rfl, Nat.le_of_ble_eq_true rfl⟩ rfl hl.1 rfl (Nat.le_of_ble_eq_true rfl) dX12_make_28 ⟨(Nat.le_of_ble_eq_true rfl), (Nat.le_of_ble_eq_true rfl)⟩) hP hD hS hA [0] [] rfl rfl rfl (by decide) (w2 := fun u0 => [(h0, .inr (12, [.int (nI 1), v0]))]) (fun _ => rfl) (fun u0 H locs hP hD hS => ?_)
  refine lv_if_ne (tgt := 96) hx hb dX12_make_31 (by decide) (fun _ => ?_) (fun c9 => absurd c9 (by decide +kernel))
  refine lv_iconst (v := nI 0) hx hb dX12_make_96 (by decide +kernel) ?_
  exact e_i hx hb hr hlk hP hD hS (fun _ => 0) rfl (Nat.le_of_ble_eq_true rfl) (Nat.le_of_ble_eq_true rfl) rfl dX12_make_97
set_option maxHeartbeats 4000000 in
set_option maxRecDepth 100000 in
theorem C68_make (l : Launch) (G : Nat → Nat) (D : va_G) (K : Nat → ClassId) (hl0 : l.stackTraces = false) (sz : Nat) (a0 : Nat) (j0 : Nat) (lj0 : 4 ≤ j0) (gj0 : j0 ≤ 2147483647) (j1 : Nat) (lj1 : 5 ≤ j1) (gj1 : j1 ≤ 2147483647) (o0 : Int32) : CMX l yX9_make cX9_make 6 (some FieldType.int) ({ frames := 7, cells := 1, slots := 6, locals := 110 } : Room) G D K [.ref a0, .int (nI j0), .int (nI j1), .int o0] [] sz "java/lang/IndexOutOfBoundsException" := by
  refine CMX_of (lv0 := [(0, .ref a0), (1, .int (nI j0)), (2, .int (nI j1)), (3, .int o0)]) pn_RX9 (Nat.le_of_ble_eq_true rfl) rfl (fun p e s m args below meth c A ls hx hb htab hml hown hts hlk hnm hP hK hD hS hA hm hl => ?_)
  have hown : s.vm.findClass RX9 = some m.cls := hown
  refine lv_iload_n hx hb dX9_make_0 rfl (lv_at hl 1 rfl) ?_
  exact k_x (xun_S (rest := []) hx hb hml hown hts hK hP hD hS hA hm (C52_requireSlot l G D K hl0 s.heap.size j0 (by omega) (by omega)) [] rfl rfl mok_yX9_requireSlot w_687 w_688 ⟨Nat.le_of_ble_eq_true rfl, Nat.le_of_ble_eq_true rfl⟩ rfl hl.1 rfl (Nat.le_of_ble_eq_true rfl) dX9_make_1 ⟨(Nat.le_of_ble_eq_true rfl), (Nat.le_of_ble_eq_true rfl)⟩) htab hlk hD hS hA [] rfl (Nat.le_of_ble_eq_true rfl) (Nat.le_of_ble_eq_true rfl)
set_option maxHeartbeats 4000000 in
set_option maxRecDepth 100000 in
theorem C69_make (l : Launch) (G : Nat → Nat) (D : va_G) (K : Nat → ClassId) (sz : Nat) (h0 : Nat) (v0 : Value) (j0 : Nat) (lj0 : 4 ≤ j0) (gj0 : j0 ≤ 2147483647) (j1 : Nat) (lj1 : 5 ≤ j1) (gj1 : j1 ≤ 2147483647) (o0 : Int32) : CM l yX12_make cX12_make 6 (some FieldType.int) ({ frames := 3, cells := 0, slots := 0, locals := 65 } : Room) G D K [.ref h0, .int (nI j0), .int (nI j1), .int o0] [(h0, .inr (12, [.int (nI 0), v0]))] sz (CQi (nI 0) D (fun _ => [(h0, .inr (12, [.int (nI 1), v0]))])) := by
  refine CM_of (lv0 := [(0, .ref h0), (1, .int (nI j0)), (2, .int (nI j1)), (3, .int o0)]) pn_RX12 (Nat.le_of_ble_eq_true rfl) rfl (fun p e s m args below meth c A ls hx hb hr hml hown hts hlk hnm hP hK hD hS hA hm hl => ?_)
  have hown : s.vm.findClass RX12 = some m.cls := hown
  refine lv_iload_n hx hb dX12_make_0 rfl (lv_at hl 2 rfl) ?_
  refine lv_iconst (v := nI 3) hx hb dX12_make_1 (by decide +kernel) ?_
  refine lv_icmp_ne (tgt := 9) hx hb dX12_make_2 (by decide) (fun _ => ?_) (fun c9 => absurd c9 (fun h9 => absurd ((nI_eq (a := j1) (b := 3) (by omega) (by omega)).mp h9) (by omega)))
  refine lv_iload_n hx hb dX12_make_9 rfl (lv_at hl 2 rfl) ?_
  refine lv_iconst (v := nI 1) hx hb dX12_make_10 (by decide +kernel) ?_
  refine lv_icmp_eq (tgt := 19) hx hb dX12_make_11 (by decide) (fun c9 => absurd c9 (fun h9 => absurd ((nI_eq (a := j1) (b := 1) (by omega) (by omega)).mp h9) (by omega))) (fun _ => ?_)
  refine lv_iload_n hx hb dX12_make_14 rfl (lv_at hl 2 rfl) ?_
  refine lv_iconst (v := nI 2) hx hb dX12_make_15 (by decide +kernel) ?_
  refine lv_icmp_ne (tgt := 23) hx hb dX12_make_16 (by decide) (fun _ => ?_) (fun c9 => absurd c9 (fun h9 => absurd ((nI_eq (a := j1) (b := 2) (by omega) (by omega)).mp h9) (by omega)))
  refine lv_iconst (v := nI 0) hx hb dX12_make_23 (by decide +kernel) ?_
  refine lv_istore (lv' := [(4, .int (nI 0)), (0, .ref h0), (1, .int (nI j0)), (2, .int (nI j1)), (3, .int o0)]) hx hb dX12_make_24 hl (by decide) rfl (fun ls hl => ?_)
  refine lv_aload_n hx hb dX12_make_26 rfl (lv_at hl 1 rfl) ?_
  refine lv_iload_n hx hb dX12_make_27 rfl (lv_at hl 2 rfl) ?_
  refine k_i (wr := []) (run_V (rest := []) hx hb hml hown hts hK hP hD hS hA hm (C56_isNoSlot l G D K s.heap.size h0 (v0) j0 (by omega) (by omega)) [0] rfl rfl mok_yX12_isNoSlot w_1345 w_1347 w_p33 (rcv hK hP 0 rfl rfl rfl) ⟨Nat.le_of_ble_eq_true rfl, Nat.le_of_ble_eq_true rfl⟩ rfl hl.1 rfl (Nat.le_of_ble_eq_true rfl) dX12_make_28 ⟨(Nat.le_of_ble_eq_true rfl), (Nat.le_of_ble_eq_true rfl)⟩) hP hD hS hA [0] [] rfl rfl rfl (by decide) (w2 := fun u0 => [(h0, .inr (12, [.int (nI 1), v0]))]) (fun _ => rfl) (fun u0 H locs hP hD hS => ?_)
  refine lv_if_ne (tgt := 96) hx hb dX12_make_31 (by decide) (fun _ => ?_) (fun c9 => absurd c9 (by decide +kernel))
  refine lv_iconst (v := nI 0) hx hb dX12_make_96 (by decide +kernel) ?_
  exact e_i hx hb hr hlk hP hD hS (fun _ => 0) rfl (Nat.le_of_ble_eq_true rfl) (Nat.le_of_ble_eq_true rfl) rfl dX12_make_97
set_option maxHeartbeats 4000000 in
set_option maxRecDepth 100000 in
theorem C70_requireSlot (l : Launch) (G : Nat → Nat) (D : va_G) (K : Nat → ClassId) (sz : Nat) (j0 : Nat) (lj0 : 0 ≤ j0) (gj0 : j0 ≤ 3) : CM l yX9_requireSlot cX9_requireSlot 1 (none : Option FieldType) ({ frames := 0, cells := 0, slots := 0, locals := 0 } : Room) G D K [.int (nI j0)] [] sz (CQv D (fun _ => [])) := by
  refine CM_of (lv0 := [(0, .int (nI j0))]) pn_RX9 (Nat.le_of_ble_eq_true rfl) rfl (fun p e s m args below meth c A ls hx hb hr hml hown hts hlk hnm hP hK hD hS hA hm hl => ?_)
  have hown : s.vm.findClass RX9 = some m.cls := hown
  refine lv_iload_n hx hb dX9_requireSlot_0 rfl (lv_at hl 0 rfl) ?_
  refine lv_if_lt (tgt := 9) hx hb dX9_requireSlot_1 (by decide) (fun c9 => absurd c9 (fun h9 => absurd ((nI_ltI (a := j0) (b := 0) (by omega) (by omega)).mp h9) (by omega))) (fun _ => ?_)
  refine lv_iload_n hx hb dX9_requireSlot_4 rfl (lv_at hl 0 rfl) ?_
  refine lv_iconst (v := nI 4) hx hb dX9_requireSlot_5 (by decide +kernel) ?_
  refine lv_icmp_lt (tgt := 20) hx hb dX9_requireSlot_6 (by decide) (fun _ => ?_) (fun c9 => absurd ((nI_ltI (a := j0) (b := 4) (by omega) (by omega)).mpr (by omega)) c9)
  exact e_v hx hb hr hlk hP hD hS (fun _ => 0) rfl (Nat.le_of_ble_eq_true rfl) (Nat.le_of_ble_eq_true rfl) dX9_requireSlot_20
set_option maxHeartbeats 4000000 in
set_option maxRecDepth 100000 in
theorem C71_make (l : Launch) (G : Nat → Nat) (D : va_G) (K : Nat → ClassId) (hl0 : l.stackTraces = false) (sz : Nat) (a0 : Nat) (j0 : Nat) (lj0 : 0 ≤ j0) (gj0 : j0 ≤ 3) (x0 : Int32) (hx0 : x0 < 0) (o0 : Int32) : CMX l yX9_make cX9_make 6 (some FieldType.int) ({ frames := 6, cells := 1, slots := 6, locals := 90 } : Room) G D K [.ref a0, .int (nI j0), .int x0, .int o0] [] sz "java/lang/IllegalArgumentException" := by
  refine CMX_of (lv0 := [(0, .ref a0), (1, .int (nI j0)), (2, .int x0), (3, .int o0)]) pn_RX9 (Nat.le_of_ble_eq_true rfl) rfl (fun p e s m args below meth c A ls hx hb htab hml hown hts hlk hnm hP hK hD hS hA hm hl => ?_)
  have hown : s.vm.findClass RX9 = some m.cls := hown
  refine lv_iload_n hx hb dX9_make_0 rfl (lv_at hl 1 rfl) ?_
  refine k_v (wr := []) (run_S (rest := []) hx hb hml hown hts hK hP hD hS hA hm (C70_requireSlot l G D K s.heap.size j0 (by omega) (by omega)) [] rfl rfl mok_yX9_requireSlot w_687 w_688 ⟨Nat.le_of_ble_eq_true rfl, Nat.le_of_ble_eq_true rfl⟩ rfl hl.1 rfl (Nat.le_of_ble_eq_true rfl) dX9_make_1 ⟨(Nat.le_of_ble_eq_true rfl), (Nat.le_of_ble_eq_true rfl)⟩) hP hD hS hA [] [] rfl rfl rfl (by decide) (w2 := fun u0 => []) (fun _ => rfl) (fun u0 H locs hP hD hS => ?_)
  refine lv_iload_n hx hb dX9_make_4 rfl (lv_at hl 2 rfl) ?_
  refine lv_if_lt (tgt := 27) hx hb dX9_make_5 (by decide) (fun _ => ?_) (fun c9 => absurd (ng_lt hx0 (n := 0) (by omega)) c9)
  exact x_throw (names := ["java/lang/RuntimeException", "java/lang/Exception"]) (text := "no such KIND, or not with so many FIELDS") hx hb hl0 htab hml hown hts hlk hS hm hl.1 (by decide +kernel) (by decide +kernel) w_594 w_26 (str_100) hat_iae_102 dX9_make_27 dX9_make_30 dX9_make_31 dX9_make_33 dX9_make_36 (Nat.le_of_ble_eq_true rfl) (Nat.le_of_ble_eq_true rfl) (Nat.le_of_ble_eq_true rfl) (Nat.le_of_ble_eq_true rfl) (Nat.le_of_ble_eq_true rfl) (Nat.le_of_ble_eq_true rfl)
set_option maxHeartbeats 4000000 in
set_option maxRecDepth 100000 in
theorem C72_isIn (l : Launch) (G : Nat → Nat) (D : va_G) (K : Nat → ClassId) (sz : Nat) (j0 : Nat) (lj0 : 0 ≤ j0) (gj0 : j0 ≤ 3) : CM l yX12_isIn cX12_isIn 3 (some FieldType.boolean) ({ frames := 0, cells := 0, slots := 0, locals := 0 } : Room) G D K [.int (nI j0), .int (nI 0), .int (nI 3)] [] sz (CQi (nI 1) D (fun _ => [])) := by
  refine CM_of (lv0 := [(0, .int (nI j0)), (1, .int (nI 0)), (2, .int (nI 3))]) pn_RX12 (Nat.le_of_ble_eq_true rfl) rfl (fun p e s m args below meth c A ls hx hb hr hml hown hts hlk hnm hP hK hD hS hA hm hl => ?_)
  have hown : s.vm.findClass RX12 = some m.cls := hown
  refine lv_iload_n hx hb dX12_isIn_0 rfl (lv_at hl 0 rfl) ?_
  refine lv_iload_n hx hb dX12_isIn_1 rfl (lv_at hl 1 rfl) ?_
  refine lv_icmp_lt (tgt := 14) hx hb dX12_isIn_2 (by decide) (fun c9 => absurd c9 (fun h9 => absurd ((nI_ltI (a := j0) (b := 0) (by omega) (by omega)).mp h9) (by omega))) (fun _ => ?_)
  refine lv_iload_n hx hb dX12_isIn_5 rfl (lv_at hl 0 rfl) ?_
  refine lv_iload_n hx hb dX12_isIn_6 rfl (lv_at hl 2 rfl) ?_
  refine lv_icmp_gt (tgt := 14) hx hb dX12_isIn_7 (by decide) (fun c9 => absurd c9 (fun h9 => absurd ((nI_ltI (a := 3) (b := j0) (by omega) (by omega)).mp h9) (by omega))) (fun _ => ?_)
  refine lv_iconst (v := nI 1) hx hb dX12_isIn_10 (by decide +kernel) ?_
  refine lv_goto (tgt := 15) hx hb dX12_isIn_11 (by decide) ?_
  exact e_z hx hb hr hlk hP hD hS (fun _ => 0) rfl (Nat.le_of_ble_eq_true rfl) (Nat.le_of_ble_eq_true rfl) rfl (Or.inr rfl) dX12_isIn_15
set_option maxHeartbeats 4000000 in
set_option maxRecDepth 100000 in
theorem C73_isNo (l : Launch) (G : Nat → Nat) (D : va_G) (K : Nat → ClassId) (sz : Nat) (j0 : Nat) (lj0 : 0 ≤ j0) (gj0 : j0 ≤ 3) : CM l yX12_isNo cX12_isNo 1 (some FieldType.boolean) ({ frames := 1, cells := 0, slots := 0, locals := 22 } : Room) G D K [.int (nI j0)] [] sz (CQi (nI 0) D (fun _ => [])) := by
  refine CM_of (lv0 := [(0, .int (nI j0))]) pn_RX12 (Nat.le_of_ble_eq_true rfl) rfl (fun p e s m args below meth c A ls hx hb hr hml hown hts hlk hnm hP hK hD hS hA hm hl => ?_)
  have hown : s.vm.findClass RX12 = some m.cls := hown
  refine lv_iload_n hx hb dX12_isNo_0 rfl (lv_at hl 0 rfl) ?_
  refine lv_iconst (v := nI 0) hx hb dX12_isNo_1 (by decide +kernel) ?_
  refine lv_iconst (v := nI 3) hx hb dX12_isNo_2 (by decide +kernel) ?_
  refine k_i (wr := []) (run_S (rest := []) hx hb hml hown hts hK hP hD hS hA hm (C72_isIn l G D K s.heap.size j0 (by omega) (by omega)) [] rfl rfl mok_yX12_isIn w_1352 w_1353 ⟨Nat.le_of_ble_eq_true rfl, Nat.le_of_ble_eq_true rfl⟩ rfl hl.1 rfl (Nat.le_of_ble_eq_true rfl) dX12_isNo_3 ⟨(Nat.le_of_ble_eq_true rfl), (Nat.le_of_ble_eq_true rfl)⟩) hP hD hS hA [] [] rfl rfl rfl (by decide) (w2 := fun u0 => []) (fun _ => rfl) (fun u0 H locs hP hD hS => ?_)
  refine lv_if_ne (tgt := 13) hx hb dX12_isNo_6 (by decide) (fun _ => ?_) (fun c9 => absurd c9 (by decide +kernel))
  refine lv_iconst (v := nI 0) hx hb dX12_isNo_13 (by decide +kernel) ?_
  exact e_z hx hb hr hlk hP hD hS (fun _ => 0) rfl (Nat.le_of_ble_eq_true rfl) (Nat.le_of_ble_eq_true rfl) rfl (Or.inl rfl) dX12_isNo_14
set_option maxHeartbeats 4000000 in
set_option maxRecDepth 100000 in
theorem C74_isNoSlot (l : Launch) (G : Nat → Nat) (D : va_G) (K : Nat → ClassId) (sz : Nat) (h0 : Nat) (v0 : Value) (j0 : Nat) (lj0 : 0 ≤ j0) (gj0 : j0 ≤ 3) : CM l yX12_isNoSlot cX12_isNoSlot 2 (some FieldType.boolean) ({ frames := 2, cells := 0, slots := 0, locals := 44 } : Room) G D K [.ref h0, .int (nI j0)] [(h0, .inr (12, [.int (nI 0), v0]))] sz (CQi (nI 0) D (fun _ => [(h0, .inr (12, [.int (nI 0), v0]))])) := by
  refine CM_of (lv0 := [(0, .ref h0), (1, .int (nI j0))]) pn_RX12 (Nat.le_of_ble_eq_true rfl) rfl (fun p e s m args below meth c A ls hx hb hr hml hown hts hlk hnm hP hK hD hS hA hm hl => ?_)
  have hown : s.vm.findClass RX12 = some m.cls := hown
  refine lv_aload_n hx hb dX12_isNoSlot_0 rfl (lv_at hl 0 rfl) ?_
  refine lv_iload_n hx hb dX12_isNoSlot_1 rfl (lv_at hl 1 rfl) ?_
  refine k_i (wr := [(h0, .inr (12, [.int (nI 0), v0]))]) (run_S (rest := [.ref h0]) hx hb hml hown hts hK hP hD hS hA hm (C73_isNo l G D K s.heap.size j0 (by omega) (by omega)) [] rfl rfl mok_yX12_isNo w_1349 w_1350 ⟨Nat.le_of_ble_eq_true rfl, Nat.le_of_ble_eq_true rfl⟩ rfl hl.1 rfl (Nat.le_of_ble_eq_true rfl) dX12_isNoSlot_2 ⟨(Nat.le_of_ble_eq_true rfl), (Nat.le_of_ble_eq_true rfl)⟩) hP hD hS hA [] [0] rfl rfl rfl (by decide) (w2 := fun u0 => [(h0, .inr (12, [.int (nI 0), v0]))]) (fun _ => rfl) (fun u0 H locs hP hD hS => ?_)
  refine lv_iconst (v := nI 1) hx hb dX12_isNoSlot_5 (by decide +kernel) ?_
  refine k_i (wr := []) (run_V (rest := []) hx hb hml hown hts hK hP hD hS hA hm (C25_start l G D K H.size h0 (v0)) [0] rfl rfl mok_yX12_start w_1312 w_1314 w_p30 (rcv hK hP 0 rfl rfl rfl) ⟨Nat.le_of_ble_eq_true rfl, Nat.le_of_ble_eq_true rfl⟩ rfl hl.1 rfl (Nat.le_of_ble_eq_true rfl) dX12_isNoSlot_6 ⟨(Nat.le_of_ble_eq_true rfl), (Nat.le_of_ble_eq_true rfl)⟩) hP hD hS hA [0] [] rfl rfl rfl (by decide) (w2 := fun u1 => [(h0, .inr (12, [.int (nI 0), v0]))]) (fun _ => rfl) (fun u1 H locs hP hD hS => ?_)
  exact e_z hx hb hr hlk hP hD hS (fun _ => 0) rfl (Nat.le_of_ble_eq_true rfl) (Nat.le_of_ble_eq_true rfl) rfl (Or.inl rfl) dX12_isNoSlot_9
set_option maxHeartbeats 4000000 in
set_option maxRecDepth 100000 in
theorem C75_isIn (l : Launch) (G : Nat → Nat) (D : va_G) (K : Nat → ClassId) (sz : Nat) (x0 : Int32) (hx0 : x0 < 0) : CM l yX12_isIn cX12_isIn 3 (some FieldType.boolean) ({ frames := 0, cells := 0, slots := 0, locals := 0 } : Room) G D K [.int x0, .int (nI 0), .int (nI 4)] [] sz (CQi (nI 0) D (fun _ => [])) := by
  refine CM_of (lv0 := [(0, .int x0), (1, .int (nI 0)), (2, .int (nI 4))]) pn_RX12 (Nat.le_of_ble_eq_true rfl) rfl (fun p e s m args below meth c A ls hx hb hr hml hown hts hlk hnm hP hK hD hS hA hm hl => ?_)
  have hown : s.vm.findClass RX12 = some m.cls := hown
  refine lv_iload_n hx hb dX12_isIn_0 rfl (lv_at hl 0 rfl) ?_
  refine lv_iload_n hx hb dX12_isIn_1 rfl (lv_at hl 1 rfl) ?_
  refine lv_icmp_lt (tgt := 14) hx hb dX12_isIn_2 (by decide) (fun _ => ?_) (fun c9 => absurd (ng_lt hx0 (n := 0) (by omega)) c9)
  refine lv_iconst (v := nI 0) hx hb dX12_isIn_14 (by decide +kernel) ?_
  exact e_z hx hb hr hlk hP hD hS (fun _ => 0) rfl (Nat.le_of_ble_eq_true rfl) (Nat.le_of_ble_eq_true rfl) rfl (Or.inl rfl) dX12_isIn_15
set_option maxHeartbeats 4000000 in
set_option maxRecDepth 100000 in
theorem C76_refuse (l : Launch) (G : Nat → Nat) (D : va_G) (K : Nat → ClassId) (sz : Nat) (h0 : Nat) (v0 : Value) : CM l yX12_refuse cX12_refuse 3 (some FieldType.boolean) ({ frames := 0, cells := 0, slots := 0, locals := 0 } : Room) G D K [.ref h0, .int (nI 1), .int (nI 2)] [(h0, .inr (12, [.int (nI 0), v0]))] sz (CQi (nI 1) D (fun _ => [(h0, .inr (12, [.int (nI 2), v0]))])) := by
  refine CM_of (lv0 := [(0, .ref h0), (1, .int (nI 1)), (2, .int (nI 2))]) pn_RX12 (Nat.le_of_ble_eq_true rfl) rfl (fun p e s m args below meth c A ls hx hb hr hml hown hts hlk hnm hP hK hD hS hA hm hl => ?_)
  have hown : s.vm.findClass RX12 = some m.cls := hown
  refine lv_iload_n hx hb dX12_refuse_0 rfl (lv_at hl 1 rfl) ?_
  refine lv_if_eq (tgt := 16) hx hb dX12_refuse_1 (by decide) (fun c9 => absurd c9 (by decide +kernel)) (fun _ => ?_)
  refine lv_aload_n hx hb dX12_refuse_4 rfl (lv_at hl 0 rfl) ?_
  refine r_get hx hb hts ok_RX12 hown hK hP 0 rfl rfl 0 (by decide) w_1293 (fun _ h9 => h9) rfl dX12_refuse_5 ?_
  refine lv_if_ne (tgt := 16) hx hb dX12_refuse_8 (by decide) (fun c9 => absurd (by decide +kernel) c9) (fun _ => ?_)
  refine lv_aload_n hx hb dX12_refuse_11 rfl (lv_at hl 0 rfl) ?_
  refine lv_iload_n hx hb dX12_refuse_12 rfl (lv_at hl 2 rfl) ?_
  refine r_put hx hb hts ok_RX12 hown hK hP hD hS 0 rfl rfl 0 (by decide) w_1293 (fun _ h9 => h9) rfl (v := .int (nI 2)) rfl rfl (Nat.le_of_ble_eq_true rfl) dX12_refuse_13 (ws' := [(h0, .inr (12, [.int (nI 2), v0]))]) rfl (fun H locs hP hD hS => ?_)
  refine lv_aload_n hx hb dX12_refuse_16 rfl (lv_at hl 0 rfl) ?_
  refine r_get hx hb hts ok_RX12 hown hK hP 0 rfl rfl 0 (by decide) w_1293 (fun _ h9 => h9) rfl dX12_refuse_17 ?_
  refine lv_if_le (tgt := 27) hx hb dX12_refuse_20 (by decide) (fun c9 => absurd c9 (by decide +kernel)) (fun _ => ?_)
  refine lv_iconst (v := nI 1) hx hb dX12_refuse_23 (by decide +kernel) ?_
  refine lv_goto (tgt := 28) hx hb dX12_refuse_24 (by decide) ?_
  exact e_z hx hb hr hlk hP hD hS (fun _ => 0) rfl (Nat.le_of_ble_eq_true rfl) (Nat.le_of_ble_eq_true rfl) rfl (Or.inr rfl) dX12_refuse_28
set_option maxHeartbeats 4000000 in
set_option maxRecDepth 100000 in
theorem C77_make (l : Launch) (G : Nat → Nat) (D : va_G) (K : Nat → ClassId) (sz : Nat) (h0 : Nat) (v0 : Value) (j0 : Nat) (lj0 : 0 ≤ j0) (gj0 : j0 ≤ 3) (x0 : Int32) (hx0 : x0 < 0) (o0 : Int32) : CM l yX12_make cX12_make 6 (some FieldType.int) ({ frames := 3, cells := 0, slots := 0, locals := 65 } : Room) G D K [.ref h0, .int (nI j0), .int x0, .int o0] [(h0, .inr (12, [.int (nI 0), v0]))] sz (CQi (nI 0) D (fun _ => [(h0, .inr (12, [.int (nI 2), v0]))])) := by
  refine CM_of (lv0 := [(0, .ref h0), (1, .int (nI j0)), (2, .int x0), (3, .int o0)]) pn_RX12 (Nat.le_of_ble_eq_true rfl) rfl (fun p e s m args below meth c A ls hx hb hr hml hown hts hlk hnm hP hK hD hS hA hm hl => ?_)
  have hown : s.vm.findClass RX12 = some m.cls := hown
  refine lv_iload_n hx hb dX12_make_0 rfl (lv_at hl 2 rfl) ?_
  refine lv_iconst (v := nI 3) hx hb dX12_make_1 (by decide +kernel) ?_
  refine lv_icmp_ne (tgt := 9) hx hb dX12_make_2 (by decide) (fun _ => ?_) (fun c9 => absurd c9 (ng_eqN hx0 (n := 3) (by omega)))
  refine lv_iload_n hx hb dX12_make_9 rfl (lv_at hl 2 rfl) ?_
  refine lv_iconst (v := nI 1) hx hb dX12_make_10 (by decide +kernel) ?_
  refine lv_icmp_eq (tgt := 19) hx hb dX12_make_11 (by decide) (fun c9 => absurd c9 (ng_eqN hx0 (n := 1) (by omega))) (fun _ => ?_)
  refine lv_iload_n hx hb dX12_make_14 rfl (lv_at hl 2 rfl) ?_
  refine lv_iconst (v := nI 2) hx hb dX12_make_15 (by decide +kernel) ?_
  refine lv_icmp_ne (tgt := 23) hx hb dX12_make_16 (by decide) (fun _ => ?_) (fun c9 => absurd c9 (ng_eqN hx0 (n := 2) (by omega)))
  refine lv_iconst (v := nI 0) hx hb dX12_make_23 (by decide +kernel) ?_
  refine lv_istore (lv' := [(4, .int (nI 0)), (0, .ref h0), (1, .int (nI j0)), (2, .int x0), (3, .int o0)]) hx hb dX12_make_24 hl (by decide) rfl (fun ls hl => ?_)
  refine lv_aload_n hx hb dX12_make_26 rfl (lv_at hl 1 rfl) ?_
  refine lv_iload_n hx hb dX12_make_27 rfl (lv_at hl 2 rfl) ?_
  refine k_i (wr := []) (run_V (rest := []) hx hb hml hown hts hK hP hD hS hA hm (C74_isNoSlot l G D K s.heap.size h0 (v0) j0 (by omega) (by omega)) [0] rfl rfl mok_yX12_isNoSlot w_1345 w_1347 w_p33 (rcv hK hP 0 rfl rfl rfl) ⟨Nat.le_of_ble_eq_true rfl, Nat.le_of_ble_eq_true rfl⟩ rfl hl.1 rfl (Nat.le_of_ble_eq_true rfl) dX12_make_28 ⟨(Nat.le_of_ble_eq_true rfl), (Nat.le_of_ble_eq_true rfl)⟩) hP hD hS hA [0] [] rfl rfl rfl (by decide) (w2 := fun u0 => [(h0, .inr (12, [.int (nI 0), v0]))]) (fun _ => rfl) (fun u0 H locs hP hD hS => ?_)
  refine lv_if_ne (tgt := 96) hx hb dX12_make_31 (by decide) (fun c9 => absurd (by decide +kernel) c9) (fun _ => ?_)
  refine lv_aload_n hx hb dX12_make_34 rfl (lv_at hl 1 rfl) ?_
  refine lv_iload_n hx hb dX12_make_35 rfl (lv_at hl 3 rfl) ?_
  refine lv_iconst (v := nI 0) hx hb dX12_make_36 (by decide +kernel) ?_
  refine lv_iconst (v := nI 4) hx hb dX12_make_37 (by decide +kernel) ?_
  refine k_i (wr := [(h0, .inr (12, [.int (nI 0), v0]))]) (run_S (rest := [.ref h0]) hx hb hml hown hts hK hP hD hS hA hm (C75_isIn l G D K H.size x0 hx0) [] rfl rfl mok_yX12_isIn w_1352 w_1353 ⟨Nat.le_of_ble_eq_true rfl, Nat.le_of_ble_eq_true rfl⟩ rfl hl.1 rfl (Nat.le_of_ble_eq_true rfl) dX12_make_38 ⟨(Nat.le_of_ble_eq_true rfl), (Nat.le_of_ble_eq_true rfl)⟩) hP hD hS hA [] [0] rfl rfl rfl (by decide) (w2 := fun u1 => [(h0, .inr (12, [.int (nI 0), v0]))]) (fun _ => rfl) (fun u1 H locs hP hD hS => ?_)
  refine lv_if_eq (tgt := 55) hx hb dX12_make_41 (by decide) (fun _ => ?_) (fun c9 => absurd (by decide +kernel) c9)
  refine lv_iconst (v := nI 1) hx hb dX12_make_55 (by decide +kernel) ?_
  refine lv_goto (tgt := 60) hx hb dX12_make_56 (by decide) ?_
  refine lv_iconst (v := nI 2) hx hb dX12_make_60 (by decide +kernel) ?_
  refine k_i (wr := []) (run_V (rest := []) hx hb hml hown hts hK hP hD hS hA hm (C76_refuse l G D K H.size h0 (v0)) [0] rfl rfl mok_yX12_refuse w_1316 w_1318 w_p31 (rcv hK hP 0 rfl rfl rfl) ⟨Nat.le_of_ble_eq_true rfl, Nat.le_of_ble_eq_true rfl⟩ rfl hl.1 rfl (Nat.le_of_ble_eq_true rfl) dX12_make_61 ⟨(Nat.le_of_ble_eq_true rfl), (Nat.le_of_ble_eq_true rfl)⟩) hP hD hS hA [0] [] rfl rfl rfl (by decide) (w2 := fun u2 => [(h0, .inr (12, [.int (nI 2), v0]))]) (fun _ => rfl) (fun u2 H locs hP hD hS => ?_)
  refine lv_if_ne (tgt := 96) hx hb dX12_make_64 (by decide) (fun _ => ?_) (fun c9 => absurd c9 (by decide +kernel))
  refine lv_iconst (v := nI 0) hx hb dX12_make_96 (by decide +kernel) ?_
  exact e_i hx hb hr hlk hP hD hS (fun _ => 0) rfl (Nat.le_of_ble_eq_true rfl) (Nat.le_of_ble_eq_true rfl) rfl dX12_make_97
set_option maxHeartbeats 4000000 in
set_option maxRecDepth 100000 in
theorem C78_make (l : Launch) (G : Nat → Nat) (D : va_G) (K : Nat → ClassId) (hl0 : l.stackTraces = false) (sz : Nat) (a0 : Nat) (j0 : Nat) (lj0 : 0 ≤ j0) (gj0 : j0 ≤ 3) (j1 : Nat) (lj1 : 5 ≤ j1) (gj1 : j1 ≤ 2147483647) (o0 : Int32) : CMX l yX9_make cX9_make 6 (some FieldType.int) ({ frames := 6, cells := 1, slots := 6, locals := 90 } : Room) G D K [.ref a0, .int (nI j0), .int (nI j1), .int o0] [] sz "java/lang/IllegalArgumentException" := by
  refine CMX_of (lv0 := [(0, .ref a0), (1, .int (nI j0)), (2, .int (nI j1)), (3, .int o0)]) pn_RX9 (Nat.le_of_ble_eq_true rfl) rfl (fun p e s m args below meth c A ls hx hb htab hml hown hts hlk hnm hP hK hD hS hA hm hl => ?_)
  have hown : s.vm.findClass RX9 = some m.cls := hown
  refine lv_iload_n hx hb dX9_make_0 rfl (lv_at hl 1 rfl) ?_
  refine k_v (wr := []) (run_S (rest := []) hx hb hml hown hts hK hP hD hS hA hm (C70_requireSlot l G D K s.heap.size j0 (by omega) (by omega)) [] rfl rfl mok_yX9_requireSlot w_687 w_688 ⟨Nat.le_of_ble_eq_true rfl, Nat.le_of_ble_eq_true rfl⟩ rfl hl.1 rfl (Nat.le_of_ble_eq_true rfl) dX9_make_1 ⟨(Nat.le_of_ble_eq_true rfl), (Nat.le_of_ble_eq_true rfl)⟩) hP hD hS hA [] [] rfl rfl rfl (by decide) (w2 := fun u0 => []) (fun _ => rfl) (fun u0 H locs hP hD hS => ?_)
  refine lv_iload_n hx hb dX9_make_4 rfl (lv_at hl 2 rfl) ?_
  refine lv_if_lt (tgt := 27) hx hb dX9_make_5 (by decide) (fun c9 => absurd c9 (fun h9 => absurd ((nI_ltI (a := j1) (b := 0) (by omega) (by omega)).mp h9) (by omega))) (fun _ => ?_)
  refine lv_iload_n hx hb dX9_make_8 rfl (lv_at hl 2 rfl) ?_
  refine lv_iconst (v := nI 4) hx hb dX9_make_9 (by decide +kernel) ?_
  refine lv_icmp_gt (tgt := 27) hx hb dX9_make_10 (by decide) (fun _ => ?_) (fun c9 => absurd ((nI_ltI (a := 4) (b := j1) (by omega) (by omega)).mpr (by omega)) c9)
  exact x_throw (names := ["java/lang/RuntimeException", "java/lang/Exception"]) (text := "no such KIND, or not with so many FIELDS") hx hb hl0 htab hml hown hts hlk hS hm hl.1 (by decide +kernel) (by decide +kernel) w_594 w_26 (str_100) hat_iae_102 dX9_make_27 dX9_make_30 dX9_make_31 dX9_make_33 dX9_make_36 (Nat.le_of_ble_eq_true rfl) (Nat.le_of_ble_eq_true rfl) (Nat.le_of_ble_eq_true rfl) (Nat.le_of_ble_eq_true rfl) (Nat.le_of_ble_eq_true rfl) (Nat.le_of_ble_eq_true rfl)
set_option maxHeartbeats 4000000 in
set_option maxRecDepth 100000 in
theorem C79_isIn (l : Launch) (G : Nat → Nat) (D : va_G) (K : Nat → ClassId) (sz : Nat) (j0 : Nat) (lj0 : 5 ≤ j0) (gj0 : j0 ≤ 2147483647) : CM l yX12_isIn cX12_isIn 3 (some FieldType.boolean) ({ frames := 0, cells := 0, slots := 0, locals := 0 } : Room) G D K [.int (nI j0), .int (nI 0), .int (nI 4)] [] sz (CQi (nI 0) D (fun _ => [])) := by
  refine CM_of (lv0 := [(0, .int (nI j0)), (1, .int (nI 0)), (2, .int (nI 4))]) pn_RX12 (Nat.le_of_ble_eq_true rfl) rfl (fun p e s m args below meth c A ls hx hb hr hml hown hts hlk hnm hP hK hD hS hA hm hl => ?_)
  have hown : s.vm.findClass RX12 = some m.cls := hown
  refine lv_iload_n hx hb dX12_isIn_0 rfl (lv_at hl 0 rfl) ?_
  refine lv_iload_n hx hb dX12_isIn_1 rfl (lv_at hl 1 rfl) ?_
  refine lv_icmp_lt (tgt := 14) hx hb dX12_isIn_2 (by decide) (fun c9 => absurd c9 (fun h9 => absurd ((nI_ltI (a := j0) (b := 0) (by omega) (by omega)).mp h9) (by omega))) (fun _ => ?_)
  refine lv_iload_n hx hb dX12_isIn_5 rfl (lv_at hl 0 rfl) ?_
  refine lv_iload_n hx hb dX12_isIn_6 rfl (lv_at hl 2 rfl) ?_
  refine lv_icmp_gt (tgt := 14) hx hb dX12_isIn_7 (by decide) (fun _ => ?_) (fun c9 => absurd ((nI_ltI (a := 4) (b := j0) (by omega) (by omega)).mpr (by omega)) c9)
  refine lv_iconst (v := nI 0) hx hb dX12_isIn_14 (by decide +kernel) ?_
  exact e_z hx hb hr hlk hP hD hS (fun _ => 0) rfl (Nat.le_of_ble_eq_true rfl) (Nat.le_of_ble_eq_true rfl) rfl (Or.inl rfl) dX12_isIn_15
set_option maxHeartbeats 4000000 in
set_option maxRecDepth 100000 in
theorem C80_make (l : Launch) (G : Nat → Nat) (D : va_G) (K : Nat → ClassId) (sz : Nat) (h0 : Nat) (v0 : Value) (j0 : Nat) (lj0 : 0 ≤ j0) (gj0 : j0 ≤ 3) (j1 : Nat) (lj1 : 5 ≤ j1) (gj1 : j1 ≤ 2147483647) (o0 : Int32) : CM l yX12_make cX12_make 6 (some FieldType.int) ({ frames := 3, cells := 0, slots := 0, locals := 65 } : Room) G D K [.ref h0, .int (nI j0), .int (nI j1), .int o0] [(h0, .inr (12, [.int (nI 0), v0]))] sz (CQi (nI 0) D (fun _ => [(h0, .inr (12, [.int (nI 2), v0]))])) := by
  refine CM_of (lv0 := [(0, .ref h0), (1, .int (nI j0)), (2, .int (nI j1)), (3, .int o0)]) pn_RX12 (Nat.le_of_ble_eq_true rfl) rfl (fun p e s m args below meth c A ls hx hb hr hml hown hts hlk hnm hP hK hD hS hA hm hl => ?_)
  have hown : s.vm.findClass RX12 = some m.cls := hown
  refine lv_iload_n hx hb dX12_make_0 rfl (lv_at hl 2 rfl) ?_
  refine lv_iconst (v := nI 3) hx hb dX12_make_1 (by decide +kernel) ?_
  refine lv_icmp_ne (tgt := 9) hx hb dX12_make_2 (by decide) (fun _ => ?_) (fun c9 => absurd c9 (fun h9 => absurd ((nI_eq (a := j1) (b := 3) (by omega) (by omega)).mp h9) (by omega)))
  refine lv_iload_n hx hb dX12_make_9 rfl (lv_at hl 2 rfl) ?_
  refine lv_iconst (v := nI 1) hx hb dX12_make_10 (by decide +kernel) ?_
  refine lv_icmp_eq (tgt := 19) hx hb dX12_make_11 (by decide) (fun c9 => absurd c9 (fun h9 => absurd ((nI_eq (a := j1) (b := 1) (by omega) (by omega)).mp h9) (by omega))) (fun _ => ?_)
  refine lv_iload_n hx hb dX12_make_14 rfl (lv_at hl 2 rfl) ?_
  refine lv_iconst (v := nI 2) hx hb dX12_make_15 (by decide +kernel) ?_
  refine lv_icmp_ne (tgt := 23) hx hb dX12_make_16 (by decide) (fun _ => ?_) (fun c9 => absurd c9 (fun h9 => absurd ((nI_eq (a := j1) (b := 2) (by omega) (by omega)).mp h9) (by omega)))
  refine lv_iconst (v := nI 0) hx hb dX12_make_23 (by decide +kernel) ?_
  refine lv_istore (lv' := [(4, .int (nI 0)), (0, .ref h0), (1, .int (nI j0)), (2, .int (nI j1)), (3, .int o0)]) hx hb dX12_make_24 hl (by decide) rfl (fun ls hl => ?_)
  refine lv_aload_n hx hb dX12_make_26 rfl (lv_at hl 1 rfl) ?_
  refine lv_iload_n hx hb dX12_make_27 rfl (lv_at hl 2 rfl) ?_
  refine k_i (wr := []) (run_V (rest := []) hx hb hml hown hts hK hP hD hS hA hm (C74_isNoSlot l G D K s.heap.size h0 (v0) j0 (by omega) (by omega)) [0] rfl rfl mok_yX12_isNoSlot w_1345 w_1347 w_p33 (rcv hK hP 0 rfl rfl rfl) ⟨Nat.le_of_ble_eq_true rfl, Nat.le_of_ble_eq_true rfl⟩ rfl hl.1 rfl (Nat.le_of_ble_eq_true rfl) dX12_make_28 ⟨(Nat.le_of_ble_eq_true rfl), (Nat.le_of_ble_eq_true rfl)⟩) hP hD hS hA [0] [] rfl rfl rfl (by decide) (w2 := fun u0 => [(h0, .inr (12, [.int (nI 0), v0]))]) (fun _ => rfl) (fun u0 H locs hP hD hS => ?_)
  refine lv_if_ne (tgt := 96) hx hb dX12_make_31 (by decide) (fun c9 => absurd (by decide +kernel) c9) (fun _ => ?_)
  refine lv_aload_n hx hb dX12_make_34 rfl (lv_at hl 1 rfl) ?_
  refine lv_iload_n hx hb dX12_make_35 rfl (lv_at hl 3 rfl) ?_
  refine lv_iconst (v := nI 0) hx hb dX12_make_36 (by decide +kernel) ?_
  refine lv_iconst (v := nI 4) hx hb dX12_make_37 (by decide +kernel) ?_
  refine k_i (wr := [(h0, .inr (12, [.int (nI 0), v0]))]) (run_S (rest := [.ref h0]) hx hb hml hown hts hK hP hD hS hA hm (C79_isIn l G D K H.size j1 (by omega) (by omega)) [] rfl rfl mok_yX12_isIn w_1352 w_1353 ⟨Nat.le_of_ble_eq_true rfl, Nat.le_of_ble_eq_true rfl⟩ rfl hl.1 rfl (Nat.le_of_ble_eq_true rfl) dX12_make_38 ⟨(Nat.le_of_ble_eq_true rfl), (Nat.le_of_ble_eq_true rfl)⟩) hP hD hS hA [] [0] rfl rfl rfl (by decide) (w2 := fun u1 => [(h0, .inr (12, [.int (nI 0), v0]))]) (fun _ => rfl) (fun u1 H locs hP hD hS => ?_)
  refine lv_if_eq (tgt := 55) hx hb dX12_make_41 (by decide) (fun _ => ?_) (fun c9 => absurd (by decide +kernel) c9)
  refine lv_iconst (v := nI 1) hx hb dX12_make_55 (by decide +kernel) ?_
  refine lv_goto (tgt := 60) hx hb dX12_make_56 (by decide) ?_
  refine lv_iconst (v := nI 2) hx hb dX12_make_60 (by decide +kernel) ?_
  refine k_i (wr := []) (run_V (rest := []) hx hb hml hown hts hK hP hD hS hA hm (C76_refuse l G D K H.size h0 (v0)) [0] rfl rfl mok_yX12_refuse w_1316 w_1318 w_p31 (rcv hK hP 0 rfl rfl rfl) ⟨Nat.le_of_ble_eq_true rfl, Nat.le_of_ble_eq_true rfl⟩ rfl hl.1 rfl (Nat.le_of_ble_eq_true rfl) dX12_make_61 ⟨(Nat.le_of_ble_eq_true rfl), (Nat.le_of_ble_eq_true rfl)⟩) hP hD hS hA [0] [] rfl rfl rfl (by decide) (w2 := fun u2 => [(h0, .inr (12, [.int (nI 2), v0]))]) (fun _ => rfl) (fun u2 H locs hP hD hS => ?_)
  refine lv_if_ne (tgt := 96) hx hb dX12_make_64 (by decide) (fun _ => ?_) (fun c9 => absurd c9 (by decide +kernel))
  refine lv_iconst (v := nI 0) hx hb dX12_make_96 (by decide +kernel) ?_
  exact e_i hx hb hr hlk hP hD hS (fun _ => 0) rfl (Nat.le_of_ble_eq_true rfl) (Nat.le_of_ble_eq_true rfl) rfl dX12_make_97
set_option maxHeartbeats 4000000 in
set_option maxRecDepth 100000 in
theorem C81_leastFields (l : Launch) (G : Nat → Nat) (D : va_G) (K : Nat → ClassId) (sz : Nat) : CM l yX9_leastFields cX9_leastFields 1 (some FieldType.int) ({ frames := 0, cells := 0, slots := 0, locals := 0 } : Room) G D K [.int (nI 0)] [] sz (CQi (nI 0) D (fun _ => [])) := by
  refine CM_of (lv0 := [(0, .int (nI 0))]) pn_RX9 (Nat.le_of_ble_eq_true rfl) rfl (fun p e s m args below meth c A ls hx hb hr hml hown hts hlk hnm hP hK hD hS hA hm hl => ?_)
  have hown : s.vm.findClass RX9 = some m.cls := hown
  refine lv_iload_n hx hb dX9_leastFields_0 rfl (lv_at hl 0 rfl) ?_
  refine lv_iconst (v := nI 3) hx hb dX9_leastFields_1 (by decide +kernel) ?_
  refine lv_icmp_ne (tgt := 7) hx hb dX9_leastFields_2 (by decide) (fun _ => ?_) (fun c9 => absurd c9 (by decide +kernel))
  refine lv_iload_n hx hb dX9_leastFields_7 rfl (lv_at hl 0 rfl) ?_
  refine lv_iconst (v := nI 1) hx hb dX9_leastFields_8 (by decide +kernel) ?_
  refine lv_icmp_eq (tgt := 17) hx hb dX9_leastFields_9 (by decide) (fun c9 => absurd c9 (by decide +kernel)) (fun _ => ?_)
  refine lv_iload_n hx hb dX9_leastFields_12 rfl (lv_at hl 0 rfl) ?_
  refine lv_iconst (v := nI 2) hx hb dX9_leastFields_13 (by decide +kernel) ?_
  refine lv_icmp_ne (tgt := 21) hx hb dX9_leastFields_14 (by decide) (fun _ => ?_) (fun c9 => absurd c9 (by decide +kernel))
  refine lv_iconst (v := nI 0) hx hb dX9_leastFields_21 (by decide +kernel) ?_
  exact e_i hx hb hr hlk hP hD hS (fun _ => 0) rfl (Nat.le_of_ble_eq_true rfl) (Nat.le_of_ble_eq_true rfl) rfl dX9_leastFields_22
set_option maxHeartbeats 4000000 in
set_option maxRecDepth 100000 in
theorem C82_make (l : Launch) (G : Nat → Nat) (D : va_G) (K : Nat → ClassId) (hl0 : l.stackTraces = false) (sz : Nat) (a0 : Nat) (j0 : Nat) (lj0 : 0 ≤ j0) (gj0 : j0 ≤ 3) (x0 : Int32) (hx0 : x0 < 0) : CMX l yX9_make cX9_make 6 (some FieldType.int) ({ frames := 6, cells := 1, slots := 6, locals := 90 } : Room) G D K [.ref a0, .int (nI j0), .int (nI 0), .int x0] [] sz "java/lang/IllegalArgumentException" := by
  refine CMX_of (lv0 := [(0, .ref a0), (1, .int (nI j0)), (2, .int (nI 0)), (3, .int x0)]) pn_RX9 (Nat.le_of_ble_eq_true rfl) rfl (fun p e s m args below meth c A ls hx hb htab hml hown hts hlk hnm hP hK hD hS hA hm hl => ?_)
  have hown : s.vm.findClass RX9 = some m.cls := hown
  refine lv_iload_n hx hb dX9_make_0 rfl (lv_at hl 1 rfl) ?_
  refine k_v (wr := []) (run_S (rest := []) hx hb hml hown hts hK hP hD hS hA hm (C70_requireSlot l G D K s.heap.size j0 (by omega) (by omega)) [] rfl rfl mok_yX9_requireSlot w_687 w_688 ⟨Nat.le_of_ble_eq_true rfl, Nat.le_of_ble_eq_true rfl⟩ rfl hl.1 rfl (Nat.le_of_ble_eq_true rfl) dX9_make_1 ⟨(Nat.le_of_ble_eq_true rfl), (Nat.le_of_ble_eq_true rfl)⟩) hP hD hS hA [] [] rfl rfl rfl (by decide) (w2 := fun u0 => []) (fun _ => rfl) (fun u0 H locs hP hD hS => ?_)
  refine lv_iload_n hx hb dX9_make_4 rfl (lv_at hl 2 rfl) ?_
  refine lv_if_lt (tgt := 27) hx hb dX9_make_5 (by decide) (fun c9 => absurd c9 (by decide +kernel)) (fun _ => ?_)
  refine lv_iload_n hx hb dX9_make_8 rfl (lv_at hl 2 rfl) ?_
  refine lv_iconst (v := nI 4) hx hb dX9_make_9 (by decide +kernel) ?_
  refine lv_icmp_gt (tgt := 27) hx hb dX9_make_10 (by decide) (fun c9 => absurd c9 (by decide +kernel)) (fun _ => ?_)
  refine lv_iload_n hx hb dX9_make_13 rfl (lv_at hl 3 rfl) ?_
  refine lv_iload_n hx hb dX9_make_14 rfl (lv_at hl 2 rfl) ?_
  refine k_i (wr := []) (run_S (rest := [.int x0]) hx hb hml hown hts hK hP hD hS hA hm (C81_leastFields l G D K H.size) [] rfl rfl mok_yX9_leastFields w_795 w_796 ⟨Nat.le_of_ble_eq_true rfl, Nat.le_of_ble_eq_true rfl⟩ rfl hl.1 rfl (Nat.le_of_ble_eq_true rfl) dX9_make_15 ⟨(Nat.le_of_ble_eq_true rfl), (Nat.le_of_ble_eq_true rfl)⟩) hP hD hS hA [] [] rfl rfl rfl (by decide) (w2 := fun u1 => []) (fun _ => rfl) (fun u1 H locs hP hD hS => ?_)
  refine lv_icmp_lt (tgt := 27) hx hb dX9_make_18 (by decide) (fun _ => ?_) (fun c9 => absurd (ng_lt hx0 (n := 0) (by omega)) c9)
  exact x_throw (names := ["java/lang/RuntimeException", "java/lang/Exception"]) (text := "no such KIND, or not with so many FIELDS") hx hb hl0 htab hml hown hts hlk hS hm hl.1 (by decide +kernel) (by decide +kernel) w_594 w_26 (str_100) hat_iae_102 dX9_make_27 dX9_make_30 dX9_make_31 dX9_make_33 dX9_make_36 (Nat.le_of_ble_eq_true rfl) (Nat.le_of_ble_eq_true rfl) (Nat.le_of_ble_eq_true rfl) (Nat.le_of_ble_eq_true rfl) (Nat.le_of_ble_eq_true rfl) (Nat.le_of_ble_eq_true rfl)
set_option maxHeartbeats 4000000 in
set_option maxRecDepth 100000 in
theorem C83_isIn (l : Launch) (G : Nat → Nat) (D : va_G) (K : Nat → ClassId) (sz : Nat) : CM l yX12_isIn cX12_isIn 3 (some FieldType.boolean) ({ frames := 0, cells := 0, slots := 0, locals := 0 } : Room) G D K [.int (nI 0), .int (nI 0), .int (nI 4)] [] sz (CQi (nI 1) D (fun _ => [])) := by
  refine CM_of (lv0 := [(0, .int (nI 0)), (1, .int (nI 0)), (2, .int (nI 4))]) pn_RX12 (Nat.le_of_ble_eq_true rfl) rfl (fun p e s m args below meth c A ls hx hb hr hml hown hts hlk hnm hP hK hD hS hA hm hl => ?_)
  have hown : s.vm.findClass RX12 = some m.cls := hown
  refine lv_iload_n hx hb dX12_isIn_0 rfl (lv_at hl 0 rfl) ?_
  refine lv_iload_n hx hb dX12_isIn_1 rfl (lv_at hl 1 rfl) ?_
  refine lv_icmp_lt (tgt := 14) hx hb dX12_isIn_2 (by decide) (fun c9 => absurd c9 (by decide +kernel)) (fun _ => ?_)
  refine lv_iload_n hx hb dX12_isIn_5 rfl (lv_at hl 0 rfl) ?_
  refine lv_iload_n hx hb dX12_isIn_6 rfl (lv_at hl 2 rfl) ?_
  refine lv_icmp_gt (tgt := 14) hx hb dX12_isIn_7 (by decide) (fun c9 => absurd c9 (by decide +kernel)) (fun _ => ?_)
  refine lv_iconst (v := nI 1) hx hb dX12_isIn_10 (by decide +kernel) ?_
  refine lv_goto (tgt := 15) hx hb dX12_isIn_11 (by decide) ?_
  exact e_z hx hb hr hlk hP hD hS (fun _ => 0) rfl (Nat.le_of_ble_eq_true rfl) (Nat.le_of_ble_eq_true rfl) rfl (Or.inr rfl) dX12_isIn_15
set_option maxHeartbeats 4000000 in
set_option maxRecDepth 100000 in
theorem C84_isIn (l : Launch) (G : Nat → Nat) (D : va_G) (K : Nat → ClassId) (sz : Nat) (x0 : Int32) (hx0 : x0 < 0) : CM l yX12_isIn cX12_isIn 3 (some FieldType.boolean) ({ frames := 0, cells := 0, slots := 0, locals := 0 } : Room) G D K [.int x0, .int (nI 0), .int (nI 20)] [] sz (CQi (nI 0) D (fun _ => [])) := by
  refine CM_of (lv0 := [(0, .int x0), (1, .int (nI 0)), (2, .int (nI 20))]) pn_RX12 (Nat.le_of_ble_eq_true rfl) rfl (fun p e s m args below meth c A ls hx hb hr hml hown hts hlk hnm hP hK hD hS hA hm hl => ?_)
  have hown : s.vm.findClass RX12 = some m.cls := hown
  refine lv_iload_n hx hb dX12_isIn_0 rfl (lv_at hl 0 rfl) ?_
  refine lv_iload_n hx hb dX12_isIn_1 rfl (lv_at hl 1 rfl) ?_
  refine lv_icmp_lt (tgt := 14) hx hb dX12_isIn_2 (by decide) (fun _ => ?_) (fun c9 => absurd (ng_lt hx0 (n := 0) (by omega)) c9)
  refine lv_iconst (v := nI 0) hx hb dX12_isIn_14 (by decide +kernel) ?_
  exact e_z hx hb hr hlk hP hD hS (fun _ => 0) rfl (Nat.le_of_ble_eq_true rfl) (Nat.le_of_ble_eq_true rfl) rfl (Or.inl rfl) dX12_isIn_15
set_option maxHeartbeats 4000000 in
set_option maxRecDepth 100000 in
theorem C85_make (l : Launch) (G : Nat → Nat) (D : va_G) (K : Nat → ClassId) (sz : Nat) (h0 : Nat) (v0 : Value) (j0 : Nat) (lj0 : 0 ≤ j0) (gj0 : j0 ≤ 3) (x0 : Int32) (hx0 : x0 < 0) : CM l yX12_make cX12_make 6 (some FieldType.int) ({ frames := 3, cells := 0, slots := 0, locals := 65 } : Room) G D K [.ref h0, .int (nI j0), .int (nI 0), .int x0] [(h0, .inr (12, [.int (nI 0), v0]))] sz (CQi (nI 0) D (fun _ => [(h0, .inr (12, [.int (nI 2), v0]))])) := by
  refine CM_of (lv0 := [(0, .ref h0), (1, .int (nI j0)), (2, .int (nI 0)), (3, .int x0)]) pn_RX12 (Nat.le_of_ble_eq_true rfl) rfl (fun p e s m args below meth c A ls hx hb hr hml hown hts hlk hnm hP hK hD hS hA hm hl => ?_)
  have hown : s.vm.findClass RX12 = some m.cls := hown
  refine lv_iload_n hx hb dX12_make_0 rfl (lv_at hl 2 rfl) ?_
  refine lv_iconst (v := nI 3) hx hb dX12_make_1 (by decide +kernel) ?_
  refine lv_icmp_ne (tgt := 9) hx hb dX12_make_2 (by decide) (fun _ => ?_) (fun c9 => absurd c9 (by decide +kernel))
  refine lv_iload_n hx hb dX12_make_9 rfl (lv_at hl 2 rfl) ?_
  refine lv_iconst (v := nI 1) hx hb dX12_make_10 (by decide +kernel) ?_
  refine lv_icmp_eq (tgt := 19) hx hb dX12_make_11 (by decide) (fun c9 => absurd c9 (by decide +kernel)) (fun _ => ?_)
  refine lv_iload_n hx hb dX12_make_14 rfl (lv_at hl 2 rfl) ?_
  refine lv_iconst (v := nI 2) hx hb dX12_make_15 (by decide +kernel) ?_
  refine lv_icmp_ne (tgt := 23) hx hb dX12_make_16 (by decide) (fun _ => ?_) (fun c9 => absurd c9 (by decide +kernel))
  refine lv_iconst (v := nI 0) hx hb dX12_make_23 (by decide +kernel) ?_
  refine lv_istore (lv' := [(4, .int (nI 0)), (0, .ref h0), (1, .int (nI j0)), (2, .int (nI 0)), (3, .int x0)]) hx hb dX12_make_24 hl (by decide) rfl (fun ls hl => ?_)
  refine lv_aload_n hx hb dX12_make_26 rfl (lv_at hl 1 rfl) ?_
  refine lv_iload_n hx hb dX12_make_27 rfl (lv_at hl 2 rfl) ?_
  refine k_i (wr := []) (run_V (rest := []) hx hb hml hown hts hK hP hD hS hA hm (C74_isNoSlot l G D K s.heap.size h0 (v0) j0 (by omega) (by omega)) [0] rfl rfl mok_yX12_isNoSlot w_1345 w_1347 w_p33 (rcv hK hP 0 rfl rfl rfl) ⟨Nat.le_of_ble_eq_true rfl, Nat.le_of_ble_eq_true rfl⟩ rfl hl.1 rfl (Nat.le_of_ble_eq_true rfl) dX12_make_28 ⟨(Nat.le_of_ble_eq_true rfl), (Nat.le_of_ble_eq_true rfl)⟩) hP hD hS hA [0] [] rfl rfl rfl (by decide) (w2 := fun u0 => [(h0, .inr (12, [.int (nI 0), v0]))]) (fun _ => rfl) (fun u0 H locs hP hD hS => ?_)
  refine lv_if_ne (tgt := 96) hx hb dX12_make_31 (by decide) (fun c9 => absurd (by decide +kernel) c9) (fun _ => ?_)
  refine lv_aload_n hx hb dX12_make_34 rfl (lv_at hl 1 rfl) ?_
  refine lv_iload_n hx hb dX12_make_35 rfl (lv_at hl 3 rfl) ?_
  refine lv_iconst (v := nI 0) hx hb dX12_make_36 (by decide +kernel) ?_
  refine lv_iconst (v := nI 4) hx hb dX12_make_37 (by decide +kernel) ?_
  refine k_i (wr := [(h0, .inr (12, [.int (nI 0), v0]))]) (run_S (rest := [.ref h0]) hx hb hml hown hts hK hP hD hS hA hm (C83_isIn l G D K H.size) [] rfl rfl mok_yX12_isIn w_1352 w_1353 ⟨Nat.le_of_ble_eq_true rfl, Nat.le_of_ble_eq_true rfl⟩ rfl hl.1 rfl (Nat.le_of_ble_eq_true rfl) dX12_make_38 ⟨(Nat.le_of_ble_eq_true rfl), (Nat.le_of_ble_eq_true rfl)⟩) hP hD hS hA [] [0] rfl rfl rfl (by decide) (w2 := fun u1 => [(h0, .inr (12, [.int (nI 0), v0]))]) (fun _ => rfl) (fun u1 H locs hP hD hS => ?_)
  refine lv_if_eq (tgt := 55) hx hb dX12_make_41 (by decide) (fun c9 => absurd c9 (by decide +kernel)) (fun _ => ?_)
  refine lv_iload_n hx hb dX12_make_44 rfl (lv_at hl 4 rfl) ?_
  refine lv_iload hx hb dX12_make_45 (lv_at hl 0 rfl) ?_
  refine lv_bipush (v := nI 20) hx hb dX12_make_47 (by decide +kernel) ?_
  refine k_i (wr := [(h0, .inr (12, [.int (nI 0), v0]))]) (run_S (rest := [.ref h0]) hx hb hml hown hts hK hP hD hS hA hm (C84_isIn l G D K H.size x0 hx0) [] rfl rfl mok_yX12_isIn w_1352 w_1353 ⟨Nat.le_of_ble_eq_true rfl, Nat.le_of_ble_eq_true rfl⟩ rfl hl.1 rfl (Nat.le_of_ble_eq_true rfl) dX12_make_49 ⟨(Nat.le_of_ble_eq_true rfl), (Nat.le_of_ble_eq_true rfl)⟩) hP hD hS hA [] [0] rfl rfl rfl (by decide) (w2 := fun u2 => [(h0, .inr (12, [.int (nI 0), v0]))]) (fun _ => rfl) (fun u2 H locs hP hD hS => ?_)
  refine lv_if_ne (tgt := 59) hx hb dX12_make_52 (by decide) (fun c9 => absurd (by decide +kernel) c9) (fun _ => ?_)
  refine lv_iconst (v := nI 1) hx hb dX12_make_55 (by decide +kernel) ?_
  refine lv_goto (tgt := 60) hx hb dX12_make_56 (by decide) ?_
  refine lv_iconst (v := nI 2) hx hb dX12_make_60 (by decide +kernel) ?_
  refine k_i (wr := []) (run_V (rest := []) hx hb hml hown hts hK hP hD hS hA hm (C76_refuse l G D K H.size h0 (v0)) [0] rfl rfl mok_yX12_refuse w_1316 w_1318 w_p31 (rcv hK hP 0 rfl rfl rfl) ⟨Nat.le_of_ble_eq_true rfl, Nat.le_of_ble_eq_true rfl⟩ rfl hl.1 rfl (Nat.le_of_ble_eq_true rfl) dX12_make_61 ⟨(Nat.le_of_ble_eq_true rfl), (Nat.le_of_ble_eq_true rfl)⟩) hP hD hS hA [0] [] rfl rfl rfl (by decide) (w2 := fun u3 => [(h0, .inr (12, [.int (nI 2), v0]))]) (fun _ => rfl) (fun u3 H locs hP hD hS => ?_)
  refine lv_if_ne (tgt := 96) hx hb dX12_make_64 (by decide) (fun _ => ?_) (fun c9 => absurd c9 (by decide +kernel))
  refine lv_iconst (v := nI 0) hx hb dX12_make_96 (by decide +kernel) ?_
  exact e_i hx hb hr hlk hP hD hS (fun _ => 0) rfl (Nat.le_of_ble_eq_true rfl) (Nat.le_of_ble_eq_true rfl) rfl dX12_make_97
set_option maxHeartbeats 4000000 in
set_option maxRecDepth 100000 in
theorem C86_make (l : Launch) (G : Nat → Nat) (D : va_G) (K : Nat → ClassId) (hl0 : l.stackTraces = false) (sz : Nat) (a0 : Nat) (j0 : Nat) (lj0 : 0 ≤ j0) (gj0 : j0 ≤ 3) (j1 : Nat) (lj1 : 21 ≤ j1) (gj1 : j1 ≤ 2147483647) : CMX l yX9_make cX9_make 6 (some FieldType.int) ({ frames := 6, cells := 1, slots := 6, locals := 90 } : Room) G D K [.ref a0, .int (nI j0), .int (nI 0), .int (nI j1)] [] sz "java/lang/IllegalArgumentException" := by
  refine CMX_of (lv0 := [(0, .ref a0), (1, .int (nI j0)), (2, .int (nI 0)), (3, .int (nI j1))]) pn_RX9 (Nat.le_of_ble_eq_true rfl) rfl (fun p e s m args below meth c A ls hx hb htab hml hown hts hlk hnm hP hK hD hS hA hm hl => ?_)
  have hown : s.vm.findClass RX9 = some m.cls := hown
  refine lv_iload_n hx hb dX9_make_0 rfl (lv_at hl 1 rfl) ?_
  refine k_v (wr := []) (run_S (rest := []) hx hb hml hown hts hK hP hD hS hA hm (C70_requireSlot l G D K s.heap.size j0 (by omega) (by omega)) [] rfl rfl mok_yX9_requireSlot w_687 w_688 ⟨Nat.le_of_ble_eq_true rfl, Nat.le_of_ble_eq_true rfl⟩ rfl hl.1 rfl (Nat.le_of_ble_eq_true rfl) dX9_make_1 ⟨(Nat.le_of_ble_eq_true rfl), (Nat.le_of_ble_eq_true rfl)⟩) hP hD hS hA [] [] rfl rfl rfl (by decide) (w2 := fun u0 => []) (fun _ => rfl) (fun u0 H locs hP hD hS => ?_)
  refine lv_iload_n hx hb dX9_make_4 rfl (lv_at hl 2 rfl) ?_
  refine lv_if_lt (tgt := 27) hx hb dX9_make_5 (by decide) (fun c9 => absurd c9 (by decide +kernel)) (fun _ => ?_)
  refine lv_iload_n hx hb dX9_make_8 rfl (lv_at hl 2 rfl) ?_
  refine lv_iconst (v := nI 4) hx hb dX9_make_9 (by decide +kernel) ?_
  refine lv_icmp_gt (tgt := 27) hx hb dX9_make_10 (by decide) (fun c9 => absurd c9 (by decide +kernel)) (fun _ => ?_)
  refine lv_iload_n hx hb dX9_make_13 rfl (lv_at hl 3 rfl) ?_
  refine lv_iload_n hx hb dX9_make_14 rfl (lv_at hl 2 rfl) ?_
  refine k_i (wr := []) (run_S (rest := [.int (nI j1)]) hx hb hml hown hts hK hP hD hS hA hm (C81_leastFields l G D K H.size) [] rfl rfl mok_yX9_leastFields w_795 w_796 ⟨Nat.le_of_ble_eq_true rfl, Nat.le_of_ble_eq_true rfl⟩ rfl hl.1 rfl (Nat.le_of_ble_eq_true rfl) dX9_make_15 ⟨(Nat.le_of_ble_eq_true rfl), (Nat.le_of_ble_eq_true rfl)⟩) hP hD hS hA [] [] rfl rfl rfl (by decide) (w2 := fun u1 => []) (fun _ => rfl) (fun u1 H locs hP hD hS => ?_)
  refine lv_icmp_lt (tgt := 27) hx hb dX9_make_18 (by decide) (fun c9 => absurd c9 (fun h9 => absurd ((nI_ltI (a := j1) (b := 0) (by omega) (by omega)).mp h9) (by omega))) (fun _ => ?_)
  refine lv_iload_n hx hb dX9_make_21 rfl (lv_at hl 3 rfl) ?_
  refine lv_bipush (v := nI 20) hx hb dX9_make_22 (by decide +kernel) ?_
  refine lv_icmp_le (tgt := 37) hx hb dX9_make_24 (by decide) (fun c9 => absurd c9 (fun h9 => absurd ((nI_leI (a := j1) (b := 20) (by omega) (by omega)).mp h9) (by omega))) (fun _ => ?_)
  exact x_throw (names := ["java/lang/RuntimeException", "java/lang/Exception"]) (text := "no such KIND, or not with so many FIELDS") hx hb hl0 htab hml hown hts hlk hS hm hl.1 (by decide +kernel) (by decide +kernel) w_594 w_26 (str_100) hat_iae_102 dX9_make_27 dX9_make_30 dX9_make_31 dX9_make_33 dX9_make_36 (Nat.le_of_ble_eq_true rfl) (Nat.le_of_ble_eq_true rfl) (Nat.le_of_ble_eq_true rfl) (Nat.le_of_ble_eq_true rfl) (Nat.le_of_ble_eq_true rfl) (Nat.le_of_ble_eq_true rfl)
set_option maxHeartbeats 4000000 in
set_option maxRecDepth 100000 in
theorem C87_isIn (l : Launch) (G : Nat → Nat) (D : va_G) (K : Nat → ClassId) (sz : Nat) (j0 : Nat) (lj0 : 21 ≤ j0) (gj0 : j0 ≤ 2147483647) : CM l yX12_isIn cX12_isIn 3 (some FieldType.boolean) ({ frames := 0, cells := 0, slots := 0, locals := 0 } : Room) G D K [.int (nI j0), .int (nI 0), .int (nI 20)] [] sz (CQi (nI 0) D (fun _ => [])) := by
  refine CM_of (lv0 := [(0, .int (nI j0)), (1, .int (nI 0)), (2, .int (nI 20))]) pn_RX12 (Nat.le_of_ble_eq_true rfl) rfl (fun p e s m args below meth c A ls hx hb hr hml hown hts hlk hnm hP hK hD hS hA hm hl => ?_)
  have hown : s.vm.findClass RX12 = some m.cls := hown
  refine lv_iload_n hx hb dX12_isIn_0 rfl (lv_at hl 0 rfl) ?_
  refine lv_iload_n hx hb dX12_isIn_1 rfl (lv_at hl 1 rfl) ?_
  refine lv_icmp_lt (tgt := 14) hx hb dX12_isIn_2 (by decide) (fun c9 => absurd c9 (fun h9 => absurd ((nI_ltI (a := j0) (b := 0) (by omega) (by omega)).mp h9) (by omega))) (fun _ => ?_)
  refine lv_iload_n hx hb dX12_isIn_5 rfl (lv_at hl 0 rfl) ?_
  refine lv_iload_n hx hb dX12_isIn_6 rfl (lv_at hl 2 rfl) ?_
  refine lv_icmp_gt (tgt := 14) hx hb dX12_isIn_7 (by decide) (fun _ => ?_) (fun c9 => absurd ((nI_ltI (a := 20) (b := j0) (by omega) (by omega)).mpr (by omega)) c9)
  refine lv_iconst (v := nI 0) hx hb dX12_isIn_14 (by decide +kernel) ?_
  exact e_z hx hb hr hlk hP hD hS (fun _ => 0) rfl (Nat.le_of_ble_eq_true rfl) (Nat.le_of_ble_eq_true rfl) rfl (Or.inl rfl) dX12_isIn_15
set_option maxHeartbeats 4000000 in
set_option maxRecDepth 100000 in
theorem C88_make (l : Launch) (G : Nat → Nat) (D : va_G) (K : Nat → ClassId) (sz : Nat) (h0 : Nat) (v0 : Value) (j0 : Nat) (lj0 : 0 ≤ j0) (gj0 : j0 ≤ 3) (j1 : Nat) (lj1 : 21 ≤ j1) (gj1 : j1 ≤ 2147483647) : CM l yX12_make cX12_make 6 (some FieldType.int) ({ frames := 3, cells := 0, slots := 0, locals := 65 } : Room) G D K [.ref h0, .int (nI j0), .int (nI 0), .int (nI j1)] [(h0, .inr (12, [.int (nI 0), v0]))] sz (CQi (nI 0) D (fun _ => [(h0, .inr (12, [.int (nI 2), v0]))])) := by
  refine CM_of (lv0 := [(0, .ref h0), (1, .int (nI j0)), (2, .int (nI 0)), (3, .int (nI j1))]) pn_RX12 (Nat.le_of_ble_eq_true rfl) rfl (fun p e s m args below meth c A ls hx hb hr hml hown hts hlk hnm hP hK hD hS hA hm hl => ?_)
  have hown : s.vm.findClass RX12 = some m.cls := hown
  refine lv_iload_n hx hb dX12_make_0 rfl (lv_at hl 2 rfl) ?_
  refine lv_iconst (v := nI 3) hx hb dX12_make_1 (by decide +kernel) ?_
  refine lv_icmp_ne (tgt := 9) hx hb dX12_make_2 (by decide) (fun _ => ?_) (fun c9 => absurd c9 (by decide +kernel))
  refine lv_iload_n hx hb dX12_make_9 rfl (lv_at hl 2 rfl) ?_
  refine lv_iconst (v := nI 1) hx hb dX12_make_10 (by decide +kernel) ?_
  refine lv_icmp_eq (tgt := 19) hx hb dX12_make_11 (by decide) (fun c9 => absurd c9 (by decide +kernel)) (fun _ => ?_)
  refine lv_iload_n hx hb dX12_make_14 rfl (lv_at hl 2 rfl) ?_
  refine lv_iconst (v := nI 2) hx hb dX12_make_15 (by decide +kernel) ?_
  refine lv_icmp_ne (tgt := 23) hx hb dX12_make_16 (by decide) (fun _ => ?_) (fun c9 => absurd c9 (by decide +kernel))
  refine lv_iconst (v := nI 0) hx hb dX12_make_23 (by decide +kernel) ?_
  refine lv_istore (lv' := [(4, .int (nI 0)), (0, .ref h0), (1, .int (nI j0)), (2, .int (nI 0)), (3, .int (nI j1))]) hx hb dX12_make_24 hl (by decide) rfl (fun ls hl => ?_)
  refine lv_aload_n hx hb dX12_make_26 rfl (lv_at hl 1 rfl) ?_
  refine lv_iload_n hx hb dX12_make_27 rfl (lv_at hl 2 rfl) ?_
  refine k_i (wr := []) (run_V (rest := []) hx hb hml hown hts hK hP hD hS hA hm (C74_isNoSlot l G D K s.heap.size h0 (v0) j0 (by omega) (by omega)) [0] rfl rfl mok_yX12_isNoSlot w_1345 w_1347 w_p33 (rcv hK hP 0 rfl rfl rfl) ⟨Nat.le_of_ble_eq_true rfl, Nat.le_of_ble_eq_true rfl⟩ rfl hl.1 rfl (Nat.le_of_ble_eq_true rfl) dX12_make_28 ⟨(Nat.le_of_ble_eq_true rfl), (Nat.le_of_ble_eq_true rfl)⟩) hP hD hS hA [0] [] rfl rfl rfl (by decide) (w2 := fun u0 => [(h0, .inr (12, [.int (nI 0), v0]))]) (fun _ => rfl) (fun u0 H locs hP hD hS => ?_)
  refine lv_if_ne (tgt := 96) hx hb dX12_make_31 (by decide) (fun c9 => absurd (by decide +kernel) c9) (fun _ => ?_)
  refine lv_aload_n hx hb dX12_make_34 rfl (lv_at hl 1 rfl) ?_
  refine lv_iload_n hx hb dX12_make_35 rfl (lv_at hl 3 rfl) ?_
  refine lv_iconst (v := nI 0) hx hb dX12_make_36 (by decide +kernel) ?_
  refine lv_iconst (v := nI 4) hx hb dX12_make_37 (by decide +kernel) ?_
  refine k_i (wr := [(h0, .inr (12, [.int (nI 0), v0]))]) (run_S (rest := [.ref h0]) hx hb hml hown hts hK hP hD hS hA hm (C83_isIn l G D K H.size) [] rfl rfl mok_yX12_isIn w_1352 w_1353 ⟨Nat.le_of_ble_eq_true rfl, Nat.le_of_ble_eq_true rfl⟩ rfl hl.1 rfl (Nat.le_of_ble_eq_true rfl) dX12_make_38 ⟨(Nat.le_of_ble_eq_true rfl), (Nat.le_of_ble_eq_true rfl)⟩) hP hD hS hA [] [0] rfl rfl rfl (by decide) (w2 := fun u1 => [(h0, .inr (12, [.int (nI 0), v0]))]) (fun _ => rfl) (fun u1 H locs hP hD hS => ?_)
  refine lv_if_eq (tgt := 55) hx hb dX12_make_41 (by decide) (fun c9 => absurd c9 (by decide +kernel)) (fun _ => ?_)
  refine lv_iload_n hx hb dX12_make_44 rfl (lv_at hl 4 rfl) ?_
  refine lv_iload hx hb dX12_make_45 (lv_at hl 0 rfl) ?_
  refine lv_bipush (v := nI 20) hx hb dX12_make_47 (by decide +kernel) ?_
  refine k_i (wr := [(h0, .inr (12, [.int (nI 0), v0]))]) (run_S (rest := [.ref h0]) hx hb hml hown hts hK hP hD hS hA hm (C87_isIn l G D K H.size j1 (by omega) (by omega)) [] rfl rfl mok_yX12_isIn w_1352 w_1353 ⟨Nat.le_of_ble_eq_true rfl, Nat.le_of_ble_eq_true rfl⟩ rfl hl.1 rfl (Nat.le_of_ble_eq_true rfl) dX12_make_49 ⟨(Nat.le_of_ble_eq_true rfl), (Nat.le_of_ble_eq_true rfl)⟩) hP hD hS hA [] [0] rfl rfl rfl (by decide) (w2 := fun u2 => [(h0, .inr (12, [.int (nI 0), v0]))]) (fun _ => rfl) (fun u2 H locs hP hD hS => ?_)
  refine lv_if_ne (tgt := 59) hx hb dX12_make_52 (by decide) (fun c9 => absurd (by decide +kernel) c9) (fun _ => ?_)
  refine lv_iconst (v := nI 1) hx hb dX12_make_55 (by decide +kernel) ?_
  refine lv_goto (tgt := 60) hx hb dX12_make_56 (by decide) ?_
  refine lv_iconst (v := nI 2) hx hb dX12_make_60 (by decide +kernel) ?_
  refine k_i (wr := []) (run_V (rest := []) hx hb hml hown hts hK hP hD hS hA hm (C76_refuse l G D K H.size h0 (v0)) [0] rfl rfl mok_yX12_refuse w_1316 w_1318 w_p31 (rcv hK hP 0 rfl rfl rfl) ⟨Nat.le_of_ble_eq_true rfl, Nat.le_of_ble_eq_true rfl⟩ rfl hl.1 rfl (Nat.le_of_ble_eq_true rfl) dX12_make_61 ⟨(Nat.le_of_ble_eq_true rfl), (Nat.le_of_ble_eq_true rfl)⟩) hP hD hS hA [0] [] rfl rfl rfl (by decide) (w2 := fun u3 => [(h0, .inr (12, [.int (nI 2), v0]))]) (fun _ => rfl) (fun u3 H locs hP hD hS => ?_)
  refine lv_if_ne (tgt := 96) hx hb dX12_make_64 (by decide) (fun _ => ?_) (fun c9 => absurd c9 (by decide +kernel))
  refine lv_iconst (v := nI 0) hx hb dX12_make_96 (by decide +kernel) ?_
  exact e_i hx hb hr hlk hP hD hS (fun _ => 0) rfl (Nat.le_of_ble_eq_true rfl) (Nat.le_of_ble_eq_true rfl) rfl dX12_make_97
set_option maxHeartbeats 4000000 in
set_option maxRecDepth 100000 in
theorem C89_size (l : Launch) (G : Nat → Nat) (D : va_G) (K : Nat → ClassId) (sz : Nat) (h0 : Nat) (v0 : Value) : CM l yX5_size cX5_size 1 (some FieldType.int) ({ frames := 0, cells := 0, slots := 0, locals := 0 } : Room) G D K [.ref h0] [(h0, .inr (5, [v0, .int (nI 0)]))] sz (CQi (nI 0) D (fun _ => [(h0, .inr (5, [v0, .int (nI 0)]))])) := by
  refine CM_of (lv0 := [(0, .ref h0)]) pn_RX5 (Nat.le_of_ble_eq_true rfl) rfl (fun p e s m args below meth c A ls hx hb hr hml hown hts hlk hnm hP hK hD hS hA hm hl => ?_)
  have hown : s.vm.findClass RX5 = some m.cls := hown
  refine lv_aload_n hx hb dX5_size_0 rfl (lv_at hl 0 rfl) ?_
  refine r_get hx hb hts ok_RX5 hown hK hP 0 rfl rfl 1 (by decide) w_55 (fun _ h9 => h9) rfl dX5_size_1 ?_
  exact e_i hx hb hr hlk hP hD hS (fun _ => 0) rfl (Nat.le_of_ble_eq_true rfl) (Nat.le_of_ble_eq_true rfl) rfl dX5_size_4
set_option maxHeartbeats 4000000 in
set_option maxRecDepth 100000 in
theorem C90_gapFor (l : Launch) (G : Nat → Nat) (D : va_G) (K : Nat → ClassId) (sz : Nat) (h0 : Nat) (v0 v1 v2 v3 v4 v5 : Value) : CM l yX3_gapFor cX3_gapFor 3 (some FieldType.int) ({ frames := 0, cells := 0, slots := 0, locals := 0 } : Room) G D K [.ref h0, .int (nI 0)] [(h0, .inr (3, [v0, v1, v2, .int (nI 0), .int (nI 0), v3, v4, v5]))] sz (CQi (nI 0) D (fun _ => [(h0, .inr (3, [v0, v1, v2, .int (nI 0), .int (nI 0), v3, v4, v5]))])) := by
  refine CM_of (lv0 := [(0, .ref h0), (1, .int (nI 0))]) pn_RX3 (Nat.le_of_ble_eq_true rfl) rfl (fun p e s m args below meth c A ls hx hb hr hml hown hts hlk hnm hP hK hD hS hA hm hl => ?_)
  have hown : s.vm.findClass RX3 = some m.cls := hown
  refine lv_iconst (v := nI 2) hx hb dX3_gapFor_0 (by decide +kernel) ?_
  refine lv_iload_n hx hb dX3_gapFor_1 rfl (lv_at hl 1 rfl) ?_
  refine lv_iadd hx hb dX3_gapFor_2 ?_
  refine w_toeq (show (nI 2) + (nI 0) = nI 2 by decide +kernel) ?_
  refine lv_istore_n (lv' := [(2, .int (nI 2)), (0, .ref h0), (1, .int (nI 0))]) hx hb dX3_gapFor_3 rfl hl (by decide) rfl (fun ls hl => ?_)
  refine lv_iload_n hx hb dX3_gapFor_4 rfl (lv_at hl 2 rfl) ?_
  refine lv_bipush (v := nI 12) hx hb dX3_gapFor_5 (by decide +kernel) ?_
  refine lv_icmp_lt (tgt := 16) hx hb dX3_gapFor_7 (by decide) (fun _ => ?_) (fun c9 => absurd (by decide +kernel) c9)
  refine lv_aload_n hx hb dX3_gapFor_16 rfl (lv_at hl 1 rfl) ?_
  refine r_get hx hb hts ok_RX3 hown hK hP 0 rfl rfl 4 (by decide) w_104 (fun _ h9 => h9) rfl dX3_gapFor_17 ?_
  refine lv_iload_n hx hb dX3_gapFor_20 rfl (lv_at hl 0 rfl) ?_
  refine lv_iadd hx hb dX3_gapFor_21 ?_
  refine w_toeq (show (nI 0) + (nI 2) = nI 2 by decide +kernel) ?_
  refine lv_aload_n hx hb dX3_gapFor_22 rfl (lv_at hl 1 rfl) ?_
  refine r_get hx hb hts ok_RX3 hown hK hP 0 rfl rfl 3 (by decide) w_102 (fun _ h9 => h9) rfl dX3_gapFor_23 ?_
  refine lv_bipush (v := nI 40) hx hb dX3_gapFor_26 (by decide +kernel) ?_
  refine lv_iadd hx hb dX3_gapFor_28 ?_
  refine w_toeq (show (nI 0) + (nI 40) = nI 40 by decide +kernel) ?_
  refine lv_icmp_gt (tgt := 39) hx hb dX3_gapFor_29 (by decide) (fun c9 => absurd c9 (by decide +kernel)) (fun _ => ?_)
  refine lv_aload_n hx hb dX3_gapFor_32 rfl (lv_at hl 1 rfl) ?_
  refine r_get hx hb hts ok_RX3 hown hK hP 0 rfl rfl 4 (by decide) w_104 (fun _ h9 => h9) rfl dX3_gapFor_33 ?_
  refine lv_goto (tgt := 40) hx hb dX3_gapFor_36 (by decide) ?_
  exact e_i hx hb hr hlk hP hD hS (fun _ => 0) rfl (Nat.le_of_ble_eq_true rfl) (Nat.le_of_ble_eq_true rfl) rfl dX3_gapFor_40
set_option maxHeartbeats 4000000 in
set_option maxRecDepth 100000 in
theorem C91_init (l : Launch) (G : Nat → Nat) (D : va_G) (K : Nat → ClassId) (sz : Nat) (h0 : Nat) (v0 v1 v2 v3 v4 v5 v6 v7 v8 v9 v10 v11 v12 : Value) (o0 : Int32) : CM l yX7_init cX7_init 4 (none : Option FieldType) ({ frames := 1, cells := 1, slots := 0, locals := 20 } : Room) G D K [.ref h0, .int (nI 0), .int o0, .int (nI 0)] [(h0, .inr (7, [v0, v1, v2, v3, v4, .int (nI 0), v5, v6, v7, v8, v9, v10, v11, v12]))] sz (CQv D (fun u => [(h0, .inr (7, [.int (nI 0), .ref (u 0), .int o0, v3, v4, .int (nI 2), .int (nI 2), v6, .int (-1), v8, v9, v10, v11, v12])), ((u 0), .inl (K 0, 0, .inr (.inr (.inr (.inr (fun _ => none))))))])) := by
  refine CM_of (lv0 := [(0, .ref h0), (1, .int (nI 0)), (2, .int o0), (3, .int (nI 0))]) pn_RX7 (Nat.le_of_ble_eq_true rfl) rfl (fun p e s m args below meth c A ls hx hb hr hml hown hts hlk hnm hP hK hD hS hA hm hl => ?_)
  have hown : s.vm.findClass RX7 = some m.cls := hown
  refine lv_aload_n hx hb dX7_init_0 rfl (lv_at hl 0 rfl) ?_
  refine r_oinit hx hb hts hown w_807 w_44 w_45 hml hl.1 dX7_init_1 (Nat.le_of_ble_eq_true rfl) (Nat.le_of_ble_eq_true rfl) ?_
  refine lv_aload_n hx hb dX7_init_4 rfl (lv_at hl 0 rfl) ?_
  refine lv_iload_n hx hb dX7_init_5 rfl (lv_at hl 1 rfl) ?_
  refine r_putF hx hb hts ok_RX7 hown hK hP hD hS 0 rfl rfl 0 (by decide) w_809 (fun _ h9 => h9) rfl hnm rfl (v := .int (nI 0)) rfl rfl (Nat.le_of_ble_eq_true rfl) dX7_init_6 (ws' := [(h0, .inr (7, [.int (nI 0), v1, v2, v3, v4, .int (nI 0), v5, v6, v7, v8, v9, v10, v11, v12]))]) rfl (fun H locs hP hD hS => ?_)
  refine lv_aload_n hx hb dX7_init_9 rfl (lv_at hl 0 rfl) ?_
  refine lv_iload_n hx hb dX7_init_10 rfl (lv_at hl 2 rfl) ?_
  refine r_put hx hb hts ok_RX7 hown hK hP hD hS 0 rfl rfl 2 (by decide) w_817 (fun _ h9 => h9) rfl (v := .int o0) rfl rfl (Nat.le_of_ble_eq_true rfl) dX7_init_11 (ws' := [(h0, .inr (7, [.int (nI 0), v1, .int o0, v3, v4, .int (nI 0), v5, v6, v7, v8, v9, v10, v11, v12]))]) rfl (fun H locs hP hD hS => ?_)
  refine lv_aload_n hx hb dX7_init_14 rfl (lv_at hl 0 rfl) ?_
  refine lv_iload_n hx hb dX7_init_15 rfl (lv_at hl 3 rfl) ?_
  refine r_newq hx hb hts hown w_808 hm.2.2.1.1 hK hP hD hS hA 0 rfl (N := 0) (by decide +kernel) (by decide +kernel) (Nat.le_of_ble_eq_true rfl) (Nat.le_of_ble_eq_true rfl) (Nat.le_of_ble_eq_true rfl) dX7_init_16 (w2 := fun q0 => [(h0, .inr (7, [.int (nI 0), v1, .int o0, v3, v4, .int (nI 0), v5, v6, v7, v8, v9, v10, v11, v12])), (q0, .inl (K 0, 0, .inr (.inr (.inr (.inr (fun _ => none))))))]) (fun _ => rfl) (fun q0 H hP hD hS => ?_)
  refine r_putF hx hb hts ok_RX7 hown hK hP hD hS 0 rfl rfl 1 (by decide) w_811 (fun _ h9 => h9) rfl hnm rfl (v := .ref q0) rfl rfl (Nat.le_of_ble_eq_true rfl) dX7_init_19 (ws' := [(h0, .inr (7, [.int (nI 0), .ref q0, .int o0, v3, v4, .int (nI 0), v5, v6, v7, v8, v9, v10, v11, v12])), (q0, .inl (K 0, 0, .inr (.inr (.inr (.inr (fun _ => none))))))]) rfl (fun H locs hP hD hS => ?_)
  refine lv_aload_n hx hb dX7_init_22 rfl (lv_at hl 0 rfl) ?_
  refine lv_iconst (v := nI 2) hx hb dX7_init_23 (by decide +kernel) ?_
  refine lv_iload_n hx hb dX7_init_24 rfl (lv_at hl 3 rfl) ?_
  refine lv_iadd hx hb dX7_init_25 ?_
  refine w_toeq (show (nI 2) + (nI 0) = nI 2 by decide +kernel) ?_
  refine r_put hx hb hts ok_RX7 hown hK hP hD hS 0 rfl rfl 5 (by decide) w_834 (fun _ h9 => h9) rfl (v := .int (nI 2)) rfl rfl (Nat.le_of_ble_eq_true rfl) dX7_init_26 (ws' := [(h0, .inr (7, [.int (nI 0), .ref q0, .int o0, v3, v4, .int (nI 2), v5, v6, v7, v8, v9, v10, v11, v12])), (q0, .inl (K 0, 0, .inr (.inr (.inr (.inr (fun _ => none))))))]) rfl (fun H locs hP hD hS => ?_)
  refine lv_aload_n hx hb dX7_init_29 rfl (lv_at hl 0 rfl) ?_
  refine lv_aload_n hx hb dX7_init_30 rfl (lv_at hl 0 rfl) ?_
  refine r_get hx hb hts ok_RX7 hown hK hP 0 rfl rfl 5 (by decide) w_834 (fun _ h9 => h9) rfl dX7_init_31 ?_
  refine r_put hx hb hts ok_RX7 hown hK hP hD hS 0 rfl rfl 6 (by decide) w_839 (fun _ h9 => h9) rfl (v := .int (nI 2)) rfl rfl (Nat.le_of_ble_eq_true rfl) dX7_init_34 (ws' := [(h0, .inr (7, [.int (nI 0), .ref q0, .int o0, v3, v4, .int (nI 2), .int (nI 2), v6, v7, v8, v9, v10, v11, v12])), (q0, .inl (K 0, 0, .inr (.inr (.inr (.inr (fun _ => none))))))]) rfl (fun H locs hP hD hS => ?_)
  refine lv_aload_n hx hb dX7_init_37 rfl (lv_at hl 0 rfl) ?_
  refine lv_iconst (v := (-1)) hx hb dX7_init_38 (by decide +kernel) ?_
  refine r_put hx hb hts ok_RX7 hown hK hP hD hS 0 rfl rfl 8 (by decide) w_845 (fun _ h9 => h9) rfl (v := .int (-1)) rfl rfl (Nat.le_of_ble_eq_true rfl) dX7_init_39 (ws' := [(h0, .inr (7, [.int (nI 0), .ref q0, .int o0, v3, v4, .int (nI 2), .int (nI 2), v6, .int (-1), v8, v9, v10, v11, v12])), (q0, .inl (K 0, 0, .inr (.inr (.inr (.inr (fun _ => none))))))]) rfl (fun H locs hP hD hS => ?_)
  exact e_v hx hb hr hlk hP hD hS (fun k => match k with | 0 => q0 | _ => 0) rfl (Nat.le_of_ble_eq_true rfl) (Nat.le_of_ble_eq_true rfl) dX7_init_42
set_option maxHeartbeats 4000000 in
set_option maxRecDepth 100000 in
theorem C92_add (l : Launch) (G : Nat → Nat) (D : va_G) (K : Nat → ClassId) (sz : Nat) (h0 h1 h2 : Nat) (v0 v1 v2 v3 v4 v5 v6 v7 v8 v9 v10 v11 v12 v13 : Value) (f0 : Nat → Option Nat) : CM l yX5_add cX5_add 2 (none : Option FieldType) ({ frames := 0, cells := 0, slots := 0, locals := 0 } : Room) G D K [.ref h0, .ref h2] [(h0, .inr (5, [.ref h1, .int (nI 0)])), (h1, .inl (K 0, 200, .inr (.inr (.inr (.inr f0))))), (h2, .inr (7, [v0, v1, v2, v3, v4, v5, v6, v7, v8, v9, v10, v11, v12, v13]))] sz (CQv D (fun _ => [(h0, .inr (5, [.ref h1, .int (nI 1)])), (h1, .inl (K 0, 200, .inr (.inr (.inr (.inr (va_up f0 0 (some h2))))))), (h2, .inr (7, [v0, v1, v2, v3, v4, v5, v6, v7, v8, v9, v10, v11, v12, v13]))])) := by
  refine CM_of (lv0 := [(0, .ref h0), (1, .ref h2)]) pn_RX5 (Nat.le_of_ble_eq_true rfl) rfl (fun p e s m args below meth c A ls hx hb hr hml hown hts hlk hnm hP hK hD hS hA hm hl => ?_)
  have hown : s.vm.findClass RX5 = some m.cls := hown
  refine lv_aload_n hx hb dX5_add_0 rfl (lv_at hl 0 rfl) ?_
  refine r_get hx hb hts ok_RX5 hown hK hP 0 rfl rfl 1 (by decide) w_55 (fun _ h9 => h9) rfl dX5_add_1 ?_
  refine lv_if_lt (tgt := 39) hx hb dX5_add_4 (by decide) (fun c9 => absurd c9 (by decide +kernel)) (fun _ => ?_)
  refine lv_aload_n hx hb dX5_add_7 rfl (lv_at hl 0 rfl) ?_
  refine r_get hx hb hts ok_RX5 hown hK hP 0 rfl rfl 1 (by decide) w_55 (fun _ h9 => h9) rfl dX5_add_8 ?_
  refine lv_aload_n hx hb dX5_add_11 rfl (lv_at hl 0 rfl) ?_
  refine r_get hx hb hts ok_RX5 hown hK hP 0 rfl rfl 0 (by decide) w_54 (fun _ h9 => h9) rfl dX5_add_12 ?_
  refine r_alen (n := 200) hx hb hK hP 1 0 rfl rfl rfl dX5_add_15 ?_
  refine lv_icmp_ge (tgt := 39) hx hb dX5_add_16 (by decide) (fun c9 => absurd c9 (by decide +kernel)) (fun _ => ?_)
  refine lv_aload_n hx hb dX5_add_19 rfl (lv_at hl 0 rfl) ?_
  refine r_get hx hb hts ok_RX5 hown hK hP 0 rfl rfl 0 (by decide) w_54 (fun _ h9 => h9) rfl dX5_add_20 ?_
  refine lv_aload_n hx hb dX5_add_23 rfl (lv_at hl 0 rfl) ?_
  refine r_get hx hb hts ok_RX5 hown hK hP 0 rfl rfl 1 (by decide) w_55 (fun _ h9 => h9) rfl dX5_add_24 ?_
  refine lv_aload_n hx hb dX5_add_27 rfl (lv_at hl 1 rfl) ?_
  refine r_aast (k := 0) hx hb hK hP hD hS 1 0 rfl rfl (any_S hK hP 2 rfl rfl rfl) (Nat.le_of_ble_eq_true rfl) (by decide) dX5_add_28 (ws' := [(h0, .inr (5, [.ref h1, .int (nI 0)])), (h1, .inl (K 0, 200, .inr (.inr (.inr (.inr (va_up f0 0 (some h2))))))), (h2, .inr (7, [v0, v1, v2, v3, v4, v5, v6, v7, v8, v9, v10, v11, v12, v13]))]) rfl (fun H locs hP hD hS => ?_)
  refine lv_aload_n hx hb dX5_add_29 rfl (lv_at hl 0 rfl) ?_
  refine lv_dup hx hb dX5_add_30 rfl ?_
  refine r_get hx hb hts ok_RX5 hown hK hP 0 rfl rfl 1 (by decide) w_55 (fun _ h9 => h9) rfl dX5_add_31 ?_
  refine lv_iconst (v := nI 1) hx hb dX5_add_34 (by decide +kernel) ?_
  refine lv_iadd hx hb dX5_add_35 ?_
  refine w_toeq (show (nI 0) + (nI 1) = nI 1 by decide +kernel) ?_
  refine r_put hx hb hts ok_RX5 hown hK hP hD hS 0 rfl rfl 1 (by decide) w_55 (fun _ h9 => h9) rfl (v := .int (nI 1)) rfl rfl (Nat.le_of_ble_eq_true rfl) dX5_add_36 (ws' := [(h0, .inr (5, [.ref h1, .int (nI 1)])), (h1, .inl (K 0, 200, .inr (.inr (.inr (.inr (va_up f0 0 (some h2))))))), (h2, .inr (7, [v0, v1, v2, v3, v4, v5, v6, v7, v8, v9, v10, v11, v12, v13]))]) rfl (fun H locs hP hD hS => ?_)
  exact e_v hx hb hr hlk hP hD hS (fun _ => 0) rfl (Nat.le_of_ble_eq_true rfl) (Nat.le_of_ble_eq_true rfl) dX5_add_39
set_option maxHeartbeats 4000000 in
set_option maxRecDepth 100000 in
theorem C93_moveTo (l : Launch) (G : Nat → Nat) (D : va_G) (K : Nat → ClassId) (sz : Nat) (h0 : Nat) (v0 v1 v2 v3 v4 v5 v6 v7 v8 v9 v10 v11 v12 : Value) : CM l yX7_moveTo cX7_moveTo 3 (none : Option FieldType) ({ frames := 0, cells := 0, slots := 0, locals := 0 } : Room) G D K [.ref h0, .int (nI 1), .int (nI 0)] [(h0, .inr (7, [v0, v1, v2, v3, v4, v5, .int (nI 2), v6, v7, v8, v9, v10, v11, v12]))] sz (CQv D (fun _ => [(h0, .inr (7, [v0, v1, v2, .int (nI 1), .int (nI 0), .int (nI 2), .int (nI 2), v6, v7, v8, v9, v10, v11, v12]))])) := by
  refine CM_of (lv0 := [(0, .ref h0), (1, .int (nI 1)), (2, .int (nI 0))]) pn_RX7 (Nat.le_of_ble_eq_true rfl) rfl (fun p e s m args below meth c A ls hx hb hr hml hown hts hlk hnm hP hK hD hS hA hm hl => ?_)
  have hown : s.vm.findClass RX7 = some m.cls := hown
  refine lv_aload_n hx hb dX7_moveTo_0 rfl (lv_at hl 0 rfl) ?_
  refine lv_aload_n hx hb dX7_moveTo_1 rfl (lv_at hl 0 rfl) ?_
  refine r_get hx hb hts ok_RX7 hown hK hP 0 rfl rfl 6 (by decide) w_839 (fun _ h9 => h9) rfl dX7_moveTo_2 ?_
  refine r_put hx hb hts ok_RX7 hown hK hP hD hS 0 rfl rfl 5 (by decide) w_834 (fun _ h9 => h9) rfl (v := .int (nI 2)) rfl rfl (Nat.le_of_ble_eq_true rfl) dX7_moveTo_5 (ws' := [(h0, .inr (7, [v0, v1, v2, v3, v4, .int (nI 2), .int (nI 2), v6, v7, v8, v9, v10, v11, v12]))]) rfl (fun H locs hP hD hS => ?_)
  refine lv_aload_n hx hb dX7_moveTo_8 rfl (lv_at hl 0 rfl) ?_
  refine lv_iload_n hx hb dX7_moveTo_9 rfl (lv_at hl 1 rfl) ?_
  refine r_put hx hb hts ok_RX7 hown hK hP hD hS 0 rfl rfl 3 (by decide) w_825 (fun _ h9 => h9) rfl (v := .int (nI 1)) rfl rfl (Nat.le_of_ble_eq_true rfl) dX7_moveTo_10 (ws' := [(h0, .inr (7, [v0, v1, v2, .int (nI 1), v4, .int (nI 2), .int (nI 2), v6, v7, v8, v9, v10, v11, v12]))]) rfl (fun H locs hP hD hS => ?_)
  refine lv_aload_n hx hb dX7_moveTo_13 rfl (lv_at hl 0 rfl) ?_
  refine lv_iload_n hx hb dX7_moveTo_14 rfl (lv_at hl 2 rfl) ?_
  refine r_put hx hb hts ok_RX7 hown hK hP hD hS 0 rfl rfl 4 (by decide) w_832 (fun _ h9 => h9) rfl (v := .int (nI 0)) rfl rfl (Nat.le_of_ble_eq_true rfl) dX7_moveTo_15 (ws' := [(h0, .inr (7, [v0, v1, v2, .int (nI 1), .int (nI 0), .int (nI 2), .int (nI 2), v6, v7, v8, v9, v10, v11, v12]))]) rfl (fun H locs hP hD hS => ?_)
  exact e_v hx hb hr hlk hP hD hS (fun _ => 0) rfl (Nat.le_of_ble_eq_true rfl) (Nat.le_of_ble_eq_true rfl) dX7_moveTo_18
set_option maxHeartbeats 4000000 in
set_option maxRecDepth 100000 in
theorem C94_end (l : Launch) (G : Nat → Nat) (D : va_G) (K : Nat → ClassId) (sz : Nat) (h0 : Nat) (v0 v1 v2 v3 v4 v5 v6 v7 v8 v9 v10 v11 : Value) : CM l yX7_end cX7_end 1 (some FieldType.int) ({ frames := 0, cells := 0, slots := 0, locals := 0 } : Room) G D K [.ref h0] [(h0, .inr (7, [v0, v1, v2, v3, .int (nI 0), .int (nI 2), v4, v5, v6, v7, v8, v9, v10, v11]))] sz (CQi (nI 2) D (fun _ => [(h0, .inr (7, [v0, v1, v2, v3, .int (nI 0), .int (nI 2), v4, v5, v6, v7, v8, v9, v10, v11]))])) := by
  refine CM_of (lv0 := [(0, .ref h0)]) pn_RX7 (Nat.le_of_ble_eq_true rfl) rfl (fun p e s m args below meth c A ls hx hb hr hml hown hts hlk hnm hP hK hD hS hA hm hl => ?_)
  have hown : s.vm.findClass RX7 = some m.cls := hown
  refine lv_aload_n hx hb dX7_end_0 rfl (lv_at hl 0 rfl) ?_
  refine r_get hx hb hts ok_RX7 hown hK hP 0 rfl rfl 4 (by decide) w_832 (fun _ h9 => h9) rfl dX7_end_1 ?_
  refine lv_aload_n hx hb dX7_end_4 rfl (lv_at hl 0 rfl) ?_
  refine r_get hx hb hts ok_RX7 hown hK hP 0 rfl rfl 5 (by decide) w_834 (fun _ h9 => h9) rfl dX7_end_5 ?_
  refine lv_iadd hx hb dX7_end_8 ?_
  refine w_toeq (show (nI 0) + (nI 2) = nI 2 by decide +kernel) ?_
  exact e_i hx hb hr hlk hP hD hS (fun _ => 0) rfl (Nat.le_of_ble_eq_true rfl) (Nat.le_of_ble_eq_true rfl) rfl dX7_end_9
set_option maxHeartbeats 4000000 in
set_option maxRecDepth 100000 in
theorem C95_lay (l : Launch) (G : Nat → Nat) (D : va_G) (K : Nat → ClassId) (sz : Nat) (h0 h1 h2 h3 h4 : Nat) (v0 v1 v2 v3 v4 v5 v6 v7 v8 v9 v10 v11 v12 v13 v14 v15 v16 : Value) (f0 : Nat → Option Nat) (f1 : Nat → Option Nat) : CM l yX3_lay cX3_lay 3 (none : Option FieldType) ({ frames := 1, cells := 0, slots := 0, locals := 22 } : Room) G D K [.ref h2, .ref h0, .int (nI 0)] [(h0, .inr (7, [v0, .ref h1, v1, v2, .int (nI 0), .int (nI 2), .int (nI 2), v3, v4, v5, v6, v7, v8, v9])), (h1, .inl (K 0, 0, .inr (.inr (.inr (.inr f0))))), (h2, .inr (3, [.ref h3, v10, v11, v12, v13, v14, v15, v16])), (h3, .inr (5, [.ref h4, .int (nI 0)])), (h4, .inl (K 0, 200, .inr (.inr (.inr (.inr f1)))))] sz (CQv D (fun _ => [(h1, .inl (K 0, 0, .inr (.inr (.inr (.inr f0))))), (h2, .inr (3, [.ref h3, v10, v11, v12, .int (nI 2), v14, v15, v16])), (h3, .inr (5, [.ref h4, .int (nI 1)])), (h4, .inl (K 0, 200, .inr (.inr (.inr (.inr (va_up f1 0 (some h0))))))), (h0, .inr (7, [v0, .ref h1, v1, .int (nI 1), .int (nI 0), .int (nI 2), .int (nI 2), v3, v4, v5, v6, v7, v8, v9]))])) := by
  refine CM_of (lv0 := [(0, .ref h2), (1, .ref h0), (2, .int (nI 0))]) pn_RX3 (Nat.le_of_ble_eq_true rfl) rfl (fun p e s m args below meth c A ls hx hb hr hml hown hts hlk hnm hP hK hD hS hA hm hl => ?_)
  have hown : s.vm.findClass RX3 = some m.cls := hown
  refine lv_aload_n hx hb dX3_lay_0 rfl (lv_at hl 1 rfl) ?_
  refine r_get hx hb hts ok_RX7 hown hK hP 0 rfl rfl 1 (by decide) w_812 (fun _ h9 => h9) rfl dX3_lay_1 ?_
  refine r_alen (n := 0) hx hb hK hP 1 0 rfl rfl rfl dX3_lay_4 ?_
  refine lv_bipush (v := nI 12) hx hb dX3_lay_5 (by decide +kernel) ?_
  refine lv_icmp_lt (tgt := 27) hx hb dX3_lay_7 (by decide) (fun _ => ?_) (fun c9 => absurd (by decide +kernel) c9)
  refine lv_aload_n hx hb dX3_lay_27 rfl (lv_at hl 1 rfl) ?_
  refine lv_iconst (v := nI 1) hx hb dX3_lay_28 (by decide +kernel) ?_
  refine lv_iload_n hx hb dX3_lay_29 rfl (lv_at hl 2 rfl) ?_
  refine k_v (wr := [(h1, .inl (K 0, 0, .inr (.inr (.inr (.inr f0))))), (h2, .inr (3, [.ref h3, v10, v11, v12, v13, v14, v15, v16])), (h3, .inr (5, [.ref h4, .int (nI 0)])), (h4, .inl (K 0, 200, .inr (.inr (.inr (.inr f1)))))]) (run_V (rest := []) hx hb hml hown hts hK hP hD hS hA hm (C93_moveTo l G D K s.heap.size h0 (v0) (.ref h1) (v1) (v2) (.int (nI 0)) (.int (nI 2)) (v3) (v4) (v5) (v6) (v7) (v8) (v9)) [0] rfl rfl mok_yX7_moveTo w_361 w_362 w_363 (rcv hK hP 0 rfl rfl rfl) ⟨Nat.le_of_ble_eq_true rfl, Nat.le_of_ble_eq_true rfl⟩ rfl hl.1 rfl (Nat.le_of_ble_eq_true rfl) dX3_lay_30 ⟨(Nat.le_of_ble_eq_true rfl), (Nat.le_of_ble_eq_true rfl)⟩) hP hD hS hA [0] [1, 2, 3, 4] rfl rfl rfl (by decide) (w2 := fun u0 => [(h1, .inl (K 0, 0, .inr (.inr (.inr (.inr f0))))), (h2, .inr (3, [.ref h3, v10, v11, v12, v13, v14, v15, v16])), (h3, .inr (5, [.ref h4, .int (nI 0)])), (h4, .inl (K 0, 200, .inr (.inr (.inr (.inr f1))))), (h0, .inr (7, [v0, .ref h1, v1, .int (nI 1), .int (nI 0), .int (nI 2), .int (nI 2), v3, v4, v5, v6, v7, v8, v9]))]) (fun _ => rfl) (fun u0 H locs hP hD hS => ?_)
  refine lv_aload_n hx hb dX3_lay_33 rfl (lv_at hl 0 rfl) ?_
  refine r_get hx hb hts ok_RX3 hown hK hP 1 rfl rfl 0 (by decide) w_94 (fun _ h9 => h9) rfl dX3_lay_34 ?_
  refine lv_aload_n hx hb dX3_lay_37 rfl (lv_at hl 1 rfl) ?_
  refine k_v (wr := [(h1, .inl (K 0, 0, .inr (.inr (.inr (.inr f0))))), (h2, .inr (3, [.ref h3, v10, v11, v12, v13, v14, v15, v16]))]) (run_V (rest := []) hx hb hml hown hts hK hP hD hS hA hm (C92_add l G D K H.size h3 h4 h0 (v0) (.ref h1) (v1) (.int (nI 1)) (.int (nI 0)) (.int (nI 2)) (.int (nI 2)) (v3) (v4) (v5) (v6) (v7) (v8) (v9) f1) [2, 3, 4] rfl rfl mok_yX5_add w_369 w_333 w_334 (rcv hK hP 2 rfl rfl rfl) ⟨Nat.le_of_ble_eq_true rfl, Nat.le_of_ble_eq_true rfl⟩ rfl hl.1 rfl (Nat.le_of_ble_eq_true rfl) dX3_lay_38 ⟨(Nat.le_of_ble_eq_true rfl), (Nat.le_of_ble_eq_true rfl)⟩) hP hD hS hA [2, 3, 4] [0, 1] rfl rfl rfl (by decide) (w2 := fun u1 => [(h1, .inl (K 0, 0, .inr (.inr (.inr (.inr f0))))), (h2, .inr (3, [.ref h3, v10, v11, v12, v13, v14, v15, v16])), (h3, .inr (5, [.ref h4, .int (nI 1)])), (h4, .inl (K 0, 200, .inr (.inr (.inr (.inr (va_up f1 0 (some h0))))))), (h0, .inr (7, [v0, .ref h1, v1, .int (nI 1), .int (nI 0), .int (nI 2), .int (nI 2), v3, v4, v5, v6, v7, v8, v9]))]) (fun _ => rfl) (fun u1 H locs hP hD hS => ?_)
  refine lv_aload_n hx hb dX3_lay_41 rfl (lv_at hl 0 rfl) ?_
  refine lv_aload_n hx hb dX3_lay_42 rfl (lv_at hl 1 rfl) ?_
  refine k_i (wr := [(h1, .inl (K 0, 0, .inr (.inr (.inr (.inr f0))))), (h2, .inr (3, [.ref h3, v10, v11, v12, v13, v14, v15, v16])), (h3, .inr (5, [.ref h4, .int (nI 1)])), (h4, .inl (K 0, 200, .inr (.inr (.inr (.inr (va_up f1 0 (some h0)))))))]) (run_V (rest := [.ref h2]) hx hb hml hown hts hK hP hD hS hA hm (C94_end l G D K H.size h0 (v0) (.ref h1) (v1) (.int (nI 1)) (.int (nI 2)) (v3) (v4) (v5) (v6) (v7) (v8) (v9)) [4] rfl rfl mok_yX7_end w_365 w_366 w_367 (rcv hK hP 4 rfl rfl rfl) ⟨Nat.le_of_ble_eq_true rfl, Nat.le_of_ble_eq_true rfl⟩ rfl hl.1 rfl (Nat.le_of_ble_eq_true rfl) dX3_lay_43 ⟨(Nat.le_of_ble_eq_true rfl), (Nat.le_of_ble_eq_true rfl)⟩) hP hD hS hA [4] [0, 1, 2, 3] rfl rfl rfl (by decide) (w2 := fun u2 => [(h1, .inl (K 0, 0, .inr (.inr (.inr (.inr f0))))), (h2, .inr (3, [.ref h3, v10, v11, v12, v13, v14, v15, v16])), (h3, .inr (5, [.ref h4, .int (nI 1)])), (h4, .inl (K 0, 200, .inr (.inr (.inr (.inr (va_up f1 0 (some h0))))))), (h0, .inr (7, [v0, .ref h1, v1, .int (nI 1), .int (nI 0), .int (nI 2), .int (nI 2), v3, v4, v5, v6, v7, v8, v9]))]) (fun _ => rfl) (fun u2 H locs hP hD hS => ?_)
  refine r_put hx hb hts ok_RX3 hown hK hP hD hS 1 rfl rfl 4 (by decide) w_104 (fun _ h9 => h9) rfl (v := .int (nI 2)) rfl rfl (Nat.le_of_ble_eq_true rfl) dX3_lay_46 (ws' := [(h1, .inl (K 0, 0, .inr (.inr (.inr (.inr f0))))), (h2, .inr (3, [.ref h3, v10, v11, v12, .int (nI 2), v14, v15, v16])), (h3, .inr (5, [.ref h4, .int (nI 1)])), (h4, .inl (K 0, 200, .inr (.inr (.inr (.inr (va_up f1 0 (some h0))))))), (h0, .inr (7, [v0, .ref h1, v1, .int (nI 1), .int (nI 0), .int (nI 2), .int (nI 2), v3, v4, v5, v6, v7, v8, v9]))]) rfl (fun H locs hP hD hS => ?_)
  exact e_v hx hb hr hlk hP hD hS (fun _ => 0) rfl (Nat.le_of_ble_eq_true rfl) (Nat.le_of_ble_eq_true rfl) dX3_lay_49
set_option maxHeartbeats 4000000 in
set_option maxRecDepth 100000 in
theorem C96_noteMade (l : Launch) (G : Nat → Nat) (D : va_G) (K : Nat → ClassId) (sz : Nat) (h0 : Nat) (a0 : Nat) (v0 v1 : Value) : CM l yX1_noteMade cX1_noteMade 2 (none : Option FieldType) ({ frames := 0, cells := 0, slots := 0, locals := 0 } : Room) G D K [.ref h0, .ref a0] [(h0, .inr (1, [v0, v1, .int (nI 0)]))] sz (CQv D (fun _ => [(h0, .inr (1, [v0, v1, .int (nI 0)]))])) := by
  refine CM_of (lv0 := [(0, .ref h0), (1, .ref a0)]) pn_RX1 (Nat.le_of_ble_eq_true rfl) rfl (fun p e s m args below meth c A ls hx hb hr hml hown hts hlk hnm hP hK hD hS hA hm hl => ?_)
  have hown : s.vm.findClass RX1 = some m.cls := hown
  refine lv_aload_n hx hb dX1_noteMade_0 rfl (lv_at hl 0 rfl) ?_
  refine r_get hx hb hts ok_RX1 hown hK hP 0 rfl rfl 2 (by decide) w_161 (fun _ h9 => h9) rfl dX1_noteMade_1 ?_
  refine lv_if_eq (tgt := 12) hx hb dX1_noteMade_4 (by decide) (fun _ => ?_) (fun c9 => absurd (by decide +kernel) c9)
  exact e_v hx hb hr hlk hP hD hS (fun _ => 0) rfl (Nat.le_of_ble_eq_true rfl) (Nat.le_of_ble_eq_true rfl) dX1_noteMade_12
set_option maxHeartbeats 4000000 in
set_option maxRecDepth 100000 in
theorem C97_indexOf (l : Launch) (G : Nat → Nat) (D : va_G) (K : Nat → ClassId) (sz : Nat) (h0 : Nat) (v0 v1 v2 : Value) (j0 : Nat) (lj0 : 0 ≤ j0) (gj0 : j0 ≤ 3) : CM l yX4_indexOf cX4_indexOf 2 (some FieldType.int) ({ frames := 0, cells := 0, slots := 0, locals := 0 } : Room) G D K [.ref h0, .int (nI j0)] [(h0, .inr (4, [v0, v1, v2, .int (nI 1)]))] sz (CQi (nI (0 + j0)) D (fun _ => [(h0, .inr (4, [v0, v1, v2, .int (nI 1)]))])) := by
  refine CM_of (lv0 := [(0, .ref h0), (1, .int (nI j0))]) pn_RX4 (Nat.le_of_ble_eq_true rfl) rfl (fun p e s m args below meth c A ls hx hb hr hml hown hts hlk hnm hP hK hD hS hA hm hl => ?_)
  have hown : s.vm.findClass RX4 = some m.cls := hown
  refine lv_iload_n hx hb dX4_indexOf_0 rfl (lv_at hl 1 rfl) ?_
  refine lv_if_lt (tgt := 9) hx hb dX4_indexOf_1 (by decide) (fun c9 => absurd c9 (fun h9 => absurd ((nI_ltI (a := j0) (b := 0) (by omega) (by omega)).mp h9) (by omega))) (fun _ => ?_)
  refine lv_iload_n hx hb dX4_indexOf_4 rfl (lv_at hl 1 rfl) ?_
  refine lv_iconst (v := nI 4) hx hb dX4_indexOf_5 (by decide +kernel) ?_
  refine lv_icmp_lt (tgt := 13) hx hb dX4_indexOf_6 (by decide) (fun _ => ?_) (fun c9 => absurd ((nI_ltI (a := j0) (b := 4) (by omega) (by omega)).mpr (by omega)) c9)
  refine lv_aload_n hx hb dX4_indexOf_13 rfl (lv_at hl 0 rfl) ?_
  refine r_get hx hb hts ok_RX4 hown hK hP 0 rfl rfl 3 (by decide) w_76 (fun _ h9 => h9) rfl dX4_indexOf_14 ?_
  refine lv_iconst (v := nI 1) hx hb dX4_indexOf_17 (by decide +kernel) ?_
  refine lv_isub hx hb dX4_indexOf_18 ?_
  refine w_toeq (show (nI 1) - (nI 1) = nI 0 by decide +kernel) ?_
  refine lv_iconst (v := nI 4) hx hb dX4_indexOf_19 (by decide +kernel) ?_
  refine lv_imul hx hb dX4_indexOf_20 ?_
  refine w_toeq (show (nI 0) * (nI 4) = nI 0 by decide +kernel) ?_
  refine lv_iload_n hx hb dX4_indexOf_21 rfl (lv_at hl 1 rfl) ?_
  refine lv_iadd hx hb dX4_indexOf_22 ?_
  refine w_toeq (show (nI 0) + (nI j0) = nI (0 + j0) from nI_add 0 j0) ?_
  exact e_i hx hb hr hlk hP hD hS (fun _ => 0) rfl (Nat.le_of_ble_eq_true rfl) (Nat.le_of_ble_eq_true rfl) rfl dX4_indexOf_23
set_option maxHeartbeats 4000000 in
set_option maxRecDepth 100000 in
theorem C98_writeSlot (l : Launch) (G : Nat → Nat) (D : va_G) (K : Nat → ClassId) (sz : Nat) (h0 h1 h2 : Nat) (v0 v1 v2 v3 v4 v5 v6 v7 v8 v9 v10 v11 v12 v13 v14 v15 : Value) (f0 : Nat → Option Nat) (j0 : Nat) (lj0 : 0 ≤ j0) (gj0 : j0 ≤ 3) : CM l yX4_writeSlot cX4_writeSlot 4 (none : Option FieldType) ({ frames := 1, cells := 0, slots := 0, locals := 21 } : Room) G D K [.ref h0, .int (nI j0), .ref h2] [(h0, .inr (4, [v0, .ref h1, v1, .int (nI 1)])), (h1, .inl (K 0, 32, .inr (.inr (.inr (.inr f0))))), (h2, .inr (7, [v2, v3, v4, v5, v6, v7, v8, v9, v10, v11, v12, v13, v14, v15]))] sz (CQv D (fun _ => [(h1, .inl (K 0, 32, .inr (.inr (.inr (.inr (va_up f0 (0 + j0) (some h2))))))), (h2, .inr (7, [v2, v3, v4, v5, v6, v7, v8, v9, v10, v11, v12, v13, v14, v15])), (h0, .inr (4, [v0, .ref h1, v1, .int (nI 1)]))])) := by
  refine CM_of (lv0 := [(0, .ref h0), (1, .int (nI j0)), (2, .ref h2)]) pn_RX4 (Nat.le_of_ble_eq_true rfl) rfl (fun p e s m args below meth c A ls hx hb hr hml hown hts hlk hnm hP hK hD hS hA hm hl => ?_)
  have hown : s.vm.findClass RX4 = some m.cls := hown
  refine lv_aload_n hx hb dX4_writeSlot_0 rfl (lv_at hl 0 rfl) ?_
  refine lv_iload_n hx hb dX4_writeSlot_1 rfl (lv_at hl 1 rfl) ?_
  refine k_i (wr := [(h1, .inl (K 0, 32, .inr (.inr (.inr (.inr f0))))), (h2, .inr (7, [v2, v3, v4, v5, v6, v7, v8, v9, v10, v11, v12, v13, v14, v15]))]) (run_V (rest := []) hx hb hml hown hts hK hP hD hS hA hm (C97_indexOf l G D K s.heap.size h0 (v0) (.ref h1) (v1) j0 (by omega) (by omega)) [0] rfl rfl mok_yX4_indexOf w_695 w_697 w_p20 (rcv hK hP 0 rfl rfl rfl) ⟨Nat.le_of_ble_eq_true rfl, Nat.le_of_ble_eq_true rfl⟩ rfl hl.1 rfl (Nat.le_of_ble_eq_true rfl) dX4_writeSlot_2 ⟨(Nat.le_of_ble_eq_true rfl), (Nat.le_of_ble_eq_true rfl)⟩) hP hD hS hA [0] [1, 2] rfl rfl rfl (by decide) (w2 := fun u0 => [(h1, .inl (K 0, 32, .inr (.inr (.inr (.inr f0))))), (h2, .inr (7, [v2, v3, v4, v5, v6, v7, v8, v9, v10, v11, v12, v13, v14, v15])), (h0, .inr (4, [v0, .ref h1, v1, .int (nI 1)]))]) (fun _ => rfl) (fun u0 H locs hP hD hS => ?_)
  refine lv_istore_n (lv' := [(3, .int (nI (0 + j0))), (0, .ref h0), (1, .int (nI j0)), (2, .ref h2)]) hx hb dX4_writeSlot_5 rfl hl (by decide) rfl (fun ls hl => ?_)
  refine lv_iload_n hx hb dX4_writeSlot_6 rfl (lv_at hl 0 rfl) ?_
  refine lv_if_lt (tgt := 26) hx hb dX4_writeSlot_7 (by decide) (fun c9 => absurd c9 (fun h9 => absurd ((nI_ltI (a := 0 + j0) (b := 0) (by omega) (by omega)).mp h9) (by omega))) (fun _ => ?_)
  refine lv_iload_n hx hb dX4_writeSlot_10 rfl (lv_at hl 0 rfl) ?_
  refine lv_aload_n hx hb dX4_writeSlot_11 rfl (lv_at hl 1 rfl) ?_
  refine r_get hx hb hts ok_RX4 hown hK hP 2 rfl rfl 1 (by decide) w_74 (fun _ h9 => h9) rfl dX4_writeSlot_12 ?_
  refine r_alen (n := 32) hx hb hK hP 0 0 rfl rfl rfl dX4_writeSlot_15 ?_
  refine lv_icmp_ge (tgt := 26) hx hb dX4_writeSlot_16 (by decide) (fun c9 => absurd c9 (fun h9 => absurd ((nI_leI (a := 32) (b := 0 + j0) (by omega) (by omega)).mp h9) (by omega))) (fun _ => ?_)
  refine lv_aload_n hx hb dX4_writeSlot_19 rfl (lv_at hl 1 rfl) ?_
  refine r_get hx hb hts ok_RX4 hown hK hP 2 rfl rfl 1 (by decide) w_74 (fun _ h9 => h9) rfl dX4_writeSlot_20 ?_
  refine lv_iload_n hx hb dX4_writeSlot_23 rfl (lv_at hl 0 rfl) ?_
  refine lv_aload_n hx hb dX4_writeSlot_24 rfl (lv_at hl 3 rfl) ?_
  refine r_aast (k := (0 + j0)) hx hb hK hP hD hS 0 0 rfl rfl (any_S hK hP 1 rfl rfl rfl) (by omega) (by decide) dX4_writeSlot_25 (ws' := [(h1, .inl (K 0, 32, .inr (.inr (.inr (.inr (va_up f0 (0 + j0) (some h2))))))), (h2, .inr (7, [v2, v3, v4, v5, v6, v7, v8, v9, v10, v11, v12, v13, v14, v15])), (h0, .inr (4, [v0, .ref h1, v1, .int (nI 1)]))]) rfl (fun H locs hP hD hS => ?_)
  exact e_v hx hb hr hlk hP hD hS (fun _ => 0) rfl (Nat.le_of_ble_eq_true rfl) (Nat.le_of_ble_eq_true rfl) dX4_writeSlot_26
set_option maxHeartbeats 4000000 in
set_option maxRecDepth 100000 in
theorem C99_make (l : Launch) (G : Nat → Nat) (D : va_G) (K : Nat → ClassId) (sz : Nat) (h0 h1 h2 h3 h4 h5 h6 h7 h8 : Nat) (v0 v1 v2 v3 v4 v5 v6 v7 v8 v9 v10 v11 v12 v13 : Value) (f0 : Nat → Option Nat) (f1 : Nat → Option Nat) (f2 : Nat → Option Nat) (j0 : Nat) (lj0 : 0 ≤ j0) (gj0 : j0 ≤ 3) : CM l yX9_make cX9_make 6 (some FieldType.int) ({ frames := 2, cells := 2, slots := 14, locals := 44 } : Room) G D K [.ref h0, .int (nI j0), .int (nI 0), .int (nI 0)] [(h0, .inr (9, [.ref h1, .ref h7, .ref h2, v0, .ref h6, v1, v2, v3, v4])), (h1, .inr (5, [.ref h3, .int (nI 0)])), (h2, .inr (3, [.ref h4, v5, v6, .int (nI 0), .int (nI 0), v7, v8, v9])), (h3, .inl (K 0, 200, .inr (.inr (.inr (.inr f0))))), (h4, .inr (5, [.ref h5, .int (nI 0)])), (h5, .inl (K 0, 200, .inr (.inr (.inr (.inr f1))))), (h6, .inr (1, [v10, v11, .int (nI 0)])), (h7, .inr (4, [v12, .ref h8, v13, .int (nI 1)])), (h8, .inl (K 0, 32, .inr (.inr (.inr (.inr f2)))))] sz (CQi (nI 0) D (fun u => [(h0, .inr (9, [.ref h1, .ref h7, .ref h2, v0, .ref h6, v1, v2, v3, v4])), (h1, .inr (5, [.ref h3, .int (nI 1)])), (h3, .inl (K 0, 200, .inr (.inr (.inr (.inr (va_up f0 0 (some (u 0)))))))), ((u 1), .inl (K 0, 0, .inr (.inr (.inr (.inr (fun _ => none)))))), (h2, .inr (3, [.ref h4, v5, v6, .int (nI 0), .int (nI 2), v7, v8, v9])), (h4, .inr (5, [.ref h5, .int (nI 1)])), (h5, .inl (K 0, 200, .inr (.inr (.inr (.inr (va_up f1 0 (some (u 0)))))))), (h6, .inr (1, [v10, v11, .int (nI 0)])), (h8, .inl (K 0, 32, .inr (.inr (.inr (.inr (va_up f2 (0 + j0) (some (u 0)))))))), ((u 0), .inr (7, [.int (nI 0), .ref (u 1), .int (nI 0), .int (nI 1), .int (nI 0), .int (nI 2), .int (nI 2), .int (nI 0), .int (-1), .int (nI 0), .int (nI 0), .int (nI 0), .int (nI 0), .int (nI 0)])), (h7, .inr (4, [v12, .ref h8, v13, .int (nI 1)]))])) := by
  refine CM_of (lv0 := [(0, .ref h0), (1, .int (nI j0)), (2, .int (nI 0)), (3, .int (nI 0))]) pn_RX9 (Nat.le_of_ble_eq_true rfl) rfl (fun p e s m args below meth c A ls hx hb hr hml hown hts hlk hnm hP hK hD hS hA hm hl => ?_)
  have hown : s.vm.findClass RX9 = some m.cls := hown
  refine lv_iload_n hx hb dX9_make_0 rfl (lv_at hl 1 rfl) ?_
  refine k_v (wr := [(h0, .inr (9, [.ref h1, .ref h7, .ref h2, v0, .ref h6, v1, v2, v3, v4])), (h1, .inr (5, [.ref h3, .int (nI 0)])), (h2, .inr (3, [.ref h4, v5, v6, .int (nI 0), .int (nI 0), v7, v8, v9])), (h3, .inl (K 0, 200, .inr (.inr (.inr (.inr f0))))), (h4, .inr (5, [.ref h5, .int (nI 0)])), (h5, .inl (K 0, 200, .inr (.inr (.inr (.inr f1))))), (h6, .inr (1, [v10, v11, .int (nI 0)])), (h7, .inr (4, [v12, .ref h8, v13, .int (nI 1)])), (h8, .inl (K 0, 32, .inr (.inr (.inr (.inr f2)))))]) (run_S (rest := []) hx hb hml hown hts hK hP hD hS hA hm (C70_requireSlot l G D K s.heap.size j0 (by omega) (by omega)) [] rfl rfl mok_yX9_requireSlot w_687 w_688 ⟨Nat.le_of_ble_eq_true rfl, Nat.le_of_ble_eq_true rfl⟩ rfl hl.1 rfl (Nat.le_of_ble_eq_true rfl) dX9_make_1 ⟨(Nat.le_of_ble_eq_true rfl), (Nat.le_of_ble_eq_true rfl)⟩) hP hD hS hA [] [0, 1, 2, 3, 4, 5, 6, 7, 8] rfl rfl rfl (by decide) (w2 := fun u0 => [(h0, .inr (9, [.ref h1, .ref h7, .ref h2, v0, .ref h6, v1, v2, v3, v4])), (h1, .inr (5, [.ref h3, .int (nI 0)])), (h2, .inr (3, [.ref h4, v5, v6, .int (nI 0), .int (nI 0), v7, v8, v9])), (h3, .inl (K 0, 200, .inr (.inr (.inr (.inr f0))))), (h4, .inr (5, [.ref h5, .int (nI 0)])), (h5, .inl (K 0, 200, .inr (.inr (.inr (.inr f1))))), (h6, .inr (1, [v10, v11, .int (nI 0)])), (h7, .inr (4, [v12, .ref h8, v13, .int (nI 1)])), (h8, .inl (K 0, 32, .inr (.inr (.inr (.inr f2)))))]) (fun _ => rfl) (fun u0 H locs hP hD hS => ?_)
  refine lv_iload_n hx hb dX9_make_4 rfl (lv_at hl 2 rfl) ?_
  refine lv_if_lt (tgt := 27) hx hb dX9_make_5 (by decide) (fun c9 => absurd c9 (by decide +kernel)) (fun _ => ?_)
  refine lv_iload_n hx hb dX9_make_8 rfl (lv_at hl 2 rfl) ?_
  refine lv_iconst (v := nI 4) hx hb dX9_make_9 (by decide +kernel) ?_
  refine lv_icmp_gt (tgt := 27) hx hb dX9_make_10 (by decide) (fun c9 => absurd c9 (by decide +kernel)) (fun _ => ?_)
  refine lv_iload_n hx hb dX9_make_13 rfl (lv_at hl 3 rfl) ?_
  refine lv_iload_n hx hb dX9_make_14 rfl (lv_at hl 2 rfl) ?_
  refine k_i (wr := [(h0, .inr (9, [.ref h1, .ref h7, .ref h2, v0, .ref h6, v1, v2, v3, v4])), (h1, .inr (5, [.ref h3, .int (nI 0)])), (h2, .inr (3, [.ref h4, v5, v6, .int (nI 0), .int (nI 0), v7, v8, v9])), (h3, .inl (K 0, 200, .inr (.inr (.inr (.inr f0))))), (h4, .inr (5, [.ref h5, .int (nI 0)])), (h5, .inl (K 0, 200, .inr (.inr (.inr (.inr f1))))), (h6, .inr (1, [v10, v11, .int (nI 0)])), (h7, .inr (4, [v12, .ref h8, v13, .int (nI 1)])), (h8, .inl (K 0, 32, .inr (.inr (.inr (.inr f2)))))]) (run_S (rest := [.int (nI 0)]) hx hb hml hown hts hK hP hD hS hA hm (C81_leastFields l G D K H.size) [] rfl rfl mok_yX9_leastFields w_795 w_796 ⟨Nat.le_of_ble_eq_true rfl, Nat.le_of_ble_eq_true rfl⟩ rfl hl.1 rfl (Nat.le_of_ble_eq_true rfl) dX9_make_15 ⟨(Nat.le_of_ble_eq_true rfl), (Nat.le_of_ble_eq_true rfl)⟩) hP hD hS hA [] [0, 1, 2, 3, 4, 5, 6, 7, 8] rfl rfl rfl (by decide) (w2 := fun u1 => [(h0, .inr (9, [.ref h1, .ref h7, .ref h2, v0, .ref h6, v1, v2, v3, v4])), (h1, .inr (5, [.ref h3, .int (nI 0)])), (h2, .inr (3, [.ref h4, v5, v6, .int (nI 0), .int (nI 0), v7, v8, v9])), (h3, .inl (K 0, 200, .inr (.inr (.inr (.inr f0))))), (h4, .inr (5, [.ref h5, .int (nI 0)])), (h5, .inl (K 0, 200, .inr (.inr (.inr (.inr f1))))), (h6, .inr (1, [v10, v11, .int (nI 0)])), (h7, .inr (4, [v12, .ref h8, v13, .int (nI 1)])), (h8, .inl (K 0, 32, .inr (.inr (.inr (.inr f2)))))]) (fun _ => rfl) (fun u1 H locs hP hD hS => ?_)
  refine lv_icmp_lt (tgt := 27) hx hb dX9_make_18 (by decide) (fun c9 => absurd c9 (by decide +kernel)) (fun _ => ?_)
  refine lv_iload_n hx hb dX9_make_21 rfl (lv_at hl 3 rfl) ?_
  refine lv_bipush (v := nI 20) hx hb dX9_make_22 (by decide +kernel) ?_
  refine lv_icmp_le (tgt := 37) hx hb dX9_make_24 (by decide) (fun _ => ?_) (fun c9 => absurd (by decide +kernel) c9)
  refine lv_aload_n hx hb dX9_make_37 rfl (lv_at hl 0 rfl) ?_
  refine r_get hx hb hts ok_RX9 hown hK hP 0 rfl rfl 0 (by decide) w_258 (fun _ h9 => h9) rfl dX9_make_38 ?_
  refine k_i (wr := [(h0, .inr (9, [.ref h1, .ref h7, .ref h2, v0, .ref h6, v1, v2, v3, v4])), (h2, .inr (3, [.ref h4, v5, v6, .int (nI 0), .int (nI 0), v7, v8, v9])), (h3, .inl (K 0, 200, .inr (.inr (.inr (.inr f0))))), (h4, .inr (5, [.ref h5, .int (nI 0)])), (h5, .inl (K 0, 200, .inr (.inr (.inr (.inr f1))))), (h6, .inr (1, [v10, v11, .int (nI 0)])), (h7, .inr (4, [v12, .ref h8, v13, .int (nI 1)])), (h8, .inl (K 0, 32, .inr (.inr (.inr (.inr f2)))))]) (run_V (rest := []) hx hb hml hown hts hK hP hD hS hA hm (C89_size l G D K H.size h1 (.ref h3)) [1] rfl rfl mok_yX5_size w_574 w_295 w_296 (rcv hK hP 1 rfl rfl rfl) ⟨Nat.le_of_ble_eq_true rfl, Nat.le_of_ble_eq_true rfl⟩ rfl hl.1 rfl (Nat.le_of_ble_eq_true rfl) dX9_make_41 ⟨(Nat.le_of_ble_eq_true rfl), (Nat.le_of_ble_eq_true rfl)⟩) hP hD hS hA [1] [0, 2, 3, 4, 5, 6, 7, 8] rfl rfl rfl (by decide) (w2 := fun u2 => [(h0, .inr (9, [.ref h1, .ref h7, .ref h2, v0, .ref h6, v1, v2, v3, v4])), (h2, .inr (3, [.ref h4, v5, v6, .int (nI 0), .int (nI 0), v7, v8, v9])), (h3, .inl (K 0, 200, .inr (.inr (.inr (.inr f0))))), (h4, .inr (5, [.ref h5, .int (nI 0)])), (h5, .inl (K 0, 200, .inr (.inr (.inr (.inr f1))))), (h6, .inr (1, [v10, v11, .int (nI 0)])), (h7, .inr (4, [v12, .ref h8, v13, .int (nI 1)])), (h8, .inl (K 0, 32, .inr (.inr (.inr (.inr f2))))), (h1, .inr (5, [.ref h3, .int (nI 0)]))]) (fun _ => rfl) (fun u2 H locs hP hD hS => ?_)
  refine lv_sipush (v := nI 200) hx hb dX9_make_44 (by decide +kernel) ?_
  refine lv_icmp_lt (tgt := 60) hx hb dX9_make_47 (by decide) (fun _ => ?_) (fun c9 => absurd (by decide +kernel) c9)
  refine lv_aload_n hx hb dX9_make_60 rfl (lv_at hl 0 rfl) ?_
  refine r_get hx hb hts ok_RX9 hown hK hP 0 rfl rfl 2 (by decide) w_260 (fun _ h9 => h9) rfl dX9_make_61 ?_
  refine lv_iload_n hx hb dX9_make_64 rfl (lv_at hl 3 rfl) ?_
  refine k_i (wr := [(h0, .inr (9, [.ref h1, .ref h7, .ref h2, v0, .ref h6, v1, v2, v3, v4])), (h3, .inl (K 0, 200, .inr (.inr (.inr (.inr f0))))), (h4, .inr (5, [.ref h5, .int (nI 0)])), (h5, .inl (K 0, 200, .inr (.inr (.inr (.inr f1))))), (h6, .inr (1, [v10, v11, .int (nI 0)])), (h7, .inr (4, [v12, .ref h8, v13, .int (nI 1)])), (h8, .inl (K 0, 32, .inr (.inr (.inr (.inr f2))))), (h1, .inr (5, [.ref h3, .int (nI 0)]))]) (run_V (rest := []) hx hb hml hown hts hK hP hD hS hA hm (C90_gapFor l G D K H.size h2 (.ref h4) (v5) (v6) (v7) (v8) (v9)) [1] rfl rfl mok_yX3_gapFor w_734 w_735 w_736 (rcv hK hP 1 rfl rfl rfl) ⟨Nat.le_of_ble_eq_true rfl, Nat.le_of_ble_eq_true rfl⟩ rfl hl.1 rfl (Nat.le_of_ble_eq_true rfl) dX9_make_65 ⟨(Nat.le_of_ble_eq_true rfl), (Nat.le_of_ble_eq_true rfl)⟩) hP hD hS hA [1] [0, 2, 3, 4, 5, 6, 7, 8] rfl rfl rfl (by decide) (w2 := fun u3 => [(h0, .inr (9, [.ref h1, .ref h7, .ref h2, v0, .ref h6, v1, v2, v3, v4])), (h3, .inl (K 0, 200, .inr (.inr (.inr (.inr f0))))), (h4, .inr (5, [.ref h5, .int (nI 0)])), (h5, .inl (K 0, 200, .inr (.inr (.inr (.inr f1))))), (h6, .inr (1, [v10, v11, .int (nI 0)])), (h7, .inr (4, [v12, .ref h8, v13, .int (nI 1)])), (h8, .inl (K 0, 32, .inr (.inr (.inr (.inr f2))))), (h1, .inr (5, [.ref h3, .int (nI 0)])), (h2, .inr (3, [.ref h4, v5, v6, .int (nI 0), .int (nI 0), v7, v8, v9]))]) (fun _ => rfl) (fun u3 H locs hP hD hS => ?_)
  refine lv_istore (lv' := [(4, .int (nI 0)), (0, .ref h0), (1, .int (nI j0)), (2, .int (nI 0)), (3, .int (nI 0))]) hx hb dX9_make_68 hl (by decide) rfl (fun ls hl => ?_)
  refine lv_iload hx hb dX9_make_70 (lv_at hl 0 rfl) ?_
  refine lv_iconst (v := (-1)) hx hb dX9_make_72 (by decide +kernel) ?_
  refine lv_icmp_ne (tgt := 97) hx hb dX9_make_73 (by decide) (fun _ => ?_) (fun c9 => absurd c9 (by decide +kernel))
  refine lv_iload hx hb dX9_make_97 (lv_at hl 0 rfl) ?_
  refine lv_iconst (v := (-1)) hx hb dX9_make_99 (by decide +kernel) ?_
  refine lv_icmp_ne (tgt := 119) hx hb dX9_make_100 (by decide) (fun _ => ?_) (fun c9 => absurd c9 (by decide +kernel))
  refine lv_iload hx hb dX9_make_119 (lv_at hl 0 rfl) ?_
  refine lv_iconst (v := (-1)) hx hb dX9_make_121 (by decide +kernel) ?_
  refine lv_icmp_ne (tgt := 141) hx hb dX9_make_122 (by decide) (fun _ => ?_) (fun c9 => absurd c9 (by decide +kernel))
  refine lv_iload hx hb dX9_make_141 (lv_at hl 0 rfl) ?_
  refine lv_iconst (v := (-1)) hx hb dX9_make_143 (by decide +kernel) ?_
  refine lv_icmp_ne (tgt := 149) hx hb dX9_make_144 (by decide) (fun _ => ?_) (fun c9 => absurd c9 (by decide +kernel))
  refine r_new (ci := 7) (C := RX7) (T := TX7) (N := 14) hx hb hts ok_RX7 hown w_802 w_803 w_27 hK hP hD hS hA rfl df_RX7 (Nat.le_of_ble_eq_true rfl) (Nat.le_of_ble_eq_true rfl) dX9_make_149 (w2 := fun q0 => [(h0, .inr (9, [.ref h1, .ref h7, .ref h2, v0, .ref h6, v1, v2, v3, v4])), (h3, .inl (K 0, 200, .inr (.inr (.inr (.inr f0))))), (h4, .inr (5, [.ref h5, .int (nI 0)])), (h5, .inl (K 0, 200, .inr (.inr (.inr (.inr f1))))), (h6, .inr (1, [v10, v11, .int (nI 0)])), (h7, .inr (4, [v12, .ref h8, v13, .int (nI 1)])), (h8, .inl (K 0, 32, .inr (.inr (.inr (.inr f2))))), (h1, .inr (5, [.ref h3, .int (nI 0)])), (h2, .inr (3, [.ref h4, v5, v6, .int (nI 0), .int (nI 0), v7, v8, v9])), (q0, .inr (7, [.int (nI 0), .null, .int (nI 0), .int (nI 0), .int (nI 0), .int (nI 0), .int (nI 0), .int (nI 0), .int (nI 0), .int (nI 0), .int (nI 0), .int (nI 0), .int (nI 0), .int (nI 0)]))]) (fun _ => rfl) (fun q0 H hP hD hS => ?_)
  refine lv_dup hx hb dX9_make_152 rfl ?_
  refine lv_aload_n hx hb dX9_make_153 rfl (lv_at hl 1 rfl) ?_
  refine r_get hx hb hts ok_RX9 hown hK hP 0 rfl rfl 0 (by decide) w_258 (fun _ h9 => h9) rfl dX9_make_154 ?_
  refine k_i (wr := [(h0, .inr (9, [.ref h1, .ref h7, .ref h2, v0, .ref h6, v1, v2, v3, v4])), (h3, .inl (K 0, 200, .inr (.inr (.inr (.inr f0))))), (h4, .inr (5, [.ref h5, .int (nI 0)])), (h5, .inl (K 0, 200, .inr (.inr (.inr (.inr f1))))), (h6, .inr (1, [v10, v11, .int (nI 0)])), (h7, .inr (4, [v12, .ref h8, v13, .int (nI 1)])), (h8, .inl (K 0, 32, .inr (.inr (.inr (.inr f2))))), (h2, .inr (3, [.ref h4, v5, v6, .int (nI 0), .int (nI 0), v7, v8, v9])), (q0, .inr (7, [.int (nI 0), .null, .int (nI 0), .int (nI 0), .int (nI 0), .int (nI 0), .int (nI 0), .int (nI 0), .int (nI 0), .int (nI 0), .int (nI 0), .int (nI 0), .int (nI 0), .int (nI 0)]))]) (run_V (rest := [.ref q0, .ref q0]) hx hb hml hown hts hK hP hD hS hA hm (C89_size l G D K H.size h1 (.ref h3)) [7] rfl rfl mok_yX5_size w_574 w_295 w_296 (rcv hK hP 7 rfl rfl rfl) ⟨Nat.le_of_ble_eq_true rfl, Nat.le_of_ble_eq_true rfl⟩ rfl hl.1 rfl (Nat.le_of_ble_eq_true rfl) dX9_make_157 ⟨(Nat.le_of_ble_eq_true rfl), (Nat.le_of_ble_eq_true rfl)⟩) hP hD hS hA [7] [0, 1, 2, 3, 4, 5, 6, 8, 9] rfl rfl rfl (by decide) (w2 := fun u4 => [(h0, .inr (9, [.ref h1, .ref h7, .ref h2, v0, .ref h6, v1, v2, v3, v4])), (h3, .inl (K 0, 200, .inr (.inr (.inr (.inr f0))))), (h4, .inr (5, [.ref h5, .int (nI 0)])), (h5, .inl (K 0, 200, .inr (.inr (.inr (.inr f1))))), (h6, .inr (1, [v10, v11, .int (nI 0)])), (h7, .inr (4, [v12, .ref h8, v13, .int (nI 1)])), (h8, .inl (K 0, 32, .inr (.inr (.inr (.inr f2))))), (h2, .inr (3, [.ref h4, v5, v6, .int (nI 0), .int (nI 0), v7, v8, v9])), (q0, .inr (7, [.int (nI 0), .null, .int (nI 0), .int (nI 0), .int (nI 0), .int (nI 0), .int (nI 0), .int (nI 0), .int (nI 0), .int (nI 0), .int (nI 0), .int (nI 0), .int (nI 0), .int (nI 0)])), (h1, .inr (5, [.ref h3, .int (nI 0)]))]) (fun _ => rfl) (fun u4 H locs hP hD hS => ?_)
  refine lv_iload_n hx hb dX9_make_160 rfl (lv_at hl 3 rfl) ?_
  refine lv_iload_n hx hb dX9_make_161 rfl (lv_at hl 4 rfl) ?_
  refine k_v (wr := [(h0, .inr (9, [.ref h1, .ref h7, .ref h2, v0, .ref h6, v1, v2, v3, v4])), (h3, .inl (K 0, 200, .inr (.inr (.inr (.inr f0))))), (h4, .inr (5, [.ref h5, .int (nI 0)])), (h5, .inl (K 0, 200, .inr (.inr (.inr (.inr f1))))), (h6, .inr (1, [v10, v11, .int (nI 0)])), (h7, .inr (4, [v12, .ref h8, v13, .int (nI 1)])), (h8, .inl (K 0, 32, .inr (.inr (.inr (.inr f2))))), (h2, .inr (3, [.ref h4, v5, v6, .int (nI 0), .int (nI 0), v7, v8, v9])), (h1, .inr (5, [.ref h3, .int (nI 0)]))]) (run_I (rest := [.ref q0]) hx hb hml hown hts hK hP hD hS hA hm (C91_init l G D K H.size q0 (.int (nI 0)) (.null) (.int (nI 0)) (.int (nI 0)) (.int (nI 0)) (.int (nI 0)) (.int (nI 0)) (.int (nI 0)) (.int (nI 0)) (.int (nI 0)) (.int (nI 0)) (.int (nI 0)) (.int (nI 0)) (nI 0)) [8] rfl rfl mok_yX7_init w_804 w_805 rfl ⟨Nat.le_of_ble_eq_true rfl, Nat.le_of_ble_eq_true rfl⟩ rfl hl.1 rfl (Nat.le_of_ble_eq_true rfl) dX9_make_162 ⟨(Nat.le_of_ble_eq_true rfl), (Nat.le_of_ble_eq_true rfl)⟩) hP hD hS hA [8] [0, 1, 2, 3, 4, 5, 6, 7, 9] rfl rfl rfl (by decide) (w2 := fun u5 => [(h0, .inr (9, [.ref h1, .ref h7, .ref h2, v0, .ref h6, v1, v2, v3, v4])), (h3, .inl (K 0, 200, .inr (.inr (.inr (.inr f0))))), (h4, .inr (5, [.ref h5, .int (nI 0)])), (h5, .inl (K 0, 200, .inr (.inr (.inr (.inr f1))))), (h6, .inr (1, [v10, v11, .int (nI 0)])), (h7, .inr (4, [v12, .ref h8, v13, .int (nI 1)])), (h8, .inl (K 0, 32, .inr (.inr (.inr (.inr f2))))), (h2, .inr (3, [.ref h4, v5, v6, .int (nI 0), .int (nI 0), v7, v8, v9])), (h1, .inr (5, [.ref h3, .int (nI 0)])), (q0, .inr (7, [.int (nI 0), .ref (u5 0), .int (nI 0), .int (nI 0), .int (nI 0), .int (nI 2), .int (nI 2), .int (nI 0), .int (-1), .int (nI 0), .int (nI 0), .int (nI 0), .int (nI 0), .int (nI 0)])), ((u5 0), .inl (K 0, 0, .inr (.inr (.inr (.inr (fun _ => none))))))]) (fun _ => rfl) (fun u5 H locs hP hD hS => ?_)
  refine lv_astore (lv' := [(5, .ref q0), (4, .int (nI 0)), (0, .ref h0), (1, .int (nI j0)), (2, .int (nI 0)), (3, .int (nI 0))]) hx hb dX9_make_165 hl (by decide) rfl (fun ls hl => ?_)
  refine lv_aload_n hx hb dX9_make_167 rfl (lv_at hl 2 rfl) ?_
  refine r_get hx hb hts ok_RX9 hown hK hP 0 rfl rfl 0 (by decide) w_258 (fun _ h9 => h9) rfl dX9_make_168 ?_
  refine lv_aload hx hb dX9_make_171 (lv_at hl 0 rfl) ?_
  refine k_v (wr := [(h0, .inr (9, [.ref h1, .ref h7, .ref h2, v0, .ref h6, v1, v2, v3, v4])), (h4, .inr (5, [.ref h5, .int (nI 0)])), (h5, .inl (K 0, 200, .inr (.inr (.inr (.inr f1))))), (h6, .inr (1, [v10, v11, .int (nI 0)])), (h7, .inr (4, [v12, .ref h8, v13, .int (nI 1)])), (h8, .inl (K 0, 32, .inr (.inr (.inr (.inr f2))))), (h2, .inr (3, [.ref h4, v5, v6, .int (nI 0), .int (nI 0), v7, v8, v9])), ((u5 0), .inl (K 0, 0, .inr (.inr (.inr (.inr (fun _ => none))))))]) (run_V (rest := []) hx hb hml hown hts hK hP hD hS hA hm (C92_add l G D K H.size h1 h3 q0 (.int (nI 0)) (.ref (u5 0)) (.int (nI 0)) (.int (nI 0)) (.int (nI 0)) (.int (nI 2)) (.int (nI 2)) (.int (nI 0)) (.int (-1)) (.int (nI 0)) (.int (nI 0)) (.int (nI 0)) (.int (nI 0)) (.int (nI 0)) f0) [8, 1, 9] rfl rfl mok_yX5_add w_890 w_333 w_334 (rcv hK hP 8 rfl rfl rfl) ⟨Nat.le_of_ble_eq_true rfl, Nat.le_of_ble_eq_true rfl⟩ rfl hl.1 rfl (Nat.le_of_ble_eq_true rfl) dX9_make_173 ⟨(Nat.le_of_ble_eq_true rfl), (Nat.le_of_ble_eq_true rfl)⟩) hP hD hS hA [8, 1, 9] [0, 2, 3, 4, 5, 6, 7, 10] rfl rfl rfl (by decide) (w2 := fun u6 => [(h0, .inr (9, [.ref h1, .ref h7, .ref h2, v0, .ref h6, v1, v2, v3, v4])), (h4, .inr (5, [.ref h5, .int (nI 0)])), (h5, .inl (K 0, 200, .inr (.inr (.inr (.inr f1))))), (h6, .inr (1, [v10, v11, .int (nI 0)])), (h7, .inr (4, [v12, .ref h8, v13, .int (nI 1)])), (h8, .inl (K 0, 32, .inr (.inr (.inr (.inr f2))))), (h2, .inr (3, [.ref h4, v5, v6, .int (nI 0), .int (nI 0), v7, v8, v9])), ((u5 0), .inl (K 0, 0, .inr (.inr (.inr (.inr (fun _ => none)))))), (h1, .inr (5, [.ref h3, .int (nI 1)])), (h3, .inl (K 0, 200, .inr (.inr (.inr (.inr (va_up f0 0 (some q0))))))), (q0, .inr (7, [.int (nI 0), .ref (u5 0), .int (nI 0), .int (nI 0), .int (nI 0), .int (nI 2), .int (nI 2), .int (nI 0), .int (-1), .int (nI 0), .int (nI 0), .int (nI 0), .int (nI 0), .int (nI 0)]))]) (fun _ => rfl) (fun u6 H locs hP hD hS => ?_)
  refine lv_aload_n hx hb dX9_make_176 rfl (lv_at hl 2 rfl) ?_
  refine r_get hx hb hts ok_RX9 hown hK hP 0 rfl rfl 2 (by decide) w_260 (fun _ h9 => h9) rfl dX9_make_177 ?_
  refine lv_aload hx hb dX9_make_180 (lv_at hl 0 rfl) ?_
  refine lv_iload hx hb dX9_make_182 (lv_at hl 1 rfl) ?_
  refine k_v (wr := [(h0, .inr (9, [.ref h1, .ref h7, .ref h2, v0, .ref h6, v1, v2, v3, v4])), (h6, .inr (1, [v10, v11, .int (nI 0)])), (h7, .inr (4, [v12, .ref h8, v13, .int (nI 1)])), (h8, .inl (K 0, 32, .inr (.inr (.inr (.inr f2))))), (h1, .inr (5, [.ref h3, .int (nI 1)])), (h3, .inl (K 0, 200, .inr (.inr (.inr (.inr (va_up f0 0 (some q0)))))))]) (run_V (rest := []) hx hb hml hown hts hK hP hD hS hA hm (C95_lay l G D K H.size q0 (u5 0) h2 h4 h5 (.int (nI 0)) (.int (nI 0)) (.int (nI 0)) (.int (nI 0)) (.int (-1)) (.int (nI 0)) (.int (nI 0)) (.int (nI 0)) (.int (nI 0)) (.int (nI 0)) (v5) (v6) (.int (nI 0)) (.int (nI 0)) (v7) (v8) (v9) (fun _ => none) f1) [10, 7, 6, 1, 2] rfl rfl mok_yX3_lay w_891 w_892 w_893 (rcv hK hP 6 rfl rfl rfl) ⟨Nat.le_of_ble_eq_true rfl, Nat.le_of_ble_eq_true rfl⟩ rfl hl.1 rfl (Nat.le_of_ble_eq_true rfl) dX9_make_184 ⟨(Nat.le_of_ble_eq_true rfl), (Nat.le_of_ble_eq_true rfl)⟩) hP hD hS hA [10, 7, 6, 1, 2] [0, 3, 4, 5, 8, 9] rfl rfl rfl (by decide) (w2 := fun u7 => [(h0, .inr (9, [.ref h1, .ref h7, .ref h2, v0, .ref h6, v1, v2, v3, v4])), (h6, .inr (1, [v10, v11, .int (nI 0)])), (h7, .inr (4, [v12, .ref h8, v13, .int (nI 1)])), (h8, .inl (K 0, 32, .inr (.inr (.inr (.inr f2))))), (h1, .inr (5, [.ref h3, .int (nI 1)])), (h3, .inl (K 0, 200, .inr (.inr (.inr (.inr (va_up f0 0 (some q0))))))), ((u5 0), .inl (K 0, 0, .inr (.inr (.inr (.inr (fun _ => none)))))), (h2, .inr (3, [.ref h4, v5, v6, .int (nI 0), .int (nI 2), v7, v8, v9])), (h4, .inr (5, [.ref h5, .int (nI 1)])), (h5, .inl (K 0, 200, .inr (.inr (.inr (.inr (va_up f1 0 (some q0))))))), (q0, .inr (7, [.int (nI 0), .ref (u5 0), .int (nI 0), .int (nI 1), .int (nI 0), .int (nI 2), .int (nI 2), .int (nI 0), .int (-1), .int (nI 0), .int (nI 0), .int (nI 0), .int (nI 0), .int (nI 0)]))]) (fun _ => rfl) (fun u7 H locs hP hD hS => ?_)
  refine lv_aload_n hx hb dX9_make_187 rfl (lv_at hl 2 rfl) ?_
  refine r_get hx hb hts ok_RX9 hown hK hP 0 rfl rfl 4 (by decide) w_262 (fun _ h9 => h9) rfl dX9_make_188 ?_
  refine lv_aload hx hb dX9_make_191 (lv_at hl 0 rfl) ?_
  refine k_v (wr := [(h0, .inr (9, [.ref h1, .ref h7, .ref h2, v0, .ref h6, v1, v2, v3, v4])), (h7, .inr (4, [v12, .ref h8, v13, .int (nI 1)])), (h8, .inl (K 0, 32, .inr (.inr (.inr (.inr f2))))), (h1, .inr (5, [.ref h3, .int (nI 1)])), (h3, .inl (K 0, 200, .inr (.inr (.inr (.inr (va_up f0 0 (some q0))))))), ((u5 0), .inl (K 0, 0, .inr (.inr (.inr (.inr (fun _ => none)))))), (h2, .inr (3, [.ref h4, v5, v6, .int (nI 0), .int (nI 2), v7, v8, v9])), (h4, .inr (5, [.ref h5, .int (nI 1)])), (h5, .inl (K 0, 200, .inr (.inr (.inr (.inr (va_up f1 0 (some q0))))))), (q0, .inr (7, [.int (nI 0), .ref (u5 0), .int (nI 0), .int (nI 1), .int (nI 0), .int (nI 2), .int (nI 2), .int (nI 0), .int (-1), .int (nI 0), .int (nI 0), .int (nI 0), .int (nI 0), .int (nI 0)]))]) (run_V (rest := []) hx hb hml hown hts hK hP hD hS hA hm (C96_noteMade l G D K H.size h6 q0 (v10) (v11)) [1] rfl rfl mok_yX1_noteMade w_899 w_900 w_901 (rcv hK hP 1 rfl rfl rfl) ⟨Nat.le_of_ble_eq_true rfl, Nat.le_of_ble_eq_true rfl⟩ rfl hl.1 rfl (Nat.le_of_ble_eq_true rfl) dX9_make_193 ⟨(Nat.le_of_ble_eq_true rfl), (Nat.le_of_ble_eq_true rfl)⟩) hP hD hS hA [1] [0, 2, 3, 4, 5, 6, 7, 8, 9, 10] rfl rfl rfl (by decide) (w2 := fun u8 => [(h0, .inr (9, [.ref h1, .ref h7, .ref h2, v0, .ref h6, v1, v2, v3, v4])), (h7, .inr (4, [v12, .ref h8, v13, .int (nI 1)])), (h8, .inl (K 0, 32, .inr (.inr (.inr (.inr f2))))), (h1, .inr (5, [.ref h3, .int (nI 1)])), (h3, .inl (K 0, 200, .inr (.inr (.inr (.inr (va_up f0 0 (some q0))))))), ((u5 0), .inl (K 0, 0, .inr (.inr (.inr (.inr (fun _ => none)))))), (h2, .inr (3, [.ref h4, v5, v6, .int (nI 0), .int (nI 2), v7, v8, v9])), (h4, .inr (5, [.ref h5, .int (nI 1)])), (h5, .inl (K 0, 200, .inr (.inr (.inr (.inr (va_up f1 0 (some q0))))))), (q0, .inr (7, [.int (nI 0), .ref (u5 0), .int (nI 0), .int (nI 1), .int (nI 0), .int (nI 2), .int (nI 2), .int (nI 0), .int (-1), .int (nI 0), .int (nI 0), .int (nI 0), .int (nI 0), .int (nI 0)])), (h6, .inr (1, [v10, v11, .int (nI 0)]))]) (fun _ => rfl) (fun u8 H locs hP hD hS => ?_)
  refine lv_aload_n hx hb dX9_make_196 rfl (lv_at hl 2 rfl) ?_
  refine r_get hx hb hts ok_RX9 hown hK hP 0 rfl rfl 1 (by decide) w_259 (fun _ h9 => h9) rfl dX9_make_197 ?_
  refine lv_iload_n hx hb dX9_make_200 rfl (lv_at hl 3 rfl) ?_
  refine lv_aload hx hb dX9_make_201 (lv_at hl 0 rfl) ?_
  refine k_v (wr := [(h0, .inr (9, [.ref h1, .ref h7, .ref h2, v0, .ref h6, v1, v2, v3, v4])), (h1, .inr (5, [.ref h3, .int (nI 1)])), (h3, .inl (K 0, 200, .inr (.inr (.inr (.inr (va_up f0 0 (some q0))))))), ((u5 0), .inl (K 0, 0, .inr (.inr (.inr (.inr (fun _ => none)))))), (h2, .inr (3, [.ref h4, v5, v6, .int (nI 0), .int (nI 2), v7, v8, v9])), (h4, .inr (5, [.ref h5, .int (nI 1)])), (h5, .inl (K 0, 200, .inr (.inr (.inr (.inr (va_up f1 0 (some q0))))))), (h6, .inr (1, [v10, v11, .int (nI 0)]))]) (run_V (rest := []) hx hb hml hown hts hK hP hD hS hA hm (C98_writeSlot l G D K H.size h7 h8 q0 (v12) (v13) (.int (nI 0)) (.ref (u5 0)) (.int (nI 0)) (.int (nI 1)) (.int (nI 0)) (.int (nI 2)) (.int (nI 2)) (.int (nI 0)) (.int (-1)) (.int (nI 0)) (.int (nI 0)) (.int (nI 0)) (.int (nI 0)) (.int (nI 0)) f2 j0 (by omega) (by omega)) [1, 2, 9] rfl rfl mok_yX4_writeSlot w_903 w_783 w_784 (rcv hK hP 1 rfl rfl rfl) ⟨Nat.le_of_ble_eq_true rfl, Nat.le_of_ble_eq_true rfl⟩ rfl hl.1 rfl (Nat.le_of_ble_eq_true rfl) dX9_make_203 ⟨(Nat.le_of_ble_eq_true rfl), (Nat.le_of_ble_eq_true rfl)⟩) hP hD hS hA [1, 2, 9] [0, 3, 4, 5, 6, 7, 8, 10] rfl rfl rfl (by decide) (w2 := fun u9 => [(h0, .inr (9, [.ref h1, .ref h7, .ref h2, v0, .ref h6, v1, v2, v3, v4])), (h1, .inr (5, [.ref h3, .int (nI 1)])), (h3, .inl (K 0, 200, .inr (.inr (.inr (.inr (va_up f0 0 (some q0))))))), ((u5 0), .inl (K 0, 0, .inr (.inr (.inr (.inr (fun _ => none)))))), (h2, .inr (3, [.ref h4, v5, v6, .int (nI 0), .int (nI 2), v7, v8, v9])), (h4, .inr (5, [.ref h5, .int (nI 1)])), (h5, .inl (K 0, 200, .inr (.inr (.inr (.inr (va_up f1 0 (some q0))))))), (h6, .inr (1, [v10, v11, .int (nI 0)])), (h8, .inl (K 0, 32, .inr (.inr (.inr (.inr (va_up f2 (0 + j0) (some q0))))))), (q0, .inr (7, [.int (nI 0), .ref (u5 0), .int (nI 0), .int (nI 1), .int (nI 0), .int (nI 2), .int (nI 2), .int (nI 0), .int (-1), .int (nI 0), .int (nI 0), .int (nI 0), .int (nI 0), .int (nI 0)])), (h7, .inr (4, [v12, .ref h8, v13, .int (nI 1)]))]) (fun _ => rfl) (fun u9 H locs hP hD hS => ?_)
  refine lv_aload hx hb dX9_make_206 (lv_at hl 0 rfl) ?_
  refine r_get hx hb hts ok_RX7 hown hK hP 9 rfl rfl 0 (by decide) w_810 (fun _ h9 => h9) rfl dX9_make_208 ?_
  exact e_i hx hb hr hlk hP hD hS (fun k => match k with | 0 => q0 | 1 => (u5 0) | _ => 0) rfl (Nat.le_of_ble_eq_true rfl) (Nat.le_of_ble_eq_true rfl) rfl dX9_make_211
set_option maxHeartbeats 4000000 in
set_option maxRecDepth 100000 in
theorem C100_isIn (l : Launch) (G : Nat → Nat) (D : va_G) (K : Nat → ClassId) (sz : Nat) : CM l yX12_isIn cX12_isIn 3 (some FieldType.boolean) ({ frames := 0, cells := 0, slots := 0, locals := 0 } : Room) G D K [.int (nI 0), .int (nI 0), .int (nI 20)] [] sz (CQi (nI 1) D (fun _ => [])) := by
  refine CM_of (lv0 := [(0, .int (nI 0)), (1, .int (nI 0)), (2, .int (nI 20))]) pn_RX12 (Nat.le_of_ble_eq_true rfl) rfl (fun p e s m args below meth c A ls hx hb hr hml hown hts hlk hnm hP hK hD hS hA hm hl => ?_)
  have hown : s.vm.findClass RX12 = some m.cls := hown
  refine lv_iload_n hx hb dX12_isIn_0 rfl (lv_at hl 0 rfl) ?_
  refine lv_iload_n hx hb dX12_isIn_1 rfl (lv_at hl 1 rfl) ?_
  refine lv_icmp_lt (tgt := 14) hx hb dX12_isIn_2 (by decide) (fun c9 => absurd c9 (by decide +kernel)) (fun _ => ?_)
  refine lv_iload_n hx hb dX12_isIn_5 rfl (lv_at hl 0 rfl) ?_
  refine lv_iload_n hx hb dX12_isIn_6 rfl (lv_at hl 2 rfl) ?_
  refine lv_icmp_gt (tgt := 14) hx hb dX12_isIn_7 (by decide) (fun c9 => absurd c9 (by decide +kernel)) (fun _ => ?_)
  refine lv_iconst (v := nI 1) hx hb dX12_isIn_10 (by decide +kernel) ?_
  refine lv_goto (tgt := 15) hx hb dX12_isIn_11 (by decide) ?_
  exact e_z hx hb hr hlk hP hD hS (fun _ => 0) rfl (Nat.le_of_ble_eq_true rfl) (Nat.le_of_ble_eq_true rfl) rfl (Or.inr rfl) dX12_isIn_15
set_option maxHeartbeats 4000000 in
set_option maxRecDepth 100000 in
theorem C101_refuse (l : Launch) (G : Nat → Nat) (D : va_G) (K : Nat → ClassId) (sz : Nat) (h0 : Nat) (v0 : Value) : CM l yX12_refuse cX12_refuse 3 (some FieldType.boolean) ({ frames := 0, cells := 0, slots := 0, locals := 0 } : Room) G D K [.ref h0, .int (nI 0), .int (nI 2)] [(h0, .inr (12, [.int (nI 0), v0]))] sz (CQi (nI 0) D (fun _ => [(h0, .inr (12, [.int (nI 0), v0]))])) := by
  refine CM_of (lv0 := [(0, .ref h0), (1, .int (nI 0)), (2, .int (nI 2))]) pn_RX12 (Nat.le_of_ble_eq_true rfl) rfl (fun p e s m args below meth c A ls hx hb hr hml hown hts hlk hnm hP hK hD hS hA hm hl => ?_)
  have hown : s.vm.findClass RX12 = some m.cls := hown
  refine lv_iload_n hx hb dX12_refuse_0 rfl (lv_at hl 1 rfl) ?_
  refine lv_if_eq (tgt := 16) hx hb dX12_refuse_1 (by decide) (fun _ => ?_) (fun c9 => absurd (by decide +kernel) c9)
  refine lv_aload_n hx hb dX12_refuse_16 rfl (lv_at hl 0 rfl) ?_
  refine r_get hx hb hts ok_RX12 hown hK hP 0 rfl rfl 0 (by decide) w_1293 (fun _ h9 => h9) rfl dX12_refuse_17 ?_
  refine lv_if_le (tgt := 27) hx hb dX12_refuse_20 (by decide) (fun _ => ?_) (fun c9 => absurd (by decide +kernel) c9)
  refine lv_iconst (v := nI 0) hx hb dX12_refuse_27 (by decide +kernel) ?_
  exact e_z hx hb hr hlk hP hD hS (fun _ => 0) rfl (Nat.le_of_ble_eq_true rfl) (Nat.le_of_ble_eq_true rfl) rfl (Or.inl rfl) dX12_refuse_28
set_option maxHeartbeats 4000000 in
set_option maxRecDepth 100000 in
theorem C102_size (l : Launch) (G : Nat → Nat) (D : va_G) (K : Nat → ClassId) (sz : Nat) (h0 : Nat) (v0 v1 : Value) : CM l yJx4a65c_size_8abf5 cJx4a65c_size_8abf5 1 (some FieldType.int) ({ frames := 0, cells := 0, slots := 0, locals := 0 } : Room) G D K [.ref h0] [(h0, .inr (13, [v0, v1, .int (nI 0)]))] sz (CQi (nI 0) D (fun _ => [(h0, .inr (13, [v0, v1, .int (nI 0)]))])) := by
  refine CM_of (lv0 := [(0, .ref h0)]) pn_RJx4a65c (Nat.le_of_ble_eq_true rfl) rfl (fun p e s m args below meth c A ls hx hb hr hml hown hts hlk hnm hP hK hD hS hA hm hl => ?_)
  have hown : s.vm.findClass RJx4a65c = some m.cls := hown
  refine lv_aload_n hx hb dJx4a65c_size_8abf5_0 rfl (lv_at hl 0 rfl) ?_
  refine r_get hx hb hts ok_RJx4a65c hown hK hP 0 rfl rfl 2 (by decide) w_1145 (fun _ h9 => h9) rfl dJx4a65c_size_8abf5_1 ?_
  exact e_i hx hb hr hlk hP hD hS (fun _ => 0) rfl (Nat.le_of_ble_eq_true rfl) (Nat.le_of_ble_eq_true rfl) rfl dJx4a65c_size_8abf5_4
set_option maxHeartbeats 4000000 in
set_option maxRecDepth 100000 in
theorem C103_refuse (l : Launch) (G : Nat → Nat) (D : va_G) (K : Nat → ClassId) (sz : Nat) (h0 : Nat) (v0 : Value) : CM l yX12_refuse cX12_refuse 3 (some FieldType.boolean) ({ frames := 0, cells := 0, slots := 0, locals := 0 } : Room) G D K [.ref h0, .int (nI 0), .int (nI 3)] [(h0, .inr (12, [.int (nI 0), v0]))] sz (CQi (nI 0) D (fun _ => [(h0, .inr (12, [.int (nI 0), v0]))])) := by
  refine CM_of (lv0 := [(0, .ref h0), (1, .int (nI 0)), (2, .int (nI 3))]) pn_RX12 (Nat.le_of_ble_eq_true rfl) rfl (fun p e s m args below meth c A ls hx hb hr hml hown hts hlk hnm hP hK hD hS hA hm hl => ?_)
  have hown : s.vm.findClass RX12 = some m.cls := hown
  refine lv_iload_n hx hb dX12_refuse_0 rfl (lv_at hl 1 rfl) ?_
  refine lv_if_eq (tgt := 16) hx hb dX12_refuse_1 (by decide) (fun _ => ?_) (fun c9 => absurd (by decide +kernel) c9)
  refine lv_aload_n hx hb dX12_refuse_16 rfl (lv_at hl 0 rfl) ?_
  refine r_get hx hb hts ok_RX12 hown hK hP 0 rfl rfl 0 (by decide) w_1293 (fun _ h9 => h9) rfl dX12_refuse_17 ?_
  refine lv_if_le (tgt := 27) hx hb dX12_refuse_20 (by decide) (fun _ => ?_) (fun c9 => absurd (by decide +kernel) c9)
  refine lv_iconst (v := nI 0) hx hb dX12_refuse_27 (by decide +kernel) ?_
  exact e_z hx hb hr hlk hP hD hS (fun _ => 0) rfl (Nat.le_of_ble_eq_true rfl) (Nat.le_of_ble_eq_true rfl) rfl (Or.inl rfl) dX12_refuse_28
set_option maxHeartbeats 4000000 in
set_option maxRecDepth 100000 in
theorem C104_addressFor (l : Launch) (G : Nat → Nat) (D : va_G) (K : Nat → ClassId) (sz : Nat) (h0 : Nat) (v0 v1 v2 v3 v4 v5 v6 v7 v8 v9 v10 v11 v12 v13 v14 : Value) : CM l yX10_addressFor cX10_addressFor 3 (some FieldType.int) ({ frames := 0, cells := 0, slots := 0, locals := 0 } : Room) G D K [.ref h0, .int (nI 0)] [(h0, .inr (10, [v0, v1, v2, v3, v4, .int (nI 0), .int (nI 0), v5, v6, v7, v8, v9, v10, v11, v12, v13, v14]))] sz (CQi (nI 0) D (fun _ => [(h0, .inr (10, [v0, v1, v2, v3, v4, .int (nI 0), .int (nI 0), v5, v6, v7, v8, v9, v10, v11, v12, v13, v14]))])) := by
  refine CM_of (lv0 := [(0, .ref h0), (1, .int (nI 0))]) pn_RX10 (Nat.le_of_ble_eq_true rfl) rfl (fun p e s m args below meth c A ls hx hb hr hml hown hts hlk hnm hP hK hD hS hA hm hl => ?_)
  have hown : s.vm.findClass RX10 = some m.cls := hown
  refine lv_iconst (v := nI 2) hx hb dX10_addressFor_0 (by decide +kernel) ?_
  refine lv_iload_n hx hb dX10_addressFor_1 rfl (lv_at hl 1 rfl) ?_
  refine lv_iadd hx hb dX10_addressFor_2 ?_
  refine w_toeq (show (nI 2) + (nI 0) = nI 2 by decide +kernel) ?_
  refine lv_istore_n (lv' := [(2, .int (nI 2)), (0, .ref h0), (1, .int (nI 0))]) hx hb dX10_addressFor_3 rfl hl (by decide) rfl (fun ls hl => ?_)
  refine lv_iload_n hx hb dX10_addressFor_4 rfl (lv_at hl 2 rfl) ?_
  refine lv_bipush (v := nI 12) hx hb dX10_addressFor_5 (by decide +kernel) ?_
  refine lv_icmp_lt (tgt := 16) hx hb dX10_addressFor_7 (by decide) (fun _ => ?_) (fun c9 => absurd (by decide +kernel) c9)
  refine lv_aload_n hx hb dX10_addressFor_16 rfl (lv_at hl 1 rfl) ?_
  refine r_get hx hb hts ok_RX10 hown hK hP 0 rfl rfl 6 (by decide) w_1236 (fun _ h9 => h9) rfl dX10_addressFor_17 ?_
  refine lv_iload_n hx hb dX10_addressFor_20 rfl (lv_at hl 0 rfl) ?_
  refine lv_iadd hx hb dX10_addressFor_21 ?_
  refine w_toeq (show (nI 0) + (nI 2) = nI 2 by decide +kernel) ?_
  refine lv_bipush (v := nI 40) hx hb dX10_addressFor_22 (by decide +kernel) ?_
  refine lv_icmp_gt (tgt := 39) hx hb dX10_addressFor_24 (by decide) (fun c9 => absurd c9 (by decide +kernel)) (fun _ => ?_)
  refine lv_aload_n hx hb dX10_addressFor_27 rfl (lv_at hl 1 rfl) ?_
  refine r_get hx hb hts ok_RX10 hown hK hP 0 rfl rfl 5 (by decide) w_1234 (fun _ h9 => h9) rfl dX10_addressFor_28 ?_
  refine lv_aload_n hx hb dX10_addressFor_31 rfl (lv_at hl 1 rfl) ?_
  refine r_get hx hb hts ok_RX10 hown hK hP 0 rfl rfl 6 (by decide) w_1236 (fun _ h9 => h9) rfl dX10_addressFor_32 ?_
  refine lv_iadd hx hb dX10_addressFor_35 ?_
  refine w_toeq (show (nI 0) + (nI 0) = nI 0 by decide +kernel) ?_
  refine lv_goto (tgt := 40) hx hb dX10_addressFor_36 (by decide) ?_
  exact e_i hx hb hr hlk hP hD hS (fun _ => 0) rfl (Nat.le_of_ble_eq_true rfl) (Nat.le_of_ble_eq_true rfl) rfl dX10_addressFor_40
set_option maxHeartbeats 4000000 in
set_option maxRecDepth 100000 in
theorem C105_init (l : Launch) (G : Nat → Nat) (D : va_G) (K : Nat → ClassId) (sz : Nat) (h0 : Nat) (v0 v1 v2 v3 v4 v5 v6 v7 v8 v9 v10 : Value) (o0 : Int32) : CM l yX11_init cX11_init 5 (none : Option FieldType) ({ frames := 1, cells := 1, slots := 0, locals := 20 } : Room) G D K [.ref h0, .int (nI 0), .int o0, .int (nI 0)] [(h0, .inr (11, [v0, v1, v2, v3, v4, v5, v6, v7, v8, v9, v10]))] sz (CQv D (fun u => [(h0, .inr (11, [.int (nI 0), .ref (u 0), .int o0, v3, v4, v5, .int (-1), v7, v8, v9, v10])), ((u 0), .inl (K 2, 0, .inl (fun _ => nI 0)))])) := by
  refine CM_of (lv0 := [(0, .ref h0), (1, .int (nI 0)), (2, .int o0), (3, .int (nI 0))]) pn_RX11 (Nat.le_of_ble_eq_true rfl) rfl (fun p e s m args below meth c A ls hx hb hr hml hown hts hlk hnm hP hK hD hS hA hm hl => ?_)
  have hown : s.vm.findClass RX11 = some m.cls := hown
  refine lv_aload_n hx hb dX11_init_0 rfl (lv_at hl 0 rfl) ?_
  refine r_oinit hx hb hts hown w_1827 w_44 w_45 hml hl.1 dX11_init_1 (Nat.le_of_ble_eq_true rfl) (Nat.le_of_ble_eq_true rfl) ?_
  refine lv_aload_n hx hb dX11_init_4 rfl (lv_at hl 0 rfl) ?_
  refine lv_iconst (v := (-1)) hx hb dX11_init_5 (by decide +kernel) ?_
  refine r_put hx hb hts ok_RX11 hown hK hP hD hS 0 rfl rfl 6 (by decide) w_1846 (fun _ h9 => h9) rfl (v := .int (-1)) rfl rfl (Nat.le_of_ble_eq_true rfl) dX11_init_6 (ws' := [(h0, .inr (11, [v0, v1, v2, v3, v4, v5, .int (-1), v7, v8, v9, v10]))]) rfl (fun H locs hP hD hS => ?_)
  refine lv_aload_n hx hb dX11_init_9 rfl (lv_at hl 0 rfl) ?_
  refine lv_iload_n hx hb dX11_init_10 rfl (lv_at hl 1 rfl) ?_
  refine r_putF hx hb hts ok_RX11 hown hK hP hD hS 0 rfl rfl 0 (by decide) w_1828 (fun _ h9 => h9) rfl hnm rfl (v := .int (nI 0)) rfl rfl (Nat.le_of_ble_eq_true rfl) dX11_init_11 (ws' := [(h0, .inr (11, [.int (nI 0), v1, v2, v3, v4, v5, .int (-1), v7, v8, v9, v10]))]) rfl (fun H locs hP hD hS => ?_)
  refine lv_aload_n hx hb dX11_init_14 rfl (lv_at hl 0 rfl) ?_
  refine lv_iload_n hx hb dX11_init_15 rfl (lv_at hl 2 rfl) ?_
  refine r_put hx hb hts ok_RX11 hown hK hP hD hS 0 rfl rfl 2 (by decide) w_1834 (fun _ h9 => h9) rfl (v := .int o0) rfl rfl (Nat.le_of_ble_eq_true rfl) dX11_init_16 (ws' := [(h0, .inr (11, [.int (nI 0), v1, .int o0, v3, v4, v5, .int (-1), v7, v8, v9, v10]))]) rfl (fun H locs hP hD hS => ?_)
  refine lv_aload_n hx hb dX11_init_19 rfl (lv_at hl 0 rfl) ?_
  refine lv_iload_n hx hb dX11_init_20 rfl (lv_at hl 3 rfl) ?_
  refine r_newa (atype := .int) hx hb hts w_1292 rfl hK hP hD hS hA 2 rfl (N := 0) (a0 := (0, .inl (fun _ => nI 0))) (fun _ => rfl) (by decide +kernel) (by decide +kernel) (by decide) (Nat.le_of_ble_eq_true rfl) (Nat.le_of_ble_eq_true rfl) dX11_init_21 (w2 := fun q0 => [(h0, .inr (11, [.int (nI 0), v1, .int o0, v3, v4, v5, .int (-1), v7, v8, v9, v10])), (q0, .inl (K 2, 0, .inl (fun _ => nI 0)))]) (fun _ => rfl) (fun q0 H hP hD hS => ?_)
  refine r_putF hx hb hts ok_RX11 hown hK hP hD hS 0 rfl rfl 1 (by decide) w_1831 (fun _ h9 => h9) rfl hnm rfl (v := .ref q0) rfl rfl (Nat.le_of_ble_eq_true rfl) dX11_init_23 (ws' := [(h0, .inr (11, [.int (nI 0), .ref q0, .int o0, v3, v4, v5, .int (-1), v7, v8, v9, v10])), (q0, .inl (K 2, 0, .inl (fun _ => nI 0)))]) rfl (fun H locs hP hD hS => ?_)
  refine lv_iconst (v := nI 0) hx hb dX11_init_26 (by decide +kernel) ?_
  refine lv_istore (lv' := [(4, .int (nI 0)), (0, .ref h0), (1, .int (nI 0)), (2, .int o0), (3, .int (nI 0))]) hx hb dX11_init_27 hl (by decide) rfl (fun ls hl => ?_)
  refine lv_iload hx hb dX11_init_29 (lv_at hl 0 rfl) ?_
  refine lv_iload_n hx hb dX11_init_31 rfl (lv_at hl 4 rfl) ?_
  refine lv_icmp_ge (tgt := 49) hx hb dX11_init_32 (by decide) (fun _ => ?_) (fun c9 => absurd (by decide +kernel) c9)
  exact e_v hx hb hr hlk hP hD hS (fun k => match k with | 0 => q0 | _ => 0) rfl (Nat.le_of_ble_eq_true rfl) (Nat.le_of_ble_eq_true rfl) dX11_init_49
set_option maxHeartbeats 4000000 in
set_option maxRecDepth 100000 in
theorem C106_add (l : Launch) (G : Nat → Nat) (D : va_G) (K : Nat → ClassId) (sz : Nat) (h0 h1 : Nat) (v0 v1 v2 v3 v4 v5 v6 v7 v8 v9 v10 v11 : Value) : CM l yJx4a65c_add_72be8 cJx4a65c_add_72be8 4 (none : Option FieldType) ({ frames := 3, cells := 1, slots := 10, locals := 64 } : Room) G D K [.ref h0, .ref h1, .ref (G 0), .int (nI 0)] [(h0, .inr (13, [v0, .ref (G 0), .int (nI 0)])), (h1, .inr (11, [v1, v2, v3, v4, v5, v6, v7, v8, v9, v10, v11]))] sz (CQv D (fun u => [(h1, .inr (11, [v1, v2, v3, v4, v5, v6, v7, v8, v9, v10, v11])), (h0, .inr (13, [v0, .ref (u 0), .int (nI 1)])), ((u 0), .inl (K 4, 10, .inr (.inr (.inr (.inr (va_up (fun _ => none) 0 (some h1)))))))])) := by
  refine CM_of (lv0 := [(0, .ref h0), (1, .ref h1), (2, .ref (G 0)), (3, .int (nI 0))]) pn_RJx4a65c (Nat.le_of_ble_eq_true rfl) rfl (fun p e s m args below meth c A ls hx hb hr hml hown hts hlk hnm hP hK hD hS hA hm hl => ?_)
  have hown : s.vm.findClass RJx4a65c = some m.cls := hown
  refine lv_iload_n hx hb dJx4a65c_add_72be8_0 rfl (lv_at hl 3 rfl) ?_
  refine lv_aload_n hx hb dJx4a65c_add_72be8_1 rfl (lv_at hl 2 rfl) ?_
  refine va_tlen (v := nI 0) hx hb hm.2.2.2.2.1.2.1 hS rfl dJx4a65c_add_72be8_2 ?_
  refine lv_icmp_ne (tgt := 11) hx hb dJx4a65c_add_72be8_3 (by decide) (fun c9 => absurd (by decide +kernel) c9) (fun _ => ?_)
  refine lv_aload_n hx hb dJx4a65c_add_72be8_6 rfl (lv_at hl 0 rfl) ?_
  refine k_q (wr := [(h1, .inr (11, [v1, v2, v3, v4, v5, v6, v7, v8, v9, v10, v11]))]) (run_V (rest := []) hx hb hml hown hts hK hP hD hS hA hm (C14_grow l G D K s.heap.size h0 (v0)) [0] rfl rfl mok_yJx4a65c_grow_d5877 w_1168 w_1170 w_p28 (rcv hK hP 0 rfl rfl rfl) ⟨Nat.le_of_ble_eq_true rfl, Nat.le_of_ble_eq_true rfl⟩ rfl hl.1 rfl (Nat.le_of_ble_eq_true rfl) dJx4a65c_add_72be8_7 ⟨(Nat.le_of_ble_eq_true rfl), (Nat.le_of_ble_eq_true rfl)⟩) hP hD hS hA [0] [1] rfl rfl rfl (by decide) (w2 := fun u0 => [(h1, .inr (11, [v1, v2, v3, v4, v5, v6, v7, v8, v9, v10, v11])), (h0, .inr (13, [v0, .ref (u0 0), .int (nI 0)])), ((u0 0), .inl (K 4, 10, .inr (.inr (.inr (.inr (fun _ => none))))))]) (fun _ => rfl) (fun u0 H locs hP hD hS => ?_)
  refine w_tov (y := .ref (u0 0)) rfl ?_
  refine lv_astore_n (lv' := [(2, .ref (u0 0)), (0, .ref h0), (1, .ref h1), (3, .int (nI 0))]) hx hb dJx4a65c_add_72be8_10 rfl hl (by decide) rfl (fun ls hl => ?_)
  refine lv_aload_n hx hb dJx4a65c_add_72be8_11 rfl (lv_at hl 0 rfl) ?_
  refine lv_iload_n hx hb dJx4a65c_add_72be8_12 rfl (lv_at hl 3 rfl) ?_
  refine lv_aload_n hx hb dJx4a65c_add_72be8_13 rfl (lv_at hl 2 rfl) ?_
  refine r_aast (k := 0) hx hb hK hP hD hS 2 4 rfl rfl (any_C hm hK hP 0 rfl rfl rfl w_2143) (Nat.le_of_ble_eq_true rfl) (by decide) dJx4a65c_add_72be8_14 (ws' := [(h1, .inr (11, [v1, v2, v3, v4, v5, v6, v7, v8, v9, v10, v11])), (h0, .inr (13, [v0, .ref (u0 0), .int (nI 0)])), ((u0 0), .inl (K 4, 10, .inr (.inr (.inr (.inr (va_up (fun _ => none) 0 (some h1)))))))]) rfl (fun H locs hP hD hS => ?_)
  refine lv_aload_n hx hb dJx4a65c_add_72be8_15 rfl (lv_at hl 1 rfl) ?_
  refine lv_iload_n hx hb dJx4a65c_add_72be8_16 rfl (lv_at hl 3 rfl) ?_
  refine lv_iconst (v := nI 1) hx hb dJx4a65c_add_72be8_17 (by decide +kernel) ?_
  refine lv_iadd hx hb dJx4a65c_add_72be8_18 ?_
  refine w_toeq (show (nI 0) + (nI 1) = nI 1 by decide +kernel) ?_
  refine r_put hx hb hts ok_RJx4a65c hown hK hP hD hS 1 rfl rfl 2 (by decide) w_1145 (fun _ h9 => h9) rfl (v := .int (nI 1)) rfl rfl (Nat.le_of_ble_eq_true rfl) dJx4a65c_add_72be8_19 (ws' := [(h1, .inr (11, [v1, v2, v3, v4, v5, v6, v7, v8, v9, v10, v11])), (h0, .inr (13, [v0, .ref (u0 0), .int (nI 1)])), ((u0 0), .inl (K 4, 10, .inr (.inr (.inr (.inr (va_up (fun _ => none) 0 (some h1)))))))]) rfl (fun H locs hP hD hS => ?_)
  exact e_v hx hb hr hlk hP hD hS (fun k => match k with | 0 => (u0 0) | _ => 0) rfl (Nat.le_of_ble_eq_true rfl) (Nat.le_of_ble_eq_true rfl) dJx4a65c_add_72be8_22
set_option maxHeartbeats 4000000 in
set_option maxRecDepth 100000 in
theorem C107_add (l : Launch) (G : Nat → Nat) (D : va_G) (K : Nat → ClassId) (sz : Nat) (h0 h1 : Nat) (v0 v1 v2 v3 v4 v5 v6 v7 v8 v9 v10 : Value) : CM l yJx4a65c_add_9ea2d cJx4a65c_add_9ea2d 2 (some FieldType.boolean) ({ frames := 4, cells := 1, slots := 10, locals := 87 } : Room) G D K [.ref h0, .ref h1] [(h0, .inr (13, [.int (nI 0), .ref (G 0), .int (nI 0)])), (h1, .inr (11, [v0, v1, v2, v3, v4, v5, v6, v7, v8, v9, v10]))] sz (CQi (nI 1) D (fun u => [(h1, .inr (11, [v0, v1, v2, v3, v4, v5, v6, v7, v8, v9, v10])), (h0, .inr (13, [.int (nI 1), .ref (u 0), .int (nI 1)])), ((u 0), .inl (K 4, 10, .inr (.inr (.inr (.inr (va_up (fun _ => none) 0 (some h1)))))))])) := by
  refine CM_of (lv0 := [(0, .ref h0), (1, .ref h1)]) pn_RJx4a65c (Nat.le_of_ble_eq_true rfl) rfl (fun p e s m args below meth c A ls hx hb hr hml hown hts hlk hnm hP hK hD hS hA hm hl => ?_)
  have hown : s.vm.findClass RJx4a65c = some m.cls := hown
  refine lv_aload_n hx hb dJx4a65c_add_9ea2d_0 rfl (lv_at hl 0 rfl) ?_
  refine lv_dup hx hb dJx4a65c_add_9ea2d_1 rfl ?_
  refine r_get hx hb hts ok_RJx4a65c hown hK hP 0 rfl rfl 0 (by decide) w_1149 (fun x9 h9 => u_same (hts _ w_1148) x9 h9) rfl dJx4a65c_add_9ea2d_2 ?_
  refine lv_iconst (v := nI 1) hx hb dJx4a65c_add_9ea2d_5 (by decide +kernel) ?_
  refine lv_iadd hx hb dJx4a65c_add_9ea2d_6 ?_
  refine w_toeq (show (nI 0) + (nI 1) = nI 1 by decide +kernel) ?_
  refine r_put hx hb hts ok_RJx4a65c hown hK hP hD hS 0 rfl rfl 0 (by decide) w_1149 (fun x9 h9 => u_same (hts _ w_1148) x9 h9) rfl (v := .int (nI 1)) rfl rfl (Nat.le_of_ble_eq_true rfl) dJx4a65c_add_9ea2d_7 (ws' := [(h0, .inr (13, [.int (nI 1), .ref (G 0), .int (nI 0)])), (h1, .inr (11, [v0, v1, v2, v3, v4, v5, v6, v7, v8, v9, v10]))]) rfl (fun H locs hP hD hS => ?_)
  refine lv_aload_n hx hb dJx4a65c_add_9ea2d_10 rfl (lv_at hl 0 rfl) ?_
  refine lv_aload_n hx hb dJx4a65c_add_9ea2d_11 rfl (lv_at hl 1 rfl) ?_
  refine lv_aload_n hx hb dJx4a65c_add_9ea2d_12 rfl (lv_at hl 0 rfl) ?_
  refine r_get hx hb hts ok_RJx4a65c hown hK hP 0 rfl rfl 1 (by decide) w_1142 (fun _ h9 => h9) rfl dJx4a65c_add_9ea2d_13 ?_
  refine lv_aload_n hx hb dJx4a65c_add_9ea2d_16 rfl (lv_at hl 0 rfl) ?_
  refine r_get hx hb hts ok_RJx4a65c hown hK hP 0 rfl rfl 2 (by decide) w_1145 (fun _ h9 => h9) rfl dJx4a65c_add_9ea2d_17 ?_
  refine k_v (wr := []) (run_V (rest := []) hx hb hml hown hts hK hP hD hS hA hm (C106_add l G D K H.size h0 h1 (.int (nI 1)) (v0) (v1) (v2) (v3) (v4) (v5) (v6) (v7) (v8) (v9) (v10)) [0, 1] rfl rfl mok_yJx4a65c_add_72be8 w_1164 w_1166 w_p27 (rcv hK hP 0 rfl rfl rfl) ⟨Nat.le_of_ble_eq_true rfl, Nat.le_of_ble_eq_true rfl⟩ rfl hl.1 rfl (Nat.le_of_ble_eq_true rfl) dJx4a65c_add_9ea2d_20 ⟨(Nat.le_of_ble_eq_true rfl), (Nat.le_of_ble_eq_true rfl)⟩) hP hD hS hA [0, 1] [] rfl rfl rfl (by decide) (w2 := fun u0 => [(h1, .inr (11, [v0, v1, v2, v3, v4, v5, v6, v7, v8, v9, v10])), (h0, .inr (13, [.int (nI 1), .ref (u0 0), .int (nI 1)])), ((u0 0), .inl (K 4, 10, .inr (.inr (.inr (.inr (va_up (fun _ => none) 0 (some h1)))))))]) (fun _ => rfl) (fun u0 H locs hP hD hS => ?_)
  refine lv_iconst (v := nI 1) hx hb dJx4a65c_add_9ea2d_23 (by decide +kernel) ?_
  exact e_z hx hb hr hlk hP hD hS (fun k => match k with | 0 => (u0 0) | _ => 0) rfl (Nat.le_of_ble_eq_true rfl) (Nat.le_of_ble_eq_true rfl) rfl (Or.inr rfl) dJx4a65c_add_9ea2d_24
set_option maxHeartbeats 4000000 in
set_option maxRecDepth 100000 in
theorem C108_size (l : Launch) (G : Nat → Nat) (D : va_G) (K : Nat → ClassId) (sz : Nat) (h0 h1 : Nat) (v0 v1 v2 v3 v4 v5 v6 v7 v8 : Value) (f0 : Nat → Int32) : CM l yX11_size cX11_size 1 (some FieldType.int) ({ frames := 0, cells := 0, slots := 0, locals := 0 } : Room) G D K [.ref h0] [(h0, .inr (11, [v0, .ref h1, v1, v2, v3, v4, v5, v6, .int (nI 0), v7, v8])), (h1, .inl (K 2, 0, .inl f0))] sz (CQi (nI 2) D (fun _ => [(h0, .inr (11, [v0, .ref h1, v1, v2, v3, v4, v5, v6, .int (nI 0), v7, v8])), (h1, .inl (K 2, 0, .inl f0))])) := by
  refine CM_of (lv0 := [(0, .ref h0)]) pn_RX11 (Nat.le_of_ble_eq_true rfl) rfl (fun p e s m args below meth c A ls hx hb hr hml hown hts hlk hnm hP hK hD hS hA hm hl => ?_)
  have hown : s.vm.findClass RX11 = some m.cls := hown
  refine lv_iconst (v := nI 2) hx hb dX11_size_0 (by decide +kernel) ?_
  refine lv_aload_n hx hb dX11_size_1 rfl (lv_at hl 0 rfl) ?_
  refine r_get hx hb hts ok_RX11 hown hK hP 0 rfl rfl 1 (by decide) w_1831 (fun _ h9 => h9) rfl dX11_size_2 ?_
  refine r_alen (n := 0) hx hb hK hP 1 2 rfl rfl rfl dX11_size_5 ?_
  refine lv_iadd hx hb dX11_size_6 ?_
  refine w_toeq (show (nI 2) + (nI 0) = nI 2 by decide +kernel) ?_
  refine lv_aload_n hx hb dX11_size_7 rfl (lv_at hl 0 rfl) ?_
  refine r_get hx hb hts ok_RX11 hown hK hP 0 rfl rfl 8 (by decide) w_1851 (fun _ h9 => h9) rfl dX11_size_8 ?_
  refine lv_if_eq (tgt := 18) hx hb dX11_size_11 (by decide) (fun _ => ?_) (fun c9 => absurd (by decide +kernel) c9)
  refine lv_iconst (v := nI 0) hx hb dX11_size_18 (by decide +kernel) ?_
  refine lv_iadd hx hb dX11_size_19 ?_
  refine w_toeq (show (nI 2) + (nI 0) = nI 2 by decide +kernel) ?_
  exact e_i hx hb hr hlk hP hD hS (fun _ => 0) rfl (Nat.le_of_ble_eq_true rfl) (Nat.le_of_ble_eq_true rfl) rfl dX11_size_20
set_option maxHeartbeats 4000000 in
set_option maxRecDepth 100000 in
theorem C109_make (l : Launch) (G : Nat → Nat) (D : va_G) (K : Nat → ClassId) (sz : Nat) (h0 h1 : Nat) (v0 v1 v2 v3 v4 v5 v6 v7 v8 v9 v10 v11 v12 v13 : Value) (o0 : Int32) : CM l yX10_make cX10_make 6 (some FieldType.int) ({ frames := 5, cells := 3, slots := 21, locals := 108 } : Room) G D K [.ref h0, .int o0, .int (nI 0)] [(h0, .inr (10, [.ref h1, v0, v1, v2, v3, .int (nI 0), .int (nI 0), v4, v5, v6, v7, v8, v9, v10, v11, v12, v13])), (h1, .inr (13, [.int (nI 0), .ref (G 0), .int (nI 0)]))] sz (CQi (nI 0) D (fun u => [(h0, .inr (10, [.ref h1, v0, v1, v2, v3, .int (nI 0), .int (nI 2), v4, v5, v6, v7, v8, v9, v10, v11, v12, v13])), (h1, .inr (13, [.int (nI 1), .ref (u 2), .int (nI 1)])), ((u 2), .inl (K 4, 10, .inr (.inr (.inr (.inr (va_up (fun _ => none) 0 (some (u 0)))))))), ((u 0), .inr (11, [.int (nI 0), .ref (u 1), .int o0, .int (nI 1), .int (nI 0), .int (nI 0), .int (-1), .int (nI 2), .int (nI 0), .int (nI 0), .int (nI 0)])), ((u 1), .inl (K 2, 0, .inl (fun _ => nI 0)))])) := by
  refine CM_of (lv0 := [(0, .ref h0), (1, .int o0), (2, .int (nI 0))]) pn_RX10 (Nat.le_of_ble_eq_true rfl) rfl (fun p e s m args below meth c A ls hx hb hr hml hown hts hlk hnm hP hK hD hS hA hm hl => ?_)
  have hown : s.vm.findClass RX10 = some m.cls := hown
  refine lv_iload_n hx hb dX10_make_0 rfl (lv_at hl 2 rfl) ?_
  refine lv_bipush (v := nI 12) hx hb dX10_make_1 (by decide +kernel) ?_
  refine lv_icmp_lt (tgt := 10) hx hb dX10_make_3 (by decide) (fun _ => ?_) (fun c9 => absurd (by decide +kernel) c9)
  refine lv_iconst (v := nI 0) hx hb dX10_make_10 (by decide +kernel) ?_
  refine lv_istore_n (lv' := [(3, .int (nI 0)), (0, .ref h0), (1, .int o0), (2, .int (nI 0))]) hx hb dX10_make_11 rfl hl (by decide) rfl (fun ls hl => ?_)
  refine lv_aload_n hx hb dX10_make_12 rfl (lv_at hl 1 rfl) ?_
  refine lv_iload_n hx hb dX10_make_13 rfl (lv_at hl 3 rfl) ?_
  refine k_i (wr := [(h1, .inr (13, [.int (nI 0), .ref (G 0), .int (nI 0)]))]) (run_V (rest := []) hx hb hml hown hts hK hP hD hS hA hm (C104_addressFor l G D K s.heap.size h0 (.ref h1) (v0) (v1) (v2) (v3) (v4) (v5) (v6) (v7) (v8) (v9) (v10) (v11) (v12) (v13)) [0] rfl rfl mok_yX10_addressFor w_1359 w_1360 w_1361 (rcv hK hP 0 rfl rfl rfl) ⟨Nat.le_of_ble_eq_true rfl, Nat.le_of_ble_eq_true rfl⟩ rfl hl.1 rfl (Nat.le_of_ble_eq_true rfl) dX10_make_14 ⟨(Nat.le_of_ble_eq_true rfl), (Nat.le_of_ble_eq_true rfl)⟩) hP hD hS hA [0] [1] rfl rfl rfl (by decide) (w2 := fun u0 => [(h1, .inr (13, [.int (nI 0), .ref (G 0), .int (nI 0)])), (h0, .inr (10, [.ref h1, v0, v1, v2, v3, .int (nI 0), .int (nI 0), v4, v5, v6, v7, v8, v9, v10, v11, v12, v13]))]) (fun _ => rfl) (fun u0 H locs hP hD hS => ?_)
  refine lv_iconst (v := (-1)) hx hb dX10_make_17 (by decide +kernel) ?_
  refine lv_icmp_ne (tgt := 30) hx hb dX10_make_18 (by decide) (fun _ => ?_) (fun c9 => absurd c9 (by decide +kernel))
  refine lv_aload_n hx hb dX10_make_30 rfl (lv_at hl 1 rfl) ?_
  refine lv_iload_n hx hb dX10_make_31 rfl (lv_at hl 3 rfl) ?_
  refine k_i (wr := [(h1, .inr (13, [.int (nI 0), .ref (G 0), .int (nI 0)]))]) (run_V (rest := []) hx hb hml hown hts hK hP hD hS hA hm (C104_addressFor l G D K H.size h0 (.ref h1) (v0) (v1) (v2) (v3) (v4) (v5) (v6) (v7) (v8) (v9) (v10) (v11) (v12) (v13)) [1] rfl rfl mok_yX10_addressFor w_1359 w_1360 w_1361 (rcv hK hP 1 rfl rfl rfl) ⟨Nat.le_of_ble_eq_true rfl, Nat.le_of_ble_eq_true rfl⟩ rfl hl.1 rfl (Nat.le_of_ble_eq_true rfl) dX10_make_32 ⟨(Nat.le_of_ble_eq_true rfl), (Nat.le_of_ble_eq_true rfl)⟩) hP hD hS hA [1] [0] rfl rfl rfl (by decide) (w2 := fun u1 => [(h1, .inr (13, [.int (nI 0), .ref (G 0), .int (nI 0)])), (h0, .inr (10, [.ref h1, v0, v1, v2, v3, .int (nI 0), .int (nI 0), v4, v5, v6, v7, v8, v9, v10, v11, v12, v13]))]) (fun _ => rfl) (fun u1 H locs hP hD hS => ?_)
  refine lv_iconst (v := (-1)) hx hb dX10_make_35 (by decide +kernel) ?_
  refine lv_icmp_ne (tgt := 45) hx hb dX10_make_36 (by decide) (fun _ => ?_) (fun c9 => absurd c9 (by decide +kernel))
  refine lv_aload_n hx hb dX10_make_45 rfl (lv_at hl 1 rfl) ?_
  refine lv_iload_n hx hb dX10_make_46 rfl (lv_at hl 3 rfl) ?_
  refine k_i (wr := [(h1, .inr (13, [.int (nI 0), .ref (G 0), .int (nI 0)]))]) (run_V (rest := []) hx hb hml hown hts hK hP hD hS hA hm (C104_addressFor l G D K H.size h0 (.ref h1) (v0) (v1) (v2) (v3) (v4) (v5) (v6) (v7) (v8) (v9) (v10) (v11) (v12) (v13)) [1] rfl rfl mok_yX10_addressFor w_1359 w_1360 w_1361 (rcv hK hP 1 rfl rfl rfl) ⟨Nat.le_of_ble_eq_true rfl, Nat.le_of_ble_eq_true rfl⟩ rfl hl.1 rfl (Nat.le_of_ble_eq_true rfl) dX10_make_47 ⟨(Nat.le_of_ble_eq_true rfl), (Nat.le_of_ble_eq_true rfl)⟩) hP hD hS hA [1] [0] rfl rfl rfl (by decide) (w2 := fun u2 => [(h1, .inr (13, [.int (nI 0), .ref (G 0), .int (nI 0)])), (h0, .inr (10, [.ref h1, v0, v1, v2, v3, .int (nI 0), .int (nI 0), v4, v5, v6, v7, v8, v9, v10, v11, v12, v13]))]) (fun _ => rfl) (fun u2 H locs hP hD hS => ?_)
  refine lv_iconst (v := (-1)) hx hb dX10_make_50 (by decide +kernel) ?_
  refine lv_icmp_ne (tgt := 60) hx hb dX10_make_51 (by decide) (fun _ => ?_) (fun c9 => absurd c9 (by decide +kernel))
  refine lv_aload_n hx hb dX10_make_60 rfl (lv_at hl 1 rfl) ?_
  refine lv_iload_n hx hb dX10_make_61 rfl (lv_at hl 3 rfl) ?_
  refine k_i (wr := [(h1, .inr (13, [.int (nI 0), .ref (G 0), .int (nI 0)]))]) (run_V (rest := []) hx hb hml hown hts hK hP hD hS hA hm (C104_addressFor l G D K H.size h0 (.ref h1) (v0) (v1) (v2) (v3) (v4) (v5) (v6) (v7) (v8) (v9) (v10) (v11) (v12) (v13)) [1] rfl rfl mok_yX10_addressFor w_1359 w_1360 w_1361 (rcv hK hP 1 rfl rfl rfl) ⟨Nat.le_of_ble_eq_true rfl, Nat.le_of_ble_eq_true rfl⟩ rfl hl.1 rfl (Nat.le_of_ble_eq_true rfl) dX10_make_62 ⟨(Nat.le_of_ble_eq_true rfl), (Nat.le_of_ble_eq_true rfl)⟩) hP hD hS hA [1] [0] rfl rfl rfl (by decide) (w2 := fun u3 => [(h1, .inr (13, [.int (nI 0), .ref (G 0), .int (nI 0)])), (h0, .inr (10, [.ref h1, v0, v1, v2, v3, .int (nI 0), .int (nI 0), v4, v5, v6, v7, v8, v9, v10, v11, v12, v13]))]) (fun _ => rfl) (fun u3 H locs hP hD hS => ?_)
  refine lv_istore (lv' := [(4, .int (nI 0)), (3, .int (nI 0)), (0, .ref h0), (1, .int o0), (2, .int (nI 0))]) hx hb dX10_make_65 hl (by decide) rfl (fun ls hl => ?_)
  refine lv_iload hx hb dX10_make_67 (lv_at hl 0 rfl) ?_
  refine lv_iconst (v := (-1)) hx hb dX10_make_69 (by decide +kernel) ?_
  refine lv_icmp_ne (tgt := 75) hx hb dX10_make_70 (by decide) (fun _ => ?_) (fun c9 => absurd c9 (by decide +kernel))
  refine r_new (ci := 11) (C := RX11) (T := TX11) (N := 11) hx hb hts ok_RX11 hown w_1417 w_1823 w_37 hK hP hD hS hA rfl df_RX11 (Nat.le_of_ble_eq_true rfl) (Nat.le_of_ble_eq_true rfl) dX10_make_75 (w2 := fun q0 => [(h1, .inr (13, [.int (nI 0), .ref (G 0), .int (nI 0)])), (h0, .inr (10, [.ref h1, v0, v1, v2, v3, .int (nI 0), .int (nI 0), v4, v5, v6, v7, v8, v9, v10, v11, v12, v13])), (q0, .inr (11, [.int (nI 0), .null, .int (nI 0), .int (nI 0), .int (nI 0), .int (nI 0), .int (nI 0), .int (nI 0), .int (nI 0), .int (nI 0), .int (nI 0)]))]) (fun _ => rfl) (fun q0 H hP hD hS => ?_)
  refine lv_dup hx hb dX10_make_78 rfl ?_
  refine lv_aload_n hx hb dX10_make_79 rfl (lv_at hl 2 rfl) ?_
  refine r_get hx hb hts ok_RX10 hown hK hP 1 rfl rfl 0 (by decide) w_1224 (fun _ h9 => h9) rfl dX10_make_80 ?_
  refine k_i (wr := [(h0, .inr (10, [.ref h1, v0, v1, v2, v3, .int (nI 0), .int (nI 0), v4, v5, v6, v7, v8, v9, v10, v11, v12, v13])), (q0, .inr (11, [.int (nI 0), .null, .int (nI 0), .int (nI 0), .int (nI 0), .int (nI 0), .int (nI 0), .int (nI 0), .int (nI 0), .int (nI 0), .int (nI 0)]))]) (run_V (rest := [.ref q0, .ref q0]) hx hb hml hown hts hK hP hD hS hA hm (C102_size l G D K H.size h1 (.int (nI 0)) (.ref (G 0))) [0] rfl rfl mok_yJx4a65c_size_8abf5 w_1418 w_1309 w_1310 (rcv hK hP 0 rfl rfl rfl) ⟨Nat.le_of_ble_eq_true rfl, Nat.le_of_ble_eq_true rfl⟩ rfl hl.1 rfl (Nat.le_of_ble_eq_true rfl) dX10_make_83 ⟨(Nat.le_of_ble_eq_true rfl), (Nat.le_of_ble_eq_true rfl)⟩) hP hD hS hA [0] [1, 2] rfl rfl rfl (by decide) (w2 := fun u4 => [(h0, .inr (10, [.ref h1, v0, v1, v2, v3, .int (nI 0), .int (nI 0), v4, v5, v6, v7, v8, v9, v10, v11, v12, v13])), (q0, .inr (11, [.int (nI 0), .null, .int (nI 0), .int (nI 0), .int (nI 0), .int (nI 0), .int (nI 0), .int (nI 0), .int (nI 0), .int (nI 0), .int (nI 0)])), (h1, .inr (13, [.int (nI 0), .ref (G 0), .int (nI 0)]))]) (fun _ => rfl) (fun u4 H locs hP hD hS => ?_)
  refine lv_iload_n hx hb dX10_make_86 rfl (lv_at hl 3 rfl) ?_
  refine lv_iload_n hx hb dX10_make_87 rfl (lv_at hl 4 rfl) ?_
  refine k_v (wr := [(h0, .inr (10, [.ref h1, v0, v1, v2, v3, .int (nI 0), .int (nI 0), v4, v5, v6, v7, v8, v9, v10, v11, v12, v13])), (h1, .inr (13, [.int (nI 0), .ref (G 0), .int (nI 0)]))]) (run_I (rest := [.ref q0]) hx hb hml hown hts hK hP hD hS hA hm (C105_init l G D K H.size q0 (.int (nI 0)) (.null) (.int (nI 0)) (.int (nI 0)) (.int (nI 0)) (.int (nI 0)) (.int (nI 0)) (.int (nI 0)) (.int (nI 0)) (.int (nI 0)) (.int (nI 0)) o0) [1] rfl rfl mok_yX11_init w_1824 w_1825 rfl ⟨Nat.le_of_ble_eq_true rfl, Nat.le_of_ble_eq_true rfl⟩ rfl hl.1 rfl (Nat.le_of_ble_eq_true rfl) dX10_make_88 ⟨(Nat.le_of_ble_eq_true rfl), (Nat.le_of_ble_eq_true rfl)⟩) hP hD hS hA [1] [0, 2] rfl rfl rfl (by decide) (w2 := fun u5 => [(h0, .inr (10, [.ref h1, v0, v1, v2, v3, .int (nI 0), .int (nI 0), v4, v5, v6, v7, v8, v9, v10, v11, v12, v13])), (h1, .inr (13, [.int (nI 0), .ref (G 0), .int (nI 0)])), (q0, .inr (11, [.int (nI 0), .ref (u5 0), .int o0, .int (nI 0), .int (nI 0), .int (nI 0), .int (-1), .int (nI 0), .int (nI 0), .int (nI 0), .int (nI 0)])), ((u5 0), .inl (K 2, 0, .inl (fun _ => nI 0)))]) (fun _ => rfl) (fun u5 H locs hP hD hS => ?_)
  refine lv_astore (lv' := [(5, .ref q0), (4, .int (nI 0)), (3, .int (nI 0)), (0, .ref h0), (1, .int o0), (2, .int (nI 0))]) hx hb dX10_make_91 hl (by decide) rfl (fun ls hl => ?_)
  refine lv_aload hx hb dX10_make_93 (lv_at hl 0 rfl) ?_
  refine lv_iload_n hx hb dX10_make_95 rfl (lv_at hl 2 rfl) ?_
  refine lv_if_eq (tgt := 103) hx hb dX10_make_96 (by decide) (fun _ => ?_) (fun c9 => absurd (by decide +kernel) c9)
  refine lv_iconst (v := nI 1) hx hb dX10_make_103 (by decide +kernel) ?_
  refine r_put hx hb hts ok_RX11 hown hK hP hD hS 2 rfl rfl 3 (by decide) w_1838 (fun _ h9 => h9) rfl (v := .int (nI 1)) rfl rfl (Nat.le_of_ble_eq_true rfl) dX10_make_104 (ws' := [(h0, .inr (10, [.ref h1, v0, v1, v2, v3, .int (nI 0), .int (nI 0), v4, v5, v6, v7, v8, v9, v10, v11, v12, v13])), (h1, .inr (13, [.int (nI 0), .ref (G 0), .int (nI 0)])), (q0, .inr (11, [.int (nI 0), .ref (u5 0), .int o0, .int (nI 1), .int (nI 0), .int (nI 0), .int (-1), .int (nI 0), .int (nI 0), .int (nI 0), .int (nI 0)])), ((u5 0), .inl (K 2, 0, .inl (fun _ => nI 0)))]) rfl (fun H locs hP hD hS => ?_)
  refine lv_aload hx hb dX10_make_107 (lv_at hl 0 rfl) ?_
  refine lv_iload hx hb dX10_make_109 (lv_at hl 1 rfl) ?_
  refine r_put hx hb hts ok_RX11 hown hK hP hD hS 2 rfl rfl 4 (by decide) w_1841 (fun _ h9 => h9) rfl (v := .int (nI 0)) rfl rfl (Nat.le_of_ble_eq_true rfl) dX10_make_111 (ws' := [(h0, .inr (10, [.ref h1, v0, v1, v2, v3, .int (nI 0), .int (nI 0), v4, v5, v6, v7, v8, v9, v10, v11, v12, v13])), (h1, .inr (13, [.int (nI 0), .ref (G 0), .int (nI 0)])), (q0, .inr (11, [.int (nI 0), .ref (u5 0), .int o0, .int (nI 1), .int (nI 0), .int (nI 0), .int (-1), .int (nI 0), .int (nI 0), .int (nI 0), .int (nI 0)])), ((u5 0), .inl (K 2, 0, .inl (fun _ => nI 0)))]) rfl (fun H locs hP hD hS => ?_)
  refine lv_aload hx hb dX10_make_114 (lv_at hl 0 rfl) ?_
  refine lv_iconst (v := nI 2) hx hb dX10_make_116 (by decide +kernel) ?_
  refine r_put hx hb hts ok_RX11 hown hK hP hD hS 2 rfl rfl 7 (by decide) w_1849 (fun _ h9 => h9) rfl (v := .int (nI 2)) rfl rfl (Nat.le_of_ble_eq_true rfl) dX10_make_117 (ws' := [(h0, .inr (10, [.ref h1, v0, v1, v2, v3, .int (nI 0), .int (nI 0), v4, v5, v6, v7, v8, v9, v10, v11, v12, v13])), (h1, .inr (13, [.int (nI 0), .ref (G 0), .int (nI 0)])), (q0, .inr (11, [.int (nI 0), .ref (u5 0), .int o0, .int (nI 1), .int (nI 0), .int (nI 0), .int (-1), .int (nI 2), .int (nI 0), .int (nI 0), .int (nI 0)])), ((u5 0), .inl (K 2, 0, .inl (fun _ => nI 0)))]) rfl (fun H locs hP hD hS => ?_)
  refine lv_aload_n hx hb dX10_make_120 rfl (lv_at hl 3 rfl) ?_
  refine r_get hx hb hts ok_RX10 hown hK hP 0 rfl rfl 0 (by decide) w_1224 (fun _ h9 => h9) rfl dX10_make_121 ?_
  refine lv_aload hx hb dX10_make_124 (lv_at hl 0 rfl) ?_
  refine k_i (wr := [(h0, .inr (10, [.ref h1, v0, v1, v2, v3, .int (nI 0), .int (nI 0), v4, v5, v6, v7, v8, v9, v10, v11, v12, v13])), ((u5 0), .inl (K 2, 0, .inl (fun _ => nI 0)))]) (run_V (rest := []) hx hb hml hown hts hK hP hD hS hA hm (C107_add l G D K H.size h1 q0 (.int (nI 0)) (.ref (u5 0)) (.int o0) (.int (nI 1)) (.int (nI 0)) (.int (nI 0)) (.int (-1)) (.int (nI 2)) (.int (nI 0)) (.int (nI 0)) (.int (nI 0))) [1, 2] rfl rfl mok_yJx4a65c_add_9ea2d w_1160 w_1161 w_1162 (rcv hK hP 1 rfl rfl rfl) ⟨Nat.le_of_ble_eq_true rfl, Nat.le_of_ble_eq_true rfl⟩ rfl hl.1 rfl (Nat.le_of_ble_eq_true rfl) dX10_make_126 ⟨(Nat.le_of_ble_eq_true rfl), (Nat.le_of_ble_eq_true rfl)⟩) hP hD hS hA [1, 2] [0, 3] rfl rfl rfl (by decide) (w2 := fun u6 => [(h0, .inr (10, [.ref h1, v0, v1, v2, v3, .int (nI 0), .int (nI 0), v4, v5, v6, v7, v8, v9, v10, v11, v12, v13])), ((u5 0), .inl (K 2, 0, .inl (fun _ => nI 0))), (q0, .inr (11, [.int (nI 0), .ref (u5 0), .int o0, .int (nI 1), .int (nI 0), .int (nI 0), .int (-1), .int (nI 2), .int (nI 0), .int (nI 0), .int (nI 0)])), (h1, .inr (13, [.int (nI 1), .ref (u6 0), .int (nI 1)])), ((u6 0), .inl (K 4, 10, .inr (.inr (.inr (.inr (va_up (fun _ => none) 0 (some q0)))))))]) (fun _ => rfl) (fun u6 H locs hP hD hS => ?_)
  refine lv_pop hx hb dX10_make_129 rfl ?_
  refine lv_iload_n hx hb dX10_make_130 rfl (lv_at hl 2 rfl) ?_
  refine lv_if_ne (tgt := 148) hx hb dX10_make_131 (by decide) (fun c9 => absurd (by decide +kernel) c9) (fun _ => ?_)
  refine lv_aload_n hx hb dX10_make_134 rfl (lv_at hl 3 rfl) ?_
  refine lv_dup hx hb dX10_make_135 rfl ?_
  refine r_get hx hb hts ok_RX10 hown hK hP 0 rfl rfl 6 (by decide) w_1236 (fun _ h9 => h9) rfl dX10_make_136 ?_
  refine lv_aload hx hb dX10_make_139 (lv_at hl 0 rfl) ?_
  refine k_i (wr := [(h0, .inr (10, [.ref h1, v0, v1, v2, v3, .int (nI 0), .int (nI 0), v4, v5, v6, v7, v8, v9, v10, v11, v12, v13])), (h1, .inr (13, [.int (nI 1), .ref (u6 0), .int (nI 1)])), ((u6 0), .inl (K 4, 10, .inr (.inr (.inr (.inr (va_up (fun _ => none) 0 (some q0)))))))]) (run_V (rest := [.int (nI 0), .ref h0]) hx hb hml hown hts hK hP hD hS hA hm (C108_size l G D K H.size q0 (u5 0) (.int (nI 0)) (.int o0) (.int (nI 1)) (.int (nI 0)) (.int (nI 0)) (.int (-1)) (.int (nI 2)) (.int (nI 0)) (.int (nI 0)) (fun _ => nI 0)) [2, 1] rfl rfl mok_yX11_size w_1780 w_1677 w_1678 (rcv hK hP 2 rfl rfl rfl) ⟨Nat.le_of_ble_eq_true rfl, Nat.le_of_ble_eq_true rfl⟩ rfl hl.1 rfl (Nat.le_of_ble_eq_true rfl) dX10_make_141 ⟨(Nat.le_of_ble_eq_true rfl), (Nat.le_of_ble_eq_true rfl)⟩) hP hD hS hA [2, 1] [0, 3, 4] rfl rfl rfl (by decide) (w2 := fun u7 => [(h0, .inr (10, [.ref h1, v0, v1, v2, v3, .int (nI 0), .int (nI 0), v4, v5, v6, v7, v8, v9, v10, v11, v12, v13])), (h1, .inr (13, [.int (nI 1), .ref (u6 0), .int (nI 1)])), ((u6 0), .inl (K 4, 10, .inr (.inr (.inr (.inr (va_up (fun _ => none) 0 (some q0))))))), (q0, .inr (11, [.int (nI 0), .ref (u5 0), .int o0, .int (nI 1), .int (nI 0), .int (nI 0), .int (-1), .int (nI 2), .int (nI 0), .int (nI 0), .int (nI 0)])), ((u5 0), .inl (K 2, 0, .inl (fun _ => nI 0)))]) (fun _ => rfl) (fun u7 H locs hP hD hS => ?_)
  refine lv_iadd hx hb dX10_make_144 ?_
  refine w_toeq (show (nI 0) + (nI 2) = nI 2 by decide +kernel) ?_
  refine r_put hx hb hts ok_RX10 hown hK hP hD hS 0 rfl rfl 6 (by decide) w_1236 (fun _ h9 => h9) rfl (v := .int (nI 2)) rfl rfl (Nat.le_of_ble_eq_true rfl) dX10_make_145 (ws' := [(h0, .inr (10, [.ref h1, v0, v1, v2, v3, .int (nI 0), .int (nI 2), v4, v5, v6, v7, v8, v9, v10, v11, v12, v13])), (h1, .inr (13, [.int (nI 1), .ref (u6 0), .int (nI 1)])), ((u6 0), .inl (K 4, 10, .inr (.inr (.inr (.inr (va_up (fun _ => none) 0 (some q0))))))), (q0, .inr (11, [.int (nI 0), .ref (u5 0), .int o0, .int (nI 1), .int (nI 0), .int (nI 0), .int (-1), .int (nI 2), .int (nI 0), .int (nI 0), .int (nI 0)])), ((u5 0), .inl (K 2, 0, .inl (fun _ => nI 0)))]) rfl (fun H locs hP hD hS => ?_)
  refine lv_aload hx hb dX10_make_148 (lv_at hl 0 rfl) ?_
  refine r_get hx hb hts ok_RX11 hown hK hP 3 rfl rfl 0 (by decide) w_1829 (fun _ h9 => h9) rfl dX10_make_150 ?_
  exact e_i hx hb hr hlk hP hD hS (fun k => match k with | 0 => q0 | 1 => (u5 0) | 2 => (u6 0) | _ => 0) rfl (Nat.le_of_ble_eq_true rfl) (Nat.le_of_ble_eq_true rfl) rfl dX10_make_153
set_option maxHeartbeats 4000000 in
set_option maxRecDepth 100000 in
theorem C110_checkIndex (l : Launch) (G : Nat → Nat) (D : va_G) (K : Nat → ClassId) (sz : Nat) : CM l yJ3_checkIndex_8e157 cJ3_checkIndex_8e157 3 (some FieldType.int) ({ frames := 0, cells := 0, slots := 0, locals := 0 } : Room) G D K [.int (nI 0), .int (nI 1), .null] [] sz (CQi (nI 0) D (fun _ => [])) := by
  refine CM_of (lv0 := [(0, .int (nI 0)), (1, .int (nI 1)), (2, .null)]) pn_RJ3 (Nat.le_of_ble_eq_true rfl) rfl (fun p e s m args below meth c A ls hx hb hr hml hown hts hlk hnm hP hK hD hS hA hm hl => ?_)
  have hown : s.vm.findClass RJ3 = some m.cls := hown
  refine lv_iload_n hx hb dJ3_checkIndex_8e157_0 rfl (lv_at hl 0 rfl) ?_
  refine lv_if_lt (tgt := 9) hx hb dJ3_checkIndex_8e157_1 (by decide) (fun c9 => absurd c9 (by decide +kernel)) (fun _ => ?_)
  refine lv_iload_n hx hb dJ3_checkIndex_8e157_4 rfl (lv_at hl 0 rfl) ?_
  refine lv_iload_n hx hb dJ3_checkIndex_8e157_5 rfl (lv_at hl 1 rfl) ?_
  refine lv_icmp_lt (tgt := 16) hx hb dJ3_checkIndex_8e157_6 (by decide) (fun _ => ?_) (fun c9 => absurd (by decide +kernel) c9)
  refine lv_iload_n hx hb dJ3_checkIndex_8e157_16 rfl (lv_at hl 0 rfl) ?_
  exact e_i hx hb hr hlk hP hD hS (fun _ => 0) rfl (Nat.le_of_ble_eq_true rfl) (Nat.le_of_ble_eq_true rfl) rfl dJ3_checkIndex_8e157_17
set_option maxHeartbeats 4000000 in
set_option maxRecDepth 100000 in
theorem C111_checkIndex (l : Launch) (G : Nat → Nat) (D : va_G) (K : Nat → ClassId) (sz : Nat) : CM l yJ15_checkIndex_7cf53 cJ15_checkIndex_7cf53 2 (some FieldType.int) ({ frames := 1, cells := 0, slots := 0, locals := 22 } : Room) G D K [.int (nI 0), .int (nI 1)] [] sz (CQi (nI 0) D (fun _ => [])) := by
  refine CM_of (lv0 := [(0, .int (nI 0)), (1, .int (nI 1))]) pn_RJ15 (Nat.le_of_ble_eq_true rfl) rfl (fun p e s m args below meth c A ls hx hb hr hml hown hts hlk hnm hP hK hD hS hA hm hl => ?_)
  have hown : s.vm.findClass RJ15 = some m.cls := hown
  refine lv_iload_n hx hb dJ15_checkIndex_7cf53_0 rfl (lv_at hl 0 rfl) ?_
  refine lv_iload_n hx hb dJ15_checkIndex_7cf53_1 rfl (lv_at hl 1 rfl) ?_
  refine lv_null hx hb dJ15_checkIndex_7cf53_2 ?_
  refine k_i (wr := []) (run_S (rest := []) hx hb hml hown hts hK hP hD hS hA hm (C110_checkIndex l G D K s.heap.size) [] rfl rfl mok_yJ3_checkIndex_8e157 w_1333 w_1334 ⟨Nat.le_of_ble_eq_true rfl, Nat.le_of_ble_eq_true rfl⟩ rfl hl.1 rfl (Nat.le_of_ble_eq_true rfl) dJ15_checkIndex_7cf53_3 ⟨(Nat.le_of_ble_eq_true rfl), (Nat.le_of_ble_eq_true rfl)⟩) hP hD hS hA [] [] rfl rfl rfl (by decide) (w2 := fun u0 => []) (fun _ => rfl) (fun u0 H locs hP hD hS => ?_)
  exact e_i hx hb hr hlk hP hD hS (fun _ => 0) rfl (Nat.le_of_ble_eq_true rfl) (Nat.le_of_ble_eq_true rfl) rfl dJ15_checkIndex_7cf53_6
set_option maxHeartbeats 4000000 in
set_option maxRecDepth 100000 in
theorem C112_elementData (l : Launch) (G : Nat → Nat) (D : va_G) (K : Nat → ClassId) (sz : Nat) (h0 h1 : Nat) (a0 : Nat) (v0 v1 : Value) : CM l yJx4a65c_elementData_915e3 cJx4a65c_elementData_915e3 2 (some (FieldType.object "java/lang/Object")) ({ frames := 0, cells := 0, slots := 0, locals := 0 } : Room) G D K [.ref h0, .int (nI 0)] [(h0, .inr (13, [v0, .ref h1, v1])), (h1, .inl (K 4, 10, .inr (.inr (.inr (.inr (va_up (fun _ => none) 0 (some a0)))))))] sz (CQq (fun u => (some a0)) D (fun _ => [(h0, .inr (13, [v0, .ref h1, v1])), (h1, .inl (K 4, 10, .inr (.inr (.inr (.inr (va_up (fun _ => none) 0 (some a0)))))))])) := by
  refine CM_of (lv0 := [(0, .ref h0), (1, .int (nI 0))]) pn_RJx4a65c (Nat.le_of_ble_eq_true rfl) rfl (fun p e s m args below meth c A ls hx hb hr hml hown hts hlk hnm hP hK hD hS hA hm hl => ?_)
  have hown : s.vm.findClass RJx4a65c = some m.cls := hown
  refine lv_aload_n hx hb dJx4a65c_elementData_915e3_0 rfl (lv_at hl 0 rfl) ?_
  refine r_get hx hb hts ok_RJx4a65c hown hK hP 0 rfl rfl 1 (by decide) w_1142 (fun _ h9 => h9) rfl dJx4a65c_elementData_915e3_1 ?_
  refine lv_iload_n hx hb dJx4a65c_elementData_915e3_4 rfl (lv_at hl 1 rfl) ?_
  refine r_aald (k := 0) hx hb hK hP 1 4 rfl rfl (Nat.le_of_ble_eq_true rfl) (by decide) (v := .ref a0) rfl dJx4a65c_elementData_915e3_5 ?_
  exact e_q hx hb hr (Or.inl ⟨_, rfl⟩) hlk hP hD hS (fun _ => 0) rfl (Nat.le_of_ble_eq_true rfl) (Nat.le_of_ble_eq_true rfl) (v := .ref a0) (r := fun u => (some a0)) rfl dJx4a65c_elementData_915e3_6
set_option maxHeartbeats 4000000 in
set_option maxRecDepth 100000 in
theorem C113_get (l : Launch) (G : Nat → Nat) (D : va_G) (K : Nat → ClassId) (sz : Nat) (h0 h1 : Nat) (a0 : Nat) (v0 : Value) : CM l yJx4a65c_get_915e3 cJx4a65c_get_915e3 2 (some (FieldType.object "java/lang/Object")) ({ frames := 2, cells := 0, slots := 0, locals := 43 } : Room) G D K [.ref h0, .int (nI 0)] [(h0, .inr (13, [v0, .ref h1, .int (nI 1)])), (h1, .inl (K 4, 10, .inr (.inr (.inr (.inr (va_up (fun _ => none) 0 (some a0)))))))] sz (CQq (fun u => (some a0)) D (fun _ => [(h0, .inr (13, [v0, .ref h1, .int (nI 1)])), (h1, .inl (K 4, 10, .inr (.inr (.inr (.inr (va_up (fun _ => none) 0 (some a0)))))))])) := by
  refine CM_of (lv0 := [(0, .ref h0), (1, .int (nI 0))]) pn_RJx4a65c (Nat.le_of_ble_eq_true rfl) rfl (fun p e s m args below meth c A ls hx hb hr hml hown hts hlk hnm hP hK hD hS hA hm hl => ?_)
  have hown : s.vm.findClass RJx4a65c = some m.cls := hown
  refine lv_iload_n hx hb dJx4a65c_get_915e3_0 rfl (lv_at hl 1 rfl) ?_
  refine lv_aload_n hx hb dJx4a65c_get_915e3_1 rfl (lv_at hl 0 rfl) ?_
  refine r_get hx hb hts ok_RJx4a65c hown hK hP 0 rfl rfl 2 (by decide) w_1145 (fun _ h9 => h9) rfl dJx4a65c_get_915e3_2 ?_
  refine k_i (wr := [(h0, .inr (13, [v0, .ref h1, .int (nI 1)])), (h1, .inl (K 4, 10, .inr (.inr (.inr (.inr (va_up (fun _ => none) 0 (some a0)))))))]) (run_S (rest := []) hx hb hml hown hts hK hP hD hS hA hm (C111_checkIndex l G D K s.heap.size) [] rfl rfl mok_yJ15_checkIndex_7cf53 w_1330 w_1331 ⟨Nat.le_of_ble_eq_true rfl, Nat.le_of_ble_eq_true rfl⟩ rfl hl.1 rfl (Nat.le_of_ble_eq_true rfl) dJx4a65c_get_915e3_5 ⟨(Nat.le_of_ble_eq_true rfl), (Nat.le_of_ble_eq_true rfl)⟩) hP hD hS hA [] [0, 1] rfl rfl rfl (by decide) (w2 := fun u0 => [(h0, .inr (13, [v0, .ref h1, .int (nI 1)])), (h1, .inl (K 4, 10, .inr (.inr (.inr (.inr (va_up (fun _ => none) 0 (some a0)))))))]) (fun _ => rfl) (fun u0 H locs hP hD hS => ?_)
  refine lv_pop hx hb dJx4a65c_get_915e3_8 rfl ?_
  refine lv_aload_n hx hb dJx4a65c_get_915e3_9 rfl (lv_at hl 0 rfl) ?_
  refine lv_iload_n hx hb dJx4a65c_get_915e3_10 rfl (lv_at hl 1 rfl) ?_
  refine k_q (wr := []) (run_V (rest := []) hx hb hml hown hts hK hP hD hS hA hm (C112_elementData l G D K H.size h0 h1 a0 (v0) (.int (nI 1))) [0, 1] rfl rfl mok_yJx4a65c_elementData_915e3 w_1423 w_1424 w_1425 (rcv hK hP 0 rfl rfl rfl) ⟨Nat.le_of_ble_eq_true rfl, Nat.le_of_ble_eq_true rfl⟩ rfl hl.1 rfl (Nat.le_of_ble_eq_true rfl) dJx4a65c_get_915e3_11 ⟨(Nat.le_of_ble_eq_true rfl), (Nat.le_of_ble_eq_true rfl)⟩) hP hD hS hA [0, 1] [] rfl rfl rfl (by decide) (w2 := fun u1 => [(h0, .inr (13, [v0, .ref h1, .int (nI 1)])), (h1, .inl (K 4, 10, .inr (.inr (.inr (.inr (va_up (fun _ => none) 0 (some a0)))))))]) (fun _ => rfl) (fun u1 H locs hP hD hS => ?_)
  refine w_tov (y := .ref a0) rfl ?_
  exact e_q hx hb hr (Or.inl ⟨_, rfl⟩) hlk hP hD hS (fun _ => 0) rfl (Nat.le_of_ble_eq_true rfl) (Nat.le_of_ble_eq_true rfl) (v := .ref a0) (r := fun u => (some a0)) rfl dJx4a65c_get_915e3_14
set_option maxHeartbeats 4000000 in
set_option maxRecDepth 100000 in
theorem C114_last (l : Launch) (G : Nat → Nat) (D : va_G) (K : Nat → ClassId) (sz : Nat) (h0 h1 h2 h3 h4 : Nat) (v0 v1 v2 v3 v4 v5 v6 v7 v8 v9 v10 v11 v12 v13 v14 v15 v16 v17 : Value) (f0 : Nat → Int32) : CM l yX12_last cX12_last 1 (some (FieldType.array FieldType.int)) ({ frames := 3, cells := 0, slots := 0, locals := 64 } : Room) G D K [.ref h0] [(h0, .inr (12, [v0, .ref h1])), (h1, .inr (10, [v1, .ref h2, v2, v3, v4, v5, v6, v7, v8, v9, v10, v11, v12, v13, v14, v15, v16])), (h2, .inr (13, [v17, .ref h3, .int (nI 1)])), (h3, .inl (K 4, 10, .inr (.inr (.inr (.inr (va_up (fun _ => none) 0 (some h4))))))), (h4, .inl (K 2, 4, .inl f0))] sz (CQq (fun u => (some h4)) D (fun _ => [(h0, .inr (12, [v0, .ref h1])), (h1, .inr (10, [v1, .ref h2, v2, v3, v4, v5, v6, v7, v8, v9, v10, v11, v12, v13, v14, v15, v16])), (h4, .inl (K 2, 4, .inl f0)), (h2, .inr (13, [v17, .ref h3, .int (nI 1)])), (h3, .inl (K 4, 10, .inr (.inr (.inr (.inr (va_up (fun _ => none) 0 (some h4)))))))])) := by
  refine CM_of (lv0 := [(0, .ref h0)]) pn_RX12 (Nat.le_of_ble_eq_true rfl) rfl (fun p e s m args below meth c A ls hx hb hr hml hown hts hlk hnm hP hK hD hS hA hm hl => ?_)
  have hown : s.vm.findClass RX12 = some m.cls := hown
  refine lv_aload_n hx hb dX12_last_0 rfl (lv_at hl 0 rfl) ?_
  refine r_get hx hb hts ok_RX12 hown hK hP 0 rfl rfl 1 (by decide) w_1294 (fun _ h9 => h9) rfl dX12_last_1 ?_
  refine r_get hx hb hts ok_RX10 hown hK hP 1 rfl rfl 1 (by decide) w_1227 (fun _ h9 => h9) rfl dX12_last_4 ?_
  refine lv_aload_n hx hb dX12_last_7 rfl (lv_at hl 0 rfl) ?_
  refine r_get hx hb hts ok_RX12 hown hK hP 0 rfl rfl 1 (by decide) w_1294 (fun _ h9 => h9) rfl dX12_last_8 ?_
  refine r_get hx hb hts ok_RX10 hown hK hP 1 rfl rfl 1 (by decide) w_1227 (fun _ h9 => h9) rfl dX12_last_11 ?_
  refine k_i (wr := [(h0, .inr (12, [v0, .ref h1])), (h1, .inr (10, [v1, .ref h2, v2, v3, v4, v5, v6, v7, v8, v9, v10, v11, v12, v13, v14, v15, v16])), (h3, .inl (K 4, 10, .inr (.inr (.inr (.inr (va_up (fun _ => none) 0 (some h4))))))), (h4, .inl (K 2, 4, .inl f0))]) (run_V (rest := [.ref h2]) hx hb hml hown hts hK hP hD hS hA hm (C23_size l G D K s.heap.size h2 (v17) (.ref h3)) [2] rfl rfl mok_yJx4a65c_size_8abf5 w_1308 w_1309 w_1310 (rcv hK hP 2 rfl rfl rfl) ⟨Nat.le_of_ble_eq_true rfl, Nat.le_of_ble_eq_true rfl⟩ rfl hl.1 rfl (Nat.le_of_ble_eq_true rfl) dX12_last_14 ⟨(Nat.le_of_ble_eq_true rfl), (Nat.le_of_ble_eq_true rfl)⟩) hP hD hS hA [2] [0, 1, 3, 4] rfl rfl rfl (by decide) (w2 := fun u0 => [(h0, .inr (12, [v0, .ref h1])), (h1, .inr (10, [v1, .ref h2, v2, v3, v4, v5, v6, v7, v8, v9, v10, v11, v12, v13, v14, v15, v16])), (h3, .inl (K 4, 10, .inr (.inr (.inr (.inr (va_up (fun _ => none) 0 (some h4))))))), (h4, .inl (K 2, 4, .inl f0)), (h2, .inr (13, [v17, .ref h3, .int (nI 1)]))]) (fun _ => rfl) (fun u0 H locs hP hD hS => ?_)
  refine lv_iconst (v := nI 1) hx hb dX12_last_17 (by decide +kernel) ?_
  refine lv_isub hx hb dX12_last_18 ?_
  refine w_toeq (show (nI 1) - (nI 1) = nI 0 by decide +kernel) ?_
  refine k_q (wr := [(h0, .inr (12, [v0, .ref h1])), (h1, .inr (10, [v1, .ref h2, v2, v3, v4, v5, v6, v7, v8, v9, v10, v11, v12, v13, v14, v15, v16])), (h4, .inl (K 2, 4, .inl f0))]) (run_V (rest := []) hx hb hml hown hts hK hP hD hS hA hm (C113_get l G D K H.size h2 h3 h4 (v17)) [4, 2] rfl rfl mok_yJx4a65c_get_915e3 w_1883 w_1420 w_1421 (rcv hK hP 4 rfl rfl rfl) ⟨Nat.le_of_ble_eq_true rfl, Nat.le_of_ble_eq_true rfl⟩ rfl hl.1 rfl (Nat.le_of_ble_eq_true rfl) dX12_last_19 ⟨(Nat.le_of_ble_eq_true rfl), (Nat.le_of_ble_eq_true rfl)⟩) hP hD hS hA [4, 2] [0, 1, 3] rfl rfl rfl (by decide) (w2 := fun u1 => [(h0, .inr (12, [v0, .ref h1])), (h1, .inr (10, [v1, .ref h2, v2, v3, v4, v5, v6, v7, v8, v9, v10, v11, v12, v13, v14, v15, v16])), (h4, .inl (K 2, 4, .inl f0)), (h2, .inr (13, [v17, .ref h3, .int (nI 1)])), (h3, .inl (K 4, 10, .inr (.inr (.inr (.inr (va_up (fun _ => none) 0 (some h4)))))))]) (fun _ => rfl) (fun u1 H locs hP hD hS => ?_)
  refine w_tov (y := .ref h4) rfl ?_
  refine va_castA hx hb hown (hts _ w_1884) hP 2 rfl (nm_int hK) dX12_last_22 ?_
  exact e_q hx hb hr (Or.inr ⟨_, rfl⟩) hlk hP hD hS (fun _ => 0) rfl (Nat.le_of_ble_eq_true rfl) (Nat.le_of_ble_eq_true rfl) (v := .ref h4) (r := fun u => (some h4)) rfl dX12_last_25
set_option maxHeartbeats 4000000 in
set_option maxRecDepth 100000 in
theorem C115_make (l : Launch) (G : Nat → Nat) (D : va_G) (K : Nat → ClassId) (sz : Nat) (h0 h1 h2 h3 h4 h5 : Nat) (v0 v1 v2 v3 v4 v5 v6 v7 v8 v9 v10 v11 v12 v13 : Value) (f0 : Nat → Int32) (j0 : Nat) (lj0 : 0 ≤ j0) (gj0 : j0 ≤ 3) : CM l yX12_make cX12_make 6 (some FieldType.int) ({ frames := 6, cells := 3, slots := 21, locals := 133 } : Room) G D K [.ref h0, .int (nI j0), .int (nI 0), .int (nI 0)] [(h0, .inr (12, [.int (nI 0), .ref h1])), (h1, .inr (10, [.ref h2, .ref h3, v0, v1, v2, .int (nI 0), .int (nI 0), v3, v4, v5, v6, v7, v8, v9, v10, v11, v12])), (h2, .inr (13, [.int (nI 0), .ref (G 0), .int (nI 0)])), (h3, .inr (13, [v13, .ref h4, .int (nI 1)])), (h4, .inl (K 4, 10, .inr (.inr (.inr (.inr (va_up (fun _ => none) 0 (some h5))))))), (h5, .inl (K 2, 4, .inl f0))] sz (CQi (nI 0) D (fun u => [(h2, .inr (13, [.int (nI 1), .ref (u 2), .int (nI 1)])), ((u 2), .inl (K 4, 10, .inr (.inr (.inr (.inr (va_up (fun _ => none) 0 (some (u 0)))))))), ((u 0), .inr (11, [.int (nI 0), .ref (u 1), .int (nI 0), .int (nI 1), .int (nI 0), .int (nI 0), .int (-1), .int (nI 2), .int (nI 0), .int (nI 0), .int (nI 0)])), ((u 1), .inl (K 2, 0, .inl (fun _ => nI 0))), (h0, .inr (12, [.int (nI 0), .ref h1])), (h1, .inr (10, [.ref h2, .ref h3, v0, v1, v2, .int (nI 0), .int (nI 2), v3, v4, v5, v6, v7, v8, v9, v10, v11, v12])), (h5, .inl (K 2, 4, .inl (upd f0 j0 (nI 0)))), (h3, .inr (13, [v13, .ref h4, .int (nI 1)])), (h4, .inl (K 4, 10, .inr (.inr (.inr (.inr (va_up (fun _ => none) 0 (some h5)))))))])) := by
  refine CM_of (lv0 := [(0, .ref h0), (1, .int (nI j0)), (2, .int (nI 0)), (3, .int (nI 0))]) pn_RX12 (Nat.le_of_ble_eq_true rfl) rfl (fun p e s m args below meth c A ls hx hb hr hml hown hts hlk hnm hP hK hD hS hA hm hl => ?_)
  have hown : s.vm.findClass RX12 = some m.cls := hown
  refine lv_iload_n hx hb dX12_make_0 rfl (lv_at hl 2 rfl) ?_
  refine lv_iconst (v := nI 3) hx hb dX12_make_1 (by decide +kernel) ?_
  refine lv_icmp_ne (tgt := 9) hx hb dX12_make_2 (by decide) (fun _ => ?_) (fun c9 => absurd c9 (by decide +kernel))
  refine lv_iload_n hx hb dX12_make_9 rfl (lv_at hl 2 rfl) ?_
  refine lv_iconst (v := nI 1) hx hb dX12_make_10 (by decide +kernel) ?_
  refine lv_icmp_eq (tgt := 19) hx hb dX12_make_11 (by decide) (fun c9 => absurd c9 (by decide +kernel)) (fun _ => ?_)
  refine lv_iload_n hx hb dX12_make_14 rfl (lv_at hl 2 rfl) ?_
  refine lv_iconst (v := nI 2) hx hb dX12_make_15 (by decide +kernel) ?_
  refine lv_icmp_ne (tgt := 23) hx hb dX12_make_16 (by decide) (fun _ => ?_) (fun c9 => absurd c9 (by decide +kernel))
  refine lv_iconst (v := nI 0) hx hb dX12_make_23 (by decide +kernel) ?_
  refine lv_istore (lv' := [(4, .int (nI 0)), (0, .ref h0), (1, .int (nI j0)), (2, .int (nI 0)), (3, .int (nI 0))]) hx hb dX12_make_24 hl (by decide) rfl (fun ls hl => ?_)
  refine lv_aload_n hx hb dX12_make_26 rfl (lv_at hl 1 rfl) ?_
  refine lv_iload_n hx hb dX12_make_27 rfl (lv_at hl 2 rfl) ?_
  refine k_i (wr := [(h1, .inr (10, [.ref h2, .ref h3, v0, v1, v2, .int (nI 0), .int (nI 0), v3, v4, v5, v6, v7, v8, v9, v10, v11, v12])), (h2, .inr (13, [.int (nI 0), .ref (G 0), .int (nI 0)])), (h3, .inr (13, [v13, .ref h4, .int (nI 1)])), (h4, .inl (K 4, 10, .inr (.inr (.inr (.inr (va_up (fun _ => none) 0 (some h5))))))), (h5, .inl (K 2, 4, .inl f0))]) (run_V (rest := []) hx hb hml hown hts hK hP hD hS hA hm (C74_isNoSlot l G D K s.heap.size h0 (.ref h1) j0 (by omega) (by omega)) [0] rfl rfl mok_yX12_isNoSlot w_1345 w_1347 w_p33 (rcv hK hP 0 rfl rfl rfl) ⟨Nat.le_of_ble_eq_true rfl, Nat.le_of_ble_eq_true rfl⟩ rfl hl.1 rfl (Nat.le_of_ble_eq_true rfl) dX12_make_28 ⟨(Nat.le_of_ble_eq_true rfl), (Nat.le_of_ble_eq_true rfl)⟩) hP hD hS hA [0] [1, 2, 3, 4, 5] rfl rfl rfl (by decide) (w2 := fun u0 => [(h1, .inr (10, [.ref h2, .ref h3, v0, v1, v2, .int (nI 0), .int (nI 0), v3, v4, v5, v6, v7, v8, v9, v10, v11, v12])), (h2, .inr (13, [.int (nI 0), .ref (G 0), .int (nI 0)])), (h3, .inr (13, [v13, .ref h4, .int (nI 1)])), (h4, .inl (K 4, 10, .inr (.inr (.inr (.inr (va_up (fun _ => none) 0 (some h5))))))), (h5, .inl (K 2, 4, .inl f0)), (h0, .inr (12, [.int (nI 0), .ref h1]))]) (fun _ => rfl) (fun u0 H locs hP hD hS => ?_)
  refine lv_if_ne (tgt := 96) hx hb dX12_make_31 (by decide) (fun c9 => absurd (by decide +kernel) c9) (fun _ => ?_)
  refine lv_aload_n hx hb dX12_make_34 rfl (lv_at hl 1 rfl) ?_
  refine lv_iload_n hx hb dX12_make_35 rfl (lv_at hl 3 rfl) ?_
  refine lv_iconst (v := nI 0) hx hb dX12_make_36 (by decide +kernel) ?_
  refine lv_iconst (v := nI 4) hx hb dX12_make_37 (by decide +kernel) ?_
  refine k_i (wr := [(h1, .inr (10, [.ref h2, .ref h3, v0, v1, v2, .int (nI 0), .int (nI 0), v3, v4, v5, v6, v7, v8, v9, v10, v11, v12])), (h2, .inr (13, [.int (nI 0), .ref (G 0), .int (nI 0)])), (h3, .inr (13, [v13, .ref h4, .int (nI 1)])), (h4, .inl (K 4, 10, .inr (.inr (.inr (.inr (va_up (fun _ => none) 0 (some h5))))))), (h5, .inl (K 2, 4, .inl f0)), (h0, .inr (12, [.int (nI 0), .ref h1]))]) (run_S (rest := [.ref h0]) hx hb hml hown hts hK hP hD hS hA hm (C83_isIn l G D K H.size) [] rfl rfl mok_yX12_isIn w_1352 w_1353 ⟨Nat.le_of_ble_eq_true rfl, Nat.le_of_ble_eq_true rfl⟩ rfl hl.1 rfl (Nat.le_of_ble_eq_true rfl) dX12_make_38 ⟨(Nat.le_of_ble_eq_true rfl), (Nat.le_of_ble_eq_true rfl)⟩) hP hD hS hA [] [0, 1, 2, 3, 4, 5] rfl rfl rfl (by decide) (w2 := fun u1 => [(h1, .inr (10, [.ref h2, .ref h3, v0, v1, v2, .int (nI 0), .int (nI 0), v3, v4, v5, v6, v7, v8, v9, v10, v11, v12])), (h2, .inr (13, [.int (nI 0), .ref (G 0), .int (nI 0)])), (h3, .inr (13, [v13, .ref h4, .int (nI 1)])), (h4, .inl (K 4, 10, .inr (.inr (.inr (.inr (va_up (fun _ => none) 0 (some h5))))))), (h5, .inl (K 2, 4, .inl f0)), (h0, .inr (12, [.int (nI 0), .ref h1]))]) (fun _ => rfl) (fun u1 H locs hP hD hS => ?_)
  refine lv_if_eq (tgt := 55) hx hb dX12_make_41 (by decide) (fun c9 => absurd c9 (by decide +kernel)) (fun _ => ?_)
  refine lv_iload_n hx hb dX12_make_44 rfl (lv_at hl 4 rfl) ?_
  refine lv_iload hx hb dX12_make_45 (lv_at hl 0 rfl) ?_
  refine lv_bipush (v := nI 20) hx hb dX12_make_47 (by decide +kernel) ?_
  refine k_i (wr := [(h1, .inr (10, [.ref h2, .ref h3, v0, v1, v2, .int (nI 0), .int (nI 0), v3, v4, v5, v6, v7, v8, v9, v10, v11, v12])), (h2, .inr (13, [.int (nI 0), .ref (G 0), .int (nI 0)])), (h3, .inr (13, [v13, .ref h4, .int (nI 1)])), (h4, .inl (K 4, 10, .inr (.inr (.inr (.inr (va_up (fun _ => none) 0 (some h5))))))), (h5, .inl (K 2, 4, .inl f0)), (h0, .inr (12, [.int (nI 0), .ref h1]))]) (run_S (rest := [.ref h0]) hx hb hml hown hts hK hP hD hS hA hm (C100_isIn l G D K H.size) [] rfl rfl mok_yX12_isIn w_1352 w_1353 ⟨Nat.le_of_ble_eq_true rfl, Nat.le_of_ble_eq_true rfl⟩ rfl hl.1 rfl (Nat.le_of_ble_eq_true rfl) dX12_make_49 ⟨(Nat.le_of_ble_eq_true rfl), (Nat.le_of_ble_eq_true rfl)⟩) hP hD hS hA [] [0, 1, 2, 3, 4, 5] rfl rfl rfl (by decide) (w2 := fun u2 => [(h1, .inr (10, [.ref h2, .ref h3, v0, v1, v2, .int (nI 0), .int (nI 0), v3, v4, v5, v6, v7, v8, v9, v10, v11, v12])), (h2, .inr (13, [.int (nI 0), .ref (G 0), .int (nI 0)])), (h3, .inr (13, [v13, .ref h4, .int (nI 1)])), (h4, .inl (K 4, 10, .inr (.inr (.inr (.inr (va_up (fun _ => none) 0 (some h5))))))), (h5, .inl (K 2, 4, .inl f0)), (h0, .inr (12, [.int (nI 0), .ref h1]))]) (fun _ => rfl) (fun u2 H locs hP hD hS => ?_)
  refine lv_if_ne (tgt := 59) hx hb dX12_make_52 (by decide) (fun _ => ?_) (fun c9 => absurd c9 (by decide +kernel))
  refine lv_iconst (v := nI 0) hx hb dX12_make_59 (by decide +kernel) ?_
  refine lv_iconst (v := nI 2) hx hb dX12_make_60 (by decide +kernel) ?_
  refine k_i (wr := [(h1, .inr (10, [.ref h2, .ref h3, v0, v1, v2, .int (nI 0), .int (nI 0), v3, v4, v5, v6, v7, v8, v9, v10, v11, v12])), (h2, .inr (13, [.int (nI 0), .ref (G 0), .int (nI 0)])), (h3, .inr (13, [v13, .ref h4, .int (nI 1)])), (h4, .inl (K 4, 10, .inr (.inr (.inr (.inr (va_up (fun _ => none) 0 (some h5))))))), (h5, .inl (K 2, 4, .inl f0))]) (run_V (rest := []) hx hb hml hown hts hK hP hD hS hA hm (C101_refuse l G D K H.size h0 (.ref h1)) [5] rfl rfl mok_yX12_refuse w_1316 w_1318 w_p31 (rcv hK hP 5 rfl rfl rfl) ⟨Nat.le_of_ble_eq_true rfl, Nat.le_of_ble_eq_true rfl⟩ rfl hl.1 rfl (Nat.le_of_ble_eq_true rfl) dX12_make_61 ⟨(Nat.le_of_ble_eq_true rfl), (Nat.le_of_ble_eq_true rfl)⟩) hP hD hS hA [5] [0, 1, 2, 3, 4] rfl rfl rfl (by decide) (w2 := fun u3 => [(h1, .inr (10, [.ref h2, .ref h3, v0, v1, v2, .int (nI 0), .int (nI 0), v3, v4, v5, v6, v7, v8, v9, v10, v11, v12])), (h2, .inr (13, [.int (nI 0), .ref (G 0), .int (nI 0)])), (h3, .inr (13, [v13, .ref h4, .int (nI 1)])), (h4, .inl (K 4, 10, .inr (.inr (.inr (.inr (va_up (fun _ => none) 0 (some h5))))))), (h5, .inl (K 2, 4, .inl f0)), (h0, .inr (12, [.int (nI 0), .ref h1]))]) (fun _ => rfl) (fun u3 H locs hP hD hS => ?_)
  refine lv_if_ne (tgt := 96) hx hb dX12_make_64 (by decide) (fun c9 => absurd (by decide +kernel) c9) (fun _ => ?_)
  refine lv_aload_n hx hb dX12_make_67 rfl (lv_at hl 1 rfl) ?_
  refine lv_aload_n hx hb dX12_make_68 rfl (lv_at hl 1 rfl) ?_
  refine r_get hx hb hts ok_RX12 hown hK hP 5 rfl rfl 1 (by decide) w_1294 (fun _ h9 => h9) rfl dX12_make_69 ?_
  refine r_get hx hb hts ok_RX10 hown hK hP 0 rfl rfl 0 (by decide) w_1225 (fun _ h9 => h9) rfl dX12_make_72 ?_
  refine k_i (wr := [(h1, .inr (10, [.ref h2, .ref h3, v0, v1, v2, .int (nI 0), .int (nI 0), v3, v4, v5, v6, v7, v8, v9, v10, v11, v12])), (h3, .inr (13, [v13, .ref h4, .int (nI 1)])), (h4, .inl (K 4, 10, .inr (.inr (.inr (.inr (va_up (fun _ => none) 0 (some h5))))))), (h5, .inl (K 2, 4, .inl f0)), (h0, .inr (12, [.int (nI 0), .ref h1]))]) (run_V (rest := [.ref h0]) hx hb hml hown hts hK hP hD hS hA hm (C102_size l G D K H.size h2 (.int (nI 0)) (.ref (G 0))) [1] rfl rfl mok_yJx4a65c_size_8abf5 w_1308 w_1309 w_1310 (rcv hK hP 1 rfl rfl rfl) ⟨Nat.le_of_ble_eq_true rfl, Nat.le_of_ble_eq_true rfl⟩ rfl hl.1 rfl (Nat.le_of_ble_eq_true rfl) dX12_make_75 ⟨(Nat.le_of_ble_eq_true rfl), (Nat.le_of_ble_eq_true rfl)⟩) hP hD hS hA [1] [0, 2, 3, 4, 5] rfl rfl rfl (by decide) (w2 := fun u4 => [(h1, .inr (10, [.ref h2, .ref h3, v0, v1, v2, .int (nI 0), .int (nI 0), v3, v4, v5, v6, v7, v8, v9, v10, v11, v12])), (h3, .inr (13, [v13, .ref h4, .int (nI 1)])), (h4, .inl (K 4, 10, .inr (.inr (.inr (.inr (va_up (fun _ => none) 0 (some h5))))))), (h5, .inl (K 2, 4, .inl f0)), (h0, .inr (12, [.int (nI 0), .ref h1])), (h2, .inr (13, [.int (nI 0), .ref (G 0), .int (nI 0)]))]) (fun _ => rfl) (fun u4 H locs hP hD hS => ?_)
  refine lv_sipush (v := nI 200) hx hb dX12_make_78 (by decide +kernel) ?_
  refine lv_icmp_ne (tgt := 88) hx hb dX12_make_81 (by decide) (fun _ => ?_) (fun c9 => absurd c9 (by decide +kernel))
  refine lv_iconst (v := nI 0) hx hb dX12_make_88 (by decide +kernel) ?_
  refine lv_iconst (v := nI 3) hx hb dX12_make_89 (by decide +kernel) ?_
  refine k_i (wr := [(h1, .inr (10, [.ref h2, .ref h3, v0, v1, v2, .int (nI 0), .int (nI 0), v3, v4, v5, v6, v7, v8, v9, v10, v11, v12])), (h3, .inr (13, [v13, .ref h4, .int (nI 1)])), (h4, .inl (K 4, 10, .inr (.inr (.inr (.inr (va_up (fun _ => none) 0 (some h5))))))), (h5, .inl (K 2, 4, .inl f0)), (h2, .inr (13, [.int (nI 0), .ref (G 0), .int (nI 0)]))]) (run_V (rest := []) hx hb hml hown hts hK hP hD hS hA hm (C103_refuse l G D K H.size h0 (.ref h1)) [4] rfl rfl mok_yX12_refuse w_1316 w_1318 w_p31 (rcv hK hP 4 rfl rfl rfl) ⟨Nat.le_of_ble_eq_true rfl, Nat.le_of_ble_eq_true rfl⟩ rfl hl.1 rfl (Nat.le_of_ble_eq_true rfl) dX12_make_90 ⟨(Nat.le_of_ble_eq_true rfl), (Nat.le_of_ble_eq_true rfl)⟩) hP hD hS hA [4] [0, 1, 2, 3, 5] rfl rfl rfl (by decide) (w2 := fun u5 => [(h1, .inr (10, [.ref h2, .ref h3, v0, v1, v2, .int (nI 0), .int (nI 0), v3, v4, v5, v6, v7, v8, v9, v10, v11, v12])), (h3, .inr (13, [v13, .ref h4, .int (nI 1)])), (h4, .inl (K 4, 10, .inr (.inr (.inr (.inr (va_up (fun _ => none) 0 (some h5))))))), (h5, .inl (K 2, 4, .inl f0)), (h2, .inr (13, [.int (nI 0), .ref (G 0), .int (nI 0)])), (h0, .inr (12, [.int (nI 0), .ref h1]))]) (fun _ => rfl) (fun u5 H locs hP hD hS => ?_)
  refine lv_if_eq (tgt := 98) hx hb dX12_make_93 (by decide) (fun _ => ?_) (fun c9 => absurd (by decide +kernel) c9)
  refine lv_aload_n hx hb dX12_make_98 rfl (lv_at hl 1 rfl) ?_
  refine r_get hx hb hts ok_RX12 hown hK hP 5 rfl rfl 1 (by decide) w_1294 (fun _ h9 => h9) rfl dX12_make_99 ?_
  refine lv_iload_n hx hb dX12_make_102 rfl (lv_at hl 3 rfl) ?_
  refine lv_iload_n hx hb dX12_make_103 rfl (lv_at hl 4 rfl) ?_
  refine k_i (wr := [(h3, .inr (13, [v13, .ref h4, .int (nI 1)])), (h4, .inl (K 4, 10, .inr (.inr (.inr (.inr (va_up (fun _ => none) 0 (some h5))))))), (h5, .inl (K 2, 4, .inl f0)), (h0, .inr (12, [.int (nI 0), .ref h1]))]) (run_V (rest := []) hx hb hml hown hts hK hP hD hS hA hm (C109_make l G D K H.size h1 h2 (.ref h3) (v0) (v1) (v2) (v3) (v4) (v5) (v6) (v7) (v8) (v9) (v10) (v11) (v12) (nI 0)) [0, 4] rfl rfl mok_yX10_make w_1355 w_1356 w_1357 (rcv hK hP 0 rfl rfl rfl) ⟨Nat.le_of_ble_eq_true rfl, Nat.le_of_ble_eq_true rfl⟩ rfl hl.1 rfl (Nat.le_of_ble_eq_true rfl) dX12_make_104 ⟨(Nat.le_of_ble_eq_true rfl), (Nat.le_of_ble_eq_true rfl)⟩) hP hD hS hA [0, 4] [1, 2, 3, 5] rfl rfl rfl (by decide) (w2 := fun u6 => [(h3, .inr (13, [v13, .ref h4, .int (nI 1)])), (h4, .inl (K 4, 10, .inr (.inr (.inr (.inr (va_up (fun _ => none) 0 (some h5))))))), (h5, .inl (K 2, 4, .inl f0)), (h0, .inr (12, [.int (nI 0), .ref h1])), (h1, .inr (10, [.ref h2, .ref h3, v0, v1, v2, .int (nI 0), .int (nI 2), v3, v4, v5, v6, v7, v8, v9, v10, v11, v12])), (h2, .inr (13, [.int (nI 1), .ref (u6 2), .int (nI 1)])), ((u6 2), .inl (K 4, 10, .inr (.inr (.inr (.inr (va_up (fun _ => none) 0 (some (u6 0)))))))), ((u6 0), .inr (11, [.int (nI 0), .ref (u6 1), .int (nI 0), .int (nI 1), .int (nI 0), .int (nI 0), .int (-1), .int (nI 2), .int (nI 0), .int (nI 0), .int (nI 0)])), ((u6 1), .inl (K 2, 0, .inl (fun _ => nI 0)))]) (fun _ => rfl) (fun u6 H locs hP hD hS => ?_)
  refine lv_istore (lv' := [(5, .int (nI 0)), (4, .int (nI 0)), (0, .ref h0), (1, .int (nI j0)), (2, .int (nI 0)), (3, .int (nI 0))]) hx hb dX12_make_107 hl (by decide) rfl (fun ls hl => ?_)
  refine lv_iload hx hb dX12_make_109 (lv_at hl 0 rfl) ?_
  refine lv_iconst (v := (-1)) hx hb dX12_make_111 (by decide +kernel) ?_
  refine lv_icmp_eq (tgt := 123) hx hb dX12_make_112 (by decide) (fun c9 => absurd c9 (by decide +kernel)) (fun _ => ?_)
  refine lv_aload_n hx hb dX12_make_115 rfl (lv_at hl 2 rfl) ?_
  refine k_q (wr := [(h2, .inr (13, [.int (nI 1), .ref (u6 2), .int (nI 1)])), ((u6 2), .inl (K 4, 10, .inr (.inr (.inr (.inr (va_up (fun _ => none) 0 (some (u6 0)))))))), ((u6 0), .inr (11, [.int (nI 0), .ref (u6 1), .int (nI 0), .int (nI 1), .int (nI 0), .int (nI 0), .int (-1), .int (nI 2), .int (nI 0), .int (nI 0), .int (nI 0)])), ((u6 1), .inl (K 2, 0, .inl (fun _ => nI 0)))]) (run_V (rest := []) hx hb hml hown hts hK hP hD hS hA hm (C114_last l G D K H.size h0 h1 h3 h4 h5 (.int (nI 0)) (.ref h2) (v0) (v1) (v2) (.int (nI 0)) (.int (nI 2)) (v3) (v4) (v5) (v6) (v7) (v8) (v9) (v10) (v11) (v12) (v13) f0) [3, 4, 0, 1, 2] rfl rfl mok_yX12_last w_1879 w_1881 w_p50 (rcv hK hP 3 rfl rfl rfl) ⟨Nat.le_of_ble_eq_true rfl, Nat.le_of_ble_eq_true rfl⟩ rfl hl.1 rfl (Nat.le_of_ble_eq_true rfl) dX12_make_116 ⟨(Nat.le_of_ble_eq_true rfl), (Nat.le_of_ble_eq_true rfl)⟩) hP hD hS hA [3, 4, 0, 1, 2] [5, 6, 7, 8] rfl rfl rfl (by decide) (w2 := fun u7 => [(h2, .inr (13, [.int (nI 1), .ref (u6 2), .int (nI 1)])), ((u6 2), .inl (K 4, 10, .inr (.inr (.inr (.inr (va_up (fun _ => none) 0 (some (u6 0)))))))), ((u6 0), .inr (11, [.int (nI 0), .ref (u6 1), .int (nI 0), .int (nI 1), .int (nI 0), .int (nI 0), .int (-1), .int (nI 2), .int (nI 0), .int (nI 0), .int (nI 0)])), ((u6 1), .inl (K 2, 0, .inl (fun _ => nI 0))), (h0, .inr (12, [.int (nI 0), .ref h1])), (h1, .inr (10, [.ref h2, .ref h3, v0, v1, v2, .int (nI 0), .int (nI 2), v3, v4, v5, v6, v7, v8, v9, v10, v11, v12])), (h5, .inl (K 2, 4, .inl f0)), (h3, .inr (13, [v13, .ref h4, .int (nI 1)])), (h4, .inl (K 4, 10, .inr (.inr (.inr (.inr (va_up (fun _ => none) 0 (some h5)))))))]) (fun _ => rfl) (fun u7 H locs hP hD hS => ?_)
  refine w_tov (y := .ref h5) rfl ?_
  refine lv_iload_n hx hb dX12_make_119 rfl (lv_at hl 3 rfl) ?_
  refine lv_iload hx hb dX12_make_120 (lv_at hl 0 rfl) ?_
  refine r_iast (k := j0) hx hb hK hP hD hS 6 2 rfl rfl (by omega) (by decide) dX12_make_122 (ws' := [(h2, .inr (13, [.int (nI 1), .ref (u6 2), .int (nI 1)])), ((u6 2), .inl (K 4, 10, .inr (.inr (.inr (.inr (va_up (fun _ => none) 0 (some (u6 0)))))))), ((u6 0), .inr (11, [.int (nI 0), .ref (u6 1), .int (nI 0), .int (nI 1), .int (nI 0), .int (nI 0), .int (-1), .int (nI 2), .int (nI 0), .int (nI 0), .int (nI 0)])), ((u6 1), .inl (K 2, 0, .inl (fun _ => nI 0))), (h0, .inr (12, [.int (nI 0), .ref h1])), (h1, .inr (10, [.ref h2, .ref h3, v0, v1, v2, .int (nI 0), .int (nI 2), v3, v4, v5, v6, v7, v8, v9, v10, v11, v12])), (h5, .inl (K 2, 4, .inl (upd f0 j0 (nI 0)))), (h3, .inr (13, [v13, .ref h4, .int (nI 1)])), (h4, .inl (K 4, 10, .inr (.inr (.inr (.inr (va_up (fun _ => none) 0 (some h5)))))))]) rfl (fun H locs hP hD hS => ?_)
  refine lv_iload hx hb dX12_make_123 (lv_at hl 0 rfl) ?_
  exact e_i hx hb hr hlk hP hD hS (fun k => match k with | 0 => (u6 0) | 1 => (u6 1) | 2 => (u6 2) | _ => 0) rfl (Nat.le_of_ble_eq_true rfl) (Nat.le_of_ble_eq_true rfl) rfl dX12_make_125
set_option maxHeartbeats 4000000 in
set_option maxRecDepth 100000 in
theorem C116_gapFor (l : Launch) (G : Nat → Nat) (D : va_G) (K : Nat → ClassId) (sz : Nat) (h0 : Nat) (v0 v1 v2 v3 v4 v5 : Value) : CM l yX3_gapFor cX3_gapFor 3 (some FieldType.int) ({ frames := 0, cells := 0, slots := 0, locals := 0 } : Room) G D K [.ref h0, .int (nI 1)] [(h0, .inr (3, [v0, v1, v2, .int (nI 0), .int (nI 0), v3, v4, v5]))] sz (CQi (nI 0) D (fun _ => [(h0, .inr (3, [v0, v1, v2, .int (nI 0), .int (nI 0), v3, v4, v5]))])) := by
  refine CM_of (lv0 := [(0, .ref h0), (1, .int (nI 1))]) pn_RX3 (Nat.le_of_ble_eq_true rfl) rfl (fun p e s m args below meth c A ls hx hb hr hml hown hts hlk hnm hP hK hD hS hA hm hl => ?_)
  have hown : s.vm.findClass RX3 = some m.cls := hown
  refine lv_iconst (v := nI 2) hx hb dX3_gapFor_0 (by decide +kernel) ?_
  refine lv_iload_n hx hb dX3_gapFor_1 rfl (lv_at hl 1 rfl) ?_
  refine lv_iadd hx hb dX3_gapFor_2 ?_
  refine w_toeq (show (nI 2) + (nI 1) = nI 3 by decide +kernel) ?_
  refine lv_istore_n (lv' := [(2, .int (nI 3)), (0, .ref h0), (1, .int (nI 1))]) hx hb dX3_gapFor_3 rfl hl (by decide) rfl (fun ls hl => ?_)
  refine lv_iload_n hx hb dX3_gapFor_4 rfl (lv_at hl 2 rfl) ?_
  refine lv_bipush (v := nI 12) hx hb dX3_gapFor_5 (by decide +kernel) ?_
  refine lv_icmp_lt (tgt := 16) hx hb dX3_gapFor_7 (by decide) (fun _ => ?_) (fun c9 => absurd (by decide +kernel) c9)
  refine lv_aload_n hx hb dX3_gapFor_16 rfl (lv_at hl 1 rfl) ?_
  refine r_get hx hb hts ok_RX3 hown hK hP 0 rfl rfl 4 (by decide) w_104 (fun _ h9 => h9) rfl dX3_gapFor_17 ?_
  refine lv_iload_n hx hb dX3_gapFor_20 rfl (lv_at hl 0 rfl) ?_
  refine lv_iadd hx hb dX3_gapFor_21 ?_
  refine w_toeq (show (nI 0) + (nI 3) = nI 3 by decide +kernel) ?_
  refine lv_aload_n hx hb dX3_gapFor_22 rfl (lv_at hl 1 rfl) ?_
  refine r_get hx hb hts ok_RX3 hown hK hP 0 rfl rfl 3 (by decide) w_102 (fun _ h9 => h9) rfl dX3_gapFor_23 ?_
  refine lv_bipush (v := nI 40) hx hb dX3_gapFor_26 (by decide +kernel) ?_
  refine lv_iadd hx hb dX3_gapFor_28 ?_
  refine w_toeq (show (nI 0) + (nI 40) = nI 40 by decide +kernel) ?_
  refine lv_icmp_gt (tgt := 39) hx hb dX3_gapFor_29 (by decide) (fun c9 => absurd c9 (by decide +kernel)) (fun _ => ?_)
  refine lv_aload_n hx hb dX3_gapFor_32 rfl (lv_at hl 1 rfl) ?_
  refine r_get hx hb hts ok_RX3 hown hK hP 0 rfl rfl 4 (by decide) w_104 (fun _ h9 => h9) rfl dX3_gapFor_33 ?_
  refine lv_goto (tgt := 40) hx hb dX3_gapFor_36 (by decide) ?_
  exact e_i hx hb hr hlk hP hD hS (fun _ => 0) rfl (Nat.le_of_ble_eq_true rfl) (Nat.le_of_ble_eq_true rfl) rfl dX3_gapFor_40
set_option maxHeartbeats 4000000 in
set_option maxRecDepth 100000 in
theorem C117_init (l : Launch) (G : Nat → Nat) (D : va_G) (K : Nat → ClassId) (sz : Nat) (h0 : Nat) (v0 v1 v2 v3 v4 v5 v6 v7 v8 v9 v10 v11 v12 : Value) (o0 : Int32) : CM l yX7_init cX7_init 4 (none : Option FieldType) ({ frames := 1, cells := 1, slots := 1, locals := 20 } : Room) G D K [.ref h0, .int (nI 0), .int o0, .int (nI 1)] [(h0, .inr (7, [v0, v1, v2, v3, v4, .int (nI 0), v5, v6, v7, v8, v9, v10, v11, v12]))] sz (CQv D (fun u => [(h0, .inr (7, [.int (nI 0), .ref (u 0), .int o0, v3, v4, .int (nI 3), .int (nI 3), v6, .int (-1), v8, v9, v10, v11, v12])), ((u 0), .inl (K 0, 1, .inr (.inr (.inr (.inr (fun _ => none))))))])) := by
  refine CM_of (lv0 := [(0, .ref h0), (1, .int (nI 0)), (2, .int o0), (3, .int (nI 1))]) pn_RX7 (Nat.le_of_ble_eq_true rfl) rfl (fun p e s m args below meth c A ls hx hb hr hml hown hts hlk hnm hP hK hD hS hA hm hl => ?_)
  have hown : s.vm.findClass RX7 = some m.cls := hown
  refine lv_aload_n hx hb dX7_init_0 rfl (lv_at hl 0 rfl) ?_
  refine r_oinit hx hb hts hown w_807 w_44 w_45 hml hl.1 dX7_init_1 (Nat.le_of_ble_eq_true rfl) (Nat.le_of_ble_eq_true rfl) ?_
  refine lv_aload_n hx hb dX7_init_4 rfl (lv_at hl 0 rfl) ?_
  refine lv_iload_n hx hb dX7_init_5 rfl (lv_at hl 1 rfl) ?_
  refine r_putF hx hb hts ok_RX7 hown hK hP hD hS 0 rfl rfl 0 (by decide) w_809 (fun _ h9 => h9) rfl hnm rfl (v := .int (nI 0)) rfl rfl (Nat.le_of_ble_eq_true rfl) dX7_init_6 (ws' := [(h0, .inr (7, [.int (nI 0), v1, v2, v3, v4, .int (nI 0), v5, v6, v7, v8, v9, v10, v11, v12]))]) rfl (fun H locs hP hD hS => ?_)
  refine lv_aload_n hx hb dX7_init_9 rfl (lv_at hl 0 rfl) ?_
  refine lv_iload_n hx hb dX7_init_10 rfl (lv_at hl 2 rfl) ?_
  refine r_put hx hb hts ok_RX7 hown hK hP hD hS 0 rfl rfl 2 (by decide) w_817 (fun _ h9 => h9) rfl (v := .int o0) rfl rfl (Nat.le_of_ble_eq_true rfl) dX7_init_11 (ws' := [(h0, .inr (7, [.int (nI 0), v1, .int o0, v3, v4, .int (nI 0), v5, v6, v7, v8, v9, v10, v11, v12]))]) rfl (fun H locs hP hD hS => ?_)
  refine lv_aload_n hx hb dX7_init_14 rfl (lv_at hl 0 rfl) ?_
  refine lv_iload_n hx hb dX7_init_15 rfl (lv_at hl 3 rfl) ?_
  refine r_newq hx hb hts hown w_808 hm.2.2.1.1 hK hP hD hS hA 0 rfl (N := 1) (by decide +kernel) (by decide +kernel) (Nat.le_of_ble_eq_true rfl) (Nat.le_of_ble_eq_true rfl) (Nat.le_of_ble_eq_true rfl) dX7_init_16 (w2 := fun q0 => [(h0, .inr (7, [.int (nI 0), v1, .int o0, v3, v4, .int (nI 0), v5, v6, v7, v8, v9, v10, v11, v12])), (q0, .inl (K 0, 1, .inr (.inr (.inr (.inr (fun _ => none))))))]) (fun _ => rfl) (fun q0 H hP hD hS => ?_)
  refine r_putF hx hb hts ok_RX7 hown hK hP hD hS 0 rfl rfl 1 (by decide) w_811 (fun _ h9 => h9) rfl hnm rfl (v := .ref q0) rfl rfl (Nat.le_of_ble_eq_true rfl) dX7_init_19 (ws' := [(h0, .inr (7, [.int (nI 0), .ref q0, .int o0, v3, v4, .int (nI 0), v5, v6, v7, v8, v9, v10, v11, v12])), (q0, .inl (K 0, 1, .inr (.inr (.inr (.inr (fun _ => none))))))]) rfl (fun H locs hP hD hS => ?_)
  refine lv_aload_n hx hb dX7_init_22 rfl (lv_at hl 0 rfl) ?_
  refine lv_iconst (v := nI 2) hx hb dX7_init_23 (by decide +kernel) ?_
  refine lv_iload_n hx hb dX7_init_24 rfl (lv_at hl 3 rfl) ?_
  refine lv_iadd hx hb dX7_init_25 ?_
  refine w_toeq (show (nI 2) + (nI 1) = nI 3 by decide +kernel) ?_
  refine r_put hx hb hts ok_RX7 hown hK hP hD hS 0 rfl rfl 5 (by decide) w_834 (fun _ h9 => h9) rfl (v := .int (nI 3)) rfl rfl (Nat.le_of_ble_eq_true rfl) dX7_init_26 (ws' := [(h0, .inr (7, [.int (nI 0), .ref q0, .int o0, v3, v4, .int (nI 3), v5, v6, v7, v8, v9, v10, v11, v12])), (q0, .inl (K 0, 1, .inr (.inr (.inr (.inr (fun _ => none))))))]) rfl (fun H locs hP hD hS => ?_)
  refine lv_aload_n hx hb dX7_init_29 rfl (lv_at hl 0 rfl) ?_
  refine lv_aload_n hx hb dX7_init_30 rfl (lv_at hl 0 rfl) ?_
  refine r_get hx hb hts ok_RX7 hown hK hP 0 rfl rfl 5 (by decide) w_834 (fun _ h9 => h9) rfl dX7_init_31 ?_
  refine r_put hx hb hts ok_RX7 hown hK hP hD hS 0 rfl rfl 6 (by decide) w_839 (fun _ h9 => h9) rfl (v := .int (nI 3)) rfl rfl (Nat.le_of_ble_eq_true rfl) dX7_init_34 (ws' := [(h0, .inr (7, [.int (nI 0), .ref q0, .int o0, v3, v4, .int (nI 3), .int (nI 3), v6, v7, v8, v9, v10, v11, v12])), (q0, .inl (K 0, 1, .inr (.inr (.inr (.inr (fun _ => none))))))]) rfl (fun H locs hP hD hS => ?_)
  refine lv_aload_n hx hb dX7_init_37 rfl (lv_at hl 0 rfl) ?_
  refine lv_iconst (v := (-1)) hx hb dX7_init_38 (by decide +kernel) ?_
  refine r_put hx hb hts ok_RX7 hown hK hP hD hS 0 rfl rfl 8 (by decide) w_845 (fun _ h9 => h9) rfl (v := .int (-1)) rfl rfl (Nat.le_of_ble_eq_true rfl) dX7_init_39 (ws' := [(h0, .inr (7, [.int (nI 0), .ref q0, .int o0, v3, v4, .int (nI 3), .int (nI 3), v6, .int (-1), v8, v9, v10, v11, v12])), (q0, .inl (K 0, 1, .inr (.inr (.inr (.inr (fun _ => none))))))]) rfl (fun H locs hP hD hS => ?_)
  exact e_v hx hb hr hlk hP hD hS (fun k => match k with | 0 => q0 | _ => 0) rfl (Nat.le_of_ble_eq_true rfl) (Nat.le_of_ble_eq_true rfl) dX7_init_42
set_option maxHeartbeats 4000000 in
set_option maxRecDepth 100000 in
theorem C118_moveTo (l : Launch) (G : Nat → Nat) (D : va_G) (K : Nat → ClassId) (sz : Nat) (h0 : Nat) (v0 v1 v2 v3 v4 v5 v6 v7 v8 v9 v10 v11 v12 : Value) : CM l yX7_moveTo cX7_moveTo 3 (none : Option FieldType) ({ frames := 0, cells := 0, slots := 0, locals := 0 } : Room) G D K [.ref h0, .int (nI 1), .int (nI 0)] [(h0, .inr (7, [v0, v1, v2, v3, v4, v5, .int (nI 3), v6, v7, v8, v9, v10, v11, v12]))] sz (CQv D (fun _ => [(h0, .inr (7, [v0, v1, v2, .int (nI 1), .int (nI 0), .int (nI 3), .int (nI 3), v6, v7, v8, v9, v10, v11, v12]))])) := by
  refine CM_of (lv0 := [(0, .ref h0), (1, .int (nI 1)), (2, .int (nI 0))]) pn_RX7 (Nat.le_of_ble_eq_true rfl) rfl (fun p e s m args below meth c A ls hx hb hr hml hown hts hlk hnm hP hK hD hS hA hm hl => ?_)
  have hown : s.vm.findClass RX7 = some m.cls := hown
  refine lv_aload_n hx hb dX7_moveTo_0 rfl (lv_at hl 0 rfl) ?_
  refine lv_aload_n hx hb dX7_moveTo_1 rfl (lv_at hl 0 rfl) ?_
  refine r_get hx hb hts ok_RX7 hown hK hP 0 rfl rfl 6 (by decide) w_839 (fun _ h9 => h9) rfl dX7_moveTo_2 ?_
  refine r_put hx hb hts ok_RX7 hown hK hP hD hS 0 rfl rfl 5 (by decide) w_834 (fun _ h9 => h9) rfl (v := .int (nI 3)) rfl rfl (Nat.le_of_ble_eq_true rfl) dX7_moveTo_5 (ws' := [(h0, .inr (7, [v0, v1, v2, v3, v4, .int (nI 3), .int (nI 3), v6, v7, v8, v9, v10, v11, v12]))]) rfl (fun H locs hP hD hS => ?_)
  refine lv_aload_n hx hb dX7_moveTo_8 rfl (lv_at hl 0 rfl) ?_
  refine lv_iload_n hx hb dX7_moveTo_9 rfl (lv_at hl 1 rfl) ?_
  refine r_put hx hb hts ok_RX7 hown hK hP hD hS 0 rfl rfl 3 (by decide) w_825 (fun _ h9 => h9) rfl (v := .int (nI 1)) rfl rfl (Nat.le_of_ble_eq_true rfl) dX7_moveTo_10 (ws' := [(h0, .inr (7, [v0, v1, v2, .int (nI 1), v4, .int (nI 3), .int (nI 3), v6, v7, v8, v9, v10, v11, v12]))]) rfl (fun H locs hP hD hS => ?_)
  refine lv_aload_n hx hb dX7_moveTo_13 rfl (lv_at hl 0 rfl) ?_
  refine lv_iload_n hx hb dX7_moveTo_14 rfl (lv_at hl 2 rfl) ?_
  refine r_put hx hb hts ok_RX7 hown hK hP hD hS 0 rfl rfl 4 (by decide) w_832 (fun _ h9 => h9) rfl (v := .int (nI 0)) rfl rfl (Nat.le_of_ble_eq_true rfl) dX7_moveTo_15 (ws' := [(h0, .inr (7, [v0, v1, v2, .int (nI 1), .int (nI 0), .int (nI 3), .int (nI 3), v6, v7, v8, v9, v10, v11, v12]))]) rfl (fun H locs hP hD hS => ?_)
  exact e_v hx hb hr hlk hP hD hS (fun _ => 0) rfl (Nat.le_of_ble_eq_true rfl) (Nat.le_of_ble_eq_true rfl) dX7_moveTo_18
set_option maxHeartbeats 4000000 in
set_option maxRecDepth 100000 in
theorem C119_end (l : Launch) (G : Nat → Nat) (D : va_G) (K : Nat → ClassId) (sz : Nat) (h0 : Nat) (v0 v1 v2 v3 v4 v5 v6 v7 v8 v9 v10 v11 : Value) : CM l yX7_end cX7_end 1 (some FieldType.int) ({ frames := 0, cells := 0, slots := 0, locals := 0 } : Room) G D K [.ref h0] [(h0, .inr (7, [v0, v1, v2, v3, .int (nI 0), .int (nI 3), v4, v5, v6, v7, v8, v9, v10, v11]))] sz (CQi (nI 3) D (fun _ => [(h0, .inr (7, [v0, v1, v2, v3, .int (nI 0), .int (nI 3), v4, v5, v6, v7, v8, v9, v10, v11]))])) := by
  refine CM_of (lv0 := [(0, .ref h0)]) pn_RX7 (Nat.le_of_ble_eq_true rfl) rfl (fun p e s m args below meth c A ls hx hb hr hml hown hts hlk hnm hP hK hD hS hA hm hl => ?_)
  have hown : s.vm.findClass RX7 = some m.cls := hown
  refine lv_aload_n hx hb dX7_end_0 rfl (lv_at hl 0 rfl) ?_
  refine r_get hx hb hts ok_RX7 hown hK hP 0 rfl rfl 4 (by decide) w_832 (fun _ h9 => h9) rfl dX7_end_1 ?_
  refine lv_aload_n hx hb dX7_end_4 rfl (lv_at hl 0 rfl) ?_
  refine r_get hx hb hts ok_RX7 hown hK hP 0 rfl rfl 5 (by decide) w_834 (fun _ h9 => h9) rfl dX7_end_5 ?_
  refine lv_iadd hx hb dX7_end_8 ?_
  refine w_toeq (show (nI 0) + (nI 3) = nI 3 by decide +kernel) ?_
  exact e_i hx hb hr hlk hP hD hS (fun _ => 0) rfl (Nat.le_of_ble_eq_true rfl) (Nat.le_of_ble_eq_true rfl) rfl dX7_end_9
set_option maxHeartbeats 4000000 in
set_option maxRecDepth 100000 in
theorem C120_lay (l : Launch) (G : Nat → Nat) (D : va_G) (K : Nat → ClassId) (sz : Nat) (h0 h1 h2 h3 h4 : Nat) (v0 v1 v2 v3 v4 v5 v6 v7 v8 v9 v10 v11 v12 v13 v14 v15 v16 : Value) (f0 : Nat → Option Nat) (f1 : Nat → Option Nat) : CM l yX3_lay cX3_lay 3 (none : Option FieldType) ({ frames := 1, cells := 0, slots := 0, locals := 22 } : Room) G D K [.ref h2, .ref h0, .int (nI 0)] [(h0, .inr (7, [v0, .ref h1, v1, v2, .int (nI 0), .int (nI 3), .int (nI 3), v3, v4, v5, v6, v7, v8, v9])), (h1, .inl (K 0, 1, .inr (.inr (.inr (.inr f0))))), (h2, .inr (3, [.ref h3, v10, v11, v12, v13, v14, v15, v16])), (h3, .inr (5, [.ref h4, .int (nI 0)])), (h4, .inl (K 0, 200, .inr (.inr (.inr (.inr f1)))))] sz (CQv D (fun _ => [(h1, .inl (K 0, 1, .inr (.inr (.inr (.inr f0))))), (h2, .inr (3, [.ref h3, v10, v11, v12, .int (nI 3), v14, v15, v16])), (h3, .inr (5, [.ref h4, .int (nI 1)])), (h4, .inl (K 0, 200, .inr (.inr (.inr (.inr (va_up f1 0 (some h0))))))), (h0, .inr (7, [v0, .ref h1, v1, .int (nI 1), .int (nI 0), .int (nI 3), .int (nI 3), v3, v4, v5, v6, v7, v8, v9]))])) := by
  refine CM_of (lv0 := [(0, .ref h2), (1, .ref h0), (2, .int (nI 0))]) pn_RX3 (Nat.le_of_ble_eq_true rfl) rfl (fun p e s m args below meth c A ls hx hb hr hml hown hts hlk hnm hP hK hD hS hA hm hl => ?_)
  have hown : s.vm.findClass RX3 = some m.cls := hown
  refine lv_aload_n hx hb dX3_lay_0 rfl (lv_at hl 1 rfl) ?_
  refine r_get hx hb hts ok_RX7 hown hK hP 0 rfl rfl 1 (by decide) w_812 (fun _ h9 => h9) rfl dX3_lay_1 ?_
  refine r_alen (n := 1) hx hb hK hP 1 0 rfl rfl rfl dX3_lay_4 ?_
  refine lv_bipush (v := nI 12) hx hb dX3_lay_5 (by decide +kernel) ?_
  refine lv_icmp_lt (tgt := 27) hx hb dX3_lay_7 (by decide) (fun _ => ?_) (fun c9 => absurd (by decide +kernel) c9)
  refine lv_aload_n hx hb dX3_lay_27 rfl (lv_at hl 1 rfl) ?_
  refine lv_iconst (v := nI 1) hx hb dX3_lay_28 (by decide +kernel) ?_
  refine lv_iload_n hx hb dX3_lay_29 rfl (lv_at hl 2 rfl) ?_
  refine k_v (wr := [(h1, .inl (K 0, 1, .inr (.inr (.inr (.inr f0))))), (h2, .inr (3, [.ref h3, v10, v11, v12, v13, v14, v15, v16])), (h3, .inr (5, [.ref h4, .int (nI 0)])), (h4, .inl (K 0, 200, .inr (.inr (.inr (.inr f1)))))]) (run_V (rest := []) hx hb hml hown hts hK hP hD hS hA hm (C118_moveTo l G D K s.heap.size h0 (v0) (.ref h1) (v1) (v2) (.int (nI 0)) (.int (nI 3)) (v3) (v4) (v5) (v6) (v7) (v8) (v9)) [0] rfl rfl mok_yX7_moveTo w_361 w_362 w_363 (rcv hK hP 0 rfl rfl rfl) ⟨Nat.le_of_ble_eq_true rfl, Nat.le_of_ble_eq_true rfl⟩ rfl hl.1 rfl (Nat.le_of_ble_eq_true rfl) dX3_lay_30 ⟨(Nat.le_of_ble_eq_true rfl), (Nat.le_of_ble_eq_true rfl)⟩) hP hD hS hA [0] [1, 2, 3, 4] rfl rfl rfl (by decide) (w2 := fun u0 => [(h1, .inl (K 0, 1, .inr (.inr (.inr (.inr f0))))), (h2, .inr (3, [.ref h3, v10, v11, v12, v13, v14, v15, v16])), (h3, .inr (5, [.ref h4, .int (nI 0)])), (h4, .inl (K 0, 200, .inr (.inr (.inr (.inr f1))))), (h0, .inr (7, [v0, .ref h1, v1, .int (nI 1), .int (nI 0), .int (nI 3), .int (nI 3), v3, v4, v5, v6, v7, v8, v9]))]) (fun _ => rfl) (fun u0 H locs hP hD hS => ?_)
  refine lv_aload_n hx hb dX3_lay_33 rfl (lv_at hl 0 rfl) ?_
  refine r_get hx hb hts ok_RX3 hown hK hP 1 rfl rfl 0 (by decide) w_94 (fun _ h9 => h9) rfl dX3_lay_34 ?_
  refine lv_aload_n hx hb dX3_lay_37 rfl (lv_at hl 1 rfl) ?_
  refine k_v (wr := [(h1, .inl (K 0, 1, .inr (.inr (.inr (.inr f0))))), (h2, .inr (3, [.ref h3, v10, v11, v12, v13, v14, v15, v16]))]) (run_V (rest := []) hx hb hml hown hts hK hP hD hS hA hm (C92_add l G D K H.size h3 h4 h0 (v0) (.ref h1) (v1) (.int (nI 1)) (.int (nI 0)) (.int (nI 3)) (.int (nI 3)) (v3) (v4) (v5) (v6) (v7) (v8) (v9) f1) [2, 3, 4] rfl rfl mok_yX5_add w_369 w_333 w_334 (rcv hK hP 2 rfl rfl rfl) ⟨Nat.le_of_ble_eq_true rfl, Nat.le_of_ble_eq_true rfl⟩ rfl hl.1 rfl (Nat.le_of_ble_eq_true rfl) dX3_lay_38 ⟨(Nat.le_of_ble_eq_true rfl), (Nat.le_of_ble_eq_true rfl)⟩) hP hD hS hA [2, 3, 4] [0, 1] rfl rfl rfl (by decide) (w2 := fun u1 => [(h1, .inl (K 0, 1, .inr (.inr (.inr (.inr f0))))), (h2, .inr (3, [.ref h3, v10, v11, v12, v13, v14, v15, v16])), (h3, .inr (5, [.ref h4, .int (nI 1)])), (h4, .inl (K 0, 200, .inr (.inr (.inr (.inr (va_up f1 0 (some h0))))))), (h0, .inr (7, [v0, .ref h1, v1, .int (nI 1), .int (nI 0), .int (nI 3), .int (nI 3), v3, v4, v5, v6, v7, v8, v9]))]) (fun _ => rfl) (fun u1 H locs hP hD hS => ?_)
  refine lv_aload_n hx hb dX3_lay_41 rfl (lv_at hl 0 rfl) ?_
  refine lv_aload_n hx hb dX3_lay_42 rfl (lv_at hl 1 rfl) ?_
  refine k_i (wr := [(h1, .inl (K 0, 1, .inr (.inr (.inr (.inr f0))))), (h2, .inr (3, [.ref h3, v10, v11, v12, v13, v14, v15, v16])), (h3, .inr (5, [.ref h4, .int (nI 1)])), (h4, .inl (K 0, 200, .inr (.inr (.inr (.inr (va_up f1 0 (some h0)))))))]) (run_V (rest := [.ref h2]) hx hb hml hown hts hK hP hD hS hA hm (C119_end l G D K H.size h0 (v0) (.ref h1) (v1) (.int (nI 1)) (.int (nI 3)) (v3) (v4) (v5) (v6) (v7) (v8) (v9)) [4] rfl rfl mok_yX7_end w_365 w_366 w_367 (rcv hK hP 4 rfl rfl rfl) ⟨Nat.le_of_ble_eq_true rfl, Nat.le_of_ble_eq_true rfl⟩ rfl hl.1 rfl (Nat.le_of_ble_eq_true rfl) dX3_lay_43 ⟨(Nat.le_of_ble_eq_true rfl), (Nat.le_of_ble_eq_true rfl)⟩) hP hD hS hA [4] [0, 1, 2, 3] rfl rfl rfl (by decide) (w2 := fun u2 => [(h1, .inl (K 0, 1, .inr (.inr (.inr (.inr f0))))), (h2, .inr (3, [.ref h3, v10, v11, v12, v13, v14, v15, v16])), (h3, .inr (5, [.ref h4, .int (nI 1)])), (h4, .inl (K 0, 200, .inr (.inr (.inr (.inr (va_up f1 0 (some h0))))))), (h0, .inr (7, [v0, .ref h1, v1, .int (nI 1), .int (nI 0), .int (nI 3), .int (nI 3), v3, v4, v5, v6, v7, v8, v9]))]) (fun _ => rfl) (fun u2 H locs hP hD hS => ?_)
  refine r_put hx hb hts ok_RX3 hown hK hP hD hS 1 rfl rfl 4 (by decide) w_104 (fun _ h9 => h9) rfl (v := .int (nI 3)) rfl rfl (Nat.le_of_ble_eq_true rfl) dX3_lay_46 (ws' := [(h1, .inl (K 0, 1, .inr (.inr (.inr (.inr f0))))), (h2, .inr (3, [.ref h3, v10, v11, v12, .int (nI 3), v14, v15, v16])), (h3, .inr (5, [.ref h4, .int (nI 1)])), (h4, .inl (K 0, 200, .inr (.inr (.inr (.inr (va_up f1 0 (some h0))))))), (h0, .inr (7, [v0, .ref h1, v1, .int (nI 1), .int (nI 0), .int (nI 3), .int (nI 3), v3, v4, v5, v6, v7, v8, v9]))]) rfl (fun H locs hP hD hS => ?_)
  exact e_v hx hb hr hlk hP hD hS (fun _ => 0) rfl (Nat.le_of_ble_eq_true rfl) (Nat.le_of_ble_eq_true rfl) dX3_lay_49
set_option maxHeartbeats 4000000 in
set_option maxRecDepth 100000 in
theorem C121_make (l : Launch) (G : Nat → Nat) (D : va_G) (K : Nat → ClassId) (sz : Nat) (h0 h1 h2 h3 h4 h5 h6 h7 h8 : Nat) (v0 v1 v2 v3 v4 v5 v6 v7 v8 v9 v10 v11 v12 v13 : Value) (f0 : Nat → Option Nat) (f1 : Nat → Option Nat) (f2 : Nat → Option Nat) (j0 : Nat) (lj0 : 0 ≤ j0) (gj0 : j0 ≤ 3) : CM l yX9_make cX9_make 6 (some FieldType.int) ({ frames := 2, cells := 2, slots := 15, locals := 44 } : Room) G D K [.ref h0, .int (nI j0), .int (nI 0), .int (nI 1)] [(h0, .inr (9, [.ref h1, .ref h7, .ref h2, v0, .ref h6, v1, v2, v3, v4])), (h1, .inr (5, [.ref h3, .int (nI 0)])), (h2, .inr (3, [.ref h4, v5, v6, .int (nI 0), .int (nI 0), v7, v8, v9])), (h3, .inl (K 0, 200, .inr (.inr (.inr (.inr f0))))), (h4, .inr (5, [.ref h5, .int (nI 0)])), (h5, .inl (K 0, 200, .inr (.inr (.inr (.inr f1))))), (h6, .inr (1, [v10, v11, .int (nI 0)])), (h7, .inr (4, [v12, .ref h8, v13, .int (nI 1)])), (h8, .inl (K 0, 32, .inr (.inr (.inr (.inr f2)))))] sz (CQi (nI 0) D (fun u => [(h0, .inr (9, [.ref h1, .ref h7, .ref h2, v0, .ref h6, v1, v2, v3, v4])), (h1, .inr (5, [.ref h3, .int (nI 1)])), (h3, .inl (K 0, 200, .inr (.inr (.inr (.inr (va_up f0 0 (some (u 0)))))))), ((u 1), .inl (K 0, 1, .inr (.inr (.inr (.inr (fun _ => none)))))), (h2, .inr (3, [.ref h4, v5, v6, .int (nI 0), .int (nI 3), v7, v8, v9])), (h4, .inr (5, [.ref h5, .int (nI 1)])), (h5, .inl (K 0, 200, .inr (.inr (.inr (.inr (va_up f1 0 (some (u 0)))))))), (h6, .inr (1, [v10, v11, .int (nI 0)])), (h8, .inl (K 0, 32, .inr (.inr (.inr (.inr (va_up f2 (0 + j0) (some (u 0)))))))), ((u 0), .inr (7, [.int (nI 0), .ref (u 1), .int (nI 0), .int (nI 1), .int (nI 0), .int (nI 3), .int (nI 3), .int (nI 0), .int (-1), .int (nI 0), .int (nI 0), .int (nI 0), .int (nI 0), .int (nI 0)])), (h7, .inr (4, [v12, .ref h8, v13, .int (nI 1)]))])) := by
  refine CM_of (lv0 := [(0, .ref h0), (1, .int (nI j0)), (2, .int (nI 0)), (3, .int (nI 1))]) pn_RX9 (Nat.le_of_ble_eq_true rfl) rfl (fun p e s m args below meth c A ls hx hb hr hml hown hts hlk hnm hP hK hD hS hA hm hl => ?_)
  have hown : s.vm.findClass RX9 = some m.cls := hown
  refine lv_iload_n hx hb dX9_make_0 rfl (lv_at hl 1 rfl) ?_
  refine k_v (wr := [(h0, .inr (9, [.ref h1, .ref h7, .ref h2, v0, .ref h6, v1, v2, v3, v4])), (h1, .inr (5, [.ref h3, .int (nI 0)])), (h2, .inr (3, [.ref h4, v5, v6, .int (nI 0), .int (nI 0), v7, v8, v9])), (h3, .inl (K 0, 200, .inr (.inr (.inr (.inr f0))))), (h4, .inr (5, [.ref h5, .int (nI 0)])), (h5, .inl (K 0, 200, .inr (.inr (.inr (.inr f1))))), (h6, .inr (1, [v10, v11, .int (nI 0)])), (h7, .inr (4, [v12, .ref h8, v13, .int (nI 1)])), (h8, .inl (K 0, 32, .inr (.inr (.inr (.inr f2)))))]) (run_S (rest := []) hx hb hml hown hts hK hP hD hS hA hm (C70_requireSlot l G D K s.heap.size j0 (by omega) (by omega)) [] rfl rfl mok_yX9_requireSlot w_687 w_688 ⟨Nat.le_of_ble_eq_true rfl, Nat.le_of_ble_eq_true rfl⟩ rfl hl.1 rfl (Nat.le_of_ble_eq_true rfl) dX9_make_1 ⟨(Nat.le_of_ble_eq_true rfl), (Nat.le_of_ble_eq_true rfl)⟩) hP hD hS hA [] [0, 1, 2, 3, 4, 5, 6, 7, 8] rfl rfl rfl (by decide) (w2 := fun u0 => [(h0, .inr (9, [.ref h1, .ref h7, .ref h2, v0, .ref h6, v1, v2, v3, v4])), (h1, .inr (5, [.ref h3, .int (nI 0)])), (h2, .inr (3, [.ref h4, v5, v6, .int (nI 0), .int (nI 0), v7, v8, v9])), (h3, .inl (K 0, 200, .inr (.inr (.inr (.inr f0))))), (h4, .inr (5, [.ref h5, .int (nI 0)])), (h5, .inl (K 0, 200, .inr (.inr (.inr (.inr f1))))), (h6, .inr (1, [v10, v11, .int (nI 0)])), (h7, .inr (4, [v12, .ref h8, v13, .int (nI 1)])), (h8, .inl (K 0, 32, .inr (.inr (.inr (.inr f2)))))]) (fun _ => rfl) (fun u0 H locs hP hD hS => ?_)
  refine lv_iload_n hx hb dX9_make_4 rfl (lv_at hl 2 rfl) ?_
  refine lv_if_lt (tgt := 27) hx hb dX9_make_5 (by decide) (fun c9 => absurd c9 (by decide +kernel)) (fun _ => ?_)
  refine lv_iload_n hx hb dX9_make_8 rfl (lv_at hl 2 rfl) ?_
  refine lv_iconst (v := nI 4) hx hb dX9_make_9 (by decide +kernel) ?_
  refine lv_icmp_gt (tgt := 27) hx hb dX9_make_10 (by decide) (fun c9 => absurd c9 (by decide +kernel)) (fun _ => ?_)
  refine lv_iload_n hx hb dX9_make_13 rfl (lv_at hl 3 rfl) ?_
  refine lv_iload_n hx hb dX9_make_14 rfl (lv_at hl 2 rfl) ?_
  refine k_i (wr := [(h0, .inr (9, [.ref h1, .ref h7, .ref h2, v0, .ref h6, v1, v2, v3, v4])), (h1, .inr (5, [.ref h3, .int (nI 0)])), (h2, .inr (3, [.ref h4, v5, v6, .int (nI 0), .int (nI 0), v7, v8, v9])), (h3, .inl (K 0, 200, .inr (.inr (.inr (.inr f0))))), (h4, .inr (5, [.ref h5, .int (nI 0)])), (h5, .inl (K 0, 200, .inr (.inr (.inr (.inr f1))))), (h6, .inr (1, [v10, v11, .int (nI 0)])), (h7, .inr (4, [v12, .ref h8, v13, .int (nI 1)])), (h8, .inl (K 0, 32, .inr (.inr (.inr (.inr f2)))))]) (run_S (rest := [.int (nI 1)]) hx hb hml hown hts hK hP hD hS hA hm (C81_leastFields l G D K H.size) [] rfl rfl mok_yX9_leastFields w_795 w_796 ⟨Nat.le_of_ble_eq_true rfl, Nat.le_of_ble_eq_true rfl⟩ rfl hl.1 rfl (Nat.le_of_ble_eq_true rfl) dX9_make_15 ⟨(Nat.le_of_ble_eq_true rfl), (Nat.le_of_ble_eq_true rfl)⟩) hP hD hS hA [] [0, 1, 2, 3, 4, 5, 6, 7, 8] rfl rfl rfl (by decide) (w2 := fun u1 => [(h0, .inr (9, [.ref h1, .ref h7, .ref h2, v0, .ref h6, v1, v2, v3, v4])), (h1, .inr (5, [.ref h3, .int (nI 0)])), (h2, .inr (3, [.ref h4, v5, v6, .int (nI 0), .int (nI 0), v7, v8, v9])), (h3, .inl (K 0, 200, .inr (.inr (.inr (.inr f0))))), (h4, .inr (5, [.ref h5, .int (nI 0)])), (h5, .inl (K 0, 200, .inr (.inr (.inr (.inr f1))))), (h6, .inr (1, [v10, v11, .int (nI 0)])), (h7, .inr (4, [v12, .ref h8, v13, .int (nI 1)])), (h8, .inl (K 0, 32, .inr (.inr (.inr (.inr f2)))))]) (fun _ => rfl) (fun u1 H locs hP hD hS => ?_)
  refine lv_icmp_lt (tgt := 27) hx hb dX9_make_18 (by decide) (fun c9 => absurd c9 (by decide +kernel)) (fun _ => ?_)
  refine lv_iload_n hx hb dX9_make_21 rfl (lv_at hl 3 rfl) ?_
  refine lv_bipush (v := nI 20) hx hb dX9_make_22 (by decide +kernel) ?_
  refine lv_icmp_le (tgt := 37) hx hb dX9_make_24 (by decide) (fun _ => ?_) (fun c9 => absurd (by decide +kernel) c9)
  refine lv_aload_n hx hb dX9_make_37 rfl (lv_at hl 0 rfl) ?_
  refine r_get hx hb hts ok_RX9 hown hK hP 0 rfl rfl 0 (by decide) w_258 (fun _ h9 => h9) rfl dX9_make_38 ?_
  refine k_i (wr := [(h0, .inr (9, [.ref h1, .ref h7, .ref h2, v0, .ref h6, v1, v2, v3, v4])), (h2, .inr (3, [.ref h4, v5, v6, .int (nI 0), .int (nI 0), v7, v8, v9])), (h3, .inl (K 0, 200, .inr (.inr (.inr (.inr f0))))), (h4, .inr (5, [.ref h5, .int (nI 0)])), (h5, .inl (K 0, 200, .inr (.inr (.inr (.inr f1))))), (h6, .inr (1, [v10, v11, .int (nI 0)])), (h7, .inr (4, [v12, .ref h8, v13, .int (nI 1)])), (h8, .inl (K 0, 32, .inr (.inr (.inr (.inr f2)))))]) (run_V (rest := []) hx hb hml hown hts hK hP hD hS hA hm (C89_size l G D K H.size h1 (.ref h3)) [1] rfl rfl mok_yX5_size w_574 w_295 w_296 (rcv hK hP 1 rfl rfl rfl) ⟨Nat.le_of_ble_eq_true rfl, Nat.le_of_ble_eq_true rfl⟩ rfl hl.1 rfl (Nat.le_of_ble_eq_true rfl) dX9_make_41 ⟨(Nat.le_of_ble_eq_true rfl), (Nat.le_of_ble_eq_true rfl)⟩) hP hD hS hA [1] [0, 2, 3, 4, 5, 6, 7, 8] rfl rfl rfl (by decide) (w2 := fun u2 => [(h0, .inr (9, [.ref h1, .ref h7, .ref h2, v0, .ref h6, v1, v2, v3, v4])), (h2, .inr (3, [.ref h4, v5, v6, .int (nI 0), .int (nI 0), v7, v8, v9])), (h3, .inl (K 0, 200, .inr (.inr (.inr (.inr f0))))), (h4, .inr (5, [.ref h5, .int (nI 0)])), (h5, .inl (K 0, 200, .inr (.inr (.inr (.inr f1))))), (h6, .inr (1, [v10, v11, .int (nI 0)])), (h7, .inr (4, [v12, .ref h8, v13, .int (nI 1)])), (h8, .inl (K 0, 32, .inr (.inr (.inr (.inr f2))))), (h1, .inr (5, [.ref h3, .int (nI 0)]))]) (fun _ => rfl) (fun u2 H locs hP hD hS => ?_)
  refine lv_sipush (v := nI 200) hx hb dX9_make_44 (by decide +kernel) ?_
  refine lv_icmp_lt (tgt := 60) hx hb dX9_make_47 (by decide) (fun _ => ?_) (fun c9 => absurd (by decide +kernel) c9)
  refine lv_aload_n hx hb dX9_make_60 rfl (lv_at hl 0 rfl) ?_
  refine r_get hx hb hts ok_RX9 hown hK hP 0 rfl rfl 2 (by decide) w_260 (fun _ h9 => h9) rfl dX9_make_61 ?_
  refine lv_iload_n hx hb dX9_make_64 rfl (lv_at hl 3 rfl) ?_
  refine k_i (wr := [(h0, .inr (9, [.ref h1, .ref h7, .ref h2, v0, .ref h6, v1, v2, v3, v4])), (h3, .inl (K 0, 200, .inr (.inr (.inr (.inr f0))))), (h4, .inr (5, [.ref h5, .int (nI 0)])), (h5, .inl (K 0, 200, .inr (.inr (.inr (.inr f1))))), (h6, .inr (1, [v10, v11, .int (nI 0)])), (h7, .inr (4, [v12, .ref h8, v13, .int (nI 1)])), (h8, .inl (K 0, 32, .inr (.inr (.inr (.inr f2))))), (h1, .inr (5, [.ref h3, .int (nI 0)]))]) (run_V (rest := []) hx hb hml hown hts hK hP hD hS hA hm (C116_gapFor l G D K H.size h2 (.ref h4) (v5) (v6) (v7) (v8) (v9)) [1] rfl rfl mok_yX3_gapFor w_734 w_735 w_736 (rcv hK hP 1 rfl rfl rfl) ⟨Nat.le_of_ble_eq_true rfl, Nat.le_of_ble_eq_true rfl⟩ rfl hl.1 rfl (Nat.le_of_ble_eq_true rfl) dX9_make_65 ⟨(Nat.le_of_ble_eq_true rfl), (Nat.le_of_ble_eq_true rfl)⟩) hP hD hS hA [1] [0, 2, 3, 4, 5, 6, 7, 8] rfl rfl rfl (by decide) (w2 := fun u3 => [(h0, .inr (9, [.ref h1, .ref h7, .ref h2, v0, .ref h6, v1, v2, v3, v4])), (h3, .inl (K 0, 200, .inr (.inr (.inr (.inr f0))))), (h4, .inr (5, [.ref h5, .int (nI 0)])), (h5, .inl (K 0, 200, .inr (.inr (.inr (.inr f1))))), (h6, .inr (1, [v10, v11, .int (nI 0)])), (h7, .inr (4, [v12, .ref h8, v13, .int (nI 1)])), (h8, .inl (K 0, 32, .inr (.inr (.inr (.inr f2))))), (h1, .inr (5, [.ref h3, .int (nI 0)])), (h2, .inr (3, [.ref h4, v5, v6, .int (nI 0), .int (nI 0), v7, v8, v9]))]) (fun _ => rfl) (fun u3 H locs hP hD hS => ?_)
  refine lv_istore (lv' := [(4, .int (nI 0)), (0, .ref h0), (1, .int (nI j0)), (2, .int (nI 0)), (3, .int (nI 1))]) hx hb dX9_make_68 hl (by decide) rfl (fun ls hl => ?_)
  refine lv_iload hx hb dX9_make_70 (lv_at hl 0 rfl) ?_
  refine lv_iconst (v := (-1)) hx hb dX9_make_72 (by decide +kernel) ?_
  refine lv_icmp_ne (tgt := 97) hx hb dX9_make_73 (by decide) (fun _ => ?_) (fun c9 => absurd c9 (by decide +kernel))
  refine lv_iload hx hb dX9_make_97 (lv_at hl 0 rfl) ?_
  refine lv_iconst (v := (-1)) hx hb dX9_make_99 (by decide +kernel) ?_
  refine lv_icmp_ne (tgt := 119) hx hb dX9_make_100 (by decide) (fun _ => ?_) (fun c9 => absurd c9 (by decide +kernel))
  refine lv_iload hx hb dX9_make_119 (lv_at hl 0 rfl) ?_
  refine lv_iconst (v := (-1)) hx hb dX9_make_121 (by decide +kernel) ?_
  refine lv_icmp_ne (tgt := 141) hx hb dX9_make_122 (by decide) (fun _ => ?_) (fun c9 => absurd c9 (by decide +kernel))
  refine lv_iload hx hb dX9_make_141 (lv_at hl 0 rfl) ?_
  refine lv_iconst (v := (-1)) hx hb dX9_make_143 (by decide +kernel) ?_
  refine lv_icmp_ne (tgt := 149) hx hb dX9_make_144 (by decide) (fun _ => ?_) (fun c9 => absurd c9 (by decide +kernel))
  refine r_new (ci := 7) (C := RX7) (T := TX7) (N := 14) hx hb hts ok_RX7 hown w_802 w_803 w_27 hK hP hD hS hA rfl df_RX7 (Nat.le_of_ble_eq_true rfl) (Nat.le_of_ble_eq_true rfl) dX9_make_149 (w2 := fun q0 => [(h0, .inr (9, [.ref h1, .ref h7, .ref h2, v0, .ref h6, v1, v2, v3, v4])), (h3, .inl (K 0, 200, .inr (.inr (.inr (.inr f0))))), (h4, .inr (5, [.ref h5, .int (nI 0)])), (h5, .inl (K 0, 200, .inr (.inr (.inr (.inr f1))))), (h6, .inr (1, [v10, v11, .int (nI 0)])), (h7, .inr (4, [v12, .ref h8, v13, .int (nI 1)])), (h8, .inl (K 0, 32, .inr (.inr (.inr (.inr f2))))), (h1, .inr (5, [.ref h3, .int (nI 0)])), (h2, .inr (3, [.ref h4, v5, v6, .int (nI 0), .int (nI 0), v7, v8, v9])), (q0, .inr (7, [.int (nI 0), .null, .int (nI 0), .int (nI 0), .int (nI 0), .int (nI 0), .int (nI 0), .int (nI 0), .int (nI 0), .int (nI 0), .int (nI 0), .int (nI 0), .int (nI 0), .int (nI 0)]))]) (fun _ => rfl) (fun q0 H hP hD hS => ?_)
  refine lv_dup hx hb dX9_make_152 rfl ?_
  refine lv_aload_n hx hb dX9_make_153 rfl (lv_at hl 1 rfl) ?_
  refine r_get hx hb hts ok_RX9 hown hK hP 0 rfl rfl 0 (by decide) w_258 (fun _ h9 => h9) rfl dX9_make_154 ?_
  refine k_i (wr := [(h0, .inr (9, [.ref h1, .ref h7, .ref h2, v0, .ref h6, v1, v2, v3, v4])), (h3, .inl (K 0, 200, .inr (.inr (.inr (.inr f0))))), (h4, .inr (5, [.ref h5, .int (nI 0)])), (h5, .inl (K 0, 200, .inr (.inr (.inr (.inr f1))))), (h6, .inr (1, [v10, v11, .int (nI 0)])), (h7, .inr (4, [v12, .ref h8, v13, .int (nI 1)])), (h8, .inl (K 0, 32, .inr (.inr (.inr (.inr f2))))), (h2, .inr (3, [.ref h4, v5, v6, .int (nI 0), .int (nI 0), v7, v8, v9])), (q0, .inr (7, [.int (nI 0), .null, .int (nI 0), .int (nI 0), .int (nI 0), .int (nI 0), .int (nI 0), .int (nI 0), .int (nI 0), .int (nI 0), .int (nI 0), .int (nI 0), .int (nI 0), .int (nI 0)]))]) (run_V (rest := [.ref q0, .ref q0]) hx hb hml hown hts hK hP hD hS hA hm (C89_size l G D K H.size h1 (.ref h3)) [7] rfl rfl mok_yX5_size w_574 w_295 w_296 (rcv hK hP 7 rfl rfl rfl) ⟨Nat.le_of_ble_eq_true rfl, Nat.le_of_ble_eq_true rfl⟩ rfl hl.1 rfl (Nat.le_of_ble_eq_true rfl) dX9_make_157 ⟨(Nat.le_of_ble_eq_true rfl), (Nat.le_of_ble_eq_true rfl)⟩) hP hD hS hA [7] [0, 1, 2, 3, 4, 5, 6, 8, 9] rfl rfl rfl (by decide) (w2 := fun u4 => [(h0, .inr (9, [.ref h1, .ref h7, .ref h2, v0, .ref h6, v1, v2, v3, v4])), (h3, .inl (K 0, 200, .inr (.inr (.inr (.inr f0))))), (h4, .inr (5, [.ref h5, .int (nI 0)])), (h5, .inl (K 0, 200, .inr (.inr (.inr (.inr f1))))), (h6, .inr (1, [v10, v11, .int (nI 0)])), (h7, .inr (4, [v12, .ref h8, v13, .int (nI 1)])), (h8, .inl (K 0, 32, .inr (.inr (.inr (.inr f2))))), (h2, .inr (3, [.ref h4, v5, v6, .int (nI 0), .int (nI 0), v7, v8, v9])), (q0, .inr (7, [.int (nI 0), .null, .int (nI 0), .int (nI 0), .int (nI 0), .int (nI 0), .int (nI 0), .int (nI 0), .int (nI 0), .int (nI 0), .int (nI 0), .int (nI 0), .int (nI 0), .int (nI 0)])), (h1, .inr (5, [.ref h3, .int (nI 0)]))]) (fun _ => rfl) (fun u4 H locs hP hD hS => ?_)
  refine lv_iload_n hx hb dX9_make_160 rfl (lv_at hl 3 rfl) ?_
  refine lv_iload_n hx hb dX9_make_161 rfl (lv_at hl 4 rfl) ?_
  refine k_v (wr := [(h0, .inr (9, [.ref h1, .ref h7, .ref h2, v0, .ref h6, v1, v2, v3, v4])), (h3, .inl (K 0, 200, .inr (.inr (.inr (.inr f0))))), (h4, .inr (5, [.ref h5, .int (nI 0)])), (h5, .inl (K 0, 200, .inr (.inr (.inr (.inr f1))))), (h6, .inr (1, [v10, v11, .int (nI 0)])), (h7, .inr (4, [v12, .ref h8, v13, .int (nI 1)])), (h8, .inl (K 0, 32, .inr (.inr (.inr (.inr f2))))), (h2, .inr (3, [.ref h4, v5, v6, .int (nI 0), .int (nI 0), v7, v8, v9])), (h1, .inr (5, [.ref h3, .int (nI 0)]))]) (run_I (rest := [.ref q0]) hx hb hml hown hts hK hP hD hS hA hm (C117_init l G D K H.size q0 (.int (nI 0)) (.null) (.int (nI 0)) (.int (nI 0)) (.int (nI 0)) (.int (nI 0)) (.int (nI 0)) (.int (nI 0)) (.int (nI 0)) (.int (nI 0)) (.int (nI 0)) (.int (nI 0)) (.int (nI 0)) (nI 0)) [8] rfl rfl mok_yX7_init w_804 w_805 rfl ⟨Nat.le_of_ble_eq_true rfl, Nat.le_of_ble_eq_true rfl⟩ rfl hl.1 rfl (Nat.le_of_ble_eq_true rfl) dX9_make_162 ⟨(Nat.le_of_ble_eq_true rfl), (Nat.le_of_ble_eq_true rfl)⟩) hP hD hS hA [8] [0, 1, 2, 3, 4, 5, 6, 7, 9] rfl rfl rfl (by decide) (w2 := fun u5 => [(h0, .inr (9, [.ref h1, .ref h7, .ref h2, v0, .ref h6, v1, v2, v3, v4])), (h3, .inl (K 0, 200, .inr (.inr (.inr (.inr f0))))), (h4, .inr (5, [.ref h5, .int (nI 0)])), (h5, .inl (K 0, 200, .inr (.inr (.inr (.inr f1))))), (h6, .inr (1, [v10, v11, .int (nI 0)])), (h7, .inr (4, [v12, .ref h8, v13, .int (nI 1)])), (h8, .inl (K 0, 32, .inr (.inr (.inr (.inr f2))))), (h2, .inr (3, [.ref h4, v5, v6, .int (nI 0), .int (nI 0), v7, v8, v9])), (h1, .inr (5, [.ref h3, .int (nI 0)])), (q0, .inr (7, [.int (nI 0), .ref (u5 0), .int (nI 0), .int (nI 0), .int (nI 0), .int (nI 3), .int (nI 3), .int (nI 0), .int (-1), .int (nI 0), .int (nI 0), .int (nI 0), .int (nI 0), .int (nI 0)])), ((u5 0), .inl (K 0, 1, .inr (.inr (.inr (.inr (fun _ => none))))))]) (fun _ => rfl) (fun u5 H locs hP hD hS => ?_)
  refine lv_astore (lv' := [(5, .ref q0), (4, .int (nI 0)), (0, .ref h0), (1, .int (nI j0)), (2, .int (nI 0)), (3, .int (nI 1))]) hx hb dX9_make_165 hl (by decide) rfl (fun ls hl => ?_)
  refine lv_aload_n hx hb dX9_make_167 rfl (lv_at hl 2 rfl) ?_
  refine r_get hx hb hts ok_RX9 hown hK hP 0 rfl rfl 0 (by decide) w_258 (fun _ h9 => h9) rfl dX9_make_168 ?_
  refine lv_aload hx hb dX9_make_171 (lv_at hl 0 rfl) ?_
  refine k_v (wr := [(h0, .inr (9, [.ref h1, .ref h7, .ref h2, v0, .ref h6, v1, v2, v3, v4])), (h4, .inr (5, [.ref h5, .int (nI 0)])), (h5, .inl (K 0, 200, .inr (.inr (.inr (.inr f1))))), (h6, .inr (1, [v10, v11, .int (nI 0)])), (h7, .inr (4, [v12, .ref h8, v13, .int (nI 1)])), (h8, .inl (K 0, 32, .inr (.inr (.inr (.inr f2))))), (h2, .inr (3, [.ref h4, v5, v6, .int (nI 0), .int (nI 0), v7, v8, v9])), ((u5 0), .inl (K 0, 1, .inr (.inr (.inr (.inr (fun _ => none))))))]) (run_V (rest := []) hx hb hml hown hts hK hP hD hS hA hm (C92_add l G D K H.size h1 h3 q0 (.int (nI 0)) (.ref (u5 0)) (.int (nI 0)) (.int (nI 0)) (.int (nI 0)) (.int (nI 3)) (.int (nI 3)) (.int (nI 0)) (.int (-1)) (.int (nI 0)) (.int (nI 0)) (.int (nI 0)) (.int (nI 0)) (.int (nI 0)) f0) [8, 1, 9] rfl rfl mok_yX5_add w_890 w_333 w_334 (rcv hK hP 8 rfl rfl rfl) ⟨Nat.le_of_ble_eq_true rfl, Nat.le_of_ble_eq_true rfl⟩ rfl hl.1 rfl (Nat.le_of_ble_eq_true rfl) dX9_make_173 ⟨(Nat.le_of_ble_eq_true rfl), (Nat.le_of_ble_eq_true rfl)⟩) hP hD hS hA [8, 1, 9] [0, 2, 3, 4, 5, 6, 7, 10] rfl rfl rfl (by decide) (w2 := fun u6 => [(h0, .inr (9, [.ref h1, .ref h7, .ref h2, v0, .ref h6, v1, v2, v3, v4])), (h4, .inr (5, [.ref h5, .int (nI 0)])), (h5, .inl (K 0, 200, .inr (.inr (.inr (.inr f1))))), (h6, .inr (1, [v10, v11, .int (nI 0)])), (h7, .inr (4, [v12, .ref h8, v13, .int (nI 1)])), (h8, .inl (K 0, 32, .inr (.inr (.inr (.inr f2))))), (h2, .inr (3, [.ref h4, v5, v6, .int (nI 0), .int (nI 0), v7, v8, v9])), ((u5 0), .inl (K 0, 1, .inr (.inr (.inr (.inr (fun _ => none)))))), (h1, .inr (5, [.ref h3, .int (nI 1)])), (h3, .inl (K 0, 200, .inr (.inr (.inr (.inr (va_up f0 0 (some q0))))))), (q0, .inr (7, [.int (nI 0), .ref (u5 0), .int (nI 0), .int (nI 0), .int (nI 0), .int (nI 3), .int (nI 3), .int (nI 0), .int (-1), .int (nI 0), .int (nI 0), .int (nI 0), .int (nI 0), .int (nI 0)]))]) (fun _ => rfl) (fun u6 H locs hP hD hS => ?_)
  refine lv_aload_n hx hb dX9_make_176 rfl (lv_at hl 2 rfl) ?_
  refine r_get hx hb hts ok_RX9 hown hK hP 0 rfl rfl 2 (by decide) w_260 (fun _ h9 => h9) rfl dX9_make_177 ?_
  refine lv_aload hx hb dX9_make_180 (lv_at hl 0 rfl) ?_
  refine lv_iload hx hb dX9_make_182 (lv_at hl 1 rfl) ?_
  refine k_v (wr := [(h0, .inr (9, [.ref h1, .ref h7, .ref h2, v0, .ref h6, v1, v2, v3, v4])), (h6, .inr (1, [v10, v11, .int (nI 0)])), (h7, .inr (4, [v12, .ref h8, v13, .int (nI 1)])), (h8, .inl (K 0, 32, .inr (.inr (.inr (.inr f2))))), (h1, .inr (5, [.ref h3, .int (nI 1)])), (h3, .inl (K 0, 200, .inr (.inr (.inr (.inr (va_up f0 0 (some q0)))))))]) (run_V (rest := []) hx hb hml hown hts hK hP hD hS hA hm (C120_lay l G D K H.size q0 (u5 0) h2 h4 h5 (.int (nI 0)) (.int (nI 0)) (.int (nI 0)) (.int (nI 0)) (.int (-1)) (.int (nI 0)) (.int (nI 0)) (.int (nI 0)) (.int (nI 0)) (.int (nI 0)) (v5) (v6) (.int (nI 0)) (.int (nI 0)) (v7) (v8) (v9) (fun _ => none) f1) [10, 7, 6, 1, 2] rfl rfl mok_yX3_lay w_891 w_892 w_893 (rcv hK hP 6 rfl rfl rfl) ⟨Nat.le_of_ble_eq_true rfl, Nat.le_of_ble_eq_true rfl⟩ rfl hl.1 rfl (Nat.le_of_ble_eq_true rfl) dX9_make_184 ⟨(Nat.le_of_ble_eq_true rfl), (Nat.le_of_ble_eq_true rfl)⟩) hP hD hS hA [10, 7, 6, 1, 2] [0, 3, 4, 5, 8, 9] rfl rfl rfl (by decide) (w2 := fun u7 => [(h0, .inr (9, [.ref h1, .ref h7, .ref h2, v0, .ref h6, v1, v2, v3, v4])), (h6, .inr (1, [v10, v11, .int (nI 0)])), (h7, .inr (4, [v12, .ref h8, v13, .int (nI 1)])), (h8, .inl (K 0, 32, .inr (.inr (.inr (.inr f2))))), (h1, .inr (5, [.ref h3, .int (nI 1)])), (h3, .inl (K 0, 200, .inr (.inr (.inr (.inr (va_up f0 0 (some q0))))))), ((u5 0), .inl (K 0, 1, .inr (.inr (.inr (.inr (fun _ => none)))))), (h2, .inr (3, [.ref h4, v5, v6, .int (nI 0), .int (nI 3), v7, v8, v9])), (h4, .inr (5, [.ref h5, .int (nI 1)])), (h5, .inl (K 0, 200, .inr (.inr (.inr (.inr (va_up f1 0 (some q0))))))), (q0, .inr (7, [.int (nI 0), .ref (u5 0), .int (nI 0), .int (nI 1), .int (nI 0), .int (nI 3), .int (nI 3), .int (nI 0), .int (-1), .int (nI 0), .int (nI 0), .int (nI 0), .int (nI 0), .int (nI 0)]))]) (fun _ => rfl) (fun u7 H locs hP hD hS => ?_)
  refine lv_aload_n hx hb dX9_make_187 rfl (lv_at hl 2 rfl) ?_
  refine r_get hx hb hts ok_RX9 hown hK hP 0 rfl rfl 4 (by decide) w_262 (fun _ h9 => h9) rfl dX9_make_188 ?_
  refine lv_aload hx hb dX9_make_191 (lv_at hl 0 rfl) ?_
  refine k_v (wr := [(h0, .inr (9, [.ref h1, .ref h7, .ref h2, v0, .ref h6, v1, v2, v3, v4])), (h7, .inr (4, [v12, .ref h8, v13, .int (nI 1)])), (h8, .inl (K 0, 32, .inr (.inr (.inr (.inr f2))))), (h1, .inr (5, [.ref h3, .int (nI 1)])), (h3, .inl (K 0, 200, .inr (.inr (.inr (.inr (va_up f0 0 (some q0))))))), ((u5 0), .inl (K 0, 1, .inr (.inr (.inr (.inr (fun _ => none)))))), (h2, .inr (3, [.ref h4, v5, v6, .int (nI 0), .int (nI 3), v7, v8, v9])), (h4, .inr (5, [.ref h5, .int (nI 1)])), (h5, .inl (K 0, 200, .inr (.inr (.inr (.inr (va_up f1 0 (some q0))))))), (q0, .inr (7, [.int (nI 0), .ref (u5 0), .int (nI 0), .int (nI 1), .int (nI 0), .int (nI 3), .int (nI 3), .int (nI 0), .int (-1), .int (nI 0), .int (nI 0), .int (nI 0), .int (nI 0), .int (nI 0)]))]) (run_V (rest := []) hx hb hml hown hts hK hP hD hS hA hm (C96_noteMade l G D K H.size h6 q0 (v10) (v11)) [1] rfl rfl mok_yX1_noteMade w_899 w_900 w_901 (rcv hK hP 1 rfl rfl rfl) ⟨Nat.le_of_ble_eq_true rfl, Nat.le_of_ble_eq_true rfl⟩ rfl hl.1 rfl (Nat.le_of_ble_eq_true rfl) dX9_make_193 ⟨(Nat.le_of_ble_eq_true rfl), (Nat.le_of_ble_eq_true rfl)⟩) hP hD hS hA [1] [0, 2, 3, 4, 5, 6, 7, 8, 9, 10] rfl rfl rfl (by decide) (w2 := fun u8 => [(h0, .inr (9, [.ref h1, .ref h7, .ref h2, v0, .ref h6, v1, v2, v3, v4])), (h7, .inr (4, [v12, .ref h8, v13, .int (nI 1)])), (h8, .inl (K 0, 32, .inr (.inr (.inr (.inr f2))))), (h1, .inr (5, [.ref h3, .int (nI 1)])), (h3, .inl (K 0, 200, .inr (.inr (.inr (.inr (va_up f0 0 (some q0))))))), ((u5 0), .inl (K 0, 1, .inr (.inr (.inr (.inr (fun _ => none)))))), (h2, .inr (3, [.ref h4, v5, v6, .int (nI 0), .int (nI 3), v7, v8, v9])), (h4, .inr (5, [.ref h5, .int (nI 1)])), (h5, .inl (K 0, 200, .inr (.inr (.inr (.inr (va_up f1 0 (some q0))))))), (q0, .inr (7, [.int (nI 0), .ref (u5 0), .int (nI 0), .int (nI 1), .int (nI 0), .int (nI 3), .int (nI 3), .int (nI 0), .int (-1), .int (nI 0), .int (nI 0), .int (nI 0), .int (nI 0), .int (nI 0)])), (h6, .inr (1, [v10, v11, .int (nI 0)]))]) (fun _ => rfl) (fun u8 H locs hP hD hS => ?_)
  refine lv_aload_n hx hb dX9_make_196 rfl (lv_at hl 2 rfl) ?_
  refine r_get hx hb hts ok_RX9 hown hK hP 0 rfl rfl 1 (by decide) w_259 (fun _ h9 => h9) rfl dX9_make_197 ?_
  refine lv_iload_n hx hb dX9_make_200 rfl (lv_at hl 3 rfl) ?_
  refine lv_aload hx hb dX9_make_201 (lv_at hl 0 rfl) ?_
  refine k_v (wr := [(h0, .inr (9, [.ref h1, .ref h7, .ref h2, v0, .ref h6, v1, v2, v3, v4])), (h1, .inr (5, [.ref h3, .int (nI 1)])), (h3, .inl (K 0, 200, .inr (.inr (.inr (.inr (va_up f0 0 (some q0))))))), ((u5 0), .inl (K 0, 1, .inr (.inr (.inr (.inr (fun _ => none)))))), (h2, .inr (3, [.ref h4, v5, v6, .int (nI 0), .int (nI 3), v7, v8, v9])), (h4, .inr (5, [.ref h5, .int (nI 1)])), (h5, .inl (K 0, 200, .inr (.inr (.inr (.inr (va_up f1 0 (some q0))))))), (h6, .inr (1, [v10, v11, .int (nI 0)]))]) (run_V (rest := []) hx hb hml hown hts hK hP hD hS hA hm (C98_writeSlot l G D K H.size h7 h8 q0 (v12) (v13) (.int (nI 0)) (.ref (u5 0)) (.int (nI 0)) (.int (nI 1)) (.int (nI 0)) (.int (nI 3)) (.int (nI 3)) (.int (nI 0)) (.int (-1)) (.int (nI 0)) (.int (nI 0)) (.int (nI 0)) (.int (nI 0)) (.int (nI 0)) f2 j0 (by omega) (by omega)) [1, 2, 9] rfl rfl mok_yX4_writeSlot w_903 w_783 w_784 (rcv hK hP 1 rfl rfl rfl) ⟨Nat.le_of_ble_eq_true rfl, Nat.le_of_ble_eq_true rfl⟩ rfl hl.1 rfl (Nat.le_of_ble_eq_true rfl) dX9_make_203 ⟨(Nat.le_of_ble_eq_true rfl), (Nat.le_of_ble_eq_true rfl)⟩) hP hD hS hA [1, 2, 9] [0, 3, 4, 5, 6, 7, 8, 10] rfl rfl rfl (by decide) (w2 := fun u9 => [(h0, .inr (9, [.ref h1, .ref h7, .ref h2, v0, .ref h6, v1, v2, v3, v4])), (h1, .inr (5, [.ref h3, .int (nI 1)])), (h3, .inl (K 0, 200, .inr (.inr (.inr (.inr (va_up f0 0 (some q0))))))), ((u5 0), .inl (K 0, 1, .inr (.inr (.inr (.inr (fun _ => none)))))), (h2, .inr (3, [.ref h4, v5, v6, .int (nI 0), .int (nI 3), v7, v8, v9])), (h4, .inr (5, [.ref h5, .int (nI 1)])), (h5, .inl (K 0, 200, .inr (.inr (.inr (.inr (va_up f1 0 (some q0))))))), (h6, .inr (1, [v10, v11, .int (nI 0)])), (h8, .inl (K 0, 32, .inr (.inr (.inr (.inr (va_up f2 (0 + j0) (some q0))))))), (q0, .inr (7, [.int (nI 0), .ref (u5 0), .int (nI 0), .int (nI 1), .int (nI 0), .int (nI 3), .int (nI 3), .int (nI 0), .int (-1), .int (nI 0), .int (nI 0), .int (nI 0), .int (nI 0), .int (nI 0)])), (h7, .inr (4, [v12, .ref h8, v13, .int (nI 1)]))]) (fun _ => rfl) (fun u9 H locs hP hD hS => ?_)
  refine lv_aload hx hb dX9_make_206 (lv_at hl 0 rfl) ?_
  refine r_get hx hb hts ok_RX7 hown hK hP 9 rfl rfl 0 (by decide) w_810 (fun _ h9 => h9) rfl dX9_make_208 ?_
  exact e_i hx hb hr hlk hP hD hS (fun k => match k with | 0 => q0 | 1 => (u5 0) | _ => 0) rfl (Nat.le_of_ble_eq_true rfl) (Nat.le_of_ble_eq_true rfl) rfl dX9_make_211
set_option maxHeartbeats 4000000 in
set_option maxRecDepth 100000 in
theorem C122_isIn (l : Launch) (G : Nat → Nat) (D : va_G) (K : Nat → ClassId) (sz : Nat) : CM l yX12_isIn cX12_isIn 3 (some FieldType.boolean) ({ frames := 0, cells := 0, slots := 0, locals := 0 } : Room) G D K [.int (nI 1), .int (nI 0), .int (nI 20)] [] sz (CQi (nI 1) D (fun _ => [])) := by
  refine CM_of (lv0 := [(0, .int (nI 1)), (1, .int (nI 0)), (2, .int (nI 20))]) pn_RX12 (Nat.le_of_ble_eq_true rfl) rfl (fun p e s m args below meth c A ls hx hb hr hml hown hts hlk hnm hP hK hD hS hA hm hl => ?_)
  have hown : s.vm.findClass RX12 = some m.cls := hown
  refine lv_iload_n hx hb dX12_isIn_0 rfl (lv_at hl 0 rfl) ?_
  refine lv_iload_n hx hb dX12_isIn_1 rfl (lv_at hl 1 rfl) ?_
  refine lv_icmp_lt (tgt := 14) hx hb dX12_isIn_2 (by decide) (fun c9 => absurd c9 (by decide +kernel)) (fun _ => ?_)
  refine lv_iload_n hx hb dX12_isIn_5 rfl (lv_at hl 0 rfl) ?_
  refine lv_iload_n hx hb dX12_isIn_6 rfl (lv_at hl 2 rfl) ?_
  refine lv_icmp_gt (tgt := 14) hx hb dX12_isIn_7 (by decide) (fun c9 => absurd c9 (by decide +kernel)) (fun _ => ?_)
  refine lv_iconst (v := nI 1) hx hb dX12_isIn_10 (by decide +kernel) ?_
  refine lv_goto (tgt := 15) hx hb dX12_isIn_11 (by decide) ?_
  exact e_z hx hb hr hlk hP hD hS (fun _ => 0) rfl (Nat.le_of_ble_eq_true rfl) (Nat.le_of_ble_eq_true rfl) rfl (Or.inr rfl) dX12_isIn_15
set_option maxHeartbeats 4000000 in
set_option maxRecDepth 100000 in
theorem C123_addressFor (l : Launch) (G : Nat → Nat) (D : va_G) (K : Nat → ClassId) (sz : Nat) (h0 : Nat) (v0 v1 v2 v3 v4 v5 v6 v7 v8 v9 v10 v11 v12 v13 v14 : Value) : CM l yX10_addressFor cX10_addressFor 3 (some FieldType.int) ({ frames := 0, cells := 0, slots := 0, locals := 0 } : Room) G D K [.ref h0, .int (nI 1)] [(h0, .inr (10, [v0, v1, v2, v3, v4, .int (nI 0), .int (nI 0), v5, v6, v7, v8, v9, v10, v11, v12, v13, v14]))] sz (CQi (nI 0) D (fun _ => [(h0, .inr (10, [v0, v1, v2, v3, v4, .int (nI 0), .int (nI 0), v5, v6, v7, v8, v9, v10, v11, v12, v13, v14]))])) := by
  refine CM_of (lv0 := [(0, .ref h0), (1, .int (nI 1))]) pn_RX10 (Nat.le_of_ble_eq_true rfl) rfl (fun p e s m args below meth c A ls hx hb hr hml hown hts hlk hnm hP hK hD hS hA hm hl => ?_)
  have hown : s.vm.findClass RX10 = some m.cls := hown
  refine lv_iconst (v := nI 2) hx hb dX10_addressFor_0 (by decide +kernel) ?_
  refine lv_iload_n hx hb dX10_addressFor_1 rfl (lv_at hl 1 rfl) ?_
  refine lv_iadd hx hb dX10_addressFor_2 ?_
  refine w_toeq (show (nI 2) + (nI 1) = nI 3 by decide +kernel) ?_
  refine lv_istore_n (lv' := [(2, .int (nI 3)), (0, .ref h0), (1, .int (nI 1))]) hx hb dX10_addressFor_3 rfl hl (by decide) rfl (fun ls hl => ?_)
  refine lv_iload_n hx hb dX10_addressFor_4 rfl (lv_at hl 2 rfl) ?_
  refine lv_bipush (v := nI 12) hx hb dX10_addressFor_5 (by decide +kernel) ?_
  refine lv_icmp_lt (tgt := 16) hx hb dX10_addressFor_7 (by decide) (fun _ => ?_) (fun c9 => absurd (by decide +kernel) c9)
  refine lv_aload_n hx hb dX10_addressFor_16 rfl (lv_at hl 1 rfl) ?_
  refine r_get hx hb hts ok_RX10 hown hK hP 0 rfl rfl 6 (by decide) w_1236 (fun _ h9 => h9) rfl dX10_addressFor_17 ?_
  refine lv_iload_n hx hb dX10_addressFor_20 rfl (lv_at hl 0 rfl) ?_
  refine lv_iadd hx hb dX10_addressFor_21 ?_
  refine w_toeq (show (nI 0) + (nI 3) = nI 3 by decide +kernel) ?_
  refine lv_bipush (v := nI 40) hx hb dX10_addressFor_22 (by decide +kernel) ?_
  refine lv_icmp_gt (tgt := 39) hx hb dX10_addressFor_24 (by decide) (fun c9 => absurd c9 (by decide +kernel)) (fun _ => ?_)
  refine lv_aload_n hx hb dX10_addressFor_27 rfl (lv_at hl 1 rfl) ?_
  refine r_get hx hb hts ok_RX10 hown hK hP 0 rfl rfl 5 (by decide) w_1234 (fun _ h9 => h9) rfl dX10_addressFor_28 ?_
  refine lv_aload_n hx hb dX10_addressFor_31 rfl (lv_at hl 1 rfl) ?_
  refine r_get hx hb hts ok_RX10 hown hK hP 0 rfl rfl 6 (by decide) w_1236 (fun _ h9 => h9) rfl dX10_addressFor_32 ?_
  refine lv_iadd hx hb dX10_addressFor_35 ?_
  refine w_toeq (show (nI 0) + (nI 0) = nI 0 by decide +kernel) ?_
  refine lv_goto (tgt := 40) hx hb dX10_addressFor_36 (by decide) ?_
  exact e_i hx hb hr hlk hP hD hS (fun _ => 0) rfl (Nat.le_of_ble_eq_true rfl) (Nat.le_of_ble_eq_true rfl) rfl dX10_addressFor_40
set_option maxHeartbeats 4000000 in
set_option maxRecDepth 100000 in
theorem C124_init (l : Launch) (G : Nat → Nat) (D : va_G) (K : Nat → ClassId) (sz : Nat) (h0 : Nat) (v0 v1 v2 v3 v4 v5 v6 v7 v8 v9 : Value) (o0 : Int32) : CM l yX11_init cX11_init 5 (none : Option FieldType) ({ frames := 1, cells := 1, slots := 1, locals := 20 } : Room) G D K [.ref h0, .int (nI 0), .int o0, .int (nI 1)] [(h0, .inr (11, [v0, .null, v1, v2, v3, v4, v5, v6, v7, v8, v9]))] sz (CQv D (fun u => [(h0, .inr (11, [.int (nI 0), .ref (u 0), .int o0, v2, v3, v4, .int (-1), v6, v7, v8, v9])), ((u 0), .inl (K 2, 1, .inl (fun _ => (-1))))])) := by
  refine CM_of (lv0 := [(0, .ref h0), (1, .int (nI 0)), (2, .int o0), (3, .int (nI 1))]) pn_RX11 (Nat.le_of_ble_eq_true rfl) rfl (fun p e s m args below meth c A ls hx hb hr hml hown hts hlk hnm hP hK hD hS hA hm hl => ?_)
  have hown : s.vm.findClass RX11 = some m.cls := hown
  refine lv_aload_n hx hb dX11_init_0 rfl (lv_at hl 0 rfl) ?_
  refine r_oinit hx hb hts hown w_1827 w_44 w_45 hml hl.1 dX11_init_1 (Nat.le_of_ble_eq_true rfl) (Nat.le_of_ble_eq_true rfl) ?_
  refine lv_aload_n hx hb dX11_init_4 rfl (lv_at hl 0 rfl) ?_
  refine lv_iconst (v := (-1)) hx hb dX11_init_5 (by decide +kernel) ?_
  refine r_put hx hb hts ok_RX11 hown hK hP hD hS 0 rfl rfl 6 (by decide) w_1846 (fun _ h9 => h9) rfl (v := .int (-1)) rfl rfl (Nat.le_of_ble_eq_true rfl) dX11_init_6 (ws' := [(h0, .inr (11, [v0, .null, v1, v2, v3, v4, .int (-1), v6, v7, v8, v9]))]) rfl (fun H locs hP hD hS => ?_)
  refine lv_aload_n hx hb dX11_init_9 rfl (lv_at hl 0 rfl) ?_
  refine lv_iload_n hx hb dX11_init_10 rfl (lv_at hl 1 rfl) ?_
  refine r_putF hx hb hts ok_RX11 hown hK hP hD hS 0 rfl rfl 0 (by decide) w_1828 (fun _ h9 => h9) rfl hnm rfl (v := .int (nI 0)) rfl rfl (Nat.le_of_ble_eq_true rfl) dX11_init_11 (ws' := [(h0, .inr (11, [.int (nI 0), .null, v1, v2, v3, v4, .int (-1), v6, v7, v8, v9]))]) rfl (fun H locs hP hD hS => ?_)
  refine lv_aload_n hx hb dX11_init_14 rfl (lv_at hl 0 rfl) ?_
  refine lv_iload_n hx hb dX11_init_15 rfl (lv_at hl 2 rfl) ?_
  refine r_put hx hb hts ok_RX11 hown hK hP hD hS 0 rfl rfl 2 (by decide) w_1834 (fun _ h9 => h9) rfl (v := .int o0) rfl rfl (Nat.le_of_ble_eq_true rfl) dX11_init_16 (ws' := [(h0, .inr (11, [.int (nI 0), .null, .int o0, v2, v3, v4, .int (-1), v6, v7, v8, v9]))]) rfl (fun H locs hP hD hS => ?_)
  refine lv_aload_n hx hb dX11_init_19 rfl (lv_at hl 0 rfl) ?_
  refine lv_iload_n hx hb dX11_init_20 rfl (lv_at hl 3 rfl) ?_
  refine r_newa (atype := .int) hx hb hts w_1292 rfl hK hP hD hS hA 2 rfl (N := 1) (a0 := (1, .inl (fun _ => nI 0))) (fun _ => rfl) (by decide +kernel) (by decide +kernel) (by decide) (Nat.le_of_ble_eq_true rfl) (Nat.le_of_ble_eq_true rfl) dX11_init_21 (w2 := fun q0 => [(h0, .inr (11, [.int (nI 0), .null, .int o0, v2, v3, v4, .int (-1), v6, v7, v8, v9])), (q0, .inl (K 2, 1, .inl (fun _ => nI 0)))]) (fun _ => rfl) (fun q0 H hP hD hS => ?_)
  refine r_putF hx hb hts ok_RX11 hown hK hP hD hS 0 rfl rfl 1 (by decide) w_1831 (fun _ h9 => h9) rfl hnm rfl (v := .ref q0) rfl rfl (Nat.le_of_ble_eq_true rfl) dX11_init_23 (ws' := [(h0, .inr (11, [.int (nI 0), .ref q0, .int o0, v2, v3, v4, .int (-1), v6, v7, v8, v9])), (q0, .inl (K 2, 1, .inl (fun _ => nI 0)))]) rfl (fun H locs hP hD hS => ?_)
  refine lv_iconst (v := nI 0) hx hb dX11_init_26 (by decide +kernel) ?_
  refine lv_istore (lv' := [(4, .int (nI 0)), (0, .ref h0), (1, .int (nI 0)), (2, .int o0), (3, .int (nI 1))]) hx hb dX11_init_27 hl (by decide) rfl (fun ls hl => ?_)
  refine lv_iload hx hb dX11_init_29 (lv_at hl 0 rfl) ?_
  refine lv_iload_n hx hb dX11_init_31 rfl (lv_at hl 4 rfl) ?_
  refine lv_icmp_ge (tgt := 49) hx hb dX11_init_32 (by decide) (fun c9 => absurd c9 (by decide +kernel)) (fun _ => ?_)
  refine lv_aload_n hx hb dX11_init_35 rfl (lv_at hl 1 rfl) ?_
  refine r_get hx hb hts ok_RX11 hown hK hP 0 rfl rfl 1 (by decide) w_1831 (fun _ h9 => h9) rfl dX11_init_36 ?_
  refine lv_iload hx hb dX11_init_39 (lv_at hl 0 rfl) ?_
  refine lv_iconst (v := (-1)) hx hb dX11_init_41 (by decide +kernel) ?_
  refine r_iast (k := 0) hx hb hK hP hD hS 1 2 rfl rfl (Nat.le_of_ble_eq_true rfl) (by decide) dX11_init_42 (ws' := [(h0, .inr (11, [.int (nI 0), .ref q0, .int o0, v2, v3, v4, .int (-1), v6, v7, v8, v9])), (q0, .inl (K 2, 1, .inl (upd (fun _ => nI 0) 0 (-1))))]) rfl (fun H locs hP hD hS => ?_)
  obtain ⟨hP, hD⟩ := nrm (g := fun _ => (-1)) (ws' := [(h0, .inr (11, [.int (nI 0), .ref q0, .int o0, v2, v3, v4, .int (-1), v6, v7, v8, v9])), (q0, .inl (K 2, 1, .inl (fun _ => (-1))))]) hP hD 1 rfl (fun j hj => by cases (show j = 0 by omega); rfl) rfl
  refine lv_iinc (v := nI 1) (lv' := [(4, .int (nI 1)), (0, .ref h0), (1, .int (nI 0)), (2, .int o0), (3, .int (nI 1))]) hx hb dX11_init_43 hl (k := 0) rfl (by decide +kernel) (by decide) rfl (fun ls hl => ?_)
  refine lv_goto (tgt := 29) hx hb dX11_init_46 (by decide) ?_
  refine lv_iload hx hb dX11_init_29 (lv_at hl 0 rfl) ?_
  refine lv_iload_n hx hb dX11_init_31 rfl (lv_at hl 4 rfl) ?_
  refine lv_icmp_ge (tgt := 49) hx hb dX11_init_32 (by decide) (fun _ => ?_) (fun c9 => absurd (by decide +kernel) c9)
  exact e_v hx hb hr hlk hP hD hS (fun k => match k with | 0 => q0 | _ => 0) rfl (Nat.le_of_ble_eq_true rfl) (Nat.le_of_ble_eq_true rfl) dX11_init_49
set_option maxHeartbeats 4000000 in
set_option maxRecDepth 100000 in
theorem C125_size (l : Launch) (G : Nat → Nat) (D : va_G) (K : Nat → ClassId) (sz : Nat) (h0 h1 : Nat) (v0 v1 v2 v3 v4 v5 v6 v7 v8 : Value) (f0 : Nat → Int32) : CM l yX11_size cX11_size 1 (some FieldType.int) ({ frames := 0, cells := 0, slots := 0, locals := 0 } : Room) G D K [.ref h0] [(h0, .inr (11, [v0, .ref h1, v1, v2, v3, v4, v5, v6, .int (nI 0), v7, v8])), (h1, .inl (K 2, 1, .inl f0))] sz (CQi (nI 3) D (fun _ => [(h0, .inr (11, [v0, .ref h1, v1, v2, v3, v4, v5, v6, .int (nI 0), v7, v8])), (h1, .inl (K 2, 1, .inl f0))])) := by
  refine CM_of (lv0 := [(0, .ref h0)]) pn_RX11 (Nat.le_of_ble_eq_true rfl) rfl (fun p e s m args below meth c A ls hx hb hr hml hown hts hlk hnm hP hK hD hS hA hm hl => ?_)
  have hown : s.vm.findClass RX11 = some m.cls := hown
  refine lv_iconst (v := nI 2) hx hb dX11_size_0 (by decide +kernel) ?_
  refine lv_aload_n hx hb dX11_size_1 rfl (lv_at hl 0 rfl) ?_
  refine r_get hx hb hts ok_RX11 hown hK hP 0 rfl rfl 1 (by decide) w_1831 (fun _ h9 => h9) rfl dX11_size_2 ?_
  refine r_alen (n := 1) hx hb hK hP 1 2 rfl rfl rfl dX11_size_5 ?_
  refine lv_iadd hx hb dX11_size_6 ?_
  refine w_toeq (show (nI 2) + (nI 1) = nI 3 by decide +kernel) ?_
  refine lv_aload_n hx hb dX11_size_7 rfl (lv_at hl 0 rfl) ?_
  refine r_get hx hb hts ok_RX11 hown hK hP 0 rfl rfl 8 (by decide) w_1851 (fun _ h9 => h9) rfl dX11_size_8 ?_
  refine lv_if_eq (tgt := 18) hx hb dX11_size_11 (by decide) (fun _ => ?_) (fun c9 => absurd (by decide +kernel) c9)
  refine lv_iconst (v := nI 0) hx hb dX11_size_18 (by decide +kernel) ?_
  refine lv_iadd hx hb dX11_size_19 ?_
  refine w_toeq (show (nI 3) + (nI 0) = nI 3 by decide +kernel) ?_
  exact e_i hx hb hr hlk hP hD hS (fun _ => 0) rfl (Nat.le_of_ble_eq_true rfl) (Nat.le_of_ble_eq_true rfl) rfl dX11_size_20
set_option maxHeartbeats 4000000 in
set_option maxRecDepth 100000 in
theorem C126_make (l : Launch) (G : Nat → Nat) (D : va_G) (K : Nat → ClassId) (sz : Nat) (h0 h1 : Nat) (v0 v1 v2 v3 v4 v5 v6 v7 v8 v9 v10 v11 v12 v13 : Value) (o0 : Int32) : CM l yX10_make cX10_make 6 (some FieldType.int) ({ frames := 5, cells := 3, slots := 22, locals := 108 } : Room) G D K [.ref h0, .int o0, .int (nI 1)] [(h0, .inr (10, [.ref h1, v0, v1, v2, v3, .int (nI 0), .int (nI 0), v4, v5, v6, v7, v8, v9, v10, v11, v12, v13])), (h1, .inr (13, [.int (nI 0), .ref (G 0), .int (nI 0)]))] sz (CQi (nI 0) D (fun u => [(h0, .inr (10, [.ref h1, v0, v1, v2, v3, .int (nI 0), .int (nI 3), v4, v5, v6, v7, v8, v9, v10, v11, v12, v13])), (h1, .inr (13, [.int (nI 1), .ref (u 2), .int (nI 1)])), ((u 2), .inl (K 4, 10, .inr (.inr (.inr (.inr (va_up (fun _ => none) 0 (some (u 0)))))))), ((u 0), .inr (11, [.int (nI 0), .ref (u 1), .int o0, .int (nI 1), .int (nI 0), .int (nI 0), .int (-1), .int (nI 2), .int (nI 0), .int (nI 0), .int (nI 0)])), ((u 1), .inl (K 2, 1, .inl (fun _ => (-1))))])) := by
  refine CM_of (lv0 := [(0, .ref h0), (1, .int o0), (2, .int (nI 1))]) pn_RX10 (Nat.le_of_ble_eq_true rfl) rfl (fun p e s m args below meth c A ls hx hb hr hml hown hts hlk hnm hP hK hD hS hA hm hl => ?_)
  have hown : s.vm.findClass RX10 = some m.cls := hown
  refine lv_iload_n hx hb dX10_make_0 rfl (lv_at hl 2 rfl) ?_
  refine lv_bipush (v := nI 12) hx hb dX10_make_1 (by decide +kernel) ?_
  refine lv_icmp_lt (tgt := 10) hx hb dX10_make_3 (by decide) (fun _ => ?_) (fun c9 => absurd (by decide +kernel) c9)
  refine lv_iconst (v := nI 0) hx hb dX10_make_10 (by decide +kernel) ?_
  refine lv_istore_n (lv' := [(3, .int (nI 0)), (0, .ref h0), (1, .int o0), (2, .int (nI 1))]) hx hb dX10_make_11 rfl hl (by decide) rfl (fun ls hl => ?_)
  refine lv_aload_n hx hb dX10_make_12 rfl (lv_at hl 1 rfl) ?_
  refine lv_iload_n hx hb dX10_make_13 rfl (lv_at hl 3 rfl) ?_
  refine k_i (wr := [(h1, .inr (13, [.int (nI 0), .ref (G 0), .int (nI 0)]))]) (run_V (rest := []) hx hb hml hown hts hK hP hD hS hA hm (C123_addressFor l G D K s.heap.size h0 (.ref h1) (v0) (v1) (v2) (v3) (v4) (v5) (v6) (v7) (v8) (v9) (v10) (v11) (v12) (v13)) [0] rfl rfl mok_yX10_addressFor w_1359 w_1360 w_1361 (rcv hK hP 0 rfl rfl rfl) ⟨Nat.le_of_ble_eq_true rfl, Nat.le_of_ble_eq_true rfl⟩ rfl hl.1 rfl (Nat.le_of_ble_eq_true rfl) dX10_make_14 ⟨(Nat.le_of_ble_eq_true rfl), (Nat.le_of_ble_eq_true rfl)⟩) hP hD hS hA [0] [1] rfl rfl rfl (by decide) (w2 := fun u0 => [(h1, .inr (13, [.int (nI 0), .ref (G 0), .int (nI 0)])), (h0, .inr (10, [.ref h1, v0, v1, v2, v3, .int (nI 0), .int (nI 0), v4, v5, v6, v7, v8, v9, v10, v11, v12, v13]))]) (fun _ => rfl) (fun u0 H locs hP hD hS => ?_)
  refine lv_iconst (v := (-1)) hx hb dX10_make_17 (by decide +kernel) ?_
  refine lv_icmp_ne (tgt := 30) hx hb dX10_make_18 (by decide) (fun _ => ?_) (fun c9 => absurd c9 (by decide +kernel))
  refine lv_aload_n hx hb dX10_make_30 rfl (lv_at hl 1 rfl) ?_
  refine lv_iload_n hx hb dX10_make_31 rfl (lv_at hl 3 rfl) ?_
  refine k_i (wr := [(h1, .inr (13, [.int (nI 0), .ref (G 0), .int (nI 0)]))]) (run_V (rest := []) hx hb hml hown hts hK hP hD hS hA hm (C123_addressFor l G D K H.size h0 (.ref h1) (v0) (v1) (v2) (v3) (v4) (v5) (v6) (v7) (v8) (v9) (v10) (v11) (v12) (v13)) [1] rfl rfl mok_yX10_addressFor w_1359 w_1360 w_1361 (rcv hK hP 1 rfl rfl rfl) ⟨Nat.le_of_ble_eq_true rfl, Nat.le_of_ble_eq_true rfl⟩ rfl hl.1 rfl (Nat.le_of_ble_eq_true rfl) dX10_make_32 ⟨(Nat.le_of_ble_eq_true rfl), (Nat.le_of_ble_eq_true rfl)⟩) hP hD hS hA [1] [0] rfl rfl rfl (by decide) (w2 := fun u1 => [(h1, .inr (13, [.int (nI 0), .ref (G 0), .int (nI 0)])), (h0, .inr (10, [.ref h1, v0, v1, v2, v3, .int (nI 0), .int (nI 0), v4, v5, v6, v7, v8, v9, v10, v11, v12, v13]))]) (fun _ => rfl) (fun u1 H locs hP hD hS => ?_)
  refine lv_iconst (v := (-1)) hx hb dX10_make_35 (by decide +kernel) ?_
  refine lv_icmp_ne (tgt := 45) hx hb dX10_make_36 (by decide) (fun _ => ?_) (fun c9 => absurd c9 (by decide +kernel))
  refine lv_aload_n hx hb dX10_make_45 rfl (lv_at hl 1 rfl) ?_
  refine lv_iload_n hx hb dX10_make_46 rfl (lv_at hl 3 rfl) ?_
  refine k_i (wr := [(h1, .inr (13, [.int (nI 0), .ref (G 0), .int (nI 0)]))]) (run_V (rest := []) hx hb hml hown hts hK hP hD hS hA hm (C123_addressFor l G D K H.size h0 (.ref h1) (v0) (v1) (v2) (v3) (v4) (v5) (v6) (v7) (v8) (v9) (v10) (v11) (v12) (v13)) [1] rfl rfl mok_yX10_addressFor w_1359 w_1360 w_1361 (rcv hK hP 1 rfl rfl rfl) ⟨Nat.le_of_ble_eq_true rfl, Nat.le_of_ble_eq_true rfl⟩ rfl hl.1 rfl (Nat.le_of_ble_eq_true rfl) dX10_make_47 ⟨(Nat.le_of_ble_eq_true rfl), (Nat.le_of_ble_eq_true rfl)⟩) hP hD hS hA [1] [0] rfl rfl rfl (by decide) (w2 := fun u2 => [(h1, .inr (13, [.int (nI 0), .ref (G 0), .int (nI 0)])), (h0, .inr (10, [.ref h1, v0, v1, v2, v3, .int (nI 0), .int (nI 0), v4, v5, v6, v7, v8, v9, v10, v11, v12, v13]))]) (fun _ => rfl) (fun u2 H locs hP hD hS => ?_)
  refine lv_iconst (v := (-1)) hx hb dX10_make_50 (by decide +kernel) ?_
  refine lv_icmp_ne (tgt := 60) hx hb dX10_make_51 (by decide) (fun _ => ?_) (fun c9 => absurd c9 (by decide +kernel))
  refine lv_aload_n hx hb dX10_make_60 rfl (lv_at hl 1 rfl) ?_
  refine lv_iload_n hx hb dX10_make_61 rfl (lv_at hl 3 rfl) ?_
  refine k_i (wr := [(h1, .inr (13, [.int (nI 0), .ref (G 0), .int (nI 0)]))]) (run_V (rest := []) hx hb hml hown hts hK hP hD hS hA hm (C123_addressFor l G D K H.size h0 (.ref h1) (v0) (v1) (v2) (v3) (v4) (v5) (v6) (v7) (v8) (v9) (v10) (v11) (v12) (v13)) [1] rfl rfl mok_yX10_addressFor w_1359 w_1360 w_1361 (rcv hK hP 1 rfl rfl rfl) ⟨Nat.le_of_ble_eq_true rfl, Nat.le_of_ble_eq_true rfl⟩ rfl hl.1 rfl (Nat.le_of_ble_eq_true rfl) dX10_make_62 ⟨(Nat.le_of_ble_eq_true rfl), (Nat.le_of_ble_eq_true rfl)⟩) hP hD hS hA [1] [0] rfl rfl rfl (by decide) (w2 := fun u3 => [(h1, .inr (13, [.int (nI 0), .ref (G 0), .int (nI 0)])), (h0, .inr (10, [.ref h1, v0, v1, v2, v3, .int (nI 0), .int (nI 0), v4, v5, v6, v7, v8, v9, v10, v11, v12, v13]))]) (fun _ => rfl) (fun u3 H locs hP hD hS => ?_)
  refine lv_istore (lv' := [(4, .int (nI 0)), (3, .int (nI 0)), (0, .ref h0), (1, .int o0), (2, .int (nI 1))]) hx hb dX10_make_65 hl (by decide) rfl (fun ls hl => ?_)
  refine lv_iload hx hb dX10_make_67 (lv_at hl 0 rfl) ?_
  refine lv_iconst (v := (-1)) hx hb dX10_make_69 (by decide +kernel) ?_
  refine lv_icmp_ne (tgt := 75) hx hb dX10_make_70 (by decide) (fun _ => ?_) (fun c9 => absurd c9 (by decide +kernel))
  refine r_new (ci := 11) (C := RX11) (T := TX11) (N := 11) hx hb hts ok_RX11 hown w_1417 w_1823 w_37 hK hP hD hS hA rfl df_RX11 (Nat.le_of_ble_eq_true rfl) (Nat.le_of_ble_eq_true rfl) dX10_make_75 (w2 := fun q0 => [(h1, .inr (13, [.int (nI 0), .ref (G 0), .int (nI 0)])), (h0, .inr (10, [.ref h1, v0, v1, v2, v3, .int (nI 0), .int (nI 0), v4, v5, v6, v7, v8, v9, v10, v11, v12, v13])), (q0, .inr (11, [.int (nI 0), .null, .int (nI 0), .int (nI 0), .int (nI 0), .int (nI 0), .int (nI 0), .int (nI 0), .int (nI 0), .int (nI 0), .int (nI 0)]))]) (fun _ => rfl) (fun q0 H hP hD hS => ?_)
  refine lv_dup hx hb dX10_make_78 rfl ?_
  refine lv_aload_n hx hb dX10_make_79 rfl (lv_at hl 2 rfl) ?_
  refine r_get hx hb hts ok_RX10 hown hK hP 1 rfl rfl 0 (by decide) w_1224 (fun _ h9 => h9) rfl dX10_make_80 ?_
  refine k_i (wr := [(h0, .inr (10, [.ref h1, v0, v1, v2, v3, .int (nI 0), .int (nI 0), v4, v5, v6, v7, v8, v9, v10, v11, v12, v13])), (q0, .inr (11, [.int (nI 0), .null, .int (nI 0), .int (nI 0), .int (nI 0), .int (nI 0), .int (nI 0), .int (nI 0), .int (nI 0), .int (nI 0), .int (nI 0)]))]) (run_V (rest := [.ref q0, .ref q0]) hx hb hml hown hts hK hP hD hS hA hm (C102_size l G D K H.size h1 (.int (nI 0)) (.ref (G 0))) [0] rfl rfl mok_yJx4a65c_size_8abf5 w_1418 w_1309 w_1310 (rcv hK hP 0 rfl rfl rfl) ⟨Nat.le_of_ble_eq_true rfl, Nat.le_of_ble_eq_true rfl⟩ rfl hl.1 rfl (Nat.le_of_ble_eq_true rfl) dX10_make_83 ⟨(Nat.le_of_ble_eq_true rfl), (Nat.le_of_ble_eq_true rfl)⟩) hP hD hS hA [0] [1, 2] rfl rfl rfl (by decide) (w2 := fun u4 => [(h0, .inr (10, [.ref h1, v0, v1, v2, v3, .int (nI 0), .int (nI 0), v4, v5, v6, v7, v8, v9, v10, v11, v12, v13])), (q0, .inr (11, [.int (nI 0), .null, .int (nI 0), .int (nI 0), .int (nI 0), .int (nI 0), .int (nI 0), .int (nI 0), .int (nI 0), .int (nI 0), .int (nI 0)])), (h1, .inr (13, [.int (nI 0), .ref (G 0), .int (nI 0)]))]) (fun _ => rfl) (fun u4 H locs hP hD hS => ?_)
  refine lv_iload_n hx hb dX10_make_86 rfl (lv_at hl 3 rfl) ?_
  refine lv_iload_n hx hb dX10_make_87 rfl (lv_at hl 4 rfl) ?_
  refine k_v (wr := [(h0, .inr (10, [.ref h1, v0, v1, v2, v3, .int (nI 0), .int (nI 0), v4, v5, v6, v7, v8, v9, v10, v11, v12, v13])), (h1, .inr (13, [.int (nI 0), .ref (G 0), .int (nI 0)]))]) (run_I (rest := [.ref q0]) hx hb hml hown hts hK hP hD hS hA hm (C124_init l G D K H.size q0 (.int (nI 0)) (.int (nI 0)) (.int (nI 0)) (.int (nI 0)) (.int (nI 0)) (.int (nI 0)) (.int (nI 0)) (.int (nI 0)) (.int (nI 0)) (.int (nI 0)) o0) [1] rfl rfl mok_yX11_init w_1824 w_1825 rfl ⟨Nat.le_of_ble_eq_true rfl, Nat.le_of_ble_eq_true rfl⟩ rfl hl.1 rfl (Nat.le_of_ble_eq_true rfl) dX10_make_88 ⟨(Nat.le_of_ble_eq_true rfl), (Nat.le_of_ble_eq_true rfl)⟩) hP hD hS hA [1] [0, 2] rfl rfl rfl (by decide) (w2 := fun u5 => [(h0, .inr (10, [.ref h1, v0, v1, v2, v3, .int (nI 0), .int (nI 0), v4, v5, v6, v7, v8, v9, v10, v11, v12, v13])), (h1, .inr (13, [.int (nI 0), .ref (G 0), .int (nI 0)])), (q0, .inr (11, [.int (nI 0), .ref (u5 0), .int o0, .int (nI 0), .int (nI 0), .int (nI 0), .int (-1), .int (nI 0), .int (nI 0), .int (nI 0), .int (nI 0)])), ((u5 0), .inl (K 2, 1, .inl (fun _ => (-1))))]) (fun _ => rfl) (fun u5 H locs hP hD hS => ?_)
  refine lv_astore (lv' := [(5, .ref q0), (4, .int (nI 0)), (3, .int (nI 0)), (0, .ref h0), (1, .int o0), (2, .int (nI 1))]) hx hb dX10_make_91 hl (by decide) rfl (fun ls hl => ?_)
  refine lv_aload hx hb dX10_make_93 (lv_at hl 0 rfl) ?_
  refine lv_iload_n hx hb dX10_make_95 rfl (lv_at hl 2 rfl) ?_
  refine lv_if_eq (tgt := 103) hx hb dX10_make_96 (by decide) (fun _ => ?_) (fun c9 => absurd (by decide +kernel) c9)
  refine lv_iconst (v := nI 1) hx hb dX10_make_103 (by decide +kernel) ?_
  refine r_put hx hb hts ok_RX11 hown hK hP hD hS 2 rfl rfl 3 (by decide) w_1838 (fun _ h9 => h9) rfl (v := .int (nI 1)) rfl rfl (Nat.le_of_ble_eq_true rfl) dX10_make_104 (ws' := [(h0, .inr (10, [.ref h1, v0, v1, v2, v3, .int (nI 0), .int (nI 0), v4, v5, v6, v7, v8, v9, v10, v11, v12, v13])), (h1, .inr (13, [.int (nI 0), .ref (G 0), .int (nI 0)])), (q0, .inr (11, [.int (nI 0), .ref (u5 0), .int o0, .int (nI 1), .int (nI 0), .int (nI 0), .int (-1), .int (nI 0), .int (nI 0), .int (nI 0), .int (nI 0)])), ((u5 0), .inl (K 2, 1, .inl (fun _ => (-1))))]) rfl (fun H locs hP hD hS => ?_)
  refine lv_aload hx hb dX10_make_107 (lv_at hl 0 rfl) ?_
  refine lv_iload hx hb dX10_make_109 (lv_at hl 1 rfl) ?_
  refine r_put hx hb hts ok_RX11 hown hK hP hD hS 2 rfl rfl 4 (by decide) w_1841 (fun _ h9 => h9) rfl (v := .int (nI 0)) rfl rfl (Nat.le_of_ble_eq_true rfl) dX10_make_111 (ws' := [(h0, .inr (10, [.ref h1, v0, v1, v2, v3, .int (nI 0), .int (nI 0), v4, v5, v6, v7, v8, v9, v10, v11, v12, v13])), (h1, .inr (13, [.int (nI 0), .ref (G 0), .int (nI 0)])), (q0, .inr (11, [.int (nI 0), .ref (u5 0), .int o0, .int (nI 1), .int (nI 0), .int (nI 0), .int (-1), .int (nI 0), .int (nI 0), .int (nI 0), .int (nI 0)])), ((u5 0), .inl (K 2, 1, .inl (fun _ => (-1))))]) rfl (fun H locs hP hD hS => ?_)
  refine lv_aload hx hb dX10_make_114 (lv_at hl 0 rfl) ?_
  refine lv_iconst (v := nI 2) hx hb dX10_make_116 (by decide +kernel) ?_
  refine r_put hx hb hts ok_RX11 hown hK hP hD hS 2 rfl rfl 7 (by decide) w_1849 (fun _ h9 => h9) rfl (v := .int (nI 2)) rfl rfl (Nat.le_of_ble_eq_true rfl) dX10_make_117 (ws' := [(h0, .inr (10, [.ref h1, v0, v1, v2, v3, .int (nI 0), .int (nI 0), v4, v5, v6, v7, v8, v9, v10, v11, v12, v13])), (h1, .inr (13, [.int (nI 0), .ref (G 0), .int (nI 0)])), (q0, .inr (11, [.int (nI 0), .ref (u5 0), .int o0, .int (nI 1), .int (nI 0), .int (nI 0), .int (-1), .int (nI 2), .int (nI 0), .int (nI 0), .int (nI 0)])), ((u5 0), .inl (K 2, 1, .inl (fun _ => (-1))))]) rfl (fun H locs hP hD hS => ?_)
  refine lv_aload_n hx hb dX10_make_120 rfl (lv_at hl 3 rfl) ?_
  refine r_get hx hb hts ok_RX10 hown hK hP 0 rfl rfl 0 (by decide) w_1224 (fun _ h9 => h9) rfl dX10_make_121 ?_
  refine lv_aload hx hb dX10_make_124 (lv_at hl 0 rfl) ?_
  refine k_i (wr := [(h0, .inr (10, [.ref h1, v0, v1, v2, v3, .int (nI 0), .int (nI 0), v4, v5, v6, v7, v8, v9, v10, v11, v12, v13])), ((u5 0), .inl (K 2, 1, .inl (fun _ => (-1))))]) (run_V (rest := []) hx hb hml hown hts hK hP hD hS hA hm (C107_add l G D K H.size h1 q0 (.int (nI 0)) (.ref (u5 0)) (.int o0) (.int (nI 1)) (.int (nI 0)) (.int (nI 0)) (.int (-1)) (.int (nI 2)) (.int (nI 0)) (.int (nI 0)) (.int (nI 0))) [1, 2] rfl rfl mok_yJx4a65c_add_9ea2d w_1160 w_1161 w_1162 (rcv hK hP 1 rfl rfl rfl) ⟨Nat.le_of_ble_eq_true rfl, Nat.le_of_ble_eq_true rfl⟩ rfl hl.1 rfl (Nat.le_of_ble_eq_true rfl) dX10_make_126 ⟨(Nat.le_of_ble_eq_true rfl), (Nat.le_of_ble_eq_true rfl)⟩) hP hD hS hA [1, 2] [0, 3] rfl rfl rfl (by decide) (w2 := fun u6 => [(h0, .inr (10, [.ref h1, v0, v1, v2, v3, .int (nI 0), .int (nI 0), v4, v5, v6, v7, v8, v9, v10, v11, v12, v13])), ((u5 0), .inl (K 2, 1, .inl (fun _ => (-1)))), (q0, .inr (11, [.int (nI 0), .ref (u5 0), .int o0, .int (nI 1), .int (nI 0), .int (nI 0), .int (-1), .int (nI 2), .int (nI 0), .int (nI 0), .int (nI 0)])), (h1, .inr (13, [.int (nI 1), .ref (u6 0), .int (nI 1)])), ((u6 0), .inl (K 4, 10, .inr (.inr (.inr (.inr (va_up (fun _ => none) 0 (some q0)))))))]) (fun _ => rfl) (fun u6 H locs hP hD hS => ?_)
  refine lv_pop hx hb dX10_make_129 rfl ?_
  refine lv_iload_n hx hb dX10_make_130 rfl (lv_at hl 2 rfl) ?_
  refine lv_if_ne (tgt := 148) hx hb dX10_make_131 (by decide) (fun c9 => absurd (by decide +kernel) c9) (fun _ => ?_)
  refine lv_aload_n hx hb dX10_make_134 rfl (lv_at hl 3 rfl) ?_
  refine lv_dup hx hb dX10_make_135 rfl ?_
  refine r_get hx hb hts ok_RX10 hown hK hP 0 rfl rfl 6 (by decide) w_1236 (fun _ h9 => h9) rfl dX10_make_136 ?_
  refine lv_aload hx hb dX10_make_139 (lv_at hl 0 rfl) ?_
  refine k_i (wr := [(h0, .inr (10, [.ref h1, v0, v1, v2, v3, .int (nI 0), .int (nI 0), v4, v5, v6, v7, v8, v9, v10, v11, v12, v13])), (h1, .inr (13, [.int (nI 1), .ref (u6 0), .int (nI 1)])), ((u6 0), .inl (K 4, 10, .inr (.inr (.inr (.inr (va_up (fun _ => none) 0 (some q0)))))))]) (run_V (rest := [.int (nI 0), .ref h0]) hx hb hml hown hts hK hP hD hS hA hm (C125_size l G D K H.size q0 (u5 0) (.int (nI 0)) (.int o0) (.int (nI 1)) (.int (nI 0)) (.int (nI 0)) (.int (-1)) (.int (nI 2)) (.int (nI 0)) (.int (nI 0)) (fun _ => (-1))) [2, 1] rfl rfl mok_yX11_size w_1780 w_1677 w_1678 (rcv hK hP 2 rfl rfl rfl) ⟨Nat.le_of_ble_eq_true rfl, Nat.le_of_ble_eq_true rfl⟩ rfl hl.1 rfl (Nat.le_of_ble_eq_true rfl) dX10_make_141 ⟨(Nat.le_of_ble_eq_true rfl), (Nat.le_of_ble_eq_true rfl)⟩) hP hD hS hA [2, 1] [0, 3, 4] rfl rfl rfl (by decide) (w2 := fun u7 => [(h0, .inr (10, [.ref h1, v0, v1, v2, v3, .int (nI 0), .int (nI 0), v4, v5, v6, v7, v8, v9, v10, v11, v12, v13])), (h1, .inr (13, [.int (nI 1), .ref (u6 0), .int (nI 1)])), ((u6 0), .inl (K 4, 10, .inr (.inr (.inr (.inr (va_up (fun _ => none) 0 (some q0))))))), (q0, .inr (11, [.int (nI 0), .ref (u5 0), .int o0, .int (nI 1), .int (nI 0), .int (nI 0), .int (-1), .int (nI 2), .int (nI 0), .int (nI 0), .int (nI 0)])), ((u5 0), .inl (K 2, 1, .inl (fun _ => (-1))))]) (fun _ => rfl) (fun u7 H locs hP hD hS => ?_)
  refine lv_iadd hx hb dX10_make_144 ?_
  refine w_toeq (show (nI 0) + (nI 3) = nI 3 by decide +kernel) ?_
  refine r_put hx hb hts ok_RX10 hown hK hP hD hS 0 rfl rfl 6 (by decide) w_1236 (fun _ h9 => h9) rfl (v := .int (nI 3)) rfl rfl (Nat.le_of_ble_eq_true rfl) dX10_make_145 (ws' := [(h0, .inr (10, [.ref h1, v0, v1, v2, v3, .int (nI 0), .int (nI 3), v4, v5, v6, v7, v8, v9, v10, v11, v12, v13])), (h1, .inr (13, [.int (nI 1), .ref (u6 0), .int (nI 1)])), ((u6 0), .inl (K 4, 10, .inr (.inr (.inr (.inr (va_up (fun _ => none) 0 (some q0))))))), (q0, .inr (11, [.int (nI 0), .ref (u5 0), .int o0, .int (nI 1), .int (nI 0), .int (nI 0), .int (-1), .int (nI 2), .int (nI 0), .int (nI 0), .int (nI 0)])), ((u5 0), .inl (K 2, 1, .inl (fun _ => (-1))))]) rfl (fun H locs hP hD hS => ?_)
  refine lv_aload hx hb dX10_make_148 (lv_at hl 0 rfl) ?_
  refine r_get hx hb hts ok_RX11 hown hK hP 3 rfl rfl 0 (by decide) w_1829 (fun _ h9 => h9) rfl dX10_make_150 ?_
  exact e_i hx hb hr hlk hP hD hS (fun k => match k with | 0 => q0 | 1 => (u5 0) | 2 => (u6 0) | _ => 0) rfl (Nat.le_of_ble_eq_true rfl) (Nat.le_of_ble_eq_true rfl) rfl dX10_make_153
set_option maxHeartbeats 4000000 in
set_option maxRecDepth 100000 in
theorem C127_make (l : Launch) (G : Nat → Nat) (D : va_G) (K : Nat → ClassId) (sz : Nat) (h0 h1 h2 h3 h4 h5 : Nat) (v0 v1 v2 v3 v4 v5 v6 v7 v8 v9 v10 v11 v12 v13 : Value) (f0 : Nat → Int32) (j0 : Nat) (lj0 : 0 ≤ j0) (gj0 : j0 ≤ 3) : CM l yX12_make cX12_make 6 (some FieldType.int) ({ frames := 6, cells := 3, slots := 22, locals := 133 } : Room) G D K [.ref h0, .int (nI j0), .int (nI 0), .int (nI 1)] [(h0, .inr (12, [.int (nI 0), .ref h1])), (h1, .inr (10, [.ref h2, .ref h3, v0, v1, v2, .int (nI 0), .int (nI 0), v3, v4, v5, v6, v7, v8, v9, v10, v11, v12])), (h2, .inr (13, [.int (nI 0), .ref (G 0), .int (nI 0)])), (h3, .inr (13, [v13, .ref h4, .int (nI 1)])), (h4, .inl (K 4, 10, .inr (.inr (.inr (.inr (va_up (fun _ => none) 0 (some h5))))))), (h5, .inl (K 2, 4, .inl f0))] sz (CQi (nI 0) D (fun u => [(h2, .inr (13, [.int (nI 1), .ref (u 2), .int (nI 1)])), ((u 2), .inl (K 4, 10, .inr (.inr (.inr (.inr (va_up (fun _ => none) 0 (some (u 0)))))))), ((u 0), .inr (11, [.int (nI 0), .ref (u 1), .int (nI 0), .int (nI 1), .int (nI 0), .int (nI 0), .int (-1), .int (nI 2), .int (nI 0), .int (nI 0), .int (nI 0)])), ((u 1), .inl (K 2, 1, .inl (fun _ => (-1)))), (h0, .inr (12, [.int (nI 0), .ref h1])), (h1, .inr (10, [.ref h2, .ref h3, v0, v1, v2, .int (nI 0), .int (nI 3), v3, v4, v5, v6, v7, v8, v9, v10, v11, v12])), (h5, .inl (K 2, 4, .inl (upd f0 j0 (nI 0)))), (h3, .inr (13, [v13, .ref h4, .int (nI 1)])), (h4, .inl (K 4, 10, .inr (.inr (.inr (.inr (va_up (fun _ => none) 0 (some h5)))))))])) := by
  refine CM_of (lv0 := [(0, .ref h0), (1, .int (nI j0)), (2, .int (nI 0)), (3, .int (nI 1))]) pn_RX12 (Nat.le_of_ble_eq_true rfl) rfl (fun p e s m args below meth c A ls hx hb hr hml hown hts hlk hnm hP hK hD hS hA hm hl => ?_)
  have hown : s.vm.findClass RX12 = some m.cls := hown
  refine lv_iload_n hx hb dX12_make_0 rfl (lv_at hl 2 rfl) ?_
  refine lv_iconst (v := nI 3) hx hb dX12_make_1 (by decide +kernel) ?_
  refine lv_icmp_ne (tgt := 9) hx hb dX12_make_2 (by decide) (fun _ => ?_) (fun c9 => absurd c9 (by decide +kernel))
  refine lv_iload_n hx hb dX12_make_9 rfl (lv_at hl 2 rfl) ?_
  refine lv_iconst (v := nI 1) hx hb dX12_make_10 (by decide +kernel) ?_
  refine lv_icmp_eq (tgt := 19) hx hb dX12_make_11 (by decide) (fun c9 => absurd c9 (by decide +kernel)) (fun _ => ?_)
  refine lv_iload_n hx hb dX12_make_14 rfl (lv_at hl 2 rfl) ?_
  refine lv_iconst (v := nI 2) hx hb dX12_make_15 (by decide +kernel) ?_
  refine lv_icmp_ne (tgt := 23) hx hb dX12_make_16 (by decide) (fun _ => ?_) (fun c9 => absurd c9 (by decide +kernel))
  refine lv_iconst (v := nI 0) hx hb dX12_make_23 (by decide +kernel) ?_
  refine lv_istore (lv' := [(4, .int (nI 0)), (0, .ref h0), (1, .int (nI j0)), (2, .int (nI 0)), (3, .int (nI 1))]) hx hb dX12_make_24 hl (by decide) rfl (fun ls hl => ?_)
  refine lv_aload_n hx hb dX12_make_26 rfl (lv_at hl 1 rfl) ?_
  refine lv_iload_n hx hb dX12_make_27 rfl (lv_at hl 2 rfl) ?_
  refine k_i (wr := [(h1, .inr (10, [.ref h2, .ref h3, v0, v1, v2, .int (nI 0), .int (nI 0), v3, v4, v5, v6, v7, v8, v9, v10, v11, v12])), (h2, .inr (13, [.int (nI 0), .ref (G 0), .int (nI 0)])), (h3, .inr (13, [v13, .ref h4, .int (nI 1)])), (h4, .inl (K 4, 10, .inr (.inr (.inr (.inr (va_up (fun _ => none) 0 (some h5))))))), (h5, .inl (K 2, 4, .inl f0))]) (run_V (rest := []) hx hb hml hown hts hK hP hD hS hA hm (C74_isNoSlot l G D K s.heap.size h0 (.ref h1) j0 (by omega) (by omega)) [0] rfl rfl mok_yX12_isNoSlot w_1345 w_1347 w_p33 (rcv hK hP 0 rfl rfl rfl) ⟨Nat.le_of_ble_eq_true rfl, Nat.le_of_ble_eq_true rfl⟩ rfl hl.1 rfl (Nat.le_of_ble_eq_true rfl) dX12_make_28 ⟨(Nat.le_of_ble_eq_true rfl), (Nat.le_of_ble_eq_true rfl)⟩) hP hD hS hA [0] [1, 2, 3, 4, 5] rfl rfl rfl (by decide) (w2 := fun u0 => [(h1, .inr (10, [.ref h2, .ref h3, v0, v1, v2, .int (nI 0), .int (nI 0), v3, v4, v5, v6, v7, v8, v9, v10, v11, v12])), (h2, .inr (13, [.int (nI 0), .ref (G 0), .int (nI 0)])), (h3, .inr (13, [v13, .ref h4, .int (nI 1)])), (h4, .inl (K 4, 10, .inr (.inr (.inr (.inr (va_up (fun _ => none) 0 (some h5))))))), (h5, .inl (K 2, 4, .inl f0)), (h0, .inr (12, [.int (nI 0), .ref h1]))]) (fun _ => rfl) (fun u0 H locs hP hD hS => ?_)
  refine lv_if_ne (tgt := 96) hx hb dX12_make_31 (by decide) (fun c9 => absurd (by decide +kernel) c9) (fun _ => ?_)
  refine lv_aload_n hx hb dX12_make_34 rfl (lv_at hl 1 rfl) ?_
  refine lv_iload_n hx hb dX12_make_35 rfl (lv_at hl 3 rfl) ?_
  refine lv_iconst (v := nI 0) hx hb dX12_make_36 (by decide +kernel) ?_
  refine lv_iconst (v := nI 4) hx hb dX12_make_37 (by decide +kernel) ?_
  refine k_i (wr := [(h1, .inr (10, [.ref h2, .ref h3, v0, v1, v2, .int (nI 0), .int (nI 0), v3, v4, v5, v6, v7, v8, v9, v10, v11, v12])), (h2, .inr (13, [.int (nI 0), .ref (G 0), .int (nI 0)])), (h3, .inr (13, [v13, .ref h4, .int (nI 1)])), (h4, .inl (K 4, 10, .inr (.inr (.inr (.inr (va_up (fun _ => none) 0 (some h5))))))), (h5, .inl (K 2, 4, .inl f0)), (h0, .inr (12, [.int (nI 0), .ref h1]))]) (run_S (rest := [.ref h0]) hx hb hml hown hts hK hP hD hS hA hm (C83_isIn l G D K H.size) [] rfl rfl mok_yX12_isIn w_1352 w_1353 ⟨Nat.le_of_ble_eq_true rfl, Nat.le_of_ble_eq_true rfl⟩ rfl hl.1 rfl (Nat.le_of_ble_eq_true rfl) dX12_make_38 ⟨(Nat.le_of_ble_eq_true rfl), (Nat.le_of_ble_eq_true rfl)⟩) hP hD hS hA [] [0, 1, 2, 3, 4, 5] rfl rfl rfl (by decide) (w2 := fun u1 => [(h1, .inr (10, [.ref h2, .ref h3, v0, v1, v2, .int (nI 0), .int (nI 0), v3, v4, v5, v6, v7, v8, v9, v10, v11, v12])), (h2, .inr (13, [.int (nI 0), .ref (G 0), .int (nI 0)])), (h3, .inr (13, [v13, .ref h4, .int (nI 1)])), (h4, .inl (K 4, 10, .inr (.inr (.inr (.inr (va_up (fun _ => none) 0 (some h5))))))), (h5, .inl (K 2, 4, .inl f0)), (h0, .inr (12, [.int (nI 0), .ref h1]))]) (fun _ => rfl) (fun u1 H locs hP hD hS => ?_)
  refine lv_if_eq (tgt := 55) hx hb dX12_make_41 (by decide) (fun c9 => absurd c9 (by decide +kernel)) (fun _ => ?_)
  refine lv_iload_n hx hb dX12_make_44 rfl (lv_at hl 4 rfl) ?_
  refine lv_iload hx hb dX12_make_45 (lv_at hl 0 rfl) ?_
  refine lv_bipush (v := nI 20) hx hb dX12_make_47 (by decide +kernel) ?_
  refine k_i (wr := [(h1, .inr (10, [.ref h2, .ref h3, v0, v1, v2, .int (nI 0), .int (nI 0), v3, v4, v5, v6, v7, v8, v9, v10, v11, v12])), (h2, .inr (13, [.int (nI 0), .ref (G 0), .int (nI 0)])), (h3, .inr (13, [v13, .ref h4, .int (nI 1)])), (h4, .inl (K 4, 10, .inr (.inr (.inr (.inr (va_up (fun _ => none) 0 (some h5))))))), (h5, .inl (K 2, 4, .inl f0)), (h0, .inr (12, [.int (nI 0), .ref h1]))]) (run_S (rest := [.ref h0]) hx hb hml hown hts hK hP hD hS hA hm (C122_isIn l G D K H.size) [] rfl rfl mok_yX12_isIn w_1352 w_1353 ⟨Nat.le_of_ble_eq_true rfl, Nat.le_of_ble_eq_true rfl⟩ rfl hl.1 rfl (Nat.le_of_ble_eq_true rfl) dX12_make_49 ⟨(Nat.le_of_ble_eq_true rfl), (Nat.le_of_ble_eq_true rfl)⟩) hP hD hS hA [] [0, 1, 2, 3, 4, 5] rfl rfl rfl (by decide) (w2 := fun u2 => [(h1, .inr (10, [.ref h2, .ref h3, v0, v1, v2, .int (nI 0), .int (nI 0), v3, v4, v5, v6, v7, v8, v9, v10, v11, v12])), (h2, .inr (13, [.int (nI 0), .ref (G 0), .int (nI 0)])), (h3, .inr (13, [v13, .ref h4, .int (nI 1)])), (h4, .inl (K 4, 10, .inr (.inr (.inr (.inr (va_up (fun _ => none) 0 (some h5))))))), (h5, .inl (K 2, 4, .inl f0)), (h0, .inr (12, [.int (nI 0), .ref h1]))]) (fun _ => rfl) (fun u2 H locs hP hD hS => ?_)
  refine lv_if_ne (tgt := 59) hx hb dX12_make_52 (by decide) (fun _ => ?_) (fun c9 => absurd c9 (by decide +kernel))
  refine lv_iconst (v := nI 0) hx hb dX12_make_59 (by decide +kernel) ?_
  refine lv_iconst (v := nI 2) hx hb dX12_make_60 (by decide +kernel) ?_
  refine k_i (wr := [(h1, .inr (10, [.ref h2, .ref h3, v0, v1, v2, .int (nI 0), .int (nI 0), v3, v4, v5, v6, v7, v8, v9, v10, v11, v12])), (h2, .inr (13, [.int (nI 0), .ref (G 0), .int (nI 0)])), (h3, .inr (13, [v13, .ref h4, .int (nI 1)])), (h4, .inl (K 4, 10, .inr (.inr (.inr (.inr (va_up (fun _ => none) 0 (some h5))))))), (h5, .inl (K 2, 4, .inl f0))]) (run_V (rest := []) hx hb hml hown hts hK hP hD hS hA hm (C101_refuse l G D K H.size h0 (.ref h1)) [5] rfl rfl mok_yX12_refuse w_1316 w_1318 w_p31 (rcv hK hP 5 rfl rfl rfl) ⟨Nat.le_of_ble_eq_true rfl, Nat.le_of_ble_eq_true rfl⟩ rfl hl.1 rfl (Nat.le_of_ble_eq_true rfl) dX12_make_61 ⟨(Nat.le_of_ble_eq_true rfl), (Nat.le_of_ble_eq_true rfl)⟩) hP hD hS hA [5] [0, 1, 2, 3, 4] rfl rfl rfl (by decide) (w2 := fun u3 => [(h1, .inr (10, [.ref h2, .ref h3, v0, v1, v2, .int (nI 0), .int (nI 0), v3, v4, v5, v6, v7, v8, v9, v10, v11, v12])), (h2, .inr (13, [.int (nI 0), .ref (G 0), .int (nI 0)])), (h3, .inr (13, [v13, .ref h4, .int (nI 1)])), (h4, .inl (K 4, 10, .inr (.inr (.inr (.inr (va_up (fun _ => none) 0 (some h5))))))), (h5, .inl (K 2, 4, .inl f0)), (h0, .inr (12, [.int (nI 0), .ref h1]))]) (fun _ => rfl) (fun u3 H locs hP hD hS => ?_)
  refine lv_if_ne (tgt := 96) hx hb dX12_make_64 (by decide) (fun c9 => absurd (by decide +kernel) c9) (fun _ => ?_)
  refine lv_aload_n hx hb dX12_make_67 rfl (lv_at hl 1 rfl) ?_
  refine lv_aload_n hx hb dX12_make_68 rfl (lv_at hl 1 rfl) ?_
  refine r_get hx hb hts ok_RX12 hown hK hP 5 rfl rfl 1 (by decide) w_1294 (fun _ h9 => h9) rfl dX12_make_69 ?_
  refine r_get hx hb hts ok_RX10 hown hK hP 0 rfl rfl 0 (by decide) w_1225 (fun _ h9 => h9) rfl dX12_make_72 ?_
  refine k_i (wr := [(h1, .inr (10, [.ref h2, .ref h3, v0, v1, v2, .int (nI 0), .int (nI 0), v3, v4, v5, v6, v7, v8, v9, v10, v11, v12])), (h3, .inr (13, [v13, .ref h4, .int (nI 1)])), (h4, .inl (K 4, 10, .inr (.inr (.inr (.inr (va_up (fun _ => none) 0 (some h5))))))), (h5, .inl (K 2, 4, .inl f0)), (h0, .inr (12, [.int (nI 0), .ref h1]))]) (run_V (rest := [.ref h0]) hx hb hml hown hts hK hP hD hS hA hm (C102_size l G D K H.size h2 (.int (nI 0)) (.ref (G 0))) [1] rfl rfl mok_yJx4a65c_size_8abf5 w_1308 w_1309 w_1310 (rcv hK hP 1 rfl rfl rfl) ⟨Nat.le_of_ble_eq_true rfl, Nat.le_of_ble_eq_true rfl⟩ rfl hl.1 rfl (Nat.le_of_ble_eq_true rfl) dX12_make_75 ⟨(Nat.le_of_ble_eq_true rfl), (Nat.le_of_ble_eq_true rfl)⟩) hP hD hS hA [1] [0, 2, 3, 4, 5] rfl rfl rfl (by decide) (w2 := fun u4 => [(h1, .inr (10, [.ref h2, .ref h3, v0, v1, v2, .int (nI 0), .int (nI 0), v3, v4, v5, v6, v7, v8, v9, v10, v11, v12])), (h3, .inr (13, [v13, .ref h4, .int (nI 1)])), (h4, .inl (K 4, 10, .inr (.inr (.inr (.inr (va_up (fun _ => none) 0 (some h5))))))), (h5, .inl (K 2, 4, .inl f0)), (h0, .inr (12, [.int (nI 0), .ref h1])), (h2, .inr (13, [.int (nI 0), .ref (G 0), .int (nI 0)]))]) (fun _ => rfl) (fun u4 H locs hP hD hS => ?_)
  refine lv_sipush (v := nI 200) hx hb dX12_make_78 (by decide +kernel) ?_
  refine lv_icmp_ne (tgt := 88) hx hb dX12_make_81 (by decide) (fun _ => ?_) (fun c9 => absurd c9 (by decide +kernel))
  refine lv_iconst (v := nI 0) hx hb dX12_make_88 (by decide +kernel) ?_
  refine lv_iconst (v := nI 3) hx hb dX12_make_89 (by decide +kernel) ?_
  refine k_i (wr := [(h1, .inr (10, [.ref h2, .ref h3, v0, v1, v2, .int (nI 0), .int (nI 0), v3, v4, v5, v6, v7, v8, v9, v10, v11, v12])), (h3, .inr (13, [v13, .ref h4, .int (nI 1)])), (h4, .inl (K 4, 10, .inr (.inr (.inr (.inr (va_up (fun _ => none) 0 (some h5))))))), (h5, .inl (K 2, 4, .inl f0)), (h2, .inr (13, [.int (nI 0), .ref (G 0), .int (nI 0)]))]) (run_V (rest := []) hx hb hml hown hts hK hP hD hS hA hm (C103_refuse l G D K H.size h0 (.ref h1)) [4] rfl rfl mok_yX12_refuse w_1316 w_1318 w_p31 (rcv hK hP 4 rfl rfl rfl) ⟨Nat.le_of_ble_eq_true rfl, Nat.le_of_ble_eq_true rfl⟩ rfl hl.1 rfl (Nat.le_of_ble_eq_true rfl) dX12_make_90 ⟨(Nat.le_of_ble_eq_true rfl), (Nat.le_of_ble_eq_true rfl)⟩) hP hD hS hA [4] [0, 1, 2, 3, 5] rfl rfl rfl (by decide) (w2 := fun u5 => [(h1, .inr (10, [.ref h2, .ref h3, v0, v1, v2, .int (nI 0), .int (nI 0), v3, v4, v5, v6, v7, v8, v9, v10, v11, v12])), (h3, .inr (13, [v13, .ref h4, .int (nI 1)])), (h4, .inl (K 4, 10, .inr (.inr (.inr (.inr (va_up (fun _ => none) 0 (some h5))))))), (h5, .inl (K 2, 4, .inl f0)), (h2, .inr (13, [.int (nI 0), .ref (G 0), .int (nI 0)])), (h0, .inr (12, [.int (nI 0), .ref h1]))]) (fun _ => rfl) (fun u5 H locs hP hD hS => ?_)
  refine lv_if_eq (tgt := 98) hx hb dX12_make_93 (by decide) (fun _ => ?_) (fun c9 => absurd (by decide +kernel) c9)
  refine lv_aload_n hx hb dX12_make_98 rfl (lv_at hl 1 rfl) ?_
  refine r_get hx hb hts ok_RX12 hown hK hP 5 rfl rfl 1 (by decide) w_1294 (fun _ h9 => h9) rfl dX12_make_99 ?_
  refine lv_iload_n hx hb dX12_make_102 rfl (lv_at hl 3 rfl) ?_
  refine lv_iload_n hx hb dX12_make_103 rfl (lv_at hl 4 rfl) ?_
  refine k_i (wr := [(h3, .inr (13, [v13, .ref h4, .int (nI 1)])), (h4, .inl (K 4, 10, .inr (.inr (.inr (.inr (va_up (fun _ => none) 0 (some h5))))))), (h5, .inl (K 2, 4, .inl f0)), (h0, .inr (12, [.int (nI 0), .ref h1]))]) (run_V (rest := []) hx hb hml hown hts hK hP hD hS hA hm (C126_make l G D K H.size h1 h2 (.ref h3) (v0) (v1) (v2) (v3) (v4) (v5) (v6) (v7) (v8) (v9) (v10) (v11) (v12) (nI 0)) [0, 4] rfl rfl mok_yX10_make w_1355 w_1356 w_1357 (rcv hK hP 0 rfl rfl rfl) ⟨Nat.le_of_ble_eq_true rfl, Nat.le_of_ble_eq_true rfl⟩ rfl hl.1 rfl (Nat.le_of_ble_eq_true rfl) dX12_make_104 ⟨(Nat.le_of_ble_eq_true rfl), (Nat.le_of_ble_eq_true rfl)⟩) hP hD hS hA [0, 4] [1, 2, 3, 5] rfl rfl rfl (by decide) (w2 := fun u6 => [(h3, .inr (13, [v13, .ref h4, .int (nI 1)])), (h4, .inl (K 4, 10, .inr (.inr (.inr (.inr (va_up (fun _ => none) 0 (some h5))))))), (h5, .inl (K 2, 4, .inl f0)), (h0, .inr (12, [.int (nI 0), .ref h1])), (h1, .inr (10, [.ref h2, .ref h3, v0, v1, v2, .int (nI 0), .int (nI 3), v3, v4, v5, v6, v7, v8, v9, v10, v11, v12])), (h2, .inr (13, [.int (nI 1), .ref (u6 2), .int (nI 1)])), ((u6 2), .inl (K 4, 10, .inr (.inr (.inr (.inr (va_up (fun _ => none) 0 (some (u6 0)))))))), ((u6 0), .inr (11, [.int (nI 0), .ref (u6 1), .int (nI 0), .int (nI 1), .int (nI 0), .int (nI 0), .int (-1), .int (nI 2), .int (nI 0), .int (nI 0), .int (nI 0)])), ((u6 1), .inl (K 2, 1, .inl (fun _ => (-1))))]) (fun _ => rfl) (fun u6 H locs hP hD hS => ?_)
  refine lv_istore (lv' := [(5, .int (nI 0)), (4, .int (nI 0)), (0, .ref h0), (1, .int (nI j0)), (2, .int (nI 0)), (3, .int (nI 1))]) hx hb dX12_make_107 hl (by decide) rfl (fun ls hl => ?_)
  refine lv_iload hx hb dX12_make_109 (lv_at hl 0 rfl) ?_
  refine lv_iconst (v := (-1)) hx hb dX12_make_111 (by decide +kernel) ?_
  refine lv_icmp_eq (tgt := 123) hx hb dX12_make_112 (by decide) (fun c9 => absurd c9 (by decide +kernel)) (fun _ => ?_)
  refine lv_aload_n hx hb dX12_make_115 rfl (lv_at hl 2 rfl) ?_
  refine k_q (wr := [(h2, .inr (13, [.int (nI 1), .ref (u6 2), .int (nI 1)])), ((u6 2), .inl (K 4, 10, .inr (.inr (.inr (.inr (va_up (fun _ => none) 0 (some (u6 0)))))))), ((u6 0), .inr (11, [.int (nI 0), .ref (u6 1), .int (nI 0), .int (nI 1), .int (nI 0), .int (nI 0), .int (-1), .int (nI 2), .int (nI 0), .int (nI 0), .int (nI 0)])), ((u6 1), .inl (K 2, 1, .inl (fun _ => (-1))))]) (run_V (rest := []) hx hb hml hown hts hK hP hD hS hA hm (C114_last l G D K H.size h0 h1 h3 h4 h5 (.int (nI 0)) (.ref h2) (v0) (v1) (v2) (.int (nI 0)) (.int (nI 3)) (v3) (v4) (v5) (v6) (v7) (v8) (v9) (v10) (v11) (v12) (v13) f0) [3, 4, 0, 1, 2] rfl rfl mok_yX12_last w_1879 w_1881 w_p50 (rcv hK hP 3 rfl rfl rfl) ⟨Nat.le_of_ble_eq_true rfl, Nat.le_of_ble_eq_true rfl⟩ rfl hl.1 rfl (Nat.le_of_ble_eq_true rfl) dX12_make_116 ⟨(Nat.le_of_ble_eq_true rfl), (Nat.le_of_ble_eq_true rfl)⟩) hP hD hS hA [3, 4, 0, 1, 2] [5, 6, 7, 8] rfl rfl rfl (by decide) (w2 := fun u7 => [(h2, .inr (13, [.int (nI 1), .ref (u6 2), .int (nI 1)])), ((u6 2), .inl (K 4, 10, .inr (.inr (.inr (.inr (va_up (fun _ => none) 0 (some (u6 0)))))))), ((u6 0), .inr (11, [.int (nI 0), .ref (u6 1), .int (nI 0), .int (nI 1), .int (nI 0), .int (nI 0), .int (-1), .int (nI 2), .int (nI 0), .int (nI 0), .int (nI 0)])), ((u6 1), .inl (K 2, 1, .inl (fun _ => (-1)))), (h0, .inr (12, [.int (nI 0), .ref h1])), (h1, .inr (10, [.ref h2, .ref h3, v0, v1, v2, .int (nI 0), .int (nI 3), v3, v4, v5, v6, v7, v8, v9, v10, v11, v12])), (h5, .inl (K 2, 4, .inl f0)), (h3, .inr (13, [v13, .ref h4, .int (nI 1)])), (h4, .inl (K 4, 10, .inr (.inr (.inr (.inr (va_up (fun _ => none) 0 (some h5)))))))]) (fun _ => rfl) (fun u7 H locs hP hD hS => ?_)
  refine w_tov (y := .ref h5) rfl ?_
  refine lv_iload_n hx hb dX12_make_119 rfl (lv_at hl 3 rfl) ?_
  refine lv_iload hx hb dX12_make_120 (lv_at hl 0 rfl) ?_
  refine r_iast (k := j0) hx hb hK hP hD hS 6 2 rfl rfl (by omega) (by decide) dX12_make_122 (ws' := [(h2, .inr (13, [.int (nI 1), .ref (u6 2), .int (nI 1)])), ((u6 2), .inl (K 4, 10, .inr (.inr (.inr (.inr (va_up (fun _ => none) 0 (some (u6 0)))))))), ((u6 0), .inr (11, [.int (nI 0), .ref (u6 1), .int (nI 0), .int (nI 1), .int (nI 0), .int (nI 0), .int (-1), .int (nI 2), .int (nI 0), .int (nI 0), .int (nI 0)])), ((u6 1), .inl (K 2, 1, .inl (fun _ => (-1)))), (h0, .inr (12, [.int (nI 0), .ref h1])), (h1, .inr (10, [.ref h2, .ref h3, v0, v1, v2, .int (nI 0), .int (nI 3), v3, v4, v5, v6, v7, v8, v9, v10, v11, v12])), (h5, .inl (K 2, 4, .inl (upd f0 j0 (nI 0)))), (h3, .inr (13, [v13, .ref h4, .int (nI 1)])), (h4, .inl (K 4, 10, .inr (.inr (.inr (.inr (va_up (fun _ => none) 0 (some h5)))))))]) rfl (fun H locs hP hD hS => ?_)
  refine lv_iload hx hb dX12_make_123 (lv_at hl 0 rfl) ?_
  exact e_i hx hb hr hlk hP hD hS (fun k => match k with | 0 => (u6 0) | 1 => (u6 1) | 2 => (u6 2) | _ => 0) rfl (Nat.le_of_ble_eq_true rfl) (Nat.le_of_ble_eq_true rfl) rfl dX12_make_125
set_option maxHeartbeats 4000000 in
set_option maxRecDepth 100000 in
theorem C128_gapFor (l : Launch) (G : Nat → Nat) (D : va_G) (K : Nat → ClassId) (sz : Nat) (h0 : Nat) (v0 v1 v2 v3 v4 v5 : Value) : CM l yX3_gapFor cX3_gapFor 3 (some FieldType.int) ({ frames := 0, cells := 0, slots := 0, locals := 0 } : Room) G D K [.ref h0, .int (nI 2)] [(h0, .inr (3, [v0, v1, v2, .int (nI 0), .int (nI 0), v3, v4, v5]))] sz (CQi (nI 0) D (fun _ => [(h0, .inr (3, [v0, v1, v2, .int (nI 0), .int (nI 0), v3, v4, v5]))])) := by
  refine CM_of (lv0 := [(0, .ref h0), (1, .int (nI 2))]) pn_RX3 (Nat.le_of_ble_eq_true rfl) rfl (fun p e s m args below meth c A ls hx hb hr hml hown hts hlk hnm hP hK hD hS hA hm hl => ?_)
  have hown : s.vm.findClass RX3 = some m.cls := hown
  refine lv_iconst (v := nI 2) hx hb dX3_gapFor_0 (by decide +kernel) ?_
  refine lv_iload_n hx hb dX3_gapFor_1 rfl (lv_at hl 1 rfl) ?_
  refine lv_iadd hx hb dX3_gapFor_2 ?_
  refine w_toeq (show (nI 2) + (nI 2) = nI 4 by decide +kernel) ?_
  refine lv_istore_n (lv' := [(2, .int (nI 4)), (0, .ref h0), (1, .int (nI 2))]) hx hb dX3_gapFor_3 rfl hl (by decide) rfl (fun ls hl => ?_)
  refine lv_iload_n hx hb dX3_gapFor_4 rfl (lv_at hl 2 rfl) ?_
  refine lv_bipush (v := nI 12) hx hb dX3_gapFor_5 (by decide +kernel) ?_
  refine lv_icmp_lt (tgt := 16) hx hb dX3_gapFor_7 (by decide) (fun _ => ?_) (fun c9 => absurd (by decide +kernel) c9)
  refine lv_aload_n hx hb dX3_gapFor_16 rfl (lv_at hl 1 rfl) ?_
  refine r_get hx hb hts ok_RX3 hown hK hP 0 rfl rfl 4 (by decide) w_104 (fun _ h9 => h9) rfl dX3_gapFor_17 ?_
  refine lv_iload_n hx hb dX3_gapFor_20 rfl (lv_at hl 0 rfl) ?_
  refine lv_iadd hx hb dX3_gapFor_21 ?_
  refine w_toeq (show (nI 0) + (nI 4) = nI 4 by decide +kernel) ?_
  refine lv_aload_n hx hb dX3_gapFor_22 rfl (lv_at hl 1 rfl) ?_
  refine r_get hx hb hts ok_RX3 hown hK hP 0 rfl rfl 3 (by decide) w_102 (fun _ h9 => h9) rfl dX3_gapFor_23 ?_
  refine lv_bipush (v := nI 40) hx hb dX3_gapFor_26 (by decide +kernel) ?_
  refine lv_iadd hx hb dX3_gapFor_28 ?_
  refine w_toeq (show (nI 0) + (nI 40) = nI 40 by decide +kernel) ?_
  refine lv_icmp_gt (tgt := 39) hx hb dX3_gapFor_29 (by decide) (fun c9 => absurd c9 (by decide +kernel)) (fun _ => ?_)
  refine lv_aload_n hx hb dX3_gapFor_32 rfl (lv_at hl 1 rfl) ?_
  refine r_get hx hb hts ok_RX3 hown hK hP 0 rfl rfl 4 (by decide) w_104 (fun _ h9 => h9) rfl dX3_gapFor_33 ?_
  refine lv_goto (tgt := 40) hx hb dX3_gapFor_36 (by decide) ?_
  exact e_i hx hb hr hlk hP hD hS (fun _ => 0) rfl (Nat.le_of_ble_eq_true rfl) (Nat.le_of_ble_eq_true rfl) rfl dX3_gapFor_40
set_option maxHeartbeats 4000000 in
set_option maxRecDepth 100000 in
theorem C129_init (l : Launch) (G : Nat → Nat) (D : va_G) (K : Nat → ClassId) (sz : Nat) (h0 : Nat) (v0 v1 v2 v3 v4 v5 v6 v7 v8 v9 v10 v11 v12 : Value) (o0 : Int32) : CM l yX7_init cX7_init 4 (none : Option FieldType) ({ frames := 1, cells := 1, slots := 2, locals := 20 } : Room) G D K [.ref h0, .int (nI 0), .int o0, .int (nI 2)] [(h0, .inr (7, [v0, v1, v2, v3, v4, .int (nI 0), v5, v6, v7, v8, v9, v10, v11, v12]))] sz (CQv D (fun u => [(h0, .inr (7, [.int (nI 0), .ref (u 0), .int o0, v3, v4, .int (nI 4), .int (nI 4), v6, .int (-1), v8, v9, v10, v11, v12])), ((u 0), .inl (K 0, 2, .inr (.inr (.inr (.inr (fun _ => none))))))])) := by
  refine CM_of (lv0 := [(0, .ref h0), (1, .int (nI 0)), (2, .int o0), (3, .int (nI 2))]) pn_RX7 (Nat.le_of_ble_eq_true rfl) rfl (fun p e s m args below meth c A ls hx hb hr hml hown hts hlk hnm hP hK hD hS hA hm hl => ?_)
  have hown : s.vm.findClass RX7 = some m.cls := hown
  refine lv_aload_n hx hb dX7_init_0 rfl (lv_at hl 0 rfl) ?_
  refine r_oinit hx hb hts hown w_807 w_44 w_45 hml hl.1 dX7_init_1 (Nat.le_of_ble_eq_true rfl) (Nat.le_of_ble_eq_true rfl) ?_
  refine lv_aload_n hx hb dX7_init_4 rfl (lv_at hl 0 rfl) ?_
  refine lv_iload_n hx hb dX7_init_5 rfl (lv_at hl 1 rfl) ?_
  refine r_putF hx hb hts ok_RX7 hown hK hP hD hS 0 rfl rfl 0 (by decide) w_809 (fun _ h9 => h9) rfl hnm rfl (v := .int (nI 0)) rfl rfl (Nat.le_of_ble_eq_true rfl) dX7_init_6 (ws' := [(h0, .inr (7, [.int (nI 0), v1, v2, v3, v4, .int (nI 0), v5, v6, v7, v8, v9, v10, v11, v12]))]) rfl (fun H locs hP hD hS => ?_)
  refine lv_aload_n hx hb dX7_init_9 rfl (lv_at hl 0 rfl) ?_
  refine lv_iload_n hx hb dX7_init_10 rfl (lv_at hl 2 rfl) ?_
  refine r_put hx hb hts ok_RX7 hown hK hP hD hS 0 rfl rfl 2 (by decide) w_817 (fun _ h9 => h9) rfl (v := .int o0) rfl rfl (Nat.le_of_ble_eq_true rfl) dX7_init_11 (ws' := [(h0, .inr (7, [.int (nI 0), v1, .int o0, v3, v4, .int (nI 0), v5, v6, v7, v8, v9, v10, v11, v12]))]) rfl (fun H locs hP hD hS => ?_)
  refine lv_aload_n hx hb dX7_init_14 rfl (lv_at hl 0 rfl) ?_
  refine lv_iload_n hx hb dX7_init_15 rfl (lv_at hl 3 rfl) ?_
  refine r_newq hx hb hts hown w_808 hm.2.2.1.1 hK hP hD hS hA 0 rfl (N := 2) (by decide +kernel) (by decide +kernel) (Nat.le_of_ble_eq_true rfl) (Nat.le_of_ble_eq_true rfl) (Nat.le_of_ble_eq_true rfl) dX7_init_16 (w2 := fun q0 => [(h0, .inr (7, [.int (nI 0), v1, .int o0, v3, v4, .int (nI 0), v5, v6, v7, v8, v9, v10, v11, v12])), (q0, .inl (K 0, 2, .inr (.inr (.inr (.inr (fun _ => none))))))]) (fun _ => rfl) (fun q0 H hP hD hS => ?_)
  refine r_putF hx hb hts ok_RX7 hown hK hP hD hS 0 rfl rfl 1 (by decide) w_811 (fun _ h9 => h9) rfl hnm rfl (v := .ref q0) rfl rfl (Nat.le_of_ble_eq_true rfl) dX7_init_19 (ws' := [(h0, .inr (7, [.int (nI 0), .ref q0, .int o0, v3, v4, .int (nI 0), v5, v6, v7, v8, v9, v10, v11, v12])), (q0, .inl (K 0, 2, .inr (.inr (.inr (.inr (fun _ => none))))))]) rfl (fun H locs hP hD hS => ?_)
  refine lv_aload_n hx hb dX7_init_22 rfl (lv_at hl 0 rfl) ?_
  refine lv_iconst (v := nI 2) hx hb dX7_init_23 (by decide +kernel) ?_
  refine lv_iload_n hx hb dX7_init_24 rfl (lv_at hl 3 rfl) ?_
  refine lv_iadd hx hb dX7_init_25 ?_
  refine w_toeq (show (nI 2) + (nI 2) = nI 4 by decide +kernel) ?_
  refine r_put hx hb hts ok_RX7 hown hK hP hD hS 0 rfl rfl 5 (by decide) w_834 (fun _ h9 => h9) rfl (v := .int (nI 4)) rfl rfl (Nat.le_of_ble_eq_true rfl) dX7_init_26 (ws' := [(h0, .inr (7, [.int (nI 0), .ref q0, .int o0, v3, v4, .int (nI 4), v5, v6, v7, v8, v9, v10, v11, v12])), (q0, .inl (K 0, 2, .inr (.inr (.inr (.inr (fun _ => none))))))]) rfl (fun H locs hP hD hS => ?_)
  refine lv_aload_n hx hb dX7_init_29 rfl (lv_at hl 0 rfl) ?_
  refine lv_aload_n hx hb dX7_init_30 rfl (lv_at hl 0 rfl) ?_
  refine r_get hx hb hts ok_RX7 hown hK hP 0 rfl rfl 5 (by decide) w_834 (fun _ h9 => h9) rfl dX7_init_31 ?_
  refine r_put hx hb hts ok_RX7 hown hK hP hD hS 0 rfl rfl 6 (by decide) w_839 (fun _ h9 => h9) rfl (v := .int (nI 4)) rfl rfl (Nat.le_of_ble_eq_true rfl) dX7_init_34 (ws' := [(h0, .inr (7, [.int (nI 0), .ref q0, .int o0, v3, v4, .int (nI 4), .int (nI 4), v6, v7, v8, v9, v10, v11, v12])), (q0, .inl (K 0, 2, .inr (.inr (.inr (.inr (fun _ => none))))))]) rfl (fun H locs hP hD hS => ?_)
  refine lv_aload_n hx hb dX7_init_37 rfl (lv_at hl 0 rfl) ?_
  refine lv_iconst (v := (-1)) hx hb dX7_init_38 (by decide +kernel) ?_
  refine r_put hx hb hts ok_RX7 hown hK hP hD hS 0 rfl rfl 8 (by decide) w_845 (fun _ h9 => h9) rfl (v := .int (-1)) rfl rfl (Nat.le_of_ble_eq_true rfl) dX7_init_39 (ws' := [(h0, .inr (7, [.int (nI 0), .ref q0, .int o0, v3, v4, .int (nI 4), .int (nI 4), v6, .int (-1), v8, v9, v10, v11, v12])), (q0, .inl (K 0, 2, .inr (.inr (.inr (.inr (fun _ => none))))))]) rfl (fun H locs hP hD hS => ?_)
  exact e_v hx hb hr hlk hP hD hS (fun k => match k with | 0 => q0 | _ => 0) rfl (Nat.le_of_ble_eq_true rfl) (Nat.le_of_ble_eq_true rfl) dX7_init_42
set_option maxHeartbeats 4000000 in
set_option maxRecDepth 100000 in
theorem C130_moveTo (l : Launch) (G : Nat → Nat) (D : va_G) (K : Nat → ClassId) (sz : Nat) (h0 : Nat) (v0 v1 v2 v3 v4 v5 v6 v7 v8 v9 v10 v11 v12 : Value) : CM l yX7_moveTo cX7_moveTo 3 (none : Option FieldType) ({ frames := 0, cells := 0, slots := 0, locals := 0 } : Room) G D K [.ref h0, .int (nI 1), .int (nI 0)] [(h0, .inr (7, [v0, v1, v2, v3, v4, v5, .int (nI 4), v6, v7, v8, v9, v10, v11, v12]))] sz (CQv D (fun _ => [(h0, .inr (7, [v0, v1, v2, .int (nI 1), .int (nI 0), .int (nI 4), .int (nI 4), v6, v7, v8, v9, v10, v11, v12]))])) := by
  refine CM_of (lv0 := [(0, .ref h0), (1, .int (nI 1)), (2, .int (nI 0))]) pn_RX7 (Nat.le_of_ble_eq_true rfl) rfl (fun p e s m args below meth c A ls hx hb hr hml hown hts hlk hnm hP hK hD hS hA hm hl => ?_)
  have hown : s.vm.findClass RX7 = some m.cls := hown
  refine lv_aload_n hx hb dX7_moveTo_0 rfl (lv_at hl 0 rfl) ?_
  refine lv_aload_n hx hb dX7_moveTo_1 rfl (lv_at hl 0 rfl) ?_
  refine r_get hx hb hts ok_RX7 hown hK hP 0 rfl rfl 6 (by decide) w_839 (fun _ h9 => h9) rfl dX7_moveTo_2 ?_
  refine r_put hx hb hts ok_RX7 hown hK hP hD hS 0 rfl rfl 5 (by decide) w_834 (fun _ h9 => h9) rfl (v := .int (nI 4)) rfl rfl (Nat.le_of_ble_eq_true rfl) dX7_moveTo_5 (ws' := [(h0, .inr (7, [v0, v1, v2, v3, v4, .int (nI 4), .int (nI 4), v6, v7, v8, v9, v10, v11, v12]))]) rfl (fun H locs hP hD hS => ?_)
  refine lv_aload_n hx hb dX7_moveTo_8 rfl (lv_at hl 0 rfl) ?_
  refine lv_iload_n hx hb dX7_moveTo_9 rfl (lv_at hl 1 rfl) ?_
  refine r_put hx hb hts ok_RX7 hown hK hP hD hS 0 rfl rfl 3 (by decide) w_825 (fun _ h9 => h9) rfl (v := .int (nI 1)) rfl rfl (Nat.le_of_ble_eq_true rfl) dX7_moveTo_10 (ws' := [(h0, .inr (7, [v0, v1, v2, .int (nI 1), v4, .int (nI 4), .int (nI 4), v6, v7, v8, v9, v10, v11, v12]))]) rfl (fun H locs hP hD hS => ?_)
  refine lv_aload_n hx hb dX7_moveTo_13 rfl (lv_at hl 0 rfl) ?_
  refine lv_iload_n hx hb dX7_moveTo_14 rfl (lv_at hl 2 rfl) ?_
  refine r_put hx hb hts ok_RX7 hown hK hP hD hS 0 rfl rfl 4 (by decide) w_832 (fun _ h9 => h9) rfl (v := .int (nI 0)) rfl rfl (Nat.le_of_ble_eq_true rfl) dX7_moveTo_15 (ws' := [(h0, .inr (7, [v0, v1, v2, .int (nI 1), .int (nI 0), .int (nI 4), .int (nI 4), v6, v7, v8, v9, v10, v11, v12]))]) rfl (fun H locs hP hD hS => ?_)
  exact e_v hx hb hr hlk hP hD hS (fun _ => 0) rfl (Nat.le_of_ble_eq_true rfl) (Nat.le_of_ble_eq_true rfl) dX7_moveTo_18
set_option maxHeartbeats 4000000 in
set_option maxRecDepth 100000 in
theorem C131_end (l : Launch) (G : Nat → Nat) (D : va_G) (K : Nat → ClassId) (sz : Nat) (h0 : Nat) (v0 v1 v2 v3 v4 v5 v6 v7 v8 v9 v10 v11 : Value) : CM l yX7_end cX7_end 1 (some FieldType.int) ({ frames := 0, cells := 0, slots := 0, locals := 0 } : Room) G D K [.ref h0] [(h0, .inr (7, [v0, v1, v2, v3, .int (nI 0), .int (nI 4), v4, v5, v6, v7, v8, v9, v10, v11]))] sz (CQi (nI 4) D (fun _ => [(h0, .inr (7, [v0, v1, v2, v3, .int (nI 0), .int (nI 4), v4, v5, v6, v7, v8, v9, v10, v11]))])) := by
  refine CM_of (lv0 := [(0, .ref h0)]) pn_RX7 (Nat.le_of_ble_eq_true rfl) rfl (fun p e s m args below meth c A ls hx hb hr hml hown hts hlk hnm hP hK hD hS hA hm hl => ?_)
  have hown : s.vm.findClass RX7 = some m.cls := hown
  refine lv_aload_n hx hb dX7_end_0 rfl (lv_at hl 0 rfl) ?_
  refine r_get hx hb hts ok_RX7 hown hK hP 0 rfl rfl 4 (by decide) w_832 (fun _ h9 => h9) rfl dX7_end_1 ?_
  refine lv_aload_n hx hb dX7_end_4 rfl (lv_at hl 0 rfl) ?_
  refine r_get hx hb hts ok_RX7 hown hK hP 0 rfl rfl 5 (by decide) w_834 (fun _ h9 => h9) rfl dX7_end_5 ?_
  refine lv_iadd hx hb dX7_end_8 ?_
  refine w_toeq (show (nI 0) + (nI 4) = nI 4 by decide +kernel) ?_
  exact e_i hx hb hr hlk hP hD hS (fun _ => 0) rfl (Nat.le_of_ble_eq_true rfl) (Nat.le_of_ble_eq_true rfl) rfl dX7_end_9
set_option maxHeartbeats 4000000 in
set_option maxRecDepth 100000 in
theorem C132_lay (l : Launch) (G : Nat → Nat) (D : va_G) (K : Nat → ClassId) (sz : Nat) (h0 h1 h2 h3 h4 : Nat) (v0 v1 v2 v3 v4 v5 v6 v7 v8 v9 v10 v11 v12 v13 v14 v15 v16 : Value) (f0 : Nat → Option Nat) (f1 : Nat → Option Nat) : CM l yX3_lay cX3_lay 3 (none : Option FieldType) ({ frames := 1, cells := 0, slots := 0, locals := 22 } : Room) G D K [.ref h2, .ref h0, .int (nI 0)] [(h0, .inr (7, [v0, .ref h1, v1, v2, .int (nI 0), .int (nI 4), .int (nI 4), v3, v4, v5, v6, v7, v8, v9])), (h1, .inl (K 0, 2, .inr (.inr (.inr (.inr f0))))), (h2, .inr (3, [.ref h3, v10, v11, v12, v13, v14, v15, v16])), (h3, .inr (5, [.ref h4, .int (nI 0)])), (h4, .inl (K 0, 200, .inr (.inr (.inr (.inr f1)))))] sz (CQv D (fun _ => [(h1, .inl (K 0, 2, .inr (.inr (.inr (.inr f0))))), (h2, .inr (3, [.ref h3, v10, v11, v12, .int (nI 4), v14, v15, v16])), (h3, .inr (5, [.ref h4, .int (nI 1)])), (h4, .inl (K 0, 200, .inr (.inr (.inr (.inr (va_up f1 0 (some h0))))))), (h0, .inr (7, [v0, .ref h1, v1, .int (nI 1), .int (nI 0), .int (nI 4), .int (nI 4), v3, v4, v5, v6, v7, v8, v9]))])) := by
  refine CM_of (lv0 := [(0, .ref h2), (1, .ref h0), (2, .int (nI 0))]) pn_RX3 (Nat.le_of_ble_eq_true rfl) rfl (fun p e s m args below meth c A ls hx hb hr hml hown hts hlk hnm hP hK hD hS hA hm hl => ?_)
  have hown : s.vm.findClass RX3 = some m.cls := hown
  refine lv_aload_n hx hb dX3_lay_0 rfl (lv_at hl 1 rfl) ?_
  refine r_get hx hb hts ok_RX7 hown hK hP 0 rfl rfl 1 (by decide) w_812 (fun _ h9 => h9) rfl dX3_lay_1 ?_
  refine r_alen (n := 2) hx hb hK hP 1 0 rfl rfl rfl dX3_lay_4 ?_
  refine lv_bipush (v := nI 12) hx hb dX3_lay_5 (by decide +kernel) ?_
  refine lv_icmp_lt (tgt := 27) hx hb dX3_lay_7 (by decide) (fun _ => ?_) (fun c9 => absurd (by decide +kernel) c9)
  refine lv_aload_n hx hb dX3_lay_27 rfl (lv_at hl 1 rfl) ?_
  refine lv_iconst (v := nI 1) hx hb dX3_lay_28 (by decide +kernel) ?_
  refine lv_iload_n hx hb dX3_lay_29 rfl (lv_at hl 2 rfl) ?_
  refine k_v (wr := [(h1, .inl (K 0, 2, .inr (.inr (.inr (.inr f0))))), (h2, .inr (3, [.ref h3, v10, v11, v12, v13, v14, v15, v16])), (h3, .inr (5, [.ref h4, .int (nI 0)])), (h4, .inl (K 0, 200, .inr (.inr (.inr (.inr f1)))))]) (run_V (rest := []) hx hb hml hown hts hK hP hD hS hA hm (C130_moveTo l G D K s.heap.size h0 (v0) (.ref h1) (v1) (v2) (.int (nI 0)) (.int (nI 4)) (v3) (v4) (v5) (v6) (v7) (v8) (v9)) [0] rfl rfl mok_yX7_moveTo w_361 w_362 w_363 (rcv hK hP 0 rfl rfl rfl) ⟨Nat.le_of_ble_eq_true rfl, Nat.le_of_ble_eq_true rfl⟩ rfl hl.1 rfl (Nat.le_of_ble_eq_true rfl) dX3_lay_30 ⟨(Nat.le_of_ble_eq_true rfl), (Nat.le_of_ble_eq_true rfl)⟩) hP hD hS hA [0] [1, 2, 3, 4] rfl rfl rfl (by decide) (w2 := fun u0 => [(h1, .inl (K 0, 2, .inr (.inr (.inr (.inr f0))))), (h2, .inr (3, [.ref h3, v10, v11, v12, v13, v14, v15, v16])), (h3, .inr (5, [.ref h4, .int (nI 0)])), (h4, .inl (K 0, 200, .inr (.inr (.inr (.inr f1))))), (h0, .inr (7, [v0, .ref h1, v1, .int (nI 1), .int (nI 0), .int (nI 4), .int (nI 4), v3, v4, v5, v6, v7, v8, v9]))]) (fun _ => rfl) (fun u0 H locs hP hD hS => ?_)
  refine lv_aload_n hx hb dX3_lay_33 rfl (lv_at hl 0 rfl) ?_
  refine r_get hx hb hts ok_RX3 hown hK hP 1 rfl rfl 0 (by decide) w_94 (fun _ h9 => h9) rfl dX3_lay_34 ?_
  refine lv_aload_n hx hb dX3_lay_37 rfl (lv_at hl 1 rfl) ?_
  refine k_v (wr := [(h1, .inl (K 0, 2, .inr (.inr (.inr (.inr f0))))), (h2, .inr (3, [.ref h3, v10, v11, v12, v13, v14, v15, v16]))]) (run_V (rest := []) hx hb hml hown hts hK hP hD hS hA hm (C92_add l G D K H.size h3 h4 h0 (v0) (.ref h1) (v1) (.int (nI 1)) (.int (nI 0)) (.int (nI 4)) (.int (nI 4)) (v3) (v4) (v5) (v6) (v7) (v8) (v9) f1) [2, 3, 4] rfl rfl mok_yX5_add w_369 w_333 w_334 (rcv hK hP 2 rfl rfl rfl) ⟨Nat.le_of_ble_eq_true rfl, Nat.le_of_ble_eq_true rfl⟩ rfl hl.1 rfl (Nat.le_of_ble_eq_true rfl) dX3_lay_38 ⟨(Nat.le_of_ble_eq_true rfl), (Nat.le_of_ble_eq_true rfl)⟩) hP hD hS hA [2, 3, 4] [0, 1] rfl rfl rfl (by decide) (w2 := fun u1 => [(h1, .inl (K 0, 2, .inr (.inr (.inr (.inr f0))))), (h2, .inr (3, [.ref h3, v10, v11, v12, v13, v14, v15, v16])), (h3, .inr (5, [.ref h4, .int (nI 1)])), (h4, .inl (K 0, 200, .inr (.inr (.inr (.inr (va_up f1 0 (some h0))))))), (h0, .inr (7, [v0, .ref h1, v1, .int (nI 1), .int (nI 0), .int (nI 4), .int (nI 4), v3, v4, v5, v6, v7, v8, v9]))]) (fun _ => rfl) (fun u1 H locs hP hD hS => ?_)
  refine lv_aload_n hx hb dX3_lay_41 rfl (lv_at hl 0 rfl) ?_
  refine lv_aload_n hx hb dX3_lay_42 rfl (lv_at hl 1 rfl) ?_
  refine k_i (wr := [(h1, .inl (K 0, 2, .inr (.inr (.inr (.inr f0))))), (h2, .inr (3, [.ref h3, v10, v11, v12, v13, v14, v15, v16])), (h3, .inr (5, [.ref h4, .int (nI 1)])), (h4, .inl (K 0, 200, .inr (.inr (.inr (.inr (va_up f1 0 (some h0)))))))]) (run_V (rest := [.ref h2]) hx hb hml hown hts hK hP hD hS hA hm (C131_end l G D K H.size h0 (v0) (.ref h1) (v1) (.int (nI 1)) (.int (nI 4)) (v3) (v4) (v5) (v6) (v7) (v8) (v9)) [4] rfl rfl mok_yX7_end w_365 w_366 w_367 (rcv hK hP 4 rfl rfl rfl) ⟨Nat.le_of_ble_eq_true rfl, Nat.le_of_ble_eq_true rfl⟩ rfl hl.1 rfl (Nat.le_of_ble_eq_true rfl) dX3_lay_43 ⟨(Nat.le_of_ble_eq_true rfl), (Nat.le_of_ble_eq_true rfl)⟩) hP hD hS hA [4] [0, 1, 2, 3] rfl rfl rfl (by decide) (w2 := fun u2 => [(h1, .inl (K 0, 2, .inr (.inr (.inr (.inr f0))))), (h2, .inr (3, [.ref h3, v10, v11, v12, v13, v14, v15, v16])), (h3, .inr (5, [.ref h4, .int (nI 1)])), (h4, .inl (K 0, 200, .inr (.inr (.inr (.inr (va_up f1 0 (some h0))))))), (h0, .inr (7, [v0, .ref h1, v1, .int (nI 1), .int (nI 0), .int (nI 4), .int (nI 4), v3, v4, v5, v6, v7, v8, v9]))]) (fun _ => rfl) (fun u2 H locs hP hD hS => ?_)
  refine r_put hx hb hts ok_RX3 hown hK hP hD hS 1 rfl rfl 4 (by decide) w_104 (fun _ h9 => h9) rfl (v := .int (nI 4)) rfl rfl (Nat.le_of_ble_eq_true rfl) dX3_lay_46 (ws' := [(h1, .inl (K 0, 2, .inr (.inr (.inr (.inr f0))))), (h2, .inr (3, [.ref h3, v10, v11, v12, .int (nI 4), v14, v15, v16])), (h3, .inr (5, [.ref h4, .int (nI 1)])), (h4, .inl (K 0, 200, .inr (.inr (.inr (.inr (va_up f1 0 (some h0))))))), (h0, .inr (7, [v0, .ref h1, v1, .int (nI 1), .int (nI 0), .int (nI 4), .int (nI 4), v3, v4, v5, v6, v7, v8, v9]))]) rfl (fun H locs hP hD hS => ?_)
  exact e_v hx hb hr hlk hP hD hS (fun _ => 0) rfl (Nat.le_of_ble_eq_true rfl) (Nat.le_of_ble_eq_true rfl) dX3_lay_49
set_option maxHeartbeats 4000000 in
set_option maxRecDepth 100000 in
theorem C133_make (l : Launch) (G : Nat → Nat) (D : va_G) (K : Nat → ClassId) (sz : Nat) (h0 h1 h2 h3 h4 h5 h6 h7 h8 : Nat) (v0 v1 v2 v3 v4 v5 v6 v7 v8 v9 v10 v11 v12 v13 : Value) (f0 : Nat → Option Nat) (f1 : Nat → Option Nat) (f2 : Nat → Option Nat) (j0 : Nat) (lj0 : 0 ≤ j0) (gj0 : j0 ≤ 3) : CM l yX9_make cX9_make 6 (some FieldType.int) ({ frames := 2, cells := 2, slots := 16, locals := 44 } : Room) G D K [.ref h0, .int (nI j0), .int (nI 0), .int (nI 2)] [(h0, .inr (9, [.ref h1, .ref h7, .ref h2, v0, .ref h6, v1, v2, v3, v4])), (h1, .inr (5, [.ref h3, .int (nI 0)])), (h2, .inr (3, [.ref h4, v5, v6, .int (nI 0), .int (nI 0), v7, v8, v9])), (h3, .inl (K 0, 200, .inr (.inr (.inr (.inr f0))))), (h4, .inr (5, [.ref h5, .int (nI 0)])), (h5, .inl (K 0, 200, .inr (.inr (.inr (.inr f1))))), (h6, .inr (1, [v10, v11, .int (nI 0)])), (h7, .inr (4, [v12, .ref h8, v13, .int (nI 1)])), (h8, .inl (K 0, 32, .inr (.inr (.inr (.inr f2)))))] sz (CQi (nI 0) D (fun u => [(h0, .inr (9, [.ref h1, .ref h7, .ref h2, v0, .ref h6, v1, v2, v3, v4])), (h1, .inr (5, [.ref h3, .int (nI 1)])), (h3, .inl (K 0, 200, .inr (.inr (.inr (.inr (va_up f0 0 (some (u 0)))))))), ((u 1), .inl (K 0, 2, .inr (.inr (.inr (.inr (fun _ => none)))))), (h2, .inr (3, [.ref h4, v5, v6, .int (nI 0), .int (nI 4), v7, v8, v9])), (h4, .inr (5, [.ref h5, .int (nI 1)])), (h5, .inl (K 0, 200, .inr (.inr (.inr (.inr (va_up f1 0 (some (u 0)))))))), (h6, .inr (1, [v10, v11, .int (nI 0)])), (h8, .inl (K 0, 32, .inr (.inr (.inr (.inr (va_up f2 (0 + j0) (some (u 0)))))))), ((u 0), .inr (7, [.int (nI 0), .ref (u 1), .int (nI 0), .int (nI 1), .int (nI 0), .int (nI 4), .int (nI 4), .int (nI 0), .int (-1), .int (nI 0), .int (nI 0), .int (nI 0), .int (nI 0), .int (nI 0)])), (h7, .inr (4, [v12, .ref h8, v13, .int (nI 1)]))])) := by
  refine CM_of (lv0 := [(0, .ref h0), (1, .int (nI j0)), (2, .int (nI 0)), (3, .int (nI 2))]) pn_RX9 (Nat.le_of_ble_eq_true rfl) rfl (fun p e s m args below meth c A ls hx hb hr hml hown hts hlk hnm hP hK hD hS hA hm hl => ?_)
  have hown : s.vm.findClass RX9 = some m.cls := hown
  refine lv_iload_n hx hb dX9_make_0 rfl (lv_at hl 1 rfl) ?_
  refine k_v (wr := [(h0, .inr (9, [.ref h1, .ref h7, .ref h2, v0, .ref h6, v1, v2, v3, v4])), (h1, .inr (5, [.ref h3, .int (nI 0)])), (h2, .inr (3, [.ref h4, v5, v6, .int (nI 0), .int (nI 0), v7, v8, v9])), (h3, .inl (K 0, 200, .inr (.inr (.inr (.inr f0))))), (h4, .inr (5, [.ref h5, .int (nI 0)])), (h5, .inl (K 0, 200, .inr (.inr (.inr (.inr f1))))), (h6, .inr (1, [v10, v11, .int (nI 0)])), (h7, .inr (4, [v12, .ref h8, v13, .int (nI 1)])), (h8, .inl (K 0, 32, .inr (.inr (.inr (.inr f2)))))]) (run_S (rest := []) hx hb hml hown hts hK hP hD hS hA hm (C70_requireSlot l G D K s.heap.size j0 (by omega) (by omega)) [] rfl rfl mok_yX9_requireSlot w_687 w_688 ⟨Nat.le_of_ble_eq_true rfl, Nat.le_of_ble_eq_true rfl⟩ rfl hl.1 rfl (Nat.le_of_ble_eq_true rfl) dX9_make_1 ⟨(Nat.le_of_ble_eq_true rfl), (Nat.le_of_ble_eq_true rfl)⟩) hP hD hS hA [] [0, 1, 2, 3, 4, 5, 6, 7, 8] rfl rfl rfl (by decide) (w2 := fun u0 => [(h0, .inr (9, [.ref h1, .ref h7, .ref h2, v0, .ref h6, v1, v2, v3, v4])), (h1, .inr (5, [.ref h3, .int (nI 0)])), (h2, .inr (3, [.ref h4, v5, v6, .int (nI 0), .int (nI 0), v7, v8, v9])), (h3, .inl (K 0, 200, .inr (.inr (.inr (.inr f0))))), (h4, .inr (5, [.ref h5, .int (nI 0)])), (h5, .inl (K 0, 200, .inr (.inr (.inr (.inr f1))))), (h6, .inr (1, [v10, v11, .int (nI 0)])), (h7, .inr (4, [v12, .ref h8, v13, .int (nI 1)])), (h8, .inl (K 0, 32, .inr (.inr (.inr (.inr f2)))))]) (fun _ => rfl) (fun u0 H locs hP hD hS => ?_)
  refine lv_iload_n hx hb dX9_make_4 rfl (lv_at hl 2 rfl) ?_
  refine lv_if_lt (tgt := 27) hx hb dX9_make_5 (by decide) (fun c9 => absurd c9 (by decide +kernel)) (fun _ => ?_)
  refine lv_iload_n hx hb dX9_make_8 rfl (lv_at hl 2 rfl) ?_
  refine lv_iconst (v := nI 4) hx hb dX9_make_9 (by decide +kernel) ?_
  refine lv_icmp_gt (tgt := 27) hx hb dX9_make_10 (by decide) (fun c9 => absurd c9 (by decide +kernel)) (fun _ => ?_)
  refine lv_iload_n hx hb dX9_make_13 rfl (lv_at hl 3 rfl) ?_
  refine lv_iload_n hx hb dX9_make_14 rfl (lv_at hl 2 rfl) ?_
  refine k_i (wr := [(h0, .inr (9, [.ref h1, .ref h7, .ref h2, v0, .ref h6, v1, v2, v3, v4])), (h1, .inr (5, [.ref h3, .int (nI 0)])), (h2, .inr (3, [.ref h4, v5, v6, .int (nI 0), .int (nI 0), v7, v8, v9])), (h3, .inl (K 0, 200, .inr (.inr (.inr (.inr f0))))), (h4, .inr (5, [.ref h5, .int (nI 0)])), (h5, .inl (K 0, 200, .inr (.inr (.inr (.inr f1))))), (h6, .inr (1, [v10, v11, .int (nI 0)])), (h7, .inr (4, [v12, .ref h8, v13, .int (nI 1)])), (h8, .inl (K 0, 32, .inr (.inr (.inr (.inr f2)))))]) (run_S (rest := [.int (nI 2)]) hx hb hml hown hts hK hP hD hS hA hm (C81_leastFields l G D K H.size) [] rfl rfl mok_yX9_leastFields w_795 w_796 ⟨Nat.le_of_ble_eq_true rfl, Nat.le_of_ble_eq_true rfl⟩ rfl hl.1 rfl (Nat.le_of_ble_eq_true rfl) dX9_make_15 ⟨(Nat.le_of_ble_eq_true rfl), (Nat.le_of_ble_eq_true rfl)⟩) hP hD hS hA [] [0, 1, 2, 3, 4, 5, 6, 7, 8] rfl rfl rfl (by decide) (w2 := fun u1 => [(h0, .inr (9, [.ref h1, .ref h7, .ref h2, v0, .ref h6, v1, v2, v3, v4])), (h1, .inr (5, [.ref h3, .int (nI 0)])), (h2, .inr (3, [.ref h4, v5, v6, .int (nI 0), .int (nI 0), v7, v8, v9])), (h3, .inl (K 0, 200, .inr (.inr (.inr (.inr f0))))), (h4, .inr (5, [.ref h5, .int (nI 0)])), (h5, .inl (K 0, 200, .inr (.inr (.inr (.inr f1))))), (h6, .inr (1, [v10, v11, .int (nI 0)])), (h7, .inr (4, [v12, .ref h8, v13, .int (nI 1)])), (h8, .inl (K 0, 32, .inr (.inr (.inr (.inr f2)))))]) (fun _ => rfl) (fun u1 H locs hP hD hS => ?_)
  refine lv_icmp_lt (tgt := 27) hx hb dX9_make_18 (by decide) (fun c9 => absurd c9 (by decide +kernel)) (fun _ => ?_)
  refine lv_iload_n hx hb dX9_make_21 rfl (lv_at hl 3 rfl) ?_
  refine lv_bipush (v := nI 20) hx hb dX9_make_22 (by decide +kernel) ?_
  refine lv_icmp_le (tgt := 37) hx hb dX9_make_24 (by decide) (fun _ => ?_) (fun c9 => absurd (by decide +kernel) c9)
  refine lv_aload_n hx hb dX9_make_37 rfl (lv_at hl 0 rfl) ?_
  refine r_get hx hb hts ok_RX9 hown hK hP 0 rfl rfl 0 (by decide) w_258 (fun _ h9 => h9) rfl dX9_make_38 ?_
  refine k_i (wr := [(h0, .inr (9, [.ref h1, .ref h7, .ref h2, v0, .ref h6, v1, v2, v3, v4])), (h2, .inr (3, [.ref h4, v5, v6, .int (nI 0), .int (nI 0), v7, v8, v9])), (h3, .inl (K 0, 200, .inr (.inr (.inr (.inr f0))))), (h4, .inr (5, [.ref h5, .int (nI 0)])), (h5, .inl (K 0, 200, .inr (.inr (.inr (.inr f1))))), (h6, .inr (1, [v10, v11, .int (nI 0)])), (h7, .inr (4, [v12, .ref h8, v13, .int (nI 1)])), (h8, .inl (K 0, 32, .inr (.inr (.inr (.inr f2)))))]) (run_V (rest := []) hx hb hml hown hts hK hP hD hS hA hm (C89_size l G D K H.size h1 (.ref h3)) [1] rfl rfl mok_yX5_size w_574 w_295 w_296 (rcv hK hP 1 rfl rfl rfl) ⟨Nat.le_of_ble_eq_true rfl, Nat.le_of_ble_eq_true rfl⟩ rfl hl.1 rfl (Nat.le_of_ble_eq_true rfl) dX9_make_41 ⟨(Nat.le_of_ble_eq_true rfl), (Nat.le_of_ble_eq_true rfl)⟩) hP hD hS hA [1] [0, 2, 3, 4, 5, 6, 7, 8] rfl rfl rfl (by decide) (w2 := fun u2 => [(h0, .inr (9, [.ref h1, .ref h7, .ref h2, v0, .ref h6, v1, v2, v3, v4])), (h2, .inr (3, [.ref h4, v5, v6, .int (nI 0), .int (nI 0), v7, v8, v9])), (h3, .inl (K 0, 200, .inr (.inr (.inr (.inr f0))))), (h4, .inr (5, [.ref h5, .int (nI 0)])), (h5, .inl (K 0, 200, .inr (.inr (.inr (.inr f1))))), (h6, .inr (1, [v10, v11, .int (nI 0)])), (h7, .inr (4, [v12, .ref h8, v13, .int (nI 1)])), (h8, .inl (K 0, 32, .inr (.inr (.inr (.inr f2))))), (h1, .inr (5, [.ref h3, .int (nI 0)]))]) (fun _ => rfl) (fun u2 H locs hP hD hS => ?_)
  refine lv_sipush (v := nI 200) hx hb dX9_make_44 (by decide +kernel) ?_
  refine lv_icmp_lt (tgt := 60) hx hb dX9_make_47 (by decide) (fun _ => ?_) (fun c9 => absurd (by decide +kernel) c9)
  refine lv_aload_n hx hb dX9_make_60 rfl (lv_at hl 0 rfl) ?_
  refine r_get hx hb hts ok_RX9 hown hK hP 0 rfl rfl 2 (by decide) w_260 (fun _ h9 => h9) rfl dX9_make_61 ?_
  refine lv_iload_n hx hb dX9_make_64 rfl (lv_at hl 3 rfl) ?_
  refine k_i (wr := [(h0, .inr (9, [.ref h1, .ref h7, .ref h2, v0, .ref h6, v1, v2, v3, v4])), (h3, .inl (K 0, 200, .inr (.inr (.inr (.inr f0))))), (h4, .inr (5, [.ref h5, .int (nI 0)])), (h5, .inl (K 0, 200, .inr (.inr (.inr (.inr f1))))), (h6, .inr (1, [v10, v11, .int (nI 0)])), (h7, .inr (4, [v12, .ref h8, v13, .int (nI 1)])), (h8, .inl (K 0, 32, .inr (.inr (.inr (.inr f2))))), (h1, .inr (5, [.ref h3, .int (nI 0)]))]) (run_V (rest := []) hx hb hml hown hts hK hP hD hS hA hm (C128_gapFor l G D K H.size h2 (.ref h4) (v5) (v6) (v7) (v8) (v9)) [1] rfl rfl mok_yX3_gapFor w_734 w_735 w_736 (rcv hK hP 1 rfl rfl rfl) ⟨Nat.le_of_ble_eq_true rfl, Nat.le_of_ble_eq_true rfl⟩ rfl hl.1 rfl (Nat.le_of_ble_eq_true rfl) dX9_make_65 ⟨(Nat.le_of_ble_eq_true rfl), (Nat.le_of_ble_eq_true rfl)⟩) hP hD hS hA [1] [0, 2, 3, 4, 5, 6, 7, 8] rfl rfl rfl (by decide) (w2 := fun u3 => [(h0, .inr (9, [.ref h1, .ref h7, .ref h2, v0, .ref h6, v1, v2, v3, v4])), (h3, .inl (K 0, 200, .inr (.inr (.inr (.inr f0))))), (h4, .inr (5, [.ref h5, .int (nI 0)])), (h5, .inl (K 0, 200, .inr (.inr (.inr (.inr f1))))), (h6, .inr (1, [v10, v11, .int (nI 0)])), (h7, .inr (4, [v12, .ref h8, v13, .int (nI 1)])), (h8, .inl (K 0, 32, .inr (.inr (.inr (.inr f2))))), (h1, .inr (5, [.ref h3, .int (nI 0)])), (h2, .inr (3, [.ref h4, v5, v6, .int (nI 0), .int (nI 0), v7, v8, v9]))]) (fun _ => rfl) (fun u3 H locs hP hD hS => ?_)
  refine lv_istore (lv' := [(4, .int (nI 0)), (0, .ref h0), (1, .int (nI j0)), (2, .int (nI 0)), (3, .int (nI 2))]) hx hb dX9_make_68 hl (by decide) rfl (fun ls hl => ?_)
  refine lv_iload hx hb dX9_make_70 (lv_at hl 0 rfl) ?_
  refine lv_iconst (v := (-1)) hx hb dX9_make_72 (by decide +kernel) ?_
  refine lv_icmp_ne (tgt := 97) hx hb dX9_make_73 (by decide) (fun _ => ?_) (fun c9 => absurd c9 (by decide +kernel))
  refine lv_iload hx hb dX9_make_97 (lv_at hl 0 rfl) ?_
  refine lv_iconst (v := (-1)) hx hb dX9_make_99 (by decide +kernel) ?_
  refine lv_icmp_ne (tgt := 119) hx hb dX9_make_100 (by decide) (fun _ => ?_) (fun c9 => absurd c9 (by decide +kernel))
  refine lv_iload hx hb dX9_make_119 (lv_at hl 0 rfl) ?_
  refine lv_iconst (v := (-1)) hx hb dX9_make_121 (by decide +kernel) ?_
  refine lv_icmp_ne (tgt := 141) hx hb dX9_make_122 (by decide) (fun _ => ?_) (fun c9 => absurd c9 (by decide +kernel))
  refine lv_iload hx hb dX9_make_141 (lv_at hl 0 rfl) ?_
  refine lv_iconst (v := (-1)) hx hb dX9_make_143 (by decide +kernel) ?_
  refine lv_icmp_ne (tgt := 149) hx hb dX9_make_144 (by decide) (fun _ => ?_) (fun c9 => absurd c9 (by decide +kernel))
  refine r_new (ci := 7) (C := RX7) (T := TX7) (N := 14) hx hb hts ok_RX7 hown w_802 w_803 w_27 hK hP hD hS hA rfl df_RX7 (Nat.le_of_ble_eq_true rfl) (Nat.le_of_ble_eq_true rfl) dX9_make_149 (w2 := fun q0 => [(h0, .inr (9, [.ref h1, .ref h7, .ref h2, v0, .ref h6, v1, v2, v3, v4])), (h3, .inl (K 0, 200, .inr (.inr (.inr (.inr f0))))), (h4, .inr (5, [.ref h5, .int (nI 0)])), (h5, .inl (K 0, 200, .inr (.inr (.inr (.inr f1))))), (h6, .inr (1, [v10, v11, .int (nI 0)])), (h7, .inr (4, [v12, .ref h8, v13, .int (nI 1)])), (h8, .inl (K 0, 32, .inr (.inr (.inr (.inr f2))))), (h1, .inr (5, [.ref h3, .int (nI 0)])), (h2, .inr (3, [.ref h4, v5, v6, .int (nI 0), .int (nI 0), v7, v8, v9])), (q0, .inr (7, [.int (nI 0), .null, .int (nI 0), .int (nI 0), .int (nI 0), .int (nI 0), .int (nI 0), .int (nI 0), .int (nI 0), .int (nI 0), .int (nI 0), .int (nI 0), .int (nI 0), .int (nI 0)]))]) (fun _ => rfl) (fun q0 H hP hD hS => ?_)
  refine lv_dup hx hb dX9_make_152 rfl ?_
  refine lv_aload_n hx hb dX9_make_153 rfl (lv_at hl 1 rfl) ?_
  refine r_get hx hb hts ok_RX9 hown hK hP 0 rfl rfl 0 (by decide) w_258 (fun _ h9 => h9) rfl dX9_make_154 ?_
  refine k_i (wr := [(h0, .inr (9, [.ref h1, .ref h7, .ref h2, v0, .ref h6, v1, v2, v3, v4])), (h3, .inl (K 0, 200, .inr (.inr (.inr (.inr f0))))), (h4, .inr (5, [.ref h5, .int (nI 0)])), (h5, .inl (K 0, 200, .inr (.inr (.inr (.inr f1))))), (h6, .inr (1, [v10, v11, .int (nI 0)])), (h7, .inr (4, [v12, .ref h8, v13, .int (nI 1)])), (h8, .inl (K 0, 32, .inr (.inr (.inr (.inr f2))))), (h2, .inr (3, [.ref h4, v5, v6, .int (nI 0), .int (nI 0), v7, v8, v9])), (q0, .inr (7, [.int (nI 0), .null, .int (nI 0), .int (nI 0), .int (nI 0), .int (nI 0), .int (nI 0), .int (nI 0), .int (nI 0), .int (nI 0), .int (nI 0), .int (nI 0), .int (nI 0), .int (nI 0)]))]) (run_V (rest := [.ref q0, .ref q0]) hx hb hml hown hts hK hP hD hS hA hm (C89_size l G D K H.size h1 (.ref h3)) [7] rfl rfl mok_yX5_size w_574 w_295 w_296 (rcv hK hP 7 rfl rfl rfl) ⟨Nat.le_of_ble_eq_true rfl, Nat.le_of_ble_eq_true rfl⟩ rfl hl.1 rfl (Nat.le_of_ble_eq_true rfl) dX9_make_157 ⟨(Nat.le_of_ble_eq_true rfl), (Nat.le_of_ble_eq_true rfl)⟩) hP hD hS hA [7] [0, 1, 2, 3, 4, 5, 6, 8, 9] rfl rfl rfl (by decide) (w2 := fun u4 => [(h0, .inr (9, [.ref h1, .ref h7, .ref h2, v0, .ref h6, v1, v2, v3, v4])), (h3, .inl (K 0, 200, .inr (.inr (.inr (.inr f0))))), (h4, .inr (5, [.ref h5, .int (nI 0)])), (h5, .inl (K 0, 200, .inr (.inr (.inr (.inr f1))))), (h6, .inr (1, [v10, v11, .int (nI 0)])), (h7, .inr (4, [v12, .ref h8, v13, .int (nI 1)])), (h8, .inl (K 0, 32, .inr (.inr (.inr (.inr f2))))), (h2, .inr (3, [.ref h4, v5, v6, .int (nI 0), .int (nI 0), v7, v8, v9])), (q0, .inr (7, [.int (nI 0), .null, .int (nI 0), .int (nI 0), .int (nI 0), .int (nI 0), .int (nI 0), .int (nI 0), .int (nI 0), .int (nI 0), .int (nI 0), .int (nI 0), .int (nI 0), .int (nI 0)])), (h1, .inr (5, [.ref h3, .int (nI 0)]))]) (fun _ => rfl) (fun u4 H locs hP hD hS => ?_)
  refine lv_iload_n hx hb dX9_make_160 rfl (lv_at hl 3 rfl) ?_
  refine lv_iload_n hx hb dX9_make_161 rfl (lv_at hl 4 rfl) ?_
  refine k_v (wr := [(h0, .inr (9, [.ref h1, .ref h7, .ref h2, v0, .ref h6, v1, v2, v3, v4])), (h3, .inl (K 0, 200, .inr (.inr (.inr (.inr f0))))), (h4, .inr (5, [.ref h5, .int (nI 0)])), (h5, .inl (K 0, 200, .inr (.inr (.inr (.inr f1))))), (h6, .inr (1, [v10, v11, .int (nI 0)])), (h7, .inr (4, [v12, .ref h8, v13, .int (nI 1)])), (h8, .inl (K 0, 32, .inr (.inr (.inr (.inr f2))))), (h2, .inr (3, [.ref h4, v5, v6, .int (nI 0), .int (nI 0), v7, v8, v9])), (h1, .inr (5, [.ref h3, .int (nI 0)]))]) (run_I (rest := [.ref q0]) hx hb hml hown hts hK hP hD hS hA hm (C129_init l G D K H.size q0 (.int (nI 0)) (.null) (.int (nI 0)) (.int (nI 0)) (.int (nI 0)) (.int (nI 0)) (.int (nI 0)) (.int (nI 0)) (.int (nI 0)) (.int (nI 0)) (.int (nI 0)) (.int (nI 0)) (.int (nI 0)) (nI 0)) [8] rfl rfl mok_yX7_init w_804 w_805 rfl ⟨Nat.le_of_ble_eq_true rfl, Nat.le_of_ble_eq_true rfl⟩ rfl hl.1 rfl (Nat.le_of_ble_eq_true rfl) dX9_make_162 ⟨(Nat.le_of_ble_eq_true rfl), (Nat.le_of_ble_eq_true rfl)⟩) hP hD hS hA [8] [0, 1, 2, 3, 4, 5, 6, 7, 9] rfl rfl rfl (by decide) (w2 := fun u5 => [(h0, .inr (9, [.ref h1, .ref h7, .ref h2, v0, .ref h6, v1, v2, v3, v4])), (h3, .inl (K 0, 200, .inr (.inr (.inr (.inr f0))))), (h4, .inr (5, [.ref h5, .int (nI 0)])), (h5, .inl (K 0, 200, .inr (.inr (.inr (.inr f1))))), (h6, .inr (1, [v10, v11, .int (nI 0)])), (h7, .inr (4, [v12, .ref h8, v13, .int (nI 1)])), (h8, .inl (K 0, 32, .inr (.inr (.inr (.inr f2))))), (h2, .inr (3, [.ref h4, v5, v6, .int (nI 0), .int (nI 0), v7, v8, v9])), (h1, .inr (5, [.ref h3, .int (nI 0)])), (q0, .inr (7, [.int (nI 0), .ref (u5 0), .int (nI 0), .int (nI 0), .int (nI 0), .int (nI 4), .int (nI 4), .int (nI 0), .int (-1), .int (nI 0), .int (nI 0), .int (nI 0), .int (nI 0), .int (nI 0)])), ((u5 0), .inl (K 0, 2, .inr (.inr (.inr (.inr (fun _ => none))))))]) (fun _ => rfl) (fun u5 H locs hP hD hS => ?_)
  refine lv_astore (lv' := [(5, .ref q0), (4, .int (nI 0)), (0, .ref h0), (1, .int (nI j0)), (2, .int (nI 0)), (3, .int (nI 2))]) hx hb dX9_make_165 hl (by decide) rfl (fun ls hl => ?_)
  refine lv_aload_n hx hb dX9_make_167 rfl (lv_at hl 2 rfl) ?_
  refine r_get hx hb hts ok_RX9 hown hK hP 0 rfl rfl 0 (by decide) w_258 (fun _ h9 => h9) rfl dX9_make_168 ?_
  refine lv_aload hx hb dX9_make_171 (lv_at hl 0 rfl) ?_
  refine k_v (wr := [(h0, .inr (9, [.ref h1, .ref h7, .ref h2, v0, .ref h6, v1, v2, v3, v4])), (h4, .inr (5, [.ref h5, .int (nI 0)])), (h5, .inl (K 0, 200, .inr (.inr (.inr (.inr f1))))), (h6, .inr (1, [v10, v11, .int (nI 0)])), (h7, .inr (4, [v12, .ref h8, v13, .int (nI 1)])), (h8, .inl (K 0, 32, .inr (.inr (.inr (.inr f2))))), (h2, .inr (3, [.ref h4, v5, v6, .int (nI 0), .int (nI 0), v7, v8, v9])), ((u5 0), .inl (K 0, 2, .inr (.inr (.inr (.inr (fun _ => none))))))]) (run_V (rest := []) hx hb hml hown hts hK hP hD hS hA hm (C92_add l G D K H.size h1 h3 q0 (.int (nI 0)) (.ref (u5 0)) (.int (nI 0)) (.int (nI 0)) (.int (nI 0)) (.int (nI 4)) (.int (nI 4)) (.int (nI 0)) (.int (-1)) (.int (nI 0)) (.int (nI 0)) (.int (nI 0)) (.int (nI 0)) (.int (nI 0)) f0) [8, 1, 9] rfl rfl mok_yX5_add w_890 w_333 w_334 (rcv hK hP 8 rfl rfl rfl) ⟨Nat.le_of_ble_eq_true rfl, Nat.le_of_ble_eq_true rfl⟩ rfl hl.1 rfl (Nat.le_of_ble_eq_true rfl) dX9_make_173 ⟨(Nat.le_of_ble_eq_true rfl), (Nat.le_of_ble_eq_true rfl)⟩) hP hD hS hA [8, 1, 9] [0, 2, 3, 4, 5, 6, 7, 10] rfl rfl rfl (by decide) (w2 := fun u6 => [(h0, .inr (9, [.ref h1, .ref h7, .ref h2, v0, .ref h6, v1, v2, v3, v4])), (h4, .inr (5, [.ref h5, .int (nI 0)])), (h5, .inl (K 0, 200, .inr (.inr (.inr (.inr f1))))), (h6, .inr (1, [v10, v11, .int (nI 0)])), (h7, .inr (4, [v12, .ref h8, v13, .int (nI 1)])), (h8, .inl (K 0, 32, .inr (.inr (.inr (.inr f2))))), (h2, .inr (3, [.ref h4, v5, v6, .int (nI 0), .int (nI 0), v7, v8, v9])), ((u5 0), .inl (K 0, 2, .inr (.inr (.inr (.inr (fun _ => none)))))), (h1, .inr (5, [.ref h3, .int (nI 1)])), (h3, .inl (K 0, 200, .inr (.inr (.inr (.inr (va_up f0 0 (some q0))))))), (q0, .inr (7, [.int (nI 0), .ref (u5 0), .int (nI 0), .int (nI 0), .int (nI 0), .int (nI 4), .int (nI 4), .int (nI 0), .int (-1), .int (nI 0), .int (nI 0), .int (nI 0), .int (nI 0), .int (nI 0)]))]) (fun _ => rfl) (fun u6 H locs hP hD hS => ?_)
  refine lv_aload_n hx hb dX9_make_176 rfl (lv_at hl 2 rfl) ?_
  refine r_get hx hb hts ok_RX9 hown hK hP 0 rfl rfl 2 (by decide) w_260 (fun _ h9 => h9) rfl dX9_make_177 ?_
  refine lv_aload hx hb dX9_make_180 (lv_at hl 0 rfl) ?_
  refine lv_iload hx hb dX9_make_182 (lv_at hl 1 rfl) ?_
  refine k_v (wr := [(h0, .inr (9, [.ref h1, .ref h7, .ref h2, v0, .ref h6, v1, v2, v3, v4])), (h6, .inr (1, [v10, v11, .int (nI 0)])), (h7, .inr (4, [v12, .ref h8, v13, .int (nI 1)])), (h8, .inl (K 0, 32, .inr (.inr (.inr (.inr f2))))), (h1, .inr (5, [.ref h3, .int (nI 1)])), (h3, .inl (K 0, 200, .inr (.inr (.inr (.inr (va_up f0 0 (some q0)))))))]) (run_V (rest := []) hx hb hml hown hts hK hP hD hS hA hm (C132_lay l G D K H.size q0 (u5 0) h2 h4 h5 (.int (nI 0)) (.int (nI 0)) (.int (nI 0)) (.int (nI 0)) (.int (-1)) (.int (nI 0)) (.int (nI 0)) (.int (nI 0)) (.int (nI 0)) (.int (nI 0)) (v5) (v6) (.int (nI 0)) (.int (nI 0)) (v7) (v8) (v9) (fun _ => none) f1) [10, 7, 6, 1, 2] rfl rfl mok_yX3_lay w_891 w_892 w_893 (rcv hK hP 6 rfl rfl rfl) ⟨Nat.le_of_ble_eq_true rfl, Nat.le_of_ble_eq_true rfl⟩ rfl hl.1 rfl (Nat.le_of_ble_eq_true rfl) dX9_make_184 ⟨(Nat.le_of_ble_eq_true rfl), (Nat.le_of_ble_eq_true rfl)⟩) hP hD hS hA [10, 7, 6, 1, 2] [0, 3, 4, 5, 8, 9] rfl rfl rfl (by decide) (w2 := fun u7 => [(h0, .inr (9, [.ref h1, .ref h7, .ref h2, v0, .ref h6, v1, v2, v3, v4])), (h6, .inr (1, [v10, v11, .int (nI 0)])), (h7, .inr (4, [v12, .ref h8, v13, .int (nI 1)])), (h8, .inl (K 0, 32, .inr (.inr (.inr (.inr f2))))), (h1, .inr (5, [.ref h3, .int (nI 1)])), (h3, .inl (K 0, 200, .inr (.inr (.inr (.inr (va_up f0 0 (some q0))))))), ((u5 0), .inl (K 0, 2, .inr (.inr (.inr (.inr (fun _ => none)))))), (h2, .inr (3, [.ref h4, v5, v6, .int (nI 0), .int (nI 4), v7, v8, v9])), (h4, .inr (5, [.ref h5, .int (nI 1)])), (h5, .inl (K 0, 200, .inr (.inr (.inr (.inr (va_up f1 0 (some q0))))))), (q0, .inr (7, [.int (nI 0), .ref (u5 0), .int (nI 0), .int (nI 1), .int (nI 0), .int (nI 4), .int (nI 4), .int (nI 0), .int (-1), .int (nI 0), .int (nI 0), .int (nI 0), .int (nI 0), .int (nI 0)]))]) (fun _ => rfl) (fun u7 H locs hP hD hS => ?_)
  refine lv_aload_n hx hb dX9_make_187 rfl (lv_at hl 2 rfl) ?_
  refine r_get hx hb hts ok_RX9 hown hK hP 0 rfl rfl 4 (by decide) w_262 (fun _ h9 => h9) rfl dX9_make_188 ?_
  refine lv_aload hx hb dX9_make_191 (lv_at hl 0 rfl) ?_
  refine k_v (wr := [(h0, .inr (9, [.ref h1, .ref h7, .ref h2, v0, .ref h6, v1, v2, v3, v4])), (h7, .inr (4, [v12, .ref h8, v13, .int (nI 1)])), (h8, .inl (K 0, 32, .inr (.inr (.inr (.inr f2))))), (h1, .inr (5, [.ref h3, .int (nI 1)])), (h3, .inl (K 0, 200, .inr (.inr (.inr (.inr (va_up f0 0 (some q0))))))), ((u5 0), .inl (K 0, 2, .inr (.inr (.inr (.inr (fun _ => none)))))), (h2, .inr (3, [.ref h4, v5, v6, .int (nI 0), .int (nI 4), v7, v8, v9])), (h4, .inr (5, [.ref h5, .int (nI 1)])), (h5, .inl (K 0, 200, .inr (.inr (.inr (.inr (va_up f1 0 (some q0))))))), (q0, .inr (7, [.int (nI 0), .ref (u5 0), .int (nI 0), .int (nI 1), .int (nI 0), .int (nI 4), .int (nI 4), .int (nI 0), .int (-1), .int (nI 0), .int (nI 0), .int (nI 0), .int (nI 0), .int (nI 0)]))]) (run_V (rest := []) hx hb hml hown hts hK hP hD hS hA hm (C96_noteMade l G D K H.size h6 q0 (v10) (v11)) [1] rfl rfl mok_yX1_noteMade w_899 w_900 w_901 (rcv hK hP 1 rfl rfl rfl) ⟨Nat.le_of_ble_eq_true rfl, Nat.le_of_ble_eq_true rfl⟩ rfl hl.1 rfl (Nat.le_of_ble_eq_true rfl) dX9_make_193 ⟨(Nat.le_of_ble_eq_true rfl), (Nat.le_of_ble_eq_true rfl)⟩) hP hD hS hA [1] [0, 2, 3, 4, 5, 6, 7, 8, 9, 10] rfl rfl rfl (by decide) (w2 := fun u8 => [(h0, .inr (9, [.ref h1, .ref h7, .ref h2, v0, .ref h6, v1, v2, v3, v4])), (h7, .inr (4, [v12, .ref h8, v13, .int (nI 1)])), (h8, .inl (K 0, 32, .inr (.inr (.inr (.inr f2))))), (h1, .inr (5, [.ref h3, .int (nI 1)])), (h3, .inl (K 0, 200, .inr (.inr (.inr (.inr (va_up f0 0 (some q0))))))), ((u5 0), .inl (K 0, 2, .inr (.inr (.inr (.inr (fun _ => none)))))), (h2, .inr (3, [.ref h4, v5, v6, .int (nI 0), .int (nI 4), v7, v8, v9])), (h4, .inr (5, [.ref h5, .int (nI 1)])), (h5, .inl (K 0, 200, .inr (.inr (.inr (.inr (va_up f1 0 (some q0))))))), (q0, .inr (7, [.int (nI 0), .ref (u5 0), .int (nI 0), .int (nI 1), .int (nI 0), .int (nI 4), .int (nI 4), .int (nI 0), .int (-1), .int (nI 0), .int (nI 0), .int (nI 0), .int (nI 0), .int (nI 0)])), (h6, .inr (1, [v10, v11, .int (nI 0)]))]) (fun _ => rfl) (fun u8 H locs hP hD hS => ?_)
  refine lv_aload_n hx hb dX9_make_196 rfl (lv_at hl 2 rfl) ?_
  refine r_get hx hb hts ok_RX9 hown hK hP 0 rfl rfl 1 (by decide) w_259 (fun _ h9 => h9) rfl dX9_make_197 ?_
  refine lv_iload_n hx hb dX9_make_200 rfl (lv_at hl 3 rfl) ?_
  refine lv_aload hx hb dX9_make_201 (lv_at hl 0 rfl) ?_
  refine k_v (wr := [(h0, .inr (9, [.ref h1, .ref h7, .ref h2, v0, .ref h6, v1, v2, v3, v4])), (h1, .inr (5, [.ref h3, .int (nI 1)])), (h3, .inl (K 0, 200, .inr (.inr (.inr (.inr (va_up f0 0 (some q0))))))), ((u5 0), .inl (K 0, 2, .inr (.inr (.inr (.inr (fun _ => none)))))), (h2, .inr (3, [.ref h4, v5, v6, .int (nI 0), .int (nI 4), v7, v8, v9])), (h4, .inr (5, [.ref h5, .int (nI 1)])), (h5, .inl (K 0, 200, .inr (.inr (.inr (.inr (va_up f1 0 (some q0))))))), (h6, .inr (1, [v10, v11, .int (nI 0)]))]) (run_V (rest := []) hx hb hml hown hts hK hP hD hS hA hm (C98_writeSlot l G D K H.size h7 h8 q0 (v12) (v13) (.int (nI 0)) (.ref (u5 0)) (.int (nI 0)) (.int (nI 1)) (.int (nI 0)) (.int (nI 4)) (.int (nI 4)) (.int (nI 0)) (.int (-1)) (.int (nI 0)) (.int (nI 0)) (.int (nI 0)) (.int (nI 0)) (.int (nI 0)) f2 j0 (by omega) (by omega)) [1, 2, 9] rfl rfl mok_yX4_writeSlot w_903 w_783 w_784 (rcv hK hP 1 rfl rfl rfl) ⟨Nat.le_of_ble_eq_true rfl, Nat.le_of_ble_eq_true rfl⟩ rfl hl.1 rfl (Nat.le_of_ble_eq_true rfl) dX9_make_203 ⟨(Nat.le_of_ble_eq_true rfl), (Nat.le_of_ble_eq_true rfl)⟩) hP hD hS hA [1, 2, 9] [0, 3, 4, 5, 6, 7, 8, 10] rfl rfl rfl (by decide) (w2 := fun u9 => [(h0, .inr (9, [.ref h1, .ref h7, .ref h2, v0, .ref h6, v1, v2, v3, v4])), (h1, .inr (5, [.ref h3, .int (nI 1)])), (h3, .inl (K 0, 200, .inr (.inr (.inr (.inr (va_up f0 0 (some q0))))))), ((u5 0), .inl (K 0, 2, .inr (.inr (.inr (.inr (fun _ => none)))))), (h2, .inr (3, [.ref h4, v5, v6, .int (nI 0), .int (nI 4), v7, v8, v9])), (h4, .inr (5, [.ref h5, .int (nI 1)])), (h5, .inl (K 0, 200, .inr (.inr (.inr (.inr (va_up f1 0 (some q0))))))), (h6, .inr (1, [v10, v11, .int (nI 0)])), (h8, .inl (K 0, 32, .inr (.inr (.inr (.inr (va_up f2 (0 + j0) (some q0))))))), (q0, .inr (7, [.int (nI 0), .ref (u5 0), .int (nI 0), .int (nI 1), .int (nI 0), .int (nI 4), .int (nI 4), .int (nI 0), .int (-1), .int (nI 0), .int (nI 0), .int (nI 0), .int (nI 0), .int (nI 0)])), (h7, .inr (4, [v12, .ref h8, v13, .int (nI 1)]))]) (fun _ => rfl) (fun u9 H locs hP hD hS => ?_)
  refine lv_aload hx hb dX9_make_206 (lv_at hl 0 rfl) ?_
  refine r_get hx hb hts ok_RX7 hown hK hP 9 rfl rfl 0 (by decide) w_810 (fun _ h9 => h9) rfl dX9_make_208 ?_
  exact e_i hx hb hr hlk hP hD hS (fun k => match k with | 0 => q0 | 1 => (u5 0) | _ => 0) rfl (Nat.le_of_ble_eq_true rfl) (Nat.le_of_ble_eq_true rfl) rfl dX9_make_211
set_option maxHeartbeats 4000000 in
set_option maxRecDepth 100000 in
theorem C134_isIn (l : Launch) (G : Nat → Nat) (D : va_G) (K : Nat → ClassId) (sz : Nat) : CM l yX12_isIn cX12_isIn 3 (some FieldType.boolean) ({ frames := 0, cells := 0, slots := 0, locals := 0 } : Room) G D K [.int (nI 2), .int (nI 0), .int (nI 20)] [] sz (CQi (nI 1) D (fun _ => [])) := by
  refine CM_of (lv0 := [(0, .int (nI 2)), (1, .int (nI 0)), (2, .int (nI 20))]) pn_RX12 (Nat.le_of_ble_eq_true rfl) rfl (fun p e s m args below meth c A ls hx hb hr hml hown hts hlk hnm hP hK hD hS hA hm hl => ?_)
  have hown : s.vm.findClass RX12 = some m.cls := hown
  refine lv_iload_n hx hb dX12_isIn_0 rfl (lv_at hl 0 rfl) ?_
  refine lv_iload_n hx hb dX12_isIn_1 rfl (lv_at hl 1 rfl) ?_
  refine lv_icmp_lt (tgt := 14) hx hb dX12_isIn_2 (by decide) (fun c9 => absurd c9 (by decide +kernel)) (fun _ => ?_)
  refine lv_iload_n hx hb dX12_isIn_5 rfl (lv_at hl 0 rfl) ?_
  refine lv_iload_n hx hb dX12_isIn_6 rfl (lv_at hl 2 rfl) ?_
  refine lv_icmp_gt (tgt := 14) hx hb dX12_isIn_7 (by decide) (fun c9 => absurd c9 (by decide +kernel)) (fun _ => ?_)
  refine lv_iconst (v := nI 1) hx hb dX12_isIn_10 (by decide +kernel) ?_
  refine lv_goto (tgt := 15) hx hb dX12_isIn_11 (by decide) ?_
  exact e_z hx hb hr hlk hP hD hS (fun _ => 0) rfl (Nat.le_of_ble_eq_true rfl) (Nat.le_of_ble_eq_true rfl) rfl (Or.inr rfl) dX12_isIn_15
set_option maxHeartbeats 4000000 in
set_option maxRecDepth 100000 in
theorem C135_addressFor (l : Launch) (G : Nat → Nat) (D : va_G) (K : Nat → ClassId) (sz : Nat) (h0 : Nat) (v0 v1 v2 v3 v4 v5 v6 v7 v8 v9 v10 v11 v12 v13 v14 : Value) : CM l yX10_addressFor cX10_addressFor 3 (some FieldType.int) ({ frames := 0, cells := 0, slots := 0, locals := 0 } : Room) G D K [.ref h0, .int (nI 2)] [(h0, .inr (10, [v0, v1, v2, v3, v4, .int (nI 0), .int (nI 0), v5, v6, v7, v8, v9, v10, v11, v12, v13, v14]))] sz (CQi (nI 0) D (fun _ => [(h0, .inr (10, [v0, v1, v2, v3, v4, .int (nI 0), .int (nI 0), v5, v6, v7, v8, v9, v10, v11, v12, v13, v14]))])) := by
  refine CM_of (lv0 := [(0, .ref h0), (1, .int (nI 2))]) pn_RX10 (Nat.le_of_ble_eq_true rfl) rfl (fun p e s m args below meth c A ls hx hb hr hml hown hts hlk hnm hP hK hD hS hA hm hl => ?_)
  have hown : s.vm.findClass RX10 = some m.cls := hown
  refine lv_iconst (v := nI 2) hx hb dX10_addressFor_0 (by decide +kernel) ?_
  refine lv_iload_n hx hb dX10_addressFor_1 rfl (lv_at hl 1 rfl) ?_
  refine lv_iadd hx hb dX10_addressFor_2 ?_
  refine w_toeq (show (nI 2) + (nI 2) = nI 4 by decide +kernel) ?_
  refine lv_istore_n (lv' := [(2, .int (nI 4)), (0, .ref h0), (1, .int (nI 2))]) hx hb dX10_addressFor_3 rfl hl (by decide) rfl (fun ls hl => ?_)
  refine lv_iload_n hx hb dX10_addressFor_4 rfl (lv_at hl 2 rfl) ?_
  refine lv_bipush (v := nI 12) hx hb dX10_addressFor_5 (by decide +kernel) ?_
  refine lv_icmp_lt (tgt := 16) hx hb dX10_addressFor_7 (by decide) (fun _ => ?_) (fun c9 => absurd (by decide +kernel) c9)
  refine lv_aload_n hx hb dX10_addressFor_16 rfl (lv_at hl 1 rfl) ?_
  refine r_get hx hb hts ok_RX10 hown hK hP 0 rfl rfl 6 (by decide) w_1236 (fun _ h9 => h9) rfl dX10_addressFor_17 ?_
  refine lv_iload_n hx hb dX10_addressFor_20 rfl (lv_at hl 0 rfl) ?_
  refine lv_iadd hx hb dX10_addressFor_21 ?_
  refine w_toeq (show (nI 0) + (nI 4) = nI 4 by decide +kernel) ?_
  refine lv_bipush (v := nI 40) hx hb dX10_addressFor_22 (by decide +kernel) ?_
  refine lv_icmp_gt (tgt := 39) hx hb dX10_addressFor_24 (by decide) (fun c9 => absurd c9 (by decide +kernel)) (fun _ => ?_)
  refine lv_aload_n hx hb dX10_addressFor_27 rfl (lv_at hl 1 rfl) ?_
  refine r_get hx hb hts ok_RX10 hown hK hP 0 rfl rfl 5 (by decide) w_1234 (fun _ h9 => h9) rfl dX10_addressFor_28 ?_
  refine lv_aload_n hx hb dX10_addressFor_31 rfl (lv_at hl 1 rfl) ?_
  refine r_get hx hb hts ok_RX10 hown hK hP 0 rfl rfl 6 (by decide) w_1236 (fun _ h9 => h9) rfl dX10_addressFor_32 ?_
  refine lv_iadd hx hb dX10_addressFor_35 ?_
  refine w_toeq (show (nI 0) + (nI 0) = nI 0 by decide +kernel) ?_
  refine lv_goto (tgt := 40) hx hb dX10_addressFor_36 (by decide) ?_
  exact e_i hx hb hr hlk hP hD hS (fun _ => 0) rfl (Nat.le_of_ble_eq_true rfl) (Nat.le_of_ble_eq_true rfl) rfl dX10_addressFor_40
set_option maxHeartbeats 4000000 in
set_option maxRecDepth 100000 in
theorem C136_init (l : Launch) (G : Nat → Nat) (D : va_G) (K : Nat → ClassId) (sz : Nat) (h0 : Nat) (v0 v1 v2 v3 v4 v5 v6 v7 v8 v9 : Value) (o0 : Int32) : CM l yX11_init cX11_init 5 (none : Option FieldType) ({ frames := 1, cells := 1, slots := 2, locals := 20 } : Room) G D K [.ref h0, .int (nI 0), .int o0, .int (nI 2)] [(h0, .inr (11, [v0, .null, v1, v2, v3, v4, v5, v6, v7, v8, v9]))] sz (CQv D (fun u => [(h0, .inr (11, [.int (nI 0), .ref (u 0), .int o0, v2, v3, v4, .int (-1), v6, v7, v8, v9])), ((u 0), .inl (K 2, 2, .inl (fun _ => (-1))))])) := by
  refine CM_of (lv0 := [(0, .ref h0), (1, .int (nI 0)), (2, .int o0), (3, .int (nI 2))]) pn_RX11 (Nat.le_of_ble_eq_true rfl) rfl (fun p e s m args below meth c A ls hx hb hr hml hown hts hlk hnm hP hK hD hS hA hm hl => ?_)
  have hown : s.vm.findClass RX11 = some m.cls := hown
  refine lv_aload_n hx hb dX11_init_0 rfl (lv_at hl 0 rfl) ?_
  refine r_oinit hx hb hts hown w_1827 w_44 w_45 hml hl.1 dX11_init_1 (Nat.le_of_ble_eq_true rfl) (Nat.le_of_ble_eq_true rfl) ?_
  refine lv_aload_n hx hb dX11_init_4 rfl (lv_at hl 0 rfl) ?_
  refine lv_iconst (v := (-1)) hx hb dX11_init_5 (by decide +kernel) ?_
  refine r_put hx hb hts ok_RX11 hown hK hP hD hS 0 rfl rfl 6 (by decide) w_1846 (fun _ h9 => h9) rfl (v := .int (-1)) rfl rfl (Nat.le_of_ble_eq_true rfl) dX11_init_6 (ws' := [(h0, .inr (11, [v0, .null, v1, v2, v3, v4, .int (-1), v6, v7, v8, v9]))]) rfl (fun H locs hP hD hS => ?_)
  refine lv_aload_n hx hb dX11_init_9 rfl (lv_at hl 0 rfl) ?_
  refine lv_iload_n hx hb dX11_init_10 rfl (lv_at hl 1 rfl) ?_
  refine r_putF hx hb hts ok_RX11 hown hK hP hD hS 0 rfl rfl 0 (by decide) w_1828 (fun _ h9 => h9) rfl hnm rfl (v := .int (nI 0)) rfl rfl (Nat.le_of_ble_eq_true rfl) dX11_init_11 (ws' := [(h0, .inr (11, [.int (nI 0), .null, v1, v2, v3, v4, .int (-1), v6, v7, v8, v9]))]) rfl (fun H locs hP hD hS => ?_)
  refine lv_aload_n hx hb dX11_init_14 rfl (lv_at hl 0 rfl) ?_
  refine lv_iload_n hx hb dX11_init_15 rfl (lv_at hl 2 rfl) ?_
  refine r_put hx hb hts ok_RX11 hown hK hP hD hS 0 rfl rfl 2 (by decide) w_1834 (fun _ h9 => h9) rfl (v := .int o0) rfl rfl (Nat.le_of_ble_eq_true rfl) dX11_init_16 (ws' := [(h0, .inr (11, [.int (nI 0), .null, .int o0, v2, v3, v4, .int (-1), v6, v7, v8, v9]))]) rfl (fun H locs hP hD hS => ?_)
  refine lv_aload_n hx hb dX11_init_19 rfl (lv_at hl 0 rfl) ?_
  refine lv_iload_n hx hb dX11_init_20 rfl (lv_at hl 3 rfl) ?_
  refine r_newa (atype := .int) hx hb hts w_1292 rfl hK hP hD hS hA 2 rfl (N := 2) (a0 := (2, .inl (fun _ => nI 0))) (fun _ => rfl) (by decide +kernel) (by decide +kernel) (by decide) (Nat.le_of_ble_eq_true rfl) (Nat.le_of_ble_eq_true rfl) dX11_init_21 (w2 := fun q0 => [(h0, .inr (11, [.int (nI 0), .null, .int o0, v2, v3, v4, .int (-1), v6, v7, v8, v9])), (q0, .inl (K 2, 2, .inl (fun _ => nI 0)))]) (fun _ => rfl) (fun q0 H hP hD hS => ?_)
  refine r_putF hx hb hts ok_RX11 hown hK hP hD hS 0 rfl rfl 1 (by decide) w_1831 (fun _ h9 => h9) rfl hnm rfl (v := .ref q0) rfl rfl (Nat.le_of_ble_eq_true rfl) dX11_init_23 (ws' := [(h0, .inr (11, [.int (nI 0), .ref q0, .int o0, v2, v3, v4, .int (-1), v6, v7, v8, v9])), (q0, .inl (K 2, 2, .inl (fun _ => nI 0)))]) rfl (fun H locs hP hD hS => ?_)
  refine lv_iconst (v := nI 0) hx hb dX11_init_26 (by decide +kernel) ?_
  refine lv_istore (lv' := [(4, .int (nI 0)), (0, .ref h0), (1, .int (nI 0)), (2, .int o0), (3, .int (nI 2))]) hx hb dX11_init_27 hl (by decide) rfl (fun ls hl => ?_)
  refine lv_iload hx hb dX11_init_29 (lv_at hl 0 rfl) ?_
  refine lv_iload_n hx hb dX11_init_31 rfl (lv_at hl 4 rfl) ?_
  refine lv_icmp_ge (tgt := 49) hx hb dX11_init_32 (by decide) (fun c9 => absurd c9 (by decide +kernel)) (fun _ => ?_)
  refine lv_aload_n hx hb dX11_init_35 rfl (lv_at hl 1 rfl) ?_
  refine r_get hx hb hts ok_RX11 hown hK hP 0 rfl rfl 1 (by decide) w_1831 (fun _ h9 => h9) rfl dX11_init_36 ?_
  refine lv_iload hx hb dX11_init_39 (lv_at hl 0 rfl) ?_
  refine lv_iconst (v := (-1)) hx hb dX11_init_41 (by decide +kernel) ?_
  refine r_iast (k := 0) hx hb hK hP hD hS 1 2 rfl rfl (Nat.le_of_ble_eq_true rfl) (by decide) dX11_init_42 (ws' := [(h0, .inr (11, [.int (nI 0), .ref q0, .int o0, v2, v3, v4, .int (-1), v6, v7, v8, v9])), (q0, .inl (K 2, 2, .inl (upd (fun _ => nI 0) 0 (-1))))]) rfl (fun H locs hP hD hS => ?_)
  refine lv_iinc (v := nI 1) (lv' := [(4, .int (nI 1)), (0, .ref h0), (1, .int (nI 0)), (2, .int o0), (3, .int (nI 2))]) hx hb dX11_init_43 hl (k := 0) rfl (by decide +kernel) (by decide) rfl (fun ls hl => ?_)
  refine lv_goto (tgt := 29) hx hb dX11_init_46 (by decide) ?_
  refine lv_iload hx hb dX11_init_29 (lv_at hl 0 rfl) ?_
  refine lv_iload_n hx hb dX11_init_31 rfl (lv_at hl 4 rfl) ?_
  refine lv_icmp_ge (tgt := 49) hx hb dX11_init_32 (by decide) (fun c9 => absurd c9 (by decide +kernel)) (fun _ => ?_)
  refine lv_aload_n hx hb dX11_init_35 rfl (lv_at hl 1 rfl) ?_
  refine r_get hx hb hts ok_RX11 hown hK hP 0 rfl rfl 1 (by decide) w_1831 (fun _ h9 => h9) rfl dX11_init_36 ?_
  refine lv_iload hx hb dX11_init_39 (lv_at hl 0 rfl) ?_
  refine lv_iconst (v := (-1)) hx hb dX11_init_41 (by decide +kernel) ?_
  refine r_iast (k := 1) hx hb hK hP hD hS 1 2 rfl rfl (Nat.le_of_ble_eq_true rfl) (by decide) dX11_init_42 (ws' := [(h0, .inr (11, [.int (nI 0), .ref q0, .int o0, v2, v3, v4, .int (-1), v6, v7, v8, v9])), (q0, .inl (K 2, 2, .inl (upd (upd (fun _ => nI 0) 0 (-1)) 1 (-1))))]) rfl (fun H locs hP hD hS => ?_)
  obtain ⟨hP, hD⟩ := nrm (g := fun _ => (-1)) (ws' := [(h0, .inr (11, [.int (nI 0), .ref q0, .int o0, v2, v3, v4, .int (-1), v6, v7, v8, v9])), (q0, .inl (K 2, 2, .inl (fun _ => (-1))))]) hP hD 1 rfl (fun j hj => by rcases (show j = 0 ∨ j = 1 by omega) with rfl | rfl <;> rfl) rfl
  refine lv_iinc (v := nI 2) (lv' := [(4, .int (nI 2)), (0, .ref h0), (1, .int (nI 0)), (2, .int o0), (3, .int (nI 2))]) hx hb dX11_init_43 hl (k := 0) rfl (by decide +kernel) (by decide) rfl (fun ls hl => ?_)
  refine lv_goto (tgt := 29) hx hb dX11_init_46 (by decide) ?_
  refine lv_iload hx hb dX11_init_29 (lv_at hl 0 rfl) ?_
  refine lv_iload_n hx hb dX11_init_31 rfl (lv_at hl 4 rfl) ?_
  refine lv_icmp_ge (tgt := 49) hx hb dX11_init_32 (by decide) (fun _ => ?_) (fun c9 => absurd (by decide +kernel) c9)
  exact e_v hx hb hr hlk hP hD hS (fun k => match k with | 0 => q0 | _ => 0) rfl (Nat.le_of_ble_eq_true rfl) (Nat.le_of_ble_eq_true rfl) dX11_init_49
set_option maxHeartbeats 4000000 in
set_option maxRecDepth 100000 in
theorem C137_size (l : Launch) (G : Nat → Nat) (D : va_G) (K : Nat → ClassId) (sz : Nat) (h0 h1 : Nat) (v0 v1 v2 v3 v4 v5 v6 v7 v8 : Value) (f0 : Nat → Int32) : CM l yX11_size cX11_size 1 (some FieldType.int) ({ frames := 0, cells := 0, slots := 0, locals := 0 } : Room) G D K [.ref h0] [(h0, .inr (11, [v0, .ref h1, v1, v2, v3, v4, v5, v6, .int (nI 0), v7, v8])), (h1, .inl (K 2, 2, .inl f0))] sz (CQi (nI 4) D (fun _ => [(h0, .inr (11, [v0, .ref h1, v1, v2, v3, v4, v5, v6, .int (nI 0), v7, v8])), (h1, .inl (K 2, 2, .inl f0))])) := by
  refine CM_of (lv0 := [(0, .ref h0)]) pn_RX11 (Nat.le_of_ble_eq_true rfl) rfl (fun p e s m args below meth c A ls hx hb hr hml hown hts hlk hnm hP hK hD hS hA hm hl => ?_)
  have hown : s.vm.findClass RX11 = some m.cls := hown
  refine lv_iconst (v := nI 2) hx hb dX11_size_0 (by decide +kernel) ?_
  refine lv_aload_n hx hb dX11_size_1 rfl (lv_at hl 0 rfl) ?_
  refine r_get hx hb hts ok_RX11 hown hK hP 0 rfl rfl 1 (by decide) w_1831 (fun _ h9 => h9) rfl dX11_size_2 ?_
  refine r_alen (n := 2) hx hb hK hP 1 2 rfl rfl rfl dX11_size_5 ?_
  refine lv_iadd hx hb dX11_size_6 ?_
  refine w_toeq (show (nI 2) + (nI 2) = nI 4 by decide +kernel) ?_
  refine lv_aload_n hx hb dX11_size_7 rfl (lv_at hl 0 rfl) ?_
  refine r_get hx hb hts ok_RX11 hown hK hP 0 rfl rfl 8 (by decide) w_1851 (fun _ h9 => h9) rfl dX11_size_8 ?_
  refine lv_if_eq (tgt := 18) hx hb dX11_size_11 (by decide) (fun _ => ?_) (fun c9 => absurd (by decide +kernel) c9)
  refine lv_iconst (v := nI 0) hx hb dX11_size_18 (by decide +kernel) ?_
  refine lv_iadd hx hb dX11_size_19 ?_
  refine w_toeq (show (nI 4) + (nI 0) = nI 4 by decide +kernel) ?_
  exact e_i hx hb hr hlk hP hD hS (fun _ => 0) rfl (Nat.le_of_ble_eq_true rfl) (Nat.le_of_ble_eq_true rfl) rfl dX11_size_20
set_option maxHeartbeats 4000000 in
set_option maxRecDepth 100000 in
theorem C138_make (l : Launch) (G : Nat → Nat) (D : va_G) (K : Nat → ClassId) (sz : Nat) (h0 h1 : Nat) (v0 v1 v2 v3 v4 v5 v6 v7 v8 v9 v10 v11 v12 v13 : Value) (o0 : Int32) : CM l yX10_make cX10_make 6 (some FieldType.int) ({ frames := 5, cells := 3, slots := 23, locals := 108 } : Room) G D K [.ref h0, .int o0, .int (nI 2)] [(h0, .inr (10, [.ref h1, v0, v1, v2, v3, .int (nI 0), .int (nI 0), v4, v5, v6, v7, v8, v9, v10, v11, v12, v13])), (h1, .inr (13, [.int (nI 0), .ref (G 0), .int (nI 0)]))] sz (CQi (nI 0) D (fun u => [(h0, .inr (10, [.ref h1, v0, v1, v2, v3, .int (nI 0), .int (nI 4), v4, v5, v6, v7, v8, v9, v10, v11, v12, v13])), (h1, .inr (13, [.int (nI 1), .ref (u 2), .int (nI 1)])), ((u 2), .inl (K 4, 10, .inr (.inr (.inr (.inr (va_up (fun _ => none) 0 (some (u 0)))))))), ((u 0), .inr (11, [.int (nI 0), .ref (u 1), .int o0, .int (nI 1), .int (nI 0), .int (nI 0), .int (-1), .int (nI 2), .int (nI 0), .int (nI 0), .int (nI 0)])), ((u 1), .inl (K 2, 2, .inl (fun _ => (-1))))])) := by
  refine CM_of (lv0 := [(0, .ref h0), (1, .int o0), (2, .int (nI 2))]) pn_RX10 (Nat.le_of_ble_eq_true rfl) rfl (fun p e s m args below meth c A ls hx hb hr hml hown hts hlk hnm hP hK hD hS hA hm hl => ?_)
  have hown : s.vm.findClass RX10 = some m.cls := hown
  refine lv_iload_n hx hb dX10_make_0 rfl (lv_at hl 2 rfl) ?_
  refine lv_bipush (v := nI 12) hx hb dX10_make_1 (by decide +kernel) ?_
  refine lv_icmp_lt (tgt := 10) hx hb dX10_make_3 (by decide) (fun _ => ?_) (fun c9 => absurd (by decide +kernel) c9)
  refine lv_iconst (v := nI 0) hx hb dX10_make_10 (by decide +kernel) ?_
  refine lv_istore_n (lv' := [(3, .int (nI 0)), (0, .ref h0), (1, .int o0), (2, .int (nI 2))]) hx hb dX10_make_11 rfl hl (by decide) rfl (fun ls hl => ?_)
  refine lv_aload_n hx hb dX10_make_12 rfl (lv_at hl 1 rfl) ?_
  refine lv_iload_n hx hb dX10_make_13 rfl (lv_at hl 3 rfl) ?_
  refine k_i (wr := [(h1, .inr (13, [.int (nI 0), .ref (G 0), .int (nI 0)]))]) (run_V (rest := []) hx hb hml hown hts hK hP hD hS hA hm (C135_addressFor l G D K s.heap.size h0 (.ref h1) (v0) (v1) (v2) (v3) (v4) (v5) (v6) (v7) (v8) (v9) (v10) (v11) (v12) (v13)) [0] rfl rfl mok_yX10_addressFor w_1359 w_1360 w_1361 (rcv hK hP 0 rfl rfl rfl) ⟨Nat.le_of_ble_eq_true rfl, Nat.le_of_ble_eq_true rfl⟩ rfl hl.1 rfl (Nat.le_of_ble_eq_true rfl) dX10_make_14 ⟨(Nat.le_of_ble_eq_true rfl), (Nat.le_of_ble_eq_true rfl)⟩) hP hD hS hA [0] [1] rfl rfl rfl (by decide) (w2 := fun u0 => [(h1, .inr (13, [.int (nI 0), .ref (G 0), .int (nI 0)])), (h0, .inr (10, [.ref h1, v0, v1, v2, v3, .int (nI 0), .int (nI 0), v4, v5, v6, v7, v8, v9, v10, v11, v12, v13]))]) (fun _ => rfl) (fun u0 H locs hP hD hS => ?_)
  refine lv_iconst (v := (-1)) hx hb dX10_make_17 (by decide +kernel) ?_
  refine lv_icmp_ne (tgt := 30) hx hb dX10_make_18 (by decide) (fun _ => ?_) (fun c9 => absurd c9 (by decide +kernel))
  refine lv_aload_n hx hb dX10_make_30 rfl (lv_at hl 1 rfl) ?_
  refine lv_iload_n hx hb dX10_make_31 rfl (lv_at hl 3 rfl) ?_
  refine k_i (wr := [(h1, .inr (13, [.int (nI 0), .ref (G 0), .int (nI 0)]))]) (run_V (rest := []) hx hb hml hown hts hK hP hD hS hA hm (C135_addressFor l G D K H.size h0 (.ref h1) (v0) (v1) (v2) (v3) (v4) (v5) (v6) (v7) (v8) (v9) (v10) (v11) (v12) (v13)) [1] rfl rfl mok_yX10_addressFor w_1359 w_1360 w_1361 (rcv hK hP 1 rfl rfl rfl) ⟨Nat.le_of_ble_eq_true rfl, Nat.le_of_ble_eq_true rfl⟩ rfl hl.1 rfl (Nat.le_of_ble_eq_true rfl) dX10_make_32 ⟨(Nat.le_of_ble_eq_true rfl), (Nat.le_of_ble_eq_true rfl)⟩) hP hD hS hA [1] [0] rfl rfl rfl (by decide) (w2 := fun u1 => [(h1, .inr (13, [.int (nI 0), .ref (G 0), .int (nI 0)])), (h0, .inr (10, [.ref h1, v0, v1, v2, v3, .int (nI 0), .int (nI 0), v4, v5, v6, v7, v8, v9, v10, v11, v12, v13]))]) (fun _ => rfl) (fun u1 H locs hP hD hS => ?_)
  refine lv_iconst (v := (-1)) hx hb dX10_make_35 (by decide +kernel) ?_
  refine lv_icmp_ne (tgt := 45) hx hb dX10_make_36 (by decide) (fun _ => ?_) (fun c9 => absurd c9 (by decide +kernel))
  refine lv_aload_n hx hb dX10_make_45 rfl (lv_at hl 1 rfl) ?_
  refine lv_iload_n hx hb dX10_make_46 rfl (lv_at hl 3 rfl) ?_
  refine k_i (wr := [(h1, .inr (13, [.int (nI 0), .ref (G 0), .int (nI 0)]))]) (run_V (rest := []) hx hb hml hown hts hK hP hD hS hA hm (C135_addressFor l G D K H.size h0 (.ref h1) (v0) (v1) (v2) (v3) (v4) (v5) (v6) (v7) (v8) (v9) (v10) (v11) (v12) (v13)) [1] rfl rfl mok_yX10_addressFor w_1359 w_1360 w_1361 (rcv hK hP 1 rfl rfl rfl) ⟨Nat.le_of_ble_eq_true rfl, Nat.le_of_ble_eq_true rfl⟩ rfl hl.1 rfl (Nat.le_of_ble_eq_true rfl) dX10_make_47 ⟨(Nat.le_of_ble_eq_true rfl), (Nat.le_of_ble_eq_true rfl)⟩) hP hD hS hA [1] [0] rfl rfl rfl (by decide) (w2 := fun u2 => [(h1, .inr (13, [.int (nI 0), .ref (G 0), .int (nI 0)])), (h0, .inr (10, [.ref h1, v0, v1, v2, v3, .int (nI 0), .int (nI 0), v4, v5, v6, v7, v8, v9, v10, v11, v12, v13]))]) (fun _ => rfl) (fun u2 H locs hP hD hS => ?_)
  refine lv_iconst (v := (-1)) hx hb dX10_make_50 (by decide +kernel) ?_
  refine lv_icmp_ne (tgt := 60) hx hb dX10_make_51 (by decide) (fun _ => ?_) (fun c9 => absurd c9 (by decide +kernel))
  refine lv_aload_n hx hb dX10_make_60 rfl (lv_at hl 1 rfl) ?_
  refine lv_iload_n hx hb dX10_make_61 rfl (lv_at hl 3 rfl) ?_
  refine k_i (wr := [(h1, .inr (13, [.int (nI 0), .ref (G 0), .int (nI 0)]))]) (run_V (rest := []) hx hb hml hown hts hK hP hD hS hA hm (C135_addressFor l G D K H.size h0 (.ref h1) (v0) (v1) (v2) (v3) (v4) (v5) (v6) (v7) (v8) (v9) (v10) (v11) (v12) (v13)) [1] rfl rfl mok_yX10_addressFor w_1359 w_1360 w_1361 (rcv hK hP 1 rfl rfl rfl) ⟨Nat.le_of_ble_eq_true rfl, Nat.le_of_ble_eq_true rfl⟩ rfl hl.1 rfl (Nat.le_of_ble_eq_true rfl) dX10_make_62 ⟨(Nat.le_of_ble_eq_true rfl), (Nat.le_of_ble_eq_true rfl)⟩) hP hD hS hA [1] [0] rfl rfl rfl (by decide) (w2 := fun u3 => [(h1, .inr (13, [.int (nI 0), .ref (G 0), .int (nI 0)])), (h0, .inr (10, [.ref h1, v0, v1, v2, v3, .int (nI 0), .int (nI 0), v4, v5, v6, v7, v8, v9, v10, v11, v12, v13]))]) (fun _ => rfl) (fun u3 H locs hP hD hS => ?_)
  refine lv_istore (lv' := [(4, .int (nI 0)), (3, .int (nI 0)), (0, .ref h0), (1, .int o0), (2, .int (nI 2))]) hx hb dX10_make_65 hl (by decide) rfl (fun ls hl => ?_)
  refine lv_iload hx hb dX10_make_67 (lv_at hl 0 rfl) ?_
  refine lv_iconst (v := (-1)) hx hb dX10_make_69 (by decide +kernel) ?_
  refine lv_icmp_ne (tgt := 75) hx hb dX10_make_70 (by decide) (fun _ => ?_) (fun c9 => absurd c9 (by decide +kernel))
  refine r_new (ci := 11) (C := RX11) (T := TX11) (N := 11) hx hb hts ok_RX11 hown w_1417 w_1823 w_37 hK hP hD hS hA rfl df_RX11 (Nat.le_of_ble_eq_true rfl) (Nat.le_of_ble_eq_true rfl) dX10_make_75 (w2 := fun q0 => [(h1, .inr (13, [.int (nI 0), .ref (G 0), .int (nI 0)])), (h0, .inr (10, [.ref h1, v0, v1, v2, v3, .int (nI 0), .int (nI 0), v4, v5, v6, v7, v8, v9, v10, v11, v12, v13])), (q0, .inr (11, [.int (nI 0), .null, .int (nI 0), .int (nI 0), .int (nI 0), .int (nI 0), .int (nI 0), .int (nI 0), .int (nI 0), .int (nI 0), .int (nI 0)]))]) (fun _ => rfl) (fun q0 H hP hD hS => ?_)
  refine lv_dup hx hb dX10_make_78 rfl ?_
  refine lv_aload_n hx hb dX10_make_79 rfl (lv_at hl 2 rfl) ?_
  refine r_get hx hb hts ok_RX10 hown hK hP 1 rfl rfl 0 (by decide) w_1224 (fun _ h9 => h9) rfl dX10_make_80 ?_
  refine k_i (wr := [(h0, .inr (10, [.ref h1, v0, v1, v2, v3, .int (nI 0), .int (nI 0), v4, v5, v6, v7, v8, v9, v10, v11, v12, v13])), (q0, .inr (11, [.int (nI 0), .null, .int (nI 0), .int (nI 0), .int (nI 0), .int (nI 0), .int (nI 0), .int (nI 0), .int (nI 0), .int (nI 0), .int (nI 0)]))]) (run_V (rest := [.ref q0, .ref q0]) hx hb hml hown hts hK hP hD hS hA hm (C102_size l G D K H.size h1 (.int (nI 0)) (.ref (G 0))) [0] rfl rfl mok_yJx4a65c_size_8abf5 w_1418 w_1309 w_1310 (rcv hK hP 0 rfl rfl rfl) ⟨Nat.le_of_ble_eq_true rfl, Nat.le_of_ble_eq_true rfl⟩ rfl hl.1 rfl (Nat.le_of_ble_eq_true rfl) dX10_make_83 ⟨(Nat.le_of_ble_eq_true rfl), (Nat.le_of_ble_eq_true rfl)⟩) hP hD hS hA [0] [1, 2] rfl rfl rfl (by decide) (w2 := fun u4 => [(h0, .inr (10, [.ref h1, v0, v1, v2, v3, .int (nI 0), .int (nI 0), v4, v5, v6, v7, v8, v9, v10, v11, v12, v13])), (q0, .inr (11, [.int (nI 0), .null, .int (nI 0), .int (nI 0), .int (nI 0), .int (nI 0), .int (nI 0), .int (nI 0), .int (nI 0), .int (nI 0), .int (nI 0)])), (h1, .inr (13, [.int (nI 0), .ref (G 0), .int (nI 0)]))]) (fun _ => rfl) (fun u4 H locs hP hD hS => ?_)
  refine lv_iload_n hx hb dX10_make_86 rfl (lv_at hl 3 rfl) ?_
  refine lv_iload_n hx hb dX10_make_87 rfl (lv_at hl 4 rfl) ?_
  refine k_v (wr := [(h0, .inr (10, [.ref h1, v0, v1, v2, v3, .int (nI 0), .int (nI 0), v4, v5, v6, v7, v8, v9, v10, v11, v12, v13])), (h1, .inr (13, [.int (nI 0), .ref (G 0), .int (nI 0)]))]) (run_I (rest := [.ref q0]) hx hb hml hown hts hK hP hD hS hA hm (C136_init l G D K H.size q0 (.int (nI 0)) (.int (nI 0)) (.int (nI 0)) (.int (nI 0)) (.int (nI 0)) (.int (nI 0)) (.int (nI 0)) (.int (nI 0)) (.int (nI 0)) (.int (nI 0)) o0) [1] rfl rfl mok_yX11_init w_1824 w_1825 rfl ⟨Nat.le_of_ble_eq_true rfl, Nat.le_of_ble_eq_true rfl⟩ rfl hl.1 rfl (Nat.le_of_ble_eq_true rfl) dX10_make_88 ⟨(Nat.le_of_ble_eq_true rfl), (Nat.le_of_ble_eq_true rfl)⟩) hP hD hS hA [1] [0, 2] rfl rfl rfl (by decide) (w2 := fun u5 => [(h0, .inr (10, [.ref h1, v0, v1, v2, v3, .int (nI 0), .int (nI 0), v4, v5, v6, v7, v8, v9, v10, v11, v12, v13])), (h1, .inr (13, [.int (nI 0), .ref (G 0), .int (nI 0)])), (q0, .inr (11, [.int (nI 0), .ref (u5 0), .int o0, .int (nI 0), .int (nI 0), .int (nI 0), .int (-1), .int (nI 0), .int (nI 0), .int (nI 0), .int (nI 0)])), ((u5 0), .inl (K 2, 2, .inl (fun _ => (-1))))]) (fun _ => rfl) (fun u5 H locs hP hD hS => ?_)
  refine lv_astore (lv' := [(5, .ref q0), (4, .int (nI 0)), (3, .int (nI 0)), (0, .ref h0), (1, .int o0), (2, .int (nI 2))]) hx hb dX10_make_91 hl (by decide) rfl (fun ls hl => ?_)
  refine lv_aload hx hb dX10_make_93 (lv_at hl 0 rfl) ?_
  refine lv_iload_n hx hb dX10_make_95 rfl (lv_at hl 2 rfl) ?_
  refine lv_if_eq (tgt := 103) hx hb dX10_make_96 (by decide) (fun _ => ?_) (fun c9 => absurd (by decide +kernel) c9)
  refine lv_iconst (v := nI 1) hx hb dX10_make_103 (by decide +kernel) ?_
  refine r_put hx hb hts ok_RX11 hown hK hP hD hS 2 rfl rfl 3 (by decide) w_1838 (fun _ h9 => h9) rfl (v := .int (nI 1)) rfl rfl (Nat.le_of_ble_eq_true rfl) dX10_make_104 (ws' := [(h0, .inr (10, [.ref h1, v0, v1, v2, v3, .int (nI 0), .int (nI 0), v4, v5, v6, v7, v8, v9, v10, v11, v12, v13])), (h1, .inr (13, [.int (nI 0), .ref (G 0), .int (nI 0)])), (q0, .inr (11, [.int (nI 0), .ref (u5 0), .int o0, .int (nI 1), .int (nI 0), .int (nI 0), .int (-1), .int (nI 0), .int (nI 0), .int (nI 0), .int (nI 0)])), ((u5 0), .inl (K 2, 2, .inl (fun _ => (-1))))]) rfl (fun H locs hP hD hS => ?_)
  refine lv_aload hx hb dX10_make_107 (lv_at hl 0 rfl) ?_
  refine lv_iload hx hb dX10_make_109 (lv_at hl 1 rfl) ?_
  refine r_put hx hb hts ok_RX11 hown hK hP hD hS 2 rfl rfl 4 (by decide) w_1841 (fun _ h9 => h9) rfl (v := .int (nI 0)) rfl rfl (Nat.le_of_ble_eq_true rfl) dX10_make_111 (ws' := [(h0, .inr (10, [.ref h1, v0, v1, v2, v3, .int (nI 0), .int (nI 0), v4, v5, v6, v7, v8, v9, v10, v11, v12, v13])), (h1, .inr (13, [.int (nI 0), .ref (G 0), .int (nI 0)])), (q0, .inr (11, [.int (nI 0), .ref (u5 0), .int o0, .int (nI 1), .int (nI 0), .int (nI 0), .int (-1), .int (nI 0), .int (nI 0), .int (nI 0), .int (nI 0)])), ((u5 0), .inl (K 2, 2, .inl (fun _ => (-1))))]) rfl (fun H locs hP hD hS => ?_)
  refine lv_aload hx hb dX10_make_114 (lv_at hl 0 rfl) ?_
  refine lv_iconst (v := nI 2) hx hb dX10_make_116 (by decide +kernel) ?_
  refine r_put hx hb hts ok_RX11 hown hK hP hD hS 2 rfl rfl 7 (by decide) w_1849 (fun _ h9 => h9) rfl (v := .int (nI 2)) rfl rfl (Nat.le_of_ble_eq_true rfl) dX10_make_117 (ws' := [(h0, .inr (10, [.ref h1, v0, v1, v2, v3, .int (nI 0), .int (nI 0), v4, v5, v6, v7, v8, v9, v10, v11, v12, v13])), (h1, .inr (13, [.int (nI 0), .ref (G 0), .int (nI 0)])), (q0, .inr (11, [.int (nI 0), .ref (u5 0), .int o0, .int (nI 1), .int (nI 0), .int (nI 0), .int (-1), .int (nI 2), .int (nI 0), .int (nI 0), .int (nI 0)])), ((u5 0), .inl (K 2, 2, .inl (fun _ => (-1))))]) rfl (fun H locs hP hD hS => ?_)
  refine lv_aload_n hx hb dX10_make_120 rfl (lv_at hl 3 rfl) ?_
  refine r_get hx hb hts ok_RX10 hown hK hP 0 rfl rfl 0 (by decide) w_1224 (fun _ h9 => h9) rfl dX10_make_121 ?_
  refine lv_aload hx hb dX10_make_124 (lv_at hl 0 rfl) ?_
  refine k_i (wr := [(h0, .inr (10, [.ref h1, v0, v1, v2, v3, .int (nI 0), .int (nI 0), v4, v5, v6, v7, v8, v9, v10, v11, v12, v13])), ((u5 0), .inl (K 2, 2, .inl (fun _ => (-1))))]) (run_V (rest := []) hx hb hml hown hts hK hP hD hS hA hm (C107_add l G D K H.size h1 q0 (.int (nI 0)) (.ref (u5 0)) (.int o0) (.int (nI 1)) (.int (nI 0)) (.int (nI 0)) (.int (-1)) (.int (nI 2)) (.int (nI 0)) (.int (nI 0)) (.int (nI 0))) [1, 2] rfl rfl mok_yJx4a65c_add_9ea2d w_1160 w_1161 w_1162 (rcv hK hP 1 rfl rfl rfl) ⟨Nat.le_of_ble_eq_true rfl, Nat.le_of_ble_eq_true rfl⟩ rfl hl.1 rfl (Nat.le_of_ble_eq_true rfl) dX10_make_126 ⟨(Nat.le_of_ble_eq_true rfl), (Nat.le_of_ble_eq_true rfl)⟩) hP hD hS hA [1, 2] [0, 3] rfl rfl rfl (by decide) (w2 := fun u6 => [(h0, .inr (10, [.ref h1, v0, v1, v2, v3, .int (nI 0), .int (nI 0), v4, v5, v6, v7, v8, v9, v10, v11, v12, v13])), ((u5 0), .inl (K 2, 2, .inl (fun _ => (-1)))), (q0, .inr (11, [.int (nI 0), .ref (u5 0), .int o0, .int (nI 1), .int (nI 0), .int (nI 0), .int (-1), .int (nI 2), .int (nI 0), .int (nI 0), .int (nI 0)])), (h1, .inr (13, [.int (nI 1), .ref (u6 0), .int (nI 1)])), ((u6 0), .inl (K 4, 10, .inr (.inr (.inr (.inr (va_up (fun _ => none) 0 (some q0)))))))]) (fun _ => rfl) (fun u6 H locs hP hD hS => ?_)
  refine lv_pop hx hb dX10_make_129 rfl ?_
  refine lv_iload_n hx hb dX10_make_130 rfl (lv_at hl 2 rfl) ?_
  refine lv_if_ne (tgt := 148) hx hb dX10_make_131 (by decide) (fun c9 => absurd (by decide +kernel) c9) (fun _ => ?_)
  refine lv_aload_n hx hb dX10_make_134 rfl (lv_at hl 3 rfl) ?_
  refine lv_dup hx hb dX10_make_135 rfl ?_
  refine r_get hx hb hts ok_RX10 hown hK hP 0 rfl rfl 6 (by decide) w_1236 (fun _ h9 => h9) rfl dX10_make_136 ?_
  refine lv_aload hx hb dX10_make_139 (lv_at hl 0 rfl) ?_
  refine k_i (wr := [(h0, .inr (10, [.ref h1, v0, v1, v2, v3, .int (nI 0), .int (nI 0), v4, v5, v6, v7, v8, v9, v10, v11, v12, v13])), (h1, .inr (13, [.int (nI 1), .ref (u6 0), .int (nI 1)])), ((u6 0), .inl (K 4, 10, .inr (.inr (.inr (.inr (va_up (fun _ => none) 0 (some q0)))))))]) (run_V (rest := [.int (nI 0), .ref h0]) hx hb hml hown hts hK hP hD hS hA hm (C137_size l G D K H.size q0 (u5 0) (.int (nI 0)) (.int o0) (.int (nI 1)) (.int (nI 0)) (.int (nI 0)) (.int (-1)) (.int (nI 2)) (.int (nI 0)) (.int (nI 0)) (fun _ => (-1))) [2, 1] rfl rfl mok_yX11_size w_1780 w_1677 w_1678 (rcv hK hP 2 rfl rfl rfl) ⟨Nat.le_of_ble_eq_true rfl, Nat.le_of_ble_eq_true rfl⟩ rfl hl.1 rfl (Nat.le_of_ble_eq_true rfl) dX10_make_141 ⟨(Nat.le_of_ble_eq_true rfl), (Nat.le_of_ble_eq_true rfl)⟩) hP hD hS hA [2, 1] [0, 3, 4] rfl rfl rfl (by decide) (w2 := fun u7 => [(h0, .inr (10, [.ref h1, v0, v1, v2, v3, .int (nI 0), .int (nI 0), v4, v5, v6, v7, v8, v9, v10, v11, v12, v13])), (h1, .inr (13, [.int (nI 1), .ref (u6 0), .int (nI 1)])), ((u6 0), .inl (K 4, 10, .inr (.inr (.inr (.inr (va_up (fun _ => none) 0 (some q0))))))), (q0, .inr (11, [.int (nI 0), .ref (u5 0), .int o0, .int (nI 1), .int (nI 0), .int (nI 0), .int (-1), .int (nI 2), .int (nI 0), .int (nI 0), .int (nI 0)])), ((u5 0), .inl (K 2, 2, .inl (fun _ => (-1))))]) (fun _ => rfl) (fun u7 H locs hP hD hS => ?_)
  refine lv_iadd hx hb dX10_make_144 ?_
  refine w_toeq (show (nI 0) + (nI 4) = nI 4 by decide +kernel) ?_
  refine r_put hx hb hts ok_RX10 hown hK hP hD hS 0 rfl rfl 6 (by decide) w_1236 (fun _ h9 => h9) rfl (v := .int (nI 4)) rfl rfl (Nat.le_of_ble_eq_true rfl) dX10_make_145 (ws' := [(h0, .inr (10, [.ref h1, v0, v1, v2, v3, .int (nI 0), .int (nI 4), v4, v5, v6, v7, v8, v9, v10, v11, v12, v13])), (h1, .inr (13, [.int (nI 1), .ref (u6 0), .int (nI 1)])), ((u6 0), .inl (K 4, 10, .inr (.inr (.inr (.inr (va_up (fun _ => none) 0 (some q0))))))), (q0, .inr (11, [.int (nI 0), .ref (u5 0), .int o0, .int (nI 1), .int (nI 0), .int (nI 0), .int (-1), .int (nI 2), .int (nI 0), .int (nI 0), .int (nI 0)])), ((u5 0), .inl (K 2, 2, .inl (fun _ => (-1))))]) rfl (fun H locs hP hD hS => ?_)
  refine lv_aload hx hb dX10_make_148 (lv_at hl 0 rfl) ?_
  refine r_get hx hb hts ok_RX11 hown hK hP 3 rfl rfl 0 (by decide) w_1829 (fun _ h9 => h9) rfl dX10_make_150 ?_
  exact e_i hx hb hr hlk hP hD hS (fun k => match k with | 0 => q0 | 1 => (u5 0) | 2 => (u6 0) | _ => 0) rfl (Nat.le_of_ble_eq_true rfl) (Nat.le_of_ble_eq_true rfl) rfl dX10_make_153
set_option maxHeartbeats 4000000 in
set_option maxRecDepth 100000 in
theorem C139_make (l : Launch) (G : Nat → Nat) (D : va_G) (K : Nat → ClassId) (sz : Nat) (h0 h1 h2 h3 h4 h5 : Nat) (v0 v1 v2 v3 v4 v5 v6 v7 v8 v9 v10 v11 v12 v13 : Value) (f0 : Nat → Int32) (j0 : Nat) (lj0 : 0 ≤ j0) (gj0 : j0 ≤ 3) : CM l yX12_make cX12_make 6 (some FieldType.int) ({ frames := 6, cells := 3, slots := 23, locals := 133 } : Room) G D K [.ref h0, .int (nI j0), .int (nI 0), .int (nI 2)] [(h0, .inr (12, [.int (nI 0), .ref h1])), (h1, .inr (10, [.ref h2, .ref h3, v0, v1, v2, .int (nI 0), .int (nI 0), v3, v4, v5, v6, v7, v8, v9, v10, v11, v12])), (h2, .inr (13, [.int (nI 0), .ref (G 0), .int (nI 0)])), (h3, .inr (13, [v13, .ref h4, .int (nI 1)])), (h4, .inl (K 4, 10, .inr (.inr (.inr (.inr (va_up (fun _ => none) 0 (some h5))))))), (h5, .inl (K 2, 4, .inl f0))] sz (CQi (nI 0) D (fun u => [(h2, .inr (13, [.int (nI 1), .ref (u 2), .int (nI 1)])), ((u 2), .inl (K 4, 10, .inr (.inr (.inr (.inr (va_up (fun _ => none) 0 (some (u 0)))))))), ((u 0), .inr (11, [.int (nI 0), .ref (u 1), .int (nI 0), .int (nI 1), .int (nI 0), .int (nI 0), .int (-1), .int (nI 2), .int (nI 0), .int (nI 0), .int (nI 0)])), ((u 1), .inl (K 2, 2, .inl (fun _ => (-1)))), (h0, .inr (12, [.int (nI 0), .ref h1])), (h1, .inr (10, [.ref h2, .ref h3, v0, v1, v2, .int (nI 0), .int (nI 4), v3, v4, v5, v6, v7, v8, v9, v10, v11, v12])), (h5, .inl (K 2, 4, .inl (upd f0 j0 (nI 0)))), (h3, .inr (13, [v13, .ref h4, .int (nI 1)])), (h4, .inl (K 4, 10, .inr (.inr (.inr (.inr (va_up (fun _ => none) 0 (some h5)))))))])) := by
  refine CM_of (lv0 := [(0, .ref h0), (1, .int (nI j0)), (2, .int (nI 0)), (3, .int (nI 2))]) pn_RX12 (Nat.le_of_ble_eq_true rfl) rfl (fun p e s m args below meth c A ls hx hb hr hml hown hts hlk hnm hP hK hD hS hA hm hl => ?_)
  have hown : s.vm.findClass RX12 = some m.cls := hown
  refine lv_iload_n hx hb dX12_make_0 rfl (lv_at hl 2 rfl) ?_
  refine lv_iconst (v := nI 3) hx hb dX12_make_1 (by decide +kernel) ?_
  refine lv_icmp_ne (tgt := 9) hx hb dX12_make_2 (by decide) (fun _ => ?_) (fun c9 => absurd c9 (by decide +kernel))
  refine lv_iload_n hx hb dX12_make_9 rfl (lv_at hl 2 rfl) ?_
  refine lv_iconst (v := nI 1) hx hb dX12_make_10 (by decide +kernel) ?_
  refine lv_icmp_eq (tgt := 19) hx hb dX12_make_11 (by decide) (fun c9 => absurd c9 (by decide +kernel)) (fun _ => ?_)
  refine lv_iload_n hx hb dX12_make_14 rfl (lv_at hl 2 rfl) ?_
  refine lv_iconst (v := nI 2) hx hb dX12_make_15 (by decide +kernel) ?_
  refine lv_icmp_ne (tgt := 23) hx hb dX12_make_16 (by decide) (fun _ => ?_) (fun c9 => absurd c9 (by decide +kernel))
  refine lv_iconst (v := nI 0) hx hb dX12_make_23 (by decide +kernel) ?_
  refine lv_istore (lv' := [(4, .int (nI 0)), (0, .ref h0), (1, .int (nI j0)), (2, .int (nI 0)), (3, .int (nI 2))]) hx hb dX12_make_24 hl (by decide) rfl (fun ls hl => ?_)
  refine lv_aload_n hx hb dX12_make_26 rfl (lv_at hl 1 rfl) ?_
  refine lv_iload_n hx hb dX12_make_27 rfl (lv_at hl 2 rfl) ?_
  refine k_i (wr := [(h1, .inr (10, [.ref h2, .ref h3, v0, v1, v2, .int (nI 0), .int (nI 0), v3, v4, v5, v6, v7, v8, v9, v10, v11, v12])), (h2, .inr (13, [.int (nI 0), .ref (G 0), .int (nI 0)])), (h3, .inr (13, [v13, .ref h4, .int (nI 1)])), (h4, .inl (K 4, 10, .inr (.inr (.inr (.inr (va_up (fun _ => none) 0 (some h5))))))), (h5, .inl (K 2, 4, .inl f0))]) (run_V (rest := []) hx hb hml hown hts hK hP hD hS hA hm (C74_isNoSlot l G D K s.heap.size h0 (.ref h1) j0 (by omega) (by omega)) [0] rfl rfl mok_yX12_isNoSlot w_1345 w_1347 w_p33 (rcv hK hP 0 rfl rfl rfl) ⟨Nat.le_of_ble_eq_true rfl, Nat.le_of_ble_eq_true rfl⟩ rfl hl.1 rfl (Nat.le_of_ble_eq_true rfl) dX12_make_28 ⟨(Nat.le_of_ble_eq_true rfl), (Nat.le_of_ble_eq_true rfl)⟩) hP hD hS hA [0] [1, 2, 3, 4, 5] rfl rfl rfl (by decide) (w2 := fun u0 => [(h1, .inr (10, [.ref h2, .ref h3, v0, v1, v2, .int (nI 0), .int (nI 0), v3, v4, v5, v6, v7, v8, v9, v10, v11, v12])), (h2, .inr (13, [.int (nI 0), .ref (G 0), .int (nI 0)])), (h3, .inr (13, [v13, .ref h4, .int (nI 1)])), (h4, .inl (K 4, 10, .inr (.inr (.inr (.inr (va_up (fun _ => none) 0 (some h5))))))), (h5, .inl (K 2, 4, .inl f0)), (h0, .inr (12, [.int (nI 0), .ref h1]))]) (fun _ => rfl) (fun u0 H locs hP hD hS => ?_)
  refine lv_if_ne (tgt := 96) hx hb dX12_make_31 (by decide) (fun c9 => absurd (by decide +kernel) c9) (fun _ => ?_)
  refine lv_aload_n hx hb dX12_make_34 rfl (lv_at hl 1 rfl) ?_
  refine lv_iload_n hx hb dX12_make_35 rfl (lv_at hl 3 rfl) ?_
  refine lv_iconst (v := nI 0) hx hb dX12_make_36 (by decide +kernel) ?_
  refine lv_iconst (v := nI 4) hx hb dX12_make_37 (by decide +kernel) ?_
  refine k_i (wr := [(h1, .inr (10, [.ref h2, .ref h3, v0, v1, v2, .int (nI 0), .int (nI 0), v3, v4, v5, v6, v7, v8, v9, v10, v11, v12])), (h2, .inr (13, [.int (nI 0), .ref (G 0), .int (nI 0)])), (h3, .inr (13, [v13, .ref h4, .int (nI 1)])), (h4, .inl (K 4, 10, .inr (.inr (.inr (.inr (va_up (fun _ => none) 0 (some h5))))))), (h5, .inl (K 2, 4, .inl f0)), (h0, .inr (12, [.int (nI 0), .ref h1]))]) (run_S (rest := [.ref h0]) hx hb hml hown hts hK hP hD hS hA hm (C83_isIn l G D K H.size) [] rfl rfl mok_yX12_isIn w_1352 w_1353 ⟨Nat.le_of_ble_eq_true rfl, Nat.le_of_ble_eq_true rfl⟩ rfl hl.1 rfl (Nat.le_of_ble_eq_true rfl) dX12_make_38 ⟨(Nat.le_of_ble_eq_true rfl), (Nat.le_of_ble_eq_true rfl)⟩) hP hD hS hA [] [0, 1, 2, 3, 4, 5] rfl rfl rfl (by decide) (w2 := fun u1 => [(h1, .inr (10, [.ref h2, .ref h3, v0, v1, v2, .int (nI 0), .int (nI 0), v3, v4, v5, v6, v7, v8, v9, v10, v11, v12])), (h2, .inr (13, [.int (nI 0), .ref (G 0), .int (nI 0)])), (h3, .inr (13, [v13, .ref h4, .int (nI 1)])), (h4, .inl (K 4, 10, .inr (.inr (.inr (.inr (va_up (fun _ => none) 0 (some h5))))))), (h5, .inl (K 2, 4, .inl f0)), (h0, .inr (12, [.int (nI 0), .ref h1]))]) (fun _ => rfl) (fun u1 H locs hP hD hS => ?_)
  refine lv_if_eq (tgt := 55) hx hb dX12_make_41 (by decide) (fun c9 => absurd c9 (by decide +kernel)) (fun _ => ?_)
  refine lv_iload_n hx hb dX12_make_44 rfl (lv_at hl 4 rfl) ?_
  refine lv_iload hx hb dX12_make_45 (lv_at hl 0 rfl) ?_
  refine lv_bipush (v := nI 20) hx hb dX12_make_47 (by decide +kernel) ?_
  refine k_i (wr := [(h1, .inr (10, [.ref h2, .ref h3, v0, v1, v2, .int (nI 0), .int (nI 0), v3, v4, v5, v6, v7, v8, v9, v10, v11, v12])), (h2, .inr (13, [.int (nI 0), .ref (G 0), .int (nI 0)])), (h3, .inr (13, [v13, .ref h4, .int (nI 1)])), (h4, .inl (K 4, 10, .inr (.inr (.inr (.inr (va_up (fun _ => none) 0 (some h5))))))), (h5, .inl (K 2, 4, .inl f0)), (h0, .inr (12, [.int (nI 0), .ref h1]))]) (run_S (rest := [.ref h0]) hx hb hml hown hts hK hP hD hS hA hm (C134_isIn l G D K H.size) [] rfl rfl mok_yX12_isIn w_1352 w_1353 ⟨Nat.le_of_ble_eq_true rfl, Nat.le_of_ble_eq_true rfl⟩ rfl hl.1 rfl (Nat.le_of_ble_eq_true rfl) dX12_make_49 ⟨(Nat.le_of_ble_eq_true rfl), (Nat.le_of_ble_eq_true rfl)⟩) hP hD hS hA [] [0, 1, 2, 3, 4, 5] rfl rfl rfl (by decide) (w2 := fun u2 => [(h1, .inr (10, [.ref h2, .ref h3, v0, v1, v2, .int (nI 0), .int (nI 0), v3, v4, v5, v6, v7, v8, v9, v10, v11, v12])), (h2, .inr (13, [.int (nI 0), .ref (G 0), .int (nI 0)])), (h3, .inr (13, [v13, .ref h4, .int (nI 1)])), (h4, .inl (K 4, 10, .inr (.inr (.inr (.inr (va_up (fun _ => none) 0 (some h5))))))), (h5, .inl (K 2, 4, .inl f0)), (h0, .inr (12, [.int (nI 0), .ref h1]))]) (fun _ => rfl) (fun u2 H locs hP hD hS => ?_)
  refine lv_if_ne (tgt := 59) hx hb dX12_make_52 (by decide) (fun _ => ?_) (fun c9 => absurd c9 (by decide +kernel))
  refine lv_iconst (v := nI 0) hx hb dX12_make_59 (by decide +kernel) ?_
  refine lv_iconst (v := nI 2) hx hb dX12_make_60 (by decide +kernel) ?_
  refine k_i (wr := [(h1, .inr (10, [.ref h2, .ref h3, v0, v1, v2, .int (nI 0), .int (nI 0), v3, v4, v5, v6, v7, v8, v9, v10, v11, v12])), (h2, .inr (13, [.int (nI 0), .ref (G 0), .int (nI 0)])), (h3, .inr (13, [v13, .ref h4, .int (nI 1)])), (h4, .inl (K 4, 10, .inr (.inr (.inr (.inr (va_up (fun _ => none) 0 (some h5))))))), (h5, .inl (K 2, 4, .inl f0))]) (run_V (rest := []) hx hb hml hown hts hK hP hD hS hA hm (C101_refuse l G D K H.size h0 (.ref h1)) [5] rfl rfl mok_yX12_refuse w_1316 w_1318 w_p31 (rcv hK hP 5 rfl rfl rfl) ⟨Nat.le_of_ble_eq_true rfl, Nat.le_of_ble_eq_true rfl⟩ rfl hl.1 rfl (Nat.le_of_ble_eq_true rfl) dX12_make_61 ⟨(Nat.le_of_ble_eq_true rfl), (Nat.le_of_ble_eq_true rfl)⟩) hP hD hS hA [5] [0, 1, 2, 3, 4] rfl rfl rfl (by decide) (w2 := fun u3 => [(h1, .inr (10, [.ref h2, .ref h3, v0, v1, v2, .int (nI 0), .int (nI 0), v3, v4, v5, v6, v7, v8, v9, v10, v11, v12])), (h2, .inr (13, [.int (nI 0), .ref (G 0), .int (nI 0)])), (h3, .inr (13, [v13, .ref h4, .int (nI 1)])), (h4, .inl (K 4, 10, .inr (.inr (.inr (.inr (va_up (fun _ => none) 0 (some h5))))))), (h5, .inl (K 2, 4, .inl f0)), (h0, .inr (12, [.int (nI 0), .ref h1]))]) (fun _ => rfl) (fun u3 H locs hP hD hS => ?_)
  refine lv_if_ne (tgt := 96) hx hb dX12_make_64 (by decide) (fun c9 => absurd (by decide +kernel) c9) (fun _ => ?_)
  refine lv_aload_n hx hb dX12_make_67 rfl (lv_at hl 1 rfl) ?_
  refine lv_aload_n hx hb dX12_make_68 rfl (lv_at hl 1 rfl) ?_
  refine r_get hx hb hts ok_RX12 hown hK hP 5 rfl rfl 1 (by decide) w_1294 (fun _ h9 => h9) rfl dX12_make_69 ?_
  refine r_get hx hb hts ok_RX10 hown hK hP 0 rfl rfl 0 (by decide) w_1225 (fun _ h9 => h9) rfl dX12_make_72 ?_
  refine k_i (wr := [(h1, .inr (10, [.ref h2, .ref h3, v0, v1, v2, .int (nI 0), .int (nI 0), v3, v4, v5, v6, v7, v8, v9, v10, v11, v12])), (h3, .inr (13, [v13, .ref h4, .int (nI 1)])), (h4, .inl (K 4, 10, .inr (.inr (.inr (.inr (va_up (fun _ => none) 0 (some h5))))))), (h5, .inl (K 2, 4, .inl f0)), (h0, .inr (12, [.int (nI 0), .ref h1]))]) (run_V (rest := [.ref h0]) hx hb hml hown hts hK hP hD hS hA hm (C102_size l G D K H.size h2 (.int (nI 0)) (.ref (G 0))) [1] rfl rfl mok_yJx4a65c_size_8abf5 w_1308 w_1309 w_1310 (rcv hK hP 1 rfl rfl rfl) ⟨Nat.le_of_ble_eq_true rfl, Nat.le_of_ble_eq_true rfl⟩ rfl hl.1 rfl (Nat.le_of_ble_eq_true rfl) dX12_make_75 ⟨(Nat.le_of_ble_eq_true rfl), (Nat.le_of_ble_eq_true rfl)⟩) hP hD hS hA [1] [0, 2, 3, 4, 5] rfl rfl rfl (by decide) (w2 := fun u4 => [(h1, .inr (10, [.ref h2, .ref h3, v0, v1, v2, .int (nI 0), .int (nI 0), v3, v4, v5, v6, v7, v8, v9, v10, v11, v12])), (h3, .inr (13, [v13, .ref h4, .int (nI 1)])), (h4, .inl (K 4, 10, .inr (.inr (.inr (.inr (va_up (fun _ => none) 0 (some h5))))))), (h5, .inl (K 2, 4, .inl f0)), (h0, .inr (12, [.int (nI 0), .ref h1])), (h2, .inr (13, [.int (nI 0), .ref (G 0), .int (nI 0)]))]) (fun _ => rfl) (fun u4 H locs hP hD hS => ?_)
  refine lv_sipush (v := nI 200) hx hb dX12_make_78 (by decide +kernel) ?_
  refine lv_icmp_ne (tgt := 88) hx hb dX12_make_81 (by decide) (fun _ => ?_) (fun c9 => absurd c9 (by decide +kernel))
  refine lv_iconst (v := nI 0) hx hb dX12_make_88 (by decide +kernel) ?_
  refine lv_iconst (v := nI 3) hx hb dX12_make_89 (by decide +kernel) ?_
  refine k_i (wr := [(h1, .inr (10, [.ref h2, .ref h3, v0, v1, v2, .int (nI 0), .int (nI 0), v3, v4, v5, v6, v7, v8, v9, v10, v11, v12])), (h3, .inr (13, [v13, .ref h4, .int (nI 1)])), (h4, .inl (K 4, 10, .inr (.inr (.inr (.inr (va_up (fun _ => none) 0 (some h5))))))), (h5, .inl (K 2, 4, .inl f0)), (h2, .inr (13, [.int (nI 0), .ref (G 0), .int (nI 0)]))]) (run_V (rest := []) hx hb hml hown hts hK hP hD hS hA hm (C103_refuse l G D K H.size h0 (.ref h1)) [4] rfl rfl mok_yX12_refuse w_1316 w_1318 w_p31 (rcv hK hP 4 rfl rfl rfl) ⟨Nat.le_of_ble_eq_true rfl, Nat.le_of_ble_eq_true rfl⟩ rfl hl.1 rfl (Nat.le_of_ble_eq_true rfl) dX12_make_90 ⟨(Nat.le_of_ble_eq_true rfl), (Nat.le_of_ble_eq_true rfl)⟩) hP hD hS hA [4] [0, 1, 2, 3, 5] rfl rfl rfl (by decide) (w2 := fun u5 => [(h1, .inr (10, [.ref h2, .ref h3, v0, v1, v2, .int (nI 0), .int (nI 0), v3, v4, v5, v6, v7, v8, v9, v10, v11, v12])), (h3, .inr (13, [v13, .ref h4, .int (nI 1)])), (h4, .inl (K 4, 10, .inr (.inr (.inr (.inr (va_up (fun _ => none) 0 (some h5))))))), (h5, .inl (K 2, 4, .inl f0)), (h2, .inr (13, [.int (nI 0), .ref (G 0), .int (nI 0)])), (h0, .inr (12, [.int (nI 0), .ref h1]))]) (fun _ => rfl) (fun u5 H locs hP hD hS => ?_)
  refine lv_if_eq (tgt := 98) hx hb dX12_make_93 (by decide) (fun _ => ?_) (fun c9 => absurd (by decide +kernel) c9)
  refine lv_aload_n hx hb dX12_make_98 rfl (lv_at hl 1 rfl) ?_
  refine r_get hx hb hts ok_RX12 hown hK hP 5 rfl rfl 1 (by decide) w_1294 (fun _ h9 => h9) rfl dX12_make_99 ?_
  refine lv_iload_n hx hb dX12_make_102 rfl (lv_at hl 3 rfl) ?_
  refine lv_iload_n hx hb dX12_make_103 rfl (lv_at hl 4 rfl) ?_
  refine k_i (wr := [(h3, .inr (13, [v13, .ref h4, .int (nI 1)])), (h4, .inl (K 4, 10, .inr (.inr (.inr (.inr (va_up (fun _ => none) 0 (some h5))))))), (h5, .inl (K 2, 4, .inl f0)), (h0, .inr (12, [.int (nI 0), .ref h1]))]) (run_V (rest := []) hx hb hml hown hts hK hP hD hS hA hm (C138_make l G D K H.size h1 h2 (.ref h3) (v0) (v1) (v2) (v3) (v4) (v5) (v6) (v7) (v8) (v9) (v10) (v11) (v12) (nI 0)) [0, 4] rfl rfl mok_yX10_make w_1355 w_1356 w_1357 (rcv hK hP 0 rfl rfl rfl) ⟨Nat.le_of_ble_eq_true rfl, Nat.le_of_ble_eq_true rfl⟩ rfl hl.1 rfl (Nat.le_of_ble_eq_true rfl) dX12_make_104 ⟨(Nat.le_of_ble_eq_true rfl), (Nat.le_of_ble_eq_true rfl)⟩) hP hD hS hA [0, 4] [1, 2, 3, 5] rfl rfl rfl (by decide) (w2 := fun u6 => [(h3, .inr (13, [v13, .ref h4, .int (nI 1)])), (h4, .inl (K 4, 10, .inr (.inr (.inr (.inr (va_up (fun _ => none) 0 (some h5))))))), (h5, .inl (K 2, 4, .inl f0)), (h0, .inr (12, [.int (nI 0), .ref h1])), (h1, .inr (10, [.ref h2, .ref h3, v0, v1, v2, .int (nI 0), .int (nI 4), v3, v4, v5, v6, v7, v8, v9, v10, v11, v12])), (h2, .inr (13, [.int (nI 1), .ref (u6 2), .int (nI 1)])), ((u6 2), .inl (K 4, 10, .inr (.inr (.inr (.inr (va_up (fun _ => none) 0 (some (u6 0)))))))), ((u6 0), .inr (11, [.int (nI 0), .ref (u6 1), .int (nI 0), .int (nI 1), .int (nI 0), .int (nI 0), .int (-1), .int (nI 2), .int (nI 0), .int (nI 0), .int (nI 0)])), ((u6 1), .inl (K 2, 2, .inl (fun _ => (-1))))]) (fun _ => rfl) (fun u6 H locs hP hD hS => ?_)
  refine lv_istore (lv' := [(5, .int (nI 0)), (4, .int (nI 0)), (0, .ref h0), (1, .int (nI j0)), (2, .int (nI 0)), (3, .int (nI 2))]) hx hb dX12_make_107 hl (by decide) rfl (fun ls hl => ?_)
  refine lv_iload hx hb dX12_make_109 (lv_at hl 0 rfl) ?_
  refine lv_iconst (v := (-1)) hx hb dX12_make_111 (by decide +kernel) ?_
  refine lv_icmp_eq (tgt := 123) hx hb dX12_make_112 (by decide) (fun c9 => absurd c9 (by decide +kernel)) (fun _ => ?_)
  refine lv_aload_n hx hb dX12_make_115 rfl (lv_at hl 2 rfl) ?_
  refine k_q (wr := [(h2, .inr (13, [.int (nI 1), .ref (u6 2), .int (nI 1)])), ((u6 2), .inl (K 4, 10, .inr (.inr (.inr (.inr (va_up (fun _ => none) 0 (some (u6 0)))))))), ((u6 0), .inr (11, [.int (nI 0), .ref (u6 1), .int (nI 0), .int (nI 1), .int (nI 0), .int (nI 0), .int (-1), .int (nI 2), .int (nI 0), .int (nI 0), .int (nI 0)])), ((u6 1), .inl (K 2, 2, .inl (fun _ => (-1))))]) (run_V (rest := []) hx hb hml hown hts hK hP hD hS hA hm (C114_last l G D K H.size h0 h1 h3 h4 h5 (.int (nI 0)) (.ref h2) (v0) (v1) (v2) (.int (nI 0)) (.int (nI 4)) (v3) (v4) (v5) (v6) (v7) (v8) (v9) (v10) (v11) (v12) (v13) f0) [3, 4, 0, 1, 2] rfl rfl mok_yX12_last w_1879 w_1881 w_p50 (rcv hK hP 3 rfl rfl rfl) ⟨Nat.le_of_ble_eq_true rfl, Nat.le_of_ble_eq_true rfl⟩ rfl hl.1 rfl (Nat.le_of_ble_eq_true rfl) dX12_make_116 ⟨(Nat.le_of_ble_eq_true rfl), (Nat.le_of_ble_eq_true rfl)⟩) hP hD hS hA [3, 4, 0, 1, 2] [5, 6, 7, 8] rfl rfl rfl (by decide) (w2 := fun u7 => [(h2, .inr (13, [.int (nI 1), .ref (u6 2), .int (nI 1)])), ((u6 2), .inl (K 4, 10, .inr (.inr (.inr (.inr (va_up (fun _ => none) 0 (some (u6 0)))))))), ((u6 0), .inr (11, [.int (nI 0), .ref (u6 1), .int (nI 0), .int (nI 1), .int (nI 0), .int (nI 0), .int (-1), .int (nI 2), .int (nI 0), .int (nI 0), .int (nI 0)])), ((u6 1), .inl (K 2, 2, .inl (fun _ => (-1)))), (h0, .inr (12, [.int (nI 0), .ref h1])), (h1, .inr (10, [.ref h2, .ref h3, v0, v1, v2, .int (nI 0), .int (nI 4), v3, v4, v5, v6, v7, v8, v9, v10, v11, v12])), (h5, .inl (K 2, 4, .inl f0)), (h3, .inr (13, [v13, .ref h4, .int (nI 1)])), (h4, .inl (K 4, 10, .inr (.inr (.inr (.inr (va_up (fun _ => none) 0 (some h5)))))))]) (fun _ => rfl) (fun u7 H locs hP hD hS => ?_)
  refine w_tov (y := .ref h5) rfl ?_
  refine lv_iload_n hx hb dX12_make_119 rfl (lv_at hl 3 rfl) ?_
  refine lv_iload hx hb dX12_make_120 (lv_at hl 0 rfl) ?_
  refine r_iast (k := j0) hx hb hK hP hD hS 6 2 rfl rfl (by omega) (by decide) dX12_make_122 (ws' := [(h2, .inr (13, [.int (nI 1), .ref (u6 2), .int (nI 1)])), ((u6 2), .inl (K 4, 10, .inr (.inr (.inr (.inr (va_up (fun _ => none) 0 (some (u6 0)))))))), ((u6 0), .inr (11, [.int (nI 0), .ref (u6 1), .int (nI 0), .int (nI 1), .int (nI 0), .int (nI 0), .int (-1), .int (nI 2), .int (nI 0), .int (nI 0), .int (nI 0)])), ((u6 1), .inl (K 2, 2, .inl (fun _ => (-1)))), (h0, .inr (12, [.int (nI 0), .ref h1])), (h1, .inr (10, [.ref h2, .ref h3, v0, v1, v2, .int (nI 0), .int (nI 4), v3, v4, v5, v6, v7, v8, v9, v10, v11, v12])), (h5, .inl (K 2, 4, .inl (upd f0 j0 (nI 0)))), (h3, .inr (13, [v13, .ref h4, .int (nI 1)])), (h4, .inl (K 4, 10, .inr (.inr (.inr (.inr (va_up (fun _ => none) 0 (some h5)))))))]) rfl (fun H locs hP hD hS => ?_)
  refine lv_iload hx hb dX12_make_123 (lv_at hl 0 rfl) ?_
  exact e_i hx hb hr hlk hP hD hS (fun k => match k with | 0 => (u6 0) | 1 => (u6 1) | 2 => (u6 2) | _ => 0) rfl (Nat.le_of_ble_eq_true rfl) (Nat.le_of_ble_eq_true rfl) rfl dX12_make_125
set_option maxHeartbeats 4000000 in
set_option maxRecDepth 100000 in
theorem C140_gapFor (l : Launch) (G : Nat → Nat) (D : va_G) (K : Nat → ClassId) (sz : Nat) (h0 : Nat) (v0 v1 v2 v3 v4 v5 : Value) : CM l yX3_gapFor cX3_gapFor 3 (some FieldType.int) ({ frames := 0, cells := 0, slots := 0, locals := 0 } : Room) G D K [.ref h0, .int (nI 3)] [(h0, .inr (3, [v0, v1, v2, .int (nI 0), .int (nI 0), v3, v4, v5]))] sz (CQi (nI 0) D (fun _ => [(h0, .inr (3, [v0, v1, v2, .int (nI 0), .int (nI 0), v3, v4, v5]))])) := by
  refine CM_of (lv0 := [(0, .ref h0), (1, .int (nI 3))]) pn_RX3 (Nat.le_of_ble_eq_true rfl) rfl (fun p e s m args below meth c A ls hx hb hr hml hown hts hlk hnm hP hK hD hS hA hm hl => ?_)
  have hown : s.vm.findClass RX3 = some m.cls := hown
  refine lv_iconst (v := nI 2) hx hb dX3_gapFor_0 (by decide +kernel) ?_
  refine lv_iload_n hx hb dX3_gapFor_1 rfl (lv_at hl 1 rfl) ?_
  refine lv_iadd hx hb dX3_gapFor_2 ?_
  refine w_toeq (show (nI 2) + (nI 3) = nI 5 by decide +kernel) ?_
  refine lv_istore_n (lv' := [(2, .int (nI 5)), (0, .ref h0), (1, .int (nI 3))]) hx hb dX3_gapFor_3 rfl hl (by decide) rfl (fun ls hl => ?_)
  refine lv_iload_n hx hb dX3_gapFor_4 rfl (lv_at hl 2 rfl) ?_
  refine lv_bipush (v := nI 12) hx hb dX3_gapFor_5 (by decide +kernel) ?_
  refine lv_icmp_lt (tgt := 16) hx hb dX3_gapFor_7 (by decide) (fun _ => ?_) (fun c9 => absurd (by decide +kernel) c9)
  refine lv_aload_n hx hb dX3_gapFor_16 rfl (lv_at hl 1 rfl) ?_
  refine r_get hx hb hts ok_RX3 hown hK hP 0 rfl rfl 4 (by decide) w_104 (fun _ h9 => h9) rfl dX3_gapFor_17 ?_
  refine lv_iload_n hx hb dX3_gapFor_20 rfl (lv_at hl 0 rfl) ?_
  refine lv_iadd hx hb dX3_gapFor_21 ?_
  refine w_toeq (show (nI 0) + (nI 5) = nI 5 by decide +kernel) ?_
  refine lv_aload_n hx hb dX3_gapFor_22 rfl (lv_at hl 1 rfl) ?_
  refine r_get hx hb hts ok_RX3 hown hK hP 0 rfl rfl 3 (by decide) w_102 (fun _ h9 => h9) rfl dX3_gapFor_23 ?_
  refine lv_bipush (v := nI 40) hx hb dX3_gapFor_26 (by decide +kernel) ?_
  refine lv_iadd hx hb dX3_gapFor_28 ?_
  refine w_toeq (show (nI 0) + (nI 40) = nI 40 by decide +kernel) ?_
  refine lv_icmp_gt (tgt := 39) hx hb dX3_gapFor_29 (by decide) (fun c9 => absurd c9 (by decide +kernel)) (fun _ => ?_)
  refine lv_aload_n hx hb dX3_gapFor_32 rfl (lv_at hl 1 rfl) ?_
  refine r_get hx hb hts ok_RX3 hown hK hP 0 rfl rfl 4 (by decide) w_104 (fun _ h9 => h9) rfl dX3_gapFor_33 ?_
  refine lv_goto (tgt := 40) hx hb dX3_gapFor_36 (by decide) ?_
  exact e_i hx hb hr hlk hP hD hS (fun _ => 0) rfl (Nat.le_of_ble_eq_true rfl) (Nat.le_of_ble_eq_true rfl) rfl dX3_gapFor_40
set_option maxHeartbeats 4000000 in
set_option maxRecDepth 100000 in
theorem C141_init (l : Launch) (G : Nat → Nat) (D : va_G) (K : Nat → ClassId) (sz : Nat) (h0 : Nat) (v0 v1 v2 v3 v4 v5 v6 v7 v8 v9 v10 v11 v12 : Value) (o0 : Int32) : CM l yX7_init cX7_init 4 (none : Option FieldType) ({ frames := 1, cells := 1, slots := 3, locals := 20 } : Room) G D K [.ref h0, .int (nI 0), .int o0, .int (nI 3)] [(h0, .inr (7, [v0, v1, v2, v3, v4, .int (nI 0), v5, v6, v7, v8, v9, v10, v11, v12]))] sz (CQv D (fun u => [(h0, .inr (7, [.int (nI 0), .ref (u 0), .int o0, v3, v4, .int (nI 5), .int (nI 5), v6, .int (-1), v8, v9, v10, v11, v12])), ((u 0), .inl (K 0, 3, .inr (.inr (.inr (.inr (fun _ => none))))))])) := by
  refine CM_of (lv0 := [(0, .ref h0), (1, .int (nI 0)), (2, .int o0), (3, .int (nI 3))]) pn_RX7 (Nat.le_of_ble_eq_true rfl) rfl (fun p e s m args below meth c A ls hx hb hr hml hown hts hlk hnm hP hK hD hS hA hm hl => ?_)
  have hown : s.vm.findClass RX7 = some m.cls := hown
  refine lv_aload_n hx hb dX7_init_0 rfl (lv_at hl 0 rfl) ?_
  refine r_oinit hx hb hts hown w_807 w_44 w_45 hml hl.1 dX7_init_1 (Nat.le_of_ble_eq_true rfl) (Nat.le_of_ble_eq_true rfl) ?_
  refine lv_aload_n hx hb dX7_init_4 rfl (lv_at hl 0 rfl) ?_
  refine lv_iload_n hx hb dX7_init_5 rfl (lv_at hl 1 rfl) ?_
  refine r_putF hx hb hts ok_RX7 hown hK hP hD hS 0 rfl rfl 0 (by decide) w_809 (fun _ h9 => h9) rfl hnm rfl (v := .int (nI 0)) rfl rfl (Nat.le_of_ble_eq_true rfl) dX7_init_6 (ws' := [(h0, .inr (7, [.int (nI 0), v1, v2, v3, v4, .int (nI 0), v5, v6, v7, v8, v9, v10, v11, v12]))]) rfl (fun H locs hP hD hS => ?_)
  refine lv_aload_n hx hb dX7_init_9 rfl (lv_at hl 0 rfl) ?_
  refine lv_iload_n hx hb dX7_init_10 rfl (lv_at hl 2 rfl) ?_
  refine r_put hx hb hts ok_RX7 hown hK hP hD hS 0 rfl rfl 2 (by decide) w_817 (fun _ h9 => h9) rfl (v := .int o0) rfl rfl (Nat.le_of_ble_eq_true rfl) dX7_init_11 (ws' := [(h0, .inr (7, [.int (nI 0), v1, .int o0, v3, v4, .int (nI 0), v5, v6, v7, v8, v9, v10, v11, v12]))]) rfl (fun H locs hP hD hS => ?_)
  refine lv_aload_n hx hb dX7_init_14 rfl (lv_at hl 0 rfl) ?_
  refine lv_iload_n hx hb dX7_init_15 rfl (lv_at hl 3 rfl) ?_
  refine r_newq hx hb hts hown w_808 hm.2.2.1.1 hK hP hD hS hA 0 rfl (N := 3) (by decide +kernel) (by decide +kernel) (Nat.le_of_ble_eq_true rfl) (Nat.le_of_ble_eq_true rfl) (Nat.le_of_ble_eq_true rfl) dX7_init_16 (w2 := fun q0 => [(h0, .inr (7, [.int (nI 0), v1, .int o0, v3, v4, .int (nI 0), v5, v6, v7, v8, v9, v10, v11, v12])), (q0, .inl (K 0, 3, .inr (.inr (.inr (.inr (fun _ => none))))))]) (fun _ => rfl) (fun q0 H hP hD hS => ?_)
  refine r_putF hx hb hts ok_RX7 hown hK hP hD hS 0 rfl rfl 1 (by decide) w_811 (fun _ h9 => h9) rfl hnm rfl (v := .ref q0) rfl rfl (Nat.le_of_ble_eq_true rfl) dX7_init_19 (ws' := [(h0, .inr (7, [.int (nI 0), .ref q0, .int o0, v3, v4, .int (nI 0), v5, v6, v7, v8, v9, v10, v11, v12])), (q0, .inl (K 0, 3, .inr (.inr (.inr (.inr (fun _ => none))))))]) rfl (fun H locs hP hD hS => ?_)
  refine lv_aload_n hx hb dX7_init_22 rfl (lv_at hl 0 rfl) ?_
  refine lv_iconst (v := nI 2) hx hb dX7_init_23 (by decide +kernel) ?_
  refine lv_iload_n hx hb dX7_init_24 rfl (lv_at hl 3 rfl) ?_
  refine lv_iadd hx hb dX7_init_25 ?_
  refine w_toeq (show (nI 2) + (nI 3) = nI 5 by decide +kernel) ?_
  refine r_put hx hb hts ok_RX7 hown hK hP hD hS 0 rfl rfl 5 (by decide) w_834 (fun _ h9 => h9) rfl (v := .int (nI 5)) rfl rfl (Nat.le_of_ble_eq_true rfl) dX7_init_26 (ws' := [(h0, .inr (7, [.int (nI 0), .ref q0, .int o0, v3, v4, .int (nI 5), v5, v6, v7, v8, v9, v10, v11, v12])), (q0, .inl (K 0, 3, .inr (.inr (.inr (.inr (fun _ => none))))))]) rfl (fun H locs hP hD hS => ?_)
  refine lv_aload_n hx hb dX7_init_29 rfl (lv_at hl 0 rfl) ?_
  refine lv_aload_n hx hb dX7_init_30 rfl (lv_at hl 0 rfl) ?_
  refine r_get hx hb hts ok_RX7 hown hK hP 0 rfl rfl 5 (by decide) w_834 (fun _ h9 => h9) rfl dX7_init_31 ?_
  refine r_put hx hb hts ok_RX7 hown hK hP hD hS 0 rfl rfl 6 (by decide) w_839 (fun _ h9 => h9) rfl (v := .int (nI 5)) rfl rfl (Nat.le_of_ble_eq_true rfl) dX7_init_34 (ws' := [(h0, .inr (7, [.int (nI 0), .ref q0, .int o0, v3, v4, .int (nI 5), .int (nI 5), v6, v7, v8, v9, v10, v11, v12])), (q0, .inl (K 0, 3, .inr (.inr (.inr (.inr (fun _ => none))))))]) rfl (fun H locs hP hD hS => ?_)
  refine lv_aload_n hx hb dX7_init_37 rfl (lv_at hl 0 rfl) ?_
  refine lv_iconst (v := (-1)) hx hb dX7_init_38 (by decide +kernel) ?_
  refine r_put hx hb hts ok_RX7 hown hK hP hD hS 0 rfl rfl 8 (by decide) w_845 (fun _ h9 => h9) rfl (v := .int (-1)) rfl rfl (Nat.le_of_ble_eq_true rfl) dX7_init_39 (ws' := [(h0, .inr (7, [.int (nI 0), .ref q0, .int o0, v3, v4, .int (nI 5), .int (nI 5), v6, .int (-1), v8, v9, v10, v11, v12])), (q0, .inl (K 0, 3, .inr (.inr (.inr (.inr (fun _ => none))))))]) rfl (fun H locs hP hD hS => ?_)
  exact e_v hx hb hr hlk hP hD hS (fun k => match k with | 0 => q0 | _ => 0) rfl (Nat.le_of_ble_eq_true rfl) (Nat.le_of_ble_eq_true rfl) dX7_init_42
set_option maxHeartbeats 4000000 in
set_option maxRecDepth 100000 in
theorem C142_moveTo (l : Launch) (G : Nat → Nat) (D : va_G) (K : Nat → ClassId) (sz : Nat) (h0 : Nat) (v0 v1 v2 v3 v4 v5 v6 v7 v8 v9 v10 v11 v12 : Value) : CM l yX7_moveTo cX7_moveTo 3 (none : Option FieldType) ({ frames := 0, cells := 0, slots := 0, locals := 0 } : Room) G D K [.ref h0, .int (nI 1), .int (nI 0)] [(h0, .inr (7, [v0, v1, v2, v3, v4, v5, .int (nI 5), v6, v7, v8, v9, v10, v11, v12]))] sz (CQv D (fun _ => [(h0, .inr (7, [v0, v1, v2, .int (nI 1), .int (nI 0), .int (nI 5), .int (nI 5), v6, v7, v8, v9, v10, v11, v12]))])) := by
  refine CM_of (lv0 := [(0, .ref h0), (1, .int (nI 1)), (2, .int (nI 0))]) pn_RX7 (Nat.le_of_ble_eq_true rfl) rfl (fun p e s m args below meth c A ls hx hb hr hml hown hts hlk hnm hP hK hD hS hA hm hl => ?_)
  have hown : s.vm.findClass RX7 = some m.cls := hown
  refine lv_aload_n hx hb dX7_moveTo_0 rfl (lv_at hl 0 rfl) ?_
  refine lv_aload_n hx hb dX7_moveTo_1 rfl (lv_at hl 0 rfl) ?_
  refine r_get hx hb hts ok_RX7 hown hK hP 0 rfl rfl 6 (by decide) w_839 (fun _ h9 => h9) rfl dX7_moveTo_2 ?_
  refine r_put hx hb hts ok_RX7 hown hK hP hD hS 0 rfl rfl 5 (by decide) w_834 (fun _ h9 => h9) rfl (v := .int (nI 5)) rfl rfl (Nat.le_of_ble_eq_true rfl) dX7_moveTo_5 (ws' := [(h0, .inr (7, [v0, v1, v2, v3, v4, .int (nI 5), .int (nI 5), v6, v7, v8, v9, v10, v11, v12]))]) rfl (fun H locs hP hD hS => ?_)
  refine lv_aload_n hx hb dX7_moveTo_8 rfl (lv_at hl 0 rfl) ?_
  refine lv_iload_n hx hb dX7_moveTo_9 rfl (lv_at hl 1 rfl) ?_
  refine r_put hx hb hts ok_RX7 hown hK hP hD hS 0 rfl rfl 3 (by decide) w_825 (fun _ h9 => h9) rfl (v := .int (nI 1)) rfl rfl (Nat.le_of_ble_eq_true rfl) dX7_moveTo_10 (ws' := [(h0, .inr (7, [v0, v1, v2, .int (nI 1), v4, .int (nI 5), .int (nI 5), v6, v7, v8, v9, v10, v11, v12]))]) rfl (fun H locs hP hD hS => ?_)
  refine lv_aload_n hx hb dX7_moveTo_13 rfl (lv_at hl 0 rfl) ?_
  refine lv_iload_n hx hb dX7_moveTo_14 rfl (lv_at hl 2 rfl) ?_
  refine r_put hx hb hts ok_RX7 hown hK hP hD hS 0 rfl rfl 4 (by decide) w_832 (fun _ h9 => h9) rfl (v := .int (nI 0)) rfl rfl (Nat.le_of_ble_eq_true rfl) dX7_moveTo_15 (ws' := [(h0, .inr (7, [v0, v1, v2, .int (nI 1), .int (nI 0), .int (nI 5), .int (nI 5), v6, v7, v8, v9, v10, v11, v12]))]) rfl (fun H locs hP hD hS => ?_)
  exact e_v hx hb hr hlk hP hD hS (fun _ => 0) rfl (Nat.le_of_ble_eq_true rfl) (Nat.le_of_ble_eq_true rfl) dX7_moveTo_18
set_option maxHeartbeats 4000000 in
set_option maxRecDepth 100000 in
theorem C143_end (l : Launch) (G : Nat → Nat) (D : va_G) (K : Nat → ClassId) (sz : Nat) (h0 : Nat) (v0 v1 v2 v3 v4 v5 v6 v7 v8 v9 v10 v11 : Value) : CM l yX7_end cX7_end 1 (some FieldType.int) ({ frames := 0, cells := 0, slots := 0, locals := 0 } : Room) G D K [.ref h0] [(h0, .inr (7, [v0, v1, v2, v3, .int (nI 0), .int (nI 5), v4, v5, v6, v7, v8, v9, v10, v11]))] sz (CQi (nI 5) D (fun _ => [(h0, .inr (7, [v0, v1, v2, v3, .int (nI 0), .int (nI 5), v4, v5, v6, v7, v8, v9, v10, v11]))])) := by
  refine CM_of (lv0 := [(0, .ref h0)]) pn_RX7 (Nat.le_of_ble_eq_true rfl) rfl (fun p e s m args below meth c A ls hx hb hr hml hown hts hlk hnm hP hK hD hS hA hm hl => ?_)
  have hown : s.vm.findClass RX7 = some m.cls := hown
  refine lv_aload_n hx hb dX7_end_0 rfl (lv_at hl 0 rfl) ?_
  refine r_get hx hb hts ok_RX7 hown hK hP 0 rfl rfl 4 (by decide) w_832 (fun _ h9 => h9) rfl dX7_end_1 ?_
  refine lv_aload_n hx hb dX7_end_4 rfl (lv_at hl 0 rfl) ?_
  refine r_get hx hb hts ok_RX7 hown hK hP 0 rfl rfl 5 (by decide) w_834 (fun _ h9 => h9) rfl dX7_end_5 ?_
  refine lv_iadd hx hb dX7_end_8 ?_
  refine w_toeq (show (nI 0) + (nI 5) = nI 5 by decide +kernel) ?_
  exact e_i hx hb hr hlk hP hD hS (fun _ => 0) rfl (Nat.le_of_ble_eq_true rfl) (Nat.le_of_ble_eq_true rfl) rfl dX7_end_9
set_option maxHeartbeats 4000000 in
set_option maxRecDepth 100000 in
theorem C144_lay (l : Launch) (G : Nat → Nat) (D : va_G) (K : Nat → ClassId) (sz : Nat) (h0 h1 h2 h3 h4 : Nat) (v0 v1 v2 v3 v4 v5 v6 v7 v8 v9 v10 v11 v12 v13 v14 v15 v16 : Value) (f0 : Nat → Option Nat) (f1 : Nat → Option Nat) : CM l yX3_lay cX3_lay 3 (none : Option FieldType) ({ frames := 1, cells := 0, slots := 0, locals := 22 } : Room) G D K [.ref h2, .ref h0, .int (nI 0)] [(h0, .inr (7, [v0, .ref h1, v1, v2, .int (nI 0), .int (nI 5), .int (nI 5), v3, v4, v5, v6, v7, v8, v9])), (h1, .inl (K 0, 3, .inr (.inr (.inr (.inr f0))))), (h2, .inr (3, [.ref h3, v10, v11, v12, v13, v14, v15, v16])), (h3, .inr (5, [.ref h4, .int (nI 0)])), (h4, .inl (K 0, 200, .inr (.inr (.inr (.inr f1)))))] sz (CQv D (fun _ => [(h1, .inl (K 0, 3, .inr (.inr (.inr (.inr f0))))), (h2, .inr (3, [.ref h3, v10, v11, v12, .int (nI 5), v14, v15, v16])), (h3, .inr (5, [.ref h4, .int (nI 1)])), (h4, .inl (K 0, 200, .inr (.inr (.inr (.inr (va_up f1 0 (some h0))))))), (h0, .inr (7, [v0, .ref h1, v1, .int (nI 1), .int (nI 0), .int (nI 5), .int (nI 5), v3, v4, v5, v6, v7, v8, v9]))])) := by
  refine CM_of (lv0 := [(0, .ref h2), (1, .ref h0), (2, .int (nI 0))]) pn_RX3 (Nat.le_of_ble_eq_true rfl) rfl (fun p e s m args below meth c A ls hx hb hr hml hown hts hlk hnm hP hK hD hS hA hm hl => ?_)
  have hown : s.vm.findClass RX3 = some m.cls := hown
  refine lv_aload_n hx hb dX3_lay_0 rfl (lv_at hl 1 rfl) ?_
  refine r_get hx hb hts ok_RX7 hown hK hP 0 rfl rfl 1 (by decide) w_812 (fun _ h9 => h9) rfl dX3_lay_1 ?_
  refine r_alen (n := 3) hx hb hK hP 1 0 rfl rfl rfl dX3_lay_4 ?_
  refine lv_bipush (v := nI 12) hx hb dX3_lay_5 (by decide +kernel) ?_
  refine lv_icmp_lt (tgt := 27) hx hb dX3_lay_7 (by decide) (fun _ => ?_) (fun c9 => absurd (by decide +kernel) c9)
  refine lv_aload_n hx hb dX3_lay_27 rfl (lv_at hl 1 rfl) ?_
  refine lv_iconst (v := nI 1) hx hb dX3_lay_28 (by decide +kernel) ?_
  refine lv_iload_n hx hb dX3_lay_29 rfl (lv_at hl 2 rfl) ?_
  refine k_v (wr := [(h1, .inl (K 0, 3, .inr (.inr (.inr (.inr f0))))), (h2, .inr (3, [.ref h3, v10, v11, v12, v13, v14, v15, v16])), (h3, .inr (5, [.ref h4, .int (nI 0)])), (h4, .inl (K 0, 200, .inr (.inr (.inr (.inr f1)))))]) (run_V (rest := []) hx hb hml hown hts hK hP hD hS hA hm (C142_moveTo l G D K s.heap.size h0 (v0) (.ref h1) (v1) (v2) (.int (nI 0)) (.int (nI 5)) (v3) (v4) (v5) (v6) (v7) (v8) (v9)) [0] rfl rfl mok_yX7_moveTo w_361 w_362 w_363 (rcv hK hP 0 rfl rfl rfl) ⟨Nat.le_of_ble_eq_true rfl, Nat.le_of_ble_eq_true rfl⟩ rfl hl.1 rfl (Nat.le_of_ble_eq_true rfl) dX3_lay_30 ⟨(Nat.le_of_ble_eq_true rfl), (Nat.le_of_ble_eq_true rfl)⟩) hP hD hS hA [0] [1, 2, 3, 4] rfl rfl rfl (by decide) (w2 := fun u0 => [(h1, .inl (K 0, 3, .inr (.inr (.inr (.inr f0))))), (h2, .inr (3, [.ref h3, v10, v11, v12, v13, v14, v15, v16])), (h3, .inr (5, [.ref h4, .int (nI 0)])), (h4, .inl (K 0, 200, .inr (.inr (.inr (.inr f1))))), (h0, .inr (7, [v0, .ref h1, v1, .int (nI 1), .int (nI 0), .int (nI 5), .int (nI 5), v3, v4, v5, v6, v7, v8, v9]))]) (fun _ => rfl) (fun u0 H locs hP hD hS => ?_)
  refine lv_aload_n hx hb dX3_lay_33 rfl (lv_at hl 0 rfl) ?_
  refine r_get hx hb hts ok_RX3 hown hK hP 1 rfl rfl 0 (by decide) w_94 (fun _ h9 => h9) rfl dX3_lay_34 ?_
  refine lv_aload_n hx hb dX3_lay_37 rfl (lv_at hl 1 rfl) ?_
  refine k_v (wr := [(h1, .inl (K 0, 3, .inr (.inr (.inr (.inr f0))))), (h2, .inr (3, [.ref h3, v10, v11, v12, v13, v14, v15, v16]))]) (run_V (rest := []) hx hb hml hown hts hK hP hD hS hA hm (C92_add l G D K H.size h3 h4 h0 (v0) (.ref h1) (v1) (.int (nI 1)) (.int (nI 0)) (.int (nI 5)) (.int (nI 5)) (v3) (v4) (v5) (v6) (v7) (v8) (v9) f1) [2, 3, 4] rfl rfl mok_yX5_add w_369 w_333 w_334 (rcv hK hP 2 rfl rfl rfl) ⟨Nat.le_of_ble_eq_true rfl, Nat.le_of_ble_eq_true rfl⟩ rfl hl.1 rfl (Nat.le_of_ble_eq_true rfl) dX3_lay_38 ⟨(Nat.le_of_ble_eq_true rfl), (Nat.le_of_ble_eq_true rfl)⟩) hP hD hS hA [2, 3, 4] [0, 1] rfl rfl rfl (by decide) (w2 := fun u1 => [(h1, .inl (K 0, 3, .inr (.inr (.inr (.inr f0))))), (h2, .inr (3, [.ref h3, v10, v11, v12, v13, v14, v15, v16])), (h3, .inr (5, [.ref h4, .int (nI 1)])), (h4, .inl (K 0, 200, .inr (.inr (.inr (.inr (va_up f1 0 (some h0))))))), (h0, .inr (7, [v0, .ref h1, v1, .int (nI 1), .int (nI 0), .int (nI 5), .int (nI 5), v3, v4, v5, v6, v7, v8, v9]))]) (fun _ => rfl) (fun u1 H locs hP hD hS => ?_)
  refine lv_aload_n hx hb dX3_lay_41 rfl (lv_at hl 0 rfl) ?_
  refine lv_aload_n hx hb dX3_lay_42 rfl (lv_at hl 1 rfl) ?_
  refine k_i (wr := [(h1, .inl (K 0, 3, .inr (.inr (.inr (.inr f0))))), (h2, .inr (3, [.ref h3, v10, v11, v12, v13, v14, v15, v16])), (h3, .inr (5, [.ref h4, .int (nI 1)])), (h4, .inl (K 0, 200, .inr (.inr (.inr (.inr (va_up f1 0 (some h0)))))))]) (run_V (rest := [.ref h2]) hx hb hml hown hts hK hP hD hS hA hm (C143_end l G D K H.size h0 (v0) (.ref h1) (v1) (.int (nI 1)) (.int (nI 5)) (v3) (v4) (v5) (v6) (v7) (v8) (v9)) [4] rfl rfl mok_yX7_end w_365 w_366 w_367 (rcv hK hP 4 rfl rfl rfl) ⟨Nat.le_of_ble_eq_true rfl, Nat.le_of_ble_eq_true rfl⟩ rfl hl.1 rfl (Nat.le_of_ble_eq_true rfl) dX3_lay_43 ⟨(Nat.le_of_ble_eq_true rfl), (Nat.le_of_ble_eq_true rfl)⟩) hP hD hS hA [4] [0, 1, 2, 3] rfl rfl rfl (by decide) (w2 := fun u2 => [(h1, .inl (K 0, 3, .inr (.inr (.inr (.inr f0))))), (h2, .inr (3, [.ref h3, v10, v11, v12, v13, v14, v15, v16])), (h3, .inr (5, [.ref h4, .int (nI 1)])), (h4, .inl (K 0, 200, .inr (.inr (.inr (.inr (va_up f1 0 (some h0))))))), (h0, .inr (7, [v0, .ref h1, v1, .int (nI 1), .int (nI 0), .int (nI 5), .int (nI 5), v3, v4, v5, v6, v7, v8, v9]))]) (fun _ => rfl) (fun u2 H locs hP hD hS => ?_)
  refine r_put hx hb hts ok_RX3 hown hK hP hD hS 1 rfl rfl 4 (by decide) w_104 (fun _ h9 => h9) rfl (v := .int (nI 5)) rfl rfl (Nat.le_of_ble_eq_true rfl) dX3_lay_46 (ws' := [(h1, .inl (K 0, 3, .inr (.inr (.inr (.inr f0))))), (h2, .inr (3, [.ref h3, v10, v11, v12, .int (nI 5), v14, v15, v16])), (h3, .inr (5, [.ref h4, .int (nI 1)])), (h4, .inl (K 0, 200, .inr (.inr (.inr (.inr (va_up f1 0 (some h0))))))), (h0, .inr (7, [v0, .ref h1, v1, .int (nI 1), .int (nI 0), .int (nI 5), .int (nI 5), v3, v4, v5, v6, v7, v8, v9]))]) rfl (fun H locs hP hD hS => ?_)
  exact e_v hx hb hr hlk hP hD hS (fun _ => 0) rfl (Nat.le_of_ble_eq_true rfl) (Nat.le_of_ble_eq_true rfl) dX3_lay_49
set_option maxHeartbeats 4000000 in
set_option maxRecDepth 100000 in
theorem C145_make (l : Launch) (G : Nat → Nat) (D : va_G) (K : Nat → ClassId) (sz : Nat) (h0 h1 h2 h3 h4 h5 h6 h7 h8 : Nat) (v0 v1 v2 v3 v4 v5 v6 v7 v8 v9 v10 v11 v12 v13 : Value) (f0 : Nat → Option Nat) (f1 : Nat → Option Nat) (f2 : Nat → Option Nat) (j0 : Nat) (lj0 : 0 ≤ j0) (gj0 : j0 ≤ 3) : CM l yX9_make cX9_make 6 (some FieldType.int) ({ frames := 2, cells := 2, slots := 17, locals := 44 } : Room) G D K [.ref h0, .int (nI j0), .int (nI 0), .int (nI 3)] [(h0, .inr (9, [.ref h1, .ref h7, .ref h2, v0, .ref h6, v1, v2, v3, v4])), (h1, .inr (5, [.ref h3, .int (nI 0)])), (h2, .inr (3, [.ref h4, v5, v6, .int (nI 0), .int (nI 0), v7, v8, v9])), (h3, .inl (K 0, 200, .inr (.inr (.inr (.inr f0))))), (h4, .inr (5, [.ref h5, .int (nI 0)])), (h5, .inl (K 0, 200, .inr (.inr (.inr (.inr f1))))), (h6, .inr (1, [v10, v11, .int (nI 0)])), (h7, .inr (4, [v12, .ref h8, v13, .int (nI 1)])), (h8, .inl (K 0, 32, .inr (.inr (.inr (.inr f2)))))] sz (CQi (nI 0) D (fun u => [(h0, .inr (9, [.ref h1, .ref h7, .ref h2, v0, .ref h6, v1, v2, v3, v4])), (h1, .inr (5, [.ref h3, .int (nI 1)])), (h3, .inl (K 0, 200, .inr (.inr (.inr (.inr (va_up f0 0 (some (u 0)))))))), ((u 1), .inl (K 0, 3, .inr (.inr (.inr (.inr (fun _ => none)))))), (h2, .inr (3, [.ref h4, v5, v6, .int (nI 0), .int (nI 5), v7, v8, v9])), (h4, .inr (5, [.ref h5, .int (nI 1)])), (h5, .inl (K 0, 200, .inr (.inr (.inr (.inr (va_up f1 0 (some (u 0)))))))), (h6, .inr (1, [v10, v11, .int (nI 0)])), (h8, .inl (K 0, 32, .inr (.inr (.inr (.inr (va_up f2 (0 + j0) (some (u 0)))))))), ((u 0), .inr (7, [.int (nI 0), .ref (u 1), .int (nI 0), .int (nI 1), .int (nI 0), .int (nI 5), .int (nI 5), .int (nI 0), .int (-1), .int (nI 0), .int (nI 0), .int (nI 0), .int (nI 0), .int (nI 0)])), (h7, .inr (4, [v12, .ref h8, v13, .int (nI 1)]))])) := by
  refine CM_of (lv0 := [(0, .ref h0), (1, .int (nI j0)), (2, .int (nI 0)), (3, .int (nI 3))]) pn_RX9 (Nat.le_of_ble_eq_true rfl) rfl (fun p e s m args below meth c A ls hx hb hr hml hown hts hlk hnm hP hK hD hS hA hm hl => ?_)
  have hown : s.vm.findClass RX9 = some m.cls := hown
  refine lv_iload_n hx hb dX9_make_0 rfl (lv_at hl 1 rfl) ?_
  refine k_v (wr := [(h0, .inr (9, [.ref h1, .ref h7, .ref h2, v0, .ref h6, v1, v2, v3, v4])), (h1, .inr (5, [.ref h3, .int (nI 0)])), (h2, .inr (3, [.ref h4, v5, v6, .int (nI 0), .int (nI 0), v7, v8, v9])), (h3, .inl (K 0, 200, .inr (.inr (.inr (.inr f0))))), (h4, .inr (5, [.ref h5, .int (nI 0)])), (h5, .inl (K 0, 200, .inr (.inr (.inr (.inr f1))))), (h6, .inr (1, [v10, v11, .int (nI 0)])), (h7, .inr (4, [v12, .ref h8, v13, .int (nI 1)])), (h8, .inl (K 0, 32, .inr (.inr (.inr (.inr f2)))))]) (run_S (rest := []) hx hb hml hown hts hK hP hD hS hA hm (C70_requireSlot l G D K s.heap.size j0 (by omega) (by omega)) [] rfl rfl mok_yX9_requireSlot w_687 w_688 ⟨Nat.le_of_ble_eq_true rfl, Nat.le_of_ble_eq_true rfl⟩ rfl hl.1 rfl (Nat.le_of_ble_eq_true rfl) dX9_make_1 ⟨(Nat.le_of_ble_eq_true rfl), (Nat.le_of_ble_eq_true rfl)⟩) hP hD hS hA [] [0, 1, 2, 3, 4, 5, 6, 7, 8] rfl rfl rfl (by decide) (w2 := fun u0 => [(h0, .inr (9, [.ref h1, .ref h7, .ref h2, v0, .ref h6, v1, v2, v3, v4])), (h1, .inr (5, [.ref h3, .int (nI 0)])), (h2, .inr (3, [.ref h4, v5, v6, .int (nI 0), .int (nI 0), v7, v8, v9])), (h3, .inl (K 0, 200, .inr (.inr (.inr (.inr f0))))), (h4, .inr (5, [.ref h5, .int (nI 0)])), (h5, .inl (K 0, 200, .inr (.inr (.inr (.inr f1))))), (h6, .inr (1, [v10, v11, .int (nI 0)])), (h7, .inr (4, [v12, .ref h8, v13, .int (nI 1)])), (h8, .inl (K 0, 32, .inr (.inr (.inr (.inr f2)))))]) (fun _ => rfl) (fun u0 H locs hP hD hS => ?_)
  refine lv_iload_n hx hb dX9_make_4 rfl (lv_at hl 2 rfl) ?_
  refine lv_if_lt (tgt := 27) hx hb dX9_make_5 (by decide) (fun c9 => absurd c9 (by decide +kernel)) (fun _ => ?_)
  refine lv_iload_n hx hb dX9_make_8 rfl (lv_at hl 2 rfl) ?_
  refine lv_iconst (v := nI 4) hx hb dX9_make_9 (by decide +kernel) ?_
  refine lv_icmp_gt (tgt := 27) hx hb dX9_make_10 (by decide) (fun c9 => absurd c9 (by decide +kernel)) (fun _ => ?_)
  refine lv_iload_n hx hb dX9_make_13 rfl (lv_at hl 3 rfl) ?_
  refine lv_iload_n hx hb dX9_make_14 rfl (lv_at hl 2 rfl) ?_
  refine k_i (wr := [(h0, .inr (9, [.ref h1, .ref h7, .ref h2, v0, .ref h6, v1, v2, v3, v4])), (h1, .inr (5, [.ref h3, .int (nI 0)])), (h2, .inr (3, [.ref h4, v5, v6, .int (nI 0), .int (nI 0), v7, v8, v9])), (h3, .inl (K 0, 200, .inr (.inr (.inr (.inr f0))))), (h4, .inr (5, [.ref h5, .int (nI 0)])), (h5, .inl (K 0, 200, .inr (.inr (.inr (.inr f1))))), (h6, .inr (1, [v10, v11, .int (nI 0)])), (h7, .inr (4, [v12, .ref h8, v13, .int (nI 1)])), (h8, .inl (K 0, 32, .inr (.inr (.inr (.inr f2)))))]) (run_S (rest := [.int (nI 3)]) hx hb hml hown hts hK hP hD hS hA hm (C81_leastFields l G D K H.size) [] rfl rfl mok_yX9_leastFields w_795 w_796 ⟨Nat.le_of_ble_eq_true rfl, Nat.le_of_ble_eq_true rfl⟩ rfl hl.1 rfl (Nat.le_of_ble_eq_true rfl) dX9_make_15 ⟨(Nat.le_of_ble_eq_true rfl), (Nat.le_of_ble_eq_true rfl)⟩) hP hD hS hA [] [0, 1, 2, 3, 4, 5, 6, 7, 8] rfl rfl rfl (by decide) (w2 := fun u1 => [(h0, .inr (9, [.ref h1, .ref h7, .ref h2, v0, .ref h6, v1, v2, v3, v4])), (h1, .inr (5, [.ref h3, .int (nI 0)])), (h2, .inr (3, [.ref h4, v5, v6, .int (nI 0), .int (nI 0), v7, v8, v9])), (h3, .inl (K 0, 200, .inr (.inr (.inr (.inr f0))))), (h4, .inr (5, [.ref h5, .int (nI 0)])), (h5, .inl (K 0, 200, .inr (.inr (.inr (.inr f1))))), (h6, .inr (1, [v10, v11, .int (nI 0)])), (h7, .inr (4, [v12, .ref h8, v13, .int (nI 1)])), (h8, .inl (K 0, 32, .inr (.inr (.inr (.inr f2)))))]) (fun _ => rfl) (fun u1 H locs hP hD hS => ?_)
  refine lv_icmp_lt (tgt := 27) hx hb dX9_make_18 (by decide) (fun c9 => absurd c9 (by decide +kernel)) (fun _ => ?_)
  refine lv_iload_n hx hb dX9_make_21 rfl (lv_at hl 3 rfl) ?_
  refine lv_bipush (v := nI 20) hx hb dX9_make_22 (by decide +kernel) ?_
  refine lv_icmp_le (tgt := 37) hx hb dX9_make_24 (by decide) (fun _ => ?_) (fun c9 => absurd (by decide +kernel) c9)
  refine lv_aload_n hx hb dX9_make_37 rfl (lv_at hl 0 rfl) ?_
  refine r_get hx hb hts ok_RX9 hown hK hP 0 rfl rfl 0 (by decide) w_258 (fun _ h9 => h9) rfl dX9_make_38 ?_
  refine k_i (wr := [(h0, .inr (9, [.ref h1, .ref h7, .ref h2, v0, .ref h6, v1, v2, v3, v4])), (h2, .inr (3, [.ref h4, v5, v6, .int (nI 0), .int (nI 0), v7, v8, v9])), (h3, .inl (K 0, 200, .inr (.inr (.inr (.inr f0))))), (h4, .inr (5, [.ref h5, .int (nI 0)])), (h5, .inl (K 0, 200, .inr (.inr (.inr (.inr f1))))), (h6, .inr (1, [v10, v11, .int (nI 0)])), (h7, .inr (4, [v12, .ref h8, v13, .int (nI 1)])), (h8, .inl (K 0, 32, .inr (.inr (.inr (.inr f2)))))]) (run_V (rest := []) hx hb hml hown hts hK hP hD hS hA hm (C89_size l G D K H.size h1 (.ref h3)) [1] rfl rfl mok_yX5_size w_574 w_295 w_296 (rcv hK hP 1 rfl rfl rfl) ⟨Nat.le_of_ble_eq_true rfl, Nat.le_of_ble_eq_true rfl⟩ rfl hl.1 rfl (Nat.le_of_ble_eq_true rfl) dX9_make_41 ⟨(Nat.le_of_ble_eq_true rfl), (Nat.le_of_ble_eq_true rfl)⟩) hP hD hS hA [1] [0, 2, 3, 4, 5, 6, 7, 8] rfl rfl rfl (by decide) (w2 := fun u2 => [(h0, .inr (9, [.ref h1, .ref h7, .ref h2, v0, .ref h6, v1, v2, v3, v4])), (h2, .inr (3, [.ref h4, v5, v6, .int (nI 0), .int (nI 0), v7, v8, v9])), (h3, .inl (K 0, 200, .inr (.inr (.inr (.inr f0))))), (h4, .inr (5, [.ref h5, .int (nI 0)])), (h5, .inl (K 0, 200, .inr (.inr (.inr (.inr f1))))), (h6, .inr (1, [v10, v11, .int (nI 0)])), (h7, .inr (4, [v12, .ref h8, v13, .int (nI 1)])), (h8, .inl (K 0, 32, .inr (.inr (.inr (.inr f2))))), (h1, .inr (5, [.ref h3, .int (nI 0)]))]) (fun _ => rfl) (fun u2 H locs hP hD hS => ?_)
  refine lv_sipush (v := nI 200) hx hb dX9_make_44 (by decide +kernel) ?_
  refine lv_icmp_lt (tgt := 60) hx hb dX9_make_47 (by decide) (fun _ => ?_) (fun c9 => absurd (by decide +kernel) c9)
  refine lv_aload_n hx hb dX9_make_60 rfl (lv_at hl 0 rfl) ?_
  refine r_get hx hb hts ok_RX9 hown hK hP 0 rfl rfl 2 (by decide) w_260 (fun _ h9 => h9) rfl dX9_make_61 ?_
  refine lv_iload_n hx hb dX9_make_64 rfl (lv_at hl 3 rfl) ?_
  refine k_i (wr := [(h0, .inr (9, [.ref h1, .ref h7, .ref h2, v0, .ref h6, v1, v2, v3, v4])), (h3, .inl (K 0, 200, .inr (.inr (.inr (.inr f0))))), (h4, .inr (5, [.ref h5, .int (nI 0)])), (h5, .inl (K 0, 200, .inr (.inr (.inr (.inr f1))))), (h6, .inr (1, [v10, v11, .int (nI 0)])), (h7, .inr (4, [v12, .ref h8, v13, .int (nI 1)])), (h8, .inl (K 0, 32, .inr (.inr (.inr (.inr f2))))), (h1, .inr (5, [.ref h3, .int (nI 0)]))]) (run_V (rest := []) hx hb hml hown hts hK hP hD hS hA hm (C140_gapFor l G D K H.size h2 (.ref h4) (v5) (v6) (v7) (v8) (v9)) [1] rfl rfl mok_yX3_gapFor w_734 w_735 w_736 (rcv hK hP 1 rfl rfl rfl) ⟨Nat.le_of_ble_eq_true rfl, Nat.le_of_ble_eq_true rfl⟩ rfl hl.1 rfl (Nat.le_of_ble_eq_true rfl) dX9_make_65 ⟨(Nat.le_of_ble_eq_true rfl), (Nat.le_of_ble_eq_true rfl)⟩) hP hD hS hA [1] [0, 2, 3, 4, 5, 6, 7, 8] rfl rfl rfl (by decide) (w2 := fun u3 => [(h0, .inr (9, [.ref h1, .ref h7, .ref h2, v0, .ref h6, v1, v2, v3, v4])), (h3, .inl (K 0, 200, .inr (.inr (.inr (.inr f0))))), (h4, .inr (5, [.ref h5, .int (nI 0)])), (h5, .inl (K 0, 200, .inr (.inr (.inr (.inr f1))))), (h6, .inr (1, [v10, v11, .int (nI 0)])), (h7, .inr (4, [v12, .ref h8, v13, .int (nI 1)])), (h8, .inl (K 0, 32, .inr (.inr (.inr (.inr f2))))), (h1, .inr (5, [.ref h3, .int (nI 0)])), (h2, .inr (3, [.ref h4, v5, v6, .int (nI 0), .int (nI 0), v7, v8, v9]))]) (fun _ => rfl) (fun u3 H locs hP hD hS => ?_)
  refine lv_istore (lv' := [(4, .int (nI 0)), (0, .ref h0), (1, .int (nI j0)), (2, .int (nI 0)), (3, .int (nI 3))]) hx hb dX9_make_68 hl (by decide) rfl (fun ls hl => ?_)
  refine lv_iload hx hb dX9_make_70 (lv_at hl 0 rfl) ?_
  refine lv_iconst (v := (-1)) hx hb dX9_make_72 (by decide +kernel) ?_
  refine lv_icmp_ne (tgt := 97) hx hb dX9_make_73 (by decide) (fun _ => ?_) (fun c9 => absurd c9 (by decide +kernel))
  refine lv_iload hx hb dX9_make_97 (lv_at hl 0 rfl) ?_
  refine lv_iconst (v := (-1)) hx hb dX9_make_99 (by decide +kernel) ?_
  refine lv_icmp_ne (tgt := 119) hx hb dX9_make_100 (by decide) (fun _ => ?_) (fun c9 => absurd c9 (by decide +kernel))
  refine lv_iload hx hb dX9_make_119 (lv_at hl 0 rfl) ?_
  refine lv_iconst (v := (-1)) hx hb dX9_make_121 (by decide +kernel) ?_
  refine lv_icmp_ne (tgt := 141) hx hb dX9_make_122 (by decide) (fun _ => ?_) (fun c9 => absurd c9 (by decide +kernel))
  refine lv_iload hx hb dX9_make_141 (lv_at hl 0 rfl) ?_
  refine lv_iconst (v := (-1)) hx hb dX9_make_143 (by decide +kernel) ?_
  refine lv_icmp_ne (tgt := 149) hx hb dX9_make_144 (by decide) (fun _ => ?_) (fun c9 => absurd c9 (by decide +kernel))
  refine r_new (ci := 7) (C := RX7) (T := TX7) (N := 14) hx hb hts ok_RX7 hown w_802 w_803 w_27 hK hP hD hS hA rfl df_RX7 (Nat.le_of_ble_eq_true rfl) (Nat.le_of_ble_eq_true rfl) dX9_make_149 (w2 := fun q0 => [(h0, .inr (9, [.ref h1, .ref h7, .ref h2, v0, .ref h6, v1, v2, v3, v4])), (h3, .inl (K 0, 200, .inr (.inr (.inr (.inr f0))))), (h4, .inr (5, [.ref h5, .int (nI 0)])), (h5, .inl (K 0, 200, .inr (.inr (.inr (.inr f1))))), (h6, .inr (1, [v10, v11, .int (nI 0)])), (h7, .inr (4, [v12, .ref h8, v13, .int (nI 1)])), (h8, .inl (K 0, 32, .inr (.inr (.inr (.inr f2))))), (h1, .inr (5, [.ref h3, .int (nI 0)])), (h2, .inr (3, [.ref h4, v5, v6, .int (nI 0), .int (nI 0), v7, v8, v9])), (q0, .inr (7, [.int (nI 0), .null, .int (nI 0), .int (nI 0), .int (nI 0), .int (nI 0), .int (nI 0), .int (nI 0), .int (nI 0), .int (nI 0), .int (nI 0), .int (nI 0), .int (nI 0), .int (nI 0)]))]) (fun _ => rfl) (fun q0 H hP hD hS => ?_)
  refine lv_dup hx hb dX9_make_152 rfl ?_
  refine lv_aload_n hx hb dX9_make_153 rfl (lv_at hl 1 rfl) ?_
  refine r_get hx hb hts ok_RX9 hown hK hP 0 rfl rfl 0 (by decide) w_258 (fun _ h9 => h9) rfl dX9_make_154 ?_
  refine k_i (wr := [(h0, .inr (9, [.ref h1, .ref h7, .ref h2, v0, .ref h6, v1, v2, v3, v4])), (h3, .inl (K 0, 200, .inr (.inr (.inr (.inr f0))))), (h4, .inr (5, [.ref h5, .int (nI 0)])), (h5, .inl (K 0, 200, .inr (.inr (.inr (.inr f1))))), (h6, .inr (1, [v10, v11, .int (nI 0)])), (h7, .inr (4, [v12, .ref h8, v13, .int (nI 1)])), (h8, .inl (K 0, 32, .inr (.inr (.inr (.inr f2))))), (h2, .inr (3, [.ref h4, v5, v6, .int (nI 0), .int (nI 0), v7, v8, v9])), (q0, .inr (7, [.int (nI 0), .null, .int (nI 0), .int (nI 0), .int (nI 0), .int (nI 0), .int (nI 0), .int (nI 0), .int (nI 0), .int (nI 0), .int (nI 0), .int (nI 0), .int (nI 0), .int (nI 0)]))]) (run_V (rest := [.ref q0, .ref q0]) hx hb hml hown hts hK hP hD hS hA hm (C89_size l G D K H.size h1 (.ref h3)) [7] rfl rfl mok_yX5_size w_574 w_295 w_296 (rcv hK hP 7 rfl rfl rfl) ⟨Nat.le_of_ble_eq_true rfl, Nat.le_of_ble_eq_true rfl⟩ rfl hl.1 rfl (Nat.le_of_ble_eq_true rfl) dX9_make_157 ⟨(Nat.le_of_ble_eq_true rfl), (Nat.le_of_ble_eq_true rfl)⟩) hP hD hS hA [7] [0, 1, 2, 3, 4, 5, 6, 8, 9] rfl rfl rfl (by decide) (w2 := fun u4 => [(h0, .inr (9, [.ref h1, .ref h7, .ref h2, v0, .ref h6, v1, v2, v3, v4])), (h3, .inl (K 0, 200, .inr (.inr (.inr (.inr f0))))), (h4, .inr (5, [.ref h5, .int (nI 0)])), (h5, .inl (K 0, 200, .inr (.inr (.inr (.inr f1))))), (h6, .inr (1, [v10, v11, .int (nI 0)])), (h7, .inr (4, [v12, .ref h8, v13, .int (nI 1)])), (h8, .inl (K 0, 32, .inr (.inr (.inr (.inr f2))))), (h2, .inr (3, [.ref h4, v5, v6, .int (nI 0), .int (nI 0), v7, v8, v9])), (q0, .inr (7, [.int (nI 0), .null, .int (nI 0), .int (nI 0), .int (nI 0), .int (nI 0), .int (nI 0), .int (nI 0), .int (nI 0), .int (nI 0), .int (nI 0), .int (nI 0), .int (nI 0), .int (nI 0)])), (h1, .inr (5, [.ref h3, .int (nI 0)]))]) (fun _ => rfl) (fun u4 H locs hP hD hS => ?_)
  refine lv_iload_n hx hb dX9_make_160 rfl (lv_at hl 3 rfl) ?_
  refine lv_iload_n hx hb dX9_make_161 rfl (lv_at hl 4 rfl) ?_
  refine k_v (wr := [(h0, .inr (9, [.ref h1, .ref h7, .ref h2, v0, .ref h6, v1, v2, v3, v4])), (h3, .inl (K 0, 200, .inr (.inr (.inr (.inr f0))))), (h4, .inr (5, [.ref h5, .int (nI 0)])), (h5, .inl (K 0, 200, .inr (.inr (.inr (.inr f1))))), (h6, .inr (1, [v10, v11, .int (nI 0)])), (h7, .inr (4, [v12, .ref h8, v13, .int (nI 1)])), (h8, .inl (K 0, 32, .inr (.inr (.inr (.inr f2))))), (h2, .inr (3, [.ref h4, v5, v6, .int (nI 0), .int (nI 0), v7, v8, v9])), (h1, .inr (5, [.ref h3, .int (nI 0)]))]) (run_I (rest := [.ref q0]) hx hb hml hown hts hK hP hD hS hA hm (C141_init l G D K H.size q0 (.int (nI 0)) (.null) (.int (nI 0)) (.int (nI 0)) (.int (nI 0)) (.int (nI 0)) (.int (nI 0)) (.int (nI 0)) (.int (nI 0)) (.int (nI 0)) (.int (nI 0)) (.int (nI 0)) (.int (nI 0)) (nI 0)) [8] rfl rfl mok_yX7_init w_804 w_805 rfl ⟨Nat.le_of_ble_eq_true rfl, Nat.le_of_ble_eq_true rfl⟩ rfl hl.1 rfl (Nat.le_of_ble_eq_true rfl) dX9_make_162 ⟨(Nat.le_of_ble_eq_true rfl), (Nat.le_of_ble_eq_true rfl)⟩) hP hD hS hA [8] [0, 1, 2, 3, 4, 5, 6, 7, 9] rfl rfl rfl (by decide) (w2 := fun u5 => [(h0, .inr (9, [.ref h1, .ref h7, .ref h2, v0, .ref h6, v1, v2, v3, v4])), (h3, .inl (K 0, 200, .inr (.inr (.inr (.inr f0))))), (h4, .inr (5, [.ref h5, .int (nI 0)])), (h5, .inl (K 0, 200, .inr (.inr (.inr (.inr f1))))), (h6, .inr (1, [v10, v11, .int (nI 0)])), (h7, .inr (4, [v12, .ref h8, v13, .int (nI 1)])), (h8, .inl (K 0, 32, .inr (.inr (.inr (.inr f2))))), (h2, .inr (3, [.ref h4, v5, v6, .int (nI 0), .int (nI 0), v7, v8, v9])), (h1, .inr (5, [.ref h3, .int (nI 0)])), (q0, .inr (7, [.int (nI 0), .ref (u5 0), .int (nI 0), .int (nI 0), .int (nI 0), .int (nI 5), .int (nI 5), .int (nI 0), .int (-1), .int (nI 0), .int (nI 0), .int (nI 0), .int (nI 0), .int (nI 0)])), ((u5 0), .inl (K 0, 3, .inr (.inr (.inr (.inr (fun _ => none))))))]) (fun _ => rfl) (fun u5 H locs hP hD hS => ?_)
  refine lv_astore (lv' := [(5, .ref q0), (4, .int (nI 0)), (0, .ref h0), (1, .int (nI j0)), (2, .int (nI 0)), (3, .int (nI 3))]) hx hb dX9_make_165 hl (by decide) rfl (fun ls hl => ?_)
  refine lv_aload_n hx hb dX9_make_167 rfl (lv_at hl 2 rfl) ?_
  refine r_get hx hb hts ok_RX9 hown hK hP 0 rfl rfl 0 (by decide) w_258 (fun _ h9 => h9) rfl dX9_make_168 ?_
  refine lv_aload hx hb dX9_make_171 (lv_at hl 0 rfl) ?_
  refine k_v (wr := [(h0, .inr (9, [.ref h1, .ref h7, .ref h2, v0, .ref h6, v1, v2, v3, v4])), (h4, .inr (5, [.ref h5, .int (nI 0)])), (h5, .inl (K 0, 200, .inr (.inr (.inr (.inr f1))))), (h6, .inr (1, [v10, v11, .int (nI 0)])), (h7, .inr (4, [v12, .ref h8, v13, .int (nI 1)])), (h8, .inl (K 0, 32, .inr (.inr (.inr (.inr f2))))), (h2, .inr (3, [.ref h4, v5, v6, .int (nI 0), .int (nI 0), v7, v8, v9])), ((u5 0), .inl (K 0, 3, .inr (.inr (.inr (.inr (fun _ => none))))))]) (run_V (rest := []) hx hb hml hown hts hK hP hD hS hA hm (C92_add l G D K H.size h1 h3 q0 (.int (nI 0)) (.ref (u5 0)) (.int (nI 0)) (.int (nI 0)) (.int (nI 0)) (.int (nI 5)) (.int (nI 5)) (.int (nI 0)) (.int (-1)) (.int (nI 0)) (.int (nI 0)) (.int (nI 0)) (.int (nI 0)) (.int (nI 0)) f0) [8, 1, 9] rfl rfl mok_yX5_add w_890 w_333 w_334 (rcv hK hP 8 rfl rfl rfl) ⟨Nat.le_of_ble_eq_true rfl, Nat.le_of_ble_eq_true rfl⟩ rfl hl.1 rfl (Nat.le_of_ble_eq_true rfl) dX9_make_173 ⟨(Nat.le_of_ble_eq_true rfl), (Nat.le_of_ble_eq_true rfl)⟩) hP hD hS hA [8, 1, 9] [0, 2, 3, 4, 5, 6, 7, 10] rfl rfl rfl (by decide) (w2 := fun u6 => [(h0, .inr (9, [.ref h1, .ref h7, .ref h2, v0, .ref h6, v1, v2, v3, v4])), (h4, .inr (5, [.ref h5, .int (nI 0)])), (h5, .inl (K 0, 200, .inr (.inr (.inr (.inr f1))))), (h6, .inr (1, [v10, v11, .int (nI 0)])), (h7, .inr (4, [v12, .ref h8, v13, .int (nI 1)])), (h8, .inl (K 0, 32, .inr (.inr (.inr (.inr f2))))), (h2, .inr (3, [.ref h4, v5, v6, .int (nI 0), .int (nI 0), v7, v8, v9])), ((u5 0), .inl (K 0, 3, .inr (.inr (.inr (.inr (fun _ => none)))))), (h1, .inr (5, [.ref h3, .int (nI 1)])), (h3, .inl (K 0, 200, .inr (.inr (.inr (.inr (va_up f0 0 (some q0))))))), (q0, .inr (7, [.int (nI 0), .ref (u5 0), .int (nI 0), .int (nI 0), .int (nI 0), .int (nI 5), .int (nI 5), .int (nI 0), .int (-1), .int (nI 0), .int (nI 0), .int (nI 0), .int (nI 0), .int (nI 0)]))]) (fun _ => rfl) (fun u6 H locs hP hD hS => ?_)
  refine lv_aload_n hx hb dX9_make_176 rfl (lv_at hl 2 rfl) ?_
  refine r_get hx hb hts ok_RX9 hown hK hP 0 rfl rfl 2 (by decide) w_260 (fun _ h9 => h9) rfl dX9_make_177 ?_
  refine lv_aload hx hb dX9_make_180 (lv_at hl 0 rfl) ?_
  refine lv_iload hx hb dX9_make_182 (lv_at hl 1 rfl) ?_
  refine k_v (wr := [(h0, .inr (9, [.ref h1, .ref h7, .ref h2, v0, .ref h6, v1, v2, v3, v4])), (h6, .inr (1, [v10, v11, .int (nI 0)])), (h7, .inr (4, [v12, .ref h8, v13, .int (nI 1)])), (h8, .inl (K 0, 32, .inr (.inr (.inr (.inr f2))))), (h1, .inr (5, [.ref h3, .int (nI 1)])), (h3, .inl (K 0, 200, .inr (.inr (.inr (.inr (va_up f0 0 (some q0)))))))]) (run_V (rest := []) hx hb hml hown hts hK hP hD hS hA hm (C144_lay l G D K H.size q0 (u5 0) h2 h4 h5 (.int (nI 0)) (.int (nI 0)) (.int (nI 0)) (.int (nI 0)) (.int (-1)) (.int (nI 0)) (.int (nI 0)) (.int (nI 0)) (.int (nI 0)) (.int (nI 0)) (v5) (v6) (.int (nI 0)) (.int (nI 0)) (v7) (v8) (v9) (fun _ => none) f1) [10, 7, 6, 1, 2] rfl rfl mok_yX3_lay w_891 w_892 w_893 (rcv hK hP 6 rfl rfl rfl) ⟨Nat.le_of_ble_eq_true rfl, Nat.le_of_ble_eq_true rfl⟩ rfl hl.1 rfl (Nat.le_of_ble_eq_true rfl) dX9_make_184 ⟨(Nat.le_of_ble_eq_true rfl), (Nat.le_of_ble_eq_true rfl)⟩) hP hD hS hA [10, 7, 6, 1, 2] [0, 3, 4, 5, 8, 9] rfl rfl rfl (by decide) (w2 := fun u7 => [(h0, .inr (9, [.ref h1, .ref h7, .ref h2, v0, .ref h6, v1, v2, v3, v4])), (h6, .inr (1, [v10, v11, .int (nI 0)])), (h7, .inr (4, [v12, .ref h8, v13, .int (nI 1)])), (h8, .inl (K 0, 32, .inr (.inr (.inr (.inr f2))))), (h1, .inr (5, [.ref h3, .int (nI 1)])), (h3, .inl (K 0, 200, .inr (.inr (.inr (.inr (va_up f0 0 (some q0))))))), ((u5 0), .inl (K 0, 3, .inr (.inr (.inr (.inr (fun _ => none)))))), (h2, .inr (3, [.ref h4, v5, v6, .int (nI 0), .int (nI 5), v7, v8, v9])), (h4, .inr (5, [.ref h5, .int (nI 1)])), (h5, .inl (K 0, 200, .inr (.inr (.inr (.inr (va_up f1 0 (some q0))))))), (q0, .inr (7, [.int (nI 0), .ref (u5 0), .int (nI 0), .int (nI 1), .int (nI 0), .int (nI 5), .int (nI 5), .int (nI 0), .int (-1), .int (nI 0), .int (nI 0), .int (nI 0), .int (nI 0), .int (nI 0)]))]) (fun _ => rfl) (fun u7 H locs hP hD hS => ?_)
  refine lv_aload_n hx hb dX9_make_187 rfl (lv_at hl 2 rfl) ?_
  refine r_get hx hb hts ok_RX9 hown hK hP 0 rfl rfl 4 (by decide) w_262 (fun _ h9 => h9) rfl dX9_make_188 ?_
  refine lv_aload hx hb dX9_make_191 (lv_at hl 0 rfl) ?_
  refine k_v (wr := [(h0, .inr (9, [.ref h1, .ref h7, .ref h2, v0, .ref h6, v1, v2, v3, v4])), (h7, .inr (4, [v12, .ref h8, v13, .int (nI 1)])), (h8, .inl (K 0, 32, .inr (.inr (.inr (.inr f2))))), (h1, .inr (5, [.ref h3, .int (nI 1)])), (h3, .inl (K 0, 200, .inr (.inr (.inr (.inr (va_up f0 0 (some q0))))))), ((u5 0), .inl (K 0, 3, .inr (.inr (.inr (.inr (fun _ => none)))))), (h2, .inr (3, [.ref h4, v5, v6, .int (nI 0), .int (nI 5), v7, v8, v9])), (h4, .inr (5, [.ref h5, .int (nI 1)])), (h5, .inl (K 0, 200, .inr (.inr (.inr (.inr (va_up f1 0 (some q0))))))), (q0, .inr (7, [.int (nI 0), .ref (u5 0), .int (nI 0), .int (nI 1), .int (nI 0), .int (nI 5), .int (nI 5), .int (nI 0), .int (-1), .int (nI 0), .int (nI 0), .int (nI 0), .int (nI 0), .int (nI 0)]))]) (run_V (rest := []) hx hb hml hown hts hK hP hD hS hA hm (C96_noteMade l G D K H.size h6 q0 (v10) (v11)) [1] rfl rfl mok_yX1_noteMade w_899 w_900 w_901 (rcv hK hP 1 rfl rfl rfl) ⟨Nat.le_of_ble_eq_true rfl, Nat.le_of_ble_eq_true rfl⟩ rfl hl.1 rfl (Nat.le_of_ble_eq_true rfl) dX9_make_193 ⟨(Nat.le_of_ble_eq_true rfl), (Nat.le_of_ble_eq_true rfl)⟩) hP hD hS hA [1] [0, 2, 3, 4, 5, 6, 7, 8, 9, 10] rfl rfl rfl (by decide) (w2 := fun u8 => [(h0, .inr (9, [.ref h1, .ref h7, .ref h2, v0, .ref h6, v1, v2, v3, v4])), (h7, .inr (4, [v12, .ref h8, v13, .int (nI 1)])), (h8, .inl (K 0, 32, .inr (.inr (.inr (.inr f2))))), (h1, .inr (5, [.ref h3, .int (nI 1)])), (h3, .inl (K 0, 200, .inr (.inr (.inr (.inr (va_up f0 0 (some q0))))))), ((u5 0), .inl (K 0, 3, .inr (.inr (.inr (.inr (fun _ => none)))))), (h2, .inr (3, [.ref h4, v5, v6, .int (nI 0), .int (nI 5), v7, v8, v9])), (h4, .inr (5, [.ref h5, .int (nI 1)])), (h5, .inl (K 0, 200, .inr (.inr (.inr (.inr (va_up f1 0 (some q0))))))), (q0, .inr (7, [.int (nI 0), .ref (u5 0), .int (nI 0), .int (nI 1), .int (nI 0), .int (nI 5), .int (nI 5), .int (nI 0), .int (-1), .int (nI 0), .int (nI 0), .int (nI 0), .int (nI 0), .int (nI 0)])), (h6, .inr (1, [v10, v11, .int (nI 0)]))]) (fun _ => rfl) (fun u8 H locs hP hD hS => ?_)
  refine lv_aload_n hx hb dX9_make_196 rfl (lv_at hl 2 rfl) ?_
  refine r_get hx hb hts ok_RX9 hown hK hP 0 rfl rfl 1 (by decide) w_259 (fun _ h9 => h9) rfl dX9_make_197 ?_
  refine lv_iload_n hx hb dX9_make_200 rfl (lv_at hl 3 rfl) ?_
  refine lv_aload hx hb dX9_make_201 (lv_at hl 0 rfl) ?_
  refine k_v (wr := [(h0, .inr (9, [.ref h1, .ref h7, .ref h2, v0, .ref h6, v1, v2, v3, v4])), (h1, .inr (5, [.ref h3, .int (nI 1)])), (h3, .inl (K 0, 200, .inr (.inr (.inr (.inr (va_up f0 0 (some q0))))))), ((u5 0), .inl (K 0, 3, .inr (.inr (.inr (.inr (fun _ => none)))))), (h2, .inr (3, [.ref h4, v5, v6, .int (nI 0), .int (nI 5), v7, v8, v9])), (h4, .inr (5, [.ref h5, .int (nI 1)])), (h5, .inl (K 0, 200, .inr (.inr (.inr (.inr (va_up f1 0 (some q0))))))), (h6, .inr (1, [v10, v11, .int (nI 0)]))]) (run_V (rest := []) hx hb hml hown hts hK hP hD hS hA hm (C98_writeSlot l G D K H.size h7 h8 q0 (v12) (v13) (.int (nI 0)) (.ref (u5 0)) (.int (nI 0)) (.int (nI 1)) (.int (nI 0)) (.int (nI 5)) (.int (nI 5)) (.int (nI 0)) (.int (-1)) (.int (nI 0)) (.int (nI 0)) (.int (nI 0)) (.int (nI 0)) (.int (nI 0)) f2 j0 (by omega) (by omega)) [1, 2, 9] rfl rfl mok_yX4_writeSlot w_903 w_783 w_784 (rcv hK hP 1 rfl rfl rfl) ⟨Nat.le_of_ble_eq_true rfl, Nat.le_of_ble_eq_true rfl⟩ rfl hl.1 rfl (Nat.le_of_ble_eq_true rfl) dX9_make_203 ⟨(Nat.le_of_ble_eq_true rfl), (Nat.le_of_ble_eq_true rfl)⟩) hP hD hS hA [1, 2, 9] [0, 3, 4, 5, 6, 7, 8, 10] rfl rfl rfl (by decide) (w2 := fun u9 => [(h0, .inr (9, [.ref h1, .ref h7, .ref h2, v0, .ref h6, v1, v2, v3, v4])), (h1, .inr (5, [.ref h3, .int (nI 1)])), (h3, .inl (K 0, 200, .inr (.inr (.inr (.inr (va_up f0 0 (some q0))))))), ((u5 0), .inl (K 0, 3, .inr (.inr (.inr (.inr (fun _ => none)))))), (h2, .inr (3, [.ref h4, v5, v6, .int (nI 0), .int (nI 5), v7, v8, v9])), (h4, .inr (5, [.ref h5, .int (nI 1)])), (h5, .inl (K 0, 200, .inr (.inr (.inr (.inr (va_up f1 0 (some q0))))))), (h6, .inr (1, [v10, v11, .int (nI 0)])), (h8, .inl (K 0, 32, .inr (.inr (.inr (.inr (va_up f2 (0 + j0) (some q0))))))), (q0, .inr (7, [.int (nI 0), .ref (u5 0), .int (nI 0), .int (nI 1), .int (nI 0), .int (nI 5), .int (nI 5), .int (nI 0), .int (-1), .int (nI 0), .int (nI 0), .int (nI 0), .int (nI 0), .int (nI 0)])), (h7, .inr (4, [v12, .ref h8, v13, .int (nI 1)]))]) (fun _ => rfl) (fun u9 H locs hP hD hS => ?_)
  refine lv_aload hx hb dX9_make_206 (lv_at hl 0 rfl) ?_
  refine r_get hx hb hts ok_RX7 hown hK hP 9 rfl rfl 0 (by decide) w_810 (fun _ h9 => h9) rfl dX9_make_208 ?_
  exact e_i hx hb hr hlk hP hD hS (fun k => match k with | 0 => q0 | 1 => (u5 0) | _ => 0) rfl (Nat.le_of_ble_eq_true rfl) (Nat.le_of_ble_eq_true rfl) rfl dX9_make_211
set_option maxHeartbeats 4000000 in
set_option maxRecDepth 100000 in
theorem C146_isIn (l : Launch) (G : Nat → Nat) (D : va_G) (K : Nat → ClassId) (sz : Nat) : CM l yX12_isIn cX12_isIn 3 (some FieldType.boolean) ({ frames := 0, cells := 0, slots := 0, locals := 0 } : Room) G D K [.int (nI 3), .int (nI 0), .int (nI 20)] [] sz (CQi (nI 1) D (fun _ => [])) := by
  refine CM_of (lv0 := [(0, .int (nI 3)), (1, .int (nI 0)), (2, .int (nI 20))]) pn_RX12 (Nat.le_of_ble_eq_true rfl) rfl (fun p e s m args below meth c A ls hx hb hr hml hown hts hlk hnm hP hK hD hS hA hm hl => ?_)
  have hown : s.vm.findClass RX12 = some m.cls := hown
  refine lv_iload_n hx hb dX12_isIn_0 rfl (lv_at hl 0 rfl) ?_
  refine lv_iload_n hx hb dX12_isIn_1 rfl (lv_at hl 1 rfl) ?_
  refine lv_icmp_lt (tgt := 14) hx hb dX12_isIn_2 (by decide) (fun c9 => absurd c9 (by decide +kernel)) (fun _ => ?_)
  refine lv_iload_n hx hb dX12_isIn_5 rfl (lv_at hl 0 rfl) ?_
  refine lv_iload_n hx hb dX12_isIn_6 rfl (lv_at hl 2 rfl) ?_
  refine lv_icmp_gt (tgt := 14) hx hb dX12_isIn_7 (by decide) (fun c9 => absurd c9 (by decide +kernel)) (fun _ => ?_)
  refine lv_iconst (v := nI 1) hx hb dX12_isIn_10 (by decide +kernel) ?_
  refine lv_goto (tgt := 15) hx hb dX12_isIn_11 (by decide) ?_
  exact e_z hx hb hr hlk hP hD hS (fun _ => 0) rfl (Nat.le_of_ble_eq_true rfl) (Nat.le_of_ble_eq_true rfl) rfl (Or.inr rfl) dX12_isIn_15
set_option maxHeartbeats 4000000 in
set_option maxRecDepth 100000 in
theorem C147_addressFor (l : Launch) (G : Nat → Nat) (D : va_G) (K : Nat → ClassId) (sz : Nat) (h0 : Nat) (v0 v1 v2 v3 v4 v5 v6 v7 v8 v9 v10 v11 v12 v13 v14 : Value) : CM l yX10_addressFor cX10_addressFor 3 (some FieldType.int) ({ frames := 0, cells := 0, slots := 0, locals := 0 } : Room) G D K [.ref h0, .int (nI 3)] [(h0, .inr (10, [v0, v1, v2, v3, v4, .int (nI 0), .int (nI 0), v5, v6, v7, v8, v9, v10, v11, v12, v13, v14]))] sz (CQi (nI 0) D (fun _ => [(h0, .inr (10, [v0, v1, v2, v3, v4, .int (nI 0), .int (nI 0), v5, v6, v7, v8, v9, v10, v11, v12, v13, v14]))])) := by
  refine CM_of (lv0 := [(0, .ref h0), (1, .int (nI 3))]) pn_RX10 (Nat.le_of_ble_eq_true rfl) rfl (fun p e s m args below meth c A ls hx hb hr hml hown hts hlk hnm hP hK hD hS hA hm hl => ?_)
  have hown : s.vm.findClass RX10 = some m.cls := hown
  refine lv_iconst (v := nI 2) hx hb dX10_addressFor_0 (by decide +kernel) ?_
  refine lv_iload_n hx hb dX10_addressFor_1 rfl (lv_at hl 1 rfl) ?_
  refine lv_iadd hx hb dX10_addressFor_2 ?_
  refine w_toeq (show (nI 2) + (nI 3) = nI 5 by decide +kernel) ?_
  refine lv_istore_n (lv' := [(2, .int (nI 5)), (0, .ref h0), (1, .int (nI 3))]) hx hb dX10_addressFor_3 rfl hl (by decide) rfl (fun ls hl => ?_)
  refine lv_iload_n hx hb dX10_addressFor_4 rfl (lv_at hl 2 rfl) ?_
  refine lv_bipush (v := nI 12) hx hb dX10_addressFor_5 (by decide +kernel) ?_
  refine lv_icmp_lt (tgt := 16) hx hb dX10_addressFor_7 (by decide) (fun _ => ?_) (fun c9 => absurd (by decide +kernel) c9)
  refine lv_aload_n hx hb dX10_addressFor_16 rfl (lv_at hl 1 rfl) ?_
  refine r_get hx hb hts ok_RX10 hown hK hP 0 rfl rfl 6 (by decide) w_1236 (fun _ h9 => h9) rfl dX10_addressFor_17 ?_
  refine lv_iload_n hx hb dX10_addressFor_20 rfl (lv_at hl 0 rfl) ?_
  refine lv_iadd hx hb dX10_addressFor_21 ?_
  refine w_toeq (show (nI 0) + (nI 5) = nI 5 by decide +kernel) ?_
  refine lv_bipush (v := nI 40) hx hb dX10_addressFor_22 (by decide +kernel) ?_
  refine lv_icmp_gt (tgt := 39) hx hb dX10_addressFor_24 (by decide) (fun c9 => absurd c9 (by decide +kernel)) (fun _ => ?_)
  refine lv_aload_n hx hb dX10_addressFor_27 rfl (lv_at hl 1 rfl) ?_
  refine r_get hx hb hts ok_RX10 hown hK hP 0 rfl rfl 5 (by decide) w_1234 (fun _ h9 => h9) rfl dX10_addressFor_28 ?_
  refine lv_aload_n hx hb dX10_addressFor_31 rfl (lv_at hl 1 rfl) ?_
  refine r_get hx hb hts ok_RX10 hown hK hP 0 rfl rfl 6 (by decide) w_1236 (fun _ h9 => h9) rfl dX10_addressFor_32 ?_
  refine lv_iadd hx hb dX10_addressFor_35 ?_
  refine w_toeq (show (nI 0) + (nI 0) = nI 0 by decide +kernel) ?_
  refine lv_goto (tgt := 40) hx hb dX10_addressFor_36 (by decide) ?_
  exact e_i hx hb hr hlk hP hD hS (fun _ => 0) rfl (Nat.le_of_ble_eq_true rfl) (Nat.le_of_ble_eq_true rfl) rfl dX10_addressFor_40
set_option maxHeartbeats 4000000 in
set_option maxRecDepth 100000 in
theorem C148_init (l : Launch) (G : Nat → Nat) (D : va_G) (K : Nat → ClassId) (sz : Nat) (h0 : Nat) (v0 v1 v2 v3 v4 v5 v6 v7 v8 v9 : Value) (o0 : Int32) : CM l yX11_init cX11_init 5 (none : Option FieldType) ({ frames := 1, cells := 1, slots := 3, locals := 20 } : Room) G D K [.ref h0, .int (nI 0), .int o0, .int (nI 3)] [(h0, .inr (11, [v0, .null, v1, v2, v3, v4, v5, v6, v7, v8, v9]))] sz (CQv D (fun u => [(h0, .inr (11, [.int (nI 0), .ref (u 0), .int o0, v2, v3, v4, .int (-1), v6, v7, v8, v9])), ((u 0), .inl (K 2, 3, .inl (fun _ => (-1))))])) := by
  refine CM_of (lv0 := [(0, .ref h0), (1, .int (nI 0)), (2, .int o0), (3, .int (nI 3))]) pn_RX11 (Nat.le_of_ble_eq_true rfl) rfl (fun p e s m args below meth c A ls hx hb hr hml hown hts hlk hnm hP hK hD hS hA hm hl => ?_)
  have hown : s.vm.findClass RX11 = some m.cls := hown
  refine lv_aload_n hx hb dX11_init_0 rfl (lv_at hl 0 rfl) ?_
  refine r_oinit hx hb hts hown w_1827 w_44 w_45 hml hl.1 dX11_init_1 (Nat.le_of_ble_eq_true rfl) (Nat.le_of_ble_eq_true rfl) ?_
  refine lv_aload_n hx hb dX11_init_4 rfl (lv_at hl 0 rfl) ?_
  refine lv_iconst (v := (-1)) hx hb dX11_init_5 (by decide +kernel) ?_
  refine r_put hx hb hts ok_RX11 hown hK hP hD hS 0 rfl rfl 6 (by decide) w_1846 (fun _ h9 => h9) rfl (v := .int (-1)) rfl rfl (Nat.le_of_ble_eq_true rfl) dX11_init_6 (ws' := [(h0, .inr (11, [v0, .null, v1, v2, v3, v4, .int (-1), v6, v7, v8, v9]))]) rfl (fun H locs hP hD hS => ?_)
  refine lv_aload_n hx hb dX11_init_9 rfl (lv_at hl 0 rfl) ?_
  refine lv_iload_n hx hb dX11_init_10 rfl (lv_at hl 1 rfl) ?_
  refine r_putF hx hb hts ok_RX11 hown hK hP hD hS 0 rfl rfl 0 (by decide) w_1828 (fun _ h9 => h9) rfl hnm rfl (v := .int (nI 0)) rfl rfl (Nat.le_of_ble_eq_true rfl) dX11_init_11 (ws' := [(h0, .inr (11, [.int (nI 0), .null, v1, v2, v3, v4, .int (-1), v6, v7, v8, v9]))]) rfl (fun H locs hP hD hS => ?_)
  refine lv_aload_n hx hb dX11_init_14 rfl (lv_at hl 0 rfl) ?_
  refine lv_iload_n hx hb dX11_init_15 rfl (lv_at hl 2 rfl) ?_
  refine r_put hx hb hts ok_RX11 hown hK hP hD hS 0 rfl rfl 2 (by decide) w_1834 (fun _ h9 => h9) rfl (v := .int o0) rfl rfl (Nat.le_of_ble_eq_true rfl) dX11_init_16 (ws' := [(h0, .inr (11, [.int (nI 0), .null, .int o0, v2, v3, v4, .int (-1), v6, v7, v8, v9]))]) rfl (fun H locs hP hD hS => ?_)
  refine lv_aload_n hx hb dX11_init_19 rfl (lv_at hl 0 rfl) ?_
  refine lv_iload_n hx hb dX11_init_20 rfl (lv_at hl 3 rfl) ?_
  refine r_newa (atype := .int) hx hb hts w_1292 rfl hK hP hD hS hA 2 rfl (N := 3) (a0 := (3, .inl (fun _ => nI 0))) (fun _ => rfl) (by decide +kernel) (by decide +kernel) (by decide) (Nat.le_of_ble_eq_true rfl) (Nat.le_of_ble_eq_true rfl) dX11_init_21 (w2 := fun q0 => [(h0, .inr (11, [.int (nI 0), .null, .int o0, v2, v3, v4, .int (-1), v6, v7, v8, v9])), (q0, .inl (K 2, 3, .inl (fun _ => nI 0)))]) (fun _ => rfl) (fun q0 H hP hD hS => ?_)
  refine r_putF hx hb hts ok_RX11 hown hK hP hD hS 0 rfl rfl 1 (by decide) w_1831 (fun _ h9 => h9) rfl hnm rfl (v := .ref q0) rfl rfl (Nat.le_of_ble_eq_true rfl) dX11_init_23 (ws' := [(h0, .inr (11, [.int (nI 0), .ref q0, .int o0, v2, v3, v4, .int (-1), v6, v7, v8, v9])), (q0, .inl (K 2, 3, .inl (fun _ => nI 0)))]) rfl (fun H locs hP hD hS => ?_)
  refine lv_iconst (v := nI 0) hx hb dX11_init_26 (by decide +kernel) ?_
  refine lv_istore (lv' := [(4, .int (nI 0)), (0, .ref h0), (1, .int (nI 0)), (2, .int o0), (3, .int (nI 3))]) hx hb dX11_init_27 hl (by decide) rfl (fun ls hl => ?_)
  refine lv_iload hx hb dX11_init_29 (lv_at hl 0 rfl) ?_
  refine lv_iload_n hx hb dX11_init_31 rfl (lv_at hl 4 rfl) ?_
  refine lv_icmp_ge (tgt := 49) hx hb dX11_init_32 (by decide) (fun c9 => absurd c9 (by decide +kernel)) (fun _ => ?_)
  refine lv_aload_n hx hb dX11_init_35 rfl (lv_at hl 1 rfl) ?_
  refine r_get hx hb hts ok_RX11 hown hK hP 0 rfl rfl 1 (by decide) w_1831 (fun _ h9 => h9) rfl dX11_init_36 ?_
  refine lv_iload hx hb dX11_init_39 (lv_at hl 0 rfl) ?_
  refine lv_iconst (v := (-1)) hx hb dX11_init_41 (by decide +kernel) ?_
  refine r_iast (k := 0) hx hb hK hP hD hS 1 2 rfl rfl (Nat.le_of_ble_eq_true rfl) (by decide) dX11_init_42 (ws' := [(h0, .inr (11, [.int (nI 0), .ref q0, .int o0, v2, v3, v4, .int (-1), v6, v7, v8, v9])), (q0, .inl (K 2, 3, .inl (upd (fun _ => nI 0) 0 (-1))))]) rfl (fun H locs hP hD hS => ?_)
  refine lv_iinc (v := nI 1) (lv' := [(4, .int (nI 1)), (0, .ref h0), (1, .int (nI 0)), (2, .int o0), (3, .int (nI 3))]) hx hb dX11_init_43 hl (k := 0) rfl (by decide +kernel) (by decide) rfl (fun ls hl => ?_)
  refine lv_goto (tgt := 29) hx hb dX11_init_46 (by decide) ?_
  refine lv_iload hx hb dX11_init_29 (lv_at hl 0 rfl) ?_
  refine lv_iload_n hx hb dX11_init_31 rfl (lv_at hl 4 rfl) ?_
  refine lv_icmp_ge (tgt := 49) hx hb dX11_init_32 (by decide) (fun c9 => absurd c9 (by decide +kernel)) (fun _ => ?_)
  refine lv_aload_n hx hb dX11_init_35 rfl (lv_at hl 1 rfl) ?_
  refine r_get hx hb hts ok_RX11 hown hK hP 0 rfl rfl 1 (by decide) w_1831 (fun _ h9 => h9) rfl dX11_init_36 ?_
  refine lv_iload hx hb dX11_init_39 (lv_at hl 0 rfl) ?_
  refine lv_iconst (v := (-1)) hx hb dX11_init_41 (by decide +kernel) ?_
  refine r_iast (k := 1) hx hb hK hP hD hS 1 2 rfl rfl (Nat.le_of_ble_eq_true rfl) (by decide) dX11_init_42 (ws' := [(h0, .inr (11, [.int (nI 0), .ref q0, .int o0, v2, v3, v4, .int (-1), v6, v7, v8, v9])), (q0, .inl (K 2, 3, .inl (upd (upd (fun _ => nI 0) 0 (-1)) 1 (-1))))]) rfl (fun H locs hP hD hS => ?_)
  refine lv_iinc (v := nI 2) (lv' := [(4, .int (nI 2)), (0, .ref h0), (1, .int (nI 0)), (2, .int o0), (3, .int (nI 3))]) hx hb dX11_init_43 hl (k := 0) rfl (by decide +kernel) (by decide) rfl (fun ls hl => ?_)
  refine lv_goto (tgt := 29) hx hb dX11_init_46 (by decide) ?_
  refine lv_iload hx hb dX11_init_29 (lv_at hl 0 rfl) ?_
  refine lv_iload_n hx hb dX11_init_31 rfl (lv_at hl 4 rfl) ?_
  refine lv_icmp_ge (tgt := 49) hx hb dX11_init_32 (by decide) (fun c9 => absurd c9 (by decide +kernel)) (fun _ => ?_)
  refine lv_aload_n hx hb dX11_init_35 rfl (lv_at hl 1 rfl) ?_
  refine r_get hx hb hts ok_RX11 hown hK hP 0 rfl rfl 1 (by decide) w_1831 (fun _ h9 => h9) rfl dX11_init_36 ?_
  refine lv_iload hx hb dX11_init_39 (lv_at hl 0 rfl) ?_
  refine lv_iconst (v := (-1)) hx hb dX11_init_41 (by decide +kernel) ?_
  refine r_iast (k := 2) hx hb hK hP hD hS 1 2 rfl rfl (Nat.le_of_ble_eq_true rfl) (by decide) dX11_init_42 (ws' := [(h0, .inr (11, [.int (nI 0), .ref q0, .int o0, v2, v3, v4, .int (-1), v6, v7, v8, v9])), (q0, .inl (K 2, 3, .inl (upd (upd (upd (fun _ => nI 0) 0 (-1)) 1 (-1)) 2 (-1))))]) rfl (fun H locs hP hD hS => ?_)
  obtain ⟨hP, hD⟩ := nrm (g := fun _ => (-1)) (ws' := [(h0, .inr (11, [.int (nI 0), .ref q0, .int o0, v2, v3, v4, .int (-1), v6, v7, v8, v9])), (q0, .inl (K 2, 3, .inl (fun _ => (-1))))]) hP hD 1 rfl (fun j hj => by rcases (show j = 0 ∨ j = 1 ∨ j = 2 by omega) with rfl | rfl | rfl <;> rfl) rfl
  refine lv_iinc (v := nI 3) (lv' := [(4, .int (nI 3)), (0, .ref h0), (1, .int (nI 0)), (2, .int o0), (3, .int (nI 3))]) hx hb dX11_init_43 hl (k := 0) rfl (by decide +kernel) (by decide) rfl (fun ls hl => ?_)
  refine lv_goto (tgt := 29) hx hb dX11_init_46 (by decide) ?_
  refine lv_iload hx hb dX11_init_29 (lv_at hl 0 rfl) ?_
  refine lv_iload_n hx hb dX11_init_31 rfl (lv_at hl 4 rfl) ?_
  refine lv_icmp_ge (tgt := 49) hx hb dX11_init_32 (by decide) (fun _ => ?_) (fun c9 => absurd (by decide +kernel) c9)
  exact e_v hx hb hr hlk hP hD hS (fun k => match k with | 0 => q0 | _ => 0) rfl (Nat.le_of_ble_eq_true rfl) (Nat.le_of_ble_eq_true rfl) dX11_init_49
