/-! METHODS as functions, with their contracts, written by wip/p32/sx2.py -/
def f_Mi_isLeft (n : Nat) (M : cSt) (t0 : Option Nat) : Option (Int) := on t0 (some 0) (fun q1 => og (q1 < n) (og (inR (gT M q1 3)) (if gT M q1 3 = 1 then og (inR (gT M q1 11)) (if gT M q1 11 = 0 then some 1 else some 0) else some 0)))
set_option maxHeartbeats 4000000 in
set_option maxRecDepth 100000 in
theorem C_Mi_isLeft (l : Launch) (G : Nat → Nat) (D : va_G) (K : Nat → ClassId) (sz : Nat) (ga : Nat → Nat) (n : Nat) (M : cSt) (t0 : Option Nat) {x : Int} (h : f_Mi_isLeft n M t0 = some x) : CM l yX2_isLeft cX2_isLeft 1 (some FieldType.boolean) ({ frames := 0, cells := 0, slots := 0, locals := 0 } : Room) G D K [ctv ga t0] (wld ga n (K 0) (K 1) M) sz (CQi (iI x) D (fun _ => wld ga n (K 0) (K 1) M)) := by
  refine CM_of (lv0 := [(0, ctv ga t0)]) pn_RX2 (by cases t0 <;> exact (Nat.le_of_ble_eq_true rfl)) (by cases t0 <;> rfl) (fun p e s m args below meth c A ls hx hb hr hml hown hts hlk hnm hP hK hD hS hA hm hl => ?_)
  have hown : s.vm.findClass RX2 = some m.cls := hown
  unfold f_Mi_isLeft at h
  refine t_aload_n hx hb dX2_isLeft_0 rfl (lv_at hl 0 rfl) ?_
  rcases on_cases h with ⟨z1, h⟩ | ⟨q1, z1, h⟩
  · rw [ctv_none ga z1]
    refine lv_ifnullN (tgt := 23) hx hb dX2_isLeft_1 (by decide) ?_
    refine lv_iconst (v := iI 0) hx hb dX2_isLeft_23 rfl ?_
    obtain rfl := Option.some.inj h
    exact e_z hx hb hr hlk hP hD hS (fun _ => 0) rfl (Nat.le_of_ble_eq_true rfl) (Nat.le_of_ble_eq_true rfl) rfl (b01 (Or.inl rfl)) dX2_isLeft_24
  · obtain ⟨hq1, h⟩ := og_some h
    rw [ctv_some ga z1]
    refine lv_ifnull hx hb dX2_isLeft_1 ?_
    refine t_aload_n hx hb dX2_isLeft_4 rfl (lv_at hl 0 rfl) ?_
    rw [ctv_some ga z1]
    refine r_get hx hb hts ok_RX7 hown hK hP (25 + 2 * q1) (go_th hq1) rfl 3 (by decide) w_688 (fun _ h9 => h9) rfl dX2_isLeft_5 ?_
    refine lv_iconst (v := iI 1) hx hb dX2_isLeft_8 rfl ?_
    obtain ⟨g2, h⟩ := og_some h
    by_cases c3 : gT M q1 3 = 1
    · replace h := it_T h c3
      refine i_icmp_ne_F hx hb g2 ⟨by decide, by decide⟩ (tgt := 23) dX2_isLeft_9 (by decide) c3 ?_
      refine t_aload_n hx hb dX2_isLeft_12 rfl (lv_at hl 0 rfl) ?_
      rw [ctv_some ga z1]
      refine r_get hx hb hts ok_RX7 hown hK hP (25 + 2 * q1) (go_th hq1) rfl 11 (by decide) w_719 (fun _ h9 => h9) rfl dX2_isLeft_13 ?_
      obtain ⟨g4, h⟩ := og_some h
      by_cases c5 : gT M q1 11 = 0
      · replace h := it_T h c5
        refine i_if_ne_F hx hb g4 (tgt := 23) dX2_isLeft_16 (by decide) c5 ?_
        refine lv_iconst (v := iI 1) hx hb dX2_isLeft_19 rfl ?_
        refine lv_goto (tgt := 24) hx hb dX2_isLeft_20 (by decide) ?_
        obtain rfl := Option.some.inj h
        exact e_z hx hb hr hlk hP hD hS (fun _ => 0) rfl (Nat.le_of_ble_eq_true rfl) (Nat.le_of_ble_eq_true rfl) rfl (b01 (Or.inr rfl)) dX2_isLeft_24
      · replace h := it_F h c5
        refine i_if_ne_T hx hb g4 (tgt := 23) dX2_isLeft_16 (by decide) c5 ?_
        refine lv_iconst (v := iI 0) hx hb dX2_isLeft_23 rfl ?_
        obtain rfl := Option.some.inj h
        exact e_z hx hb hr hlk hP hD hS (fun _ => 0) rfl (Nat.le_of_ble_eq_true rfl) (Nat.le_of_ble_eq_true rfl) rfl (b01 (Or.inl rfl)) dX2_isLeft_24
    · replace h := it_F h c3
      refine i_icmp_ne_T hx hb g2 ⟨by decide, by decide⟩ (tgt := 23) dX2_isLeft_9 (by decide) c3 ?_
      refine lv_iconst (v := iI 0) hx hb dX2_isLeft_23 rfl ?_
      obtain rfl := Option.some.inj h
      exact e_z hx hb hr hlk hP hD hS (fun _ => 0) rfl (Nat.le_of_ble_eq_true rfl) (Nat.le_of_ble_eq_true rfl) rfl (b01 (Or.inl rfl)) dX2_isLeft_24
def f_Mi_move (n : Nat) (M : cSt) (t1 : Option Nat) : Option (cSt) := on t1 (some M) (fun q1 => og (q1 < n) (ob (f_Mi_isLeft n M (some q1)) (fun x2 => og (inR x2) (if x2 = 0 then some M else og (inR (gI (sT (sT M q1 11 1) q1 7 (gT (sT M q1 11 1) q1 7 + 1)) 23 + gT (sT (sT M q1 11 1) q1 7 (gT (sT M q1 11 1) q1 7 + 1)) q1 6)) (og (inR (gI (sT (sT M q1 11 1) q1 7 (gT (sT M q1 11 1) q1 7 + 1)) 22 + 40)) (if (gI (sT (sT M q1 11 1) q1 7 (gT (sT M q1 11 1) q1 7 + 1)) 22 + 40) < (gI (sT (sT M q1 11 1) q1 7 (gT (sT M q1 11 1) q1 7 + 1)) 23 + gT (sT (sT M q1 11 1) q1 7 (gT (sT M q1 11 1) q1 7 + 1)) q1 6) then og (inR (gT (sT (sT M q1 11 1) q1 7 (gT (sT M q1 11 1) q1 7 + 1)) q1 7)) (og (inR (gI (sT (sT M q1 11 1) q1 7 (gT (sT M q1 11 1) q1 7 + 1)) 20)) (if gT (sT (sT M q1 11 1) q1 7 (gT (sT M q1 11 1) q1 7 + 1)) q1 7 < gI (sT (sT M q1 11 1) q1 7 (gT (sT M q1 11 1) q1 7 + 1)) 20 then ob (f_Pl_moveToOld n (sT (sT M q1 11 1) q1 7 (gT (sT M q1 11 1) q1 7 + 1)) (some q1)) (fun x11 => ob (f_Row_add n x11 6 (some q1)) (fun x12 => some x12)) else ob (f_Pl_moveToOld n (sT (sT M q1 11 1) q1 7 (gT (sT M q1 11 1) q1 7 + 1)) (some q1)) (fun x13 => ob (f_Row_add n x13 6 (some q1)) (fun x14 => some x14)))) else og (inR (gT (sT (sT M q1 11 1) q1 7 (gT (sT M q1 11 1) q1 7 + 1)) q1 7)) (og (inR (gI (sT (sT M q1 11 1) q1 7 (gT (sT M q1 11 1) q1 7 + 1)) 20)) (if gT (sT (sT M q1 11 1) q1 7 (gT (sT M q1 11 1) q1 7 + 1)) q1 7 < gI (sT (sT M q1 11 1) q1 7 (gT (sT M q1 11 1) q1 7 + 1)) 20 then ob (f_Th_moveTo n (sT (sT M q1 11 1) q1 7 (gT (sT M q1 11 1) q1 7 + 1)) q1 1 (gI (sT (sT M q1 11 1) q1 7 (gT (sT M q1 11 1) q1 7 + 1)) 23)) (fun x18 => ob (f_Th_end n x18 q1) (fun x19 => ob (f_Row_add n (sI x18 23 x19) 6 (some q1)) (fun x20 => some x20))) else ob (f_Pl_moveToOld n (sT (sT M q1 11 1) q1 7 (gT (sT M q1 11 1) q1 7 + 1)) (some q1)) (fun x21 => ob (f_Row_add n x21 6 (some q1)) (fun x22 => some x22))))))))))
set_option maxHeartbeats 4000000 in
set_option maxRecDepth 100000 in
theorem C_Mi_move (l : Launch) (G : Nat → Nat) (D : va_G) (K : Nat → ClassId) (sz : Nat) (ga : Nat → Nat) (n : Nat) (M : cSt) (t1 : Option Nat) {x : cSt} (h : f_Mi_move n M t1 = some x) : CM l yX2_move cX2_move 3 (none : Option FieldType) ({ frames := 2, cells := 0, slots := 0, locals := 43 } : Room) G D K [.ref (ga 6), ctv ga t1] (wld ga n (K 0) (K 1) M) sz (CQv D (fun _ => wld ga n (K 0) (K 1) x)) := by
  refine CM_of (lv0 := [(0, .ref (ga 6)), (1, ctv ga t1)]) pn_RX2 (by cases t1 <;> exact (Nat.le_of_ble_eq_true rfl)) (by cases t1 <;> rfl) (fun p e s m args below meth c A ls hx hb hr hml hown hts hlk hnm hP hK hD hS hA hm hl => ?_)
  have hown : s.vm.findClass RX2 = some m.cls := hown
  unfold f_Mi_move at h
  refine t_aload_n hx hb dX2_move_0 rfl (lv_at hl 1 rfl) ?_
  rcases on_cases h with ⟨z1, h⟩ | ⟨q1, z1, h⟩
  · rw [ctv_none ga z1]
    refine lv_ifnullN (tgt := 11) hx hb dX2_move_1 (by decide) ?_
    obtain rfl := Option.some.inj h
    exact e_v hx hb hr hlk hP hD hS (fun _ => 0) rfl (Nat.le_of_ble_eq_true rfl) (Nat.le_of_ble_eq_true rfl) dX2_move_11
  · obtain ⟨hq1, h⟩ := og_some h
    rw [ctv_some ga z1]
    refine lv_ifnull hx hb dX2_move_1 ?_
    refine t_aload_n hx hb dX2_move_4 rfl (lv_at hl 1 rfl) ?_
    rw [ctv_some ga z1]
    obtain ⟨x2, ex2, h⟩ := ob_some h
    refine gk_i (run_S (rest := []) hx hb hml hown hts hK hP hD hS hA hm (C_Mi_isLeft l G D K s.heap.size ga n M (some q1) ex2) _ (full_C _) (full_n _ List.nodup_range) mok_yX2_isLeft w_486 w_487 ⟨Nat.le_of_ble_eq_true rfl, Nat.le_of_ble_eq_true rfl⟩ rfl hl.1 rfl (Nat.le_of_ble_eq_true rfl) dX2_move_5 ⟨(Nat.le_of_ble_eq_true rfl), (Nat.le_of_ble_eq_true rfl)⟩) hP hD hS hA (fun u H locs (hP : va_P D cl (wld ga n (K 0) (K 1) M) H) (hD : va_D A (wld ga n (K 0) (K 1) M)) hS => ?_)
    obtain ⟨g3, h⟩ := og_some h
    by_cases c4 : x2 = 0
    · replace h := it_T h c4
      refine i_if_ne_F hx hb g3 (tgt := 12) dX2_move_8 (by decide) c4 ?_
      obtain rfl := Option.some.inj h
      exact e_v hx hb hr hlk hP hD hS (fun _ => 0) rfl (Nat.le_of_ble_eq_true rfl) (Nat.le_of_ble_eq_true rfl) dX2_move_11
    · replace h := it_F h c4
      refine i_if_ne_T hx hb g3 (tgt := 12) dX2_move_8 (by decide) c4 ?_
      refine t_aload_n hx hb dX2_move_12 rfl (lv_at hl 1 rfl) ?_
      rw [ctv_some ga z1]
      refine lv_iconst (v := iI 1) hx hb dX2_move_13 rfl ?_
      refine r_put hx hb hts ok_RX7 hown hK hP hD hS (25 + 2 * q1) (go_th hq1) rfl 11 (by decide) w_719 (fun _ h9 => h9) rfl (v := .int (iI 1)) (nar_b (Or.inr rfl)) (fit_b (Or.inr rfl)) (Nat.le_of_ble_eq_true rfl) dX2_move_14 (ws' := wld ga n (K 0) (K 1) (sT M q1 11 1)) wT_11 (fun H locs hP hD hS => ?_)
      refine t_aload_n hx hb dX2_move_17 rfl (lv_at hl 1 rfl) ?_
      rw [ctv_some ga z1]
      refine lv_dup hx hb dX2_move_18 rfl ?_
      refine r_get hx hb hts ok_RX7 hown hK hP (25 + 2 * q1) (go_th hq1) rfl 7 (by decide) w_707 (fun _ h9 => h9) rfl dX2_move_19 ?_
      refine lv_iconst (v := iI 1) hx hb dX2_move_22 rfl ?_
      refine lv_iadd hx hb dX2_move_23 ?_
      refine w_toeq (iI_add (gT (sT M q1 11 1) q1 7) 1) ?_
      refine r_put hx hb hts ok_RX7 hown hK hP hD hS (25 + 2 * q1) (go_th hq1) rfl 7 (by decide) w_707 (fun _ h9 => h9) rfl (v := .int (iI (gT (sT M q1 11 1) q1 7 + 1))) rfl rfl (Nat.le_of_ble_eq_true rfl) dX2_move_24 (ws' := wld ga n (K 0) (K 1) (sT (sT M q1 11 1) q1 7 (gT (sT M q1 11 1) q1 7 + 1))) wT_7 (fun H locs hP hD hS => ?_)
      refine lv_aload_n hx hb dX2_move_27 rfl (lv_at hl 0 rfl) ?_
      refine r_get hx hb hts ok_RX2 hown hK hP 6 go_6 rfl 8 (by decide) w_192 (fun _ h9 => h9) rfl dX2_move_28 ?_
      refine t_aload_n hx hb dX2_move_31 rfl (lv_at hl 1 rfl) ?_
      rw [ctv_some ga z1]
      refine r_get hx hb hts ok_RX7 hown hK hP (25 + 2 * q1) (go_th hq1) rfl 6 (by decide) w_704 (fun _ h9 => h9) rfl dX2_move_32 ?_
      refine lv_iadd hx hb dX2_move_35 ?_
      refine w_toeq (iI_add (gI (sT (sT M q1 11 1) q1 7 (gT (sT M q1 11 1) q1 7 + 1)) 23) (gT (sT (sT M q1 11 1) q1 7 (gT (sT M q1 11 1) q1 7 + 1)) q1 6)) ?_
      refine lv_aload_n hx hb dX2_move_36 rfl (lv_at hl 0 rfl) ?_
      refine r_get hx hb hts ok_RX2 hown hK hP 6 go_6 rfl 7 (by decide) w_191 (fun _ h9 => h9) rfl dX2_move_37 ?_
      refine lv_bipush (v := iI 40) hx hb dX2_move_40 rfl ?_
      refine lv_iadd hx hb dX2_move_42 ?_
      refine w_toeq (iI_add (gI (sT (sT M q1 11 1) q1 7 (gT (sT M q1 11 1) q1 7 + 1)) 22) 40) ?_
      obtain ⟨g5, h⟩ := og_some h
      obtain ⟨g6, h⟩ := og_some h
      by_cases c7 : (gI (sT (sT M q1 11 1) q1 7 (gT (sT M q1 11 1) q1 7 + 1)) 22 + 40) < (gI (sT (sT M q1 11 1) q1 7 (gT (sT M q1 11 1) q1 7 + 1)) 23 + gT (sT (sT M q1 11 1) q1 7 (gT (sT M q1 11 1) q1 7 + 1)) q1 6)
      · replace h := it_T h c7
        refine i_icmp_gt_T hx hb g5 g6 (tgt := 50) dX2_move_43 (by decide) c7 ?_
        refine lv_iconst (v := iI 0) hx hb dX2_move_50 rfl ?_
        refine x_istore_n hx hb dX2_move_51 rfl hl (by decide) [0, 1] (lv' := [(0, .ref (ga 6)), (1, ctv ga t1)]) rfl (⟨⟨Nat.ne_of_beq_eq_false rfl, Or.inl (Nat.ne_of_beq_eq_false rfl)⟩, ⟨⟨Nat.ne_of_beq_eq_false rfl, Or.inr (ctv_cat _ _)⟩, trivial⟩⟩) (fun ls hl => ?_)
        refine t_aload_n hx hb dX2_move_52 rfl (lv_at hl 2 rfl) ?_
        rw [ctv_some ga z1]
        refine r_get hx hb hts ok_RX7 hown hK hP (25 + 2 * q1) (go_th hq1) rfl 7 (by decide) w_707 (fun _ h9 => h9) rfl dX2_move_53 ?_
        refine lv_aload_n hx hb dX2_move_56 rfl (lv_at hl 1 rfl) ?_
        refine r_get hx hb hts ok_RX2 hown hK hP 6 go_6 rfl 0 (by decide) w_184 (fun _ h9 => h9) rfl dX2_move_57 ?_
        obtain ⟨g8, h⟩ := og_some h
        obtain ⟨g9, h⟩ := og_some h
        by_cases c10 : gT (sT (sT M q1 11 1) q1 7 (gT (sT M q1 11 1) q1 7 + 1)) q1 7 < gI (sT (sT M q1 11 1) q1 7 (gT (sT M q1 11 1) q1 7 + 1)) 20
        · replace h := it_T h c10
          refine i_icmp_ge_F hx hb g8 g9 (tgt := 67) dX2_move_60 (by decide) c10 ?_
          refine lv_iload_n hx hb dX2_move_63 rfl (lv_at hl 0 rfl) ?_
          refine i_if_ne_F (a := 0) hx hb ⟨by decide, by decide⟩ (tgt := 78) dX2_move_64 (by decide) (by decide) ?_
          refine lv_aload_n hx hb dX2_move_67 rfl (lv_at hl 1 rfl) ?_
          refine r_get hx hb hts ok_RX2 hown hK hP 6 go_6 rfl 3 (by decide) w_187 (fun _ h9 => h9) rfl dX2_move_68 ?_
          refine t_aload_n hx hb dX2_move_71 rfl (lv_at hl 2 rfl) ?_
          rw [ctv_some ga z1]
          obtain ⟨x11, ex11, h⟩ := ob_some h
          refine gk_v (run_V (rest := []) hx hb hml hown hts hK hP hD hS hA hm (C_Pl_moveToOld l G D K H.size ga n (sT (sT M q1 11 1) q1 7 (gT (sT M q1 11 1) q1 7 + 1)) (some q1) ex11) _ (full_C _) (full_n _ List.nodup_range) mok_yX3_moveToOld w_489 w_490 w_491 (rcv hK hP 2 go_2 rfl rfl) ⟨Nat.le_of_ble_eq_true rfl, Nat.le_of_ble_eq_true rfl⟩ rfl hl.1 rfl (Nat.le_of_ble_eq_true rfl) dX2_move_72 ⟨(Nat.le_of_ble_eq_true rfl), (Nat.le_of_ble_eq_true rfl)⟩) hP hD hS hA (fun u H locs (hP : va_P D cl (wld ga n (K 0) (K 1) x11) H) (hD : va_D A (wld ga n (K 0) (K 1) x11)) hS => ?_)
          refine lv_goto (tgt := 95) hx hb dX2_move_75 (by decide) ?_
          refine lv_aload_n hx hb dX2_move_95 rfl (lv_at hl 1 rfl) ?_
          refine r_get hx hb hts ok_RX2 hown hK hP 6 go_6 rfl 5 (by decide) w_189 (fun _ h9 => h9) rfl dX2_move_96 ?_
          refine t_aload_n hx hb dX2_move_99 rfl (lv_at hl 2 rfl) ?_
          rw [ctv_some ga z1]
          obtain ⟨x12, ex12, h⟩ := ob_some h
          refine gk_v (run_V (rest := []) hx hb hml hown hts hK hP hD hS hA hm (C_Row_add l G D K H.size ga n x11 6 (by decide) (some q1) ex12) _ (full_C _) (full_n _ List.nodup_range) mok_yX5_add w_464 w_465 w_466 (rcv hK hP (8 + 6) (go_ro (by decide)) rfl rfl) ⟨Nat.le_of_ble_eq_true rfl, Nat.le_of_ble_eq_true rfl⟩ rfl hl.1 rfl (Nat.le_of_ble_eq_true rfl) dX2_move_100 ⟨(Nat.le_of_ble_eq_true rfl), (Nat.le_of_ble_eq_true rfl)⟩) hP hD hS hA (fun u H locs (hP : va_P D cl (wld ga n (K 0) (K 1) x12) H) (hD : va_D A (wld ga n (K 0) (K 1) x12)) hS => ?_)
          obtain rfl := Option.some.inj h
          exact e_v hx hb hr hlk hP hD hS (fun _ => 0) rfl (Nat.le_of_ble_eq_true rfl) (Nat.le_of_ble_eq_true rfl) dX2_move_103
        · replace h := it_F h c10
          refine i_icmp_ge_T hx hb g8 g9 (tgt := 67) dX2_move_60 (by decide) c10 ?_
          refine lv_aload_n hx hb dX2_move_67 rfl (lv_at hl 1 rfl) ?_
          refine r_get hx hb hts ok_RX2 hown hK hP 6 go_6 rfl 3 (by decide) w_187 (fun _ h9 => h9) rfl dX2_move_68 ?_
          refine t_aload_n hx hb dX2_move_71 rfl (lv_at hl 2 rfl) ?_
          rw [ctv_some ga z1]
          obtain ⟨x13, ex13, h⟩ := ob_some h
          refine gk_v (run_V (rest := []) hx hb hml hown hts hK hP hD hS hA hm (C_Pl_moveToOld l G D K H.size ga n (sT (sT M q1 11 1) q1 7 (gT (sT M q1 11 1) q1 7 + 1)) (some q1) ex13) _ (full_C _) (full_n _ List.nodup_range) mok_yX3_moveToOld w_489 w_490 w_491 (rcv hK hP 2 go_2 rfl rfl) ⟨Nat.le_of_ble_eq_true rfl, Nat.le_of_ble_eq_true rfl⟩ rfl hl.1 rfl (Nat.le_of_ble_eq_true rfl) dX2_move_72 ⟨(Nat.le_of_ble_eq_true rfl), (Nat.le_of_ble_eq_true rfl)⟩) hP hD hS hA (fun u H locs (hP : va_P D cl (wld ga n (K 0) (K 1) x13) H) (hD : va_D A (wld ga n (K 0) (K 1) x13)) hS => ?_)
          refine lv_goto (tgt := 95) hx hb dX2_move_75 (by decide) ?_
          refine lv_aload_n hx hb dX2_move_95 rfl (lv_at hl 1 rfl) ?_
          refine r_get hx hb hts ok_RX2 hown hK hP 6 go_6 rfl 5 (by decide) w_189 (fun _ h9 => h9) rfl dX2_move_96 ?_
          refine t_aload_n hx hb dX2_move_99 rfl (lv_at hl 2 rfl) ?_
          rw [ctv_some ga z1]
          obtain ⟨x14, ex14, h⟩ := ob_some h
          refine gk_v (run_V (rest := []) hx hb hml hown hts hK hP hD hS hA hm (C_Row_add l G D K H.size ga n x13 6 (by decide) (some q1) ex14) _ (full_C _) (full_n _ List.nodup_range) mok_yX5_add w_464 w_465 w_466 (rcv hK hP (8 + 6) (go_ro (by decide)) rfl rfl) ⟨Nat.le_of_ble_eq_true rfl, Nat.le_of_ble_eq_true rfl⟩ rfl hl.1 rfl (Nat.le_of_ble_eq_true rfl) dX2_move_100 ⟨(Nat.le_of_ble_eq_true rfl), (Nat.le_of_ble_eq_true rfl)⟩) hP hD hS hA (fun u H locs (hP : va_P D cl (wld ga n (K 0) (K 1) x14) H) (hD : va_D A (wld ga n (K 0) (K 1) x14)) hS => ?_)
          obtain rfl := Option.some.inj h
          exact e_v hx hb hr hlk hP hD hS (fun _ => 0) rfl (Nat.le_of_ble_eq_true rfl) (Nat.le_of_ble_eq_true rfl) dX2_move_103
      · replace h := it_F h c7
        refine i_icmp_gt_F hx hb g5 g6 (tgt := 50) dX2_move_43 (by decide) c7 ?_
        refine lv_iconst (v := iI 1) hx hb dX2_move_46 rfl ?_
        refine lv_goto (tgt := 51) hx hb dX2_move_47 (by decide) ?_
        refine x_istore_n hx hb dX2_move_51 rfl hl (by decide) [0, 1] (lv' := [(0, .ref (ga 6)), (1, ctv ga t1)]) rfl (⟨⟨Nat.ne_of_beq_eq_false rfl, Or.inl (Nat.ne_of_beq_eq_false rfl)⟩, ⟨⟨Nat.ne_of_beq_eq_false rfl, Or.inr (ctv_cat _ _)⟩, trivial⟩⟩) (fun ls hl => ?_)
        refine t_aload_n hx hb dX2_move_52 rfl (lv_at hl 2 rfl) ?_
        rw [ctv_some ga z1]
        refine r_get hx hb hts ok_RX7 hown hK hP (25 + 2 * q1) (go_th hq1) rfl 7 (by decide) w_707 (fun _ h9 => h9) rfl dX2_move_53 ?_
        refine lv_aload_n hx hb dX2_move_56 rfl (lv_at hl 1 rfl) ?_
        refine r_get hx hb hts ok_RX2 hown hK hP 6 go_6 rfl 0 (by decide) w_184 (fun _ h9 => h9) rfl dX2_move_57 ?_
        obtain ⟨g15, h⟩ := og_some h
        obtain ⟨g16, h⟩ := og_some h
        by_cases c17 : gT (sT (sT M q1 11 1) q1 7 (gT (sT M q1 11 1) q1 7 + 1)) q1 7 < gI (sT (sT M q1 11 1) q1 7 (gT (sT M q1 11 1) q1 7 + 1)) 20
        · replace h := it_T h c17
          refine i_icmp_ge_F hx hb g15 g16 (tgt := 67) dX2_move_60 (by decide) c17 ?_
          refine lv_iload_n hx hb dX2_move_63 rfl (lv_at hl 0 rfl) ?_
          refine i_if_ne_T (a := 1) hx hb ⟨by decide, by decide⟩ (tgt := 78) dX2_move_64 (by decide) (by decide) ?_
          refine t_aload_n hx hb dX2_move_78 rfl (lv_at hl 2 rfl) ?_
          rw [ctv_some ga z1]
          refine lv_iconst (v := iI 1) hx hb dX2_move_79 rfl ?_
          refine lv_aload_n hx hb dX2_move_80 rfl (lv_at hl 1 rfl) ?_
          refine r_get hx hb hts ok_RX2 hown hK hP 6 go_6 rfl 8 (by decide) w_192 (fun _ h9 => h9) rfl dX2_move_81 ?_
          obtain ⟨x18, ex18, h⟩ := ob_some h
          refine gk_v (run_V (rest := []) hx hb hml hown hts hK hP hD hS hA hm (C_Th_moveTo l G D K H.size ga n (sT (sT M q1 11 1) q1 7 (gT (sT M q1 11 1) q1 7 + 1)) q1 hq1 1 (gI (sT (sT M q1 11 1) q1 7 (gT (sT M q1 11 1) q1 7 + 1)) 23) ex18) _ (full_C _) (full_n _ List.nodup_range) mok_yX7_moveTo w_498 w_494 w_495 (rcv hK hP (25 + 2 * q1) (go_th hq1) rfl rfl) ⟨Nat.le_of_ble_eq_true rfl, Nat.le_of_ble_eq_true rfl⟩ rfl hl.1 rfl (Nat.le_of_ble_eq_true rfl) dX2_move_84 ⟨(Nat.le_of_ble_eq_true rfl), (Nat.le_of_ble_eq_true rfl)⟩) hP hD hS hA (fun u H locs (hP : va_P D cl (wld ga n (K 0) (K 1) x18) H) (hD : va_D A (wld ga n (K 0) (K 1) x18)) hS => ?_)
          refine lv_aload_n hx hb dX2_move_87 rfl (lv_at hl 1 rfl) ?_
          refine t_aload_n hx hb dX2_move_88 rfl (lv_at hl 2 rfl) ?_
          rw [ctv_some ga z1]
          obtain ⟨x19, ex19, h⟩ := ob_some h
          refine gk_i (run_V (rest := [.ref (ga 6)]) hx hb hml hown hts hK hP hD hS hA hm (C_Th_end l G D K H.size ga n x18 q1 hq1 ex19) _ (full_C _) (full_n _ List.nodup_range) mok_yX7_end w_499 w_423 w_424 (rcv hK hP (25 + 2 * q1) (go_th hq1) rfl rfl) ⟨Nat.le_of_ble_eq_true rfl, Nat.le_of_ble_eq_true rfl⟩ rfl hl.1 rfl (Nat.le_of_ble_eq_true rfl) dX2_move_89 ⟨(Nat.le_of_ble_eq_true rfl), (Nat.le_of_ble_eq_true rfl)⟩) hP hD hS hA (fun u H locs (hP : va_P D cl (wld ga n (K 0) (K 1) x18) H) (hD : va_D A (wld ga n (K 0) (K 1) x18)) hS => ?_)
          refine r_put hx hb hts ok_RX2 hown hK hP hD hS 6 go_6 rfl 8 (by decide) w_192 (fun _ h9 => h9) rfl (v := .int (iI x19)) rfl rfl (Nat.le_of_ble_eq_true rfl) dX2_move_92 (ws' := wld ga n (K 0) (K 1) (sI x18 23 x19)) wI_23 (fun H locs hP hD hS => ?_)
          refine lv_aload_n hx hb dX2_move_95 rfl (lv_at hl 1 rfl) ?_
          refine r_get hx hb hts ok_RX2 hown hK hP 6 go_6 rfl 5 (by decide) w_189 (fun _ h9 => h9) rfl dX2_move_96 ?_
          refine t_aload_n hx hb dX2_move_99 rfl (lv_at hl 2 rfl) ?_
          rw [ctv_some ga z1]
          obtain ⟨x20, ex20, h⟩ := ob_some h
          refine gk_v (run_V (rest := []) hx hb hml hown hts hK hP hD hS hA hm (C_Row_add l G D K H.size ga n (sI x18 23 x19) 6 (by decide) (some q1) ex20) _ (full_C _) (full_n _ List.nodup_range) mok_yX5_add w_464 w_465 w_466 (rcv hK hP (8 + 6) (go_ro (by decide)) rfl rfl) ⟨Nat.le_of_ble_eq_true rfl, Nat.le_of_ble_eq_true rfl⟩ rfl hl.1 rfl (Nat.le_of_ble_eq_true rfl) dX2_move_100 ⟨(Nat.le_of_ble_eq_true rfl), (Nat.le_of_ble_eq_true rfl)⟩) hP hD hS hA (fun u H locs (hP : va_P D cl (wld ga n (K 0) (K 1) x20) H) (hD : va_D A (wld ga n (K 0) (K 1) x20)) hS => ?_)
          obtain rfl := Option.some.inj h
          exact e_v hx hb hr hlk hP hD hS (fun _ => 0) rfl (Nat.le_of_ble_eq_true rfl) (Nat.le_of_ble_eq_true rfl) dX2_move_103
        · replace h := it_F h c17
          refine i_icmp_ge_T hx hb g15 g16 (tgt := 67) dX2_move_60 (by decide) c17 ?_
          refine lv_aload_n hx hb dX2_move_67 rfl (lv_at hl 1 rfl) ?_
          refine r_get hx hb hts ok_RX2 hown hK hP 6 go_6 rfl 3 (by decide) w_187 (fun _ h9 => h9) rfl dX2_move_68 ?_
          refine t_aload_n hx hb dX2_move_71 rfl (lv_at hl 2 rfl) ?_
          rw [ctv_some ga z1]
          obtain ⟨x21, ex21, h⟩ := ob_some h
          refine gk_v (run_V (rest := []) hx hb hml hown hts hK hP hD hS hA hm (C_Pl_moveToOld l G D K H.size ga n (sT (sT M q1 11 1) q1 7 (gT (sT M q1 11 1) q1 7 + 1)) (some q1) ex21) _ (full_C _) (full_n _ List.nodup_range) mok_yX3_moveToOld w_489 w_490 w_491 (rcv hK hP 2 go_2 rfl rfl) ⟨Nat.le_of_ble_eq_true rfl, Nat.le_of_ble_eq_true rfl⟩ rfl hl.1 rfl (Nat.le_of_ble_eq_true rfl) dX2_move_72 ⟨(Nat.le_of_ble_eq_true rfl), (Nat.le_of_ble_eq_true rfl)⟩) hP hD hS hA (fun u H locs (hP : va_P D cl (wld ga n (K 0) (K 1) x21) H) (hD : va_D A (wld ga n (K 0) (K 1) x21)) hS => ?_)
          refine lv_goto (tgt := 95) hx hb dX2_move_75 (by decide) ?_
          refine lv_aload_n hx hb dX2_move_95 rfl (lv_at hl 1 rfl) ?_
          refine r_get hx hb hts ok_RX2 hown hK hP 6 go_6 rfl 5 (by decide) w_189 (fun _ h9 => h9) rfl dX2_move_96 ?_
          refine t_aload_n hx hb dX2_move_99 rfl (lv_at hl 2 rfl) ?_
          rw [ctv_some ga z1]
          obtain ⟨x22, ex22, h⟩ := ob_some h
          refine gk_v (run_V (rest := []) hx hb hml hown hts hK hP hD hS hA hm (C_Row_add l G D K H.size ga n x21 6 (by decide) (some q1) ex22) _ (full_C _) (full_n _ List.nodup_range) mok_yX5_add w_464 w_465 w_466 (rcv hK hP (8 + 6) (go_ro (by decide)) rfl rfl) ⟨Nat.le_of_ble_eq_true rfl, Nat.le_of_ble_eq_true rfl⟩ rfl hl.1 rfl (Nat.le_of_ble_eq_true rfl) dX2_move_100 ⟨(Nat.le_of_ble_eq_true rfl), (Nat.le_of_ble_eq_true rfl)⟩) hP hD hS hA (fun u H locs (hP : va_P D cl (wld ga n (K 0) (K 1) x22) H) (hD : va_D A (wld ga n (K 0) (K 1) x22)) hS => ?_)
          obtain rfl := Option.some.inj h
          exact e_v hx hb hr hlk hP hD hS (fun _ => 0) rfl (Nat.le_of_ble_eq_true rfl) (Nat.le_of_ble_eq_true rfl) dX2_move_103
def s_Mi_addDirty_2 (rec : cSt → Int → Option (cSt)) (n : Nat) (r1 : Nat) (M : cSt) (v2 : Int) : Option (cSt) := ob (f_Row_size n M r1) (fun x1 => og (inR v2) (og (inR x1) (if v2 < x1 then ob (f_Row_item n M r1 v2) (fun x5 => on x5 (rec M (v2 + 1)) (fun q6 => og (q6 < n) (ob (f_Th_card n M q6) (fun x7 => ob (f_Pl_isCardDirty n M x7) (fun x8 => og (inR x8) (if x8 = 0 then rec M (v2 + 1) else ob (f_Row_add n M 6 (some q6)) (fun x11 => rec x11 (v2 + 1)))))))) else some M)))
def g_Mi_addDirty_2 (n : Nat) (r1 : Nat) : Nat → cSt → Int → Option (cSt)
  | 0 => fun _ _ => none
  | q + 1 => s_Mi_addDirty_2 (g_Mi_addDirty_2 n r1 q) n r1
set_option maxHeartbeats 4000000 in
set_option maxRecDepth 100000 in
theorem L_Mi_addDirty_2 {p : Program} {l : Launch} {G : Nat → Nat} {D : va_G} {K : Nat → ClassId} {e : Env} {s : State} {m : MethodId} {args : Array Value} {below : List Frame} {meth : Method} {c : Code} {A : Nat → Prop} (hx : p.tables.exec = Jvm.exec) (hb : c.code = cX2_addDirty) (hr : meth.sig.returnType = (none : Option FieldType)) (hml : c.maxLocals = 4) (hown : s.vm.findClass RX2 = some m.cls) (hts : ∀ w ∈ lw_gw, w.before args s = true) (hlk : meth.locks = false) (hK : va_K D cl (tys K) s) (hA : ∀ q : Nat, s.heap.size ≤ q → A q) (hm : Amb G A s s.heap) {Q : State → Prop} (ga : Nat → Nat) (n : Nat) (r1 : Nat) (hr1 : r1 < 7) : ∀ (q : Nat) (M : cSt) (v2 : Int) (out : cSt), g_Mi_addDirty_2 n r1 q M v2 = some out → ∀ (ls : Array Slot) (H : Heap) (locs : List Loc), va_P D cl (wld ga n (K 0) (K 1) M) H → va_D A (wld ga n (K 0) (K 1) M) → va_S A s.heap H locs → lv_has ls 4 [(0, .ref (ga 6)), (1, .ref (ga (8 + r1))), (2, .int (iI v2))] → (∀ (ls : Array Slot) (H : Heap) (locs : List Loc), va_P D cl (wld ga n (K 0) (K 1) out) H → va_D A (wld ga n (K 0) (K 1) out) → va_S A s.heap H locs → lv_has ls 4 [] → W p l e ({ frames := 1, cells := 0, slots := 0, locals := 21 } : Room) s m args below meth c H locs 0 0 Q (F0 m 48 ls [])) → W p l e ({ frames := 1, cells := 0, slots := 0, locals := 21 } : Room) s m args below meth c H locs 0 0 Q (F0 m 2 ls []) := by
  intro q
  induction q with
  | zero =>
    intro M v2 out h
    cases (show none = some out from h)
  | succ q ih =>
    intro M v2 out h ls H locs hP hD hS hl kk
    replace h : s_Mi_addDirty_2 (g_Mi_addDirty_2 n r1 q) n r1 M v2 = some out := h
    unfold s_Mi_addDirty_2 at h
    refine lv_iload_n hx hb dX2_addDirty_2 rfl (lv_at hl 2 rfl) ?_
    refine lv_aload_n hx hb dX2_addDirty_3 rfl (lv_at hl 1 rfl) ?_
    obtain ⟨x1, ex1, h⟩ := ob_some h
    refine gk_i (run_V (rest := [.int (iI v2)]) hx hb hml hown hts hK hP hD hS hA hm (C_Row_size l G D K H.size ga n M r1 hr1 ex1) _ (full_C _) (full_n _ List.nodup_range) mok_yX5_size w_450 w_405 w_406 (rcv hK hP (8 + r1) (go_ro hr1) rfl rfl) ⟨Nat.le_of_ble_eq_true rfl, Nat.le_of_ble_eq_true rfl⟩ rfl hl.1 rfl (Nat.le_of_ble_eq_true rfl) dX2_addDirty_4 ⟨(Nat.le_of_ble_eq_true rfl), (Nat.le_of_ble_eq_true rfl)⟩) hP hD hS hA (fun u H locs (hP : va_P D cl (wld ga n (K 0) (K 1) M) H) (hD : va_D A (wld ga n (K 0) (K 1) M)) hS => ?_)
    obtain ⟨g2, h⟩ := og_some h
    obtain ⟨g3, h⟩ := og_some h
    by_cases c4 : v2 < x1
    · replace h := it_T h c4
      refine i_icmp_ge_F hx hb g2 g3 (tgt := 48) dX2_addDirty_7 (by decide) c4 ?_
      refine lv_aload_n hx hb dX2_addDirty_10 rfl (lv_at hl 1 rfl) ?_
      refine lv_iload_n hx hb dX2_addDirty_11 rfl (lv_at hl 2 rfl) ?_
      obtain ⟨x5, ex5, h⟩ := ob_some h
      refine gk_q (run_V (rest := []) hx hb hml hown hts hK hP hD hS hA hm (C_Row_item l G D K H.size ga n M r1 hr1 v2 ex5) _ (full_C _) (full_n _ List.nodup_range) mok_yX5_item w_451 w_419 w_420 (rcv hK hP (8 + r1) (go_ro hr1) rfl rfl) ⟨Nat.le_of_ble_eq_true rfl, Nat.le_of_ble_eq_true rfl⟩ rfl hl.1 rfl (Nat.le_of_ble_eq_true rfl) dX2_addDirty_12 ⟨(Nat.le_of_ble_eq_true rfl), (Nat.le_of_ble_eq_true rfl)⟩) hP hD hS hA (fun u H locs (hP : va_P D cl (wld ga n (K 0) (K 1) M) H) (hD : va_D A (wld ga n (K 0) (K 1) M)) hS => ?_)
      refine w_tov (y := ctv ga x5) rfl ?_
      refine t_astore_n hx hb dX2_addDirty_15 rfl hl (by decide) [0, 1, 2] (lv' := [(0, .ref (ga 6)), (1, .ref (ga (8 + r1))), (2, .int (iI v2))]) rfl (⟨⟨Nat.ne_of_beq_eq_false rfl, Or.inl (Nat.ne_of_beq_eq_false rfl)⟩, ⟨⟨Nat.ne_of_beq_eq_false rfl, Or.inl (Nat.ne_of_beq_eq_false rfl)⟩, ⟨⟨Nat.ne_of_beq_eq_false rfl, Or.inr rfl⟩, trivial⟩⟩⟩) (fun ls hl => ?_)
      refine t_aload_n hx hb dX2_addDirty_16 rfl (lv_at hl 0 rfl) ?_
      rcases on_cases h with ⟨z6, h⟩ | ⟨q6, z6, h⟩
      · rw [ctv_none ga z6]
        refine lv_ifnullN (tgt := 42) hx hb dX2_addDirty_17 (by decide) ?_
        refine x_iinc (v := iI (v2 + 1)) hx hb dX2_addDirty_42 hl (k := 3) rfl (iI_add v2 1) (by decide) [0, 1, 2] (lv' := [(3, ctv ga x5), (0, .ref (ga 6)), (1, .ref (ga (8 + r1)))]) rfl (⟨⟨Nat.ne_of_beq_eq_false rfl, Or.inl (Nat.ne_of_beq_eq_false rfl)⟩, ⟨⟨Nat.ne_of_beq_eq_false rfl, Or.inl (Nat.ne_of_beq_eq_false rfl)⟩, ⟨⟨Nat.ne_of_beq_eq_false rfl, Or.inr rfl⟩, trivial⟩⟩⟩) (fun ls hl => ?_)
        refine lv_goto (tgt := 2) hx hb dX2_addDirty_45 (by decide) ?_
        exact ih M (v2 + 1) _ h _ _ _ hP hD hS (lv_pk hl [2, 3, 0] rfl) kk
      · obtain ⟨hq6, h⟩ := og_some h
        rw [ctv_some ga z6]
        refine lv_ifnull hx hb dX2_addDirty_17 ?_
        refine lv_aload_n hx hb dX2_addDirty_20 rfl (lv_at hl 1 rfl) ?_
        refine r_get hx hb hts ok_RX2 hown hK hP 6 go_6 rfl 3 (by decide) w_187 (fun _ h9 => h9) rfl dX2_addDirty_21 ?_
        refine t_aload_n hx hb dX2_addDirty_24 rfl (lv_at hl 0 rfl) ?_
        rw [ctv_some ga z6]
        obtain ⟨x7, ex7, h⟩ := ob_some h
        refine gk_i (run_V (rest := [.ref (ga 2)]) hx hb hml hown hts hK hP hD hS hA hm (C_Th_card l G D K H.size ga n M q6 hq6 ex7) _ (full_C _) (full_n _ List.nodup_range) mok_yX7_card w_456 w_457 w_458 (rcv hK hP (25 + 2 * q6) (go_th hq6) rfl rfl) ⟨Nat.le_of_ble_eq_true rfl, Nat.le_of_ble_eq_true rfl⟩ rfl hl.1 rfl (Nat.le_of_ble_eq_true rfl) dX2_addDirty_25 ⟨(Nat.le_of_ble_eq_true rfl), (Nat.le_of_ble_eq_true rfl)⟩) hP hD hS hA (fun u H locs (hP : va_P D cl (wld ga n (K 0) (K 1) M) H) (hD : va_D A (wld ga n (K 0) (K 1) M)) hS => ?_)
        obtain ⟨x8, ex8, h⟩ := ob_some h
        refine gk_i (run_V (rest := []) hx hb hml hown hts hK hP hD hS hA hm (C_Pl_isCardDirty l G D K H.size ga n M x7 ex8) _ (full_C _) (full_n _ List.nodup_range) mok_yX3_isCardDirty w_460 w_461 w_462 (rcv hK hP 2 go_2 rfl rfl) ⟨Nat.le_of_ble_eq_true rfl, Nat.le_of_ble_eq_true rfl⟩ rfl hl.1 rfl (Nat.le_of_ble_eq_true rfl) dX2_addDirty_28 ⟨(Nat.le_of_ble_eq_true rfl), (Nat.le_of_ble_eq_true rfl)⟩) hP hD hS hA (fun u H locs (hP : va_P D cl (wld ga n (K 0) (K 1) M) H) (hD : va_D A (wld ga n (K 0) (K 1) M)) hS => ?_)
        obtain ⟨g9, h⟩ := og_some h
        by_cases c10 : x8 = 0
        · replace h := it_T h c10
          refine i_if_eq_T hx hb g9 (tgt := 42) dX2_addDirty_31 (by decide) c10 ?_
          refine x_iinc (v := iI (v2 + 1)) hx hb dX2_addDirty_42 hl (k := 3) rfl (iI_add v2 1) (by decide) [0, 1, 2] (lv' := [(3, ctv ga x5), (0, .ref (ga 6)), (1, .ref (ga (8 + r1)))]) rfl (⟨⟨Nat.ne_of_beq_eq_false rfl, Or.inl (Nat.ne_of_beq_eq_false rfl)⟩, ⟨⟨Nat.ne_of_beq_eq_false rfl, Or.inl (Nat.ne_of_beq_eq_false rfl)⟩, ⟨⟨Nat.ne_of_beq_eq_false rfl, Or.inr rfl⟩, trivial⟩⟩⟩) (fun ls hl => ?_)
          refine lv_goto (tgt := 2) hx hb dX2_addDirty_45 (by decide) ?_
          exact ih M (v2 + 1) _ h _ _ _ hP hD hS (lv_pk hl [2, 3, 0] rfl) kk
        · replace h := it_F h c10
          refine i_if_eq_F hx hb g9 (tgt := 42) dX2_addDirty_31 (by decide) c10 ?_
          refine lv_aload_n hx hb dX2_addDirty_34 rfl (lv_at hl 1 rfl) ?_
          refine r_get hx hb hts ok_RX2 hown hK hP 6 go_6 rfl 5 (by decide) w_189 (fun _ h9 => h9) rfl dX2_addDirty_35 ?_
          refine t_aload_n hx hb dX2_addDirty_38 rfl (lv_at hl 0 rfl) ?_
          rw [ctv_some ga z6]
          obtain ⟨x11, ex11, h⟩ := ob_some h
          refine gk_v (run_V (rest := []) hx hb hml hown hts hK hP hD hS hA hm (C_Row_add l G D K H.size ga n M 6 (by decide) (some q6) ex11) _ (full_C _) (full_n _ List.nodup_range) mok_yX5_add w_464 w_465 w_466 (rcv hK hP (8 + 6) (go_ro (by decide)) rfl rfl) ⟨Nat.le_of_ble_eq_true rfl, Nat.le_of_ble_eq_true rfl⟩ rfl hl.1 rfl (Nat.le_of_ble_eq_true rfl) dX2_addDirty_39 ⟨(Nat.le_of_ble_eq_true rfl), (Nat.le_of_ble_eq_true rfl)⟩) hP hD hS hA (fun u H locs (hP : va_P D cl (wld ga n (K 0) (K 1) x11) H) (hD : va_D A (wld ga n (K 0) (K 1) x11)) hS => ?_)
          refine x_iinc (v := iI (v2 + 1)) hx hb dX2_addDirty_42 hl (k := 3) rfl (iI_add v2 1) (by decide) [0, 1, 2] (lv' := [(3, ctv ga x5), (0, .ref (ga 6)), (1, .ref (ga (8 + r1)))]) rfl (⟨⟨Nat.ne_of_beq_eq_false rfl, Or.inl (Nat.ne_of_beq_eq_false rfl)⟩, ⟨⟨Nat.ne_of_beq_eq_false rfl, Or.inl (Nat.ne_of_beq_eq_false rfl)⟩, ⟨⟨Nat.ne_of_beq_eq_false rfl, Or.inr rfl⟩, trivial⟩⟩⟩) (fun ls hl => ?_)
          refine lv_goto (tgt := 2) hx hb dX2_addDirty_45 (by decide) ?_
          exact ih x11 (v2 + 1) _ h _ _ _ hP hD hS (lv_pk hl [2, 3, 0] rfl) kk
    · replace h := it_F h c4
      refine i_icmp_ge_T hx hb g2 g3 (tgt := 48) dX2_addDirty_7 (by decide) c4 ?_
      obtain rfl := Option.some.inj h
      exact kk _ _ _ hP hD hS (lv_pk hl [] rfl)
def f_Mi_addDirty (n : Nat) (M : cSt) (r1 : Nat) : Option (cSt) := ob (g_Mi_addDirty_2 n r1 fu M 0) (fun x12 => some x12)
set_option maxHeartbeats 4000000 in
set_option maxRecDepth 100000 in
theorem C_Mi_addDirty (l : Launch) (G : Nat → Nat) (D : va_G) (K : Nat → ClassId) (sz : Nat) (ga : Nat → Nat) (n : Nat) (M : cSt) (r1 : Nat) (hr1 : r1 < 7) {x : cSt} (h : f_Mi_addDirty n M r1 = some x) : CM l yX2_addDirty cX2_addDirty 4 (none : Option FieldType) ({ frames := 1, cells := 0, slots := 0, locals := 21 } : Room) G D K [.ref (ga 6), .ref (ga (8 + r1))] (wld ga n (K 0) (K 1) M) sz (CQv D (fun _ => wld ga n (K 0) (K 1) x)) := by
  refine CM_of (lv0 := [(0, .ref (ga 6)), (1, .ref (ga (8 + r1)))]) pn_RX2 (Nat.le_of_ble_eq_true rfl) rfl (fun p e s m args below meth c A ls hx hb hr hml hown hts hlk hnm hP hK hD hS hA hm hl => ?_)
  have hown : s.vm.findClass RX2 = some m.cls := hown
  unfold f_Mi_addDirty at h
  refine lv_iconst (v := iI 0) hx hb dX2_addDirty_0 rfl ?_
  refine x_istore_n hx hb dX2_addDirty_1 rfl hl (by decide) [0, 1] (lv' := [(0, .ref (ga 6)), (1, .ref (ga (8 + r1)))]) rfl (⟨⟨Nat.ne_of_beq_eq_false rfl, Or.inl (Nat.ne_of_beq_eq_false rfl)⟩, ⟨⟨Nat.ne_of_beq_eq_false rfl, Or.inr rfl⟩, trivial⟩⟩) (fun ls hl => ?_)
  obtain ⟨x12, ex12, h⟩ := ob_some h
  refine L_Mi_addDirty_2 hx hb hr hml hown hts hlk hK hA hm ga n r1 hr1  fu M 0 _ ex12 _ _ _ hP hD hS (lv_pk hl [1, 2, 0] rfl) (fun ls H locs (hP : va_P D cl (wld ga n (K 0) (K 1) x12) H) (hD : va_D A (wld ga n (K 0) (K 1) x12)) hS (hl : lv_has ls 4 []) => ?_)
  obtain rfl := Option.some.inj h
  exact e_v hx hb hr hlk hP hD hS (fun _ => 0) rfl (Nat.le_of_ble_eq_true rfl) (Nat.le_of_ble_eq_true rfl) dX2_addDirty_48
def s_Mi_begin_42 (rec : cSt → Int → Option (cSt)) (n : Nat)  (M : cSt) (v1 : Int) : Option (cSt) := ob (f_Row_size n M 0) (fun x4 => og (inR v1) (og (inR x4) (if v1 < x4 then ob (f_Row_item n M 0 v1) (fun x8 => on x8 (rec M (v1 + 1)) (fun q9 => og (q9 < n) (rec (sT M q9 11 0) (v1 + 1)))) else some M)))
def g_Mi_begin_42 (n : Nat)  : Nat → cSt → Int → Option (cSt)
  | 0 => fun _ _ => none
  | q + 1 => s_Mi_begin_42 (g_Mi_begin_42 n  q) n 
set_option maxHeartbeats 4000000 in
set_option maxRecDepth 100000 in
theorem L_Mi_begin_42 {p : Program} {l : Launch} {G : Nat → Nat} {D : va_G} {K : Nat → ClassId} {e : Env} {s : State} {m : MethodId} {args : Array Value} {below : List Frame} {meth : Method} {c : Code} {A : Nat → Prop} (hx : p.tables.exec = Jvm.exec) (hb : c.code = cX2_begin) (hr : meth.sig.returnType = (none : Option FieldType)) (hml : c.maxLocals = 3) (hown : s.vm.findClass RX2 = some m.cls) (hts : ∀ w ∈ lw_gw, w.before args s = true) (hlk : meth.locks = false) (hK : va_K D cl (tys K) s) (hA : ∀ q : Nat, s.heap.size ≤ q → A q) (hm : Amb G A s s.heap) {Q : State → Prop} (ga : Nat → Nat) (n : Nat)  : ∀ (q : Nat) (M : cSt) (v1 : Int) (out : cSt), g_Mi_begin_42 n  q M v1 = some out → ∀ (ls : Array Slot) (H : Heap) (locs : List Loc), va_P D cl (wld ga n (K 0) (K 1) M) H → va_D A (wld ga n (K 0) (K 1) M) → va_S A s.heap H locs → lv_has ls 3 [(0, .ref (ga 6)), (1, .int (iI v1))] → (∀ (ls : Array Slot) (H : Heap) (locs : List Loc), va_P D cl (wld ga n (K 0) (K 1) out) H → va_D A (wld ga n (K 0) (K 1) out) → va_S A s.heap H locs → lv_has ls 3 [(0, .ref (ga 6))] → W p l e ({ frames := 2, cells := 0, slots := 0, locals := 44 } : Room) s m args below meth c H locs 0 0 Q (F0 m 77 ls [])) → W p l e ({ frames := 2, cells := 0, slots := 0, locals := 44 } : Room) s m args below meth c H locs 0 0 Q (F0 m 42 ls []) := by
  intro q
  induction q with
  | zero =>
    intro M v1 out h
    cases (show none = some out from h)
  | succ q ih =>
    intro M v1 out h ls H locs hP hD hS hl kk
    replace h : s_Mi_begin_42 (g_Mi_begin_42 n  q) n  M v1 = some out := h
    unfold s_Mi_begin_42 at h
    refine lv_iload_n hx hb dX2_begin_42 rfl (lv_at hl 1 rfl) ?_
    refine lv_aload_n hx hb dX2_begin_43 rfl (lv_at hl 0 rfl) ?_
    refine r_get hx hb hts ok_RX2 hown hK hP 6 go_6 rfl 1 (by decide) w_185 (fun _ h9 => h9) rfl dX2_begin_44 ?_
    obtain ⟨x4, ex4, h⟩ := ob_some h
    refine gk_i (run_V (rest := [.int (iI v1)]) hx hb hml hown hts hK hP hD hS hA hm (C_Row_size l G D K H.size ga n M 0 (by decide) ex4) _ (full_C _) (full_n _ List.nodup_range) mok_yX5_size w_450 w_405 w_406 (rcv hK hP (8 + 0) (go_ro (by decide)) rfl rfl) ⟨Nat.le_of_ble_eq_true rfl, Nat.le_of_ble_eq_true rfl⟩ rfl hl.1 rfl (Nat.le_of_ble_eq_true rfl) dX2_begin_47 ⟨(Nat.le_of_ble_eq_true rfl), (Nat.le_of_ble_eq_true rfl)⟩) hP hD hS hA (fun u H locs (hP : va_P D cl (wld ga n (K 0) (K 1) M) H) (hD : va_D A (wld ga n (K 0) (K 1) M)) hS => ?_)
    obtain ⟨g5, h⟩ := og_some h
    obtain ⟨g6, h⟩ := og_some h
    by_cases c7 : v1 < x4
    · replace h := it_T h c7
      refine i_icmp_ge_F hx hb g5 g6 (tgt := 77) dX2_begin_50 (by decide) c7 ?_
      refine lv_aload_n hx hb dX2_begin_53 rfl (lv_at hl 0 rfl) ?_
      refine r_get hx hb hts ok_RX2 hown hK hP 6 go_6 rfl 1 (by decide) w_185 (fun _ h9 => h9) rfl dX2_begin_54 ?_
      refine lv_iload_n hx hb dX2_begin_57 rfl (lv_at hl 1 rfl) ?_
      obtain ⟨x8, ex8, h⟩ := ob_some h
      refine gk_q (run_V (rest := []) hx hb hml hown hts hK hP hD hS hA hm (C_Row_item l G D K H.size ga n M 0 (by decide) v1 ex8) _ (full_C _) (full_n _ List.nodup_range) mok_yX5_item w_451 w_419 w_420 (rcv hK hP (8 + 0) (go_ro (by decide)) rfl rfl) ⟨Nat.le_of_ble_eq_true rfl, Nat.le_of_ble_eq_true rfl⟩ rfl hl.1 rfl (Nat.le_of_ble_eq_true rfl) dX2_begin_58 ⟨(Nat.le_of_ble_eq_true rfl), (Nat.le_of_ble_eq_true rfl)⟩) hP hD hS hA (fun u H locs (hP : va_P D cl (wld ga n (K 0) (K 1) M) H) (hD : va_D A (wld ga n (K 0) (K 1) M)) hS => ?_)
      refine w_tov (y := ctv ga x8) rfl ?_
      refine t_astore_n hx hb dX2_begin_61 rfl hl (by decide) [0, 1] (lv' := [(0, .ref (ga 6)), (1, .int (iI v1))]) rfl (⟨⟨Nat.ne_of_beq_eq_false rfl, Or.inl (Nat.ne_of_beq_eq_false rfl)⟩, ⟨⟨Nat.ne_of_beq_eq_false rfl, Or.inr rfl⟩, trivial⟩⟩) (fun ls hl => ?_)
      refine t_aload_n hx hb dX2_begin_62 rfl (lv_at hl 0 rfl) ?_
      rcases on_cases h with ⟨z9, h⟩ | ⟨q9, z9, h⟩
      · rw [ctv_none ga z9]
        refine lv_ifnullN (tgt := 71) hx hb dX2_begin_63 (by decide) ?_
        refine x_iinc (v := iI (v1 + 1)) hx hb dX2_begin_71 hl (k := 2) rfl (iI_add v1 1) (by decide) [0, 1] (lv' := [(2, ctv ga x8), (0, .ref (ga 6))]) rfl (⟨⟨Nat.ne_of_beq_eq_false rfl, Or.inl (Nat.ne_of_beq_eq_false rfl)⟩, ⟨⟨Nat.ne_of_beq_eq_false rfl, Or.inr rfl⟩, trivial⟩⟩) (fun ls hl => ?_)
        refine lv_goto (tgt := 42) hx hb dX2_begin_74 (by decide) ?_
        exact ih M (v1 + 1) _ h _ _ _ hP hD hS (lv_pk hl [2, 0] rfl) kk
      · obtain ⟨hq9, h⟩ := og_some h
        rw [ctv_some ga z9]
        refine lv_ifnull hx hb dX2_begin_63 ?_
        refine t_aload_n hx hb dX2_begin_66 rfl (lv_at hl 0 rfl) ?_
        rw [ctv_some ga z9]
        refine lv_iconst (v := iI 0) hx hb dX2_begin_67 rfl ?_
        refine r_put hx hb hts ok_RX7 hown hK hP hD hS (25 + 2 * q9) (go_th hq9) rfl 11 (by decide) w_719 (fun _ h9 => h9) rfl (v := .int (iI 0)) (nar_b (Or.inl rfl)) (fit_b (Or.inl rfl)) (Nat.le_of_ble_eq_true rfl) dX2_begin_68 (ws' := wld ga n (K 0) (K 1) (sT M q9 11 0)) wT_11 (fun H locs hP hD hS => ?_)
        refine x_iinc (v := iI (v1 + 1)) hx hb dX2_begin_71 hl (k := 2) rfl (iI_add v1 1) (by decide) [0, 1] (lv' := [(2, ctv ga x8), (0, .ref (ga 6))]) rfl (⟨⟨Nat.ne_of_beq_eq_false rfl, Or.inl (Nat.ne_of_beq_eq_false rfl)⟩, ⟨⟨Nat.ne_of_beq_eq_false rfl, Or.inr rfl⟩, trivial⟩⟩) (fun ls hl => ?_)
        refine lv_goto (tgt := 42) hx hb dX2_begin_74 (by decide) ?_
        exact ih (sT M q9 11 0) (v1 + 1) _ h _ _ _ hP hD hS (lv_pk hl [2, 0] rfl) kk
    · replace h := it_F h c7
      refine i_icmp_ge_T hx hb g5 g6 (tgt := 77) dX2_begin_50 (by decide) c7 ?_
      obtain rfl := Option.some.inj h
      exact kk _ _ _ hP hD hS (lv_pk hl [0] rfl)
def f_Mi_begin (n : Nat) (M : cSt)  : Option (cSt) := ob (f_Row_clear n M 6) (fun x1 => og (inR (gI (sI x1 21 0) 2)) (if gI (sI x1 21 0) 2 = 0 then ob (g_Mi_begin_42 n  fu (sI (sI (sI x1 21 0) 22 40) 23 (gI (sI (sI x1 21 0) 22 40) 22)) 0) (fun x10 => ob (f_Mi_addDirty n x10 3) (fun x11 => ob (f_Mi_addDirty n x11 4) (fun x12 => some x12))) else ob (g_Mi_begin_42 n  fu (sI (sI (sI x1 21 0) 22 0) 23 (gI (sI (sI x1 21 0) 22 0) 22)) 0) (fun x13 => ob (f_Mi_addDirty n x13 3) (fun x14 => ob (f_Mi_addDirty n x14 4) (fun x15 => some x15)))))
set_option maxHeartbeats 4000000 in
set_option maxRecDepth 100000 in
theorem C_Mi_begin (l : Launch) (G : Nat → Nat) (D : va_G) (K : Nat → ClassId) (sz : Nat) (ga : Nat → Nat) (n : Nat) (M : cSt)  {x : cSt} (h : f_Mi_begin n M  = some x) : CM l yX2_begin cX2_begin 3 (none : Option FieldType) ({ frames := 2, cells := 0, slots := 0, locals := 44 } : Room) G D K [.ref (ga 6)] (wld ga n (K 0) (K 1) M) sz (CQv D (fun _ => wld ga n (K 0) (K 1) x)) := by
  refine CM_of (lv0 := [(0, .ref (ga 6))]) pn_RX2 (Nat.le_of_ble_eq_true rfl) rfl (fun p e s m args below meth c A ls hx hb hr hml hown hts hlk hnm hP hK hD hS hA hm hl => ?_)
  have hown : s.vm.findClass RX2 = some m.cls := hown
  unfold f_Mi_begin at h
  refine lv_aload_n hx hb dX2_begin_0 rfl (lv_at hl 0 rfl) ?_
  refine r_get hx hb hts ok_RX2 hown hK hP 6 go_6 rfl 5 (by decide) w_189 (fun _ h9 => h9) rfl dX2_begin_1 ?_
  obtain ⟨x1, ex1, h⟩ := ob_some h
  refine gk_v (run_V (rest := []) hx hb hml hown hts hK hP hD hS hA hm (C_Row_clear l G D K s.heap.size ga n M 6 (by decide) ex1) _ (full_C _) (full_n _ List.nodup_range) mok_yX5_clear w_446 w_447 w_448 (rcv hK hP (8 + 6) (go_ro (by decide)) rfl rfl) ⟨Nat.le_of_ble_eq_true rfl, Nat.le_of_ble_eq_true rfl⟩ rfl hl.1 rfl (Nat.le_of_ble_eq_true rfl) dX2_begin_4 ⟨(Nat.le_of_ble_eq_true rfl), (Nat.le_of_ble_eq_true rfl)⟩) hP hD hS hA (fun u H locs (hP : va_P D cl (wld ga n (K 0) (K 1) x1) H) (hD : va_D A (wld ga n (K 0) (K 1) x1)) hS => ?_)
  refine lv_aload_n hx hb dX2_begin_7 rfl (lv_at hl 0 rfl) ?_
  refine lv_iconst (v := iI 0) hx hb dX2_begin_8 rfl ?_
  refine r_put hx hb hts ok_RX2 hown hK hP hD hS 6 go_6 rfl 6 (by decide) w_190 (fun _ h9 => h9) rfl (v := .int (iI 0)) rfl rfl (Nat.le_of_ble_eq_true rfl) dX2_begin_9 (ws' := wld ga n (K 0) (K 1) (sI x1 21 0)) wI_21 (fun H locs hP hD hS => ?_)
  refine lv_aload_n hx hb dX2_begin_12 rfl (lv_at hl 0 rfl) ?_
  refine lv_aload_n hx hb dX2_begin_13 rfl (lv_at hl 0 rfl) ?_
  refine r_get hx hb hts ok_RX2 hown hK hP 6 go_6 rfl 3 (by decide) w_187 (fun _ h9 => h9) rfl dX2_begin_14 ?_
  refine r_get hx hb hts ok_RX3 hown hK hP 2 go_2 rfl 3 (by decide) w_81 (fun _ h9 => h9) rfl dX2_begin_17 ?_
  obtain ⟨g2, h⟩ := og_some h
  by_cases c3 : gI (sI x1 21 0) 2 = 0
  · replace h := it_T h c3
    refine i_if_ne_F hx hb g2 (tgt := 28) dX2_begin_20 (by decide) c3 ?_
    refine lv_bipush (v := iI 40) hx hb dX2_begin_23 rfl ?_
    refine lv_goto (tgt := 29) hx hb dX2_begin_25 (by decide) ?_
    refine r_put hx hb hts ok_RX2 hown hK hP hD hS 6 go_6 rfl 7 (by decide) w_191 (fun _ h9 => h9) rfl (v := .int (iI 40)) rfl rfl (Nat.le_of_ble_eq_true rfl) dX2_begin_29 (ws' := wld ga n (K 0) (K 1) (sI (sI x1 21 0) 22 40)) wI_22 (fun H locs hP hD hS => ?_)
    refine lv_aload_n hx hb dX2_begin_32 rfl (lv_at hl 0 rfl) ?_
    refine lv_aload_n hx hb dX2_begin_33 rfl (lv_at hl 0 rfl) ?_
    refine r_get hx hb hts ok_RX2 hown hK hP 6 go_6 rfl 7 (by decide) w_191 (fun _ h9 => h9) rfl dX2_begin_34 ?_
    refine r_put hx hb hts ok_RX2 hown hK hP hD hS 6 go_6 rfl 8 (by decide) w_192 (fun _ h9 => h9) rfl (v := .int (iI (gI (sI (sI x1 21 0) 22 40) 22))) rfl rfl (Nat.le_of_ble_eq_true rfl) dX2_begin_37 (ws' := wld ga n (K 0) (K 1) (sI (sI (sI x1 21 0) 22 40) 23 (gI (sI (sI x1 21 0) 22 40) 22))) wI_23 (fun H locs hP hD hS => ?_)
    refine lv_iconst (v := iI 0) hx hb dX2_begin_40 rfl ?_
    refine x_istore_n hx hb dX2_begin_41 rfl hl (by decide) [0] (lv' := [(0, .ref (ga 6))]) rfl (⟨⟨Nat.ne_of_beq_eq_false rfl, Or.inr rfl⟩, trivial⟩) (fun ls hl => ?_)
    obtain ⟨x10, ex10, h⟩ := ob_some h
    refine L_Mi_begin_42 hx hb hr hml hown hts hlk hK hA hm ga n   fu (sI (sI (sI x1 21 0) 22 40) 23 (gI (sI (sI x1 21 0) 22 40) 22)) 0 _ ex10 _ _ _ hP hD hS (lv_pk hl [1, 0] rfl) (fun ls H locs (hP : va_P D cl (wld ga n (K 0) (K 1) x10) H) (hD : va_D A (wld ga n (K 0) (K 1) x10)) hS (hl : lv_has ls 3 [(0, .ref (ga 6))]) => ?_)
    refine lv_aload_n hx hb dX2_begin_77 rfl (lv_at hl 0 rfl) ?_
    refine lv_aload_n hx hb dX2_begin_78 rfl (lv_at hl 0 rfl) ?_
    refine r_get hx hb hts ok_RX2 hown hK hP 6 go_6 rfl 3 (by decide) w_187 (fun _ h9 => h9) rfl dX2_begin_79 ?_
    refine r_get hx hb hts ok_RX3 hown hK hP 2 go_2 rfl 1 (by decide) w_77 (fun _ h9 => h9) rfl dX2_begin_82 ?_
    obtain ⟨x11, ex11, h⟩ := ob_some h
    refine gk_v (run_V (rest := []) hx hb hml hown hts hK hP hD hS hA hm (C_Mi_addDirty l G D K H.size ga n x10 3 (by decide) ex11) _ (full_C _) (full_n _ List.nodup_range) mok_yX2_addDirty w_452 w_454 w_p4 (rcv hK hP 6 go_6 rfl rfl) ⟨Nat.le_of_ble_eq_true rfl, Nat.le_of_ble_eq_true rfl⟩ rfl hl.1 rfl (Nat.le_of_ble_eq_true rfl) dX2_begin_85 ⟨(Nat.le_of_ble_eq_true rfl), (Nat.le_of_ble_eq_true rfl)⟩) hP hD hS hA (fun u H locs (hP : va_P D cl (wld ga n (K 0) (K 1) x11) H) (hD : va_D A (wld ga n (K 0) (K 1) x11)) hS => ?_)
    refine lv_aload_n hx hb dX2_begin_88 rfl (lv_at hl 0 rfl) ?_
    refine lv_aload_n hx hb dX2_begin_89 rfl (lv_at hl 0 rfl) ?_
    refine r_get hx hb hts ok_RX2 hown hK hP 6 go_6 rfl 3 (by decide) w_187 (fun _ h9 => h9) rfl dX2_begin_90 ?_
    refine r_get hx hb hts ok_RX3 hown hK hP 2 go_2 rfl 2 (by decide) w_79 (fun _ h9 => h9) rfl dX2_begin_93 ?_
    obtain ⟨x12, ex12, h⟩ := ob_some h
    refine gk_v (run_V (rest := []) hx hb hml hown hts hK hP hD hS hA hm (C_Mi_addDirty l G D K H.size ga n x11 4 (by decide) ex12) _ (full_C _) (full_n _ List.nodup_range) mok_yX2_addDirty w_452 w_454 w_p4 (rcv hK hP 6 go_6 rfl rfl) ⟨Nat.le_of_ble_eq_true rfl, Nat.le_of_ble_eq_true rfl⟩ rfl hl.1 rfl (Nat.le_of_ble_eq_true rfl) dX2_begin_96 ⟨(Nat.le_of_ble_eq_true rfl), (Nat.le_of_ble_eq_true rfl)⟩) hP hD hS hA (fun u H locs (hP : va_P D cl (wld ga n (K 0) (K 1) x12) H) (hD : va_D A (wld ga n (K 0) (K 1) x12)) hS => ?_)
    obtain rfl := Option.some.inj h
    exact e_v hx hb hr hlk hP hD hS (fun _ => 0) rfl (Nat.le_of_ble_eq_true rfl) (Nat.le_of_ble_eq_true rfl) dX2_begin_99
  · replace h := it_F h c3
    refine i_if_ne_T hx hb g2 (tgt := 28) dX2_begin_20 (by decide) c3 ?_
    refine lv_iconst (v := iI 0) hx hb dX2_begin_28 rfl ?_
    refine r_put hx hb hts ok_RX2 hown hK hP hD hS 6 go_6 rfl 7 (by decide) w_191 (fun _ h9 => h9) rfl (v := .int (iI 0)) rfl rfl (Nat.le_of_ble_eq_true rfl) dX2_begin_29 (ws' := wld ga n (K 0) (K 1) (sI (sI x1 21 0) 22 0)) wI_22 (fun H locs hP hD hS => ?_)
    refine lv_aload_n hx hb dX2_begin_32 rfl (lv_at hl 0 rfl) ?_
    refine lv_aload_n hx hb dX2_begin_33 rfl (lv_at hl 0 rfl) ?_
    refine r_get hx hb hts ok_RX2 hown hK hP 6 go_6 rfl 7 (by decide) w_191 (fun _ h9 => h9) rfl dX2_begin_34 ?_
    refine r_put hx hb hts ok_RX2 hown hK hP hD hS 6 go_6 rfl 8 (by decide) w_192 (fun _ h9 => h9) rfl (v := .int (iI (gI (sI (sI x1 21 0) 22 0) 22))) rfl rfl (Nat.le_of_ble_eq_true rfl) dX2_begin_37 (ws' := wld ga n (K 0) (K 1) (sI (sI (sI x1 21 0) 22 0) 23 (gI (sI (sI x1 21 0) 22 0) 22))) wI_23 (fun H locs hP hD hS => ?_)
    refine lv_iconst (v := iI 0) hx hb dX2_begin_40 rfl ?_
    refine x_istore_n hx hb dX2_begin_41 rfl hl (by decide) [0] (lv' := [(0, .ref (ga 6))]) rfl (⟨⟨Nat.ne_of_beq_eq_false rfl, Or.inr rfl⟩, trivial⟩) (fun ls hl => ?_)
    obtain ⟨x13, ex13, h⟩ := ob_some h
    refine L_Mi_begin_42 hx hb hr hml hown hts hlk hK hA hm ga n   fu (sI (sI (sI x1 21 0) 22 0) 23 (gI (sI (sI x1 21 0) 22 0) 22)) 0 _ ex13 _ _ _ hP hD hS (lv_pk hl [1, 0] rfl) (fun ls H locs (hP : va_P D cl (wld ga n (K 0) (K 1) x13) H) (hD : va_D A (wld ga n (K 0) (K 1) x13)) hS (hl : lv_has ls 3 [(0, .ref (ga 6))]) => ?_)
    refine lv_aload_n hx hb dX2_begin_77 rfl (lv_at hl 0 rfl) ?_
    refine lv_aload_n hx hb dX2_begin_78 rfl (lv_at hl 0 rfl) ?_
    refine r_get hx hb hts ok_RX2 hown hK hP 6 go_6 rfl 3 (by decide) w_187 (fun _ h9 => h9) rfl dX2_begin_79 ?_
    refine r_get hx hb hts ok_RX3 hown hK hP 2 go_2 rfl 1 (by decide) w_77 (fun _ h9 => h9) rfl dX2_begin_82 ?_
    obtain ⟨x14, ex14, h⟩ := ob_some h
    refine gk_v (run_V (rest := []) hx hb hml hown hts hK hP hD hS hA hm (C_Mi_addDirty l G D K H.size ga n x13 3 (by decide) ex14) _ (full_C _) (full_n _ List.nodup_range) mok_yX2_addDirty w_452 w_454 w_p4 (rcv hK hP 6 go_6 rfl rfl) ⟨Nat.le_of_ble_eq_true rfl, Nat.le_of_ble_eq_true rfl⟩ rfl hl.1 rfl (Nat.le_of_ble_eq_true rfl) dX2_begin_85 ⟨(Nat.le_of_ble_eq_true rfl), (Nat.le_of_ble_eq_true rfl)⟩) hP hD hS hA (fun u H locs (hP : va_P D cl (wld ga n (K 0) (K 1) x14) H) (hD : va_D A (wld ga n (K 0) (K 1) x14)) hS => ?_)
    refine lv_aload_n hx hb dX2_begin_88 rfl (lv_at hl 0 rfl) ?_
    refine lv_aload_n hx hb dX2_begin_89 rfl (lv_at hl 0 rfl) ?_
    refine r_get hx hb hts ok_RX2 hown hK hP 6 go_6 rfl 3 (by decide) w_187 (fun _ h9 => h9) rfl dX2_begin_90 ?_
    refine r_get hx hb hts ok_RX3 hown hK hP 2 go_2 rfl 2 (by decide) w_79 (fun _ h9 => h9) rfl dX2_begin_93 ?_
    obtain ⟨x15, ex15, h⟩ := ob_some h
    refine gk_v (run_V (rest := []) hx hb hml hown hts hK hP hD hS hA hm (C_Mi_addDirty l G D K H.size ga n x14 4 (by decide) ex15) _ (full_C _) (full_n _ List.nodup_range) mok_yX2_addDirty w_452 w_454 w_p4 (rcv hK hP 6 go_6 rfl rfl) ⟨Nat.le_of_ble_eq_true rfl, Nat.le_of_ble_eq_true rfl⟩ rfl hl.1 rfl (Nat.le_of_ble_eq_true rfl) dX2_begin_96 ⟨(Nat.le_of_ble_eq_true rfl), (Nat.le_of_ble_eq_true rfl)⟩) hP hD hS hA (fun u H locs (hP : va_P D cl (wld ga n (K 0) (K 1) x15) H) (hD : va_D A (wld ga n (K 0) (K 1) x15)) hS => ?_)
    obtain rfl := Option.some.inj h
    exact e_v hx hb hr hlk hP hD hS (fun _ => 0) rfl (Nat.le_of_ble_eq_true rfl) (Nat.le_of_ble_eq_true rfl) dX2_begin_99
def s_Mi_follow_54 (rec : cSt → Int → Option (cSt)) (n : Nat) (v1 : Option Nat) (M : cSt) (v2 : Int) : Option (cSt) := on v1 none (fun q10 => og (q10 < n) (og (gL M q10 < 2147483648) (og (inR v2) (og (inR (gL M q10 : Int)) (if v2 < (gL M q10 : Int) then og (0 ≤ v2 ∧ v2 < (gL M q10 : Int)) (ob (f_Mi_move n M (gF M q10 (v2.toNat))) (fun x16 => rec x16 (v2 + 1))) else some M)))))
def g_Mi_follow_54 (n : Nat) (v1 : Option Nat) : Nat → cSt → Int → Option (cSt)
  | 0 => fun _ _ => none
  | q + 1 => s_Mi_follow_54 (g_Mi_follow_54 n v1 q) n v1
set_option maxHeartbeats 4000000 in
set_option maxRecDepth 100000 in
theorem L_Mi_follow_54 {p : Program} {l : Launch} {G : Nat → Nat} {D : va_G} {K : Nat → ClassId} {e : Env} {s : State} {m : MethodId} {args : Array Value} {below : List Frame} {meth : Method} {c : Code} {A : Nat → Prop} (hx : p.tables.exec = Jvm.exec) (hb : c.code = cX2_follow) (hr : meth.sig.returnType = (none : Option FieldType)) (hml : c.maxLocals = 3) (hown : s.vm.findClass RX2 = some m.cls) (hts : ∀ w ∈ lw_gw, w.before args s = true) (hlk : meth.locks = false) (hK : va_K D cl (tys K) s) (hA : ∀ q : Nat, s.heap.size ≤ q → A q) (hm : Amb G A s s.heap) {Q : State → Prop} (ga : Nat → Nat) (n : Nat) (v1 : Option Nat) : ∀ (q : Nat) (M : cSt) (v2 : Int) (out : cSt), g_Mi_follow_54 n v1 q M v2 = some out → ∀ (ls : Array Slot) (H : Heap) (locs : List Loc), va_P D cl (wld ga n (K 0) (K 1) M) H → va_D A (wld ga n (K 0) (K 1) M) → va_S A s.heap H locs → lv_has ls 3 [(0, .ref (ga 6)), (1, ctv ga v1), (2, .int (iI v2))] → (∀ (ls : Array Slot) (H : Heap) (locs : List Loc), va_P D cl (wld ga n (K 0) (K 1) out) H → va_D A (wld ga n (K 0) (K 1) out) → va_S A s.heap H locs → lv_has ls 3 [(0, .ref (ga 6))] → W p l e ({ frames := 3, cells := 0, slots := 0, locals := 65 } : Room) s m args below meth c H locs 0 0 Q (F0 m 79 ls [])) → W p l e ({ frames := 3, cells := 0, slots := 0, locals := 65 } : Room) s m args below meth c H locs 0 0 Q (F0 m 54 ls []) := by
  intro q
  induction q with
  | zero =>
    intro M v2 out h
    cases (show none = some out from h)
  | succ q ih =>
    intro M v2 out h ls H locs hP hD hS hl kk
    replace h : s_Mi_follow_54 (g_Mi_follow_54 n v1 q) n v1 M v2 = some out := h
    unfold s_Mi_follow_54 at h
    refine lv_iload_n hx hb dX2_follow_54 rfl (lv_at hl 2 rfl) ?_
    refine t_aload_n hx hb dX2_follow_55 rfl (lv_at hl 1 rfl) ?_
    rcases on_cases h with ⟨z10, h⟩ | ⟨q10, z10, h⟩
    · cases h
    · obtain ⟨hq10, h⟩ := og_some h
      rw [ctv_some ga z10]
      refine r_get hx hb hts ok_RX7 hown hK hP (25 + 2 * q10) (go_th hq10) rfl 1 (by decide) w_680 (fun _ h9 => h9) rfl dX2_follow_56 ?_
      obtain ⟨g11, h⟩ := og_some h
      refine i_alen hx hb (26 + 2 * q10) 0 hK hP (go_fl hq10) rfl rfl g11 dX2_follow_59 ?_
      obtain ⟨g12, h⟩ := og_some h
      obtain ⟨g13, h⟩ := og_some h
      by_cases c14 : v2 < (gL M q10 : Int)
      · replace h := it_T h c14
        refine i_icmp_ge_F hx hb g12 g13 (tgt := 79) dX2_follow_60 (by decide) c14 ?_
        refine lv_aload_n hx hb dX2_follow_63 rfl (lv_at hl 0 rfl) ?_
        refine t_aload_n hx hb dX2_follow_64 rfl (lv_at hl 1 rfl) ?_
        rw [ctv_some ga z10]
        refine r_get hx hb hts ok_RX7 hown hK hP (25 + 2 * q10) (go_th hq10) rfl 1 (by decide) w_680 (fun _ h9 => h9) rfl dX2_follow_65 ?_
        refine lv_iload_n hx hb dX2_follow_68 rfl (lv_at hl 2 rfl) ?_
        obtain ⟨g15, h⟩ := og_some h
        refine i_aald hx hb (26 + 2 * q10) 0 hK hP (go_fl hq10) rfl g15.1 g15.2 g11 (v := ctv ga (gF M q10 (v2.toNat))) rfl dX2_follow_69 ?_
        obtain ⟨x16, ex16, h⟩ := ob_some h
        refine gk_v (run_V (rest := []) hx hb hml hown hts hK hP hD hS hA hm (C_Mi_move l G D K H.size ga n M (gF M q10 (v2.toNat)) ex16) _ (full_C _) (full_n _ List.nodup_range) mok_yX2_move w_482 w_484 w_p5 (rcv hK hP 6 go_6 rfl rfl) ⟨Nat.le_of_ble_eq_true rfl, Nat.le_of_ble_eq_true rfl⟩ rfl hl.1 rfl (Nat.le_of_ble_eq_true rfl) dX2_follow_70 ⟨(Nat.le_of_ble_eq_true rfl), (Nat.le_of_ble_eq_true rfl)⟩) hP hD hS hA (fun u H locs (hP : va_P D cl (wld ga n (K 0) (K 1) x16) H) (hD : va_D A (wld ga n (K 0) (K 1) x16)) hS => ?_)
        refine x_iinc (v := iI (v2 + 1)) hx hb dX2_follow_73 hl (k := 2) rfl (iI_add v2 1) (by decide) [0, 1] (lv' := [(0, .ref (ga 6)), (1, ctv ga v1)]) rfl (⟨⟨Nat.ne_of_beq_eq_false rfl, Or.inl (Nat.ne_of_beq_eq_false rfl)⟩, ⟨⟨Nat.ne_of_beq_eq_false rfl, Or.inr (ctv_cat _ _)⟩, trivial⟩⟩) (fun ls hl => ?_)
        refine lv_goto (tgt := 54) hx hb dX2_follow_76 (by decide) ?_
        exact ih x16 (v2 + 1) _ h _ _ _ hP hD hS (lv_pk hl [1, 2, 0] rfl) kk
      · replace h := it_F h c14
        refine i_icmp_ge_T hx hb g12 g13 (tgt := 79) dX2_follow_60 (by decide) c14 ?_
        obtain rfl := Option.some.inj h
        exact kk _ _ _ hP hD hS (lv_pk hl [0] rfl)
def s_Mi_follow_0 (rec : cSt → Option (cSt)) (n : Nat)  (M : cSt) : Option (cSt) := og (inR (gI M 21)) (if gI M 21 < 200 then ob (f_Row_size n M 6) (fun x3 => og (inR x3) (if gI M 21 < x3 then ob (f_Row_item n M 6 (gI M 21)) (fun x6 => on x6 (rec (sI M 21 (gI M 21 + 1))) (fun q7 => og (q7 < n) (og (inR (gT M q7 2)) (if gT M q7 2 = 1 then ob (g_Mi_follow_54 n x6 fu M 1) (fun x17 => rec (sI x17 21 (gI x17 21 + 1))) else ob (g_Mi_follow_54 n x6 fu M 0) (fun x18 => rec (sI x18 21 (gI x18 21 + 1))))))) else some M)) else some M)
def g_Mi_follow_0 (n : Nat)  : Nat → cSt → Option (cSt)
  | 0 => fun _ => none
  | q + 1 => s_Mi_follow_0 (g_Mi_follow_0 n  q) n 
set_option maxHeartbeats 4000000 in
set_option maxRecDepth 100000 in
theorem L_Mi_follow_0 {p : Program} {l : Launch} {G : Nat → Nat} {D : va_G} {K : Nat → ClassId} {e : Env} {s : State} {m : MethodId} {args : Array Value} {below : List Frame} {meth : Method} {c : Code} {A : Nat → Prop} (hx : p.tables.exec = Jvm.exec) (hb : c.code = cX2_follow) (hr : meth.sig.returnType = (none : Option FieldType)) (hml : c.maxLocals = 3) (hown : s.vm.findClass RX2 = some m.cls) (hts : ∀ w ∈ lw_gw, w.before args s = true) (hlk : meth.locks = false) (hK : va_K D cl (tys K) s) (hA : ∀ q : Nat, s.heap.size ≤ q → A q) (hm : Amb G A s s.heap) {Q : State → Prop} (ga : Nat → Nat) (n : Nat)  : ∀ (q : Nat) (M : cSt) (out : cSt), g_Mi_follow_0 n  q M = some out → ∀ (ls : Array Slot) (H : Heap) (locs : List Loc), va_P D cl (wld ga n (K 0) (K 1) M) H → va_D A (wld ga n (K 0) (K 1) M) → va_S A s.heap H locs → lv_has ls 3 [(0, .ref (ga 6))] → (∀ (ls : Array Slot) (H : Heap) (locs : List Loc), va_P D cl (wld ga n (K 0) (K 1) out) H → va_D A (wld ga n (K 0) (K 1) out) → va_S A s.heap H locs → lv_has ls 3 [] → W p l e ({ frames := 3, cells := 0, slots := 0, locals := 65 } : Room) s m args below meth c H locs 0 0 Q (F0 m 92 ls [])) → W p l e ({ frames := 3, cells := 0, slots := 0, locals := 65 } : Room) s m args below meth c H locs 0 0 Q (F0 m 0 ls []) := by
  intro q
  induction q with
  | zero =>
    intro M out h
    cases (show none = some out from h)
  | succ q ih =>
    intro M out h ls H locs hP hD hS hl kk
    replace h : s_Mi_follow_0 (g_Mi_follow_0 n  q) n  M = some out := h
    unfold s_Mi_follow_0 at h
    refine lv_aload_n hx hb dX2_follow_0 rfl (lv_at hl 0 rfl) ?_
    refine r_get hx hb hts ok_RX2 hown hK hP 6 go_6 rfl 6 (by decide) w_190 (fun _ h9 => h9) rfl dX2_follow_1 ?_
    refine lv_sipush (v := iI 200) hx hb dX2_follow_4 rfl ?_
    obtain ⟨g1, h⟩ := og_some h
    by_cases c2 : gI M 21 < 200
    · replace h := it_T h c2
      refine i_icmp_ge_F hx hb g1 ⟨by decide, by decide⟩ (tgt := 92) dX2_follow_7 (by decide) c2 ?_
      refine lv_aload_n hx hb dX2_follow_10 rfl (lv_at hl 0 rfl) ?_
      refine r_get hx hb hts ok_RX2 hown hK hP 6 go_6 rfl 6 (by decide) w_190 (fun _ h9 => h9) rfl dX2_follow_11 ?_
      refine lv_aload_n hx hb dX2_follow_14 rfl (lv_at hl 0 rfl) ?_
      refine r_get hx hb hts ok_RX2 hown hK hP 6 go_6 rfl 5 (by decide) w_189 (fun _ h9 => h9) rfl dX2_follow_15 ?_
      obtain ⟨x3, ex3, h⟩ := ob_some h
      refine gk_i (run_V (rest := [.int (iI (gI M 21))]) hx hb hml hown hts hK hP hD hS hA hm (C_Row_size l G D K H.size ga n M 6 (by decide) ex3) _ (full_C _) (full_n _ List.nodup_range) mok_yX5_size w_450 w_405 w_406 (rcv hK hP (8 + 6) (go_ro (by decide)) rfl rfl) ⟨Nat.le_of_ble_eq_true rfl, Nat.le_of_ble_eq_true rfl⟩ rfl hl.1 rfl (Nat.le_of_ble_eq_true rfl) dX2_follow_18 ⟨(Nat.le_of_ble_eq_true rfl), (Nat.le_of_ble_eq_true rfl)⟩) hP hD hS hA (fun u H locs (hP : va_P D cl (wld ga n (K 0) (K 1) M) H) (hD : va_D A (wld ga n (K 0) (K 1) M)) hS => ?_)
      obtain ⟨g4, h⟩ := og_some h
      by_cases c5 : gI M 21 < x3
      · replace h := it_T h c5
        refine i_icmp_ge_F hx hb g1 g4 (tgt := 92) dX2_follow_21 (by decide) c5 ?_
        refine lv_aload_n hx hb dX2_follow_24 rfl (lv_at hl 0 rfl) ?_
        refine r_get hx hb hts ok_RX2 hown hK hP 6 go_6 rfl 5 (by decide) w_189 (fun _ h9 => h9) rfl dX2_follow_25 ?_
        refine lv_aload_n hx hb dX2_follow_28 rfl (lv_at hl 0 rfl) ?_
        refine r_get hx hb hts ok_RX2 hown hK hP 6 go_6 rfl 6 (by decide) w_190 (fun _ h9 => h9) rfl dX2_follow_29 ?_
        obtain ⟨x6, ex6, h⟩ := ob_some h
        refine gk_q (run_V (rest := []) hx hb hml hown hts hK hP hD hS hA hm (C_Row_item l G D K H.size ga n M 6 (by decide) (gI M 21) ex6) _ (full_C _) (full_n _ List.nodup_range) mok_yX5_item w_451 w_419 w_420 (rcv hK hP (8 + 6) (go_ro (by decide)) rfl rfl) ⟨Nat.le_of_ble_eq_true rfl, Nat.le_of_ble_eq_true rfl⟩ rfl hl.1 rfl (Nat.le_of_ble_eq_true rfl) dX2_follow_32 ⟨(Nat.le_of_ble_eq_true rfl), (Nat.le_of_ble_eq_true rfl)⟩) hP hD hS hA (fun u H locs (hP : va_P D cl (wld ga n (K 0) (K 1) M) H) (hD : va_D A (wld ga n (K 0) (K 1) M)) hS => ?_)
        refine w_tov (y := ctv ga x6) rfl ?_
        refine t_astore_n hx hb dX2_follow_35 rfl hl (by decide) [0] (lv' := [(0, .ref (ga 6))]) rfl (⟨⟨Nat.ne_of_beq_eq_false rfl, Or.inr rfl⟩, trivial⟩) (fun ls hl => ?_)
        refine t_aload_n hx hb dX2_follow_36 rfl (lv_at hl 0 rfl) ?_
        rcases on_cases h with ⟨z7, h⟩ | ⟨q7, z7, h⟩
        · rw [ctv_none ga z7]
          refine lv_ifnullN (tgt := 79) hx hb dX2_follow_37 (by decide) ?_
          refine lv_aload_n hx hb dX2_follow_79 rfl (lv_at hl 1 rfl) ?_
          refine lv_dup hx hb dX2_follow_80 rfl ?_
          refine r_get hx hb hts ok_RX2 hown hK hP 6 go_6 rfl 6 (by decide) w_190 (fun _ h9 => h9) rfl dX2_follow_81 ?_
          refine lv_iconst (v := iI 1) hx hb dX2_follow_84 rfl ?_
          refine lv_iadd hx hb dX2_follow_85 ?_
          refine w_toeq (iI_add (gI M 21) 1) ?_
          refine r_put hx hb hts ok_RX2 hown hK hP hD hS 6 go_6 rfl 6 (by decide) w_190 (fun _ h9 => h9) rfl (v := .int (iI (gI M 21 + 1))) rfl rfl (Nat.le_of_ble_eq_true rfl) dX2_follow_86 (ws' := wld ga n (K 0) (K 1) (sI M 21 (gI M 21 + 1))) wI_21 (fun H locs hP hD hS => ?_)
          refine lv_goto (tgt := 0) hx hb dX2_follow_89 (by decide) ?_
          exact ih (sI M 21 (gI M 21 + 1)) _ h _ _ _ hP hD hS (lv_pk hl [1] rfl) kk
        · obtain ⟨hq7, h⟩ := og_some h
          rw [ctv_some ga z7]
          refine lv_ifnull hx hb dX2_follow_37 ?_
          refine t_aload_n hx hb dX2_follow_40 rfl (lv_at hl 0 rfl) ?_
          rw [ctv_some ga z7]
          refine r_get hx hb hts ok_RX7 hown hK hP (25 + 2 * q7) (go_th hq7) rfl 2 (by decide) w_685 (fun _ h9 => h9) rfl dX2_follow_41 ?_
          refine lv_iconst (v := iI 1) hx hb dX2_follow_44 rfl ?_
          obtain ⟨g8, h⟩ := og_some h
          by_cases c9 : gT M q7 2 = 1
          · replace h := it_T h c9
            refine i_icmp_ne_F hx hb g8 ⟨by decide, by decide⟩ (tgt := 52) dX2_follow_45 (by decide) c9 ?_
            refine lv_iconst (v := iI 1) hx hb dX2_follow_48 rfl ?_
            refine lv_goto (tgt := 53) hx hb dX2_follow_49 (by decide) ?_
            refine x_istore_n hx hb dX2_follow_53 rfl hl (by decide) [0, 1] (lv' := [(1, ctv ga x6), (0, .ref (ga 6))]) rfl (⟨⟨Nat.ne_of_beq_eq_false rfl, Or.inr (ctv_cat _ _)⟩, ⟨⟨Nat.ne_of_beq_eq_false rfl, Or.inl (Nat.ne_of_beq_eq_false rfl)⟩, trivial⟩⟩) (fun ls hl => ?_)
            obtain ⟨x17, ex17, h⟩ := ob_some h
            refine L_Mi_follow_54 hx hb hr hml hown hts hlk hK hA hm ga n x6  fu M 1 _ ex17 _ _ _ hP hD hS (lv_pk hl [2, 1, 0] rfl) (fun ls H locs (hP : va_P D cl (wld ga n (K 0) (K 1) x17) H) (hD : va_D A (wld ga n (K 0) (K 1) x17)) hS (hl : lv_has ls 3 [(0, .ref (ga 6))]) => ?_)
            refine lv_aload_n hx hb dX2_follow_79 rfl (lv_at hl 0 rfl) ?_
            refine lv_dup hx hb dX2_follow_80 rfl ?_
            refine r_get hx hb hts ok_RX2 hown hK hP 6 go_6 rfl 6 (by decide) w_190 (fun _ h9 => h9) rfl dX2_follow_81 ?_
            refine lv_iconst (v := iI 1) hx hb dX2_follow_84 rfl ?_
            refine lv_iadd hx hb dX2_follow_85 ?_
            refine w_toeq (iI_add (gI x17 21) 1) ?_
            refine r_put hx hb hts ok_RX2 hown hK hP hD hS 6 go_6 rfl 6 (by decide) w_190 (fun _ h9 => h9) rfl (v := .int (iI (gI x17 21 + 1))) rfl rfl (Nat.le_of_ble_eq_true rfl) dX2_follow_86 (ws' := wld ga n (K 0) (K 1) (sI x17 21 (gI x17 21 + 1))) wI_21 (fun H locs hP hD hS => ?_)
            refine lv_goto (tgt := 0) hx hb dX2_follow_89 (by decide) ?_
            exact ih (sI x17 21 (gI x17 21 + 1)) _ h _ _ _ hP hD hS (lv_pk hl [0] rfl) kk
          · replace h := it_F h c9
            refine i_icmp_ne_T hx hb g8 ⟨by decide, by decide⟩ (tgt := 52) dX2_follow_45 (by decide) c9 ?_
            refine lv_iconst (v := iI 0) hx hb dX2_follow_52 rfl ?_
            refine x_istore_n hx hb dX2_follow_53 rfl hl (by decide) [0, 1] (lv' := [(1, ctv ga x6), (0, .ref (ga 6))]) rfl (⟨⟨Nat.ne_of_beq_eq_false rfl, Or.inr (ctv_cat _ _)⟩, ⟨⟨Nat.ne_of_beq_eq_false rfl, Or.inl (Nat.ne_of_beq_eq_false rfl)⟩, trivial⟩⟩) (fun ls hl => ?_)
            obtain ⟨x18, ex18, h⟩ := ob_some h
            refine L_Mi_follow_54 hx hb hr hml hown hts hlk hK hA hm ga n x6  fu M 0 _ ex18 _ _ _ hP hD hS (lv_pk hl [2, 1, 0] rfl) (fun ls H locs (hP : va_P D cl (wld ga n (K 0) (K 1) x18) H) (hD : va_D A (wld ga n (K 0) (K 1) x18)) hS (hl : lv_has ls 3 [(0, .ref (ga 6))]) => ?_)
            refine lv_aload_n hx hb dX2_follow_79 rfl (lv_at hl 0 rfl) ?_
            refine lv_dup hx hb dX2_follow_80 rfl ?_
            refine r_get hx hb hts ok_RX2 hown hK hP 6 go_6 rfl 6 (by decide) w_190 (fun _ h9 => h9) rfl dX2_follow_81 ?_
            refine lv_iconst (v := iI 1) hx hb dX2_follow_84 rfl ?_
            refine lv_iadd hx hb dX2_follow_85 ?_
            refine w_toeq (iI_add (gI x18 21) 1) ?_
            refine r_put hx hb hts ok_RX2 hown hK hP hD hS 6 go_6 rfl 6 (by decide) w_190 (fun _ h9 => h9) rfl (v := .int (iI (gI x18 21 + 1))) rfl rfl (Nat.le_of_ble_eq_true rfl) dX2_follow_86 (ws' := wld ga n (K 0) (K 1) (sI x18 21 (gI x18 21 + 1))) wI_21 (fun H locs hP hD hS => ?_)
            refine lv_goto (tgt := 0) hx hb dX2_follow_89 (by decide) ?_
            exact ih (sI x18 21 (gI x18 21 + 1)) _ h _ _ _ hP hD hS (lv_pk hl [0] rfl) kk
      · replace h := it_F h c5
        refine i_icmp_ge_T hx hb g1 g4 (tgt := 92) dX2_follow_21 (by decide) c5 ?_
        obtain rfl := Option.some.inj h
        exact kk _ _ _ hP hD hS (lv_pk hl [] rfl)
    · replace h := it_F h c2
      refine i_icmp_ge_T hx hb g1 ⟨by decide, by decide⟩ (tgt := 92) dX2_follow_7 (by decide) c2 ?_
      obtain rfl := Option.some.inj h
      exact kk _ _ _ hP hD hS (lv_pk hl [] rfl)
def f_Mi_follow (n : Nat) (M : cSt)  : Option (cSt) := ob (g_Mi_follow_0 n  fu M) (fun x19 => some x19)
set_option maxHeartbeats 4000000 in
set_option maxRecDepth 100000 in
theorem C_Mi_follow (l : Launch) (G : Nat → Nat) (D : va_G) (K : Nat → ClassId) (sz : Nat) (ga : Nat → Nat) (n : Nat) (M : cSt)  {x : cSt} (h : f_Mi_follow n M  = some x) : CM l yX2_follow cX2_follow 3 (none : Option FieldType) ({ frames := 3, cells := 0, slots := 0, locals := 65 } : Room) G D K [.ref (ga 6)] (wld ga n (K 0) (K 1) M) sz (CQv D (fun _ => wld ga n (K 0) (K 1) x)) := by
  refine CM_of (lv0 := [(0, .ref (ga 6))]) pn_RX2 (Nat.le_of_ble_eq_true rfl) rfl (fun p e s m args below meth c A ls hx hb hr hml hown hts hlk hnm hP hK hD hS hA hm hl => ?_)
  have hown : s.vm.findClass RX2 = some m.cls := hown
  unfold f_Mi_follow at h
  obtain ⟨x19, ex19, h⟩ := ob_some h
  refine L_Mi_follow_0 hx hb hr hml hown hts hlk hK hA hm ga n   fu M _ ex19 _ _ _ hP hD hS (lv_pk hl [0] rfl) (fun ls H locs (hP : va_P D cl (wld ga n (K 0) (K 1) x19) H) (hD : va_D A (wld ga n (K 0) (K 1) x19)) hS (hl : lv_has ls 3 []) => ?_)
  obtain rfl := Option.some.inj h
  exact e_v hx hb hr hlk hP hD hS (fun _ => 0) rfl (Nat.le_of_ble_eq_true rfl) (Nat.le_of_ble_eq_true rfl) dX2_follow_92
def s_Mi_dropReferents_2 (rec : cSt → Int → Option (cSt)) (n : Nat)  (M : cSt) (v1 : Int) : Option (cSt) := ob (f_Row_size n M 0) (fun x1 => og (inR v1) (og (inR x1) (if v1 < x1 then ob (f_Row_item n M 0 v1) (fun x5 => on x5 (rec M (v1 + 1)) (fun q6 => og (q6 < n) (og (inR (gT M q6 2)) (if gT M q6 2 = 1 then ob (f_Mi_isLeft n M (some q6)) (fun x9 => og (inR x9) (if x9 = 0 then ob (f_Th_read n M q6 0) (fun x12 => ob (f_Mi_isLeft n M x12) (fun x13 => og (inR x13) (if x13 = 0 then rec M (v1 + 1) else ob (f_Th_write n M q6 0 none) (fun x16 => rec x16 (v1 + 1))))) else rec M (v1 + 1))) else rec M (v1 + 1))))) else some M)))
def g_Mi_dropReferents_2 (n : Nat)  : Nat → cSt → Int → Option (cSt)
  | 0 => fun _ _ => none
  | q + 1 => s_Mi_dropReferents_2 (g_Mi_dropReferents_2 n  q) n 
set_option maxHeartbeats 4000000 in
set_option maxRecDepth 100000 in
theorem L_Mi_dropReferents_2 {p : Program} {l : Launch} {G : Nat → Nat} {D : va_G} {K : Nat → ClassId} {e : Env} {s : State} {m : MethodId} {args : Array Value} {below : List Frame} {meth : Method} {c : Code} {A : Nat → Prop} (hx : p.tables.exec = Jvm.exec) (hb : c.code = cX2_dropReferents) (hr : meth.sig.returnType = (none : Option FieldType)) (hml : c.maxLocals = 3) (hown : s.vm.findClass RX2 = some m.cls) (hts : ∀ w ∈ lw_gw, w.before args s = true) (hlk : meth.locks = false) (hK : va_K D cl (tys K) s) (hA : ∀ q : Nat, s.heap.size ≤ q → A q) (hm : Amb G A s s.heap) {Q : State → Prop} (ga : Nat → Nat) (n : Nat)  : ∀ (q : Nat) (M : cSt) (v1 : Int) (out : cSt), g_Mi_dropReferents_2 n  q M v1 = some out → ∀ (ls : Array Slot) (H : Heap) (locs : List Loc), va_P D cl (wld ga n (K 0) (K 1) M) H → va_D A (wld ga n (K 0) (K 1) M) → va_S A s.heap H locs → lv_has ls 3 [(0, .ref (ga 6)), (1, .int (iI v1))] → (∀ (ls : Array Slot) (H : Heap) (locs : List Loc), va_P D cl (wld ga n (K 0) (K 1) out) H → va_D A (wld ga n (K 0) (K 1) out) → va_S A s.heap H locs → lv_has ls 3 [] → W p l e ({ frames := 1, cells := 0, slots := 0, locals := 22 } : Room) s m args below meth c H locs 0 0 Q (F0 m 64 ls [])) → W p l e ({ frames := 1, cells := 0, slots := 0, locals := 22 } : Room) s m args below meth c H locs 0 0 Q (F0 m 2 ls []) := by
  intro q
  induction q with
  | zero =>
    intro M v1 out h
    cases (show none = some out from h)
  | succ q ih =>
    intro M v1 out h ls H locs hP hD hS hl kk
    replace h : s_Mi_dropReferents_2 (g_Mi_dropReferents_2 n  q) n  M v1 = some out := h
    unfold s_Mi_dropReferents_2 at h
    refine lv_iload_n hx hb dX2_dropReferents_2 rfl (lv_at hl 1 rfl) ?_
    refine lv_aload_n hx hb dX2_dropReferents_3 rfl (lv_at hl 0 rfl) ?_
    refine r_get hx hb hts ok_RX2 hown hK hP 6 go_6 rfl 1 (by decide) w_185 (fun _ h9 => h9) rfl dX2_dropReferents_4 ?_
    obtain ⟨x1, ex1, h⟩ := ob_some h
    refine gk_i (run_V (rest := [.int (iI v1)]) hx hb hml hown hts hK hP hD hS hA hm (C_Row_size l G D K H.size ga n M 0 (by decide) ex1) _ (full_C _) (full_n _ List.nodup_range) mok_yX5_size w_450 w_405 w_406 (rcv hK hP (8 + 0) (go_ro (by decide)) rfl rfl) ⟨Nat.le_of_ble_eq_true rfl, Nat.le_of_ble_eq_true rfl⟩ rfl hl.1 rfl (Nat.le_of_ble_eq_true rfl) dX2_dropReferents_7 ⟨(Nat.le_of_ble_eq_true rfl), (Nat.le_of_ble_eq_true rfl)⟩) hP hD hS hA (fun u H locs (hP : va_P D cl (wld ga n (K 0) (K 1) M) H) (hD : va_D A (wld ga n (K 0) (K 1) M)) hS => ?_)
    obtain ⟨g2, h⟩ := og_some h
    obtain ⟨g3, h⟩ := og_some h
    by_cases c4 : v1 < x1
    · replace h := it_T h c4
      refine i_icmp_ge_F hx hb g2 g3 (tgt := 64) dX2_dropReferents_10 (by decide) c4 ?_
      refine lv_aload_n hx hb dX2_dropReferents_13 rfl (lv_at hl 0 rfl) ?_
      refine r_get hx hb hts ok_RX2 hown hK hP 6 go_6 rfl 1 (by decide) w_185 (fun _ h9 => h9) rfl dX2_dropReferents_14 ?_
      refine lv_iload_n hx hb dX2_dropReferents_17 rfl (lv_at hl 1 rfl) ?_
      obtain ⟨x5, ex5, h⟩ := ob_some h
      refine gk_q (run_V (rest := []) hx hb hml hown hts hK hP hD hS hA hm (C_Row_item l G D K H.size ga n M 0 (by decide) v1 ex5) _ (full_C _) (full_n _ List.nodup_range) mok_yX5_item w_451 w_419 w_420 (rcv hK hP (8 + 0) (go_ro (by decide)) rfl rfl) ⟨Nat.le_of_ble_eq_true rfl, Nat.le_of_ble_eq_true rfl⟩ rfl hl.1 rfl (Nat.le_of_ble_eq_true rfl) dX2_dropReferents_18 ⟨(Nat.le_of_ble_eq_true rfl), (Nat.le_of_ble_eq_true rfl)⟩) hP hD hS hA (fun u H locs (hP : va_P D cl (wld ga n (K 0) (K 1) M) H) (hD : va_D A (wld ga n (K 0) (K 1) M)) hS => ?_)
      refine w_tov (y := ctv ga x5) rfl ?_
      refine t_astore_n hx hb dX2_dropReferents_21 rfl hl (by decide) [0, 1] (lv' := [(0, .ref (ga 6)), (1, .int (iI v1))]) rfl (⟨⟨Nat.ne_of_beq_eq_false rfl, Or.inl (Nat.ne_of_beq_eq_false rfl)⟩, ⟨⟨Nat.ne_of_beq_eq_false rfl, Or.inr rfl⟩, trivial⟩⟩) (fun ls hl => ?_)
      refine t_aload_n hx hb dX2_dropReferents_22 rfl (lv_at hl 0 rfl) ?_
      rcases on_cases h with ⟨z6, h⟩ | ⟨q6, z6, h⟩
      · rw [ctv_none ga z6]
        refine lv_ifnullN (tgt := 58) hx hb dX2_dropReferents_23 (by decide) ?_
        refine x_iinc (v := iI (v1 + 1)) hx hb dX2_dropReferents_58 hl (k := 2) rfl (iI_add v1 1) (by decide) [0, 1] (lv' := [(2, ctv ga x5), (0, .ref (ga 6))]) rfl (⟨⟨Nat.ne_of_beq_eq_false rfl, Or.inl (Nat.ne_of_beq_eq_false rfl)⟩, ⟨⟨Nat.ne_of_beq_eq_false rfl, Or.inr rfl⟩, trivial⟩⟩) (fun ls hl => ?_)
        refine lv_goto (tgt := 2) hx hb dX2_dropReferents_61 (by decide) ?_
        exact ih M (v1 + 1) _ h _ _ _ hP hD hS (lv_pk hl [2, 0] rfl) kk
      · obtain ⟨hq6, h⟩ := og_some h
        rw [ctv_some ga z6]
        refine lv_ifnull hx hb dX2_dropReferents_23 ?_
        refine t_aload_n hx hb dX2_dropReferents_26 rfl (lv_at hl 0 rfl) ?_
        rw [ctv_some ga z6]
        refine r_get hx hb hts ok_RX7 hown hK hP (25 + 2 * q6) (go_th hq6) rfl 2 (by decide) w_685 (fun _ h9 => h9) rfl dX2_dropReferents_27 ?_
        refine lv_iconst (v := iI 1) hx hb dX2_dropReferents_30 rfl ?_
        obtain ⟨g7, h⟩ := og_some h
        by_cases c8 : gT M q6 2 = 1
        · replace h := it_T h c8
          refine i_icmp_ne_F hx hb g7 ⟨by decide, by decide⟩ (tgt := 58) dX2_dropReferents_31 (by decide) c8 ?_
          refine t_aload_n hx hb dX2_dropReferents_34 rfl (lv_at hl 0 rfl) ?_
          rw [ctv_some ga z6]
          obtain ⟨x9, ex9, h⟩ := ob_some h
          refine gk_i (run_S (rest := []) hx hb hml hown hts hK hP hD hS hA hm (C_Mi_isLeft l G D K H.size ga n M (some q6) ex9) _ (full_C _) (full_n _ List.nodup_range) mok_yX2_isLeft w_486 w_487 ⟨Nat.le_of_ble_eq_true rfl, Nat.le_of_ble_eq_true rfl⟩ rfl hl.1 rfl (Nat.le_of_ble_eq_true rfl) dX2_dropReferents_35 ⟨(Nat.le_of_ble_eq_true rfl), (Nat.le_of_ble_eq_true rfl)⟩) hP hD hS hA (fun u H locs (hP : va_P D cl (wld ga n (K 0) (K 1) M) H) (hD : va_D A (wld ga n (K 0) (K 1) M)) hS => ?_)
          obtain ⟨g10, h⟩ := og_some h
          by_cases c11 : x9 = 0
          · replace h := it_T h c11
            refine i_if_ne_F hx hb g10 (tgt := 58) dX2_dropReferents_38 (by decide) c11 ?_
            refine t_aload_n hx hb dX2_dropReferents_41 rfl (lv_at hl 0 rfl) ?_
            rw [ctv_some ga z6]
            refine lv_iconst (v := iI 0) hx hb dX2_dropReferents_42 rfl ?_
            obtain ⟨x12, ex12, h⟩ := ob_some h
            refine gk_q (run_V (rest := []) hx hb hml hown hts hK hP hD hS hA hm (C_Th_read l G D K H.size ga n M q6 hq6 0 ex12) _ (full_C _) (full_n _ List.nodup_range) mok_yX7_read w_508 w_509 w_510 (rcv hK hP (25 + 2 * q6) (go_th hq6) rfl rfl) ⟨Nat.le_of_ble_eq_true rfl, Nat.le_of_ble_eq_true rfl⟩ rfl hl.1 rfl (Nat.le_of_ble_eq_true rfl) dX2_dropReferents_43 ⟨(Nat.le_of_ble_eq_true rfl), (Nat.le_of_ble_eq_true rfl)⟩) hP hD hS hA (fun u H locs (hP : va_P D cl (wld ga n (K 0) (K 1) M) H) (hD : va_D A (wld ga n (K 0) (K 1) M)) hS => ?_)
            refine w_tov (y := ctv ga x12) rfl ?_
            obtain ⟨x13, ex13, h⟩ := ob_some h
            refine gk_i (run_S (rest := []) hx hb hml hown hts hK hP hD hS hA hm (C_Mi_isLeft l G D K H.size ga n M x12 ex13) _ (full_C _) (full_n _ List.nodup_range) mok_yX2_isLeft w_486 w_487 ⟨Nat.le_of_ble_eq_true rfl, Nat.le_of_ble_eq_true rfl⟩ rfl hl.1 rfl (Nat.le_of_ble_eq_true rfl) dX2_dropReferents_46 ⟨(Nat.le_of_ble_eq_true rfl), (Nat.le_of_ble_eq_true rfl)⟩) hP hD hS hA (fun u H locs (hP : va_P D cl (wld ga n (K 0) (K 1) M) H) (hD : va_D A (wld ga n (K 0) (K 1) M)) hS => ?_)
            obtain ⟨g14, h⟩ := og_some h
            by_cases c15 : x13 = 0
            · replace h := it_T h c15
              refine i_if_eq_T hx hb g14 (tgt := 58) dX2_dropReferents_49 (by decide) c15 ?_
              refine x_iinc (v := iI (v1 + 1)) hx hb dX2_dropReferents_58 hl (k := 2) rfl (iI_add v1 1) (by decide) [0, 1] (lv' := [(2, ctv ga x5), (0, .ref (ga 6))]) rfl (⟨⟨Nat.ne_of_beq_eq_false rfl, Or.inl (Nat.ne_of_beq_eq_false rfl)⟩, ⟨⟨Nat.ne_of_beq_eq_false rfl, Or.inr rfl⟩, trivial⟩⟩) (fun ls hl => ?_)
              refine lv_goto (tgt := 2) hx hb dX2_dropReferents_61 (by decide) ?_
              exact ih M (v1 + 1) _ h _ _ _ hP hD hS (lv_pk hl [2, 0] rfl) kk
            · replace h := it_F h c15
              refine i_if_eq_F hx hb g14 (tgt := 58) dX2_dropReferents_49 (by decide) c15 ?_
              refine t_aload_n hx hb dX2_dropReferents_52 rfl (lv_at hl 0 rfl) ?_
              rw [ctv_some ga z6]
              refine lv_iconst (v := iI 0) hx hb dX2_dropReferents_53 rfl ?_
              refine lv_null hx hb dX2_dropReferents_54 ?_
              obtain ⟨x16, ex16, h⟩ := ob_some h
              refine gk_v (run_V (rest := []) hx hb hml hown hts hK hP hD hS hA hm (C_Th_write l G D K H.size ga n M q6 hq6 0 none ex16) _ (full_C _) (full_n _ List.nodup_range) mok_yX7_write w_512 w_513 w_514 (rcv hK hP (25 + 2 * q6) (go_th hq6) rfl rfl) ⟨Nat.le_of_ble_eq_true rfl, Nat.le_of_ble_eq_true rfl⟩ rfl hl.1 rfl (Nat.le_of_ble_eq_true rfl) dX2_dropReferents_55 ⟨(Nat.le_of_ble_eq_true rfl), (Nat.le_of_ble_eq_true rfl)⟩) hP hD hS hA (fun u H locs (hP : va_P D cl (wld ga n (K 0) (K 1) x16) H) (hD : va_D A (wld ga n (K 0) (K 1) x16)) hS => ?_)
              refine x_iinc (v := iI (v1 + 1)) hx hb dX2_dropReferents_58 hl (k := 2) rfl (iI_add v1 1) (by decide) [0, 1] (lv' := [(2, ctv ga x5), (0, .ref (ga 6))]) rfl (⟨⟨Nat.ne_of_beq_eq_false rfl, Or.inl (Nat.ne_of_beq_eq_false rfl)⟩, ⟨⟨Nat.ne_of_beq_eq_false rfl, Or.inr rfl⟩, trivial⟩⟩) (fun ls hl => ?_)
              refine lv_goto (tgt := 2) hx hb dX2_dropReferents_61 (by decide) ?_
              exact ih x16 (v1 + 1) _ h _ _ _ hP hD hS (lv_pk hl [2, 0] rfl) kk
          · replace h := it_F h c11
            refine i_if_ne_T hx hb g10 (tgt := 58) dX2_dropReferents_38 (by decide) c11 ?_
            refine x_iinc (v := iI (v1 + 1)) hx hb dX2_dropReferents_58 hl (k := 2) rfl (iI_add v1 1) (by decide) [0, 1] (lv' := [(2, ctv ga x5), (0, .ref (ga 6))]) rfl (⟨⟨Nat.ne_of_beq_eq_false rfl, Or.inl (Nat.ne_of_beq_eq_false rfl)⟩, ⟨⟨Nat.ne_of_beq_eq_false rfl, Or.inr rfl⟩, trivial⟩⟩) (fun ls hl => ?_)
            refine lv_goto (tgt := 2) hx hb dX2_dropReferents_61 (by decide) ?_
            exact ih M (v1 + 1) _ h _ _ _ hP hD hS (lv_pk hl [2, 0] rfl) kk
        · replace h := it_F h c8
          refine i_icmp_ne_T hx hb g7 ⟨by decide, by decide⟩ (tgt := 58) dX2_dropReferents_31 (by decide) c8 ?_
          refine x_iinc (v := iI (v1 + 1)) hx hb dX2_dropReferents_58 hl (k := 2) rfl (iI_add v1 1) (by decide) [0, 1] (lv' := [(2, ctv ga x5), (0, .ref (ga 6))]) rfl (⟨⟨Nat.ne_of_beq_eq_false rfl, Or.inl (Nat.ne_of_beq_eq_false rfl)⟩, ⟨⟨Nat.ne_of_beq_eq_false rfl, Or.inr rfl⟩, trivial⟩⟩) (fun ls hl => ?_)
          refine lv_goto (tgt := 2) hx hb dX2_dropReferents_61 (by decide) ?_
          exact ih M (v1 + 1) _ h _ _ _ hP hD hS (lv_pk hl [2, 0] rfl) kk
    · replace h := it_F h c4
      refine i_icmp_ge_T hx hb g2 g3 (tgt := 64) dX2_dropReferents_10 (by decide) c4 ?_
      obtain rfl := Option.some.inj h
      exact kk _ _ _ hP hD hS (lv_pk hl [] rfl)
def f_Mi_dropReferents (n : Nat) (M : cSt)  : Option (cSt) := ob (g_Mi_dropReferents_2 n  fu M 0) (fun x17 => some x17)
set_option maxHeartbeats 4000000 in
set_option maxRecDepth 100000 in
theorem C_Mi_dropReferents (l : Launch) (G : Nat → Nat) (D : va_G) (K : Nat → ClassId) (sz : Nat) (ga : Nat → Nat) (n : Nat) (M : cSt)  {x : cSt} (h : f_Mi_dropReferents n M  = some x) : CM l yX2_dropReferents cX2_dropReferents 3 (none : Option FieldType) ({ frames := 1, cells := 0, slots := 0, locals := 22 } : Room) G D K [.ref (ga 6)] (wld ga n (K 0) (K 1) M) sz (CQv D (fun _ => wld ga n (K 0) (K 1) x)) := by
  refine CM_of (lv0 := [(0, .ref (ga 6))]) pn_RX2 (Nat.le_of_ble_eq_true rfl) rfl (fun p e s m args below meth c A ls hx hb hr hml hown hts hlk hnm hP hK hD hS hA hm hl => ?_)
  have hown : s.vm.findClass RX2 = some m.cls := hown
  unfold f_Mi_dropReferents at h
  refine lv_iconst (v := iI 0) hx hb dX2_dropReferents_0 rfl ?_
  refine x_istore_n hx hb dX2_dropReferents_1 rfl hl (by decide) [0] (lv' := [(0, .ref (ga 6))]) rfl (⟨⟨Nat.ne_of_beq_eq_false rfl, Or.inr rfl⟩, trivial⟩) (fun ls hl => ?_)
  obtain ⟨x17, ex17, h⟩ := ob_some h
  refine L_Mi_dropReferents_2 hx hb hr hml hown hts hlk hK hA hm ga n   fu M 0 _ ex17 _ _ _ hP hD hS (lv_pk hl [1, 0] rfl) (fun ls H locs (hP : va_P D cl (wld ga n (K 0) (K 1) x17) H) (hD : va_D A (wld ga n (K 0) (K 1) x17)) hS (hl : lv_has ls 3 []) => ?_)
  obtain rfl := Option.some.inj h
  exact e_v hx hb hr hlk hP hD hS (fun _ => 0) rfl (Nat.le_of_ble_eq_true rfl) (Nat.le_of_ble_eq_true rfl) dX2_dropReferents_64
def s_Mi_raiseFinals_2 (rec : cSt → Int → Option (cSt)) (n : Nat)  (M : cSt) (v1 : Int) : Option (cSt) := ob (f_Row_size n M 0) (fun x1 => og (inR v1) (og (inR x1) (if v1 < x1 then ob (f_Row_item n M 0 v1) (fun x5 => on x5 (rec M (v1 + 1)) (fun q6 => og (q6 < n) (og (inR (gT M q6 2)) (if gT M q6 2 = 4 then ob (f_Mi_isLeft n M (some q6)) (fun x9 => og (inR x9) (if x9 = 0 then rec M (v1 + 1) else ob (f_Row_add n (sT M q6 2 0) 1 (some q6)) (fun x12 => ob (f_Mi_move n x12 (some q6)) (fun x13 => rec x13 (v1 + 1))))) else rec M (v1 + 1))))) else some M)))
def g_Mi_raiseFinals_2 (n : Nat)  : Nat → cSt → Int → Option (cSt)
  | 0 => fun _ _ => none
  | q + 1 => s_Mi_raiseFinals_2 (g_Mi_raiseFinals_2 n  q) n 
set_option maxHeartbeats 4000000 in
set_option maxRecDepth 100000 in
theorem L_Mi_raiseFinals_2 {p : Program} {l : Launch} {G : Nat → Nat} {D : va_G} {K : Nat → ClassId} {e : Env} {s : State} {m : MethodId} {args : Array Value} {below : List Frame} {meth : Method} {c : Code} {A : Nat → Prop} (hx : p.tables.exec = Jvm.exec) (hb : c.code = cX2_raiseFinals) (hr : meth.sig.returnType = (none : Option FieldType)) (hml : c.maxLocals = 3) (hown : s.vm.findClass RX2 = some m.cls) (hts : ∀ w ∈ lw_gw, w.before args s = true) (hlk : meth.locks = false) (hK : va_K D cl (tys K) s) (hA : ∀ q : Nat, s.heap.size ≤ q → A q) (hm : Amb G A s s.heap) {Q : State → Prop} (ga : Nat → Nat) (n : Nat)  : ∀ (q : Nat) (M : cSt) (v1 : Int) (out : cSt), g_Mi_raiseFinals_2 n  q M v1 = some out → ∀ (ls : Array Slot) (H : Heap) (locs : List Loc), va_P D cl (wld ga n (K 0) (K 1) M) H → va_D A (wld ga n (K 0) (K 1) M) → va_S A s.heap H locs → lv_has ls 3 [(0, .ref (ga 6)), (1, .int (iI v1))] → (∀ (ls : Array Slot) (H : Heap) (locs : List Loc), va_P D cl (wld ga n (K 0) (K 1) out) H → va_D A (wld ga n (K 0) (K 1) out) → va_S A s.heap H locs → lv_has ls 3 [] → W p l e ({ frames := 3, cells := 0, slots := 0, locals := 65 } : Room) s m args below meth c H locs 0 0 Q (F0 m 68 ls [])) → W p l e ({ frames := 3, cells := 0, slots := 0, locals := 65 } : Room) s m args below meth c H locs 0 0 Q (F0 m 2 ls []) := by
  intro q
  induction q with
  | zero =>
    intro M v1 out h
    cases (show none = some out from h)
  | succ q ih =>
    intro M v1 out h ls H locs hP hD hS hl kk
    replace h : s_Mi_raiseFinals_2 (g_Mi_raiseFinals_2 n  q) n  M v1 = some out := h
    unfold s_Mi_raiseFinals_2 at h
    refine lv_iload_n hx hb dX2_raiseFinals_2 rfl (lv_at hl 1 rfl) ?_
    refine lv_aload_n hx hb dX2_raiseFinals_3 rfl (lv_at hl 0 rfl) ?_
    refine r_get hx hb hts ok_RX2 hown hK hP 6 go_6 rfl 1 (by decide) w_185 (fun _ h9 => h9) rfl dX2_raiseFinals_4 ?_
    obtain ⟨x1, ex1, h⟩ := ob_some h
    refine gk_i (run_V (rest := [.int (iI v1)]) hx hb hml hown hts hK hP hD hS hA hm (C_Row_size l G D K H.size ga n M 0 (by decide) ex1) _ (full_C _) (full_n _ List.nodup_range) mok_yX5_size w_450 w_405 w_406 (rcv hK hP (8 + 0) (go_ro (by decide)) rfl rfl) ⟨Nat.le_of_ble_eq_true rfl, Nat.le_of_ble_eq_true rfl⟩ rfl hl.1 rfl (Nat.le_of_ble_eq_true rfl) dX2_raiseFinals_7 ⟨(Nat.le_of_ble_eq_true rfl), (Nat.le_of_ble_eq_true rfl)⟩) hP hD hS hA (fun u H locs (hP : va_P D cl (wld ga n (K 0) (K 1) M) H) (hD : va_D A (wld ga n (K 0) (K 1) M)) hS => ?_)
    obtain ⟨g2, h⟩ := og_some h
    obtain ⟨g3, h⟩ := og_some h
    by_cases c4 : v1 < x1
    · replace h := it_T h c4
      refine i_icmp_ge_F hx hb g2 g3 (tgt := 68) dX2_raiseFinals_10 (by decide) c4 ?_
      refine lv_aload_n hx hb dX2_raiseFinals_13 rfl (lv_at hl 0 rfl) ?_
      refine r_get hx hb hts ok_RX2 hown hK hP 6 go_6 rfl 1 (by decide) w_185 (fun _ h9 => h9) rfl dX2_raiseFinals_14 ?_
      refine lv_iload_n hx hb dX2_raiseFinals_17 rfl (lv_at hl 1 rfl) ?_
      obtain ⟨x5, ex5, h⟩ := ob_some h
      refine gk_q (run_V (rest := []) hx hb hml hown hts hK hP hD hS hA hm (C_Row_item l G D K H.size ga n M 0 (by decide) v1 ex5) _ (full_C _) (full_n _ List.nodup_range) mok_yX5_item w_451 w_419 w_420 (rcv hK hP (8 + 0) (go_ro (by decide)) rfl rfl) ⟨Nat.le_of_ble_eq_true rfl, Nat.le_of_ble_eq_true rfl⟩ rfl hl.1 rfl (Nat.le_of_ble_eq_true rfl) dX2_raiseFinals_18 ⟨(Nat.le_of_ble_eq_true rfl), (Nat.le_of_ble_eq_true rfl)⟩) hP hD hS hA (fun u H locs (hP : va_P D cl (wld ga n (K 0) (K 1) M) H) (hD : va_D A (wld ga n (K 0) (K 1) M)) hS => ?_)
      refine w_tov (y := ctv ga x5) rfl ?_
      refine t_astore_n hx hb dX2_raiseFinals_21 rfl hl (by decide) [0, 1] (lv' := [(0, .ref (ga 6)), (1, .int (iI v1))]) rfl (⟨⟨Nat.ne_of_beq_eq_false rfl, Or.inl (Nat.ne_of_beq_eq_false rfl)⟩, ⟨⟨Nat.ne_of_beq_eq_false rfl, Or.inr rfl⟩, trivial⟩⟩) (fun ls hl => ?_)
      refine t_aload_n hx hb dX2_raiseFinals_22 rfl (lv_at hl 0 rfl) ?_
      rcases on_cases h with ⟨z6, h⟩ | ⟨q6, z6, h⟩
      · rw [ctv_none ga z6]
        refine lv_ifnullN (tgt := 62) hx hb dX2_raiseFinals_23 (by decide) ?_
        refine x_iinc (v := iI (v1 + 1)) hx hb dX2_raiseFinals_62 hl (k := 2) rfl (iI_add v1 1) (by decide) [0, 1] (lv' := [(2, ctv ga x5), (0, .ref (ga 6))]) rfl (⟨⟨Nat.ne_of_beq_eq_false rfl, Or.inl (Nat.ne_of_beq_eq_false rfl)⟩, ⟨⟨Nat.ne_of_beq_eq_false rfl, Or.inr rfl⟩, trivial⟩⟩) (fun ls hl => ?_)
        refine lv_goto (tgt := 2) hx hb dX2_raiseFinals_65 (by decide) ?_
        exact ih M (v1 + 1) _ h _ _ _ hP hD hS (lv_pk hl [2, 0] rfl) kk
      · obtain ⟨hq6, h⟩ := og_some h
        rw [ctv_some ga z6]
        refine lv_ifnull hx hb dX2_raiseFinals_23 ?_
        refine t_aload_n hx hb dX2_raiseFinals_26 rfl (lv_at hl 0 rfl) ?_
        rw [ctv_some ga z6]
        refine r_get hx hb hts ok_RX7 hown hK hP (25 + 2 * q6) (go_th hq6) rfl 2 (by decide) w_685 (fun _ h9 => h9) rfl dX2_raiseFinals_27 ?_
        refine lv_iconst (v := iI 4) hx hb dX2_raiseFinals_30 rfl ?_
        obtain ⟨g7, h⟩ := og_some h
        by_cases c8 : gT M q6 2 = 4
        · replace h := it_T h c8
          refine i_icmp_ne_F hx hb g7 ⟨by decide, by decide⟩ (tgt := 62) dX2_raiseFinals_31 (by decide) c8 ?_
          refine t_aload_n hx hb dX2_raiseFinals_34 rfl (lv_at hl 0 rfl) ?_
          rw [ctv_some ga z6]
          obtain ⟨x9, ex9, h⟩ := ob_some h
          refine gk_i (run_S (rest := []) hx hb hml hown hts hK hP hD hS hA hm (C_Mi_isLeft l G D K H.size ga n M (some q6) ex9) _ (full_C _) (full_n _ List.nodup_range) mok_yX2_isLeft w_486 w_487 ⟨Nat.le_of_ble_eq_true rfl, Nat.le_of_ble_eq_true rfl⟩ rfl hl.1 rfl (Nat.le_of_ble_eq_true rfl) dX2_raiseFinals_35 ⟨(Nat.le_of_ble_eq_true rfl), (Nat.le_of_ble_eq_true rfl)⟩) hP hD hS hA (fun u H locs (hP : va_P D cl (wld ga n (K 0) (K 1) M) H) (hD : va_D A (wld ga n (K 0) (K 1) M)) hS => ?_)
          obtain ⟨g10, h⟩ := og_some h
          by_cases c11 : x9 = 0
          · replace h := it_T h c11
            refine i_if_eq_T hx hb g10 (tgt := 62) dX2_raiseFinals_38 (by decide) c11 ?_
            refine x_iinc (v := iI (v1 + 1)) hx hb dX2_raiseFinals_62 hl (k := 2) rfl (iI_add v1 1) (by decide) [0, 1] (lv' := [(2, ctv ga x5), (0, .ref (ga 6))]) rfl (⟨⟨Nat.ne_of_beq_eq_false rfl, Or.inl (Nat.ne_of_beq_eq_false rfl)⟩, ⟨⟨Nat.ne_of_beq_eq_false rfl, Or.inr rfl⟩, trivial⟩⟩) (fun ls hl => ?_)
            refine lv_goto (tgt := 2) hx hb dX2_raiseFinals_65 (by decide) ?_
            exact ih M (v1 + 1) _ h _ _ _ hP hD hS (lv_pk hl [2, 0] rfl) kk
          · replace h := it_F h c11
            refine i_if_eq_F hx hb g10 (tgt := 62) dX2_raiseFinals_38 (by decide) c11 ?_
            refine t_aload_n hx hb dX2_raiseFinals_41 rfl (lv_at hl 0 rfl) ?_
            rw [ctv_some ga z6]
            refine lv_iconst (v := iI 0) hx hb dX2_raiseFinals_42 rfl ?_
            refine r_put hx hb hts ok_RX7 hown hK hP hD hS (25 + 2 * q6) (go_th hq6) rfl 2 (by decide) w_685 (fun _ h9 => h9) rfl (v := .int (iI 0)) rfl rfl (Nat.le_of_ble_eq_true rfl) dX2_raiseFinals_43 (ws' := wld ga n (K 0) (K 1) (sT M q6 2 0)) wT_2 (fun H locs hP hD hS => ?_)
            refine lv_aload_n hx hb dX2_raiseFinals_46 rfl (lv_at hl 1 rfl) ?_
            refine r_get hx hb hts ok_RX2 hown hK hP 6 go_6 rfl 2 (by decide) w_186 (fun _ h9 => h9) rfl dX2_raiseFinals_47 ?_
            refine r_get hx hb hts ok_RX4 hown hK hP 1 go_1 rfl 0 (by decide) w_52 (fun _ h9 => h9) rfl dX2_raiseFinals_50 ?_
            refine t_aload_n hx hb dX2_raiseFinals_53 rfl (lv_at hl 0 rfl) ?_
            rw [ctv_some ga z6]
            obtain ⟨x12, ex12, h⟩ := ob_some h
            refine gk_v (run_V (rest := []) hx hb hml hown hts hK hP hD hS hA hm (C_Row_add l G D K H.size ga n (sT M q6 2 0) 1 (by decide) (some q6) ex12) _ (full_C _) (full_n _ List.nodup_range) mok_yX5_add w_464 w_465 w_466 (rcv hK hP (8 + 1) (go_ro (by decide)) rfl rfl) ⟨Nat.le_of_ble_eq_true rfl, Nat.le_of_ble_eq_true rfl⟩ rfl hl.1 rfl (Nat.le_of_ble_eq_true rfl) dX2_raiseFinals_54 ⟨(Nat.le_of_ble_eq_true rfl), (Nat.le_of_ble_eq_true rfl)⟩) hP hD hS hA (fun u H locs (hP : va_P D cl (wld ga n (K 0) (K 1) x12) H) (hD : va_D A (wld ga n (K 0) (K 1) x12)) hS => ?_)
            refine lv_aload_n hx hb dX2_raiseFinals_57 rfl (lv_at hl 1 rfl) ?_
            refine t_aload_n hx hb dX2_raiseFinals_58 rfl (lv_at hl 0 rfl) ?_
            rw [ctv_some ga z6]
            obtain ⟨x13, ex13, h⟩ := ob_some h
            refine gk_v (run_V (rest := []) hx hb hml hown hts hK hP hD hS hA hm (C_Mi_move l G D K H.size ga n x12 (some q6) ex13) _ (full_C _) (full_n _ List.nodup_range) mok_yX2_move w_482 w_484 w_p5 (rcv hK hP 6 go_6 rfl rfl) ⟨Nat.le_of_ble_eq_true rfl, Nat.le_of_ble_eq_true rfl⟩ rfl hl.1 rfl (Nat.le_of_ble_eq_true rfl) dX2_raiseFinals_59 ⟨(Nat.le_of_ble_eq_true rfl), (Nat.le_of_ble_eq_true rfl)⟩) hP hD hS hA (fun u H locs (hP : va_P D cl (wld ga n (K 0) (K 1) x13) H) (hD : va_D A (wld ga n (K 0) (K 1) x13)) hS => ?_)
            refine x_iinc (v := iI (v1 + 1)) hx hb dX2_raiseFinals_62 hl (k := 2) rfl (iI_add v1 1) (by decide) [0, 1] (lv' := [(2, ctv ga x5), (0, .ref (ga 6))]) rfl (⟨⟨Nat.ne_of_beq_eq_false rfl, Or.inl (Nat.ne_of_beq_eq_false rfl)⟩, ⟨⟨Nat.ne_of_beq_eq_false rfl, Or.inr rfl⟩, trivial⟩⟩) (fun ls hl => ?_)
            refine lv_goto (tgt := 2) hx hb dX2_raiseFinals_65 (by decide) ?_
            exact ih x13 (v1 + 1) _ h _ _ _ hP hD hS (lv_pk hl [2, 0] rfl) kk
        · replace h := it_F h c8
          refine i_icmp_ne_T hx hb g7 ⟨by decide, by decide⟩ (tgt := 62) dX2_raiseFinals_31 (by decide) c8 ?_
          refine x_iinc (v := iI (v1 + 1)) hx hb dX2_raiseFinals_62 hl (k := 2) rfl (iI_add v1 1) (by decide) [0, 1] (lv' := [(2, ctv ga x5), (0, .ref (ga 6))]) rfl (⟨⟨Nat.ne_of_beq_eq_false rfl, Or.inl (Nat.ne_of_beq_eq_false rfl)⟩, ⟨⟨Nat.ne_of_beq_eq_false rfl, Or.inr rfl⟩, trivial⟩⟩) (fun ls hl => ?_)
          refine lv_goto (tgt := 2) hx hb dX2_raiseFinals_65 (by decide) ?_
          exact ih M (v1 + 1) _ h _ _ _ hP hD hS (lv_pk hl [2, 0] rfl) kk
    · replace h := it_F h c4
      refine i_icmp_ge_T hx hb g2 g3 (tgt := 68) dX2_raiseFinals_10 (by decide) c4 ?_
      obtain rfl := Option.some.inj h
      exact kk _ _ _ hP hD hS (lv_pk hl [] rfl)
def f_Mi_raiseFinals (n : Nat) (M : cSt)  : Option (cSt) := ob (g_Mi_raiseFinals_2 n  fu M 0) (fun x14 => some x14)
set_option maxHeartbeats 4000000 in
set_option maxRecDepth 100000 in
theorem C_Mi_raiseFinals (l : Launch) (G : Nat → Nat) (D : va_G) (K : Nat → ClassId) (sz : Nat) (ga : Nat → Nat) (n : Nat) (M : cSt)  {x : cSt} (h : f_Mi_raiseFinals n M  = some x) : CM l yX2_raiseFinals cX2_raiseFinals 3 (none : Option FieldType) ({ frames := 3, cells := 0, slots := 0, locals := 65 } : Room) G D K [.ref (ga 6)] (wld ga n (K 0) (K 1) M) sz (CQv D (fun _ => wld ga n (K 0) (K 1) x)) := by
  refine CM_of (lv0 := [(0, .ref (ga 6))]) pn_RX2 (Nat.le_of_ble_eq_true rfl) rfl (fun p e s m args below meth c A ls hx hb hr hml hown hts hlk hnm hP hK hD hS hA hm hl => ?_)
  have hown : s.vm.findClass RX2 = some m.cls := hown
  unfold f_Mi_raiseFinals at h
  refine lv_iconst (v := iI 0) hx hb dX2_raiseFinals_0 rfl ?_
  refine x_istore_n hx hb dX2_raiseFinals_1 rfl hl (by decide) [0] (lv' := [(0, .ref (ga 6))]) rfl (⟨⟨Nat.ne_of_beq_eq_false rfl, Or.inr rfl⟩, trivial⟩) (fun ls hl => ?_)
  obtain ⟨x14, ex14, h⟩ := ob_some h
  refine L_Mi_raiseFinals_2 hx hb hr hml hown hts hlk hK hA hm ga n   fu M 0 _ ex14 _ _ _ hP hD hS (lv_pk hl [1, 0] rfl) (fun ls H locs (hP : va_P D cl (wld ga n (K 0) (K 1) x14) H) (hD : va_D A (wld ga n (K 0) (K 1) x14)) hS (hl : lv_has ls 3 []) => ?_)
  obtain rfl := Option.some.inj h
  exact e_v hx hb hr hlk hP hD hS (fun _ => 0) rfl (Nat.le_of_ble_eq_true rfl) (Nat.le_of_ble_eq_true rfl) dX2_raiseFinals_68
def s_Mi_leaveHalf_4 (rec : cSt → Int → Int → Option (cSt × Int)) (n : Nat)  (M : cSt) (v1 : Int) (v2 : Int) : Option (cSt × Int) := ob (f_Row_size n M 2) (fun x1 => og (inR v2) (og (inR x1) (if v2 < x1 then ob (f_Row_item n M 2 v2) (fun x5 => on x5 (rec M v1 (v2 + 1)) (fun q6 => og (q6 < n) (ob (f_Mi_isLeft n M (some q6)) (fun x7 => og (inR x7) (if x7 = 0 then rec M v1 (v2 + 1) else ob (f_Th_vanish n M q6) (fun x10 => rec x10 (v1 + 1) (v2 + 1))))))) else some (M, v1))))
def g_Mi_leaveHalf_4 (n : Nat)  : Nat → cSt → Int → Int → Option (cSt × Int)
  | 0 => fun _ _ _ => none
  | q + 1 => s_Mi_leaveHalf_4 (g_Mi_leaveHalf_4 n  q) n 
set_option maxHeartbeats 4000000 in
set_option maxRecDepth 100000 in
theorem L_Mi_leaveHalf_4 {p : Program} {l : Launch} {G : Nat → Nat} {D : va_G} {K : Nat → ClassId} {e : Env} {s : State} {m : MethodId} {args : Array Value} {below : List Frame} {meth : Method} {c : Code} {A : Nat → Prop} (hx : p.tables.exec = Jvm.exec) (hb : c.code = cX2_leaveHalf) (hr : meth.sig.returnType = (some FieldType.int)) (hml : c.maxLocals = 4) (hown : s.vm.findClass RX2 = some m.cls) (hts : ∀ w ∈ lw_gw, w.before args s = true) (hlk : meth.locks = false) (hK : va_K D cl (tys K) s) (hA : ∀ q : Nat, s.heap.size ≤ q → A q) (hm : Amb G A s s.heap) {Q : State → Prop} (ga : Nat → Nat) (n : Nat)  : ∀ (q : Nat) (M : cSt) (v1 : Int) (v2 : Int) (out : cSt × Int), g_Mi_leaveHalf_4 n  q M v1 v2 = some out → ∀ (ls : Array Slot) (H : Heap) (locs : List Loc), va_P D cl (wld ga n (K 0) (K 1) M) H → va_D A (wld ga n (K 0) (K 1) M) → va_S A s.heap H locs → lv_has ls 4 [(0, .ref (ga 6)), (1, .int (iI v1)), (2, .int (iI v2))] → (∀ (ls : Array Slot) (H : Heap) (locs : List Loc), va_P D cl (wld ga n (K 0) (K 1) out.1) H → va_D A (wld ga n (K 0) (K 1) out.1) → va_S A s.heap H locs → lv_has ls 4 [(0, .ref (ga 6)), (1, .int (iI out.2))] → W p l e ({ frames := 1, cells := 0, slots := 0, locals := 21 } : Room) s m args below meth c H locs 0 0 Q (F0 m 54 ls [])) → W p l e ({ frames := 1, cells := 0, slots := 0, locals := 21 } : Room) s m args below meth c H locs 0 0 Q (F0 m 4 ls []) := by
  intro q
  induction q with
  | zero =>
    intro M v1 v2 out h
    cases (show none = some out from h)
  | succ q ih =>
    intro M v1 v2 out h ls H locs hP hD hS hl kk
    replace h : s_Mi_leaveHalf_4 (g_Mi_leaveHalf_4 n  q) n  M v1 v2 = some out := h
    unfold s_Mi_leaveHalf_4 at h
    refine lv_iload_n hx hb dX2_leaveHalf_4 rfl (lv_at hl 2 rfl) ?_
    refine lv_aload_n hx hb dX2_leaveHalf_5 rfl (lv_at hl 0 rfl) ?_
    refine r_get hx hb hts ok_RX2 hown hK hP 6 go_6 rfl 3 (by decide) w_187 (fun _ h9 => h9) rfl dX2_leaveHalf_6 ?_
    refine r_get hx hb hts ok_RX3 hown hK hP 2 go_2 rfl 0 (by decide) w_75 (fun _ h9 => h9) rfl dX2_leaveHalf_9 ?_
    obtain ⟨x1, ex1, h⟩ := ob_some h
    refine gk_i (run_V (rest := [.int (iI v2)]) hx hb hml hown hts hK hP hD hS hA hm (C_Row_size l G D K H.size ga n M 2 (by decide) ex1) _ (full_C _) (full_n _ List.nodup_range) mok_yX5_size w_450 w_405 w_406 (rcv hK hP (8 + 2) (go_ro (by decide)) rfl rfl) ⟨Nat.le_of_ble_eq_true rfl, Nat.le_of_ble_eq_true rfl⟩ rfl hl.1 rfl (Nat.le_of_ble_eq_true rfl) dX2_leaveHalf_12 ⟨(Nat.le_of_ble_eq_true rfl), (Nat.le_of_ble_eq_true rfl)⟩) hP hD hS hA (fun u H locs (hP : va_P D cl (wld ga n (K 0) (K 1) M) H) (hD : va_D A (wld ga n (K 0) (K 1) M)) hS => ?_)
    obtain ⟨g2, h⟩ := og_some h
    obtain ⟨g3, h⟩ := og_some h
    by_cases c4 : v2 < x1
    · replace h := it_T h c4
      refine i_icmp_ge_F hx hb g2 g3 (tgt := 54) dX2_leaveHalf_15 (by decide) c4 ?_
      refine lv_aload_n hx hb dX2_leaveHalf_18 rfl (lv_at hl 0 rfl) ?_
      refine r_get hx hb hts ok_RX2 hown hK hP 6 go_6 rfl 3 (by decide) w_187 (fun _ h9 => h9) rfl dX2_leaveHalf_19 ?_
      refine r_get hx hb hts ok_RX3 hown hK hP 2 go_2 rfl 0 (by decide) w_75 (fun _ h9 => h9) rfl dX2_leaveHalf_22 ?_
      refine lv_iload_n hx hb dX2_leaveHalf_25 rfl (lv_at hl 2 rfl) ?_
      obtain ⟨x5, ex5, h⟩ := ob_some h
      refine gk_q (run_V (rest := []) hx hb hml hown hts hK hP hD hS hA hm (C_Row_item l G D K H.size ga n M 2 (by decide) v2 ex5) _ (full_C _) (full_n _ List.nodup_range) mok_yX5_item w_451 w_419 w_420 (rcv hK hP (8 + 2) (go_ro (by decide)) rfl rfl) ⟨Nat.le_of_ble_eq_true rfl, Nat.le_of_ble_eq_true rfl⟩ rfl hl.1 rfl (Nat.le_of_ble_eq_true rfl) dX2_leaveHalf_26 ⟨(Nat.le_of_ble_eq_true rfl), (Nat.le_of_ble_eq_true rfl)⟩) hP hD hS hA (fun u H locs (hP : va_P D cl (wld ga n (K 0) (K 1) M) H) (hD : va_D A (wld ga n (K 0) (K 1) M)) hS => ?_)
      refine w_tov (y := ctv ga x5) rfl ?_
      refine t_astore_n hx hb dX2_leaveHalf_29 rfl hl (by decide) [0, 1, 2] (lv' := [(0, .ref (ga 6)), (1, .int (iI v1)), (2, .int (iI v2))]) rfl (⟨⟨Nat.ne_of_beq_eq_false rfl, Or.inl (Nat.ne_of_beq_eq_false rfl)⟩, ⟨⟨Nat.ne_of_beq_eq_false rfl, Or.inl (Nat.ne_of_beq_eq_false rfl)⟩, ⟨⟨Nat.ne_of_beq_eq_false rfl, Or.inr rfl⟩, trivial⟩⟩⟩) (fun ls hl => ?_)
      refine t_aload_n hx hb dX2_leaveHalf_30 rfl (lv_at hl 0 rfl) ?_
      rcases on_cases h with ⟨z6, h⟩ | ⟨q6, z6, h⟩
      · rw [ctv_none ga z6]
        refine lv_ifnullN (tgt := 48) hx hb dX2_leaveHalf_31 (by decide) ?_
        refine x_iinc (v := iI (v2 + 1)) hx hb dX2_leaveHalf_48 hl (k := 3) rfl (iI_add v2 1) (by decide) [0, 1, 2] (lv' := [(3, ctv ga x5), (0, .ref (ga 6)), (1, .int (iI v1))]) rfl (⟨⟨Nat.ne_of_beq_eq_false rfl, Or.inl (Nat.ne_of_beq_eq_false rfl)⟩, ⟨⟨Nat.ne_of_beq_eq_false rfl, Or.inl (Nat.ne_of_beq_eq_false rfl)⟩, ⟨⟨Nat.ne_of_beq_eq_false rfl, Or.inr rfl⟩, trivial⟩⟩⟩) (fun ls hl => ?_)
        refine lv_goto (tgt := 4) hx hb dX2_leaveHalf_51 (by decide) ?_
        exact ih M v1 (v2 + 1) _ h _ _ _ hP hD hS (lv_pk hl [2, 3, 0] rfl) kk
      · obtain ⟨hq6, h⟩ := og_some h
        rw [ctv_some ga z6]
        refine lv_ifnull hx hb dX2_leaveHalf_31 ?_
        refine t_aload_n hx hb dX2_leaveHalf_34 rfl (lv_at hl 0 rfl) ?_
        rw [ctv_some ga z6]
        obtain ⟨x7, ex7, h⟩ := ob_some h
        refine gk_i (run_S (rest := []) hx hb hml hown hts hK hP hD hS hA hm (C_Mi_isLeft l G D K H.size ga n M (some q6) ex7) _ (full_C _) (full_n _ List.nodup_range) mok_yX2_isLeft w_486 w_487 ⟨Nat.le_of_ble_eq_true rfl, Nat.le_of_ble_eq_true rfl⟩ rfl hl.1 rfl (Nat.le_of_ble_eq_true rfl) dX2_leaveHalf_35 ⟨(Nat.le_of_ble_eq_true rfl), (Nat.le_of_ble_eq_true rfl)⟩) hP hD hS hA (fun u H locs (hP : va_P D cl (wld ga n (K 0) (K 1) M) H) (hD : va_D A (wld ga n (K 0) (K 1) M)) hS => ?_)
        obtain ⟨g8, h⟩ := og_some h
        by_cases c9 : x7 = 0
        · replace h := it_T h c9
          refine i_if_eq_T hx hb g8 (tgt := 48) dX2_leaveHalf_38 (by decide) c9 ?_
          refine x_iinc (v := iI (v2 + 1)) hx hb dX2_leaveHalf_48 hl (k := 3) rfl (iI_add v2 1) (by decide) [0, 1, 2] (lv' := [(3, ctv ga x5), (0, .ref (ga 6)), (1, .int (iI v1))]) rfl (⟨⟨Nat.ne_of_beq_eq_false rfl, Or.inl (Nat.ne_of_beq_eq_false rfl)⟩, ⟨⟨Nat.ne_of_beq_eq_false rfl, Or.inl (Nat.ne_of_beq_eq_false rfl)⟩, ⟨⟨Nat.ne_of_beq_eq_false rfl, Or.inr rfl⟩, trivial⟩⟩⟩) (fun ls hl => ?_)
          refine lv_goto (tgt := 4) hx hb dX2_leaveHalf_51 (by decide) ?_
          exact ih M v1 (v2 + 1) _ h _ _ _ hP hD hS (lv_pk hl [2, 3, 0] rfl) kk
        · replace h := it_F h c9
          refine i_if_eq_F hx hb g8 (tgt := 48) dX2_leaveHalf_38 (by decide) c9 ?_
          refine t_aload_n hx hb dX2_leaveHalf_41 rfl (lv_at hl 0 rfl) ?_
          rw [ctv_some ga z6]
          obtain ⟨x10, ex10, h⟩ := ob_some h
          refine gk_v (run_V (rest := []) hx hb hml hown hts hK hP hD hS hA hm (C_Th_vanish l G D K H.size ga n M q6 hq6 ex10) _ (full_C _) (full_n _ List.nodup_range) mok_yX7_vanish w_524 w_525 w_526 (rcv hK hP (25 + 2 * q6) (go_th hq6) rfl rfl) ⟨Nat.le_of_ble_eq_true rfl, Nat.le_of_ble_eq_true rfl⟩ rfl hl.1 rfl (Nat.le_of_ble_eq_true rfl) dX2_leaveHalf_42 ⟨(Nat.le_of_ble_eq_true rfl), (Nat.le_of_ble_eq_true rfl)⟩) hP hD hS hA (fun u H locs (hP : va_P D cl (wld ga n (K 0) (K 1) x10) H) (hD : va_D A (wld ga n (K 0) (K 1) x10)) hS => ?_)
          refine x_iinc (v := iI (v1 + 1)) hx hb dX2_leaveHalf_45 hl (k := 2) rfl (iI_add v1 1) (by decide) [0, 1, 3] (lv' := [(3, ctv ga x5), (0, .ref (ga 6)), (2, .int (iI v2))]) rfl (⟨⟨Nat.ne_of_beq_eq_false rfl, Or.inl (Nat.ne_of_beq_eq_false rfl)⟩, ⟨⟨Nat.ne_of_beq_eq_false rfl, Or.inr rfl⟩, ⟨⟨Nat.ne_of_beq_eq_false rfl, Or.inl (Nat.ne_of_beq_eq_false rfl)⟩, trivial⟩⟩⟩) (fun ls hl => ?_)
          refine x_iinc (v := iI (v2 + 1)) hx hb dX2_leaveHalf_48 hl (k := 3) rfl (iI_add v2 1) (by decide) [0, 1, 2] (lv' := [(1, .int (iI (v1 + 1))), (3, ctv ga x5), (0, .ref (ga 6))]) rfl (⟨⟨Nat.ne_of_beq_eq_false rfl, Or.inr rfl⟩, ⟨⟨Nat.ne_of_beq_eq_false rfl, Or.inl (Nat.ne_of_beq_eq_false rfl)⟩, ⟨⟨Nat.ne_of_beq_eq_false rfl, Or.inl (Nat.ne_of_beq_eq_false rfl)⟩, trivial⟩⟩⟩) (fun ls hl => ?_)
          refine lv_goto (tgt := 4) hx hb dX2_leaveHalf_51 (by decide) ?_
          exact ih x10 (v1 + 1) (v2 + 1) _ h _ _ _ hP hD hS (lv_pk hl [3, 1, 0] rfl) kk
    · replace h := it_F h c4
      refine i_icmp_ge_T hx hb g2 g3 (tgt := 54) dX2_leaveHalf_15 (by decide) c4 ?_
      obtain rfl := Option.some.inj h
      exact kk _ _ _ hP hD hS (lv_pk hl [0, 1] rfl)
def s_Mi_leaveHalf_66 (rec : cSt → Int → Option (cSt)) (n : Nat) (v1 : Int) (M : cSt) (v2 : Int) : Option (cSt) := ob (f_Row_size n M 6) (fun x13 => og (inR v2) (og (inR x13) (if v2 < x13 then ob (f_Row_item n M 6 v2) (fun x17 => on x17 (rec M (v2 + 1)) (fun q18 => og (q18 < n) (og (inR (gT M q18 3)) (if gT M q18 3 = 1 then ob (f_Row_add n M 2 (some q18)) (fun x21 => rec x21 (v2 + 1)) else rec M (v2 + 1))))) else some M)))
def g_Mi_leaveHalf_66 (n : Nat) (v1 : Int) : Nat → cSt → Int → Option (cSt)
  | 0 => fun _ _ => none
  | q + 1 => s_Mi_leaveHalf_66 (g_Mi_leaveHalf_66 n v1 q) n v1
set_option maxHeartbeats 4000000 in
set_option maxRecDepth 100000 in
theorem L_Mi_leaveHalf_66 {p : Program} {l : Launch} {G : Nat → Nat} {D : va_G} {K : Nat → ClassId} {e : Env} {s : State} {m : MethodId} {args : Array Value} {below : List Frame} {meth : Method} {c : Code} {A : Nat → Prop} (hx : p.tables.exec = Jvm.exec) (hb : c.code = cX2_leaveHalf) (hr : meth.sig.returnType = (some FieldType.int)) (hml : c.maxLocals = 4) (hown : s.vm.findClass RX2 = some m.cls) (hts : ∀ w ∈ lw_gw, w.before args s = true) (hlk : meth.locks = false) (hK : va_K D cl (tys K) s) (hA : ∀ q : Nat, s.heap.size ≤ q → A q) (hm : Amb G A s s.heap) {Q : State → Prop} (ga : Nat → Nat) (n : Nat) (v1 : Int) : ∀ (q : Nat) (M : cSt) (v2 : Int) (out : cSt), g_Mi_leaveHalf_66 n v1 q M v2 = some out → ∀ (ls : Array Slot) (H : Heap) (locs : List Loc), va_P D cl (wld ga n (K 0) (K 1) M) H → va_D A (wld ga n (K 0) (K 1) M) → va_S A s.heap H locs → lv_has ls 4 [(0, .ref (ga 6)), (1, .int (iI v1)), (2, .int (iI v2))] → (∀ (ls : Array Slot) (H : Heap) (locs : List Loc), va_P D cl (wld ga n (K 0) (K 1) out) H → va_D A (wld ga n (K 0) (K 1) out) → va_S A s.heap H locs → lv_has ls 4 [(0, .ref (ga 6)), (1, .int (iI v1))] → W p l e ({ frames := 1, cells := 0, slots := 0, locals := 21 } : Room) s m args below meth c H locs 0 0 Q (F0 m 115 ls [])) → W p l e ({ frames := 1, cells := 0, slots := 0, locals := 21 } : Room) s m args below meth c H locs 0 0 Q (F0 m 66 ls []) := by
  intro q
  induction q with
  | zero =>
    intro M v2 out h
    cases (show none = some out from h)
  | succ q ih =>
    intro M v2 out h ls H locs hP hD hS hl kk
    replace h : s_Mi_leaveHalf_66 (g_Mi_leaveHalf_66 n v1 q) n v1 M v2 = some out := h
    unfold s_Mi_leaveHalf_66 at h
    refine lv_iload_n hx hb dX2_leaveHalf_66 rfl (lv_at hl 2 rfl) ?_
    refine lv_aload_n hx hb dX2_leaveHalf_67 rfl (lv_at hl 0 rfl) ?_
    refine r_get hx hb hts ok_RX2 hown hK hP 6 go_6 rfl 5 (by decide) w_189 (fun _ h9 => h9) rfl dX2_leaveHalf_68 ?_
    obtain ⟨x13, ex13, h⟩ := ob_some h
    refine gk_i (run_V (rest := [.int (iI v2)]) hx hb hml hown hts hK hP hD hS hA hm (C_Row_size l G D K H.size ga n M 6 (by decide) ex13) _ (full_C _) (full_n _ List.nodup_range) mok_yX5_size w_450 w_405 w_406 (rcv hK hP (8 + 6) (go_ro (by decide)) rfl rfl) ⟨Nat.le_of_ble_eq_true rfl, Nat.le_of_ble_eq_true rfl⟩ rfl hl.1 rfl (Nat.le_of_ble_eq_true rfl) dX2_leaveHalf_71 ⟨(Nat.le_of_ble_eq_true rfl), (Nat.le_of_ble_eq_true rfl)⟩) hP hD hS hA (fun u H locs (hP : va_P D cl (wld ga n (K 0) (K 1) M) H) (hD : va_D A (wld ga n (K 0) (K 1) M)) hS => ?_)
    obtain ⟨g14, h⟩ := og_some h
    obtain ⟨g15, h⟩ := og_some h
    by_cases c16 : v2 < x13
    · replace h := it_T h c16
      refine i_icmp_ge_F hx hb g14 g15 (tgt := 115) dX2_leaveHalf_74 (by decide) c16 ?_
      refine lv_aload_n hx hb dX2_leaveHalf_77 rfl (lv_at hl 0 rfl) ?_
      refine r_get hx hb hts ok_RX2 hown hK hP 6 go_6 rfl 5 (by decide) w_189 (fun _ h9 => h9) rfl dX2_leaveHalf_78 ?_
      refine lv_iload_n hx hb dX2_leaveHalf_81 rfl (lv_at hl 2 rfl) ?_
      obtain ⟨x17, ex17, h⟩ := ob_some h
      refine gk_q (run_V (rest := []) hx hb hml hown hts hK hP hD hS hA hm (C_Row_item l G D K H.size ga n M 6 (by decide) v2 ex17) _ (full_C _) (full_n _ List.nodup_range) mok_yX5_item w_451 w_419 w_420 (rcv hK hP (8 + 6) (go_ro (by decide)) rfl rfl) ⟨Nat.le_of_ble_eq_true rfl, Nat.le_of_ble_eq_true rfl⟩ rfl hl.1 rfl (Nat.le_of_ble_eq_true rfl) dX2_leaveHalf_82 ⟨(Nat.le_of_ble_eq_true rfl), (Nat.le_of_ble_eq_true rfl)⟩) hP hD hS hA (fun u H locs (hP : va_P D cl (wld ga n (K 0) (K 1) M) H) (hD : va_D A (wld ga n (K 0) (K 1) M)) hS => ?_)
      refine w_tov (y := ctv ga x17) rfl ?_
      refine t_astore_n hx hb dX2_leaveHalf_85 rfl hl (by decide) [0, 1, 2] (lv' := [(0, .ref (ga 6)), (1, .int (iI v1)), (2, .int (iI v2))]) rfl (⟨⟨Nat.ne_of_beq_eq_false rfl, Or.inl (Nat.ne_of_beq_eq_false rfl)⟩, ⟨⟨Nat.ne_of_beq_eq_false rfl, Or.inl (Nat.ne_of_beq_eq_false rfl)⟩, ⟨⟨Nat.ne_of_beq_eq_false rfl, Or.inr rfl⟩, trivial⟩⟩⟩) (fun ls hl => ?_)
      refine t_aload_n hx hb dX2_leaveHalf_86 rfl (lv_at hl 0 rfl) ?_
      rcases on_cases h with ⟨z18, h⟩ | ⟨q18, z18, h⟩
      · rw [ctv_none ga z18]
        refine lv_ifnullN (tgt := 109) hx hb dX2_leaveHalf_87 (by decide) ?_
        refine x_iinc (v := iI (v2 + 1)) hx hb dX2_leaveHalf_109 hl (k := 3) rfl (iI_add v2 1) (by decide) [0, 1, 2] (lv' := [(3, ctv ga x17), (0, .ref (ga 6)), (1, .int (iI v1))]) rfl (⟨⟨Nat.ne_of_beq_eq_false rfl, Or.inl (Nat.ne_of_beq_eq_false rfl)⟩, ⟨⟨Nat.ne_of_beq_eq_false rfl, Or.inl (Nat.ne_of_beq_eq_false rfl)⟩, ⟨⟨Nat.ne_of_beq_eq_false rfl, Or.inr rfl⟩, trivial⟩⟩⟩) (fun ls hl => ?_)
        refine lv_goto (tgt := 66) hx hb dX2_leaveHalf_112 (by decide) ?_
        exact ih M (v2 + 1) _ h _ _ _ hP hD hS (lv_pk hl [2, 3, 0] rfl) kk
      · obtain ⟨hq18, h⟩ := og_some h
        rw [ctv_some ga z18]
        refine lv_ifnull hx hb dX2_leaveHalf_87 ?_
        refine t_aload_n hx hb dX2_leaveHalf_90 rfl (lv_at hl 0 rfl) ?_
        rw [ctv_some ga z18]
        refine r_get hx hb hts ok_RX7 hown hK hP (25 + 2 * q18) (go_th hq18) rfl 3 (by decide) w_688 (fun _ h9 => h9) rfl dX2_leaveHalf_91 ?_
        refine lv_iconst (v := iI 1) hx hb dX2_leaveHalf_94 rfl ?_
        obtain ⟨g19, h⟩ := og_some h
        by_cases c20 : gT M q18 3 = 1
        · replace h := it_T h c20
          refine i_icmp_ne_F hx hb g19 ⟨by decide, by decide⟩ (tgt := 109) dX2_leaveHalf_95 (by decide) c20 ?_
          refine lv_aload_n hx hb dX2_leaveHalf_98 rfl (lv_at hl 1 rfl) ?_
          refine r_get hx hb hts ok_RX2 hown hK hP 6 go_6 rfl 3 (by decide) w_187 (fun _ h9 => h9) rfl dX2_leaveHalf_99 ?_
          refine r_get hx hb hts ok_RX3 hown hK hP 2 go_2 rfl 0 (by decide) w_75 (fun _ h9 => h9) rfl dX2_leaveHalf_102 ?_
          refine t_aload_n hx hb dX2_leaveHalf_105 rfl (lv_at hl 0 rfl) ?_
          rw [ctv_some ga z18]
          obtain ⟨x21, ex21, h⟩ := ob_some h
          refine gk_v (run_V (rest := []) hx hb hml hown hts hK hP hD hS hA hm (C_Row_add l G D K H.size ga n M 2 (by decide) (some q18) ex21) _ (full_C _) (full_n _ List.nodup_range) mok_yX5_add w_464 w_465 w_466 (rcv hK hP (8 + 2) (go_ro (by decide)) rfl rfl) ⟨Nat.le_of_ble_eq_true rfl, Nat.le_of_ble_eq_true rfl⟩ rfl hl.1 rfl (Nat.le_of_ble_eq_true rfl) dX2_leaveHalf_106 ⟨(Nat.le_of_ble_eq_true rfl), (Nat.le_of_ble_eq_true rfl)⟩) hP hD hS hA (fun u H locs (hP : va_P D cl (wld ga n (K 0) (K 1) x21) H) (hD : va_D A (wld ga n (K 0) (K 1) x21)) hS => ?_)
          refine x_iinc (v := iI (v2 + 1)) hx hb dX2_leaveHalf_109 hl (k := 3) rfl (iI_add v2 1) (by decide) [0, 1, 2] (lv' := [(3, ctv ga x17), (0, .ref (ga 6)), (1, .int (iI v1))]) rfl (⟨⟨Nat.ne_of_beq_eq_false rfl, Or.inl (Nat.ne_of_beq_eq_false rfl)⟩, ⟨⟨Nat.ne_of_beq_eq_false rfl, Or.inl (Nat.ne_of_beq_eq_false rfl)⟩, ⟨⟨Nat.ne_of_beq_eq_false rfl, Or.inr rfl⟩, trivial⟩⟩⟩) (fun ls hl => ?_)
          refine lv_goto (tgt := 66) hx hb dX2_leaveHalf_112 (by decide) ?_
          exact ih x21 (v2 + 1) _ h _ _ _ hP hD hS (lv_pk hl [2, 3, 0] rfl) kk
        · replace h := it_F h c20
          refine i_icmp_ne_T hx hb g19 ⟨by decide, by decide⟩ (tgt := 109) dX2_leaveHalf_95 (by decide) c20 ?_
          refine x_iinc (v := iI (v2 + 1)) hx hb dX2_leaveHalf_109 hl (k := 3) rfl (iI_add v2 1) (by decide) [0, 1, 2] (lv' := [(3, ctv ga x17), (0, .ref (ga 6)), (1, .int (iI v1))]) rfl (⟨⟨Nat.ne_of_beq_eq_false rfl, Or.inl (Nat.ne_of_beq_eq_false rfl)⟩, ⟨⟨Nat.ne_of_beq_eq_false rfl, Or.inl (Nat.ne_of_beq_eq_false rfl)⟩, ⟨⟨Nat.ne_of_beq_eq_false rfl, Or.inr rfl⟩, trivial⟩⟩⟩) (fun ls hl => ?_)
          refine lv_goto (tgt := 66) hx hb dX2_leaveHalf_112 (by decide) ?_
          exact ih M (v2 + 1) _ h _ _ _ hP hD hS (lv_pk hl [2, 3, 0] rfl) kk
    · replace h := it_F h c16
      refine i_icmp_ge_T hx hb g14 g15 (tgt := 115) dX2_leaveHalf_74 (by decide) c16 ?_
      obtain rfl := Option.some.inj h
      exact kk _ _ _ hP hD hS (lv_pk hl [0, 1] rfl)
def f_Mi_leaveHalf (n : Nat) (M : cSt)  : Option (cSt × Int) := ob (g_Mi_leaveHalf_4 n  fu M 0 0) (fun x11 => ob (f_Row_clear n x11.1 2) (fun x12 => ob (g_Mi_leaveHalf_66 n x11.2 fu x12 0) (fun x22 => some (sI (sI x22 2 (gI x22 22)) 3 (gI (sI x22 2 (gI x22 22)) 23), x11.2))))
set_option maxHeartbeats 4000000 in
set_option maxRecDepth 100000 in
theorem C_Mi_leaveHalf (l : Launch) (G : Nat → Nat) (D : va_G) (K : Nat → ClassId) (sz : Nat) (ga : Nat → Nat) (n : Nat) (M : cSt)  {x : cSt × Int} (h : f_Mi_leaveHalf n M  = some x) : CM l yX2_leaveHalf cX2_leaveHalf 4 (some FieldType.int) ({ frames := 1, cells := 0, slots := 0, locals := 21 } : Room) G D K [.ref (ga 6)] (wld ga n (K 0) (K 1) M) sz (CQi (iI x.2) D (fun _ => wld ga n (K 0) (K 1) x.1)) := by
  refine CM_of (lv0 := [(0, .ref (ga 6))]) pn_RX2 (Nat.le_of_ble_eq_true rfl) rfl (fun p e s m args below meth c A ls hx hb hr hml hown hts hlk hnm hP hK hD hS hA hm hl => ?_)
  have hown : s.vm.findClass RX2 = some m.cls := hown
  unfold f_Mi_leaveHalf at h
  refine lv_iconst (v := iI 0) hx hb dX2_leaveHalf_0 rfl ?_
  refine x_istore_n hx hb dX2_leaveHalf_1 rfl hl (by decide) [0] (lv' := [(0, .ref (ga 6))]) rfl (⟨⟨Nat.ne_of_beq_eq_false rfl, Or.inr rfl⟩, trivial⟩) (fun ls hl => ?_)
  refine lv_iconst (v := iI 0) hx hb dX2_leaveHalf_2 rfl ?_
  refine x_istore_n hx hb dX2_leaveHalf_3 rfl hl (by decide) [0, 1] (lv' := [(1, .int (iI 0)), (0, .ref (ga 6))]) rfl (⟨⟨Nat.ne_of_beq_eq_false rfl, Or.inr rfl⟩, ⟨⟨Nat.ne_of_beq_eq_false rfl, Or.inl (Nat.ne_of_beq_eq_false rfl)⟩, trivial⟩⟩) (fun ls hl => ?_)
  obtain ⟨x11, ex11, h⟩ := ob_some h
  refine L_Mi_leaveHalf_4 hx hb hr hml hown hts hlk hK hA hm ga n   fu M 0 0 _ ex11 _ _ _ hP hD hS (lv_pk hl [2, 1, 0] rfl) (fun ls H locs (hP : va_P D cl (wld ga n (K 0) (K 1) x11.1) H) (hD : va_D A (wld ga n (K 0) (K 1) x11.1)) hS (hl : lv_has ls 4 [(0, .ref (ga 6)), (1, .int (iI x11.2))]) => ?_)
  refine lv_aload_n hx hb dX2_leaveHalf_54 rfl (lv_at hl 0 rfl) ?_
  refine r_get hx hb hts ok_RX2 hown hK hP 6 go_6 rfl 3 (by decide) w_187 (fun _ h9 => h9) rfl dX2_leaveHalf_55 ?_
  refine r_get hx hb hts ok_RX3 hown hK hP 2 go_2 rfl 0 (by decide) w_75 (fun _ h9 => h9) rfl dX2_leaveHalf_58 ?_
  obtain ⟨x12, ex12, h⟩ := ob_some h
  refine gk_v (run_V (rest := []) hx hb hml hown hts hK hP hD hS hA hm (C_Row_clear l G D K H.size ga n x11.1 2 (by decide) ex12) _ (full_C _) (full_n _ List.nodup_range) mok_yX5_clear w_446 w_447 w_448 (rcv hK hP (8 + 2) (go_ro (by decide)) rfl rfl) ⟨Nat.le_of_ble_eq_true rfl, Nat.le_of_ble_eq_true rfl⟩ rfl hl.1 rfl (Nat.le_of_ble_eq_true rfl) dX2_leaveHalf_61 ⟨(Nat.le_of_ble_eq_true rfl), (Nat.le_of_ble_eq_true rfl)⟩) hP hD hS hA (fun u H locs (hP : va_P D cl (wld ga n (K 0) (K 1) x12) H) (hD : va_D A (wld ga n (K 0) (K 1) x12)) hS => ?_)
  refine lv_iconst (v := iI 0) hx hb dX2_leaveHalf_64 rfl ?_
  refine x_istore_n hx hb dX2_leaveHalf_65 rfl hl (by decide) [0, 1] (lv' := [(0, .ref (ga 6)), (1, .int (iI x11.2))]) rfl (⟨⟨Nat.ne_of_beq_eq_false rfl, Or.inl (Nat.ne_of_beq_eq_false rfl)⟩, ⟨⟨Nat.ne_of_beq_eq_false rfl, Or.inr rfl⟩, trivial⟩⟩) (fun ls hl => ?_)
  obtain ⟨x22, ex22, h⟩ := ob_some h
  refine L_Mi_leaveHalf_66 hx hb hr hml hown hts hlk hK hA hm ga n x11.2  fu x12 0 _ ex22 _ _ _ hP hD hS (lv_pk hl [1, 2, 0] rfl) (fun ls H locs (hP : va_P D cl (wld ga n (K 0) (K 1) x22) H) (hD : va_D A (wld ga n (K 0) (K 1) x22)) hS (hl : lv_has ls 4 [(0, .ref (ga 6)), (1, .int (iI x11.2))]) => ?_)
  refine lv_aload_n hx hb dX2_leaveHalf_115 rfl (lv_at hl 0 rfl) ?_
  refine r_get hx hb hts ok_RX2 hown hK hP 6 go_6 rfl 3 (by decide) w_187 (fun _ h9 => h9) rfl dX2_leaveHalf_116 ?_
  refine lv_aload_n hx hb dX2_leaveHalf_119 rfl (lv_at hl 0 rfl) ?_
  refine r_get hx hb hts ok_RX2 hown hK hP 6 go_6 rfl 7 (by decide) w_191 (fun _ h9 => h9) rfl dX2_leaveHalf_120 ?_
  refine r_put hx hb hts ok_RX3 hown hK hP hD hS 2 go_2 rfl 3 (by decide) w_81 (fun _ h9 => h9) rfl (v := .int (iI (gI x22 22))) rfl rfl (Nat.le_of_ble_eq_true rfl) dX2_leaveHalf_123 (ws' := wld ga n (K 0) (K 1) (sI x22 2 (gI x22 22))) wI_2 (fun H locs hP hD hS => ?_)
  refine lv_aload_n hx hb dX2_leaveHalf_126 rfl (lv_at hl 0 rfl) ?_
  refine r_get hx hb hts ok_RX2 hown hK hP 6 go_6 rfl 3 (by decide) w_187 (fun _ h9 => h9) rfl dX2_leaveHalf_127 ?_
  refine lv_aload_n hx hb dX2_leaveHalf_130 rfl (lv_at hl 0 rfl) ?_
  refine r_get hx hb hts ok_RX2 hown hK hP 6 go_6 rfl 8 (by decide) w_192 (fun _ h9 => h9) rfl dX2_leaveHalf_131 ?_
  refine r_put hx hb hts ok_RX3 hown hK hP hD hS 2 go_2 rfl 4 (by decide) w_85 (fun _ h9 => h9) rfl (v := .int (iI (gI (sI x22 2 (gI x22 22)) 23))) rfl rfl (Nat.le_of_ble_eq_true rfl) dX2_leaveHalf_134 (ws' := wld ga n (K 0) (K 1) (sI (sI x22 2 (gI x22 22)) 3 (gI (sI x22 2 (gI x22 22)) 23))) wI_3 (fun H locs hP hD hS => ?_)
  refine lv_iload_n hx hb dX2_leaveHalf_137 rfl (lv_at hl 1 rfl) ?_
  obtain rfl := Option.some.inj h
  exact e_i hx hb hr hlk hP hD hS (fun _ => 0) rfl (Nat.le_of_ble_eq_true rfl) (Nat.le_of_ble_eq_true rfl) rfl dX2_leaveHalf_138
def s_Mi_run_6 (rec : cSt → Int → Option (cSt)) (n : Nat)  (M : cSt) (v1 : Int) : Option (cSt) := ob (f_Ro_count n M) (fun x2 => og (inR v1) (og (inR x2) (if v1 < x2 then ob (f_Ro_root n M v1) (fun x6 => ob (f_Mi_move n M x6) (fun x7 => rec x7 (v1 + 1))) else some M)))
def g_Mi_run_6 (n : Nat)  : Nat → cSt → Int → Option (cSt)
  | 0 => fun _ _ => none
  | q + 1 => s_Mi_run_6 (g_Mi_run_6 n  q) n 
set_option maxHeartbeats 4000000 in
set_option maxRecDepth 100000 in
theorem L_Mi_run_6 {p : Program} {l : Launch} {G : Nat → Nat} {D : va_G} {K : Nat → ClassId} {e : Env} {s : State} {m : MethodId} {args : Array Value} {below : List Frame} {meth : Method} {c : Code} {A : Nat → Prop} (hx : p.tables.exec = Jvm.exec) (hb : c.code = cX2_run) (hr : meth.sig.returnType = (some FieldType.int)) (hml : c.maxLocals = 2) (hown : s.vm.findClass RX2 = some m.cls) (hts : ∀ w ∈ lw_gw, w.before args s = true) (hlk : meth.locks = false) (hK : va_K D cl (tys K) s) (hA : ∀ q : Nat, s.heap.size ≤ q → A q) (hm : Amb G A s s.heap) {Q : State → Prop} (ga : Nat → Nat) (n : Nat)  : ∀ (q : Nat) (M : cSt) (v1 : Int) (out : cSt), g_Mi_run_6 n  q M v1 = some out → ∀ (ls : Array Slot) (H : Heap) (locs : List Loc), va_P D cl (wld ga n (K 0) (K 1) M) H → va_D A (wld ga n (K 0) (K 1) M) → va_S A s.heap H locs → lv_has ls 2 [(0, .ref (ga 6)), (1, .int (iI v1))] → (∀ (ls : Array Slot) (H : Heap) (locs : List Loc), va_P D cl (wld ga n (K 0) (K 1) out) H → va_D A (wld ga n (K 0) (K 1) out) → va_S A s.heap H locs → lv_has ls 2 [(0, .ref (ga 6))] → W p l e ({ frames := 4, cells := 0, slots := 0, locals := 87 } : Room) s m args below meth c H locs 0 0 Q (F0 m 35 ls [])) → W p l e ({ frames := 4, cells := 0, slots := 0, locals := 87 } : Room) s m args below meth c H locs 0 0 Q (F0 m 6 ls []) := by
  intro q
  induction q with
  | zero =>
    intro M v1 out h
    cases (show none = some out from h)
  | succ q ih =>
    intro M v1 out h ls H locs hP hD hS hl kk
    replace h : s_Mi_run_6 (g_Mi_run_6 n  q) n  M v1 = some out := h
    unfold s_Mi_run_6 at h
    refine lv_iload_n hx hb dX2_run_6 rfl (lv_at hl 1 rfl) ?_
    refine lv_aload_n hx hb dX2_run_7 rfl (lv_at hl 0 rfl) ?_
    refine r_get hx hb hts ok_RX2 hown hK hP 6 go_6 rfl 2 (by decide) w_186 (fun _ h9 => h9) rfl dX2_run_8 ?_
    obtain ⟨x2, ex2, h⟩ := ob_some h
    refine gk_i (run_V (rest := [.int (iI v1)]) hx hb hml hown hts hK hP hD hS hA hm (C_Ro_count l G D K H.size ga n M ex2) _ (full_C _) (full_n _ List.nodup_range) mok_yX4_count w_468 w_469 w_470 (rcv hK hP 1 go_1 rfl rfl) ⟨Nat.le_of_ble_eq_true rfl, Nat.le_of_ble_eq_true rfl⟩ rfl hl.1 rfl (Nat.le_of_ble_eq_true rfl) dX2_run_11 ⟨(Nat.le_of_ble_eq_true rfl), (Nat.le_of_ble_eq_true rfl)⟩) hP hD hS hA (fun u H locs (hP : va_P D cl (wld ga n (K 0) (K 1) M) H) (hD : va_D A (wld ga n (K 0) (K 1) M)) hS => ?_)
    obtain ⟨g3, h⟩ := og_some h
    obtain ⟨g4, h⟩ := og_some h
    by_cases c5 : v1 < x2
    · replace h := it_T h c5
      refine i_icmp_ge_F hx hb g3 g4 (tgt := 35) dX2_run_14 (by decide) c5 ?_
      refine lv_aload_n hx hb dX2_run_17 rfl (lv_at hl 0 rfl) ?_
      refine lv_aload_n hx hb dX2_run_18 rfl (lv_at hl 0 rfl) ?_
      refine r_get hx hb hts ok_RX2 hown hK hP 6 go_6 rfl 2 (by decide) w_186 (fun _ h9 => h9) rfl dX2_run_19 ?_
      refine lv_iload_n hx hb dX2_run_22 rfl (lv_at hl 1 rfl) ?_
      obtain ⟨x6, ex6, h⟩ := ob_some h
      refine gk_q (run_V (rest := [.ref (ga 6)]) hx hb hml hown hts hK hP hD hS hA hm (C_Ro_root l G D K H.size ga n M v1 ex6) _ (full_C _) (full_n _ List.nodup_range) mok_yX4_root w_473 w_474 w_475 (rcv hK hP 1 go_1 rfl rfl) ⟨Nat.le_of_ble_eq_true rfl, Nat.le_of_ble_eq_true rfl⟩ rfl hl.1 rfl (Nat.le_of_ble_eq_true rfl) dX2_run_23 ⟨(Nat.le_of_ble_eq_true rfl), (Nat.le_of_ble_eq_true rfl)⟩) hP hD hS hA (fun u H locs (hP : va_P D cl (wld ga n (K 0) (K 1) M) H) (hD : va_D A (wld ga n (K 0) (K 1) M)) hS => ?_)
      refine w_tov (y := ctv ga x6) rfl ?_
      obtain ⟨x7, ex7, h⟩ := ob_some h
      refine gk_v (run_V (rest := []) hx hb hml hown hts hK hP hD hS hA hm (C_Mi_move l G D K H.size ga n M x6 ex7) _ (full_C _) (full_n _ List.nodup_range) mok_yX2_move w_482 w_484 w_p5 (rcv hK hP 6 go_6 rfl rfl) ⟨Nat.le_of_ble_eq_true rfl, Nat.le_of_ble_eq_true rfl⟩ rfl hl.1 rfl (Nat.le_of_ble_eq_true rfl) dX2_run_26 ⟨(Nat.le_of_ble_eq_true rfl), (Nat.le_of_ble_eq_true rfl)⟩) hP hD hS hA (fun u H locs (hP : va_P D cl (wld ga n (K 0) (K 1) x7) H) (hD : va_D A (wld ga n (K 0) (K 1) x7)) hS => ?_)
      refine x_iinc (v := iI (v1 + 1)) hx hb dX2_run_29 hl (k := 1) rfl (iI_add v1 1) (by decide) [0] (lv' := [(0, .ref (ga 6))]) rfl (⟨⟨Nat.ne_of_beq_eq_false rfl, Or.inr rfl⟩, trivial⟩) (fun ls hl => ?_)
      refine lv_goto (tgt := 6) hx hb dX2_run_32 (by decide) ?_
      exact ih x7 (v1 + 1) _ h _ _ _ hP hD hS (lv_pk hl [1, 0] rfl) kk
    · replace h := it_F h c5
      refine i_icmp_ge_T hx hb g3 g4 (tgt := 35) dX2_run_14 (by decide) c5 ?_
      obtain rfl := Option.some.inj h
      exact kk _ _ _ hP hD hS (lv_pk hl [0] rfl)
def f_Mi_run (n : Nat) (M : cSt)  : Option (cSt × Int) := ob (f_Mi_begin n M) (fun x1 => ob (g_Mi_run_6 n  fu x1 0) (fun x8 => ob (f_Mi_follow n x8) (fun x9 => ob (f_Mi_dropReferents n x9) (fun x10 => ob (f_Mi_raiseFinals n x10) (fun x11 => ob (f_Mi_follow n x11) (fun x12 => ob (f_Mi_dropReferents n x12) (fun x13 => ob (f_Mi_leaveHalf n x13) (fun x14 => ob (f_Pl_renewCards n x14.1) (fun x15 => ob (f_Row_words n (sI x15 6 (gI x15 6 + 1)) 6) (fun x16 => ob (f_Ta_noteTouched n (sI x15 6 (gI x15 6 + 1)) x16) (fun x17 => some (x17, x14.2))))))))))))
set_option maxHeartbeats 4000000 in
set_option maxRecDepth 100000 in
theorem C_Mi_run (l : Launch) (G : Nat → Nat) (D : va_G) (K : Nat → ClassId) (sz : Nat) (ga : Nat → Nat) (n : Nat) (M : cSt)  {x : cSt × Int} (h : f_Mi_run n M  = some x) : CM l yX2_run cX2_run 2 (some FieldType.int) ({ frames := 4, cells := 0, slots := 0, locals := 87 } : Room) G D K [.ref (ga 6)] (wld ga n (K 0) (K 1) M) sz (CQi (iI x.2) D (fun _ => wld ga n (K 0) (K 1) x.1)) := by
  refine CM_of (lv0 := [(0, .ref (ga 6))]) pn_RX2 (Nat.le_of_ble_eq_true rfl) rfl (fun p e s m args below meth c A ls hx hb hr hml hown hts hlk hnm hP hK hD hS hA hm hl => ?_)
  have hown : s.vm.findClass RX2 = some m.cls := hown
  unfold f_Mi_run at h
  refine lv_aload_n hx hb dX2_run_0 rfl (lv_at hl 0 rfl) ?_
  obtain ⟨x1, ex1, h⟩ := ob_some h
  refine gk_v (run_V (rest := []) hx hb hml hown hts hK hP hD hS hA hm (C_Mi_begin l G D K s.heap.size ga n M ex1) _ (full_C _) (full_n _ List.nodup_range) mok_yX2_begin w_442 w_444 w_p3 (rcv hK hP 6 go_6 rfl rfl) ⟨Nat.le_of_ble_eq_true rfl, Nat.le_of_ble_eq_true rfl⟩ rfl hl.1 rfl (Nat.le_of_ble_eq_true rfl) dX2_run_1 ⟨(Nat.le_of_ble_eq_true rfl), (Nat.le_of_ble_eq_true rfl)⟩) hP hD hS hA (fun u H locs (hP : va_P D cl (wld ga n (K 0) (K 1) x1) H) (hD : va_D A (wld ga n (K 0) (K 1) x1)) hS => ?_)
  refine lv_iconst (v := iI 0) hx hb dX2_run_4 rfl ?_
  refine x_istore_n hx hb dX2_run_5 rfl hl (by decide) [0] (lv' := [(0, .ref (ga 6))]) rfl (⟨⟨Nat.ne_of_beq_eq_false rfl, Or.inr rfl⟩, trivial⟩) (fun ls hl => ?_)
  obtain ⟨x8, ex8, h⟩ := ob_some h
  refine L_Mi_run_6 hx hb hr hml hown hts hlk hK hA hm ga n   fu x1 0 _ ex8 _ _ _ hP hD hS (lv_pk hl [1, 0] rfl) (fun ls H locs (hP : va_P D cl (wld ga n (K 0) (K 1) x8) H) (hD : va_D A (wld ga n (K 0) (K 1) x8)) hS (hl : lv_has ls 2 [(0, .ref (ga 6))]) => ?_)
  refine lv_aload_n hx hb dX2_run_35 rfl (lv_at hl 0 rfl) ?_
  obtain ⟨x9, ex9, h⟩ := ob_some h
  refine gk_v (run_V (rest := []) hx hb hml hown hts hK hP hD hS hA hm (C_Mi_follow l G D K H.size ga n x8 ex9) _ (full_C _) (full_n _ List.nodup_range) mok_yX2_follow w_500 w_502 w_p6 (rcv hK hP 6 go_6 rfl rfl) ⟨Nat.le_of_ble_eq_true rfl, Nat.le_of_ble_eq_true rfl⟩ rfl hl.1 rfl (Nat.le_of_ble_eq_true rfl) dX2_run_36 ⟨(Nat.le_of_ble_eq_true rfl), (Nat.le_of_ble_eq_true rfl)⟩) hP hD hS hA (fun u H locs (hP : va_P D cl (wld ga n (K 0) (K 1) x9) H) (hD : va_D A (wld ga n (K 0) (K 1) x9)) hS => ?_)
  refine lv_aload_n hx hb dX2_run_39 rfl (lv_at hl 0 rfl) ?_
  obtain ⟨x10, ex10, h⟩ := ob_some h
  refine gk_v (run_V (rest := []) hx hb hml hown hts hK hP hD hS hA hm (C_Mi_dropReferents l G D K H.size ga n x9 ex10) _ (full_C _) (full_n _ List.nodup_range) mok_yX2_dropReferents w_504 w_506 w_p7 (rcv hK hP 6 go_6 rfl rfl) ⟨Nat.le_of_ble_eq_true rfl, Nat.le_of_ble_eq_true rfl⟩ rfl hl.1 rfl (Nat.le_of_ble_eq_true rfl) dX2_run_40 ⟨(Nat.le_of_ble_eq_true rfl), (Nat.le_of_ble_eq_true rfl)⟩) hP hD hS hA (fun u H locs (hP : va_P D cl (wld ga n (K 0) (K 1) x10) H) (hD : va_D A (wld ga n (K 0) (K 1) x10)) hS => ?_)
  refine lv_aload_n hx hb dX2_run_43 rfl (lv_at hl 0 rfl) ?_
  obtain ⟨x11, ex11, h⟩ := ob_some h
  refine gk_v (run_V (rest := []) hx hb hml hown hts hK hP hD hS hA hm (C_Mi_raiseFinals l G D K H.size ga n x10 ex11) _ (full_C _) (full_n _ List.nodup_range) mok_yX2_raiseFinals w_516 w_518 w_p8 (rcv hK hP 6 go_6 rfl rfl) ⟨Nat.le_of_ble_eq_true rfl, Nat.le_of_ble_eq_true rfl⟩ rfl hl.1 rfl (Nat.le_of_ble_eq_true rfl) dX2_run_44 ⟨(Nat.le_of_ble_eq_true rfl), (Nat.le_of_ble_eq_true rfl)⟩) hP hD hS hA (fun u H locs (hP : va_P D cl (wld ga n (K 0) (K 1) x11) H) (hD : va_D A (wld ga n (K 0) (K 1) x11)) hS => ?_)
  refine lv_aload_n hx hb dX2_run_47 rfl (lv_at hl 0 rfl) ?_
  obtain ⟨x12, ex12, h⟩ := ob_some h
  refine gk_v (run_V (rest := []) hx hb hml hown hts hK hP hD hS hA hm (C_Mi_follow l G D K H.size ga n x11 ex12) _ (full_C _) (full_n _ List.nodup_range) mok_yX2_follow w_500 w_502 w_p6 (rcv hK hP 6 go_6 rfl rfl) ⟨Nat.le_of_ble_eq_true rfl, Nat.le_of_ble_eq_true rfl⟩ rfl hl.1 rfl (Nat.le_of_ble_eq_true rfl) dX2_run_48 ⟨(Nat.le_of_ble_eq_true rfl), (Nat.le_of_ble_eq_true rfl)⟩) hP hD hS hA (fun u H locs (hP : va_P D cl (wld ga n (K 0) (K 1) x12) H) (hD : va_D A (wld ga n (K 0) (K 1) x12)) hS => ?_)
  refine lv_aload_n hx hb dX2_run_51 rfl (lv_at hl 0 rfl) ?_
  obtain ⟨x13, ex13, h⟩ := ob_some h
  refine gk_v (run_V (rest := []) hx hb hml hown hts hK hP hD hS hA hm (C_Mi_dropReferents l G D K H.size ga n x12 ex13) _ (full_C _) (full_n _ List.nodup_range) mok_yX2_dropReferents w_504 w_506 w_p7 (rcv hK hP 6 go_6 rfl rfl) ⟨Nat.le_of_ble_eq_true rfl, Nat.le_of_ble_eq_true rfl⟩ rfl hl.1 rfl (Nat.le_of_ble_eq_true rfl) dX2_run_52 ⟨(Nat.le_of_ble_eq_true rfl), (Nat.le_of_ble_eq_true rfl)⟩) hP hD hS hA (fun u H locs (hP : va_P D cl (wld ga n (K 0) (K 1) x13) H) (hD : va_D A (wld ga n (K 0) (K 1) x13)) hS => ?_)
  refine lv_aload_n hx hb dX2_run_55 rfl (lv_at hl 0 rfl) ?_
  obtain ⟨x14, ex14, h⟩ := ob_some h
  refine gk_i (run_V (rest := []) hx hb hml hown hts hK hP hD hS hA hm (C_Mi_leaveHalf l G D K H.size ga n x13 ex14) _ (full_C _) (full_n _ List.nodup_range) mok_yX2_leaveHalf w_520 w_522 w_p9 (rcv hK hP 6 go_6 rfl rfl) ⟨Nat.le_of_ble_eq_true rfl, Nat.le_of_ble_eq_true rfl⟩ rfl hl.1 rfl (Nat.le_of_ble_eq_true rfl) dX2_run_56 ⟨(Nat.le_of_ble_eq_true rfl), (Nat.le_of_ble_eq_true rfl)⟩) hP hD hS hA (fun u H locs (hP : va_P D cl (wld ga n (K 0) (K 1) x14.1) H) (hD : va_D A (wld ga n (K 0) (K 1) x14.1)) hS => ?_)
  refine x_istore_n hx hb dX2_run_59 rfl hl (by decide) [0] (lv' := [(0, .ref (ga 6))]) rfl (⟨⟨Nat.ne_of_beq_eq_false rfl, Or.inr rfl⟩, trivial⟩) (fun ls hl => ?_)
  refine lv_aload_n hx hb dX2_run_60 rfl (lv_at hl 1 rfl) ?_
  refine r_get hx hb hts ok_RX2 hown hK hP 6 go_6 rfl 3 (by decide) w_187 (fun _ h9 => h9) rfl dX2_run_61 ?_
  obtain ⟨x15, ex15, h⟩ := ob_some h
  refine gk_v (run_V (rest := []) hx hb hml hown hts hK hP hD hS hA hm (C_Pl_renewCards l G D K H.size ga n x14.1 ex15) _ (full_C _) (full_n _ List.nodup_range) mok_yX3_renewCards w_528 w_529 w_530 (rcv hK hP 2 go_2 rfl rfl) ⟨Nat.le_of_ble_eq_true rfl, Nat.le_of_ble_eq_true rfl⟩ rfl hl.1 rfl (Nat.le_of_ble_eq_true rfl) dX2_run_64 ⟨(Nat.le_of_ble_eq_true rfl), (Nat.le_of_ble_eq_true rfl)⟩) hP hD hS hA (fun u H locs (hP : va_P D cl (wld ga n (K 0) (K 1) x15) H) (hD : va_D A (wld ga n (K 0) (K 1) x15)) hS => ?_)
  refine lv_aload_n hx hb dX2_run_67 rfl (lv_at hl 1 rfl) ?_
  refine r_get hx hb hts ok_RX2 hown hK hP 6 go_6 rfl 4 (by decide) w_188 (fun _ h9 => h9) rfl dX2_run_68 ?_
  refine lv_dup hx hb dX2_run_71 rfl ?_
  refine r_get hx hb hts ok_RX6 hown hK hP 3 go_3 rfl 0 (by decide) w_116 (fun _ h9 => h9) rfl dX2_run_72 ?_
  refine lv_iconst (v := iI 1) hx hb dX2_run_75 rfl ?_
  refine lv_iadd hx hb dX2_run_76 ?_
  refine w_toeq (iI_add (gI x15 6) 1) ?_
  refine r_put hx hb hts ok_RX6 hown hK hP hD hS 3 go_3 rfl 0 (by decide) w_116 (fun _ h9 => h9) rfl (v := .int (iI (gI x15 6 + 1))) rfl rfl (Nat.le_of_ble_eq_true rfl) dX2_run_77 (ws' := wld ga n (K 0) (K 1) (sI x15 6 (gI x15 6 + 1))) wI_6 (fun H locs hP hD hS => ?_)
  refine lv_aload_n hx hb dX2_run_80 rfl (lv_at hl 1 rfl) ?_
  refine r_get hx hb hts ok_RX2 hown hK hP 6 go_6 rfl 4 (by decide) w_188 (fun _ h9 => h9) rfl dX2_run_81 ?_
  refine lv_aload_n hx hb dX2_run_84 rfl (lv_at hl 1 rfl) ?_
  refine r_get hx hb hts ok_RX2 hown hK hP 6 go_6 rfl 5 (by decide) w_189 (fun _ h9 => h9) rfl dX2_run_85 ?_
  obtain ⟨x16, ex16, h⟩ := ob_some h
  refine gk_i (run_V (rest := [.ref (ga 3)]) hx hb hml hown hts hK hP hD hS hA hm (C_Row_words l G D K H.size ga n (sI x15 6 (gI x15 6 + 1)) 6 (by decide) ex16) _ (full_C _) (full_n _ List.nodup_range) mok_yX5_words w_545 w_546 w_547 (rcv hK hP (8 + 6) (go_ro (by decide)) rfl rfl) ⟨Nat.le_of_ble_eq_true rfl, Nat.le_of_ble_eq_true rfl⟩ rfl hl.1 rfl (Nat.le_of_ble_eq_true rfl) dX2_run_88 ⟨(Nat.le_of_ble_eq_true rfl), (Nat.le_of_ble_eq_true rfl)⟩) hP hD hS hA (fun u H locs (hP : va_P D cl (wld ga n (K 0) (K 1) (sI x15 6 (gI x15 6 + 1))) H) (hD : va_D A (wld ga n (K 0) (K 1) (sI x15 6 (gI x15 6 + 1)))) hS => ?_)
  obtain ⟨x17, ex17, h⟩ := ob_some h
  refine gk_v (run_V (rest := []) hx hb hml hown hts hK hP hD hS hA hm (C_Ta_noteTouched l G D K H.size ga n (sI x15 6 (gI x15 6 + 1)) x16 ex17) _ (full_C _) (full_n _ List.nodup_range) mok_yX6_noteTouched w_549 w_550 w_551 (rcv hK hP 3 go_3 rfl rfl) ⟨Nat.le_of_ble_eq_true rfl, Nat.le_of_ble_eq_true rfl⟩ rfl hl.1 rfl (Nat.le_of_ble_eq_true rfl) dX2_run_91 ⟨(Nat.le_of_ble_eq_true rfl), (Nat.le_of_ble_eq_true rfl)⟩) hP hD hS hA (fun u H locs (hP : va_P D cl (wld ga n (K 0) (K 1) x17) H) (hD : va_D A (wld ga n (K 0) (K 1) x17)) hS => ?_)
  refine lv_iload_n hx hb dX2_run_94 rfl (lv_at hl 0 rfl) ?_
  obtain rfl := Option.some.inj h
  exact e_i hx hb hr hlk hP hD hS (fun _ => 0) rfl (Nat.le_of_ble_eq_true rfl) (Nat.le_of_ble_eq_true rfl) rfl dX2_run_95
