/-! METHODS as functions, with their contracts, written by wip/p32/sx2.py -/
noncomputable def f_X_make (n : Nat) (M : cSt) (a1 : Int) (a2 : Int) (a3 : Int) : Option (Nat × cSt × Int) := ob (f_X_requireSlot n M a1) (fun x1 => og (inR a2) (if a2 < 0 then none else if 4 < a2 then none else ob (f_X_leastFields n M a2) (fun x5 => og (inR a3) (og (inR x5) (if a3 < x5 then none else if 20 < a3 then none else ob (f_Row_size n M 0) (fun x10 => og (inR x10) (if x10 < 200 then ob (f_Pl_gapFor n M a3) (fun x13 => og (inR x13) (if x13 = (-1) then if a3 < 12 then ob (f_X_minor n M) (fun x17 => ob (f_Pl_gapFor n x17.1 a3) (fun x18 => og (inR x18) (if x18 = (-1) then ob (f_X_full n x17.1 1) (fun x21 => ob (f_Pl_gapFor n x21.1 a3) (fun x22 => og (inR x22) (if x22 = (-1) then ob (f_X_full n x21.1 0) (fun x25 => ob (f_Pl_gapFor n x25.1 a3) (fun x26 => og (inR x26) (if x26 = (-1) then some (n, x25.1, (-1)) else ob (f_Row_size n x25.1 0) (fun x29 => oc (cRf n x25.1) (og (0 ≤ x29 ∧ x29 ≤ 199) (og (0 ≤ a3 ∧ a3 ≤ 20) (ob (f_Row_add (n + 1) (nTh x25.1 n x29 a2 a3) 0 (some n)) (fun x32 => ob (f_Pl_lay (n + 1) x32 (some n) x26) (fun x33 => ob (f_Mk_noteMade (n + 1) x33 (some n)) (fun x34 => ob (f_Ro_writeSlot (n + 1) x34 a1 (some n)) (fun x35 => some ((n + 1), x35, gT x35 n 0)))))))))))) else ob (f_Row_size n x21.1 0) (fun x36 => oc (cRf n x21.1) (og (0 ≤ x36 ∧ x36 ≤ 199) (og (0 ≤ a3 ∧ a3 ≤ 20) (ob (f_Row_add (n + 1) (nTh x21.1 n x36 a2 a3) 0 (some n)) (fun x39 => ob (f_Pl_lay (n + 1) x39 (some n) x22) (fun x40 => ob (f_Mk_noteMade (n + 1) x40 (some n)) (fun x41 => ob (f_Ro_writeSlot (n + 1) x41 a1 (some n)) (fun x42 => some ((n + 1), x42, gT x42 n 0)))))))))))) else ob (f_Row_size n x17.1 0) (fun x43 => oc (cRf n x17.1) (og (0 ≤ x43 ∧ x43 ≤ 199) (og (0 ≤ a3 ∧ a3 ≤ 20) (ob (f_Row_add (n + 1) (nTh x17.1 n x43 a2 a3) 0 (some n)) (fun x46 => ob (f_Pl_lay (n + 1) x46 (some n) x18) (fun x47 => ob (f_Mk_noteMade (n + 1) x47 (some n)) (fun x48 => ob (f_Ro_writeSlot (n + 1) x48 a1 (some n)) (fun x49 => some ((n + 1), x49, gT x49 n 0)))))))))))) else ob (f_X_full n M 1) (fun x50 => ob (f_Pl_gapFor n x50.1 a3) (fun x51 => og (inR x51) (if x51 = (-1) then ob (f_X_full n x50.1 0) (fun x54 => ob (f_Pl_gapFor n x54.1 a3) (fun x55 => og (inR x55) (if x55 = (-1) then some (n, x54.1, (-1)) else ob (f_Row_size n x54.1 0) (fun x58 => oc (cRf n x54.1) (og (0 ≤ x58 ∧ x58 ≤ 199) (og (0 ≤ a3 ∧ a3 ≤ 20) (ob (f_Row_add (n + 1) (nTh x54.1 n x58 a2 a3) 0 (some n)) (fun x61 => ob (f_Pl_lay (n + 1) x61 (some n) x55) (fun x62 => ob (f_Mk_noteMade (n + 1) x62 (some n)) (fun x63 => ob (f_Ro_writeSlot (n + 1) x63 a1 (some n)) (fun x64 => some ((n + 1), x64, gT x64 n 0)))))))))))) else ob (f_Row_size n x50.1 0) (fun x65 => oc (cRf n x50.1) (og (0 ≤ x65 ∧ x65 ≤ 199) (og (0 ≤ a3 ∧ a3 ≤ 20) (ob (f_Row_add (n + 1) (nTh x50.1 n x65 a2 a3) 0 (some n)) (fun x68 => ob (f_Pl_lay (n + 1) x68 (some n) x51) (fun x69 => ob (f_Mk_noteMade (n + 1) x69 (some n)) (fun x70 => ob (f_Ro_writeSlot (n + 1) x70 a1 (some n)) (fun x71 => some ((n + 1), x71, gT x71 n 0)))))))))))) else ob (f_Row_size n M 0) (fun x72 => oc (cRf n M) (og (0 ≤ x72 ∧ x72 ≤ 199) (og (0 ≤ a3 ∧ a3 ≤ 20) (ob (f_Row_add (n + 1) (nTh M n x72 a2 a3) 0 (some n)) (fun x75 => ob (f_Pl_lay (n + 1) x75 (some n) x13) (fun x76 => ob (f_Mk_noteMade (n + 1) x76 (some n)) (fun x77 => ob (f_Ro_writeSlot (n + 1) x77 a1 (some n)) (fun x78 => some ((n + 1), x78, gT x78 n 0))))))))))) else none)))))))
set_option maxHeartbeats 4000000 in
set_option maxRecDepth 100000 in
theorem C_X_make (l : Launch) (G : Nat → Nat) (D : va_G) (K : Nat → ClassId) (sz : Nat) (ga : Nat → Nat) (n : Nat) (M : cSt) (a1 : Int) (a2 : Int) (a3 : Int) {x : Nat × cSt × Int} (h : f_X_make n M a1 a2 a3 = some x) : CM l yX9_make cX9_make 6 (some FieldType.int) ({ frames := 6, cells := 2, slots := 34, locals := 132 } : Room) G D K [.ref (ga 0), .int (iI a1), .int (iI a2), .int (iI a3)] (wld ga n (K 0) (K 1) M) sz (CQm (ga 0) x D K) := by
  refine CM_of (lv0 := [(0, .ref (ga 0)), (1, .int (iI a1)), (2, .int (iI a2)), (3, .int (iI a3))]) pn_RX9 (Nat.le_of_ble_eq_true rfl) rfl (fun p e s m args below meth c A ls hx hb hr hml hown hts hlk hnm hP hK hD hS hA hm hl => ?_)
  have hown : s.vm.findClass RX9 = some m.cls := hown
  unfold f_X_make at h
  refine lv_iload_n hx hb dX9_make_0 rfl (lv_at hl 1 rfl) ?_
  obtain ⟨x1, ex1, h⟩ := ob_some h
  refine gk_v (run_S (rest := []) hx hb hml hown hts hK hP hD hS hA hm (C_X_requireSlot l G D K s.heap.size ga n M a1 ex1) _ (full_C _) (full_n _ List.nodup_range) mok_yX9_requireSlot w_366 w_367 ⟨Nat.le_of_ble_eq_true rfl, Nat.le_of_ble_eq_true rfl⟩ rfl hl.1 rfl (Nat.le_of_ble_eq_true rfl) dX9_make_1 ⟨(Nat.le_of_ble_eq_true rfl), (Nat.le_of_ble_eq_true rfl)⟩) hP hD hS hA (fun u H locs (hP : va_P D cl (wld ga n (K 0) (K 1) M) H) (hD : va_D A (wld ga n (K 0) (K 1) M)) hS => ?_)
  refine lv_iload_n hx hb dX9_make_4 rfl (lv_at hl 2 rfl) ?_
  obtain ⟨g2, h⟩ := og_some h
  by_cases c3 : a2 < 0
  · replace h := it_T h c3
    cases h
  · replace h := it_F h c3
    refine i_if_lt_F hx hb g2 (tgt := 27) dX9_make_5 (by decide) c3 ?_
    refine lv_iload_n hx hb dX9_make_8 rfl (lv_at hl 2 rfl) ?_
    refine lv_iconst (v := iI 4) hx hb dX9_make_9 rfl ?_
    by_cases c4 : 4 < a2
    · replace h := it_T h c4
      cases h
    · replace h := it_F h c4
      refine i_icmp_gt_F hx hb g2 ⟨by decide, by decide⟩ (tgt := 27) dX9_make_10 (by decide) c4 ?_
      refine lv_iload_n hx hb dX9_make_13 rfl (lv_at hl 3 rfl) ?_
      refine lv_iload_n hx hb dX9_make_14 rfl (lv_at hl 2 rfl) ?_
      obtain ⟨x5, ex5, h⟩ := ob_some h
      refine gk_i (run_S (rest := [.int (iI a3)]) hx hb hml hown hts hK hP hD hS hA hm (C_X_leastFields l G D K H.size ga n M a2 ex5) _ (full_C _) (full_n _ List.nodup_range) mok_yX9_leastFields w_385 w_386 ⟨Nat.le_of_ble_eq_true rfl, Nat.le_of_ble_eq_true rfl⟩ rfl hl.1 rfl (Nat.le_of_ble_eq_true rfl) dX9_make_15 ⟨(Nat.le_of_ble_eq_true rfl), (Nat.le_of_ble_eq_true rfl)⟩) hP hD hS hA (fun u H locs (hP : va_P D cl (wld ga n (K 0) (K 1) M) H) (hD : va_D A (wld ga n (K 0) (K 1) M)) hS => ?_)
      obtain ⟨g6, h⟩ := og_some h
      obtain ⟨g7, h⟩ := og_some h
      by_cases c8 : a3 < x5
      · replace h := it_T h c8
        cases h
      · replace h := it_F h c8
        refine i_icmp_lt_F hx hb g6 g7 (tgt := 27) dX9_make_18 (by decide) c8 ?_
        refine lv_iload_n hx hb dX9_make_21 rfl (lv_at hl 3 rfl) ?_
        refine lv_bipush (v := iI 20) hx hb dX9_make_22 rfl ?_
        by_cases c9 : 20 < a3
        · replace h := it_T h c9
          cases h
        · replace h := it_F h c9
          refine i_icmp_le_T hx hb g6 ⟨by decide, by decide⟩ (tgt := 37) dX9_make_24 (by decide) c9 ?_
          refine lv_aload_n hx hb dX9_make_37 rfl (lv_at hl 0 rfl) ?_
          refine r_get hx hb hts ok_RX9 hown hK hP 0 go_0 rfl 0 (by decide) w_237 (fun _ h9 => h9) rfl dX9_make_38 ?_
          obtain ⟨x10, ex10, h⟩ := ob_some h
          refine gk_i (run_V (rest := []) hx hb hml hown hts hK hP hD hS hA hm (C_Row_size l G D K H.size ga n M 0 (by decide) ex10) _ (full_C _) (full_n _ List.nodup_range) mok_yX5_size w_404 w_405 w_406 (rcv hK hP (8 + 0) (go_ro (by decide)) rfl rfl) ⟨Nat.le_of_ble_eq_true rfl, Nat.le_of_ble_eq_true rfl⟩ rfl hl.1 rfl (Nat.le_of_ble_eq_true rfl) dX9_make_41 ⟨(Nat.le_of_ble_eq_true rfl), (Nat.le_of_ble_eq_true rfl)⟩) hP hD hS hA (fun u H locs (hP : va_P D cl (wld ga n (K 0) (K 1) M) H) (hD : va_D A (wld ga n (K 0) (K 1) M)) hS => ?_)
          refine lv_sipush (v := iI 200) hx hb dX9_make_44 rfl ?_
          obtain ⟨g11, h⟩ := og_some h
          by_cases c12 : x10 < 200
          · replace h := it_T h c12
            refine i_icmp_lt_T hx hb g11 ⟨by decide, by decide⟩ (tgt := 60) dX9_make_47 (by decide) c12 ?_
            refine lv_aload_n hx hb dX9_make_60 rfl (lv_at hl 0 rfl) ?_
            refine r_get hx hb hts ok_RX9 hown hK hP 0 go_0 rfl 2 (by decide) w_239 (fun _ h9 => h9) rfl dX9_make_61 ?_
            refine lv_iload_n hx hb dX9_make_64 rfl (lv_at hl 3 rfl) ?_
            obtain ⟨x13, ex13, h⟩ := ob_some h
            refine gk_i (run_V (rest := []) hx hb hml hown hts hK hP hD hS hA hm (C_Pl_gapFor l G D K H.size ga n M a3 ex13) _ (full_C _) (full_n _ List.nodup_range) mok_yX3_gapFor w_409 w_410 w_411 (rcv hK hP 2 go_2 rfl rfl) ⟨Nat.le_of_ble_eq_true rfl, Nat.le_of_ble_eq_true rfl⟩ rfl hl.1 rfl (Nat.le_of_ble_eq_true rfl) dX9_make_65 ⟨(Nat.le_of_ble_eq_true rfl), (Nat.le_of_ble_eq_true rfl)⟩) hP hD hS hA (fun u H locs (hP : va_P D cl (wld ga n (K 0) (K 1) M) H) (hD : va_D A (wld ga n (K 0) (K 1) M)) hS => ?_)
            refine x_istore hx hb dX9_make_68 hl (by decide) [0, 1, 2, 3] (lv' := [(0, .ref (ga 0)), (1, .int (iI a1)), (2, .int (iI a2)), (3, .int (iI a3))]) rfl (⟨⟨Nat.ne_of_beq_eq_false rfl, Or.inl (Nat.ne_of_beq_eq_false rfl)⟩, ⟨⟨Nat.ne_of_beq_eq_false rfl, Or.inl (Nat.ne_of_beq_eq_false rfl)⟩, ⟨⟨Nat.ne_of_beq_eq_false rfl, Or.inl (Nat.ne_of_beq_eq_false rfl)⟩, ⟨⟨Nat.ne_of_beq_eq_false rfl, Or.inr rfl⟩, trivial⟩⟩⟩⟩) (fun ls hl => ?_)
            refine lv_iload hx hb dX9_make_70 (lv_at hl 0 rfl) ?_
            refine lv_iconst (v := iI (-1)) hx hb dX9_make_72 rfl ?_
            obtain ⟨g14, h⟩ := og_some h
            by_cases c15 : x13 = (-1)
            · replace h := it_T h c15
              refine i_icmp_ne_F hx hb g14 ⟨by decide, by decide⟩ (tgt := 97) dX9_make_73 (by decide) c15 ?_
              refine lv_iload_n hx hb dX9_make_76 rfl (lv_at hl 4 rfl) ?_
              refine lv_bipush (v := iI 12) hx hb dX9_make_77 rfl ?_
              by_cases c16 : a3 < 12
              · replace h := it_T h c16
                refine i_icmp_ge_F hx hb g6 ⟨by decide, by decide⟩ (tgt := 97) dX9_make_79 (by decide) c16 ?_
                refine lv_aload_n hx hb dX9_make_82 rfl (lv_at hl 1 rfl) ?_
                obtain ⟨x17, ex17, h⟩ := ob_some h
                refine gk_i (run_V (rest := []) hx hb hml hown hts hK hP hD hS hA hm (C_X_minor l G D K H.size ga n M ex17) _ (full_C _) (full_n _ List.nodup_range) mok_yX9_minor w_426 w_427 w_428 (rcv hK hP 0 go_0 rfl rfl) ⟨Nat.le_of_ble_eq_true rfl, Nat.le_of_ble_eq_true rfl⟩ rfl hl.1 rfl (Nat.le_of_ble_eq_true rfl) dX9_make_83 ⟨(Nat.le_of_ble_eq_true rfl), (Nat.le_of_ble_eq_true rfl)⟩) hP hD hS hA (fun u H locs (hP : va_P D cl (wld ga n (K 0) (K 1) x17.1) H) (hD : va_D A (wld ga n (K 0) (K 1) x17.1)) hS => ?_)
                refine lv_pop hx hb dX9_make_86 rfl ?_
                refine lv_aload_n hx hb dX9_make_87 rfl (lv_at hl 1 rfl) ?_
                refine r_get hx hb hts ok_RX9 hown hK hP 0 go_0 rfl 2 (by decide) w_239 (fun _ h9 => h9) rfl dX9_make_88 ?_
                refine lv_iload_n hx hb dX9_make_91 rfl (lv_at hl 4 rfl) ?_
                obtain ⟨x18, ex18, h⟩ := ob_some h
                refine gk_i (run_V (rest := []) hx hb hml hown hts hK hP hD hS hA hm (C_Pl_gapFor l G D K H.size ga n x17.1 a3 ex18) _ (full_C _) (full_n _ List.nodup_range) mok_yX3_gapFor w_409 w_410 w_411 (rcv hK hP 2 go_2 rfl rfl) ⟨Nat.le_of_ble_eq_true rfl, Nat.le_of_ble_eq_true rfl⟩ rfl hl.1 rfl (Nat.le_of_ble_eq_true rfl) dX9_make_92 ⟨(Nat.le_of_ble_eq_true rfl), (Nat.le_of_ble_eq_true rfl)⟩) hP hD hS hA (fun u H locs (hP : va_P D cl (wld ga n (K 0) (K 1) x17.1) H) (hD : va_D A (wld ga n (K 0) (K 1) x17.1)) hS => ?_)
                refine x_istore hx hb dX9_make_95 hl (by decide) [1, 2, 3, 4] (lv' := [(0, .ref (ga 0)), (1, .int (iI a1)), (2, .int (iI a2)), (3, .int (iI a3))]) rfl (⟨⟨Nat.ne_of_beq_eq_false rfl, Or.inl (Nat.ne_of_beq_eq_false rfl)⟩, ⟨⟨Nat.ne_of_beq_eq_false rfl, Or.inl (Nat.ne_of_beq_eq_false rfl)⟩, ⟨⟨Nat.ne_of_beq_eq_false rfl, Or.inl (Nat.ne_of_beq_eq_false rfl)⟩, ⟨⟨Nat.ne_of_beq_eq_false rfl, Or.inr rfl⟩, trivial⟩⟩⟩⟩) (fun ls hl => ?_)
                refine lv_iload hx hb dX9_make_97 (lv_at hl 0 rfl) ?_
                refine lv_iconst (v := iI (-1)) hx hb dX9_make_99 rfl ?_
                obtain ⟨g19, h⟩ := og_some h
                by_cases c20 : x18 = (-1)
                · replace h := it_T h c20
                  refine i_icmp_ne_F hx hb g19 ⟨by decide, by decide⟩ (tgt := 119) dX9_make_100 (by decide) c20 ?_
                  refine lv_aload_n hx hb dX9_make_103 rfl (lv_at hl 1 rfl) ?_
                  refine lv_iconst (v := iI 1) hx hb dX9_make_104 rfl ?_
                  obtain ⟨x21, ex21, h⟩ := ob_some h
                  refine gk_i (run_V (rest := []) hx hb hml hown hts hK hP hD hS hA hm (C_X_full l G D K H.size ga n x17.1 1 ex21) _ (full_C _) (full_n _ List.nodup_range) mok_yX9_full w_664 w_665 w_666 (rcv hK hP 0 go_0 rfl rfl) ⟨Nat.le_of_ble_eq_true rfl, Nat.le_of_ble_eq_true rfl⟩ rfl hl.1 rfl (Nat.le_of_ble_eq_true rfl) dX9_make_105 ⟨(Nat.le_of_ble_eq_true rfl), (Nat.le_of_ble_eq_true rfl)⟩) hP hD hS hA (fun u H locs (hP : va_P D cl (wld ga n (K 0) (K 1) x21.1) H) (hD : va_D A (wld ga n (K 0) (K 1) x21.1)) hS => ?_)
                  refine lv_pop hx hb dX9_make_108 rfl ?_
                  refine lv_aload_n hx hb dX9_make_109 rfl (lv_at hl 1 rfl) ?_
                  refine r_get hx hb hts ok_RX9 hown hK hP 0 go_0 rfl 2 (by decide) w_239 (fun _ h9 => h9) rfl dX9_make_110 ?_
                  refine lv_iload_n hx hb dX9_make_113 rfl (lv_at hl 4 rfl) ?_
                  obtain ⟨x22, ex22, h⟩ := ob_some h
                  refine gk_i (run_V (rest := []) hx hb hml hown hts hK hP hD hS hA hm (C_Pl_gapFor l G D K H.size ga n x21.1 a3 ex22) _ (full_C _) (full_n _ List.nodup_range) mok_yX3_gapFor w_409 w_410 w_411 (rcv hK hP 2 go_2 rfl rfl) ⟨Nat.le_of_ble_eq_true rfl, Nat.le_of_ble_eq_true rfl⟩ rfl hl.1 rfl (Nat.le_of_ble_eq_true rfl) dX9_make_114 ⟨(Nat.le_of_ble_eq_true rfl), (Nat.le_of_ble_eq_true rfl)⟩) hP hD hS hA (fun u H locs (hP : va_P D cl (wld ga n (K 0) (K 1) x21.1) H) (hD : va_D A (wld ga n (K 0) (K 1) x21.1)) hS => ?_)
                  refine x_istore hx hb dX9_make_117 hl (by decide) [1, 2, 3, 4] (lv' := [(0, .ref (ga 0)), (1, .int (iI a1)), (2, .int (iI a2)), (3, .int (iI a3))]) rfl (⟨⟨Nat.ne_of_beq_eq_false rfl, Or.inl (Nat.ne_of_beq_eq_false rfl)⟩, ⟨⟨Nat.ne_of_beq_eq_false rfl, Or.inl (Nat.ne_of_beq_eq_false rfl)⟩, ⟨⟨Nat.ne_of_beq_eq_false rfl, Or.inl (Nat.ne_of_beq_eq_false rfl)⟩, ⟨⟨Nat.ne_of_beq_eq_false rfl, Or.inr rfl⟩, trivial⟩⟩⟩⟩) (fun ls hl => ?_)
                  refine lv_iload hx hb dX9_make_119 (lv_at hl 0 rfl) ?_
                  refine lv_iconst (v := iI (-1)) hx hb dX9_make_121 rfl ?_
                  obtain ⟨g23, h⟩ := og_some h
                  by_cases c24 : x22 = (-1)
                  · replace h := it_T h c24
                    refine i_icmp_ne_F hx hb g23 ⟨by decide, by decide⟩ (tgt := 141) dX9_make_122 (by decide) c24 ?_
                    refine lv_aload_n hx hb dX9_make_125 rfl (lv_at hl 1 rfl) ?_
                    refine lv_iconst (v := iI 0) hx hb dX9_make_126 rfl ?_
                    obtain ⟨x25, ex25, h⟩ := ob_some h
                    refine gk_i (run_V (rest := []) hx hb hml hown hts hK hP hD hS hA hm (C_X_full l G D K H.size ga n x21.1 0 ex25) _ (full_C _) (full_n _ List.nodup_range) mok_yX9_full w_664 w_665 w_666 (rcv hK hP 0 go_0 rfl rfl) ⟨Nat.le_of_ble_eq_true rfl, Nat.le_of_ble_eq_true rfl⟩ rfl hl.1 rfl (Nat.le_of_ble_eq_true rfl) dX9_make_127 ⟨(Nat.le_of_ble_eq_true rfl), (Nat.le_of_ble_eq_true rfl)⟩) hP hD hS hA (fun u H locs (hP : va_P D cl (wld ga n (K 0) (K 1) x25.1) H) (hD : va_D A (wld ga n (K 0) (K 1) x25.1)) hS => ?_)
                    refine lv_pop hx hb dX9_make_130 rfl ?_
                    refine lv_aload_n hx hb dX9_make_131 rfl (lv_at hl 1 rfl) ?_
                    refine r_get hx hb hts ok_RX9 hown hK hP 0 go_0 rfl 2 (by decide) w_239 (fun _ h9 => h9) rfl dX9_make_132 ?_
                    refine lv_iload_n hx hb dX9_make_135 rfl (lv_at hl 4 rfl) ?_
                    obtain ⟨x26, ex26, h⟩ := ob_some h
                    refine gk_i (run_V (rest := []) hx hb hml hown hts hK hP hD hS hA hm (C_Pl_gapFor l G D K H.size ga n x25.1 a3 ex26) _ (full_C _) (full_n _ List.nodup_range) mok_yX3_gapFor w_409 w_410 w_411 (rcv hK hP 2 go_2 rfl rfl) ⟨Nat.le_of_ble_eq_true rfl, Nat.le_of_ble_eq_true rfl⟩ rfl hl.1 rfl (Nat.le_of_ble_eq_true rfl) dX9_make_136 ⟨(Nat.le_of_ble_eq_true rfl), (Nat.le_of_ble_eq_true rfl)⟩) hP hD hS hA (fun u H locs (hP : va_P D cl (wld ga n (K 0) (K 1) x25.1) H) (hD : va_D A (wld ga n (K 0) (K 1) x25.1)) hS => ?_)
                    refine x_istore hx hb dX9_make_139 hl (by decide) [1, 2, 3, 4] (lv' := [(0, .ref (ga 0)), (1, .int (iI a1)), (2, .int (iI a2)), (3, .int (iI a3))]) rfl (⟨⟨Nat.ne_of_beq_eq_false rfl, Or.inl (Nat.ne_of_beq_eq_false rfl)⟩, ⟨⟨Nat.ne_of_beq_eq_false rfl, Or.inl (Nat.ne_of_beq_eq_false rfl)⟩, ⟨⟨Nat.ne_of_beq_eq_false rfl, Or.inl (Nat.ne_of_beq_eq_false rfl)⟩, ⟨⟨Nat.ne_of_beq_eq_false rfl, Or.inr rfl⟩, trivial⟩⟩⟩⟩) (fun ls hl => ?_)
                    refine lv_iload hx hb dX9_make_141 (lv_at hl 0 rfl) ?_
                    refine lv_iconst (v := iI (-1)) hx hb dX9_make_143 rfl ?_
                    obtain ⟨g27, h⟩ := og_some h
                    by_cases c28 : x26 = (-1)
                    · replace h := it_T h c28
                      refine i_icmp_ne_F hx hb g27 ⟨by decide, by decide⟩ (tgt := 149) dX9_make_144 (by decide) c28 ?_
                      refine lv_iconst (v := iI (-1)) hx hb dX9_make_147 rfl ?_
                      obtain rfl := Option.some.inj h
                      exact e_m hx hb hr hlk hP hD hS (Nat.le_of_ble_eq_true rfl) (Nat.le_of_ble_eq_true rfl) rfl (by first | rfl | exact (ga_up_lt (by omega)).symm) dX9_make_148
                    · replace h := it_F h c28
                      refine i_icmp_ne_T hx hb g27 ⟨by decide, by decide⟩ (tgt := 149) dX9_make_144 (by decide) c28 ?_
                      refine r_new (ci := 7) (C := RX7) (T := TX7) (N := 14) hx hb hts ok_RX7 hown w_668 w_669 w_17 hK hP hD hS hA rfl df_RX7 (by first | omega | (dsimp only at *; omega) | (dsimp only [room_1] at *; omega)) (by first | omega | (dsimp only at *; omega) | (dsimp only [room_1] at *; omega)) dX9_make_149 (w2 := fun q0 => wld ga n (K 0) (K 1) x25.1 ++ [(q0, .inr (7, [.int (nI 0), .null, .int (nI 0), .int (nI 0), .int (nI 0), .int (nI 0), .int (nI 0), .int (nI 0), .int (nI 0), .int (nI 0), .int (nI 0), .int (nI 0), .int (nI 0), .int (nI 0)]))]) (fun _ => rfl) (fun q0 H hP hD hS => ?_)
                      replace hP := rot_P hP
                      replace hD := rot_D hD
                      refine lv_dup hx hb dX9_make_152 rfl ?_
                      refine lv_aload_n hx hb dX9_make_153 rfl (lv_at hl 1 rfl) ?_
                      refine r_get hx hb hts ok_RX9 hown hK hP 1 (sk go_0) rfl 0 (by decide) w_237 (fun _ h9 => h9) rfl dX9_make_154 ?_
                      obtain ⟨x29, ex29, h⟩ := ob_some h
                      refine gx_i [(q0, .inr (7, [.int (nI 0), .null, .int (nI 0), .int (nI 0), .int (nI 0), .int (nI 0), .int (nI 0), .int (nI 0), .int (nI 0), .int (nI 0), .int (nI 0), .int (nI 0), .int (nI 0), .int (nI 0)]))] [] [(q0, .inr (7, [.int (nI 0), .null, .int (nI 0), .int (nI 0), .int (nI 0), .int (nI 0), .int (nI 0), .int (nI 0), .int (nI 0), .int (nI 0), .int (nI 0), .int (nI 0), .int (nI 0), .int (nI 0)]))] [] [0] 1 rfl rfl rfl (by decide) (by decide) (by decide) (by decide) (run_V (rest := [.ref q0, .ref q0]) hx hb hml hown hts hK hP hD hS hA hm (C_Row_size l G D K H.size ga n x25.1 0 (by decide) ex29) (axI [] 1 _) (ax_C (X := [(q0, .inr (7, [.int (nI 0), .null, .int (nI 0), .int (nI 0), .int (nI 0), .int (nI 0), .int (nI 0), .int (nI 0), .int (nI 0), .int (nI 0), .int (nI 0), .int (nI 0), .int (nI 0), .int (nI 0)]))]) (Y := []) rfl rfl (by decide)) (ax_n (by decide) (by decide)) mok_yX5_size w_404 w_405 w_406 (rcv hK hP (8 + 0 + 1) (sk (go_ro (by decide))) rfl rfl) ⟨Nat.le_of_ble_eq_true rfl, Nat.le_of_ble_eq_true rfl⟩ rfl hl.1 rfl (Nat.le_of_ble_eq_true rfl) dX9_make_157 ⟨(Nat.le_of_ble_eq_true rfl), (Nat.le_of_ble_eq_true rfl)⟩) hP hD hS hA (fun u H locs (hP : va_P D cl ((q0, .inr (7, [.int (nI 0), .null, .int (nI 0), .int (nI 0), .int (nI 0), .int (nI 0), .int (nI 0), .int (nI 0), .int (nI 0), .int (nI 0), .int (nI 0), .int (nI 0), .int (nI 0), .int (nI 0)])) :: wld ga n (K 0) (K 1) x25.1) H) (hD : va_D A ((q0, .inr (7, [.int (nI 0), .null, .int (nI 0), .int (nI 0), .int (nI 0), .int (nI 0), .int (nI 0), .int (nI 0), .int (nI 0), .int (nI 0), .int (nI 0), .int (nI 0), .int (nI 0), .int (nI 0)])) :: wld ga n (K 0) (K 1) x25.1)) hS => ?_)
                      refine lv_iload_n hx hb dX9_make_160 rfl (lv_at hl 3 rfl) ?_
                      refine lv_iload_n hx hb dX9_make_161 rfl (lv_at hl 4 rfl) ?_
                      obtain ⟨hw9, h⟩ := oc_some h
                      obtain ⟨g30, h⟩ := og_some h
                      obtain ⟨g31, h⟩ := og_some h
                      rw [← nI_nat g30.1 (by omega), ← nI_nat g31.1 (by omega)]
                      refine gh_v (run_I (rest := [.ref q0]) hx hb hml hown hts hK hP hD hS hA hm (C9_init l G D K H.size q0 (.int (nI 0)) (.null) (.int (nI 0)) (.int (nI 0)) (.int (nI 0)) (.int (nI 0)) (.int (nI 0)) (.int (nI 0)) (.int (nI 0)) (.int (nI 0)) (.int (nI 0)) (.int (nI 0)) (.int (nI 0)) x29.toNat (by omega) (by omega) a3.toNat (by omega) (by omega) (iI a2)) [0] rfl rfl mok_yX7_init w_670 w_671 rfl ⟨Nat.le_of_ble_eq_true rfl, Nat.le_of_ble_eq_true rfl⟩ rfl hl.1 rfl (Nat.le_of_ble_eq_true rfl) dX9_make_162 ⟨(by first | omega | (dsimp only at *; omega) | (dsimp only [room_1] at *; omega)), (by first | omega | (dsimp only at *; omega) | (dsimp only [room_1] at *; omega))⟩) hP hD hS hA (fun u0 H locs hP hD hS => ?_)
                      replace hP := va_P.to hP (wld_new (b := a2) hw9 g30 g31 q0 (u0 0))
                      replace hD := va_D.to hD (wld_new (b := a2) hw9 g30 g31 q0 (u0 0))
                      refine w_tov (show Value.ref q0 = .ref (ga_up ga n q0 (u0 0) (25 + 2 * n)) by rw [ga_up_0]) ?_
                      rw [ga_up_lt (ga := ga) (n := n) (q0 := q0) (q1 := u0 0) (i := 0) (by omega)] at hl
                      refine x_astore hx hb dX9_make_165 hl (by decide) [0, 1, 2, 3, 4] (lv' := [(4, .int (iI x26)), (0, .ref ((ga_up ga n q0 (u0 0)) 0)), (1, .int (iI a1)), (2, .int (iI a2)), (3, .int (iI a3))]) rfl (⟨⟨Nat.ne_of_beq_eq_false rfl, Or.inr rfl⟩, ⟨⟨Nat.ne_of_beq_eq_false rfl, Or.inl (Nat.ne_of_beq_eq_false rfl)⟩, ⟨⟨Nat.ne_of_beq_eq_false rfl, Or.inl (Nat.ne_of_beq_eq_false rfl)⟩, ⟨⟨Nat.ne_of_beq_eq_false rfl, Or.inl (Nat.ne_of_beq_eq_false rfl)⟩, ⟨⟨Nat.ne_of_beq_eq_false rfl, Or.inl (Nat.ne_of_beq_eq_false rfl)⟩, trivial⟩⟩⟩⟩⟩) (fun ls hl => ?_)
                      refine lv_aload_n hx hb dX9_make_167 rfl (lv_at hl 2 rfl) ?_
                      refine r_get hx hb hts ok_RX9 hown hK hP 0 go_0 rfl 0 (by decide) w_237 (fun _ h9 => h9) rfl dX9_make_168 ?_
                      refine lv_aload hx hb dX9_make_171 (lv_at hl 0 rfl) ?_
                      obtain ⟨x32, ex32, h⟩ := ob_some h
                      refine gk_v (run_V (rest := []) hx hb hml hown hts hK hP hD hS hA hm (C_Row_add l G D K H.size (ga_up ga n q0 (u0 0)) (n + 1) (nTh x25.1 n x29 a2 a3) 0 (by decide) (some n) ex32) _ (full_C _) (full_n _ List.nodup_range) mok_yX5_add w_753 w_465 w_466 (rcv hK hP (8 + 0) (go_ro (by decide)) rfl rfl) ⟨Nat.le_of_ble_eq_true rfl, Nat.le_of_ble_eq_true rfl⟩ rfl hl.1 rfl (Nat.le_of_ble_eq_true rfl) dX9_make_173 ⟨(Nat.le_of_ble_eq_true rfl), (Nat.le_of_ble_eq_true rfl)⟩) hP hD hS hA (fun u H locs (hP : va_P D cl (wld (ga_up ga n q0 (u0 0)) (n + 1) (K 0) (K 1) x32) H) (hD : va_D A (wld (ga_up ga n q0 (u0 0)) (n + 1) (K 0) (K 1) x32)) hS => ?_)
                      refine lv_aload_n hx hb dX9_make_176 rfl (lv_at hl 2 rfl) ?_
                      refine r_get hx hb hts ok_RX9 hown hK hP 0 go_0 rfl 2 (by decide) w_239 (fun _ h9 => h9) rfl dX9_make_177 ?_
                      refine lv_aload hx hb dX9_make_180 (lv_at hl 0 rfl) ?_
                      refine lv_iload hx hb dX9_make_182 (lv_at hl 1 rfl) ?_
                      obtain ⟨x33, ex33, h⟩ := ob_some h
                      refine gk_v (run_V (rest := []) hx hb hml hown hts hK hP hD hS hA hm (C_Pl_lay l G D K H.size (ga_up ga n q0 (u0 0)) (n + 1) x32 (some n) x26 ex33) _ (full_C _) (full_n _ List.nodup_range) mok_yX3_lay w_754 w_755 w_756 (rcv hK hP 2 go_2 rfl rfl) ⟨Nat.le_of_ble_eq_true rfl, Nat.le_of_ble_eq_true rfl⟩ rfl hl.1 rfl (Nat.le_of_ble_eq_true rfl) dX9_make_184 ⟨(Nat.le_of_ble_eq_true rfl), (Nat.le_of_ble_eq_true rfl)⟩) hP hD hS hA (fun u H locs (hP : va_P D cl (wld (ga_up ga n q0 (u0 0)) (n + 1) (K 0) (K 1) x33) H) (hD : va_D A (wld (ga_up ga n q0 (u0 0)) (n + 1) (K 0) (K 1) x33)) hS => ?_)
                      refine lv_aload_n hx hb dX9_make_187 rfl (lv_at hl 2 rfl) ?_
                      refine r_get hx hb hts ok_RX9 hown hK hP 0 go_0 rfl 4 (by decide) w_241 (fun _ h9 => h9) rfl dX9_make_188 ?_
                      refine lv_aload hx hb dX9_make_191 (lv_at hl 0 rfl) ?_
                      obtain ⟨x34, ex34, h⟩ := ob_some h
                      refine gk_v (run_V (rest := []) hx hb hml hown hts hK hP hD hS hA hm (C_Mk_noteMade l G D K H.size (ga_up ga n q0 (u0 0)) (n + 1) x33 (some n) ex34) _ (full_C _) (full_n _ List.nodup_range) mok_yX1_noteMade w_762 w_763 w_764 (rcv hK hP 4 go_4 rfl rfl) ⟨Nat.le_of_ble_eq_true rfl, Nat.le_of_ble_eq_true rfl⟩ rfl hl.1 rfl (Nat.le_of_ble_eq_true rfl) dX9_make_193 ⟨(Nat.le_of_ble_eq_true rfl), (Nat.le_of_ble_eq_true rfl)⟩) hP hD hS hA (fun u H locs (hP : va_P D cl (wld (ga_up ga n q0 (u0 0)) (n + 1) (K 0) (K 1) x34) H) (hD : va_D A (wld (ga_up ga n q0 (u0 0)) (n + 1) (K 0) (K 1) x34)) hS => ?_)
                      refine lv_aload_n hx hb dX9_make_196 rfl (lv_at hl 2 rfl) ?_
                      refine r_get hx hb hts ok_RX9 hown hK hP 0 go_0 rfl 1 (by decide) w_238 (fun _ h9 => h9) rfl dX9_make_197 ?_
                      refine lv_iload_n hx hb dX9_make_200 rfl (lv_at hl 3 rfl) ?_
                      refine lv_aload hx hb dX9_make_201 (lv_at hl 0 rfl) ?_
                      obtain ⟨x35, ex35, h⟩ := ob_some h
                      refine gk_v (run_V (rest := []) hx hb hml hown hts hK hP hD hS hA hm (C_Ro_writeSlot l G D K H.size (ga_up ga n q0 (u0 0)) (n + 1) x34 a1 (some n) ex35) _ (full_C _) (full_n _ List.nodup_range) mok_yX4_writeSlot w_766 w_355 w_356 (rcv hK hP 1 go_1 rfl rfl) ⟨Nat.le_of_ble_eq_true rfl, Nat.le_of_ble_eq_true rfl⟩ rfl hl.1 rfl (Nat.le_of_ble_eq_true rfl) dX9_make_203 ⟨(Nat.le_of_ble_eq_true rfl), (Nat.le_of_ble_eq_true rfl)⟩) hP hD hS hA (fun u H locs (hP : va_P D cl (wld (ga_up ga n q0 (u0 0)) (n + 1) (K 0) (K 1) x35) H) (hD : va_D A (wld (ga_up ga n q0 (u0 0)) (n + 1) (K 0) (K 1) x35)) hS => ?_)
                      refine lv_aload hx hb dX9_make_206 (lv_at hl 0 rfl) ?_
                      refine r_get hx hb hts ok_RX7 hown hK hP (25 + 2 * n) (go_th (Nat.lt_succ_self n)) rfl 0 (by decide) w_676 (fun _ h9 => h9) rfl dX9_make_208 ?_
                      obtain rfl := Option.some.inj h
                      exact e_m hx hb hr hlk hP hD hS (Nat.le_of_ble_eq_true rfl) (Nat.le_of_ble_eq_true rfl) rfl (by first | rfl | exact (ga_up_lt (by omega)).symm) dX9_make_211
                  · replace h := it_F h c24
                    refine i_icmp_ne_T hx hb g23 ⟨by decide, by decide⟩ (tgt := 141) dX9_make_122 (by decide) c24 ?_
                    refine lv_iload hx hb dX9_make_141 (lv_at hl 0 rfl) ?_
                    refine lv_iconst (v := iI (-1)) hx hb dX9_make_143 rfl ?_
                    refine i_icmp_ne_T hx hb g23 ⟨by decide, by decide⟩ (tgt := 149) dX9_make_144 (by decide) c24 ?_
                    refine r_new (ci := 7) (C := RX7) (T := TX7) (N := 14) hx hb hts ok_RX7 hown w_668 w_669 w_17 hK hP hD hS hA rfl df_RX7 (by first | omega | (dsimp only at *; omega) | (dsimp only [room_1] at *; omega)) (by first | omega | (dsimp only at *; omega) | (dsimp only [room_1] at *; omega)) dX9_make_149 (w2 := fun q0 => wld ga n (K 0) (K 1) x21.1 ++ [(q0, .inr (7, [.int (nI 0), .null, .int (nI 0), .int (nI 0), .int (nI 0), .int (nI 0), .int (nI 0), .int (nI 0), .int (nI 0), .int (nI 0), .int (nI 0), .int (nI 0), .int (nI 0), .int (nI 0)]))]) (fun _ => rfl) (fun q0 H hP hD hS => ?_)
                    replace hP := rot_P hP
                    replace hD := rot_D hD
                    refine lv_dup hx hb dX9_make_152 rfl ?_
                    refine lv_aload_n hx hb dX9_make_153 rfl (lv_at hl 1 rfl) ?_
                    refine r_get hx hb hts ok_RX9 hown hK hP 1 (sk go_0) rfl 0 (by decide) w_237 (fun _ h9 => h9) rfl dX9_make_154 ?_
                    obtain ⟨x36, ex36, h⟩ := ob_some h
                    refine gx_i [(q0, .inr (7, [.int (nI 0), .null, .int (nI 0), .int (nI 0), .int (nI 0), .int (nI 0), .int (nI 0), .int (nI 0), .int (nI 0), .int (nI 0), .int (nI 0), .int (nI 0), .int (nI 0), .int (nI 0)]))] [] [(q0, .inr (7, [.int (nI 0), .null, .int (nI 0), .int (nI 0), .int (nI 0), .int (nI 0), .int (nI 0), .int (nI 0), .int (nI 0), .int (nI 0), .int (nI 0), .int (nI 0), .int (nI 0), .int (nI 0)]))] [] [0] 1 rfl rfl rfl (by decide) (by decide) (by decide) (by decide) (run_V (rest := [.ref q0, .ref q0]) hx hb hml hown hts hK hP hD hS hA hm (C_Row_size l G D K H.size ga n x21.1 0 (by decide) ex36) (axI [] 1 _) (ax_C (X := [(q0, .inr (7, [.int (nI 0), .null, .int (nI 0), .int (nI 0), .int (nI 0), .int (nI 0), .int (nI 0), .int (nI 0), .int (nI 0), .int (nI 0), .int (nI 0), .int (nI 0), .int (nI 0), .int (nI 0)]))]) (Y := []) rfl rfl (by decide)) (ax_n (by decide) (by decide)) mok_yX5_size w_404 w_405 w_406 (rcv hK hP (8 + 0 + 1) (sk (go_ro (by decide))) rfl rfl) ⟨Nat.le_of_ble_eq_true rfl, Nat.le_of_ble_eq_true rfl⟩ rfl hl.1 rfl (Nat.le_of_ble_eq_true rfl) dX9_make_157 ⟨(Nat.le_of_ble_eq_true rfl), (Nat.le_of_ble_eq_true rfl)⟩) hP hD hS hA (fun u H locs (hP : va_P D cl ((q0, .inr (7, [.int (nI 0), .null, .int (nI 0), .int (nI 0), .int (nI 0), .int (nI 0), .int (nI 0), .int (nI 0), .int (nI 0), .int (nI 0), .int (nI 0), .int (nI 0), .int (nI 0), .int (nI 0)])) :: wld ga n (K 0) (K 1) x21.1) H) (hD : va_D A ((q0, .inr (7, [.int (nI 0), .null, .int (nI 0), .int (nI 0), .int (nI 0), .int (nI 0), .int (nI 0), .int (nI 0), .int (nI 0), .int (nI 0), .int (nI 0), .int (nI 0), .int (nI 0), .int (nI 0)])) :: wld ga n (K 0) (K 1) x21.1)) hS => ?_)
                    refine lv_iload_n hx hb dX9_make_160 rfl (lv_at hl 3 rfl) ?_
                    refine lv_iload_n hx hb dX9_make_161 rfl (lv_at hl 4 rfl) ?_
                    obtain ⟨hw9, h⟩ := oc_some h
                    obtain ⟨g37, h⟩ := og_some h
                    obtain ⟨g38, h⟩ := og_some h
                    rw [← nI_nat g37.1 (by omega), ← nI_nat g38.1 (by omega)]
                    refine gh_v (run_I (rest := [.ref q0]) hx hb hml hown hts hK hP hD hS hA hm (C9_init l G D K H.size q0 (.int (nI 0)) (.null) (.int (nI 0)) (.int (nI 0)) (.int (nI 0)) (.int (nI 0)) (.int (nI 0)) (.int (nI 0)) (.int (nI 0)) (.int (nI 0)) (.int (nI 0)) (.int (nI 0)) (.int (nI 0)) x36.toNat (by omega) (by omega) a3.toNat (by omega) (by omega) (iI a2)) [0] rfl rfl mok_yX7_init w_670 w_671 rfl ⟨Nat.le_of_ble_eq_true rfl, Nat.le_of_ble_eq_true rfl⟩ rfl hl.1 rfl (Nat.le_of_ble_eq_true rfl) dX9_make_162 ⟨(by first | omega | (dsimp only at *; omega) | (dsimp only [room_1] at *; omega)), (by first | omega | (dsimp only at *; omega) | (dsimp only [room_1] at *; omega))⟩) hP hD hS hA (fun u0 H locs hP hD hS => ?_)
                    replace hP := va_P.to hP (wld_new (b := a2) hw9 g37 g38 q0 (u0 0))
                    replace hD := va_D.to hD (wld_new (b := a2) hw9 g37 g38 q0 (u0 0))
                    refine w_tov (show Value.ref q0 = .ref (ga_up ga n q0 (u0 0) (25 + 2 * n)) by rw [ga_up_0]) ?_
                    rw [ga_up_lt (ga := ga) (n := n) (q0 := q0) (q1 := u0 0) (i := 0) (by omega)] at hl
                    refine x_astore hx hb dX9_make_165 hl (by decide) [0, 1, 2, 3, 4] (lv' := [(4, .int (iI x22)), (0, .ref ((ga_up ga n q0 (u0 0)) 0)), (1, .int (iI a1)), (2, .int (iI a2)), (3, .int (iI a3))]) rfl (⟨⟨Nat.ne_of_beq_eq_false rfl, Or.inr rfl⟩, ⟨⟨Nat.ne_of_beq_eq_false rfl, Or.inl (Nat.ne_of_beq_eq_false rfl)⟩, ⟨⟨Nat.ne_of_beq_eq_false rfl, Or.inl (Nat.ne_of_beq_eq_false rfl)⟩, ⟨⟨Nat.ne_of_beq_eq_false rfl, Or.inl (Nat.ne_of_beq_eq_false rfl)⟩, ⟨⟨Nat.ne_of_beq_eq_false rfl, Or.inl (Nat.ne_of_beq_eq_false rfl)⟩, trivial⟩⟩⟩⟩⟩) (fun ls hl => ?_)
                    refine lv_aload_n hx hb dX9_make_167 rfl (lv_at hl 2 rfl) ?_
                    refine r_get hx hb hts ok_RX9 hown hK hP 0 go_0 rfl 0 (by decide) w_237 (fun _ h9 => h9) rfl dX9_make_168 ?_
                    refine lv_aload hx hb dX9_make_171 (lv_at hl 0 rfl) ?_
                    obtain ⟨x39, ex39, h⟩ := ob_some h
                    refine gk_v (run_V (rest := []) hx hb hml hown hts hK hP hD hS hA hm (C_Row_add l G D K H.size (ga_up ga n q0 (u0 0)) (n + 1) (nTh x21.1 n x36 a2 a3) 0 (by decide) (some n) ex39) _ (full_C _) (full_n _ List.nodup_range) mok_yX5_add w_753 w_465 w_466 (rcv hK hP (8 + 0) (go_ro (by decide)) rfl rfl) ⟨Nat.le_of_ble_eq_true rfl, Nat.le_of_ble_eq_true rfl⟩ rfl hl.1 rfl (Nat.le_of_ble_eq_true rfl) dX9_make_173 ⟨(Nat.le_of_ble_eq_true rfl), (Nat.le_of_ble_eq_true rfl)⟩) hP hD hS hA (fun u H locs (hP : va_P D cl (wld (ga_up ga n q0 (u0 0)) (n + 1) (K 0) (K 1) x39) H) (hD : va_D A (wld (ga_up ga n q0 (u0 0)) (n + 1) (K 0) (K 1) x39)) hS => ?_)
                    refine lv_aload_n hx hb dX9_make_176 rfl (lv_at hl 2 rfl) ?_
                    refine r_get hx hb hts ok_RX9 hown hK hP 0 go_0 rfl 2 (by decide) w_239 (fun _ h9 => h9) rfl dX9_make_177 ?_
                    refine lv_aload hx hb dX9_make_180 (lv_at hl 0 rfl) ?_
                    refine lv_iload hx hb dX9_make_182 (lv_at hl 1 rfl) ?_
                    obtain ⟨x40, ex40, h⟩ := ob_some h
                    refine gk_v (run_V (rest := []) hx hb hml hown hts hK hP hD hS hA hm (C_Pl_lay l G D K H.size (ga_up ga n q0 (u0 0)) (n + 1) x39 (some n) x22 ex40) _ (full_C _) (full_n _ List.nodup_range) mok_yX3_lay w_754 w_755 w_756 (rcv hK hP 2 go_2 rfl rfl) ⟨Nat.le_of_ble_eq_true rfl, Nat.le_of_ble_eq_true rfl⟩ rfl hl.1 rfl (Nat.le_of_ble_eq_true rfl) dX9_make_184 ⟨(Nat.le_of_ble_eq_true rfl), (Nat.le_of_ble_eq_true rfl)⟩) hP hD hS hA (fun u H locs (hP : va_P D cl (wld (ga_up ga n q0 (u0 0)) (n + 1) (K 0) (K 1) x40) H) (hD : va_D A (wld (ga_up ga n q0 (u0 0)) (n + 1) (K 0) (K 1) x40)) hS => ?_)
                    refine lv_aload_n hx hb dX9_make_187 rfl (lv_at hl 2 rfl) ?_
                    refine r_get hx hb hts ok_RX9 hown hK hP 0 go_0 rfl 4 (by decide) w_241 (fun _ h9 => h9) rfl dX9_make_188 ?_
                    refine lv_aload hx hb dX9_make_191 (lv_at hl 0 rfl) ?_
                    obtain ⟨x41, ex41, h⟩ := ob_some h
                    refine gk_v (run_V (rest := []) hx hb hml hown hts hK hP hD hS hA hm (C_Mk_noteMade l G D K H.size (ga_up ga n q0 (u0 0)) (n + 1) x40 (some n) ex41) _ (full_C _) (full_n _ List.nodup_range) mok_yX1_noteMade w_762 w_763 w_764 (rcv hK hP 4 go_4 rfl rfl) ⟨Nat.le_of_ble_eq_true rfl, Nat.le_of_ble_eq_true rfl⟩ rfl hl.1 rfl (Nat.le_of_ble_eq_true rfl) dX9_make_193 ⟨(Nat.le_of_ble_eq_true rfl), (Nat.le_of_ble_eq_true rfl)⟩) hP hD hS hA (fun u H locs (hP : va_P D cl (wld (ga_up ga n q0 (u0 0)) (n + 1) (K 0) (K 1) x41) H) (hD : va_D A (wld (ga_up ga n q0 (u0 0)) (n + 1) (K 0) (K 1) x41)) hS => ?_)
                    refine lv_aload_n hx hb dX9_make_196 rfl (lv_at hl 2 rfl) ?_
                    refine r_get hx hb hts ok_RX9 hown hK hP 0 go_0 rfl 1 (by decide) w_238 (fun _ h9 => h9) rfl dX9_make_197 ?_
                    refine lv_iload_n hx hb dX9_make_200 rfl (lv_at hl 3 rfl) ?_
                    refine lv_aload hx hb dX9_make_201 (lv_at hl 0 rfl) ?_
                    obtain ⟨x42, ex42, h⟩ := ob_some h
                    refine gk_v (run_V (rest := []) hx hb hml hown hts hK hP hD hS hA hm (C_Ro_writeSlot l G D K H.size (ga_up ga n q0 (u0 0)) (n + 1) x41 a1 (some n) ex42) _ (full_C _) (full_n _ List.nodup_range) mok_yX4_writeSlot w_766 w_355 w_356 (rcv hK hP 1 go_1 rfl rfl) ⟨Nat.le_of_ble_eq_true rfl, Nat.le_of_ble_eq_true rfl⟩ rfl hl.1 rfl (Nat.le_of_ble_eq_true rfl) dX9_make_203 ⟨(Nat.le_of_ble_eq_true rfl), (Nat.le_of_ble_eq_true rfl)⟩) hP hD hS hA (fun u H locs (hP : va_P D cl (wld (ga_up ga n q0 (u0 0)) (n + 1) (K 0) (K 1) x42) H) (hD : va_D A (wld (ga_up ga n q0 (u0 0)) (n + 1) (K 0) (K 1) x42)) hS => ?_)
                    refine lv_aload hx hb dX9_make_206 (lv_at hl 0 rfl) ?_
                    refine r_get hx hb hts ok_RX7 hown hK hP (25 + 2 * n) (go_th (Nat.lt_succ_self n)) rfl 0 (by decide) w_676 (fun _ h9 => h9) rfl dX9_make_208 ?_
                    obtain rfl := Option.some.inj h
                    exact e_m hx hb hr hlk hP hD hS (Nat.le_of_ble_eq_true rfl) (Nat.le_of_ble_eq_true rfl) rfl (by first | rfl | exact (ga_up_lt (by omega)).symm) dX9_make_211
                · replace h := it_F h c20
                  refine i_icmp_ne_T hx hb g19 ⟨by decide, by decide⟩ (tgt := 119) dX9_make_100 (by decide) c20 ?_
                  refine lv_iload hx hb dX9_make_119 (lv_at hl 0 rfl) ?_
                  refine lv_iconst (v := iI (-1)) hx hb dX9_make_121 rfl ?_
                  refine i_icmp_ne_T hx hb g19 ⟨by decide, by decide⟩ (tgt := 141) dX9_make_122 (by decide) c20 ?_
                  refine lv_iload hx hb dX9_make_141 (lv_at hl 0 rfl) ?_
                  refine lv_iconst (v := iI (-1)) hx hb dX9_make_143 rfl ?_
                  refine i_icmp_ne_T hx hb g19 ⟨by decide, by decide⟩ (tgt := 149) dX9_make_144 (by decide) c20 ?_
                  refine r_new (ci := 7) (C := RX7) (T := TX7) (N := 14) hx hb hts ok_RX7 hown w_668 w_669 w_17 hK hP hD hS hA rfl df_RX7 (by first | omega | (dsimp only at *; omega) | (dsimp only [room_1] at *; omega)) (by first | omega | (dsimp only at *; omega) | (dsimp only [room_1] at *; omega)) dX9_make_149 (w2 := fun q0 => wld ga n (K 0) (K 1) x17.1 ++ [(q0, .inr (7, [.int (nI 0), .null, .int (nI 0), .int (nI 0), .int (nI 0), .int (nI 0), .int (nI 0), .int (nI 0), .int (nI 0), .int (nI 0), .int (nI 0), .int (nI 0), .int (nI 0), .int (nI 0)]))]) (fun _ => rfl) (fun q0 H hP hD hS => ?_)
                  replace hP := rot_P hP
                  replace hD := rot_D hD
                  refine lv_dup hx hb dX9_make_152 rfl ?_
                  refine lv_aload_n hx hb dX9_make_153 rfl (lv_at hl 1 rfl) ?_
                  refine r_get hx hb hts ok_RX9 hown hK hP 1 (sk go_0) rfl 0 (by decide) w_237 (fun _ h9 => h9) rfl dX9_make_154 ?_
                  obtain ⟨x43, ex43, h⟩ := ob_some h
                  refine gx_i [(q0, .inr (7, [.int (nI 0), .null, .int (nI 0), .int (nI 0), .int (nI 0), .int (nI 0), .int (nI 0), .int (nI 0), .int (nI 0), .int (nI 0), .int (nI 0), .int (nI 0), .int (nI 0), .int (nI 0)]))] [] [(q0, .inr (7, [.int (nI 0), .null, .int (nI 0), .int (nI 0), .int (nI 0), .int (nI 0), .int (nI 0), .int (nI 0), .int (nI 0), .int (nI 0), .int (nI 0), .int (nI 0), .int (nI 0), .int (nI 0)]))] [] [0] 1 rfl rfl rfl (by decide) (by decide) (by decide) (by decide) (run_V (rest := [.ref q0, .ref q0]) hx hb hml hown hts hK hP hD hS hA hm (C_Row_size l G D K H.size ga n x17.1 0 (by decide) ex43) (axI [] 1 _) (ax_C (X := [(q0, .inr (7, [.int (nI 0), .null, .int (nI 0), .int (nI 0), .int (nI 0), .int (nI 0), .int (nI 0), .int (nI 0), .int (nI 0), .int (nI 0), .int (nI 0), .int (nI 0), .int (nI 0), .int (nI 0)]))]) (Y := []) rfl rfl (by decide)) (ax_n (by decide) (by decide)) mok_yX5_size w_404 w_405 w_406 (rcv hK hP (8 + 0 + 1) (sk (go_ro (by decide))) rfl rfl) ⟨Nat.le_of_ble_eq_true rfl, Nat.le_of_ble_eq_true rfl⟩ rfl hl.1 rfl (Nat.le_of_ble_eq_true rfl) dX9_make_157 ⟨(Nat.le_of_ble_eq_true rfl), (Nat.le_of_ble_eq_true rfl)⟩) hP hD hS hA (fun u H locs (hP : va_P D cl ((q0, .inr (7, [.int (nI 0), .null, .int (nI 0), .int (nI 0), .int (nI 0), .int (nI 0), .int (nI 0), .int (nI 0), .int (nI 0), .int (nI 0), .int (nI 0), .int (nI 0), .int (nI 0), .int (nI 0)])) :: wld ga n (K 0) (K 1) x17.1) H) (hD : va_D A ((q0, .inr (7, [.int (nI 0), .null, .int (nI 0), .int (nI 0), .int (nI 0), .int (nI 0), .int (nI 0), .int (nI 0), .int (nI 0), .int (nI 0), .int (nI 0), .int (nI 0), .int (nI 0), .int (nI 0)])) :: wld ga n (K 0) (K 1) x17.1)) hS => ?_)
                  refine lv_iload_n hx hb dX9_make_160 rfl (lv_at hl 3 rfl) ?_
                  refine lv_iload_n hx hb dX9_make_161 rfl (lv_at hl 4 rfl) ?_
                  obtain ⟨hw9, h⟩ := oc_some h
                  obtain ⟨g44, h⟩ := og_some h
                  obtain ⟨g45, h⟩ := og_some h
                  rw [← nI_nat g44.1 (by omega), ← nI_nat g45.1 (by omega)]
                  refine gh_v (run_I (rest := [.ref q0]) hx hb hml hown hts hK hP hD hS hA hm (C9_init l G D K H.size q0 (.int (nI 0)) (.null) (.int (nI 0)) (.int (nI 0)) (.int (nI 0)) (.int (nI 0)) (.int (nI 0)) (.int (nI 0)) (.int (nI 0)) (.int (nI 0)) (.int (nI 0)) (.int (nI 0)) (.int (nI 0)) x43.toNat (by omega) (by omega) a3.toNat (by omega) (by omega) (iI a2)) [0] rfl rfl mok_yX7_init w_670 w_671 rfl ⟨Nat.le_of_ble_eq_true rfl, Nat.le_of_ble_eq_true rfl⟩ rfl hl.1 rfl (Nat.le_of_ble_eq_true rfl) dX9_make_162 ⟨(by first | omega | (dsimp only at *; omega) | (dsimp only [room_1] at *; omega)), (by first | omega | (dsimp only at *; omega) | (dsimp only [room_1] at *; omega))⟩) hP hD hS hA (fun u0 H locs hP hD hS => ?_)
                  replace hP := va_P.to hP (wld_new (b := a2) hw9 g44 g45 q0 (u0 0))
                  replace hD := va_D.to hD (wld_new (b := a2) hw9 g44 g45 q0 (u0 0))
                  refine w_tov (show Value.ref q0 = .ref (ga_up ga n q0 (u0 0) (25 + 2 * n)) by rw [ga_up_0]) ?_
                  rw [ga_up_lt (ga := ga) (n := n) (q0 := q0) (q1 := u0 0) (i := 0) (by omega)] at hl
                  refine x_astore hx hb dX9_make_165 hl (by decide) [0, 1, 2, 3, 4] (lv' := [(4, .int (iI x18)), (0, .ref ((ga_up ga n q0 (u0 0)) 0)), (1, .int (iI a1)), (2, .int (iI a2)), (3, .int (iI a3))]) rfl (⟨⟨Nat.ne_of_beq_eq_false rfl, Or.inr rfl⟩, ⟨⟨Nat.ne_of_beq_eq_false rfl, Or.inl (Nat.ne_of_beq_eq_false rfl)⟩, ⟨⟨Nat.ne_of_beq_eq_false rfl, Or.inl (Nat.ne_of_beq_eq_false rfl)⟩, ⟨⟨Nat.ne_of_beq_eq_false rfl, Or.inl (Nat.ne_of_beq_eq_false rfl)⟩, ⟨⟨Nat.ne_of_beq_eq_false rfl, Or.inl (Nat.ne_of_beq_eq_false rfl)⟩, trivial⟩⟩⟩⟩⟩) (fun ls hl => ?_)
                  refine lv_aload_n hx hb dX9_make_167 rfl (lv_at hl 2 rfl) ?_
                  refine r_get hx hb hts ok_RX9 hown hK hP 0 go_0 rfl 0 (by decide) w_237 (fun _ h9 => h9) rfl dX9_make_168 ?_
                  refine lv_aload hx hb dX9_make_171 (lv_at hl 0 rfl) ?_
                  obtain ⟨x46, ex46, h⟩ := ob_some h
                  refine gk_v (run_V (rest := []) hx hb hml hown hts hK hP hD hS hA hm (C_Row_add l G D K H.size (ga_up ga n q0 (u0 0)) (n + 1) (nTh x17.1 n x43 a2 a3) 0 (by decide) (some n) ex46) _ (full_C _) (full_n _ List.nodup_range) mok_yX5_add w_753 w_465 w_466 (rcv hK hP (8 + 0) (go_ro (by decide)) rfl rfl) ⟨Nat.le_of_ble_eq_true rfl, Nat.le_of_ble_eq_true rfl⟩ rfl hl.1 rfl (Nat.le_of_ble_eq_true rfl) dX9_make_173 ⟨(Nat.le_of_ble_eq_true rfl), (Nat.le_of_ble_eq_true rfl)⟩) hP hD hS hA (fun u H locs (hP : va_P D cl (wld (ga_up ga n q0 (u0 0)) (n + 1) (K 0) (K 1) x46) H) (hD : va_D A (wld (ga_up ga n q0 (u0 0)) (n + 1) (K 0) (K 1) x46)) hS => ?_)
                  refine lv_aload_n hx hb dX9_make_176 rfl (lv_at hl 2 rfl) ?_
                  refine r_get hx hb hts ok_RX9 hown hK hP 0 go_0 rfl 2 (by decide) w_239 (fun _ h9 => h9) rfl dX9_make_177 ?_
                  refine lv_aload hx hb dX9_make_180 (lv_at hl 0 rfl) ?_
                  refine lv_iload hx hb dX9_make_182 (lv_at hl 1 rfl) ?_
                  obtain ⟨x47, ex47, h⟩ := ob_some h
                  refine gk_v (run_V (rest := []) hx hb hml hown hts hK hP hD hS hA hm (C_Pl_lay l G D K H.size (ga_up ga n q0 (u0 0)) (n + 1) x46 (some n) x18 ex47) _ (full_C _) (full_n _ List.nodup_range) mok_yX3_lay w_754 w_755 w_756 (rcv hK hP 2 go_2 rfl rfl) ⟨Nat.le_of_ble_eq_true rfl, Nat.le_of_ble_eq_true rfl⟩ rfl hl.1 rfl (Nat.le_of_ble_eq_true rfl) dX9_make_184 ⟨(Nat.le_of_ble_eq_true rfl), (Nat.le_of_ble_eq_true rfl)⟩) hP hD hS hA (fun u H locs (hP : va_P D cl (wld (ga_up ga n q0 (u0 0)) (n + 1) (K 0) (K 1) x47) H) (hD : va_D A (wld (ga_up ga n q0 (u0 0)) (n + 1) (K 0) (K 1) x47)) hS => ?_)
                  refine lv_aload_n hx hb dX9_make_187 rfl (lv_at hl 2 rfl) ?_
                  refine r_get hx hb hts ok_RX9 hown hK hP 0 go_0 rfl 4 (by decide) w_241 (fun _ h9 => h9) rfl dX9_make_188 ?_
                  refine lv_aload hx hb dX9_make_191 (lv_at hl 0 rfl) ?_
                  obtain ⟨x48, ex48, h⟩ := ob_some h
                  refine gk_v (run_V (rest := []) hx hb hml hown hts hK hP hD hS hA hm (C_Mk_noteMade l G D K H.size (ga_up ga n q0 (u0 0)) (n + 1) x47 (some n) ex48) _ (full_C _) (full_n _ List.nodup_range) mok_yX1_noteMade w_762 w_763 w_764 (rcv hK hP 4 go_4 rfl rfl) ⟨Nat.le_of_ble_eq_true rfl, Nat.le_of_ble_eq_true rfl⟩ rfl hl.1 rfl (Nat.le_of_ble_eq_true rfl) dX9_make_193 ⟨(Nat.le_of_ble_eq_true rfl), (Nat.le_of_ble_eq_true rfl)⟩) hP hD hS hA (fun u H locs (hP : va_P D cl (wld (ga_up ga n q0 (u0 0)) (n + 1) (K 0) (K 1) x48) H) (hD : va_D A (wld (ga_up ga n q0 (u0 0)) (n + 1) (K 0) (K 1) x48)) hS => ?_)
                  refine lv_aload_n hx hb dX9_make_196 rfl (lv_at hl 2 rfl) ?_
                  refine r_get hx hb hts ok_RX9 hown hK hP 0 go_0 rfl 1 (by decide) w_238 (fun _ h9 => h9) rfl dX9_make_197 ?_
                  refine lv_iload_n hx hb dX9_make_200 rfl (lv_at hl 3 rfl) ?_
                  refine lv_aload hx hb dX9_make_201 (lv_at hl 0 rfl) ?_
                  obtain ⟨x49, ex49, h⟩ := ob_some h
                  refine gk_v (run_V (rest := []) hx hb hml hown hts hK hP hD hS hA hm (C_Ro_writeSlot l G D K H.size (ga_up ga n q0 (u0 0)) (n + 1) x48 a1 (some n) ex49) _ (full_C _) (full_n _ List.nodup_range) mok_yX4_writeSlot w_766 w_355 w_356 (rcv hK hP 1 go_1 rfl rfl) ⟨Nat.le_of_ble_eq_true rfl, Nat.le_of_ble_eq_true rfl⟩ rfl hl.1 rfl (Nat.le_of_ble_eq_true rfl) dX9_make_203 ⟨(Nat.le_of_ble_eq_true rfl), (Nat.le_of_ble_eq_true rfl)⟩) hP hD hS hA (fun u H locs (hP : va_P D cl (wld (ga_up ga n q0 (u0 0)) (n + 1) (K 0) (K 1) x49) H) (hD : va_D A (wld (ga_up ga n q0 (u0 0)) (n + 1) (K 0) (K 1) x49)) hS => ?_)
                  refine lv_aload hx hb dX9_make_206 (lv_at hl 0 rfl) ?_
                  refine r_get hx hb hts ok_RX7 hown hK hP (25 + 2 * n) (go_th (Nat.lt_succ_self n)) rfl 0 (by decide) w_676 (fun _ h9 => h9) rfl dX9_make_208 ?_
                  obtain rfl := Option.some.inj h
                  exact e_m hx hb hr hlk hP hD hS (Nat.le_of_ble_eq_true rfl) (Nat.le_of_ble_eq_true rfl) rfl (by first | rfl | exact (ga_up_lt (by omega)).symm) dX9_make_211
              · replace h := it_F h c16
                refine i_icmp_ge_T hx hb g6 ⟨by decide, by decide⟩ (tgt := 97) dX9_make_79 (by decide) c16 ?_
                refine lv_iload hx hb dX9_make_97 (lv_at hl 0 rfl) ?_
                refine lv_iconst (v := iI (-1)) hx hb dX9_make_99 rfl ?_
                refine i_icmp_ne_F hx hb g14 ⟨by decide, by decide⟩ (tgt := 119) dX9_make_100 (by decide) c15 ?_
                refine lv_aload_n hx hb dX9_make_103 rfl (lv_at hl 1 rfl) ?_
                refine lv_iconst (v := iI 1) hx hb dX9_make_104 rfl ?_
                obtain ⟨x50, ex50, h⟩ := ob_some h
                refine gk_i (run_V (rest := []) hx hb hml hown hts hK hP hD hS hA hm (C_X_full l G D K H.size ga n M 1 ex50) _ (full_C _) (full_n _ List.nodup_range) mok_yX9_full w_664 w_665 w_666 (rcv hK hP 0 go_0 rfl rfl) ⟨Nat.le_of_ble_eq_true rfl, Nat.le_of_ble_eq_true rfl⟩ rfl hl.1 rfl (Nat.le_of_ble_eq_true rfl) dX9_make_105 ⟨(Nat.le_of_ble_eq_true rfl), (Nat.le_of_ble_eq_true rfl)⟩) hP hD hS hA (fun u H locs (hP : va_P D cl (wld ga n (K 0) (K 1) x50.1) H) (hD : va_D A (wld ga n (K 0) (K 1) x50.1)) hS => ?_)
                refine lv_pop hx hb dX9_make_108 rfl ?_
                refine lv_aload_n hx hb dX9_make_109 rfl (lv_at hl 1 rfl) ?_
                refine r_get hx hb hts ok_RX9 hown hK hP 0 go_0 rfl 2 (by decide) w_239 (fun _ h9 => h9) rfl dX9_make_110 ?_
                refine lv_iload_n hx hb dX9_make_113 rfl (lv_at hl 4 rfl) ?_
                obtain ⟨x51, ex51, h⟩ := ob_some h
                refine gk_i (run_V (rest := []) hx hb hml hown hts hK hP hD hS hA hm (C_Pl_gapFor l G D K H.size ga n x50.1 a3 ex51) _ (full_C _) (full_n _ List.nodup_range) mok_yX3_gapFor w_409 w_410 w_411 (rcv hK hP 2 go_2 rfl rfl) ⟨Nat.le_of_ble_eq_true rfl, Nat.le_of_ble_eq_true rfl⟩ rfl hl.1 rfl (Nat.le_of_ble_eq_true rfl) dX9_make_114 ⟨(Nat.le_of_ble_eq_true rfl), (Nat.le_of_ble_eq_true rfl)⟩) hP hD hS hA (fun u H locs (hP : va_P D cl (wld ga n (K 0) (K 1) x50.1) H) (hD : va_D A (wld ga n (K 0) (K 1) x50.1)) hS => ?_)
                refine x_istore hx hb dX9_make_117 hl (by decide) [1, 2, 3, 4] (lv' := [(0, .ref (ga 0)), (1, .int (iI a1)), (2, .int (iI a2)), (3, .int (iI a3))]) rfl (⟨⟨Nat.ne_of_beq_eq_false rfl, Or.inl (Nat.ne_of_beq_eq_false rfl)⟩, ⟨⟨Nat.ne_of_beq_eq_false rfl, Or.inl (Nat.ne_of_beq_eq_false rfl)⟩, ⟨⟨Nat.ne_of_beq_eq_false rfl, Or.inl (Nat.ne_of_beq_eq_false rfl)⟩, ⟨⟨Nat.ne_of_beq_eq_false rfl, Or.inr rfl⟩, trivial⟩⟩⟩⟩) (fun ls hl => ?_)
                refine lv_iload hx hb dX9_make_119 (lv_at hl 0 rfl) ?_
                refine lv_iconst (v := iI (-1)) hx hb dX9_make_121 rfl ?_
                obtain ⟨g52, h⟩ := og_some h
                by_cases c53 : x51 = (-1)
                · replace h := it_T h c53
                  refine i_icmp_ne_F hx hb g52 ⟨by decide, by decide⟩ (tgt := 141) dX9_make_122 (by decide) c53 ?_
                  refine lv_aload_n hx hb dX9_make_125 rfl (lv_at hl 1 rfl) ?_
                  refine lv_iconst (v := iI 0) hx hb dX9_make_126 rfl ?_
                  obtain ⟨x54, ex54, h⟩ := ob_some h
                  refine gk_i (run_V (rest := []) hx hb hml hown hts hK hP hD hS hA hm (C_X_full l G D K H.size ga n x50.1 0 ex54) _ (full_C _) (full_n _ List.nodup_range) mok_yX9_full w_664 w_665 w_666 (rcv hK hP 0 go_0 rfl rfl) ⟨Nat.le_of_ble_eq_true rfl, Nat.le_of_ble_eq_true rfl⟩ rfl hl.1 rfl (Nat.le_of_ble_eq_true rfl) dX9_make_127 ⟨(Nat.le_of_ble_eq_true rfl), (Nat.le_of_ble_eq_true rfl)⟩) hP hD hS hA (fun u H locs (hP : va_P D cl (wld ga n (K 0) (K 1) x54.1) H) (hD : va_D A (wld ga n (K 0) (K 1) x54.1)) hS => ?_)
                  refine lv_pop hx hb dX9_make_130 rfl ?_
                  refine lv_aload_n hx hb dX9_make_131 rfl (lv_at hl 1 rfl) ?_
                  refine r_get hx hb hts ok_RX9 hown hK hP 0 go_0 rfl 2 (by decide) w_239 (fun _ h9 => h9) rfl dX9_make_132 ?_
                  refine lv_iload_n hx hb dX9_make_135 rfl (lv_at hl 4 rfl) ?_
                  obtain ⟨x55, ex55, h⟩ := ob_some h
                  refine gk_i (run_V (rest := []) hx hb hml hown hts hK hP hD hS hA hm (C_Pl_gapFor l G D K H.size ga n x54.1 a3 ex55) _ (full_C _) (full_n _ List.nodup_range) mok_yX3_gapFor w_409 w_410 w_411 (rcv hK hP 2 go_2 rfl rfl) ⟨Nat.le_of_ble_eq_true rfl, Nat.le_of_ble_eq_true rfl⟩ rfl hl.1 rfl (Nat.le_of_ble_eq_true rfl) dX9_make_136 ⟨(Nat.le_of_ble_eq_true rfl), (Nat.le_of_ble_eq_true rfl)⟩) hP hD hS hA (fun u H locs (hP : va_P D cl (wld ga n (K 0) (K 1) x54.1) H) (hD : va_D A (wld ga n (K 0) (K 1) x54.1)) hS => ?_)
                  refine x_istore hx hb dX9_make_139 hl (by decide) [1, 2, 3, 4] (lv' := [(0, .ref (ga 0)), (1, .int (iI a1)), (2, .int (iI a2)), (3, .int (iI a3))]) rfl (⟨⟨Nat.ne_of_beq_eq_false rfl, Or.inl (Nat.ne_of_beq_eq_false rfl)⟩, ⟨⟨Nat.ne_of_beq_eq_false rfl, Or.inl (Nat.ne_of_beq_eq_false rfl)⟩, ⟨⟨Nat.ne_of_beq_eq_false rfl, Or.inl (Nat.ne_of_beq_eq_false rfl)⟩, ⟨⟨Nat.ne_of_beq_eq_false rfl, Or.inr rfl⟩, trivial⟩⟩⟩⟩) (fun ls hl => ?_)
                  refine lv_iload hx hb dX9_make_141 (lv_at hl 0 rfl) ?_
                  refine lv_iconst (v := iI (-1)) hx hb dX9_make_143 rfl ?_
                  obtain ⟨g56, h⟩ := og_some h
                  by_cases c57 : x55 = (-1)
                  · replace h := it_T h c57
                    refine i_icmp_ne_F hx hb g56 ⟨by decide, by decide⟩ (tgt := 149) dX9_make_144 (by decide) c57 ?_
                    refine lv_iconst (v := iI (-1)) hx hb dX9_make_147 rfl ?_
                    obtain rfl := Option.some.inj h
                    exact e_m hx hb hr hlk hP hD hS (Nat.le_of_ble_eq_true rfl) (Nat.le_of_ble_eq_true rfl) rfl (by first | rfl | exact (ga_up_lt (by omega)).symm) dX9_make_148
                  · replace h := it_F h c57
                    refine i_icmp_ne_T hx hb g56 ⟨by decide, by decide⟩ (tgt := 149) dX9_make_144 (by decide) c57 ?_
                    refine r_new (ci := 7) (C := RX7) (T := TX7) (N := 14) hx hb hts ok_RX7 hown w_668 w_669 w_17 hK hP hD hS hA rfl df_RX7 (by first | omega | (dsimp only at *; omega) | (dsimp only [room_1] at *; omega)) (by first | omega | (dsimp only at *; omega) | (dsimp only [room_1] at *; omega)) dX9_make_149 (w2 := fun q0 => wld ga n (K 0) (K 1) x54.1 ++ [(q0, .inr (7, [.int (nI 0), .null, .int (nI 0), .int (nI 0), .int (nI 0), .int (nI 0), .int (nI 0), .int (nI 0), .int (nI 0), .int (nI 0), .int (nI 0), .int (nI 0), .int (nI 0), .int (nI 0)]))]) (fun _ => rfl) (fun q0 H hP hD hS => ?_)
                    replace hP := rot_P hP
                    replace hD := rot_D hD
                    refine lv_dup hx hb dX9_make_152 rfl ?_
                    refine lv_aload_n hx hb dX9_make_153 rfl (lv_at hl 1 rfl) ?_
                    refine r_get hx hb hts ok_RX9 hown hK hP 1 (sk go_0) rfl 0 (by decide) w_237 (fun _ h9 => h9) rfl dX9_make_154 ?_
                    obtain ⟨x58, ex58, h⟩ := ob_some h
                    refine gx_i [(q0, .inr (7, [.int (nI 0), .null, .int (nI 0), .int (nI 0), .int (nI 0), .int (nI 0), .int (nI 0), .int (nI 0), .int (nI 0), .int (nI 0), .int (nI 0), .int (nI 0), .int (nI 0), .int (nI 0)]))] [] [(q0, .inr (7, [.int (nI 0), .null, .int (nI 0), .int (nI 0), .int (nI 0), .int (nI 0), .int (nI 0), .int (nI 0), .int (nI 0), .int (nI 0), .int (nI 0), .int (nI 0), .int (nI 0), .int (nI 0)]))] [] [0] 1 rfl rfl rfl (by decide) (by decide) (by decide) (by decide) (run_V (rest := [.ref q0, .ref q0]) hx hb hml hown hts hK hP hD hS hA hm (C_Row_size l G D K H.size ga n x54.1 0 (by decide) ex58) (axI [] 1 _) (ax_C (X := [(q0, .inr (7, [.int (nI 0), .null, .int (nI 0), .int (nI 0), .int (nI 0), .int (nI 0), .int (nI 0), .int (nI 0), .int (nI 0), .int (nI 0), .int (nI 0), .int (nI 0), .int (nI 0), .int (nI 0)]))]) (Y := []) rfl rfl (by decide)) (ax_n (by decide) (by decide)) mok_yX5_size w_404 w_405 w_406 (rcv hK hP (8 + 0 + 1) (sk (go_ro (by decide))) rfl rfl) ⟨Nat.le_of_ble_eq_true rfl, Nat.le_of_ble_eq_true rfl⟩ rfl hl.1 rfl (Nat.le_of_ble_eq_true rfl) dX9_make_157 ⟨(Nat.le_of_ble_eq_true rfl), (Nat.le_of_ble_eq_true rfl)⟩) hP hD hS hA (fun u H locs (hP : va_P D cl ((q0, .inr (7, [.int (nI 0), .null, .int (nI 0), .int (nI 0), .int (nI 0), .int (nI 0), .int (nI 0), .int (nI 0), .int (nI 0), .int (nI 0), .int (nI 0), .int (nI 0), .int (nI 0), .int (nI 0)])) :: wld ga n (K 0) (K 1) x54.1) H) (hD : va_D A ((q0, .inr (7, [.int (nI 0), .null, .int (nI 0), .int (nI 0), .int (nI 0), .int (nI 0), .int (nI 0), .int (nI 0), .int (nI 0), .int (nI 0), .int (nI 0), .int (nI 0), .int (nI 0), .int (nI 0)])) :: wld ga n (K 0) (K 1) x54.1)) hS => ?_)
                    refine lv_iload_n hx hb dX9_make_160 rfl (lv_at hl 3 rfl) ?_
                    refine lv_iload_n hx hb dX9_make_161 rfl (lv_at hl 4 rfl) ?_
                    obtain ⟨hw9, h⟩ := oc_some h
                    obtain ⟨g59, h⟩ := og_some h
                    obtain ⟨g60, h⟩ := og_some h
                    rw [← nI_nat g59.1 (by omega), ← nI_nat g60.1 (by omega)]
                    refine gh_v (run_I (rest := [.ref q0]) hx hb hml hown hts hK hP hD hS hA hm (C9_init l G D K H.size q0 (.int (nI 0)) (.null) (.int (nI 0)) (.int (nI 0)) (.int (nI 0)) (.int (nI 0)) (.int (nI 0)) (.int (nI 0)) (.int (nI 0)) (.int (nI 0)) (.int (nI 0)) (.int (nI 0)) (.int (nI 0)) x58.toNat (by omega) (by omega) a3.toNat (by omega) (by omega) (iI a2)) [0] rfl rfl mok_yX7_init w_670 w_671 rfl ⟨Nat.le_of_ble_eq_true rfl, Nat.le_of_ble_eq_true rfl⟩ rfl hl.1 rfl (Nat.le_of_ble_eq_true rfl) dX9_make_162 ⟨(by first | omega | (dsimp only at *; omega) | (dsimp only [room_1] at *; omega)), (by first | omega | (dsimp only at *; omega) | (dsimp only [room_1] at *; omega))⟩) hP hD hS hA (fun u0 H locs hP hD hS => ?_)
                    replace hP := va_P.to hP (wld_new (b := a2) hw9 g59 g60 q0 (u0 0))
                    replace hD := va_D.to hD (wld_new (b := a2) hw9 g59 g60 q0 (u0 0))
                    refine w_tov (show Value.ref q0 = .ref (ga_up ga n q0 (u0 0) (25 + 2 * n)) by rw [ga_up_0]) ?_
                    rw [ga_up_lt (ga := ga) (n := n) (q0 := q0) (q1 := u0 0) (i := 0) (by omega)] at hl
                    refine x_astore hx hb dX9_make_165 hl (by decide) [0, 1, 2, 3, 4] (lv' := [(4, .int (iI x55)), (0, .ref ((ga_up ga n q0 (u0 0)) 0)), (1, .int (iI a1)), (2, .int (iI a2)), (3, .int (iI a3))]) rfl (⟨⟨Nat.ne_of_beq_eq_false rfl, Or.inr rfl⟩, ⟨⟨Nat.ne_of_beq_eq_false rfl, Or.inl (Nat.ne_of_beq_eq_false rfl)⟩, ⟨⟨Nat.ne_of_beq_eq_false rfl, Or.inl (Nat.ne_of_beq_eq_false rfl)⟩, ⟨⟨Nat.ne_of_beq_eq_false rfl, Or.inl (Nat.ne_of_beq_eq_false rfl)⟩, ⟨⟨Nat.ne_of_beq_eq_false rfl, Or.inl (Nat.ne_of_beq_eq_false rfl)⟩, trivial⟩⟩⟩⟩⟩) (fun ls hl => ?_)
                    refine lv_aload_n hx hb dX9_make_167 rfl (lv_at hl 2 rfl) ?_
                    refine r_get hx hb hts ok_RX9 hown hK hP 0 go_0 rfl 0 (by decide) w_237 (fun _ h9 => h9) rfl dX9_make_168 ?_
                    refine lv_aload hx hb dX9_make_171 (lv_at hl 0 rfl) ?_
                    obtain ⟨x61, ex61, h⟩ := ob_some h
                    refine gk_v (run_V (rest := []) hx hb hml hown hts hK hP hD hS hA hm (C_Row_add l G D K H.size (ga_up ga n q0 (u0 0)) (n + 1) (nTh x54.1 n x58 a2 a3) 0 (by decide) (some n) ex61) _ (full_C _) (full_n _ List.nodup_range) mok_yX5_add w_753 w_465 w_466 (rcv hK hP (8 + 0) (go_ro (by decide)) rfl rfl) ⟨Nat.le_of_ble_eq_true rfl, Nat.le_of_ble_eq_true rfl⟩ rfl hl.1 rfl (Nat.le_of_ble_eq_true rfl) dX9_make_173 ⟨(Nat.le_of_ble_eq_true rfl), (Nat.le_of_ble_eq_true rfl)⟩) hP hD hS hA (fun u H locs (hP : va_P D cl (wld (ga_up ga n q0 (u0 0)) (n + 1) (K 0) (K 1) x61) H) (hD : va_D A (wld (ga_up ga n q0 (u0 0)) (n + 1) (K 0) (K 1) x61)) hS => ?_)
                    refine lv_aload_n hx hb dX9_make_176 rfl (lv_at hl 2 rfl) ?_
                    refine r_get hx hb hts ok_RX9 hown hK hP 0 go_0 rfl 2 (by decide) w_239 (fun _ h9 => h9) rfl dX9_make_177 ?_
                    refine lv_aload hx hb dX9_make_180 (lv_at hl 0 rfl) ?_
                    refine lv_iload hx hb dX9_make_182 (lv_at hl 1 rfl) ?_
                    obtain ⟨x62, ex62, h⟩ := ob_some h
                    refine gk_v (run_V (rest := []) hx hb hml hown hts hK hP hD hS hA hm (C_Pl_lay l G D K H.size (ga_up ga n q0 (u0 0)) (n + 1) x61 (some n) x55 ex62) _ (full_C _) (full_n _ List.nodup_range) mok_yX3_lay w_754 w_755 w_756 (rcv hK hP 2 go_2 rfl rfl) ⟨Nat.le_of_ble_eq_true rfl, Nat.le_of_ble_eq_true rfl⟩ rfl hl.1 rfl (Nat.le_of_ble_eq_true rfl) dX9_make_184 ⟨(Nat.le_of_ble_eq_true rfl), (Nat.le_of_ble_eq_true rfl)⟩) hP hD hS hA (fun u H locs (hP : va_P D cl (wld (ga_up ga n q0 (u0 0)) (n + 1) (K 0) (K 1) x62) H) (hD : va_D A (wld (ga_up ga n q0 (u0 0)) (n + 1) (K 0) (K 1) x62)) hS => ?_)
                    refine lv_aload_n hx hb dX9_make_187 rfl (lv_at hl 2 rfl) ?_
                    refine r_get hx hb hts ok_RX9 hown hK hP 0 go_0 rfl 4 (by decide) w_241 (fun _ h9 => h9) rfl dX9_make_188 ?_
                    refine lv_aload hx hb dX9_make_191 (lv_at hl 0 rfl) ?_
                    obtain ⟨x63, ex63, h⟩ := ob_some h
                    refine gk_v (run_V (rest := []) hx hb hml hown hts hK hP hD hS hA hm (C_Mk_noteMade l G D K H.size (ga_up ga n q0 (u0 0)) (n + 1) x62 (some n) ex63) _ (full_C _) (full_n _ List.nodup_range) mok_yX1_noteMade w_762 w_763 w_764 (rcv hK hP 4 go_4 rfl rfl) ⟨Nat.le_of_ble_eq_true rfl, Nat.le_of_ble_eq_true rfl⟩ rfl hl.1 rfl (Nat.le_of_ble_eq_true rfl) dX9_make_193 ⟨(Nat.le_of_ble_eq_true rfl), (Nat.le_of_ble_eq_true rfl)⟩) hP hD hS hA (fun u H locs (hP : va_P D cl (wld (ga_up ga n q0 (u0 0)) (n + 1) (K 0) (K 1) x63) H) (hD : va_D A (wld (ga_up ga n q0 (u0 0)) (n + 1) (K 0) (K 1) x63)) hS => ?_)
                    refine lv_aload_n hx hb dX9_make_196 rfl (lv_at hl 2 rfl) ?_
                    refine r_get hx hb hts ok_RX9 hown hK hP 0 go_0 rfl 1 (by decide) w_238 (fun _ h9 => h9) rfl dX9_make_197 ?_
                    refine lv_iload_n hx hb dX9_make_200 rfl (lv_at hl 3 rfl) ?_
                    refine lv_aload hx hb dX9_make_201 (lv_at hl 0 rfl) ?_
                    obtain ⟨x64, ex64, h⟩ := ob_some h
                    refine gk_v (run_V (rest := []) hx hb hml hown hts hK hP hD hS hA hm (C_Ro_writeSlot l G D K H.size (ga_up ga n q0 (u0 0)) (n + 1) x63 a1 (some n) ex64) _ (full_C _) (full_n _ List.nodup_range) mok_yX4_writeSlot w_766 w_355 w_356 (rcv hK hP 1 go_1 rfl rfl) ⟨Nat.le_of_ble_eq_true rfl, Nat.le_of_ble_eq_true rfl⟩ rfl hl.1 rfl (Nat.le_of_ble_eq_true rfl) dX9_make_203 ⟨(Nat.le_of_ble_eq_true rfl), (Nat.le_of_ble_eq_true rfl)⟩) hP hD hS hA (fun u H locs (hP : va_P D cl (wld (ga_up ga n q0 (u0 0)) (n + 1) (K 0) (K 1) x64) H) (hD : va_D A (wld (ga_up ga n q0 (u0 0)) (n + 1) (K 0) (K 1) x64)) hS => ?_)
                    refine lv_aload hx hb dX9_make_206 (lv_at hl 0 rfl) ?_
                    refine r_get hx hb hts ok_RX7 hown hK hP (25 + 2 * n) (go_th (Nat.lt_succ_self n)) rfl 0 (by decide) w_676 (fun _ h9 => h9) rfl dX9_make_208 ?_
                    obtain rfl := Option.some.inj h
                    exact e_m hx hb hr hlk hP hD hS (Nat.le_of_ble_eq_true rfl) (Nat.le_of_ble_eq_true rfl) rfl (by first | rfl | exact (ga_up_lt (by omega)).symm) dX9_make_211
                · replace h := it_F h c53
                  refine i_icmp_ne_T hx hb g52 ⟨by decide, by decide⟩ (tgt := 141) dX9_make_122 (by decide) c53 ?_
                  refine lv_iload hx hb dX9_make_141 (lv_at hl 0 rfl) ?_
                  refine lv_iconst (v := iI (-1)) hx hb dX9_make_143 rfl ?_
                  refine i_icmp_ne_T hx hb g52 ⟨by decide, by decide⟩ (tgt := 149) dX9_make_144 (by decide) c53 ?_
                  refine r_new (ci := 7) (C := RX7) (T := TX7) (N := 14) hx hb hts ok_RX7 hown w_668 w_669 w_17 hK hP hD hS hA rfl df_RX7 (by first | omega | (dsimp only at *; omega) | (dsimp only [room_1] at *; omega)) (by first | omega | (dsimp only at *; omega) | (dsimp only [room_1] at *; omega)) dX9_make_149 (w2 := fun q0 => wld ga n (K 0) (K 1) x50.1 ++ [(q0, .inr (7, [.int (nI 0), .null, .int (nI 0), .int (nI 0), .int (nI 0), .int (nI 0), .int (nI 0), .int (nI 0), .int (nI 0), .int (nI 0), .int (nI 0), .int (nI 0), .int (nI 0), .int (nI 0)]))]) (fun _ => rfl) (fun q0 H hP hD hS => ?_)
                  replace hP := rot_P hP
                  replace hD := rot_D hD
                  refine lv_dup hx hb dX9_make_152 rfl ?_
                  refine lv_aload_n hx hb dX9_make_153 rfl (lv_at hl 1 rfl) ?_
                  refine r_get hx hb hts ok_RX9 hown hK hP 1 (sk go_0) rfl 0 (by decide) w_237 (fun _ h9 => h9) rfl dX9_make_154 ?_
                  obtain ⟨x65, ex65, h⟩ := ob_some h
                  refine gx_i [(q0, .inr (7, [.int (nI 0), .null, .int (nI 0), .int (nI 0), .int (nI 0), .int (nI 0), .int (nI 0), .int (nI 0), .int (nI 0), .int (nI 0), .int (nI 0), .int (nI 0), .int (nI 0), .int (nI 0)]))] [] [(q0, .inr (7, [.int (nI 0), .null, .int (nI 0), .int (nI 0), .int (nI 0), .int (nI 0), .int (nI 0), .int (nI 0), .int (nI 0), .int (nI 0), .int (nI 0), .int (nI 0), .int (nI 0), .int (nI 0)]))] [] [0] 1 rfl rfl rfl (by decide) (by decide) (by decide) (by decide) (run_V (rest := [.ref q0, .ref q0]) hx hb hml hown hts hK hP hD hS hA hm (C_Row_size l G D K H.size ga n x50.1 0 (by decide) ex65) (axI [] 1 _) (ax_C (X := [(q0, .inr (7, [.int (nI 0), .null, .int (nI 0), .int (nI 0), .int (nI 0), .int (nI 0), .int (nI 0), .int (nI 0), .int (nI 0), .int (nI 0), .int (nI 0), .int (nI 0), .int (nI 0), .int (nI 0)]))]) (Y := []) rfl rfl (by decide)) (ax_n (by decide) (by decide)) mok_yX5_size w_404 w_405 w_406 (rcv hK hP (8 + 0 + 1) (sk (go_ro (by decide))) rfl rfl) ⟨Nat.le_of_ble_eq_true rfl, Nat.le_of_ble_eq_true rfl⟩ rfl hl.1 rfl (Nat.le_of_ble_eq_true rfl) dX9_make_157 ⟨(Nat.le_of_ble_eq_true rfl), (Nat.le_of_ble_eq_true rfl)⟩) hP hD hS hA (fun u H locs (hP : va_P D cl ((q0, .inr (7, [.int (nI 0), .null, .int (nI 0), .int (nI 0), .int (nI 0), .int (nI 0), .int (nI 0), .int (nI 0), .int (nI 0), .int (nI 0), .int (nI 0), .int (nI 0), .int (nI 0), .int (nI 0)])) :: wld ga n (K 0) (K 1) x50.1) H) (hD : va_D A ((q0, .inr (7, [.int (nI 0), .null, .int (nI 0), .int (nI 0), .int (nI 0), .int (nI 0), .int (nI 0), .int (nI 0), .int (nI 0), .int (nI 0), .int (nI 0), .int (nI 0), .int (nI 0), .int (nI 0)])) :: wld ga n (K 0) (K 1) x50.1)) hS => ?_)
                  refine lv_iload_n hx hb dX9_make_160 rfl (lv_at hl 3 rfl) ?_
                  refine lv_iload_n hx hb dX9_make_161 rfl (lv_at hl 4 rfl) ?_
                  obtain ⟨hw9, h⟩ := oc_some h
                  obtain ⟨g66, h⟩ := og_some h
                  obtain ⟨g67, h⟩ := og_some h
                  rw [← nI_nat g66.1 (by omega), ← nI_nat g67.1 (by omega)]
                  refine gh_v (run_I (rest := [.ref q0]) hx hb hml hown hts hK hP hD hS hA hm (C9_init l G D K H.size q0 (.int (nI 0)) (.null) (.int (nI 0)) (.int (nI 0)) (.int (nI 0)) (.int (nI 0)) (.int (nI 0)) (.int (nI 0)) (.int (nI 0)) (.int (nI 0)) (.int (nI 0)) (.int (nI 0)) (.int (nI 0)) x65.toNat (by omega) (by omega) a3.toNat (by omega) (by omega) (iI a2)) [0] rfl rfl mok_yX7_init w_670 w_671 rfl ⟨Nat.le_of_ble_eq_true rfl, Nat.le_of_ble_eq_true rfl⟩ rfl hl.1 rfl (Nat.le_of_ble_eq_true rfl) dX9_make_162 ⟨(by first | omega | (dsimp only at *; omega) | (dsimp only [room_1] at *; omega)), (by first | omega | (dsimp only at *; omega) | (dsimp only [room_1] at *; omega))⟩) hP hD hS hA (fun u0 H locs hP hD hS => ?_)
                  replace hP := va_P.to hP (wld_new (b := a2) hw9 g66 g67 q0 (u0 0))
                  replace hD := va_D.to hD (wld_new (b := a2) hw9 g66 g67 q0 (u0 0))
                  refine w_tov (show Value.ref q0 = .ref (ga_up ga n q0 (u0 0) (25 + 2 * n)) by rw [ga_up_0]) ?_
                  rw [ga_up_lt (ga := ga) (n := n) (q0 := q0) (q1 := u0 0) (i := 0) (by omega)] at hl
                  refine x_astore hx hb dX9_make_165 hl (by decide) [0, 1, 2, 3, 4] (lv' := [(4, .int (iI x51)), (0, .ref ((ga_up ga n q0 (u0 0)) 0)), (1, .int (iI a1)), (2, .int (iI a2)), (3, .int (iI a3))]) rfl (⟨⟨Nat.ne_of_beq_eq_false rfl, Or.inr rfl⟩, ⟨⟨Nat.ne_of_beq_eq_false rfl, Or.inl (Nat.ne_of_beq_eq_false rfl)⟩, ⟨⟨Nat.ne_of_beq_eq_false rfl, Or.inl (Nat.ne_of_beq_eq_false rfl)⟩, ⟨⟨Nat.ne_of_beq_eq_false rfl, Or.inl (Nat.ne_of_beq_eq_false rfl)⟩, ⟨⟨Nat.ne_of_beq_eq_false rfl, Or.inl (Nat.ne_of_beq_eq_false rfl)⟩, trivial⟩⟩⟩⟩⟩) (fun ls hl => ?_)
                  refine lv_aload_n hx hb dX9_make_167 rfl (lv_at hl 2 rfl) ?_
                  refine r_get hx hb hts ok_RX9 hown hK hP 0 go_0 rfl 0 (by decide) w_237 (fun _ h9 => h9) rfl dX9_make_168 ?_
                  refine lv_aload hx hb dX9_make_171 (lv_at hl 0 rfl) ?_
                  obtain ⟨x68, ex68, h⟩ := ob_some h
                  refine gk_v (run_V (rest := []) hx hb hml hown hts hK hP hD hS hA hm (C_Row_add l G D K H.size (ga_up ga n q0 (u0 0)) (n + 1) (nTh x50.1 n x65 a2 a3) 0 (by decide) (some n) ex68) _ (full_C _) (full_n _ List.nodup_range) mok_yX5_add w_753 w_465 w_466 (rcv hK hP (8 + 0) (go_ro (by decide)) rfl rfl) ⟨Nat.le_of_ble_eq_true rfl, Nat.le_of_ble_eq_true rfl⟩ rfl hl.1 rfl (Nat.le_of_ble_eq_true rfl) dX9_make_173 ⟨(Nat.le_of_ble_eq_true rfl), (Nat.le_of_ble_eq_true rfl)⟩) hP hD hS hA (fun u H locs (hP : va_P D cl (wld (ga_up ga n q0 (u0 0)) (n + 1) (K 0) (K 1) x68) H) (hD : va_D A (wld (ga_up ga n q0 (u0 0)) (n + 1) (K 0) (K 1) x68)) hS => ?_)
                  refine lv_aload_n hx hb dX9_make_176 rfl (lv_at hl 2 rfl) ?_
                  refine r_get hx hb hts ok_RX9 hown hK hP 0 go_0 rfl 2 (by decide) w_239 (fun _ h9 => h9) rfl dX9_make_177 ?_
                  refine lv_aload hx hb dX9_make_180 (lv_at hl 0 rfl) ?_
                  refine lv_iload hx hb dX9_make_182 (lv_at hl 1 rfl) ?_
                  obtain ⟨x69, ex69, h⟩ := ob_some h
                  refine gk_v (run_V (rest := []) hx hb hml hown hts hK hP hD hS hA hm (C_Pl_lay l G D K H.size (ga_up ga n q0 (u0 0)) (n + 1) x68 (some n) x51 ex69) _ (full_C _) (full_n _ List.nodup_range) mok_yX3_lay w_754 w_755 w_756 (rcv hK hP 2 go_2 rfl rfl) ⟨Nat.le_of_ble_eq_true rfl, Nat.le_of_ble_eq_true rfl⟩ rfl hl.1 rfl (Nat.le_of_ble_eq_true rfl) dX9_make_184 ⟨(Nat.le_of_ble_eq_true rfl), (Nat.le_of_ble_eq_true rfl)⟩) hP hD hS hA (fun u H locs (hP : va_P D cl (wld (ga_up ga n q0 (u0 0)) (n + 1) (K 0) (K 1) x69) H) (hD : va_D A (wld (ga_up ga n q0 (u0 0)) (n + 1) (K 0) (K 1) x69)) hS => ?_)
                  refine lv_aload_n hx hb dX9_make_187 rfl (lv_at hl 2 rfl) ?_
                  refine r_get hx hb hts ok_RX9 hown hK hP 0 go_0 rfl 4 (by decide) w_241 (fun _ h9 => h9) rfl dX9_make_188 ?_
                  refine lv_aload hx hb dX9_make_191 (lv_at hl 0 rfl) ?_
                  obtain ⟨x70, ex70, h⟩ := ob_some h
                  refine gk_v (run_V (rest := []) hx hb hml hown hts hK hP hD hS hA hm (C_Mk_noteMade l G D K H.size (ga_up ga n q0 (u0 0)) (n + 1) x69 (some n) ex70) _ (full_C _) (full_n _ List.nodup_range) mok_yX1_noteMade w_762 w_763 w_764 (rcv hK hP 4 go_4 rfl rfl) ⟨Nat.le_of_ble_eq_true rfl, Nat.le_of_ble_eq_true rfl⟩ rfl hl.1 rfl (Nat.le_of_ble_eq_true rfl) dX9_make_193 ⟨(Nat.le_of_ble_eq_true rfl), (Nat.le_of_ble_eq_true rfl)⟩) hP hD hS hA (fun u H locs (hP : va_P D cl (wld (ga_up ga n q0 (u0 0)) (n + 1) (K 0) (K 1) x70) H) (hD : va_D A (wld (ga_up ga n q0 (u0 0)) (n + 1) (K 0) (K 1) x70)) hS => ?_)
                  refine lv_aload_n hx hb dX9_make_196 rfl (lv_at hl 2 rfl) ?_
                  refine r_get hx hb hts ok_RX9 hown hK hP 0 go_0 rfl 1 (by decide) w_238 (fun _ h9 => h9) rfl dX9_make_197 ?_
                  refine lv_iload_n hx hb dX9_make_200 rfl (lv_at hl 3 rfl) ?_
                  refine lv_aload hx hb dX9_make_201 (lv_at hl 0 rfl) ?_
                  obtain ⟨x71, ex71, h⟩ := ob_some h
                  refine gk_v (run_V (rest := []) hx hb hml hown hts hK hP hD hS hA hm (C_Ro_writeSlot l G D K H.size (ga_up ga n q0 (u0 0)) (n + 1) x70 a1 (some n) ex71) _ (full_C _) (full_n _ List.nodup_range) mok_yX4_writeSlot w_766 w_355 w_356 (rcv hK hP 1 go_1 rfl rfl) ⟨Nat.le_of_ble_eq_true rfl, Nat.le_of_ble_eq_true rfl⟩ rfl hl.1 rfl (Nat.le_of_ble_eq_true rfl) dX9_make_203 ⟨(Nat.le_of_ble_eq_true rfl), (Nat.le_of_ble_eq_true rfl)⟩) hP hD hS hA (fun u H locs (hP : va_P D cl (wld (ga_up ga n q0 (u0 0)) (n + 1) (K 0) (K 1) x71) H) (hD : va_D A (wld (ga_up ga n q0 (u0 0)) (n + 1) (K 0) (K 1) x71)) hS => ?_)
                  refine lv_aload hx hb dX9_make_206 (lv_at hl 0 rfl) ?_
                  refine r_get hx hb hts ok_RX7 hown hK hP (25 + 2 * n) (go_th (Nat.lt_succ_self n)) rfl 0 (by decide) w_676 (fun _ h9 => h9) rfl dX9_make_208 ?_
                  obtain rfl := Option.some.inj h
                  exact e_m hx hb hr hlk hP hD hS (Nat.le_of_ble_eq_true rfl) (Nat.le_of_ble_eq_true rfl) rfl (by first | rfl | exact (ga_up_lt (by omega)).symm) dX9_make_211
            · replace h := it_F h c15
              refine i_icmp_ne_T hx hb g14 ⟨by decide, by decide⟩ (tgt := 97) dX9_make_73 (by decide) c15 ?_
              refine lv_iload hx hb dX9_make_97 (lv_at hl 0 rfl) ?_
              refine lv_iconst (v := iI (-1)) hx hb dX9_make_99 rfl ?_
              refine i_icmp_ne_T hx hb g14 ⟨by decide, by decide⟩ (tgt := 119) dX9_make_100 (by decide) c15 ?_
              refine lv_iload hx hb dX9_make_119 (lv_at hl 0 rfl) ?_
              refine lv_iconst (v := iI (-1)) hx hb dX9_make_121 rfl ?_
              refine i_icmp_ne_T hx hb g14 ⟨by decide, by decide⟩ (tgt := 141) dX9_make_122 (by decide) c15 ?_
              refine lv_iload hx hb dX9_make_141 (lv_at hl 0 rfl) ?_
              refine lv_iconst (v := iI (-1)) hx hb dX9_make_143 rfl ?_
              refine i_icmp_ne_T hx hb g14 ⟨by decide, by decide⟩ (tgt := 149) dX9_make_144 (by decide) c15 ?_
              refine r_new (ci := 7) (C := RX7) (T := TX7) (N := 14) hx hb hts ok_RX7 hown w_668 w_669 w_17 hK hP hD hS hA rfl df_RX7 (by first | omega | (dsimp only at *; omega) | (dsimp only [room_1] at *; omega)) (by first | omega | (dsimp only at *; omega) | (dsimp only [room_1] at *; omega)) dX9_make_149 (w2 := fun q0 => wld ga n (K 0) (K 1) M ++ [(q0, .inr (7, [.int (nI 0), .null, .int (nI 0), .int (nI 0), .int (nI 0), .int (nI 0), .int (nI 0), .int (nI 0), .int (nI 0), .int (nI 0), .int (nI 0), .int (nI 0), .int (nI 0), .int (nI 0)]))]) (fun _ => rfl) (fun q0 H hP hD hS => ?_)
              replace hP := rot_P hP
              replace hD := rot_D hD
              refine lv_dup hx hb dX9_make_152 rfl ?_
              refine lv_aload_n hx hb dX9_make_153 rfl (lv_at hl 1 rfl) ?_
              refine r_get hx hb hts ok_RX9 hown hK hP 1 (sk go_0) rfl 0 (by decide) w_237 (fun _ h9 => h9) rfl dX9_make_154 ?_
              obtain ⟨x72, ex72, h⟩ := ob_some h
              refine gx_i [(q0, .inr (7, [.int (nI 0), .null, .int (nI 0), .int (nI 0), .int (nI 0), .int (nI 0), .int (nI 0), .int (nI 0), .int (nI 0), .int (nI 0), .int (nI 0), .int (nI 0), .int (nI 0), .int (nI 0)]))] [] [(q0, .inr (7, [.int (nI 0), .null, .int (nI 0), .int (nI 0), .int (nI 0), .int (nI 0), .int (nI 0), .int (nI 0), .int (nI 0), .int (nI 0), .int (nI 0), .int (nI 0), .int (nI 0), .int (nI 0)]))] [] [0] 1 rfl rfl rfl (by decide) (by decide) (by decide) (by decide) (run_V (rest := [.ref q0, .ref q0]) hx hb hml hown hts hK hP hD hS hA hm (C_Row_size l G D K H.size ga n M 0 (by decide) ex72) (axI [] 1 _) (ax_C (X := [(q0, .inr (7, [.int (nI 0), .null, .int (nI 0), .int (nI 0), .int (nI 0), .int (nI 0), .int (nI 0), .int (nI 0), .int (nI 0), .int (nI 0), .int (nI 0), .int (nI 0), .int (nI 0), .int (nI 0)]))]) (Y := []) rfl rfl (by decide)) (ax_n (by decide) (by decide)) mok_yX5_size w_404 w_405 w_406 (rcv hK hP (8 + 0 + 1) (sk (go_ro (by decide))) rfl rfl) ⟨Nat.le_of_ble_eq_true rfl, Nat.le_of_ble_eq_true rfl⟩ rfl hl.1 rfl (Nat.le_of_ble_eq_true rfl) dX9_make_157 ⟨(Nat.le_of_ble_eq_true rfl), (Nat.le_of_ble_eq_true rfl)⟩) hP hD hS hA (fun u H locs (hP : va_P D cl ((q0, .inr (7, [.int (nI 0), .null, .int (nI 0), .int (nI 0), .int (nI 0), .int (nI 0), .int (nI 0), .int (nI 0), .int (nI 0), .int (nI 0), .int (nI 0), .int (nI 0), .int (nI 0), .int (nI 0)])) :: wld ga n (K 0) (K 1) M) H) (hD : va_D A ((q0, .inr (7, [.int (nI 0), .null, .int (nI 0), .int (nI 0), .int (nI 0), .int (nI 0), .int (nI 0), .int (nI 0), .int (nI 0), .int (nI 0), .int (nI 0), .int (nI 0), .int (nI 0), .int (nI 0)])) :: wld ga n (K 0) (K 1) M)) hS => ?_)
              refine lv_iload_n hx hb dX9_make_160 rfl (lv_at hl 3 rfl) ?_
              refine lv_iload_n hx hb dX9_make_161 rfl (lv_at hl 4 rfl) ?_
              obtain ⟨hw9, h⟩ := oc_some h
              obtain ⟨g73, h⟩ := og_some h
              obtain ⟨g74, h⟩ := og_some h
              rw [← nI_nat g73.1 (by omega), ← nI_nat g74.1 (by omega)]
              refine gh_v (run_I (rest := [.ref q0]) hx hb hml hown hts hK hP hD hS hA hm (C9_init l G D K H.size q0 (.int (nI 0)) (.null) (.int (nI 0)) (.int (nI 0)) (.int (nI 0)) (.int (nI 0)) (.int (nI 0)) (.int (nI 0)) (.int (nI 0)) (.int (nI 0)) (.int (nI 0)) (.int (nI 0)) (.int (nI 0)) x72.toNat (by omega) (by omega) a3.toNat (by omega) (by omega) (iI a2)) [0] rfl rfl mok_yX7_init w_670 w_671 rfl ⟨Nat.le_of_ble_eq_true rfl, Nat.le_of_ble_eq_true rfl⟩ rfl hl.1 rfl (Nat.le_of_ble_eq_true rfl) dX9_make_162 ⟨(by first | omega | (dsimp only at *; omega) | (dsimp only [room_1] at *; omega)), (by first | omega | (dsimp only at *; omega) | (dsimp only [room_1] at *; omega))⟩) hP hD hS hA (fun u0 H locs hP hD hS => ?_)
              replace hP := va_P.to hP (wld_new (b := a2) hw9 g73 g74 q0 (u0 0))
              replace hD := va_D.to hD (wld_new (b := a2) hw9 g73 g74 q0 (u0 0))
              refine w_tov (show Value.ref q0 = .ref (ga_up ga n q0 (u0 0) (25 + 2 * n)) by rw [ga_up_0]) ?_
              rw [ga_up_lt (ga := ga) (n := n) (q0 := q0) (q1 := u0 0) (i := 0) (by omega)] at hl
              refine x_astore hx hb dX9_make_165 hl (by decide) [0, 1, 2, 3, 4] (lv' := [(4, .int (iI x13)), (0, .ref ((ga_up ga n q0 (u0 0)) 0)), (1, .int (iI a1)), (2, .int (iI a2)), (3, .int (iI a3))]) rfl (⟨⟨Nat.ne_of_beq_eq_false rfl, Or.inr rfl⟩, ⟨⟨Nat.ne_of_beq_eq_false rfl, Or.inl (Nat.ne_of_beq_eq_false rfl)⟩, ⟨⟨Nat.ne_of_beq_eq_false rfl, Or.inl (Nat.ne_of_beq_eq_false rfl)⟩, ⟨⟨Nat.ne_of_beq_eq_false rfl, Or.inl (Nat.ne_of_beq_eq_false rfl)⟩, ⟨⟨Nat.ne_of_beq_eq_false rfl, Or.inl (Nat.ne_of_beq_eq_false rfl)⟩, trivial⟩⟩⟩⟩⟩) (fun ls hl => ?_)
              refine lv_aload_n hx hb dX9_make_167 rfl (lv_at hl 2 rfl) ?_
              refine r_get hx hb hts ok_RX9 hown hK hP 0 go_0 rfl 0 (by decide) w_237 (fun _ h9 => h9) rfl dX9_make_168 ?_
              refine lv_aload hx hb dX9_make_171 (lv_at hl 0 rfl) ?_
              obtain ⟨x75, ex75, h⟩ := ob_some h
              refine gk_v (run_V (rest := []) hx hb hml hown hts hK hP hD hS hA hm (C_Row_add l G D K H.size (ga_up ga n q0 (u0 0)) (n + 1) (nTh M n x72 a2 a3) 0 (by decide) (some n) ex75) _ (full_C _) (full_n _ List.nodup_range) mok_yX5_add w_753 w_465 w_466 (rcv hK hP (8 + 0) (go_ro (by decide)) rfl rfl) ⟨Nat.le_of_ble_eq_true rfl, Nat.le_of_ble_eq_true rfl⟩ rfl hl.1 rfl (Nat.le_of_ble_eq_true rfl) dX9_make_173 ⟨(Nat.le_of_ble_eq_true rfl), (Nat.le_of_ble_eq_true rfl)⟩) hP hD hS hA (fun u H locs (hP : va_P D cl (wld (ga_up ga n q0 (u0 0)) (n + 1) (K 0) (K 1) x75) H) (hD : va_D A (wld (ga_up ga n q0 (u0 0)) (n + 1) (K 0) (K 1) x75)) hS => ?_)
              refine lv_aload_n hx hb dX9_make_176 rfl (lv_at hl 2 rfl) ?_
              refine r_get hx hb hts ok_RX9 hown hK hP 0 go_0 rfl 2 (by decide) w_239 (fun _ h9 => h9) rfl dX9_make_177 ?_
              refine lv_aload hx hb dX9_make_180 (lv_at hl 0 rfl) ?_
              refine lv_iload hx hb dX9_make_182 (lv_at hl 1 rfl) ?_
              obtain ⟨x76, ex76, h⟩ := ob_some h
              refine gk_v (run_V (rest := []) hx hb hml hown hts hK hP hD hS hA hm (C_Pl_lay l G D K H.size (ga_up ga n q0 (u0 0)) (n + 1) x75 (some n) x13 ex76) _ (full_C _) (full_n _ List.nodup_range) mok_yX3_lay w_754 w_755 w_756 (rcv hK hP 2 go_2 rfl rfl) ⟨Nat.le_of_ble_eq_true rfl, Nat.le_of_ble_eq_true rfl⟩ rfl hl.1 rfl (Nat.le_of_ble_eq_true rfl) dX9_make_184 ⟨(Nat.le_of_ble_eq_true rfl), (Nat.le_of_ble_eq_true rfl)⟩) hP hD hS hA (fun u H locs (hP : va_P D cl (wld (ga_up ga n q0 (u0 0)) (n + 1) (K 0) (K 1) x76) H) (hD : va_D A (wld (ga_up ga n q0 (u0 0)) (n + 1) (K 0) (K 1) x76)) hS => ?_)
              refine lv_aload_n hx hb dX9_make_187 rfl (lv_at hl 2 rfl) ?_
              refine r_get hx hb hts ok_RX9 hown hK hP 0 go_0 rfl 4 (by decide) w_241 (fun _ h9 => h9) rfl dX9_make_188 ?_
              refine lv_aload hx hb dX9_make_191 (lv_at hl 0 rfl) ?_
              obtain ⟨x77, ex77, h⟩ := ob_some h
              refine gk_v (run_V (rest := []) hx hb hml hown hts hK hP hD hS hA hm (C_Mk_noteMade l G D K H.size (ga_up ga n q0 (u0 0)) (n + 1) x76 (some n) ex77) _ (full_C _) (full_n _ List.nodup_range) mok_yX1_noteMade w_762 w_763 w_764 (rcv hK hP 4 go_4 rfl rfl) ⟨Nat.le_of_ble_eq_true rfl, Nat.le_of_ble_eq_true rfl⟩ rfl hl.1 rfl (Nat.le_of_ble_eq_true rfl) dX9_make_193 ⟨(Nat.le_of_ble_eq_true rfl), (Nat.le_of_ble_eq_true rfl)⟩) hP hD hS hA (fun u H locs (hP : va_P D cl (wld (ga_up ga n q0 (u0 0)) (n + 1) (K 0) (K 1) x77) H) (hD : va_D A (wld (ga_up ga n q0 (u0 0)) (n + 1) (K 0) (K 1) x77)) hS => ?_)
              refine lv_aload_n hx hb dX9_make_196 rfl (lv_at hl 2 rfl) ?_
              refine r_get hx hb hts ok_RX9 hown hK hP 0 go_0 rfl 1 (by decide) w_238 (fun _ h9 => h9) rfl dX9_make_197 ?_
              refine lv_iload_n hx hb dX9_make_200 rfl (lv_at hl 3 rfl) ?_
              refine lv_aload hx hb dX9_make_201 (lv_at hl 0 rfl) ?_
              obtain ⟨x78, ex78, h⟩ := ob_some h
              refine gk_v (run_V (rest := []) hx hb hml hown hts hK hP hD hS hA hm (C_Ro_writeSlot l G D K H.size (ga_up ga n q0 (u0 0)) (n + 1) x77 a1 (some n) ex78) _ (full_C _) (full_n _ List.nodup_range) mok_yX4_writeSlot w_766 w_355 w_356 (rcv hK hP 1 go_1 rfl rfl) ⟨Nat.le_of_ble_eq_true rfl, Nat.le_of_ble_eq_true rfl⟩ rfl hl.1 rfl (Nat.le_of_ble_eq_true rfl) dX9_make_203 ⟨(Nat.le_of_ble_eq_true rfl), (Nat.le_of_ble_eq_true rfl)⟩) hP hD hS hA (fun u H locs (hP : va_P D cl (wld (ga_up ga n q0 (u0 0)) (n + 1) (K 0) (K 1) x78) H) (hD : va_D A (wld (ga_up ga n q0 (u0 0)) (n + 1) (K 0) (K 1) x78)) hS => ?_)
              refine lv_aload hx hb dX9_make_206 (lv_at hl 0 rfl) ?_
              refine r_get hx hb hts ok_RX7 hown hK hP (25 + 2 * n) (go_th (Nat.lt_succ_self n)) rfl 0 (by decide) w_676 (fun _ h9 => h9) rfl dX9_make_208 ?_
              obtain rfl := Option.some.inj h
              exact e_m hx hb hr hlk hP hD hS (Nat.le_of_ble_eq_true rfl) (Nat.le_of_ble_eq_true rfl) rfl (by first | rfl | exact (ga_up_lt (by omega)).symm) dX9_make_211
          · replace h := it_F h c12
            cases h
