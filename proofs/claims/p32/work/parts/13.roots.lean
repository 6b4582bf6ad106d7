/-! METHODS as functions, with their contracts, written by wip/p32/sx2.py -/
def f_Ro_frames (n : Nat) (M : cSt)  : Option (Int) := some (gI M 1)
set_option maxHeartbeats 4000000 in
set_option maxRecDepth 100000 in
theorem C_Ro_frames (l : Launch) (G : Nat → Nat) (D : va_G) (K : Nat → ClassId) (sz : Nat) (ga : Nat → Nat) (n : Nat) (M : cSt)  {x : Int} (h : f_Ro_frames n M  = some x) : CM l yX4_frames cX4_frames 1 (some FieldType.int) ({ frames := 0, cells := 0, slots := 0, locals := 0 } : Room) G D K [.ref (ga 1)] (wld ga n (K 0) (K 1) M) sz (CQi (iI x) D (fun _ => wld ga n (K 0) (K 1) M)) := by
  refine CM_of (lv0 := [(0, .ref (ga 1))]) pn_RX4 (Nat.le_of_ble_eq_true rfl) rfl (fun p e s m args below meth c A ls hx hb hr hml hown hts hlk hnm hP hK hD hS hA hm hl => ?_)
  have hown : s.vm.findClass RX4 = some m.cls := hown
  unfold f_Ro_frames at h
  refine lv_aload_n hx hb dX4_frames_0 rfl (lv_at hl 0 rfl) ?_
  refine r_get hx hb hts ok_RX4 hown hK hP 1 go_1 rfl 3 (by decide) w_56 (fun _ h9 => h9) rfl dX4_frames_1 ?_
  obtain rfl := Option.some.inj h
  exact e_i hx hb hr hlk hP hD hS (fun _ => 0) rfl (Nat.le_of_ble_eq_true rfl) (Nat.le_of_ble_eq_true rfl) rfl dX4_frames_4
def f_Ro_addFrame (n : Nat) (M : cSt)  : Option (cSt) := og (inR (gI M 1)) (if gI M 1 < 8 then some (sI M 1 (gI M 1 + 1)) else some M)
set_option maxHeartbeats 4000000 in
set_option maxRecDepth 100000 in
theorem C_Ro_addFrame (l : Launch) (G : Nat → Nat) (D : va_G) (K : Nat → ClassId) (sz : Nat) (ga : Nat → Nat) (n : Nat) (M : cSt)  {x : cSt} (h : f_Ro_addFrame n M  = some x) : CM l yX4_addFrame cX4_addFrame 1 (none : Option FieldType) ({ frames := 0, cells := 0, slots := 0, locals := 0 } : Room) G D K [.ref (ga 1)] (wld ga n (K 0) (K 1) M) sz (CQv D (fun _ => wld ga n (K 0) (K 1) x)) := by
  refine CM_of (lv0 := [(0, .ref (ga 1))]) pn_RX4 (Nat.le_of_ble_eq_true rfl) rfl (fun p e s m args below meth c A ls hx hb hr hml hown hts hlk hnm hP hK hD hS hA hm hl => ?_)
  have hown : s.vm.findClass RX4 = some m.cls := hown
  unfold f_Ro_addFrame at h
  refine lv_aload_n hx hb dX4_addFrame_0 rfl (lv_at hl 0 rfl) ?_
  refine r_get hx hb hts ok_RX4 hown hK hP 1 go_1 rfl 3 (by decide) w_56 (fun _ h9 => h9) rfl dX4_addFrame_1 ?_
  refine lv_bipush (v := iI 8) hx hb dX4_addFrame_4 rfl ?_
  obtain ⟨g1, h⟩ := og_some h
  by_cases c2 : gI M 1 < 8
  · replace h := it_T h c2
    refine i_icmp_ge_F hx hb g1 ⟨by decide, by decide⟩ (tgt := 19) dX4_addFrame_6 (by decide) c2 ?_
    refine lv_aload_n hx hb dX4_addFrame_9 rfl (lv_at hl 0 rfl) ?_
    refine lv_dup hx hb dX4_addFrame_10 rfl ?_
    refine r_get hx hb hts ok_RX4 hown hK hP 1 go_1 rfl 3 (by decide) w_56 (fun _ h9 => h9) rfl dX4_addFrame_11 ?_
    refine lv_iconst (v := iI 1) hx hb dX4_addFrame_14 rfl ?_
    refine lv_iadd hx hb dX4_addFrame_15 ?_
    refine w_toeq (iI_add (gI M 1) 1) ?_
    refine r_put hx hb hts ok_RX4 hown hK hP hD hS 1 go_1 rfl 3 (by decide) w_56 (fun _ h9 => h9) rfl (v := .int (iI (gI M 1 + 1))) rfl rfl (Nat.le_of_ble_eq_true rfl) dX4_addFrame_16 (ws' := wld ga n (K 0) (K 1) (sI M 1 (gI M 1 + 1))) wI_1 (fun H locs hP hD hS => ?_)
    obtain rfl := Option.some.inj h
    exact e_v hx hb hr hlk hP hD hS (fun _ => 0) rfl (Nat.le_of_ble_eq_true rfl) (Nat.le_of_ble_eq_true rfl) dX4_addFrame_19
  · replace h := it_F h c2
    refine i_icmp_ge_T hx hb g1 ⟨by decide, by decide⟩ (tgt := 19) dX4_addFrame_6 (by decide) c2 ?_
    obtain rfl := Option.some.inj h
    exact e_v hx hb hr hlk hP hD hS (fun _ => 0) rfl (Nat.le_of_ble_eq_true rfl) (Nat.le_of_ble_eq_true rfl) dX4_addFrame_19
def f_Ro_indexOf (n : Nat) (M : cSt) (a1 : Int) : Option (Int) := og (inR a1) (if a1 < 0 then some (-1) else if a1 < 4 then some (((gI M 1 - 1) * 4) + a1) else some (-1))
set_option maxHeartbeats 4000000 in
set_option maxRecDepth 100000 in
theorem C_Ro_indexOf (l : Launch) (G : Nat → Nat) (D : va_G) (K : Nat → ClassId) (sz : Nat) (ga : Nat → Nat) (n : Nat) (M : cSt) (a1 : Int) {x : Int} (h : f_Ro_indexOf n M a1 = some x) : CM l yX4_indexOf cX4_indexOf 2 (some FieldType.int) ({ frames := 0, cells := 0, slots := 0, locals := 0 } : Room) G D K [.ref (ga 1), .int (iI a1)] (wld ga n (K 0) (K 1) M) sz (CQi (iI x) D (fun _ => wld ga n (K 0) (K 1) M)) := by
  refine CM_of (lv0 := [(0, .ref (ga 1)), (1, .int (iI a1))]) pn_RX4 (Nat.le_of_ble_eq_true rfl) rfl (fun p e s m args below meth c A ls hx hb hr hml hown hts hlk hnm hP hK hD hS hA hm hl => ?_)
  have hown : s.vm.findClass RX4 = some m.cls := hown
  unfold f_Ro_indexOf at h
  refine lv_iload_n hx hb dX4_indexOf_0 rfl (lv_at hl 1 rfl) ?_
  obtain ⟨g1, h⟩ := og_some h
  by_cases c2 : a1 < 0
  · replace h := it_T h c2
    refine i_if_lt_T hx hb g1 (tgt := 9) dX4_indexOf_1 (by decide) c2 ?_
    refine lv_iconst (v := iI (-1)) hx hb dX4_indexOf_9 rfl ?_
    refine lv_goto (tgt := 23) hx hb dX4_indexOf_10 (by decide) ?_
    obtain rfl := Option.some.inj h
    exact e_i hx hb hr hlk hP hD hS (fun _ => 0) rfl (Nat.le_of_ble_eq_true rfl) (Nat.le_of_ble_eq_true rfl) rfl dX4_indexOf_23
  · replace h := it_F h c2
    refine i_if_lt_F hx hb g1 (tgt := 9) dX4_indexOf_1 (by decide) c2 ?_
    refine lv_iload_n hx hb dX4_indexOf_4 rfl (lv_at hl 1 rfl) ?_
    refine lv_iconst (v := iI 4) hx hb dX4_indexOf_5 rfl ?_
    by_cases c3 : a1 < 4
    · replace h := it_T h c3
      refine i_icmp_lt_T hx hb g1 ⟨by decide, by decide⟩ (tgt := 13) dX4_indexOf_6 (by decide) c3 ?_
      refine lv_aload_n hx hb dX4_indexOf_13 rfl (lv_at hl 0 rfl) ?_
      refine r_get hx hb hts ok_RX4 hown hK hP 1 go_1 rfl 3 (by decide) w_56 (fun _ h9 => h9) rfl dX4_indexOf_14 ?_
      refine lv_iconst (v := iI 1) hx hb dX4_indexOf_17 rfl ?_
      refine lv_isub hx hb dX4_indexOf_18 ?_
      refine w_toeq (iI_sub (gI M 1) 1) ?_
      refine lv_iconst (v := iI 4) hx hb dX4_indexOf_19 rfl ?_
      refine lv_imul hx hb dX4_indexOf_20 ?_
      refine w_toeq (iI_mul (gI M 1 - 1) 4) ?_
      refine lv_iload_n hx hb dX4_indexOf_21 rfl (lv_at hl 1 rfl) ?_
      refine lv_iadd hx hb dX4_indexOf_22 ?_
      refine w_toeq (iI_add ((gI M 1 - 1) * 4) a1) ?_
      obtain rfl := Option.some.inj h
      exact e_i hx hb hr hlk hP hD hS (fun _ => 0) rfl (Nat.le_of_ble_eq_true rfl) (Nat.le_of_ble_eq_true rfl) rfl dX4_indexOf_23
    · replace h := it_F h c3
      refine i_icmp_lt_F hx hb g1 ⟨by decide, by decide⟩ (tgt := 13) dX4_indexOf_6 (by decide) c3 ?_
      refine lv_iconst (v := iI (-1)) hx hb dX4_indexOf_9 rfl ?_
      refine lv_goto (tgt := 23) hx hb dX4_indexOf_10 (by decide) ?_
      obtain rfl := Option.some.inj h
      exact e_i hx hb hr hlk hP hD hS (fun _ => 0) rfl (Nat.le_of_ble_eq_true rfl) (Nat.le_of_ble_eq_true rfl) rfl dX4_indexOf_23
def f_Ro_readSlot (n : Nat) (M : cSt) (a1 : Int) : Option (Option Nat) := ob (f_Ro_indexOf n M a1) (fun x1 => og (inR x1) (if x1 < 0 then some none else if x1 < 32 then og (0 ≤ x1 ∧ x1 < 32) (some (gR M 7 (x1.toNat))) else some none))
set_option maxHeartbeats 4000000 in
set_option maxRecDepth 100000 in
theorem C_Ro_readSlot (l : Launch) (G : Nat → Nat) (D : va_G) (K : Nat → ClassId) (sz : Nat) (ga : Nat → Nat) (n : Nat) (M : cSt) (a1 : Int) {x : Option Nat} (h : f_Ro_readSlot n M a1 = some x) : CM l yX4_readSlot cX4_readSlot 3 (some (FieldType.object "Tenuredale$Thing")) ({ frames := 1, cells := 0, slots := 0, locals := 21 } : Room) G D K [.ref (ga 1), .int (iI a1)] (wld ga n (K 0) (K 1) M) sz (CQq (fun _ => x.map (fun k => ga (25 + 2 * k))) D (fun _ => wld ga n (K 0) (K 1) M)) := by
  refine CM_of (lv0 := [(0, .ref (ga 1)), (1, .int (iI a1))]) pn_RX4 (Nat.le_of_ble_eq_true rfl) rfl (fun p e s m args below meth c A ls hx hb hr hml hown hts hlk hnm hP hK hD hS hA hm hl => ?_)
  have hown : s.vm.findClass RX4 = some m.cls := hown
  unfold f_Ro_readSlot at h
  refine lv_aload_n hx hb dX4_readSlot_0 rfl (lv_at hl 0 rfl) ?_
  refine lv_iload_n hx hb dX4_readSlot_1 rfl (lv_at hl 1 rfl) ?_
  obtain ⟨x1, ex1, h⟩ := ob_some h
  refine gk_i (run_V (rest := []) hx hb hml hown hts hK hP hD hS hA hm (C_Ro_indexOf l G D K s.heap.size ga n M a1 ex1) _ (full_C _) (full_n _ List.nodup_range) mok_yX4_indexOf w_358 w_360 w_p1 (rcv hK hP 1 go_1 rfl rfl) ⟨Nat.le_of_ble_eq_true rfl, Nat.le_of_ble_eq_true rfl⟩ rfl hl.1 rfl (Nat.le_of_ble_eq_true rfl) dX4_readSlot_2 ⟨(Nat.le_of_ble_eq_true rfl), (Nat.le_of_ble_eq_true rfl)⟩) hP hD hS hA (fun u H locs (hP : va_P D cl (wld ga n (K 0) (K 1) M) H) (hD : va_D A (wld ga n (K 0) (K 1) M)) hS => ?_)
  refine x_istore_n hx hb dX4_readSlot_5 rfl hl (by decide) [0, 1] (lv' := [(0, .ref (ga 1)), (1, .int (iI a1))]) rfl (⟨⟨Nat.ne_of_beq_eq_false rfl, Or.inl (Nat.ne_of_beq_eq_false rfl)⟩, ⟨⟨Nat.ne_of_beq_eq_false rfl, Or.inr rfl⟩, trivial⟩⟩) (fun ls hl => ?_)
  refine lv_iload_n hx hb dX4_readSlot_6 rfl (lv_at hl 0 rfl) ?_
  obtain ⟨g2, h⟩ := og_some h
  by_cases c3 : x1 < 0
  · replace h := it_T h c3
    refine i_if_lt_T hx hb g2 (tgt := 28) dX4_readSlot_7 (by decide) c3 ?_
    refine lv_null hx hb dX4_readSlot_28 ?_
    obtain rfl := Option.some.inj h
    exact e_q hx hb hr (Or.inl ⟨_, rfl⟩) hlk hP hD hS (fun _ => 0) rfl (Nat.le_of_ble_eq_true rfl) (Nat.le_of_ble_eq_true rfl) (v := .null) (r := fun _ => (none : Option Nat).map (fun k => ga (25 + 2 * k))) rfl dX4_readSlot_29
  · replace h := it_F h c3
    refine i_if_lt_F hx hb g2 (tgt := 28) dX4_readSlot_7 (by decide) c3 ?_
    refine lv_iload_n hx hb dX4_readSlot_10 rfl (lv_at hl 0 rfl) ?_
    refine lv_aload_n hx hb dX4_readSlot_11 rfl (lv_at hl 1 rfl) ?_
    refine r_get hx hb hts ok_RX4 hown hK hP 1 go_1 rfl 1 (by decide) w_54 (fun _ h9 => h9) rfl dX4_readSlot_12 ?_
    refine i_alen hx hb 22 0 hK hP go_22 rfl rfl (Nat.le_of_ble_eq_true rfl) dX4_readSlot_15 ?_
    refine w_toeq (show iI ((32 : Nat) : Int) = iI 32 from rfl) ?_
    by_cases c4 : x1 < 32
    · replace h := it_T h c4
      refine i_icmp_ge_F hx hb g2 ⟨by decide, by decide⟩ (tgt := 28) dX4_readSlot_16 (by decide) c4 ?_
      refine lv_aload_n hx hb dX4_readSlot_19 rfl (lv_at hl 1 rfl) ?_
      refine r_get hx hb hts ok_RX4 hown hK hP 1 go_1 rfl 1 (by decide) w_54 (fun _ h9 => h9) rfl dX4_readSlot_20 ?_
      refine lv_iload_n hx hb dX4_readSlot_23 rfl (lv_at hl 0 rfl) ?_
      obtain ⟨g5, h⟩ := og_some h
      refine i_aald hx hb 22 0 hK hP go_22 rfl g5.1 g5.2 (Nat.le_of_ble_eq_true rfl) (v := ctv ga (gR M 7 (x1.toNat))) rfl dX4_readSlot_24 ?_
      refine lv_goto (tgt := 29) hx hb dX4_readSlot_25 (by decide) ?_
      obtain rfl := Option.some.inj h
      exact e_q hx hb hr (Or.inl ⟨_, rfl⟩) hlk hP hD hS (fun _ => 0) rfl (Nat.le_of_ble_eq_true rfl) (Nat.le_of_ble_eq_true rfl) (v := ctv ga (gR M 7 (x1.toNat))) (r := fun _ => ((gR M 7 (x1.toNat)) : Option Nat).map (fun k => ga (25 + 2 * k))) rfl dX4_readSlot_29
    · replace h := it_F h c4
      refine i_icmp_ge_T hx hb g2 ⟨by decide, by decide⟩ (tgt := 28) dX4_readSlot_16 (by decide) c4 ?_
      refine lv_null hx hb dX4_readSlot_28 ?_
      obtain rfl := Option.some.inj h
      exact e_q hx hb hr (Or.inl ⟨_, rfl⟩) hlk hP hD hS (fun _ => 0) rfl (Nat.le_of_ble_eq_true rfl) (Nat.le_of_ble_eq_true rfl) (v := .null) (r := fun _ => (none : Option Nat).map (fun k => ga (25 + 2 * k))) rfl dX4_readSlot_29
def f_Ro_writeSlot (n : Nat) (M : cSt) (a1 : Int) (t2 : Option Nat) : Option (cSt) := ob (f_Ro_indexOf n M a1) (fun x1 => og (inR x1) (if x1 < 0 then some M else if x1 < 32 then on t2 (og (0 ≤ x1 ∧ x1 < 32) (some (sR M 7 (x1.toNat) none))) (fun q5 => og (q5 < n) (og (0 ≤ x1 ∧ x1 < 32) (some (sR M 7 (x1.toNat) (some q5))))) else some M))
set_option maxHeartbeats 4000000 in
set_option maxRecDepth 100000 in
theorem C_Ro_writeSlot (l : Launch) (G : Nat → Nat) (D : va_G) (K : Nat → ClassId) (sz : Nat) (ga : Nat → Nat) (n : Nat) (M : cSt) (a1 : Int) (t2 : Option Nat) {x : cSt} (h : f_Ro_writeSlot n M a1 t2 = some x) : CM l yX4_writeSlot cX4_writeSlot 4 (none : Option FieldType) ({ frames := 1, cells := 0, slots := 0, locals := 21 } : Room) G D K [.ref (ga 1), .int (iI a1), ctv ga t2] (wld ga n (K 0) (K 1) M) sz (CQv D (fun _ => wld ga n (K 0) (K 1) x)) := by
  refine CM_of (lv0 := [(0, .ref (ga 1)), (1, .int (iI a1)), (2, ctv ga t2)]) pn_RX4 (by cases t2 <;> exact (Nat.le_of_ble_eq_true rfl)) (by cases t2 <;> rfl) (fun p e s m args below meth c A ls hx hb hr hml hown hts hlk hnm hP hK hD hS hA hm hl => ?_)
  have hown : s.vm.findClass RX4 = some m.cls := hown
  unfold f_Ro_writeSlot at h
  refine lv_aload_n hx hb dX4_writeSlot_0 rfl (lv_at hl 0 rfl) ?_
  refine lv_iload_n hx hb dX4_writeSlot_1 rfl (lv_at hl 1 rfl) ?_
  obtain ⟨x1, ex1, h⟩ := ob_some h
  refine gk_i (run_V (rest := []) hx hb hml hown hts hK hP hD hS hA hm (C_Ro_indexOf l G D K s.heap.size ga n M a1 ex1) _ (full_C _) (full_n _ List.nodup_range) mok_yX4_indexOf w_358 w_360 w_p1 (rcv hK hP 1 go_1 rfl rfl) ⟨Nat.le_of_ble_eq_true rfl, Nat.le_of_ble_eq_true rfl⟩ rfl hl.1 rfl (Nat.le_of_ble_eq_true rfl) dX4_writeSlot_2 ⟨(Nat.le_of_ble_eq_true rfl), (Nat.le_of_ble_eq_true rfl)⟩) hP hD hS hA (fun u H locs (hP : va_P D cl (wld ga n (K 0) (K 1) M) H) (hD : va_D A (wld ga n (K 0) (K 1) M)) hS => ?_)
  refine x_istore_n hx hb dX4_writeSlot_5 rfl hl (by decide) [0, 1, 2] (lv' := [(0, .ref (ga 1)), (1, .int (iI a1)), (2, ctv ga t2)]) rfl (⟨⟨Nat.ne_of_beq_eq_false rfl, Or.inl (Nat.ne_of_beq_eq_false rfl)⟩, ⟨⟨Nat.ne_of_beq_eq_false rfl, Or.inl (Nat.ne_of_beq_eq_false rfl)⟩, ⟨⟨Nat.ne_of_beq_eq_false rfl, Or.inr (ctv_cat _ _)⟩, trivial⟩⟩⟩) (fun ls hl => ?_)
  refine lv_iload_n hx hb dX4_writeSlot_6 rfl (lv_at hl 0 rfl) ?_
  obtain ⟨g2, h⟩ := og_some h
  by_cases c3 : x1 < 0
  · replace h := it_T h c3
    refine i_if_lt_T hx hb g2 (tgt := 26) dX4_writeSlot_7 (by decide) c3 ?_
    obtain rfl := Option.some.inj h
    exact e_v hx hb hr hlk hP hD hS (fun _ => 0) rfl (Nat.le_of_ble_eq_true rfl) (Nat.le_of_ble_eq_true rfl) dX4_writeSlot_26
  · replace h := it_F h c3
    refine i_if_lt_F hx hb g2 (tgt := 26) dX4_writeSlot_7 (by decide) c3 ?_
    refine lv_iload_n hx hb dX4_writeSlot_10 rfl (lv_at hl 0 rfl) ?_
    refine lv_aload_n hx hb dX4_writeSlot_11 rfl (lv_at hl 1 rfl) ?_
    refine r_get hx hb hts ok_RX4 hown hK hP 1 go_1 rfl 1 (by decide) w_54 (fun _ h9 => h9) rfl dX4_writeSlot_12 ?_
    refine i_alen hx hb 22 0 hK hP go_22 rfl rfl (Nat.le_of_ble_eq_true rfl) dX4_writeSlot_15 ?_
    refine w_toeq (show iI ((32 : Nat) : Int) = iI 32 from rfl) ?_
    by_cases c4 : x1 < 32
    · replace h := it_T h c4
      refine i_icmp_ge_F hx hb g2 ⟨by decide, by decide⟩ (tgt := 26) dX4_writeSlot_16 (by decide) c4 ?_
      refine lv_aload_n hx hb dX4_writeSlot_19 rfl (lv_at hl 1 rfl) ?_
      refine r_get hx hb hts ok_RX4 hown hK hP 1 go_1 rfl 1 (by decide) w_54 (fun _ h9 => h9) rfl dX4_writeSlot_20 ?_
      refine lv_iload_n hx hb dX4_writeSlot_23 rfl (lv_at hl 0 rfl) ?_
      refine t_aload_n hx hb dX4_writeSlot_24 rfl (lv_at hl 3 rfl) ?_
      rcases on_cases h with ⟨z5, h⟩ | ⟨q5, z5, h⟩
      · rw [ctv_none ga z5]
        obtain ⟨g6, h⟩ := og_some h
        refine i_aastN hx hb 22 0 (ws' := wld ga n (K 0) (K 1) (sR M 7 (x1.toNat) none)) hK hP hD hS go_22 rfl g6.1 g6.2 (Nat.le_of_ble_eq_true rfl) dX4_writeSlot_25 (wR7 (v := none)) (fun H locs hP hD hS => ?_)
        obtain rfl := Option.some.inj h
        exact e_v hx hb hr hlk hP hD hS (fun _ => 0) rfl (Nat.le_of_ble_eq_true rfl) (Nat.le_of_ble_eq_true rfl) dX4_writeSlot_26
      · obtain ⟨hq5, h⟩ := og_some h
        rw [ctv_some ga z5]
        obtain ⟨g7, h⟩ := og_some h
        refine i_aast hx hb 22 0 (ws' := wld ga n (K 0) (K 1) (sR M 7 (x1.toNat) (some q5))) hK hP hD hS go_22 rfl (any_S hK hP (25 + 2 * q5) (go_th hq5) rfl rfl) g7.1 g7.2 (Nat.le_of_ble_eq_true rfl) dX4_writeSlot_25 (wR7 (v := (some q5))) (fun H locs hP hD hS => ?_)
        obtain rfl := Option.some.inj h
        exact e_v hx hb hr hlk hP hD hS (fun _ => 0) rfl (Nat.le_of_ble_eq_true rfl) (Nat.le_of_ble_eq_true rfl) dX4_writeSlot_26
    · replace h := it_F h c4
      refine i_icmp_ge_T hx hb g2 ⟨by decide, by decide⟩ (tgt := 26) dX4_writeSlot_16 (by decide) c4 ?_
      obtain rfl := Option.some.inj h
      exact e_v hx hb hr hlk hP hD hS (fun _ => 0) rfl (Nat.le_of_ble_eq_true rfl) (Nat.le_of_ble_eq_true rfl) dX4_writeSlot_26
def s_Ro_dropFrame_2 (rec : cSt → Int → Option (cSt)) (n : Nat)  (M : cSt) (v1 : Int) : Option (cSt) := og (inR v1) (if v1 < 4 then ob (f_Ro_writeSlot n M v1 none) (fun x3 => rec x3 (v1 + 1)) else some M)
def g_Ro_dropFrame_2 (n : Nat)  : Nat → cSt → Int → Option (cSt)
  | 0 => fun _ _ => none
  | q + 1 => s_Ro_dropFrame_2 (g_Ro_dropFrame_2 n  q) n 
set_option maxHeartbeats 4000000 in
set_option maxRecDepth 100000 in
theorem L_Ro_dropFrame_2 {p : Program} {l : Launch} {G : Nat → Nat} {D : va_G} {K : Nat → ClassId} {e : Env} {s : State} {m : MethodId} {args : Array Value} {below : List Frame} {meth : Method} {c : Code} {A : Nat → Prop} (hx : p.tables.exec = Jvm.exec) (hb : c.code = cX4_dropFrame) (hr : meth.sig.returnType = (none : Option FieldType)) (hml : c.maxLocals = 2) (hown : s.vm.findClass RX4 = some m.cls) (hts : ∀ w ∈ lw_gw, w.before args s = true) (hlk : meth.locks = false) (hK : va_K D cl (tys K) s) (hA : ∀ q : Nat, s.heap.size ≤ q → A q) (hm : Amb G A s s.heap) {Q : State → Prop} (ga : Nat → Nat) (n : Nat)  : ∀ (q : Nat) (M : cSt) (v1 : Int) (out : cSt), g_Ro_dropFrame_2 n  q M v1 = some out → ∀ (ls : Array Slot) (H : Heap) (locs : List Loc), va_P D cl (wld ga n (K 0) (K 1) M) H → va_D A (wld ga n (K 0) (K 1) M) → va_S A s.heap H locs → lv_has ls 2 [(0, .ref (ga 1)), (1, .int (iI v1))] → (∀ (ls : Array Slot) (H : Heap) (locs : List Loc), va_P D cl (wld ga n (K 0) (K 1) out) H → va_D A (wld ga n (K 0) (K 1) out) → va_S A s.heap H locs → lv_has ls 2 [(0, .ref (ga 1))] → W p l e ({ frames := 2, cells := 0, slots := 0, locals := 44 } : Room) s m args below meth c H locs 0 0 Q (F0 m 19 ls [])) → W p l e ({ frames := 2, cells := 0, slots := 0, locals := 44 } : Room) s m args below meth c H locs 0 0 Q (F0 m 2 ls []) := by
  intro q
  induction q with
  | zero =>
    intro M v1 out h
    cases (show none = some out from h)
  | succ q ih =>
    intro M v1 out h ls H locs hP hD hS hl kk
    replace h : s_Ro_dropFrame_2 (g_Ro_dropFrame_2 n  q) n  M v1 = some out := h
    unfold s_Ro_dropFrame_2 at h
    refine lv_iload_n hx hb dX4_dropFrame_2 rfl (lv_at hl 1 rfl) ?_
    refine lv_iconst (v := iI 4) hx hb dX4_dropFrame_3 rfl ?_
    obtain ⟨g1, h⟩ := og_some h
    by_cases c2 : v1 < 4
    · replace h := it_T h c2
      refine i_icmp_ge_F hx hb g1 ⟨by decide, by decide⟩ (tgt := 19) dX4_dropFrame_4 (by decide) c2 ?_
      refine lv_aload_n hx hb dX4_dropFrame_7 rfl (lv_at hl 0 rfl) ?_
      refine lv_iload_n hx hb dX4_dropFrame_8 rfl (lv_at hl 1 rfl) ?_
      refine lv_null hx hb dX4_dropFrame_9 ?_
      obtain ⟨x3, ex3, h⟩ := ob_some h
      refine gk_v (run_V (rest := []) hx hb hml hown hts hK hP hD hS hA hm (C_Ro_writeSlot l G D K H.size ga n M v1 none ex3) _ (full_C _) (full_n _ List.nodup_range) mok_yX4_writeSlot w_354 w_355 w_356 (rcv hK hP 1 go_1 rfl rfl) ⟨Nat.le_of_ble_eq_true rfl, Nat.le_of_ble_eq_true rfl⟩ rfl hl.1 rfl (Nat.le_of_ble_eq_true rfl) dX4_dropFrame_10 ⟨(Nat.le_of_ble_eq_true rfl), (Nat.le_of_ble_eq_true rfl)⟩) hP hD hS hA (fun u H locs (hP : va_P D cl (wld ga n (K 0) (K 1) x3) H) (hD : va_D A (wld ga n (K 0) (K 1) x3)) hS => ?_)
      refine x_iinc (v := iI (v1 + 1)) hx hb dX4_dropFrame_13 hl (k := 1) rfl (iI_add v1 1) (by decide) [0] (lv' := [(0, .ref (ga 1))]) rfl (⟨⟨Nat.ne_of_beq_eq_false rfl, Or.inr rfl⟩, trivial⟩) (fun ls hl => ?_)
      refine lv_goto (tgt := 2) hx hb dX4_dropFrame_16 (by decide) ?_
      exact ih x3 (v1 + 1) _ h _ _ _ hP hD hS (lv_pk hl [1, 0] rfl) kk
    · replace h := it_F h c2
      refine i_icmp_ge_T hx hb g1 ⟨by decide, by decide⟩ (tgt := 19) dX4_dropFrame_4 (by decide) c2 ?_
      obtain rfl := Option.some.inj h
      exact kk _ _ _ hP hD hS (lv_pk hl [0] rfl)
def f_Ro_dropFrame (n : Nat) (M : cSt)  : Option (cSt) := ob (g_Ro_dropFrame_2 n  fu M 0) (fun x4 => og (inR (gI x4 1)) (if 1 < gI x4 1 then some (sI x4 1 (gI x4 1 - 1)) else some x4))
set_option maxHeartbeats 4000000 in
set_option maxRecDepth 100000 in
theorem C_Ro_dropFrame (l : Launch) (G : Nat → Nat) (D : va_G) (K : Nat → ClassId) (sz : Nat) (ga : Nat → Nat) (n : Nat) (M : cSt)  {x : cSt} (h : f_Ro_dropFrame n M  = some x) : CM l yX4_dropFrame cX4_dropFrame 2 (none : Option FieldType) ({ frames := 2, cells := 0, slots := 0, locals := 44 } : Room) G D K [.ref (ga 1)] (wld ga n (K 0) (K 1) M) sz (CQv D (fun _ => wld ga n (K 0) (K 1) x)) := by
  refine CM_of (lv0 := [(0, .ref (ga 1))]) pn_RX4 (Nat.le_of_ble_eq_true rfl) rfl (fun p e s m args below meth c A ls hx hb hr hml hown hts hlk hnm hP hK hD hS hA hm hl => ?_)
  have hown : s.vm.findClass RX4 = some m.cls := hown
  unfold f_Ro_dropFrame at h
  refine lv_iconst (v := iI 0) hx hb dX4_dropFrame_0 rfl ?_
  refine x_istore_n hx hb dX4_dropFrame_1 rfl hl (by decide) [0] (lv' := [(0, .ref (ga 1))]) rfl (⟨⟨Nat.ne_of_beq_eq_false rfl, Or.inr rfl⟩, trivial⟩) (fun ls hl => ?_)
  obtain ⟨x4, ex4, h⟩ := ob_some h
  refine L_Ro_dropFrame_2 hx hb hr hml hown hts hlk hK hA hm ga n   fu M 0 _ ex4 _ _ _ hP hD hS (lv_pk hl [1, 0] rfl) (fun ls H locs (hP : va_P D cl (wld ga n (K 0) (K 1) x4) H) (hD : va_D A (wld ga n (K 0) (K 1) x4)) hS (hl : lv_has ls 2 [(0, .ref (ga 1))]) => ?_)
  refine lv_aload_n hx hb dX4_dropFrame_19 rfl (lv_at hl 0 rfl) ?_
  refine r_get hx hb hts ok_RX4 hown hK hP 1 go_1 rfl 3 (by decide) w_56 (fun _ h9 => h9) rfl dX4_dropFrame_20 ?_
  refine lv_iconst (v := iI 1) hx hb dX4_dropFrame_23 rfl ?_
  obtain ⟨g5, h⟩ := og_some h
  by_cases c6 : 1 < gI x4 1
  · replace h := it_T h c6
    refine i_icmp_le_F hx hb g5 ⟨by decide, by decide⟩ (tgt := 37) dX4_dropFrame_24 (by decide) c6 ?_
    refine lv_aload_n hx hb dX4_dropFrame_27 rfl (lv_at hl 0 rfl) ?_
    refine lv_dup hx hb dX4_dropFrame_28 rfl ?_
    refine r_get hx hb hts ok_RX4 hown hK hP 1 go_1 rfl 3 (by decide) w_56 (fun _ h9 => h9) rfl dX4_dropFrame_29 ?_
    refine lv_iconst (v := iI 1) hx hb dX4_dropFrame_32 rfl ?_
    refine lv_isub hx hb dX4_dropFrame_33 ?_
    refine w_toeq (iI_sub (gI x4 1) 1) ?_
    refine r_put hx hb hts ok_RX4 hown hK hP hD hS 1 go_1 rfl 3 (by decide) w_56 (fun _ h9 => h9) rfl (v := .int (iI (gI x4 1 - 1))) rfl rfl (Nat.le_of_ble_eq_true rfl) dX4_dropFrame_34 (ws' := wld ga n (K 0) (K 1) (sI x4 1 (gI x4 1 - 1))) wI_1 (fun H locs hP hD hS => ?_)
    obtain rfl := Option.some.inj h
    exact e_v hx hb hr hlk hP hD hS (fun _ => 0) rfl (Nat.le_of_ble_eq_true rfl) (Nat.le_of_ble_eq_true rfl) dX4_dropFrame_37
  · replace h := it_F h c6
    refine i_icmp_le_T hx hb g5 ⟨by decide, by decide⟩ (tgt := 37) dX4_dropFrame_24 (by decide) c6 ?_
    obtain rfl := Option.some.inj h
    exact e_v hx hb hr hlk hP hD hS (fun _ => 0) rfl (Nat.le_of_ble_eq_true rfl) (Nat.le_of_ble_eq_true rfl) dX4_dropFrame_37
def f_Ro_readGlobal (n : Nat) (M : cSt) (a1 : Int) : Option (Option Nat) := og (inR a1) (if a1 < 0 then some none else if a1 < 4 then og (0 ≤ a1 ∧ a1 < 4) (some (gR M 8 (a1.toNat))) else some none)
set_option maxHeartbeats 4000000 in
set_option maxRecDepth 100000 in
theorem C_Ro_readGlobal (l : Launch) (G : Nat → Nat) (D : va_G) (K : Nat → ClassId) (sz : Nat) (ga : Nat → Nat) (n : Nat) (M : cSt) (a1 : Int) {x : Option Nat} (h : f_Ro_readGlobal n M a1 = some x) : CM l yX4_readGlobal cX4_readGlobal 2 (some (FieldType.object "Tenuredale$Thing")) ({ frames := 0, cells := 0, slots := 0, locals := 0 } : Room) G D K [.ref (ga 1), .int (iI a1)] (wld ga n (K 0) (K 1) M) sz (CQq (fun _ => x.map (fun k => ga (25 + 2 * k))) D (fun _ => wld ga n (K 0) (K 1) M)) := by
  refine CM_of (lv0 := [(0, .ref (ga 1)), (1, .int (iI a1))]) pn_RX4 (Nat.le_of_ble_eq_true rfl) rfl (fun p e s m args below meth c A ls hx hb hr hml hown hts hlk hnm hP hK hD hS hA hm hl => ?_)
  have hown : s.vm.findClass RX4 = some m.cls := hown
  unfold f_Ro_readGlobal at h
  refine lv_iload_n hx hb dX4_readGlobal_0 rfl (lv_at hl 1 rfl) ?_
  obtain ⟨g1, h⟩ := og_some h
  by_cases c2 : a1 < 0
  · replace h := it_T h c2
    refine i_if_lt_T hx hb g1 (tgt := 22) dX4_readGlobal_1 (by decide) c2 ?_
    refine lv_null hx hb dX4_readGlobal_22 ?_
    obtain rfl := Option.some.inj h
    exact e_q hx hb hr (Or.inl ⟨_, rfl⟩) hlk hP hD hS (fun _ => 0) rfl (Nat.le_of_ble_eq_true rfl) (Nat.le_of_ble_eq_true rfl) (v := .null) (r := fun _ => (none : Option Nat).map (fun k => ga (25 + 2 * k))) rfl dX4_readGlobal_23
  · replace h := it_F h c2
    refine i_if_lt_F hx hb g1 (tgt := 22) dX4_readGlobal_1 (by decide) c2 ?_
    refine lv_iload_n hx hb dX4_readGlobal_4 rfl (lv_at hl 1 rfl) ?_
    refine lv_aload_n hx hb dX4_readGlobal_5 rfl (lv_at hl 0 rfl) ?_
    refine r_get hx hb hts ok_RX4 hown hK hP 1 go_1 rfl 2 (by decide) w_55 (fun _ h9 => h9) rfl dX4_readGlobal_6 ?_
    refine i_alen hx hb 23 0 hK hP go_23 rfl rfl (Nat.le_of_ble_eq_true rfl) dX4_readGlobal_9 ?_
    refine w_toeq (show iI ((4 : Nat) : Int) = iI 4 from rfl) ?_
    by_cases c3 : a1 < 4
    · replace h := it_T h c3
      refine i_icmp_ge_F hx hb g1 ⟨by decide, by decide⟩ (tgt := 22) dX4_readGlobal_10 (by decide) c3 ?_
      refine lv_aload_n hx hb dX4_readGlobal_13 rfl (lv_at hl 0 rfl) ?_
      refine r_get hx hb hts ok_RX4 hown hK hP 1 go_1 rfl 2 (by decide) w_55 (fun _ h9 => h9) rfl dX4_readGlobal_14 ?_
      refine lv_iload_n hx hb dX4_readGlobal_17 rfl (lv_at hl 1 rfl) ?_
      obtain ⟨g4, h⟩ := og_some h
      refine i_aald hx hb 23 0 hK hP go_23 rfl g4.1 g4.2 (Nat.le_of_ble_eq_true rfl) (v := ctv ga (gR M 8 (a1.toNat))) rfl dX4_readGlobal_18 ?_
      refine lv_goto (tgt := 23) hx hb dX4_readGlobal_19 (by decide) ?_
      obtain rfl := Option.some.inj h
      exact e_q hx hb hr (Or.inl ⟨_, rfl⟩) hlk hP hD hS (fun _ => 0) rfl (Nat.le_of_ble_eq_true rfl) (Nat.le_of_ble_eq_true rfl) (v := ctv ga (gR M 8 (a1.toNat))) (r := fun _ => ((gR M 8 (a1.toNat)) : Option Nat).map (fun k => ga (25 + 2 * k))) rfl dX4_readGlobal_23
    · replace h := it_F h c3
      refine i_icmp_ge_T hx hb g1 ⟨by decide, by decide⟩ (tgt := 22) dX4_readGlobal_10 (by decide) c3 ?_
      refine lv_null hx hb dX4_readGlobal_22 ?_
      obtain rfl := Option.some.inj h
      exact e_q hx hb hr (Or.inl ⟨_, rfl⟩) hlk hP hD hS (fun _ => 0) rfl (Nat.le_of_ble_eq_true rfl) (Nat.le_of_ble_eq_true rfl) (v := .null) (r := fun _ => (none : Option Nat).map (fun k => ga (25 + 2 * k))) rfl dX4_readGlobal_23
def f_Ro_writeGlobal (n : Nat) (M : cSt) (a1 : Int) (t2 : Option Nat) : Option (cSt) := og (inR a1) (if a1 < 0 then some M else if a1 < 4 then on t2 (og (0 ≤ a1 ∧ a1 < 4) (some (sR M 8 (a1.toNat) none))) (fun q4 => og (q4 < n) (og (0 ≤ a1 ∧ a1 < 4) (some (sR M 8 (a1.toNat) (some q4))))) else some M)
set_option maxHeartbeats 4000000 in
set_option maxRecDepth 100000 in
theorem C_Ro_writeGlobal (l : Launch) (G : Nat → Nat) (D : va_G) (K : Nat → ClassId) (sz : Nat) (ga : Nat → Nat) (n : Nat) (M : cSt) (a1 : Int) (t2 : Option Nat) {x : cSt} (h : f_Ro_writeGlobal n M a1 t2 = some x) : CM l yX4_writeGlobal cX4_writeGlobal 3 (none : Option FieldType) ({ frames := 0, cells := 0, slots := 0, locals := 0 } : Room) G D K [.ref (ga 1), .int (iI a1), ctv ga t2] (wld ga n (K 0) (K 1) M) sz (CQv D (fun _ => wld ga n (K 0) (K 1) x)) := by
  refine CM_of (lv0 := [(0, .ref (ga 1)), (1, .int (iI a1)), (2, ctv ga t2)]) pn_RX4 (by cases t2 <;> exact (Nat.le_of_ble_eq_true rfl)) (by cases t2 <;> rfl) (fun p e s m args below meth c A ls hx hb hr hml hown hts hlk hnm hP hK hD hS hA hm hl => ?_)
  have hown : s.vm.findClass RX4 = some m.cls := hown
  unfold f_Ro_writeGlobal at h
  refine lv_iload_n hx hb dX4_writeGlobal_0 rfl (lv_at hl 1 rfl) ?_
  obtain ⟨g1, h⟩ := og_some h
  by_cases c2 : a1 < 0
  · replace h := it_T h c2
    refine i_if_lt_T hx hb g1 (tgt := 20) dX4_writeGlobal_1 (by decide) c2 ?_
    obtain rfl := Option.some.inj h
    exact e_v hx hb hr hlk hP hD hS (fun _ => 0) rfl (Nat.le_of_ble_eq_true rfl) (Nat.le_of_ble_eq_true rfl) dX4_writeGlobal_20
  · replace h := it_F h c2
    refine i_if_lt_F hx hb g1 (tgt := 20) dX4_writeGlobal_1 (by decide) c2 ?_
    refine lv_iload_n hx hb dX4_writeGlobal_4 rfl (lv_at hl 1 rfl) ?_
    refine lv_aload_n hx hb dX4_writeGlobal_5 rfl (lv_at hl 0 rfl) ?_
    refine r_get hx hb hts ok_RX4 hown hK hP 1 go_1 rfl 2 (by decide) w_55 (fun _ h9 => h9) rfl dX4_writeGlobal_6 ?_
    refine i_alen hx hb 23 0 hK hP go_23 rfl rfl (Nat.le_of_ble_eq_true rfl) dX4_writeGlobal_9 ?_
    refine w_toeq (show iI ((4 : Nat) : Int) = iI 4 from rfl) ?_
    by_cases c3 : a1 < 4
    · replace h := it_T h c3
      refine i_icmp_ge_F hx hb g1 ⟨by decide, by decide⟩ (tgt := 20) dX4_writeGlobal_10 (by decide) c3 ?_
      refine lv_aload_n hx hb dX4_writeGlobal_13 rfl (lv_at hl 0 rfl) ?_
      refine r_get hx hb hts ok_RX4 hown hK hP 1 go_1 rfl 2 (by decide) w_55 (fun _ h9 => h9) rfl dX4_writeGlobal_14 ?_
      refine lv_iload_n hx hb dX4_writeGlobal_17 rfl (lv_at hl 1 rfl) ?_
      refine t_aload_n hx hb dX4_writeGlobal_18 rfl (lv_at hl 2 rfl) ?_
      rcases on_cases h with ⟨z4, h⟩ | ⟨q4, z4, h⟩
      · rw [ctv_none ga z4]
        obtain ⟨g5, h⟩ := og_some h
        refine i_aastN hx hb 23 0 (ws' := wld ga n (K 0) (K 1) (sR M 8 (a1.toNat) none)) hK hP hD hS go_23 rfl g5.1 g5.2 (Nat.le_of_ble_eq_true rfl) dX4_writeGlobal_19 (wR8 (v := none)) (fun H locs hP hD hS => ?_)
        obtain rfl := Option.some.inj h
        exact e_v hx hb hr hlk hP hD hS (fun _ => 0) rfl (Nat.le_of_ble_eq_true rfl) (Nat.le_of_ble_eq_true rfl) dX4_writeGlobal_20
      · obtain ⟨hq4, h⟩ := og_some h
        rw [ctv_some ga z4]
        obtain ⟨g6, h⟩ := og_some h
        refine i_aast hx hb 23 0 (ws' := wld ga n (K 0) (K 1) (sR M 8 (a1.toNat) (some q4))) hK hP hD hS go_23 rfl (any_S hK hP (25 + 2 * q4) (go_th hq4) rfl rfl) g6.1 g6.2 (Nat.le_of_ble_eq_true rfl) dX4_writeGlobal_19 (wR8 (v := (some q4))) (fun H locs hP hD hS => ?_)
        obtain rfl := Option.some.inj h
        exact e_v hx hb hr hlk hP hD hS (fun _ => 0) rfl (Nat.le_of_ble_eq_true rfl) (Nat.le_of_ble_eq_true rfl) dX4_writeGlobal_20
    · replace h := it_F h c3
      refine i_icmp_ge_T hx hb g1 ⟨by decide, by decide⟩ (tgt := 20) dX4_writeGlobal_10 (by decide) c3 ?_
      obtain rfl := Option.some.inj h
      exact e_v hx hb hr hlk hP hD hS (fun _ => 0) rfl (Nat.le_of_ble_eq_true rfl) (Nat.le_of_ble_eq_true rfl) dX4_writeGlobal_20
def f_Ro_count (n : Nat) (M : cSt)  : Option (Int) := ob (f_Row_size n M 1) (fun x1 => some (((gI M 1 * 4) + 4) + x1))
set_option maxHeartbeats 4000000 in
set_option maxRecDepth 100000 in
theorem C_Ro_count (l : Launch) (G : Nat → Nat) (D : va_G) (K : Nat → ClassId) (sz : Nat) (ga : Nat → Nat) (n : Nat) (M : cSt)  {x : Int} (h : f_Ro_count n M  = some x) : CM l yX4_count cX4_count 1 (some FieldType.int) ({ frames := 1, cells := 0, slots := 0, locals := 20 } : Room) G D K [.ref (ga 1)] (wld ga n (K 0) (K 1) M) sz (CQi (iI x) D (fun _ => wld ga n (K 0) (K 1) M)) := by
  refine CM_of (lv0 := [(0, .ref (ga 1))]) pn_RX4 (Nat.le_of_ble_eq_true rfl) rfl (fun p e s m args below meth c A ls hx hb hr hml hown hts hlk hnm hP hK hD hS hA hm hl => ?_)
  have hown : s.vm.findClass RX4 = some m.cls := hown
  unfold f_Ro_count at h
  refine lv_aload_n hx hb dX4_count_0 rfl (lv_at hl 0 rfl) ?_
  refine r_get hx hb hts ok_RX4 hown hK hP 1 go_1 rfl 3 (by decide) w_56 (fun _ h9 => h9) rfl dX4_count_1 ?_
  refine lv_iconst (v := iI 4) hx hb dX4_count_4 rfl ?_
  refine lv_imul hx hb dX4_count_5 ?_
  refine w_toeq (iI_mul (gI M 1) 4) ?_
  refine lv_iconst (v := iI 4) hx hb dX4_count_6 rfl ?_
  refine lv_iadd hx hb dX4_count_7 ?_
  refine w_toeq (iI_add (gI M 1 * 4) 4) ?_
  refine lv_aload_n hx hb dX4_count_8 rfl (lv_at hl 0 rfl) ?_
  refine r_get hx hb hts ok_RX4 hown hK hP 1 go_1 rfl 0 (by decide) w_50 (fun _ h9 => h9) rfl dX4_count_9 ?_
  obtain ⟨x1, ex1, h⟩ := ob_some h
  refine gk_i (run_V (rest := [.int (iI ((gI M 1 * 4) + 4))]) hx hb hml hown hts hK hP hD hS hA hm (C_Row_size l G D K s.heap.size ga n M 1 (by decide) ex1) _ (full_C _) (full_n _ List.nodup_range) mok_yX5_size w_472 w_405 w_406 (rcv hK hP (8 + 1) (go_ro (by decide)) rfl rfl) ⟨Nat.le_of_ble_eq_true rfl, Nat.le_of_ble_eq_true rfl⟩ rfl hl.1 rfl (Nat.le_of_ble_eq_true rfl) dX4_count_12 ⟨(Nat.le_of_ble_eq_true rfl), (Nat.le_of_ble_eq_true rfl)⟩) hP hD hS hA (fun u H locs (hP : va_P D cl (wld ga n (K 0) (K 1) M) H) (hD : va_D A (wld ga n (K 0) (K 1) M)) hS => ?_)
  refine lv_iadd hx hb dX4_count_15 ?_
  refine w_toeq (iI_add ((gI M 1 * 4) + 4) x1) ?_
  obtain rfl := Option.some.inj h
  exact e_i hx hb hr hlk hP hD hS (fun _ => 0) rfl (Nat.le_of_ble_eq_true rfl) (Nat.le_of_ble_eq_true rfl) rfl dX4_count_16
def f_Ro_root (n : Nat) (M : cSt) (a1 : Int) : Option (Option Nat) := og (inR a1) (og (inR (gI M 1 * 4)) (if a1 < (gI M 1 * 4) then if a1 < 0 then some none else if a1 < 32 then og (0 ≤ a1 ∧ a1 < 32) (some (gR M 7 (a1.toNat))) else some none else og (inR (a1 - (gI M 1 * 4))) (if (a1 - (gI M 1 * 4)) < 4 then ob (f_Ro_readGlobal n M (a1 - (gI M 1 * 4))) (fun x9 => some x9) else ob (f_Row_item n M 1 ((a1 - (gI M 1 * 4)) - 4)) (fun x10 => some x10))))
set_option maxHeartbeats 4000000 in
set_option maxRecDepth 100000 in
theorem C_Ro_root (l : Launch) (G : Nat → Nat) (D : va_G) (K : Nat → ClassId) (sz : Nat) (ga : Nat → Nat) (n : Nat) (M : cSt) (a1 : Int) {x : Option Nat} (h : f_Ro_root n M a1 = some x) : CM l yX4_root cX4_root 4 (some (FieldType.object "Tenuredale$Thing")) ({ frames := 1, cells := 0, slots := 0, locals := 21 } : Room) G D K [.ref (ga 1), .int (iI a1)] (wld ga n (K 0) (K 1) M) sz (CQq (fun _ => x.map (fun k => ga (25 + 2 * k))) D (fun _ => wld ga n (K 0) (K 1) M)) := by
  refine CM_of (lv0 := [(0, .ref (ga 1)), (1, .int (iI a1))]) pn_RX4 (Nat.le_of_ble_eq_true rfl) rfl (fun p e s m args below meth c A ls hx hb hr hml hown hts hlk hnm hP hK hD hS hA hm hl => ?_)
  have hown : s.vm.findClass RX4 = some m.cls := hown
  unfold f_Ro_root at h
  refine lv_aload_n hx hb dX4_root_0 rfl (lv_at hl 0 rfl) ?_
  refine r_get hx hb hts ok_RX4 hown hK hP 1 go_1 rfl 3 (by decide) w_56 (fun _ h9 => h9) rfl dX4_root_1 ?_
  refine lv_iconst (v := iI 4) hx hb dX4_root_4 rfl ?_
  refine lv_imul hx hb dX4_root_5 ?_
  refine w_toeq (iI_mul (gI M 1) 4) ?_
  refine x_istore_n hx hb dX4_root_6 rfl hl (by decide) [0, 1] (lv' := [(0, .ref (ga 1)), (1, .int (iI a1))]) rfl (⟨⟨Nat.ne_of_beq_eq_false rfl, Or.inl (Nat.ne_of_beq_eq_false rfl)⟩, ⟨⟨Nat.ne_of_beq_eq_false rfl, Or.inr rfl⟩, trivial⟩⟩) (fun ls hl => ?_)
  refine lv_iload_n hx hb dX4_root_7 rfl (lv_at hl 2 rfl) ?_
  refine lv_iload_n hx hb dX4_root_8 rfl (lv_at hl 0 rfl) ?_
  obtain ⟨g1, h⟩ := og_some h
  obtain ⟨g2, h⟩ := og_some h
  by_cases c3 : a1 < (gI M 1 * 4)
  · replace h := it_T h c3
    refine i_icmp_ge_F hx hb g1 g2 (tgt := 36) dX4_root_9 (by decide) c3 ?_
    refine lv_iload_n hx hb dX4_root_12 rfl (lv_at hl 2 rfl) ?_
    by_cases c4 : a1 < 0
    · replace h := it_T h c4
      refine i_if_lt_T hx hb g1 (tgt := 34) dX4_root_13 (by decide) c4 ?_
      refine lv_null hx hb dX4_root_34 ?_
      obtain rfl := Option.some.inj h
      exact e_q hx hb hr (Or.inl ⟨_, rfl⟩) hlk hP hD hS (fun _ => 0) rfl (Nat.le_of_ble_eq_true rfl) (Nat.le_of_ble_eq_true rfl) (v := .null) (r := fun _ => (none : Option Nat).map (fun k => ga (25 + 2 * k))) rfl dX4_root_35
    · replace h := it_F h c4
      refine i_if_lt_F hx hb g1 (tgt := 34) dX4_root_13 (by decide) c4 ?_
      refine lv_iload_n hx hb dX4_root_16 rfl (lv_at hl 2 rfl) ?_
      refine lv_aload_n hx hb dX4_root_17 rfl (lv_at hl 1 rfl) ?_
      refine r_get hx hb hts ok_RX4 hown hK hP 1 go_1 rfl 1 (by decide) w_54 (fun _ h9 => h9) rfl dX4_root_18 ?_
      refine i_alen hx hb 22 0 hK hP go_22 rfl rfl (Nat.le_of_ble_eq_true rfl) dX4_root_21 ?_
      refine w_toeq (show iI ((32 : Nat) : Int) = iI 32 from rfl) ?_
      by_cases c5 : a1 < 32
      · replace h := it_T h c5
        refine i_icmp_ge_F hx hb g1 ⟨by decide, by decide⟩ (tgt := 34) dX4_root_22 (by decide) c5 ?_
        refine lv_aload_n hx hb dX4_root_25 rfl (lv_at hl 1 rfl) ?_
        refine r_get hx hb hts ok_RX4 hown hK hP 1 go_1 rfl 1 (by decide) w_54 (fun _ h9 => h9) rfl dX4_root_26 ?_
        refine lv_iload_n hx hb dX4_root_29 rfl (lv_at hl 2 rfl) ?_
        obtain ⟨g6, h⟩ := og_some h
        refine i_aald hx hb 22 0 hK hP go_22 rfl g6.1 g6.2 (Nat.le_of_ble_eq_true rfl) (v := ctv ga (gR M 7 (a1.toNat))) rfl dX4_root_30 ?_
        refine lv_goto (tgt := 35) hx hb dX4_root_31 (by decide) ?_
        obtain rfl := Option.some.inj h
        exact e_q hx hb hr (Or.inl ⟨_, rfl⟩) hlk hP hD hS (fun _ => 0) rfl (Nat.le_of_ble_eq_true rfl) (Nat.le_of_ble_eq_true rfl) (v := ctv ga (gR M 7 (a1.toNat))) (r := fun _ => ((gR M 7 (a1.toNat)) : Option Nat).map (fun k => ga (25 + 2 * k))) rfl dX4_root_35
      · replace h := it_F h c5
        refine i_icmp_ge_T hx hb g1 ⟨by decide, by decide⟩ (tgt := 34) dX4_root_22 (by decide) c5 ?_
        refine lv_null hx hb dX4_root_34 ?_
        obtain rfl := Option.some.inj h
        exact e_q hx hb hr (Or.inl ⟨_, rfl⟩) hlk hP hD hS (fun _ => 0) rfl (Nat.le_of_ble_eq_true rfl) (Nat.le_of_ble_eq_true rfl) (v := .null) (r := fun _ => (none : Option Nat).map (fun k => ga (25 + 2 * k))) rfl dX4_root_35
  · replace h := it_F h c3
    refine i_icmp_ge_T hx hb g1 g2 (tgt := 36) dX4_root_9 (by decide) c3 ?_
    refine lv_iload_n hx hb dX4_root_36 rfl (lv_at hl 2 rfl) ?_
    refine lv_iload_n hx hb dX4_root_37 rfl (lv_at hl 0 rfl) ?_
    refine lv_isub hx hb dX4_root_38 ?_
    refine w_toeq (iI_sub a1 (gI M 1 * 4)) ?_
    refine x_istore_n hx hb dX4_root_39 rfl hl (by decide) [0, 1, 2] (lv' := [(2, .int (iI (gI M 1 * 4))), (0, .ref (ga 1)), (1, .int (iI a1))]) rfl (⟨⟨Nat.ne_of_beq_eq_false rfl, Or.inr rfl⟩, ⟨⟨Nat.ne_of_beq_eq_false rfl, Or.inl (Nat.ne_of_beq_eq_false rfl)⟩, ⟨⟨Nat.ne_of_beq_eq_false rfl, Or.inl (Nat.ne_of_beq_eq_false rfl)⟩, trivial⟩⟩⟩) (fun ls hl => ?_)
    refine lv_iload_n hx hb dX4_root_40 rfl (lv_at hl 0 rfl) ?_
    refine lv_iconst (v := iI 4) hx hb dX4_root_41 rfl ?_
    obtain ⟨g7, h⟩ := og_some h
    by_cases c8 : (a1 - (gI M 1 * 4)) < 4
    · replace h := it_T h c8
      refine i_icmp_ge_F hx hb g7 ⟨by decide, by decide⟩ (tgt := 53) dX4_root_42 (by decide) c8 ?_
      refine lv_aload_n hx hb dX4_root_45 rfl (lv_at hl 2 rfl) ?_
      refine lv_iload_n hx hb dX4_root_46 rfl (lv_at hl 0 rfl) ?_
      obtain ⟨x9, ex9, h⟩ := ob_some h
      refine gk_q (run_V (rest := []) hx hb hml hown hts hK hP hD hS hA hm (C_Ro_readGlobal l G D K s.heap.size ga n M (a1 - (gI M 1 * 4)) ex9) _ (full_C _) (full_n _ List.nodup_range) mok_yX4_readGlobal w_477 w_478 w_479 (rcv hK hP 1 go_1 rfl rfl) ⟨Nat.le_of_ble_eq_true rfl, Nat.le_of_ble_eq_true rfl⟩ rfl hl.1 rfl (Nat.le_of_ble_eq_true rfl) dX4_root_47 ⟨(Nat.le_of_ble_eq_true rfl), (Nat.le_of_ble_eq_true rfl)⟩) hP hD hS hA (fun u H locs (hP : va_P D cl (wld ga n (K 0) (K 1) M) H) (hD : va_D A (wld ga n (K 0) (K 1) M)) hS => ?_)
      refine w_tov (y := ctv ga x9) rfl ?_
      refine lv_goto (tgt := 63) hx hb dX4_root_50 (by decide) ?_
      obtain rfl := Option.some.inj h
      exact e_q hx hb hr (Or.inl ⟨_, rfl⟩) hlk hP hD hS (fun _ => 0) rfl (Nat.le_of_ble_eq_true rfl) (Nat.le_of_ble_eq_true rfl) (v := ctv ga x9) (r := fun _ => (x9 : Option Nat).map (fun k => ga (25 + 2 * k))) rfl dX4_root_63
    · replace h := it_F h c8
      refine i_icmp_ge_T hx hb g7 ⟨by decide, by decide⟩ (tgt := 53) dX4_root_42 (by decide) c8 ?_
      refine lv_aload_n hx hb dX4_root_53 rfl (lv_at hl 2 rfl) ?_
      refine r_get hx hb hts ok_RX4 hown hK hP 1 go_1 rfl 0 (by decide) w_50 (fun _ h9 => h9) rfl dX4_root_54 ?_
      refine lv_iload_n hx hb dX4_root_57 rfl (lv_at hl 0 rfl) ?_
      refine lv_iconst (v := iI 4) hx hb dX4_root_58 rfl ?_
      refine lv_isub hx hb dX4_root_59 ?_
      refine w_toeq (iI_sub (a1 - (gI M 1 * 4)) 4) ?_
      obtain ⟨x10, ex10, h⟩ := ob_some h
      refine gk_q (run_V (rest := []) hx hb hml hown hts hK hP hD hS hA hm (C_Row_item l G D K s.heap.size ga n M 1 (by decide) ((a1 - (gI M 1 * 4)) - 4) ex10) _ (full_C _) (full_n _ List.nodup_range) mok_yX5_item w_481 w_419 w_420 (rcv hK hP (8 + 1) (go_ro (by decide)) rfl rfl) ⟨Nat.le_of_ble_eq_true rfl, Nat.le_of_ble_eq_true rfl⟩ rfl hl.1 rfl (Nat.le_of_ble_eq_true rfl) dX4_root_60 ⟨(Nat.le_of_ble_eq_true rfl), (Nat.le_of_ble_eq_true rfl)⟩) hP hD hS hA (fun u H locs (hP : va_P D cl (wld ga n (K 0) (K 1) M) H) (hD : va_D A (wld ga n (K 0) (K 1) M)) hS => ?_)
      refine w_tov (y := ctv ga x10) rfl ?_
      obtain rfl := Option.some.inj h
      exact e_q hx hb hr (Or.inl ⟨_, rfl⟩) hlk hP hD hS (fun _ => 0) rfl (Nat.le_of_ble_eq_true rfl) (Nat.le_of_ble_eq_true rfl) (v := ctv ga x10) (r := fun _ => (x10 : Option Nat).map (fun k => ga (25 + 2 * k))) rfl dX4_root_63
