/-! METHODS as functions, with their contracts, written by wip/p32/sx2.py -/
def f_X_requireSlot (n : Nat) (M : cSt) (a0 : Int) : Option (Unit) := og (inR a0) (if a0 < 0 then none else if a0 < 4 then some () else none)
set_option maxHeartbeats 4000000 in
set_option maxRecDepth 100000 in
theorem C_X_requireSlot (l : Launch) (G : Nat → Nat) (D : va_G) (K : Nat → ClassId) (sz : Nat) (ga : Nat → Nat) (n : Nat) (M : cSt) (a0 : Int) {x : Unit} (h : f_X_requireSlot n M a0 = some x) : CM l yX9_requireSlot cX9_requireSlot 1 (none : Option FieldType) ({ frames := 0, cells := 0, slots := 0, locals := 0 } : Room) G D K [.int (iI a0)] (wld ga n (K 0) (K 1) M) sz (CQv D (fun _ => wld ga n (K 0) (K 1) M)) := by
  refine CM_of (lv0 := [(0, .int (iI a0))]) pn_RX9 (Nat.le_of_ble_eq_true rfl) rfl (fun p e s m args below meth c A ls hx hb hr hml hown hts hlk hnm hP hK hD hS hA hm hl => ?_)
  have hown : s.vm.findClass RX9 = some m.cls := hown
  unfold f_X_requireSlot at h
  refine lv_iload_n hx hb dX9_requireSlot_0 rfl (lv_at hl 0 rfl) ?_
  obtain ⟨g1, h⟩ := og_some h
  by_cases c2 : a0 < 0
  · replace h := it_T h c2
    cases h
  · replace h := it_F h c2
    refine i_if_lt_F hx hb g1 (tgt := 9) dX9_requireSlot_1 (by decide) c2 ?_
    refine lv_iload_n hx hb dX9_requireSlot_4 rfl (lv_at hl 0 rfl) ?_
    refine lv_iconst (v := iI 4) hx hb dX9_requireSlot_5 rfl ?_
    by_cases c3 : a0 < 4
    · replace h := it_T h c3
      refine i_icmp_lt_T hx hb g1 ⟨by decide, by decide⟩ (tgt := 20) dX9_requireSlot_6 (by decide) c3 ?_
      obtain rfl := Option.some.inj h
      exact e_v hx hb hr hlk hP hD hS (fun _ => 0) rfl (Nat.le_of_ble_eq_true rfl) (Nat.le_of_ble_eq_true rfl) dX9_requireSlot_20
    · replace h := it_F h c3
      cases h
def f_X_requireSlotOrNone (n : Nat) (M : cSt) (a0 : Int) : Option (Unit) := og (inR a0) (if a0 = (-1) then some () else ob (f_X_requireSlot n M a0) (fun x3 => some ()))
set_option maxHeartbeats 4000000 in
set_option maxRecDepth 100000 in
theorem C_X_requireSlotOrNone (l : Launch) (G : Nat → Nat) (D : va_G) (K : Nat → ClassId) (sz : Nat) (ga : Nat → Nat) (n : Nat) (M : cSt) (a0 : Int) {x : Unit} (h : f_X_requireSlotOrNone n M a0 = some x) : CM l yX9_requireSlotOrNone cX9_requireSlotOrNone 1 (none : Option FieldType) ({ frames := 1, cells := 0, slots := 0, locals := 20 } : Room) G D K [.int (iI a0)] (wld ga n (K 0) (K 1) M) sz (CQv D (fun _ => wld ga n (K 0) (K 1) M)) := by
  refine CM_of (lv0 := [(0, .int (iI a0))]) pn_RX9 (Nat.le_of_ble_eq_true rfl) rfl (fun p e s m args below meth c A ls hx hb hr hml hown hts hlk hnm hP hK hD hS hA hm hl => ?_)
  have hown : s.vm.findClass RX9 = some m.cls := hown
  unfold f_X_requireSlotOrNone at h
  refine lv_iload_n hx hb dX9_requireSlotOrNone_0 rfl (lv_at hl 0 rfl) ?_
  refine lv_iconst (v := iI (-1)) hx hb dX9_requireSlotOrNone_1 rfl ?_
  obtain ⟨g1, h⟩ := og_some h
  by_cases c2 : a0 = (-1)
  · replace h := it_T h c2
    refine i_icmp_eq_T hx hb g1 ⟨by decide, by decide⟩ (tgt := 9) dX9_requireSlotOrNone_2 (by decide) c2 ?_
    obtain rfl := Option.some.inj h
    exact e_v hx hb hr hlk hP hD hS (fun _ => 0) rfl (Nat.le_of_ble_eq_true rfl) (Nat.le_of_ble_eq_true rfl) dX9_requireSlotOrNone_9
  · replace h := it_F h c2
    refine i_icmp_eq_F hx hb g1 ⟨by decide, by decide⟩ (tgt := 9) dX9_requireSlotOrNone_2 (by decide) c2 ?_
    refine lv_iload_n hx hb dX9_requireSlotOrNone_5 rfl (lv_at hl 0 rfl) ?_
    obtain ⟨x3, ex3, h⟩ := ob_some h
    refine gk_v (run_S (rest := []) hx hb hml hown hts hK hP hD hS hA hm (C_X_requireSlot l G D K s.heap.size ga n M a0 ex3) _ (full_C _) (full_n _ List.nodup_range) mok_yX9_requireSlot w_366 w_367 ⟨Nat.le_of_ble_eq_true rfl, Nat.le_of_ble_eq_true rfl⟩ rfl hl.1 rfl (Nat.le_of_ble_eq_true rfl) dX9_requireSlotOrNone_6 ⟨(Nat.le_of_ble_eq_true rfl), (Nat.le_of_ble_eq_true rfl)⟩) hP hD hS hA (fun u H locs (hP : va_P D cl (wld ga n (K 0) (K 1) M) H) (hD : va_D A (wld ga n (K 0) (K 1) M)) hS => ?_)
    obtain rfl := Option.some.inj h
    exact e_v hx hb hr hlk hP hD hS (fun _ => 0) rfl (Nat.le_of_ble_eq_true rfl) (Nat.le_of_ble_eq_true rfl) dX9_requireSlotOrNone_9
def f_X_requireField (n : Nat) (M : cSt) (t0 : Option Nat) (a1 : Int) : Option (Unit) := on t0 none (fun q1 => og (q1 < n) (ob (f_Th_hasField n M q1 a1) (fun x2 => og (inR x2) (if x2 = 0 then none else some ()))))
set_option maxHeartbeats 4000000 in
set_option maxRecDepth 100000 in
theorem C_X_requireField (l : Launch) (G : Nat → Nat) (D : va_G) (K : Nat → ClassId) (sz : Nat) (ga : Nat → Nat) (n : Nat) (M : cSt) (t0 : Option Nat) (a1 : Int) {x : Unit} (h : f_X_requireField n M t0 a1 = some x) : CM l yX9_requireField cX9_requireField 2 (none : Option FieldType) ({ frames := 1, cells := 0, slots := 0, locals := 21 } : Room) G D K [ctv ga t0, .int (iI a1)] (wld ga n (K 0) (K 1) M) sz (CQv D (fun _ => wld ga n (K 0) (K 1) M)) := by
  refine CM_of (lv0 := [(0, ctv ga t0), (1, .int (iI a1))]) pn_RX9 (by cases t0 <;> exact (Nat.le_of_ble_eq_true rfl)) (by cases t0 <;> rfl) (fun p e s m args below meth c A ls hx hb hr hml hown hts hlk hnm hP hK hD hS hA hm hl => ?_)
  have hown : s.vm.findClass RX9 = some m.cls := hown
  unfold f_X_requireField at h
  refine t_aload_n hx hb dX9_requireField_0 rfl (lv_at hl 0 rfl) ?_
  refine lv_iload_n hx hb dX9_requireField_1 rfl (lv_at hl 1 rfl) ?_
  rcases on_cases h with ⟨z1, h⟩ | ⟨q1, z1, h⟩
  · cases h
  · obtain ⟨hq1, h⟩ := og_some h
    rw [ctv_some ga z1]
    obtain ⟨x2, ex2, h⟩ := ob_some h
    refine gk_i (run_V (rest := []) hx hb hml hown hts hK hP hD hS hA hm (C_Th_hasField l G D K s.heap.size ga n M q1 hq1 a1 ex2) _ (full_C _) (full_n _ List.nodup_range) mok_yX7_hasField w_786 w_787 w_788 (rcv hK hP (25 + 2 * q1) (go_th hq1) rfl rfl) ⟨Nat.le_of_ble_eq_true rfl, Nat.le_of_ble_eq_true rfl⟩ rfl hl.1 rfl (Nat.le_of_ble_eq_true rfl) dX9_requireField_2 ⟨(Nat.le_of_ble_eq_true rfl), (Nat.le_of_ble_eq_true rfl)⟩) hP hD hS hA (fun u H locs (hP : va_P D cl (wld ga n (K 0) (K 1) M) H) (hD : va_D A (wld ga n (K 0) (K 1) M)) hS => ?_)
    obtain ⟨g3, h⟩ := og_some h
    by_cases c4 : x2 = 0
    · replace h := it_T h c4
      cases h
    · replace h := it_F h c4
      refine i_if_ne_T hx hb g3 (tgt := 19) dX9_requireField_5 (by decide) c4 ?_
      obtain rfl := Option.some.inj h
      exact e_v hx hb hr hlk hP hD hS (fun _ => 0) rfl (Nat.le_of_ble_eq_true rfl) (Nat.le_of_ble_eq_true rfl) dX9_requireField_19
def f_X_leastFields (n : Nat) (M : cSt) (a0 : Int) : Option (Int) := og (inR a0) (if a0 = 3 then some 2 else if a0 = 1 then some 1 else if a0 = 2 then some 1 else some 0)
set_option maxHeartbeats 4000000 in
set_option maxRecDepth 100000 in
theorem C_X_leastFields (l : Launch) (G : Nat → Nat) (D : va_G) (K : Nat → ClassId) (sz : Nat) (ga : Nat → Nat) (n : Nat) (M : cSt) (a0 : Int) {x : Int} (h : f_X_leastFields n M a0 = some x) : CM l yX9_leastFields cX9_leastFields 1 (some FieldType.int) ({ frames := 0, cells := 0, slots := 0, locals := 0 } : Room) G D K [.int (iI a0)] (wld ga n (K 0) (K 1) M) sz (CQi (iI x) D (fun _ => wld ga n (K 0) (K 1) M)) := by
  refine CM_of (lv0 := [(0, .int (iI a0))]) pn_RX9 (Nat.le_of_ble_eq_true rfl) rfl (fun p e s m args below meth c A ls hx hb hr hml hown hts hlk hnm hP hK hD hS hA hm hl => ?_)
  have hown : s.vm.findClass RX9 = some m.cls := hown
  unfold f_X_leastFields at h
  refine lv_iload_n hx hb dX9_leastFields_0 rfl (lv_at hl 0 rfl) ?_
  refine lv_iconst (v := iI 3) hx hb dX9_leastFields_1 rfl ?_
  obtain ⟨g1, h⟩ := og_some h
  by_cases c2 : a0 = 3
  · replace h := it_T h c2
    refine i_icmp_ne_F hx hb g1 ⟨by decide, by decide⟩ (tgt := 7) dX9_leastFields_2 (by decide) c2 ?_
    refine lv_iconst (v := iI 2) hx hb dX9_leastFields_5 rfl ?_
    obtain rfl := Option.some.inj h
    exact e_i hx hb hr hlk hP hD hS (fun _ => 0) rfl (Nat.le_of_ble_eq_true rfl) (Nat.le_of_ble_eq_true rfl) rfl dX9_leastFields_6
  · replace h := it_F h c2
    refine i_icmp_ne_T hx hb g1 ⟨by decide, by decide⟩ (tgt := 7) dX9_leastFields_2 (by decide) c2 ?_
    refine lv_iload_n hx hb dX9_leastFields_7 rfl (lv_at hl 0 rfl) ?_
    refine lv_iconst (v := iI 1) hx hb dX9_leastFields_8 rfl ?_
    by_cases c3 : a0 = 1
    · replace h := it_T h c3
      refine i_icmp_eq_T hx hb g1 ⟨by decide, by decide⟩ (tgt := 17) dX9_leastFields_9 (by decide) c3 ?_
      refine lv_iconst (v := iI 1) hx hb dX9_leastFields_17 rfl ?_
      refine lv_goto (tgt := 22) hx hb dX9_leastFields_18 (by decide) ?_
      obtain rfl := Option.some.inj h
      exact e_i hx hb hr hlk hP hD hS (fun _ => 0) rfl (Nat.le_of_ble_eq_true rfl) (Nat.le_of_ble_eq_true rfl) rfl dX9_leastFields_22
    · replace h := it_F h c3
      refine i_icmp_eq_F hx hb g1 ⟨by decide, by decide⟩ (tgt := 17) dX9_leastFields_9 (by decide) c3 ?_
      refine lv_iload_n hx hb dX9_leastFields_12 rfl (lv_at hl 0 rfl) ?_
      refine lv_iconst (v := iI 2) hx hb dX9_leastFields_13 rfl ?_
      by_cases c4 : a0 = 2
      · replace h := it_T h c4
        refine i_icmp_ne_F hx hb g1 ⟨by decide, by decide⟩ (tgt := 21) dX9_leastFields_14 (by decide) c4 ?_
        refine lv_iconst (v := iI 1) hx hb dX9_leastFields_17 rfl ?_
        refine lv_goto (tgt := 22) hx hb dX9_leastFields_18 (by decide) ?_
        obtain rfl := Option.some.inj h
        exact e_i hx hb hr hlk hP hD hS (fun _ => 0) rfl (Nat.le_of_ble_eq_true rfl) (Nat.le_of_ble_eq_true rfl) rfl dX9_leastFields_22
      · replace h := it_F h c4
        refine i_icmp_ne_T hx hb g1 ⟨by decide, by decide⟩ (tgt := 21) dX9_leastFields_14 (by decide) c4 ?_
        refine lv_iconst (v := iI 0) hx hb dX9_leastFields_21 rfl ?_
        obtain rfl := Option.some.inj h
        exact e_i hx hb hr hlk hP hD hS (fun _ => 0) rfl (Nat.le_of_ble_eq_true rfl) (Nat.le_of_ble_eq_true rfl) rfl dX9_leastFields_22
def f_X_numberOf (n : Nat) (M : cSt) (t0 : Option Nat) : Option (Int) := on t0 (some (-1)) (fun q1 => og (q1 < n) (some (gT M q1 0)))
set_option maxHeartbeats 4000000 in
set_option maxRecDepth 100000 in
theorem C_X_numberOf (l : Launch) (G : Nat → Nat) (D : va_G) (K : Nat → ClassId) (sz : Nat) (ga : Nat → Nat) (n : Nat) (M : cSt) (t0 : Option Nat) {x : Int} (h : f_X_numberOf n M t0 = some x) : CM l yX9_numberOf cX9_numberOf 1 (some FieldType.int) ({ frames := 0, cells := 0, slots := 0, locals := 0 } : Room) G D K [ctv ga t0] (wld ga n (K 0) (K 1) M) sz (CQi (iI x) D (fun _ => wld ga n (K 0) (K 1) M)) := by
  refine CM_of (lv0 := [(0, ctv ga t0)]) pn_RX9 (by cases t0 <;> exact (Nat.le_of_ble_eq_true rfl)) (by cases t0 <;> rfl) (fun p e s m args below meth c A ls hx hb hr hml hown hts hlk hnm hP hK hD hS hA hm hl => ?_)
  have hown : s.vm.findClass RX9 = some m.cls := hown
  unfold f_X_numberOf at h
  refine t_aload_n hx hb dX9_numberOf_0 rfl (lv_at hl 0 rfl) ?_
  rcases on_cases h with ⟨z1, h⟩ | ⟨q1, z1, h⟩
  · rw [ctv_none ga z1]
    refine lv_ifnonnullN hx hb dX9_numberOf_1 ?_
    refine lv_iconst (v := iI (-1)) hx hb dX9_numberOf_4 rfl ?_
    refine lv_goto (tgt := 12) hx hb dX9_numberOf_5 (by decide) ?_
    obtain rfl := Option.some.inj h
    exact e_i hx hb hr hlk hP hD hS (fun _ => 0) rfl (Nat.le_of_ble_eq_true rfl) (Nat.le_of_ble_eq_true rfl) rfl dX9_numberOf_12
  · obtain ⟨hq1, h⟩ := og_some h
    rw [ctv_some ga z1]
    refine lv_ifnonnull (tgt := 8) hx hb dX9_numberOf_1 (by decide) ?_
    refine t_aload_n hx hb dX9_numberOf_8 rfl (lv_at hl 0 rfl) ?_
    rw [ctv_some ga z1]
    refine r_get hx hb hts ok_RX7 hown hK hP (25 + 2 * q1) (go_th hq1) rfl 0 (by decide) w_676 (fun _ h9 => h9) rfl dX9_numberOf_9 ?_
    obtain rfl := Option.some.inj h
    exact e_i hx hb hr hlk hP hD hS (fun _ => 0) rfl (Nat.le_of_ble_eq_true rfl) (Nat.le_of_ble_eq_true rfl) rfl dX9_numberOf_12
def f_X_madeAs (n : Nat) (M : cSt) (a1 : Int) : Option (Option Nat) := ob (f_Row_item n M 0 a1) (fun x1 => on x1 none (fun q2 => og (q2 < n) (some (some q2))))
set_option maxHeartbeats 4000000 in
set_option maxRecDepth 100000 in
theorem C_X_madeAs (l : Launch) (G : Nat → Nat) (D : va_G) (K : Nat → ClassId) (sz : Nat) (ga : Nat → Nat) (n : Nat) (M : cSt) (a1 : Int) {x : Option Nat} (h : f_X_madeAs n M a1 = some x) : CM l yX9_madeAs cX9_madeAs 3 (some (FieldType.object "Tenuredale$Thing")) ({ frames := 1, cells := 0, slots := 0, locals := 21 } : Room) G D K [.ref (ga 0), .int (iI a1)] (wld ga n (K 0) (K 1) M) sz (CQq (fun _ => x.map (fun k => ga (25 + 2 * k))) D (fun _ => wld ga n (K 0) (K 1) M)) := by
  refine CM_of (lv0 := [(0, .ref (ga 0)), (1, .int (iI a1))]) pn_RX9 (Nat.le_of_ble_eq_true rfl) rfl (fun p e s m args below meth c A ls hx hb hr hml hown hts hlk hnm hP hK hD hS hA hm hl => ?_)
  have hown : s.vm.findClass RX9 = some m.cls := hown
  unfold f_X_madeAs at h
  refine lv_aload_n hx hb dX9_madeAs_0 rfl (lv_at hl 0 rfl) ?_
  refine r_get hx hb hts ok_RX9 hown hK hP 0 go_0 rfl 0 (by decide) w_237 (fun _ h9 => h9) rfl dX9_madeAs_1 ?_
  refine lv_iload_n hx hb dX9_madeAs_4 rfl (lv_at hl 1 rfl) ?_
  obtain ⟨x1, ex1, h⟩ := ob_some h
  refine gk_q (run_V (rest := []) hx hb hml hown hts hK hP hD hS hA hm (C_Row_item l G D K s.heap.size ga n M 0 (by decide) a1 ex1) _ (full_C _) (full_n _ List.nodup_range) mok_yX5_item w_856 w_419 w_420 (rcv hK hP (8 + 0) (go_ro (by decide)) rfl rfl) ⟨Nat.le_of_ble_eq_true rfl, Nat.le_of_ble_eq_true rfl⟩ rfl hl.1 rfl (Nat.le_of_ble_eq_true rfl) dX9_madeAs_5 ⟨(Nat.le_of_ble_eq_true rfl), (Nat.le_of_ble_eq_true rfl)⟩) hP hD hS hA (fun u H locs (hP : va_P D cl (wld ga n (K 0) (K 1) M) H) (hD : va_D A (wld ga n (K 0) (K 1) M)) hS => ?_)
  refine w_tov (y := ctv ga x1) rfl ?_
  refine t_astore_n hx hb dX9_madeAs_8 rfl hl (by decide) [0, 1] (lv' := [(0, .ref (ga 0)), (1, .int (iI a1))]) rfl (⟨⟨Nat.ne_of_beq_eq_false rfl, Or.inl (Nat.ne_of_beq_eq_false rfl)⟩, ⟨⟨Nat.ne_of_beq_eq_false rfl, Or.inr rfl⟩, trivial⟩⟩) (fun ls hl => ?_)
  refine t_aload_n hx hb dX9_madeAs_9 rfl (lv_at hl 0 rfl) ?_
  rcases on_cases h with ⟨z2, h⟩ | ⟨q2, z2, h⟩
  · cases h
  · obtain ⟨hq2, h⟩ := og_some h
    rw [ctv_some ga z2]
    refine lv_ifnonnull (tgt := 24) hx hb dX9_madeAs_10 (by decide) ?_
    refine t_aload_n hx hb dX9_madeAs_24 rfl (lv_at hl 0 rfl) ?_
    rw [ctv_some ga z2]
    obtain rfl := Option.some.inj h
    exact e_q hx hb hr (Or.inl ⟨_, rfl⟩) hlk hP hD hS (fun _ => 0) rfl (Nat.le_of_ble_eq_true rfl) (Nat.le_of_ble_eq_true rfl) (v := .ref (ga (25 + 2 * q2))) (r := fun _ => ((some q2) : Option Nat).map (fun k => ga (25 + 2 * k))) rfl dX9_madeAs_25
def f_X_occupant (n : Nat) (M : cSt) (a1 : Int) : Option (Option Nat) := ob (f_Ro_readSlot n M a1) (fun x1 => on x1 none (fun q2 => og (q2 < n) (some (some q2))))
set_option maxHeartbeats 4000000 in
set_option maxRecDepth 100000 in
theorem C_X_occupant (l : Launch) (G : Nat → Nat) (D : va_G) (K : Nat → ClassId) (sz : Nat) (ga : Nat → Nat) (n : Nat) (M : cSt) (a1 : Int) {x : Option Nat} (h : f_X_occupant n M a1 = some x) : CM l yX9_occupant cX9_occupant 3 (some (FieldType.object "Tenuredale$Thing")) ({ frames := 2, cells := 0, slots := 0, locals := 43 } : Room) G D K [.ref (ga 0), .int (iI a1)] (wld ga n (K 0) (K 1) M) sz (CQq (fun _ => x.map (fun k => ga (25 + 2 * k))) D (fun _ => wld ga n (K 0) (K 1) M)) := by
  refine CM_of (lv0 := [(0, .ref (ga 0)), (1, .int (iI a1))]) pn_RX9 (Nat.le_of_ble_eq_true rfl) rfl (fun p e s m args below meth c A ls hx hb hr hml hown hts hlk hnm hP hK hD hS hA hm hl => ?_)
  have hown : s.vm.findClass RX9 = some m.cls := hown
  unfold f_X_occupant at h
  refine lv_aload_n hx hb dX9_occupant_0 rfl (lv_at hl 0 rfl) ?_
  refine r_get hx hb hts ok_RX9 hown hK hP 0 go_0 rfl 1 (by decide) w_238 (fun _ h9 => h9) rfl dX9_occupant_1 ?_
  refine lv_iload_n hx hb dX9_occupant_4 rfl (lv_at hl 1 rfl) ?_
  obtain ⟨x1, ex1, h⟩ := ob_some h
  refine gk_q (run_V (rest := []) hx hb hml hown hts hK hP hD hS hA hm (C_Ro_readSlot l G D K s.heap.size ga n M a1 ex1) _ (full_C _) (full_n _ List.nodup_range) mok_yX4_readSlot w_778 w_779 w_780 (rcv hK hP 1 go_1 rfl rfl) ⟨Nat.le_of_ble_eq_true rfl, Nat.le_of_ble_eq_true rfl⟩ rfl hl.1 rfl (Nat.le_of_ble_eq_true rfl) dX9_occupant_5 ⟨(Nat.le_of_ble_eq_true rfl), (Nat.le_of_ble_eq_true rfl)⟩) hP hD hS hA (fun u H locs (hP : va_P D cl (wld ga n (K 0) (K 1) M) H) (hD : va_D A (wld ga n (K 0) (K 1) M)) hS => ?_)
  refine w_tov (y := ctv ga x1) rfl ?_
  refine t_astore_n hx hb dX9_occupant_8 rfl hl (by decide) [0, 1] (lv' := [(0, .ref (ga 0)), (1, .int (iI a1))]) rfl (⟨⟨Nat.ne_of_beq_eq_false rfl, Or.inl (Nat.ne_of_beq_eq_false rfl)⟩, ⟨⟨Nat.ne_of_beq_eq_false rfl, Or.inr rfl⟩, trivial⟩⟩) (fun ls hl => ?_)
  refine t_aload_n hx hb dX9_occupant_9 rfl (lv_at hl 0 rfl) ?_
  rcases on_cases h with ⟨z2, h⟩ | ⟨q2, z2, h⟩
  · cases h
  · obtain ⟨hq2, h⟩ := og_some h
    rw [ctv_some ga z2]
    refine lv_ifnonnull (tgt := 24) hx hb dX9_occupant_10 (by decide) ?_
    refine t_aload_n hx hb dX9_occupant_24 rfl (lv_at hl 0 rfl) ?_
    rw [ctv_some ga z2]
    obtain rfl := Option.some.inj h
    exact e_q hx hb hr (Or.inl ⟨_, rfl⟩) hlk hP hD hS (fun _ => 0) rfl (Nat.le_of_ble_eq_true rfl) (Nat.le_of_ble_eq_true rfl) (v := .ref (ga (25 + 2 * q2))) (r := fun _ => ((some q2) : Option Nat).map (fun k => ga (25 + 2 * k))) rfl dX9_occupant_25
def f_X_push (n : Nat) (M : cSt)  : Option (cSt × Int) := ob (f_Ro_frames n M) (fun x1 => og (inR x1) (if x1 < 8 then ob (f_Ro_addFrame n M) (fun x4 => ob (f_Ro_frames n x4) (fun x5 => some (x4, x5))) else none))
set_option maxHeartbeats 4000000 in
set_option maxRecDepth 100000 in
theorem C_X_push (l : Launch) (G : Nat → Nat) (D : va_G) (K : Nat → ClassId) (sz : Nat) (ga : Nat → Nat) (n : Nat) (M : cSt)  {x : cSt × Int} (h : f_X_push n M  = some x) : CM l yX9_push cX9_push 1 (some FieldType.int) ({ frames := 1, cells := 0, slots := 0, locals := 20 } : Room) G D K [.ref (ga 0)] (wld ga n (K 0) (K 1) M) sz (CQi (iI x.2) D (fun _ => wld ga n (K 0) (K 1) x.1)) := by
  refine CM_of (lv0 := [(0, .ref (ga 0))]) pn_RX9 (Nat.le_of_ble_eq_true rfl) rfl (fun p e s m args below meth c A ls hx hb hr hml hown hts hlk hnm hP hK hD hS hA hm hl => ?_)
  have hown : s.vm.findClass RX9 = some m.cls := hown
  unfold f_X_push at h
  refine lv_aload_n hx hb dX9_push_0 rfl (lv_at hl 0 rfl) ?_
  refine r_get hx hb hts ok_RX9 hown hK hP 0 go_0 rfl 1 (by decide) w_238 (fun _ h9 => h9) rfl dX9_push_1 ?_
  obtain ⟨x1, ex1, h⟩ := ob_some h
  refine gk_i (run_V (rest := []) hx hb hml hown hts hK hP hD hS hA hm (C_Ro_frames l G D K s.heap.size ga n M ex1) _ (full_C _) (full_n _ List.nodup_range) mok_yX4_frames w_269 w_270 w_271 (rcv hK hP 1 go_1 rfl rfl) ⟨Nat.le_of_ble_eq_true rfl, Nat.le_of_ble_eq_true rfl⟩ rfl hl.1 rfl (Nat.le_of_ble_eq_true rfl) dX9_push_4 ⟨(Nat.le_of_ble_eq_true rfl), (Nat.le_of_ble_eq_true rfl)⟩) hP hD hS hA (fun u H locs (hP : va_P D cl (wld ga n (K 0) (K 1) M) H) (hD : va_D A (wld ga n (K 0) (K 1) M)) hS => ?_)
  refine lv_bipush (v := iI 8) hx hb dX9_push_7 rfl ?_
  obtain ⟨g2, h⟩ := og_some h
  by_cases c3 : x1 < 8
  · replace h := it_T h c3
    refine i_icmp_lt_T hx hb g2 ⟨by decide, by decide⟩ (tgt := 22) dX9_push_9 (by decide) c3 ?_
    refine lv_aload_n hx hb dX9_push_22 rfl (lv_at hl 0 rfl) ?_
    refine r_get hx hb hts ok_RX9 hown hK hP 0 go_0 rfl 1 (by decide) w_238 (fun _ h9 => h9) rfl dX9_push_23 ?_
    obtain ⟨x4, ex4, h⟩ := ob_some h
    refine gk_v (run_V (rest := []) hx hb hml hown hts hK hP hD hS hA hm (C_Ro_addFrame l G D K H.size ga n M ex4) _ (full_C _) (full_n _ List.nodup_range) mok_yX4_addFrame w_341 w_342 w_343 (rcv hK hP 1 go_1 rfl rfl) ⟨Nat.le_of_ble_eq_true rfl, Nat.le_of_ble_eq_true rfl⟩ rfl hl.1 rfl (Nat.le_of_ble_eq_true rfl) dX9_push_26 ⟨(Nat.le_of_ble_eq_true rfl), (Nat.le_of_ble_eq_true rfl)⟩) hP hD hS hA (fun u H locs (hP : va_P D cl (wld ga n (K 0) (K 1) x4) H) (hD : va_D A (wld ga n (K 0) (K 1) x4)) hS => ?_)
    refine lv_aload_n hx hb dX9_push_29 rfl (lv_at hl 0 rfl) ?_
    refine r_get hx hb hts ok_RX9 hown hK hP 0 go_0 rfl 1 (by decide) w_238 (fun _ h9 => h9) rfl dX9_push_30 ?_
    obtain ⟨x5, ex5, h⟩ := ob_some h
    refine gk_i (run_V (rest := []) hx hb hml hown hts hK hP hD hS hA hm (C_Ro_frames l G D K H.size ga n x4 ex5) _ (full_C _) (full_n _ List.nodup_range) mok_yX4_frames w_269 w_270 w_271 (rcv hK hP 1 go_1 rfl rfl) ⟨Nat.le_of_ble_eq_true rfl, Nat.le_of_ble_eq_true rfl⟩ rfl hl.1 rfl (Nat.le_of_ble_eq_true rfl) dX9_push_33 ⟨(Nat.le_of_ble_eq_true rfl), (Nat.le_of_ble_eq_true rfl)⟩) hP hD hS hA (fun u H locs (hP : va_P D cl (wld ga n (K 0) (K 1) x4) H) (hD : va_D A (wld ga n (K 0) (K 1) x4)) hS => ?_)
    obtain rfl := Option.some.inj h
    exact e_i hx hb hr hlk hP hD hS (fun _ => 0) rfl (Nat.le_of_ble_eq_true rfl) (Nat.le_of_ble_eq_true rfl) rfl dX9_push_36
  · replace h := it_F h c3
    cases h
def f_X_pop (n : Nat) (M : cSt)  : Option (cSt × Int) := ob (f_Ro_frames n M) (fun x1 => og (inR x1) (if 1 < x1 then ob (f_Ro_dropFrame n M) (fun x4 => ob (f_Ro_frames n x4) (fun x5 => some (x4, x5))) else none))
set_option maxHeartbeats 4000000 in
set_option maxRecDepth 100000 in
theorem C_X_pop (l : Launch) (G : Nat → Nat) (D : va_G) (K : Nat → ClassId) (sz : Nat) (ga : Nat → Nat) (n : Nat) (M : cSt)  {x : cSt × Int} (h : f_X_pop n M  = some x) : CM l yX9_pop cX9_pop 1 (some FieldType.int) ({ frames := 3, cells := 0, slots := 0, locals := 65 } : Room) G D K [.ref (ga 0)] (wld ga n (K 0) (K 1) M) sz (CQi (iI x.2) D (fun _ => wld ga n (K 0) (K 1) x.1)) := by
  refine CM_of (lv0 := [(0, .ref (ga 0))]) pn_RX9 (Nat.le_of_ble_eq_true rfl) rfl (fun p e s m args below meth c A ls hx hb hr hml hown hts hlk hnm hP hK hD hS hA hm hl => ?_)
  have hown : s.vm.findClass RX9 = some m.cls := hown
  unfold f_X_pop at h
  refine lv_aload_n hx hb dX9_pop_0 rfl (lv_at hl 0 rfl) ?_
  refine r_get hx hb hts ok_RX9 hown hK hP 0 go_0 rfl 1 (by decide) w_238 (fun _ h9 => h9) rfl dX9_pop_1 ?_
  obtain ⟨x1, ex1, h⟩ := ob_some h
  refine gk_i (run_V (rest := []) hx hb hml hown hts hK hP hD hS hA hm (C_Ro_frames l G D K s.heap.size ga n M ex1) _ (full_C _) (full_n _ List.nodup_range) mok_yX4_frames w_269 w_270 w_271 (rcv hK hP 1 go_1 rfl rfl) ⟨Nat.le_of_ble_eq_true rfl, Nat.le_of_ble_eq_true rfl⟩ rfl hl.1 rfl (Nat.le_of_ble_eq_true rfl) dX9_pop_4 ⟨(Nat.le_of_ble_eq_true rfl), (Nat.le_of_ble_eq_true rfl)⟩) hP hD hS hA (fun u H locs (hP : va_P D cl (wld ga n (K 0) (K 1) M) H) (hD : va_D A (wld ga n (K 0) (K 1) M)) hS => ?_)
  refine lv_iconst (v := iI 1) hx hb dX9_pop_7 rfl ?_
  obtain ⟨g2, h⟩ := og_some h
  by_cases c3 : 1 < x1
  · replace h := it_T h c3
    refine i_icmp_gt_T hx hb g2 ⟨by decide, by decide⟩ (tgt := 21) dX9_pop_8 (by decide) c3 ?_
    refine lv_aload_n hx hb dX9_pop_21 rfl (lv_at hl 0 rfl) ?_
    refine r_get hx hb hts ok_RX9 hown hK hP 0 go_0 rfl 1 (by decide) w_238 (fun _ h9 => h9) rfl dX9_pop_22 ?_
    obtain ⟨x4, ex4, h⟩ := ob_some h
    refine gk_v (run_V (rest := []) hx hb hml hown hts hK hP hD hS hA hm (C_Ro_dropFrame l G D K H.size ga n M ex4) _ (full_C _) (full_n _ List.nodup_range) mok_yX4_dropFrame w_350 w_351 w_352 (rcv hK hP 1 go_1 rfl rfl) ⟨Nat.le_of_ble_eq_true rfl, Nat.le_of_ble_eq_true rfl⟩ rfl hl.1 rfl (Nat.le_of_ble_eq_true rfl) dX9_pop_25 ⟨(Nat.le_of_ble_eq_true rfl), (Nat.le_of_ble_eq_true rfl)⟩) hP hD hS hA (fun u H locs (hP : va_P D cl (wld ga n (K 0) (K 1) x4) H) (hD : va_D A (wld ga n (K 0) (K 1) x4)) hS => ?_)
    refine lv_aload_n hx hb dX9_pop_28 rfl (lv_at hl 0 rfl) ?_
    refine r_get hx hb hts ok_RX9 hown hK hP 0 go_0 rfl 1 (by decide) w_238 (fun _ h9 => h9) rfl dX9_pop_29 ?_
    obtain ⟨x5, ex5, h⟩ := ob_some h
    refine gk_i (run_V (rest := []) hx hb hml hown hts hK hP hD hS hA hm (C_Ro_frames l G D K H.size ga n x4 ex5) _ (full_C _) (full_n _ List.nodup_range) mok_yX4_frames w_269 w_270 w_271 (rcv hK hP 1 go_1 rfl rfl) ⟨Nat.le_of_ble_eq_true rfl, Nat.le_of_ble_eq_true rfl⟩ rfl hl.1 rfl (Nat.le_of_ble_eq_true rfl) dX9_pop_32 ⟨(Nat.le_of_ble_eq_true rfl), (Nat.le_of_ble_eq_true rfl)⟩) hP hD hS hA (fun u H locs (hP : va_P D cl (wld ga n (K 0) (K 1) x4) H) (hD : va_D A (wld ga n (K 0) (K 1) x4)) hS => ?_)
    obtain rfl := Option.some.inj h
    exact e_i hx hb hr hlk hP hD hS (fun _ => 0) rfl (Nat.le_of_ble_eq_true rfl) (Nat.le_of_ble_eq_true rfl) rfl dX9_pop_35
  · replace h := it_F h c3
    cases h
def f_X_minor (n : Nat) (M : cSt)  : Option (cSt × Int) := ob (f_Pl_canOldTakeYoung n M) (fun x1 => og (inR x1) (if x1 = 0 then ob (f_Fu_run n M 1 0) (fun x4 => some (x4.1, x4.2)) else ob (f_Mi_run n M) (fun x5 => some (x5.1, x5.2))))
set_option maxHeartbeats 4000000 in
set_option maxRecDepth 100000 in
theorem C_X_minor (l : Launch) (G : Nat → Nat) (D : va_G) (K : Nat → ClassId) (sz : Nat) (ga : Nat → Nat) (n : Nat) (M : cSt)  {x : cSt × Int} (h : f_X_minor n M  = some x) : CM l yX9_minor cX9_minor 1 (some FieldType.int) ({ frames := 5, cells := 0, slots := 0, locals := 111 } : Room) G D K [.ref (ga 0)] (wld ga n (K 0) (K 1) M) sz (CQi (iI x.2) D (fun _ => wld ga n (K 0) (K 1) x.1)) := by
  refine CM_of (lv0 := [(0, .ref (ga 0))]) pn_RX9 (Nat.le_of_ble_eq_true rfl) rfl (fun p e s m args below meth c A ls hx hb hr hml hown hts hlk hnm hP hK hD hS hA hm hl => ?_)
  have hown : s.vm.findClass RX9 = some m.cls := hown
  unfold f_X_minor at h
  refine lv_aload_n hx hb dX9_minor_0 rfl (lv_at hl 0 rfl) ?_
  refine r_get hx hb hts ok_RX9 hown hK hP 0 go_0 rfl 2 (by decide) w_239 (fun _ h9 => h9) rfl dX9_minor_1 ?_
  obtain ⟨x1, ex1, h⟩ := ob_some h
  refine gk_i (run_V (rest := []) hx hb hml hown hts hK hP hD hS hA hm (C_Pl_canOldTakeYoung l G D K s.heap.size ga n M ex1) _ (full_C _) (full_n _ List.nodup_range) mok_yX3_canOldTakeYoung w_430 w_431 w_432 (rcv hK hP 2 go_2 rfl rfl) ⟨Nat.le_of_ble_eq_true rfl, Nat.le_of_ble_eq_true rfl⟩ rfl hl.1 rfl (Nat.le_of_ble_eq_true rfl) dX9_minor_4 ⟨(Nat.le_of_ble_eq_true rfl), (Nat.le_of_ble_eq_true rfl)⟩) hP hD hS hA (fun u H locs (hP : va_P D cl (wld ga n (K 0) (K 1) M) H) (hD : va_D A (wld ga n (K 0) (K 1) M)) hS => ?_)
  obtain ⟨g2, h⟩ := og_some h
  by_cases c3 : x1 = 0
  · replace h := it_T h c3
    refine i_if_eq_T hx hb g2 (tgt := 20) dX9_minor_7 (by decide) c3 ?_
    refine lv_aload_n hx hb dX9_minor_20 rfl (lv_at hl 0 rfl) ?_
    refine r_get hx hb hts ok_RX9 hown hK hP 0 go_0 rfl 7 (by decide) w_244 (fun _ h9 => h9) rfl dX9_minor_21 ?_
    refine lv_iconst (v := iI 1) hx hb dX9_minor_24 rfl ?_
    refine lv_iconst (v := iI 0) hx hb dX9_minor_25 rfl ?_
    obtain ⟨x4, ex4, h⟩ := ob_some h
    refine gk_i (run_V (rest := []) hx hb hml hown hts hK hP hD hS hA hm (C_Fu_run l G D K H.size ga n M 1 0 ex4) _ (full_C _) (full_n _ List.nodup_range) mok_yX0_run w_556 w_557 w_558 (rcv hK hP 7 go_7 rfl rfl) ⟨Nat.le_of_ble_eq_true rfl, Nat.le_of_ble_eq_true rfl⟩ rfl hl.1 rfl (Nat.le_of_ble_eq_true rfl) dX9_minor_26 ⟨(Nat.le_of_ble_eq_true rfl), (Nat.le_of_ble_eq_true rfl)⟩) hP hD hS hA (fun u H locs (hP : va_P D cl (wld ga n (K 0) (K 1) x4.1) H) (hD : va_D A (wld ga n (K 0) (K 1) x4.1)) hS => ?_)
    obtain rfl := Option.some.inj h
    exact e_i hx hb hr hlk hP hD hS (fun _ => 0) rfl (Nat.le_of_ble_eq_true rfl) (Nat.le_of_ble_eq_true rfl) rfl dX9_minor_29
  · replace h := it_F h c3
    refine i_if_eq_F hx hb g2 (tgt := 20) dX9_minor_7 (by decide) c3 ?_
    refine lv_aload_n hx hb dX9_minor_10 rfl (lv_at hl 0 rfl) ?_
    refine r_get hx hb hts ok_RX9 hown hK hP 0 go_0 rfl 6 (by decide) w_243 (fun _ h9 => h9) rfl dX9_minor_11 ?_
    obtain ⟨x5, ex5, h⟩ := ob_some h
    refine gk_i (run_V (rest := []) hx hb hml hown hts hK hP hD hS hA hm (C_Mi_run l G D K H.size ga n M ex5) _ (full_C _) (full_n _ List.nodup_range) mok_yX2_run w_438 w_439 w_440 (rcv hK hP 6 go_6 rfl rfl) ⟨Nat.le_of_ble_eq_true rfl, Nat.le_of_ble_eq_true rfl⟩ rfl hl.1 rfl (Nat.le_of_ble_eq_true rfl) dX9_minor_14 ⟨(Nat.le_of_ble_eq_true rfl), (Nat.le_of_ble_eq_true rfl)⟩) hP hD hS hA (fun u H locs (hP : va_P D cl (wld ga n (K 0) (K 1) x5.1) H) (hD : va_D A (wld ga n (K 0) (K 1) x5.1)) hS => ?_)
    refine lv_goto (tgt := 29) hx hb dX9_minor_17 (by decide) ?_
    obtain rfl := Option.some.inj h
    exact e_i hx hb hr hlk hP hD hS (fun _ => 0) rfl (Nat.le_of_ble_eq_true rfl) (Nat.le_of_ble_eq_true rfl) rfl dX9_minor_29
def f_X_full (n : Nat) (M : cSt) (a1 : Int) : Option (cSt × Int) := ob (f_Fu_run n M a1 0) (fun x1 => some (x1.1, x1.2))
set_option maxHeartbeats 4000000 in
set_option maxRecDepth 100000 in
theorem C_X_full (l : Launch) (G : Nat → Nat) (D : va_G) (K : Nat → ClassId) (sz : Nat) (ga : Nat → Nat) (n : Nat) (M : cSt) (a1 : Int) {x : cSt × Int} (h : f_X_full n M a1 = some x) : CM l yX9_full cX9_full 2 (some FieldType.int) ({ frames := 5, cells := 0, slots := 0, locals := 111 } : Room) G D K [.ref (ga 0), .int (iI a1)] (wld ga n (K 0) (K 1) M) sz (CQi (iI x.2) D (fun _ => wld ga n (K 0) (K 1) x.1)) := by
  refine CM_of (lv0 := [(0, .ref (ga 0)), (1, .int (iI a1))]) pn_RX9 (Nat.le_of_ble_eq_true rfl) rfl (fun p e s m args below meth c A ls hx hb hr hml hown hts hlk hnm hP hK hD hS hA hm hl => ?_)
  have hown : s.vm.findClass RX9 = some m.cls := hown
  unfold f_X_full at h
  refine lv_aload_n hx hb dX9_full_0 rfl (lv_at hl 0 rfl) ?_
  refine r_get hx hb hts ok_RX9 hown hK hP 0 go_0 rfl 7 (by decide) w_244 (fun _ h9 => h9) rfl dX9_full_1 ?_
  refine lv_iload_n hx hb dX9_full_4 rfl (lv_at hl 1 rfl) ?_
  refine lv_iconst (v := iI 0) hx hb dX9_full_5 rfl ?_
  obtain ⟨x1, ex1, h⟩ := ob_some h
  refine gk_i (run_V (rest := []) hx hb hml hown hts hK hP hD hS hA hm (C_Fu_run l G D K s.heap.size ga n M a1 0 ex1) _ (full_C _) (full_n _ List.nodup_range) mok_yX0_run w_556 w_557 w_558 (rcv hK hP 7 go_7 rfl rfl) ⟨Nat.le_of_ble_eq_true rfl, Nat.le_of_ble_eq_true rfl⟩ rfl hl.1 rfl (Nat.le_of_ble_eq_true rfl) dX9_full_6 ⟨(Nat.le_of_ble_eq_true rfl), (Nat.le_of_ble_eq_true rfl)⟩) hP hD hS hA (fun u H locs (hP : va_P D cl (wld ga n (K 0) (K 1) x1.1) H) (hD : va_D A (wld ga n (K 0) (K 1) x1.1)) hS => ?_)
  obtain rfl := Option.some.inj h
  exact e_i hx hb hr hlk hP hD hS (fun _ => 0) rfl (Nat.le_of_ble_eq_true rfl) (Nat.le_of_ble_eq_true rfl) rfl dX9_full_9
def f_X_set (n : Nat) (M : cSt) (a1 : Int) (a2 : Int) (a3 : Int) : Option (cSt × Int) := ob (f_X_requireSlot n M a1) (fun x1 => ob (f_X_requireSlotOrNone n M a3) (fun x2 => ob (f_X_occupant n M a1) (fun x3 => ob (f_X_requireField n M x3 a2) (fun x4 => on x3 none (fun q5 => og (q5 < n) (ob (f_Th_read n M q5 a2) (fun x6 => ob (f_Ro_readSlot n M a3) (fun x7 => ob (f_Th_write n M q5 a2 x7) (fun x8 => ob (f_Pl_noteWritten n x8 (some q5) x7) (fun x9 => ob (f_Mk_noteWritten n x9 (some q5) x7) (fun x10 => ob (f_X_numberOf n x10 x6) (fun x11 => some (x10, x11)))))))))))))
set_option maxHeartbeats 4000000 in
set_option maxRecDepth 100000 in
theorem C_X_set (l : Launch) (G : Nat → Nat) (D : va_G) (K : Nat → ClassId) (sz : Nat) (ga : Nat → Nat) (n : Nat) (M : cSt) (a1 : Int) (a2 : Int) (a3 : Int) {x : cSt × Int} (h : f_X_set n M a1 a2 a3 = some x) : CM l yX9_set cX9_set 7 (some FieldType.int) ({ frames := 3, cells := 0, slots := 0, locals := 65 } : Room) G D K [.ref (ga 0), .int (iI a1), .int (iI a2), .int (iI a3)] (wld ga n (K 0) (K 1) M) sz (CQi (iI x.2) D (fun _ => wld ga n (K 0) (K 1) x.1)) := by
  refine CM_of (lv0 := [(0, .ref (ga 0)), (1, .int (iI a1)), (2, .int (iI a2)), (3, .int (iI a3))]) pn_RX9 (Nat.le_of_ble_eq_true rfl) rfl (fun p e s m args below meth c A ls hx hb hr hml hown hts hlk hnm hP hK hD hS hA hm hl => ?_)
  have hown : s.vm.findClass RX9 = some m.cls := hown
  unfold f_X_set at h
  refine lv_iload_n hx hb dX9_set_0 rfl (lv_at hl 1 rfl) ?_
  obtain ⟨x1, ex1, h⟩ := ob_some h
  refine gk_v (run_S (rest := []) hx hb hml hown hts hK hP hD hS hA hm (C_X_requireSlot l G D K s.heap.size ga n M a1 ex1) _ (full_C _) (full_n _ List.nodup_range) mok_yX9_requireSlot w_366 w_367 ⟨Nat.le_of_ble_eq_true rfl, Nat.le_of_ble_eq_true rfl⟩ rfl hl.1 rfl (Nat.le_of_ble_eq_true rfl) dX9_set_1 ⟨(Nat.le_of_ble_eq_true rfl), (Nat.le_of_ble_eq_true rfl)⟩) hP hD hS hA (fun u H locs (hP : va_P D cl (wld ga n (K 0) (K 1) M) H) (hD : va_D A (wld ga n (K 0) (K 1) M)) hS => ?_)
  refine lv_iload_n hx hb dX9_set_4 rfl (lv_at hl 3 rfl) ?_
  obtain ⟨x2, ex2, h⟩ := ob_some h
  refine gk_v (run_S (rest := []) hx hb hml hown hts hK hP hD hS hA hm (C_X_requireSlotOrNone l G D K H.size ga n M a3 ex2) _ (full_C _) (full_n _ List.nodup_range) mok_yX9_requireSlotOrNone w_771 w_772 ⟨Nat.le_of_ble_eq_true rfl, Nat.le_of_ble_eq_true rfl⟩ rfl hl.1 rfl (Nat.le_of_ble_eq_true rfl) dX9_set_5 ⟨(Nat.le_of_ble_eq_true rfl), (Nat.le_of_ble_eq_true rfl)⟩) hP hD hS hA (fun u H locs (hP : va_P D cl (wld ga n (K 0) (K 1) M) H) (hD : va_D A (wld ga n (K 0) (K 1) M)) hS => ?_)
  refine lv_aload_n hx hb dX9_set_8 rfl (lv_at hl 0 rfl) ?_
  refine lv_iload_n hx hb dX9_set_9 rfl (lv_at hl 1 rfl) ?_
  obtain ⟨x3, ex3, h⟩ := ob_some h
  refine gk_q (run_V (rest := []) hx hb hml hown hts hK hP hD hS hA hm (C_X_occupant l G D K H.size ga n M a1 ex3) _ (full_C _) (full_n _ List.nodup_range) mok_yX9_occupant w_774 w_776 w_p21 (rcv hK hP 0 go_0 rfl rfl) ⟨Nat.le_of_ble_eq_true rfl, Nat.le_of_ble_eq_true rfl⟩ rfl hl.1 rfl (Nat.le_of_ble_eq_true rfl) dX9_set_10 ⟨(Nat.le_of_ble_eq_true rfl), (Nat.le_of_ble_eq_true rfl)⟩) hP hD hS hA (fun u H locs (hP : va_P D cl (wld ga n (K 0) (K 1) M) H) (hD : va_D A (wld ga n (K 0) (K 1) M)) hS => ?_)
  refine w_tov (y := ctv ga x3) rfl ?_
  refine t_astore hx hb dX9_set_13 hl (by decide) [0, 1, 2, 3] (lv' := [(0, .ref (ga 0)), (1, .int (iI a1)), (2, .int (iI a2)), (3, .int (iI a3))]) rfl (⟨⟨Nat.ne_of_beq_eq_false rfl, Or.inl (Nat.ne_of_beq_eq_false rfl)⟩, ⟨⟨Nat.ne_of_beq_eq_false rfl, Or.inl (Nat.ne_of_beq_eq_false rfl)⟩, ⟨⟨Nat.ne_of_beq_eq_false rfl, Or.inl (Nat.ne_of_beq_eq_false rfl)⟩, ⟨⟨Nat.ne_of_beq_eq_false rfl, Or.inr rfl⟩, trivial⟩⟩⟩⟩) (fun ls hl => ?_)
  refine t_aload hx hb dX9_set_15 (lv_at hl 0 rfl) ?_
  refine lv_iload_n hx hb dX9_set_17 rfl (lv_at hl 3 rfl) ?_
  obtain ⟨x4, ex4, h⟩ := ob_some h
  refine gk_v (run_S (rest := []) hx hb hml hown hts hK hP hD hS hA hm (C_X_requireField l G D K H.size ga n M x3 a2 ex4) _ (full_C _) (full_n _ List.nodup_range) mok_yX9_requireField w_783 w_784 ⟨Nat.le_of_ble_eq_true rfl, Nat.le_of_ble_eq_true rfl⟩ rfl hl.1 rfl (Nat.le_of_ble_eq_true rfl) dX9_set_18 ⟨(Nat.le_of_ble_eq_true rfl), (Nat.le_of_ble_eq_true rfl)⟩) hP hD hS hA (fun u H locs (hP : va_P D cl (wld ga n (K 0) (K 1) M) H) (hD : va_D A (wld ga n (K 0) (K 1) M)) hS => ?_)
  refine t_aload hx hb dX9_set_21 (lv_at hl 0 rfl) ?_
  refine lv_iload_n hx hb dX9_set_23 rfl (lv_at hl 3 rfl) ?_
  rcases on_cases h with ⟨z5, h⟩ | ⟨q5, z5, h⟩
  · cases h
  · obtain ⟨hq5, h⟩ := og_some h
    rw [ctv_some ga z5]
    obtain ⟨x6, ex6, h⟩ := ob_some h
    refine gk_q (run_V (rest := []) hx hb hml hown hts hK hP hD hS hA hm (C_Th_read l G D K H.size ga n M q5 hq5 a2 ex6) _ (full_C _) (full_n _ List.nodup_range) mok_yX7_read w_791 w_509 w_510 (rcv hK hP (25 + 2 * q5) (go_th hq5) rfl rfl) ⟨Nat.le_of_ble_eq_true rfl, Nat.le_of_ble_eq_true rfl⟩ rfl hl.1 rfl (Nat.le_of_ble_eq_true rfl) dX9_set_24 ⟨(Nat.le_of_ble_eq_true rfl), (Nat.le_of_ble_eq_true rfl)⟩) hP hD hS hA (fun u H locs (hP : va_P D cl (wld ga n (K 0) (K 1) M) H) (hD : va_D A (wld ga n (K 0) (K 1) M)) hS => ?_)
    refine w_tov (y := ctv ga x6) rfl ?_
    refine t_astore hx hb dX9_set_27 hl (by decide) [0, 1, 2, 3, 4] (lv' := [(4, ctv ga x3), (0, .ref (ga 0)), (1, .int (iI a1)), (2, .int (iI a2)), (3, .int (iI a3))]) rfl (⟨⟨Nat.ne_of_beq_eq_false rfl, Or.inr (ctv_cat _ _)⟩, ⟨⟨Nat.ne_of_beq_eq_false rfl, Or.inl (Nat.ne_of_beq_eq_false rfl)⟩, ⟨⟨Nat.ne_of_beq_eq_false rfl, Or.inl (Nat.ne_of_beq_eq_false rfl)⟩, ⟨⟨Nat.ne_of_beq_eq_false rfl, Or.inl (Nat.ne_of_beq_eq_false rfl)⟩, ⟨⟨Nat.ne_of_beq_eq_false rfl, Or.inl (Nat.ne_of_beq_eq_false rfl)⟩, trivial⟩⟩⟩⟩⟩) (fun ls hl => ?_)
    refine lv_aload_n hx hb dX9_set_29 rfl (lv_at hl 2 rfl) ?_
    refine r_get hx hb hts ok_RX9 hown hK hP 0 go_0 rfl 1 (by decide) w_238 (fun _ h9 => h9) rfl dX9_set_30 ?_
    refine lv_iload_n hx hb dX9_set_33 rfl (lv_at hl 5 rfl) ?_
    obtain ⟨x7, ex7, h⟩ := ob_some h
    refine gk_q (run_V (rest := []) hx hb hml hown hts hK hP hD hS hA hm (C_Ro_readSlot l G D K H.size ga n M a3 ex7) _ (full_C _) (full_n _ List.nodup_range) mok_yX4_readSlot w_778 w_779 w_780 (rcv hK hP 1 go_1 rfl rfl) ⟨Nat.le_of_ble_eq_true rfl, Nat.le_of_ble_eq_true rfl⟩ rfl hl.1 rfl (Nat.le_of_ble_eq_true rfl) dX9_set_34 ⟨(Nat.le_of_ble_eq_true rfl), (Nat.le_of_ble_eq_true rfl)⟩) hP hD hS hA (fun u H locs (hP : va_P D cl (wld ga n (K 0) (K 1) M) H) (hD : va_D A (wld ga n (K 0) (K 1) M)) hS => ?_)
    refine w_tov (y := ctv ga x7) rfl ?_
    refine t_astore hx hb dX9_set_37 hl (by decide) [0, 1, 2, 3, 4, 5] (lv' := [(5, ctv ga x6), (4, ctv ga x3), (0, .ref (ga 0)), (1, .int (iI a1)), (2, .int (iI a2)), (3, .int (iI a3))]) rfl (⟨⟨Nat.ne_of_beq_eq_false rfl, Or.inr (ctv_cat _ _)⟩, ⟨⟨Nat.ne_of_beq_eq_false rfl, Or.inl (Nat.ne_of_beq_eq_false rfl)⟩, ⟨⟨Nat.ne_of_beq_eq_false rfl, Or.inl (Nat.ne_of_beq_eq_false rfl)⟩, ⟨⟨Nat.ne_of_beq_eq_false rfl, Or.inl (Nat.ne_of_beq_eq_false rfl)⟩, ⟨⟨Nat.ne_of_beq_eq_false rfl, Or.inl (Nat.ne_of_beq_eq_false rfl)⟩, ⟨⟨Nat.ne_of_beq_eq_false rfl, Or.inl (Nat.ne_of_beq_eq_false rfl)⟩, trivial⟩⟩⟩⟩⟩⟩) (fun ls hl => ?_)
    refine t_aload hx hb dX9_set_39 (lv_at hl 2 rfl) ?_
    rw [ctv_some ga z5]
    refine lv_iload_n hx hb dX9_set_41 rfl (lv_at hl 5 rfl) ?_
    refine t_aload hx hb dX9_set_42 (lv_at hl 0 rfl) ?_
    obtain ⟨x8, ex8, h⟩ := ob_some h
    refine gk_v (run_V (rest := []) hx hb hml hown hts hK hP hD hS hA hm (C_Th_write l G D K H.size ga n M q5 hq5 a2 x7 ex8) _ (full_C _) (full_n _ List.nodup_range) mok_yX7_write w_792 w_513 w_514 (rcv hK hP (25 + 2 * q5) (go_th hq5) rfl rfl) ⟨Nat.le_of_ble_eq_true rfl, Nat.le_of_ble_eq_true rfl⟩ rfl hl.1 rfl (Nat.le_of_ble_eq_true rfl) dX9_set_44 ⟨(Nat.le_of_ble_eq_true rfl), (Nat.le_of_ble_eq_true rfl)⟩) hP hD hS hA (fun u H locs (hP : va_P D cl (wld ga n (K 0) (K 1) x8) H) (hD : va_D A (wld ga n (K 0) (K 1) x8)) hS => ?_)
    refine lv_aload_n hx hb dX9_set_47 rfl (lv_at hl 3 rfl) ?_
    refine r_get hx hb hts ok_RX9 hown hK hP 0 go_0 rfl 2 (by decide) w_239 (fun _ h9 => h9) rfl dX9_set_48 ?_
    refine t_aload hx hb dX9_set_51 (lv_at hl 2 rfl) ?_
    rw [ctv_some ga z5]
    refine t_aload hx hb dX9_set_53 (lv_at hl 0 rfl) ?_
    obtain ⟨x9, ex9, h⟩ := ob_some h
    refine gk_v (run_V (rest := []) hx hb hml hown hts hK hP hD hS hA hm (C_Pl_noteWritten l G D K H.size ga n x8 (some q5) x7 ex9) _ (full_C _) (full_n _ List.nodup_range) mok_yX3_noteWritten w_793 w_794 w_795 (rcv hK hP 2 go_2 rfl rfl) ⟨Nat.le_of_ble_eq_true rfl, Nat.le_of_ble_eq_true rfl⟩ rfl hl.1 rfl (Nat.le_of_ble_eq_true rfl) dX9_set_55 ⟨(Nat.le_of_ble_eq_true rfl), (Nat.le_of_ble_eq_true rfl)⟩) hP hD hS hA (fun u H locs (hP : va_P D cl (wld ga n (K 0) (K 1) x9) H) (hD : va_D A (wld ga n (K 0) (K 1) x9)) hS => ?_)
    refine lv_aload_n hx hb dX9_set_58 rfl (lv_at hl 3 rfl) ?_
    refine r_get hx hb hts ok_RX9 hown hK hP 0 go_0 rfl 4 (by decide) w_241 (fun _ h9 => h9) rfl dX9_set_59 ?_
    refine t_aload hx hb dX9_set_62 (lv_at hl 2 rfl) ?_
    rw [ctv_some ga z5]
    refine t_aload hx hb dX9_set_64 (lv_at hl 0 rfl) ?_
    obtain ⟨x10, ex10, h⟩ := ob_some h
    refine gk_v (run_V (rest := []) hx hb hml hown hts hK hP hD hS hA hm (C_Mk_noteWritten l G D K H.size ga n x9 (some q5) x7 ex10) _ (full_C _) (full_n _ List.nodup_range) mok_yX1_noteWritten w_797 w_798 w_799 (rcv hK hP 4 go_4 rfl rfl) ⟨Nat.le_of_ble_eq_true rfl, Nat.le_of_ble_eq_true rfl⟩ rfl hl.1 rfl (Nat.le_of_ble_eq_true rfl) dX9_set_66 ⟨(Nat.le_of_ble_eq_true rfl), (Nat.le_of_ble_eq_true rfl)⟩) hP hD hS hA (fun u H locs (hP : va_P D cl (wld ga n (K 0) (K 1) x10) H) (hD : va_D A (wld ga n (K 0) (K 1) x10)) hS => ?_)
    refine t_aload hx hb dX9_set_69 (lv_at hl 1 rfl) ?_
    obtain ⟨x11, ex11, h⟩ := ob_some h
    refine gk_i (run_S (rest := []) hx hb hml hown hts hK hP hD hS hA hm (C_X_numberOf l G D K H.size ga n x10 x6 ex11) _ (full_C _) (full_n _ List.nodup_range) mok_yX9_numberOf w_804 w_805 ⟨Nat.le_of_ble_eq_true rfl, Nat.le_of_ble_eq_true rfl⟩ rfl hl.1 rfl (Nat.le_of_ble_eq_true rfl) dX9_set_71 ⟨(Nat.le_of_ble_eq_true rfl), (Nat.le_of_ble_eq_true rfl)⟩) hP hD hS hA (fun u H locs (hP : va_P D cl (wld ga n (K 0) (K 1) x10) H) (hD : va_D A (wld ga n (K 0) (K 1) x10)) hS => ?_)
    obtain rfl := Option.some.inj h
    exact e_i hx hb hr hlk hP hD hS (fun _ => 0) rfl (Nat.le_of_ble_eq_true rfl) (Nat.le_of_ble_eq_true rfl) rfl dX9_set_74
def f_X_put (n : Nat) (M : cSt) (a1 : Int) (a2 : Int) : Option (cSt × Int) := ob (f_X_requireSlot n M a1) (fun x1 => ob (f_X_requireSlotOrNone n M a2) (fun x2 => ob (f_Ro_readSlot n M a1) (fun x3 => ob (f_Ro_readSlot n M a2) (fun x4 => ob (f_Ro_writeSlot n M a1 x4) (fun x5 => ob (f_X_numberOf n x5 x3) (fun x6 => some (x5, x6)))))))
set_option maxHeartbeats 4000000 in
set_option maxRecDepth 100000 in
theorem C_X_put (l : Launch) (G : Nat → Nat) (D : va_G) (K : Nat → ClassId) (sz : Nat) (ga : Nat → Nat) (n : Nat) (M : cSt) (a1 : Int) (a2 : Int) {x : cSt × Int} (h : f_X_put n M a1 a2 = some x) : CM l yX9_put cX9_put 4 (some FieldType.int) ({ frames := 2, cells := 0, slots := 0, locals := 44 } : Room) G D K [.ref (ga 0), .int (iI a1), .int (iI a2)] (wld ga n (K 0) (K 1) M) sz (CQi (iI x.2) D (fun _ => wld ga n (K 0) (K 1) x.1)) := by
  refine CM_of (lv0 := [(0, .ref (ga 0)), (1, .int (iI a1)), (2, .int (iI a2))]) pn_RX9 (Nat.le_of_ble_eq_true rfl) rfl (fun p e s m args below meth c A ls hx hb hr hml hown hts hlk hnm hP hK hD hS hA hm hl => ?_)
  have hown : s.vm.findClass RX9 = some m.cls := hown
  unfold f_X_put at h
  refine lv_iload_n hx hb dX9_put_0 rfl (lv_at hl 1 rfl) ?_
  obtain ⟨x1, ex1, h⟩ := ob_some h
  refine gk_v (run_S (rest := []) hx hb hml hown hts hK hP hD hS hA hm (C_X_requireSlot l G D K s.heap.size ga n M a1 ex1) _ (full_C _) (full_n _ List.nodup_range) mok_yX9_requireSlot w_366 w_367 ⟨Nat.le_of_ble_eq_true rfl, Nat.le_of_ble_eq_true rfl⟩ rfl hl.1 rfl (Nat.le_of_ble_eq_true rfl) dX9_put_1 ⟨(Nat.le_of_ble_eq_true rfl), (Nat.le_of_ble_eq_true rfl)⟩) hP hD hS hA (fun u H locs (hP : va_P D cl (wld ga n (K 0) (K 1) M) H) (hD : va_D A (wld ga n (K 0) (K 1) M)) hS => ?_)
  refine lv_iload_n hx hb dX9_put_4 rfl (lv_at hl 2 rfl) ?_
  obtain ⟨x2, ex2, h⟩ := ob_some h
  refine gk_v (run_S (rest := []) hx hb hml hown hts hK hP hD hS hA hm (C_X_requireSlotOrNone l G D K H.size ga n M a2 ex2) _ (full_C _) (full_n _ List.nodup_range) mok_yX9_requireSlotOrNone w_771 w_772 ⟨Nat.le_of_ble_eq_true rfl, Nat.le_of_ble_eq_true rfl⟩ rfl hl.1 rfl (Nat.le_of_ble_eq_true rfl) dX9_put_5 ⟨(Nat.le_of_ble_eq_true rfl), (Nat.le_of_ble_eq_true rfl)⟩) hP hD hS hA (fun u H locs (hP : va_P D cl (wld ga n (K 0) (K 1) M) H) (hD : va_D A (wld ga n (K 0) (K 1) M)) hS => ?_)
  refine lv_aload_n hx hb dX9_put_8 rfl (lv_at hl 0 rfl) ?_
  refine r_get hx hb hts ok_RX9 hown hK hP 0 go_0 rfl 1 (by decide) w_238 (fun _ h9 => h9) rfl dX9_put_9 ?_
  refine lv_iload_n hx hb dX9_put_12 rfl (lv_at hl 1 rfl) ?_
  obtain ⟨x3, ex3, h⟩ := ob_some h
  refine gk_q (run_V (rest := []) hx hb hml hown hts hK hP hD hS hA hm (C_Ro_readSlot l G D K H.size ga n M a1 ex3) _ (full_C _) (full_n _ List.nodup_range) mok_yX4_readSlot w_778 w_779 w_780 (rcv hK hP 1 go_1 rfl rfl) ⟨Nat.le_of_ble_eq_true rfl, Nat.le_of_ble_eq_true rfl⟩ rfl hl.1 rfl (Nat.le_of_ble_eq_true rfl) dX9_put_13 ⟨(Nat.le_of_ble_eq_true rfl), (Nat.le_of_ble_eq_true rfl)⟩) hP hD hS hA (fun u H locs (hP : va_P D cl (wld ga n (K 0) (K 1) M) H) (hD : va_D A (wld ga n (K 0) (K 1) M)) hS => ?_)
  refine w_tov (y := ctv ga x3) rfl ?_
  refine t_astore_n hx hb dX9_put_16 rfl hl (by decide) [0, 1, 2] (lv' := [(0, .ref (ga 0)), (1, .int (iI a1)), (2, .int (iI a2))]) rfl (⟨⟨Nat.ne_of_beq_eq_false rfl, Or.inl (Nat.ne_of_beq_eq_false rfl)⟩, ⟨⟨Nat.ne_of_beq_eq_false rfl, Or.inl (Nat.ne_of_beq_eq_false rfl)⟩, ⟨⟨Nat.ne_of_beq_eq_false rfl, Or.inr rfl⟩, trivial⟩⟩⟩) (fun ls hl => ?_)
  refine lv_aload_n hx hb dX9_put_17 rfl (lv_at hl 1 rfl) ?_
  refine r_get hx hb hts ok_RX9 hown hK hP 0 go_0 rfl 1 (by decide) w_238 (fun _ h9 => h9) rfl dX9_put_18 ?_
  refine lv_iload_n hx hb dX9_put_21 rfl (lv_at hl 2 rfl) ?_
  refine lv_aload_n hx hb dX9_put_22 rfl (lv_at hl 1 rfl) ?_
  refine r_get hx hb hts ok_RX9 hown hK hP 0 go_0 rfl 1 (by decide) w_238 (fun _ h9 => h9) rfl dX9_put_23 ?_
  refine lv_iload_n hx hb dX9_put_26 rfl (lv_at hl 3 rfl) ?_
  obtain ⟨x4, ex4, h⟩ := ob_some h
  refine gk_q (run_V (rest := [.int (iI a1), .ref (ga 1)]) hx hb hml hown hts hK hP hD hS hA hm (C_Ro_readSlot l G D K H.size ga n M a2 ex4) _ (full_C _) (full_n _ List.nodup_range) mok_yX4_readSlot w_778 w_779 w_780 (rcv hK hP 1 go_1 rfl rfl) ⟨Nat.le_of_ble_eq_true rfl, Nat.le_of_ble_eq_true rfl⟩ rfl hl.1 rfl (Nat.le_of_ble_eq_true rfl) dX9_put_27 ⟨(Nat.le_of_ble_eq_true rfl), (Nat.le_of_ble_eq_true rfl)⟩) hP hD hS hA (fun u H locs (hP : va_P D cl (wld ga n (K 0) (K 1) M) H) (hD : va_D A (wld ga n (K 0) (K 1) M)) hS => ?_)
  refine w_tov (y := ctv ga x4) rfl ?_
  obtain ⟨x5, ex5, h⟩ := ob_some h
  refine gk_v (run_V (rest := []) hx hb hml hown hts hK hP hD hS hA hm (C_Ro_writeSlot l G D K H.size ga n M a1 x4 ex5) _ (full_C _) (full_n _ List.nodup_range) mok_yX4_writeSlot w_766 w_355 w_356 (rcv hK hP 1 go_1 rfl rfl) ⟨Nat.le_of_ble_eq_true rfl, Nat.le_of_ble_eq_true rfl⟩ rfl hl.1 rfl (Nat.le_of_ble_eq_true rfl) dX9_put_30 ⟨(Nat.le_of_ble_eq_true rfl), (Nat.le_of_ble_eq_true rfl)⟩) hP hD hS hA (fun u H locs (hP : va_P D cl (wld ga n (K 0) (K 1) x5) H) (hD : va_D A (wld ga n (K 0) (K 1) x5)) hS => ?_)
  refine t_aload_n hx hb dX9_put_33 rfl (lv_at hl 0 rfl) ?_
  obtain ⟨x6, ex6, h⟩ := ob_some h
  refine gk_i (run_S (rest := []) hx hb hml hown hts hK hP hD hS hA hm (C_X_numberOf l G D K H.size ga n x5 x3 ex6) _ (full_C _) (full_n _ List.nodup_range) mok_yX9_numberOf w_804 w_805 ⟨Nat.le_of_ble_eq_true rfl, Nat.le_of_ble_eq_true rfl⟩ rfl hl.1 rfl (Nat.le_of_ble_eq_true rfl) dX9_put_34 ⟨(Nat.le_of_ble_eq_true rfl), (Nat.le_of_ble_eq_true rfl)⟩) hP hD hS hA (fun u H locs (hP : va_P D cl (wld ga n (K 0) (K 1) x5) H) (hD : va_D A (wld ga n (K 0) (K 1) x5)) hS => ?_)
  obtain rfl := Option.some.inj h
  exact e_i hx hb hr hlk hP hD hS (fun _ => 0) rfl (Nat.le_of_ble_eq_true rfl) (Nat.le_of_ble_eq_true rfl) rfl dX9_put_37
def f_X_swap (n : Nat) (M : cSt) (a1 : Int) (a2 : Int) : Option (cSt × Int) := ob (f_X_requireSlot n M a1) (fun x1 => og (inR a2) (if a2 < 0 then none else if a2 < 4 then ob (f_Ro_readGlobal n M a2) (fun x5 => ob (f_Ro_readSlot n M a1) (fun x6 => ob (f_Ro_writeGlobal n M a2 x6) (fun x7 => ob (f_Ro_writeSlot n x7 a1 x5) (fun x8 => ob (f_X_numberOf n x8 x5) (fun x9 => some (x8, x9)))))) else none))
set_option maxHeartbeats 4000000 in
set_option maxRecDepth 100000 in
theorem C_X_swap (l : Launch) (G : Nat → Nat) (D : va_G) (K : Nat → ClassId) (sz : Nat) (ga : Nat → Nat) (n : Nat) (M : cSt) (a1 : Int) (a2 : Int) {x : cSt × Int} (h : f_X_swap n M a1 a2 = some x) : CM l yX9_swap cX9_swap 4 (some FieldType.int) ({ frames := 2, cells := 0, slots := 0, locals := 44 } : Room) G D K [.ref (ga 0), .int (iI a1), .int (iI a2)] (wld ga n (K 0) (K 1) M) sz (CQi (iI x.2) D (fun _ => wld ga n (K 0) (K 1) x.1)) := by
  refine CM_of (lv0 := [(0, .ref (ga 0)), (1, .int (iI a1)), (2, .int (iI a2))]) pn_RX9 (Nat.le_of_ble_eq_true rfl) rfl (fun p e s m args below meth c A ls hx hb hr hml hown hts hlk hnm hP hK hD hS hA hm hl => ?_)
  have hown : s.vm.findClass RX9 = some m.cls := hown
  unfold f_X_swap at h
  refine lv_iload_n hx hb dX9_swap_0 rfl (lv_at hl 1 rfl) ?_
  obtain ⟨x1, ex1, h⟩ := ob_some h
  refine gk_v (run_S (rest := []) hx hb hml hown hts hK hP hD hS hA hm (C_X_requireSlot l G D K s.heap.size ga n M a1 ex1) _ (full_C _) (full_n _ List.nodup_range) mok_yX9_requireSlot w_366 w_367 ⟨Nat.le_of_ble_eq_true rfl, Nat.le_of_ble_eq_true rfl⟩ rfl hl.1 rfl (Nat.le_of_ble_eq_true rfl) dX9_swap_1 ⟨(Nat.le_of_ble_eq_true rfl), (Nat.le_of_ble_eq_true rfl)⟩) hP hD hS hA (fun u H locs (hP : va_P D cl (wld ga n (K 0) (K 1) M) H) (hD : va_D A (wld ga n (K 0) (K 1) M)) hS => ?_)
  refine lv_iload_n hx hb dX9_swap_4 rfl (lv_at hl 2 rfl) ?_
  obtain ⟨g2, h⟩ := og_some h
  by_cases c3 : a2 < 0
  · replace h := it_T h c3
    cases h
  · replace h := it_F h c3
    refine i_if_lt_F hx hb g2 (tgt := 13) dX9_swap_5 (by decide) c3 ?_
    refine lv_iload_n hx hb dX9_swap_8 rfl (lv_at hl 2 rfl) ?_
    refine lv_iconst (v := iI 4) hx hb dX9_swap_9 rfl ?_
    by_cases c4 : a2 < 4
    · replace h := it_T h c4
      refine i_icmp_lt_T hx hb g2 ⟨by decide, by decide⟩ (tgt := 23) dX9_swap_10 (by decide) c4 ?_
      refine lv_aload_n hx hb dX9_swap_23 rfl (lv_at hl 0 rfl) ?_
      refine r_get hx hb hts ok_RX9 hown hK hP 0 go_0 rfl 1 (by decide) w_238 (fun _ h9 => h9) rfl dX9_swap_24 ?_
      refine lv_iload_n hx hb dX9_swap_27 rfl (lv_at hl 2 rfl) ?_
      obtain ⟨x5, ex5, h⟩ := ob_some h
      refine gk_q (run_V (rest := []) hx hb hml hown hts hK hP hD hS hA hm (C_Ro_readGlobal l G D K H.size ga n M a2 ex5) _ (full_C _) (full_n _ List.nodup_range) mok_yX4_readGlobal w_816 w_478 w_479 (rcv hK hP 1 go_1 rfl rfl) ⟨Nat.le_of_ble_eq_true rfl, Nat.le_of_ble_eq_true rfl⟩ rfl hl.1 rfl (Nat.le_of_ble_eq_true rfl) dX9_swap_28 ⟨(Nat.le_of_ble_eq_true rfl), (Nat.le_of_ble_eq_true rfl)⟩) hP hD hS hA (fun u H locs (hP : va_P D cl (wld ga n (K 0) (K 1) M) H) (hD : va_D A (wld ga n (K 0) (K 1) M)) hS => ?_)
      refine w_tov (y := ctv ga x5) rfl ?_
      refine t_astore_n hx hb dX9_swap_31 rfl hl (by decide) [0, 1, 2] (lv' := [(0, .ref (ga 0)), (1, .int (iI a1)), (2, .int (iI a2))]) rfl (⟨⟨Nat.ne_of_beq_eq_false rfl, Or.inl (Nat.ne_of_beq_eq_false rfl)⟩, ⟨⟨Nat.ne_of_beq_eq_false rfl, Or.inl (Nat.ne_of_beq_eq_false rfl)⟩, ⟨⟨Nat.ne_of_beq_eq_false rfl, Or.inr rfl⟩, trivial⟩⟩⟩) (fun ls hl => ?_)
      refine lv_aload_n hx hb dX9_swap_32 rfl (lv_at hl 1 rfl) ?_
      refine r_get hx hb hts ok_RX9 hown hK hP 0 go_0 rfl 1 (by decide) w_238 (fun _ h9 => h9) rfl dX9_swap_33 ?_
      refine lv_iload_n hx hb dX9_swap_36 rfl (lv_at hl 3 rfl) ?_
      refine lv_aload_n hx hb dX9_swap_37 rfl (lv_at hl 1 rfl) ?_
      refine r_get hx hb hts ok_RX9 hown hK hP 0 go_0 rfl 1 (by decide) w_238 (fun _ h9 => h9) rfl dX9_swap_38 ?_
      refine lv_iload_n hx hb dX9_swap_41 rfl (lv_at hl 2 rfl) ?_
      obtain ⟨x6, ex6, h⟩ := ob_some h
      refine gk_q (run_V (rest := [.int (iI a2), .ref (ga 1)]) hx hb hml hown hts hK hP hD hS hA hm (C_Ro_readSlot l G D K H.size ga n M a1 ex6) _ (full_C _) (full_n _ List.nodup_range) mok_yX4_readSlot w_778 w_779 w_780 (rcv hK hP 1 go_1 rfl rfl) ⟨Nat.le_of_ble_eq_true rfl, Nat.le_of_ble_eq_true rfl⟩ rfl hl.1 rfl (Nat.le_of_ble_eq_true rfl) dX9_swap_42 ⟨(Nat.le_of_ble_eq_true rfl), (Nat.le_of_ble_eq_true rfl)⟩) hP hD hS hA (fun u H locs (hP : va_P D cl (wld ga n (K 0) (K 1) M) H) (hD : va_D A (wld ga n (K 0) (K 1) M)) hS => ?_)
      refine w_tov (y := ctv ga x6) rfl ?_
      obtain ⟨x7, ex7, h⟩ := ob_some h
      refine gk_v (run_V (rest := []) hx hb hml hown hts hK hP hD hS hA hm (C_Ro_writeGlobal l G D K H.size ga n M a2 x6 ex7) _ (full_C _) (full_n _ List.nodup_range) mok_yX4_writeGlobal w_817 w_818 w_819 (rcv hK hP 1 go_1 rfl rfl) ⟨Nat.le_of_ble_eq_true rfl, Nat.le_of_ble_eq_true rfl⟩ rfl hl.1 rfl (Nat.le_of_ble_eq_true rfl) dX9_swap_45 ⟨(Nat.le_of_ble_eq_true rfl), (Nat.le_of_ble_eq_true rfl)⟩) hP hD hS hA (fun u H locs (hP : va_P D cl (wld ga n (K 0) (K 1) x7) H) (hD : va_D A (wld ga n (K 0) (K 1) x7)) hS => ?_)
      refine lv_aload_n hx hb dX9_swap_48 rfl (lv_at hl 1 rfl) ?_
      refine r_get hx hb hts ok_RX9 hown hK hP 0 go_0 rfl 1 (by decide) w_238 (fun _ h9 => h9) rfl dX9_swap_49 ?_
      refine lv_iload_n hx hb dX9_swap_52 rfl (lv_at hl 2 rfl) ?_
      refine t_aload_n hx hb dX9_swap_53 rfl (lv_at hl 0 rfl) ?_
      obtain ⟨x8, ex8, h⟩ := ob_some h
      refine gk_v (run_V (rest := []) hx hb hml hown hts hK hP hD hS hA hm (C_Ro_writeSlot l G D K H.size ga n x7 a1 x5 ex8) _ (full_C _) (full_n _ List.nodup_range) mok_yX4_writeSlot w_766 w_355 w_356 (rcv hK hP 1 go_1 rfl rfl) ⟨Nat.le_of_ble_eq_true rfl, Nat.le_of_ble_eq_true rfl⟩ rfl hl.1 rfl (Nat.le_of_ble_eq_true rfl) dX9_swap_54 ⟨(Nat.le_of_ble_eq_true rfl), (Nat.le_of_ble_eq_true rfl)⟩) hP hD hS hA (fun u H locs (hP : va_P D cl (wld ga n (K 0) (K 1) x8) H) (hD : va_D A (wld ga n (K 0) (K 1) x8)) hS => ?_)
      refine t_aload_n hx hb dX9_swap_57 rfl (lv_at hl 0 rfl) ?_
      obtain ⟨x9, ex9, h⟩ := ob_some h
      refine gk_i (run_S (rest := []) hx hb hml hown hts hK hP hD hS hA hm (C_X_numberOf l G D K H.size ga n x8 x5 ex9) _ (full_C _) (full_n _ List.nodup_range) mok_yX9_numberOf w_804 w_805 ⟨Nat.le_of_ble_eq_true rfl, Nat.le_of_ble_eq_true rfl⟩ rfl hl.1 rfl (Nat.le_of_ble_eq_true rfl) dX9_swap_58 ⟨(Nat.le_of_ble_eq_true rfl), (Nat.le_of_ble_eq_true rfl)⟩) hP hD hS hA (fun u H locs (hP : va_P D cl (wld ga n (K 0) (K 1) x8) H) (hD : va_D A (wld ga n (K 0) (K 1) x8)) hS => ?_)
      obtain rfl := Option.some.inj h
      exact e_i hx hb hr hlk hP hD hS (fun _ => 0) rfl (Nat.le_of_ble_eq_true rfl) (Nat.le_of_ble_eq_true rfl) rfl dX9_swap_61
    · replace h := it_F h c4
      cases h
def f_X_hash (n : Nat) (M : cSt) (a1 : Int) : Option (cSt × Int) := ob (f_X_requireSlot n M a1) (fun x1 => ob (f_X_occupant n M a1) (fun x2 => on x2 none (fun q3 => og (q3 < n) (og (inR (gT M q3 8)) (if gT M q3 8 = (-1) then ob (f_Th_giveHash n M q3 (gI M 0)) (fun x6 => some (sI x6 0 (gI x6 0 + 1), gT (sI x6 0 (gI x6 0 + 1)) q3 8)) else some (M, gT M q3 8))))))
set_option maxHeartbeats 4000000 in
set_option maxRecDepth 100000 in
theorem C_X_hash (l : Launch) (G : Nat → Nat) (D : va_G) (K : Nat → ClassId) (sz : Nat) (ga : Nat → Nat) (n : Nat) (M : cSt) (a1 : Int) {x : cSt × Int} (h : f_X_hash n M a1 = some x) : CM l yX9_hash cX9_hash 3 (some FieldType.int) ({ frames := 3, cells := 0, slots := 0, locals := 65 } : Room) G D K [.ref (ga 0), .int (iI a1)] (wld ga n (K 0) (K 1) M) sz (CQi (iI x.2) D (fun _ => wld ga n (K 0) (K 1) x.1)) := by
  refine CM_of (lv0 := [(0, .ref (ga 0)), (1, .int (iI a1))]) pn_RX9 (Nat.le_of_ble_eq_true rfl) rfl (fun p e s m args below meth c A ls hx hb hr hml hown hts hlk hnm hP hK hD hS hA hm hl => ?_)
  have hown : s.vm.findClass RX9 = some m.cls := hown
  unfold f_X_hash at h
  refine lv_iload_n hx hb dX9_hash_0 rfl (lv_at hl 1 rfl) ?_
  obtain ⟨x1, ex1, h⟩ := ob_some h
  refine gk_v (run_S (rest := []) hx hb hml hown hts hK hP hD hS hA hm (C_X_requireSlot l G D K s.heap.size ga n M a1 ex1) _ (full_C _) (full_n _ List.nodup_range) mok_yX9_requireSlot w_366 w_367 ⟨Nat.le_of_ble_eq_true rfl, Nat.le_of_ble_eq_true rfl⟩ rfl hl.1 rfl (Nat.le_of_ble_eq_true rfl) dX9_hash_1 ⟨(Nat.le_of_ble_eq_true rfl), (Nat.le_of_ble_eq_true rfl)⟩) hP hD hS hA (fun u H locs (hP : va_P D cl (wld ga n (K 0) (K 1) M) H) (hD : va_D A (wld ga n (K 0) (K 1) M)) hS => ?_)
  refine lv_aload_n hx hb dX9_hash_4 rfl (lv_at hl 0 rfl) ?_
  refine lv_iload_n hx hb dX9_hash_5 rfl (lv_at hl 1 rfl) ?_
  obtain ⟨x2, ex2, h⟩ := ob_some h
  refine gk_q (run_V (rest := []) hx hb hml hown hts hK hP hD hS hA hm (C_X_occupant l G D K H.size ga n M a1 ex2) _ (full_C _) (full_n _ List.nodup_range) mok_yX9_occupant w_774 w_776 w_p21 (rcv hK hP 0 go_0 rfl rfl) ⟨Nat.le_of_ble_eq_true rfl, Nat.le_of_ble_eq_true rfl⟩ rfl hl.1 rfl (Nat.le_of_ble_eq_true rfl) dX9_hash_6 ⟨(Nat.le_of_ble_eq_true rfl), (Nat.le_of_ble_eq_true rfl)⟩) hP hD hS hA (fun u H locs (hP : va_P D cl (wld ga n (K 0) (K 1) M) H) (hD : va_D A (wld ga n (K 0) (K 1) M)) hS => ?_)
  refine w_tov (y := ctv ga x2) rfl ?_
  refine t_astore_n hx hb dX9_hash_9 rfl hl (by decide) [0, 1] (lv' := [(0, .ref (ga 0)), (1, .int (iI a1))]) rfl (⟨⟨Nat.ne_of_beq_eq_false rfl, Or.inl (Nat.ne_of_beq_eq_false rfl)⟩, ⟨⟨Nat.ne_of_beq_eq_false rfl, Or.inr rfl⟩, trivial⟩⟩) (fun ls hl => ?_)
  refine t_aload_n hx hb dX9_hash_10 rfl (lv_at hl 0 rfl) ?_
  rcases on_cases h with ⟨z3, h⟩ | ⟨q3, z3, h⟩
  · cases h
  · obtain ⟨hq3, h⟩ := og_some h
    rw [ctv_some ga z3]
    refine r_get hx hb hts ok_RX7 hown hK hP (25 + 2 * q3) (go_th hq3) rfl 8 (by decide) w_710 (fun _ h9 => h9) rfl dX9_hash_11 ?_
    refine lv_iconst (v := iI (-1)) hx hb dX9_hash_14 rfl ?_
    obtain ⟨g4, h⟩ := og_some h
    by_cases c5 : gT M q3 8 = (-1)
    · replace h := it_T h c5
      refine i_icmp_ne_F hx hb g4 ⟨by decide, by decide⟩ (tgt := 36) dX9_hash_15 (by decide) c5 ?_
      refine t_aload_n hx hb dX9_hash_18 rfl (lv_at hl 0 rfl) ?_
      rw [ctv_some ga z3]
      refine lv_aload_n hx hb dX9_hash_19 rfl (lv_at hl 1 rfl) ?_
      refine r_get hx hb hts ok_RX9 hown hK hP 0 go_0 rfl 8 (by decide) w_245 (fun _ h9 => h9) rfl dX9_hash_20 ?_
      obtain ⟨x6, ex6, h⟩ := ob_some h
      refine gk_v (run_V (rest := []) hx hb hml hown hts hK hP hD hS hA hm (C_Th_giveHash l G D K H.size ga n M q3 hq3 (gI M 0) ex6) _ (full_C _) (full_n _ List.nodup_range) mok_yX7_giveHash w_825 w_826 w_827 (rcv hK hP (25 + 2 * q3) (go_th hq3) rfl rfl) ⟨Nat.le_of_ble_eq_true rfl, Nat.le_of_ble_eq_true rfl⟩ rfl hl.1 rfl (Nat.le_of_ble_eq_true rfl) dX9_hash_23 ⟨(Nat.le_of_ble_eq_true rfl), (Nat.le_of_ble_eq_true rfl)⟩) hP hD hS hA (fun u H locs (hP : va_P D cl (wld ga n (K 0) (K 1) x6) H) (hD : va_D A (wld ga n (K 0) (K 1) x6)) hS => ?_)
      refine lv_aload_n hx hb dX9_hash_26 rfl (lv_at hl 1 rfl) ?_
      refine lv_dup hx hb dX9_hash_27 rfl ?_
      refine r_get hx hb hts ok_RX9 hown hK hP 0 go_0 rfl 8 (by decide) w_245 (fun _ h9 => h9) rfl dX9_hash_28 ?_
      refine lv_iconst (v := iI 1) hx hb dX9_hash_31 rfl ?_
      refine lv_iadd hx hb dX9_hash_32 ?_
      refine w_toeq (iI_add (gI x6 0) 1) ?_
      refine r_put hx hb hts ok_RX9 hown hK hP hD hS 0 go_0 rfl 8 (by decide) w_245 (fun _ h9 => h9) rfl (v := .int (iI (gI x6 0 + 1))) rfl rfl (Nat.le_of_ble_eq_true rfl) dX9_hash_33 (ws' := wld ga n (K 0) (K 1) (sI x6 0 (gI x6 0 + 1))) wI_0 (fun H locs hP hD hS => ?_)
      refine t_aload_n hx hb dX9_hash_36 rfl (lv_at hl 0 rfl) ?_
      rw [ctv_some ga z3]
      refine r_get hx hb hts ok_RX7 hown hK hP (25 + 2 * q3) (go_th hq3) rfl 8 (by decide) w_710 (fun _ h9 => h9) rfl dX9_hash_37 ?_
      obtain rfl := Option.some.inj h
      exact e_i hx hb hr hlk hP hD hS (fun _ => 0) rfl (Nat.le_of_ble_eq_true rfl) (Nat.le_of_ble_eq_true rfl) rfl dX9_hash_40
    · replace h := it_F h c5
      refine i_icmp_ne_T hx hb g4 ⟨by decide, by decide⟩ (tgt := 36) dX9_hash_15 (by decide) c5 ?_
      refine t_aload_n hx hb dX9_hash_36 rfl (lv_at hl 0 rfl) ?_
      rw [ctv_some ga z3]
      refine r_get hx hb hts ok_RX7 hown hK hP (25 + 2 * q3) (go_th hq3) rfl 8 (by decide) w_710 (fun _ h9 => h9) rfl dX9_hash_37 ?_
      obtain rfl := Option.some.inj h
      exact e_i hx hb hr hlk hP hD hS (fun _ => 0) rfl (Nat.le_of_ble_eq_true rfl) (Nat.le_of_ble_eq_true rfl) rfl dX9_hash_40
def f_X_pin (n : Nat) (M : cSt) (a1 : Int) : Option (cSt × Int) := ob (f_X_requireSlot n M a1) (fun x1 => ob (f_X_occupant n M a1) (fun x2 => on x2 none (fun q3 => og (q3 < n) (og (inR (gT M q3 9)) (if gT M q3 9 = 0 then ob (f_Row_pinned n M 0) (fun x6 => og (inR x6) (if x6 < 4 then og (inR (gT M q3 3)) (if gT M q3 3 = 1 then ob (f_Pl_oldRoom n M) (fun x11 => og (inR x11) (og (inR (gT M q3 6)) (if x11 < gT M q3 6 then some (M, 0) else ob (f_Pl_moveOutOfYoung n M (some q3)) (fun x15 => some (sT x15 q3 9 1, 1))))) else some (sT M q3 9 1, 1)) else none)) else og (inR (gT M q3 3)) (if gT M q3 3 = 1 then ob (f_Pl_oldRoom n M) (fun x18 => og (inR x18) (og (inR (gT M q3 6)) (if x18 < gT M q3 6 then some (M, 0) else ob (f_Pl_moveOutOfYoung n M (some q3)) (fun x22 => some (sT x22 q3 9 1, 1))))) else some (sT M q3 9 1, 1)))))))
set_option maxHeartbeats 4000000 in
set_option maxRecDepth 100000 in
theorem C_X_pin (l : Launch) (G : Nat → Nat) (D : va_G) (K : Nat → ClassId) (sz : Nat) (ga : Nat → Nat) (n : Nat) (M : cSt) (a1 : Int) {x : cSt × Int} (h : f_X_pin n M a1 = some x) : CM l yX9_pin cX9_pin 3 (some FieldType.boolean) ({ frames := 3, cells := 0, slots := 0, locals := 66 } : Room) G D K [.ref (ga 0), .int (iI a1)] (wld ga n (K 0) (K 1) M) sz (CQi (iI x.2) D (fun _ => wld ga n (K 0) (K 1) x.1)) := by
  refine CM_of (lv0 := [(0, .ref (ga 0)), (1, .int (iI a1))]) pn_RX9 (Nat.le_of_ble_eq_true rfl) rfl (fun p e s m args below meth c A ls hx hb hr hml hown hts hlk hnm hP hK hD hS hA hm hl => ?_)
  have hown : s.vm.findClass RX9 = some m.cls := hown
  unfold f_X_pin at h
  refine lv_iload_n hx hb dX9_pin_0 rfl (lv_at hl 1 rfl) ?_
  obtain ⟨x1, ex1, h⟩ := ob_some h
  refine gk_v (run_S (rest := []) hx hb hml hown hts hK hP hD hS hA hm (C_X_requireSlot l G D K s.heap.size ga n M a1 ex1) _ (full_C _) (full_n _ List.nodup_range) mok_yX9_requireSlot w_366 w_367 ⟨Nat.le_of_ble_eq_true rfl, Nat.le_of_ble_eq_true rfl⟩ rfl hl.1 rfl (Nat.le_of_ble_eq_true rfl) dX9_pin_1 ⟨(Nat.le_of_ble_eq_true rfl), (Nat.le_of_ble_eq_true rfl)⟩) hP hD hS hA (fun u H locs (hP : va_P D cl (wld ga n (K 0) (K 1) M) H) (hD : va_D A (wld ga n (K 0) (K 1) M)) hS => ?_)
  refine lv_aload_n hx hb dX9_pin_4 rfl (lv_at hl 0 rfl) ?_
  refine lv_iload_n hx hb dX9_pin_5 rfl (lv_at hl 1 rfl) ?_
  obtain ⟨x2, ex2, h⟩ := ob_some h
  refine gk_q (run_V (rest := []) hx hb hml hown hts hK hP hD hS hA hm (C_X_occupant l G D K H.size ga n M a1 ex2) _ (full_C _) (full_n _ List.nodup_range) mok_yX9_occupant w_774 w_776 w_p21 (rcv hK hP 0 go_0 rfl rfl) ⟨Nat.le_of_ble_eq_true rfl, Nat.le_of_ble_eq_true rfl⟩ rfl hl.1 rfl (Nat.le_of_ble_eq_true rfl) dX9_pin_6 ⟨(Nat.le_of_ble_eq_true rfl), (Nat.le_of_ble_eq_true rfl)⟩) hP hD hS hA (fun u H locs (hP : va_P D cl (wld ga n (K 0) (K 1) M) H) (hD : va_D A (wld ga n (K 0) (K 1) M)) hS => ?_)
  refine w_tov (y := ctv ga x2) rfl ?_
  refine t_astore_n hx hb dX9_pin_9 rfl hl (by decide) [0, 1] (lv' := [(0, .ref (ga 0)), (1, .int (iI a1))]) rfl (⟨⟨Nat.ne_of_beq_eq_false rfl, Or.inl (Nat.ne_of_beq_eq_false rfl)⟩, ⟨⟨Nat.ne_of_beq_eq_false rfl, Or.inr rfl⟩, trivial⟩⟩) (fun ls hl => ?_)
  refine t_aload_n hx hb dX9_pin_10 rfl (lv_at hl 0 rfl) ?_
  rcases on_cases h with ⟨z3, h⟩ | ⟨q3, z3, h⟩
  · cases h
  · obtain ⟨hq3, h⟩ := og_some h
    rw [ctv_some ga z3]
    refine r_get hx hb hts ok_RX7 hown hK hP (25 + 2 * q3) (go_th hq3) rfl 9 (by decide) w_712 (fun _ h9 => h9) rfl dX9_pin_11 ?_
    obtain ⟨g4, h⟩ := og_some h
    by_cases c5 : gT M q3 9 = 0
    · replace h := it_T h c5
      refine i_if_ne_F hx hb g4 (tgt := 38) dX9_pin_14 (by decide) c5 ?_
      refine lv_aload_n hx hb dX9_pin_17 rfl (lv_at hl 1 rfl) ?_
      refine r_get hx hb hts ok_RX9 hown hK hP 0 go_0 rfl 0 (by decide) w_237 (fun _ h9 => h9) rfl dX9_pin_18 ?_
      obtain ⟨x6, ex6, h⟩ := ob_some h
      refine gk_i (run_V (rest := []) hx hb hml hown hts hK hP hD hS hA hm (C_Row_pinned l G D K H.size ga n M 0 (by decide) ex6) _ (full_C _) (full_n _ List.nodup_range) mok_yX5_pinned w_833 w_834 w_835 (rcv hK hP (8 + 0) (go_ro (by decide)) rfl rfl) ⟨Nat.le_of_ble_eq_true rfl, Nat.le_of_ble_eq_true rfl⟩ rfl hl.1 rfl (Nat.le_of_ble_eq_true rfl) dX9_pin_21 ⟨(Nat.le_of_ble_eq_true rfl), (Nat.le_of_ble_eq_true rfl)⟩) hP hD hS hA (fun u H locs (hP : va_P D cl (wld ga n (K 0) (K 1) M) H) (hD : va_D A (wld ga n (K 0) (K 1) M)) hS => ?_)
      refine lv_iconst (v := iI 4) hx hb dX9_pin_24 rfl ?_
      obtain ⟨g7, h⟩ := og_some h
      by_cases c8 : x6 < 4
      · replace h := it_T h c8
        refine i_icmp_lt_T hx hb g7 ⟨by decide, by decide⟩ (tgt := 38) dX9_pin_25 (by decide) c8 ?_
        refine t_aload_n hx hb dX9_pin_38 rfl (lv_at hl 0 rfl) ?_
        rw [ctv_some ga z3]
        refine r_get hx hb hts ok_RX7 hown hK hP (25 + 2 * q3) (go_th hq3) rfl 3 (by decide) w_691 (fun _ h9 => h9) rfl dX9_pin_39 ?_
        refine lv_iconst (v := iI 1) hx hb dX9_pin_42 rfl ?_
        obtain ⟨g9, h⟩ := og_some h
        by_cases c10 : gT M q3 3 = 1
        · replace h := it_T h c10
          refine i_icmp_ne_F hx hb g9 ⟨by decide, by decide⟩ (tgt := 70) dX9_pin_43 (by decide) c10 ?_
          refine lv_aload_n hx hb dX9_pin_46 rfl (lv_at hl 1 rfl) ?_
          refine r_get hx hb hts ok_RX9 hown hK hP 0 go_0 rfl 2 (by decide) w_239 (fun _ h9 => h9) rfl dX9_pin_47 ?_
          obtain ⟨x11, ex11, h⟩ := ob_some h
          refine gk_i (run_V (rest := []) hx hb hml hown hts hK hP hD hS hA hm (C_Pl_oldRoom l G D K H.size ga n M ex11) _ (full_C _) (full_n _ List.nodup_range) mok_yX3_oldRoom w_838 w_435 w_436 (rcv hK hP 2 go_2 rfl rfl) ⟨Nat.le_of_ble_eq_true rfl, Nat.le_of_ble_eq_true rfl⟩ rfl hl.1 rfl (Nat.le_of_ble_eq_true rfl) dX9_pin_50 ⟨(Nat.le_of_ble_eq_true rfl), (Nat.le_of_ble_eq_true rfl)⟩) hP hD hS hA (fun u H locs (hP : va_P D cl (wld ga n (K 0) (K 1) M) H) (hD : va_D A (wld ga n (K 0) (K 1) M)) hS => ?_)
          refine t_aload_n hx hb dX9_pin_53 rfl (lv_at hl 0 rfl) ?_
          rw [ctv_some ga z3]
          refine r_get hx hb hts ok_RX7 hown hK hP (25 + 2 * q3) (go_th hq3) rfl 6 (by decide) w_706 (fun _ h9 => h9) rfl dX9_pin_54 ?_
          obtain ⟨g12, h⟩ := og_some h
          obtain ⟨g13, h⟩ := og_some h
          by_cases c14 : x11 < gT M q3 6
          · replace h := it_T h c14
            refine i_icmp_ge_F hx hb g12 g13 (tgt := 62) dX9_pin_57 (by decide) c14 ?_
            refine lv_iconst (v := iI 0) hx hb dX9_pin_60 rfl ?_
            obtain rfl := Option.some.inj h
            exact e_z hx hb hr hlk hP hD hS (fun _ => 0) rfl (Nat.le_of_ble_eq_true rfl) (Nat.le_of_ble_eq_true rfl) rfl (b01 (Or.inl rfl)) dX9_pin_61
          · replace h := it_F h c14
            refine i_icmp_ge_T hx hb g12 g13 (tgt := 62) dX9_pin_57 (by decide) c14 ?_
            refine lv_aload_n hx hb dX9_pin_62 rfl (lv_at hl 1 rfl) ?_
            refine r_get hx hb hts ok_RX9 hown hK hP 0 go_0 rfl 2 (by decide) w_239 (fun _ h9 => h9) rfl dX9_pin_63 ?_
            refine t_aload_n hx hb dX9_pin_66 rfl (lv_at hl 0 rfl) ?_
            rw [ctv_some ga z3]
            obtain ⟨x15, ex15, h⟩ := ob_some h
            refine gk_v (run_V (rest := []) hx hb hml hown hts hK hP hD hS hA hm (C_Pl_moveOutOfYoung l G D K H.size ga n M (some q3) ex15) _ (full_C _) (full_n _ List.nodup_range) mok_yX3_moveOutOfYoung w_839 w_840 w_841 (rcv hK hP 2 go_2 rfl rfl) ⟨Nat.le_of_ble_eq_true rfl, Nat.le_of_ble_eq_true rfl⟩ rfl hl.1 rfl (Nat.le_of_ble_eq_true rfl) dX9_pin_67 ⟨(Nat.le_of_ble_eq_true rfl), (Nat.le_of_ble_eq_true rfl)⟩) hP hD hS hA (fun u H locs (hP : va_P D cl (wld ga n (K 0) (K 1) x15) H) (hD : va_D A (wld ga n (K 0) (K 1) x15)) hS => ?_)
            refine t_aload_n hx hb dX9_pin_70 rfl (lv_at hl 0 rfl) ?_
            rw [ctv_some ga z3]
            refine lv_iconst (v := iI 1) hx hb dX9_pin_71 rfl ?_
            refine r_put hx hb hts ok_RX7 hown hK hP hD hS (25 + 2 * q3) (go_th hq3) rfl 9 (by decide) w_712 (fun _ h9 => h9) rfl (v := .int (iI 1)) (nar_b (Or.inr rfl)) (fit_b (Or.inr rfl)) (Nat.le_of_ble_eq_true rfl) dX9_pin_72 (ws' := wld ga n (K 0) (K 1) (sT x15 q3 9 1)) wT_9 (fun H locs hP hD hS => ?_)
            refine lv_iconst (v := iI 1) hx hb dX9_pin_75 rfl ?_
            obtain rfl := Option.some.inj h
            exact e_z hx hb hr hlk hP hD hS (fun _ => 0) rfl (Nat.le_of_ble_eq_true rfl) (Nat.le_of_ble_eq_true rfl) rfl (b01 (Or.inr rfl)) dX9_pin_76
        · replace h := it_F h c10
          refine i_icmp_ne_T hx hb g9 ⟨by decide, by decide⟩ (tgt := 70) dX9_pin_43 (by decide) c10 ?_
          refine t_aload_n hx hb dX9_pin_70 rfl (lv_at hl 0 rfl) ?_
          rw [ctv_some ga z3]
          refine lv_iconst (v := iI 1) hx hb dX9_pin_71 rfl ?_
          refine r_put hx hb hts ok_RX7 hown hK hP hD hS (25 + 2 * q3) (go_th hq3) rfl 9 (by decide) w_712 (fun _ h9 => h9) rfl (v := .int (iI 1)) (nar_b (Or.inr rfl)) (fit_b (Or.inr rfl)) (Nat.le_of_ble_eq_true rfl) dX9_pin_72 (ws' := wld ga n (K 0) (K 1) (sT M q3 9 1)) wT_9 (fun H locs hP hD hS => ?_)
          refine lv_iconst (v := iI 1) hx hb dX9_pin_75 rfl ?_
          obtain rfl := Option.some.inj h
          exact e_z hx hb hr hlk hP hD hS (fun _ => 0) rfl (Nat.le_of_ble_eq_true rfl) (Nat.le_of_ble_eq_true rfl) rfl (b01 (Or.inr rfl)) dX9_pin_76
      · replace h := it_F h c8
        cases h
    · replace h := it_F h c5
      refine i_if_ne_T hx hb g4 (tgt := 38) dX9_pin_14 (by decide) c5 ?_
      refine t_aload_n hx hb dX9_pin_38 rfl (lv_at hl 0 rfl) ?_
      rw [ctv_some ga z3]
      refine r_get hx hb hts ok_RX7 hown hK hP (25 + 2 * q3) (go_th hq3) rfl 3 (by decide) w_691 (fun _ h9 => h9) rfl dX9_pin_39 ?_
      refine lv_iconst (v := iI 1) hx hb dX9_pin_42 rfl ?_
      obtain ⟨g16, h⟩ := og_some h
      by_cases c17 : gT M q3 3 = 1
      · replace h := it_T h c17
        refine i_icmp_ne_F hx hb g16 ⟨by decide, by decide⟩ (tgt := 70) dX9_pin_43 (by decide) c17 ?_
        refine lv_aload_n hx hb dX9_pin_46 rfl (lv_at hl 1 rfl) ?_
        refine r_get hx hb hts ok_RX9 hown hK hP 0 go_0 rfl 2 (by decide) w_239 (fun _ h9 => h9) rfl dX9_pin_47 ?_
        obtain ⟨x18, ex18, h⟩ := ob_some h
        refine gk_i (run_V (rest := []) hx hb hml hown hts hK hP hD hS hA hm (C_Pl_oldRoom l G D K H.size ga n M ex18) _ (full_C _) (full_n _ List.nodup_range) mok_yX3_oldRoom w_838 w_435 w_436 (rcv hK hP 2 go_2 rfl rfl) ⟨Nat.le_of_ble_eq_true rfl, Nat.le_of_ble_eq_true rfl⟩ rfl hl.1 rfl (Nat.le_of_ble_eq_true rfl) dX9_pin_50 ⟨(Nat.le_of_ble_eq_true rfl), (Nat.le_of_ble_eq_true rfl)⟩) hP hD hS hA (fun u H locs (hP : va_P D cl (wld ga n (K 0) (K 1) M) H) (hD : va_D A (wld ga n (K 0) (K 1) M)) hS => ?_)
        refine t_aload_n hx hb dX9_pin_53 rfl (lv_at hl 0 rfl) ?_
        rw [ctv_some ga z3]
        refine r_get hx hb hts ok_RX7 hown hK hP (25 + 2 * q3) (go_th hq3) rfl 6 (by decide) w_706 (fun _ h9 => h9) rfl dX9_pin_54 ?_
        obtain ⟨g19, h⟩ := og_some h
        obtain ⟨g20, h⟩ := og_some h
        by_cases c21 : x18 < gT M q3 6
        · replace h := it_T h c21
          refine i_icmp_ge_F hx hb g19 g20 (tgt := 62) dX9_pin_57 (by decide) c21 ?_
          refine lv_iconst (v := iI 0) hx hb dX9_pin_60 rfl ?_
          obtain rfl := Option.some.inj h
          exact e_z hx hb hr hlk hP hD hS (fun _ => 0) rfl (Nat.le_of_ble_eq_true rfl) (Nat.le_of_ble_eq_true rfl) rfl (b01 (Or.inl rfl)) dX9_pin_61
        · replace h := it_F h c21
          refine i_icmp_ge_T hx hb g19 g20 (tgt := 62) dX9_pin_57 (by decide) c21 ?_
          refine lv_aload_n hx hb dX9_pin_62 rfl (lv_at hl 1 rfl) ?_
          refine r_get hx hb hts ok_RX9 hown hK hP 0 go_0 rfl 2 (by decide) w_239 (fun _ h9 => h9) rfl dX9_pin_63 ?_
          refine t_aload_n hx hb dX9_pin_66 rfl (lv_at hl 0 rfl) ?_
          rw [ctv_some ga z3]
          obtain ⟨x22, ex22, h⟩ := ob_some h
          refine gk_v (run_V (rest := []) hx hb hml hown hts hK hP hD hS hA hm (C_Pl_moveOutOfYoung l G D K H.size ga n M (some q3) ex22) _ (full_C _) (full_n _ List.nodup_range) mok_yX3_moveOutOfYoung w_839 w_840 w_841 (rcv hK hP 2 go_2 rfl rfl) ⟨Nat.le_of_ble_eq_true rfl, Nat.le_of_ble_eq_true rfl⟩ rfl hl.1 rfl (Nat.le_of_ble_eq_true rfl) dX9_pin_67 ⟨(Nat.le_of_ble_eq_true rfl), (Nat.le_of_ble_eq_true rfl)⟩) hP hD hS hA (fun u H locs (hP : va_P D cl (wld ga n (K 0) (K 1) x22) H) (hD : va_D A (wld ga n (K 0) (K 1) x22)) hS => ?_)
          refine t_aload_n hx hb dX9_pin_70 rfl (lv_at hl 0 rfl) ?_
          rw [ctv_some ga z3]
          refine lv_iconst (v := iI 1) hx hb dX9_pin_71 rfl ?_
          refine r_put hx hb hts ok_RX7 hown hK hP hD hS (25 + 2 * q3) (go_th hq3) rfl 9 (by decide) w_712 (fun _ h9 => h9) rfl (v := .int (iI 1)) (nar_b (Or.inr rfl)) (fit_b (Or.inr rfl)) (Nat.le_of_ble_eq_true rfl) dX9_pin_72 (ws' := wld ga n (K 0) (K 1) (sT x22 q3 9 1)) wT_9 (fun H locs hP hD hS => ?_)
          refine lv_iconst (v := iI 1) hx hb dX9_pin_75 rfl ?_
          obtain rfl := Option.some.inj h
          exact e_z hx hb hr hlk hP hD hS (fun _ => 0) rfl (Nat.le_of_ble_eq_true rfl) (Nat.le_of_ble_eq_true rfl) rfl (b01 (Or.inr rfl)) dX9_pin_76
      · replace h := it_F h c17
        refine i_icmp_ne_T hx hb g16 ⟨by decide, by decide⟩ (tgt := 70) dX9_pin_43 (by decide) c17 ?_
        refine t_aload_n hx hb dX9_pin_70 rfl (lv_at hl 0 rfl) ?_
        rw [ctv_some ga z3]
        refine lv_iconst (v := iI 1) hx hb dX9_pin_71 rfl ?_
        refine r_put hx hb hts ok_RX7 hown hK hP hD hS (25 + 2 * q3) (go_th hq3) rfl 9 (by decide) w_712 (fun _ h9 => h9) rfl (v := .int (iI 1)) (nar_b (Or.inr rfl)) (fit_b (Or.inr rfl)) (Nat.le_of_ble_eq_true rfl) dX9_pin_72 (ws' := wld ga n (K 0) (K 1) (sT M q3 9 1)) wT_9 (fun H locs hP hD hS => ?_)
        refine lv_iconst (v := iI 1) hx hb dX9_pin_75 rfl ?_
        obtain rfl := Option.some.inj h
        exact e_z hx hb hr hlk hP hD hS (fun _ => 0) rfl (Nat.le_of_ble_eq_true rfl) (Nat.le_of_ble_eq_true rfl) rfl (b01 (Or.inr rfl)) dX9_pin_76
def f_X_at (n : Nat) (M : cSt) (a1 : Int) : Option (Int) := ob (f_X_requireSlot n M a1) (fun x1 => ob (f_Ro_readSlot n M a1) (fun x2 => ob (f_X_numberOf n M x2) (fun x3 => some x3)))
set_option maxHeartbeats 4000000 in
set_option maxRecDepth 100000 in
theorem C_X_at (l : Launch) (G : Nat → Nat) (D : va_G) (K : Nat → ClassId) (sz : Nat) (ga : Nat → Nat) (n : Nat) (M : cSt) (a1 : Int) {x : Int} (h : f_X_at n M a1 = some x) : CM l yX9_at cX9_at 2 (some FieldType.int) ({ frames := 2, cells := 0, slots := 0, locals := 43 } : Room) G D K [.ref (ga 0), .int (iI a1)] (wld ga n (K 0) (K 1) M) sz (CQi (iI x) D (fun _ => wld ga n (K 0) (K 1) M)) := by
  refine CM_of (lv0 := [(0, .ref (ga 0)), (1, .int (iI a1))]) pn_RX9 (Nat.le_of_ble_eq_true rfl) rfl (fun p e s m args below meth c A ls hx hb hr hml hown hts hlk hnm hP hK hD hS hA hm hl => ?_)
  have hown : s.vm.findClass RX9 = some m.cls := hown
  unfold f_X_at at h
  refine lv_iload_n hx hb dX9_at_0 rfl (lv_at hl 1 rfl) ?_
  obtain ⟨x1, ex1, h⟩ := ob_some h
  refine gk_v (run_S (rest := []) hx hb hml hown hts hK hP hD hS hA hm (C_X_requireSlot l G D K s.heap.size ga n M a1 ex1) _ (full_C _) (full_n _ List.nodup_range) mok_yX9_requireSlot w_366 w_367 ⟨Nat.le_of_ble_eq_true rfl, Nat.le_of_ble_eq_true rfl⟩ rfl hl.1 rfl (Nat.le_of_ble_eq_true rfl) dX9_at_1 ⟨(Nat.le_of_ble_eq_true rfl), (Nat.le_of_ble_eq_true rfl)⟩) hP hD hS hA (fun u H locs (hP : va_P D cl (wld ga n (K 0) (K 1) M) H) (hD : va_D A (wld ga n (K 0) (K 1) M)) hS => ?_)
  refine lv_aload_n hx hb dX9_at_4 rfl (lv_at hl 0 rfl) ?_
  refine r_get hx hb hts ok_RX9 hown hK hP 0 go_0 rfl 1 (by decide) w_238 (fun _ h9 => h9) rfl dX9_at_5 ?_
  refine lv_iload_n hx hb dX9_at_8 rfl (lv_at hl 1 rfl) ?_
  obtain ⟨x2, ex2, h⟩ := ob_some h
  refine gk_q (run_V (rest := []) hx hb hml hown hts hK hP hD hS hA hm (C_Ro_readSlot l G D K H.size ga n M a1 ex2) _ (full_C _) (full_n _ List.nodup_range) mok_yX4_readSlot w_778 w_779 w_780 (rcv hK hP 1 go_1 rfl rfl) ⟨Nat.le_of_ble_eq_true rfl, Nat.le_of_ble_eq_true rfl⟩ rfl hl.1 rfl (Nat.le_of_ble_eq_true rfl) dX9_at_9 ⟨(Nat.le_of_ble_eq_true rfl), (Nat.le_of_ble_eq_true rfl)⟩) hP hD hS hA (fun u H locs (hP : va_P D cl (wld ga n (K 0) (K 1) M) H) (hD : va_D A (wld ga n (K 0) (K 1) M)) hS => ?_)
  refine w_tov (y := ctv ga x2) rfl ?_
  obtain ⟨x3, ex3, h⟩ := ob_some h
  refine gk_i (run_S (rest := []) hx hb hml hown hts hK hP hD hS hA hm (C_X_numberOf l G D K H.size ga n M x2 ex3) _ (full_C _) (full_n _ List.nodup_range) mok_yX9_numberOf w_804 w_805 ⟨Nat.le_of_ble_eq_true rfl, Nat.le_of_ble_eq_true rfl⟩ rfl hl.1 rfl (Nat.le_of_ble_eq_true rfl) dX9_at_12 ⟨(Nat.le_of_ble_eq_true rfl), (Nat.le_of_ble_eq_true rfl)⟩) hP hD hS hA (fun u H locs (hP : va_P D cl (wld ga n (K 0) (K 1) M) H) (hD : va_D A (wld ga n (K 0) (K 1) M)) hS => ?_)
  obtain rfl := Option.some.inj h
  exact e_i hx hb hr hlk hP hD hS (fun _ => 0) rfl (Nat.le_of_ble_eq_true rfl) (Nat.le_of_ble_eq_true rfl) rfl dX9_at_15
def f_X_field (n : Nat) (M : cSt) (a1 : Int) (a2 : Int) : Option (Int) := ob (f_X_madeAs n M a1) (fun x1 => ob (f_X_requireField n M x1 a2) (fun x2 => on x1 none (fun q3 => og (q3 < n) (ob (f_Th_read n M q3 a2) (fun x4 => ob (f_X_numberOf n M x4) (fun x5 => some x5))))))
set_option maxHeartbeats 4000000 in
set_option maxRecDepth 100000 in
theorem C_X_field (l : Launch) (G : Nat → Nat) (D : va_G) (K : Nat → ClassId) (sz : Nat) (ga : Nat → Nat) (n : Nat) (M : cSt) (a1 : Int) (a2 : Int) {x : Int} (h : f_X_field n M a1 a2 = some x) : CM l yX9_field cX9_field 4 (some FieldType.int) ({ frames := 2, cells := 0, slots := 0, locals := 43 } : Room) G D K [.ref (ga 0), .int (iI a1), .int (iI a2)] (wld ga n (K 0) (K 1) M) sz (CQi (iI x) D (fun _ => wld ga n (K 0) (K 1) M)) := by
  refine CM_of (lv0 := [(0, .ref (ga 0)), (1, .int (iI a1)), (2, .int (iI a2))]) pn_RX9 (Nat.le_of_ble_eq_true rfl) rfl (fun p e s m args below meth c A ls hx hb hr hml hown hts hlk hnm hP hK hD hS hA hm hl => ?_)
  have hown : s.vm.findClass RX9 = some m.cls := hown
  unfold f_X_field at h
  refine lv_aload_n hx hb dX9_field_0 rfl (lv_at hl 0 rfl) ?_
  refine lv_iload_n hx hb dX9_field_1 rfl (lv_at hl 1 rfl) ?_
  obtain ⟨x1, ex1, h⟩ := ob_some h
  refine gk_q (run_V (rest := []) hx hb hml hown hts hK hP hD hS hA hm (C_X_madeAs l G D K s.heap.size ga n M a1 ex1) _ (full_C _) (full_n _ List.nodup_range) mok_yX9_madeAs w_852 w_854 w_p22 (rcv hK hP 0 go_0 rfl rfl) ⟨Nat.le_of_ble_eq_true rfl, Nat.le_of_ble_eq_true rfl⟩ rfl hl.1 rfl (Nat.le_of_ble_eq_true rfl) dX9_field_2 ⟨(Nat.le_of_ble_eq_true rfl), (Nat.le_of_ble_eq_true rfl)⟩) hP hD hS hA (fun u H locs (hP : va_P D cl (wld ga n (K 0) (K 1) M) H) (hD : va_D A (wld ga n (K 0) (K 1) M)) hS => ?_)
  refine w_tov (y := ctv ga x1) rfl ?_
  refine t_astore_n hx hb dX9_field_5 rfl hl (by decide) [0, 1, 2] (lv' := [(0, .ref (ga 0)), (1, .int (iI a1)), (2, .int (iI a2))]) rfl (⟨⟨Nat.ne_of_beq_eq_false rfl, Or.inl (Nat.ne_of_beq_eq_false rfl)⟩, ⟨⟨Nat.ne_of_beq_eq_false rfl, Or.inl (Nat.ne_of_beq_eq_false rfl)⟩, ⟨⟨Nat.ne_of_beq_eq_false rfl, Or.inr rfl⟩, trivial⟩⟩⟩) (fun ls hl => ?_)
  refine t_aload_n hx hb dX9_field_6 rfl (lv_at hl 0 rfl) ?_
  refine lv_iload_n hx hb dX9_field_7 rfl (lv_at hl 3 rfl) ?_
  obtain ⟨x2, ex2, h⟩ := ob_some h
  refine gk_v (run_S (rest := []) hx hb hml hown hts hK hP hD hS hA hm (C_X_requireField l G D K H.size ga n M x1 a2 ex2) _ (full_C _) (full_n _ List.nodup_range) mok_yX9_requireField w_783 w_784 ⟨Nat.le_of_ble_eq_true rfl, Nat.le_of_ble_eq_true rfl⟩ rfl hl.1 rfl (Nat.le_of_ble_eq_true rfl) dX9_field_8 ⟨(Nat.le_of_ble_eq_true rfl), (Nat.le_of_ble_eq_true rfl)⟩) hP hD hS hA (fun u H locs (hP : va_P D cl (wld ga n (K 0) (K 1) M) H) (hD : va_D A (wld ga n (K 0) (K 1) M)) hS => ?_)
  refine t_aload_n hx hb dX9_field_11 rfl (lv_at hl 0 rfl) ?_
  refine lv_iload_n hx hb dX9_field_12 rfl (lv_at hl 3 rfl) ?_
  rcases on_cases h with ⟨z3, h⟩ | ⟨q3, z3, h⟩
  · cases h
  · obtain ⟨hq3, h⟩ := og_some h
    rw [ctv_some ga z3]
    obtain ⟨x4, ex4, h⟩ := ob_some h
    refine gk_q (run_V (rest := []) hx hb hml hown hts hK hP hD hS hA hm (C_Th_read l G D K H.size ga n M q3 hq3 a2 ex4) _ (full_C _) (full_n _ List.nodup_range) mok_yX7_read w_791 w_509 w_510 (rcv hK hP (25 + 2 * q3) (go_th hq3) rfl rfl) ⟨Nat.le_of_ble_eq_true rfl, Nat.le_of_ble_eq_true rfl⟩ rfl hl.1 rfl (Nat.le_of_ble_eq_true rfl) dX9_field_13 ⟨(Nat.le_of_ble_eq_true rfl), (Nat.le_of_ble_eq_true rfl)⟩) hP hD hS hA (fun u H locs (hP : va_P D cl (wld ga n (K 0) (K 1) M) H) (hD : va_D A (wld ga n (K 0) (K 1) M)) hS => ?_)
    refine w_tov (y := ctv ga x4) rfl ?_
    obtain ⟨x5, ex5, h⟩ := ob_some h
    refine gk_i (run_S (rest := []) hx hb hml hown hts hK hP hD hS hA hm (C_X_numberOf l G D K H.size ga n M x4 ex5) _ (full_C _) (full_n _ List.nodup_range) mok_yX9_numberOf w_804 w_805 ⟨Nat.le_of_ble_eq_true rfl, Nat.le_of_ble_eq_true rfl⟩ rfl hl.1 rfl (Nat.le_of_ble_eq_true rfl) dX9_field_16 ⟨(Nat.le_of_ble_eq_true rfl), (Nat.le_of_ble_eq_true rfl)⟩) hP hD hS hA (fun u H locs (hP : va_P D cl (wld ga n (K 0) (K 1) M) H) (hD : va_D A (wld ga n (K 0) (K 1) M)) hS => ?_)
    obtain rfl := Option.some.inj h
    exact e_i hx hb hr hlk hP hD hS (fun _ => 0) rfl (Nat.le_of_ble_eq_true rfl) (Nat.le_of_ble_eq_true rfl) rfl dX9_field_19
def f_X_ofObject (n : Nat) (M : cSt) (a1 : Int) (a2 : Int) : Option (Int) := ob (f_X_madeAs n M a1) (fun x1 => og (inR a2) (if a2 < 0 then none else if a2 < 8 then if a2 = 0 then on x1 none (fun q6 => og (q6 < n) (some (gT M q6 3))) else on x1 none (fun q7 => og (q7 < n) (og (inR (gT M q7 3)) (if gT M q7 3 = 0 then some (-1) else if a2 = 1 then some (gT M q7 4) else if a2 = 2 then some (gT M q7 5) else if a2 = 3 then some (gT M q7 7) else if a2 = 4 then some (gT M q7 8) else if a2 = 5 then og (inR (gT M q7 9)) (if gT M q7 9 = 0 then some 0 else some 1) else if a2 = 6 then ob (f_Mk_isOn n M) (fun x18 => og (inR x18) (if x18 = 0 then some (-1) else some (gT M q7 10))) else some (gT M q7 2)))) else none))
set_option maxHeartbeats 4000000 in
set_option maxRecDepth 100000 in
theorem C_X_ofObject (l : Launch) (G : Nat → Nat) (D : va_G) (K : Nat → ClassId) (sz : Nat) (ga : Nat → Nat) (n : Nat) (M : cSt) (a1 : Int) (a2 : Int) {x : Int} (h : f_X_ofObject n M a1 a2 = some x) : CM l yX9_ofObject cX9_ofObject 4 (some FieldType.int) ({ frames := 2, cells := 0, slots := 0, locals := 43 } : Room) G D K [.ref (ga 0), .int (iI a1), .int (iI a2)] (wld ga n (K 0) (K 1) M) sz (CQi (iI x) D (fun _ => wld ga n (K 0) (K 1) M)) := by
  refine CM_of (lv0 := [(0, .ref (ga 0)), (1, .int (iI a1)), (2, .int (iI a2))]) pn_RX9 (Nat.le_of_ble_eq_true rfl) rfl (fun p e s m args below meth c A ls hx hb hr hml hown hts hlk hnm hP hK hD hS hA hm hl => ?_)
  have hown : s.vm.findClass RX9 = some m.cls := hown
  unfold f_X_ofObject at h
  refine lv_aload_n hx hb dX9_ofObject_0 rfl (lv_at hl 0 rfl) ?_
  refine lv_iload_n hx hb dX9_ofObject_1 rfl (lv_at hl 1 rfl) ?_
  obtain ⟨x1, ex1, h⟩ := ob_some h
  refine gk_q (run_V (rest := []) hx hb hml hown hts hK hP hD hS hA hm (C_X_madeAs l G D K s.heap.size ga n M a1 ex1) _ (full_C _) (full_n _ List.nodup_range) mok_yX9_madeAs w_852 w_854 w_p22 (rcv hK hP 0 go_0 rfl rfl) ⟨Nat.le_of_ble_eq_true rfl, Nat.le_of_ble_eq_true rfl⟩ rfl hl.1 rfl (Nat.le_of_ble_eq_true rfl) dX9_ofObject_2 ⟨(Nat.le_of_ble_eq_true rfl), (Nat.le_of_ble_eq_true rfl)⟩) hP hD hS hA (fun u H locs (hP : va_P D cl (wld ga n (K 0) (K 1) M) H) (hD : va_D A (wld ga n (K 0) (K 1) M)) hS => ?_)
  refine w_tov (y := ctv ga x1) rfl ?_
  refine t_astore_n hx hb dX9_ofObject_5 rfl hl (by decide) [0, 1, 2] (lv' := [(0, .ref (ga 0)), (1, .int (iI a1)), (2, .int (iI a2))]) rfl (⟨⟨Nat.ne_of_beq_eq_false rfl, Or.inl (Nat.ne_of_beq_eq_false rfl)⟩, ⟨⟨Nat.ne_of_beq_eq_false rfl, Or.inl (Nat.ne_of_beq_eq_false rfl)⟩, ⟨⟨Nat.ne_of_beq_eq_false rfl, Or.inr rfl⟩, trivial⟩⟩⟩) (fun ls hl => ?_)
  refine lv_iload_n hx hb dX9_ofObject_6 rfl (lv_at hl 3 rfl) ?_
  obtain ⟨g2, h⟩ := og_some h
  by_cases c3 : a2 < 0
  · replace h := it_T h c3
    cases h
  · replace h := it_F h c3
    refine i_if_lt_F hx hb g2 (tgt := 16) dX9_ofObject_7 (by decide) c3 ?_
    refine lv_iload_n hx hb dX9_ofObject_10 rfl (lv_at hl 3 rfl) ?_
    refine lv_bipush (v := iI 8) hx hb dX9_ofObject_11 rfl ?_
    by_cases c4 : a2 < 8
    · replace h := it_T h c4
      refine i_icmp_lt_T hx hb g2 ⟨by decide, by decide⟩ (tgt := 27) dX9_ofObject_13 (by decide) c4 ?_
      refine lv_iload_n hx hb dX9_ofObject_27 rfl (lv_at hl 3 rfl) ?_
      by_cases c5 : a2 = 0
      · replace h := it_T h c5
        refine i_if_ne_F hx hb g2 (tgt := 36) dX9_ofObject_28 (by decide) c5 ?_
        refine t_aload_n hx hb dX9_ofObject_31 rfl (lv_at hl 0 rfl) ?_
        rcases on_cases h with ⟨z6, h⟩ | ⟨q6, z6, h⟩
        · cases h
        · obtain ⟨hq6, h⟩ := og_some h
          rw [ctv_some ga z6]
          refine r_get hx hb hts ok_RX7 hown hK hP (25 + 2 * q6) (go_th hq6) rfl 3 (by decide) w_691 (fun _ h9 => h9) rfl dX9_ofObject_32 ?_
          obtain rfl := Option.some.inj h
          exact e_i hx hb hr hlk hP hD hS (fun _ => 0) rfl (Nat.le_of_ble_eq_true rfl) (Nat.le_of_ble_eq_true rfl) rfl dX9_ofObject_35
      · replace h := it_F h c5
        refine i_if_ne_T hx hb g2 (tgt := 36) dX9_ofObject_28 (by decide) c5 ?_
        refine t_aload_n hx hb dX9_ofObject_36 rfl (lv_at hl 0 rfl) ?_
        rcases on_cases h with ⟨z7, h⟩ | ⟨q7, z7, h⟩
        · cases h
        · obtain ⟨hq7, h⟩ := og_some h
          rw [ctv_some ga z7]
          refine r_get hx hb hts ok_RX7 hown hK hP (25 + 2 * q7) (go_th hq7) rfl 3 (by decide) w_691 (fun _ h9 => h9) rfl dX9_ofObject_37 ?_
          obtain ⟨g8, h⟩ := og_some h
          by_cases c9 : gT M q7 3 = 0
          · replace h := it_T h c9
            refine i_if_ne_F hx hb g8 (tgt := 45) dX9_ofObject_40 (by decide) c9 ?_
            refine lv_iconst (v := iI (-1)) hx hb dX9_ofObject_43 rfl ?_
            obtain rfl := Option.some.inj h
            exact e_i hx hb hr hlk hP hD hS (fun _ => 0) rfl (Nat.le_of_ble_eq_true rfl) (Nat.le_of_ble_eq_true rfl) rfl dX9_ofObject_44
          · replace h := it_F h c9
            refine i_if_ne_T hx hb g8 (tgt := 45) dX9_ofObject_40 (by decide) c9 ?_
            refine lv_iload_n hx hb dX9_ofObject_45 rfl (lv_at hl 3 rfl) ?_
            by_cases c10 : a2 = 1
            · replace h := it_T h c10
              skip
              refine i_tableIn (off := 38) (tgt := 84) hx hb g2 1 dX9_ofObject_46 c10 (by decide) (by decide) rfl (by decide) ?_
              refine t_aload_n hx hb dX9_ofObject_84 rfl (lv_at hl 0 rfl) ?_
              rw [ctv_some ga z7]
              refine r_get hx hb hts ok_RX7 hown hK hP (25 + 2 * q7) (go_th hq7) rfl 4 (by decide) w_697 (fun _ h9 => h9) rfl dX9_ofObject_85 ?_
              obtain rfl := Option.some.inj h
              exact e_i hx hb hr hlk hP hD hS (fun _ => 0) rfl (Nat.le_of_ble_eq_true rfl) (Nat.le_of_ble_eq_true rfl) rfl dX9_ofObject_88
            · replace h := it_F h c10
              skip
              by_cases c11 : a2 = 2
              · replace h := it_T h c11
                skip
                refine i_tableIn (off := 43) (tgt := 89) hx hb g2 2 dX9_ofObject_46 c11 (by decide) (by decide) rfl (by decide) ?_
                refine t_aload_n hx hb dX9_ofObject_89 rfl (lv_at hl 0 rfl) ?_
                rw [ctv_some ga z7]
                refine r_get hx hb hts ok_RX7 hown hK hP (25 + 2 * q7) (go_th hq7) rfl 5 (by decide) w_702 (fun _ h9 => h9) rfl dX9_ofObject_90 ?_
                obtain rfl := Option.some.inj h
                exact e_i hx hb hr hlk hP hD hS (fun _ => 0) rfl (Nat.le_of_ble_eq_true rfl) (Nat.le_of_ble_eq_true rfl) rfl dX9_ofObject_93
              · replace h := it_F h c11
                skip
                by_cases c12 : a2 = 3
                · replace h := it_T h c12
                  skip
                  refine i_tableIn (off := 48) (tgt := 94) hx hb g2 3 dX9_ofObject_46 c12 (by decide) (by decide) rfl (by decide) ?_
                  refine t_aload_n hx hb dX9_ofObject_94 rfl (lv_at hl 0 rfl) ?_
                  rw [ctv_some ga z7]
                  refine r_get hx hb hts ok_RX7 hown hK hP (25 + 2 * q7) (go_th hq7) rfl 7 (by decide) w_708 (fun _ h9 => h9) rfl dX9_ofObject_95 ?_
                  obtain rfl := Option.some.inj h
                  exact e_i hx hb hr hlk hP hD hS (fun _ => 0) rfl (Nat.le_of_ble_eq_true rfl) (Nat.le_of_ble_eq_true rfl) rfl dX9_ofObject_98
                · replace h := it_F h c12
                  skip
                  by_cases c13 : a2 = 4
                  · replace h := it_T h c13
                    skip
                    refine i_tableIn (off := 53) (tgt := 99) hx hb g2 4 dX9_ofObject_46 c13 (by decide) (by decide) rfl (by decide) ?_
                    refine t_aload_n hx hb dX9_ofObject_99 rfl (lv_at hl 0 rfl) ?_
                    rw [ctv_some ga z7]
                    refine r_get hx hb hts ok_RX7 hown hK hP (25 + 2 * q7) (go_th hq7) rfl 8 (by decide) w_710 (fun _ h9 => h9) rfl dX9_ofObject_100 ?_
                    obtain rfl := Option.some.inj h
                    exact e_i hx hb hr hlk hP hD hS (fun _ => 0) rfl (Nat.le_of_ble_eq_true rfl) (Nat.le_of_ble_eq_true rfl) rfl dX9_ofObject_103
                  · replace h := it_F h c13
                    skip
                    by_cases c14 : a2 = 5
                    · replace h := it_T h c14
                      skip
                      refine i_tableIn (off := 58) (tgt := 104) hx hb g2 5 dX9_ofObject_46 c14 (by decide) (by decide) rfl (by decide) ?_
                      refine t_aload_n hx hb dX9_ofObject_104 rfl (lv_at hl 0 rfl) ?_
                      rw [ctv_some ga z7]
                      refine r_get hx hb hts ok_RX7 hown hK hP (25 + 2 * q7) (go_th hq7) rfl 9 (by decide) w_712 (fun _ h9 => h9) rfl dX9_ofObject_105 ?_
                      obtain ⟨g15, h⟩ := og_some h
                      by_cases c16 : gT M q7 9 = 0
                      · replace h := it_T h c16
                        refine i_if_eq_T hx hb g15 (tgt := 115) dX9_ofObject_108 (by decide) c16 ?_
                        refine lv_iconst (v := iI 0) hx hb dX9_ofObject_115 rfl ?_
                        obtain rfl := Option.some.inj h
                        exact e_i hx hb hr hlk hP hD hS (fun _ => 0) rfl (Nat.le_of_ble_eq_true rfl) (Nat.le_of_ble_eq_true rfl) rfl dX9_ofObject_116
                      · replace h := it_F h c16
                        refine i_if_eq_F hx hb g15 (tgt := 115) dX9_ofObject_108 (by decide) c16 ?_
                        refine lv_iconst (v := iI 1) hx hb dX9_ofObject_111 rfl ?_
                        refine lv_goto (tgt := 116) hx hb dX9_ofObject_112 (by decide) ?_
                        obtain rfl := Option.some.inj h
                        exact e_i hx hb hr hlk hP hD hS (fun _ => 0) rfl (Nat.le_of_ble_eq_true rfl) (Nat.le_of_ble_eq_true rfl) rfl dX9_ofObject_116
                    · replace h := it_F h c14
                      skip
                      by_cases c17 : a2 = 6
                      · replace h := it_T h c17
                        skip
                        refine i_tableIn (off := 71) (tgt := 117) hx hb g2 6 dX9_ofObject_46 c17 (by decide) (by decide) rfl (by decide) ?_
                        refine lv_aload_n hx hb dX9_ofObject_117 rfl (lv_at hl 1 rfl) ?_
                        refine r_get hx hb hts ok_RX9 hown hK hP 0 go_0 rfl 4 (by decide) w_241 (fun _ h9 => h9) rfl dX9_ofObject_118 ?_
                        obtain ⟨x18, ex18, h⟩ := ob_some h
                        refine gk_i (run_V (rest := []) hx hb hml hown hts hK hP hD hS hA hm (C_Mk_isOn l G D K H.size ga n M ex18) _ (full_C _) (full_n _ List.nodup_range) mok_yX1_isOn w_863 w_864 w_865 (rcv hK hP 4 go_4 rfl rfl) ⟨Nat.le_of_ble_eq_true rfl, Nat.le_of_ble_eq_true rfl⟩ rfl hl.1 rfl (Nat.le_of_ble_eq_true rfl) dX9_ofObject_121 ⟨(Nat.le_of_ble_eq_true rfl), (Nat.le_of_ble_eq_true rfl)⟩) hP hD hS hA (fun u H locs (hP : va_P D cl (wld ga n (K 0) (K 1) M) H) (hD : va_D A (wld ga n (K 0) (K 1) M)) hS => ?_)
                        obtain ⟨g19, h⟩ := og_some h
                        by_cases c20 : x18 = 0
                        · replace h := it_T h c20
                          refine i_if_eq_T hx hb g19 (tgt := 134) dX9_ofObject_124 (by decide) c20 ?_
                          refine lv_iconst (v := iI (-1)) hx hb dX9_ofObject_134 rfl ?_
                          obtain rfl := Option.some.inj h
                          exact e_i hx hb hr hlk hP hD hS (fun _ => 0) rfl (Nat.le_of_ble_eq_true rfl) (Nat.le_of_ble_eq_true rfl) rfl dX9_ofObject_135
                        · replace h := it_F h c20
                          refine i_if_eq_F hx hb g19 (tgt := 134) dX9_ofObject_124 (by decide) c20 ?_
                          refine t_aload_n hx hb dX9_ofObject_127 rfl (lv_at hl 0 rfl) ?_
                          rw [ctv_some ga z7]
                          refine r_get hx hb hts ok_RX7 hown hK hP (25 + 2 * q7) (go_th hq7) rfl 10 (by decide) w_718 (fun _ h9 => h9) rfl dX9_ofObject_128 ?_
                          refine lv_goto (tgt := 135) hx hb dX9_ofObject_131 (by decide) ?_
                          obtain rfl := Option.some.inj h
                          exact e_i hx hb hr hlk hP hD hS (fun _ => 0) rfl (Nat.le_of_ble_eq_true rfl) (Nat.le_of_ble_eq_true rfl) rfl dX9_ofObject_135
                      · replace h := it_F h c17
                        skip
                        refine i_tableOut (tgt := 136) hx hb g2 dX9_ofObject_46 (by omega) (by decide) ?_
                        refine t_aload_n hx hb dX9_ofObject_136 rfl (lv_at hl 0 rfl) ?_
                        rw [ctv_some ga z7]
                        refine r_get hx hb hts ok_RX7 hown hK hP (25 + 2 * q7) (go_th hq7) rfl 2 (by decide) w_686 (fun _ h9 => h9) rfl dX9_ofObject_137 ?_
                        obtain rfl := Option.some.inj h
                        exact e_i hx hb hr hlk hP hD hS (fun _ => 0) rfl (Nat.le_of_ble_eq_true rfl) (Nat.le_of_ble_eq_true rfl) rfl dX9_ofObject_140
    · replace h := it_F h c4
      cases h
def f_X_many (n : Nat) (M : cSt) (a1 : Int) : Option (Int) := og (inR a1) (if a1 = 0 then ob (f_Row_size n M 0) (fun x3 => some x3) else if a1 = 1 then ob (f_Pl_things n M) (fun x5 => some x5) else if a1 = 2 then ob (f_Ro_frames n M) (fun x7 => some x7) else if a1 = 3 then some (gI M 3 - gI M 2) else if a1 = 4 then some (gI M 2) else if a1 = 5 then some (gI M 4 - 100) else if a1 = 6 then some (gI M 5) else if a1 = 7 then ob (f_Row_words n M 4) (fun x13 => some x13) else if a1 = 8 then ob (f_Pl_largeGaps n M) (fun x15 => some x15) else if a1 = 9 then ob (f_Pl_dirtyCards n M) (fun x17 => some x17) else if a1 = 10 then ob (f_Row_size n M 1) (fun x19 => some x19) else if a1 = 11 then some (gI M 6) else if a1 = 12 then some (gI M 7) else if a1 = 13 then some (gI M 8) else if a1 = 14 then some (gI M 9) else if a1 = 15 then ob (f_Mk_greys n M) (fun x25 => some x25) else none)
set_option maxHeartbeats 4000000 in
set_option maxRecDepth 100000 in
theorem C_X_many (l : Launch) (G : Nat → Nat) (D : va_G) (K : Nat → ClassId) (sz : Nat) (ga : Nat → Nat) (n : Nat) (M : cSt) (a1 : Int) {x : Int} (h : f_X_many n M a1 = some x) : CM l yX9_many cX9_many 2 (some FieldType.int) ({ frames := 2, cells := 0, slots := 0, locals := 45 } : Room) G D K [.ref (ga 0), .int (iI a1)] (wld ga n (K 0) (K 1) M) sz (CQi (iI x) D (fun _ => wld ga n (K 0) (K 1) M)) := by
  refine CM_of (lv0 := [(0, .ref (ga 0)), (1, .int (iI a1))]) pn_RX9 (Nat.le_of_ble_eq_true rfl) rfl (fun p e s m args below meth c A ls hx hb hr hml hown hts hlk hnm hP hK hD hS hA hm hl => ?_)
  have hown : s.vm.findClass RX9 = some m.cls := hown
  unfold f_X_many at h
  refine lv_iload_n hx hb dX9_many_0 rfl (lv_at hl 1 rfl) ?_
  obtain ⟨g1, h⟩ := og_some h
  by_cases c2 : a1 = 0
  · replace h := it_T h c2
    skip
    refine i_tableIn (off := 79) (tgt := 80) hx hb g1 0 dX9_many_1 c2 (by decide) (by decide) rfl (by decide) ?_
    refine lv_aload_n hx hb dX9_many_80 rfl (lv_at hl 0 rfl) ?_
    refine r_get hx hb hts ok_RX9 hown hK hP 0 go_0 rfl 0 (by decide) w_237 (fun _ h9 => h9) rfl dX9_many_81 ?_
    obtain ⟨x3, ex3, h⟩ := ob_some h
    refine gk_i (run_V (rest := []) hx hb hml hown hts hK hP hD hS hA hm (C_Row_size l G D K s.heap.size ga n M 0 (by decide) ex3) _ (full_C _) (full_n _ List.nodup_range) mok_yX5_size w_404 w_405 w_406 (rcv hK hP (8 + 0) (go_ro (by decide)) rfl rfl) ⟨Nat.le_of_ble_eq_true rfl, Nat.le_of_ble_eq_true rfl⟩ rfl hl.1 rfl (Nat.le_of_ble_eq_true rfl) dX9_many_84 ⟨(Nat.le_of_ble_eq_true rfl), (Nat.le_of_ble_eq_true rfl)⟩) hP hD hS hA (fun u H locs (hP : va_P D cl (wld ga n (K 0) (K 1) M) H) (hD : va_D A (wld ga n (K 0) (K 1) M)) hS => ?_)
    obtain rfl := Option.some.inj h
    exact e_i hx hb hr hlk hP hD hS (fun _ => 0) rfl (Nat.le_of_ble_eq_true rfl) (Nat.le_of_ble_eq_true rfl) rfl dX9_many_87
  · replace h := it_F h c2
    skip
    by_cases c4 : a1 = 1
    · replace h := it_T h c4
      skip
      refine i_tableIn (off := 87) (tgt := 88) hx hb g1 1 dX9_many_1 c4 (by decide) (by decide) rfl (by decide) ?_
      refine lv_aload_n hx hb dX9_many_88 rfl (lv_at hl 0 rfl) ?_
      refine r_get hx hb hts ok_RX9 hown hK hP 0 go_0 rfl 2 (by decide) w_239 (fun _ h9 => h9) rfl dX9_many_89 ?_
      obtain ⟨x5, ex5, h⟩ := ob_some h
      refine gk_i (run_V (rest := []) hx hb hml hown hts hK hP hD hS hA hm (C_Pl_things l G D K s.heap.size ga n M ex5) _ (full_C _) (full_n _ List.nodup_range) mok_yX3_things w_871 w_872 w_873 (rcv hK hP 2 go_2 rfl rfl) ⟨Nat.le_of_ble_eq_true rfl, Nat.le_of_ble_eq_true rfl⟩ rfl hl.1 rfl (Nat.le_of_ble_eq_true rfl) dX9_many_92 ⟨(Nat.le_of_ble_eq_true rfl), (Nat.le_of_ble_eq_true rfl)⟩) hP hD hS hA (fun u H locs (hP : va_P D cl (wld ga n (K 0) (K 1) M) H) (hD : va_D A (wld ga n (K 0) (K 1) M)) hS => ?_)
      obtain rfl := Option.some.inj h
      exact e_i hx hb hr hlk hP hD hS (fun _ => 0) rfl (Nat.le_of_ble_eq_true rfl) (Nat.le_of_ble_eq_true rfl) rfl dX9_many_95
    · replace h := it_F h c4
      skip
      by_cases c6 : a1 = 2
      · replace h := it_T h c6
        skip
        refine i_tableIn (off := 95) (tgt := 96) hx hb g1 2 dX9_many_1 c6 (by decide) (by decide) rfl (by decide) ?_
        refine lv_aload_n hx hb dX9_many_96 rfl (lv_at hl 0 rfl) ?_
        refine r_get hx hb hts ok_RX9 hown hK hP 0 go_0 rfl 1 (by decide) w_238 (fun _ h9 => h9) rfl dX9_many_97 ?_
        obtain ⟨x7, ex7, h⟩ := ob_some h
        refine gk_i (run_V (rest := []) hx hb hml hown hts hK hP hD hS hA hm (C_Ro_frames l G D K s.heap.size ga n M ex7) _ (full_C _) (full_n _ List.nodup_range) mok_yX4_frames w_269 w_270 w_271 (rcv hK hP 1 go_1 rfl rfl) ⟨Nat.le_of_ble_eq_true rfl, Nat.le_of_ble_eq_true rfl⟩ rfl hl.1 rfl (Nat.le_of_ble_eq_true rfl) dX9_many_100 ⟨(Nat.le_of_ble_eq_true rfl), (Nat.le_of_ble_eq_true rfl)⟩) hP hD hS hA (fun u H locs (hP : va_P D cl (wld ga n (K 0) (K 1) M) H) (hD : va_D A (wld ga n (K 0) (K 1) M)) hS => ?_)
        obtain rfl := Option.some.inj h
        exact e_i hx hb hr hlk hP hD hS (fun _ => 0) rfl (Nat.le_of_ble_eq_true rfl) (Nat.le_of_ble_eq_true rfl) rfl dX9_many_103
      · replace h := it_F h c6
        skip
        by_cases c8 : a1 = 3
        · replace h := it_T h c8
          skip
          refine i_tableIn (off := 103) (tgt := 104) hx hb g1 3 dX9_many_1 c8 (by decide) (by decide) rfl (by decide) ?_
          refine lv_aload_n hx hb dX9_many_104 rfl (lv_at hl 0 rfl) ?_
          refine r_get hx hb hts ok_RX9 hown hK hP 0 go_0 rfl 2 (by decide) w_239 (fun _ h9 => h9) rfl dX9_many_105 ?_
          refine r_get hx hb hts ok_RX3 hown hK hP 2 go_2 rfl 4 (by decide) w_86 (fun _ h9 => h9) rfl dX9_many_108 ?_
          refine lv_aload_n hx hb dX9_many_111 rfl (lv_at hl 0 rfl) ?_
          refine r_get hx hb hts ok_RX9 hown hK hP 0 go_0 rfl 2 (by decide) w_239 (fun _ h9 => h9) rfl dX9_many_112 ?_
          refine r_get hx hb hts ok_RX3 hown hK hP 2 go_2 rfl 3 (by decide) w_83 (fun _ h9 => h9) rfl dX9_many_115 ?_
          refine lv_isub hx hb dX9_many_118 ?_
          refine w_toeq (iI_sub (gI M 3) (gI M 2)) ?_
          obtain rfl := Option.some.inj h
          exact e_i hx hb hr hlk hP hD hS (fun _ => 0) rfl (Nat.le_of_ble_eq_true rfl) (Nat.le_of_ble_eq_true rfl) rfl dX9_many_119
        · replace h := it_F h c8
          skip
          by_cases c9 : a1 = 4
          · replace h := it_T h c9
            skip
            refine i_tableIn (off := 119) (tgt := 120) hx hb g1 4 dX9_many_1 c9 (by decide) (by decide) rfl (by decide) ?_
            refine lv_aload_n hx hb dX9_many_120 rfl (lv_at hl 0 rfl) ?_
            refine r_get hx hb hts ok_RX9 hown hK hP 0 go_0 rfl 2 (by decide) w_239 (fun _ h9 => h9) rfl dX9_many_121 ?_
            refine r_get hx hb hts ok_RX3 hown hK hP 2 go_2 rfl 3 (by decide) w_83 (fun _ h9 => h9) rfl dX9_many_124 ?_
            obtain rfl := Option.some.inj h
            exact e_i hx hb hr hlk hP hD hS (fun _ => 0) rfl (Nat.le_of_ble_eq_true rfl) (Nat.le_of_ble_eq_true rfl) rfl dX9_many_127
          · replace h := it_F h c9
            skip
            by_cases c10 : a1 = 5
            · replace h := it_T h c10
              skip
              refine i_tableIn (off := 127) (tgt := 128) hx hb g1 5 dX9_many_1 c10 (by decide) (by decide) rfl (by decide) ?_
              refine lv_aload_n hx hb dX9_many_128 rfl (lv_at hl 0 rfl) ?_
              refine r_get hx hb hts ok_RX9 hown hK hP 0 go_0 rfl 2 (by decide) w_239 (fun _ h9 => h9) rfl dX9_many_129 ?_
              refine r_get hx hb hts ok_RX3 hown hK hP 2 go_2 rfl 5 (by decide) w_88 (fun _ h9 => h9) rfl dX9_many_132 ?_
              refine lv_bipush (v := iI 100) hx hb dX9_many_135 rfl ?_
              refine lv_isub hx hb dX9_many_137 ?_
              refine w_toeq (iI_sub (gI M 4) 100) ?_
              obtain rfl := Option.some.inj h
              exact e_i hx hb hr hlk hP hD hS (fun _ => 0) rfl (Nat.le_of_ble_eq_true rfl) (Nat.le_of_ble_eq_true rfl) rfl dX9_many_138
            · replace h := it_F h c10
              skip
              by_cases c11 : a1 = 6
              · replace h := it_T h c11
                skip
                refine i_tableIn (off := 138) (tgt := 139) hx hb g1 6 dX9_many_1 c11 (by decide) (by decide) rfl (by decide) ?_
                refine lv_aload_n hx hb dX9_many_139 rfl (lv_at hl 0 rfl) ?_
                refine r_get hx hb hts ok_RX9 hown hK hP 0 go_0 rfl 2 (by decide) w_239 (fun _ h9 => h9) rfl dX9_many_140 ?_
                refine r_get hx hb hts ok_RX3 hown hK hP 2 go_2 rfl 6 (by decide) w_90 (fun _ h9 => h9) rfl dX9_many_143 ?_
                obtain rfl := Option.some.inj h
                exact e_i hx hb hr hlk hP hD hS (fun _ => 0) rfl (Nat.le_of_ble_eq_true rfl) (Nat.le_of_ble_eq_true rfl) rfl dX9_many_146
              · replace h := it_F h c11
                skip
                by_cases c12 : a1 = 7
                · replace h := it_T h c12
                  skip
                  refine i_tableIn (off := 146) (tgt := 147) hx hb g1 7 dX9_many_1 c12 (by decide) (by decide) rfl (by decide) ?_
                  refine lv_aload_n hx hb dX9_many_147 rfl (lv_at hl 0 rfl) ?_
                  refine r_get hx hb hts ok_RX9 hown hK hP 0 go_0 rfl 2 (by decide) w_239 (fun _ h9 => h9) rfl dX9_many_148 ?_
                  refine r_get hx hb hts ok_RX3 hown hK hP 2 go_2 rfl 2 (by decide) w_80 (fun _ h9 => h9) rfl dX9_many_151 ?_
                  obtain ⟨x13, ex13, h⟩ := ob_some h
                  refine gk_i (run_V (rest := []) hx hb hml hown hts hK hP hD hS hA hm (C_Row_words l G D K s.heap.size ga n M 4 (by decide) ex13) _ (full_C _) (full_n _ List.nodup_range) mok_yX5_words w_875 w_546 w_547 (rcv hK hP (8 + 4) (go_ro (by decide)) rfl rfl) ⟨Nat.le_of_ble_eq_true rfl, Nat.le_of_ble_eq_true rfl⟩ rfl hl.1 rfl (Nat.le_of_ble_eq_true rfl) dX9_many_154 ⟨(Nat.le_of_ble_eq_true rfl), (Nat.le_of_ble_eq_true rfl)⟩) hP hD hS hA (fun u H locs (hP : va_P D cl (wld ga n (K 0) (K 1) M) H) (hD : va_D A (wld ga n (K 0) (K 1) M)) hS => ?_)
                  obtain rfl := Option.some.inj h
                  exact e_i hx hb hr hlk hP hD hS (fun _ => 0) rfl (Nat.le_of_ble_eq_true rfl) (Nat.le_of_ble_eq_true rfl) rfl dX9_many_157
                · replace h := it_F h c12
                  skip
                  by_cases c14 : a1 = 8
                  · replace h := it_T h c14
                    skip
                    refine i_tableIn (off := 157) (tgt := 158) hx hb g1 8 dX9_many_1 c14 (by decide) (by decide) rfl (by decide) ?_
                    refine lv_aload_n hx hb dX9_many_158 rfl (lv_at hl 0 rfl) ?_
                    refine r_get hx hb hts ok_RX9 hown hK hP 0 go_0 rfl 2 (by decide) w_239 (fun _ h9 => h9) rfl dX9_many_159 ?_
                    obtain ⟨x15, ex15, h⟩ := ob_some h
                    refine gk_i (run_V (rest := []) hx hb hml hown hts hK hP hD hS hA hm (C_Pl_largeGaps l G D K s.heap.size ga n M ex15) _ (full_C _) (full_n _ List.nodup_range) mok_yX3_largeGaps w_876 w_877 w_878 (rcv hK hP 2 go_2 rfl rfl) ⟨Nat.le_of_ble_eq_true rfl, Nat.le_of_ble_eq_true rfl⟩ rfl hl.1 rfl (Nat.le_of_ble_eq_true rfl) dX9_many_162 ⟨(Nat.le_of_ble_eq_true rfl), (Nat.le_of_ble_eq_true rfl)⟩) hP hD hS hA (fun u H locs (hP : va_P D cl (wld ga n (K 0) (K 1) M) H) (hD : va_D A (wld ga n (K 0) (K 1) M)) hS => ?_)
                    obtain rfl := Option.some.inj h
                    exact e_i hx hb hr hlk hP hD hS (fun _ => 0) rfl (Nat.le_of_ble_eq_true rfl) (Nat.le_of_ble_eq_true rfl) rfl dX9_many_165
                  · replace h := it_F h c14
                    skip
                    by_cases c16 : a1 = 9
                    · replace h := it_T h c16
                      skip
                      refine i_tableIn (off := 165) (tgt := 166) hx hb g1 9 dX9_many_1 c16 (by decide) (by decide) rfl (by decide) ?_
                      refine lv_aload_n hx hb dX9_many_166 rfl (lv_at hl 0 rfl) ?_
                      refine r_get hx hb hts ok_RX9 hown hK hP 0 go_0 rfl 2 (by decide) w_239 (fun _ h9 => h9) rfl dX9_many_167 ?_
                      obtain ⟨x17, ex17, h⟩ := ob_some h
                      refine gk_i (run_V (rest := []) hx hb hml hown hts hK hP hD hS hA hm (C_Pl_dirtyCards l G D K s.heap.size ga n M ex17) _ (full_C _) (full_n _ List.nodup_range) mok_yX3_dirtyCards w_880 w_881 w_882 (rcv hK hP 2 go_2 rfl rfl) ⟨Nat.le_of_ble_eq_true rfl, Nat.le_of_ble_eq_true rfl⟩ rfl hl.1 rfl (Nat.le_of_ble_eq_true rfl) dX9_many_170 ⟨(Nat.le_of_ble_eq_true rfl), (Nat.le_of_ble_eq_true rfl)⟩) hP hD hS hA (fun u H locs (hP : va_P D cl (wld ga n (K 0) (K 1) M) H) (hD : va_D A (wld ga n (K 0) (K 1) M)) hS => ?_)
                      obtain rfl := Option.some.inj h
                      exact e_i hx hb hr hlk hP hD hS (fun _ => 0) rfl (Nat.le_of_ble_eq_true rfl) (Nat.le_of_ble_eq_true rfl) rfl dX9_many_173
                    · replace h := it_F h c16
                      skip
                      by_cases c18 : a1 = 10
                      · replace h := it_T h c18
                        skip
                        refine i_tableIn (off := 173) (tgt := 174) hx hb g1 10 dX9_many_1 c18 (by decide) (by decide) rfl (by decide) ?_
                        refine lv_aload_n hx hb dX9_many_174 rfl (lv_at hl 0 rfl) ?_
                        refine r_get hx hb hts ok_RX9 hown hK hP 0 go_0 rfl 1 (by decide) w_238 (fun _ h9 => h9) rfl dX9_many_175 ?_
                        refine r_get hx hb hts ok_RX4 hown hK hP 1 go_1 rfl 0 (by decide) w_53 (fun _ h9 => h9) rfl dX9_many_178 ?_
                        obtain ⟨x19, ex19, h⟩ := ob_some h
                        refine gk_i (run_V (rest := []) hx hb hml hown hts hK hP hD hS hA hm (C_Row_size l G D K s.heap.size ga n M 1 (by decide) ex19) _ (full_C _) (full_n _ List.nodup_range) mok_yX5_size w_404 w_405 w_406 (rcv hK hP (8 + 1) (go_ro (by decide)) rfl rfl) ⟨Nat.le_of_ble_eq_true rfl, Nat.le_of_ble_eq_true rfl⟩ rfl hl.1 rfl (Nat.le_of_ble_eq_true rfl) dX9_many_181 ⟨(Nat.le_of_ble_eq_true rfl), (Nat.le_of_ble_eq_true rfl)⟩) hP hD hS hA (fun u H locs (hP : va_P D cl (wld ga n (K 0) (K 1) M) H) (hD : va_D A (wld ga n (K 0) (K 1) M)) hS => ?_)
                        obtain rfl := Option.some.inj h
                        exact e_i hx hb hr hlk hP hD hS (fun _ => 0) rfl (Nat.le_of_ble_eq_true rfl) (Nat.le_of_ble_eq_true rfl) rfl dX9_many_184
                      · replace h := it_F h c18
                        skip
                        by_cases c20 : a1 = 11
                        · replace h := it_T h c20
                          skip
                          refine i_tableIn (off := 184) (tgt := 185) hx hb g1 11 dX9_many_1 c20 (by decide) (by decide) rfl (by decide) ?_
                          refine lv_aload_n hx hb dX9_many_185 rfl (lv_at hl 0 rfl) ?_
                          refine r_get hx hb hts ok_RX9 hown hK hP 0 go_0 rfl 3 (by decide) w_240 (fun _ h9 => h9) rfl dX9_many_186 ?_
                          refine r_get hx hb hts ok_RX6 hown hK hP 3 go_3 rfl 0 (by decide) w_117 (fun _ h9 => h9) rfl dX9_many_189 ?_
                          obtain rfl := Option.some.inj h
                          exact e_i hx hb hr hlk hP hD hS (fun _ => 0) rfl (Nat.le_of_ble_eq_true rfl) (Nat.le_of_ble_eq_true rfl) rfl dX9_many_192
                        · replace h := it_F h c20
                          skip
                          by_cases c21 : a1 = 12
                          · replace h := it_T h c21
                            skip
                            refine i_tableIn (off := 192) (tgt := 193) hx hb g1 12 dX9_many_1 c21 (by decide) (by decide) rfl (by decide) ?_
                            refine lv_aload_n hx hb dX9_many_193 rfl (lv_at hl 0 rfl) ?_
                            refine r_get hx hb hts ok_RX9 hown hK hP 0 go_0 rfl 3 (by decide) w_240 (fun _ h9 => h9) rfl dX9_many_194 ?_
                            refine r_get hx hb hts ok_RX6 hown hK hP 3 go_3 rfl 1 (by decide) w_119 (fun _ h9 => h9) rfl dX9_many_197 ?_
                            obtain rfl := Option.some.inj h
                            exact e_i hx hb hr hlk hP hD hS (fun _ => 0) rfl (Nat.le_of_ble_eq_true rfl) (Nat.le_of_ble_eq_true rfl) rfl dX9_many_200
                          · replace h := it_F h c21
                            skip
                            by_cases c22 : a1 = 13
                            · replace h := it_T h c22
                              skip
                              refine i_tableIn (off := 200) (tgt := 201) hx hb g1 13 dX9_many_1 c22 (by decide) (by decide) rfl (by decide) ?_
                              refine lv_aload_n hx hb dX9_many_201 rfl (lv_at hl 0 rfl) ?_
                              refine r_get hx hb hts ok_RX9 hown hK hP 0 go_0 rfl 3 (by decide) w_240 (fun _ h9 => h9) rfl dX9_many_202 ?_
                              refine r_get hx hb hts ok_RX6 hown hK hP 3 go_3 rfl 2 (by decide) w_121 (fun _ h9 => h9) rfl dX9_many_205 ?_
                              obtain rfl := Option.some.inj h
                              exact e_i hx hb hr hlk hP hD hS (fun _ => 0) rfl (Nat.le_of_ble_eq_true rfl) (Nat.le_of_ble_eq_true rfl) rfl dX9_many_208
                            · replace h := it_F h c22
                              skip
                              by_cases c23 : a1 = 14
                              · replace h := it_T h c23
                                skip
                                refine i_tableIn (off := 208) (tgt := 209) hx hb g1 14 dX9_many_1 c23 (by decide) (by decide) rfl (by decide) ?_
                                refine lv_aload_n hx hb dX9_many_209 rfl (lv_at hl 0 rfl) ?_
                                refine r_get hx hb hts ok_RX9 hown hK hP 0 go_0 rfl 3 (by decide) w_240 (fun _ h9 => h9) rfl dX9_many_210 ?_
                                refine r_get hx hb hts ok_RX6 hown hK hP 3 go_3 rfl 3 (by decide) w_123 (fun _ h9 => h9) rfl dX9_many_213 ?_
                                obtain rfl := Option.some.inj h
                                exact e_i hx hb hr hlk hP hD hS (fun _ => 0) rfl (Nat.le_of_ble_eq_true rfl) (Nat.le_of_ble_eq_true rfl) rfl dX9_many_216
                              · replace h := it_F h c23
                                skip
                                by_cases c24 : a1 = 15
                                · replace h := it_T h c24
                                  skip
                                  refine i_tableIn (off := 216) (tgt := 217) hx hb g1 15 dX9_many_1 c24 (by decide) (by decide) rfl (by decide) ?_
                                  refine lv_aload_n hx hb dX9_many_217 rfl (lv_at hl 0 rfl) ?_
                                  refine r_get hx hb hts ok_RX9 hown hK hP 0 go_0 rfl 4 (by decide) w_241 (fun _ h9 => h9) rfl dX9_many_218 ?_
                                  obtain ⟨x25, ex25, h⟩ := ob_some h
                                  refine gk_i (run_V (rest := []) hx hb hml hown hts hK hP hD hS hA hm (C_Mk_greys l G D K s.heap.size ga n M ex25) _ (full_C _) (full_n _ List.nodup_range) mok_yX1_greys w_884 w_885 w_886 (rcv hK hP 4 go_4 rfl rfl) ⟨Nat.le_of_ble_eq_true rfl, Nat.le_of_ble_eq_true rfl⟩ rfl hl.1 rfl (Nat.le_of_ble_eq_true rfl) dX9_many_221 ⟨(Nat.le_of_ble_eq_true rfl), (Nat.le_of_ble_eq_true rfl)⟩) hP hD hS hA (fun u H locs (hP : va_P D cl (wld ga n (K 0) (K 1) M) H) (hD : va_D A (wld ga n (K 0) (K 1) M)) hS => ?_)
                                  obtain rfl := Option.some.inj h
                                  exact e_i hx hb hr hlk hP hD hS (fun _ => 0) rfl (Nat.le_of_ble_eq_true rfl) (Nat.le_of_ble_eq_true rfl) rfl dX9_many_224
                                · replace h := it_F h c24
                                  cases h
def f_X_isDirty (n : Nat) (M : cSt) (a1 : Int) : Option (Int) := og (inR a1) (if a1 < 0 then none else if a1 < 20 then ob (f_Pl_isCardDirty n M a1) (fun x4 => og (x4 = 0 ∨ x4 = 1) (some x4)) else none)
set_option maxHeartbeats 4000000 in
set_option maxRecDepth 100000 in
theorem C_X_isDirty (l : Launch) (G : Nat → Nat) (D : va_G) (K : Nat → ClassId) (sz : Nat) (ga : Nat → Nat) (n : Nat) (M : cSt) (a1 : Int) {x : Int} (h : f_X_isDirty n M a1 = some x) : CM l yX9_isDirty cX9_isDirty 2 (some FieldType.boolean) ({ frames := 1, cells := 0, slots := 0, locals := 21 } : Room) G D K [.ref (ga 0), .int (iI a1)] (wld ga n (K 0) (K 1) M) sz (CQi (iI x) D (fun _ => wld ga n (K 0) (K 1) M)) := by
  refine CM_of (lv0 := [(0, .ref (ga 0)), (1, .int (iI a1))]) pn_RX9 (Nat.le_of_ble_eq_true rfl) rfl (fun p e s m args below meth c A ls hx hb hr hml hown hts hlk hnm hP hK hD hS hA hm hl => ?_)
  have hown : s.vm.findClass RX9 = some m.cls := hown
  unfold f_X_isDirty at h
  refine lv_iload_n hx hb dX9_isDirty_0 rfl (lv_at hl 1 rfl) ?_
  obtain ⟨g1, h⟩ := og_some h
  by_cases c2 : a1 < 0
  · replace h := it_T h c2
    cases h
  · replace h := it_F h c2
    refine i_if_lt_F hx hb g1 (tgt := 10) dX9_isDirty_1 (by decide) c2 ?_
    refine lv_iload_n hx hb dX9_isDirty_4 rfl (lv_at hl 1 rfl) ?_
    refine lv_bipush (v := iI 20) hx hb dX9_isDirty_5 rfl ?_
    by_cases c3 : a1 < 20
    · replace h := it_T h c3
      refine i_icmp_lt_T hx hb g1 ⟨by decide, by decide⟩ (tgt := 21) dX9_isDirty_7 (by decide) c3 ?_
      refine lv_aload_n hx hb dX9_isDirty_21 rfl (lv_at hl 0 rfl) ?_
      refine r_get hx hb hts ok_RX9 hown hK hP 0 go_0 rfl 2 (by decide) w_239 (fun _ h9 => h9) rfl dX9_isDirty_22 ?_
      refine lv_iload_n hx hb dX9_isDirty_25 rfl (lv_at hl 1 rfl) ?_
      obtain ⟨x4, ex4, h⟩ := ob_some h
      refine gk_i (run_V (rest := []) hx hb hml hown hts hK hP hD hS hA hm (C_Pl_isCardDirty l G D K s.heap.size ga n M a1 ex4) _ (full_C _) (full_n _ List.nodup_range) mok_yX3_isCardDirty w_969 w_461 w_462 (rcv hK hP 2 go_2 rfl rfl) ⟨Nat.le_of_ble_eq_true rfl, Nat.le_of_ble_eq_true rfl⟩ rfl hl.1 rfl (Nat.le_of_ble_eq_true rfl) dX9_isDirty_26 ⟨(Nat.le_of_ble_eq_true rfl), (Nat.le_of_ble_eq_true rfl)⟩) hP hD hS hA (fun u H locs (hP : va_P D cl (wld ga n (K 0) (K 1) M) H) (hD : va_D A (wld ga n (K 0) (K 1) M)) hS => ?_)
      obtain ⟨g5, h⟩ := og_some h
      obtain rfl := Option.some.inj h
      exact e_z hx hb hr hlk hP hD hS (fun _ => 0) rfl (Nat.le_of_ble_eq_true rfl) (Nat.le_of_ble_eq_true rfl) rfl (b01 g5) dX9_isDirty_29
    · replace h := it_F h c3
      cases h
def f_X_queue (n : Nat) (M : cSt) (a1 : Int) : Option (Int) := ob (f_Row_item n M 1 a1) (fun x1 => on x1 none (fun q2 => og (q2 < n) (some (gT M q2 0))))
set_option maxHeartbeats 4000000 in
set_option maxRecDepth 100000 in
theorem C_X_queue (l : Launch) (G : Nat → Nat) (D : va_G) (K : Nat → ClassId) (sz : Nat) (ga : Nat → Nat) (n : Nat) (M : cSt) (a1 : Int) {x : Int} (h : f_X_queue n M a1 = some x) : CM l yX9_queue cX9_queue 3 (some FieldType.int) ({ frames := 1, cells := 0, slots := 0, locals := 21 } : Room) G D K [.ref (ga 0), .int (iI a1)] (wld ga n (K 0) (K 1) M) sz (CQi (iI x) D (fun _ => wld ga n (K 0) (K 1) M)) := by
  refine CM_of (lv0 := [(0, .ref (ga 0)), (1, .int (iI a1))]) pn_RX9 (Nat.le_of_ble_eq_true rfl) rfl (fun p e s m args below meth c A ls hx hb hr hml hown hts hlk hnm hP hK hD hS hA hm hl => ?_)
  have hown : s.vm.findClass RX9 = some m.cls := hown
  unfold f_X_queue at h
  refine lv_aload_n hx hb dX9_queue_0 rfl (lv_at hl 0 rfl) ?_
  refine r_get hx hb hts ok_RX9 hown hK hP 0 go_0 rfl 1 (by decide) w_238 (fun _ h9 => h9) rfl dX9_queue_1 ?_
  refine r_get hx hb hts ok_RX4 hown hK hP 1 go_1 rfl 0 (by decide) w_53 (fun _ h9 => h9) rfl dX9_queue_4 ?_
  refine lv_iload_n hx hb dX9_queue_7 rfl (lv_at hl 1 rfl) ?_
  obtain ⟨x1, ex1, h⟩ := ob_some h
  refine gk_q (run_V (rest := []) hx hb hml hown hts hK hP hD hS hA hm (C_Row_item l G D K s.heap.size ga n M 1 (by decide) a1 ex1) _ (full_C _) (full_n _ List.nodup_range) mok_yX5_item w_856 w_419 w_420 (rcv hK hP (8 + 1) (go_ro (by decide)) rfl rfl) ⟨Nat.le_of_ble_eq_true rfl, Nat.le_of_ble_eq_true rfl⟩ rfl hl.1 rfl (Nat.le_of_ble_eq_true rfl) dX9_queue_8 ⟨(Nat.le_of_ble_eq_true rfl), (Nat.le_of_ble_eq_true rfl)⟩) hP hD hS hA (fun u H locs (hP : va_P D cl (wld ga n (K 0) (K 1) M) H) (hD : va_D A (wld ga n (K 0) (K 1) M)) hS => ?_)
  refine w_tov (y := ctv ga x1) rfl ?_
  refine t_astore_n hx hb dX9_queue_11 rfl hl (by decide) [0, 1] (lv' := [(0, .ref (ga 0)), (1, .int (iI a1))]) rfl (⟨⟨Nat.ne_of_beq_eq_false rfl, Or.inl (Nat.ne_of_beq_eq_false rfl)⟩, ⟨⟨Nat.ne_of_beq_eq_false rfl, Or.inr rfl⟩, trivial⟩⟩) (fun ls hl => ?_)
  refine t_aload_n hx hb dX9_queue_12 rfl (lv_at hl 0 rfl) ?_
  rcases on_cases h with ⟨z2, h⟩ | ⟨q2, z2, h⟩
  · cases h
  · obtain ⟨hq2, h⟩ := og_some h
    rw [ctv_some ga z2]
    refine lv_ifnonnull (tgt := 27) hx hb dX9_queue_13 (by decide) ?_
    refine t_aload_n hx hb dX9_queue_27 rfl (lv_at hl 0 rfl) ?_
    rw [ctv_some ga z2]
    refine r_get hx hb hts ok_RX7 hown hK hP (25 + 2 * q2) (go_th hq2) rfl 0 (by decide) w_676 (fun _ h9 => h9) rfl dX9_queue_28 ?_
    obtain rfl := Option.some.inj h
    exact e_i hx hb hr hlk hP hD hS (fun _ => 0) rfl (Nat.le_of_ble_eq_true rfl) (Nat.le_of_ble_eq_true rfl) rfl dX9_queue_31
def f_X_isReachable (n : Nat) (M : cSt) (a1 : Int) : Option (cSt × Int) := ob (f_X_madeAs n M a1) (fun x1 => ob (f_Tr_begin n M 1 none) (fun x2 => ob (f_Tr_markRoots n x2) (fun x3 => ob (f_Tr_spread n x3) (fun x4 => on x1 none (fun q5 => og (q5 < n) (og (gT x4 q5 12 = 0 ∨ gT x4 q5 12 = 1) (some (x4, gT x4 q5 12))))))))
set_option maxHeartbeats 4000000 in
set_option maxRecDepth 100000 in
theorem C_X_isReachable (l : Launch) (G : Nat → Nat) (D : va_G) (K : Nat → ClassId) (sz : Nat) (ga : Nat → Nat) (n : Nat) (M : cSt) (a1 : Int) {x : cSt × Int} (h : f_X_isReachable n M a1 = some x) : CM l yX9_isReachable cX9_isReachable 3 (some FieldType.boolean) ({ frames := 4, cells := 0, slots := 0, locals := 87 } : Room) G D K [.ref (ga 0), .int (iI a1)] (wld ga n (K 0) (K 1) M) sz (CQi (iI x.2) D (fun _ => wld ga n (K 0) (K 1) x.1)) := by
  refine CM_of (lv0 := [(0, .ref (ga 0)), (1, .int (iI a1))]) pn_RX9 (Nat.le_of_ble_eq_true rfl) rfl (fun p e s m args below meth c A ls hx hb hr hml hown hts hlk hnm hP hK hD hS hA hm hl => ?_)
  have hown : s.vm.findClass RX9 = some m.cls := hown
  unfold f_X_isReachable at h
  refine lv_aload_n hx hb dX9_isReachable_0 rfl (lv_at hl 0 rfl) ?_
  refine lv_iload_n hx hb dX9_isReachable_1 rfl (lv_at hl 1 rfl) ?_
  obtain ⟨x1, ex1, h⟩ := ob_some h
  refine gk_q (run_V (rest := []) hx hb hml hown hts hK hP hD hS hA hm (C_X_madeAs l G D K s.heap.size ga n M a1 ex1) _ (full_C _) (full_n _ List.nodup_range) mok_yX9_madeAs w_852 w_854 w_p22 (rcv hK hP 0 go_0 rfl rfl) ⟨Nat.le_of_ble_eq_true rfl, Nat.le_of_ble_eq_true rfl⟩ rfl hl.1 rfl (Nat.le_of_ble_eq_true rfl) dX9_isReachable_2 ⟨(Nat.le_of_ble_eq_true rfl), (Nat.le_of_ble_eq_true rfl)⟩) hP hD hS hA (fun u H locs (hP : va_P D cl (wld ga n (K 0) (K 1) M) H) (hD : va_D A (wld ga n (K 0) (K 1) M)) hS => ?_)
  refine w_tov (y := ctv ga x1) rfl ?_
  refine t_astore_n hx hb dX9_isReachable_5 rfl hl (by decide) [0, 1] (lv' := [(0, .ref (ga 0)), (1, .int (iI a1))]) rfl (⟨⟨Nat.ne_of_beq_eq_false rfl, Or.inl (Nat.ne_of_beq_eq_false rfl)⟩, ⟨⟨Nat.ne_of_beq_eq_false rfl, Or.inr rfl⟩, trivial⟩⟩) (fun ls hl => ?_)
  refine lv_aload_n hx hb dX9_isReachable_6 rfl (lv_at hl 1 rfl) ?_
  refine r_get hx hb hts ok_RX9 hown hK hP 0 go_0 rfl 5 (by decide) w_242 (fun _ h9 => h9) rfl dX9_isReachable_7 ?_
  refine lv_iconst (v := iI 1) hx hb dX9_isReachable_10 rfl ?_
  refine lv_null hx hb dX9_isReachable_11 ?_
  obtain ⟨x2, ex2, h⟩ := ob_some h
  refine gk_v (run_V (rest := []) hx hb hml hown hts hK hP hD hS hA hm (C_Tr_begin l G D K H.size ga n M 1 none ex2) _ (full_C _) (full_n _ List.nodup_range) mok_yX8_begin w_895 w_561 w_562 (rcv hK hP 5 go_5 rfl rfl) ⟨Nat.le_of_ble_eq_true rfl, Nat.le_of_ble_eq_true rfl⟩ rfl hl.1 rfl (Nat.le_of_ble_eq_true rfl) dX9_isReachable_12 ⟨(Nat.le_of_ble_eq_true rfl), (Nat.le_of_ble_eq_true rfl)⟩) hP hD hS hA (fun u H locs (hP : va_P D cl (wld ga n (K 0) (K 1) x2) H) (hD : va_D A (wld ga n (K 0) (K 1) x2)) hS => ?_)
  refine lv_aload_n hx hb dX9_isReachable_15 rfl (lv_at hl 1 rfl) ?_
  refine r_get hx hb hts ok_RX9 hown hK hP 0 go_0 rfl 5 (by decide) w_242 (fun _ h9 => h9) rfl dX9_isReachable_16 ?_
  obtain ⟨x3, ex3, h⟩ := ob_some h
  refine gk_v (run_V (rest := []) hx hb hml hown hts hK hP hD hS hA hm (C_Tr_markRoots l G D K H.size ga n x2 ex3) _ (full_C _) (full_n _ List.nodup_range) mok_yX8_markRoots w_896 w_577 w_578 (rcv hK hP 5 go_5 rfl rfl) ⟨Nat.le_of_ble_eq_true rfl, Nat.le_of_ble_eq_true rfl⟩ rfl hl.1 rfl (Nat.le_of_ble_eq_true rfl) dX9_isReachable_19 ⟨(Nat.le_of_ble_eq_true rfl), (Nat.le_of_ble_eq_true rfl)⟩) hP hD hS hA (fun u H locs (hP : va_P D cl (wld ga n (K 0) (K 1) x3) H) (hD : va_D A (wld ga n (K 0) (K 1) x3)) hS => ?_)
  refine lv_aload_n hx hb dX9_isReachable_22 rfl (lv_at hl 1 rfl) ?_
  refine r_get hx hb hts ok_RX9 hown hK hP 0 go_0 rfl 5 (by decide) w_242 (fun _ h9 => h9) rfl dX9_isReachable_23 ?_
  obtain ⟨x4, ex4, h⟩ := ob_some h
  refine gk_v (run_V (rest := []) hx hb hml hown hts hK hP hD hS hA hm (C_Tr_spread l G D K H.size ga n x3 ex4) _ (full_C _) (full_n _ List.nodup_range) mok_yX8_spread w_897 w_583 w_584 (rcv hK hP 5 go_5 rfl rfl) ⟨Nat.le_of_ble_eq_true rfl, Nat.le_of_ble_eq_true rfl⟩ rfl hl.1 rfl (Nat.le_of_ble_eq_true rfl) dX9_isReachable_26 ⟨(Nat.le_of_ble_eq_true rfl), (Nat.le_of_ble_eq_true rfl)⟩) hP hD hS hA (fun u H locs (hP : va_P D cl (wld ga n (K 0) (K 1) x4) H) (hD : va_D A (wld ga n (K 0) (K 1) x4)) hS => ?_)
  refine t_aload_n hx hb dX9_isReachable_29 rfl (lv_at hl 0 rfl) ?_
  rcases on_cases h with ⟨z5, h⟩ | ⟨q5, z5, h⟩
  · cases h
  · obtain ⟨hq5, h⟩ := og_some h
    rw [ctv_some ga z5]
    refine r_get hx hb hts ok_RX7 hown hK hP (25 + 2 * q5) (go_th hq5) rfl 12 (by decide) w_722 (fun _ h9 => h9) rfl dX9_isReachable_30 ?_
    obtain ⟨g6, h⟩ := og_some h
    obtain rfl := Option.some.inj h
    exact e_z hx hb hr hlk hP hD hS (fun _ => 0) rfl (Nat.le_of_ble_eq_true rfl) (Nat.le_of_ble_eq_true rfl) rfl (b01 g6) dX9_isReachable_33
def f_X_wouldFree (n : Nat) (M : cSt) (a1 : Int) : Option (cSt × Int) := ob (f_Tr_wordsFreed n M a1 none) (fun x1 => some (x1.1, x1.2))
set_option maxHeartbeats 4000000 in
set_option maxRecDepth 100000 in
theorem C_X_wouldFree (l : Launch) (G : Nat → Nat) (D : va_G) (K : Nat → ClassId) (sz : Nat) (ga : Nat → Nat) (n : Nat) (M : cSt) (a1 : Int) {x : cSt × Int} (h : f_X_wouldFree n M a1 = some x) : CM l yX9_wouldFree cX9_wouldFree 2 (some FieldType.int) ({ frames := 5, cells := 0, slots := 0, locals := 112 } : Room) G D K [.ref (ga 0), .int (iI a1)] (wld ga n (K 0) (K 1) M) sz (CQi (iI x.2) D (fun _ => wld ga n (K 0) (K 1) x.1)) := by
  refine CM_of (lv0 := [(0, .ref (ga 0)), (1, .int (iI a1))]) pn_RX9 (Nat.le_of_ble_eq_true rfl) rfl (fun p e s m args below meth c A ls hx hb hr hml hown hts hlk hnm hP hK hD hS hA hm hl => ?_)
  have hown : s.vm.findClass RX9 = some m.cls := hown
  unfold f_X_wouldFree at h
  refine lv_aload_n hx hb dX9_wouldFree_0 rfl (lv_at hl 0 rfl) ?_
  refine r_get hx hb hts ok_RX9 hown hK hP 0 go_0 rfl 5 (by decide) w_242 (fun _ h9 => h9) rfl dX9_wouldFree_1 ?_
  refine lv_iload_n hx hb dX9_wouldFree_4 rfl (lv_at hl 1 rfl) ?_
  refine lv_null hx hb dX9_wouldFree_5 ?_
  obtain ⟨x1, ex1, h⟩ := ob_some h
  refine gk_i (run_V (rest := []) hx hb hml hown hts hK hP hD hS hA hm (C_Tr_wordsFreed l G D K s.heap.size ga n M a1 none ex1) _ (full_C _) (full_n _ List.nodup_range) mok_yX8_wordsFreed w_915 w_916 w_917 (rcv hK hP 5 go_5 rfl rfl) ⟨Nat.le_of_ble_eq_true rfl, Nat.le_of_ble_eq_true rfl⟩ rfl hl.1 rfl (Nat.le_of_ble_eq_true rfl) dX9_wouldFree_6 ⟨(Nat.le_of_ble_eq_true rfl), (Nat.le_of_ble_eq_true rfl)⟩) hP hD hS hA (fun u H locs (hP : va_P D cl (wld ga n (K 0) (K 1) x1.1) H) (hD : va_D A (wld ga n (K 0) (K 1) x1.1)) hS => ?_)
  obtain rfl := Option.some.inj h
  exact e_i hx hb hr hlk hP hD hS (fun _ => 0) rfl (Nat.le_of_ble_eq_true rfl) (Nat.le_of_ble_eq_true rfl) rfl dX9_wouldFree_9
def f_X_addressFor (n : Nat) (M : cSt) (a1 : Int) : Option (Int) := og (inR a1) (if a1 < 0 then none else if 20 < a1 then none else ob (f_Pl_gapFor n M a1) (fun x4 => some x4))
set_option maxHeartbeats 4000000 in
set_option maxRecDepth 100000 in
theorem C_X_addressFor (l : Launch) (G : Nat → Nat) (D : va_G) (K : Nat → ClassId) (sz : Nat) (ga : Nat → Nat) (n : Nat) (M : cSt) (a1 : Int) {x : Int} (h : f_X_addressFor n M a1 = some x) : CM l yX9_addressFor cX9_addressFor 2 (some FieldType.int) ({ frames := 3, cells := 0, slots := 0, locals := 67 } : Room) G D K [.ref (ga 0), .int (iI a1)] (wld ga n (K 0) (K 1) M) sz (CQi (iI x) D (fun _ => wld ga n (K 0) (K 1) M)) := by
  refine CM_of (lv0 := [(0, .ref (ga 0)), (1, .int (iI a1))]) pn_RX9 (Nat.le_of_ble_eq_true rfl) rfl (fun p e s m args below meth c A ls hx hb hr hml hown hts hlk hnm hP hK hD hS hA hm hl => ?_)
  have hown : s.vm.findClass RX9 = some m.cls := hown
  unfold f_X_addressFor at h
  refine lv_iload_n hx hb dX9_addressFor_0 rfl (lv_at hl 1 rfl) ?_
  obtain ⟨g1, h⟩ := og_some h
  by_cases c2 : a1 < 0
  · replace h := it_T h c2
    cases h
  · replace h := it_F h c2
    refine i_if_lt_F hx hb g1 (tgt := 10) dX9_addressFor_1 (by decide) c2 ?_
    refine lv_iload_n hx hb dX9_addressFor_4 rfl (lv_at hl 1 rfl) ?_
    refine lv_bipush (v := iI 20) hx hb dX9_addressFor_5 rfl ?_
    by_cases c3 : 20 < a1
    · replace h := it_T h c3
      cases h
    · replace h := it_F h c3
      refine i_icmp_le_T hx hb g1 ⟨by decide, by decide⟩ (tgt := 21) dX9_addressFor_7 (by decide) c3 ?_
      refine lv_aload_n hx hb dX9_addressFor_21 rfl (lv_at hl 0 rfl) ?_
      refine r_get hx hb hts ok_RX9 hown hK hP 0 go_0 rfl 2 (by decide) w_239 (fun _ h9 => h9) rfl dX9_addressFor_22 ?_
      refine lv_iload_n hx hb dX9_addressFor_25 rfl (lv_at hl 1 rfl) ?_
      obtain ⟨x4, ex4, h⟩ := ob_some h
      refine gk_i (run_V (rest := []) hx hb hml hown hts hK hP hD hS hA hm (C_Pl_gapFor l G D K s.heap.size ga n M a1 ex4) _ (full_C _) (full_n _ List.nodup_range) mok_yX3_gapFor w_409 w_410 w_411 (rcv hK hP 2 go_2 rfl rfl) ⟨Nat.le_of_ble_eq_true rfl, Nat.le_of_ble_eq_true rfl⟩ rfl hl.1 rfl (Nat.le_of_ble_eq_true rfl) dX9_addressFor_26 ⟨(Nat.le_of_ble_eq_true rfl), (Nat.le_of_ble_eq_true rfl)⟩) hP hD hS hA (fun u H locs (hP : va_P D cl (wld ga n (K 0) (K 1) M) H) (hD : va_D A (wld ga n (K 0) (K 1) M)) hS => ?_)
      obtain rfl := Option.some.inj h
      exact e_i hx hb hr hlk hP hD hS (fun _ => 0) rfl (Nat.le_of_ble_eq_true rfl) (Nat.le_of_ble_eq_true rfl) rfl dX9_addressFor_29
