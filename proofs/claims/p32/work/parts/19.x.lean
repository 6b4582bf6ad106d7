/-! METHODS as functions, with their contracts, written by wip/p32/sx2.py -/
def f_X_requireSlot (n : Nat) (M : cSt) (a0 : Int) : Option (Unit) := og (inR a0) (if a0 < 0 then none else if a0 < 4 then some () else none)
set_option maxHeartbeats 4000000 in
set_option maxRecDepth 100000 in
theorem C_X_requireSlot (l : Launch) (G : Nat → Nat) (D : va_G) (K : Nat → ClassId) (sz : Nat) (ga : Nat → Nat) (n : Nat) (M : cSt) (a0 : Int) {x : Unit} (h : f_X_requireSlot n M a0 = some x) : CM l yX9_requireSlot cX9_requireSlot 1 (none : Option FieldType) ({ frames := 0, cells := 0, slots := 0, locals := 0 } : Room) G D K [.int (iI a0)] (wld ga n (K 0) (K 1) M) sz (CQv D (fun _ => wld ga n (K 0) (K 1) M)) := by
  refine CM_of (lv0 := [(0, .int (iI a0))]) pn_RX9 (Nat.le_of_ble_eq_true rfl) rfl (fun p e s m args below meth c A ls hx hb hr hml hown hts hlk hnm hP hK hD hS hA hm hl => ?_)
  have hown : s.vm.findClass RX9 = some m.cls := hown
  unfold f_X_requireSlot at h
  refine lv_iload_n hx hb dX9_requireSlot_0 rfl (lv_at hl 0 rfl) ?_
  obtain ⟨g1, h⟩ := og_some h
  by_cases c2 : a0 < 0
  · replace h := it_T h c2
    cases h
  · replace h := it_F h c2
    refine i_if_lt_F hx hb g1 (tgt := 9) dX9_requireSlot_1 (by decide) c2 ?_
    refine lv_iload_n hx hb dX9_requireSlot_4 rfl (lv_at hl 0 rfl) ?_
    refine lv_iconst (v := iI 4) hx hb dX9_requireSlot_5 rfl ?_
    by_cases c3 : a0 < 4
    · replace h := it_T h c3
      refine i_icmp_lt_T hx hb g1 ⟨by decide, by decide⟩ (tgt := 20) dX9_requireSlot_6 (by decide) c3 ?_
      obtain rfl := Option.some.inj h
      exact e_v hx hb hr hlk hP hD hS (fun _ => 0) rfl (Nat.le_of_ble_eq_true rfl) (Nat.le_of_ble_eq_true rfl) dX9_requireSlot_20
    · replace h := it_F h c3
      cases h
def f_X_requireSlotOrNone (n : Nat) (M : cSt) (a0 : Int) : Option (Unit) := og (inR a0) (if a0 = (-1) then some () else ob (f_X_requireSlot n M a0) (fun x3 => some ()))
set_option maxHeartbeats 4000000 in
set_option maxRecDepth 100000 in
theorem C_X_requireSlotOrNone (l : Launch) (G : Nat → Nat) (D : va_G) (K : Nat → ClassId) (sz : Nat) (ga : Nat → Nat) (n : Nat) (M : cSt) (a0 : Int) {x : Unit} (h : f_X_requireSlotOrNone n M a0 = some x) : CM l yX9_requireSlotOrNone cX9_requireSlotOrNone 1 (none : Option FieldType) ({ frames := 1, cells := 0, slots := 0, locals := 20 } : Room) G D K [.int (iI a0)] (wld ga n (K 0) (K 1) M) sz (CQv D (fun _ => wld ga n (K 0) (K 1) M)) := by
  refine CM_of (lv0 := [(0, .int (iI a0))]) pn_RX9 (Nat.le_of_ble_eq_true rfl) rfl (fun p e s m args below meth c A ls hx hb hr hml hown hts hlk hnm hP hK hD hS hA hm hl => ?_)
  have hown : s.vm.findClass RX9 = some m.cls := hown
  unfold f_X_requireSlotOrNone at h
  refine lv_iload_n hx hb dX9_requireSlotOrNone_0 rfl (lv_at hl 0 rfl) ?_
  refine lv_iconst (v := iI (-1)) hx hb dX9_requireSlotOrNone_1 rfl ?_
  obtain ⟨g1, h⟩ := og_some h
  by_cases c2 : a0 = (-1)
  · replace h := it_T h c2
    refine i_icmp_eq_T hx hb g1 ⟨by decide, by decide⟩ (tgt := 9) dX9_requireSlotOrNone_2 (by decide) c2 ?_
    obtain rfl := Option.some.inj h
    exact e_v hx hb hr hlk hP hD hS (fun _ => 0) rfl (Nat.le_of_ble_eq_true rfl) (Nat.le_of_ble_eq_true rfl) dX9_requireSlotOrNone_9
  · replace h := it_F h c2
    refine i_icmp_eq_F hx hb g1 ⟨by decide, by decide⟩ (tgt := 9) dX9_requireSlotOrNone_2 (by decide) c2 ?_
    refine lv_iload_n hx hb dX9_requireSlotOrNone_5 rfl (lv_at hl 0 rfl) ?_
    obtain ⟨x3, ex3, h⟩ := ob_some h
    refine gk_v (run_S (rest := []) hx hb hml hown hts hK hP hD hS hA hm (C_X_requireSlot l G D K s.heap.size ga n M a0 ex3) _ (full_C _) (full_n _ List.nodup_range) mok_yX9_requireSlot w_366 w_367 ⟨Nat.le_of_ble_eq_true rfl, Nat.le_of_ble_eq_true rfl⟩ rfl hl.1 rfl (Nat.le_of_ble_eq_true rfl) dX9_requireSlotOrNone_6 ⟨(Nat.le_of_ble_eq_true rfl), (Nat.le_of_ble_eq_true rfl)⟩) hP hD hS hA (fun u H locs (hP : va_P D cl (wld ga n (K 0) (K 1) M) H) (hD : va_D A (wld ga n (K 0) (K 1) M)) hS => ?_)
    obtain rfl := Option.some.inj h
    exact e_v hx hb hr hlk hP hD hS (fun _ => 0) rfl (Nat.le_of_ble_eq_true rfl) (Nat.le_of_ble_eq_true rfl) dX9_requireSlotOrNone_9
def f_X_requireField (n : Nat) (M : cSt) (t0 : Option Nat) (a1 : Int) : Option (Unit) := on t0 none (fun q1 => og (q1 < n) (ob (f_Th_hasField n M q1 a1) (fun x2 => og (inR x2) (if x2 = 0 then none else some ()))))
set_option maxHeartbeats 4000000 in
set_option maxRecDepth 100000 in
theorem C_X_requireField (l : Launch) (G : Nat → Nat) (D : va_G) (K : Nat → ClassId) (sz : Nat) (ga : Nat → Nat) (n : Nat) (M : cSt) (t0 : Option Nat) (a1 : Int) {x : Unit} (h : f_X_requireField n M t0 a1 = some x) : CM l yX9_requireField cX9_requireField 2 (none : Option FieldType) ({ frames := 1, cells := 0, slots := 0, locals := 21 } : Room) G D K [ctv ga t0, .int (iI a1)] (wld ga n (K 0) (K 1) M) sz (CQv D (fun _ => wld ga n (K 0) (K 1) M)) := by
  refine CM_of (lv0 := [(0, ctv ga t0), (1, .int (iI a1))]) pn_RX9 (by cases t0 <;> exact (Nat.le_of_ble_eq_true rfl)) (by cases t0 <;> rfl) (fun p e s m args below meth c A ls hx hb hr hml hown hts hlk hnm hP hK hD hS hA hm hl => ?_)
  have hown : s.vm.findClass RX9 = some m.cls := hown
  unfold f_X_requireField at h
  refine t_aload_n hx hb dX9_requireField_0 rfl (lv_at hl 0 rfl) ?_
  refine lv_iload_n hx hb dX9_requireField_1 rfl (lv_at hl 1 rfl) ?_
  rcases on_cases h with ⟨z1, h⟩ | ⟨q1, z1, h⟩
  · cases h
  · obtain ⟨hq1, h⟩ := og_some h
    rw [ctv_some ga z1]
    obtain ⟨x2, ex2, h⟩ := ob_some h
    refine gk_i (run_V (rest := []) hx hb hml hown hts hK hP hD hS hA hm (C_Th_hasField l G D K s.heap.size ga n M q1 hq1 a1 ex2) _ (full_C _) (full_n _ List.nodup_range) mok_yX7_hasField w_786 w_787 w_788 (rcv hK hP (25 + 2 * q1) (go_th hq1) rfl rfl) ⟨Nat.le_of_ble_eq_true rfl, Nat.le_of_ble_eq_true rfl⟩ rfl hl.1 rfl (Nat.le_of_ble_eq_true rfl) dX9_requireField_2 ⟨(Nat.le_of_ble_eq_true rfl), (Nat.le_of_ble_eq_true rfl)⟩) hP hD hS hA (fun u H locs (hP : va_P D cl (wld ga n (K 0) (K 1) M) H) (hD : va_D A (wld ga n (K 0) (K 1) M)) hS => ?_)
    obtain ⟨g3, h⟩ := og_some h
    by_cases c4 : x2 = 0
    · replace h := it_T h c4
      cases h
    · replace h := it_F h c4
      refine i_if_ne_T hx hb g3 (tgt := 19) dX9_requireField_5 (by decide) c4 ?_
      obtain rfl := Option.some.inj h
      exact e_v hx hb hr hlk hP hD hS (fun _ => 0) rfl (Nat.le_of_ble_eq_true rfl) (Nat.le_of_ble_eq_true rfl) dX9_requireField_19
def f_X_leastFields (n : Nat) (M : cSt) (a0 : Int) : Option (Int) := og (inR a0) (if a0 = 3 then some 2 else if a0 = 1 then some 1 else if a0 = 2 then some 1 else some 0)
set_option maxHeartbeats 4000000 in
set_option maxRecDepth 100000 in
theorem C_X_leastFields (l : Launch) (G : Nat → Nat) (D : va_G) (K : Nat → ClassId) (sz : Nat) (ga : Nat → Nat) (n : Nat) (M : cSt) (a0 : Int) {x : Int} (h : f_X_leastFields n M a0 = some x) : CM l yX9_leastFields cX9_leastFields 1 (some FieldType.int) ({ frames := 0, cells := 0, slots := 0, locals := 0 } : Room) G D K [.int (iI a0)] (wld ga n (K 0) (K 1) M) sz (CQi (iI x) D (fun _ => wld ga n (K 0) (K 1) M)) := by
  refine CM_of (lv0 := [(0, .int (iI a0))]) pn_RX9 (Nat.le_of_ble_eq_true rfl) rfl (fun p e s m args below meth c A ls hx hb hr hml hown hts hlk hnm hP hK hD hS hA hm hl => ?_)
  have hown : s.vm.findClass RX9 = some m.cls := hown
  unfold f_X_leastFields at h
  refine lv_iload_n hx hb dX9_leastFields_0 rfl (lv_at hl 0 rfl) ?_
  refine lv_iconst (v := iI 3) hx hb dX9_leastFields_1 rfl ?_
  obtain ⟨g1, h⟩ := og_some h
  by_cases c2 : a0 = 3
  · replace h := it_T h c2
    refine i_icmp_ne_F hx hb g1 ⟨by decide, by decide⟩ (tgt := 7) dX9_leastFields_2 (by decide) c2 ?_
    refine lv_iconst (v := iI 2) hx hb dX9_leastFields_5 rfl ?_
    obtain rfl := Option.some.inj h
    exact e_i hx hb hr hlk hP hD hS (fun _ => 0) rfl (Nat.le_of_ble_eq_true rfl) (Nat.le_of_ble_eq_true rfl) rfl dX9_leastFields_6
  · replace h := it_F h c2
    refine i_icmp_ne_T hx hb g1 ⟨by decide, by decide⟩ (tgt := 7) dX9_leastFields_2 (by decide) c2 ?_
    refine lv_iload_n hx hb dX9_leastFields_7 rfl (lv_at hl 0 rfl) ?_
    refine lv_iconst (v := iI 1) hx hb dX9_leastFields_8 rfl ?_
    by_cases c3 : a0 = 1
    · replace h := it_T h c3
      refine i_icmp_eq_T hx hb g1 ⟨by decide, by decide⟩ (tgt := 17) dX9_leastFields_9 (by decide) c3 ?_
      refine lv_iconst (v := iI 1) hx hb dX9_leastFields_17 rfl ?_
      refine lv_goto (tgt := 22) hx hb dX9_leastFields_18 (by decide) ?_
      obtain rfl := Option.some.inj h
      exact e_i hx hb hr hlk hP hD hS (fun _ => 0) rfl (Nat.le_of_ble_eq_true rfl) (Nat.le_of_ble_eq_true rfl) rfl dX9_leastFields_22
    · replace h := it_F h c3
      refine i_icmp_eq_F hx hb g1 ⟨by decide, by decide⟩ (tgt := 17) dX9_leastFields_9 (by decide) c3 ?_
      refine lv_iload_n hx hb dX9_leastFields_12 rfl (lv_at hl 0 rfl) ?_
      refine lv_iconst (v := iI 2) hx hb dX9_leastFields_13 rfl ?_
      by_cases c4 : a0 = 2
      · replace h := it_T h c4
        refine i_icmp_ne_F hx hb g1 ⟨by decide, by decide⟩ (tgt := 21) dX9_leastFields_14 (by decide) c4 ?_
        refine lv_iconst (v := iI 1) hx hb dX9_leastFields_17 rfl ?_
        refine lv_goto (tgt := 22) hx hb dX9_leastFields_18 (by decide) ?_
        obtain rfl := Option.some.inj h
        exact e_i hx hb hr hlk hP hD hS (fun _ => 0) rfl (Nat.le_of_ble_eq_true rfl) (Nat.le_of_ble_eq_true rfl) rfl dX9_leastFields_22
      · replace h := it_F h c4
        refine i_icmp_ne_T hx hb g1 ⟨by decide, by decide⟩ (tgt := 21) dX9_leastFields_14 (by decide) c4 ?_
        refine lv_iconst (v := iI 0) hx hb dX9_leastFields_21 rfl ?_
        obtain rfl := Option.some.inj h
        exact e_i hx hb hr hlk hP hD hS (fun _ => 0) rfl (Nat.le_of_ble_eq_true rfl) (Nat.le_of_ble_eq_true rfl) rfl dX9_leastFields_22
def f_X_numberOf (n : Nat) (M : cSt) (t0 : Option Nat) : Option (Int) := on t0 (some (-1)) (fun q1 => og (q1 < n) (some (gT M q1 0)))
set_option maxHeartbeats 4000000 in
set_option maxRecDepth 100000 in
theorem C_X_numberOf (l : Launch) (G : Nat → Nat) (D : va_G) (K : Nat → ClassId) (sz : Nat) (ga : Nat → Nat) (n : Nat) (M : cSt) (t0 : Option Nat) {x : Int} (h : f_X_numberOf n M t0 = some x) : CM l yX9_numberOf cX9_numberOf 1 (some FieldType.int) ({ frames := 0, cells := 0, slots := 0, locals := 0 } : Room) G D K [ctv ga t0] (wld ga n (K 0) (K 1) M) sz (CQi (iI x) D (fun _ => wld ga n (K 0) (K 1) M)) := by
  refine CM_of (lv0 := [(0, ctv ga t0)]) pn_RX9 (by cases t0 <;> exact (Nat.le_of_ble_eq_true rfl)) (by cases t0 <;> rfl) (fun p e s m args below meth c A ls hx hb hr hml hown hts hlk hnm hP hK hD hS hA hm hl => ?_)
  have hown : s.vm.findClass RX9 = some m.cls := hown
  unfold f_X_numberOf at h
  refine t_aload_n hx hb dX9_numberOf_0 rfl (lv_at hl 0 rfl) ?_
  rcases on_cases h with ⟨z1, h⟩ | ⟨q1, z1, h⟩
  · rw [ctv_none ga z1]
    refine lv_ifnonnullN hx hb dX9_numberOf_1 ?_
    refine lv_iconst (v := iI (-1)) hx hb dX9_numberOf_4 rfl ?_
    refine lv_goto (tgt := 12) hx hb dX9_numberOf_5 (by decide) ?_
    obtain rfl := Option.some.inj h
    exact e_i hx hb hr hlk hP hD hS (fun _ => 0) rfl (Nat.le_of_ble_eq_true rfl) (Nat.le_of_ble_eq_true rfl) rfl dX9_numberOf_12
  · obtain ⟨hq1, h⟩ := og_some h
    rw [ctv_some ga z1]
    refine lv_ifnonnull (tgt := 8) hx hb dX9_numberOf_1 (by decide) ?_
    refine t_aload_n hx hb dX9_numberOf_8 rfl (lv_at hl 0 rfl) ?_
    rw [ctv_some ga z1]
    refine r_get hx hb hts ok_RX7 hown hK hP (25 + 2 * q1) (go_th hq1) rfl 0 (by decide) w_676 (fun _ h9 => h9) rfl dX9_numberOf_9 ?_
    obtain rfl := Option.some.inj h
    exact e_i hx hb hr hlk hP hD hS (fun _ => 0) rfl (Nat.le_of_ble_eq_true rfl) (Nat.le_of_ble_eq_true rfl) rfl dX9_numberOf_12
def f_X_madeAs (n : Nat) (M : cSt) (a1 : Int) : Option (Option Nat) := ob (f_Row_item n M 0 a1) (fun x1 => on x1 none (fun q2 => og (q2 < n) (some (some q2))))
set_option maxHeartbeats 4000000 in
set_option maxRecDepth 100000 in
theorem C_X_madeAs (l : Launch) (G : Nat → Nat) (D : va_G) (K : Nat → ClassId) (sz : Nat) (ga : Nat → Nat) (n : Nat) (M : cSt) (a1 : Int) {x : Option Nat} (h : f_X_madeAs n M a1 = some x) : CM l yX9_madeAs cX9_madeAs 3 (some (FieldType.object "Tenuredale$Thing")) ({ frames := 1, cells := 0, slots := 0, locals := 21 } : Room) G D K [.ref (ga 0), .int (iI a1)] (wld ga n (K 0) (K 1) M) sz (CQq (fun _ => x.map (fun k => ga (25 + 2 * k))) D (fun _ => wld ga n (K 0) (K 1) M)) := by
  refine CM_of (lv0 := [(0, .ref (ga 0)), (1, .int (iI a1))]) pn_RX9 (Nat.le_of_ble_eq_true rfl) rfl (fun p e s m args below meth c A ls hx hb hr hml hown hts hlk hnm hP hK hD hS hA hm hl => ?_)
  have hown : s.vm.findClass RX9 = some m.cls := hown
  unfold f_X_madeAs at h
  refine lv_aload_n hx hb dX9_madeAs_0 rfl (lv_at hl 0 rfl) ?_
  refine r_get hx hb hts ok_RX9 hown hK hP 0 go_0 rfl 0 (by decide) w_237 (fun _ h9 => h9) rfl dX9_madeAs_1 ?_
  refine lv_iload_n hx hb dX9_madeAs_4 rfl (lv_at hl 1 rfl) ?_
  obtain ⟨x1, ex1, h⟩ := ob_some h
  refine gk_q (run_V (rest := []) hx hb hml hown hts hK hP hD hS hA hm (C_Row_item l G D K s.heap.size ga n M 0 (by decide) a1 ex1) _ (full_C _) (full_n _ List.nodup_range) mok_yX5_item w_856 w_419 w_420 (rcv hK hP (8 + 0) (go_ro (by decide)) rfl rfl) ⟨Nat.le_of_ble_eq_true rfl, Nat.le_of_ble_eq_true rfl⟩ rfl hl.1 rfl (Nat.le_of_ble_eq_true rfl) dX9_madeAs_5 ⟨(Nat.le_of_ble_eq_true rfl), (Nat.le_of_ble_eq_true rfl)⟩) hP hD hS hA (fun u H locs (hP : va_P D cl (wld ga n (K 0) (K 1) M) H) (hD : va_D A (wld ga n (K 0) (K 1) M)) hS => ?_)
  refine w_tov (y := ctv ga x1) rfl ?_
  refine t_astore_n hx hb dX9_madeAs_8 rfl hl (by decide) [0, 1] (lv' := [(0, .ref (ga 0)), (1, .int (iI a1))]) rfl (⟨⟨Nat.ne_of_beq_eq_false rfl, Or.inl (Nat.ne_of_beq_eq_false rfl)⟩, ⟨⟨Nat.ne_of_beq_eq_false rfl, Or.inr rfl⟩, trivial⟩⟩) (fun ls hl => ?_)
  refine t_aload_n hx hb dX9_madeAs_9 rfl (lv_at hl 0 rfl) ?_
  rcases on_cases h with ⟨z2, h⟩ | ⟨q2, z2, h⟩
  · cases h
  · obtain ⟨hq2, h⟩ := og_some h
    rw [ctv_some ga z2]
    refine lv_ifnonnull (tgt := 24) hx hb dX9_madeAs_10 (by decide) ?_
    refine t_aload_n hx hb dX9_madeAs_24 rfl (lv_at hl 0 rfl) ?_
    rw [ctv_some ga z2]
    obtain rfl := Option.some.inj h
    exact e_q hx hb hr (Or.inl ⟨_, rfl⟩) hlk hP hD hS (fun _ => 0) rfl (Nat.le_of_ble_eq_true rfl) (Nat.le_of_ble_eq_true rfl) (v := .ref (ga (25 + 2 * q2))) (r := fun _ => ((some q2) : Option Nat).map (fun k => ga (25 + 2 * k))) rfl dX9_madeAs_25
def f_X_occupant (n : Nat) (M : cSt) (a1 : Int) : Option (Option Nat) := ob (f_Ro_readSlot n M a1) (fun x1 => on x1 none (fun q2 => og (q2 < n) (some (some q2))))
set_option maxHeartbeats 4000000 in
set_option maxRecDepth 100000 in
theorem C_X_occupant (l : Launch) (G : Nat → Nat) (D : va_G) (K : Nat → ClassId) (sz : Nat) (ga : Nat → Nat) (n : Nat) (M : cSt) (a1 : Int) {x : Option Nat} (h : f_X_occupant n M a1 = some x) : CM l yX9_occupant cX9_occupant 3 (some (FieldType.object "Tenuredale$Thing")) ({ frames := 2, cells := 0, slots := 0, locals := 43 } : Room) G D K [.ref (ga 0), .int (iI a1)] (wld ga n (K 0) (K 1) M) sz (CQq (fun _ => x.map (fun k => ga (25 + 2 * k))) D (fun _ => wld ga n (K 0) (K 1) M)) := by
  refine CM_of (lv0 := [(0, .ref (ga 0)), (1, .int (iI a1))]) pn_RX9 (Nat.le_of_ble_eq_true rfl) rfl (fun p e s m args below meth c A ls hx hb hr hml hown hts hlk hnm hP hK hD hS hA hm hl => ?_)
  have hown : s.vm.findClass RX9 = some m.cls := hown
  unfold f_X_occupant at h
  refine lv_aload_n hx hb dX9_occupant_0 rfl (lv_at hl 0 rfl) ?_
  refine r_get hx hb hts ok_RX9 hown hK hP 0 go_0 rfl 1 (by decide) w_238 (fun _ h9 => h9) rfl dX9_occupant_1 ?_
  refine lv_iload_n hx hb dX9_occupant_4 rfl (lv_at hl 1 rfl) ?_
  obtain ⟨x1, ex1, h⟩ := ob_some h
  refine gk_q (run_V (rest := []) hx hb hml hown hts hK hP hD hS hA hm (C_Ro_readSlot l G D K s.heap.size ga n M a1 ex1) _ (full_C _) (full_n _ List.nodup_range) mok_yX4_readSlot w_778 w_779 w_780 (rcv hK hP 1 go_1 rfl rfl) ⟨Nat.le_of_ble_eq_true rfl, Nat.le_of_ble_eq_true rfl⟩ rfl hl.1 rfl (Nat.le_of_ble_eq_true rfl) dX9_occupant_5 ⟨(Nat.le_of_ble_eq_true rfl), (Nat.le_of_ble_eq_true rfl)⟩) hP hD hS hA (fun u H locs (hP : va_P D cl (wld ga n (K 0) (K 1) M) H) (hD : va_D A (wld ga n (K 0) (K 1) M)) hS => ?_)
  refine w_tov (y := ctv ga x1) rfl ?_
  refine t_astore_n hx hb dX9_occupant_8 rfl hl (by decide) [0, 1] (lv' := [(0, .ref (ga 0)), (1, .int (iI a1))]) rfl (⟨⟨Nat.ne_of_beq_eq_false rfl, Or.inl (Nat.ne_of_beq_eq_false rfl)⟩, ⟨⟨Nat.ne_of_beq_eq_false rfl, Or.inr rfl⟩, trivial⟩⟩) (fun ls hl => ?_)
  refine t_aload_n hx hb dX9_occupant_9 rfl (lv_at hl 0 rfl) ?_
  rcases on_cases h with ⟨z2, h⟩ | ⟨q2, z2, h⟩
  · cases h
  · obtain ⟨hq2, h⟩ := og_some h
    rw [ctv_some ga z2]
    refine lv_ifnonnull (tgt := 24) hx hb dX9_occupant_10 (by decide) ?_
    refine t_aload_n hx hb dX9_occupant_24 rfl (lv_at hl 0 rfl) ?_
    rw [ctv_some ga z2]
    obtain rfl := Option.some.inj h
    exact e_q hx hb hr (Or.inl ⟨_, rfl⟩) hlk hP hD hS (fun _ => 0) rfl (Nat.le_of_ble_eq_true rfl) (Nat.le_of_ble_eq_true rfl) (v := .ref (ga (25 + 2 * q2))) (r := fun _ => ((some q2) : Option Nat).map (fun k => ga (25 + 2 * k))) rfl dX9_occupant_25
def f_X_push (n : Nat) (M : cSt)  : Option (cSt × Int) := ob (f_Ro_frames n M) (fun x1 => og (inR x1) (if x1 < 8 then ob (f_Ro_addFrame n M) (fun x4 => ob (f_Ro_frames n x4) (fun x5 => some (x4, x5))) else none))
set_option maxHeartbeats 4000000 in
set_option maxRecDepth 100000 in
theorem C_X_push (l : Launch) (G : Nat → Nat) (D : va_G) (K : Nat → ClassId) (sz : Nat) (ga : Nat → Nat) (n : Nat) (M : cSt)  {x : cSt × Int} (h : f_X_push n M  = some x) : CM l yX9_push cX9_push 1 (some FieldType.int) ({ frames := 1, cells := 0, slots := 0, locals := 20 } : Room) G D K [.ref (ga 0)] (wld ga n (K 0) (K 1) M) sz (CQi (iI x.2) D (fun _ => wld ga n (K 0) (K 1) x.1)) := by
  refine CM_of (lv0 := [(0, .ref (ga 0))]) pn_RX9 (Nat.le_of_ble_eq_true rfl) rfl (fun p e s m args below meth c A ls hx hb hr hml hown hts hlk hnm hP hK hD hS hA hm hl => ?_)
  have hown : s.vm.findClass RX9 = some m.cls := hown
  unfold f_X_push at h
  refine lv_aload_n hx hb dX9_push_0 rfl (lv_at hl 0 rfl) ?_
  refine r_get hx hb hts ok_RX9 hown hK hP 0 go_0 rfl 1 (by decide) w_238 (fun _ h9 => h9) rfl dX9_push_1 ?_
  obtain ⟨x1, ex1, h⟩ := ob_some h
  refine gk_i (run_V (rest := []) hx hb hml hown hts hK hP hD hS hA hm (C_Ro_frames l G D K s.heap.size ga n M ex1) _ (full_C _) (full_n _ List.nodup_range) mok_yX4_frames w_269 w_270 w_271 (rcv hK hP 1 go_1 rfl rfl) ⟨Nat.le_of_ble_eq_true rfl, Nat.le_of_ble_eq_true rfl⟩ rfl hl.1 rfl (Nat.le_of_ble_eq_true rfl) dX9_push_4 ⟨(Nat.le_of_ble_eq_true rfl), (Nat.le_of_ble_eq_true rfl)⟩) hP hD hS hA (fun u H locs (hP : va_P D cl (wld ga n (K 0) (K 1) M) H) (hD : va_D A (wld ga n (K 0) (K 1) M)) hS => ?_)
  refine lv_bipush (v := iI 8) hx hb dX9_push_7 rfl ?_
  obtain ⟨g2, h⟩ := og_some h
  by_cases c3 : x1 < 8
  · replace h := it_T h c3
    refine i_icmp_lt_T hx hb g2 ⟨by decide, by decide⟩ (tgt := 22) dX9_push_9 (by decide) c3 ?_
    refine lv_aload_n hx hb dX9_push_22 rfl (lv_at hl 0 rfl) ?_
    refine r_get hx hb hts ok_RX9 hown hK hP 0 go_0 rfl 1 (by decide) w_238 (fun _ h9 => h9) rfl dX9_push_23 ?_
    obtain ⟨x4, ex4, h⟩ := ob_some h
    refine gk_v (run_V (rest := []) hx hb hml hown hts hK hP hD hS hA hm (C_Ro_addFrame l G D K H.size ga n M ex4) _ (full_C _) (full_n _ List.nodup_range) mok_yX4_addFrame w_341 w_342 w_343 (rcv hK hP 1 go_1 rfl rfl) ⟨Nat.le_of_ble_eq_true rfl, Nat.le_of_ble_eq_true rfl⟩ rfl hl.1 rfl (Nat.le_of_ble_eq_true rfl) dX9_push_26 ⟨(Nat.le_of_ble_eq_true rfl), (Nat.le_of_ble_eq_true rfl)⟩) hP hD hS hA (fun u H locs (hP : va_P D cl (wld ga n (K 0) (K 1) x4) H) (hD : va_D A (wld ga n (K 0) (K 1) x4)) hS => ?_)
    refine lv_aload_n hx hb dX9_push_29 rfl (lv_at hl 0 rfl) ?_
    refine r_get hx hb hts ok_RX9 hown hK hP 0 go_0 rfl 1 (by decide) w_238 (fun _ h9 => h9) rfl dX9_push_30 ?_
    obtain ⟨x5, ex5, h⟩ := ob_some h
    refine gk_i (run_V (rest := []) hx hb hml hown hts hK hP hD hS hA hm (C_Ro_frames l G D K H.size ga n x4 ex5) _ (full_C _) (full_n _ List.nodup_range) mok_yX4_frames w_269 w_270 w_271 (rcv hK hP 1 go_1 rfl rfl) ⟨Nat.le_of_ble_eq_true rfl, Nat.le_of_ble_eq_true rfl⟩ rfl hl.1 rfl (Nat.le_of_ble_eq_true rfl) dX9_push_33 ⟨(Nat.le_of_ble_eq_true rfl), (Nat.le_of_ble_eq_true rfl)⟩) hP hD hS hA (fun u H locs (hP : va_P D cl (wld ga n (K 0) (K 1) x4) H) (hD : va_D A (wld ga n (K 0) (K 1) x4)) hS => ?_)
    obtain rfl := Option.some.inj h
    exact e_i hx hb hr hlk hP hD hS (fun _ => 0) rfl (Nat.le_of_ble_eq_true rfl) (Nat.le_of_ble_eq_true rfl) rfl dX9_push_36
  · replace h := it_F h c3
    cases h
def f_X_pop (n : Nat) (M : cSt)  : Option (cSt × Int) := ob (f_Ro_frames n M) (fun x1 => og (inR x1) (if 1 < x1 then ob (f_Ro_dropFrame n M) (fun x4 => ob (f_Ro_frames n x4) (fun x5 => some (x4, x5))) else none))
set_option maxHeartbeats 4000000 in
set_option maxRecDepth 100000 in
theorem C_X_pop (l : Launch) (G : Nat → Nat) (D : va_G) (K : Nat → ClassId) (sz : Nat) (ga : Nat → Nat) (n : Nat) (M : cSt)  {x : cSt × Int} (h : f_X_pop n M  = some x) : CM l yX9_pop cX9_pop 1 (some FieldType.int) ({ frames := 3, cells := 0, slots := 0, locals := 65 } : Room) G D K [.ref (ga 0)] (wld ga n (K 0) (K 1) M) sz (CQi (iI x.2) D (fun _ => wld ga n (K 0) (K 1) x.1)) := by
  refine CM_of (lv0 := [(0, .ref (ga 0))]) pn_RX9 (Nat.le_of_ble_eq_true rfl) rfl (fun p e s m args below meth c A ls hx hb hr hml hown hts hlk hnm hP hK hD hS hA hm hl => ?_)
  have hown : s.vm.findClass RX9 = some m.cls := hown
  unfold f_X_pop at h
  refine lv_aload_n hx hb dX9_pop_0 rfl (lv_at hl 0 rfl) ?_
  refine r_get hx hb hts ok_RX9 hown hK hP 0 go_0 rfl 1 (by decide) w_238 (fun _ h9 => h9) rfl dX9_pop_1 ?_
  obtain ⟨x1, ex1, h⟩ := ob_some h
  refine gk_i (run_V (rest := []) hx hb hml hown hts hK hP hD hS hA hm (C_Ro_frames l G D K s.heap.size ga n M ex1) _ (full_C _) (full_n _ List.nodup_range) mok_yX4_frames w_269 w_270 w_271 (rcv hK hP 1 go_1 rfl rfl) ⟨Nat.le_of_ble_eq_true rfl, Nat.le_of_ble_eq_true rfl⟩ rfl hl.1 rfl (Nat.le_of_ble_eq_true rfl) dX9_pop_4 ⟨(Nat.le_of_ble_eq_true rfl), (Nat.le_of_ble_eq_true rfl)⟩) hP hD hS hA (fun u H locs (hP : va_P D cl (wld ga n (K 0) (K 1) M) H) (hD : va_D A (wld ga n (K 0) (K 1) M)) hS => ?_)
  refine lv_iconst (v := iI 1) hx hb dX9_pop_7 rfl ?_
  obtain ⟨g2, h⟩ := og_some h
  by_cases c3 : 1 < x1
  · replace h := it_T h c3
    refine i_icmp_gt_T hx hb g2 ⟨by decide, by decide⟩ (tgt := 21) dX9_pop_8 (by decide) c3 ?_
    refine lv_aload_n hx hb dX9_pop_21 rfl (lv_at hl 0 rfl) ?_
    refine r_get hx hb hts ok_RX9 hown hK hP 0 go_0 rfl 1 (by decide) w_238 (fun _ h9 => h9) rfl dX9_pop_22 ?_
    obtain ⟨x4, ex4, h⟩ := ob_some h
    refine gk_v (run_V (rest := []) hx hb hml hown hts hK hP hD hS hA hm (C_Ro_dropFrame l G D K H.size ga n M ex4) _ (full_C _) (full_n _ List.nodup_range) mok_yX4_dropFrame w_350 w_351 w_352 (rcv hK hP 1 go_1 rfl rfl) ⟨Nat.le_of_ble_eq_true rfl, Nat.le_of_ble_eq_true rfl⟩ rfl hl.1 rfl (Nat.le_of_ble_eq_true rfl) dX9_pop_25 ⟨(Nat.le_of_ble_eq_true rfl), (Nat.le_of_ble_eq_true rfl)⟩) hP hD hS hA (fun u H locs (hP : va_P D cl (wld ga n (K 0) (K 1) x4) H) (hD : va_D A (wld ga n (K 0) (K 1) x4)) hS => ?_)
    refine lv_aload_n hx hb dX9_pop_28 rfl (lv_at hl 0 rfl) ?_
    refine r_get hx hb hts ok_RX9 hown hK hP 0 go_0 rfl 1 (by decide) w_238 (fun _ h9 => h9) rfl dX9_pop_29 ?_
    obtain ⟨x5, ex5, h⟩ := ob_some h
    refine gk_i (run_V (rest := []) hx hb hml hown hts hK hP hD hS hA hm (C_Ro_frames l G D K H.size ga n x4 ex5) _ (full_C _) (full_n _ List.nodup_range) mok_yX4_frames w_269 w_270 w_271 (rcv hK hP 1 go_1 rfl rfl) ⟨Nat.le_of_ble_eq_true rfl, Nat.le_of_ble_eq_true rfl⟩ rfl hl.1 rfl (Nat.le_of_ble_eq_true rfl) dX9_pop_32 ⟨(Nat.le_of_ble_eq_true rfl), (Nat.le_of_ble_eq_true rfl)⟩) hP hD hS hA (fun u H locs (hP : va_P D cl (wld ga n (K 0) (K 1) x4) H) (hD : va_D A (wld ga n (K 0) (K 1) x4)) hS => ?_)
    obtain rfl := Option.some.inj h
    exact e_i hx hb hr hlk hP hD hS (fun _ => 0) rfl (Nat.le_of_ble_eq_true rfl) (Nat.le_of_ble_eq_true rfl) rfl dX9_pop_35
  · replace h := it_F h c3
    cases h
def f_X_minor (n : Nat) (M : cSt)  : Option (cSt × Int) := ob (f_Pl_canOldTakeYoung n M) (fun x1 => og (inR x1) (if x1 = 0 then ob (f_Fu_run n M 1 0) (fun x4 => some (x4.1, x4.2)) else ob (f_Mi_run n M) (fun x5 => some (x5.1, x5.2))))
set_option maxHeartbeats 4000000 in
set_option maxRecDepth 100000 in
theorem C_X_minor (l : Launch) (G : Nat → Nat) (D : va_G) (K : Nat → ClassId) (sz : Nat) (ga : Nat → Nat) (n : Nat) (M : cSt)  {x : cSt × Int} (h : f_X_minor n M  = some x) : CM l yX9_minor cX9_minor 1 (some FieldType.int) ({ frames := 5, cells := 0, slots := 0, locals := 111 } : Room) G D K [.ref (ga 0)] (wld ga n (K 0) (K 1) M) sz (CQi (iI x.2) D (fun _ => wld ga n (K 0) (K 1) x.1)) := by
  refine CM_of (lv0 := [(0, .ref (ga 0))]) pn_RX9 (Nat.le_of_ble_eq_true rfl) rfl (fun p e s m args below meth c A ls hx hb hr hml hown hts hlk hnm hP hK hD hS hA hm hl => ?_)
  have hown : s.vm.findClass RX9 = some m.cls := hown
  unfold f_X_minor at h
  refine lv_aload_n hx hb dX9_minor_0 rfl (lv_at hl 0 rfl) ?_
  refine r_get hx hb hts ok_RX9 hown hK hP 0 go_0 rfl 2 (by decide) w_239 (fun _ h9 => h9) rfl dX9_minor_1 ?_
  obtain ⟨x1, ex1, h⟩ := ob_some h
  refine gk_i (run_V (rest := []) hx hb hml hown hts hK hP hD hS hA hm (C_Pl_canOldTakeYoung l G D K s.heap.size ga n M ex1) _ (full_C _) (full_n _ List.nodup_range) mok_yX3_canOldTakeYoung w_430 w_431 w_432 (rcv hK hP 2 go_2 rfl rfl) ⟨Nat.le_of_ble_eq_true rfl, Nat.le_of_ble_eq_true rfl⟩ rfl hl.1 rfl (Nat.le_of_ble_eq_true rfl) dX9_minor_4 ⟨(Nat.le_of_ble_eq_true rfl), (Nat.le_of_ble_eq_true rfl)⟩) hP hD hS hA (fun u H locs (hP : va_P D cl (wld ga n (K 0) (K 1) M) H) (hD : va_D A (wld ga n (K 0) (K 1) M)) hS => ?_)
  obtain ⟨g2, h⟩ := og_some h
  by_cases c3 : x1 = 0
  · replace h := it_T h c3
    refine i_if_eq_T hx hb g2 (tgt := 20) dX9_minor_7 (by decide) c3 ?_
    refine lv_aload_n hx hb dX9_minor_20 rfl (lv_at hl 0 rfl) ?_
    refine r_get hx hb hts ok_RX9 hown hK hP 0 go_0 rfl 7 (by decide) w_244 (fun _ h9 => h9) rfl dX9_minor_21 ?_
    refine lv_iconst (v := iI 1) hx hb dX9_minor_24 rfl ?_
    refine lv_iconst (v := iI 0) hx hb dX9_minor_25 rfl ?_
    obtain ⟨x4, ex4, h⟩ := ob_some h
    refine gk_i (run_V (rest := []) hx hb hml hown hts hK hP hD hS hA hm (C_Fu_run l G D K H.size ga n M 1 0 ex4) _ (full_C _) (full_n _ List.nodup_range) mok_yX0_run w_556 w_557 w_558 (rcv hK hP 7 go_7 rfl rfl) ⟨Nat.le_of_ble_eq_true rfl, Nat.le_of_ble_eq_true rfl⟩ rfl hl.1 rfl (Nat.le_of_ble_eq_true rfl) dX9_minor_26 ⟨(Nat.le_of_ble_eq_true rfl), (Nat.le_of_ble_eq_true rfl)⟩) hP hD hS hA (fun u H locs (hP : va_P D cl (wld ga n (K 0) (K 1) x4.1) H) (hD : va_D A (wld ga n (K 0) (K 1) x4.1)) hS => ?_)
    obtain rfl := Option.some.inj h
    exact e_i hx hb hr hlk hP hD hS (fun _ => 0) rfl (Nat.le_of_ble_eq_true rfl) (Nat.le_of_ble_eq_true rfl) rfl dX9_minor_29
  · replace h := it_F h c3
    refine i_if_eq_F hx hb g2 (tgt := 20) dX9_minor_7 (by decide) c3 ?_
    refine lv_aload_n hx hb dX9_minor_10 rfl (lv_at hl 0 rfl) ?_
    refine r_get hx hb hts ok_RX9 hown hK hP 0 go_0 rfl 6 (by decide) w_243 (fun _ h9 => h9) rfl dX9_minor_11 ?_
    obtain ⟨x5, ex5, h⟩ := ob_some h
    refine gk_i (run_V (rest := []) hx hb hml hown hts hK hP hD hS hA hm (C_Mi_run l G D K H.size ga n M ex5) _ (full_C _) (full_n _ List.nodup_range) mok_yX2_run w_438 w_439 w_440 (rcv hK hP 6 go_6 rfl rfl) ⟨Nat.le_of_ble_eq_true rfl, Nat.le_of_ble_eq_true rfl⟩ rfl hl.1 rfl (Nat.le_of_ble_eq_true rfl) dX9_minor_14 ⟨(Nat.le_of_ble_eq_true rfl), (Nat.le_of_ble_eq_true rfl)⟩) hP hD hS hA (fun u H locs (hP : va_P D cl (wld ga n (K 0) (K 1) x5.1) H) (hD : va_D A (wld ga n (K 0) (K 1) x5.1)) hS => ?_)
    refine lv_goto (tgt := 29) hx hb dX9_minor_17 (by decide) ?_
    obtain rfl := Option.some.inj h
    exact e_i hx hb hr hlk hP hD hS (fun _ => 0) rfl (Nat.le_of_ble_eq_true rfl) (Nat.le_of_ble_eq_true rfl) rfl dX9_minor_29
def f_X_full (n : Nat) (M : cSt) (a1 : Int) : Option (cSt × Int) := ob (f_Fu_run n M a1 0) (fun x1 => some (x1.1, x1.2))
set_option maxHeartbeats 4000000 in
set_option maxRecDepth 100000 in
theorem C_X_full (l : Launch) (G : Nat → Nat) (D : va_G) (K : Nat → ClassId) (sz : Nat) (ga : Nat → Nat) (n : Nat) (M : cSt) (a1 : Int) {x : cSt × Int} (h : f_X_full n M a1 = some x) : CM l yX9_full cX9_full 2 (some FieldType.int) ({ frames := 5, cells := 0, slots := 0, locals := 111 } : Room) G D K [.ref (ga 0), .int (iI a1)] (wld ga n (K 0) (K 1) M) sz (CQi (iI x.2) D (fun _ => wld ga n (K 0) (K 1) x.1)) := by
  refine CM_of (lv0 := [(0, .ref (ga 0)), (1, .int (iI a1))]) pn_RX9 (Nat.le_of_ble_eq_true rfl) rfl (fun p e s m args below meth c A ls hx hb hr hml hown hts hlk hnm hP hK hD hS hA hm hl => ?_)
  have hown : s.vm.findClass RX9 = some m.cls := hown
  unfold f_X_full at h
  refine lv_aload_n hx hb dX9_full_0 rfl (lv_at hl 0 rfl) ?_
  refine r_get hx hb hts ok_RX9 hown hK hP 0 go_0 rfl 7 (by decide) w_244 (fun _ h9 => h9) rfl dX9_full_1 ?_
  refine lv_iload_n hx hb dX9_full_4 rfl (lv_at hl 1 rfl) ?_
  refine lv_iconst (v := iI 0) hx hb dX9_full_5 rfl ?_
  obtain ⟨x1, ex1, h⟩ := ob_some h
  refine gk_i (run_V (rest := []) hx hb hml hown hts hK hP hD hS hA hm (C_Fu_run l G D K s.heap.size ga n M a1 0 ex1) _ (full_C _) (full_n _ List.nodup_range) mok_yX0_run w_556 w_557 w_558 (rcv hK hP 7 go_7 rfl rfl) ⟨Nat.le_of_ble_eq_true rfl, Nat.le_of_ble_eq_true rfl⟩ rfl hl.1 rfl (Nat.le_of_ble_eq_true rfl) dX9_full_6 ⟨(Nat.le_of_ble_eq_true rfl), (Nat.le_of_ble_eq_true rfl)⟩) hP hD hS hA (fun u H locs (hP : va_P D cl (wld ga n (K 0) (K 1) x1.1) H) (hD : va_D A (wld ga n (K 0) (K 1) x1.1)) hS => ?_)
  obtain rfl := Option.some.inj h
  exact e_i hx hb hr hlk hP hD hS (fun _ => 0) rfl (Nat.le_of_ble_eq_true rfl) (Nat.le_of_ble_eq_true rfl) rfl dX9_full_9
def f_X_set (n : Nat) (M : cSt) (a1 : Int) (a2 : Int) (a3 : Int) : Option (cSt × Int) := ob (f_X_requireSlot n M a1) (fun x1 => ob (f_X_requireSlotOrNone n M a3) (fun x2 => ob (f_X_occupant n M a1) (fun x3 => ob (f_X_requireField n M x3 a2) (fun x4 => on x3 none (fun q5 => og (q5 < n) (ob (f_Th_read n M q5 a2) (fun x6 => ob (f_Ro_readSlot n M a3) (fun x7 => ob (f_Th_write n M q5 a2 x7) (fun x8 => ob (f_Pl_noteWritten n x8 (some q5) x7) (fun x9 => ob (f_Mk_noteWritten n x9 (some q5) x7) (fun x10 => ob (f_X_numberOf n x10 x6) (fun x11 => some (x10, x11)))))))))))))
set_option maxHeartbeats 4000000 in
set_option maxRecDepth 100000 in
theorem C_X_set (l : Launch) (G : Nat → Nat) (D : va_G) (K : Nat → ClassId) (sz : Nat) (ga : Nat → Nat) (n : Nat) (M : cSt) (a1 : Int) (a2 : Int) (a3 : Int) {x : cSt × Int} (h : f_X_set n M a1 a2 a3 = some x) : CM l yX9_set cX9_set 7 (some FieldType.int) ({ frames := 3, cells := 0, slots := 0, locals := 65 } : Room) G D K [.ref (ga 0), .int (iI a1), .int (iI a2), .int (iI a3)] (wld ga n (K 0) (K 1) M) sz (CQi (iI x.2) D (fun _ => wld ga n (K 0) (K 1) x.1)) := by
  refine CM_of (lv0 := [(0, .ref (ga 0)), (1, .int (iI a1)), (2, .int (iI a2)), (3, .int (iI a3))]) pn_RX9 (Nat.le_of_ble_eq_true rfl) rfl (fun p e s m args below meth c A ls hx hb hr hml hown hts hlk hnm hP hK hD hS hA hm hl => ?_)
  have hown : s.vm.findClass RX9 = some m.cls := hown
  unfold f_X_set at h
  refine lv_iload_n hx hb dX9_set_0 rfl (lv_at hl 1 rfl) ?_
  obtain ⟨x1, ex1, h⟩ := ob_some h
  refine gk_v (run_S (rest := []) hx hb hml hown hts hK hP hD hS hA hm (C_X_requireSlot l G D K s.heap.size ga n M a1 ex1) _ (full_C _) (full_n _ List.nodup_range) mok_yX9_requireSlot w_366 w_367 ⟨Nat.le_of_ble_eq_true rfl, Nat.le_of_ble_eq_true rfl⟩ rfl hl.1 rfl (Nat.le_of_ble_eq_true rfl) dX9_set_1 ⟨(Nat.le_of_ble_eq_true rfl), (Nat.le_of_ble_eq_true rfl)⟩) hP hD hS hA (fun u H locs (hP : va_P D cl (wld ga n (K 0) (K 1) M) H) (hD : va_D A (wld ga n (K 0) (K 1) M)) hS => ?_)
  refine lv_iload_n hx hb dX9_set_4 rfl (lv_at hl 3 rfl) ?_
  obtain ⟨x2, ex2, h⟩ := ob_some h
  refine gk_v (run_S (rest := []) hx hb hml hown hts hK hP hD hS hA hm (C_X_requireSlotOrNone l G D K H.size ga n M a3 ex2) _ (full_C _) (full_n _ List.nodup_range) mok_yX9_requireSlotOrNone w_771 w_772 ⟨Nat.le_of_ble_eq_true rfl, Nat.le_of_ble_eq_true rfl⟩ rfl hl.1 rfl (Nat.le_of_ble_eq_true rfl) dX9_set_5 ⟨(Nat.le_of_ble_eq_true rfl), (Nat.le_of_ble_eq_true rfl)⟩) hP hD hS hA (fun u H locs (hP : va_P D cl (wld ga n (K 0) (K 1) M) H) (hD : va_D A (wld ga n (K 0) (K 1) M)) hS => ?_)
  refine lv_aload_n hx hb dX9_set_8 rfl (lv_at hl 0 rfl) ?_
  refine lv_iload_n hx hb dX9_set_9 rfl (lv_at hl 1 rfl) ?_
  obtain ⟨x3, ex3, h⟩ := ob_some h
  refine gk_q (run_V (rest := []) hx hb hml hown hts hK hP hD hS hA hm (C_X_occupant l G D K H.size ga n M a1 ex3) _ (full_C _) (full_n _ List.nodup_range) mok_yX9_occupant w_774 w_776 w_p21 (rcv hK hP 0 go_0 rfl rfl) ⟨Nat.le_of_ble_eq_true rfl, Nat.le_of_ble_eq_true rfl⟩ rfl hl.1 rfl (Nat.le_of_ble_eq_true rfl) dX9_set_10 ⟨(Nat.le_of_ble_eq_true rfl), (Nat.le_of_ble_eq_true rfl)⟩) hP hD hS hA (fun u H locs (hP : va_P D cl (wld ga n (K 0) (K 1) M) H) (hD : va_D A (wld ga n (K 0) (K 1) M)) hS => ?_)
  refine w_tov (y := ctv ga x3) rfl ?_
  refine t_astore hx hb dX9_set_13 hl (by decide) [0, 1, 2, 3] (lv' := [(0, .ref (ga 0)), (1, .int (iI a1)), (2, .int (iI a2)), (3, .int (iI a3))]) rfl (⟨⟨Nat.ne_of_beq_eq_false rfl, Or.inl (Nat.ne_of_beq_eq_false rfl)⟩, ⟨⟨Nat.ne_of_beq_eq_false rfl, Or.inl (Nat.ne_of_beq_eq_false rfl)⟩, ⟨⟨Nat.ne_of_beq_eq_false rfl, Or.inl (Nat.ne_of_beq_eq_false rfl)⟩, ⟨⟨Nat.ne_of_beq_eq_false rfl, Or.inr rfl⟩, trivial⟩⟩⟩⟩) (fun ls hl => ?_)
  refine t_aload hx hb dX9_set_15 (lv_at hl 0 rfl) ?_
  refine lv_iload_n hx hb dX9_set_17 rfl (lv_at hl 3 rfl) ?_
  obtain ⟨x4, ex4, h⟩ := ob_some h
  refine gk_v (run_S (rest := []) hx hb hml hown hts hK hP hD hS hA hm (C_X_requireField l G D K H.size ga n M x3 a2 ex4) _ (full_C _) (full_n _ List.nodup_range) mok_yX9_requireField w_783 w_784 ⟨Nat.le_of_ble_eq_true rfl, Nat.le_of_ble_eq_true rfl⟩ rfl hl.1 rfl (Nat.le_of_ble_eq_true rfl) dX9_set_18 ⟨(Nat.le_of_ble_eq_true rfl), (Nat.le_of_ble_eq_true rfl)⟩) hP hD hS hA (fun u H locs (hP : va_P D cl (wld ga n (K 0) (K 1) M) H) (hD : va_D A (wld ga n (K 0) (K 1) M)) hS => ?_)
  refine t_aload hx hb dX9_set_21 (lv_at hl 0 rfl) ?_
  refine lv_iload_n hx hb dX9_set_23 rfl (lv_at hl 3 rfl) ?_
  rcases on_cases h with ⟨z5, h⟩ | ⟨q5, z5, h⟩
  · cases h
  · obtain ⟨hq5, h⟩ := og_some h
    rw [ctv_some ga z5]
    obtain ⟨x6, ex6, h⟩ := ob_some h
    refine gk_q (run_V (rest := []) hx hb hml hown hts hK hP hD hS hA hm (C_Th_read l G D K H.size ga n M q5 hq5 a2 ex6) _ (full_C _) (full_n _ List.nodup_range) mok_yX7_read w_791 w_509 w_510 (rcv hK hP (25 + 2 * q5) (go_th hq5) rfl rfl) ⟨Nat.le_of_ble_eq_true rfl, Nat.le_of_ble_eq_true rfl⟩ rfl hl.1 rfl (Nat.le_of_ble_eq_true rfl) dX9_set_24 ⟨(Nat.le_of_ble_eq_true rfl), (Nat.le_of_ble_eq_true rfl)⟩) hP hD hS hA (fun u H locs (hP : va_P D cl (wld ga n (K 0) (K 1) M) H) (hD : va_D A (wld ga n (K 0) (K 1) M)) hS => ?_)
    refine w_tov (y := ctv ga x6) rfl ?_
    refine t_astore hx hb dX9_set_27 hl (by decide) [0, 1, 2, 3, 4] (lv' := [(4, ctv ga x3), (0, .ref (ga 0)), (1, .int (iI a1)), (2, .int (iI a2)), (3, .int (iI a3))]) rfl (⟨⟨Nat.ne_of_beq_eq_false rfl, Or.inr (ctv_cat _ _)⟩, ⟨⟨Nat.ne_of_beq_eq_false rfl, Or.inl (Nat.ne_of_beq_eq_false rfl)⟩, ⟨⟨Nat.ne_of_beq_eq_false rfl, Or.inl (Nat.ne_of_beq_eq_false rfl)⟩, ⟨⟨Nat.ne_of_beq_eq_false rfl, Or.inl (Nat.ne_of_beq_eq_false rfl)⟩, ⟨⟨Nat.ne_of_beq_eq_false rfl, Or.inl (Nat.ne_of_beq_eq_false rfl)⟩, trivial⟩⟩⟩⟩⟩) (fun ls hl => ?_)
    refine lv_aload_n hx hb dX9_set_29 rfl (lv_at hl 2 rfl) ?_
    refine r_get hx hb hts ok_RX9 hown hK hP 0 go_0 rfl 1 (by decide) w_238 (fun _ h9 => h9) rfl dX9_set_30 ?_
    refine lv_iload_n hx hb dX9_set_33 rfl (lv_at hl 5 rfl) ?_
    obtain ⟨x7, ex7, h⟩ := ob_some h
    refine gk_q (run_V (rest := []) hx hb hml hown hts hK hP hD hS hA hm (C_Ro_readSlot l G D K H.size ga n M a3 ex7) _ (full_C _) (full_n _ List.nodup_range) mok_yX4_readSlot w_778 w_779 w_780 (rcv hK hP 1 go_1 rfl rfl) ⟨Nat.le_of_ble_eq_true rfl, Nat.le_of_ble_eq_true rfl⟩ rfl hl.1 rfl (Nat.le_of_ble_eq_true rfl) dX9_set_34 ⟨(Nat.le_of_ble_eq_true rfl), (Nat.le_of_ble_eq_true rfl)⟩) hP hD hS hA (fun u H locs (hP : va_P D cl (wld ga n (K 0) (K 1) M) H) (hD : va_D A (wld ga n (K 0) (K 1) M)) hS => ?_)
    refine w_tov (y := ctv ga x7) rfl ?_
    refine t_astore hx hb dX9_set_37 hl (by decide) [0, 1, 2, 3, 4, 5] (lv' := [(5, ctv ga x6), (4, ctv ga x3), (0, .ref (ga 0)), (1, .int (iI a1)), (2, .int (iI a2)), (3, .int (iI a3))]) rfl (⟨⟨Nat.ne_of_beq_eq_false rfl, Or.inr (ctv_cat _ _)⟩, ⟨⟨Nat.ne_of_beq_eq_false rfl, Or.inl (Nat.ne_of_beq_eq_false rfl)⟩, ⟨⟨Nat.ne_of_beq_eq_false rfl, Or.inl (Nat.ne_of_beq_eq_false rfl)⟩, ⟨⟨Nat.ne_of_beq_eq_false rfl, Or.inl (Nat.ne_of_beq_eq_false rfl)⟩, ⟨⟨Nat.ne_of_beq_eq_false rfl, Or.inl (Nat.ne_of_beq_eq_false rfl)⟩, ⟨⟨Nat.ne_of_beq_eq_false rfl, Or.inl (Nat.ne_of_beq_eq_false rfl)⟩, trivial⟩⟩⟩⟩⟩⟩) (fun ls hl => ?_)
    refine t_aload hx hb dX9_set_39 (lv_at hl 2 rfl) ?_
    rw [ctv_some ga z5]
    refine lv_iload_n hx hb dX9_set_41 rfl (lv_at hl 5 rfl) ?_
    refine t_aload hx hb dX9_set_42 (lv_at hl 0 rfl) ?_
    obtain ⟨x8, ex8, h⟩ := ob_some h
    refine gk_v (run_V (rest := []) hx hb hml hown hts hK hP hD hS hA hm (C_Th_write l G D K H.size ga n M q5 hq5 a2 x7 ex8) _ (full_C _) (full_n _ List.nodup_range) mok_yX7_write w_792 w_513 w_514 (rcv hK hP (25 + 2 * q5) (go_th hq5) rfl rfl) ⟨Nat.le_of_ble_eq_true rfl, Nat.le_of_ble_eq_true rfl⟩ rfl hl.1 rfl (Nat.le_of_ble_eq_true rfl) dX9_set_44 ⟨(Nat.le_of_ble_eq_true rfl), (Nat.le_of_ble_eq_true rfl)⟩) hP hD hS hA (fun u H locs (hP : va_P D cl (wld ga n (K 0) (K 1) x8) H) (hD : va_D A (wld ga n (K 0) (K 1) x8)) hS => ?_)
    refine lv_aload_n hx hb dX9_set_47 rfl (lv_at hl 3 rfl) ?_
    refine r_get hx hb hts ok_RX9 hown hK hP 0 go_0 rfl 2 (by decide) w_239 (fun _ h9 => h9) rfl dX9_set_48 ?_
    refine t_aload hx hb dX9_set_51 (lv_at hl 2 rfl) ?_
    rw [ctv_some ga z5]
    refine t_aload hx hb dX9_set_53 (lv_at hl 0 rfl) ?_
    obtain ⟨x9, ex9, h⟩ := ob_some h
    refine gk_v (run_V (rest := []) hx hb hml hown hts hK hP hD hS hA hm (C_Pl_noteWritten l G D K H.size ga n x8 (some q5) x7 ex9) _ (full_C _) (full_n _ List.nodup_range) mok_yX3_noteWritten w_793 w_794 w_795 (rcv hK hP 2 go_2 rfl rfl) ⟨Nat.le_of_ble_eq_true rfl, Nat.le_of_ble_eq_true rfl⟩ rfl hl.1 rfl (Nat.le_of_ble_eq_true rfl) dX9_set_55 ⟨(Nat.le_of_ble_eq_true rfl), (Nat.le_of_ble_eq_true rfl)⟩) hP hD hS hA (fun u H locs (hP : va_P D cl (wld ga n (K 0) (K 1) x9) H) (hD : va_D A (wld ga n (K 0) (K 1) x9)) hS => ?_)
    refine lv_aload_n hx hb dX9_set_58 rfl (lv_at hl 3 rfl) ?_
    refine r_get hx hb hts ok_RX9 hown hK hP 0 go_0 rfl 4 (by decide) w_241 (fun _ h9 => h9) rfl dX9_set_59 ?_
    refine t_aload hx hb dX9_set_62 (lv_at hl 2 rfl) ?_
    rw [ctv_some ga z5]
    refine t_aload hx hb dX9_set_64 (lv_at hl 0 rfl) ?_
    obtain ⟨x10, ex10, h⟩ := ob_some h
    refine gk_v (run_V (rest := []) hx hb hml hown hts hK hP hD hS hA hm (C_Mk_noteWritten l G D K H.size ga n x9 (some q5) x7 ex10) _ (full_C _) (full_n _ List.nodup_range) mok_yX1_noteWritten w_797 w_798 w_799 (rcv hK hP 4 go_4 rfl rfl) ⟨Nat.le_of_ble_eq_true rfl, Nat.le_of_ble_eq_true rfl⟩ rfl hl.1 rfl (Nat.le_of_ble_eq_true rfl) dX9_set_66 ⟨(Nat.le_of_ble_eq_true rfl), (Nat.le_of_ble_eq_true rfl)⟩) hP hD hS hA (fun u H locs (hP : va_P D cl (wld ga n (K 0) (K 1) x10) H) (hD : va_D A (wld ga n (K 0) (K 1) x10)) hS => ?_)
    refine t_aload hx hb dX9_set_69 (lv_at hl 1 rfl) ?_
    obtain ⟨x11, ex11, h⟩ := ob_some h
    refine gk_i (run_S (rest := []) hx hb hml hown hts hK hP hD hS hA hm (C_X_numberOf l G D K H.size ga n x10 x6 ex11) _ (full_C _) (full_n _ List.nodup_range) mok_yX9_numberOf w_804 w_805 ⟨Nat.le_of_ble_eq_true rfl, Nat.le_of_ble_eq_true rfl⟩ rfl hl.1 rfl (Nat.le_of_ble_eq_true rfl) dX9_set_71 ⟨(Nat.le_of_ble_eq_true rfl), (Nat.le_of_ble_eq_true rfl)⟩) hP hD hS hA (fun u H locs (hP : va_P D cl (wld ga n (K 0) (K 1) x10) H) (hD : va_D A (wld ga n (K 0) (K 1) x10)) hS => ?_)
    obtain rfl := Option.some.inj h
    exact e_i hx hb hr hlk hP hD hS (fun _ => 0) rfl (Nat.le_of_ble_eq_true rfl) (Nat.le_of_ble_eq_true rfl) rfl dX9_set_74
def f_X_put (n : Nat) (M : cSt) (a1 : Int) (a2 : Int) : Option (cSt × Int) := ob (f_X_requireSlot n M a1) (fun x1 => ob (f_X_requireSlotOrNone n M a2) (fun x2 => ob (f_Ro_readSlot n M a1) (fun x3 => ob (f_Ro_readSlot n M a2) (fun x4 => ob (f_Ro_writeSlot n M a1 x4) (fun x5 => ob (f_X_numberOf n x5 x3) (fun x6 => some (x5, x6)))))))
set_option maxHeartbeats 4000000 in
set_option maxRecDepth 100000 in
theorem C_X_put (l : Launch) (G : Nat → Nat) (D : va_G) (K : Nat → ClassId) (sz : Nat) (ga : Nat → Nat) (n : Nat) (M : cSt) (a1 : Int) (a2 : Int) {x : cSt × Int} (h : f_X_put n M a1 a2 = some x) : CM l yX9_put cX9_put 4 (some FieldType.int) ({ frames := 2, cells := 0, slots := 0, locals := 44 } : Room) G D K [.ref (ga 0), .int (iI a1), .int (iI a2)] (wld ga n (K 0) (K 1) M) sz (CQi (iI x.2) D (fun _ => wld ga n (K 0) (K 1) x.1)) := by
  refine CM_of (lv0 := [(0, .ref (ga 0)), (1, .int (iI a1)), (2, .int (iI a2))]) pn_RX9 (Nat.le_of_ble_eq_true rfl) rfl (fun p e s m args below meth c A ls hx hb hr hml hown hts hlk hnm hP hK hD hS hA hm hl => ?_)
  have hown : s.vm.findClass RX9 = some m.cls := hown
  unfold f_X_put at h
  refine lv_iload_n hx hb dX9_put_0 rfl (lv_at hl 1 rfl) ?_
  obtain ⟨x1, ex1, h⟩ := ob_some h
  refine gk_v (run_S (rest := []) hx hb hml hown hts hK hP hD hS hA hm (C_X_requireSlot l G D K s.heap.size ga n M a1 ex1) _ (full_C _) (full_n _ List.nodup_range) mok_yX9_requireSlot w_366 w_367 ⟨Nat.le_of_ble_eq_true rfl, Nat.le_of_ble_eq_true rfl⟩ rfl hl.1 rfl (Nat.le_of_ble_eq_true rfl) dX9_put_1 ⟨(Nat.le_of_ble_eq_true rfl), (Nat.le_of_ble_eq_true rfl)⟩) hP hD hS hA (fun u H locs (hP : va_P D cl (wld ga n (K 0) (K 1) M) H) (hD : va_D A (wld ga n (K 0) (K 1) M)) hS => ?_)
  refine lv_iload_n hx hb dX9_put_4 rfl (lv_at hl 2 rfl) ?_
  obtain ⟨x2, ex2, h⟩ := ob_some h
  refine gk_v (run_S (rest := []) hx hb hml hown hts hK hP hD hS hA hm (C_X_requireSlotOrNone l G D K H.size ga n M a2 ex2) _ (full_C _) (full_n _ List.nodup_range) mok_yX9_requireSlotOrNone w_771 w_772 ⟨Nat.le_of_ble_eq_true rfl, Nat.le_of_ble_eq_true rfl⟩ rfl hl.1 rfl (Nat.le_of_ble_eq_true rfl) dX9_put_5 ⟨(Nat.le_of_ble_eq_true rfl), (Nat.le_of_ble_eq_true rfl)⟩) hP hD hS hA (fun u H locs (hP : va_P D cl (wld ga n (K 0) (K 1) M) H) (hD : va_D A (wld ga n (K 0) (K 1) M)) hS => ?_)
  refine lv_aload_n hx hb dX9_put_8 rfl (lv_at hl 0 rfl) ?_
  refine r_get hx hb hts ok_RX9 hown hK hP 0 go_0 rfl 1 (by decide) w_238 (fun _ h9 => h9) rfl dX9_put_9 ?_
  refine lv_iload_n hx hb dX9_put_12 rfl (lv_at hl 1 rfl) ?_
  obtain ⟨x3, ex3, h⟩ := ob_some h
  refine gk_q (run_V (rest := []) hx hb hml hown hts hK hP hD hS hA hm (C_Ro_readSlot l G D K H.size ga n M a1 ex3) _ (full_C _) (full_n _ List.nodup_range) mok_yX4_readSlot w_778 w_779 w_780 (rcv hK hP 1 go_1 rfl rfl) ⟨Nat.le_of_ble_eq_true rfl, Nat.le_of_ble_eq_true rfl⟩ rfl hl.1 rfl (Nat.le_of_ble_eq_true rfl) dX9_put_13 ⟨(Nat.le_of_ble_eq_true rfl), (Nat.le_of_ble_eq_true rfl)⟩) hP hD hS hA (fun u H locs (hP : va_P D cl (wld ga n (K 0) (K 1) M) H) (hD : va_D A (wld ga n (K 0) (K 1) M)) hS => ?_)
  refine w_tov (y := ctv ga x3) rfl ?_
  refine t_astore_n hx hb dX9_put_16 rfl hl (by decide) [0, 1, 2] (lv' := [(0, .ref (ga 0)), (1, .int (iI a1)), (2, .int (iI a2))]) rfl (⟨⟨Nat.ne_of_beq_eq_false rfl, Or.inl (Nat.ne_of_beq_eq_false rfl)⟩, ⟨⟨Nat.ne_of_beq_eq_false rfl, Or.inl (Nat.ne_of_beq_eq_false rfl)⟩, ⟨⟨Nat.ne_of_beq_eq_false rfl, Or.inr rfl⟩, trivial⟩⟩⟩) (fun ls hl => ?_)
  refine lv_aload_n hx hb dX9_put_17 rfl (lv_at hl 1 rfl) ?_
  refine r_get hx hb hts ok_RX9 hown hK hP 0 go_0 rfl 1 (by decide) w_238 (fun _ h9 => h9) rfl dX9_put_18 ?_
  refine lv_iload_n hx hb dX9_put_21 rfl (lv_at hl 2 rfl) ?_
  refine lv_aload_n hx hb dX9_put_22 rfl (lv_at hl 1 rfl) ?_
  refine r_get hx hb hts ok_RX9 hown hK hP 0 go_0 rfl 1 (by decide) w_238 (fun _ h9 => h9) rfl dX9_put_23 ?_
  refine lv_iload_n hx hb dX9_put_26 rfl (lv_at hl 3 rfl) ?_
  obtain ⟨x4, ex4, h⟩ := ob_some h
  refine gk_q (run_V (rest := [.int (iI a1), .ref (ga 1)]) hx hb hml hown hts hK hP hD hS hA hm (C_Ro_readSlot l G D K H.size ga n M a2 ex4) _ (full_C _) (full_n _ List.nodup_range) mok_yX4_readSlot w_778 w_779 w_780 (rcv hK hP 1 go_1 rfl rfl) ⟨Nat.le_of_ble_eq_true rfl, Nat.le_of_ble_eq_true rfl⟩ rfl hl.1 rfl (Nat.le_of_ble_eq_true rfl) dX9_put_27 ⟨(Nat.le_of_ble_eq_true rfl), (Nat.le_of_ble_eq_true rfl)⟩) hP hD hS hA (fun u H locs (hP : va_P D cl (wld ga n (K 0) (K 1) M) H) (hD : va_D A (wld ga n (K 0) (K 1) M)) hS => ?_)
  refine w_tov (y := ctv ga x4) rfl ?_
  obtain ⟨x5, ex5, h⟩ := ob_some h
  refine gk_v (run_V (rest := []) hx hb hml hown hts hK hP hD hS hA hm (C_Ro_writeSlot l G D K H.size ga n M a1 x4 ex5) _ (full_C _) (full_n _ List.nodup_range) mok_yX4_writeSlot w_766 w_355 w_356 (rcv hK hP 1 go_1 rfl rfl) ⟨Nat.le_of_ble_eq_true rfl, Nat.le_of_ble_eq_true rfl⟩ rfl hl.1 rfl (Nat.le_of_ble_eq_true rfl) dX9_put_30 ⟨(Nat.le_of_ble_eq_true rfl), (Nat.le_of_ble_eq_true rfl)⟩) hP hD hS hA (fun u H locs (hP : va_P D cl (wld ga n (K 0) (K 1) x5) H) (hD : va_D A (wld ga n (K 0) (K 1) x5)) hS => ?_)
  refine t_aload_n hx hb dX9_put_33 rfl (lv_at hl 0 rfl) ?_
  obtain ⟨x6, ex6, h⟩ := ob_some h
  refine gk_i (run_S (rest := []) hx hb hml hown hts hK hP hD hS hA hm (C_X_numberOf l G D K H.size ga n x5 x3 ex6) _ (full_C _) (full_n _ List.nodup_range) mok_yX9_numberOf w_804 w_805 ⟨Nat.le_of_ble_eq_true rfl, Nat.le_of_ble_eq_true rfl⟩ rfl hl.1 rfl (Nat.le_of_ble_eq_true rfl) dX9_put_34 ⟨(Nat.le_of_ble_eq_true rfl), (Nat.le_of_ble_eq_true rfl)⟩) hP hD hS hA (fun u H locs (hP : va_P D cl (wld ga n (K 0) (K 1) x5) H) (hD : va_D A (wld ga n (K 0) (K 1) x5)) hS => ?_)
  obtain rfl := Option.some.inj h
  exact e_i hx hb hr hlk hP hD hS (fun _ => 0) rfl (Nat.le_of_ble_eq_true rfl) (Nat.le_of_ble_eq_true rfl) rfl dX9_put_37
def f_X_swap (n : Nat) (M : cSt) (a1 : Int) (a2 : Int) : Option (cSt × Int) := ob (f_X_requireSlot n M a1) (fun x1 => og (inR a2) (if a2 < 0 then none else if a2 < 4 then ob (f_Ro_readGlobal n M a2) (fun x5 => ob (f_Ro_readSlot n M a1) (fun x6 => ob (f_Ro_writeGlobal n M a2 x6) (fun x7 => ob (f_Ro_writeSlot n x7 a1 x5) (fun x8 => ob (f_X_numberOf n x8 x5) (fun x9 => some (x8, x9)))))) else none))
set_option maxHeartbeats 4000000 in
set_option maxRecDepth 100000 in
theorem C_X_swap (l : Launch) (G : Nat → Nat) (D : va_G) (K : Nat → ClassId) (sz : Nat) (ga : Nat → Nat) (n : Nat) (M : cSt) (a1 : Int) (a2 : Int) {x : cSt × Int} (h : f_X_swap n M a1 a2 = some x) : CM l yX9_swap cX9_swap 4 (some FieldType.int) ({ frames := 2, cells := 0, slots := 0, locals := 44 } : Room) G D K [.ref (ga 0), .int (iI a1), .int (iI a2)] (wld ga n (K 0) (K 1) M) sz (CQi (iI x.2) D (fun _ => wld ga n (K 0) (K 1) x.1)) := by
  refine CM_of (lv0 := [(0, .ref (ga 0)), (1, .int (iI a1)), (2, .int (iI a2))]) pn_RX9 (Nat.le_of_ble_eq_true rfl) rfl (fun p e s m args below meth c A ls hx hb hr hml hown hts hlk hnm hP hK hD hS hA hm hl => ?_)
  have hown : s.vm.findClass RX9 = some m.cls := hown
  unfold f_X_swap at h
  refine lv_iload_n hx hb dX9_swap_0 rfl (lv_at hl 1 rfl) ?_
  obtain ⟨x1, ex1, h⟩ := ob_some h
  refine gk_v (run_S (rest := []) hx hb hml hown hts hK hP hD hS hA hm (C_X_requireSlot l G D K s.heap.size ga n M a1 ex1) _ (full_C _) (full_n _ List.nodup_range) mok_yX9_requireSlot w_366 w_367 ⟨Nat.le_of_ble_eq_true rfl, Nat.le_of_ble_eq_true rfl⟩ rfl hl.1 rfl (Nat.le_of_ble_eq_true rfl) dX9_swap_1 ⟨(Nat.le_of_ble_eq_true rfl), (Nat.le_of_ble_eq_true rfl)⟩) hP hD hS hA (fun u H locs (hP : va_P D cl (wld ga n (K 0) (K 1) M) H) (hD : va_D A (wld ga n (K 0) (K 1) M)) hS => ?_)
  refine lv_iload_n hx hb dX9_swap_4 rfl (lv_at hl 2 rfl) ?_
  obtain ⟨g2, h⟩ := og_some h
  by_cases c3 : a2 < 0
  · replace h := it_T h c3
    cases h
  · replace h := it_F h c3
    refine i_if_lt_F hx hb g2 (tgt := 13) dX9_swap_5 (by decide) c3 ?_
    refine lv_iload_n hx hb dX9_swap_8 rfl (lv_at hl 2 rfl) ?_
    refine lv_iconst (v := iI 4) hx hb dX9_swap_9 rfl ?_
    by_cases c4 : a2 < 4
    · replace h := it_T h c4
      refine i_icmp_lt_T hx hb g2 ⟨by decide, by decide⟩ (tgt := 23) dX9_swap_10 (by decide) c4 ?_
      refine lv_aload_n hx hb dX9_swap_23 rfl (lv_at hl 0 rfl) ?_
      refine r_get hx hb hts ok_RX9 hown hK hP 0 go_0 rfl 1 (by decide) w_238 (fun _ h9 => h9) rfl dX9_swap_24 ?_
      refine lv_iload_n hx hb dX9_swap_27 rfl (lv_at hl 2 rfl) ?_
      obtain ⟨x5, ex5, h⟩ := ob_some h
      refine gk_q (run_V (rest := []) hx hb hml hown hts hK hP hD hS hA hm (C_Ro_readGlobal l G D K H.size ga n M a2 ex5) _ (full_C _) (full_n _ List.nodup_range) mok_yX4_readGlobal w_816 w_478 w_479 (rcv hK hP 1 go_1 rfl rfl) ⟨Nat.le_of_ble_eq_true rfl, Nat.le_of_ble_eq_true rfl⟩ rfl hl.1 rfl (Nat.le_of_ble_eq_true rfl) dX9_swap_28 ⟨(Nat.le_of_ble_eq_true rfl), (Nat.le_of_ble_eq_true rfl)⟩) hP hD hS hA (fun u H locs (hP : va_P D cl (wld ga n (K 0) (K 1) M) H) (hD : va_D A (wld ga n (K 0) (K 1) M)) hS => ?_)
      refine w_tov (y := ctv ga x5) rfl ?_
      refine t_astore_n hx hb dX9_swap_31 rfl hl (by decide) [0, 1, 2] (lv' := [(0, .ref (ga 0)), (1, .int (iI a1)), (2, .int (iI a2))]) rfl (⟨⟨Nat.ne_of_beq_eq_false rfl, Or.inl (Nat.ne_of_beq_eq_false rfl)⟩, ⟨⟨Nat.ne_of_beq_eq_false rfl, Or.inl (Nat.ne_of_beq_eq_false rfl)⟩, ⟨⟨Nat.ne_of_beq_eq_false rfl, Or.inr rfl⟩, trivial⟩⟩⟩) (fun ls hl => ?_)
      refine lv_aload_n hx hb dX9_swap_32 rfl (lv_at hl 1 rfl) ?_
      refine r_get hx hb hts ok_RX9 hown hK hP 0 go_0 rfl 1 (by decide) w_238 (fun _ h9 => h9) rfl dX9_swap_33 ?_
      refine lv_iload_n hx hb dX9_swap_36 rfl (lv_at hl 3 rfl) ?_
      refine lv_aload_n hx hb dX9_swap_37 rfl (lv_at hl 1 rfl) ?_
      refine r_get hx hb hts ok_RX9 hown hK hP 0 go_0 rfl 1 (by decide) w_238 (fun _ h9 => h9) rfl dX9_swap_38 ?_
      refine lv_iload_n hx hb dX9_swap_41 rfl (lv_at hl 2 rfl) ?_
      obtain ⟨x6, ex6, h⟩ := ob_some h
      refine gk_q (run_V (rest := [.int (iI a2), .ref (ga 1)]) hx hb hml hown hts hK hP hD hS hA hm (C_Ro_readSlot l G D K H.size ga n M a1 ex6) _ (full_C _) (full_n _ List.nodup_range) mok_yX4_readSlot w_778 w_779 w_780 (rcv hK hP 1 go_1 rfl rfl) ⟨Nat.le_of_ble_eq_true rfl, Nat.le_of_ble_eq_true rfl⟩ rfl hl.1 rfl (Nat.le_of_ble_eq_true rfl) dX9_swap_42 ⟨(Nat.le_of_ble_eq_true rfl), (Nat.le_of_ble_eq_true rfl)⟩) hP hD hS hA (fun u H locs (hP : va_P D cl (wld ga n (K 0) (K 1) M) H) (hD : va_D A (wld ga n (K 0) (K 1) M)) hS => ?_)
      refine w_tov (y := ctv ga x6) rfl ?_
      obtain ⟨x7, ex7, h⟩ := ob_some h
      refine gk_v (run_V (rest := []) hx hb hml hown hts hK hP hD hS hA hm (C_Ro_writeGlobal l G D K H.size ga n M a2 x6 ex7) _ (full_C _) (full_n _ List.nodup_range) mok_yX4_writeGlobal w_817 w_818 w_819 (rcv hK hP 1 go_1 rfl rfl) ⟨Nat.le_of_ble_eq_true rfl, Nat.le_of_ble_eq_true rfl⟩ rfl hl.1 rfl (Nat.le_of_ble_eq_true rfl) dX9_swap_45 ⟨(Nat.le_of_ble_eq_true rfl), (Nat.le_of_ble_eq_true rfl)⟩) hP hD hS hA (fun u H locs (hP : va_P D cl (wld ga n (K 0) (K 1) x7) H) (hD : va_D A (wld ga n (K 0) (K 1) x7)) hS => ?_)
      refine lv_aload_n hx hb dX9_swap_48 rfl (lv_at hl 1 rfl) ?_
      refine r_get hx hb hts ok_RX9 hown hK hP 0 go_0 rfl 1 (by decide) w_238 (fun _ h9 => h9) rfl dX9_swap_49 ?_
      refine lv_iload_n hx hb dX9_swap_52 rfl (lv_at hl 2 rfl) ?_
      refine t_aload_n hx hb dX9_swap_53 rfl (lv_at hl 0 rfl) ?_
      obtain ⟨x8, ex8, h⟩ := ob_some h
      refine gk_v (run_V (rest := []) hx hb hml hown hts hK hP hD hS hA hm (C_Ro_writeSlot l G D K H.size ga n x7 a1 x5 ex8) _ (full_C _) (full_n _ List.nodup_range) mok_yX4_writeSlot w_766 w_355 w_356 (rcv hK hP 1 go_1 rfl rfl) ⟨Nat.le_of_ble_eq_true rfl, Nat.le_of_ble_eq_true rfl⟩ rfl hl.1 rfl (Nat.le_of_ble_eq_true rfl) dX9_swap_54 ⟨(Nat.le_of_ble_eq_true rfl), (Nat.le_of_ble_eq_true rfl)⟩) hP hD hS hA (fun u H locs (hP : va_P D cl (wld ga n (K 0) (K 1) x8) H) (hD : va_D A (wld ga n (K 0) (K 1) x8)) hS => ?_)
      refine t_aload_n hx hb dX9_swap_57 rfl (lv_at hl 0 rfl) ?_
      obtain ⟨x9, ex9, h⟩ := ob_some h
      refine gk_i (run_S (rest := []) hx hb hml hown hts hK hP hD hS hA hm (C_X_numberOf l G D K H.size ga n x8 x5 ex9) _ (full_C _) (full_n _ List.nodup_range) mok_yX9_numberOf w_804 w_805 ⟨Nat.le_of_ble_eq_true rfl, Nat.le_of_ble_eq_true rfl⟩ rfl hl.1 rfl (Nat.le_of_ble_eq_true rfl) dX9_swap_58 ⟨(Nat.le_of_ble_eq_true rfl), (Nat.le_of_ble_eq_true rfl)⟩) hP hD hS hA (fun u H locs (hP : va_P D cl (wld ga n (K 0) (K 1) x8) H) (hD : va_D A (wld ga n (K 0) (K 1) x8)) hS => ?_)
      obtain rfl := Option.some.inj h
      exact e_i hx hb hr hlk hP hD hS (fun _ => 0) rfl (Nat.le_of_ble_eq_true rfl) (Nat.le_of_ble_eq_true rfl) rfl dX9_swap_61
    · replace h := it_F h c4
      cases h
def f_X_hash (n : Nat) (M : cSt) (a1 : Int) : Option (cSt × Int) := ob (f_X_requireSlot n M a1) (fun x1 => ob (f_X_occupant n M a1) (fun x2 => on x2 none (fun q3 => og (q3 < n) (og (inR (gT M q3 8)) (if gT M q3 8 = (-1) then ob (f_Th_giveHash n M q3 (gI M 0)) (fun x6 => some (sI x6 0 (gI x6 0 + 1), gT (sI x6 0 (gI x6 0 + 1)) q3 8)) else some (M, gT M q3 8))))))
set_option maxHeartbeats 4000000 in
set_option maxRecDepth 100000 in
theorem C_X_hash (l : Launch) (G : Nat → Nat) (D : va_G) (K : Nat → ClassId) (sz : Nat) (ga : Nat → Nat) (n : Nat) (M : cSt) (a1 : Int) {x : cSt × Int} (h : f_X_hash n M a1 = some x) : CM l yX9_hash cX9_hash 3 (some FieldType.int) ({ frames := 3, cells := 0, slots := 0, locals := 65 } : Room) G D K [.ref (ga 0), .int (iI a1)] (wld ga n (K 0) (K 1) M) sz (CQi (iI x.2) D (fun _ => wld ga n (K 0) (K 1) x.1)) := by
  refine CM_of (lv0 := [(0, .ref (ga 0)), (1, .int (iI a1))]) pn_RX9 (Nat.le_of_ble_eq_true rfl) rfl (fun p e s m args below meth c A ls hx hb hr hml hown hts hlk hnm hP hK hD hS hA hm hl => ?_)
  have hown : s.vm.findClass RX9 = some m.cls := hown
  unfold f_X_hash at h
  refine lv_iload_n hx hb dX9_hash_0 rfl (lv_at hl 1 rfl) ?_
  obtain ⟨x1, ex1, h⟩ := ob_some h
  refine gk_v (run_S (rest := []) hx hb hml hown hts hK hP hD hS hA hm (C_X_requireSlot l G D K s.heap.size ga n M a1 ex1) _ (full_C _) (full_n _ List.nodup_range) mok_yX9_requireSlot w_366 w_367 ⟨Nat.le_of_ble_eq_true rfl, Nat.le_of_ble_eq_true rfl⟩ rfl hl.1 rfl (Nat.le_of_ble_eq_true rfl) dX9_hash_1 ⟨(Nat.le_of_ble_eq_true rfl), (Nat.le_of_ble_eq_true rfl)⟩) hP hD hS hA (fun u H locs (hP : va_P D cl (wld ga n (K 0) (K 1) M) H) (hD : va_D A (wld ga n (K 0) (K 1) M)) hS => ?_)
  refine lv_aload_n hx hb dX9_hash_4 rfl (lv_at hl 0 rfl) ?_
  refine lv_iload_n hx hb dX9_hash_5 rfl (lv_at hl 1 rfl) ?_
  obtain ⟨x2, ex2, h⟩ := ob_some h
  refine gk_q (run_V (rest := []) hx hb hml hown hts hK hP hD hS hA hm (C_X_occupant l G D K H.size ga n M a1 ex2) _ (full_C _) (full_n _ List.nodup_range) mok_yX9_occupant w_774 w_776 w_p21 (rcv hK hP 0 go_0 rfl rfl) ⟨Nat.le_of_ble_eq_true rfl, Nat.le_of_ble_eq_true rfl⟩ rfl hl.1 rfl (Nat.le_of_ble_eq_true rfl) dX9_hash_6 ⟨(Nat.le_of_ble_eq_true rfl), (Nat.le_of_ble_eq_true rfl)⟩) hP hD hS hA (fun u H locs (hP : va_P D cl (wld ga n (K 0) (K 1) M) H) (hD : va_D A (wld ga n (K 0) (K 1) M)) hS => ?_)
  refine w_tov (y := ctv ga x2) rfl ?_
  refine t_astore_n hx hb dX9_hash_9 rfl hl (by decide) [0, 1] (lv' := [(0, .ref (ga 0)), (1, .int (iI a1))]) rfl (⟨⟨Nat.ne_of_beq_eq_false rfl, Or.inl (Nat.ne_of_beq_eq_false rfl)⟩, ⟨⟨Nat.ne_of_beq_eq_false rfl, Or.inr rfl⟩, trivial⟩⟩) (fun ls hl => ?_)
  refine t_aload_n hx hb dX9_hash_10 rfl (lv_at hl 0 rfl) ?_
  rcases on_cases h with ⟨z3, h⟩ | ⟨q3, z3, h⟩
  · cases h
  · obtain ⟨hq3, h⟩ := og_some h
    rw [ctv_some ga z3]
    refine r_get hx hb hts ok_RX7 hown hK hP (25 + 2 * q3) (go_th hq3) rfl 8 (by decide) w_710 (fun _ h9 => h9) rfl dX9_hash_11 ?_
    refine lv_iconst (v := iI (-1)) hx hb dX9_hash_14 rfl ?_
    obtain ⟨g4, h⟩ := og_some h
    by_cases c5 : gT M q3 8 = (-1)
    · replace h := it_T h c5
      refine i_icmp_ne_F hx hb g4 ⟨by decide, by decide⟩ (tgt := 36) dX9_hash_15 (by decide) c5 ?_
      refine t_aload_n hx hb dX9_hash_18 rfl (lv_at hl 0 rfl) ?_
      rw [ctv_some ga z3]
      refine lv_aload_n hx hb dX9_hash_19 rfl (lv_at hl 1 rfl) ?_
      refine r_get hx hb hts ok_RX9 hown hK hP 0 go_0 rfl 8 (by decide) w_245 (fun _ h9 => h9) rfl dX9_hash_20 ?_
      obtain ⟨x6, ex6, h⟩ := ob_some h
      refine gk_v (run_V (rest := []) hx hb hml hown hts hK hP hD hS hA hm (C_Th_giveHash l G D K H.size ga n M q3 hq3 (gI M 0) ex6) _ (full_C _) (full_n _ List.nodup_range) mok_yX7_giveHash w_825 w_826 w_827 (rcv hK hP (25 + 2 * q3) (go_th hq3) rfl rfl) ⟨Nat.le_of_ble_eq_true rfl, Nat.le_of_ble_eq_true rfl⟩ rfl hl.1 rfl (Nat.le_of_ble_eq_true rfl) dX9_hash_23 ⟨(Nat.le_of_ble_eq_true rfl), (Nat.le_of_ble_eq_true rfl)⟩) hP hD hS hA (fun u H locs (hP : va_P D cl (wld ga n (K 0) (K 1) x6) H) (hD : va_D A (wld ga n (K 0) (K 1) x6)) hS => ?_)
      refine lv_aload_n hx hb dX9_hash_26 rfl (lv_at hl 1 rfl) ?_
      refine lv_dup hx hb dX9_hash_27 rfl ?_
      refine r_get hx hb hts ok_RX9 hown hK hP 0 go_0 rfl 8 (by decide) w_245 (fun _ h9 => h9) rfl dX9_hash_28 ?_
      refine lv_iconst (v := iI 1) hx hb dX9_hash_31 rfl ?_
      refine lv_iadd hx hb dX9_hash_32 ?_
      refine w_toeq (iI_add (gI x6 0) 1) ?_
      refine r_put hx hb hts ok_RX9 hown hK hP hD hS 0 go_0 rfl 8 (by decide) w_245 (fun _ h9 => h9) rfl (v := .int (iI (gI x6 0 + 1))) rfl rfl (Nat.le_of_ble_eq_true rfl) dX9_hash_33 (ws' := wld ga n (K 0) (K 1) (sI x6 0 (gI x6 0 + 1))) wI_0 (fun H locs hP hD hS => ?_)
      refine t_aload_n hx hb dX9_hash_36 rfl (lv_at hl 0 rfl) ?_
      rw [ctv_some ga z3]
      refine r_get hx hb hts ok_RX7 hown hK hP (25 + 2 * q3) (go_th hq3) rfl 8 (by decide) w_710 (fun _ h9 => h9) rfl dX9_hash_37 ?_
      obtain rfl := Option.some.inj h
      exact e_i hx hb hr hlk hP hD hS (fun _ => 0) rfl (Nat.le_of_ble_eq_true rfl) (Nat.le_of_ble_eq_true rfl) rfl dX9_hash_40
    · replace h := it_F h c5
      refine i_icmp_ne_T hx hb g4 ⟨by decide, by decide⟩ (tgt := 36) dX9_hash_15 (by decide) c5 ?_
      refine t_aload_n hx hb dX9_hash_36 rfl (lv_at hl 0 rfl) ?_
      rw [ctv_some ga z3]
      refine r_get hx hb hts ok_RX7 hown hK hP (25 + 2 * q3) (go_th hq3) rfl 8 (by decide) w_710 (fun _ h9 => h9) rfl dX9_hash_37 ?_
      obtain rfl := Option.some.inj h
      exact e_i hx hb hr hlk hP hD hS (fun _ => 0) rfl (Nat.le_of_ble_eq_true rfl) (Nat.le_of_ble_eq_true rfl) rfl dX9_hash_40
def f_X_pin (n : Nat) (M : cSt) (a1 : Int) : Option (cSt × Int) := ob (f_X_requireSlot n M a1) (fun x1 => ob (f_X_occupant n M a1) (fun x2 => on x2 none (fun q3 => og (q3 < n) (og (inR (gT M q3 9)) (if gT M q3 9 = 0 then ob (f_Row_pinned n M 0) (fun x6 => og (inR x6) (if x6 < 4 then og (inR (gT M q3 3)) (if gT M q3 3 = 1 then ob (f_Pl_oldRoom n M) (fun x11 => og (inR x11) (og (inR (gT M q3 6)) (if x11 < gT M q3 6 then some (M, 0) else ob (f_Pl_moveOutOfYoung n M (some q3)) (fun x15 => some (sT x15 q3 9 1, 1))))) else some (sT M q3 9 1, 1)) else none)) else og (inR (gT M q3 3)) (if gT M q3 3 = 1 then ob (f_Pl_oldRoom n M) (fun x18 => og (inR x18) (og (inR (gT M q3 6)) (if x18 < gT M q3 6 then some (M, 0) else ob (f_Pl_moveOutOfYoung n M (some q3)) (fun x22 => some (sT x22 q3 9 1, 1))))) else some (sT M q3 9 1, 1)))))))
set_option maxHeartbeats 4000000 in
set_option maxRecDepth 100000 in
theorem C_X_pin (l : Launch) (G : Nat → Nat) (D : va_G) (K : Nat → ClassId) (sz : Nat) (ga : Nat → Nat) (n : Nat) (M : cSt) (a1 : Int) {x : cSt × Int} (h : f_X_pin n M a1 = some x) : CM l yX9_pin cX9_pin 3 (some FieldType.boolean) ({ frames := 3, cells := 0, slots := 0, locals := 66 } : Room) G D K [.ref (ga 0), .int (iI a1)] (wld ga n (K 0) (K 1) M) sz (CQi (iI x.2) D (fun _ => wld ga n (K 0) (K 1) x.1)) := by
  refine CM_of (lv0 := [(0, .ref (ga 0)), (1, .int (iI a1))]) pn_RX9 (Nat.le_of_ble_eq_true rfl) rfl (fun p e s m args below meth c A ls hx hb hr hml hown hts hlk hnm hP hK hD hS hA hm hl => ?_)
  have hown : s.vm.findClass RX9 = some m.cls := hown
  unfold f_X_pin at h
  refine lv_iload_n hx hb dX9_pin_0 rfl (lv_at hl 1 rfl) ?_
  obtain ⟨x1, ex1, h⟩ := ob_some h
  refine gk_v (run_S (rest := []) hx hb hml hown hts hK hP hD hS hA hm (C_X_requireSlot l G D K s.heap.size ga n M a1 ex1) _ (full_C _) (full_n _ List.nodup_range) mok_yX9_requireSlot w_366 w_367 ⟨Nat.le_of_ble_eq_true rfl, Nat.le_of_ble_eq_true rfl⟩ rfl hl.1 rfl (Nat.le_of_ble_eq_true rfl) dX9_pin_1 ⟨(Nat.le_of_ble_eq_true rfl), (Nat.le_of_ble_eq_true rfl)⟩) hP hD hS hA (fun u H locs (hP : va_P D cl (wld ga n (K 0) (K 1) M) H) (hD : va_D A (wld ga n (K 0) (K 1) M)) hS => ?_)
  refine lv_aload_n hx hb dX9_pin_4 rfl (lv_at hl 0 rfl) ?_
  refine lv_iload_n hx hb dX9_pin_5 rfl (lv_at hl 1 rfl) ?_
  obtain ⟨x2, ex2, h⟩ := ob_some h
  refine gk_q (run_V (rest := []) hx hb hml hown hts hK hP hD hS hA hm (C_X_occupant l G D K H.size ga n M a1 ex2) _ (full_C _) (full_n _ List.nodup_range) mok_yX9_occupant w_774 w_776 w_p21 (rcv hK hP 0 go_0 rfl rfl) ⟨Nat.le_of_ble_eq_true rfl, Nat.le_of_ble_eq_true rfl⟩ rfl hl.1 rfl (Nat.le_of_ble_eq_true rfl) dX9_pin_6 ⟨(Nat.le_of_ble_eq_true rfl), (Nat.le_of_ble_eq_true rfl)⟩) hP hD hS hA (fun u H locs (hP : va_P D cl (wld ga n (K 0) (K 1) M) H) (hD : va_D A (wld ga n (K 0) (K 1) M)) hS => ?_)
  refine w_tov (y := ctv ga x2) rfl ?_
  refine t_astore_n hx hb dX9_pin_9 rfl hl (by decide) [0, 1] (lv' := [(0, .ref (ga 0)), (1, .int (iI a1))]) rfl (⟨⟨Nat.ne_of_beq_eq_false rfl, Or.inl (Nat.ne_of_beq_eq_false rfl)⟩, ⟨⟨Nat.ne_of_beq_eq_false rfl, Or.inr rfl⟩, trivial⟩⟩) (fun ls hl => ?_)
  refine t_aload_n hx hb dX9_pin_10 rfl (lv_at hl 0 rfl) ?_
  rcases on_cases h with ⟨z3, h⟩ | ⟨q3, z3, h⟩
  · cases h
  · obtain ⟨hq3, h⟩ := og_some h
    rw [ctv_some ga z3]
    refine r_get hx hb hts ok_RX7 hown hK hP (25 + 2 * q3) (go_th hq3) rfl 9 (by decide) w_712 (fun _ h9 => h9) rfl dX9_pin_11 ?_
    obtain ⟨g4, h⟩ := og_some h
    by_cases c5 : gT M q3 9 = 0
    · replace h := it_T h c5
      refine i_if_ne_F hx hb g4 (tgt := 38) dX9_pin_14 (by decide) c5 ?_
      refine lv_aload_n hx hb dX9_pin_17 rfl (lv_at hl 1 rfl) ?_
      refine r_get hx hb hts ok_RX9 hown hK hP 0 go_0 rfl 0 (by decide) w_237 (fun _ h9 => h9) rfl dX9_pin_18 ?_
      obtain ⟨x6, ex6, h⟩ := ob_some h
      refine gk_i (run_V (rest := []) hx hb hml hown hts hK hP hD hS hA hm (C_Row_pinned l G D K H.size ga n M 0 (by decide) ex6) _ (full_C _) (full_n _ List.nodup_range) mok_yX5_pinned w_833 w_834 w_835 (rcv hK hP (8 + 0) (go_ro (by decide)) rfl rfl) ⟨Nat.le_of_ble_eq_true rfl, Nat.le_of_ble_eq_true rfl⟩ rfl hl.1 rfl (Nat.le_of_ble_eq_true rfl) dX9_pin_21 ⟨(Nat.le_of_ble_eq_true rfl), (Nat.le_of_ble_eq_true rfl)⟩) hP hD hS hA (fun u H locs (hP : va_P D cl (wld ga n (K 0) (K 1) M) H) (hD : va_D A (wld ga n (K 0) (K 1) M)) hS => ?_)
      refine lv_iconst (v := iI 4) hx hb dX9_pin_24 rfl ?_
      obtain ⟨g7, h⟩ := og_some h
      by_cases c8 : x6 < 4
      · replace h := it_T h c8
        refine i_icmp_lt_T hx hb g7 ⟨by decide, by decide⟩ (tgt := 38) dX9_pin_25 (by decide) c8 ?_
        refine t_aload_n hx hb dX9_pin_38 rfl (lv_at hl 0 rfl) ?_
        rw [ctv_some ga z3]
        refine r_get hx hb hts ok_RX7 hown hK hP (25 + 2 * q3) (go_th hq3) rfl 3 (by decide) w_691 (fun _ h9 => h9) rfl dX9_pin_39 ?_
        refine lv_iconst (v := iI 1) hx hb dX9_pin_42 rfl ?_
        obtain ⟨g9, h⟩ := og_some h
        by_cases c10 : gT M q3 3 = 1
        · replace h := it_T h c10
          refine i_icmp_ne_F hx hb g9 ⟨by decide, by decide⟩ (tgt := 70) dX9_pin_43 (by decide) c10 ?_
          refine lv_aload_n hx hb dX9_pin_46 rfl (lv_at hl 1 rfl) ?_
          refine r_get hx hb hts ok_RX9 hown hK hP 0 go_0 rfl 2 (by decide) w_239 (fun _ h9 => h9) rfl dX9_pin_47 ?_
          obtain ⟨x11, ex11, h⟩ := ob_some h
          refine gk_i (run_V (rest := []) hx hb hml hown hts hK hP hD hS hA hm (C_Pl_oldRoom l G D K H.size ga n M ex11) _ (full_C _) (full_n _ List.nodup_range) mok_yX3_oldRoom w_838 w_435 w_436 (rcv hK hP 2 go_2 rfl rfl) ⟨Nat.le_of_ble_eq_true rfl, Nat.le_of_ble_eq_true rfl⟩ rfl hl.1 rfl (Nat.le_of_ble_eq_true rfl) dX9_pin_50 ⟨(Nat.le_of_ble_eq_true rfl), (Nat.le_of_ble_eq_true rfl)⟩) hP hD hS hA (fun u H locs (hP : va_P D cl (wld ga n (K 0) (K 1) M) H) (hD : va_D A (wld ga n (K 0) (K 1) M)) hS => ?_)
          refine t_aload_n hx hb dX9_pin_53 rfl (lv_at hl 0 rfl) ?_
          rw [ctv_some ga z3]
          refine r_get hx hb hts ok_RX7 hown hK hP (25 + 2 * q3) (go_th hq3) rfl 6 (by decide) w_706 (fun _ h9 => h9) rfl dX9_pin_54 ?_
          obtain ⟨g12, h⟩ := og_some h
          obtain ⟨g13, h⟩ := og_some h
          by_cases c14 : x11 < gT M q3 6
          · replace h := it_T h c14
            refine i_icmp_ge_F hx hb g12 g13 (tgt := 62) dX9_pin_57 (by decide) c14 ?_
            refine lv_iconst (v := iI 0) hx hb dX9_pin_60 rfl ?_
            obtain rfl := Option.some.inj h
            exact e_z hx hb hr hlk hP hD hS (fun _ => 0) rfl (Nat.le_of_ble_eq_true rfl) (Nat.le_of_ble_eq_true rfl) rfl (b01 (Or.inl rfl)) dX9_pin_61
          · replace h := it_F h c14
            refine i_icmp_ge_T hx hb g12 g13 (tgt := 62) dX9_pin_57 (by decide) c14 ?_
            refine lv_aload_n hx hb dX9_pin_62 rfl (lv_at hl 1 rfl) ?_
            refine r_get hx hb hts ok_RX9 hown hK hP 0 go_0 rfl 2 (by decide) w_239 (fun _ h9 => h9) rfl dX9_pin_63 ?_
            refine t_aload_n hx hb dX9_pin_66 rfl (lv_at hl 0 rfl) ?_
            rw [ctv_some ga z3]
            obtain ⟨x15, ex15, h⟩ := ob_some h
            refine gk_v (run_V (rest := []) hx hb hml hown hts hK hP hD hS hA hm (C_Pl_moveOutOfYoung l G D K H.size ga n M (some q3) ex15) _ (full_C _) (full_n _ List.nodup_range) mok_yX3_moveOutOfYoung w_839 w_840 w_841 (rcv hK hP 2 go_2 rfl rfl) ⟨Nat.le_of_ble_eq_true rfl, Nat.le_of_ble_eq_true rfl⟩ rfl hl.1 rfl (Nat.le_of_ble_eq_true rfl) dX9_pin_67 ⟨(Nat.le_of_ble_eq_true rfl), (Nat.le_of_ble_eq_true rfl)⟩) hP hD hS hA (fun u H locs (hP : va_P D cl (wld ga n (K 0) (K 1) x15) H) (hD : va_D A (wld ga n (K 0) (K 1) x15)) hS => ?_)
            refine t_aload_n hx hb dX9_pin_70 rfl (lv_at hl 0 rfl) ?_
            rw [ctv_some ga z3]
            refine lv_iconst (v := iI 1) hx hb dX9_pin_71 rfl ?_
            refine r_put hx hb hts ok_RX7 hown hK hP hD hS (25 + 2 * q3) (go_th hq3) rfl 9 (by decide) w_712 (fun _ h9 => h9) rfl (v := .int (iI 1)) (nar_b (Or.inr rfl)) (fit_b (Or.inr rfl)) (Nat.le_of_ble_eq_true rfl) dX9_pin_72 (ws' := wld ga n (K 0) (K 1) (sT x15 q3 9 1)) wT_9 (fun H locs hP hD hS => ?_)
            refine lv_iconst (v := iI 1) hx hb dX9_pin_75 rfl ?_
            obtain rfl := Option.some.inj h
            exact e_z hx hb hr hlk hP hD hS (fun _ => 0) rfl (Nat.le_of_ble_eq_true rfl) (Nat.le_of_ble_eq_true rfl) rfl (b01 (Or.inr rfl)) dX9_pin_76
        · replace h := it_F h c10
          refine i_icmp_ne_T hx hb g9 ⟨by decide, by decide⟩ (tgt := 70) dX9_pin_43 (by decide) c10 ?_
          refine t_aload_n hx hb dX9_pin_70 rfl (lv_at hl 0 rfl) ?_
          rw [ctv_some ga z3]
          refine lv_iconst (v := iI 1) hx hb dX9_pin_71 rfl ?_
          refine r_put hx hb hts ok_RX7 hown hK hP hD hS (25 + 2 * q3) (go_th hq3) rfl 9 (by decide) w_712 (fun _ h9 => h9) rfl (v := .int (iI 1)) (nar_b (Or.inr rfl)) (fit_b (Or.inr rfl)) (Nat.le_of_ble_eq_true rfl) dX9_pin_72 (ws' := wld ga n (K 0) (K 1) (sT M q3 9 1)) wT_9 (fun H locs hP hD hS => ?_)
          refine lv_iconst (v := iI 1) hx hb dX9_pin_75 rfl ?_
          obtain rfl := Option.some.inj h
          exact e_z hx hb hr hlk hP hD hS (fun _ => 0) rfl (Nat.le_of_ble_eq_true rfl) (Nat.le_of_ble_eq_true rfl) rfl (b01 (Or.inr rfl)) dX9_pin_76
      · replace h := it_F h c8
        cases h
    · replace h := it_F h c5
      refine i_if_ne_T hx hb g4 (tgt := 38) dX9_pin_14 (by decide) c5 ?_
      refine t_aload_n hx hb dX9_pin_38 rfl (lv_at hl 0 rfl) ?_
      rw [ctv_some ga z3]
      refine r_get hx hb hts ok_RX7 hown hK hP (25 + 2 * q3) (go_th hq3) rfl 3 (by decide) w_691 (fun _ h9 => h9) rfl dX9_pin_39 ?_
      refine lv_iconst (v := iI 1) hx hb dX9_pin_42 rfl ?_
      obtain ⟨g16, h⟩ := og_some h
      by_cases c17 : gT M q3 3 = 1
      · replace h := it_T h c17
        refine i_icmp_ne_F hx hb g16 ⟨by decide, by decide⟩ (tgt := 70) dX9_pin_43 (by decide) c17 ?_
        refine lv_aload_n hx hb dX9_pin_46 rfl (lv_at hl 1 rfl) ?_
        refine r_get hx hb hts ok_RX9 hown hK hP 0 go_0 rfl 2 (by decide) w_239 (fun _ h9 => h9) rfl dX9_pin_47 ?_
        obtain ⟨x18, ex18, h⟩ := ob_some h
        refine gk_i (run_V (rest := []) hx hb hml hown hts hK hP hD hS hA hm (C_Pl_oldRoom l G D K H.size ga n M ex18) _ (full_C _) (full_n _ List.nodup_range) mok_yX3_oldRoom w_838 w_435 w_436 (rcv hK hP 2 go_2 rfl rfl) ⟨Nat.le_of_ble_eq_true rfl, Nat.le_of_ble_eq_true rfl⟩ rfl hl.1 rfl (Nat.le_of_ble_eq_true rfl) dX9_pin_50 ⟨(Nat.le_of_ble_eq_true rfl), (Nat.le_of_ble_eq_true rfl)⟩) hP hD hS hA (fun u H locs (hP : va_P D cl (wld ga n (K 0) (K 1) M) H) (hD : va_D A (wld ga n (K 0) (K 1) M)) hS => ?_)
        refine t_aload_n hx hb dX9_pin_53 rfl (lv_at hl 0 rfl) ?_
        rw [ctv_some ga z3]
        refine r_get hx hb hts ok_RX7 hown hK hP (25 + 2 * q3) (go_th hq3) rfl 6 (by decide) w_706 (fun _ h9 => h9) rfl dX9_pin_54 ?_
        obtain ⟨g19, h⟩ := og_some h
        obtain ⟨g20, h⟩ := og_some h
        by_cases c21 : x18 < gT M q3 6
        · replace h := it_T h c21
          refine i_icmp_ge_F hx hb g19 g20 (tgt := 62) dX9_pin_57 (by decide) c21 ?_
          refine lv_iconst (v := iI 0) hx hb dX9_pin_60 rfl ?_
          obtain rfl := Option.some.inj h
          exact e_z hx hb hr hlk hP hD hS (fun _ => 0) rfl (Nat.le_of_ble_eq_true rfl) (Nat.le_of_ble_eq_true rfl) rfl (b01 (Or.inl rfl)) dX9_pin_61
        · replace h := it_F h c21
          refine i_icmp_ge_T hx hb g19 g20 (tgt := 62) dX9_pin_57 (by decide) c21 ?_
          refine lv_aload_n hx hb dX9_pin_62 rfl (lv_at hl 1 rfl) ?_
          refine r_get hx hb hts ok_RX9 hown hK hP 0 go_0 rfl 2 (by decide) w_239 (fun _ h9 => h9) rfl dX9_pin_63 ?_
          refine t_aload_n hx hb dX9_pin_66 rfl (lv_at hl 0 rfl) ?_
          rw [ctv_some ga z3]
          obtain ⟨x22, ex22, h⟩ := ob_some h
          refine gk_v (run_V (rest := []) hx hb hml hown hts hK hP hD hS hA hm (C_Pl_moveOutOfYoung l G D K H.size ga n M (some q3) ex22) _ (full_C _) (full_n _ List.nodup_range) mok_yX3_moveOutOfYoung w_839 w_840 w_841 (rcv hK hP 2 go_2 rfl rfl) ⟨Nat.le_of_ble_eq_true rfl, Nat.le_of_ble_eq_true rfl⟩ rfl hl.1 rfl (Nat.le_of_ble_eq_true rfl) dX9_pin_67 ⟨(Nat.le_of_ble_eq_true rfl), (Nat.le_of_ble_eq_true rfl)⟩) hP hD hS hA (fun u H locs (hP : va_P D cl (wld ga n (K 0) (K 1) x22) H) (hD : va_D A (wld ga n (K 0) (K 1) x22)) hS => ?_)
          refine t_aload_n hx hb dX9_pin_70 rfl (lv_at hl 0 rfl) ?_
          rw [ctv_some ga z3]
          refine lv_iconst (v := iI 1) hx hb dX9_pin_71 rfl ?_
          refine r_put hx hb hts ok_RX7 hown hK hP hD hS (25 + 2 * q3) (go_th hq3) rfl 9 (by decide) w_712 (fun _ h9 => h9) rfl (v := .int (iI 1)) (nar_b (Or.inr rfl)) (fit_b (Or.inr rfl)) (Nat.le_of_ble_eq_true rfl) dX9_pin_72 (ws' := wld ga n (K 0) (K 1) (sT x22 q3 9 1)) wT_9 (fun H locs hP hD hS => ?_)
          refine lv_iconst (v := iI 1) hx hb dX9_pin_75 rfl ?_
          obtain rfl := Option.some.inj h
          exact e_z hx hb hr hlk hP hD hS (fun _ => 0) rfl (Nat.le_of_ble_eq_true rfl) (Nat.le_of_ble_eq_true rfl) rfl (b01 (Or.inr rfl)) dX9_pin_76
      · replace h := it_F h c17
        refine i_icmp_ne_T hx hb g16 ⟨by decide, by decide⟩ (tgt := 70) dX9_pin_43 (by decide) c17 ?_
        refine t_aload_n hx hb dX9_pin_70 rfl (lv_at hl 0 rfl) ?_
        rw [ctv_some ga z3]
        refine lv_iconst (v := iI 1) hx hb dX9_pin_71 rfl ?_
        refine r_put hx hb hts ok_RX7 hown hK hP hD hS (25 + 2 * q3) (go_th hq3) rfl 9 (by decide) w_712 (fun _ h9 => h9) rfl (v := .int (iI 1)) (nar_b (Or.inr rfl)) (fit_b (Or.inr rfl)) (Nat.le_of_ble_eq_true rfl) dX9_pin_72 (ws' := wld ga n (K 0) (K 1) (sT M q3 9 1)) wT_9 (fun H locs hP hD hS => ?_)
        refine lv_iconst (v := iI 1) hx hb dX9_pin_75 rfl ?_
        obtain rfl := Option.some.inj h
        exact e_z hx hb hr hlk hP hD hS (fun _ => 0) rfl (Nat.le_of_ble_eq_true rfl) (Nat.le_of_ble_eq_true rfl) rfl (b01 (Or.inr rfl)) dX9_pin_76
def f_X_at (n : Nat) (M : cSt) (a1 : Int) : Option (Int) := ob (f_X_requireSlot n M a1) (fun x1 => ob (f_Ro_readSlot n M a1) (fun x2 => ob (f_X_numberOf n M x2) (fun x3 => some x3)))
set_option maxHeartbeats 4000000 in
set_option maxRecDepth 100000 in
theorem C_X_at (l : Launch) (G : Nat → Nat) (D : va_G) (K : Nat → ClassId) (sz : Nat) (ga : Nat → Nat) (n : Nat) (M : cSt) (a1 : Int) {x : Int} (h : f_X_at n M a1 = some x) : CM l yX9_at cX9_at 2 (some FieldType.int) ({ frames := 2, cells := 0, slots := 0, locals := 43 } : Room) G D K [.ref (ga 0), .int (iI a1)] (wld ga n (K 0) (K 1) M) sz (CQi (iI x) D (fun _ => wld ga n (K 0) (K 1) M)) := by
  refine CM_of (lv0 := [(0, .ref (ga 0)), (1, .int (iI a1))]) pn_RX9 (Nat.le_of_ble_eq_true rfl) rfl (fun p e s m args below meth c A ls hx hb hr hml hown hts hlk hnm hP hK hD hS hA hm hl => ?_)
  have hown : s.vm.findClass RX9 = some m.cls := hown
  unfold f_X_at at h
  refine lv_iload_n hx hb dX9_at_0 rfl (lv_at hl 1 rfl) ?_
  obtain ⟨x1, ex1, h⟩ := ob_some h
  refine gk_v (run_S (rest := []) hx hb hml hown hts hK hP hD hS hA hm (C_X_requireSlot l G D K s.heap.size ga n M a1 ex1) _ (full_C _) (full_n _ List.nodup_range) mok_yX9_requireSlot w_366 w_367 ⟨Nat.le_of_ble_eq_true rfl, Nat.le_of_ble_eq_true rfl⟩ rfl hl.1 rfl (Nat.le_of_ble_eq_true rfl) dX9_at_1 ⟨(Nat.le_of_ble_eq_true rfl), (Nat.le_of_ble_eq_true rfl)⟩) hP hD hS hA (fun u H locs (hP : va_P D cl (wld ga n (K 0) (K 1) M) H) (hD : va_D A (wld ga n (K 0) (K 1) M)) hS => ?_)
  refine lv_aload_n hx hb dX9_at_4 rfl (lv_at hl 0 rfl) ?_
  refine r_get hx hb hts ok_RX9 hown hK hP 0 go_0 rfl 1 (by decide) w_238 (fun _ h9 => h9) rfl dX9_at_5 ?_
  refine lv_iload_n hx hb dX9_at_8 rfl (lv_at hl 1 rfl) ?_
  obtain ⟨x2, ex2, h⟩ := ob_some h
  refine gk_q (run_V (rest := []) hx hb hml hown hts hK hP hD hS hA hm (C_Ro_readSlot l G D K H.size ga n M a1 ex2) _ (full_C _) (full_n _ List.nodup_range) mok_yX4_readSlot w_778 w_779 w_780 (rcv hK hP 1 go_1 rfl rfl) ⟨Nat.le_of_ble_eq_true rfl, Nat.le_of_ble_eq_true rfl⟩ rfl hl.1 rfl (Nat.le_of_ble_eq_true rfl) dX9_at_9 ⟨(Nat.le_of_ble_eq_true rfl), (Nat.le_of_ble_eq_true rfl)⟩) hP hD hS hA (fun u H locs (hP : va_P D cl (wld ga n (K 0) (K 1) M) H) (hD : va_D A (wld ga n (K 0) (K 1) M)) hS => ?_)
  refine w_tov (y := ctv ga x2) rfl ?_
  obtain ⟨x3, ex3, h⟩ := ob_some h
  refine gk_i (run_S (rest := []) hx hb hml hown hts hK hP hD hS hA hm (C_X_numberOf l G D K H.size ga n M x2 ex3) _ (full_C _) (full_n _ List.nodup_range) mok_yX9_numberOf w_804 w_805 ⟨Nat.le_of_ble_eq_true rfl, Nat.le_of_ble_eq_true rfl⟩ rfl hl.1 rfl (Nat.le_of_ble_eq_true rfl) dX9_at_12 ⟨(Nat.le_of_ble_eq_true rfl), (Nat.le_of_ble_eq_true rfl)⟩) hP hD hS hA (fun u H locs (hP : va_P D cl (wld ga n (K 0) (K 1) M) H) (hD : va_D A (wld ga n (K 0) (K 1) M)) hS => ?_)
  obtain rfl := Option.some.inj h
  exact e_i hx hb hr hlk hP hD hS (fun _ => 0) rfl (Nat.le_of_ble_eq_true rfl) (Nat.le_of_ble_eq_true rfl) rfl dX9_at_15
def f_X_field (n : Nat) (M : cSt) (a1 : Int) (a2 : Int) : Option (Int) := ob (f_X_madeAs n M a1) (fun x1 => ob (f_X_requireField n M x1 a2) (fun x2 => on x1 none (fun q3 => og (q3 < n) (ob (f_Th_read n M q3 a2) (fun x4 => ob (f_X_numberOf n M x4) (fun x5 => some x5))))))
set_option maxHeartbeats 4000000 in
set_option maxRecDepth 100000 in
theorem C_X_field (l : Launch) (G : Nat → Nat) (D : va_G) (K : Nat → ClassId) (sz : Nat) (ga : Nat → Nat) (n : Nat) (M : cSt) (a1 : Int) (a2 : Int) {x : Int} (h : f_X_field n M a1 a2 = some x) : CM l yX9_field cX9_field 4 (some FieldType.int) ({ frames := 2, cells := 0, slots := 0, locals := 43 } : Room) G D K [.ref (ga 0), .int (iI a1), .int (iI a2)] (wld ga n (K 0) (K 1) M) sz (CQi (iI x) D (fun _ => wld ga n (K 0) (K 1) M)) := by
  refine CM_of (lv0 := [(0, .ref (ga 0)), (1, .int (iI a1)), (2, .int (iI a2))]) pn_RX9 (Nat.le_of_ble_eq_true rfl) rfl (fun p e s m args below meth c A ls hx hb hr hml hown hts hlk hnm hP hK hD hS hA hm hl => ?_)
  have hown : s.vm.findClass RX9 = some m.cls := hown
  unfold f_X_field at h
  refine lv_aload_n hx hb dX9_field_0 rfl (lv_at hl 0 rfl) ?_
  refine lv_iload_n hx hb dX9_field_1 rfl (lv_at hl 1 rfl) ?_
  obtain ⟨x1, ex1, h⟩ := ob_some h
  refine gk_q (run_V (rest := []) hx hb hml hown hts hK hP hD hS hA hm (C_X_madeAs l G D K s.heap.size ga n M a1 ex1) _ (full_C _) (full_n _ List.nodup_range) mok_yX9_madeAs w_852 w_854 w_p22 (rcv hK hP 0 go_0 rfl rfl) ⟨Nat.le_of_ble_eq_true rfl, Nat.le_of_ble_eq_true rfl⟩ rfl hl.1 rfl (Nat.le_of_ble_eq_true rfl) dX9_field_2 ⟨(Nat.le_of_ble_eq_true rfl), (Nat.le_of_ble_eq_true rfl)⟩) hP hD hS hA (fun u H locs (hP : va_P D cl (wld ga n (K 0) (K 1) M) H) (hD : va_D A (wld ga n (K 0) (K 1) M)) hS => ?_)
  refine w_tov (y := ctv ga x1) rfl ?_
  refine t_astore_n hx hb dX9_field_5 rfl hl (by decide) [0, 1, 2] (lv' := [(0, .ref (ga 0)), (1, .int (iI a1)), (2, .int (iI a2))]) rfl (⟨⟨Nat.ne_of_beq_eq_false rfl, Or.inl (Nat.ne_of_beq_eq_false rfl)⟩, ⟨⟨Nat.ne_of_beq_eq_false rfl, Or.inl (Nat.ne_of_beq_eq_false rfl)⟩, ⟨⟨Nat.ne_of_beq_eq_false rfl, Or.inr rfl⟩, trivial⟩⟩⟩) (fun ls hl => ?_)
  refine t_aload_n hx hb dX9_field_6 rfl (lv_at hl 0 rfl) ?_
  refine lv_iload_n hx hb dX9_field_7 rfl (lv_at hl 3 rfl) ?_
  obtain ⟨x2, ex2, h⟩ := ob_some h
  refine gk_v (run_S (rest := []) hx hb hml hown hts hK hP hD hS hA hm (C_X_requireField l G D K H.size ga n M x1 a2 ex2) _ (full_C _) (full_n _ List.nodup_range) mok_yX9_requireField w_783 w_784 ⟨Nat.le_of_ble_eq_true rfl, Nat.le_of_ble_eq_true rfl⟩ rfl hl.1 rfl (Nat.le_of_ble_eq_true rfl) dX9_field_8 ⟨(Nat.le_of_ble_eq_true rfl), (Nat.le_of_ble_eq_true rfl)⟩) hP hD hS hA (fun u H locs (hP : va_P D cl (wld ga n (K 0) (K 1) M) H) (hD : va_D A (wld ga n (K 0) (K 1) M)) hS => ?_)
  refine t_aload_n hx hb dX9_field_11 rfl (lv_at hl 0 rfl) ?_
  refine lv_iload_n hx hb dX9_field_12 rfl (lv_at hl 3 rfl) ?_
  rcases on_cases h with ⟨z3, h⟩ | ⟨q3, z3, h⟩
  · cases h
  · obtain ⟨hq3, h⟩ := og_some h
    rw [ctv_some ga z3]
    obtain ⟨x4, ex4, h⟩ := ob_some h
    refine gk_q (run_V (rest := []) hx hb hml hown hts hK hP hD hS hA hm (C_Th_read l G D K H.size ga n M q3 hq3 a2 ex4) _ (full_C _) (full_n _ List.nodup_range) mok_yX7_read w_791 w_509 w_510 (rcv hK hP (25 + 2 * q3) (go_th hq3) rfl rfl) ⟨Nat.le_of_ble_eq_true rfl, Nat.le_of_ble_eq_true rfl⟩ rfl hl.1 rfl (Nat.le_of_ble_eq_true rfl) dX9_field_13 ⟨(Nat.le_of_ble_eq_true rfl), (Nat.le_of_ble_eq_true rfl)⟩) hP hD hS hA (fun u H locs (hP : va_P D cl (wld ga n (K 0) (K 1) M) H) (hD : va_D A (wld ga n (K 0) (K 1) M)) hS => ?_)
    refine w_tov (y := ctv ga x4) rfl ?_
    obtain ⟨x5, ex5, h⟩ := ob_some h
    refine gk_i (run_S (rest := []) hx hb hml hown hts hK hP hD hS hA hm (C_X_numberOf l G D K H.size ga n M x4 ex5) _ (full_C _) (full_n _ List.nodup_range) mok_yX9_numberOf w_804 w_805 ⟨Nat.le_of_ble_eq_true rfl, Nat.le_of_ble_eq_true rfl⟩ rfl hl.1 rfl (Nat.le_of_ble_eq_true rfl) dX9_field_16 ⟨(Nat.le_of_ble_eq_true rfl), (Nat.le_of_ble_eq_true rfl)⟩) hP hD hS hA (fun u H locs (hP : va_P D cl (wld ga n (K 0) (K 1) M) H) (hD : va_D A (wld ga n (K 0) (K 1) M)) hS => ?_)
    obtain rfl := Option.some.inj h
    exact e_i hx hb hr hlk hP hD hS (fun _ => 0) rfl (Nat.le_of_ble_eq_true rfl) (Nat.le_of_ble_eq_true rfl) rfl dX9_field_19
def f_X_ofObject (n : Nat) (M : cSt) (a1 : Int) (a2 : Int) : Option (Int) := ob (f_X_madeAs n M a1) (fun x1 => og (inR a2) (if a2 < 0 then none else if a2 < 8 then if a2 = 0 then on x1 none (fun q6 => og (q6 < n) (some (gT M q6 3))) else on x1 none (fun q7 => og (q7 < n) (og (inR (gT M q7 3)) (if gT M q7 3 = 0 then some (-1) else if a2 = 1 then some (gT M q7 4) else if a2 = 2 then some (gT M q7 5) else if a2 = 3 then some (gT M q7 7) else if a2 = 4 then some (gT M q7 8) else if a2 = 5 then og (inR (gT M q7 9)) (if gT M q7 9 = 0 then some 0 else some 1) else if a2 = 6 then ob (f_Mk_isOn n M) (fun x18 => og (inR x18) (if x18 = 0 then some (-1) else some (gT M q7 10))) else some (gT M q7 2)))) else none))
set_option maxHeartbeats 4000000 in
set_option maxRecDepth 100000 in
theorem C_X_ofObject (l : Launch) (G : Nat → Nat) (D : va_G) (K : Nat → ClassId) (sz : Nat) (ga : Nat → Nat) (n : Nat) (M : cSt) (a1 : Int) (a2 : Int) {x : Int} (h : f_X_ofObject n M a1 a2 = some x) : CM l yX9_ofObject cX9_ofObject 4 (some FieldType.int) ({ frames := 2, cells := 0, slots := 0, locals := 43 } : Room) G D K [.ref (ga 0), .int (iI a1), .int (iI a2)] (wld ga n (K 0) (K 1) M) sz (CQi (iI x) D (fun _ => wld ga n (K 0) (K 1) M)) := by
  refine CM_of (lv0 := [(0, .ref (ga 0)), (1, .int (iI a1)), (2, .int (iI a2))]) pn_RX9 (Nat.le_of_ble_eq_true rfl) rfl (fun p e s m args below meth c A ls hx hb hr hml hown hts hlk hnm hP hK hD hS hA hm hl => ?_)
  have hown : s.vm.findClass RX9 = some m.cls := hown
  unfold f_X_ofObject at h
  refine lv_aload_n hx hb dX9_ofObject_0 rfl (lv_at hl 0 rfl) ?_
  refine lv_iload_n hx hb dX9_ofObject_1 rfl (lv_at hl 1 rfl) ?_
  obtain ⟨x1, ex1, h⟩ := ob_some h
  refine gk_q (run_V (rest := []) hx hb hml hown hts hK hP hD hS hA hm (C_X_madeAs l G D K s.heap.size ga n M a1 ex1) _ (full_C _) (full_n _ List.nodup_range) mok_yX9_madeAs w_852 w_854 w_p22 (rcv hK hP 0 go_0 rfl rfl) ⟨Nat.le_of_ble_eq_true rfl, Nat.le_of_ble_eq_true rfl⟩ rfl hl.1 rfl (Nat.le_of_ble_eq_true rfl) dX9_ofObject_2 ⟨(Nat.le_of_ble_eq_true rfl), (Nat.le_of_ble_eq_true rfl)⟩) hP hD hS hA (fun u H locs (hP : va_P D cl (wld ga n (K 0) (K 1) M) H) (hD : va_D A (wld ga n (K 0) (K 1) M)) hS => ?_)
  refine w_tov (y := ctv ga x1) rfl ?_
  refine t_astore_n hx hb dX9_ofObject_5 rfl hl (by decide) [0, 1, 2] (lv' := [(0, .ref (ga 0)), (1, .int (iI a1)), (2, .int (iI a2))]) rfl (⟨⟨Nat.ne_of_beq_eq_false rfl, Or.inl (Nat.ne_of_beq_eq_false rfl)⟩, ⟨⟨Nat.ne_of_beq_eq_false rfl, Or.inl (Nat.ne_of_beq_eq_false rfl)⟩, ⟨⟨Nat.ne_of_beq_eq_false rfl, Or.inr rfl⟩, trivial⟩⟩⟩) (fun ls hl => ?_)
  refine lv_iload_n hx hb dX9_ofObject_6 rfl (lv_at hl 3 rfl) ?_
  obtain ⟨g2, h⟩ := og_some h
  by_cases c3 : a2 < 0
  · replace h := it_T h c3
    cases h
  · replace h := it_F h c3
    refine i_if_lt_F hx hb g2 (tgt := 16) dX9_ofObject_7 (by decide) c3 ?_
    refine lv_iload_n hx hb dX9_ofObject_10 rfl (lv_at hl 3 rfl) ?_
    refine lv_bipush (v := iI 8) hx hb dX9_ofObject_11 rfl ?_
    by_cases c4 : a2 < 8
    · replace h := it_T h c4
      refine i_icmp_lt_T hx hb g2 ⟨by decide, by decide⟩ (tgt := 27) dX9_ofObject_13 (by decide) c4 ?_
      refine lv_iload_n hx hb dX9_ofObject_27 rfl (lv_at hl 3 rfl) ?_
      by_cases c5 : a2 = 0
      · replace h := it_T h c5
        refine i_if_ne_F hx hb g2 (tgt := 36) dX9_ofObject_28 (by decide) c5 ?_
        refine t_aload_n hx hb dX9_ofObject_31 rfl (lv_at hl 0 rfl) ?_
        rcases on_cases h with ⟨z6, h⟩ | ⟨q6, z6, h⟩
        · cases h
        · obtain ⟨hq6, h⟩ := og_some h
          rw [ctv_some ga z6]
          refine r_get hx hb hts ok_RX7 hown hK hP (25 + 2 * q6) (go_th hq6) rfl 3 (by decide) w_691 (fun _ h9 => h9) rfl dX9_ofObject_32 ?_
          obtain rfl := Option.some.inj h
          exact e_i hx hb hr hlk hP hD hS (fun _ => 0) rfl (Nat.le_of_ble_eq_true rfl) (Nat.le_of_ble_eq_true rfl) rfl dX9_ofObject_35
      · replace h := it_F h c5
        refine i_if_ne_T hx hb g2 (tgt := 36) dX9_ofObject_28 (by decide) c5 ?_
        refine t_aload_n hx hb dX9_ofObject_36 rfl (lv_at hl 0 rfl) ?_
        rcases on_cases h with ⟨z7, h⟩ | ⟨q7, z7, h⟩
        · cases h
        · obtain ⟨hq7, h⟩ := og_some h
          rw [ctv_some ga z7]
          refine r_get hx hb hts ok_RX7 hown hK hP (25 + 2 * q7) (go_th hq7) rfl 3 (by decide) w_691 (fun _ h9 => h9) rfl dX9_ofObject_37 ?_
          obtain ⟨g8, h⟩ := og_some h
          by_cases c9 : gT M q7 3 = 0
          · replace h := it_T h c9
            refine i_if_ne_F hx hb g8 (tgt := 45) dX9_ofObject_40 (by decide) c9 ?_
            refine lv_iconst (v := iI (-1)) hx hb dX9_ofObject_43 rfl ?_
            obtain rfl := Option.some.inj h
            exact e_i hx hb hr hlk hP hD hS (fun _ => 0) rfl (Nat.le_of_ble_eq_true rfl) (Nat.le_of_ble_eq_true rfl) rfl dX9_ofObject_44
          · replace h := it_F h c9
            refine i_if_ne_T hx hb g8 (tgt := 45) dX9_ofObject_40 (by decide) c9 ?_
            refine lv_iload_n hx hb dX9_ofObject_45 rfl (lv_at hl 3 rfl) ?_
            by_cases c10 : a2 = 1
            · replace h := it_T h c10
              skip
              refine i_tableIn (off := 38) (tgt := 84) hx hb g2 1 dX9_ofObject_46 c10 (by decide) (by decide) rfl (by decide) ?_
              refine t_aload_n hx hb dX9_ofObject_84 rfl (lv_at hl 0 rfl) ?_
              rw [ctv_some ga z7]
              refine r_get hx hb hts ok_RX7 hown hK hP (25 + 2 * q7) (go_th hq7) rfl 4 (by decide) w_697 (fun _ h9 => h9) rfl dX9_ofObject_85 ?_
              obtain rfl := Option.some.inj h
              exact e_i hx hb hr hlk hP hD hS (fun _ => 0) rfl (Nat.le_of_ble_eq_true rfl) (Nat.le_of_ble_eq_true rfl) rfl dX9_ofObject_88
            · replace h := it_F h c10
              skip
              by_cases c11 : a2 = 2
              · replace h := it_T h c11
                skip
                refine i_tableIn (off := 43) (tgt := 89) hx hb g2 2 dX9_ofObject_46 c11 (by decide) (by decide) rfl (by decide) ?_
                refine t_aload_n hx hb dX9_ofObject_89 rfl (lv_at hl 0 rfl) ?_
                rw [ctv_some ga z7]
                refine r_get hx hb hts ok_RX7 hown hK hP (25 + 2 * q7) (go_th hq7) rfl 5 (by decide) w_702 (fun _ h9 => h9) rfl dX9_ofObject_90 ?_
                obtain rfl := Option.some.inj h
                exact e_i hx hb hr hlk hP hD hS (fun _ => 0) rfl (Nat.le_of_ble_eq_true rfl) (Nat.le_of_ble_eq_true rfl) rfl dX9_ofObject_93
              · replace h := it_F h c11
                skip
                by_cases c12 : a2 = 3
                · replace h := it_T h c12
                  skip
                  refine i_tableIn (off := 48) (tgt := 94) hx hb g2 3 dX9_ofObject_46 c12 (by decide) (by decide) rfl (by decide) ?_
                  refine t_aload_n hx hb dX9_ofObject_94 rfl (lv_at hl 0 rfl) ?_
                  rw [ctv_some ga z7]
                  refine r_get hx hb hts ok_RX7 hown hK hP (25 + 2 * q7) (go_th hq7) rfl 7 (by decide) w_708 (fun _ h9 => h9) rfl dX9_ofObject_95 ?_
                  obtain rfl := Option.some.inj h
                  exact e_i hx hb hr hlk hP hD hS (fun _ => 0) rfl (Nat.le_of_ble_eq_true rfl) (Nat.le_of_ble_eq_true rfl) rfl dX9_ofObject_98
                · replace h := it_F h c12
                  skip
                  by_cases c13 : a2 = 4
                  · replace h := it_T h c13
                    skip
                    refine i_tableIn (off := 53) (tgt := 99) hx hb g2 4 dX9_ofObject_46 c13 (by decide) (by decide) rfl (by decide) ?_
                    refine t_aload_n hx hb dX9_ofObject_99 rfl (lv_at hl 0 rfl) ?_
                    rw [ctv_some ga z7]
                    refine r_get hx hb hts ok_RX7 hown hK hP (25 + 2 * q7) (go_th hq7) rfl 8 (by decide) w_710 (fun _ h9 => h9) rfl dX9_ofObject_100 ?_
                    obtain rfl := Option.some.inj h
                    exact e_i hx hb hr hlk hP hD hS (fun _ => 0) rfl (Nat.le_of_ble_eq_true rfl) (Nat.le_of_ble_eq_true rfl) rfl dX9_ofObject_103
                  · replace h := it_F h c13
                    skip
                    by_cases c14 : a2 = 5
                    · replace h := it_T h c14
                      skip
                      refine i_tableIn (off := 58) (tgt := 104) hx hb g2 5 dX9_ofObject_46 c14 (by decide) (by decide) rfl (by decide) ?_
                      refine t_aload_n hx hb dX9_ofObject_104 rfl (lv_at hl 0 rfl) ?_
                      rw [ctv_some ga z7]
                      refine r_get hx hb hts ok_RX7 hown hK hP (25 + 2 * q7) (go_th hq7) rfl 9 (by decide) w_712 (fun _ h9 => h9) rfl dX9_ofObject_105 ?_
                      obtain ⟨g15, h⟩ := og_some h
                      by_cases c16 : gT M q7 9 = 0
                      · replace h := it_T h c16
                        refine i_if_eq_T hx hb g15 (tgt := 115) dX9_ofObject_108 (by decide) c16 ?_
                        refine lv_iconst (v := iI 0) hx hb dX9_ofObject_115 rfl ?_
                        obtain rfl := Option.some.inj h
                        exact e_i hx hb hr hlk hP hD hS (fun _ => 0) rfl (Nat.le_of_ble_eq_true rfl) (Nat.le_of_ble_eq_true rfl) rfl dX9_ofObject_116
                      · replace h := it_F h c16
                        refine i_if_eq_F hx hb g15 (tgt := 115) dX9_ofObject_108 (by decide) c16 ?_
                        refine lv_iconst (v := iI 1) hx hb dX9_ofObject_111 rfl ?_
                        refine lv_goto (tgt := 116) hx hb dX9_ofObject_112 (by decide) ?_
                        obtain rfl := Option.some.inj h
                        exact e_i hx hb hr hlk hP hD hS (fun _ => 0) rfl (Nat.le_of_ble_eq_true rfl) (Nat.le_of_ble_eq_true rfl) rfl dX9_ofObject_116
                    · replace h := it_F h c14
                      skip
                      by_cases c17 : a2 = 6
                      · replace h := it_T h c17
                        skip
                        refine i_tableIn (off := 71) (tgt := 117) hx hb g2 6 dX9_ofObject_46 c17 (by decide) (by decide) rfl (by decide) ?_
                        refine lv_aload_n hx hb dX9_ofObject_117 rfl (lv_at hl 1 rfl) ?_
                        refine r_get hx hb hts ok_RX9 hown hK hP 0 go_0 rfl 4 (by decide) w_241 (fun _ h9 => h9) rfl dX9_ofObject_118 ?_
                        obtain ⟨x18, ex18, h⟩ := ob_some h
                        refine gk_i (run_V (rest := []) hx hb hml hown hts hK hP hD hS hA hm (C_Mk_isOn l G D K H.size ga n M ex18) _ (full_C _) (full_n _ List.nodup_range) mok_yX1_isOn w_863 w_864 w_865 (rcv hK hP 4 go_4 rfl rfl) ⟨Nat.le_of_ble_eq_true rfl, Nat.le_of_ble_eq_true rfl⟩ rfl hl.1 rfl (Nat.le_of_ble_eq_true rfl) dX9_ofObject_121 ⟨(Nat.le_of_ble_eq_true rfl), (Nat.le_of_ble_eq_true rfl)⟩) hP hD hS hA (fun u H locs (hP : va_P D cl (wld ga n (K 0) (K 1) M) H) (hD : va_D A (wld ga n (K 0) (K 1) M)) hS => ?_)
                        obtain ⟨g19, h⟩ := og_some h
                        by_cases c20 : x18 = 0
                        · replace h := it_T h c20
                          refine i_if_eq_T hx hb g19 (tgt := 134) dX9_ofObject_124 (by decide) c20 ?_
                          refine lv_iconst (v := iI (-1)) hx hb dX9_ofObject_134 rfl ?_
                          obtain rfl := Option.some.inj h
                          exact e_i hx hb hr hlk hP hD hS (fun _ => 0) rfl (Nat.le_of_ble_eq_true rfl) (Nat.le_of_ble_eq_true rfl) rfl dX9_ofObject_135
                        · replace h := it_F h c20
                          refine i_if_eq_F hx hb g19 (tgt := 134) dX9_ofObject_124 (by decide) c20 ?_
                          refine t_aload_n hx hb dX9_ofObject_127 rfl (lv_at hl 0 rfl) ?_
                          rw [ctv_some ga z7]
                          refine r_get hx hb hts ok_RX7 hown hK hP (25 + 2 * q7) (go_th hq7) rfl 10 (by decide) w_718 (fun _ h9 => h9) rfl dX9_ofObject_128 ?_
                          refine lv_goto (tgt := 135) hx hb dX9_ofObject_131 (by decide) ?_
                          obtain rfl := Option.some.inj h
                          exact e_i hx hb hr hlk hP hD hS (fun _ => 0) rfl (Nat.le_of_ble_eq_true rfl) (Nat.le_of_ble_eq_true rfl) rfl dX9_ofObject_135
                      · replace h := it_F h c17
                        skip
                        refine i_tableOut (tgt := 136) hx hb g2 dX9_ofObject_46 (by omega) (by decide) ?_
                        refine t_aload_n hx hb dX9_ofObject_136 rfl (lv_at hl 0 rfl) ?_
                        rw [ctv_some ga z7]
                        refine r_get hx hb hts ok_RX7 hown hK hP (25 + 2 * q7) (go_th hq7) rfl 2 (by decide) w_686 (fun _ h9 => h9) rfl dX9_ofObject_137 ?_
                        obtain rfl := Option.some.inj h
                        exact e_i hx hb hr hlk hP hD hS (fun _ => 0) rfl (Nat.le_of_ble_eq_true rfl) (Nat.le_of_ble_eq_true rfl) rfl dX9_ofObject_140
    · replace h := it_F h c4
      cases h
def f_X_many (n : Nat) (M : cSt) (a1 : Int) : Option (Int) := og (inR a1) (if a1 = 0 then ob (f_Row_size n M 0) (fun x3 => some x3) else if a1 = 1 then ob (f_Pl_things n M) (fun x5 => some x5) else if a1 = 2 then ob (f_Ro_frames n M) (fun x7 => some x7) else if a1 = 3 then some (gI M 3 - gI M 2) else if a1 = 4 then some (gI M 2) else if a1 = 5 then some (gI M 4 - 100) else if a1 = 6 then some (gI M 5) else if a1 = 7 then ob (f_Row_words n M 4) (fun x13 => some x13) else if a1 = 8 then ob (f_Pl_largeGaps n M) (fun x15 => some x15) else if a1 = 9 then ob (f_Pl_dirtyCards n M) (fun x17 => some x17) else if a1 = 10 then ob (f_Row_size n M 1) (fun x19 => some x19) else if a1 = 11 then some (gI M 6) else if a1 = 12 then some (gI M 7) else if a1 = 13 then some (gI M 8) else if a1 = 14 then some (gI M 9) else if a1 = 15 then ob (f_Mk_greys n M) (fun x25 => some x25) else none)
set_option maxHeartbeats 4000000 in
set_option maxRecDepth 100000 in
theorem C_X_many (l : Launch) (G : Nat → Nat) (D : va_G) (K : Nat → ClassId) (sz : Nat) (ga : Nat → Nat) (n : Nat) (M : cSt) (a1 : Int) {x : Int} (h : f_X_many n M a1 = some x) : CM l yX9_many cX9_many 2 (some FieldType.int) ({ frames := 2, cells := 0, slots := 0, locals := 45 } : Room) G D K [.ref (ga 0), .int (iI a1)] (wld ga n (K 0) (K 1) M) sz (CQi (iI x) D (fun _ => wld ga n (K 0) (K 1) M)) := by
  refine CM_of (lv0 := [(0, .ref (ga 0)), (1, .int (iI a1))]) pn_RX9 (Nat.le_of_ble_eq_true rfl) rfl (fun p e s m args below meth c A ls hx hb hr hml hown hts hlk hnm hP hK hD hS hA hm hl => ?_)
  have hown : s.vm.findClass RX9 = some m.cls := hown
  unfold f_X_many at h
  refine lv_iload_n hx hb dX9_many_0 rfl (lv_at hl 1 rfl) ?_
  obtain ⟨g1, h⟩ := og_some h
  by_cases c2 : a1 = 0
  · replace h := it_T h c2
    skip
    refine i_tableIn (off := 79) (tgt := 80) hx hb g1 0 dX9_many_1 c2 (by decide) (by decide) rfl (by decide) ?_
    refine lv_aload_n hx hb dX9_many_80 rfl (lv_at hl 0 rfl) ?_
    refine r_get hx hb hts ok_RX9 hown hK hP 0 go_0 rfl 0 (by decide) w_237 (fun _ h9 => h9) rfl dX9_many_81 ?_
    obtain ⟨x3, ex3, h⟩ := ob_some h
    refine gk_i (run_V (rest := []) hx hb hml hown hts hK hP hD hS hA hm (C_Row_size l G D K s.heap.size ga n M 0 (by decide) ex3) _ (full_C _) (full_n _ List.nodup_range) mok_yX5_size w_404 w_405 w_406 (rcv hK hP (8 + 0) (go_ro (by decide)) rfl rfl) ⟨Nat.le_of_ble_eq_true rfl, Nat.le_of_ble_eq_true rfl⟩ rfl hl.1 rfl (Nat.le_of_ble_eq_true rfl) dX9_many_84 ⟨(Nat.le_of_ble_eq_true rfl), (Nat.le_of_ble_eq_true rfl)⟩) hP hD hS hA (fun u H locs (hP : va_P D cl (wld ga n (K 0) (K 1) M) H) (hD : va_D A (wld ga n (K 0) (K 1) M)) hS => ?_)
    obtain rfl := Option.some.inj h
    exact e_i hx hb hr hlk hP hD hS (fun _ => 0) rfl (Nat.le_of_ble_eq_true rfl) (Nat.le_of_ble_eq_true rfl) rfl dX9_many_87
  · replace h := it_F h c2
    skip
    by_cases c4 : a1 = 1
    · replace h := it_T h c4
      skip
      refine i_tableIn (off := 87) (tgt := 88) hx hb g1 1 dX9_many_1 c4 (by decide) (by decide) rfl (by decide) ?_
      refine lv_aload_n hx hb dX9_many_88 rfl (lv_at hl 0 rfl) ?_
      refine r_get hx hb hts ok_RX9 hown hK hP 0 go_0 rfl 2 (by decide) w_239 (fun _ h9 => h9) rfl dX9_many_89 ?_
      obtain ⟨x5, ex5, h⟩ := ob_some h
      refine gk_i (run_V (rest := []) hx hb hml hown hts hK hP hD hS hA hm (C_Pl_things l G D K s.heap.size ga n M ex5) _ (full_C _) (full_n _ List.nodup_range) mok_yX3_things w_871 w_872 w_873 (rcv hK hP 2 go_2 rfl rfl) ⟨Nat.le_of_ble_eq_true rfl, Nat.le_of_ble_eq_true rfl⟩ rfl hl.1 rfl (Nat.le_of_ble_eq_true rfl) dX9_many_92 ⟨(Nat.le_of_ble_eq_true rfl), (Nat.le_of_ble_eq_true rfl)⟩) hP hD hS hA (fun u H locs (hP : va_P D cl (wld ga n (K 0) (K 1) M) H) (hD : va_D A (wld ga n (K 0) (K 1) M)) hS => ?_)
      obtain rfl := Option.some.inj h
      exact e_i hx hb hr hlk hP hD hS (fun _ => 0) rfl (Nat.le_of_ble_eq_true rfl) (Nat.le_of_ble_eq_true rfl) rfl dX9_many_95
    · replace h := it_F h c4
      skip
      by_cases c6 : a1 = 2
      · replace h := it_T h c6
        skip
        refine i_tableIn (off := 95) (tgt := 96) hx hb g1 2 dX9_many_1 c6 (by decide) (by decide) rfl (by decide) ?_
        refine lv_aload_n hx hb dX9_many_96 rfl (lv_at hl 0 rfl) ?_
        refine r_get hx hb hts ok_RX9 hown hK hP 0 go_0 rfl 1 (by decide) w_238 (fun _ h9 => h9) rfl dX9_many_97 ?_
        obtain ⟨x7, ex7, h⟩ := ob_some h
        refine gk_i (run_V (rest := []) hx hb hml hown hts hK hP hD hS hA hm (C_Ro_frames l G D K s.heap.size ga n M ex7) _ (full_C _) (full_n _ List.nodup_range) mok_yX4_frames w_269 w_270 w_271 (rcv hK hP 1 go_1 rfl rfl) ⟨Nat.le_of_ble_eq_true rfl, Nat.le_of_ble_eq_true rfl⟩ rfl hl.1 rfl (Nat.le_of_ble_eq_true rfl) dX9_many_100 ⟨(Nat.le_of_ble_eq_true rfl), (Nat.le_of_ble_eq_true rfl)⟩) hP hD hS hA (fun u H locs (hP : va_P D cl (wld ga n (K 0) (K 1) M) H) (hD : va_D A (wld ga n (K 0) (K 1) M)) hS => ?_)
        obtain rfl := Option.some.inj h
        exact e_i hx hb hr hlk hP hD hS (fun _ => 0) rfl (Nat.le_of_ble_eq_true rfl) (Nat.le_of_ble_eq_true rfl) rfl dX9_many_103
      · replace h := it_F h c6
        skip
        by_cases c8 : a1 = 3
        · replace h := it_T h c8
          skip
          refine i_tableIn (off := 103) (tgt := 104) hx hb g1 3 dX9_many_1 c8 (by decide) (by decide) rfl (by decide) ?_
          refine lv_aload_n hx hb dX9_many_104 rfl (lv_at hl 0 rfl) ?_
          refine r_get hx hb hts ok_RX9 hown hK hP 0 go_0 rfl 2 (by decide) w_239 (fun _ h9 => h9) rfl dX9_many_105 ?_
          refine r_get hx hb hts ok_RX3 hown hK hP 2 go_2 rfl 4 (by decide) w_86 (fun _ h9 => h9) rfl dX9_many_108 ?_
          refine lv_aload_n hx hb dX9_many_111 rfl (lv_at hl 0 rfl) ?_
          refine r_get hx hb hts ok_RX9 hown hK hP 0 go_0 rfl 2 (by decide) w_239 (fun _ h9 => h9) rfl dX9_many_112 ?_
          refine r_get hx hb hts ok_RX3 hown hK hP 2 go_2 rfl 3 (by decide) w_83 (fun _ h9 => h9) rfl dX9_many_115 ?_
          refine lv_isub hx hb dX9_many_118 ?_
          refine w_toeq (iI_sub (gI M 3) (gI M 2)) ?_
          obtain rfl := Option.some.inj h
          exact e_i hx hb hr hlk hP hD hS (fun _ => 0) rfl (Nat.le_of_ble_eq_true rfl) (Nat.le_of_ble_eq_true rfl) rfl dX9_many_119
        · replace h := it_F h c8
          skip
          by_cases c9 : a1 = 4
          · replace h := it_T h c9
            skip
            refine i_tableIn (off := 119) (tgt := 120) hx hb g1 4 dX9_many_1 c9 (by decide) (by decide) rfl (by decide) ?_
            refine lv_aload_n hx hb dX9_many_120 rfl (lv_at hl 0 rfl) ?_
            refine r_get hx hb hts ok_RX9 hown hK hP 0 go_0 rfl 2 (by decide) w_239 (fun _ h9 => h9) rfl dX9_many_121 ?_
            refine r_get hx hb hts ok_RX3 hown hK hP 2 go_2 rfl 3 (by decide) w_83 (fun _ h9 => h9) rfl dX9_many_124 ?_
            obtain rfl := Option.some.inj h
            exact e_i hx hb hr hlk hP hD hS (fun _ => 0) rfl (Nat.le_of_ble_eq_true rfl) (Nat.le_of_ble_eq_true rfl) rfl dX9_many_127
          · replace h := it_F h c9
            skip
            by_cases c10 : a1 = 5
            · replace h := it_T h c10
              skip
              refine i_tableIn (off := 127) (tgt := 128) hx hb g1 5 dX9_many_1 c10 (by decide) (by decide) rfl (by decide) ?_
              refine lv_aload_n hx hb dX9_many_128 rfl (lv_at hl 0 rfl) ?_
              refine r_get hx hb hts ok_RX9 hown hK hP 0 go_0 rfl 2 (by decide) w_239 (fun _ h9 => h9) rfl dX9_many_129 ?_
              refine r_get hx hb hts ok_RX3 hown hK hP 2 go_2 rfl 5 (by decide) w_88 (fun _ h9 => h9) rfl dX9_many_132 ?_
              refine lv_bipush (v := iI 100) hx hb dX9_many_135 rfl ?_
              refine lv_isub hx hb dX9_many_137 ?_
              refine w_toeq (iI_sub (gI M 4) 100) ?_
              obtain rfl := Option.some.inj h
              exact e_i hx hb hr hlk hP hD hS (fun _ => 0) rfl (Nat.le_of_ble_eq_true rfl) (Nat.le_of_ble_eq_true rfl) rfl dX9_many_138
            · replace h := it_F h c10
              skip
              by_cases c11 : a1 = 6
              · replace h := it_T h c11
                skip
                refine i_tableIn (off := 138) (tgt := 139) hx hb g1 6 dX9_many_1 c11 (by decide) (by decide) rfl (by decide) ?_
                refine lv_aload_n hx hb dX9_many_139 rfl (lv_at hl 0 rfl) ?_
                refine r_get hx hb hts ok_RX9 hown hK hP 0 go_0 rfl 2 (by decide) w_239 (fun _ h9 => h9) rfl dX9_many_140 ?_
                refine r_get hx hb hts ok_RX3 hown hK hP 2 go_2 rfl 6 (by decide) w_90 (fun _ h9 => h9) rfl dX9_many_143 ?_
                obtain rfl := Option.some.inj h
                exact e_i hx hb hr hlk hP hD hS (fun _ => 0) rfl (Nat.le_of_ble_eq_true rfl) (Nat.le_of_ble_eq_true rfl) rfl dX9_many_146
              · replace h := it_F h c11
                skip
                by_cases c12 : a1 = 7
                · replace h := it_T h c12
                  skip
                  refine i_tableIn (off := 146) (tgt := 147) hx hb g1 7 dX9_many_1 c12 (by decide) (by decide) rfl (by decide) ?_
                  refine lv_aload_n hx hb dX9_many_147 rfl (lv_at hl 0 rfl) ?_
                  refine r_get hx hb hts ok_RX9 hown hK hP 0 go_0 rfl 2 (by decide) w_239 (fun _ h9 => h9) rfl dX9_many_148 ?_
                  refine r_get hx hb hts ok_RX3 hown hK hP 2 go_2 rfl 2 (by decide) w_80 (fun _ h9 => h9) rfl dX9_many_151 ?_
                  obtain ⟨x13, ex13, h⟩ := ob_some h
                  refine gk_i (run_V (rest := []) hx hb hml hown hts hK hP hD hS hA hm (C_Row_words l G D K s.heap.size ga n M 4 (by decide) ex13) _ (full_C _) (full_n _ List.nodup_range) mok_yX5_words w_875 w_546 w_547 (rcv hK hP (8 + 4) (go_ro (by decide)) rfl rfl) ⟨Nat.le_of_ble_eq_true rfl, Nat.le_of_ble_eq_true rfl⟩ rfl hl.1 rfl (Nat.le_of_ble_eq_true rfl) dX9_many_154 ⟨(Nat.le_of_ble_eq_true rfl), (Nat.le_of_ble_eq_true rfl)⟩) hP hD hS hA (fun u H locs (hP : va_P D cl (wld ga n (K 0) (K 1) M) H) (hD : va_D A (wld ga n (K 0) (K 1) M)) hS => ?_)
                  obtain rfl := Option.some.inj h
                  exact e_i hx hb hr hlk hP hD hS (fun _ => 0) rfl (Nat.le_of_ble_eq_true rfl) (Nat.le_of_ble_eq_true rfl) rfl dX9_many_157
                · replace h := it_F h c12
                  skip
                  by_cases c14 : a1 = 8
                  · replace h := it_T h c14
                    skip
                    refine i_tableIn (off := 157) (tgt := 158) hx hb g1 8 dX9_many_1 c14 (by decide) (by decide) rfl (by decide) ?_
                    refine lv_aload_n hx hb dX9_many_158 rfl (lv_at hl 0 rfl) ?_
                    refine r_get hx hb hts ok_RX9 hown hK hP 0 go_0 rfl 2 (by decide) w_239 (fun _ h9 => h9) rfl dX9_many_159 ?_
                    obtain ⟨x15, ex15, h⟩ := ob_some h
                    refine gk_i (run_V (rest := []) hx hb hml hown hts hK hP hD hS hA hm (C_Pl_largeGaps l G D K s.heap.size ga n M ex15) _ (full_C _) (full_n _ List.nodup_range) mok_yX3_largeGaps w_876 w_877 w_878 (rcv hK hP 2 go_2 rfl rfl) ⟨Nat.le_of_ble_eq_true rfl, Nat.le_of_ble_eq_true rfl⟩ rfl hl.1 rfl (Nat.le_of_ble_eq_true rfl) dX9_many_162 ⟨(Nat.le_of_ble_eq_true rfl), (Nat.le_of_ble_eq_true rfl)⟩) hP hD hS hA (fun u H locs (hP : va_P D cl (wld ga n (K 0) (K 1) M) H) (hD : va_D A (wld ga n (K 0) (K 1) M)) hS => ?_)
                    obtain rfl := Option.some.inj h
                    exact e_i hx hb hr hlk hP hD hS (fun _ => 0) rfl (Nat.le_of_ble_eq_true rfl) (Nat.le_of_ble_eq_true rfl) rfl dX9_many_165
                  · replace h := it_F h c14
                    skip
                    by_cases c16 : a1 = 9
                    · replace h := it_T h c16
                      skip
                      refine i_tableIn (off := 165) (tgt := 166) hx hb g1 9 dX9_many_1 c16 (by decide) (by decide) rfl (by decide) ?_
                      refine lv_aload_n hx hb dX9_many_166 rfl (lv_at hl 0 rfl) ?_
                      refine r_get hx hb hts ok_RX9 hown hK hP 0 go_0 rfl 2 (by decide) w_239 (fun _ h9 => h9) rfl dX9_many_167 ?_
                      obtain ⟨x17, ex17, h⟩ := ob_some h
                      refine gk_i (run_V (rest := []) hx hb hml hown hts hK hP hD hS hA hm (C_Pl_dirtyCards l G D K s.heap.size ga n M ex17) _ (full_C _) (full_n _ List.nodup_range) mok_yX3_dirtyCards w_880 w_881 w_882 (rcv hK hP 2 go_2 rfl rfl) ⟨Nat.le_of_ble_eq_true rfl, Nat.le_of_ble_eq_true rfl⟩ rfl hl.1 rfl (Nat.le_of_ble_eq_true rfl) dX9_many_170 ⟨(Nat.le_of_ble_eq_true rfl), (Nat.le_of_ble_eq_true rfl)⟩) hP hD hS hA (fun u H locs (hP : va_P D cl (wld ga n (K 0) (K 1) M) H) (hD : va_D A (wld ga n (K 0) (K 1) M)) hS => ?_)
                      obtain rfl := Option.some.inj h
                      exact e_i hx hb hr hlk hP hD hS (fun _ => 0) rfl (Nat.le_of_ble_eq_true rfl) (Nat.le_of_ble_eq_true rfl) rfl dX9_many_173
                    · replace h := it_F h c16
                      skip
                      by_cases c18 : a1 = 10
                      · replace h := it_T h c18
                        skip
                        refine i_tableIn (off := 173) (tgt := 174) hx hb g1 10 dX9_many_1 c18 (by decide) (by decide) rfl (by decide) ?_
                        refine lv_aload_n hx hb dX9_many_174 rfl (lv_at hl 0 rfl) ?_
                        refine r_get hx hb hts ok_RX9 hown hK hP 0 go_0 rfl 1 (by decide) w_238 (fun _ h9 => h9) rfl dX9_many_175 ?_
                        refine r_get hx hb hts ok_RX4 hown hK hP 1 go_1 rfl 0 (by decide) w_53 (fun _ h9 => h9) rfl dX9_many_178 ?_
                        obtain ⟨x19, ex19, h⟩ := ob_some h
                        refine gk_i (run_V (rest := []) hx hb hml hown hts hK hP hD hS hA hm (C_Row_size l G D K s.heap.size ga n M 1 (by decide) ex19) _ (full_C _) (full_n _ List.nodup_range) mok_yX5_size w_404 w_405 w_406 (rcv hK hP (8 + 1) (go_ro (by decide)) rfl rfl) ⟨Nat.le_of_ble_eq_true rfl, Nat.le_of_ble_eq_true rfl⟩ rfl hl.1 rfl (Nat.le_of_ble_eq_true rfl) dX9_many_181 ⟨(Nat.le_of_ble_eq_true rfl), (Nat.le_of_ble_eq_true rfl)⟩) hP hD hS hA (fun u H locs (hP : va_P D cl (wld ga n (K 0) (K 1) M) H) (hD : va_D A (wld ga n (K 0) (K 1) M)) hS => ?_)
                        obtain rfl := Option.some.inj h
                        exact e_i hx hb hr hlk hP hD hS (fun _ => 0) rfl (Nat.le_of_ble_eq_true rfl) (Nat.le_of_ble_eq_true rfl) rfl dX9_many_184
                      · replace h := it_F h c18
                        skip
                        by_cases c20 : a1 = 11
                        · replace h := it_T h c20
                          skip
                          refine i_tableIn (off := 184) (tgt := 185) hx hb g1 11 dX9_many_1 c20 (by decide) (by decide) rfl (by decide) ?_
                          refine lv_aload_n hx hb dX9_many_185 rfl (lv_at hl 0 rfl) ?_
                          refine r_get hx hb hts ok_RX9 hown hK hP 0 go_0 rfl 3 (by decide) w_240 (fun _ h9 => h9) rfl dX9_many_186 ?_
                          refine r_get hx hb hts ok_RX6 hown hK hP 3 go_3 rfl 0 (by decide) w_117 (fun _ h9 => h9) rfl dX9_many_189 ?_
                          obtain rfl := Option.some.inj h
                          exact e_i hx hb hr hlk hP hD hS (fun _ => 0) rfl (Nat.le_of_ble_eq_true rfl) (Nat.le_of_ble_eq_true rfl) rfl dX9_many_192
                        · replace h := it_F h c20
                          skip
                          by_cases c21 : a1 = 12
                          · replace h := it_T h c21
                            skip
                            refine i_tableIn (off := 192) (tgt := 193) hx hb g1 12 dX9_many_1 c21 (by decide) (by decide) rfl (by decide) ?_
                            refine lv_aload_n hx hb dX9_many_193 rfl (lv_at hl 0 rfl) ?_
                            refine r_get hx hb hts ok_RX9 hown hK hP 0 go_0 rfl 3 (by decide) w_240 (fun _ h9 => h9) rfl dX9_many_194 ?_
                            refine r_get hx hb hts ok_RX6 hown hK hP 3 go_3 rfl 1 (by decide) w_119 (fun _ h9 => h9) rfl dX9_many_197 ?_
                            obtain rfl := Option.some.inj h
                            exact e_i hx hb hr hlk hP hD hS (fun _ => 0) rfl (Nat.le_of_ble_eq_true rfl) (Nat.le_of_ble_eq_true rfl) rfl dX9_many_200
                          · replace h := it_F h c21
                            skip
                            by_cases c22 : a1 = 13
                            · replace h := it_T h c22
                              skip
                              refine i_tableIn (off := 200) (tgt := 201) hx hb g1 13 dX9_many_1 c22 (by decide) (by decide) rfl (by decide) ?_
                              refine lv_aload_n hx hb dX9_many_201 rfl (lv_at hl 0 rfl) ?_
                              refine r_get hx hb hts ok_RX9 hown hK hP 0 go_0 rfl 3 (by decide) w_240 (fun _ h9 => h9) rfl dX9_many_202 ?_
                              refine r_get hx hb hts ok_RX6 hown hK hP 3 go_3 rfl 2 (by decide) w_121 (fun _ h9 => h9) rfl dX9_many_205 ?_
                              obtain rfl := Option.some.inj h
                              exact e_i hx hb hr hlk hP hD hS (fun _ => 0) rfl (Nat.le_of_ble_eq_true rfl) (Nat.le_of_ble_eq_true rfl) rfl dX9_many_208
                            · replace h := it_F h c22
                              skip
                              by_cases c23 : a1 = 14
                              · replace h := it_T h c23
                                skip
                                refine i_tableIn (off := 208) (tgt := 209) hx hb g1 14 dX9_many_1 c23 (by decide) (by decide) rfl (by decide) ?_
                                refine lv_aload_n hx hb dX9_many_209 rfl (lv_at hl 0 rfl) ?_
                                refine r_get hx hb hts ok_RX9 hown hK hP 0 go_0 rfl 3 (by decide) w_240 (fun _ h9 => h9) rfl dX9_many_210 ?_
                                refine r_get hx hb hts ok_RX6 hown hK hP 3 go_3 rfl 3 (by decide) w_123 (fun _ h9 => h9) rfl dX9_many_213 ?_
                                obtain rfl := Option.some.inj h
                                exact e_i hx hb hr hlk hP hD hS (fun _ => 0) rfl (Nat.le_of_ble_eq_true rfl) (Nat.le_of_ble_eq_true rfl) rfl dX9_many_216
                              · replace h := it_F h c23
                                skip
                                by_cases c24 : a1 = 15
                                · replace h := it_T h c24
                                  skip
                                  refine i_tableIn (off := 216) (tgt := 217) hx hb g1 15 dX9_many_1 c24 (by decide) (by decide) rfl (by decide) ?_
                                  refine lv_aload_n hx hb dX9_many_217 rfl (lv_at hl 0 rfl) ?_
                                  refine r_get hx hb hts ok_RX9 hown hK hP 0 go_0 rfl 4 (by decide) w_241 (fun _ h9 => h9) rfl dX9_many_218 ?_
                                  obtain ⟨x25, ex25, h⟩ := ob_some h
                                  refine gk_i (run_V (rest := []) hx hb hml hown hts hK hP hD hS hA hm (C_Mk_greys l G D K s.heap.size ga n M ex25) _ (full_C _) (full_n _ List.nodup_range) mok_yX1_greys w_884 w_885 w_886 (rcv hK hP 4 go_4 rfl rfl) ⟨Nat.le_of_ble_eq_true rfl, Nat.le_of_ble_eq_true rfl⟩ rfl hl.1 rfl (Nat.le_of_ble_eq_true rfl) dX9_many_221 ⟨(Nat.le_of_ble_eq_true rfl), (Nat.le_of_ble_eq_true rfl)⟩) hP hD hS hA (fun u H locs (hP : va_P D cl (wld ga n (K 0) (K 1) M) H) (hD : va_D A (wld ga n (K 0) (K 1) M)) hS => ?_)
                                  obtain rfl := Option.some.inj h
                                  exact e_i hx hb hr hlk hP hD hS (fun _ => 0) rfl (Nat.le_of_ble_eq_true rfl) (Nat.le_of_ble_eq_true rfl) rfl dX9_many_224
                                · replace h := it_F h c24
                                  cases h
def f_X_isDirty (n : Nat) (M : cSt) (a1 : Int) : Option (Int) := og (inR a1) (if a1 < 0 then none else if a1 < 20 then ob (f_Pl_isCardDirty n M a1) (fun x4 => og (x4 = 0 ∨ x4 = 1) (some x4)) else none)
set_option maxHeartbeats 4000000 in
set_option maxRecDepth 100000 in
theorem C_X_isDirty (l : Launch) (G : Nat → Nat) (D : va_G) (K : Nat → ClassId) (sz : Nat) (ga : Nat → Nat) (n : Nat) (M : cSt) (a1 : Int) {x : Int} (h : f_X_isDirty n M a1 = some x) : CM l yX9_isDirty cX9_isDirty 2 (some FieldType.boolean) ({ frames := 1, cells := 0, slots := 0, locals := 21 } : Room) G D K [.ref (ga 0), .int (iI a1)] (wld ga n (K 0) (K 1) M) sz (CQi (iI x) D (fun _ => wld ga n (K 0) (K 1) M)) := by
  refine CM_of (lv0 := [(0, .ref (ga 0)), (1, .int (iI a1))]) pn_RX9 (Nat.le_of_ble_eq_true rfl) rfl (fun p e s m args below meth c A ls hx hb hr hml hown hts hlk hnm hP hK hD hS hA hm hl => ?_)
  have hown : s.vm.findClass RX9 = some m.cls := hown
  unfold f_X_isDirty at h
  refine lv_iload_n hx hb dX9_isDirty_0 rfl (lv_at hl 1 rfl) ?_
  obtain ⟨g1, h⟩ := og_some h
  by_cases c2 : a1 < 0
  · replace h := it_T h c2
    cases h
  · replace h := it_F h c2
    refine i_if_lt_F hx hb g1 (tgt := 10) dX9_isDirty_1 (by decide) c2 ?_
    refine lv_iload_n hx hb dX9_isDirty_4 rfl (lv_at hl 1 rfl) ?_
    refine lv_bipush (v := iI 20) hx hb dX9_isDirty_5 rfl ?_
    by_cases c3 : a1 < 20
    · replace h := it_T h c3
      refine i_icmp_lt_T hx hb g1 ⟨by decide, by decide⟩ (tgt := 21) dX9_isDirty_7 (by decide) c3 ?_
      refine lv_aload_n hx hb dX9_isDirty_21 rfl (lv_at hl 0 rfl) ?_
      refine r_get hx hb hts ok_RX9 hown hK hP 0 go_0 rfl 2 (by decide) w_239 (fun _ h9 => h9) rfl dX9_isDirty_22 ?_
      refine lv_iload_n hx hb dX9_isDirty_25 rfl (lv_at hl 1 rfl) ?_
      obtain ⟨x4, ex4, h⟩ := ob_some h
      refine gk_i (run_V (rest := []) hx hb hml hown hts hK hP hD hS hA hm (C_Pl_isCardDirty l G D K s.heap.size ga n M a1 ex4) _ (full_C _) (full_n _ List.nodup_range) mok_yX3_isCardDirty w_969 w_461 w_462 (rcv hK hP 2 go_2 rfl rfl) ⟨Nat.le_of_ble_eq_true rfl, Nat.le_of_ble_eq_true rfl⟩ rfl hl.1 rfl (Nat.le_of_ble_eq_true rfl) dX9_isDirty_26 ⟨(Nat.le_of_ble_eq_true rfl), (Nat.le_of_ble_eq_true rfl)⟩) hP hD hS hA (fun u H locs (hP : va_P D cl (wld ga n (K 0) (K 1) M) H) (hD : va_D A (wld ga n (K 0) (K 1) M)) hS => ?_)
      obtain ⟨g5, h⟩ := og_some h
      obtain rfl := Option.some.inj h
      exact e_z hx hb hr hlk hP hD hS (fun _ => 0) rfl (Nat.le_of_ble_eq_true rfl) (Nat.le_of_ble_eq_true rfl) rfl (b01 g5) dX9_isDirty_29
    · replace h := it_F h c3
      cases h
def f_X_queue (n : Nat) (M : cSt) (a1 : Int) : Option (Int) := ob (f_Row_item n M 1 a1) (fun x1 => on x1 none (fun q2 => og (q2 < n) (some (gT M q2 0))))
set_option maxHeartbeats 4000000 in
set_option maxRecDepth 100000 in
theorem C_X_queue (l : Launch) (G : Nat → Nat) (D : va_G) (K : Nat → ClassId) (sz : Nat) (ga : Nat → Nat) (n : Nat) (M : cSt) (a1 : Int) {x : Int} (h : f_X_queue n M a1 = some x) : CM l yX9_queue cX9_queue 3 (some FieldType.int) ({ frames := 1, cells := 0, slots := 0, locals := 21 } : Room) G D K [.ref (ga 0), .int (iI a1)] (wld ga n (K 0) (K 1) M) sz (CQi (iI x) D (fun _ => wld ga n (K 0) (K 1) M)) := by
  refine CM_of (lv0 := [(0, .ref (ga 0)), (1, .int (iI a1))]) pn_RX9 (Nat.le_of_ble_eq_true rfl) rfl (fun p e s m args below meth c A ls hx hb hr hml hown hts hlk hnm hP hK hD hS hA hm hl => ?_)
  have hown : s.vm.findClass RX9 = some m.cls := hown
  unfold f_X_queue at h
  refine lv_aload_n hx hb dX9_queue_0 rfl (lv_at hl 0 rfl) ?_
  refine r_get hx hb hts ok_RX9 hown hK hP 0 go_0 rfl 1 (by decide) w_238 (fun _ h9 => h9) rfl dX9_queue_1 ?_
  refine r_get hx hb hts ok_RX4 hown hK hP 1 go_1 rfl 0 (by decide) w_53 (fun _ h9 => h9) rfl dX9_queue_4 ?_
  refine lv_iload_n hx hb dX9_queue_7 rfl (lv_at hl 1 rfl) ?_
  obtain ⟨x1, ex1, h⟩ := ob_some h
  refine gk_q (run_V (rest := []) hx hb hml hown hts hK hP hD hS hA hm (C_Row_item l G D K s.heap.size ga n M 1 (by decide) a1 ex1) _ (full_C _) (full_n _ List.nodup_range) mok_yX5_item w_856 w_419 w_420 (rcv hK hP (8 + 1) (go_ro (by decide)) rfl rfl) ⟨Nat.le_of_ble_eq_true rfl, Nat.le_of_ble_eq_true rfl⟩ rfl hl.1 rfl (Nat.le_of_ble_eq_true rfl) dX9_queue_8 ⟨(Nat.le_of_ble_eq_true rfl), (Nat.le_of_ble_eq_true rfl)⟩) hP hD hS hA (fun u H locs (hP : va_P D cl (wld ga n (K 0) (K 1) M) H) (hD : va_D A (wld ga n (K 0) (K 1) M)) hS => ?_)
  refine w_tov (y := ctv ga x1) rfl ?_
  refine t_astore_n hx hb dX9_queue_11 rfl hl (by decide) [0, 1] (lv' := [(0, .ref (ga 0)), (1, .int (iI a1))]) rfl (⟨⟨Nat.ne_of_beq_eq_false rfl, Or.inl (Nat.ne_of_beq_eq_false rfl)⟩, ⟨⟨Nat.ne_of_beq_eq_false rfl, Or.inr rfl⟩, trivial⟩⟩) (fun ls hl => ?_)
  refine t_aload_n hx hb dX9_queue_12 rfl (lv_at hl 0 rfl) ?_
  rcases on_cases h with ⟨z2, h⟩ | ⟨q2, z2, h⟩
  · cases h
  · obtain ⟨hq2, h⟩ := og_some h
    rw [ctv_some ga z2]
    refine lv_ifnonnull (tgt := 27) hx hb dX9_queue_13 (by decide) ?_
    refine t_aload_n hx hb dX9_queue_27 rfl (lv_at hl 0 rfl) ?_
    rw [ctv_some ga z2]
    refine r_get hx hb hts ok_RX7 hown hK hP (25 + 2 * q2) (go_th hq2) rfl 0 (by decide) w_676 (fun _ h9 => h9) rfl dX9_queue_28 ?_
    obtain rfl := Option.some.inj h
    exact e_i hx hb hr hlk hP hD hS (fun _ => 0) rfl (Nat.le_of_ble_eq_true rfl) (Nat.le_of_ble_eq_true rfl) rfl dX9_queue_31
def f_X_isReachable (n : Nat) (M : cSt) (a1 : Int) : Option (cSt × Int) := ob (f_X_madeAs n M a1) (fun x1 => ob (f_Tr_begin n M 1 none) (fun x2 => ob (f_Tr_markRoots n x2) (fun x3 => ob (f_Tr_spread n x3) (fun x4 => on x1 none (fun q5 => og (q5 < n) (og (gT x4 q5 12 = 0 ∨ gT x4 q5 12 = 1) (some (x4, gT x4 q5 12))))))))
set_option maxHeartbeats 4000000 in
set_option maxRecDepth 100000 in
theorem C_X_isReachable (l : Launch) (G : Nat → Nat) (D : va_G) (K : Nat → ClassId) (sz : Nat) (ga : Nat → Nat) (n : Nat) (M : cSt) (a1 : Int) {x : cSt × Int} (h : f_X_isReachable n M a1 = some x) : CM l yX9_isReachable cX9_isReachable 3 (some FieldType.boolean) ({ frames := 4, cells := 0, slots := 0, locals := 87 } : Room) G D K [.ref (ga 0), .int (iI a1)] (wld ga n (K 0) (K 1) M) sz (CQi (iI x.2) D (fun _ => wld ga n (K 0) (K 1) x.1)) := by
  refine CM_of (lv0 := [(0, .ref (ga 0)), (1, .int (iI a1))]) pn_RX9 (Nat.le_of_ble_eq_true rfl) rfl (fun p e s m args below meth c A ls hx hb hr hml hown hts hlk hnm hP hK hD hS hA hm hl => ?_)
  have hown : s.vm.findClass RX9 = some m.cls := hown
  unfold f_X_isReachable at h
  refine lv_aload_n hx hb dX9_isReachable_0 rfl (lv_at hl 0 rfl) ?_
  refine lv_iload_n hx hb dX9_isReachable_1 rfl (lv_at hl 1 rfl) ?_
  obtain ⟨x1, ex1, h⟩ := ob_some h
  refine gk_q (run_V (rest := []) hx hb hml hown hts hK hP hD hS hA hm (C_X_madeAs l G D K s.heap.size ga n M a1 ex1) _ (full_C _) (full_n _ List.nodup_range) mok_yX9_madeAs w_852 w_854 w_p22 (rcv hK hP 0 go_0 rfl rfl) ⟨Nat.le_of_ble_eq_true rfl, Nat.le_of_ble_eq_true rfl⟩ rfl hl.1 rfl (Nat.le_of_ble_eq_true rfl) dX9_isReachable_2 ⟨(Nat.le_of_ble_eq_true rfl), (Nat.le_of_ble_eq_true rfl)⟩) hP hD hS hA (fun u H locs (hP : va_P D cl (wld ga n (K 0) (K 1) M) H) (hD : va_D A (wld ga n (K 0) (K 1) M)) hS => ?_)
  refine w_tov (y := ctv ga x1) rfl ?_
  refine t_astore_n hx hb dX9_isReachable_5 rfl hl (by decide) [0, 1] (lv' := [(0, .ref (ga 0)), (1, .int (iI a1))]) rfl (⟨⟨Nat.ne_of_beq_eq_false rfl, Or.inl (Nat.ne_of_beq_eq_false rfl)⟩, ⟨⟨Nat.ne_of_beq_eq_false rfl, Or.inr rfl⟩, trivial⟩⟩) (fun ls hl => ?_)
  refine lv_aload_n hx hb dX9_isReachable_6 rfl (lv_at hl 1 rfl) ?_
  refine r_get hx hb hts ok_RX9 hown hK hP 0 go_0 rfl 5 (by decide) w_242 (fun _ h9 => h9) rfl dX9_isReachable_7 ?_
  refine lv_iconst (v := iI 1) hx hb dX9_isReachable_10 rfl ?_
  refine lv_null hx hb dX9_isReachable_11 ?_
  obtain ⟨x2, ex2, h⟩ := ob_some h
  refine gk_v (run_V (rest := []) hx hb hml hown hts hK hP hD hS hA hm (C_Tr_begin l G D K H.size ga n M 1 none ex2) _ (full_C _) (full_n _ List.nodup_range) mok_yX8_begin w_895 w_561 w_562 (rcv hK hP 5 go_5 rfl rfl) ⟨Nat.le_of_ble_eq_true rfl, Nat.le_of_ble_eq_true rfl⟩ rfl hl.1 rfl (Nat.le_of_ble_eq_true rfl) dX9_isReachable_12 ⟨(Nat.le_of_ble_eq_true rfl), (Nat.le_of_ble_eq_true rfl)⟩) hP hD hS hA (fun u H locs (hP : va_P D cl (wld ga n (K 0) (K 1) x2) H) (hD : va_D A (wld ga n (K 0) (K 1) x2)) hS => ?_)
  refine lv_aload_n hx hb dX9_isReachable_15 rfl (lv_at hl 1 rfl) ?_
  refine r_get hx hb hts ok_RX9 hown hK hP 0 go_0 rfl 5 (by decide) w_242 (fun _ h9 => h9) rfl dX9_isReachable_16 ?_
  obtain ⟨x3, ex3, h⟩ := ob_some h
  refine gk_v (run_V (rest := []) hx hb hml hown hts hK hP hD hS hA hm (C_Tr_markRoots l G D K H.size ga n x2 ex3) _ (full_C _) (full_n _ List.nodup_range) mok_yX8_markRoots w_896 w_577 w_578 (rcv hK hP 5 go_5 rfl rfl) ⟨Nat.le_of_ble_eq_true rfl, Nat.le_of_ble_eq_true rfl⟩ rfl hl.1 rfl (Nat.le_of_ble_eq_true rfl) dX9_isReachable_19 ⟨(Nat.le_of_ble_eq_true rfl), (Nat.le_of_ble_eq_true rfl)⟩) hP hD hS hA (fun u H locs (hP : va_P D cl (wld ga n (K 0) (K 1) x3) H) (hD : va_D A (wld ga n (K 0) (K 1) x3)) hS => ?_)
  refine lv_aload_n hx hb dX9_isReachable_22 rfl (lv_at hl 1 rfl) ?_
  refine r_get hx hb hts ok_RX9 hown hK hP 0 go_0 rfl 5 (by decide) w_242 (fun _ h9 => h9) rfl dX9_isReachable_23 ?_
  obtain ⟨x4, ex4, h⟩ := ob_some h
  refine gk_v (run_V (rest := []) hx hb hml hown hts hK hP hD hS hA hm (C_Tr_spread l G D K H.size ga n x3 ex4) _ (full_C _) (full_n _ List.nodup_range) mok_yX8_spread w_897 w_583 w_584 (rcv hK hP 5 go_5 rfl rfl) ⟨Nat.le_of_ble_eq_true rfl, Nat.le_of_ble_eq_true rfl⟩ rfl hl.1 rfl (Nat.le_of_ble_eq_true rfl) dX9_isReachable_26 ⟨(Nat.le_of_ble_eq_true rfl), (Nat.le_of_ble_eq_true rfl)⟩) hP hD hS hA (fun u H locs (hP : va_P D cl (wld ga n (K 0) (K 1) x4) H) (hD : va_D A (wld ga n (K 0) (K 1) x4)) hS => ?_)
  refine t_aload_n hx hb dX9_isReachable_29 rfl (lv_at hl 0 rfl) ?_
  rcases on_cases h with ⟨z5, h⟩ | ⟨q5, z5, h⟩
  · cases h
  · obtain ⟨hq5, h⟩ := og_some h
    rw [ctv_some ga z5]
    refine r_get hx hb hts ok_RX7 hown hK hP (25 + 2 * q5) (go_th hq5) rfl 12 (by decide) w_722 (fun _ h9 => h9) rfl dX9_isReachable_30 ?_
    obtain ⟨g6, h⟩ := og_some h
    obtain rfl := Option.some.inj h
    exact e_z hx hb hr hlk hP hD hS (fun _ => 0) rfl (Nat.le_of_ble_eq_true rfl) (Nat.le_of_ble_eq_true rfl) rfl (b01 g6) dX9_isReachable_33
def f_X_wouldFree (n : Nat) (M : cSt) (a1 : Int) : Option (cSt × Int) := ob (f_Tr_wordsFreed n M a1 none) (fun x1 => some (x1.1, x1.2))
set_option maxHeartbeats 4000000 in
set_option maxRecDepth 100000 in
theorem C_X_wouldFree (l : Launch) (G : Nat → Nat) (D : va_G) (K : Nat → ClassId) (sz : Nat) (ga : Nat → Nat) (n : Nat) (M : cSt) (a1 : Int) {x : cSt × Int} (h : f_X_wouldFree n M a1 = some x) : CM l yX9_wouldFree cX9_wouldFree 2 (some FieldType.int) ({ frames := 5, cells := 0, slots := 0, locals := 112 } : Room) G D K [.ref (ga 0), .int (iI a1)] (wld ga n (K 0) (K 1) M) sz (CQi (iI x.2) D (fun _ => wld ga n (K 0) (K 1) x.1)) := by
  refine CM_of (lv0 := [(0, .ref (ga 0)), (1, .int (iI a1))]) pn_RX9 (Nat.le_of_ble_eq_true rfl) rfl (fun p e s m args below meth c A ls hx hb hr hml hown hts hlk hnm hP hK hD hS hA hm hl => ?_)
  have hown : s.vm.findClass RX9 = some m.cls := hown
  unfold f_X_wouldFree at h
  refine lv_aload_n hx hb dX9_wouldFree_0 rfl (lv_at hl 0 rfl) ?_
  refine r_get hx hb hts ok_RX9 hown hK hP 0 go_0 rfl 5 (by decide) w_242 (fun _ h9 => h9) rfl dX9_wouldFree_1 ?_
  refine lv_iload_n hx hb dX9_wouldFree_4 rfl (lv_at hl 1 rfl) ?_
  refine lv_null hx hb dX9_wouldFree_5 ?_
  obtain ⟨x1, ex1, h⟩ := ob_some h
  refine gk_i (run_V (rest := []) hx hb hml hown hts hK hP hD hS hA hm (C_Tr_wordsFreed l G D K s.heap.size ga n M a1 none ex1) _ (full_C _) (full_n _ List.nodup_range) mok_yX8_wordsFreed w_915 w_916 w_917 (rcv hK hP 5 go_5 rfl rfl) ⟨Nat.le_of_ble_eq_true rfl, Nat.le_of_ble_eq_true rfl⟩ rfl hl.1 rfl (Nat.le_of_ble_eq_true rfl) dX9_wouldFree_6 ⟨(Nat.le_of_ble_eq_true rfl), (Nat.le_of_ble_eq_true rfl)⟩) hP hD hS hA (fun u H locs (hP : va_P D cl (wld ga n (K 0) (K 1) x1.1) H) (hD : va_D A (wld ga n (K 0) (K 1) x1.1)) hS => ?_)
  obtain rfl := Option.some.inj h
  exact e_i hx hb hr hlk hP hD hS (fun _ => 0) rfl (Nat.le_of_ble_eq_true rfl) (Nat.le_of_ble_eq_true rfl) rfl dX9_wouldFree_9
def f_X_addressFor (n : Nat) (M : cSt) (a1 : Int) : Option (Int) := og (inR a1) (if a1 < 0 then none else if 20 < a1 then none else ob (f_Pl_gapFor n M a1) (fun x4 => some x4))
set_option maxHeartbeats 4000000 in
set_option maxRecDepth 100000 in
theorem C_X_addressFor (l : Launch) (G : Nat → Nat) (D : va_G) (K : Nat → ClassId) (sz : Nat) (ga : Nat → Nat) (n : Nat) (M : cSt) (a1 : Int) {x : Int} (h : f_X_addressFor n M a1 = some x) : CM l yX9_addressFor cX9_addressFor 2 (some FieldType.int) ({ frames := 3, cells := 0, slots := 0, locals := 67 } : Room) G D K [.ref (ga 0), .int (iI a1)] (wld ga n (K 0) (K 1) M) sz (CQi (iI x) D (fun _ => wld ga n (K 0) (K 1) M)) := by
  refine CM_of (lv0 := [(0, .ref (ga 0)), (1, .int (iI a1))]) pn_RX9 (Nat.le_of_ble_eq_true rfl) rfl (fun p e s m args below meth c A ls hx hb hr hml hown hts hlk hnm hP hK hD hS hA hm hl => ?_)
  have hown : s.vm.findClass RX9 = some m.cls := hown
  unfold f_X_addressFor at h
  refine lv_iload_n hx hb dX9_addressFor_0 rfl (lv_at hl 1 rfl) ?_
  obtain ⟨g1, h⟩ := og_some h
  by_cases c2 : a1 < 0
  · replace h := it_T h c2
    cases h
  · replace h := it_F h c2
    refine i_if_lt_F hx hb g1 (tgt := 10) dX9_addressFor_1 (by decide) c2 ?_
    refine lv_iload_n hx hb dX9_addressFor_4 rfl (lv_at hl 1 rfl) ?_
    refine lv_bipush (v := iI 20) hx hb dX9_addressFor_5 rfl ?_
    by_cases c3 : 20 < a1
    · replace h := it_T h c3
      cases h
    · replace h := it_F h c3
      refine i_icmp_le_T hx hb g1 ⟨by decide, by decide⟩ (tgt := 21) dX9_addressFor_7 (by decide) c3 ?_
      refine lv_aload_n hx hb dX9_addressFor_21 rfl (lv_at hl 0 rfl) ?_
      refine r_get hx hb hts ok_RX9 hown hK hP 0 go_0 rfl 2 (by decide) w_239 (fun _ h9 => h9) rfl dX9_addressFor_22 ?_
      refine lv_iload_n hx hb dX9_addressFor_25 rfl (lv_at hl 1 rfl) ?_
      obtain ⟨x4, ex4, h⟩ := ob_some h
      refine gk_i (run_V (rest := []) hx hb hml hown hts hK hP hD hS hA hm (C_Pl_gapFor l G D K s.heap.size ga n M a1 ex4) _ (full_C _) (full_n _ List.nodup_range) mok_yX3_gapFor w_409 w_410 w_411 (rcv hK hP 2 go_2 rfl rfl) ⟨Nat.le_of_ble_eq_true rfl, Nat.le_of_ble_eq_true rfl⟩ rfl hl.1 rfl (Nat.le_of_ble_eq_true rfl) dX9_addressFor_26 ⟨(Nat.le_of_ble_eq_true rfl), (Nat.le_of_ble_eq_true rfl)⟩) hP hD hS hA (fun u H locs (hP : va_P D cl (wld ga n (K 0) (K 1) M) H) (hD : va_D A (wld ga n (K 0) (K 1) M)) hS => ?_)
      obtain rfl := Option.some.inj h
      exact e_i hx hb hr hlk hP hD hS (fun _ => 0) rfl (Nat.le_of_ble_eq_true rfl) (Nat.le_of_ble_eq_true rfl) rfl dX9_addressFor_29
def s_X_digestOf_16 (rec : Int64 → Int → Option (Int64)) (n : Nat) (M : cSt) (v1 : Option Nat) (v4 : Int) (v5 : Int64) (v7 : Int) : Option (Int64) := og (inR v7) (if v7 < 8 then on v1 none (fun q4 => og (q4 < n) (ob (f_X_ofObject n M (gT M q4 0) v7) (fun x5 => rec ((v5 * (31 : Int64)) + (iI x5).toInt64) (v7 + 1)))) else some v5)
def g_X_digestOf_16 (n : Nat) (M : cSt) (v1 : Option Nat) (v4 : Int) : Nat → Int64 → Int → Option (Int64)
  | 0 => fun _ _ => none
  | q + 1 => s_X_digestOf_16 (g_X_digestOf_16 n M v1 v4 q) n M v1 v4
set_option maxHeartbeats 4000000 in
set_option maxRecDepth 100000 in
theorem L_X_digestOf_16 {p : Program} {l : Launch} {G : Nat → Nat} {D : va_G} {K : Nat → ClassId} {e : Env} {s : State} {m : MethodId} {args : Array Value} {below : List Frame} {meth : Method} {c : Code} {A : Nat → Prop} (hx : p.tables.exec = Jvm.exec) (hb : c.code = cX9_digestOf) (hr : meth.sig.returnType = (some FieldType.long)) (hml : c.maxLocals = 8) (hown : s.vm.findClass RX9 = some m.cls) (hts : ∀ w ∈ lw_gw, w.before args s = true) (hlk : meth.locks = false) (hK : va_K D cl (tys K) s) (hA : ∀ q : Nat, s.heap.size ≤ q → A q) (hm : Amb G A s s.heap) {Q : State → Prop} (ga : Nat → Nat) (n : Nat) (M : cSt) (v1 : Option Nat) (v4 : Int) : ∀ (q : Nat) (v5 : Int64) (v7 : Int) (out : Int64), g_X_digestOf_16 n M v1 v4 q v5 v7 = some out → ∀ (ls : Array Slot) (H : Heap) (locs : List Loc), va_P D cl (wld ga n (K 0) (K 1) M) H → va_D A (wld ga n (K 0) (K 1) M) → va_S A s.heap H locs → lv_has ls 8 [(0, .ref (ga 0)), (1, ctv ga v1), (4, .int (iI v4)), (5, .long v5), (7, .int (iI v7))] → (∀ (ls : Array Slot) (H : Heap) (locs : List Loc), va_P D cl (wld ga n (K 0) (K 1) M) H → va_D A (wld ga n (K 0) (K 1) M) → va_S A s.heap H locs → lv_has ls 8 [(0, .ref (ga 0)), (1, ctv ga v1), (4, .int (iI v4)), (5, .long out)] → W p l e ({ frames := 5, cells := 0, slots := 0, locals := 112 } : Room) s m args below meth c H locs 0 0 Q (F0 m 49 ls [])) → W p l e ({ frames := 5, cells := 0, slots := 0, locals := 112 } : Room) s m args below meth c H locs 0 0 Q (F0 m 16 ls []) := by
  intro q
  induction q with
  | zero =>
    intro v5 v7 out h
    cases (show none = some out from h)
  | succ q ih =>
    intro v5 v7 out h ls H locs hP hD hS hl kk
    replace h : s_X_digestOf_16 (g_X_digestOf_16 n M v1 v4 q) n M v1 v4 v5 v7 = some out := h
    unfold s_X_digestOf_16 at h
    refine lv_iload hx hb dX9_digestOf_16 (lv_at hl 4 rfl) ?_
    refine lv_bipush (v := iI 8) hx hb dX9_digestOf_18 rfl ?_
    obtain ⟨g2, h⟩ := og_some h
    by_cases c3 : v7 < 8
    · replace h := it_T h c3
      refine i_icmp_ge_F hx hb g2 ⟨by decide, by decide⟩ (tgt := 49) dX9_digestOf_20 (by decide) c3 ?_
      refine lv_lload hx hb dX9_digestOf_23 (lv_at hl 3 rfl) ?_
      refine lv_ldc2 (v := 31) hx hb hown (hts _ w_903) dX9_digestOf_25 ?_
      refine lv_lmul hx hb dX9_digestOf_28 ?_
      refine lv_aload_n hx hb dX9_digestOf_29 rfl (lv_at hl 0 rfl) ?_
      refine t_aload_n hx hb dX9_digestOf_30 rfl (lv_at hl 1 rfl) ?_
      rcases on_cases h with ⟨z4, h⟩ | ⟨q4, z4, h⟩
      · cases h
      · obtain ⟨hq4, h⟩ := og_some h
        rw [ctv_some ga z4]
        refine r_get hx hb hts ok_RX7 hown hK hP (25 + 2 * q4) (go_th hq4) rfl 0 (by decide) w_676 (fun _ h9 => h9) rfl dX9_digestOf_31 ?_
        refine lv_iload hx hb dX9_digestOf_34 (lv_at hl 4 rfl) ?_
        obtain ⟨x5, ex5, h⟩ := ob_some h
        refine gk_i (run_V (rest := [.long (v5 * (31 : Int64))]) hx hb hml hown hts hK hP hD hS hA hm (C_X_ofObject l G D K H.size ga n M (gT M q4 0) v7 ex5) _ (full_C _) (full_n _ List.nodup_range) mok_yX9_ofObject w_930 w_859 w_860 (rcv hK hP 0 go_0 rfl rfl) ⟨Nat.le_of_ble_eq_true rfl, Nat.le_of_ble_eq_true rfl⟩ rfl hl.1 rfl (Nat.le_of_ble_eq_true rfl) dX9_digestOf_36 ⟨(Nat.le_of_ble_eq_true rfl), (Nat.le_of_ble_eq_true rfl)⟩) hP hD hS hA (fun u H locs (hP : va_P D cl (wld ga n (K 0) (K 1) M) H) (hD : va_D A (wld ga n (K 0) (K 1) M)) hS => ?_)
        refine lv_i2l (v := (iI x5).toInt64) hx hb dX9_digestOf_39 rfl ?_
        refine lv_ladd hx hb dX9_digestOf_40 ?_
        refine x_lstore hx hb dX9_digestOf_41 hl (by decide) [0, 1, 2, 4] (lv' := [(0, .ref (ga 0)), (1, ctv ga v1), (4, .int (iI v4)), (7, .int (iI v7))]) rfl (⟨⟨Nat.ne_of_beq_eq_false rfl, Nat.ne_of_beq_eq_false rfl, Or.inl (Nat.ne_of_beq_eq_false rfl)⟩, ⟨⟨Nat.ne_of_beq_eq_false rfl, Nat.ne_of_beq_eq_false rfl, Or.inl (Nat.ne_of_beq_eq_false rfl)⟩, ⟨⟨Nat.ne_of_beq_eq_false rfl, Nat.ne_of_beq_eq_false rfl, Or.inr rfl⟩, ⟨⟨Nat.ne_of_beq_eq_false rfl, Nat.ne_of_beq_eq_false rfl, Or.inl (Nat.ne_of_beq_eq_false rfl)⟩, trivial⟩⟩⟩⟩) (fun ls hl => ?_)
        refine x_iinc (v := iI (v7 + 1)) hx hb dX9_digestOf_43 hl (k := 4) rfl (iI_add v7 1) (by decide) [0, 1, 2, 3] (lv' := [(5, .long ((v5 * (31 : Int64)) + (iI x5).toInt64)), (0, .ref (ga 0)), (1, ctv ga v1), (4, .int (iI v4))]) rfl (⟨⟨Nat.ne_of_beq_eq_false rfl, Or.inl (Nat.ne_of_beq_eq_false rfl)⟩, ⟨⟨Nat.ne_of_beq_eq_false rfl, Or.inl (Nat.ne_of_beq_eq_false rfl)⟩, ⟨⟨Nat.ne_of_beq_eq_false rfl, Or.inl (Nat.ne_of_beq_eq_false rfl)⟩, ⟨⟨Nat.ne_of_beq_eq_false rfl, Or.inl (Nat.ne_of_beq_eq_false rfl)⟩, trivial⟩⟩⟩⟩) (fun ls hl => ?_)
        refine lv_goto (tgt := 16) hx hb dX9_digestOf_46 (by decide) ?_
        exact ih ((v5 * (31 : Int64)) + (iI x5).toInt64) (v7 + 1) _ h _ _ _ hP hD hS (lv_pk hl [2, 3, 4, 1, 0] rfl) kk
    · replace h := it_F h c3
      refine i_icmp_ge_T hx hb g2 ⟨by decide, by decide⟩ (tgt := 49) dX9_digestOf_20 (by decide) c3 ?_
      obtain rfl := Option.some.inj h
      exact kk _ _ _ hP hD hS (lv_pk hl [0, 1, 2, 3] rfl)
def s_X_digestOf_52 (rec : Int64 → Int → Option (Int64)) (n : Nat) (M : cSt) (v1 : Option Nat) (v4 : Int) (v5 : Int64) (v7 : Int) : Option (Int64) := on v1 none (fun q7 => og (q7 < n) (og (gL M q7 < 2147483648) (og (inR v7) (og (inR (gL M q7 : Int)) (if v7 < (gL M q7 : Int) then ob (f_Th_read n M q7 v7) (fun x12 => ob (f_X_numberOf n M x12) (fun x13 => rec ((v5 * (31 : Int64)) + (iI x13).toInt64) (v7 + 1))) else some v5)))))
def g_X_digestOf_52 (n : Nat) (M : cSt) (v1 : Option Nat) (v4 : Int) : Nat → Int64 → Int → Option (Int64)
  | 0 => fun _ _ => none
  | q + 1 => s_X_digestOf_52 (g_X_digestOf_52 n M v1 v4 q) n M v1 v4
set_option maxHeartbeats 4000000 in
set_option maxRecDepth 100000 in
theorem L_X_digestOf_52 {p : Program} {l : Launch} {G : Nat → Nat} {D : va_G} {K : Nat → ClassId} {e : Env} {s : State} {m : MethodId} {args : Array Value} {below : List Frame} {meth : Method} {c : Code} {A : Nat → Prop} (hx : p.tables.exec = Jvm.exec) (hb : c.code = cX9_digestOf) (hr : meth.sig.returnType = (some FieldType.long)) (hml : c.maxLocals = 8) (hown : s.vm.findClass RX9 = some m.cls) (hts : ∀ w ∈ lw_gw, w.before args s = true) (hlk : meth.locks = false) (hK : va_K D cl (tys K) s) (hA : ∀ q : Nat, s.heap.size ≤ q → A q) (hm : Amb G A s s.heap) {Q : State → Prop} (ga : Nat → Nat) (n : Nat) (M : cSt) (v1 : Option Nat) (v4 : Int) : ∀ (q : Nat) (v5 : Int64) (v7 : Int) (out : Int64), g_X_digestOf_52 n M v1 v4 q v5 v7 = some out → ∀ (ls : Array Slot) (H : Heap) (locs : List Loc), va_P D cl (wld ga n (K 0) (K 1) M) H → va_D A (wld ga n (K 0) (K 1) M) → va_S A s.heap H locs → lv_has ls 8 [(0, .ref (ga 0)), (1, ctv ga v1), (4, .int (iI v4)), (5, .long v5), (7, .int (iI v7))] → (∀ (ls : Array Slot) (H : Heap) (locs : List Loc), va_P D cl (wld ga n (K 0) (K 1) M) H → va_D A (wld ga n (K 0) (K 1) M) → va_S A s.heap H locs → lv_has ls 8 [(0, .ref (ga 0)), (1, ctv ga v1), (4, .int (iI v4)), (5, .long out)] → W p l e ({ frames := 5, cells := 0, slots := 0, locals := 112 } : Room) s m args below meth c H locs 0 0 Q (F0 m 87 ls [])) → W p l e ({ frames := 5, cells := 0, slots := 0, locals := 112 } : Room) s m args below meth c H locs 0 0 Q (F0 m 52 ls []) := by
  intro q
  induction q with
  | zero =>
    intro v5 v7 out h
    cases (show none = some out from h)
  | succ q ih =>
    intro v5 v7 out h ls H locs hP hD hS hl kk
    replace h : s_X_digestOf_52 (g_X_digestOf_52 n M v1 v4 q) n M v1 v4 v5 v7 = some out := h
    unfold s_X_digestOf_52 at h
    refine lv_iload hx hb dX9_digestOf_52 (lv_at hl 4 rfl) ?_
    refine t_aload_n hx hb dX9_digestOf_54 rfl (lv_at hl 1 rfl) ?_
    rcases on_cases h with ⟨z7, h⟩ | ⟨q7, z7, h⟩
    · cases h
    · obtain ⟨hq7, h⟩ := og_some h
      rw [ctv_some ga z7]
      refine r_get hx hb hts ok_RX7 hown hK hP (25 + 2 * q7) (go_th hq7) rfl 1 (by decide) w_681 (fun _ h9 => h9) rfl dX9_digestOf_55 ?_
      obtain ⟨g8, h⟩ := og_some h
      refine i_alen hx hb (26 + 2 * q7) 0 hK hP (go_fl hq7) rfl rfl g8 dX9_digestOf_58 ?_
      obtain ⟨g9, h⟩ := og_some h
      obtain ⟨g10, h⟩ := og_some h
      by_cases c11 : v7 < (gL M q7 : Int)
      · replace h := it_T h c11
        refine i_icmp_ge_F hx hb g9 g10 (tgt := 87) dX9_digestOf_59 (by decide) c11 ?_
        refine lv_lload hx hb dX9_digestOf_62 (lv_at hl 3 rfl) ?_
        refine lv_ldc2 (v := 31) hx hb hown (hts _ w_903) dX9_digestOf_64 ?_
        refine lv_lmul hx hb dX9_digestOf_67 ?_
        refine t_aload_n hx hb dX9_digestOf_68 rfl (lv_at hl 1 rfl) ?_
        rw [ctv_some ga z7]
        refine lv_iload hx hb dX9_digestOf_69 (lv_at hl 4 rfl) ?_
        obtain ⟨x12, ex12, h⟩ := ob_some h
        refine gk_q (run_V (rest := [.long (v5 * (31 : Int64))]) hx hb hml hown hts hK hP hD hS hA hm (C_Th_read l G D K H.size ga n M q7 hq7 v7 ex12) _ (full_C _) (full_n _ List.nodup_range) mok_yX7_read w_791 w_509 w_510 (rcv hK hP (25 + 2 * q7) (go_th hq7) rfl rfl) ⟨Nat.le_of_ble_eq_true rfl, Nat.le_of_ble_eq_true rfl⟩ rfl hl.1 rfl (Nat.le_of_ble_eq_true rfl) dX9_digestOf_71 ⟨(Nat.le_of_ble_eq_true rfl), (Nat.le_of_ble_eq_true rfl)⟩) hP hD hS hA (fun u H locs (hP : va_P D cl (wld ga n (K 0) (K 1) M) H) (hD : va_D A (wld ga n (K 0) (K 1) M)) hS => ?_)
        refine w_tov (y := ctv ga x12) rfl ?_
        obtain ⟨x13, ex13, h⟩ := ob_some h
        refine gk_i (run_S (rest := [.long (v5 * (31 : Int64))]) hx hb hml hown hts hK hP hD hS hA hm (C_X_numberOf l G D K H.size ga n M x12 ex13) _ (full_C _) (full_n _ List.nodup_range) mok_yX9_numberOf w_804 w_805 ⟨Nat.le_of_ble_eq_true rfl, Nat.le_of_ble_eq_true rfl⟩ rfl hl.1 rfl (Nat.le_of_ble_eq_true rfl) dX9_digestOf_74 ⟨(Nat.le_of_ble_eq_true rfl), (Nat.le_of_ble_eq_true rfl)⟩) hP hD hS hA (fun u H locs (hP : va_P D cl (wld ga n (K 0) (K 1) M) H) (hD : va_D A (wld ga n (K 0) (K 1) M)) hS => ?_)
        refine lv_i2l (v := (iI x13).toInt64) hx hb dX9_digestOf_77 rfl ?_
        refine lv_ladd hx hb dX9_digestOf_78 ?_
        refine x_lstore hx hb dX9_digestOf_79 hl (by decide) [0, 1, 2, 4] (lv' := [(0, .ref (ga 0)), (1, ctv ga v1), (4, .int (iI v4)), (7, .int (iI v7))]) rfl (⟨⟨Nat.ne_of_beq_eq_false rfl, Nat.ne_of_beq_eq_false rfl, Or.inl (Nat.ne_of_beq_eq_false rfl)⟩, ⟨⟨Nat.ne_of_beq_eq_false rfl, Nat.ne_of_beq_eq_false rfl, Or.inl (Nat.ne_of_beq_eq_false rfl)⟩, ⟨⟨Nat.ne_of_beq_eq_false rfl, Nat.ne_of_beq_eq_false rfl, Or.inr rfl⟩, ⟨⟨Nat.ne_of_beq_eq_false rfl, Nat.ne_of_beq_eq_false rfl, Or.inl (Nat.ne_of_beq_eq_false rfl)⟩, trivial⟩⟩⟩⟩) (fun ls hl => ?_)
        refine x_iinc (v := iI (v7 + 1)) hx hb dX9_digestOf_81 hl (k := 4) rfl (iI_add v7 1) (by decide) [0, 1, 2, 3] (lv' := [(5, .long ((v5 * (31 : Int64)) + (iI x13).toInt64)), (0, .ref (ga 0)), (1, ctv ga v1), (4, .int (iI v4))]) rfl (⟨⟨Nat.ne_of_beq_eq_false rfl, Or.inl (Nat.ne_of_beq_eq_false rfl)⟩, ⟨⟨Nat.ne_of_beq_eq_false rfl, Or.inl (Nat.ne_of_beq_eq_false rfl)⟩, ⟨⟨Nat.ne_of_beq_eq_false rfl, Or.inl (Nat.ne_of_beq_eq_false rfl)⟩, ⟨⟨Nat.ne_of_beq_eq_false rfl, Or.inl (Nat.ne_of_beq_eq_false rfl)⟩, trivial⟩⟩⟩⟩) (fun ls hl => ?_)
        refine lv_goto (tgt := 52) hx hb dX9_digestOf_84 (by decide) ?_
        exact ih ((v5 * (31 : Int64)) + (iI x13).toInt64) (v7 + 1) _ h _ _ _ hP hD hS (lv_pk hl [2, 3, 4, 1, 0] rfl) kk
      · replace h := it_F h c11
        refine i_icmp_ge_T hx hb g9 g10 (tgt := 87) dX9_digestOf_59 (by decide) c11 ?_
        obtain rfl := Option.some.inj h
        exact kk _ _ _ hP hD hS (lv_pk hl [0, 1, 2, 3] rfl)
def f_X_digestOf (n : Nat) (M : cSt) (t1 : Option Nat) (j2 : Int64) (a4 : Int) : Option (cSt × Int64) := on t1 none (fun q1 => og (q1 < n) (ob (g_X_digestOf_16 n M t1 a4 fu ((j2 * (31 : Int64)) + (iI (gT M q1 0)).toInt64) 0) (fun x6 => ob (g_X_digestOf_52 n M t1 a4 fu x6 0) (fun x14 => ob (f_X_isReachable n M (gT M q1 0)) (fun x15 => og (inR x15.2) (if x15.2 = 0 then ob (f_Tr_wordsFreed n x15.1 1 (some q1)) (fun x18 => some (x18.1, ((((x14 * (31 : Int64)) + (iI 0).toInt64) * (31 : Int64)) + (iI (x18.2 - a4)).toInt64))) else ob (f_Tr_wordsFreed n x15.1 1 (some q1)) (fun x19 => some (x19.1, ((((x14 * (31 : Int64)) + (iI 1).toInt64) * (31 : Int64)) + (iI (x19.2 - a4)).toInt64)))))))))
set_option maxHeartbeats 4000000 in
set_option maxRecDepth 100000 in
theorem C_X_digestOf (l : Launch) (G : Nat → Nat) (D : va_G) (K : Nat → ClassId) (sz : Nat) (ga : Nat → Nat) (n : Nat) (M : cSt) (t1 : Option Nat) (j2 : Int64) (a4 : Int) {x : cSt × Int64} (h : f_X_digestOf n M t1 j2 a4 = some x) : CM l yX9_digestOf cX9_digestOf 8 (some FieldType.long) ({ frames := 5, cells := 0, slots := 0, locals := 112 } : Room) G D K [.ref (ga 0), ctv ga t1, .long j2, .int (iI a4)] (wld ga n (K 0) (K 1) M) sz (CQl x.2 D (fun _ => wld ga n (K 0) (K 1) x.1)) := by
  refine CM_of (lv0 := [(0, .ref (ga 0)), (1, ctv ga t1), (2, .long j2), (4, .int (iI a4))]) pn_RX9 (by cases t1 <;> exact (Nat.le_of_ble_eq_true rfl)) (by cases t1 <;> rfl) (fun p e s m args below meth c A ls hx hb hr hml hown hts hlk hnm hP hK hD hS hA hm hl => ?_)
  have hown : s.vm.findClass RX9 = some m.cls := hown
  unfold f_X_digestOf at h
  refine lv_lload_n hx hb dX9_digestOf_0 rfl (lv_at hl 2 rfl) ?_
  refine lv_ldc2 (v := 31) hx hb hown (hts _ w_903) dX9_digestOf_1 ?_
  refine lv_lmul hx hb dX9_digestOf_4 ?_
  refine t_aload_n hx hb dX9_digestOf_5 rfl (lv_at hl 1 rfl) ?_
  rcases on_cases h with ⟨z1, h⟩ | ⟨q1, z1, h⟩
  · cases h
  · obtain ⟨hq1, h⟩ := og_some h
    rw [ctv_some ga z1]
    refine r_get hx hb hts ok_RX7 hown hK hP (25 + 2 * q1) (go_th hq1) rfl 0 (by decide) w_676 (fun _ h9 => h9) rfl dX9_digestOf_6 ?_
    refine lv_i2l (v := (iI (gT M q1 0)).toInt64) hx hb dX9_digestOf_9 rfl ?_
    refine lv_ladd hx hb dX9_digestOf_10 ?_
    refine x_lstore hx hb dX9_digestOf_11 hl (by decide) [0, 1, 2, 3] (lv' := [(0, .ref (ga 0)), (1, ctv ga t1), (2, .long j2), (4, .int (iI a4))]) rfl (⟨⟨Nat.ne_of_beq_eq_false rfl, Nat.ne_of_beq_eq_false rfl, Or.inl (Nat.ne_of_beq_eq_false rfl)⟩, ⟨⟨Nat.ne_of_beq_eq_false rfl, Nat.ne_of_beq_eq_false rfl, Or.inl (Nat.ne_of_beq_eq_false rfl)⟩, ⟨⟨Nat.ne_of_beq_eq_false rfl, Nat.ne_of_beq_eq_false rfl, Or.inl (Nat.ne_of_beq_eq_false rfl)⟩, ⟨⟨Nat.ne_of_beq_eq_false rfl, Nat.ne_of_beq_eq_false rfl, Or.inr rfl⟩, trivial⟩⟩⟩⟩) (fun ls hl => ?_)
    refine lv_iconst (v := iI 0) hx hb dX9_digestOf_13 rfl ?_
    refine x_istore hx hb dX9_digestOf_14 hl (by decide) [0, 1, 2, 3, 4] (lv' := [(5, .long ((j2 * (31 : Int64)) + (iI (gT M q1 0)).toInt64)), (0, .ref (ga 0)), (1, ctv ga t1), (2, .long j2), (4, .int (iI a4))]) rfl (⟨⟨Nat.ne_of_beq_eq_false rfl, Or.inl (Nat.ne_of_beq_eq_false rfl)⟩, ⟨⟨Nat.ne_of_beq_eq_false rfl, Or.inl (Nat.ne_of_beq_eq_false rfl)⟩, ⟨⟨Nat.ne_of_beq_eq_false rfl, Or.inl (Nat.ne_of_beq_eq_false rfl)⟩, ⟨⟨Nat.ne_of_beq_eq_false rfl, Or.inl (Nat.ne_of_beq_eq_false rfl)⟩, ⟨⟨Nat.ne_of_beq_eq_false rfl, Or.inl (Nat.ne_of_beq_eq_false rfl)⟩, trivial⟩⟩⟩⟩⟩) (fun ls hl => ?_)
    obtain ⟨x6, ex6, h⟩ := ob_some h
    refine L_X_digestOf_16 hx hb hr hml hown hts hlk hK hA hm ga n M t1 a4  fu ((j2 * (31 : Int64)) + (iI (gT M q1 0)).toInt64) 0 _ ex6 _ _ _ hP hD hS (lv_pk hl [2, 3, 5, 1, 0] rfl) (fun ls H locs (hP : va_P D cl (wld ga n (K 0) (K 1) M) H) (hD : va_D A (wld ga n (K 0) (K 1) M)) hS (hl : lv_has ls 8 [(0, .ref (ga 0)), (1, ctv ga t1), (4, .int (iI a4)), (5, .long x6)]) => ?_)
    refine lv_iconst (v := iI 0) hx hb dX9_digestOf_49 rfl ?_
    refine x_istore hx hb dX9_digestOf_50 hl (by decide) [0, 1, 2, 3] (lv' := [(0, .ref (ga 0)), (1, ctv ga t1), (4, .int (iI a4)), (5, .long x6)]) rfl (⟨⟨Nat.ne_of_beq_eq_false rfl, Or.inl (Nat.ne_of_beq_eq_false rfl)⟩, ⟨⟨Nat.ne_of_beq_eq_false rfl, Or.inl (Nat.ne_of_beq_eq_false rfl)⟩, ⟨⟨Nat.ne_of_beq_eq_false rfl, Or.inl (Nat.ne_of_beq_eq_false rfl)⟩, ⟨⟨Nat.ne_of_beq_eq_false rfl, Or.inl (Nat.ne_of_beq_eq_false rfl)⟩, trivial⟩⟩⟩⟩) (fun ls hl => ?_)
    obtain ⟨x14, ex14, h⟩ := ob_some h
    refine L_X_digestOf_52 hx hb hr hml hown hts hlk hK hA hm ga n M t1 a4  fu x6 0 _ ex14 _ _ _ hP hD hS (lv_pk hl [1, 2, 3, 4, 0] rfl) (fun ls H locs (hP : va_P D cl (wld ga n (K 0) (K 1) M) H) (hD : va_D A (wld ga n (K 0) (K 1) M)) hS (hl : lv_has ls 8 [(0, .ref (ga 0)), (1, ctv ga t1), (4, .int (iI a4)), (5, .long x14)]) => ?_)
    refine lv_lload hx hb dX9_digestOf_87 (lv_at hl 3 rfl) ?_
    refine lv_ldc2 (v := 31) hx hb hown (hts _ w_903) dX9_digestOf_89 ?_
    refine lv_lmul hx hb dX9_digestOf_92 ?_
    refine lv_aload_n hx hb dX9_digestOf_93 rfl (lv_at hl 0 rfl) ?_
    refine t_aload_n hx hb dX9_digestOf_94 rfl (lv_at hl 1 rfl) ?_
    rw [ctv_some ga z1]
    refine r_get hx hb hts ok_RX7 hown hK hP (25 + 2 * q1) (go_th hq1) rfl 0 (by decide) w_676 (fun _ h9 => h9) rfl dX9_digestOf_95 ?_
    obtain ⟨x15, ex15, h⟩ := ob_some h
    refine gk_i (run_V (rest := [.long (x14 * (31 : Int64))]) hx hb hml hown hts hK hP hD hS hA hm (C_X_isReachable l G D K H.size ga n M (gT M q1 0) ex15) _ (full_C _) (full_n _ List.nodup_range) mok_yX9_isReachable w_931 w_892 w_893 (rcv hK hP 0 go_0 rfl rfl) ⟨Nat.le_of_ble_eq_true rfl, Nat.le_of_ble_eq_true rfl⟩ rfl hl.1 rfl (Nat.le_of_ble_eq_true rfl) dX9_digestOf_98 ⟨(Nat.le_of_ble_eq_true rfl), (Nat.le_of_ble_eq_true rfl)⟩) hP hD hS hA (fun u H locs (hP : va_P D cl (wld ga n (K 0) (K 1) x15.1) H) (hD : va_D A (wld ga n (K 0) (K 1) x15.1)) hS => ?_)
    obtain ⟨g16, h⟩ := og_some h
    by_cases c17 : x15.2 = 0
    · replace h := it_T h c17
      refine i_if_eq_T hx hb g16 (tgt := 108) dX9_digestOf_101 (by decide) c17 ?_
      refine lv_iconst (v := iI 0) hx hb dX9_digestOf_108 rfl ?_
      refine lv_i2l (v := (iI 0).toInt64) hx hb dX9_digestOf_109 rfl ?_
      refine lv_ladd hx hb dX9_digestOf_110 ?_
      refine x_lstore hx hb dX9_digestOf_111 hl (by decide) [0, 1, 2] (lv' := [(0, .ref (ga 0)), (1, ctv ga t1), (4, .int (iI a4))]) rfl (⟨⟨Nat.ne_of_beq_eq_false rfl, Nat.ne_of_beq_eq_false rfl, Or.inl (Nat.ne_of_beq_eq_false rfl)⟩, ⟨⟨Nat.ne_of_beq_eq_false rfl, Nat.ne_of_beq_eq_false rfl, Or.inl (Nat.ne_of_beq_eq_false rfl)⟩, ⟨⟨Nat.ne_of_beq_eq_false rfl, Nat.ne_of_beq_eq_false rfl, Or.inr rfl⟩, trivial⟩⟩⟩) (fun ls hl => ?_)
      refine lv_lload hx hb dX9_digestOf_113 (lv_at hl 0 rfl) ?_
      refine lv_ldc2 (v := 31) hx hb hown (hts _ w_903) dX9_digestOf_115 ?_
      refine lv_lmul hx hb dX9_digestOf_118 ?_
      refine lv_aload_n hx hb dX9_digestOf_119 rfl (lv_at hl 1 rfl) ?_
      refine r_get hx hb hts ok_RX9 hown hK hP 0 go_0 rfl 5 (by decide) w_242 (fun _ h9 => h9) rfl dX9_digestOf_120 ?_
      refine lv_iconst (v := iI 1) hx hb dX9_digestOf_123 rfl ?_
      refine t_aload_n hx hb dX9_digestOf_124 rfl (lv_at hl 2 rfl) ?_
      rw [ctv_some ga z1]
      obtain ⟨x18, ex18, h⟩ := ob_some h
      refine gk_i (run_V (rest := [.long (((x14 * (31 : Int64)) + (iI 0).toInt64) * (31 : Int64))]) hx hb hml hown hts hK hP hD hS hA hm (C_Tr_wordsFreed l G D K H.size ga n x15.1 1 (some q1) ex18) _ (full_C _) (full_n _ List.nodup_range) mok_yX8_wordsFreed w_915 w_916 w_917 (rcv hK hP 5 go_5 rfl rfl) ⟨Nat.le_of_ble_eq_true rfl, Nat.le_of_ble_eq_true rfl⟩ rfl hl.1 rfl (Nat.le_of_ble_eq_true rfl) dX9_digestOf_125 ⟨(Nat.le_of_ble_eq_true rfl), (Nat.le_of_ble_eq_true rfl)⟩) hP hD hS hA (fun u H locs (hP : va_P D cl (wld ga n (K 0) (K 1) x18.1) H) (hD : va_D A (wld ga n (K 0) (K 1) x18.1)) hS => ?_)
      refine lv_iload hx hb dX9_digestOf_128 (lv_at hl 3 rfl) ?_
      refine lv_isub hx hb dX9_digestOf_130 ?_
      refine w_toeq (iI_sub x18.2 a4) ?_
      refine lv_i2l (v := (iI (x18.2 - a4)).toInt64) hx hb dX9_digestOf_131 rfl ?_
      refine lv_ladd hx hb dX9_digestOf_132 ?_
      obtain rfl := Option.some.inj h
      exact e_l hx hb hr hlk hP hD hS (fun _ => 0) rfl (Nat.le_of_ble_eq_true rfl) (Nat.le_of_ble_eq_true rfl) rfl dX9_digestOf_133
    · replace h := it_F h c17
      refine i_if_eq_F hx hb g16 (tgt := 108) dX9_digestOf_101 (by decide) c17 ?_
      refine lv_iconst (v := iI 1) hx hb dX9_digestOf_104 rfl ?_
      refine lv_goto (tgt := 109) hx hb dX9_digestOf_105 (by decide) ?_
      refine lv_i2l (v := (iI 1).toInt64) hx hb dX9_digestOf_109 rfl ?_
      refine lv_ladd hx hb dX9_digestOf_110 ?_
      refine x_lstore hx hb dX9_digestOf_111 hl (by decide) [0, 1, 2] (lv' := [(0, .ref (ga 0)), (1, ctv ga t1), (4, .int (iI a4))]) rfl (⟨⟨Nat.ne_of_beq_eq_false rfl, Nat.ne_of_beq_eq_false rfl, Or.inl (Nat.ne_of_beq_eq_false rfl)⟩, ⟨⟨Nat.ne_of_beq_eq_false rfl, Nat.ne_of_beq_eq_false rfl, Or.inl (Nat.ne_of_beq_eq_false rfl)⟩, ⟨⟨Nat.ne_of_beq_eq_false rfl, Nat.ne_of_beq_eq_false rfl, Or.inr rfl⟩, trivial⟩⟩⟩) (fun ls hl => ?_)
      refine lv_lload hx hb dX9_digestOf_113 (lv_at hl 0 rfl) ?_
      refine lv_ldc2 (v := 31) hx hb hown (hts _ w_903) dX9_digestOf_115 ?_
      refine lv_lmul hx hb dX9_digestOf_118 ?_
      refine lv_aload_n hx hb dX9_digestOf_119 rfl (lv_at hl 1 rfl) ?_
      refine r_get hx hb hts ok_RX9 hown hK hP 0 go_0 rfl 5 (by decide) w_242 (fun _ h9 => h9) rfl dX9_digestOf_120 ?_
      refine lv_iconst (v := iI 1) hx hb dX9_digestOf_123 rfl ?_
      refine t_aload_n hx hb dX9_digestOf_124 rfl (lv_at hl 2 rfl) ?_
      rw [ctv_some ga z1]
      obtain ⟨x19, ex19, h⟩ := ob_some h
      refine gk_i (run_V (rest := [.long (((x14 * (31 : Int64)) + (iI 1).toInt64) * (31 : Int64))]) hx hb hml hown hts hK hP hD hS hA hm (C_Tr_wordsFreed l G D K H.size ga n x15.1 1 (some q1) ex19) _ (full_C _) (full_n _ List.nodup_range) mok_yX8_wordsFreed w_915 w_916 w_917 (rcv hK hP 5 go_5 rfl rfl) ⟨Nat.le_of_ble_eq_true rfl, Nat.le_of_ble_eq_true rfl⟩ rfl hl.1 rfl (Nat.le_of_ble_eq_true rfl) dX9_digestOf_125 ⟨(Nat.le_of_ble_eq_true rfl), (Nat.le_of_ble_eq_true rfl)⟩) hP hD hS hA (fun u H locs (hP : va_P D cl (wld ga n (K 0) (K 1) x19.1) H) (hD : va_D A (wld ga n (K 0) (K 1) x19.1)) hS => ?_)
      refine lv_iload hx hb dX9_digestOf_128 (lv_at hl 3 rfl) ?_
      refine lv_isub hx hb dX9_digestOf_130 ?_
      refine w_toeq (iI_sub x19.2 a4) ?_
      refine lv_i2l (v := (iI (x19.2 - a4)).toInt64) hx hb dX9_digestOf_131 rfl ?_
      refine lv_ladd hx hb dX9_digestOf_132 ?_
      obtain rfl := Option.some.inj h
      exact e_l hx hb hr hlk hP hD hS (fun _ => 0) rfl (Nat.le_of_ble_eq_true rfl) (Nat.le_of_ble_eq_true rfl) rfl dX9_digestOf_133
def s_X_digest_6 (rec : Int64 → Int → Option (Int64)) (n : Nat) (M : cSt)  (v1 : Int64) (v3 : Int) : Option (Int64) := og (inR v3) (if v3 < 16 then ob (f_X_many n M v3) (fun x3 => rec ((v1 * (31 : Int64)) + (iI x3).toInt64) (v3 + 1)) else some v1)
def g_X_digest_6 (n : Nat) (M : cSt)  : Nat → Int64 → Int → Option (Int64)
  | 0 => fun _ _ => none
  | q + 1 => s_X_digest_6 (g_X_digest_6 n M  q) n M 
set_option maxHeartbeats 4000000 in
set_option maxRecDepth 100000 in
theorem L_X_digest_6 {p : Program} {l : Launch} {G : Nat → Nat} {D : va_G} {K : Nat → ClassId} {e : Env} {s : State} {m : MethodId} {args : Array Value} {below : List Frame} {meth : Method} {c : Code} {A : Nat → Prop} (hx : p.tables.exec = Jvm.exec) (hb : c.code = cX9_digest) (hr : meth.sig.returnType = (some FieldType.long)) (hml : c.maxLocals = 6) (hown : s.vm.findClass RX9 = some m.cls) (hts : ∀ w ∈ lw_gw, w.before args s = true) (hlk : meth.locks = false) (hK : va_K D cl (tys K) s) (hA : ∀ q : Nat, s.heap.size ≤ q → A q) (hm : Amb G A s s.heap) {Q : State → Prop} (ga : Nat → Nat) (n : Nat) (M : cSt)  : ∀ (q : Nat) (v1 : Int64) (v3 : Int) (out : Int64), g_X_digest_6 n M  q v1 v3 = some out → ∀ (ls : Array Slot) (H : Heap) (locs : List Loc), va_P D cl (wld ga n (K 0) (K 1) M) H → va_D A (wld ga n (K 0) (K 1) M) → va_S A s.heap H locs → lv_has ls 6 [(0, .ref (ga 0)), (1, .long v1), (3, .int (iI v3))] → (∀ (ls : Array Slot) (H : Heap) (locs : List Loc), va_P D cl (wld ga n (K 0) (K 1) M) H → va_D A (wld ga n (K 0) (K 1) M) → va_S A s.heap H locs → lv_has ls 6 [(0, .ref (ga 0)), (1, .long out)] → W p l e ({ frames := 6, cells := 0, slots := 0, locals := 139 } : Room) s m args below meth c H locs 0 0 Q (F0 m 31 ls [])) → W p l e ({ frames := 6, cells := 0, slots := 0, locals := 139 } : Room) s m args below meth c H locs 0 0 Q (F0 m 6 ls []) := by
  intro q
  induction q with
  | zero =>
    intro v1 v3 out h
    cases (show none = some out from h)
  | succ q ih =>
    intro v1 v3 out h ls H locs hP hD hS hl kk
    replace h : s_X_digest_6 (g_X_digest_6 n M  q) n M  v1 v3 = some out := h
    unfold s_X_digest_6 at h
    refine lv_iload_n hx hb dX9_digest_6 rfl (lv_at hl 2 rfl) ?_
    refine lv_bipush (v := iI 16) hx hb dX9_digest_7 rfl ?_
    obtain ⟨g1, h⟩ := og_some h
    by_cases c2 : v3 < 16
    · replace h := it_T h c2
      refine i_icmp_ge_F hx hb g1 ⟨by decide, by decide⟩ (tgt := 31) dX9_digest_9 (by decide) c2 ?_
      refine lv_lload_n hx hb dX9_digest_12 rfl (lv_at hl 1 rfl) ?_
      refine lv_ldc2 (v := 31) hx hb hown (hts _ w_903) dX9_digest_13 ?_
      refine lv_lmul hx hb dX9_digest_16 ?_
      refine lv_aload_n hx hb dX9_digest_17 rfl (lv_at hl 0 rfl) ?_
      refine lv_iload_n hx hb dX9_digest_18 rfl (lv_at hl 2 rfl) ?_
      obtain ⟨x3, ex3, h⟩ := ob_some h
      refine gk_i (run_V (rest := [.long (v1 * (31 : Int64))]) hx hb hml hown hts hK hP hD hS hA hm (C_X_many l G D K H.size ga n M v3 ex3) _ (full_C _) (full_n _ List.nodup_range) mok_yX9_many w_904 w_868 w_869 (rcv hK hP 0 go_0 rfl rfl) ⟨Nat.le_of_ble_eq_true rfl, Nat.le_of_ble_eq_true rfl⟩ rfl hl.1 rfl (Nat.le_of_ble_eq_true rfl) dX9_digest_19 ⟨(Nat.le_of_ble_eq_true rfl), (Nat.le_of_ble_eq_true rfl)⟩) hP hD hS hA (fun u H locs (hP : va_P D cl (wld ga n (K 0) (K 1) M) H) (hD : va_D A (wld ga n (K 0) (K 1) M)) hS => ?_)
      refine lv_i2l (v := (iI x3).toInt64) hx hb dX9_digest_22 rfl ?_
      refine lv_ladd hx hb dX9_digest_23 ?_
      refine x_lstore_n hx hb dX9_digest_24 rfl hl (by decide) [0, 2] (lv' := [(0, .ref (ga 0)), (3, .int (iI v3))]) rfl (⟨⟨Nat.ne_of_beq_eq_false rfl, Nat.ne_of_beq_eq_false rfl, Or.inr rfl⟩, ⟨⟨Nat.ne_of_beq_eq_false rfl, Nat.ne_of_beq_eq_false rfl, Or.inl (Nat.ne_of_beq_eq_false rfl)⟩, trivial⟩⟩) (fun ls hl => ?_)
      refine x_iinc (v := iI (v3 + 1)) hx hb dX9_digest_25 hl (k := 2) rfl (iI_add v3 1) (by decide) [0, 1] (lv' := [(1, .long ((v1 * (31 : Int64)) + (iI x3).toInt64)), (0, .ref (ga 0))]) rfl (⟨⟨Nat.ne_of_beq_eq_false rfl, Or.inl (Nat.ne_of_beq_eq_false rfl)⟩, ⟨⟨Nat.ne_of_beq_eq_false rfl, Or.inl (Nat.ne_of_beq_eq_false rfl)⟩, trivial⟩⟩) (fun ls hl => ?_)
      refine lv_goto (tgt := 6) hx hb dX9_digest_28 (by decide) ?_
      exact ih ((v1 * (31 : Int64)) + (iI x3).toInt64) (v3 + 1) _ h _ _ _ hP hD hS (lv_pk hl [2, 1, 0] rfl) kk
    · replace h := it_F h c2
      refine i_icmp_ge_T hx hb g1 ⟨by decide, by decide⟩ (tgt := 31) dX9_digest_9 (by decide) c2 ?_
      obtain rfl := Option.some.inj h
      exact kk _ _ _ hP hD hS (lv_pk hl [0, 1] rfl)
def s_X_digest_33 (rec : Int64 → Int → Option (Int64)) (n : Nat) (M : cSt)  (v1 : Int64) (v3 : Int) : Option (Int64) := ob (f_Row_size n M 1) (fun x5 => og (inR v3) (og (inR x5) (if v3 < x5 then ob (f_X_queue n M v3) (fun x9 => rec ((v1 * (31 : Int64)) + (iI x9).toInt64) (v3 + 1)) else some v1)))
def g_X_digest_33 (n : Nat) (M : cSt)  : Nat → Int64 → Int → Option (Int64)
  | 0 => fun _ _ => none
  | q + 1 => s_X_digest_33 (g_X_digest_33 n M  q) n M 
set_option maxHeartbeats 4000000 in
set_option maxRecDepth 100000 in
theorem L_X_digest_33 {p : Program} {l : Launch} {G : Nat → Nat} {D : va_G} {K : Nat → ClassId} {e : Env} {s : State} {m : MethodId} {args : Array Value} {below : List Frame} {meth : Method} {c : Code} {A : Nat → Prop} (hx : p.tables.exec = Jvm.exec) (hb : c.code = cX9_digest) (hr : meth.sig.returnType = (some FieldType.long)) (hml : c.maxLocals = 6) (hown : s.vm.findClass RX9 = some m.cls) (hts : ∀ w ∈ lw_gw, w.before args s = true) (hlk : meth.locks = false) (hK : va_K D cl (tys K) s) (hA : ∀ q : Nat, s.heap.size ≤ q → A q) (hm : Amb G A s s.heap) {Q : State → Prop} (ga : Nat → Nat) (n : Nat) (M : cSt)  : ∀ (q : Nat) (v1 : Int64) (v3 : Int) (out : Int64), g_X_digest_33 n M  q v1 v3 = some out → ∀ (ls : Array Slot) (H : Heap) (locs : List Loc), va_P D cl (wld ga n (K 0) (K 1) M) H → va_D A (wld ga n (K 0) (K 1) M) → va_S A s.heap H locs → lv_has ls 6 [(0, .ref (ga 0)), (1, .long v1), (3, .int (iI v3))] → (∀ (ls : Array Slot) (H : Heap) (locs : List Loc), va_P D cl (wld ga n (K 0) (K 1) M) H → va_D A (wld ga n (K 0) (K 1) M) → va_S A s.heap H locs → lv_has ls 6 [(0, .ref (ga 0)), (1, .long out)] → W p l e ({ frames := 6, cells := 0, slots := 0, locals := 139 } : Room) s m args below meth c H locs 0 0 Q (F0 m 66 ls [])) → W p l e ({ frames := 6, cells := 0, slots := 0, locals := 139 } : Room) s m args below meth c H locs 0 0 Q (F0 m 33 ls []) := by
  intro q
  induction q with
  | zero =>
    intro v1 v3 out h
    cases (show none = some out from h)
  | succ q ih =>
    intro v1 v3 out h ls H locs hP hD hS hl kk
    replace h : s_X_digest_33 (g_X_digest_33 n M  q) n M  v1 v3 = some out := h
    unfold s_X_digest_33 at h
    refine lv_iload_n hx hb dX9_digest_33 rfl (lv_at hl 2 rfl) ?_
    refine lv_aload_n hx hb dX9_digest_34 rfl (lv_at hl 0 rfl) ?_
    refine r_get hx hb hts ok_RX9 hown hK hP 0 go_0 rfl 1 (by decide) w_238 (fun _ h9 => h9) rfl dX9_digest_35 ?_
    refine r_get hx hb hts ok_RX4 hown hK hP 1 go_1 rfl 0 (by decide) w_53 (fun _ h9 => h9) rfl dX9_digest_38 ?_
    obtain ⟨x5, ex5, h⟩ := ob_some h
    refine gk_i (run_V (rest := [.int (iI v3)]) hx hb hml hown hts hK hP hD hS hA hm (C_Row_size l G D K H.size ga n M 1 (by decide) ex5) _ (full_C _) (full_n _ List.nodup_range) mok_yX5_size w_404 w_405 w_406 (rcv hK hP (8 + 1) (go_ro (by decide)) rfl rfl) ⟨Nat.le_of_ble_eq_true rfl, Nat.le_of_ble_eq_true rfl⟩ rfl hl.1 rfl (Nat.le_of_ble_eq_true rfl) dX9_digest_41 ⟨(Nat.le_of_ble_eq_true rfl), (Nat.le_of_ble_eq_true rfl)⟩) hP hD hS hA (fun u H locs (hP : va_P D cl (wld ga n (K 0) (K 1) M) H) (hD : va_D A (wld ga n (K 0) (K 1) M)) hS => ?_)
    obtain ⟨g6, h⟩ := og_some h
    obtain ⟨g7, h⟩ := og_some h
    by_cases c8 : v3 < x5
    · replace h := it_T h c8
      refine i_icmp_ge_F hx hb g6 g7 (tgt := 66) dX9_digest_44 (by decide) c8 ?_
      refine lv_lload_n hx hb dX9_digest_47 rfl (lv_at hl 1 rfl) ?_
      refine lv_ldc2 (v := 31) hx hb hown (hts _ w_903) dX9_digest_48 ?_
      refine lv_lmul hx hb dX9_digest_51 ?_
      refine lv_aload_n hx hb dX9_digest_52 rfl (lv_at hl 0 rfl) ?_
      refine lv_iload_n hx hb dX9_digest_53 rfl (lv_at hl 2 rfl) ?_
      obtain ⟨x9, ex9, h⟩ := ob_some h
      refine gk_i (run_V (rest := [.long (v1 * (31 : Int64))]) hx hb hml hown hts hK hP hD hS hA hm (C_X_queue l G D K H.size ga n M v3 ex9) _ (full_C _) (full_n _ List.nodup_range) mok_yX9_queue w_905 w_906 w_907 (rcv hK hP 0 go_0 rfl rfl) ⟨Nat.le_of_ble_eq_true rfl, Nat.le_of_ble_eq_true rfl⟩ rfl hl.1 rfl (Nat.le_of_ble_eq_true rfl) dX9_digest_54 ⟨(Nat.le_of_ble_eq_true rfl), (Nat.le_of_ble_eq_true rfl)⟩) hP hD hS hA (fun u H locs (hP : va_P D cl (wld ga n (K 0) (K 1) M) H) (hD : va_D A (wld ga n (K 0) (K 1) M)) hS => ?_)
      refine lv_i2l (v := (iI x9).toInt64) hx hb dX9_digest_57 rfl ?_
      refine lv_ladd hx hb dX9_digest_58 ?_
      refine x_lstore_n hx hb dX9_digest_59 rfl hl (by decide) [0, 2] (lv' := [(0, .ref (ga 0)), (3, .int (iI v3))]) rfl (⟨⟨Nat.ne_of_beq_eq_false rfl, Nat.ne_of_beq_eq_false rfl, Or.inr rfl⟩, ⟨⟨Nat.ne_of_beq_eq_false rfl, Nat.ne_of_beq_eq_false rfl, Or.inl (Nat.ne_of_beq_eq_false rfl)⟩, trivial⟩⟩) (fun ls hl => ?_)
      refine x_iinc (v := iI (v3 + 1)) hx hb dX9_digest_60 hl (k := 2) rfl (iI_add v3 1) (by decide) [0, 1] (lv' := [(1, .long ((v1 * (31 : Int64)) + (iI x9).toInt64)), (0, .ref (ga 0))]) rfl (⟨⟨Nat.ne_of_beq_eq_false rfl, Or.inl (Nat.ne_of_beq_eq_false rfl)⟩, ⟨⟨Nat.ne_of_beq_eq_false rfl, Or.inl (Nat.ne_of_beq_eq_false rfl)⟩, trivial⟩⟩) (fun ls hl => ?_)
      refine lv_goto (tgt := 33) hx hb dX9_digest_63 (by decide) ?_
      exact ih ((v1 * (31 : Int64)) + (iI x9).toInt64) (v3 + 1) _ h _ _ _ hP hD hS (lv_pk hl [2, 1, 0] rfl) kk
    · replace h := it_F h c8
      refine i_icmp_ge_T hx hb g6 g7 (tgt := 66) dX9_digest_44 (by decide) c8 ?_
      obtain rfl := Option.some.inj h
      exact kk _ _ _ hP hD hS (lv_pk hl [0, 1] rfl)
def s_X_digest_68 (rec : Int64 → Int → Option (Int64)) (n : Nat) (M : cSt)  (v1 : Int64) (v3 : Int) : Option (Int64) := og (inR v3) (if v3 < 4 then ob (f_X_at n M v3) (fun x13 => rec ((v1 * (31 : Int64)) + (iI x13).toInt64) (v3 + 1)) else some v1)
def g_X_digest_68 (n : Nat) (M : cSt)  : Nat → Int64 → Int → Option (Int64)
  | 0 => fun _ _ => none
  | q + 1 => s_X_digest_68 (g_X_digest_68 n M  q) n M 
set_option maxHeartbeats 4000000 in
set_option maxRecDepth 100000 in
theorem L_X_digest_68 {p : Program} {l : Launch} {G : Nat → Nat} {D : va_G} {K : Nat → ClassId} {e : Env} {s : State} {m : MethodId} {args : Array Value} {below : List Frame} {meth : Method} {c : Code} {A : Nat → Prop} (hx : p.tables.exec = Jvm.exec) (hb : c.code = cX9_digest) (hr : meth.sig.returnType = (some FieldType.long)) (hml : c.maxLocals = 6) (hown : s.vm.findClass RX9 = some m.cls) (hts : ∀ w ∈ lw_gw, w.before args s = true) (hlk : meth.locks = false) (hK : va_K D cl (tys K) s) (hA : ∀ q : Nat, s.heap.size ≤ q → A q) (hm : Amb G A s s.heap) {Q : State → Prop} (ga : Nat → Nat) (n : Nat) (M : cSt)  : ∀ (q : Nat) (v1 : Int64) (v3 : Int) (out : Int64), g_X_digest_68 n M  q v1 v3 = some out → ∀ (ls : Array Slot) (H : Heap) (locs : List Loc), va_P D cl (wld ga n (K 0) (K 1) M) H → va_D A (wld ga n (K 0) (K 1) M) → va_S A s.heap H locs → lv_has ls 6 [(0, .ref (ga 0)), (1, .long v1), (3, .int (iI v3))] → (∀ (ls : Array Slot) (H : Heap) (locs : List Loc), va_P D cl (wld ga n (K 0) (K 1) M) H → va_D A (wld ga n (K 0) (K 1) M) → va_S A s.heap H locs → lv_has ls 6 [(0, .ref (ga 0)), (1, .long out)] → W p l e ({ frames := 6, cells := 0, slots := 0, locals := 139 } : Room) s m args below meth c H locs 0 0 Q (F0 m 92 ls [])) → W p l e ({ frames := 6, cells := 0, slots := 0, locals := 139 } : Room) s m args below meth c H locs 0 0 Q (F0 m 68 ls []) := by
  intro q
  induction q with
  | zero =>
    intro v1 v3 out h
    cases (show none = some out from h)
  | succ q ih =>
    intro v1 v3 out h ls H locs hP hD hS hl kk
    replace h : s_X_digest_68 (g_X_digest_68 n M  q) n M  v1 v3 = some out := h
    unfold s_X_digest_68 at h
    refine lv_iload_n hx hb dX9_digest_68 rfl (lv_at hl 2 rfl) ?_
    refine lv_iconst (v := iI 4) hx hb dX9_digest_69 rfl ?_
    obtain ⟨g11, h⟩ := og_some h
    by_cases c12 : v3 < 4
    · replace h := it_T h c12
      refine i_icmp_ge_F hx hb g11 ⟨by decide, by decide⟩ (tgt := 92) dX9_digest_70 (by decide) c12 ?_
      refine lv_lload_n hx hb dX9_digest_73 rfl (lv_at hl 1 rfl) ?_
      refine lv_ldc2 (v := 31) hx hb hown (hts _ w_903) dX9_digest_74 ?_
      refine lv_lmul hx hb dX9_digest_77 ?_
      refine lv_aload_n hx hb dX9_digest_78 rfl (lv_at hl 0 rfl) ?_
      refine lv_iload_n hx hb dX9_digest_79 rfl (lv_at hl 2 rfl) ?_
      obtain ⟨x13, ex13, h⟩ := ob_some h
      refine gk_i (run_V (rest := [.long (v1 * (31 : Int64))]) hx hb hml hown hts hK hP hD hS hA hm (C_X_at l G D K H.size ga n M v3 ex13) _ (full_C _) (full_n _ List.nodup_range) mok_yX9_at w_910 w_845 w_846 (rcv hK hP 0 go_0 rfl rfl) ⟨Nat.le_of_ble_eq_true rfl, Nat.le_of_ble_eq_true rfl⟩ rfl hl.1 rfl (Nat.le_of_ble_eq_true rfl) dX9_digest_80 ⟨(Nat.le_of_ble_eq_true rfl), (Nat.le_of_ble_eq_true rfl)⟩) hP hD hS hA (fun u H locs (hP : va_P D cl (wld ga n (K 0) (K 1) M) H) (hD : va_D A (wld ga n (K 0) (K 1) M)) hS => ?_)
      refine lv_i2l (v := (iI x13).toInt64) hx hb dX9_digest_83 rfl ?_
      refine lv_ladd hx hb dX9_digest_84 ?_
      refine x_lstore_n hx hb dX9_digest_85 rfl hl (by decide) [0, 2] (lv' := [(0, .ref (ga 0)), (3, .int (iI v3))]) rfl (⟨⟨Nat.ne_of_beq_eq_false rfl, Nat.ne_of_beq_eq_false rfl, Or.inr rfl⟩, ⟨⟨Nat.ne_of_beq_eq_false rfl, Nat.ne_of_beq_eq_false rfl, Or.inl (Nat.ne_of_beq_eq_false rfl)⟩, trivial⟩⟩) (fun ls hl => ?_)
      refine x_iinc (v := iI (v3 + 1)) hx hb dX9_digest_86 hl (k := 2) rfl (iI_add v3 1) (by decide) [0, 1] (lv' := [(1, .long ((v1 * (31 : Int64)) + (iI x13).toInt64)), (0, .ref (ga 0))]) rfl (⟨⟨Nat.ne_of_beq_eq_false rfl, Or.inl (Nat.ne_of_beq_eq_false rfl)⟩, ⟨⟨Nat.ne_of_beq_eq_false rfl, Or.inl (Nat.ne_of_beq_eq_false rfl)⟩, trivial⟩⟩) (fun ls hl => ?_)
      refine lv_goto (tgt := 68) hx hb dX9_digest_89 (by decide) ?_
      exact ih ((v1 * (31 : Int64)) + (iI x13).toInt64) (v3 + 1) _ h _ _ _ hP hD hS (lv_pk hl [2, 1, 0] rfl) kk
    · replace h := it_F h c12
      refine i_icmp_ge_T hx hb g11 ⟨by decide, by decide⟩ (tgt := 92) dX9_digest_70 (by decide) c12 ?_
      obtain rfl := Option.some.inj h
      exact kk _ _ _ hP hD hS (lv_pk hl [0, 1] rfl)
def s_X_digest_101 (rec : cSt → Int64 → Int → Option (cSt × Int64)) (n : Nat) (v3 : Int) (M : cSt) (v1 : Int64) (v4 : Int) : Option (cSt × Int64) := ob (f_Row_size n M 0) (fun x16 => og (inR v4) (og (inR x16) (if v4 < x16 then ob (f_Row_item n M 0 v4) (fun x20 => on x20 (rec M v1 (v4 + 1)) (fun q21 => og (q21 < n) (og (inR (gT M q21 3)) (if gT M q21 3 = 0 then rec M v1 (v4 + 1) else ob (f_X_digestOf n M (some q21) v1 v3) (fun x24 => rec x24.1 x24.2 (v4 + 1)))))) else some (M, v1))))
def g_X_digest_101 (n : Nat) (v3 : Int) : Nat → cSt → Int64 → Int → Option (cSt × Int64)
  | 0 => fun _ _ _ => none
  | q + 1 => s_X_digest_101 (g_X_digest_101 n v3 q) n v3
set_option maxHeartbeats 4000000 in
set_option maxRecDepth 100000 in
theorem L_X_digest_101 {p : Program} {l : Launch} {G : Nat → Nat} {D : va_G} {K : Nat → ClassId} {e : Env} {s : State} {m : MethodId} {args : Array Value} {below : List Frame} {meth : Method} {c : Code} {A : Nat → Prop} (hx : p.tables.exec = Jvm.exec) (hb : c.code = cX9_digest) (hr : meth.sig.returnType = (some FieldType.long)) (hml : c.maxLocals = 6) (hown : s.vm.findClass RX9 = some m.cls) (hts : ∀ w ∈ lw_gw, w.before args s = true) (hlk : meth.locks = false) (hK : va_K D cl (tys K) s) (hA : ∀ q : Nat, s.heap.size ≤ q → A q) (hm : Amb G A s s.heap) {Q : State → Prop} (ga : Nat → Nat) (n : Nat) (v3 : Int) : ∀ (q : Nat) (M : cSt) (v1 : Int64) (v4 : Int) (out : cSt × Int64), g_X_digest_101 n v3 q M v1 v4 = some out → ∀ (ls : Array Slot) (H : Heap) (locs : List Loc), va_P D cl (wld ga n (K 0) (K 1) M) H → va_D A (wld ga n (K 0) (K 1) M) → va_S A s.heap H locs → lv_has ls 6 [(0, .ref (ga 0)), (1, .long v1), (3, .int (iI v3)), (4, .int (iI v4))] → (∀ (ls : Array Slot) (H : Heap) (locs : List Loc), va_P D cl (wld ga n (K 0) (K 1) out.1) H → va_D A (wld ga n (K 0) (K 1) out.1) → va_S A s.heap H locs → lv_has ls 6 [(0, .ref (ga 0)), (1, .long out.2), (3, .int (iI v3))] → W p l e ({ frames := 6, cells := 0, slots := 0, locals := 139 } : Room) s m args below meth c H locs 0 0 Q (F0 m 152 ls [])) → W p l e ({ frames := 6, cells := 0, slots := 0, locals := 139 } : Room) s m args below meth c H locs 0 0 Q (F0 m 101 ls []) := by
  intro q
  induction q with
  | zero =>
    intro M v1 v4 out h
    cases (show none = some out from h)
  | succ q ih =>
    intro M v1 v4 out h ls H locs hP hD hS hl kk
    replace h : s_X_digest_101 (g_X_digest_101 n v3 q) n v3 M v1 v4 = some out := h
    unfold s_X_digest_101 at h
    refine lv_iload hx hb dX9_digest_101 (lv_at hl 3 rfl) ?_
    refine lv_aload_n hx hb dX9_digest_103 rfl (lv_at hl 0 rfl) ?_
    refine r_get hx hb hts ok_RX9 hown hK hP 0 go_0 rfl 0 (by decide) w_237 (fun _ h9 => h9) rfl dX9_digest_104 ?_
    obtain ⟨x16, ex16, h⟩ := ob_some h
    refine gk_i (run_V (rest := [.int (iI v4)]) hx hb hml hown hts hK hP hD hS hA hm (C_Row_size l G D K H.size ga n M 0 (by decide) ex16) _ (full_C _) (full_n _ List.nodup_range) mok_yX5_size w_404 w_405 w_406 (rcv hK hP (8 + 0) (go_ro (by decide)) rfl rfl) ⟨Nat.le_of_ble_eq_true rfl, Nat.le_of_ble_eq_true rfl⟩ rfl hl.1 rfl (Nat.le_of_ble_eq_true rfl) dX9_digest_107 ⟨(Nat.le_of_ble_eq_true rfl), (Nat.le_of_ble_eq_true rfl)⟩) hP hD hS hA (fun u H locs (hP : va_P D cl (wld ga n (K 0) (K 1) M) H) (hD : va_D A (wld ga n (K 0) (K 1) M)) hS => ?_)
    obtain ⟨g17, h⟩ := og_some h
    obtain ⟨g18, h⟩ := og_some h
    by_cases c19 : v4 < x16
    · replace h := it_T h c19
      refine i_icmp_ge_F hx hb g17 g18 (tgt := 152) dX9_digest_110 (by decide) c19 ?_
      refine lv_aload_n hx hb dX9_digest_113 rfl (lv_at hl 0 rfl) ?_
      refine r_get hx hb hts ok_RX9 hown hK hP 0 go_0 rfl 0 (by decide) w_237 (fun _ h9 => h9) rfl dX9_digest_114 ?_
      refine lv_iload hx hb dX9_digest_117 (lv_at hl 3 rfl) ?_
      obtain ⟨x20, ex20, h⟩ := ob_some h
      refine gk_q (run_V (rest := []) hx hb hml hown hts hK hP hD hS hA hm (C_Row_item l G D K H.size ga n M 0 (by decide) v4 ex20) _ (full_C _) (full_n _ List.nodup_range) mok_yX5_item w_856 w_419 w_420 (rcv hK hP (8 + 0) (go_ro (by decide)) rfl rfl) ⟨Nat.le_of_ble_eq_true rfl, Nat.le_of_ble_eq_true rfl⟩ rfl hl.1 rfl (Nat.le_of_ble_eq_true rfl) dX9_digest_119 ⟨(Nat.le_of_ble_eq_true rfl), (Nat.le_of_ble_eq_true rfl)⟩) hP hD hS hA (fun u H locs (hP : va_P D cl (wld ga n (K 0) (K 1) M) H) (hD : va_D A (wld ga n (K 0) (K 1) M)) hS => ?_)
      refine w_tov (y := ctv ga x20) rfl ?_
      refine t_astore hx hb dX9_digest_122 hl (by decide) [0, 1, 2, 3] (lv' := [(0, .ref (ga 0)), (1, .long v1), (3, .int (iI v3)), (4, .int (iI v4))]) rfl (⟨⟨Nat.ne_of_beq_eq_false rfl, Or.inl (Nat.ne_of_beq_eq_false rfl)⟩, ⟨⟨Nat.ne_of_beq_eq_false rfl, Or.inl (Nat.ne_of_beq_eq_false rfl)⟩, ⟨⟨Nat.ne_of_beq_eq_false rfl, Or.inl (Nat.ne_of_beq_eq_false rfl)⟩, ⟨⟨Nat.ne_of_beq_eq_false rfl, Or.inr rfl⟩, trivial⟩⟩⟩⟩) (fun ls hl => ?_)
      refine t_aload hx hb dX9_digest_124 (lv_at hl 0 rfl) ?_
      rcases on_cases h with ⟨z21, h⟩ | ⟨q21, z21, h⟩
      · rw [ctv_none ga z21]
        refine lv_ifnullN (tgt := 146) hx hb dX9_digest_126 (by decide) ?_
        refine x_iinc (v := iI (v4 + 1)) hx hb dX9_digest_146 hl (k := 4) rfl (iI_add v4 1) (by decide) [0, 1, 2, 3] (lv' := [(5, ctv ga x20), (0, .ref (ga 0)), (1, .long v1), (3, .int (iI v3))]) rfl (⟨⟨Nat.ne_of_beq_eq_false rfl, Or.inl (Nat.ne_of_beq_eq_false rfl)⟩, ⟨⟨Nat.ne_of_beq_eq_false rfl, Or.inl (Nat.ne_of_beq_eq_false rfl)⟩, ⟨⟨Nat.ne_of_beq_eq_false rfl, Or.inl (Nat.ne_of_beq_eq_false rfl)⟩, ⟨⟨Nat.ne_of_beq_eq_false rfl, Or.inr rfl⟩, trivial⟩⟩⟩⟩) (fun ls hl => ?_)
        refine lv_goto (tgt := 101) hx hb dX9_digest_149 (by decide) ?_
        exact ih M v1 (v4 + 1) _ h _ _ _ hP hD hS (lv_pk hl [2, 3, 4, 0] rfl) kk
      · obtain ⟨hq21, h⟩ := og_some h
        rw [ctv_some ga z21]
        refine lv_ifnull hx hb dX9_digest_126 ?_
        refine t_aload hx hb dX9_digest_129 (lv_at hl 0 rfl) ?_
        rw [ctv_some ga z21]
        refine r_get hx hb hts ok_RX7 hown hK hP (25 + 2 * q21) (go_th hq21) rfl 3 (by decide) w_691 (fun _ h9 => h9) rfl dX9_digest_131 ?_
        obtain ⟨g22, h⟩ := og_some h
        by_cases c23 : gT M q21 3 = 0
        · replace h := it_T h c23
          refine i_if_eq_T hx hb g22 (tgt := 146) dX9_digest_134 (by decide) c23 ?_
          refine x_iinc (v := iI (v4 + 1)) hx hb dX9_digest_146 hl (k := 4) rfl (iI_add v4 1) (by decide) [0, 1, 2, 3] (lv' := [(5, ctv ga x20), (0, .ref (ga 0)), (1, .long v1), (3, .int (iI v3))]) rfl (⟨⟨Nat.ne_of_beq_eq_false rfl, Or.inl (Nat.ne_of_beq_eq_false rfl)⟩, ⟨⟨Nat.ne_of_beq_eq_false rfl, Or.inl (Nat.ne_of_beq_eq_false rfl)⟩, ⟨⟨Nat.ne_of_beq_eq_false rfl, Or.inl (Nat.ne_of_beq_eq_false rfl)⟩, ⟨⟨Nat.ne_of_beq_eq_false rfl, Or.inr rfl⟩, trivial⟩⟩⟩⟩) (fun ls hl => ?_)
          refine lv_goto (tgt := 101) hx hb dX9_digest_149 (by decide) ?_
          exact ih M v1 (v4 + 1) _ h _ _ _ hP hD hS (lv_pk hl [2, 3, 4, 0] rfl) kk
        · replace h := it_F h c23
          refine i_if_eq_F hx hb g22 (tgt := 146) dX9_digest_134 (by decide) c23 ?_
          refine lv_aload_n hx hb dX9_digest_137 rfl (lv_at hl 1 rfl) ?_
          refine t_aload hx hb dX9_digest_138 (lv_at hl 0 rfl) ?_
          rw [ctv_some ga z21]
          refine lv_lload_n hx hb dX9_digest_140 rfl (lv_at hl 2 rfl) ?_
          refine lv_iload_n hx hb dX9_digest_141 rfl (lv_at hl 3 rfl) ?_
          obtain ⟨x24, ex24, h⟩ := ob_some h
          refine gk_l (run_V (rest := []) hx hb hml hown hts hK hP hD hS hA hm (C_X_digestOf l G D K H.size ga n M (some q21) v1 v3 ex24) _ (full_C _) (full_n _ List.nodup_range) mok_yX9_digestOf w_926 w_928 w_p24 (rcv hK hP 0 go_0 rfl rfl) ⟨Nat.le_of_ble_eq_true rfl, Nat.le_of_ble_eq_true rfl⟩ rfl hl.1 rfl (Nat.le_of_ble_eq_true rfl) dX9_digest_142 ⟨(Nat.le_of_ble_eq_true rfl), (Nat.le_of_ble_eq_true rfl)⟩) hP hD hS hA (fun u H locs (hP : va_P D cl (wld ga n (K 0) (K 1) x24.1) H) (hD : va_D A (wld ga n (K 0) (K 1) x24.1)) hS => ?_)
          refine x_lstore_n hx hb dX9_digest_145 rfl hl (by decide) [0, 1, 3, 4] (lv' := [(5, ctv ga x20), (0, .ref (ga 0)), (3, .int (iI v3)), (4, .int (iI v4))]) rfl (⟨⟨Nat.ne_of_beq_eq_false rfl, Nat.ne_of_beq_eq_false rfl, Or.inl (Nat.ne_of_beq_eq_false rfl)⟩, ⟨⟨Nat.ne_of_beq_eq_false rfl, Nat.ne_of_beq_eq_false rfl, Or.inr rfl⟩, ⟨⟨Nat.ne_of_beq_eq_false rfl, Nat.ne_of_beq_eq_false rfl, Or.inl (Nat.ne_of_beq_eq_false rfl)⟩, ⟨⟨Nat.ne_of_beq_eq_false rfl, Nat.ne_of_beq_eq_false rfl, Or.inl (Nat.ne_of_beq_eq_false rfl)⟩, trivial⟩⟩⟩⟩) (fun ls hl => ?_)
          refine x_iinc (v := iI (v4 + 1)) hx hb dX9_digest_146 hl (k := 4) rfl (iI_add v4 1) (by decide) [0, 1, 2, 3] (lv' := [(1, .long x24.2), (5, ctv ga x20), (0, .ref (ga 0)), (3, .int (iI v3))]) rfl (⟨⟨Nat.ne_of_beq_eq_false rfl, Or.inl (Nat.ne_of_beq_eq_false rfl)⟩, ⟨⟨Nat.ne_of_beq_eq_false rfl, Or.inl (Nat.ne_of_beq_eq_false rfl)⟩, ⟨⟨Nat.ne_of_beq_eq_false rfl, Or.inl (Nat.ne_of_beq_eq_false rfl)⟩, ⟨⟨Nat.ne_of_beq_eq_false rfl, Or.inr rfl⟩, trivial⟩⟩⟩⟩) (fun ls hl => ?_)
          refine lv_goto (tgt := 101) hx hb dX9_digest_149 (by decide) ?_
          exact ih x24.1 x24.2 (v4 + 1) _ h _ _ _ hP hD hS (lv_pk hl [3, 1, 4, 0] rfl) kk
    · replace h := it_F h c19
      refine i_icmp_ge_T hx hb g17 g18 (tgt := 152) dX9_digest_110 (by decide) c19 ?_
      obtain rfl := Option.some.inj h
      exact kk _ _ _ hP hD hS (lv_pk hl [0, 1, 2] rfl)
def f_X_digest (n : Nat) (M : cSt)  : Option (cSt × Int64) := ob (g_X_digest_6 n M fu (58130 : Int64) 0) (fun x4 => ob (g_X_digest_33 n M fu x4 0) (fun x10 => ob (g_X_digest_68 n M fu x10 0) (fun x14 => ob (f_X_wouldFree n M 1) (fun x15 => ob (g_X_digest_101 n x15.2 fu x15.1 x14 0) (fun x25 => ob (f_X_wouldFree n x25.1 0) (fun x26 => ob (f_X_addressFor n x26.1 4) (fun x27 => some (x26.1, ((((((x25.2 * (31 : Int64)) + (iI x15.2).toInt64) * (31 : Int64)) + (iI x26.2).toInt64) * (31 : Int64)) + (iI x27).toInt64)))))))))
set_option maxHeartbeats 4000000 in
set_option maxRecDepth 100000 in
theorem C_X_digest (l : Launch) (G : Nat → Nat) (D : va_G) (K : Nat → ClassId) (sz : Nat) (ga : Nat → Nat) (n : Nat) (M : cSt)  {x : cSt × Int64} (h : f_X_digest n M  = some x) : CM l yX9_digest cX9_digest 6 (some FieldType.long) ({ frames := 6, cells := 0, slots := 0, locals := 139 } : Room) G D K [.ref (ga 0)] (wld ga n (K 0) (K 1) M) sz (CQl x.2 D (fun _ => wld ga n (K 0) (K 1) x.1)) := by
  refine CM_of (lv0 := [(0, .ref (ga 0))]) pn_RX9 (Nat.le_of_ble_eq_true rfl) rfl (fun p e s m args below meth c A ls hx hb hr hml hown hts hlk hnm hP hK hD hS hA hm hl => ?_)
  have hown : s.vm.findClass RX9 = some m.cls := hown
  unfold f_X_digest at h
  refine lv_ldc2 (v := 58130) hx hb hown (hts _ w_902) dX9_digest_0 ?_
  refine x_lstore_n hx hb dX9_digest_3 rfl hl (by decide) [0] (lv' := [(0, .ref (ga 0))]) rfl (⟨⟨Nat.ne_of_beq_eq_false rfl, Nat.ne_of_beq_eq_false rfl, Or.inr rfl⟩, trivial⟩) (fun ls hl => ?_)
  refine lv_iconst (v := iI 0) hx hb dX9_digest_4 rfl ?_
  refine x_istore_n hx hb dX9_digest_5 rfl hl (by decide) [0, 1] (lv' := [(1, .long (58130 : Int64)), (0, .ref (ga 0))]) rfl (⟨⟨Nat.ne_of_beq_eq_false rfl, Or.inl (Nat.ne_of_beq_eq_false rfl)⟩, ⟨⟨Nat.ne_of_beq_eq_false rfl, Or.inl (Nat.ne_of_beq_eq_false rfl)⟩, trivial⟩⟩) (fun ls hl => ?_)
  obtain ⟨x4, ex4, h⟩ := ob_some h
  refine L_X_digest_6 hx hb hr hml hown hts hlk hK hA hm ga n M  fu (58130 : Int64) 0 _ ex4 _ _ _ hP hD hS (lv_pk hl [2, 1, 0] rfl) (fun ls H locs (hP : va_P D cl (wld ga n (K 0) (K 1) M) H) (hD : va_D A (wld ga n (K 0) (K 1) M)) hS (hl : lv_has ls 6 [(0, .ref (ga 0)), (1, .long x4)]) => ?_)
  refine lv_iconst (v := iI 0) hx hb dX9_digest_31 rfl ?_
  refine x_istore_n hx hb dX9_digest_32 rfl hl (by decide) [0, 1] (lv' := [(0, .ref (ga 0)), (1, .long x4)]) rfl (⟨⟨Nat.ne_of_beq_eq_false rfl, Or.inl (Nat.ne_of_beq_eq_false rfl)⟩, ⟨⟨Nat.ne_of_beq_eq_false rfl, Or.inl (Nat.ne_of_beq_eq_false rfl)⟩, trivial⟩⟩) (fun ls hl => ?_)
  obtain ⟨x10, ex10, h⟩ := ob_some h
  refine L_X_digest_33 hx hb hr hml hown hts hlk hK hA hm ga n M  fu x4 0 _ ex10 _ _ _ hP hD hS (lv_pk hl [1, 2, 0] rfl) (fun ls H locs (hP : va_P D cl (wld ga n (K 0) (K 1) M) H) (hD : va_D A (wld ga n (K 0) (K 1) M)) hS (hl : lv_has ls 6 [(0, .ref (ga 0)), (1, .long x10)]) => ?_)
  refine lv_iconst (v := iI 0) hx hb dX9_digest_66 rfl ?_
  refine x_istore_n hx hb dX9_digest_67 rfl hl (by decide) [0, 1] (lv' := [(0, .ref (ga 0)), (1, .long x10)]) rfl (⟨⟨Nat.ne_of_beq_eq_false rfl, Or.inl (Nat.ne_of_beq_eq_false rfl)⟩, ⟨⟨Nat.ne_of_beq_eq_false rfl, Or.inl (Nat.ne_of_beq_eq_false rfl)⟩, trivial⟩⟩) (fun ls hl => ?_)
  obtain ⟨x14, ex14, h⟩ := ob_some h
  refine L_X_digest_68 hx hb hr hml hown hts hlk hK hA hm ga n M  fu x10 0 _ ex14 _ _ _ hP hD hS (lv_pk hl [1, 2, 0] rfl) (fun ls H locs (hP : va_P D cl (wld ga n (K 0) (K 1) M) H) (hD : va_D A (wld ga n (K 0) (K 1) M)) hS (hl : lv_has ls 6 [(0, .ref (ga 0)), (1, .long x14)]) => ?_)
  refine lv_aload_n hx hb dX9_digest_92 rfl (lv_at hl 0 rfl) ?_
  refine lv_iconst (v := iI 1) hx hb dX9_digest_93 rfl ?_
  obtain ⟨x15, ex15, h⟩ := ob_some h
  refine gk_i (run_V (rest := []) hx hb hml hown hts hK hP hD hS hA hm (C_X_wouldFree l G D K H.size ga n M 1 ex15) _ (full_C _) (full_n _ List.nodup_range) mok_yX9_wouldFree w_911 w_912 w_913 (rcv hK hP 0 go_0 rfl rfl) ⟨Nat.le_of_ble_eq_true rfl, Nat.le_of_ble_eq_true rfl⟩ rfl hl.1 rfl (Nat.le_of_ble_eq_true rfl) dX9_digest_94 ⟨(Nat.le_of_ble_eq_true rfl), (Nat.le_of_ble_eq_true rfl)⟩) hP hD hS hA (fun u H locs (hP : va_P D cl (wld ga n (K 0) (K 1) x15.1) H) (hD : va_D A (wld ga n (K 0) (K 1) x15.1)) hS => ?_)
  refine x_istore_n hx hb dX9_digest_97 rfl hl (by decide) [0, 1] (lv' := [(0, .ref (ga 0)), (1, .long x14)]) rfl (⟨⟨Nat.ne_of_beq_eq_false rfl, Or.inl (Nat.ne_of_beq_eq_false rfl)⟩, ⟨⟨Nat.ne_of_beq_eq_false rfl, Or.inl (Nat.ne_of_beq_eq_false rfl)⟩, trivial⟩⟩) (fun ls hl => ?_)
  refine lv_iconst (v := iI 0) hx hb dX9_digest_98 rfl ?_
  refine x_istore hx hb dX9_digest_99 hl (by decide) [0, 1, 2] (lv' := [(3, .int (iI x15.2)), (0, .ref (ga 0)), (1, .long x14)]) rfl (⟨⟨Nat.ne_of_beq_eq_false rfl, Or.inr rfl⟩, ⟨⟨Nat.ne_of_beq_eq_false rfl, Or.inl (Nat.ne_of_beq_eq_false rfl)⟩, ⟨⟨Nat.ne_of_beq_eq_false rfl, Or.inl (Nat.ne_of_beq_eq_false rfl)⟩, trivial⟩⟩⟩) (fun ls hl => ?_)
  obtain ⟨x25, ex25, h⟩ := ob_some h
  refine L_X_digest_101 hx hb hr hml hown hts hlk hK hA hm ga n x15.2  fu x15.1 x14 0 _ ex25 _ _ _ hP hD hS (lv_pk hl [2, 3, 1, 0] rfl) (fun ls H locs (hP : va_P D cl (wld ga n (K 0) (K 1) x25.1) H) (hD : va_D A (wld ga n (K 0) (K 1) x25.1)) hS (hl : lv_has ls 6 [(0, .ref (ga 0)), (1, .long x25.2), (3, .int (iI x15.2))]) => ?_)
  refine lv_lload_n hx hb dX9_digest_152 rfl (lv_at hl 1 rfl) ?_
  refine lv_ldc2 (v := 31) hx hb hown (hts _ w_903) dX9_digest_153 ?_
  refine lv_lmul hx hb dX9_digest_156 ?_
  refine lv_iload_n hx hb dX9_digest_157 rfl (lv_at hl 2 rfl) ?_
  refine lv_i2l (v := (iI x15.2).toInt64) hx hb dX9_digest_158 rfl ?_
  refine lv_ladd hx hb dX9_digest_159 ?_
  refine x_lstore_n hx hb dX9_digest_160 rfl hl (by decide) [0, 2] (lv' := [(0, .ref (ga 0)), (3, .int (iI x15.2))]) rfl (⟨⟨Nat.ne_of_beq_eq_false rfl, Nat.ne_of_beq_eq_false rfl, Or.inr rfl⟩, ⟨⟨Nat.ne_of_beq_eq_false rfl, Nat.ne_of_beq_eq_false rfl, Or.inl (Nat.ne_of_beq_eq_false rfl)⟩, trivial⟩⟩) (fun ls hl => ?_)
  refine lv_lload_n hx hb dX9_digest_161 rfl (lv_at hl 0 rfl) ?_
  refine lv_ldc2 (v := 31) hx hb hown (hts _ w_903) dX9_digest_162 ?_
  refine lv_lmul hx hb dX9_digest_165 ?_
  refine lv_aload_n hx hb dX9_digest_166 rfl (lv_at hl 1 rfl) ?_
  refine lv_iconst (v := iI 0) hx hb dX9_digest_167 rfl ?_
  obtain ⟨x26, ex26, h⟩ := ob_some h
  refine gk_i (run_V (rest := [.long (((x25.2 * (31 : Int64)) + (iI x15.2).toInt64) * (31 : Int64))]) hx hb hml hown hts hK hP hD hS hA hm (C_X_wouldFree l G D K H.size ga n x25.1 0 ex26) _ (full_C _) (full_n _ List.nodup_range) mok_yX9_wouldFree w_911 w_912 w_913 (rcv hK hP 0 go_0 rfl rfl) ⟨Nat.le_of_ble_eq_true rfl, Nat.le_of_ble_eq_true rfl⟩ rfl hl.1 rfl (Nat.le_of_ble_eq_true rfl) dX9_digest_168 ⟨(Nat.le_of_ble_eq_true rfl), (Nat.le_of_ble_eq_true rfl)⟩) hP hD hS hA (fun u H locs (hP : va_P D cl (wld ga n (K 0) (K 1) x26.1) H) (hD : va_D A (wld ga n (K 0) (K 1) x26.1)) hS => ?_)
  refine lv_i2l (v := (iI x26.2).toInt64) hx hb dX9_digest_171 rfl ?_
  refine lv_ladd hx hb dX9_digest_172 ?_
  refine x_lstore_n hx hb dX9_digest_173 rfl hl (by decide) [1, 2] (lv' := [(0, .ref (ga 0)), (3, .int (iI x15.2))]) rfl (⟨⟨Nat.ne_of_beq_eq_false rfl, Nat.ne_of_beq_eq_false rfl, Or.inr rfl⟩, ⟨⟨Nat.ne_of_beq_eq_false rfl, Nat.ne_of_beq_eq_false rfl, Or.inl (Nat.ne_of_beq_eq_false rfl)⟩, trivial⟩⟩) (fun ls hl => ?_)
  refine lv_lload_n hx hb dX9_digest_174 rfl (lv_at hl 0 rfl) ?_
  refine lv_ldc2 (v := 31) hx hb hown (hts _ w_903) dX9_digest_175 ?_
  refine lv_lmul hx hb dX9_digest_178 ?_
  refine lv_aload_n hx hb dX9_digest_179 rfl (lv_at hl 1 rfl) ?_
  refine lv_iconst (v := iI 4) hx hb dX9_digest_180 rfl ?_
  obtain ⟨x27, ex27, h⟩ := ob_some h
  refine gk_i (run_V (rest := [.long (((((x25.2 * (31 : Int64)) + (iI x15.2).toInt64) * (31 : Int64)) + (iI x26.2).toInt64) * (31 : Int64))]) hx hb hml hown hts hK hP hD hS hA hm (C_X_addressFor l G D K H.size ga n x26.1 4 ex27) _ (full_C _) (full_n _ List.nodup_range) mok_yX9_addressFor w_932 w_933 w_934 (rcv hK hP 0 go_0 rfl rfl) ⟨Nat.le_of_ble_eq_true rfl, Nat.le_of_ble_eq_true rfl⟩ rfl hl.1 rfl (Nat.le_of_ble_eq_true rfl) dX9_digest_181 ⟨(Nat.le_of_ble_eq_true rfl), (Nat.le_of_ble_eq_true rfl)⟩) hP hD hS hA (fun u H locs (hP : va_P D cl (wld ga n (K 0) (K 1) x26.1) H) (hD : va_D A (wld ga n (K 0) (K 1) x26.1)) hS => ?_)
  refine lv_i2l (v := (iI x27).toInt64) hx hb dX9_digest_184 rfl ?_
  refine lv_ladd hx hb dX9_digest_185 ?_
  obtain rfl := Option.some.inj h
  exact e_l hx hb hr hlk hP hD hS (fun _ => 0) rfl (Nat.le_of_ble_eq_true rfl) (Nat.le_of_ble_eq_true rfl) rfl dX9_digest_186
