/-! METHODS as functions, with their contracts, written by wip/p32/sx2.py -/
def e_X_requireField (n : Nat) (M : cSt) (t0 : Option Nat) (a1 : Int) : Option (Unit) := on t0 none (fun q1 => og (q1 < n) (ob (f_Th_hasField n M q1 a1) (fun x2 => og (inR x2) (if x2 = 0 then some () else none))))
set_option maxHeartbeats 4000000 in
set_option maxRecDepth 100000 in
theorem CX_X_requireField (l : Launch) (G : Nat → Nat) (D : va_G) (K : Nat → ClassId) (hl0 : l.stackTraces = false) (sz : Nat) (ga : Nat → Nat) (n : Nat) (M : cSt) (t0 : Option Nat) (a1 : Int) {x : Unit} (h : e_X_requireField n M t0 a1 = some x) : CMXw l yX9_requireField cX9_requireField 2 (none : Option FieldType) ({ frames := 6, cells := 1, slots := 6, locals := 141 } : Room) G D K [ctv ga t0, .int (iI a1)] (wld ga n (K 0) (K 1) M) sz "java/lang/IndexOutOfBoundsException" := by
  refine CMXw_of (lv0 := [(0, ctv ga t0), (1, .int (iI a1))]) pn_RX9 (by cases t0 <;> exact (Nat.le_of_ble_eq_true rfl)) (by cases t0 <;> rfl) (fun p e s m args below meth c A ls hx hb htab hml hown hts hlk hnm hP hK hD hS hA hm hl => ?_)
  have hown : s.vm.findClass RX9 = some m.cls := hown
  unfold e_X_requireField at h
  refine t_aload_n hx hb dX9_requireField_0 rfl (lv_at hl 0 rfl) ?_
  refine lv_iload_n hx hb dX9_requireField_1 rfl (lv_at hl 1 rfl) ?_
  rcases on_cases h with ⟨z1, h⟩ | ⟨q1, z1, h⟩
  · cases h
  · obtain ⟨hq1, h⟩ := og_some h
    rw [ctv_some ga z1]
    obtain ⟨x2, ex2, h⟩ := ob_some h
    refine gk_i (run_V (rest := []) hx hb hml hown hts hK hP hD hS hA hm (C_Th_hasField l G D K s.heap.size ga n M q1 hq1 a1 ex2) _ (full_C _) (full_n _ List.nodup_range) mok_yX7_hasField w_786 w_787 w_788 (rcv hK hP (25 + 2 * q1) (go_th hq1) rfl rfl) ⟨Nat.le_of_ble_eq_true rfl, Nat.le_of_ble_eq_true rfl⟩ rfl hl.1 rfl (Nat.le_of_ble_eq_true rfl) dX9_requireField_2 ⟨(Nat.le_of_ble_eq_true rfl), (Nat.le_of_ble_eq_true rfl)⟩) hP hD hS hA (fun u H locs (hP : va_P D cl (wld ga n (K 0) (K 1) M) H) (hD : va_D A (wld ga n (K 0) (K 1) M)) hS => ?_)
    obtain ⟨g3, h⟩ := og_some h
    by_cases c4 : x2 = 0
    · replace h := it_T h c4
      refine i_if_ne_F hx hb g3 (tgt := 19) dX9_requireField_5 (by decide) c4 ?_
      exact x_throwKW (names := ["java/lang/RuntimeException", "java/lang/Exception"]) (text := "the OBJECT has no such FIELD") hx hb hl0 htab hml hown hts hlk hP hD hS hm hl.1 (by decide +kernel) (by decide +kernel) w_369 w_13 (str_392) hat_iobe_174 dX9_requireField_8 dX9_requireField_11 dX9_requireField_12 dX9_requireField_15 dX9_requireField_18 (Nat.le_of_ble_eq_true rfl) (Nat.le_of_ble_eq_true rfl) (Nat.le_of_ble_eq_true rfl) (Nat.le_of_ble_eq_true rfl) (Nat.le_of_ble_eq_true rfl) (Nat.le_of_ble_eq_true rfl)
    · replace h := it_F h c4
      cases h
def e_X_field (n : Nat) (M : cSt) (a1 : Int) (a2 : Int) : Option (Unit) := ob (f_X_madeAs n M a1) (fun x1 => e_X_requireField n M x1 a2)
set_option maxHeartbeats 4000000 in
set_option maxRecDepth 100000 in
theorem CX_X_field (l : Launch) (G : Nat → Nat) (D : va_G) (K : Nat → ClassId) (hl0 : l.stackTraces = false) (sz : Nat) (ga : Nat → Nat) (n : Nat) (M : cSt) (a1 : Int) (a2 : Int) {x : Unit} (h : e_X_field n M a1 a2 = some x) : CMXw l yX9_field cX9_field 4 (some FieldType.int) ({ frames := 7, cells := 1, slots := 6, locals := 163 } : Room) G D K [.ref (ga 0), .int (iI a1), .int (iI a2)] (wld ga n (K 0) (K 1) M) sz "java/lang/IndexOutOfBoundsException" := by
  refine CMXw_of (lv0 := [(0, .ref (ga 0)), (1, .int (iI a1)), (2, .int (iI a2))]) pn_RX9 (Nat.le_of_ble_eq_true rfl) rfl (fun p e s m args below meth c A ls hx hb htab hml hown hts hlk hnm hP hK hD hS hA hm hl => ?_)
  have hown : s.vm.findClass RX9 = some m.cls := hown
  unfold e_X_field at h
  refine lv_aload_n hx hb dX9_field_0 rfl (lv_at hl 0 rfl) ?_
  refine lv_iload_n hx hb dX9_field_1 rfl (lv_at hl 1 rfl) ?_
  obtain ⟨x1, ex1, h⟩ := ob_some h
  refine gk_q (run_V (rest := []) hx hb hml hown hts hK hP hD hS hA hm (C_X_madeAs l G D K s.heap.size ga n M a1 ex1) _ (full_C _) (full_n _ List.nodup_range) mok_yX9_madeAs w_852 w_854 w_p22 (rcv hK hP 0 go_0 rfl rfl) ⟨Nat.le_of_ble_eq_true rfl, Nat.le_of_ble_eq_true rfl⟩ rfl hl.1 rfl (Nat.le_of_ble_eq_true rfl) dX9_field_2 ⟨(Nat.le_of_ble_eq_true rfl), (Nat.le_of_ble_eq_true rfl)⟩) hP hD hS hA (fun u H locs (hP : va_P D cl (wld ga n (K 0) (K 1) M) H) (hD : va_D A (wld ga n (K 0) (K 1) M)) hS => ?_)
  refine w_tov (y := ctv ga x1) rfl ?_
  refine t_astore_n hx hb dX9_field_5 rfl hl (by decide) [0, 1, 2] (lv' := [(0, .ref (ga 0)), (1, .int (iI a1)), (2, .int (iI a2))]) rfl (⟨⟨Nat.ne_of_beq_eq_false rfl, Or.inl (Nat.ne_of_beq_eq_false rfl)⟩, ⟨⟨Nat.ne_of_beq_eq_false rfl, Or.inl (Nat.ne_of_beq_eq_false rfl)⟩, ⟨⟨Nat.ne_of_beq_eq_false rfl, Or.inr rfl⟩, trivial⟩⟩⟩) (fun ls hl => ?_)
  refine t_aload_n hx hb dX9_field_6 rfl (lv_at hl 0 rfl) ?_
  refine lv_iload_n hx hb dX9_field_7 rfl (lv_at hl 3 rfl) ?_
  exact k_xw (xun_Sw (rest := []) hx hb hml hown hts hK hP hD hS hA hm (CX_X_requireField l G D K hl0 H.size ga n M x1 a2 h) _ (full_C _) (full_n _ List.nodup_range) mok_yX9_requireField w_783 w_784 ⟨Nat.le_of_ble_eq_true rfl, Nat.le_of_ble_eq_true rfl⟩ rfl hl.1 rfl (Nat.le_of_ble_eq_true rfl) dX9_field_8 ⟨(Nat.le_of_ble_eq_true rfl), (Nat.le_of_ble_eq_true rfl)⟩) htab hlk hD hS hA _ (full_C _) (Nat.le_of_ble_eq_true rfl) (Nat.le_of_ble_eq_true rfl)
