/-! METHODS as functions, with their contracts, written by wip/p32/sx2.py -/
def f_Pl_things (n : Nat) (M : cSt)  : Option (Int) := ob (f_Row_size n M 2) (fun x1 => ob (f_Row_size n M 3) (fun x2 => ob (f_Row_size n M 4) (fun x3 => some ((x1 + x2) + x3))))
set_option maxHeartbeats 4000000 in
set_option maxRecDepth 100000 in
theorem C_Pl_things (l : Launch) (G : Nat → Nat) (D : va_G) (K : Nat → ClassId) (sz : Nat) (ga : Nat → Nat) (n : Nat) (M : cSt)  {x : Int} (h : f_Pl_things n M  = some x) : CM l yX3_things cX3_things 1 (some FieldType.int) ({ frames := 1, cells := 0, slots := 0, locals := 20 } : Room) G D K [.ref (ga 2)] (wld ga n (K 0) (K 1) M) sz (CQi (iI x) D (fun _ => wld ga n (K 0) (K 1) M)) := by
  refine CM_of (lv0 := [(0, .ref (ga 2))]) pn_RX3 (Nat.le_of_ble_eq_true rfl) rfl (fun p e s m args below meth c A ls hx hb hr hml hown hts hlk hnm hP hK hD hS hA hm hl => ?_)
  have hown : s.vm.findClass RX3 = some m.cls := hown
  unfold f_Pl_things at h
  refine lv_aload_n hx hb dX3_things_0 rfl (lv_at hl 0 rfl) ?_
  refine r_get hx hb hts ok_RX3 hown hK hP 2 go_2 rfl 0 (by decide) w_74 (fun _ h9 => h9) rfl dX3_things_1 ?_
  obtain ⟨x1, ex1, h⟩ := ob_some h
  refine gk_i (run_V (rest := []) hx hb hml hown hts hK hP hD hS hA hm (C_Row_size l G D K s.heap.size ga n M 2 (by decide) ex1) _ (full_C _) (full_n _ List.nodup_range) mok_yX5_size w_417 w_405 w_406 (rcv hK hP (8 + 2) (go_ro (by decide)) rfl rfl) ⟨Nat.le_of_ble_eq_true rfl, Nat.le_of_ble_eq_true rfl⟩ rfl hl.1 rfl (Nat.le_of_ble_eq_true rfl) dX3_things_4 ⟨(Nat.le_of_ble_eq_true rfl), (Nat.le_of_ble_eq_true rfl)⟩) hP hD hS hA (fun u H locs (hP : va_P D cl (wld ga n (K 0) (K 1) M) H) (hD : va_D A (wld ga n (K 0) (K 1) M)) hS => ?_)
  refine lv_aload_n hx hb dX3_things_7 rfl (lv_at hl 0 rfl) ?_
  refine r_get hx hb hts ok_RX3 hown hK hP 2 go_2 rfl 1 (by decide) w_76 (fun _ h9 => h9) rfl dX3_things_8 ?_
  obtain ⟨x2, ex2, h⟩ := ob_some h
  refine gk_i (run_V (rest := [.int (iI x1)]) hx hb hml hown hts hK hP hD hS hA hm (C_Row_size l G D K H.size ga n M 3 (by decide) ex2) _ (full_C _) (full_n _ List.nodup_range) mok_yX5_size w_417 w_405 w_406 (rcv hK hP (8 + 3) (go_ro (by decide)) rfl rfl) ⟨Nat.le_of_ble_eq_true rfl, Nat.le_of_ble_eq_true rfl⟩ rfl hl.1 rfl (Nat.le_of_ble_eq_true rfl) dX3_things_11 ⟨(Nat.le_of_ble_eq_true rfl), (Nat.le_of_ble_eq_true rfl)⟩) hP hD hS hA (fun u H locs (hP : va_P D cl (wld ga n (K 0) (K 1) M) H) (hD : va_D A (wld ga n (K 0) (K 1) M)) hS => ?_)
  refine lv_iadd hx hb dX3_things_14 ?_
  refine w_toeq (iI_add x1 x2) ?_
  refine lv_aload_n hx hb dX3_things_15 rfl (lv_at hl 0 rfl) ?_
  refine r_get hx hb hts ok_RX3 hown hK hP 2 go_2 rfl 2 (by decide) w_78 (fun _ h9 => h9) rfl dX3_things_16 ?_
  obtain ⟨x3, ex3, h⟩ := ob_some h
  refine gk_i (run_V (rest := [.int (iI (x1 + x2))]) hx hb hml hown hts hK hP hD hS hA hm (C_Row_size l G D K H.size ga n M 4 (by decide) ex3) _ (full_C _) (full_n _ List.nodup_range) mok_yX5_size w_417 w_405 w_406 (rcv hK hP (8 + 4) (go_ro (by decide)) rfl rfl) ⟨Nat.le_of_ble_eq_true rfl, Nat.le_of_ble_eq_true rfl⟩ rfl hl.1 rfl (Nat.le_of_ble_eq_true rfl) dX3_things_19 ⟨(Nat.le_of_ble_eq_true rfl), (Nat.le_of_ble_eq_true rfl)⟩) hP hD hS hA (fun u H locs (hP : va_P D cl (wld ga n (K 0) (K 1) M) H) (hD : va_D A (wld ga n (K 0) (K 1) M)) hS => ?_)
  refine lv_iadd hx hb dX3_things_22 ?_
  refine w_toeq (iI_add (x1 + x2) x3) ?_
  obtain rfl := Option.some.inj h
  exact e_i hx hb hr hlk hP hD hS (fun _ => 0) rfl (Nat.le_of_ble_eq_true rfl) (Nat.le_of_ble_eq_true rfl) rfl dX3_things_23
def f_Pl_words (n : Nat) (M : cSt)  : Option (Int) := ob (f_Row_words n M 2) (fun x1 => ob (f_Row_words n M 3) (fun x2 => ob (f_Row_words n M 4) (fun x3 => some ((x1 + x2) + x3))))
set_option maxHeartbeats 4000000 in
set_option maxRecDepth 100000 in
theorem C_Pl_words (l : Launch) (G : Nat → Nat) (D : va_G) (K : Nat → ClassId) (sz : Nat) (ga : Nat → Nat) (n : Nat) (M : cSt)  {x : Int} (h : f_Pl_words n M  = some x) : CM l yX3_words cX3_words 1 (some FieldType.int) ({ frames := 1, cells := 0, slots := 0, locals := 23 } : Room) G D K [.ref (ga 2)] (wld ga n (K 0) (K 1) M) sz (CQi (iI x) D (fun _ => wld ga n (K 0) (K 1) M)) := by
  refine CM_of (lv0 := [(0, .ref (ga 2))]) pn_RX3 (Nat.le_of_ble_eq_true rfl) rfl (fun p e s m args below meth c A ls hx hb hr hml hown hts hlk hnm hP hK hD hS hA hm hl => ?_)
  have hown : s.vm.findClass RX3 = some m.cls := hown
  unfold f_Pl_words at h
  refine lv_aload_n hx hb dX3_words_0 rfl (lv_at hl 0 rfl) ?_
  refine r_get hx hb hts ok_RX3 hown hK hP 2 go_2 rfl 0 (by decide) w_74 (fun _ h9 => h9) rfl dX3_words_1 ?_
  obtain ⟨x1, ex1, h⟩ := ob_some h
  refine gk_i (run_V (rest := []) hx hb hml hown hts hK hP hD hS hA hm (C_Row_words l G D K s.heap.size ga n M 2 (by decide) ex1) _ (full_C _) (full_n _ List.nodup_range) mok_yX5_words w_644 w_546 w_547 (rcv hK hP (8 + 2) (go_ro (by decide)) rfl rfl) ⟨Nat.le_of_ble_eq_true rfl, Nat.le_of_ble_eq_true rfl⟩ rfl hl.1 rfl (Nat.le_of_ble_eq_true rfl) dX3_words_4 ⟨(Nat.le_of_ble_eq_true rfl), (Nat.le_of_ble_eq_true rfl)⟩) hP hD hS hA (fun u H locs (hP : va_P D cl (wld ga n (K 0) (K 1) M) H) (hD : va_D A (wld ga n (K 0) (K 1) M)) hS => ?_)
  refine lv_aload_n hx hb dX3_words_7 rfl (lv_at hl 0 rfl) ?_
  refine r_get hx hb hts ok_RX3 hown hK hP 2 go_2 rfl 1 (by decide) w_76 (fun _ h9 => h9) rfl dX3_words_8 ?_
  obtain ⟨x2, ex2, h⟩ := ob_some h
  refine gk_i (run_V (rest := [.int (iI x1)]) hx hb hml hown hts hK hP hD hS hA hm (C_Row_words l G D K H.size ga n M 3 (by decide) ex2) _ (full_C _) (full_n _ List.nodup_range) mok_yX5_words w_644 w_546 w_547 (rcv hK hP (8 + 3) (go_ro (by decide)) rfl rfl) ⟨Nat.le_of_ble_eq_true rfl, Nat.le_of_ble_eq_true rfl⟩ rfl hl.1 rfl (Nat.le_of_ble_eq_true rfl) dX3_words_11 ⟨(Nat.le_of_ble_eq_true rfl), (Nat.le_of_ble_eq_true rfl)⟩) hP hD hS hA (fun u H locs (hP : va_P D cl (wld ga n (K 0) (K 1) M) H) (hD : va_D A (wld ga n (K 0) (K 1) M)) hS => ?_)
  refine lv_iadd hx hb dX3_words_14 ?_
  refine w_toeq (iI_add x1 x2) ?_
  refine lv_aload_n hx hb dX3_words_15 rfl (lv_at hl 0 rfl) ?_
  refine r_get hx hb hts ok_RX3 hown hK hP 2 go_2 rfl 2 (by decide) w_78 (fun _ h9 => h9) rfl dX3_words_16 ?_
  obtain ⟨x3, ex3, h⟩ := ob_some h
  refine gk_i (run_V (rest := [.int (iI (x1 + x2))]) hx hb hml hown hts hK hP hD hS hA hm (C_Row_words l G D K H.size ga n M 4 (by decide) ex3) _ (full_C _) (full_n _ List.nodup_range) mok_yX5_words w_644 w_546 w_547 (rcv hK hP (8 + 4) (go_ro (by decide)) rfl rfl) ⟨Nat.le_of_ble_eq_true rfl, Nat.le_of_ble_eq_true rfl⟩ rfl hl.1 rfl (Nat.le_of_ble_eq_true rfl) dX3_words_19 ⟨(Nat.le_of_ble_eq_true rfl), (Nat.le_of_ble_eq_true rfl)⟩) hP hD hS hA (fun u H locs (hP : va_P D cl (wld ga n (K 0) (K 1) M) H) (hD : va_D A (wld ga n (K 0) (K 1) M)) hS => ?_)
  refine lv_iadd hx hb dX3_words_22 ?_
  refine w_toeq (iI_add (x1 + x2) x3) ?_
  obtain rfl := Option.some.inj h
  exact e_i hx hb hr hlk hP hD hS (fun _ => 0) rfl (Nat.le_of_ble_eq_true rfl) (Nat.le_of_ble_eq_true rfl) rfl dX3_words_23
def s_Pl_largeGapFor_6 (rec : Int → Int → Option ((Int) ⊕ (Int))) (n : Nat) (M : cSt) (v1 : Int) (v2 : Int) (v3 : Int) : Option ((Int) ⊕ (Int)) := ob (f_Row_size n M 4) (fun x1 => og (inR v3) (og (inR x1) (if v3 < x1 then ob (f_Row_item n M 4 v3) (fun x5 => on x5 (rec v2 (v3 + 1)) (fun q6 => og (q6 < n) (og (inR (gT M q6 4 - v2)) (og (inR v1) (if (gT M q6 4 - v2) < v1 then ob (f_Th_end n M q6) (fun x10 => rec x10 (v3 + 1)) else some (.inr v2)))))) else some (.inl v2))))
def g_Pl_largeGapFor_6 (n : Nat) (M : cSt) (v1 : Int) : Nat → Int → Int → Option ((Int) ⊕ (Int))
  | 0 => fun _ _ => none
  | q + 1 => s_Pl_largeGapFor_6 (g_Pl_largeGapFor_6 n M v1 q) n M v1
set_option maxHeartbeats 4000000 in
set_option maxRecDepth 100000 in
theorem L_Pl_largeGapFor_6 {p : Program} {l : Launch} {G : Nat → Nat} {D : va_G} {K : Nat → ClassId} {e : Env} {s : State} {m : MethodId} {args : Array Value} {below : List Frame} {meth : Method} {c : Code} {A : Nat → Prop} (hx : p.tables.exec = Jvm.exec) (hb : c.code = cX3_largeGapFor) (hr : meth.sig.returnType = (some FieldType.int)) (hml : c.maxLocals = 5) (hown : s.vm.findClass RX3 = some m.cls) (hts : ∀ w ∈ lw_gw, w.before args s = true) (hlk : meth.locks = false) (hK : va_K D cl (tys K) s) (hA : ∀ q : Nat, s.heap.size ≤ q → A q) (hm : Amb G A s s.heap) {x : Int} (ga : Nat → Nat) (n : Nat) (M : cSt) (v1 : Int) : ∀ (q : Nat) (v2 : Int) (v3 : Int) (out : (Int) ⊕ (Int)), g_Pl_largeGapFor_6 n M v1 q v2 v3 = some out → ∀ (ls : Array Slot) (H : Heap) (locs : List Loc), va_P D cl (wld ga n (K 0) (K 1) M) H → va_D A (wld ga n (K 0) (K 1) M) → va_S A s.heap H locs → lv_has ls 5 [(0, .ref (ga 2)), (1, .int (iI v1)), (2, .int (iI v2)), (3, .int (iI v3))] → (∀ (y : (Int)), out = .inl y → ∀ (ls : Array Slot) (H : Heap) (locs : List Loc), va_P D cl (wld ga n (K 0) (K 1) M) H → va_D A (wld ga n (K 0) (K 1) M) → va_S A s.heap H locs → lv_has ls 5 [(1, .int (iI v1)), (2, .int (iI y))] → W p l e ({ frames := 1, cells := 0, slots := 0, locals := 21 } : Room) s m args below meth c H locs 0 0 (MQ below ((CQi (iI x) D (fun _ => wld ga n (K 0) (K 1) M)) A) args s 0 0 A) (F0 m 57 ls [])) → (∀ y : Int, out = .inr y → y = x) → W p l e ({ frames := 1, cells := 0, slots := 0, locals := 21 } : Room) s m args below meth c H locs 0 0 (MQ below ((CQi (iI x) D (fun _ => wld ga n (K 0) (K 1) M)) A) args s 0 0 A) (F0 m 6 ls []) := by
  intro q
  induction q with
  | zero =>
    intro v2 v3 out h
    cases (show none = some out from h)
  | succ q ih =>
    intro v2 v3 out h ls H locs hP hD hS hl kk hrt
    replace h : s_Pl_largeGapFor_6 (g_Pl_largeGapFor_6 n M v1 q) n M v1 v2 v3 = some out := h
    unfold s_Pl_largeGapFor_6 at h
    refine lv_iload_n hx hb dX3_largeGapFor_6 rfl (lv_at hl 3 rfl) ?_
    refine lv_aload_n hx hb dX3_largeGapFor_7 rfl (lv_at hl 0 rfl) ?_
    refine r_get hx hb hts ok_RX3 hown hK hP 2 go_2 rfl 2 (by decide) w_78 (fun _ h9 => h9) rfl dX3_largeGapFor_8 ?_
    obtain ⟨x1, ex1, h⟩ := ob_some h
    refine gk_i (run_V (rest := [.int (iI v3)]) hx hb hml hown hts hK hP hD hS hA hm (C_Row_size l G D K H.size ga n M 4 (by decide) ex1) _ (full_C _) (full_n _ List.nodup_range) mok_yX5_size w_417 w_405 w_406 (rcv hK hP (8 + 4) (go_ro (by decide)) rfl rfl) ⟨Nat.le_of_ble_eq_true rfl, Nat.le_of_ble_eq_true rfl⟩ rfl hl.1 rfl (Nat.le_of_ble_eq_true rfl) dX3_largeGapFor_11 ⟨(Nat.le_of_ble_eq_true rfl), (Nat.le_of_ble_eq_true rfl)⟩) hP hD hS hA (fun u H locs (hP : va_P D cl (wld ga n (K 0) (K 1) M) H) (hD : va_D A (wld ga n (K 0) (K 1) M)) hS => ?_)
    obtain ⟨g2, h⟩ := og_some h
    obtain ⟨g3, h⟩ := og_some h
    by_cases c4 : v3 < x1
    · replace h := it_T h c4
      refine i_icmp_ge_F hx hb g2 g3 (tgt := 57) dX3_largeGapFor_14 (by decide) c4 ?_
      refine lv_aload_n hx hb dX3_largeGapFor_17 rfl (lv_at hl 0 rfl) ?_
      refine r_get hx hb hts ok_RX3 hown hK hP 2 go_2 rfl 2 (by decide) w_78 (fun _ h9 => h9) rfl dX3_largeGapFor_18 ?_
      refine lv_iload_n hx hb dX3_largeGapFor_21 rfl (lv_at hl 3 rfl) ?_
      obtain ⟨x5, ex5, h⟩ := ob_some h
      refine gk_q (run_V (rest := []) hx hb hml hown hts hK hP hD hS hA hm (C_Row_item l G D K H.size ga n M 4 (by decide) v3 ex5) _ (full_C _) (full_n _ List.nodup_range) mok_yX5_item w_418 w_419 w_420 (rcv hK hP (8 + 4) (go_ro (by decide)) rfl rfl) ⟨Nat.le_of_ble_eq_true rfl, Nat.le_of_ble_eq_true rfl⟩ rfl hl.1 rfl (Nat.le_of_ble_eq_true rfl) dX3_largeGapFor_22 ⟨(Nat.le_of_ble_eq_true rfl), (Nat.le_of_ble_eq_true rfl)⟩) hP hD hS hA (fun u H locs (hP : va_P D cl (wld ga n (K 0) (K 1) M) H) (hD : va_D A (wld ga n (K 0) (K 1) M)) hS => ?_)
      refine w_tov (y := ctv ga x5) rfl ?_
      refine t_astore hx hb dX3_largeGapFor_25 hl (by decide) [0, 1, 2, 3] (lv' := [(0, .ref (ga 2)), (1, .int (iI v1)), (2, .int (iI v2)), (3, .int (iI v3))]) rfl (⟨⟨Nat.ne_of_beq_eq_false rfl, Or.inl (Nat.ne_of_beq_eq_false rfl)⟩, ⟨⟨Nat.ne_of_beq_eq_false rfl, Or.inl (Nat.ne_of_beq_eq_false rfl)⟩, ⟨⟨Nat.ne_of_beq_eq_false rfl, Or.inl (Nat.ne_of_beq_eq_false rfl)⟩, ⟨⟨Nat.ne_of_beq_eq_false rfl, Or.inr rfl⟩, trivial⟩⟩⟩⟩) (fun ls hl => ?_)
      refine t_aload hx hb dX3_largeGapFor_27 (lv_at hl 0 rfl) ?_
      rcases on_cases h with ⟨z6, h⟩ | ⟨q6, z6, h⟩
      · rw [ctv_none ga z6]
        refine lv_ifnullN (tgt := 51) hx hb dX3_largeGapFor_29 (by decide) ?_
        refine x_iinc (v := iI (v3 + 1)) hx hb dX3_largeGapFor_51 hl (k := 4) rfl (iI_add v3 1) (by decide) [0, 1, 2, 3] (lv' := [(4, ctv ga x5), (0, .ref (ga 2)), (1, .int (iI v1)), (2, .int (iI v2))]) rfl (⟨⟨Nat.ne_of_beq_eq_false rfl, Or.inl (Nat.ne_of_beq_eq_false rfl)⟩, ⟨⟨Nat.ne_of_beq_eq_false rfl, Or.inl (Nat.ne_of_beq_eq_false rfl)⟩, ⟨⟨Nat.ne_of_beq_eq_false rfl, Or.inl (Nat.ne_of_beq_eq_false rfl)⟩, ⟨⟨Nat.ne_of_beq_eq_false rfl, Or.inr rfl⟩, trivial⟩⟩⟩⟩) (fun ls hl => ?_)
        refine lv_goto (tgt := 6) hx hb dX3_largeGapFor_54 (by decide) ?_
        exact ih v2 (v3 + 1) _ h _ _ _ hP hD hS (lv_pk hl [2, 3, 4, 0] rfl) kk hrt
      · obtain ⟨hq6, h⟩ := og_some h
        rw [ctv_some ga z6]
        refine lv_ifnull hx hb dX3_largeGapFor_29 ?_
        refine t_aload hx hb dX3_largeGapFor_32 (lv_at hl 0 rfl) ?_
        rw [ctv_some ga z6]
        refine r_get hx hb hts ok_RX7 hown hK hP (25 + 2 * q6) (go_th hq6) rfl 4 (by decide) w_694 (fun _ h9 => h9) rfl dX3_largeGapFor_34 ?_
        refine lv_iload_n hx hb dX3_largeGapFor_37 rfl (lv_at hl 3 rfl) ?_
        refine lv_isub hx hb dX3_largeGapFor_38 ?_
        refine w_toeq (iI_sub (gT M q6 4) v2) ?_
        refine lv_iload_n hx hb dX3_largeGapFor_39 rfl (lv_at hl 2 rfl) ?_
        obtain ⟨g7, h⟩ := og_some h
        obtain ⟨g8, h⟩ := og_some h
        by_cases c9 : (gT M q6 4 - v2) < v1
        · replace h := it_T h c9
          refine i_icmp_lt_T hx hb g7 g8 (tgt := 45) dX3_largeGapFor_40 (by decide) c9 ?_
          refine t_aload hx hb dX3_largeGapFor_45 (lv_at hl 0 rfl) ?_
          rw [ctv_some ga z6]
          obtain ⟨x10, ex10, h⟩ := ob_some h
          refine gk_i (run_V (rest := []) hx hb hml hown hts hK hP hD hS hA hm (C_Th_end l G D K H.size ga n M q6 hq6 ex10) _ (full_C _) (full_n _ List.nodup_range) mok_yX7_end w_422 w_423 w_424 (rcv hK hP (25 + 2 * q6) (go_th hq6) rfl rfl) ⟨Nat.le_of_ble_eq_true rfl, Nat.le_of_ble_eq_true rfl⟩ rfl hl.1 rfl (Nat.le_of_ble_eq_true rfl) dX3_largeGapFor_47 ⟨(Nat.le_of_ble_eq_true rfl), (Nat.le_of_ble_eq_true rfl)⟩) hP hD hS hA (fun u H locs (hP : va_P D cl (wld ga n (K 0) (K 1) M) H) (hD : va_D A (wld ga n (K 0) (K 1) M)) hS => ?_)
          refine x_istore_n hx hb dX3_largeGapFor_50 rfl hl (by decide) [0, 1, 2, 4] (lv' := [(4, ctv ga x5), (0, .ref (ga 2)), (1, .int (iI v1)), (3, .int (iI v3))]) rfl (⟨⟨Nat.ne_of_beq_eq_false rfl, Or.inl (Nat.ne_of_beq_eq_false rfl)⟩, ⟨⟨Nat.ne_of_beq_eq_false rfl, Or.inl (Nat.ne_of_beq_eq_false rfl)⟩, ⟨⟨Nat.ne_of_beq_eq_false rfl, Or.inr rfl⟩, ⟨⟨Nat.ne_of_beq_eq_false rfl, Or.inl (Nat.ne_of_beq_eq_false rfl)⟩, trivial⟩⟩⟩⟩) (fun ls hl => ?_)
          refine x_iinc (v := iI (v3 + 1)) hx hb dX3_largeGapFor_51 hl (k := 4) rfl (iI_add v3 1) (by decide) [0, 1, 2, 3] (lv' := [(2, .int (iI x10)), (4, ctv ga x5), (0, .ref (ga 2)), (1, .int (iI v1))]) rfl (⟨⟨Nat.ne_of_beq_eq_false rfl, Or.inr rfl⟩, ⟨⟨Nat.ne_of_beq_eq_false rfl, Or.inl (Nat.ne_of_beq_eq_false rfl)⟩, ⟨⟨Nat.ne_of_beq_eq_false rfl, Or.inl (Nat.ne_of_beq_eq_false rfl)⟩, ⟨⟨Nat.ne_of_beq_eq_false rfl, Or.inl (Nat.ne_of_beq_eq_false rfl)⟩, trivial⟩⟩⟩⟩) (fun ls hl => ?_)
          refine lv_goto (tgt := 6) hx hb dX3_largeGapFor_54 (by decide) ?_
          exact ih x10 (v3 + 1) _ h _ _ _ hP hD hS (lv_pk hl [3, 4, 1, 0] rfl) kk hrt
        · replace h := it_F h c9
          refine i_icmp_lt_F hx hb g7 g8 (tgt := 45) dX3_largeGapFor_40 (by decide) c9 ?_
          refine lv_iload_n hx hb dX3_largeGapFor_43 rfl (lv_at hl 3 rfl) ?_
          obtain rfl := Option.some.inj h
          obtain rfl := hrt _ rfl
          exact e_i hx hb hr hlk hP hD hS (fun _ => 0) rfl (Nat.le_of_ble_eq_true rfl) (Nat.le_of_ble_eq_true rfl) rfl dX3_largeGapFor_44
    · replace h := it_F h c4
      refine i_icmp_ge_T hx hb g2 g3 (tgt := 57) dX3_largeGapFor_14 (by decide) c4 ?_
      obtain rfl := Option.some.inj h
      exact kk _ rfl _ _ _ hP hD hS (lv_pk hl [1, 2] rfl)
def f_Pl_largeGapFor (n : Nat) (M : cSt) (a1 : Int) : Option (Int) := ob (g_Pl_largeGapFor_6 n M a1 fu 300 0) (fun x11 => os x11 (fun y11 => og (inR (420 - y11)) (og (inR a1) (if (420 - y11) < a1 then some (-1) else some y11))))
set_option maxHeartbeats 4000000 in
set_option maxRecDepth 100000 in
theorem C_Pl_largeGapFor (l : Launch) (G : Nat → Nat) (D : va_G) (K : Nat → ClassId) (sz : Nat) (ga : Nat → Nat) (n : Nat) (M : cSt) (a1 : Int) {x : Int} (h : f_Pl_largeGapFor n M a1 = some x) : CM l yX3_largeGapFor cX3_largeGapFor 5 (some FieldType.int) ({ frames := 1, cells := 0, slots := 0, locals := 21 } : Room) G D K [.ref (ga 2), .int (iI a1)] (wld ga n (K 0) (K 1) M) sz (CQi (iI x) D (fun _ => wld ga n (K 0) (K 1) M)) := by
  refine CM_of (lv0 := [(0, .ref (ga 2)), (1, .int (iI a1))]) pn_RX3 (Nat.le_of_ble_eq_true rfl) rfl (fun p e s m args below meth c A ls hx hb hr hml hown hts hlk hnm hP hK hD hS hA hm hl => ?_)
  have hown : s.vm.findClass RX3 = some m.cls := hown
  unfold f_Pl_largeGapFor at h
  refine lv_sipush (v := iI 300) hx hb dX3_largeGapFor_0 rfl ?_
  refine x_istore_n hx hb dX3_largeGapFor_3 rfl hl (by decide) [0, 1] (lv' := [(0, .ref (ga 2)), (1, .int (iI a1))]) rfl (⟨⟨Nat.ne_of_beq_eq_false rfl, Or.inl (Nat.ne_of_beq_eq_false rfl)⟩, ⟨⟨Nat.ne_of_beq_eq_false rfl, Or.inr rfl⟩, trivial⟩⟩) (fun ls hl => ?_)
  refine lv_iconst (v := iI 0) hx hb dX3_largeGapFor_4 rfl ?_
  refine x_istore_n hx hb dX3_largeGapFor_5 rfl hl (by decide) [0, 1, 2] (lv' := [(2, .int (iI 300)), (0, .ref (ga 2)), (1, .int (iI a1))]) rfl (⟨⟨Nat.ne_of_beq_eq_false rfl, Or.inr rfl⟩, ⟨⟨Nat.ne_of_beq_eq_false rfl, Or.inl (Nat.ne_of_beq_eq_false rfl)⟩, ⟨⟨Nat.ne_of_beq_eq_false rfl, Or.inl (Nat.ne_of_beq_eq_false rfl)⟩, trivial⟩⟩⟩) (fun ls hl => ?_)
  obtain ⟨x11, ex11, h⟩ := ob_some h
  refine L_Pl_largeGapFor_6 hx hb hr hml hown hts hlk hK hA hm ga n M a1  fu 300 0 _ ex11 _ _ _ hP hD hS (lv_pk hl [2, 3, 1, 0] rfl) (fun y11 ty11 ls H locs (hP : va_P D cl (wld ga n (K 0) (K 1) M) H) (hD : va_D A (wld ga n (K 0) (K 1) M)) hS (hl : lv_has ls 5 [(1, .int (iI a1)), (2, .int (iI y11))]) => ?_) (fun y11 ty11 => os_r h ty11)
  replace h := os_l h ty11
  refine lv_sipush (v := iI 420) hx hb dX3_largeGapFor_57 rfl ?_
  refine lv_iload_n hx hb dX3_largeGapFor_60 rfl (lv_at hl 1 rfl) ?_
  refine lv_isub hx hb dX3_largeGapFor_61 ?_
  refine w_toeq (iI_sub 420 y11) ?_
  refine lv_iload_n hx hb dX3_largeGapFor_62 rfl (lv_at hl 0 rfl) ?_
  obtain ⟨g12, h⟩ := og_some h
  obtain ⟨g13, h⟩ := og_some h
  by_cases c14 : (420 - y11) < a1
  · replace h := it_T h c14
    refine i_icmp_lt_T hx hb g12 g13 (tgt := 70) dX3_largeGapFor_63 (by decide) c14 ?_
    refine lv_iconst (v := iI (-1)) hx hb dX3_largeGapFor_70 rfl ?_
    obtain rfl := Option.some.inj h
    exact e_i hx hb hr hlk hP hD hS (fun _ => 0) rfl (Nat.le_of_ble_eq_true rfl) (Nat.le_of_ble_eq_true rfl) rfl dX3_largeGapFor_71
  · replace h := it_F h c14
    refine i_icmp_lt_F hx hb g12 g13 (tgt := 70) dX3_largeGapFor_63 (by decide) c14 ?_
    refine lv_iload_n hx hb dX3_largeGapFor_66 rfl (lv_at hl 1 rfl) ?_
    refine lv_goto (tgt := 71) hx hb dX3_largeGapFor_67 (by decide) ?_
    obtain rfl := Option.some.inj h
    exact e_i hx hb hr hlk hP hD hS (fun _ => 0) rfl (Nat.le_of_ble_eq_true rfl) (Nat.le_of_ble_eq_true rfl) rfl dX3_largeGapFor_71
def f_Pl_gapFor (n : Nat) (M : cSt) (a1 : Int) : Option (Int) := og (inR a1) (if a1 < 12 then og (inR (gI M 3 + (2 + a1))) (og (inR (gI M 2 + 40)) (if (gI M 2 + 40) < (gI M 3 + (2 + a1)) then some (-1) else some (gI M 3))) else ob (f_Pl_largeGapFor n M (2 + a1)) (fun x6 => some x6))
set_option maxHeartbeats 4000000 in
set_option maxRecDepth 100000 in
theorem C_Pl_gapFor (l : Launch) (G : Nat → Nat) (D : va_G) (K : Nat → ClassId) (sz : Nat) (ga : Nat → Nat) (n : Nat) (M : cSt) (a1 : Int) {x : Int} (h : f_Pl_gapFor n M a1 = some x) : CM l yX3_gapFor cX3_gapFor 3 (some FieldType.int) ({ frames := 2, cells := 0, slots := 0, locals := 45 } : Room) G D K [.ref (ga 2), .int (iI a1)] (wld ga n (K 0) (K 1) M) sz (CQi (iI x) D (fun _ => wld ga n (K 0) (K 1) M)) := by
  refine CM_of (lv0 := [(0, .ref (ga 2)), (1, .int (iI a1))]) pn_RX3 (Nat.le_of_ble_eq_true rfl) rfl (fun p e s m args below meth c A ls hx hb hr hml hown hts hlk hnm hP hK hD hS hA hm hl => ?_)
  have hown : s.vm.findClass RX3 = some m.cls := hown
  unfold f_Pl_gapFor at h
  refine lv_iconst (v := iI 2) hx hb dX3_gapFor_0 rfl ?_
  refine lv_iload_n hx hb dX3_gapFor_1 rfl (lv_at hl 1 rfl) ?_
  refine lv_iadd hx hb dX3_gapFor_2 ?_
  refine w_toeq (iI_add 2 a1) ?_
  refine x_istore_n hx hb dX3_gapFor_3 rfl hl (by decide) [0, 1] (lv' := [(0, .ref (ga 2)), (1, .int (iI a1))]) rfl (⟨⟨Nat.ne_of_beq_eq_false rfl, Or.inl (Nat.ne_of_beq_eq_false rfl)⟩, ⟨⟨Nat.ne_of_beq_eq_false rfl, Or.inr rfl⟩, trivial⟩⟩) (fun ls hl => ?_)
  refine lv_iload_n hx hb dX3_gapFor_4 rfl (lv_at hl 2 rfl) ?_
  refine lv_bipush (v := iI 12) hx hb dX3_gapFor_5 rfl ?_
  obtain ⟨g1, h⟩ := og_some h
  by_cases c2 : a1 < 12
  · replace h := it_T h c2
    refine i_icmp_lt_T hx hb g1 ⟨by decide, by decide⟩ (tgt := 16) dX3_gapFor_7 (by decide) c2 ?_
    refine lv_aload_n hx hb dX3_gapFor_16 rfl (lv_at hl 1 rfl) ?_
    refine r_get hx hb hts ok_RX3 hown hK hP 2 go_2 rfl 4 (by decide) w_84 (fun _ h9 => h9) rfl dX3_gapFor_17 ?_
    refine lv_iload_n hx hb dX3_gapFor_20 rfl (lv_at hl 0 rfl) ?_
    refine lv_iadd hx hb dX3_gapFor_21 ?_
    refine w_toeq (iI_add (gI M 3) (2 + a1)) ?_
    refine lv_aload_n hx hb dX3_gapFor_22 rfl (lv_at hl 1 rfl) ?_
    refine r_get hx hb hts ok_RX3 hown hK hP 2 go_2 rfl 3 (by decide) w_82 (fun _ h9 => h9) rfl dX3_gapFor_23 ?_
    refine lv_bipush (v := iI 40) hx hb dX3_gapFor_26 rfl ?_
    refine lv_iadd hx hb dX3_gapFor_28 ?_
    refine w_toeq (iI_add (gI M 2) 40) ?_
    obtain ⟨g3, h⟩ := og_some h
    obtain ⟨g4, h⟩ := og_some h
    by_cases c5 : (gI M 2 + 40) < (gI M 3 + (2 + a1))
    · replace h := it_T h c5
      refine i_icmp_gt_T hx hb g3 g4 (tgt := 39) dX3_gapFor_29 (by decide) c5 ?_
      refine lv_iconst (v := iI (-1)) hx hb dX3_gapFor_39 rfl ?_
      obtain rfl := Option.some.inj h
      exact e_i hx hb hr hlk hP hD hS (fun _ => 0) rfl (Nat.le_of_ble_eq_true rfl) (Nat.le_of_ble_eq_true rfl) rfl dX3_gapFor_40
    · replace h := it_F h c5
      refine i_icmp_gt_F hx hb g3 g4 (tgt := 39) dX3_gapFor_29 (by decide) c5 ?_
      refine lv_aload_n hx hb dX3_gapFor_32 rfl (lv_at hl 1 rfl) ?_
      refine r_get hx hb hts ok_RX3 hown hK hP 2 go_2 rfl 4 (by decide) w_84 (fun _ h9 => h9) rfl dX3_gapFor_33 ?_
      refine lv_goto (tgt := 40) hx hb dX3_gapFor_36 (by decide) ?_
      obtain rfl := Option.some.inj h
      exact e_i hx hb hr hlk hP hD hS (fun _ => 0) rfl (Nat.le_of_ble_eq_true rfl) (Nat.le_of_ble_eq_true rfl) rfl dX3_gapFor_40
  · replace h := it_F h c2
    refine i_icmp_lt_F hx hb g1 ⟨by decide, by decide⟩ (tgt := 16) dX3_gapFor_7 (by decide) c2 ?_
    refine lv_aload_n hx hb dX3_gapFor_10 rfl (lv_at hl 1 rfl) ?_
    refine lv_iload_n hx hb dX3_gapFor_11 rfl (lv_at hl 0 rfl) ?_
    obtain ⟨x6, ex6, h⟩ := ob_some h
    refine gk_i (run_V (rest := []) hx hb hml hown hts hK hP hD hS hA hm (C_Pl_largeGapFor l G D K s.heap.size ga n M (2 + a1) ex6) _ (full_C _) (full_n _ List.nodup_range) mok_yX3_largeGapFor w_413 w_415 w_p2 (rcv hK hP 2 go_2 rfl rfl) ⟨Nat.le_of_ble_eq_true rfl, Nat.le_of_ble_eq_true rfl⟩ rfl hl.1 rfl (Nat.le_of_ble_eq_true rfl) dX3_gapFor_12 ⟨(Nat.le_of_ble_eq_true rfl), (Nat.le_of_ble_eq_true rfl)⟩) hP hD hS hA (fun u H locs (hP : va_P D cl (wld ga n (K 0) (K 1) M) H) (hD : va_D A (wld ga n (K 0) (K 1) M)) hS => ?_)
    obtain rfl := Option.some.inj h
    exact e_i hx hb hr hlk hP hD hS (fun _ => 0) rfl (Nat.le_of_ble_eq_true rfl) (Nat.le_of_ble_eq_true rfl) rfl dX3_gapFor_15
def s_Pl_largeGaps_8 (rec : Int → Int → Int → Option (Int × Int)) (n : Nat) (M : cSt)  (v1 : Int) (v2 : Int) (v3 : Int) : Option (Int × Int) := ob (f_Row_size n M 4) (fun x1 => og (inR v3) (og (inR x1) (if v3 < x1 then ob (f_Row_item n M 4 v3) (fun x5 => on x5 (rec v1 v2 (v3 + 1)) (fun q6 => og (q6 < n) (og (inR (gT M q6 4)) (og (inR v2) (if v2 < gT M q6 4 then ob (f_Th_end n M q6) (fun x10 => rec (v1 + 1) x10 (v3 + 1)) else ob (f_Th_end n M q6) (fun x11 => rec v1 x11 (v3 + 1))))))) else some (v1, v2))))
def g_Pl_largeGaps_8 (n : Nat) (M : cSt)  : Nat → Int → Int → Int → Option (Int × Int)
  | 0 => fun _ _ _ => none
  | q + 1 => s_Pl_largeGaps_8 (g_Pl_largeGaps_8 n M  q) n M 
set_option maxHeartbeats 4000000 in
set_option maxRecDepth 100000 in
theorem L_Pl_largeGaps_8 {p : Program} {l : Launch} {G : Nat → Nat} {D : va_G} {K : Nat → ClassId} {e : Env} {s : State} {m : MethodId} {args : Array Value} {below : List Frame} {meth : Method} {c : Code} {A : Nat → Prop} (hx : p.tables.exec = Jvm.exec) (hb : c.code = cX3_largeGaps) (hr : meth.sig.returnType = (some FieldType.int)) (hml : c.maxLocals = 5) (hown : s.vm.findClass RX3 = some m.cls) (hts : ∀ w ∈ lw_gw, w.before args s = true) (hlk : meth.locks = false) (hK : va_K D cl (tys K) s) (hA : ∀ q : Nat, s.heap.size ≤ q → A q) (hm : Amb G A s s.heap) {Q : State → Prop} (ga : Nat → Nat) (n : Nat) (M : cSt)  : ∀ (q : Nat) (v1 : Int) (v2 : Int) (v3 : Int) (out : Int × Int), g_Pl_largeGaps_8 n M  q v1 v2 v3 = some out → ∀ (ls : Array Slot) (H : Heap) (locs : List Loc), va_P D cl (wld ga n (K 0) (K 1) M) H → va_D A (wld ga n (K 0) (K 1) M) → va_S A s.heap H locs → lv_has ls 5 [(0, .ref (ga 2)), (1, .int (iI v1)), (2, .int (iI v2)), (3, .int (iI v3))] → (∀ (ls : Array Slot) (H : Heap) (locs : List Loc), va_P D cl (wld ga n (K 0) (K 1) M) H → va_D A (wld ga n (K 0) (K 1) M) → va_S A s.heap H locs → lv_has ls 5 [(1, .int (iI out.1)), (2, .int (iI out.2))] → W p l e ({ frames := 1, cells := 0, slots := 0, locals := 21 } : Room) s m args below meth c H locs 0 0 Q (F0 m 58 ls [])) → W p l e ({ frames := 1, cells := 0, slots := 0, locals := 21 } : Room) s m args below meth c H locs 0 0 Q (F0 m 8 ls []) := by
  intro q
  induction q with
  | zero =>
    intro v1 v2 v3 out h
    cases (show none = some out from h)
  | succ q ih =>
    intro v1 v2 v3 out h ls H locs hP hD hS hl kk
    replace h : s_Pl_largeGaps_8 (g_Pl_largeGaps_8 n M  q) n M  v1 v2 v3 = some out := h
    unfold s_Pl_largeGaps_8 at h
    refine lv_iload_n hx hb dX3_largeGaps_8 rfl (lv_at hl 3 rfl) ?_
    refine lv_aload_n hx hb dX3_largeGaps_9 rfl (lv_at hl 0 rfl) ?_
    refine r_get hx hb hts ok_RX3 hown hK hP 2 go_2 rfl 2 (by decide) w_78 (fun _ h9 => h9) rfl dX3_largeGaps_10 ?_
    obtain ⟨x1, ex1, h⟩ := ob_some h
    refine gk_i (run_V (rest := [.int (iI v3)]) hx hb hml hown hts hK hP hD hS hA hm (C_Row_size l G D K H.size ga n M 4 (by decide) ex1) _ (full_C _) (full_n _ List.nodup_range) mok_yX5_size w_417 w_405 w_406 (rcv hK hP (8 + 4) (go_ro (by decide)) rfl rfl) ⟨Nat.le_of_ble_eq_true rfl, Nat.le_of_ble_eq_true rfl⟩ rfl hl.1 rfl (Nat.le_of_ble_eq_true rfl) dX3_largeGaps_13 ⟨(Nat.le_of_ble_eq_true rfl), (Nat.le_of_ble_eq_true rfl)⟩) hP hD hS hA (fun u H locs (hP : va_P D cl (wld ga n (K 0) (K 1) M) H) (hD : va_D A (wld ga n (K 0) (K 1) M)) hS => ?_)
    obtain ⟨g2, h⟩ := og_some h
    obtain ⟨g3, h⟩ := og_some h
    by_cases c4 : v3 < x1
    · replace h := it_T h c4
      refine i_icmp_ge_F hx hb g2 g3 (tgt := 58) dX3_largeGaps_16 (by decide) c4 ?_
      refine lv_aload_n hx hb dX3_largeGaps_19 rfl (lv_at hl 0 rfl) ?_
      refine r_get hx hb hts ok_RX3 hown hK hP 2 go_2 rfl 2 (by decide) w_78 (fun _ h9 => h9) rfl dX3_largeGaps_20 ?_
      refine lv_iload_n hx hb dX3_largeGaps_23 rfl (lv_at hl 3 rfl) ?_
      obtain ⟨x5, ex5, h⟩ := ob_some h
      refine gk_q (run_V (rest := []) hx hb hml hown hts hK hP hD hS hA hm (C_Row_item l G D K H.size ga n M 4 (by decide) v3 ex5) _ (full_C _) (full_n _ List.nodup_range) mok_yX5_item w_418 w_419 w_420 (rcv hK hP (8 + 4) (go_ro (by decide)) rfl rfl) ⟨Nat.le_of_ble_eq_true rfl, Nat.le_of_ble_eq_true rfl⟩ rfl hl.1 rfl (Nat.le_of_ble_eq_true rfl) dX3_largeGaps_24 ⟨(Nat.le_of_ble_eq_true rfl), (Nat.le_of_ble_eq_true rfl)⟩) hP hD hS hA (fun u H locs (hP : va_P D cl (wld ga n (K 0) (K 1) M) H) (hD : va_D A (wld ga n (K 0) (K 1) M)) hS => ?_)
      refine w_tov (y := ctv ga x5) rfl ?_
      refine t_astore hx hb dX3_largeGaps_27 hl (by decide) [0, 1, 2, 3] (lv' := [(0, .ref (ga 2)), (1, .int (iI v1)), (2, .int (iI v2)), (3, .int (iI v3))]) rfl (⟨⟨Nat.ne_of_beq_eq_false rfl, Or.inl (Nat.ne_of_beq_eq_false rfl)⟩, ⟨⟨Nat.ne_of_beq_eq_false rfl, Or.inl (Nat.ne_of_beq_eq_false rfl)⟩, ⟨⟨Nat.ne_of_beq_eq_false rfl, Or.inl (Nat.ne_of_beq_eq_false rfl)⟩, ⟨⟨Nat.ne_of_beq_eq_false rfl, Or.inr rfl⟩, trivial⟩⟩⟩⟩) (fun ls hl => ?_)
      refine t_aload hx hb dX3_largeGaps_29 (lv_at hl 0 rfl) ?_
      rcases on_cases h with ⟨z6, h⟩ | ⟨q6, z6, h⟩
      · rw [ctv_none ga z6]
        refine lv_ifnullN (tgt := 52) hx hb dX3_largeGaps_31 (by decide) ?_
        refine x_iinc (v := iI (v3 + 1)) hx hb dX3_largeGaps_52 hl (k := 4) rfl (iI_add v3 1) (by decide) [0, 1, 2, 3] (lv' := [(4, ctv ga x5), (0, .ref (ga 2)), (1, .int (iI v1)), (2, .int (iI v2))]) rfl (⟨⟨Nat.ne_of_beq_eq_false rfl, Or.inl (Nat.ne_of_beq_eq_false rfl)⟩, ⟨⟨Nat.ne_of_beq_eq_false rfl, Or.inl (Nat.ne_of_beq_eq_false rfl)⟩, ⟨⟨Nat.ne_of_beq_eq_false rfl, Or.inl (Nat.ne_of_beq_eq_false rfl)⟩, ⟨⟨Nat.ne_of_beq_eq_false rfl, Or.inr rfl⟩, trivial⟩⟩⟩⟩) (fun ls hl => ?_)
        refine lv_goto (tgt := 8) hx hb dX3_largeGaps_55 (by decide) ?_
        exact ih v1 v2 (v3 + 1) _ h _ _ _ hP hD hS (lv_pk hl [2, 3, 4, 0] rfl) kk
      · obtain ⟨hq6, h⟩ := og_some h
        rw [ctv_some ga z6]
        refine lv_ifnull hx hb dX3_largeGaps_31 ?_
        refine t_aload hx hb dX3_largeGaps_34 (lv_at hl 0 rfl) ?_
        rw [ctv_some ga z6]
        refine r_get hx hb hts ok_RX7 hown hK hP (25 + 2 * q6) (go_th hq6) rfl 4 (by decide) w_694 (fun _ h9 => h9) rfl dX3_largeGaps_36 ?_
        refine lv_iload_n hx hb dX3_largeGaps_39 rfl (lv_at hl 3 rfl) ?_
        obtain ⟨g7, h⟩ := og_some h
        obtain ⟨g8, h⟩ := og_some h
        by_cases c9 : v2 < gT M q6 4
        · replace h := it_T h c9
          refine i_icmp_le_F hx hb g7 g8 (tgt := 46) dX3_largeGaps_40 (by decide) c9 ?_
          refine x_iinc (v := iI (v1 + 1)) hx hb dX3_largeGaps_43 hl (k := 2) rfl (iI_add v1 1) (by decide) [0, 1, 3, 4] (lv' := [(4, ctv ga x5), (0, .ref (ga 2)), (2, .int (iI v2)), (3, .int (iI v3))]) rfl (⟨⟨Nat.ne_of_beq_eq_false rfl, Or.inl (Nat.ne_of_beq_eq_false rfl)⟩, ⟨⟨Nat.ne_of_beq_eq_false rfl, Or.inr rfl⟩, ⟨⟨Nat.ne_of_beq_eq_false rfl, Or.inl (Nat.ne_of_beq_eq_false rfl)⟩, ⟨⟨Nat.ne_of_beq_eq_false rfl, Or.inl (Nat.ne_of_beq_eq_false rfl)⟩, trivial⟩⟩⟩⟩) (fun ls hl => ?_)
          refine t_aload hx hb dX3_largeGaps_46 (lv_at hl 1 rfl) ?_
          rw [ctv_some ga z6]
          obtain ⟨x10, ex10, h⟩ := ob_some h
          refine gk_i (run_V (rest := []) hx hb hml hown hts hK hP hD hS hA hm (C_Th_end l G D K H.size ga n M q6 hq6 ex10) _ (full_C _) (full_n _ List.nodup_range) mok_yX7_end w_422 w_423 w_424 (rcv hK hP (25 + 2 * q6) (go_th hq6) rfl rfl) ⟨Nat.le_of_ble_eq_true rfl, Nat.le_of_ble_eq_true rfl⟩ rfl hl.1 rfl (Nat.le_of_ble_eq_true rfl) dX3_largeGaps_48 ⟨(Nat.le_of_ble_eq_true rfl), (Nat.le_of_ble_eq_true rfl)⟩) hP hD hS hA (fun u H locs (hP : va_P D cl (wld ga n (K 0) (K 1) M) H) (hD : va_D A (wld ga n (K 0) (K 1) M)) hS => ?_)
          refine x_istore_n hx hb dX3_largeGaps_51 rfl hl (by decide) [0, 1, 2, 4] (lv' := [(1, .int (iI (v1 + 1))), (4, ctv ga x5), (0, .ref (ga 2)), (3, .int (iI v3))]) rfl (⟨⟨Nat.ne_of_beq_eq_false rfl, Or.inr rfl⟩, ⟨⟨Nat.ne_of_beq_eq_false rfl, Or.inl (Nat.ne_of_beq_eq_false rfl)⟩, ⟨⟨Nat.ne_of_beq_eq_false rfl, Or.inl (Nat.ne_of_beq_eq_false rfl)⟩, ⟨⟨Nat.ne_of_beq_eq_false rfl, Or.inl (Nat.ne_of_beq_eq_false rfl)⟩, trivial⟩⟩⟩⟩) (fun ls hl => ?_)
          refine x_iinc (v := iI (v3 + 1)) hx hb dX3_largeGaps_52 hl (k := 4) rfl (iI_add v3 1) (by decide) [0, 1, 2, 3] (lv' := [(2, .int (iI x10)), (1, .int (iI (v1 + 1))), (4, ctv ga x5), (0, .ref (ga 2))]) rfl (⟨⟨Nat.ne_of_beq_eq_false rfl, Or.inr rfl⟩, ⟨⟨Nat.ne_of_beq_eq_false rfl, Or.inl (Nat.ne_of_beq_eq_false rfl)⟩, ⟨⟨Nat.ne_of_beq_eq_false rfl, Or.inl (Nat.ne_of_beq_eq_false rfl)⟩, ⟨⟨Nat.ne_of_beq_eq_false rfl, Or.inl (Nat.ne_of_beq_eq_false rfl)⟩, trivial⟩⟩⟩⟩) (fun ls hl => ?_)
          refine lv_goto (tgt := 8) hx hb dX3_largeGaps_55 (by decide) ?_
          exact ih (v1 + 1) x10 (v3 + 1) _ h _ _ _ hP hD hS (lv_pk hl [4, 2, 1, 0] rfl) kk
        · replace h := it_F h c9
          refine i_icmp_le_T hx hb g7 g8 (tgt := 46) dX3_largeGaps_40 (by decide) c9 ?_
          refine t_aload hx hb dX3_largeGaps_46 (lv_at hl 0 rfl) ?_
          rw [ctv_some ga z6]
          obtain ⟨x11, ex11, h⟩ := ob_some h
          refine gk_i (run_V (rest := []) hx hb hml hown hts hK hP hD hS hA hm (C_Th_end l G D K H.size ga n M q6 hq6 ex11) _ (full_C _) (full_n _ List.nodup_range) mok_yX7_end w_422 w_423 w_424 (rcv hK hP (25 + 2 * q6) (go_th hq6) rfl rfl) ⟨Nat.le_of_ble_eq_true rfl, Nat.le_of_ble_eq_true rfl⟩ rfl hl.1 rfl (Nat.le_of_ble_eq_true rfl) dX3_largeGaps_48 ⟨(Nat.le_of_ble_eq_true rfl), (Nat.le_of_ble_eq_true rfl)⟩) hP hD hS hA (fun u H locs (hP : va_P D cl (wld ga n (K 0) (K 1) M) H) (hD : va_D A (wld ga n (K 0) (K 1) M)) hS => ?_)
          refine x_istore_n hx hb dX3_largeGaps_51 rfl hl (by decide) [0, 1, 2, 4] (lv' := [(4, ctv ga x5), (0, .ref (ga 2)), (1, .int (iI v1)), (3, .int (iI v3))]) rfl (⟨⟨Nat.ne_of_beq_eq_false rfl, Or.inl (Nat.ne_of_beq_eq_false rfl)⟩, ⟨⟨Nat.ne_of_beq_eq_false rfl, Or.inl (Nat.ne_of_beq_eq_false rfl)⟩, ⟨⟨Nat.ne_of_beq_eq_false rfl, Or.inr rfl⟩, ⟨⟨Nat.ne_of_beq_eq_false rfl, Or.inl (Nat.ne_of_beq_eq_false rfl)⟩, trivial⟩⟩⟩⟩) (fun ls hl => ?_)
          refine x_iinc (v := iI (v3 + 1)) hx hb dX3_largeGaps_52 hl (k := 4) rfl (iI_add v3 1) (by decide) [0, 1, 2, 3] (lv' := [(2, .int (iI x11)), (4, ctv ga x5), (0, .ref (ga 2)), (1, .int (iI v1))]) rfl (⟨⟨Nat.ne_of_beq_eq_false rfl, Or.inr rfl⟩, ⟨⟨Nat.ne_of_beq_eq_false rfl, Or.inl (Nat.ne_of_beq_eq_false rfl)⟩, ⟨⟨Nat.ne_of_beq_eq_false rfl, Or.inl (Nat.ne_of_beq_eq_false rfl)⟩, ⟨⟨Nat.ne_of_beq_eq_false rfl, Or.inl (Nat.ne_of_beq_eq_false rfl)⟩, trivial⟩⟩⟩⟩) (fun ls hl => ?_)
          refine lv_goto (tgt := 8) hx hb dX3_largeGaps_55 (by decide) ?_
          exact ih v1 x11 (v3 + 1) _ h _ _ _ hP hD hS (lv_pk hl [3, 4, 1, 0] rfl) kk
    · replace h := it_F h c4
      refine i_icmp_ge_T hx hb g2 g3 (tgt := 58) dX3_largeGaps_16 (by decide) c4 ?_
      obtain rfl := Option.some.inj h
      exact kk _ _ _ hP hD hS (lv_pk hl [1, 2] rfl)
def f_Pl_largeGaps (n : Nat) (M : cSt)  : Option (Int) := ob (g_Pl_largeGaps_8 n M fu 0 300 0) (fun x12 => og (inR x12.2) (if x12.2 < 420 then some (x12.1 + 1) else some x12.1))
set_option maxHeartbeats 4000000 in
set_option maxRecDepth 100000 in
theorem C_Pl_largeGaps (l : Launch) (G : Nat → Nat) (D : va_G) (K : Nat → ClassId) (sz : Nat) (ga : Nat → Nat) (n : Nat) (M : cSt)  {x : Int} (h : f_Pl_largeGaps n M  = some x) : CM l yX3_largeGaps cX3_largeGaps 5 (some FieldType.int) ({ frames := 1, cells := 0, slots := 0, locals := 21 } : Room) G D K [.ref (ga 2)] (wld ga n (K 0) (K 1) M) sz (CQi (iI x) D (fun _ => wld ga n (K 0) (K 1) M)) := by
  refine CM_of (lv0 := [(0, .ref (ga 2))]) pn_RX3 (Nat.le_of_ble_eq_true rfl) rfl (fun p e s m args below meth c A ls hx hb hr hml hown hts hlk hnm hP hK hD hS hA hm hl => ?_)
  have hown : s.vm.findClass RX3 = some m.cls := hown
  unfold f_Pl_largeGaps at h
  refine lv_iconst (v := iI 0) hx hb dX3_largeGaps_0 rfl ?_
  refine x_istore_n hx hb dX3_largeGaps_1 rfl hl (by decide) [0] (lv' := [(0, .ref (ga 2))]) rfl (⟨⟨Nat.ne_of_beq_eq_false rfl, Or.inr rfl⟩, trivial⟩) (fun ls hl => ?_)
  refine lv_sipush (v := iI 300) hx hb dX3_largeGaps_2 rfl ?_
  refine x_istore_n hx hb dX3_largeGaps_5 rfl hl (by decide) [0, 1] (lv' := [(1, .int (iI 0)), (0, .ref (ga 2))]) rfl (⟨⟨Nat.ne_of_beq_eq_false rfl, Or.inr rfl⟩, ⟨⟨Nat.ne_of_beq_eq_false rfl, Or.inl (Nat.ne_of_beq_eq_false rfl)⟩, trivial⟩⟩) (fun ls hl => ?_)
  refine lv_iconst (v := iI 0) hx hb dX3_largeGaps_6 rfl ?_
  refine x_istore_n hx hb dX3_largeGaps_7 rfl hl (by decide) [0, 1, 2] (lv' := [(2, .int (iI 300)), (1, .int (iI 0)), (0, .ref (ga 2))]) rfl (⟨⟨Nat.ne_of_beq_eq_false rfl, Or.inr rfl⟩, ⟨⟨Nat.ne_of_beq_eq_false rfl, Or.inl (Nat.ne_of_beq_eq_false rfl)⟩, ⟨⟨Nat.ne_of_beq_eq_false rfl, Or.inl (Nat.ne_of_beq_eq_false rfl)⟩, trivial⟩⟩⟩) (fun ls hl => ?_)
  obtain ⟨x12, ex12, h⟩ := ob_some h
  refine L_Pl_largeGaps_8 hx hb hr hml hown hts hlk hK hA hm ga n M  fu 0 300 0 _ ex12 _ _ _ hP hD hS (lv_pk hl [3, 2, 1, 0] rfl) (fun ls H locs (hP : va_P D cl (wld ga n (K 0) (K 1) M) H) (hD : va_D A (wld ga n (K 0) (K 1) M)) hS (hl : lv_has ls 5 [(1, .int (iI x12.1)), (2, .int (iI x12.2))]) => ?_)
  refine lv_sipush (v := iI 420) hx hb dX3_largeGaps_58 rfl ?_
  refine lv_iload_n hx hb dX3_largeGaps_61 rfl (lv_at hl 1 rfl) ?_
  obtain ⟨g13, h⟩ := og_some h
  by_cases c14 : x12.2 < 420
  · replace h := it_T h c14
    refine i_icmp_le_F hx hb ⟨by decide, by decide⟩ g13 (tgt := 71) dX3_largeGaps_62 (by decide) c14 ?_
    refine lv_iload_n hx hb dX3_largeGaps_65 rfl (lv_at hl 0 rfl) ?_
    refine lv_iconst (v := iI 1) hx hb dX3_largeGaps_66 rfl ?_
    refine lv_iadd hx hb dX3_largeGaps_67 ?_
    refine w_toeq (iI_add x12.1 1) ?_
    refine lv_goto (tgt := 72) hx hb dX3_largeGaps_68 (by decide) ?_
    obtain rfl := Option.some.inj h
    exact e_i hx hb hr hlk hP hD hS (fun _ => 0) rfl (Nat.le_of_ble_eq_true rfl) (Nat.le_of_ble_eq_true rfl) rfl dX3_largeGaps_72
  · replace h := it_F h c14
    refine i_icmp_le_T hx hb ⟨by decide, by decide⟩ g13 (tgt := 71) dX3_largeGaps_62 (by decide) c14 ?_
    refine lv_iload_n hx hb dX3_largeGaps_71 rfl (lv_at hl 0 rfl) ?_
    obtain rfl := Option.some.inj h
    exact e_i hx hb hr hlk hP hD hS (fun _ => 0) rfl (Nat.le_of_ble_eq_true rfl) (Nat.le_of_ble_eq_true rfl) rfl dX3_largeGaps_72
def f_Pl_oldRoom (n : Nat) (M : cSt)  : Option (Int) := some ((100 + gI M 5) - gI M 4)
set_option maxHeartbeats 4000000 in
set_option maxRecDepth 100000 in
theorem C_Pl_oldRoom (l : Launch) (G : Nat → Nat) (D : va_G) (K : Nat → ClassId) (sz : Nat) (ga : Nat → Nat) (n : Nat) (M : cSt)  {x : Int} (h : f_Pl_oldRoom n M  = some x) : CM l yX3_oldRoom cX3_oldRoom 1 (some FieldType.int) ({ frames := 0, cells := 0, slots := 0, locals := 0 } : Room) G D K [.ref (ga 2)] (wld ga n (K 0) (K 1) M) sz (CQi (iI x) D (fun _ => wld ga n (K 0) (K 1) M)) := by
  refine CM_of (lv0 := [(0, .ref (ga 2))]) pn_RX3 (Nat.le_of_ble_eq_true rfl) rfl (fun p e s m args below meth c A ls hx hb hr hml hown hts hlk hnm hP hK hD hS hA hm hl => ?_)
  have hown : s.vm.findClass RX3 = some m.cls := hown
  unfold f_Pl_oldRoom at h
  refine lv_bipush (v := iI 100) hx hb dX3_oldRoom_0 rfl ?_
  refine lv_aload_n hx hb dX3_oldRoom_2 rfl (lv_at hl 0 rfl) ?_
  refine r_get hx hb hts ok_RX3 hown hK hP 2 go_2 rfl 6 (by decide) w_89 (fun _ h9 => h9) rfl dX3_oldRoom_3 ?_
  refine lv_iadd hx hb dX3_oldRoom_6 ?_
  refine w_toeq (iI_add 100 (gI M 5)) ?_
  refine lv_aload_n hx hb dX3_oldRoom_7 rfl (lv_at hl 0 rfl) ?_
  refine r_get hx hb hts ok_RX3 hown hK hP 2 go_2 rfl 5 (by decide) w_87 (fun _ h9 => h9) rfl dX3_oldRoom_8 ?_
  refine lv_isub hx hb dX3_oldRoom_11 ?_
  refine w_toeq (iI_sub (100 + gI M 5) (gI M 4)) ?_
  obtain rfl := Option.some.inj h
  exact e_i hx hb hr hlk hP hD hS (fun _ => 0) rfl (Nat.le_of_ble_eq_true rfl) (Nat.le_of_ble_eq_true rfl) rfl dX3_oldRoom_12
def s_Pl_canOldTakeYoung_4 (rec : Int → Int → Option (Int)) (n : Nat) (M : cSt)  (v1 : Int) (v2 : Int) : Option (Int) := ob (f_Row_size n M 2) (fun x1 => og (inR v2) (og (inR x1) (if v2 < x1 then ob (f_Row_item n M 2 v2) (fun x5 => on x5 (rec v1 (v2 + 1)) (fun q6 => og (q6 < n) (rec (v1 + gT M q6 6) (v2 + 1)))) else some v1)))
def g_Pl_canOldTakeYoung_4 (n : Nat) (M : cSt)  : Nat → Int → Int → Option (Int)
  | 0 => fun _ _ => none
  | q + 1 => s_Pl_canOldTakeYoung_4 (g_Pl_canOldTakeYoung_4 n M  q) n M 
set_option maxHeartbeats 4000000 in
set_option maxRecDepth 100000 in
theorem L_Pl_canOldTakeYoung_4 {p : Program} {l : Launch} {G : Nat → Nat} {D : va_G} {K : Nat → ClassId} {e : Env} {s : State} {m : MethodId} {args : Array Value} {below : List Frame} {meth : Method} {c : Code} {A : Nat → Prop} (hx : p.tables.exec = Jvm.exec) (hb : c.code = cX3_canOldTakeYoung) (hr : meth.sig.returnType = (some FieldType.boolean)) (hml : c.maxLocals = 4) (hown : s.vm.findClass RX3 = some m.cls) (hts : ∀ w ∈ lw_gw, w.before args s = true) (hlk : meth.locks = false) (hK : va_K D cl (tys K) s) (hA : ∀ q : Nat, s.heap.size ≤ q → A q) (hm : Amb G A s s.heap) {Q : State → Prop} (ga : Nat → Nat) (n : Nat) (M : cSt)  : ∀ (q : Nat) (v1 : Int) (v2 : Int) (out : Int), g_Pl_canOldTakeYoung_4 n M  q v1 v2 = some out → ∀ (ls : Array Slot) (H : Heap) (locs : List Loc), va_P D cl (wld ga n (K 0) (K 1) M) H → va_D A (wld ga n (K 0) (K 1) M) → va_S A s.heap H locs → lv_has ls 4 [(0, .ref (ga 2)), (1, .int (iI v1)), (2, .int (iI v2))] → (∀ (ls : Array Slot) (H : Heap) (locs : List Loc), va_P D cl (wld ga n (K 0) (K 1) M) H → va_D A (wld ga n (K 0) (K 1) M) → va_S A s.heap H locs → lv_has ls 4 [(0, .ref (ga 2)), (1, .int (iI out))] → W p l e ({ frames := 1, cells := 0, slots := 0, locals := 21 } : Room) s m args below meth c H locs 0 0 Q (F0 m 41 ls [])) → W p l e ({ frames := 1, cells := 0, slots := 0, locals := 21 } : Room) s m args below meth c H locs 0 0 Q (F0 m 4 ls []) := by
  intro q
  induction q with
  | zero =>
    intro v1 v2 out h
    cases (show none = some out from h)
  | succ q ih =>
    intro v1 v2 out h ls H locs hP hD hS hl kk
    replace h : s_Pl_canOldTakeYoung_4 (g_Pl_canOldTakeYoung_4 n M  q) n M  v1 v2 = some out := h
    unfold s_Pl_canOldTakeYoung_4 at h
    refine lv_iload_n hx hb dX3_canOldTakeYoung_4 rfl (lv_at hl 2 rfl) ?_
    refine lv_aload_n hx hb dX3_canOldTakeYoung_5 rfl (lv_at hl 0 rfl) ?_
    refine r_get hx hb hts ok_RX3 hown hK hP 2 go_2 rfl 0 (by decide) w_74 (fun _ h9 => h9) rfl dX3_canOldTakeYoung_6 ?_
    obtain ⟨x1, ex1, h⟩ := ob_some h
    refine gk_i (run_V (rest := [.int (iI v2)]) hx hb hml hown hts hK hP hD hS hA hm (C_Row_size l G D K H.size ga n M 2 (by decide) ex1) _ (full_C _) (full_n _ List.nodup_range) mok_yX5_size w_417 w_405 w_406 (rcv hK hP (8 + 2) (go_ro (by decide)) rfl rfl) ⟨Nat.le_of_ble_eq_true rfl, Nat.le_of_ble_eq_true rfl⟩ rfl hl.1 rfl (Nat.le_of_ble_eq_true rfl) dX3_canOldTakeYoung_9 ⟨(Nat.le_of_ble_eq_true rfl), (Nat.le_of_ble_eq_true rfl)⟩) hP hD hS hA (fun u H locs (hP : va_P D cl (wld ga n (K 0) (K 1) M) H) (hD : va_D A (wld ga n (K 0) (K 1) M)) hS => ?_)
    obtain ⟨g2, h⟩ := og_some h
    obtain ⟨g3, h⟩ := og_some h
    by_cases c4 : v2 < x1
    · replace h := it_T h c4
      refine i_icmp_ge_F hx hb g2 g3 (tgt := 41) dX3_canOldTakeYoung_12 (by decide) c4 ?_
      refine lv_aload_n hx hb dX3_canOldTakeYoung_15 rfl (lv_at hl 0 rfl) ?_
      refine r_get hx hb hts ok_RX3 hown hK hP 2 go_2 rfl 0 (by decide) w_74 (fun _ h9 => h9) rfl dX3_canOldTakeYoung_16 ?_
      refine lv_iload_n hx hb dX3_canOldTakeYoung_19 rfl (lv_at hl 2 rfl) ?_
      obtain ⟨x5, ex5, h⟩ := ob_some h
      refine gk_q (run_V (rest := []) hx hb hml hown hts hK hP hD hS hA hm (C_Row_item l G D K H.size ga n M 2 (by decide) v2 ex5) _ (full_C _) (full_n _ List.nodup_range) mok_yX5_item w_418 w_419 w_420 (rcv hK hP (8 + 2) (go_ro (by decide)) rfl rfl) ⟨Nat.le_of_ble_eq_true rfl, Nat.le_of_ble_eq_true rfl⟩ rfl hl.1 rfl (Nat.le_of_ble_eq_true rfl) dX3_canOldTakeYoung_20 ⟨(Nat.le_of_ble_eq_true rfl), (Nat.le_of_ble_eq_true rfl)⟩) hP hD hS hA (fun u H locs (hP : va_P D cl (wld ga n (K 0) (K 1) M) H) (hD : va_D A (wld ga n (K 0) (K 1) M)) hS => ?_)
      refine w_tov (y := ctv ga x5) rfl ?_
      refine t_astore_n hx hb dX3_canOldTakeYoung_23 rfl hl (by decide) [0, 1, 2] (lv' := [(0, .ref (ga 2)), (1, .int (iI v1)), (2, .int (iI v2))]) rfl (⟨⟨Nat.ne_of_beq_eq_false rfl, Or.inl (Nat.ne_of_beq_eq_false rfl)⟩, ⟨⟨Nat.ne_of_beq_eq_false rfl, Or.inl (Nat.ne_of_beq_eq_false rfl)⟩, ⟨⟨Nat.ne_of_beq_eq_false rfl, Or.inr rfl⟩, trivial⟩⟩⟩) (fun ls hl => ?_)
      refine t_aload_n hx hb dX3_canOldTakeYoung_24 rfl (lv_at hl 0 rfl) ?_
      rcases on_cases h with ⟨z6, h⟩ | ⟨q6, z6, h⟩
      · rw [ctv_none ga z6]
        refine lv_ifnullN (tgt := 35) hx hb dX3_canOldTakeYoung_25 (by decide) ?_
        refine x_iinc (v := iI (v2 + 1)) hx hb dX3_canOldTakeYoung_35 hl (k := 3) rfl (iI_add v2 1) (by decide) [0, 1, 2] (lv' := [(3, ctv ga x5), (0, .ref (ga 2)), (1, .int (iI v1))]) rfl (⟨⟨Nat.ne_of_beq_eq_false rfl, Or.inl (Nat.ne_of_beq_eq_false rfl)⟩, ⟨⟨Nat.ne_of_beq_eq_false rfl, Or.inl (Nat.ne_of_beq_eq_false rfl)⟩, ⟨⟨Nat.ne_of_beq_eq_false rfl, Or.inr rfl⟩, trivial⟩⟩⟩) (fun ls hl => ?_)
        refine lv_goto (tgt := 4) hx hb dX3_canOldTakeYoung_38 (by decide) ?_
        exact ih v1 (v2 + 1) _ h _ _ _ hP hD hS (lv_pk hl [2, 3, 0] rfl) kk
      · obtain ⟨hq6, h⟩ := og_some h
        rw [ctv_some ga z6]
        refine lv_ifnull hx hb dX3_canOldTakeYoung_25 ?_
        refine lv_iload_n hx hb dX3_canOldTakeYoung_28 rfl (lv_at hl 2 rfl) ?_
        refine t_aload_n hx hb dX3_canOldTakeYoung_29 rfl (lv_at hl 0 rfl) ?_
        rw [ctv_some ga z6]
        refine r_get hx hb hts ok_RX7 hown hK hP (25 + 2 * q6) (go_th hq6) rfl 6 (by decide) w_705 (fun _ h9 => h9) rfl dX3_canOldTakeYoung_30 ?_
        refine lv_iadd hx hb dX3_canOldTakeYoung_33 ?_
        refine w_toeq (iI_add v1 (gT M q6 6)) ?_
        refine x_istore_n hx hb dX3_canOldTakeYoung_34 rfl hl (by decide) [0, 1, 3] (lv' := [(3, ctv ga x5), (0, .ref (ga 2)), (2, .int (iI v2))]) rfl (⟨⟨Nat.ne_of_beq_eq_false rfl, Or.inl (Nat.ne_of_beq_eq_false rfl)⟩, ⟨⟨Nat.ne_of_beq_eq_false rfl, Or.inr rfl⟩, ⟨⟨Nat.ne_of_beq_eq_false rfl, Or.inl (Nat.ne_of_beq_eq_false rfl)⟩, trivial⟩⟩⟩) (fun ls hl => ?_)
        refine x_iinc (v := iI (v2 + 1)) hx hb dX3_canOldTakeYoung_35 hl (k := 3) rfl (iI_add v2 1) (by decide) [0, 1, 2] (lv' := [(1, .int (iI (v1 + gT M q6 6))), (3, ctv ga x5), (0, .ref (ga 2))]) rfl (⟨⟨Nat.ne_of_beq_eq_false rfl, Or.inr rfl⟩, ⟨⟨Nat.ne_of_beq_eq_false rfl, Or.inl (Nat.ne_of_beq_eq_false rfl)⟩, ⟨⟨Nat.ne_of_beq_eq_false rfl, Or.inl (Nat.ne_of_beq_eq_false rfl)⟩, trivial⟩⟩⟩) (fun ls hl => ?_)
        refine lv_goto (tgt := 4) hx hb dX3_canOldTakeYoung_38 (by decide) ?_
        exact ih (v1 + gT M q6 6) (v2 + 1) _ h _ _ _ hP hD hS (lv_pk hl [3, 1, 0] rfl) kk
    · replace h := it_F h c4
      refine i_icmp_ge_T hx hb g2 g3 (tgt := 41) dX3_canOldTakeYoung_12 (by decide) c4 ?_
      obtain rfl := Option.some.inj h
      exact kk _ _ _ hP hD hS (lv_pk hl [0, 1] rfl)
def f_Pl_canOldTakeYoung (n : Nat) (M : cSt)  : Option (Int) := ob (g_Pl_canOldTakeYoung_4 n M fu 0 0) (fun x7 => ob (f_Pl_oldRoom n M) (fun x8 => og (inR x7) (og (inR x8) (if x8 < x7 then some 0 else some 1))))
set_option maxHeartbeats 4000000 in
set_option maxRecDepth 100000 in
theorem C_Pl_canOldTakeYoung (l : Launch) (G : Nat → Nat) (D : va_G) (K : Nat → ClassId) (sz : Nat) (ga : Nat → Nat) (n : Nat) (M : cSt)  {x : Int} (h : f_Pl_canOldTakeYoung n M  = some x) : CM l yX3_canOldTakeYoung cX3_canOldTakeYoung 4 (some FieldType.boolean) ({ frames := 1, cells := 0, slots := 0, locals := 21 } : Room) G D K [.ref (ga 2)] (wld ga n (K 0) (K 1) M) sz (CQi (iI x) D (fun _ => wld ga n (K 0) (K 1) M)) := by
  refine CM_of (lv0 := [(0, .ref (ga 2))]) pn_RX3 (Nat.le_of_ble_eq_true rfl) rfl (fun p e s m args below meth c A ls hx hb hr hml hown hts hlk hnm hP hK hD hS hA hm hl => ?_)
  have hown : s.vm.findClass RX3 = some m.cls := hown
  unfold f_Pl_canOldTakeYoung at h
  refine lv_iconst (v := iI 0) hx hb dX3_canOldTakeYoung_0 rfl ?_
  refine x_istore_n hx hb dX3_canOldTakeYoung_1 rfl hl (by decide) [0] (lv' := [(0, .ref (ga 2))]) rfl (⟨⟨Nat.ne_of_beq_eq_false rfl, Or.inr rfl⟩, trivial⟩) (fun ls hl => ?_)
  refine lv_iconst (v := iI 0) hx hb dX3_canOldTakeYoung_2 rfl ?_
  refine x_istore_n hx hb dX3_canOldTakeYoung_3 rfl hl (by decide) [0, 1] (lv' := [(1, .int (iI 0)), (0, .ref (ga 2))]) rfl (⟨⟨Nat.ne_of_beq_eq_false rfl, Or.inr rfl⟩, ⟨⟨Nat.ne_of_beq_eq_false rfl, Or.inl (Nat.ne_of_beq_eq_false rfl)⟩, trivial⟩⟩) (fun ls hl => ?_)
  obtain ⟨x7, ex7, h⟩ := ob_some h
  refine L_Pl_canOldTakeYoung_4 hx hb hr hml hown hts hlk hK hA hm ga n M  fu 0 0 _ ex7 _ _ _ hP hD hS (lv_pk hl [2, 1, 0] rfl) (fun ls H locs (hP : va_P D cl (wld ga n (K 0) (K 1) M) H) (hD : va_D A (wld ga n (K 0) (K 1) M)) hS (hl : lv_has ls 4 [(0, .ref (ga 2)), (1, .int (iI x7))]) => ?_)
  refine lv_iload_n hx hb dX3_canOldTakeYoung_41 rfl (lv_at hl 1 rfl) ?_
  refine lv_aload_n hx hb dX3_canOldTakeYoung_42 rfl (lv_at hl 0 rfl) ?_
  obtain ⟨x8, ex8, h⟩ := ob_some h
  refine gk_i (run_V (rest := [.int (iI x7)]) hx hb hml hown hts hK hP hD hS hA hm (C_Pl_oldRoom l G D K H.size ga n M ex8) _ (full_C _) (full_n _ List.nodup_range) mok_yX3_oldRoom w_434 w_435 w_436 (rcv hK hP 2 go_2 rfl rfl) ⟨Nat.le_of_ble_eq_true rfl, Nat.le_of_ble_eq_true rfl⟩ rfl hl.1 rfl (Nat.le_of_ble_eq_true rfl) dX3_canOldTakeYoung_43 ⟨(Nat.le_of_ble_eq_true rfl), (Nat.le_of_ble_eq_true rfl)⟩) hP hD hS hA (fun u H locs (hP : va_P D cl (wld ga n (K 0) (K 1) M) H) (hD : va_D A (wld ga n (K 0) (K 1) M)) hS => ?_)
  obtain ⟨g9, h⟩ := og_some h
  obtain ⟨g10, h⟩ := og_some h
  by_cases c11 : x8 < x7
  · replace h := it_T h c11
    refine i_icmp_gt_T hx hb g9 g10 (tgt := 53) dX3_canOldTakeYoung_46 (by decide) c11 ?_
    refine lv_iconst (v := iI 0) hx hb dX3_canOldTakeYoung_53 rfl ?_
    obtain rfl := Option.some.inj h
    exact e_z hx hb hr hlk hP hD hS (fun _ => 0) rfl (Nat.le_of_ble_eq_true rfl) (Nat.le_of_ble_eq_true rfl) rfl (b01 (Or.inl rfl)) dX3_canOldTakeYoung_54
  · replace h := it_F h c11
    refine i_icmp_gt_F hx hb g9 g10 (tgt := 53) dX3_canOldTakeYoung_46 (by decide) c11 ?_
    refine lv_iconst (v := iI 1) hx hb dX3_canOldTakeYoung_49 rfl ?_
    refine lv_goto (tgt := 54) hx hb dX3_canOldTakeYoung_50 (by decide) ?_
    obtain rfl := Option.some.inj h
    exact e_z hx hb hr hlk hP hD hS (fun _ => 0) rfl (Nat.le_of_ble_eq_true rfl) (Nat.le_of_ble_eq_true rfl) rfl (b01 (Or.inr rfl)) dX3_canOldTakeYoung_54
def f_Pl_moveToOld (n : Nat) (M : cSt) (t1 : Option Nat) : Option (cSt) := on t1 none (fun q1 => og (q1 < n) (ob (f_Th_moveTo n M q1 2 (gI M 4)) (fun x2 => ob (f_Th_end n x2 q1) (fun x3 => ob (f_Row_add n (sI x2 4 x3) 3 (some q1)) (fun x4 => some x4)))))
set_option maxHeartbeats 4000000 in
set_option maxRecDepth 100000 in
theorem C_Pl_moveToOld (l : Launch) (G : Nat → Nat) (D : va_G) (K : Nat → ClassId) (sz : Nat) (ga : Nat → Nat) (n : Nat) (M : cSt) (t1 : Option Nat) {x : cSt} (h : f_Pl_moveToOld n M t1 = some x) : CM l yX3_moveToOld cX3_moveToOld 2 (none : Option FieldType) ({ frames := 1, cells := 0, slots := 0, locals := 22 } : Room) G D K [.ref (ga 2), ctv ga t1] (wld ga n (K 0) (K 1) M) sz (CQv D (fun _ => wld ga n (K 0) (K 1) x)) := by
  refine CM_of (lv0 := [(0, .ref (ga 2)), (1, ctv ga t1)]) pn_RX3 (by cases t1 <;> exact (Nat.le_of_ble_eq_true rfl)) (by cases t1 <;> rfl) (fun p e s m args below meth c A ls hx hb hr hml hown hts hlk hnm hP hK hD hS hA hm hl => ?_)
  have hown : s.vm.findClass RX3 = some m.cls := hown
  unfold f_Pl_moveToOld at h
  refine t_aload_n hx hb dX3_moveToOld_0 rfl (lv_at hl 1 rfl) ?_
  refine lv_iconst (v := iI 2) hx hb dX3_moveToOld_1 rfl ?_
  refine lv_aload_n hx hb dX3_moveToOld_2 rfl (lv_at hl 0 rfl) ?_
  refine r_get hx hb hts ok_RX3 hown hK hP 2 go_2 rfl 5 (by decide) w_87 (fun _ h9 => h9) rfl dX3_moveToOld_3 ?_
  rcases on_cases h with ⟨z1, h⟩ | ⟨q1, z1, h⟩
  · cases h
  · obtain ⟨hq1, h⟩ := og_some h
    rw [ctv_some ga z1]
    obtain ⟨x2, ex2, h⟩ := ob_some h
    refine gk_v (run_V (rest := []) hx hb hml hown hts hK hP hD hS hA hm (C_Th_moveTo l G D K s.heap.size ga n M q1 hq1 2 (gI M 4) ex2) _ (full_C _) (full_n _ List.nodup_range) mok_yX7_moveTo w_493 w_494 w_495 (rcv hK hP (25 + 2 * q1) (go_th hq1) rfl rfl) ⟨Nat.le_of_ble_eq_true rfl, Nat.le_of_ble_eq_true rfl⟩ rfl hl.1 rfl (Nat.le_of_ble_eq_true rfl) dX3_moveToOld_6 ⟨(Nat.le_of_ble_eq_true rfl), (Nat.le_of_ble_eq_true rfl)⟩) hP hD hS hA (fun u H locs (hP : va_P D cl (wld ga n (K 0) (K 1) x2) H) (hD : va_D A (wld ga n (K 0) (K 1) x2)) hS => ?_)
    refine lv_aload_n hx hb dX3_moveToOld_9 rfl (lv_at hl 0 rfl) ?_
    refine t_aload_n hx hb dX3_moveToOld_10 rfl (lv_at hl 1 rfl) ?_
    rw [ctv_some ga z1]
    obtain ⟨x3, ex3, h⟩ := ob_some h
    refine gk_i (run_V (rest := [.ref (ga 2)]) hx hb hml hown hts hK hP hD hS hA hm (C_Th_end l G D K H.size ga n x2 q1 hq1 ex3) _ (full_C _) (full_n _ List.nodup_range) mok_yX7_end w_422 w_423 w_424 (rcv hK hP (25 + 2 * q1) (go_th hq1) rfl rfl) ⟨Nat.le_of_ble_eq_true rfl, Nat.le_of_ble_eq_true rfl⟩ rfl hl.1 rfl (Nat.le_of_ble_eq_true rfl) dX3_moveToOld_11 ⟨(Nat.le_of_ble_eq_true rfl), (Nat.le_of_ble_eq_true rfl)⟩) hP hD hS hA (fun u H locs (hP : va_P D cl (wld ga n (K 0) (K 1) x2) H) (hD : va_D A (wld ga n (K 0) (K 1) x2)) hS => ?_)
    refine r_put hx hb hts ok_RX3 hown hK hP hD hS 2 go_2 rfl 5 (by decide) w_87 (fun _ h9 => h9) rfl (v := .int (iI x3)) rfl rfl (Nat.le_of_ble_eq_true rfl) dX3_moveToOld_14 (ws' := wld ga n (K 0) (K 1) (sI x2 4 x3)) wI_4 (fun H locs hP hD hS => ?_)
    refine lv_aload_n hx hb dX3_moveToOld_17 rfl (lv_at hl 0 rfl) ?_
    refine r_get hx hb hts ok_RX3 hown hK hP 2 go_2 rfl 1 (by decide) w_76 (fun _ h9 => h9) rfl dX3_moveToOld_18 ?_
    refine t_aload_n hx hb dX3_moveToOld_21 rfl (lv_at hl 1 rfl) ?_
    rw [ctv_some ga z1]
    obtain ⟨x4, ex4, h⟩ := ob_some h
    refine gk_v (run_V (rest := []) hx hb hml hown hts hK hP hD hS hA hm (C_Row_add l G D K H.size ga n (sI x2 4 x3) 3 (by decide) (some q1) ex4) _ (full_C _) (full_n _ List.nodup_range) mok_yX5_add w_497 w_465 w_466 (rcv hK hP (8 + 3) (go_ro (by decide)) rfl rfl) ⟨Nat.le_of_ble_eq_true rfl, Nat.le_of_ble_eq_true rfl⟩ rfl hl.1 rfl (Nat.le_of_ble_eq_true rfl) dX3_moveToOld_22 ⟨(Nat.le_of_ble_eq_true rfl), (Nat.le_of_ble_eq_true rfl)⟩) hP hD hS hA (fun u H locs (hP : va_P D cl (wld ga n (K 0) (K 1) x4) H) (hD : va_D A (wld ga n (K 0) (K 1) x4)) hS => ?_)
    obtain rfl := Option.some.inj h
    exact e_v hx hb hr hlk hP hD hS (fun _ => 0) rfl (Nat.le_of_ble_eq_true rfl) (Nat.le_of_ble_eq_true rfl) dX3_moveToOld_25
def f_Pl_soil (n : Nat) (M : cSt) (t1 : Option Nat) : Option (cSt) := on t1 none (fun q1 => og (q1 < n) (ob (f_Th_card n M q1) (fun x2 => og (inR x2) (if x2 < 0 then some M else if x2 < 20 then og (0 ≤ x2 ∧ x2 < 20) (some (sZ M (x2.toNat) 1)) else some M))))
set_option maxHeartbeats 4000000 in
set_option maxRecDepth 100000 in
theorem C_Pl_soil (l : Launch) (G : Nat → Nat) (D : va_G) (K : Nat → ClassId) (sz : Nat) (ga : Nat → Nat) (n : Nat) (M : cSt) (t1 : Option Nat) {x : cSt} (h : f_Pl_soil n M t1 = some x) : CM l yX3_soil cX3_soil 3 (none : Option FieldType) ({ frames := 1, cells := 0, slots := 0, locals := 20 } : Room) G D K [.ref (ga 2), ctv ga t1] (wld ga n (K 0) (K 1) M) sz (CQv D (fun _ => wld ga n (K 0) (K 1) x)) := by
  refine CM_of (lv0 := [(0, .ref (ga 2)), (1, ctv ga t1)]) pn_RX3 (by cases t1 <;> exact (Nat.le_of_ble_eq_true rfl)) (by cases t1 <;> rfl) (fun p e s m args below meth c A ls hx hb hr hml hown hts hlk hnm hP hK hD hS hA hm hl => ?_)
  have hown : s.vm.findClass RX3 = some m.cls := hown
  unfold f_Pl_soil at h
  refine t_aload_n hx hb dX3_soil_0 rfl (lv_at hl 1 rfl) ?_
  rcases on_cases h with ⟨z1, h⟩ | ⟨q1, z1, h⟩
  · cases h
  · obtain ⟨hq1, h⟩ := og_some h
    rw [ctv_some ga z1]
    obtain ⟨x2, ex2, h⟩ := ob_some h
    refine gk_i (run_V (rest := []) hx hb hml hown hts hK hP hD hS hA hm (C_Th_card l G D K s.heap.size ga n M q1 hq1 ex2) _ (full_C _) (full_n _ List.nodup_range) mok_yX7_card w_544 w_457 w_458 (rcv hK hP (25 + 2 * q1) (go_th hq1) rfl rfl) ⟨Nat.le_of_ble_eq_true rfl, Nat.le_of_ble_eq_true rfl⟩ rfl hl.1 rfl (Nat.le_of_ble_eq_true rfl) dX3_soil_1 ⟨(Nat.le_of_ble_eq_true rfl), (Nat.le_of_ble_eq_true rfl)⟩) hP hD hS hA (fun u H locs (hP : va_P D cl (wld ga n (K 0) (K 1) M) H) (hD : va_D A (wld ga n (K 0) (K 1) M)) hS => ?_)
    refine x_istore_n hx hb dX3_soil_4 rfl hl (by decide) [0, 1] (lv' := [(0, .ref (ga 2)), (1, ctv ga t1)]) rfl (⟨⟨Nat.ne_of_beq_eq_false rfl, Or.inl (Nat.ne_of_beq_eq_false rfl)⟩, ⟨⟨Nat.ne_of_beq_eq_false rfl, Or.inr (ctv_cat _ _)⟩, trivial⟩⟩) (fun ls hl => ?_)
    refine lv_iload_n hx hb dX3_soil_5 rfl (lv_at hl 0 rfl) ?_
    obtain ⟨g3, h⟩ := og_some h
    by_cases c4 : x2 < 0
    · replace h := it_T h c4
      refine i_if_lt_T hx hb g3 (tgt := 25) dX3_soil_6 (by decide) c4 ?_
      obtain rfl := Option.some.inj h
      exact e_v hx hb hr hlk hP hD hS (fun _ => 0) rfl (Nat.le_of_ble_eq_true rfl) (Nat.le_of_ble_eq_true rfl) dX3_soil_25
    · replace h := it_F h c4
      refine i_if_lt_F hx hb g3 (tgt := 25) dX3_soil_6 (by decide) c4 ?_
      refine lv_iload_n hx hb dX3_soil_9 rfl (lv_at hl 0 rfl) ?_
      refine lv_aload_n hx hb dX3_soil_10 rfl (lv_at hl 1 rfl) ?_
      refine r_get hx hb hts ok_RX3 hown hK hP 2 go_2 rfl 7 (by decide) w_91 (fun _ h9 => h9) rfl dX3_soil_11 ?_
      refine i_alen hx hb 24 1 hK hP go_24 rfl rfl (Nat.le_of_ble_eq_true rfl) dX3_soil_14 ?_
      refine w_toeq (show iI ((20 : Nat) : Int) = iI 20 from rfl) ?_
      by_cases c5 : x2 < 20
      · replace h := it_T h c5
        refine i_icmp_ge_F hx hb g3 ⟨by decide, by decide⟩ (tgt := 25) dX3_soil_15 (by decide) c5 ?_
        refine lv_aload_n hx hb dX3_soil_18 rfl (lv_at hl 1 rfl) ?_
        refine r_get hx hb hts ok_RX3 hown hK hP 2 go_2 rfl 7 (by decide) w_91 (fun _ h9 => h9) rfl dX3_soil_19 ?_
        refine lv_iload_n hx hb dX3_soil_22 rfl (lv_at hl 0 rfl) ?_
        refine lv_iconst (v := iI 1) hx hb dX3_soil_23 rfl ?_
        obtain ⟨g6, h⟩ := og_some h
        refine i_zast hx hb 24 1 (ws' := wld ga n (K 0) (K 1) (sZ M (x2.toNat) 1)) hK hP hD hS go_24 rfl g6.1 g6.2 (Nat.le_of_ble_eq_true rfl) (Or.inr rfl) dX3_soil_24 wZ (fun H locs hP hD hS => ?_)
        obtain rfl := Option.some.inj h
        exact e_v hx hb hr hlk hP hD hS (fun _ => 0) rfl (Nat.le_of_ble_eq_true rfl) (Nat.le_of_ble_eq_true rfl) dX3_soil_25
      · replace h := it_F h c5
        refine i_icmp_ge_T hx hb g3 ⟨by decide, by decide⟩ (tgt := 25) dX3_soil_15 (by decide) c5 ?_
        obtain rfl := Option.some.inj h
        exact e_v hx hb hr hlk hP hD hS (fun _ => 0) rfl (Nat.le_of_ble_eq_true rfl) (Nat.le_of_ble_eq_true rfl) dX3_soil_25
def f_Pl_moveOutOfYoung (n : Nat) (M : cSt) (t1 : Option Nat) : Option (cSt) := ob (f_Pl_moveToOld n M t1) (fun x1 => ob (f_Row_keepOnly n x1 2 1) (fun x2 => on t1 none (fun q3 => og (q3 < n) (ob (f_Th_hasYoungField n x2 q3) (fun x4 => og (inR x4) (if x4 = 0 then some x2 else ob (f_Pl_soil n x2 (some q3)) (fun x7 => some x7)))))))
set_option maxHeartbeats 4000000 in
set_option maxRecDepth 100000 in
theorem C_Pl_moveOutOfYoung (l : Launch) (G : Nat → Nat) (D : va_G) (K : Nat → ClassId) (sz : Nat) (ga : Nat → Nat) (n : Nat) (M : cSt) (t1 : Option Nat) {x : cSt} (h : f_Pl_moveOutOfYoung n M t1 = some x) : CM l yX3_moveOutOfYoung cX3_moveOutOfYoung 2 (none : Option FieldType) ({ frames := 2, cells := 0, slots := 0, locals := 45 } : Room) G D K [.ref (ga 2), ctv ga t1] (wld ga n (K 0) (K 1) M) sz (CQv D (fun _ => wld ga n (K 0) (K 1) x)) := by
  refine CM_of (lv0 := [(0, .ref (ga 2)), (1, ctv ga t1)]) pn_RX3 (by cases t1 <;> exact (Nat.le_of_ble_eq_true rfl)) (by cases t1 <;> rfl) (fun p e s m args below meth c A ls hx hb hr hml hown hts hlk hnm hP hK hD hS hA hm hl => ?_)
  have hown : s.vm.findClass RX3 = some m.cls := hown
  unfold f_Pl_moveOutOfYoung at h
  refine lv_aload_n hx hb dX3_moveOutOfYoung_0 rfl (lv_at hl 0 rfl) ?_
  refine t_aload_n hx hb dX3_moveOutOfYoung_1 rfl (lv_at hl 1 rfl) ?_
  obtain ⟨x1, ex1, h⟩ := ob_some h
  refine gk_v (run_V (rest := []) hx hb hml hown hts hK hP hD hS hA hm (C_Pl_moveToOld l G D K s.heap.size ga n M t1 ex1) _ (full_C _) (full_n _ List.nodup_range) mok_yX3_moveToOld w_643 w_490 w_491 (rcv hK hP 2 go_2 rfl rfl) ⟨Nat.le_of_ble_eq_true rfl, Nat.le_of_ble_eq_true rfl⟩ rfl hl.1 rfl (Nat.le_of_ble_eq_true rfl) dX3_moveOutOfYoung_2 ⟨(Nat.le_of_ble_eq_true rfl), (Nat.le_of_ble_eq_true rfl)⟩) hP hD hS hA (fun u H locs (hP : va_P D cl (wld ga n (K 0) (K 1) x1) H) (hD : va_D A (wld ga n (K 0) (K 1) x1)) hS => ?_)
  refine lv_aload_n hx hb dX3_moveOutOfYoung_5 rfl (lv_at hl 0 rfl) ?_
  refine r_get hx hb hts ok_RX3 hown hK hP 2 go_2 rfl 0 (by decide) w_74 (fun _ h9 => h9) rfl dX3_moveOutOfYoung_6 ?_
  refine lv_iconst (v := iI 1) hx hb dX3_moveOutOfYoung_9 rfl ?_
  obtain ⟨x2, ex2, h⟩ := ob_some h
  refine gk_v (run_V (rest := []) hx hb hml hown hts hK hP hD hS hA hm (C_Row_keepOnly l G D K H.size ga n x1 2 (by decide) 1 ex2) _ (full_C _) (full_n _ List.nodup_range) mok_yX5_keepOnly w_629 w_630 w_631 (rcv hK hP (8 + 2) (go_ro (by decide)) rfl rfl) ⟨Nat.le_of_ble_eq_true rfl, Nat.le_of_ble_eq_true rfl⟩ rfl hl.1 rfl (Nat.le_of_ble_eq_true rfl) dX3_moveOutOfYoung_10 ⟨(Nat.le_of_ble_eq_true rfl), (Nat.le_of_ble_eq_true rfl)⟩) hP hD hS hA (fun u H locs (hP : va_P D cl (wld ga n (K 0) (K 1) x2) H) (hD : va_D A (wld ga n (K 0) (K 1) x2)) hS => ?_)
  refine t_aload_n hx hb dX3_moveOutOfYoung_13 rfl (lv_at hl 1 rfl) ?_
  rcases on_cases h with ⟨z3, h⟩ | ⟨q3, z3, h⟩
  · cases h
  · obtain ⟨hq3, h⟩ := og_some h
    rw [ctv_some ga z3]
    obtain ⟨x4, ex4, h⟩ := ob_some h
    refine gk_i (run_V (rest := []) hx hb hml hown hts hK hP hD hS hA hm (C_Th_hasYoungField l G D K H.size ga n x2 q3 hq3 ex4) _ (full_C _) (full_n _ List.nodup_range) mok_yX7_hasYoungField w_536 w_537 w_538 (rcv hK hP (25 + 2 * q3) (go_th hq3) rfl rfl) ⟨Nat.le_of_ble_eq_true rfl, Nat.le_of_ble_eq_true rfl⟩ rfl hl.1 rfl (Nat.le_of_ble_eq_true rfl) dX3_moveOutOfYoung_14 ⟨(Nat.le_of_ble_eq_true rfl), (Nat.le_of_ble_eq_true rfl)⟩) hP hD hS hA (fun u H locs (hP : va_P D cl (wld ga n (K 0) (K 1) x2) H) (hD : va_D A (wld ga n (K 0) (K 1) x2)) hS => ?_)
    obtain ⟨g5, h⟩ := og_some h
    by_cases c6 : x4 = 0
    · replace h := it_T h c6
      refine i_if_eq_T hx hb g5 (tgt := 25) dX3_moveOutOfYoung_17 (by decide) c6 ?_
      obtain rfl := Option.some.inj h
      exact e_v hx hb hr hlk hP hD hS (fun _ => 0) rfl (Nat.le_of_ble_eq_true rfl) (Nat.le_of_ble_eq_true rfl) dX3_moveOutOfYoung_25
    · replace h := it_F h c6
      refine i_if_eq_F hx hb g5 (tgt := 25) dX3_moveOutOfYoung_17 (by decide) c6 ?_
      refine lv_aload_n hx hb dX3_moveOutOfYoung_20 rfl (lv_at hl 0 rfl) ?_
      refine t_aload_n hx hb dX3_moveOutOfYoung_21 rfl (lv_at hl 1 rfl) ?_
      rw [ctv_some ga z3]
      obtain ⟨x7, ex7, h⟩ := ob_some h
      refine gk_v (run_V (rest := []) hx hb hml hown hts hK hP hD hS hA hm (C_Pl_soil l G D K H.size ga n x2 (some q3) ex7) _ (full_C _) (full_n _ List.nodup_range) mok_yX3_soil w_540 w_542 w_p11 (rcv hK hP 2 go_2 rfl rfl) ⟨Nat.le_of_ble_eq_true rfl, Nat.le_of_ble_eq_true rfl⟩ rfl hl.1 rfl (Nat.le_of_ble_eq_true rfl) dX3_moveOutOfYoung_22 ⟨(Nat.le_of_ble_eq_true rfl), (Nat.le_of_ble_eq_true rfl)⟩) hP hD hS hA (fun u H locs (hP : va_P D cl (wld ga n (K 0) (K 1) x7) H) (hD : va_D A (wld ga n (K 0) (K 1) x7)) hS => ?_)
      obtain rfl := Option.some.inj h
      exact e_v hx hb hr hlk hP hD hS (fun _ => 0) rfl (Nat.le_of_ble_eq_true rfl) (Nat.le_of_ble_eq_true rfl) dX3_moveOutOfYoung_25
def f_Pl_lay (n : Nat) (M : cSt) (t1 : Option Nat) (a2 : Int) : Option (cSt) := on t1 none (fun q1 => og (q1 < n) (og (gL M q1 < 2147483648) (og (inR (gL M q1 : Int)) (if (gL M q1 : Int) < 12 then ob (f_Th_moveTo n M q1 1 a2) (fun x5 => ob (f_Row_add n x5 2 (some q1)) (fun x6 => ob (f_Th_end n x6 q1) (fun x7 => some (sI x6 3 x7)))) else ob (f_Th_moveTo n M q1 3 a2) (fun x8 => ob (f_Row_addByAddress n x8 4 (some q1)) (fun x9 => some x9))))))
set_option maxHeartbeats 4000000 in
set_option maxRecDepth 100000 in
theorem C_Pl_lay (l : Launch) (G : Nat → Nat) (D : va_G) (K : Nat → ClassId) (sz : Nat) (ga : Nat → Nat) (n : Nat) (M : cSt) (t1 : Option Nat) (a2 : Int) {x : cSt} (h : f_Pl_lay n M t1 a2 = some x) : CM l yX3_lay cX3_lay 3 (none : Option FieldType) ({ frames := 2, cells := 0, slots := 0, locals := 44 } : Room) G D K [.ref (ga 2), ctv ga t1, .int (iI a2)] (wld ga n (K 0) (K 1) M) sz (CQv D (fun _ => wld ga n (K 0) (K 1) x)) := by
  refine CM_of (lv0 := [(0, .ref (ga 2)), (1, ctv ga t1), (2, .int (iI a2))]) pn_RX3 (by cases t1 <;> exact (Nat.le_of_ble_eq_true rfl)) (by cases t1 <;> rfl) (fun p e s m args below meth c A ls hx hb hr hml hown hts hlk hnm hP hK hD hS hA hm hl => ?_)
  have hown : s.vm.findClass RX3 = some m.cls := hown
  unfold f_Pl_lay at h
  refine t_aload_n hx hb dX3_lay_0 rfl (lv_at hl 1 rfl) ?_
  rcases on_cases h with ⟨z1, h⟩ | ⟨q1, z1, h⟩
  · cases h
  · obtain ⟨hq1, h⟩ := og_some h
    rw [ctv_some ga z1]
    refine r_get hx hb hts ok_RX7 hown hK hP (25 + 2 * q1) (go_th hq1) rfl 1 (by decide) w_678 (fun _ h9 => h9) rfl dX3_lay_1 ?_
    obtain ⟨g2, h⟩ := og_some h
    refine i_alen hx hb (26 + 2 * q1) 0 hK hP (go_fl hq1) rfl rfl g2 dX3_lay_4 ?_
    refine lv_bipush (v := iI 12) hx hb dX3_lay_5 rfl ?_
    obtain ⟨g3, h⟩ := og_some h
    by_cases c4 : (gL M q1 : Int) < 12
    · replace h := it_T h c4
      refine i_icmp_lt_T hx hb g3 ⟨by decide, by decide⟩ (tgt := 27) dX3_lay_7 (by decide) c4 ?_
      refine t_aload_n hx hb dX3_lay_27 rfl (lv_at hl 1 rfl) ?_
      rw [ctv_some ga z1]
      refine lv_iconst (v := iI 1) hx hb dX3_lay_28 rfl ?_
      refine lv_iload_n hx hb dX3_lay_29 rfl (lv_at hl 2 rfl) ?_
      obtain ⟨x5, ex5, h⟩ := ob_some h
      refine gk_v (run_V (rest := []) hx hb hml hown hts hK hP hD hS hA hm (C_Th_moveTo l G D K s.heap.size ga n M q1 hq1 1 a2 ex5) _ (full_C _) (full_n _ List.nodup_range) mok_yX7_moveTo w_493 w_494 w_495 (rcv hK hP (25 + 2 * q1) (go_th hq1) rfl rfl) ⟨Nat.le_of_ble_eq_true rfl, Nat.le_of_ble_eq_true rfl⟩ rfl hl.1 rfl (Nat.le_of_ble_eq_true rfl) dX3_lay_30 ⟨(Nat.le_of_ble_eq_true rfl), (Nat.le_of_ble_eq_true rfl)⟩) hP hD hS hA (fun u H locs (hP : va_P D cl (wld ga n (K 0) (K 1) x5) H) (hD : va_D A (wld ga n (K 0) (K 1) x5)) hS => ?_)
      refine lv_aload_n hx hb dX3_lay_33 rfl (lv_at hl 0 rfl) ?_
      refine r_get hx hb hts ok_RX3 hown hK hP 2 go_2 rfl 0 (by decide) w_74 (fun _ h9 => h9) rfl dX3_lay_34 ?_
      refine t_aload_n hx hb dX3_lay_37 rfl (lv_at hl 1 rfl) ?_
      rw [ctv_some ga z1]
      obtain ⟨x6, ex6, h⟩ := ob_some h
      refine gk_v (run_V (rest := []) hx hb hml hown hts hK hP hD hS hA hm (C_Row_add l G D K H.size ga n x5 2 (by decide) (some q1) ex6) _ (full_C _) (full_n _ List.nodup_range) mok_yX5_add w_497 w_465 w_466 (rcv hK hP (8 + 2) (go_ro (by decide)) rfl rfl) ⟨Nat.le_of_ble_eq_true rfl, Nat.le_of_ble_eq_true rfl⟩ rfl hl.1 rfl (Nat.le_of_ble_eq_true rfl) dX3_lay_38 ⟨(Nat.le_of_ble_eq_true rfl), (Nat.le_of_ble_eq_true rfl)⟩) hP hD hS hA (fun u H locs (hP : va_P D cl (wld ga n (K 0) (K 1) x6) H) (hD : va_D A (wld ga n (K 0) (K 1) x6)) hS => ?_)
      refine lv_aload_n hx hb dX3_lay_41 rfl (lv_at hl 0 rfl) ?_
      refine t_aload_n hx hb dX3_lay_42 rfl (lv_at hl 1 rfl) ?_
      rw [ctv_some ga z1]
      obtain ⟨x7, ex7, h⟩ := ob_some h
      refine gk_i (run_V (rest := [.ref (ga 2)]) hx hb hml hown hts hK hP hD hS hA hm (C_Th_end l G D K H.size ga n x6 q1 hq1 ex7) _ (full_C _) (full_n _ List.nodup_range) mok_yX7_end w_422 w_423 w_424 (rcv hK hP (25 + 2 * q1) (go_th hq1) rfl rfl) ⟨Nat.le_of_ble_eq_true rfl, Nat.le_of_ble_eq_true rfl⟩ rfl hl.1 rfl (Nat.le_of_ble_eq_true rfl) dX3_lay_43 ⟨(Nat.le_of_ble_eq_true rfl), (Nat.le_of_ble_eq_true rfl)⟩) hP hD hS hA (fun u H locs (hP : va_P D cl (wld ga n (K 0) (K 1) x6) H) (hD : va_D A (wld ga n (K 0) (K 1) x6)) hS => ?_)
      refine r_put hx hb hts ok_RX3 hown hK hP hD hS 2 go_2 rfl 4 (by decide) w_84 (fun _ h9 => h9) rfl (v := .int (iI x7)) rfl rfl (Nat.le_of_ble_eq_true rfl) dX3_lay_46 (ws' := wld ga n (K 0) (K 1) (sI x6 3 x7)) wI_3 (fun H locs hP hD hS => ?_)
      obtain rfl := Option.some.inj h
      exact e_v hx hb hr hlk hP hD hS (fun _ => 0) rfl (Nat.le_of_ble_eq_true rfl) (Nat.le_of_ble_eq_true rfl) dX3_lay_49
    · replace h := it_F h c4
      refine i_icmp_lt_F hx hb g3 ⟨by decide, by decide⟩ (tgt := 27) dX3_lay_7 (by decide) c4 ?_
      refine t_aload_n hx hb dX3_lay_10 rfl (lv_at hl 1 rfl) ?_
      rw [ctv_some ga z1]
      refine lv_iconst (v := iI 3) hx hb dX3_lay_11 rfl ?_
      refine lv_iload_n hx hb dX3_lay_12 rfl (lv_at hl 2 rfl) ?_
      obtain ⟨x8, ex8, h⟩ := ob_some h
      refine gk_v (run_V (rest := []) hx hb hml hown hts hK hP hD hS hA hm (C_Th_moveTo l G D K s.heap.size ga n M q1 hq1 3 a2 ex8) _ (full_C _) (full_n _ List.nodup_range) mok_yX7_moveTo w_493 w_494 w_495 (rcv hK hP (25 + 2 * q1) (go_th hq1) rfl rfl) ⟨Nat.le_of_ble_eq_true rfl, Nat.le_of_ble_eq_true rfl⟩ rfl hl.1 rfl (Nat.le_of_ble_eq_true rfl) dX3_lay_13 ⟨(Nat.le_of_ble_eq_true rfl), (Nat.le_of_ble_eq_true rfl)⟩) hP hD hS hA (fun u H locs (hP : va_P D cl (wld ga n (K 0) (K 1) x8) H) (hD : va_D A (wld ga n (K 0) (K 1) x8)) hS => ?_)
      refine lv_aload_n hx hb dX3_lay_16 rfl (lv_at hl 0 rfl) ?_
      refine r_get hx hb hts ok_RX3 hown hK hP 2 go_2 rfl 2 (by decide) w_78 (fun _ h9 => h9) rfl dX3_lay_17 ?_
      refine t_aload_n hx hb dX3_lay_20 rfl (lv_at hl 1 rfl) ?_
      rw [ctv_some ga z1]
      obtain ⟨x9, ex9, h⟩ := ob_some h
      refine gk_v (run_V (rest := []) hx hb hml hown hts hK hP hD hS hA hm (C_Row_addByAddress l G D K H.size ga n x8 4 (by decide) (some q1) ex9) _ (full_C _) (full_n _ List.nodup_range) mok_yX5_addByAddress w_758 w_759 w_760 (rcv hK hP (8 + 4) (go_ro (by decide)) rfl rfl) ⟨Nat.le_of_ble_eq_true rfl, Nat.le_of_ble_eq_true rfl⟩ rfl hl.1 rfl (Nat.le_of_ble_eq_true rfl) dX3_lay_21 ⟨(Nat.le_of_ble_eq_true rfl), (Nat.le_of_ble_eq_true rfl)⟩) hP hD hS hA (fun u H locs (hP : va_P D cl (wld ga n (K 0) (K 1) x9) H) (hD : va_D A (wld ga n (K 0) (K 1) x9)) hS => ?_)
      refine lv_goto (tgt := 49) hx hb dX3_lay_24 (by decide) ?_
      obtain rfl := Option.some.inj h
      exact e_v hx hb hr hlk hP hD hS (fun _ => 0) rfl (Nat.le_of_ble_eq_true rfl) (Nat.le_of_ble_eq_true rfl) dX3_lay_49
def s_Pl_slideOld_10 (rec : cSt → Int → Int → Option (cSt × Int)) (n : Nat)  (M : cSt) (v1 : Int) (v2 : Int) : Option (cSt × Int) := ob (f_Row_size n M 3) (fun x1 => og (inR v2) (og (inR x1) (if v2 < x1 then ob (f_Row_item n M 3 v2) (fun x5 => on x5 (rec M v1 (v2 + 1)) (fun q6 => og (q6 < n) (og (inR (gT M q6 9)) (if gT M q6 9 = 0 then og (inR (gT M q6 4)) (og (inR (gI M 4)) (if gT M q6 4 = gI M 4 then ob (f_Th_end n M q6) (fun x12 => rec (sI M 4 x12) v1 (v2 + 1)) else ob (f_Th_moveTo n M q6 2 (gI M 4)) (fun x13 => ob (f_Th_end n x13 q6) (fun x14 => rec (sI x13 4 x14) (v1 + gT x13 q6 5) (v2 + 1))))) else ob (f_Th_end n M q6) (fun x15 => rec (sI M 4 x15) v1 (v2 + 1)))))) else some (M, v1))))
def g_Pl_slideOld_10 (n : Nat)  : Nat → cSt → Int → Int → Option (cSt × Int)
  | 0 => fun _ _ _ => none
  | q + 1 => s_Pl_slideOld_10 (g_Pl_slideOld_10 n  q) n 
set_option maxHeartbeats 4000000 in
set_option maxRecDepth 100000 in
theorem L_Pl_slideOld_10 {p : Program} {l : Launch} {G : Nat → Nat} {D : va_G} {K : Nat → ClassId} {e : Env} {s : State} {m : MethodId} {args : Array Value} {below : List Frame} {meth : Method} {c : Code} {A : Nat → Prop} (hx : p.tables.exec = Jvm.exec) (hb : c.code = cX3_slideOld) (hr : meth.sig.returnType = (some FieldType.int)) (hml : c.maxLocals = 4) (hown : s.vm.findClass RX3 = some m.cls) (hts : ∀ w ∈ lw_gw, w.before args s = true) (hlk : meth.locks = false) (hK : va_K D cl (tys K) s) (hA : ∀ q : Nat, s.heap.size ≤ q → A q) (hm : Amb G A s s.heap) {Q : State → Prop} (ga : Nat → Nat) (n : Nat)  : ∀ (q : Nat) (M : cSt) (v1 : Int) (v2 : Int) (out : cSt × Int), g_Pl_slideOld_10 n  q M v1 v2 = some out → ∀ (ls : Array Slot) (H : Heap) (locs : List Loc), va_P D cl (wld ga n (K 0) (K 1) M) H → va_D A (wld ga n (K 0) (K 1) M) → va_S A s.heap H locs → lv_has ls 4 [(0, .ref (ga 2)), (1, .int (iI v1)), (2, .int (iI v2))] → (∀ (ls : Array Slot) (H : Heap) (locs : List Loc), va_P D cl (wld ga n (K 0) (K 1) out.1) H → va_D A (wld ga n (K 0) (K 1) out.1) → va_S A s.heap H locs → lv_has ls 4 [(1, .int (iI out.2))] → W p l e ({ frames := 1, cells := 0, slots := 0, locals := 22 } : Room) s m args below meth c H locs 0 0 Q (F0 m 82 ls [])) → W p l e ({ frames := 1, cells := 0, slots := 0, locals := 22 } : Room) s m args below meth c H locs 0 0 Q (F0 m 10 ls []) := by
  intro q
  induction q with
  | zero =>
    intro M v1 v2 out h
    cases (show none = some out from h)
  | succ q ih =>
    intro M v1 v2 out h ls H locs hP hD hS hl kk
    replace h : s_Pl_slideOld_10 (g_Pl_slideOld_10 n  q) n  M v1 v2 = some out := h
    unfold s_Pl_slideOld_10 at h
    refine lv_iload_n hx hb dX3_slideOld_10 rfl (lv_at hl 2 rfl) ?_
    refine lv_aload_n hx hb dX3_slideOld_11 rfl (lv_at hl 0 rfl) ?_
    refine r_get hx hb hts ok_RX3 hown hK hP 2 go_2 rfl 1 (by decide) w_76 (fun _ h9 => h9) rfl dX3_slideOld_12 ?_
    obtain ⟨x1, ex1, h⟩ := ob_some h
    refine gk_i (run_V (rest := [.int (iI v2)]) hx hb hml hown hts hK hP hD hS hA hm (C_Row_size l G D K H.size ga n M 3 (by decide) ex1) _ (full_C _) (full_n _ List.nodup_range) mok_yX5_size w_417 w_405 w_406 (rcv hK hP (8 + 3) (go_ro (by decide)) rfl rfl) ⟨Nat.le_of_ble_eq_true rfl, Nat.le_of_ble_eq_true rfl⟩ rfl hl.1 rfl (Nat.le_of_ble_eq_true rfl) dX3_slideOld_15 ⟨(Nat.le_of_ble_eq_true rfl), (Nat.le_of_ble_eq_true rfl)⟩) hP hD hS hA (fun u H locs (hP : va_P D cl (wld ga n (K 0) (K 1) M) H) (hD : va_D A (wld ga n (K 0) (K 1) M)) hS => ?_)
    obtain ⟨g2, h⟩ := og_some h
    obtain ⟨g3, h⟩ := og_some h
    by_cases c4 : v2 < x1
    · replace h := it_T h c4
      refine i_icmp_ge_F hx hb g2 g3 (tgt := 82) dX3_slideOld_18 (by decide) c4 ?_
      refine lv_aload_n hx hb dX3_slideOld_21 rfl (lv_at hl 0 rfl) ?_
      refine r_get hx hb hts ok_RX3 hown hK hP 2 go_2 rfl 1 (by decide) w_76 (fun _ h9 => h9) rfl dX3_slideOld_22 ?_
      refine lv_iload_n hx hb dX3_slideOld_25 rfl (lv_at hl 2 rfl) ?_
      obtain ⟨x5, ex5, h⟩ := ob_some h
      refine gk_q (run_V (rest := []) hx hb hml hown hts hK hP hD hS hA hm (C_Row_item l G D K H.size ga n M 3 (by decide) v2 ex5) _ (full_C _) (full_n _ List.nodup_range) mok_yX5_item w_418 w_419 w_420 (rcv hK hP (8 + 3) (go_ro (by decide)) rfl rfl) ⟨Nat.le_of_ble_eq_true rfl, Nat.le_of_ble_eq_true rfl⟩ rfl hl.1 rfl (Nat.le_of_ble_eq_true rfl) dX3_slideOld_26 ⟨(Nat.le_of_ble_eq_true rfl), (Nat.le_of_ble_eq_true rfl)⟩) hP hD hS hA (fun u H locs (hP : va_P D cl (wld ga n (K 0) (K 1) M) H) (hD : va_D A (wld ga n (K 0) (K 1) M)) hS => ?_)
      refine w_tov (y := ctv ga x5) rfl ?_
      refine t_astore_n hx hb dX3_slideOld_29 rfl hl (by decide) [0, 1, 2] (lv' := [(0, .ref (ga 2)), (1, .int (iI v1)), (2, .int (iI v2))]) rfl (⟨⟨Nat.ne_of_beq_eq_false rfl, Or.inl (Nat.ne_of_beq_eq_false rfl)⟩, ⟨⟨Nat.ne_of_beq_eq_false rfl, Or.inl (Nat.ne_of_beq_eq_false rfl)⟩, ⟨⟨Nat.ne_of_beq_eq_false rfl, Or.inr rfl⟩, trivial⟩⟩⟩) (fun ls hl => ?_)
      refine t_aload_n hx hb dX3_slideOld_30 rfl (lv_at hl 0 rfl) ?_
      rcases on_cases h with ⟨z6, h⟩ | ⟨q6, z6, h⟩
      · rw [ctv_none ga z6]
        refine lv_ifnullN (tgt := 76) hx hb dX3_slideOld_31 (by decide) ?_
        refine x_iinc (v := iI (v2 + 1)) hx hb dX3_slideOld_76 hl (k := 3) rfl (iI_add v2 1) (by decide) [0, 1, 2] (lv' := [(3, ctv ga x5), (0, .ref (ga 2)), (1, .int (iI v1))]) rfl (⟨⟨Nat.ne_of_beq_eq_false rfl, Or.inl (Nat.ne_of_beq_eq_false rfl)⟩, ⟨⟨Nat.ne_of_beq_eq_false rfl, Or.inl (Nat.ne_of_beq_eq_false rfl)⟩, ⟨⟨Nat.ne_of_beq_eq_false rfl, Or.inr rfl⟩, trivial⟩⟩⟩) (fun ls hl => ?_)
        refine lv_goto (tgt := 10) hx hb dX3_slideOld_79 (by decide) ?_
        exact ih M v1 (v2 + 1) _ h _ _ _ hP hD hS (lv_pk hl [2, 3, 0] rfl) kk
      · obtain ⟨hq6, h⟩ := og_some h
        rw [ctv_some ga z6]
        refine lv_ifnull hx hb dX3_slideOld_31 ?_
        refine t_aload_n hx hb dX3_slideOld_34 rfl (lv_at hl 0 rfl) ?_
        rw [ctv_some ga z6]
        refine r_get hx hb hts ok_RX7 hown hK hP (25 + 2 * q6) (go_th hq6) rfl 9 (by decide) w_714 (fun _ h9 => h9) rfl dX3_slideOld_35 ?_
        obtain ⟨g7, h⟩ := og_some h
        by_cases c8 : gT M q6 9 = 0
        · replace h := it_T h c8
          refine i_if_ne_F hx hb g7 (tgt := 68) dX3_slideOld_38 (by decide) c8 ?_
          refine t_aload_n hx hb dX3_slideOld_41 rfl (lv_at hl 0 rfl) ?_
          rw [ctv_some ga z6]
          refine r_get hx hb hts ok_RX7 hown hK hP (25 + 2 * q6) (go_th hq6) rfl 4 (by decide) w_694 (fun _ h9 => h9) rfl dX3_slideOld_42 ?_
          refine lv_aload_n hx hb dX3_slideOld_45 rfl (lv_at hl 1 rfl) ?_
          refine r_get hx hb hts ok_RX3 hown hK hP 2 go_2 rfl 5 (by decide) w_87 (fun _ h9 => h9) rfl dX3_slideOld_46 ?_
          obtain ⟨g9, h⟩ := og_some h
          obtain ⟨g10, h⟩ := og_some h
          by_cases c11 : gT M q6 4 = gI M 4
          · replace h := it_T h c11
            refine i_icmp_eq_T hx hb g9 g10 (tgt := 68) dX3_slideOld_49 (by decide) c11 ?_
            refine lv_aload_n hx hb dX3_slideOld_68 rfl (lv_at hl 1 rfl) ?_
            refine t_aload_n hx hb dX3_slideOld_69 rfl (lv_at hl 0 rfl) ?_
            rw [ctv_some ga z6]
            obtain ⟨x12, ex12, h⟩ := ob_some h
            refine gk_i (run_V (rest := [.ref (ga 2)]) hx hb hml hown hts hK hP hD hS hA hm (C_Th_end l G D K H.size ga n M q6 hq6 ex12) _ (full_C _) (full_n _ List.nodup_range) mok_yX7_end w_422 w_423 w_424 (rcv hK hP (25 + 2 * q6) (go_th hq6) rfl rfl) ⟨Nat.le_of_ble_eq_true rfl, Nat.le_of_ble_eq_true rfl⟩ rfl hl.1 rfl (Nat.le_of_ble_eq_true rfl) dX3_slideOld_70 ⟨(Nat.le_of_ble_eq_true rfl), (Nat.le_of_ble_eq_true rfl)⟩) hP hD hS hA (fun u H locs (hP : va_P D cl (wld ga n (K 0) (K 1) M) H) (hD : va_D A (wld ga n (K 0) (K 1) M)) hS => ?_)
            refine r_put hx hb hts ok_RX3 hown hK hP hD hS 2 go_2 rfl 5 (by decide) w_87 (fun _ h9 => h9) rfl (v := .int (iI x12)) rfl rfl (Nat.le_of_ble_eq_true rfl) dX3_slideOld_73 (ws' := wld ga n (K 0) (K 1) (sI M 4 x12)) wI_4 (fun H locs hP hD hS => ?_)
            refine x_iinc (v := iI (v2 + 1)) hx hb dX3_slideOld_76 hl (k := 3) rfl (iI_add v2 1) (by decide) [0, 1, 2] (lv' := [(3, ctv ga x5), (0, .ref (ga 2)), (1, .int (iI v1))]) rfl (⟨⟨Nat.ne_of_beq_eq_false rfl, Or.inl (Nat.ne_of_beq_eq_false rfl)⟩, ⟨⟨Nat.ne_of_beq_eq_false rfl, Or.inl (Nat.ne_of_beq_eq_false rfl)⟩, ⟨⟨Nat.ne_of_beq_eq_false rfl, Or.inr rfl⟩, trivial⟩⟩⟩) (fun ls hl => ?_)
            refine lv_goto (tgt := 10) hx hb dX3_slideOld_79 (by decide) ?_
            exact ih (sI M 4 x12) v1 (v2 + 1) _ h _ _ _ hP hD hS (lv_pk hl [2, 3, 0] rfl) kk
          · replace h := it_F h c11
            refine i_icmp_eq_F hx hb g9 g10 (tgt := 68) dX3_slideOld_49 (by decide) c11 ?_
            refine t_aload_n hx hb dX3_slideOld_52 rfl (lv_at hl 0 rfl) ?_
            rw [ctv_some ga z6]
            refine lv_iconst (v := iI 2) hx hb dX3_slideOld_53 rfl ?_
            refine lv_aload_n hx hb dX3_slideOld_54 rfl (lv_at hl 1 rfl) ?_
            refine r_get hx hb hts ok_RX3 hown hK hP 2 go_2 rfl 5 (by decide) w_87 (fun _ h9 => h9) rfl dX3_slideOld_55 ?_
            obtain ⟨x13, ex13, h⟩ := ob_some h
            refine gk_v (run_V (rest := []) hx hb hml hown hts hK hP hD hS hA hm (C_Th_moveTo l G D K H.size ga n M q6 hq6 2 (gI M 4) ex13) _ (full_C _) (full_n _ List.nodup_range) mok_yX7_moveTo w_493 w_494 w_495 (rcv hK hP (25 + 2 * q6) (go_th hq6) rfl rfl) ⟨Nat.le_of_ble_eq_true rfl, Nat.le_of_ble_eq_true rfl⟩ rfl hl.1 rfl (Nat.le_of_ble_eq_true rfl) dX3_slideOld_58 ⟨(Nat.le_of_ble_eq_true rfl), (Nat.le_of_ble_eq_true rfl)⟩) hP hD hS hA (fun u H locs (hP : va_P D cl (wld ga n (K 0) (K 1) x13) H) (hD : va_D A (wld ga n (K 0) (K 1) x13)) hS => ?_)
            refine lv_iload_n hx hb dX3_slideOld_61 rfl (lv_at hl 2 rfl) ?_
            refine t_aload_n hx hb dX3_slideOld_62 rfl (lv_at hl 0 rfl) ?_
            rw [ctv_some ga z6]
            refine r_get hx hb hts ok_RX7 hown hK hP (25 + 2 * q6) (go_th hq6) rfl 5 (by decide) w_701 (fun _ h9 => h9) rfl dX3_slideOld_63 ?_
            refine lv_iadd hx hb dX3_slideOld_66 ?_
            refine w_toeq (iI_add v1 (gT x13 q6 5)) ?_
            refine x_istore_n hx hb dX3_slideOld_67 rfl hl (by decide) [0, 1, 3] (lv' := [(3, ctv ga x5), (0, .ref (ga 2)), (2, .int (iI v2))]) rfl (⟨⟨Nat.ne_of_beq_eq_false rfl, Or.inl (Nat.ne_of_beq_eq_false rfl)⟩, ⟨⟨Nat.ne_of_beq_eq_false rfl, Or.inr rfl⟩, ⟨⟨Nat.ne_of_beq_eq_false rfl, Or.inl (Nat.ne_of_beq_eq_false rfl)⟩, trivial⟩⟩⟩) (fun ls hl => ?_)
            refine lv_aload_n hx hb dX3_slideOld_68 rfl (lv_at hl 2 rfl) ?_
            refine t_aload_n hx hb dX3_slideOld_69 rfl (lv_at hl 1 rfl) ?_
            rw [ctv_some ga z6]
            obtain ⟨x14, ex14, h⟩ := ob_some h
            refine gk_i (run_V (rest := [.ref (ga 2)]) hx hb hml hown hts hK hP hD hS hA hm (C_Th_end l G D K H.size ga n x13 q6 hq6 ex14) _ (full_C _) (full_n _ List.nodup_range) mok_yX7_end w_422 w_423 w_424 (rcv hK hP (25 + 2 * q6) (go_th hq6) rfl rfl) ⟨Nat.le_of_ble_eq_true rfl, Nat.le_of_ble_eq_true rfl⟩ rfl hl.1 rfl (Nat.le_of_ble_eq_true rfl) dX3_slideOld_70 ⟨(Nat.le_of_ble_eq_true rfl), (Nat.le_of_ble_eq_true rfl)⟩) hP hD hS hA (fun u H locs (hP : va_P D cl (wld ga n (K 0) (K 1) x13) H) (hD : va_D A (wld ga n (K 0) (K 1) x13)) hS => ?_)
            refine r_put hx hb hts ok_RX3 hown hK hP hD hS 2 go_2 rfl 5 (by decide) w_87 (fun _ h9 => h9) rfl (v := .int (iI x14)) rfl rfl (Nat.le_of_ble_eq_true rfl) dX3_slideOld_73 (ws' := wld ga n (K 0) (K 1) (sI x13 4 x14)) wI_4 (fun H locs hP hD hS => ?_)
            refine x_iinc (v := iI (v2 + 1)) hx hb dX3_slideOld_76 hl (k := 3) rfl (iI_add v2 1) (by decide) [0, 1, 2] (lv' := [(1, .int (iI (v1 + gT x13 q6 5))), (3, ctv ga x5), (0, .ref (ga 2))]) rfl (⟨⟨Nat.ne_of_beq_eq_false rfl, Or.inr rfl⟩, ⟨⟨Nat.ne_of_beq_eq_false rfl, Or.inl (Nat.ne_of_beq_eq_false rfl)⟩, ⟨⟨Nat.ne_of_beq_eq_false rfl, Or.inl (Nat.ne_of_beq_eq_false rfl)⟩, trivial⟩⟩⟩) (fun ls hl => ?_)
            refine lv_goto (tgt := 10) hx hb dX3_slideOld_79 (by decide) ?_
            exact ih (sI x13 4 x14) (v1 + gT x13 q6 5) (v2 + 1) _ h _ _ _ hP hD hS (lv_pk hl [3, 1, 0] rfl) kk
        · replace h := it_F h c8
          refine i_if_ne_T hx hb g7 (tgt := 68) dX3_slideOld_38 (by decide) c8 ?_
          refine lv_aload_n hx hb dX3_slideOld_68 rfl (lv_at hl 1 rfl) ?_
          refine t_aload_n hx hb dX3_slideOld_69 rfl (lv_at hl 0 rfl) ?_
          rw [ctv_some ga z6]
          obtain ⟨x15, ex15, h⟩ := ob_some h
          refine gk_i (run_V (rest := [.ref (ga 2)]) hx hb hml hown hts hK hP hD hS hA hm (C_Th_end l G D K H.size ga n M q6 hq6 ex15) _ (full_C _) (full_n _ List.nodup_range) mok_yX7_end w_422 w_423 w_424 (rcv hK hP (25 + 2 * q6) (go_th hq6) rfl rfl) ⟨Nat.le_of_ble_eq_true rfl, Nat.le_of_ble_eq_true rfl⟩ rfl hl.1 rfl (Nat.le_of_ble_eq_true rfl) dX3_slideOld_70 ⟨(Nat.le_of_ble_eq_true rfl), (Nat.le_of_ble_eq_true rfl)⟩) hP hD hS hA (fun u H locs (hP : va_P D cl (wld ga n (K 0) (K 1) M) H) (hD : va_D A (wld ga n (K 0) (K 1) M)) hS => ?_)
          refine r_put hx hb hts ok_RX3 hown hK hP hD hS 2 go_2 rfl 5 (by decide) w_87 (fun _ h9 => h9) rfl (v := .int (iI x15)) rfl rfl (Nat.le_of_ble_eq_true rfl) dX3_slideOld_73 (ws' := wld ga n (K 0) (K 1) (sI M 4 x15)) wI_4 (fun H locs hP hD hS => ?_)
          refine x_iinc (v := iI (v2 + 1)) hx hb dX3_slideOld_76 hl (k := 3) rfl (iI_add v2 1) (by decide) [0, 1, 2] (lv' := [(3, ctv ga x5), (0, .ref (ga 2)), (1, .int (iI v1))]) rfl (⟨⟨Nat.ne_of_beq_eq_false rfl, Or.inl (Nat.ne_of_beq_eq_false rfl)⟩, ⟨⟨Nat.ne_of_beq_eq_false rfl, Or.inl (Nat.ne_of_beq_eq_false rfl)⟩, ⟨⟨Nat.ne_of_beq_eq_false rfl, Or.inr rfl⟩, trivial⟩⟩⟩) (fun ls hl => ?_)
          refine lv_goto (tgt := 10) hx hb dX3_slideOld_79 (by decide) ?_
          exact ih (sI M 4 x15) v1 (v2 + 1) _ h _ _ _ hP hD hS (lv_pk hl [2, 3, 0] rfl) kk
    · replace h := it_F h c4
      refine i_icmp_ge_T hx hb g2 g3 (tgt := 82) dX3_slideOld_18 (by decide) c4 ?_
      obtain rfl := Option.some.inj h
      exact kk _ _ _ hP hD hS (lv_pk hl [1] rfl)
def f_Pl_slideOld (n : Nat) (M : cSt)  : Option (cSt × Int) := ob (g_Pl_slideOld_10 n  fu (sI M 4 100) 0 0) (fun x16 => some (x16.1, x16.2))
set_option maxHeartbeats 4000000 in
set_option maxRecDepth 100000 in
theorem C_Pl_slideOld (l : Launch) (G : Nat → Nat) (D : va_G) (K : Nat → ClassId) (sz : Nat) (ga : Nat → Nat) (n : Nat) (M : cSt)  {x : cSt × Int} (h : f_Pl_slideOld n M  = some x) : CM l yX3_slideOld cX3_slideOld 4 (some FieldType.int) ({ frames := 1, cells := 0, slots := 0, locals := 22 } : Room) G D K [.ref (ga 2)] (wld ga n (K 0) (K 1) M) sz (CQi (iI x.2) D (fun _ => wld ga n (K 0) (K 1) x.1)) := by
  refine CM_of (lv0 := [(0, .ref (ga 2))]) pn_RX3 (Nat.le_of_ble_eq_true rfl) rfl (fun p e s m args below meth c A ls hx hb hr hml hown hts hlk hnm hP hK hD hS hA hm hl => ?_)
  have hown : s.vm.findClass RX3 = some m.cls := hown
  unfold f_Pl_slideOld at h
  refine lv_iconst (v := iI 0) hx hb dX3_slideOld_0 rfl ?_
  refine x_istore_n hx hb dX3_slideOld_1 rfl hl (by decide) [0] (lv' := [(0, .ref (ga 2))]) rfl (⟨⟨Nat.ne_of_beq_eq_false rfl, Or.inr rfl⟩, trivial⟩) (fun ls hl => ?_)
  refine lv_aload_n hx hb dX3_slideOld_2 rfl (lv_at hl 1 rfl) ?_
  refine lv_bipush (v := iI 100) hx hb dX3_slideOld_3 rfl ?_
  refine r_put hx hb hts ok_RX3 hown hK hP hD hS 2 go_2 rfl 5 (by decide) w_87 (fun _ h9 => h9) rfl (v := .int (iI 100)) rfl rfl (Nat.le_of_ble_eq_true rfl) dX3_slideOld_5 (ws' := wld ga n (K 0) (K 1) (sI M 4 100)) wI_4 (fun H locs hP hD hS => ?_)
  refine lv_iconst (v := iI 0) hx hb dX3_slideOld_8 rfl ?_
  refine x_istore_n hx hb dX3_slideOld_9 rfl hl (by decide) [0, 1] (lv' := [(1, .int (iI 0)), (0, .ref (ga 2))]) rfl (⟨⟨Nat.ne_of_beq_eq_false rfl, Or.inr rfl⟩, ⟨⟨Nat.ne_of_beq_eq_false rfl, Or.inl (Nat.ne_of_beq_eq_false rfl)⟩, trivial⟩⟩) (fun ls hl => ?_)
  obtain ⟨x16, ex16, h⟩ := ob_some h
  refine L_Pl_slideOld_10 hx hb hr hml hown hts hlk hK hA hm ga n   fu (sI M 4 100) 0 0 _ ex16 _ _ _ hP hD hS (lv_pk hl [2, 1, 0] rfl) (fun ls H locs (hP : va_P D cl (wld ga n (K 0) (K 1) x16.1) H) (hD : va_D A (wld ga n (K 0) (K 1) x16.1)) hS (hl : lv_has ls 4 [(1, .int (iI x16.2))]) => ?_)
  refine lv_iload_n hx hb dX3_slideOld_82 rfl (lv_at hl 0 rfl) ?_
  obtain rfl := Option.some.inj h
  exact e_i hx hb hr hlk hP hD hS (fun _ => 0) rfl (Nat.le_of_ble_eq_true rfl) (Nat.le_of_ble_eq_true rfl) rfl dX3_slideOld_83
def s_Pl_emptyYoung_11 (rec : cSt → Int → Option (cSt)) (n : Nat)  (M : cSt) (v1 : Int) : Option (cSt) := ob (f_Row_size n M 2) (fun x4 => og (inR v1) (og (inR x4) (if v1 < x4 then ob (f_Row_item n M 2 v1) (fun x8 => on x8 (rec M (v1 + 1)) (fun q9 => og (q9 < n) (ob (f_Pl_moveToOld n M (some q9)) (fun x10 => rec x10 (v1 + 1))))) else some M)))
def g_Pl_emptyYoung_11 (n : Nat)  : Nat → cSt → Int → Option (cSt)
  | 0 => fun _ _ => none
  | q + 1 => s_Pl_emptyYoung_11 (g_Pl_emptyYoung_11 n  q) n 
set_option maxHeartbeats 4000000 in
set_option maxRecDepth 100000 in
theorem L_Pl_emptyYoung_11 {p : Program} {l : Launch} {G : Nat → Nat} {D : va_G} {K : Nat → ClassId} {e : Env} {s : State} {m : MethodId} {args : Array Value} {below : List Frame} {meth : Method} {c : Code} {A : Nat → Prop} (hx : p.tables.exec = Jvm.exec) (hb : c.code = cX3_emptyYoung) (hr : meth.sig.returnType = (some FieldType.int)) (hml : c.maxLocals = 3) (hown : s.vm.findClass RX3 = some m.cls) (hts : ∀ w ∈ lw_gw, w.before args s = true) (hlk : meth.locks = false) (hK : va_K D cl (tys K) s) (hA : ∀ q : Nat, s.heap.size ≤ q → A q) (hm : Amb G A s s.heap) {Q : State → Prop} (ga : Nat → Nat) (n : Nat)  : ∀ (q : Nat) (M : cSt) (v1 : Int) (out : cSt), g_Pl_emptyYoung_11 n  q M v1 = some out → ∀ (ls : Array Slot) (H : Heap) (locs : List Loc), va_P D cl (wld ga n (K 0) (K 1) M) H → va_D A (wld ga n (K 0) (K 1) M) → va_S A s.heap H locs → lv_has ls 3 [(0, .ref (ga 2)), (1, .int (iI v1))] → (∀ (ls : Array Slot) (H : Heap) (locs : List Loc), va_P D cl (wld ga n (K 0) (K 1) out) H → va_D A (wld ga n (K 0) (K 1) out) → va_S A s.heap H locs → lv_has ls 3 [(0, .ref (ga 2))] → W p l e ({ frames := 2, cells := 0, slots := 0, locals := 44 } : Room) s m args below meth c H locs 0 0 Q (F0 m 46 ls [])) → W p l e ({ frames := 2, cells := 0, slots := 0, locals := 44 } : Room) s m args below meth c H locs 0 0 Q (F0 m 11 ls []) := by
  intro q
  induction q with
  | zero =>
    intro M v1 out h
    cases (show none = some out from h)
  | succ q ih =>
    intro M v1 out h ls H locs hP hD hS hl kk
    replace h : s_Pl_emptyYoung_11 (g_Pl_emptyYoung_11 n  q) n  M v1 = some out := h
    unfold s_Pl_emptyYoung_11 at h
    refine lv_iload_n hx hb dX3_emptyYoung_11 rfl (lv_at hl 1 rfl) ?_
    refine lv_aload_n hx hb dX3_emptyYoung_12 rfl (lv_at hl 0 rfl) ?_
    refine r_get hx hb hts ok_RX3 hown hK hP 2 go_2 rfl 0 (by decide) w_74 (fun _ h9 => h9) rfl dX3_emptyYoung_13 ?_
    obtain ⟨x4, ex4, h⟩ := ob_some h
    refine gk_i (run_V (rest := [.int (iI v1)]) hx hb hml hown hts hK hP hD hS hA hm (C_Row_size l G D K H.size ga n M 2 (by decide) ex4) _ (full_C _) (full_n _ List.nodup_range) mok_yX5_size w_417 w_405 w_406 (rcv hK hP (8 + 2) (go_ro (by decide)) rfl rfl) ⟨Nat.le_of_ble_eq_true rfl, Nat.le_of_ble_eq_true rfl⟩ rfl hl.1 rfl (Nat.le_of_ble_eq_true rfl) dX3_emptyYoung_16 ⟨(Nat.le_of_ble_eq_true rfl), (Nat.le_of_ble_eq_true rfl)⟩) hP hD hS hA (fun u H locs (hP : va_P D cl (wld ga n (K 0) (K 1) M) H) (hD : va_D A (wld ga n (K 0) (K 1) M)) hS => ?_)
    obtain ⟨g5, h⟩ := og_some h
    obtain ⟨g6, h⟩ := og_some h
    by_cases c7 : v1 < x4
    · replace h := it_T h c7
      refine i_icmp_ge_F hx hb g5 g6 (tgt := 46) dX3_emptyYoung_19 (by decide) c7 ?_
      refine lv_aload_n hx hb dX3_emptyYoung_22 rfl (lv_at hl 0 rfl) ?_
      refine r_get hx hb hts ok_RX3 hown hK hP 2 go_2 rfl 0 (by decide) w_74 (fun _ h9 => h9) rfl dX3_emptyYoung_23 ?_
      refine lv_iload_n hx hb dX3_emptyYoung_26 rfl (lv_at hl 1 rfl) ?_
      obtain ⟨x8, ex8, h⟩ := ob_some h
      refine gk_q (run_V (rest := []) hx hb hml hown hts hK hP hD hS hA hm (C_Row_item l G D K H.size ga n M 2 (by decide) v1 ex8) _ (full_C _) (full_n _ List.nodup_range) mok_yX5_item w_418 w_419 w_420 (rcv hK hP (8 + 2) (go_ro (by decide)) rfl rfl) ⟨Nat.le_of_ble_eq_true rfl, Nat.le_of_ble_eq_true rfl⟩ rfl hl.1 rfl (Nat.le_of_ble_eq_true rfl) dX3_emptyYoung_27 ⟨(Nat.le_of_ble_eq_true rfl), (Nat.le_of_ble_eq_true rfl)⟩) hP hD hS hA (fun u H locs (hP : va_P D cl (wld ga n (K 0) (K 1) M) H) (hD : va_D A (wld ga n (K 0) (K 1) M)) hS => ?_)
      refine w_tov (y := ctv ga x8) rfl ?_
      refine t_astore_n hx hb dX3_emptyYoung_30 rfl hl (by decide) [0, 1] (lv' := [(0, .ref (ga 2)), (1, .int (iI v1))]) rfl (⟨⟨Nat.ne_of_beq_eq_false rfl, Or.inl (Nat.ne_of_beq_eq_false rfl)⟩, ⟨⟨Nat.ne_of_beq_eq_false rfl, Or.inr rfl⟩, trivial⟩⟩) (fun ls hl => ?_)
      refine t_aload_n hx hb dX3_emptyYoung_31 rfl (lv_at hl 0 rfl) ?_
      rcases on_cases h with ⟨z9, h⟩ | ⟨q9, z9, h⟩
      · rw [ctv_none ga z9]
        refine lv_ifnullN (tgt := 40) hx hb dX3_emptyYoung_32 (by decide) ?_
        refine x_iinc (v := iI (v1 + 1)) hx hb dX3_emptyYoung_40 hl (k := 2) rfl (iI_add v1 1) (by decide) [0, 1] (lv' := [(2, ctv ga x8), (0, .ref (ga 2))]) rfl (⟨⟨Nat.ne_of_beq_eq_false rfl, Or.inl (Nat.ne_of_beq_eq_false rfl)⟩, ⟨⟨Nat.ne_of_beq_eq_false rfl, Or.inr rfl⟩, trivial⟩⟩) (fun ls hl => ?_)
        refine lv_goto (tgt := 11) hx hb dX3_emptyYoung_43 (by decide) ?_
        exact ih M (v1 + 1) _ h _ _ _ hP hD hS (lv_pk hl [2, 0] rfl) kk
      · obtain ⟨hq9, h⟩ := og_some h
        rw [ctv_some ga z9]
        refine lv_ifnull hx hb dX3_emptyYoung_32 ?_
        refine lv_aload_n hx hb dX3_emptyYoung_35 rfl (lv_at hl 1 rfl) ?_
        refine t_aload_n hx hb dX3_emptyYoung_36 rfl (lv_at hl 0 rfl) ?_
        rw [ctv_some ga z9]
        obtain ⟨x10, ex10, h⟩ := ob_some h
        refine gk_v (run_V (rest := []) hx hb hml hown hts hK hP hD hS hA hm (C_Pl_moveToOld l G D K H.size ga n M (some q9) ex10) _ (full_C _) (full_n _ List.nodup_range) mok_yX3_moveToOld w_643 w_490 w_491 (rcv hK hP 2 go_2 rfl rfl) ⟨Nat.le_of_ble_eq_true rfl, Nat.le_of_ble_eq_true rfl⟩ rfl hl.1 rfl (Nat.le_of_ble_eq_true rfl) dX3_emptyYoung_37 ⟨(Nat.le_of_ble_eq_true rfl), (Nat.le_of_ble_eq_true rfl)⟩) hP hD hS hA (fun u H locs (hP : va_P D cl (wld ga n (K 0) (K 1) x10) H) (hD : va_D A (wld ga n (K 0) (K 1) x10)) hS => ?_)
        refine x_iinc (v := iI (v1 + 1)) hx hb dX3_emptyYoung_40 hl (k := 2) rfl (iI_add v1 1) (by decide) [0, 1] (lv' := [(2, ctv ga x8), (0, .ref (ga 2))]) rfl (⟨⟨Nat.ne_of_beq_eq_false rfl, Or.inl (Nat.ne_of_beq_eq_false rfl)⟩, ⟨⟨Nat.ne_of_beq_eq_false rfl, Or.inr rfl⟩, trivial⟩⟩) (fun ls hl => ?_)
        refine lv_goto (tgt := 11) hx hb dX3_emptyYoung_43 (by decide) ?_
        exact ih x10 (v1 + 1) _ h _ _ _ hP hD hS (lv_pk hl [2, 0] rfl) kk
    · replace h := it_F h c7
      refine i_icmp_ge_T hx hb g5 g6 (tgt := 46) dX3_emptyYoung_19 (by decide) c7 ?_
      obtain rfl := Option.some.inj h
      exact kk _ _ _ hP hD hS (lv_pk hl [0] rfl)
def f_Pl_emptyYoung (n : Nat) (M : cSt)  : Option (cSt × Int) := ob (f_Pl_canOldTakeYoung n M) (fun x1 => og (inR x1) (if x1 = 0 then some (M, 0) else ob (g_Pl_emptyYoung_11 n  fu M 0) (fun x11 => ob (f_Row_words n x11 2) (fun x12 => ob (f_Row_clear n x11 2) (fun x13 => some (sI (sI x13 2 0) 3 0, x12))))))
set_option maxHeartbeats 4000000 in
set_option maxRecDepth 100000 in
theorem C_Pl_emptyYoung (l : Launch) (G : Nat → Nat) (D : va_G) (K : Nat → ClassId) (sz : Nat) (ga : Nat → Nat) (n : Nat) (M : cSt)  {x : cSt × Int} (h : f_Pl_emptyYoung n M  = some x) : CM l yX3_emptyYoung cX3_emptyYoung 3 (some FieldType.int) ({ frames := 2, cells := 0, slots := 0, locals := 44 } : Room) G D K [.ref (ga 2)] (wld ga n (K 0) (K 1) M) sz (CQi (iI x.2) D (fun _ => wld ga n (K 0) (K 1) x.1)) := by
  refine CM_of (lv0 := [(0, .ref (ga 2))]) pn_RX3 (Nat.le_of_ble_eq_true rfl) rfl (fun p e s m args below meth c A ls hx hb hr hml hown hts hlk hnm hP hK hD hS hA hm hl => ?_)
  have hown : s.vm.findClass RX3 = some m.cls := hown
  unfold f_Pl_emptyYoung at h
  refine lv_aload_n hx hb dX3_emptyYoung_0 rfl (lv_at hl 0 rfl) ?_
  obtain ⟨x1, ex1, h⟩ := ob_some h
  refine gk_i (run_V (rest := []) hx hb hml hown hts hK hP hD hS hA hm (C_Pl_canOldTakeYoung l G D K s.heap.size ga n M ex1) _ (full_C _) (full_n _ List.nodup_range) mok_yX3_canOldTakeYoung w_642 w_431 w_432 (rcv hK hP 2 go_2 rfl rfl) ⟨Nat.le_of_ble_eq_true rfl, Nat.le_of_ble_eq_true rfl⟩ rfl hl.1 rfl (Nat.le_of_ble_eq_true rfl) dX3_emptyYoung_1 ⟨(Nat.le_of_ble_eq_true rfl), (Nat.le_of_ble_eq_true rfl)⟩) hP hD hS hA (fun u H locs (hP : va_P D cl (wld ga n (K 0) (K 1) M) H) (hD : va_D A (wld ga n (K 0) (K 1) M)) hS => ?_)
  obtain ⟨g2, h⟩ := og_some h
  by_cases c3 : x1 = 0
  · replace h := it_T h c3
    refine i_if_ne_F hx hb g2 (tgt := 9) dX3_emptyYoung_4 (by decide) c3 ?_
    refine lv_iconst (v := iI 0) hx hb dX3_emptyYoung_7 rfl ?_
    obtain rfl := Option.some.inj h
    exact e_i hx hb hr hlk hP hD hS (fun _ => 0) rfl (Nat.le_of_ble_eq_true rfl) (Nat.le_of_ble_eq_true rfl) rfl dX3_emptyYoung_8
  · replace h := it_F h c3
    refine i_if_ne_T hx hb g2 (tgt := 9) dX3_emptyYoung_4 (by decide) c3 ?_
    refine lv_iconst (v := iI 0) hx hb dX3_emptyYoung_9 rfl ?_
    refine x_istore_n hx hb dX3_emptyYoung_10 rfl hl (by decide) [0] (lv' := [(0, .ref (ga 2))]) rfl (⟨⟨Nat.ne_of_beq_eq_false rfl, Or.inr rfl⟩, trivial⟩) (fun ls hl => ?_)
    obtain ⟨x11, ex11, h⟩ := ob_some h
    refine L_Pl_emptyYoung_11 hx hb hr hml hown hts hlk hK hA hm ga n   fu M 0 _ ex11 _ _ _ hP hD hS (lv_pk hl [1, 0] rfl) (fun ls H locs (hP : va_P D cl (wld ga n (K 0) (K 1) x11) H) (hD : va_D A (wld ga n (K 0) (K 1) x11)) hS (hl : lv_has ls 3 [(0, .ref (ga 2))]) => ?_)
    refine lv_aload_n hx hb dX3_emptyYoung_46 rfl (lv_at hl 0 rfl) ?_
    refine r_get hx hb hts ok_RX3 hown hK hP 2 go_2 rfl 0 (by decide) w_74 (fun _ h9 => h9) rfl dX3_emptyYoung_47 ?_
    obtain ⟨x12, ex12, h⟩ := ob_some h
    refine gk_i (run_V (rest := []) hx hb hml hown hts hK hP hD hS hA hm (C_Row_words l G D K H.size ga n x11 2 (by decide) ex12) _ (full_C _) (full_n _ List.nodup_range) mok_yX5_words w_644 w_546 w_547 (rcv hK hP (8 + 2) (go_ro (by decide)) rfl rfl) ⟨Nat.le_of_ble_eq_true rfl, Nat.le_of_ble_eq_true rfl⟩ rfl hl.1 rfl (Nat.le_of_ble_eq_true rfl) dX3_emptyYoung_50 ⟨(Nat.le_of_ble_eq_true rfl), (Nat.le_of_ble_eq_true rfl)⟩) hP hD hS hA (fun u H locs (hP : va_P D cl (wld ga n (K 0) (K 1) x11) H) (hD : va_D A (wld ga n (K 0) (K 1) x11)) hS => ?_)
    refine x_istore_n hx hb dX3_emptyYoung_53 rfl hl (by decide) [0] (lv' := [(0, .ref (ga 2))]) rfl (⟨⟨Nat.ne_of_beq_eq_false rfl, Or.inr rfl⟩, trivial⟩) (fun ls hl => ?_)
    refine lv_aload_n hx hb dX3_emptyYoung_54 rfl (lv_at hl 1 rfl) ?_
    refine r_get hx hb hts ok_RX3 hown hK hP 2 go_2 rfl 0 (by decide) w_74 (fun _ h9 => h9) rfl dX3_emptyYoung_55 ?_
    obtain ⟨x13, ex13, h⟩ := ob_some h
    refine gk_v (run_V (rest := []) hx hb hml hown hts hK hP hD hS hA hm (C_Row_clear l G D K H.size ga n x11 2 (by decide) ex13) _ (full_C _) (full_n _ List.nodup_range) mok_yX5_clear w_645 w_447 w_448 (rcv hK hP (8 + 2) (go_ro (by decide)) rfl rfl) ⟨Nat.le_of_ble_eq_true rfl, Nat.le_of_ble_eq_true rfl⟩ rfl hl.1 rfl (Nat.le_of_ble_eq_true rfl) dX3_emptyYoung_58 ⟨(Nat.le_of_ble_eq_true rfl), (Nat.le_of_ble_eq_true rfl)⟩) hP hD hS hA (fun u H locs (hP : va_P D cl (wld ga n (K 0) (K 1) x13) H) (hD : va_D A (wld ga n (K 0) (K 1) x13)) hS => ?_)
    refine lv_aload_n hx hb dX3_emptyYoung_61 rfl (lv_at hl 1 rfl) ?_
    refine lv_iconst (v := iI 0) hx hb dX3_emptyYoung_62 rfl ?_
    refine r_put hx hb hts ok_RX3 hown hK hP hD hS 2 go_2 rfl 3 (by decide) w_82 (fun _ h9 => h9) rfl (v := .int (iI 0)) rfl rfl (Nat.le_of_ble_eq_true rfl) dX3_emptyYoung_63 (ws' := wld ga n (K 0) (K 1) (sI x13 2 0)) wI_2 (fun H locs hP hD hS => ?_)
    refine lv_aload_n hx hb dX3_emptyYoung_66 rfl (lv_at hl 1 rfl) ?_
    refine lv_iconst (v := iI 0) hx hb dX3_emptyYoung_67 rfl ?_
    refine r_put hx hb hts ok_RX3 hown hK hP hD hS 2 go_2 rfl 4 (by decide) w_84 (fun _ h9 => h9) rfl (v := .int (iI 0)) rfl rfl (Nat.le_of_ble_eq_true rfl) dX3_emptyYoung_68 (ws' := wld ga n (K 0) (K 1) (sI (sI x13 2 0) 3 0)) wI_3 (fun H locs hP hD hS => ?_)
    refine lv_iload_n hx hb dX3_emptyYoung_71 rfl (lv_at hl 0 rfl) ?_
    obtain rfl := Option.some.inj h
    exact e_i hx hb hr hlk hP hD hS (fun _ => 0) rfl (Nat.le_of_ble_eq_true rfl) (Nat.le_of_ble_eq_true rfl) rfl dX3_emptyYoung_72
def f_Pl_resizeOld (n : Nat) (M : cSt)  : Option (cSt) := og (inR ((gI M 4 - 100) * 4)) (og (inR (gI M 5 * 3)) (if (gI M 5 * 3) < ((gI M 4 - 100) * 4) then og (inR (gI M 5 + 30)) (some (sI M 5 (min 180 (gI M 5 + 30)))) else og (inR (gI M 5)) (if ((gI M 4 - 100) * 4) < gI M 5 then og (inR (gI M 4 - 100)) (og (inR (max 60 (gI M 4 - 100))) (og (inR (gI M 5 - 30)) (some (sI M 5 (max (max 60 (gI M 4 - 100)) (gI M 5 - 30)))))) else some M)))
set_option maxHeartbeats 4000000 in
set_option maxRecDepth 100000 in
theorem C_Pl_resizeOld (l : Launch) (G : Nat → Nat) (D : va_G) (K : Nat → ClassId) (sz : Nat) (ga : Nat → Nat) (n : Nat) (M : cSt)  {x : cSt} (h : f_Pl_resizeOld n M  = some x) : CM l yX3_resizeOld cX3_resizeOld 2 (none : Option FieldType) ({ frames := 1, cells := 0, slots := 0, locals := 21 } : Room) G D K [.ref (ga 2)] (wld ga n (K 0) (K 1) M) sz (CQv D (fun _ => wld ga n (K 0) (K 1) x)) := by
  refine CM_of (lv0 := [(0, .ref (ga 2))]) pn_RX3 (Nat.le_of_ble_eq_true rfl) rfl (fun p e s m args below meth c A ls hx hb hr hml hown hts hlk hnm hP hK hD hS hA hm hl => ?_)
  have hown : s.vm.findClass RX3 = some m.cls := hown
  unfold f_Pl_resizeOld at h
  refine lv_aload_n hx hb dX3_resizeOld_0 rfl (lv_at hl 0 rfl) ?_
  refine r_get hx hb hts ok_RX3 hown hK hP 2 go_2 rfl 5 (by decide) w_87 (fun _ h9 => h9) rfl dX3_resizeOld_1 ?_
  refine lv_bipush (v := iI 100) hx hb dX3_resizeOld_4 rfl ?_
  refine lv_isub hx hb dX3_resizeOld_6 ?_
  refine w_toeq (iI_sub (gI M 4) 100) ?_
  refine x_istore_n hx hb dX3_resizeOld_7 rfl hl (by decide) [0] (lv' := [(0, .ref (ga 2))]) rfl (⟨⟨Nat.ne_of_beq_eq_false rfl, Or.inr rfl⟩, trivial⟩) (fun ls hl => ?_)
  refine lv_iload_n hx hb dX3_resizeOld_8 rfl (lv_at hl 0 rfl) ?_
  refine lv_iconst (v := iI 4) hx hb dX3_resizeOld_9 rfl ?_
  refine lv_imul hx hb dX3_resizeOld_10 ?_
  refine w_toeq (iI_mul (gI M 4 - 100) 4) ?_
  refine lv_aload_n hx hb dX3_resizeOld_11 rfl (lv_at hl 1 rfl) ?_
  refine r_get hx hb hts ok_RX3 hown hK hP 2 go_2 rfl 6 (by decide) w_89 (fun _ h9 => h9) rfl dX3_resizeOld_12 ?_
  refine lv_iconst (v := iI 3) hx hb dX3_resizeOld_15 rfl ?_
  refine lv_imul hx hb dX3_resizeOld_16 ?_
  refine w_toeq (iI_mul (gI M 5) 3) ?_
  obtain ⟨g1, h⟩ := og_some h
  obtain ⟨g2, h⟩ := og_some h
  by_cases c3 : (gI M 5 * 3) < ((gI M 4 - 100) * 4)
  · replace h := it_T h c3
    refine i_icmp_le_F hx hb g1 g2 (tgt := 40) dX3_resizeOld_17 (by decide) c3 ?_
    refine lv_aload_n hx hb dX3_resizeOld_20 rfl (lv_at hl 1 rfl) ?_
    refine lv_sipush (v := iI 180) hx hb dX3_resizeOld_21 rfl ?_
    refine lv_aload_n hx hb dX3_resizeOld_24 rfl (lv_at hl 1 rfl) ?_
    refine r_get hx hb hts ok_RX3 hown hK hP 2 go_2 rfl 6 (by decide) w_89 (fun _ h9 => h9) rfl dX3_resizeOld_25 ?_
    refine lv_bipush (v := iI 30) hx hb dX3_resizeOld_28 rfl ?_
    refine lv_iadd hx hb dX3_resizeOld_30 ?_
    refine w_toeq (iI_add (gI M 5) 30) ?_
    obtain ⟨g4, h⟩ := og_some h
    refine va_mmin hx hb (hml.trans hl.1.symm) hown (hts _ w_650) (hts _ w_651) (hts _ w_16) (hts _ w_652) (Nat.le_of_ble_eq_true rfl) (Nat.le_of_ble_eq_true rfl) (Nat.le_of_ble_eq_true rfl) (Nat.le_of_ble_eq_true rfl) dX3_resizeOld_31 ?_
    refine w_toeq (iI_min ⟨by decide, by decide⟩ g4) ?_
    refine r_put hx hb hts ok_RX3 hown hK hP hD hS 2 go_2 rfl 6 (by decide) w_89 (fun _ h9 => h9) rfl (v := .int (iI (min 180 (gI M 5 + 30)))) rfl rfl (Nat.le_of_ble_eq_true rfl) dX3_resizeOld_34 (ws' := wld ga n (K 0) (K 1) (sI M 5 (min 180 (gI M 5 + 30)))) wI_5 (fun H locs hP hD hS => ?_)
    refine lv_goto (tgt := 70) hx hb dX3_resizeOld_37 (by decide) ?_
    obtain rfl := Option.some.inj h
    exact e_v hx hb hr hlk hP hD hS (fun _ => 0) rfl (Nat.le_of_ble_eq_true rfl) (Nat.le_of_ble_eq_true rfl) dX3_resizeOld_70
  · replace h := it_F h c3
    refine i_icmp_le_T hx hb g1 g2 (tgt := 40) dX3_resizeOld_17 (by decide) c3 ?_
    refine lv_iload_n hx hb dX3_resizeOld_40 rfl (lv_at hl 0 rfl) ?_
    refine lv_iconst (v := iI 4) hx hb dX3_resizeOld_41 rfl ?_
    refine lv_imul hx hb dX3_resizeOld_42 ?_
    refine w_toeq (iI_mul (gI M 4 - 100) 4) ?_
    refine lv_aload_n hx hb dX3_resizeOld_43 rfl (lv_at hl 1 rfl) ?_
    refine r_get hx hb hts ok_RX3 hown hK hP 2 go_2 rfl 6 (by decide) w_89 (fun _ h9 => h9) rfl dX3_resizeOld_44 ?_
    obtain ⟨g5, h⟩ := og_some h
    by_cases c6 : ((gI M 4 - 100) * 4) < gI M 5
    · replace h := it_T h c6
      refine i_icmp_ge_F hx hb g1 g5 (tgt := 70) dX3_resizeOld_47 (by decide) c6 ?_
      refine lv_aload_n hx hb dX3_resizeOld_50 rfl (lv_at hl 1 rfl) ?_
      refine lv_bipush (v := iI 60) hx hb dX3_resizeOld_51 rfl ?_
      refine lv_iload_n hx hb dX3_resizeOld_53 rfl (lv_at hl 0 rfl) ?_
      obtain ⟨g7, h⟩ := og_some h
      refine va_mmax hx hb (hml.trans hl.1.symm) hown (hts _ w_653) (hts _ w_554) (hts _ w_16) (hts _ w_555) (Nat.le_of_ble_eq_true rfl) (Nat.le_of_ble_eq_true rfl) (Nat.le_of_ble_eq_true rfl) (Nat.le_of_ble_eq_true rfl) dX3_resizeOld_54 ?_
      refine w_toeq (iI_max ⟨by decide, by decide⟩ g7) ?_
      refine lv_aload_n hx hb dX3_resizeOld_57 rfl (lv_at hl 1 rfl) ?_
      refine r_get hx hb hts ok_RX3 hown hK hP 2 go_2 rfl 6 (by decide) w_89 (fun _ h9 => h9) rfl dX3_resizeOld_58 ?_
      refine lv_bipush (v := iI 30) hx hb dX3_resizeOld_61 rfl ?_
      refine lv_isub hx hb dX3_resizeOld_63 ?_
      refine w_toeq (iI_sub (gI M 5) 30) ?_
      obtain ⟨g8, h⟩ := og_some h
      obtain ⟨g9, h⟩ := og_some h
      refine va_mmax hx hb (hml.trans hl.1.symm) hown (hts _ w_653) (hts _ w_554) (hts _ w_16) (hts _ w_555) (Nat.le_of_ble_eq_true rfl) (Nat.le_of_ble_eq_true rfl) (Nat.le_of_ble_eq_true rfl) (Nat.le_of_ble_eq_true rfl) dX3_resizeOld_64 ?_
      refine w_toeq (iI_max g8 g9) ?_
      refine r_put hx hb hts ok_RX3 hown hK hP hD hS 2 go_2 rfl 6 (by decide) w_89 (fun _ h9 => h9) rfl (v := .int (iI (max (max 60 (gI M 4 - 100)) (gI M 5 - 30)))) rfl rfl (Nat.le_of_ble_eq_true rfl) dX3_resizeOld_67 (ws' := wld ga n (K 0) (K 1) (sI M 5 (max (max 60 (gI M 4 - 100)) (gI M 5 - 30)))) wI_5 (fun H locs hP hD hS => ?_)
      obtain rfl := Option.some.inj h
      exact e_v hx hb hr hlk hP hD hS (fun _ => 0) rfl (Nat.le_of_ble_eq_true rfl) (Nat.le_of_ble_eq_true rfl) dX3_resizeOld_70
    · replace h := it_F h c6
      refine i_icmp_ge_T hx hb g1 g5 (tgt := 70) dX3_resizeOld_47 (by decide) c6 ?_
      obtain rfl := Option.some.inj h
      exact e_v hx hb hr hlk hP hD hS (fun _ => 0) rfl (Nat.le_of_ble_eq_true rfl) (Nat.le_of_ble_eq_true rfl) dX3_resizeOld_70
def f_Pl_compact (n : Nat) (M : cSt)  : Option (cSt × Int) := ob (f_Row_keepOnly n M 2 1) (fun x1 => ob (f_Row_keepOnly n x1 3 2) (fun x2 => ob (f_Row_keepOnly n x2 4 3) (fun x3 => ob (f_Pl_slideOld n x3) (fun x4 => ob (f_Pl_emptyYoung n x4.1) (fun x5 => ob (f_Pl_resizeOld n x5.1) (fun x6 => some (x6, (x4.2 + x5.2))))))))
set_option maxHeartbeats 4000000 in
set_option maxRecDepth 100000 in
theorem C_Pl_compact (l : Launch) (G : Nat → Nat) (D : va_G) (K : Nat → ClassId) (sz : Nat) (ga : Nat → Nat) (n : Nat) (M : cSt)  {x : cSt × Int} (h : f_Pl_compact n M  = some x) : CM l yX3_compact cX3_compact 2 (some FieldType.int) ({ frames := 3, cells := 0, slots := 0, locals := 66 } : Room) G D K [.ref (ga 2)] (wld ga n (K 0) (K 1) M) sz (CQi (iI x.2) D (fun _ => wld ga n (K 0) (K 1) x.1)) := by
  refine CM_of (lv0 := [(0, .ref (ga 2))]) pn_RX3 (Nat.le_of_ble_eq_true rfl) rfl (fun p e s m args below meth c A ls hx hb hr hml hown hts hlk hnm hP hK hD hS hA hm hl => ?_)
  have hown : s.vm.findClass RX3 = some m.cls := hown
  unfold f_Pl_compact at h
  refine lv_aload_n hx hb dX3_compact_0 rfl (lv_at hl 0 rfl) ?_
  refine r_get hx hb hts ok_RX3 hown hK hP 2 go_2 rfl 0 (by decide) w_74 (fun _ h9 => h9) rfl dX3_compact_1 ?_
  refine lv_iconst (v := iI 1) hx hb dX3_compact_4 rfl ?_
  obtain ⟨x1, ex1, h⟩ := ob_some h
  refine gk_v (run_V (rest := []) hx hb hml hown hts hK hP hD hS hA hm (C_Row_keepOnly l G D K s.heap.size ga n M 2 (by decide) 1 ex1) _ (full_C _) (full_n _ List.nodup_range) mok_yX5_keepOnly w_629 w_630 w_631 (rcv hK hP (8 + 2) (go_ro (by decide)) rfl rfl) ⟨Nat.le_of_ble_eq_true rfl, Nat.le_of_ble_eq_true rfl⟩ rfl hl.1 rfl (Nat.le_of_ble_eq_true rfl) dX3_compact_5 ⟨(Nat.le_of_ble_eq_true rfl), (Nat.le_of_ble_eq_true rfl)⟩) hP hD hS hA (fun u H locs (hP : va_P D cl (wld ga n (K 0) (K 1) x1) H) (hD : va_D A (wld ga n (K 0) (K 1) x1)) hS => ?_)
  refine lv_aload_n hx hb dX3_compact_8 rfl (lv_at hl 0 rfl) ?_
  refine r_get hx hb hts ok_RX3 hown hK hP 2 go_2 rfl 1 (by decide) w_76 (fun _ h9 => h9) rfl dX3_compact_9 ?_
  refine lv_iconst (v := iI 2) hx hb dX3_compact_12 rfl ?_
  obtain ⟨x2, ex2, h⟩ := ob_some h
  refine gk_v (run_V (rest := []) hx hb hml hown hts hK hP hD hS hA hm (C_Row_keepOnly l G D K H.size ga n x1 3 (by decide) 2 ex2) _ (full_C _) (full_n _ List.nodup_range) mok_yX5_keepOnly w_629 w_630 w_631 (rcv hK hP (8 + 3) (go_ro (by decide)) rfl rfl) ⟨Nat.le_of_ble_eq_true rfl, Nat.le_of_ble_eq_true rfl⟩ rfl hl.1 rfl (Nat.le_of_ble_eq_true rfl) dX3_compact_13 ⟨(Nat.le_of_ble_eq_true rfl), (Nat.le_of_ble_eq_true rfl)⟩) hP hD hS hA (fun u H locs (hP : va_P D cl (wld ga n (K 0) (K 1) x2) H) (hD : va_D A (wld ga n (K 0) (K 1) x2)) hS => ?_)
  refine lv_aload_n hx hb dX3_compact_16 rfl (lv_at hl 0 rfl) ?_
  refine r_get hx hb hts ok_RX3 hown hK hP 2 go_2 rfl 2 (by decide) w_78 (fun _ h9 => h9) rfl dX3_compact_17 ?_
  refine lv_iconst (v := iI 3) hx hb dX3_compact_20 rfl ?_
  obtain ⟨x3, ex3, h⟩ := ob_some h
  refine gk_v (run_V (rest := []) hx hb hml hown hts hK hP hD hS hA hm (C_Row_keepOnly l G D K H.size ga n x2 4 (by decide) 3 ex3) _ (full_C _) (full_n _ List.nodup_range) mok_yX5_keepOnly w_629 w_630 w_631 (rcv hK hP (8 + 4) (go_ro (by decide)) rfl rfl) ⟨Nat.le_of_ble_eq_true rfl, Nat.le_of_ble_eq_true rfl⟩ rfl hl.1 rfl (Nat.le_of_ble_eq_true rfl) dX3_compact_21 ⟨(Nat.le_of_ble_eq_true rfl), (Nat.le_of_ble_eq_true rfl)⟩) hP hD hS hA (fun u H locs (hP : va_P D cl (wld ga n (K 0) (K 1) x3) H) (hD : va_D A (wld ga n (K 0) (K 1) x3)) hS => ?_)
  refine lv_aload_n hx hb dX3_compact_24 rfl (lv_at hl 0 rfl) ?_
  obtain ⟨x4, ex4, h⟩ := ob_some h
  refine gk_i (run_V (rest := []) hx hb hml hown hts hK hP hD hS hA hm (C_Pl_slideOld l G D K H.size ga n x3 ex4) _ (full_C _) (full_n _ List.nodup_range) mok_yX3_slideOld w_634 w_636 w_p18 (rcv hK hP 2 go_2 rfl rfl) ⟨Nat.le_of_ble_eq_true rfl, Nat.le_of_ble_eq_true rfl⟩ rfl hl.1 rfl (Nat.le_of_ble_eq_true rfl) dX3_compact_25 ⟨(Nat.le_of_ble_eq_true rfl), (Nat.le_of_ble_eq_true rfl)⟩) hP hD hS hA (fun u H locs (hP : va_P D cl (wld ga n (K 0) (K 1) x4.1) H) (hD : va_D A (wld ga n (K 0) (K 1) x4.1)) hS => ?_)
  refine x_istore_n hx hb dX3_compact_28 rfl hl (by decide) [0] (lv' := [(0, .ref (ga 2))]) rfl (⟨⟨Nat.ne_of_beq_eq_false rfl, Or.inr rfl⟩, trivial⟩) (fun ls hl => ?_)
  refine lv_iload_n hx hb dX3_compact_29 rfl (lv_at hl 0 rfl) ?_
  refine lv_aload_n hx hb dX3_compact_30 rfl (lv_at hl 1 rfl) ?_
  obtain ⟨x5, ex5, h⟩ := ob_some h
  refine gk_i (run_V (rest := [.int (iI x4.2)]) hx hb hml hown hts hK hP hD hS hA hm (C_Pl_emptyYoung l G D K H.size ga n x4.1 ex5) _ (full_C _) (full_n _ List.nodup_range) mok_yX3_emptyYoung w_638 w_640 w_p19 (rcv hK hP 2 go_2 rfl rfl) ⟨Nat.le_of_ble_eq_true rfl, Nat.le_of_ble_eq_true rfl⟩ rfl hl.1 rfl (Nat.le_of_ble_eq_true rfl) dX3_compact_31 ⟨(Nat.le_of_ble_eq_true rfl), (Nat.le_of_ble_eq_true rfl)⟩) hP hD hS hA (fun u H locs (hP : va_P D cl (wld ga n (K 0) (K 1) x5.1) H) (hD : va_D A (wld ga n (K 0) (K 1) x5.1)) hS => ?_)
  refine lv_iadd hx hb dX3_compact_34 ?_
  refine w_toeq (iI_add x4.2 x5.2) ?_
  refine x_istore_n hx hb dX3_compact_35 rfl hl (by decide) [1] (lv' := [(0, .ref (ga 2))]) rfl (⟨⟨Nat.ne_of_beq_eq_false rfl, Or.inr rfl⟩, trivial⟩) (fun ls hl => ?_)
  refine lv_aload_n hx hb dX3_compact_36 rfl (lv_at hl 1 rfl) ?_
  obtain ⟨x6, ex6, h⟩ := ob_some h
  refine gk_v (run_V (rest := []) hx hb hml hown hts hK hP hD hS hA hm (C_Pl_resizeOld l G D K H.size ga n x5.1 ex6) _ (full_C _) (full_n _ List.nodup_range) mok_yX3_resizeOld w_646 w_648 w_p20 (rcv hK hP 2 go_2 rfl rfl) ⟨Nat.le_of_ble_eq_true rfl, Nat.le_of_ble_eq_true rfl⟩ rfl hl.1 rfl (Nat.le_of_ble_eq_true rfl) dX3_compact_37 ⟨(Nat.le_of_ble_eq_true rfl), (Nat.le_of_ble_eq_true rfl)⟩) hP hD hS hA (fun u H locs (hP : va_P D cl (wld ga n (K 0) (K 1) x6) H) (hD : va_D A (wld ga n (K 0) (K 1) x6)) hS => ?_)
  refine lv_iload_n hx hb dX3_compact_40 rfl (lv_at hl 0 rfl) ?_
  obtain rfl := Option.some.inj h
  exact e_i hx hb hr hlk hP hD hS (fun _ => 0) rfl (Nat.le_of_ble_eq_true rfl) (Nat.le_of_ble_eq_true rfl) rfl dX3_compact_41
def s_Pl_soilYoungHolders_2 (rec : cSt → Int → Option (cSt)) (n : Nat) (r1 : Nat) (M : cSt) (v2 : Int) : Option (cSt) := ob (f_Row_size n M r1) (fun x1 => og (inR v2) (og (inR x1) (if v2 < x1 then ob (f_Row_item n M r1 v2) (fun x5 => on x5 (rec M (v2 + 1)) (fun q6 => og (q6 < n) (ob (f_Th_hasYoungField n M q6) (fun x7 => og (inR x7) (if x7 = 0 then rec M (v2 + 1) else ob (f_Pl_soil n M (some q6)) (fun x10 => rec x10 (v2 + 1))))))) else some M)))
def g_Pl_soilYoungHolders_2 (n : Nat) (r1 : Nat) : Nat → cSt → Int → Option (cSt)
  | 0 => fun _ _ => none
  | q + 1 => s_Pl_soilYoungHolders_2 (g_Pl_soilYoungHolders_2 n r1 q) n r1
set_option maxHeartbeats 4000000 in
set_option maxRecDepth 100000 in
theorem L_Pl_soilYoungHolders_2 {p : Program} {l : Launch} {G : Nat → Nat} {D : va_G} {K : Nat → ClassId} {e : Env} {s : State} {m : MethodId} {args : Array Value} {below : List Frame} {meth : Method} {c : Code} {A : Nat → Prop} (hx : p.tables.exec = Jvm.exec) (hb : c.code = cX3_soilYoungHolders) (hr : meth.sig.returnType = (none : Option FieldType)) (hml : c.maxLocals = 4) (hown : s.vm.findClass RX3 = some m.cls) (hts : ∀ w ∈ lw_gw, w.before args s = true) (hlk : meth.locks = false) (hK : va_K D cl (tys K) s) (hA : ∀ q : Nat, s.heap.size ≤ q → A q) (hm : Amb G A s s.heap) {Q : State → Prop} (ga : Nat → Nat) (n : Nat) (r1 : Nat) (hr1 : r1 < 7) : ∀ (q : Nat) (M : cSt) (v2 : Int) (out : cSt), g_Pl_soilYoungHolders_2 n r1 q M v2 = some out → ∀ (ls : Array Slot) (H : Heap) (locs : List Loc), va_P D cl (wld ga n (K 0) (K 1) M) H → va_D A (wld ga n (K 0) (K 1) M) → va_S A s.heap H locs → lv_has ls 4 [(0, .ref (ga 2)), (1, .ref (ga (8 + r1))), (2, .int (iI v2))] → (∀ (ls : Array Slot) (H : Heap) (locs : List Loc), va_P D cl (wld ga n (K 0) (K 1) out) H → va_D A (wld ga n (K 0) (K 1) out) → va_S A s.heap H locs → lv_has ls 4 [] → W p l e ({ frames := 2, cells := 0, slots := 0, locals := 42 } : Room) s m args below meth c H locs 0 0 Q (F0 m 38 ls [])) → W p l e ({ frames := 2, cells := 0, slots := 0, locals := 42 } : Room) s m args below meth c H locs 0 0 Q (F0 m 2 ls []) := by
  intro q
  induction q with
  | zero =>
    intro M v2 out h
    cases (show none = some out from h)
  | succ q ih =>
    intro M v2 out h ls H locs hP hD hS hl kk
    replace h : s_Pl_soilYoungHolders_2 (g_Pl_soilYoungHolders_2 n r1 q) n r1 M v2 = some out := h
    unfold s_Pl_soilYoungHolders_2 at h
    refine lv_iload_n hx hb dX3_soilYoungHolders_2 rfl (lv_at hl 2 rfl) ?_
    refine lv_aload_n hx hb dX3_soilYoungHolders_3 rfl (lv_at hl 1 rfl) ?_
    obtain ⟨x1, ex1, h⟩ := ob_some h
    refine gk_i (run_V (rest := [.int (iI v2)]) hx hb hml hown hts hK hP hD hS hA hm (C_Row_size l G D K H.size ga n M r1 hr1 ex1) _ (full_C _) (full_n _ List.nodup_range) mok_yX5_size w_417 w_405 w_406 (rcv hK hP (8 + r1) (go_ro hr1) rfl rfl) ⟨Nat.le_of_ble_eq_true rfl, Nat.le_of_ble_eq_true rfl⟩ rfl hl.1 rfl (Nat.le_of_ble_eq_true rfl) dX3_soilYoungHolders_4 ⟨(Nat.le_of_ble_eq_true rfl), (Nat.le_of_ble_eq_true rfl)⟩) hP hD hS hA (fun u H locs (hP : va_P D cl (wld ga n (K 0) (K 1) M) H) (hD : va_D A (wld ga n (K 0) (K 1) M)) hS => ?_)
    obtain ⟨g2, h⟩ := og_some h
    obtain ⟨g3, h⟩ := og_some h
    by_cases c4 : v2 < x1
    · replace h := it_T h c4
      refine i_icmp_ge_F hx hb g2 g3 (tgt := 38) dX3_soilYoungHolders_7 (by decide) c4 ?_
      refine lv_aload_n hx hb dX3_soilYoungHolders_10 rfl (lv_at hl 1 rfl) ?_
      refine lv_iload_n hx hb dX3_soilYoungHolders_11 rfl (lv_at hl 2 rfl) ?_
      obtain ⟨x5, ex5, h⟩ := ob_some h
      refine gk_q (run_V (rest := []) hx hb hml hown hts hK hP hD hS hA hm (C_Row_item l G D K H.size ga n M r1 hr1 v2 ex5) _ (full_C _) (full_n _ List.nodup_range) mok_yX5_item w_418 w_419 w_420 (rcv hK hP (8 + r1) (go_ro hr1) rfl rfl) ⟨Nat.le_of_ble_eq_true rfl, Nat.le_of_ble_eq_true rfl⟩ rfl hl.1 rfl (Nat.le_of_ble_eq_true rfl) dX3_soilYoungHolders_12 ⟨(Nat.le_of_ble_eq_true rfl), (Nat.le_of_ble_eq_true rfl)⟩) hP hD hS hA (fun u H locs (hP : va_P D cl (wld ga n (K 0) (K 1) M) H) (hD : va_D A (wld ga n (K 0) (K 1) M)) hS => ?_)
      refine w_tov (y := ctv ga x5) rfl ?_
      refine t_astore_n hx hb dX3_soilYoungHolders_15 rfl hl (by decide) [0, 1, 2] (lv' := [(0, .ref (ga 2)), (1, .ref (ga (8 + r1))), (2, .int (iI v2))]) rfl (⟨⟨Nat.ne_of_beq_eq_false rfl, Or.inl (Nat.ne_of_beq_eq_false rfl)⟩, ⟨⟨Nat.ne_of_beq_eq_false rfl, Or.inl (Nat.ne_of_beq_eq_false rfl)⟩, ⟨⟨Nat.ne_of_beq_eq_false rfl, Or.inr rfl⟩, trivial⟩⟩⟩) (fun ls hl => ?_)
      refine t_aload_n hx hb dX3_soilYoungHolders_16 rfl (lv_at hl 0 rfl) ?_
      rcases on_cases h with ⟨z6, h⟩ | ⟨q6, z6, h⟩
      · rw [ctv_none ga z6]
        refine lv_ifnullN (tgt := 32) hx hb dX3_soilYoungHolders_17 (by decide) ?_
        refine x_iinc (v := iI (v2 + 1)) hx hb dX3_soilYoungHolders_32 hl (k := 3) rfl (iI_add v2 1) (by decide) [0, 1, 2] (lv' := [(3, ctv ga x5), (0, .ref (ga 2)), (1, .ref (ga (8 + r1)))]) rfl (⟨⟨Nat.ne_of_beq_eq_false rfl, Or.inl (Nat.ne_of_beq_eq_false rfl)⟩, ⟨⟨Nat.ne_of_beq_eq_false rfl, Or.inl (Nat.ne_of_beq_eq_false rfl)⟩, ⟨⟨Nat.ne_of_beq_eq_false rfl, Or.inr rfl⟩, trivial⟩⟩⟩) (fun ls hl => ?_)
        refine lv_goto (tgt := 2) hx hb dX3_soilYoungHolders_35 (by decide) ?_
        exact ih M (v2 + 1) _ h _ _ _ hP hD hS (lv_pk hl [2, 3, 0] rfl) kk
      · obtain ⟨hq6, h⟩ := og_some h
        rw [ctv_some ga z6]
        refine lv_ifnull hx hb dX3_soilYoungHolders_17 ?_
        refine t_aload_n hx hb dX3_soilYoungHolders_20 rfl (lv_at hl 0 rfl) ?_
        rw [ctv_some ga z6]
        obtain ⟨x7, ex7, h⟩ := ob_some h
        refine gk_i (run_V (rest := []) hx hb hml hown hts hK hP hD hS hA hm (C_Th_hasYoungField l G D K H.size ga n M q6 hq6 ex7) _ (full_C _) (full_n _ List.nodup_range) mok_yX7_hasYoungField w_536 w_537 w_538 (rcv hK hP (25 + 2 * q6) (go_th hq6) rfl rfl) ⟨Nat.le_of_ble_eq_true rfl, Nat.le_of_ble_eq_true rfl⟩ rfl hl.1 rfl (Nat.le_of_ble_eq_true rfl) dX3_soilYoungHolders_21 ⟨(Nat.le_of_ble_eq_true rfl), (Nat.le_of_ble_eq_true rfl)⟩) hP hD hS hA (fun u H locs (hP : va_P D cl (wld ga n (K 0) (K 1) M) H) (hD : va_D A (wld ga n (K 0) (K 1) M)) hS => ?_)
        obtain ⟨g8, h⟩ := og_some h
        by_cases c9 : x7 = 0
        · replace h := it_T h c9
          refine i_if_eq_T hx hb g8 (tgt := 32) dX3_soilYoungHolders_24 (by decide) c9 ?_
          refine x_iinc (v := iI (v2 + 1)) hx hb dX3_soilYoungHolders_32 hl (k := 3) rfl (iI_add v2 1) (by decide) [0, 1, 2] (lv' := [(3, ctv ga x5), (0, .ref (ga 2)), (1, .ref (ga (8 + r1)))]) rfl (⟨⟨Nat.ne_of_beq_eq_false rfl, Or.inl (Nat.ne_of_beq_eq_false rfl)⟩, ⟨⟨Nat.ne_of_beq_eq_false rfl, Or.inl (Nat.ne_of_beq_eq_false rfl)⟩, ⟨⟨Nat.ne_of_beq_eq_false rfl, Or.inr rfl⟩, trivial⟩⟩⟩) (fun ls hl => ?_)
          refine lv_goto (tgt := 2) hx hb dX3_soilYoungHolders_35 (by decide) ?_
          exact ih M (v2 + 1) _ h _ _ _ hP hD hS (lv_pk hl [2, 3, 0] rfl) kk
        · replace h := it_F h c9
          refine i_if_eq_F hx hb g8 (tgt := 32) dX3_soilYoungHolders_24 (by decide) c9 ?_
          refine lv_aload_n hx hb dX3_soilYoungHolders_27 rfl (lv_at hl 1 rfl) ?_
          refine t_aload_n hx hb dX3_soilYoungHolders_28 rfl (lv_at hl 0 rfl) ?_
          rw [ctv_some ga z6]
          obtain ⟨x10, ex10, h⟩ := ob_some h
          refine gk_v (run_V (rest := []) hx hb hml hown hts hK hP hD hS hA hm (C_Pl_soil l G D K H.size ga n M (some q6) ex10) _ (full_C _) (full_n _ List.nodup_range) mok_yX3_soil w_540 w_542 w_p11 (rcv hK hP 2 go_2 rfl rfl) ⟨Nat.le_of_ble_eq_true rfl, Nat.le_of_ble_eq_true rfl⟩ rfl hl.1 rfl (Nat.le_of_ble_eq_true rfl) dX3_soilYoungHolders_29 ⟨(Nat.le_of_ble_eq_true rfl), (Nat.le_of_ble_eq_true rfl)⟩) hP hD hS hA (fun u H locs (hP : va_P D cl (wld ga n (K 0) (K 1) x10) H) (hD : va_D A (wld ga n (K 0) (K 1) x10)) hS => ?_)
          refine x_iinc (v := iI (v2 + 1)) hx hb dX3_soilYoungHolders_32 hl (k := 3) rfl (iI_add v2 1) (by decide) [0, 1, 2] (lv' := [(3, ctv ga x5), (0, .ref (ga 2)), (1, .ref (ga (8 + r1)))]) rfl (⟨⟨Nat.ne_of_beq_eq_false rfl, Or.inl (Nat.ne_of_beq_eq_false rfl)⟩, ⟨⟨Nat.ne_of_beq_eq_false rfl, Or.inl (Nat.ne_of_beq_eq_false rfl)⟩, ⟨⟨Nat.ne_of_beq_eq_false rfl, Or.inr rfl⟩, trivial⟩⟩⟩) (fun ls hl => ?_)
          refine lv_goto (tgt := 2) hx hb dX3_soilYoungHolders_35 (by decide) ?_
          exact ih x10 (v2 + 1) _ h _ _ _ hP hD hS (lv_pk hl [2, 3, 0] rfl) kk
    · replace h := it_F h c4
      refine i_icmp_ge_T hx hb g2 g3 (tgt := 38) dX3_soilYoungHolders_7 (by decide) c4 ?_
      obtain rfl := Option.some.inj h
      exact kk _ _ _ hP hD hS (lv_pk hl [] rfl)
def f_Pl_soilYoungHolders (n : Nat) (M : cSt) (r1 : Nat) : Option (cSt) := ob (g_Pl_soilYoungHolders_2 n r1 fu M 0) (fun x11 => some x11)
set_option maxHeartbeats 4000000 in
set_option maxRecDepth 100000 in
theorem C_Pl_soilYoungHolders (l : Launch) (G : Nat → Nat) (D : va_G) (K : Nat → ClassId) (sz : Nat) (ga : Nat → Nat) (n : Nat) (M : cSt) (r1 : Nat) (hr1 : r1 < 7) {x : cSt} (h : f_Pl_soilYoungHolders n M r1 = some x) : CM l yX3_soilYoungHolders cX3_soilYoungHolders 4 (none : Option FieldType) ({ frames := 2, cells := 0, slots := 0, locals := 42 } : Room) G D K [.ref (ga 2), .ref (ga (8 + r1))] (wld ga n (K 0) (K 1) M) sz (CQv D (fun _ => wld ga n (K 0) (K 1) x)) := by
  refine CM_of (lv0 := [(0, .ref (ga 2)), (1, .ref (ga (8 + r1)))]) pn_RX3 (Nat.le_of_ble_eq_true rfl) rfl (fun p e s m args below meth c A ls hx hb hr hml hown hts hlk hnm hP hK hD hS hA hm hl => ?_)
  have hown : s.vm.findClass RX3 = some m.cls := hown
  unfold f_Pl_soilYoungHolders at h
  refine lv_iconst (v := iI 0) hx hb dX3_soilYoungHolders_0 rfl ?_
  refine x_istore_n hx hb dX3_soilYoungHolders_1 rfl hl (by decide) [0, 1] (lv' := [(0, .ref (ga 2)), (1, .ref (ga (8 + r1)))]) rfl (⟨⟨Nat.ne_of_beq_eq_false rfl, Or.inl (Nat.ne_of_beq_eq_false rfl)⟩, ⟨⟨Nat.ne_of_beq_eq_false rfl, Or.inr rfl⟩, trivial⟩⟩) (fun ls hl => ?_)
  obtain ⟨x11, ex11, h⟩ := ob_some h
  refine L_Pl_soilYoungHolders_2 hx hb hr hml hown hts hlk hK hA hm ga n r1 hr1  fu M 0 _ ex11 _ _ _ hP hD hS (lv_pk hl [1, 2, 0] rfl) (fun ls H locs (hP : va_P D cl (wld ga n (K 0) (K 1) x11) H) (hD : va_D A (wld ga n (K 0) (K 1) x11)) hS (hl : lv_has ls 4 []) => ?_)
  obtain rfl := Option.some.inj h
  exact e_v hx hb hr hlk hP hD hS (fun _ => 0) rfl (Nat.le_of_ble_eq_true rfl) (Nat.le_of_ble_eq_true rfl) dX3_soilYoungHolders_38
def s_Pl_renewCards_2 (rec : cSt → Int → Option (cSt)) (n : Nat)  (M : cSt) (v1 : Int) : Option (cSt) := og (inR v1) (if v1 < 20 then og (0 ≤ v1 ∧ v1 < 20) (rec (sZ M (v1.toNat) 0) (v1 + 1)) else some M)
def g_Pl_renewCards_2 (n : Nat)  : Nat → cSt → Int → Option (cSt)
  | 0 => fun _ _ => none
  | q + 1 => s_Pl_renewCards_2 (g_Pl_renewCards_2 n  q) n 
set_option maxHeartbeats 4000000 in
set_option maxRecDepth 100000 in
theorem L_Pl_renewCards_2 {p : Program} {l : Launch} {G : Nat → Nat} {D : va_G} {K : Nat → ClassId} {e : Env} {s : State} {m : MethodId} {args : Array Value} {below : List Frame} {meth : Method} {c : Code} {A : Nat → Prop} (hx : p.tables.exec = Jvm.exec) (hb : c.code = cX3_renewCards) (hr : meth.sig.returnType = (none : Option FieldType)) (hml : c.maxLocals = 2) (hown : s.vm.findClass RX3 = some m.cls) (hts : ∀ w ∈ lw_gw, w.before args s = true) (hlk : meth.locks = false) (hK : va_K D cl (tys K) s) (hA : ∀ q : Nat, s.heap.size ≤ q → A q) (hm : Amb G A s s.heap) {Q : State → Prop} (ga : Nat → Nat) (n : Nat)  : ∀ (q : Nat) (M : cSt) (v1 : Int) (out : cSt), g_Pl_renewCards_2 n  q M v1 = some out → ∀ (ls : Array Slot) (H : Heap) (locs : List Loc), va_P D cl (wld ga n (K 0) (K 1) M) H → va_D A (wld ga n (K 0) (K 1) M) → va_S A s.heap H locs → lv_has ls 2 [(0, .ref (ga 2)), (1, .int (iI v1))] → (∀ (ls : Array Slot) (H : Heap) (locs : List Loc), va_P D cl (wld ga n (K 0) (K 1) out) H → va_D A (wld ga n (K 0) (K 1) out) → va_S A s.heap H locs → lv_has ls 2 [(0, .ref (ga 2))] → W p l e ({ frames := 3, cells := 0, slots := 0, locals := 65 } : Room) s m args below meth c H locs 0 0 Q (F0 m 24 ls [])) → W p l e ({ frames := 3, cells := 0, slots := 0, locals := 65 } : Room) s m args below meth c H locs 0 0 Q (F0 m 2 ls []) := by
  intro q
  induction q with
  | zero =>
    intro M v1 out h
    cases (show none = some out from h)
  | succ q ih =>
    intro M v1 out h ls H locs hP hD hS hl kk
    replace h : s_Pl_renewCards_2 (g_Pl_renewCards_2 n  q) n  M v1 = some out := h
    unfold s_Pl_renewCards_2 at h
    refine lv_iload_n hx hb dX3_renewCards_2 rfl (lv_at hl 1 rfl) ?_
    refine lv_aload_n hx hb dX3_renewCards_3 rfl (lv_at hl 0 rfl) ?_
    refine r_get hx hb hts ok_RX3 hown hK hP 2 go_2 rfl 7 (by decide) w_91 (fun _ h9 => h9) rfl dX3_renewCards_4 ?_
    refine i_alen hx hb 24 1 hK hP go_24 rfl rfl (Nat.le_of_ble_eq_true rfl) dX3_renewCards_7 ?_
    refine w_toeq (show iI ((20 : Nat) : Int) = iI 20 from rfl) ?_
    obtain ⟨g1, h⟩ := og_some h
    by_cases c2 : v1 < 20
    · replace h := it_T h c2
      refine i_icmp_ge_F hx hb g1 ⟨by decide, by decide⟩ (tgt := 24) dX3_renewCards_8 (by decide) c2 ?_
      refine lv_aload_n hx hb dX3_renewCards_11 rfl (lv_at hl 0 rfl) ?_
      refine r_get hx hb hts ok_RX3 hown hK hP 2 go_2 rfl 7 (by decide) w_91 (fun _ h9 => h9) rfl dX3_renewCards_12 ?_
      refine lv_iload_n hx hb dX3_renewCards_15 rfl (lv_at hl 1 rfl) ?_
      refine lv_iconst (v := iI 0) hx hb dX3_renewCards_16 rfl ?_
      obtain ⟨g3, h⟩ := og_some h
      refine i_zast hx hb 24 1 (ws' := wld ga n (K 0) (K 1) (sZ M (v1.toNat) 0)) hK hP hD hS go_24 rfl g3.1 g3.2 (Nat.le_of_ble_eq_true rfl) (Or.inl rfl) dX3_renewCards_17 wZ (fun H locs hP hD hS => ?_)
      refine x_iinc (v := iI (v1 + 1)) hx hb dX3_renewCards_18 hl (k := 1) rfl (iI_add v1 1) (by decide) [0] (lv' := [(0, .ref (ga 2))]) rfl (⟨⟨Nat.ne_of_beq_eq_false rfl, Or.inr rfl⟩, trivial⟩) (fun ls hl => ?_)
      refine lv_goto (tgt := 2) hx hb dX3_renewCards_21 (by decide) ?_
      exact ih (sZ M (v1.toNat) 0) (v1 + 1) _ h _ _ _ hP hD hS (lv_pk hl [1, 0] rfl) kk
    · replace h := it_F h c2
      refine i_icmp_ge_T hx hb g1 ⟨by decide, by decide⟩ (tgt := 24) dX3_renewCards_8 (by decide) c2 ?_
      obtain rfl := Option.some.inj h
      exact kk _ _ _ hP hD hS (lv_pk hl [0] rfl)
def f_Pl_renewCards (n : Nat) (M : cSt)  : Option (cSt) := ob (g_Pl_renewCards_2 n  fu M 0) (fun x4 => ob (f_Pl_soilYoungHolders n x4 3) (fun x5 => ob (f_Pl_soilYoungHolders n x5 4) (fun x6 => some x6)))
set_option maxHeartbeats 4000000 in
set_option maxRecDepth 100000 in
theorem C_Pl_renewCards (l : Launch) (G : Nat → Nat) (D : va_G) (K : Nat → ClassId) (sz : Nat) (ga : Nat → Nat) (n : Nat) (M : cSt)  {x : cSt} (h : f_Pl_renewCards n M  = some x) : CM l yX3_renewCards cX3_renewCards 2 (none : Option FieldType) ({ frames := 3, cells := 0, slots := 0, locals := 65 } : Room) G D K [.ref (ga 2)] (wld ga n (K 0) (K 1) M) sz (CQv D (fun _ => wld ga n (K 0) (K 1) x)) := by
  refine CM_of (lv0 := [(0, .ref (ga 2))]) pn_RX3 (Nat.le_of_ble_eq_true rfl) rfl (fun p e s m args below meth c A ls hx hb hr hml hown hts hlk hnm hP hK hD hS hA hm hl => ?_)
  have hown : s.vm.findClass RX3 = some m.cls := hown
  unfold f_Pl_renewCards at h
  refine lv_iconst (v := iI 0) hx hb dX3_renewCards_0 rfl ?_
  refine x_istore_n hx hb dX3_renewCards_1 rfl hl (by decide) [0] (lv' := [(0, .ref (ga 2))]) rfl (⟨⟨Nat.ne_of_beq_eq_false rfl, Or.inr rfl⟩, trivial⟩) (fun ls hl => ?_)
  obtain ⟨x4, ex4, h⟩ := ob_some h
  refine L_Pl_renewCards_2 hx hb hr hml hown hts hlk hK hA hm ga n   fu M 0 _ ex4 _ _ _ hP hD hS (lv_pk hl [1, 0] rfl) (fun ls H locs (hP : va_P D cl (wld ga n (K 0) (K 1) x4) H) (hD : va_D A (wld ga n (K 0) (K 1) x4)) hS (hl : lv_has ls 2 [(0, .ref (ga 2))]) => ?_)
  refine lv_aload_n hx hb dX3_renewCards_24 rfl (lv_at hl 0 rfl) ?_
  refine lv_aload_n hx hb dX3_renewCards_25 rfl (lv_at hl 0 rfl) ?_
  refine r_get hx hb hts ok_RX3 hown hK hP 2 go_2 rfl 1 (by decide) w_76 (fun _ h9 => h9) rfl dX3_renewCards_26 ?_
  obtain ⟨x5, ex5, h⟩ := ob_some h
  refine gk_v (run_V (rest := []) hx hb hml hown hts hK hP hD hS hA hm (C_Pl_soilYoungHolders l G D K H.size ga n x4 3 (by decide) ex5) _ (full_C _) (full_n _ List.nodup_range) mok_yX3_soilYoungHolders w_532 w_534 w_p10 (rcv hK hP 2 go_2 rfl rfl) ⟨Nat.le_of_ble_eq_true rfl, Nat.le_of_ble_eq_true rfl⟩ rfl hl.1 rfl (Nat.le_of_ble_eq_true rfl) dX3_renewCards_29 ⟨(Nat.le_of_ble_eq_true rfl), (Nat.le_of_ble_eq_true rfl)⟩) hP hD hS hA (fun u H locs (hP : va_P D cl (wld ga n (K 0) (K 1) x5) H) (hD : va_D A (wld ga n (K 0) (K 1) x5)) hS => ?_)
  refine lv_aload_n hx hb dX3_renewCards_32 rfl (lv_at hl 0 rfl) ?_
  refine lv_aload_n hx hb dX3_renewCards_33 rfl (lv_at hl 0 rfl) ?_
  refine r_get hx hb hts ok_RX3 hown hK hP 2 go_2 rfl 2 (by decide) w_78 (fun _ h9 => h9) rfl dX3_renewCards_34 ?_
  obtain ⟨x6, ex6, h⟩ := ob_some h
  refine gk_v (run_V (rest := []) hx hb hml hown hts hK hP hD hS hA hm (C_Pl_soilYoungHolders l G D K H.size ga n x5 4 (by decide) ex6) _ (full_C _) (full_n _ List.nodup_range) mok_yX3_soilYoungHolders w_532 w_534 w_p10 (rcv hK hP 2 go_2 rfl rfl) ⟨Nat.le_of_ble_eq_true rfl, Nat.le_of_ble_eq_true rfl⟩ rfl hl.1 rfl (Nat.le_of_ble_eq_true rfl) dX3_renewCards_37 ⟨(Nat.le_of_ble_eq_true rfl), (Nat.le_of_ble_eq_true rfl)⟩) hP hD hS hA (fun u H locs (hP : va_P D cl (wld ga n (K 0) (K 1) x6) H) (hD : va_D A (wld ga n (K 0) (K 1) x6)) hS => ?_)
  obtain rfl := Option.some.inj h
  exact e_v hx hb hr hlk hP hD hS (fun _ => 0) rfl (Nat.le_of_ble_eq_true rfl) (Nat.le_of_ble_eq_true rfl) dX3_renewCards_40
def f_Pl_noteWritten (n : Nat) (M : cSt) (t1 : Option Nat) (t2 : Option Nat) : Option (cSt) := on t1 none (fun q1 => og (q1 < n) (og (inR (gT M q1 3)) (if gT M q1 3 = 1 then some M else on t2 (some M) (fun q4 => og (q4 < n) (og (inR (gT M q4 3)) (if gT M q4 3 = 1 then ob (f_Pl_soil n M (some q1)) (fun x7 => some x7) else some M))))))
set_option maxHeartbeats 4000000 in
set_option maxRecDepth 100000 in
theorem C_Pl_noteWritten (l : Launch) (G : Nat → Nat) (D : va_G) (K : Nat → ClassId) (sz : Nat) (ga : Nat → Nat) (n : Nat) (M : cSt) (t1 : Option Nat) (t2 : Option Nat) {x : cSt} (h : f_Pl_noteWritten n M t1 t2 = some x) : CM l yX3_noteWritten cX3_noteWritten 3 (none : Option FieldType) ({ frames := 2, cells := 0, slots := 0, locals := 42 } : Room) G D K [.ref (ga 2), ctv ga t1, ctv ga t2] (wld ga n (K 0) (K 1) M) sz (CQv D (fun _ => wld ga n (K 0) (K 1) x)) := by
  refine CM_of (lv0 := [(0, .ref (ga 2)), (1, ctv ga t1), (2, ctv ga t2)]) pn_RX3 (by cases t1 <;> cases t2 <;> exact (Nat.le_of_ble_eq_true rfl)) (by cases t1 <;> cases t2 <;> rfl) (fun p e s m args below meth c A ls hx hb hr hml hown hts hlk hnm hP hK hD hS hA hm hl => ?_)
  have hown : s.vm.findClass RX3 = some m.cls := hown
  unfold f_Pl_noteWritten at h
  refine t_aload_n hx hb dX3_noteWritten_0 rfl (lv_at hl 1 rfl) ?_
  rcases on_cases h with ⟨z1, h⟩ | ⟨q1, z1, h⟩
  · cases h
  · obtain ⟨hq1, h⟩ := og_some h
    rw [ctv_some ga z1]
    refine r_get hx hb hts ok_RX7 hown hK hP (25 + 2 * q1) (go_th hq1) rfl 3 (by decide) w_693 (fun _ h9 => h9) rfl dX3_noteWritten_1 ?_
    refine lv_iconst (v := iI 1) hx hb dX3_noteWritten_4 rfl ?_
    obtain ⟨g2, h⟩ := og_some h
    by_cases c3 : gT M q1 3 = 1
    · replace h := it_T h c3
      refine i_icmp_eq_T hx hb g2 ⟨by decide, by decide⟩ (tgt := 25) dX3_noteWritten_5 (by decide) c3 ?_
      obtain rfl := Option.some.inj h
      exact e_v hx hb hr hlk hP hD hS (fun _ => 0) rfl (Nat.le_of_ble_eq_true rfl) (Nat.le_of_ble_eq_true rfl) dX3_noteWritten_25
    · replace h := it_F h c3
      refine i_icmp_eq_F hx hb g2 ⟨by decide, by decide⟩ (tgt := 25) dX3_noteWritten_5 (by decide) c3 ?_
      refine t_aload_n hx hb dX3_noteWritten_8 rfl (lv_at hl 2 rfl) ?_
      rcases on_cases h with ⟨z4, h⟩ | ⟨q4, z4, h⟩
      · rw [ctv_none ga z4]
        refine lv_ifnullN (tgt := 25) hx hb dX3_noteWritten_9 (by decide) ?_
        obtain rfl := Option.some.inj h
        exact e_v hx hb hr hlk hP hD hS (fun _ => 0) rfl (Nat.le_of_ble_eq_true rfl) (Nat.le_of_ble_eq_true rfl) dX3_noteWritten_25
      · obtain ⟨hq4, h⟩ := og_some h
        rw [ctv_some ga z4]
        refine lv_ifnull hx hb dX3_noteWritten_9 ?_
        refine t_aload_n hx hb dX3_noteWritten_12 rfl (lv_at hl 2 rfl) ?_
        rw [ctv_some ga z4]
        refine r_get hx hb hts ok_RX7 hown hK hP (25 + 2 * q4) (go_th hq4) rfl 3 (by decide) w_693 (fun _ h9 => h9) rfl dX3_noteWritten_13 ?_
        refine lv_iconst (v := iI 1) hx hb dX3_noteWritten_16 rfl ?_
        obtain ⟨g5, h⟩ := og_some h
        by_cases c6 : gT M q4 3 = 1
        · replace h := it_T h c6
          refine i_icmp_ne_F hx hb g5 ⟨by decide, by decide⟩ (tgt := 25) dX3_noteWritten_17 (by decide) c6 ?_
          refine lv_aload_n hx hb dX3_noteWritten_20 rfl (lv_at hl 0 rfl) ?_
          refine t_aload_n hx hb dX3_noteWritten_21 rfl (lv_at hl 1 rfl) ?_
          rw [ctv_some ga z1]
          obtain ⟨x7, ex7, h⟩ := ob_some h
          refine gk_v (run_V (rest := []) hx hb hml hown hts hK hP hD hS hA hm (C_Pl_soil l G D K s.heap.size ga n M (some q1) ex7) _ (full_C _) (full_n _ List.nodup_range) mok_yX3_soil w_540 w_542 w_p11 (rcv hK hP 2 go_2 rfl rfl) ⟨Nat.le_of_ble_eq_true rfl, Nat.le_of_ble_eq_true rfl⟩ rfl hl.1 rfl (Nat.le_of_ble_eq_true rfl) dX3_noteWritten_22 ⟨(Nat.le_of_ble_eq_true rfl), (Nat.le_of_ble_eq_true rfl)⟩) hP hD hS hA (fun u H locs (hP : va_P D cl (wld ga n (K 0) (K 1) x7) H) (hD : va_D A (wld ga n (K 0) (K 1) x7)) hS => ?_)
          obtain rfl := Option.some.inj h
          exact e_v hx hb hr hlk hP hD hS (fun _ => 0) rfl (Nat.le_of_ble_eq_true rfl) (Nat.le_of_ble_eq_true rfl) dX3_noteWritten_25
        · replace h := it_F h c6
          refine i_icmp_ne_T hx hb g5 ⟨by decide, by decide⟩ (tgt := 25) dX3_noteWritten_17 (by decide) c6 ?_
          obtain rfl := Option.some.inj h
          exact e_v hx hb hr hlk hP hD hS (fun _ => 0) rfl (Nat.le_of_ble_eq_true rfl) (Nat.le_of_ble_eq_true rfl) dX3_noteWritten_25
def f_Pl_isCardDirty (n : Nat) (M : cSt) (a1 : Int) : Option (Int) := og (inR a1) (if a1 < 0 then some 0 else if a1 < 20 then og (0 ≤ a1 ∧ a1 < 20) (og (inR (gZ M (a1.toNat))) (if gZ M (a1.toNat) = 0 then some 0 else some 1)) else some 0)
set_option maxHeartbeats 4000000 in
set_option maxRecDepth 100000 in
theorem C_Pl_isCardDirty (l : Launch) (G : Nat → Nat) (D : va_G) (K : Nat → ClassId) (sz : Nat) (ga : Nat → Nat) (n : Nat) (M : cSt) (a1 : Int) {x : Int} (h : f_Pl_isCardDirty n M a1 = some x) : CM l yX3_isCardDirty cX3_isCardDirty 2 (some FieldType.boolean) ({ frames := 0, cells := 0, slots := 0, locals := 0 } : Room) G D K [.ref (ga 2), .int (iI a1)] (wld ga n (K 0) (K 1) M) sz (CQi (iI x) D (fun _ => wld ga n (K 0) (K 1) M)) := by
  refine CM_of (lv0 := [(0, .ref (ga 2)), (1, .int (iI a1))]) pn_RX3 (Nat.le_of_ble_eq_true rfl) rfl (fun p e s m args below meth c A ls hx hb hr hml hown hts hlk hnm hP hK hD hS hA hm hl => ?_)
  have hown : s.vm.findClass RX3 = some m.cls := hown
  unfold f_Pl_isCardDirty at h
  refine lv_iload_n hx hb dX3_isCardDirty_0 rfl (lv_at hl 1 rfl) ?_
  obtain ⟨g1, h⟩ := og_some h
  by_cases c2 : a1 < 0
  · replace h := it_T h c2
    refine i_if_lt_T hx hb g1 (tgt := 26) dX3_isCardDirty_1 (by decide) c2 ?_
    refine lv_iconst (v := iI 0) hx hb dX3_isCardDirty_26 rfl ?_
    obtain rfl := Option.some.inj h
    exact e_z hx hb hr hlk hP hD hS (fun _ => 0) rfl (Nat.le_of_ble_eq_true rfl) (Nat.le_of_ble_eq_true rfl) rfl (b01 (Or.inl rfl)) dX3_isCardDirty_27
  · replace h := it_F h c2
    refine i_if_lt_F hx hb g1 (tgt := 26) dX3_isCardDirty_1 (by decide) c2 ?_
    refine lv_iload_n hx hb dX3_isCardDirty_4 rfl (lv_at hl 1 rfl) ?_
    refine lv_aload_n hx hb dX3_isCardDirty_5 rfl (lv_at hl 0 rfl) ?_
    refine r_get hx hb hts ok_RX3 hown hK hP 2 go_2 rfl 7 (by decide) w_91 (fun _ h9 => h9) rfl dX3_isCardDirty_6 ?_
    refine i_alen hx hb 24 1 hK hP go_24 rfl rfl (Nat.le_of_ble_eq_true rfl) dX3_isCardDirty_9 ?_
    refine w_toeq (show iI ((20 : Nat) : Int) = iI 20 from rfl) ?_
    by_cases c3 : a1 < 20
    · replace h := it_T h c3
      refine i_icmp_ge_F hx hb g1 ⟨by decide, by decide⟩ (tgt := 26) dX3_isCardDirty_10 (by decide) c3 ?_
      refine lv_aload_n hx hb dX3_isCardDirty_13 rfl (lv_at hl 0 rfl) ?_
      refine r_get hx hb hts ok_RX3 hown hK hP 2 go_2 rfl 7 (by decide) w_91 (fun _ h9 => h9) rfl dX3_isCardDirty_14 ?_
      refine lv_iload_n hx hb dX3_isCardDirty_17 rfl (lv_at hl 1 rfl) ?_
      obtain ⟨g4, h⟩ := og_some h
      refine i_zald hx hb 24 1 hK hP go_24 rfl g4.1 g4.2 (Nat.le_of_ble_eq_true rfl) (v := iI (gZ M (a1.toNat))) rfl dX3_isCardDirty_18 ?_
      obtain ⟨g5, h⟩ := og_some h
      by_cases c6 : gZ M (a1.toNat) = 0
      · replace h := it_T h c6
        refine i_if_eq_T hx hb g5 (tgt := 26) dX3_isCardDirty_19 (by decide) c6 ?_
        refine lv_iconst (v := iI 0) hx hb dX3_isCardDirty_26 rfl ?_
        obtain rfl := Option.some.inj h
        exact e_z hx hb hr hlk hP hD hS (fun _ => 0) rfl (Nat.le_of_ble_eq_true rfl) (Nat.le_of_ble_eq_true rfl) rfl (b01 (Or.inl rfl)) dX3_isCardDirty_27
      · replace h := it_F h c6
        refine i_if_eq_F hx hb g5 (tgt := 26) dX3_isCardDirty_19 (by decide) c6 ?_
        refine lv_iconst (v := iI 1) hx hb dX3_isCardDirty_22 rfl ?_
        refine lv_goto (tgt := 27) hx hb dX3_isCardDirty_23 (by decide) ?_
        obtain rfl := Option.some.inj h
        exact e_z hx hb hr hlk hP hD hS (fun _ => 0) rfl (Nat.le_of_ble_eq_true rfl) (Nat.le_of_ble_eq_true rfl) rfl (b01 (Or.inr rfl)) dX3_isCardDirty_27
    · replace h := it_F h c3
      refine i_icmp_ge_T hx hb g1 ⟨by decide, by decide⟩ (tgt := 26) dX3_isCardDirty_10 (by decide) c3 ?_
      refine lv_iconst (v := iI 0) hx hb dX3_isCardDirty_26 rfl ?_
      obtain rfl := Option.some.inj h
      exact e_z hx hb hr hlk hP hD hS (fun _ => 0) rfl (Nat.le_of_ble_eq_true rfl) (Nat.le_of_ble_eq_true rfl) rfl (b01 (Or.inl rfl)) dX3_isCardDirty_27
def s_Pl_dirtyCards_4 (rec : Int → Int → Option (Int)) (n : Nat) (M : cSt)  (v1 : Int) (v2 : Int) : Option (Int) := og (inR v2) (if v2 < 20 then og (0 ≤ v2 ∧ v2 < 20) (og (inR (gZ M (v2.toNat))) (if gZ M (v2.toNat) = 0 then rec v1 (v2 + 1) else rec (v1 + 1) (v2 + 1))) else some v1)
def g_Pl_dirtyCards_4 (n : Nat) (M : cSt)  : Nat → Int → Int → Option (Int)
  | 0 => fun _ _ => none
  | q + 1 => s_Pl_dirtyCards_4 (g_Pl_dirtyCards_4 n M  q) n M 
set_option maxHeartbeats 4000000 in
set_option maxRecDepth 100000 in
theorem L_Pl_dirtyCards_4 {p : Program} {l : Launch} {G : Nat → Nat} {D : va_G} {K : Nat → ClassId} {e : Env} {s : State} {m : MethodId} {args : Array Value} {below : List Frame} {meth : Method} {c : Code} {A : Nat → Prop} (hx : p.tables.exec = Jvm.exec) (hb : c.code = cX3_dirtyCards) (hr : meth.sig.returnType = (some FieldType.int)) (hml : c.maxLocals = 3) (hown : s.vm.findClass RX3 = some m.cls) (hts : ∀ w ∈ lw_gw, w.before args s = true) (hlk : meth.locks = false) (hK : va_K D cl (tys K) s) (hA : ∀ q : Nat, s.heap.size ≤ q → A q) (hm : Amb G A s s.heap) {Q : State → Prop} (ga : Nat → Nat) (n : Nat) (M : cSt)  : ∀ (q : Nat) (v1 : Int) (v2 : Int) (out : Int), g_Pl_dirtyCards_4 n M  q v1 v2 = some out → ∀ (ls : Array Slot) (H : Heap) (locs : List Loc), va_P D cl (wld ga n (K 0) (K 1) M) H → va_D A (wld ga n (K 0) (K 1) M) → va_S A s.heap H locs → lv_has ls 3 [(0, .ref (ga 2)), (1, .int (iI v1)), (2, .int (iI v2))] → (∀ (ls : Array Slot) (H : Heap) (locs : List Loc), va_P D cl (wld ga n (K 0) (K 1) M) H → va_D A (wld ga n (K 0) (K 1) M) → va_S A s.heap H locs → lv_has ls 3 [(1, .int (iI out))] → W p l e ({ frames := 0, cells := 0, slots := 0, locals := 0 } : Room) s m args below meth c H locs 0 0 Q (F0 m 31 ls [])) → W p l e ({ frames := 0, cells := 0, slots := 0, locals := 0 } : Room) s m args below meth c H locs 0 0 Q (F0 m 4 ls []) := by
  intro q
  induction q with
  | zero =>
    intro v1 v2 out h
    cases (show none = some out from h)
  | succ q ih =>
    intro v1 v2 out h ls H locs hP hD hS hl kk
    replace h : s_Pl_dirtyCards_4 (g_Pl_dirtyCards_4 n M  q) n M  v1 v2 = some out := h
    unfold s_Pl_dirtyCards_4 at h
    refine lv_iload_n hx hb dX3_dirtyCards_4 rfl (lv_at hl 2 rfl) ?_
    refine lv_aload_n hx hb dX3_dirtyCards_5 rfl (lv_at hl 0 rfl) ?_
    refine r_get hx hb hts ok_RX3 hown hK hP 2 go_2 rfl 7 (by decide) w_91 (fun _ h9 => h9) rfl dX3_dirtyCards_6 ?_
    refine i_alen hx hb 24 1 hK hP go_24 rfl rfl (Nat.le_of_ble_eq_true rfl) dX3_dirtyCards_9 ?_
    refine w_toeq (show iI ((20 : Nat) : Int) = iI 20 from rfl) ?_
    obtain ⟨g1, h⟩ := og_some h
    by_cases c2 : v2 < 20
    · replace h := it_T h c2
      refine i_icmp_ge_F hx hb g1 ⟨by decide, by decide⟩ (tgt := 31) dX3_dirtyCards_10 (by decide) c2 ?_
      refine lv_aload_n hx hb dX3_dirtyCards_13 rfl (lv_at hl 0 rfl) ?_
      refine r_get hx hb hts ok_RX3 hown hK hP 2 go_2 rfl 7 (by decide) w_91 (fun _ h9 => h9) rfl dX3_dirtyCards_14 ?_
      refine lv_iload_n hx hb dX3_dirtyCards_17 rfl (lv_at hl 2 rfl) ?_
      obtain ⟨g3, h⟩ := og_some h
      refine i_zald hx hb 24 1 hK hP go_24 rfl g3.1 g3.2 (Nat.le_of_ble_eq_true rfl) (v := iI (gZ M (v2.toNat))) rfl dX3_dirtyCards_18 ?_
      obtain ⟨g4, h⟩ := og_some h
      by_cases c5 : gZ M (v2.toNat) = 0
      · replace h := it_T h c5
        refine i_if_eq_T hx hb g4 (tgt := 25) dX3_dirtyCards_19 (by decide) c5 ?_
        refine x_iinc (v := iI (v2 + 1)) hx hb dX3_dirtyCards_25 hl (k := 2) rfl (iI_add v2 1) (by decide) [0, 1] (lv' := [(0, .ref (ga 2)), (1, .int (iI v1))]) rfl (⟨⟨Nat.ne_of_beq_eq_false rfl, Or.inl (Nat.ne_of_beq_eq_false rfl)⟩, ⟨⟨Nat.ne_of_beq_eq_false rfl, Or.inr rfl⟩, trivial⟩⟩) (fun ls hl => ?_)
        refine lv_goto (tgt := 4) hx hb dX3_dirtyCards_28 (by decide) ?_
        exact ih v1 (v2 + 1) _ h _ _ _ hP hD hS (lv_pk hl [1, 2, 0] rfl) kk
      · replace h := it_F h c5
        refine i_if_eq_F hx hb g4 (tgt := 25) dX3_dirtyCards_19 (by decide) c5 ?_
        refine x_iinc (v := iI (v1 + 1)) hx hb dX3_dirtyCards_22 hl (k := 1) rfl (iI_add v1 1) (by decide) [0, 2] (lv' := [(0, .ref (ga 2)), (2, .int (iI v2))]) rfl (⟨⟨Nat.ne_of_beq_eq_false rfl, Or.inr rfl⟩, ⟨⟨Nat.ne_of_beq_eq_false rfl, Or.inl (Nat.ne_of_beq_eq_false rfl)⟩, trivial⟩⟩) (fun ls hl => ?_)
        refine x_iinc (v := iI (v2 + 1)) hx hb dX3_dirtyCards_25 hl (k := 2) rfl (iI_add v2 1) (by decide) [0, 1] (lv' := [(1, .int (iI (v1 + 1))), (0, .ref (ga 2))]) rfl (⟨⟨Nat.ne_of_beq_eq_false rfl, Or.inr rfl⟩, ⟨⟨Nat.ne_of_beq_eq_false rfl, Or.inl (Nat.ne_of_beq_eq_false rfl)⟩, trivial⟩⟩) (fun ls hl => ?_)
        refine lv_goto (tgt := 4) hx hb dX3_dirtyCards_28 (by decide) ?_
        exact ih (v1 + 1) (v2 + 1) _ h _ _ _ hP hD hS (lv_pk hl [2, 1, 0] rfl) kk
    · replace h := it_F h c2
      refine i_icmp_ge_T hx hb g1 ⟨by decide, by decide⟩ (tgt := 31) dX3_dirtyCards_10 (by decide) c2 ?_
      obtain rfl := Option.some.inj h
      exact kk _ _ _ hP hD hS (lv_pk hl [1] rfl)
def f_Pl_dirtyCards (n : Nat) (M : cSt)  : Option (Int) := ob (g_Pl_dirtyCards_4 n M fu 0 0) (fun x6 => some x6)
set_option maxHeartbeats 4000000 in
set_option maxRecDepth 100000 in
theorem C_Pl_dirtyCards (l : Launch) (G : Nat → Nat) (D : va_G) (K : Nat → ClassId) (sz : Nat) (ga : Nat → Nat) (n : Nat) (M : cSt)  {x : Int} (h : f_Pl_dirtyCards n M  = some x) : CM l yX3_dirtyCards cX3_dirtyCards 3 (some FieldType.int) ({ frames := 0, cells := 0, slots := 0, locals := 0 } : Room) G D K [.ref (ga 2)] (wld ga n (K 0) (K 1) M) sz (CQi (iI x) D (fun _ => wld ga n (K 0) (K 1) M)) := by
  refine CM_of (lv0 := [(0, .ref (ga 2))]) pn_RX3 (Nat.le_of_ble_eq_true rfl) rfl (fun p e s m args below meth c A ls hx hb hr hml hown hts hlk hnm hP hK hD hS hA hm hl => ?_)
  have hown : s.vm.findClass RX3 = some m.cls := hown
  unfold f_Pl_dirtyCards at h
  refine lv_iconst (v := iI 0) hx hb dX3_dirtyCards_0 rfl ?_
  refine x_istore_n hx hb dX3_dirtyCards_1 rfl hl (by decide) [0] (lv' := [(0, .ref (ga 2))]) rfl (⟨⟨Nat.ne_of_beq_eq_false rfl, Or.inr rfl⟩, trivial⟩) (fun ls hl => ?_)
  refine lv_iconst (v := iI 0) hx hb dX3_dirtyCards_2 rfl ?_
  refine x_istore_n hx hb dX3_dirtyCards_3 rfl hl (by decide) [0, 1] (lv' := [(1, .int (iI 0)), (0, .ref (ga 2))]) rfl (⟨⟨Nat.ne_of_beq_eq_false rfl, Or.inr rfl⟩, ⟨⟨Nat.ne_of_beq_eq_false rfl, Or.inl (Nat.ne_of_beq_eq_false rfl)⟩, trivial⟩⟩) (fun ls hl => ?_)
  obtain ⟨x6, ex6, h⟩ := ob_some h
  refine L_Pl_dirtyCards_4 hx hb hr hml hown hts hlk hK hA hm ga n M  fu 0 0 _ ex6 _ _ _ hP hD hS (lv_pk hl [2, 1, 0] rfl) (fun ls H locs (hP : va_P D cl (wld ga n (K 0) (K 1) M) H) (hD : va_D A (wld ga n (K 0) (K 1) M)) hS (hl : lv_has ls 3 [(1, .int (iI x6))]) => ?_)
  refine lv_iload_n hx hb dX3_dirtyCards_31 rfl (lv_at hl 0 rfl) ?_
  obtain rfl := Option.some.inj h
  exact e_i hx hb hr hlk hP hD hS (fun _ => 0) rfl (Nat.le_of_ble_eq_true rfl) (Nat.le_of_ble_eq_true rfl) rfl dX3_dirtyCards_32
