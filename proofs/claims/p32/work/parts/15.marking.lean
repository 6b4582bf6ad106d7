/-! METHODS as functions, with their contracts, written by wip/p32/sx2.py -/
def f_Mk_isOn (n : Nat) (M : cSt)  : Option (Int) := og (gI M 17 = 0 ∨ gI M 17 = 1) (some (gI M 17))
set_option maxHeartbeats 4000000 in
set_option maxRecDepth 100000 in
theorem C_Mk_isOn (l : Launch) (G : Nat → Nat) (D : va_G) (K : Nat → ClassId) (sz : Nat) (ga : Nat → Nat) (n : Nat) (M : cSt)  {x : Int} (h : f_Mk_isOn n M  = some x) : CM l yX1_isOn cX1_isOn 1 (some FieldType.boolean) ({ frames := 0, cells := 0, slots := 0, locals := 0 } : Room) G D K [.ref (ga 4)] (wld ga n (K 0) (K 1) M) sz (CQi (iI x) D (fun _ => wld ga n (K 0) (K 1) M)) := by
  refine CM_of (lv0 := [(0, .ref (ga 4))]) pn_RX1 (Nat.le_of_ble_eq_true rfl) rfl (fun p e s m args below meth c A ls hx hb hr hml hown hts hlk hnm hP hK hD hS hA hm hl => ?_)
  have hown : s.vm.findClass RX1 = some m.cls := hown
  unfold f_Mk_isOn at h
  refine lv_aload_n hx hb dX1_isOn_0 rfl (lv_at hl 0 rfl) ?_
  refine r_get hx hb hts ok_RX1 hown hK hP 4 go_4 rfl 2 (by decide) w_141 (fun _ h9 => h9) rfl dX1_isOn_1 ?_
  obtain ⟨g1, h⟩ := og_some h
  obtain rfl := Option.some.inj h
  exact e_z hx hb hr hlk hP hD hS (fun _ => 0) rfl (Nat.le_of_ble_eq_true rfl) (Nat.le_of_ble_eq_true rfl) rfl (b01 g1) dX1_isOn_4
def f_Mk_end (n : Nat) (M : cSt)  : Option (cSt) := some (sI M 17 0)
set_option maxHeartbeats 4000000 in
set_option maxRecDepth 100000 in
theorem C_Mk_end (l : Launch) (G : Nat → Nat) (D : va_G) (K : Nat → ClassId) (sz : Nat) (ga : Nat → Nat) (n : Nat) (M : cSt)  {x : cSt} (h : f_Mk_end n M  = some x) : CM l yX1_end cX1_end 1 (none : Option FieldType) ({ frames := 0, cells := 0, slots := 0, locals := 0 } : Room) G D K [.ref (ga 4)] (wld ga n (K 0) (K 1) M) sz (CQv D (fun _ => wld ga n (K 0) (K 1) x)) := by
  refine CM_of (lv0 := [(0, .ref (ga 4))]) pn_RX1 (Nat.le_of_ble_eq_true rfl) rfl (fun p e s m args below meth c A ls hx hb hr hml hown hts hlk hnm hP hK hD hS hA hm hl => ?_)
  have hown : s.vm.findClass RX1 = some m.cls := hown
  unfold f_Mk_end at h
  refine lv_aload_n hx hb dX1_end_0 rfl (lv_at hl 0 rfl) ?_
  refine lv_iconst (v := iI 0) hx hb dX1_end_1 rfl ?_
  refine r_put hx hb hts ok_RX1 hown hK hP hD hS 4 go_4 rfl 2 (by decide) w_141 (fun _ h9 => h9) rfl (v := .int (iI 0)) (nar_b (Or.inl rfl)) (fit_b (Or.inl rfl)) (Nat.le_of_ble_eq_true rfl) dX1_end_2 (ws' := wld ga n (K 0) (K 1) (sI M 17 0)) wI_17 (fun H locs hP hD hS => ?_)
  obtain rfl := Option.some.inj h
  exact e_v hx hb hr hlk hP hD hS (fun _ => 0) rfl (Nat.le_of_ble_eq_true rfl) (Nat.le_of_ble_eq_true rfl) dX1_end_5
def f_Mk_grey (n : Nat) (M : cSt) (t0 : Option Nat) : Option (cSt) := on t0 (some M) (fun q1 => og (q1 < n) (og (inR (gT M q1 10)) (if gT M q1 10 = 0 then some (sT M q1 10 1) else some M)))
set_option maxHeartbeats 4000000 in
set_option maxRecDepth 100000 in
theorem C_Mk_grey (l : Launch) (G : Nat → Nat) (D : va_G) (K : Nat → ClassId) (sz : Nat) (ga : Nat → Nat) (n : Nat) (M : cSt) (t0 : Option Nat) {x : cSt} (h : f_Mk_grey n M t0 = some x) : CM l yX1_grey cX1_grey 1 (none : Option FieldType) ({ frames := 0, cells := 0, slots := 0, locals := 0 } : Room) G D K [ctv ga t0] (wld ga n (K 0) (K 1) M) sz (CQv D (fun _ => wld ga n (K 0) (K 1) x)) := by
  refine CM_of (lv0 := [(0, ctv ga t0)]) pn_RX1 (by cases t0 <;> exact (Nat.le_of_ble_eq_true rfl)) (by cases t0 <;> rfl) (fun p e s m args below meth c A ls hx hb hr hml hown hts hlk hnm hP hK hD hS hA hm hl => ?_)
  have hown : s.vm.findClass RX1 = some m.cls := hown
  unfold f_Mk_grey at h
  refine t_aload_n hx hb dX1_grey_0 rfl (lv_at hl 0 rfl) ?_
  rcases on_cases h with ⟨z1, h⟩ | ⟨q1, z1, h⟩
  · rw [ctv_none ga z1]
    refine lv_ifnullN (tgt := 16) hx hb dX1_grey_1 (by decide) ?_
    obtain rfl := Option.some.inj h
    exact e_v hx hb hr hlk hP hD hS (fun _ => 0) rfl (Nat.le_of_ble_eq_true rfl) (Nat.le_of_ble_eq_true rfl) dX1_grey_16
  · obtain ⟨hq1, h⟩ := og_some h
    rw [ctv_some ga z1]
    refine lv_ifnull hx hb dX1_grey_1 ?_
    refine t_aload_n hx hb dX1_grey_4 rfl (lv_at hl 0 rfl) ?_
    rw [ctv_some ga z1]
    refine r_get hx hb hts ok_RX7 hown hK hP (25 + 2 * q1) (go_th hq1) rfl 10 (by decide) w_716 (fun _ h9 => h9) rfl dX1_grey_5 ?_
    obtain ⟨g2, h⟩ := og_some h
    by_cases c3 : gT M q1 10 = 0
    · replace h := it_T h c3
      refine i_if_ne_F hx hb g2 (tgt := 16) dX1_grey_8 (by decide) c3 ?_
      refine t_aload_n hx hb dX1_grey_11 rfl (lv_at hl 0 rfl) ?_
      rw [ctv_some ga z1]
      refine lv_iconst (v := iI 1) hx hb dX1_grey_12 rfl ?_
      refine r_put hx hb hts ok_RX7 hown hK hP hD hS (25 + 2 * q1) (go_th hq1) rfl 10 (by decide) w_716 (fun _ h9 => h9) rfl (v := .int (iI 1)) rfl rfl (Nat.le_of_ble_eq_true rfl) dX1_grey_13 (ws' := wld ga n (K 0) (K 1) (sT M q1 10 1)) wT_10 (fun H locs hP hD hS => ?_)
      obtain rfl := Option.some.inj h
      exact e_v hx hb hr hlk hP hD hS (fun _ => 0) rfl (Nat.le_of_ble_eq_true rfl) (Nat.le_of_ble_eq_true rfl) dX1_grey_16
    · replace h := it_F h c3
      refine i_if_ne_T hx hb g2 (tgt := 16) dX1_grey_8 (by decide) c3 ?_
      obtain rfl := Option.some.inj h
      exact e_v hx hb hr hlk hP hD hS (fun _ => 0) rfl (Nat.le_of_ble_eq_true rfl) (Nat.le_of_ble_eq_true rfl) dX1_grey_16
def s_Mk_greys_4 (rec : Int → Int → Option (Int)) (n : Nat) (M : cSt)  (v1 : Int) (v2 : Int) : Option (Int) := og (inR (gI M 17)) (if gI M 17 = 0 then some v1 else ob (f_Row_size n M 0) (fun x3 => og (inR v2) (og (inR x3) (if v2 < x3 then ob (f_Row_item n M 0 v2) (fun x7 => on x7 (rec v1 (v2 + 1)) (fun q8 => og (q8 < n) (og (inR (gT M q8 10)) (if gT M q8 10 = 1 then rec (v1 + 1) (v2 + 1) else rec v1 (v2 + 1))))) else some v1))))
def g_Mk_greys_4 (n : Nat) (M : cSt)  : Nat → Int → Int → Option (Int)
  | 0 => fun _ _ => none
  | q + 1 => s_Mk_greys_4 (g_Mk_greys_4 n M  q) n M 
set_option maxHeartbeats 4000000 in
set_option maxRecDepth 100000 in
theorem L_Mk_greys_4 {p : Program} {l : Launch} {G : Nat → Nat} {D : va_G} {K : Nat → ClassId} {e : Env} {s : State} {m : MethodId} {args : Array Value} {below : List Frame} {meth : Method} {c : Code} {A : Nat → Prop} (hx : p.tables.exec = Jvm.exec) (hb : c.code = cX1_greys) (hr : meth.sig.returnType = (some FieldType.int)) (hml : c.maxLocals = 4) (hown : s.vm.findClass RX1 = some m.cls) (hts : ∀ w ∈ lw_gw, w.before args s = true) (hlk : meth.locks = false) (hK : va_K D cl (tys K) s) (hA : ∀ q : Nat, s.heap.size ≤ q → A q) (hm : Amb G A s s.heap) {Q : State → Prop} (ga : Nat → Nat) (n : Nat) (M : cSt)  : ∀ (q : Nat) (v1 : Int) (v2 : Int) (out : Int), g_Mk_greys_4 n M  q v1 v2 = some out → ∀ (ls : Array Slot) (H : Heap) (locs : List Loc), va_P D cl (wld ga n (K 0) (K 1) M) H → va_D A (wld ga n (K 0) (K 1) M) → va_S A s.heap H locs → lv_has ls 4 [(0, .ref (ga 4)), (1, .int (iI v1)), (2, .int (iI v2))] → (∀ (ls : Array Slot) (H : Heap) (locs : List Loc), va_P D cl (wld ga n (K 0) (K 1) M) H → va_D A (wld ga n (K 0) (K 1) M) → va_S A s.heap H locs → lv_has ls 4 [(1, .int (iI out))] → W p l e ({ frames := 1, cells := 0, slots := 0, locals := 21 } : Room) s m args below meth c H locs 0 0 Q (F0 m 52 ls [])) → W p l e ({ frames := 1, cells := 0, slots := 0, locals := 21 } : Room) s m args below meth c H locs 0 0 Q (F0 m 4 ls []) := by
  intro q
  induction q with
  | zero =>
    intro v1 v2 out h
    cases (show none = some out from h)
  | succ q ih =>
    intro v1 v2 out h ls H locs hP hD hS hl kk
    replace h : s_Mk_greys_4 (g_Mk_greys_4 n M  q) n M  v1 v2 = some out := h
    unfold s_Mk_greys_4 at h
    refine lv_aload_n hx hb dX1_greys_4 rfl (lv_at hl 0 rfl) ?_
    refine r_get hx hb hts ok_RX1 hown hK hP 4 go_4 rfl 2 (by decide) w_141 (fun _ h9 => h9) rfl dX1_greys_5 ?_
    obtain ⟨g1, h⟩ := og_some h
    by_cases c2 : gI M 17 = 0
    · replace h := it_T h c2
      refine i_if_eq_T hx hb g1 (tgt := 52) dX1_greys_8 (by decide) c2 ?_
      obtain rfl := Option.some.inj h
      exact kk _ _ _ hP hD hS (lv_pk hl [1] rfl)
    · replace h := it_F h c2
      refine i_if_eq_F hx hb g1 (tgt := 52) dX1_greys_8 (by decide) c2 ?_
      refine lv_iload_n hx hb dX1_greys_11 rfl (lv_at hl 2 rfl) ?_
      refine lv_aload_n hx hb dX1_greys_12 rfl (lv_at hl 0 rfl) ?_
      refine r_get hx hb hts ok_RX1 hown hK hP 4 go_4 rfl 0 (by decide) w_139 (fun _ h9 => h9) rfl dX1_greys_13 ?_
      obtain ⟨x3, ex3, h⟩ := ob_some h
      refine gk_i (run_V (rest := [.int (iI v2)]) hx hb hml hown hts hK hP hD hS hA hm (C_Row_size l G D K H.size ga n M 0 (by decide) ex3) _ (full_C _) (full_n _ List.nodup_range) mok_yX5_size w_888 w_405 w_406 (rcv hK hP (8 + 0) (go_ro (by decide)) rfl rfl) ⟨Nat.le_of_ble_eq_true rfl, Nat.le_of_ble_eq_true rfl⟩ rfl hl.1 rfl (Nat.le_of_ble_eq_true rfl) dX1_greys_16 ⟨(Nat.le_of_ble_eq_true rfl), (Nat.le_of_ble_eq_true rfl)⟩) hP hD hS hA (fun u H locs (hP : va_P D cl (wld ga n (K 0) (K 1) M) H) (hD : va_D A (wld ga n (K 0) (K 1) M)) hS => ?_)
      obtain ⟨g4, h⟩ := og_some h
      obtain ⟨g5, h⟩ := og_some h
      by_cases c6 : v2 < x3
      · replace h := it_T h c6
        refine i_icmp_ge_F hx hb g4 g5 (tgt := 52) dX1_greys_19 (by decide) c6 ?_
        refine lv_aload_n hx hb dX1_greys_22 rfl (lv_at hl 0 rfl) ?_
        refine r_get hx hb hts ok_RX1 hown hK hP 4 go_4 rfl 0 (by decide) w_139 (fun _ h9 => h9) rfl dX1_greys_23 ?_
        refine lv_iload_n hx hb dX1_greys_26 rfl (lv_at hl 2 rfl) ?_
        obtain ⟨x7, ex7, h⟩ := ob_some h
        refine gk_q (run_V (rest := []) hx hb hml hown hts hK hP hD hS hA hm (C_Row_item l G D K H.size ga n M 0 (by decide) v2 ex7) _ (full_C _) (full_n _ List.nodup_range) mok_yX5_item w_889 w_419 w_420 (rcv hK hP (8 + 0) (go_ro (by decide)) rfl rfl) ⟨Nat.le_of_ble_eq_true rfl, Nat.le_of_ble_eq_true rfl⟩ rfl hl.1 rfl (Nat.le_of_ble_eq_true rfl) dX1_greys_27 ⟨(Nat.le_of_ble_eq_true rfl), (Nat.le_of_ble_eq_true rfl)⟩) hP hD hS hA (fun u H locs (hP : va_P D cl (wld ga n (K 0) (K 1) M) H) (hD : va_D A (wld ga n (K 0) (K 1) M)) hS => ?_)
        refine w_tov (y := ctv ga x7) rfl ?_
        refine t_astore_n hx hb dX1_greys_30 rfl hl (by decide) [0, 1, 2] (lv' := [(0, .ref (ga 4)), (1, .int (iI v1)), (2, .int (iI v2))]) rfl (⟨⟨Nat.ne_of_beq_eq_false rfl, Or.inl (Nat.ne_of_beq_eq_false rfl)⟩, ⟨⟨Nat.ne_of_beq_eq_false rfl, Or.inl (Nat.ne_of_beq_eq_false rfl)⟩, ⟨⟨Nat.ne_of_beq_eq_false rfl, Or.inr rfl⟩, trivial⟩⟩⟩) (fun ls hl => ?_)
        refine t_aload_n hx hb dX1_greys_31 rfl (lv_at hl 0 rfl) ?_
        rcases on_cases h with ⟨z8, h⟩ | ⟨q8, z8, h⟩
        · rw [ctv_none ga z8]
          refine lv_ifnullN (tgt := 46) hx hb dX1_greys_32 (by decide) ?_
          refine x_iinc (v := iI (v2 + 1)) hx hb dX1_greys_46 hl (k := 3) rfl (iI_add v2 1) (by decide) [0, 1, 2] (lv' := [(3, ctv ga x7), (0, .ref (ga 4)), (1, .int (iI v1))]) rfl (⟨⟨Nat.ne_of_beq_eq_false rfl, Or.inl (Nat.ne_of_beq_eq_false rfl)⟩, ⟨⟨Nat.ne_of_beq_eq_false rfl, Or.inl (Nat.ne_of_beq_eq_false rfl)⟩, ⟨⟨Nat.ne_of_beq_eq_false rfl, Or.inr rfl⟩, trivial⟩⟩⟩) (fun ls hl => ?_)
          refine lv_goto (tgt := 4) hx hb dX1_greys_49 (by decide) ?_
          exact ih v1 (v2 + 1) _ h _ _ _ hP hD hS (lv_pk hl [2, 3, 0] rfl) kk
        · obtain ⟨hq8, h⟩ := og_some h
          rw [ctv_some ga z8]
          refine lv_ifnull hx hb dX1_greys_32 ?_
          refine t_aload_n hx hb dX1_greys_35 rfl (lv_at hl 0 rfl) ?_
          rw [ctv_some ga z8]
          refine r_get hx hb hts ok_RX7 hown hK hP (25 + 2 * q8) (go_th hq8) rfl 10 (by decide) w_716 (fun _ h9 => h9) rfl dX1_greys_36 ?_
          refine lv_iconst (v := iI 1) hx hb dX1_greys_39 rfl ?_
          obtain ⟨g9, h⟩ := og_some h
          by_cases c10 : gT M q8 10 = 1
          · replace h := it_T h c10
            refine i_icmp_ne_F hx hb g9 ⟨by decide, by decide⟩ (tgt := 46) dX1_greys_40 (by decide) c10 ?_
            refine x_iinc (v := iI (v1 + 1)) hx hb dX1_greys_43 hl (k := 2) rfl (iI_add v1 1) (by decide) [0, 1, 3] (lv' := [(3, ctv ga x7), (0, .ref (ga 4)), (2, .int (iI v2))]) rfl (⟨⟨Nat.ne_of_beq_eq_false rfl, Or.inl (Nat.ne_of_beq_eq_false rfl)⟩, ⟨⟨Nat.ne_of_beq_eq_false rfl, Or.inr rfl⟩, ⟨⟨Nat.ne_of_beq_eq_false rfl, Or.inl (Nat.ne_of_beq_eq_false rfl)⟩, trivial⟩⟩⟩) (fun ls hl => ?_)
            refine x_iinc (v := iI (v2 + 1)) hx hb dX1_greys_46 hl (k := 3) rfl (iI_add v2 1) (by decide) [0, 1, 2] (lv' := [(1, .int (iI (v1 + 1))), (3, ctv ga x7), (0, .ref (ga 4))]) rfl (⟨⟨Nat.ne_of_beq_eq_false rfl, Or.inr rfl⟩, ⟨⟨Nat.ne_of_beq_eq_false rfl, Or.inl (Nat.ne_of_beq_eq_false rfl)⟩, ⟨⟨Nat.ne_of_beq_eq_false rfl, Or.inl (Nat.ne_of_beq_eq_false rfl)⟩, trivial⟩⟩⟩) (fun ls hl => ?_)
            refine lv_goto (tgt := 4) hx hb dX1_greys_49 (by decide) ?_
            exact ih (v1 + 1) (v2 + 1) _ h _ _ _ hP hD hS (lv_pk hl [3, 1, 0] rfl) kk
          · replace h := it_F h c10
            refine i_icmp_ne_T hx hb g9 ⟨by decide, by decide⟩ (tgt := 46) dX1_greys_40 (by decide) c10 ?_
            refine x_iinc (v := iI (v2 + 1)) hx hb dX1_greys_46 hl (k := 3) rfl (iI_add v2 1) (by decide) [0, 1, 2] (lv' := [(3, ctv ga x7), (0, .ref (ga 4)), (1, .int (iI v1))]) rfl (⟨⟨Nat.ne_of_beq_eq_false rfl, Or.inl (Nat.ne_of_beq_eq_false rfl)⟩, ⟨⟨Nat.ne_of_beq_eq_false rfl, Or.inl (Nat.ne_of_beq_eq_false rfl)⟩, ⟨⟨Nat.ne_of_beq_eq_false rfl, Or.inr rfl⟩, trivial⟩⟩⟩) (fun ls hl => ?_)
            refine lv_goto (tgt := 4) hx hb dX1_greys_49 (by decide) ?_
            exact ih v1 (v2 + 1) _ h _ _ _ hP hD hS (lv_pk hl [2, 3, 0] rfl) kk
      · replace h := it_F h c6
        refine i_icmp_ge_T hx hb g4 g5 (tgt := 52) dX1_greys_19 (by decide) c6 ?_
        obtain rfl := Option.some.inj h
        exact kk _ _ _ hP hD hS (lv_pk hl [1] rfl)
def f_Mk_greys (n : Nat) (M : cSt)  : Option (Int) := ob (g_Mk_greys_4 n M fu 0 0) (fun x11 => some x11)
set_option maxHeartbeats 4000000 in
set_option maxRecDepth 100000 in
theorem C_Mk_greys (l : Launch) (G : Nat → Nat) (D : va_G) (K : Nat → ClassId) (sz : Nat) (ga : Nat → Nat) (n : Nat) (M : cSt)  {x : Int} (h : f_Mk_greys n M  = some x) : CM l yX1_greys cX1_greys 4 (some FieldType.int) ({ frames := 1, cells := 0, slots := 0, locals := 21 } : Room) G D K [.ref (ga 4)] (wld ga n (K 0) (K 1) M) sz (CQi (iI x) D (fun _ => wld ga n (K 0) (K 1) M)) := by
  refine CM_of (lv0 := [(0, .ref (ga 4))]) pn_RX1 (Nat.le_of_ble_eq_true rfl) rfl (fun p e s m args below meth c A ls hx hb hr hml hown hts hlk hnm hP hK hD hS hA hm hl => ?_)
  have hown : s.vm.findClass RX1 = some m.cls := hown
  unfold f_Mk_greys at h
  refine lv_iconst (v := iI 0) hx hb dX1_greys_0 rfl ?_
  refine x_istore_n hx hb dX1_greys_1 rfl hl (by decide) [0] (lv' := [(0, .ref (ga 4))]) rfl (⟨⟨Nat.ne_of_beq_eq_false rfl, Or.inr rfl⟩, trivial⟩) (fun ls hl => ?_)
  refine lv_iconst (v := iI 0) hx hb dX1_greys_2 rfl ?_
  refine x_istore_n hx hb dX1_greys_3 rfl hl (by decide) [0, 1] (lv' := [(1, .int (iI 0)), (0, .ref (ga 4))]) rfl (⟨⟨Nat.ne_of_beq_eq_false rfl, Or.inr rfl⟩, ⟨⟨Nat.ne_of_beq_eq_false rfl, Or.inl (Nat.ne_of_beq_eq_false rfl)⟩, trivial⟩⟩) (fun ls hl => ?_)
  obtain ⟨x11, ex11, h⟩ := ob_some h
  refine L_Mk_greys_4 hx hb hr hml hown hts hlk hK hA hm ga n M  fu 0 0 _ ex11 _ _ _ hP hD hS (lv_pk hl [2, 1, 0] rfl) (fun ls H locs (hP : va_P D cl (wld ga n (K 0) (K 1) M) H) (hD : va_D A (wld ga n (K 0) (K 1) M)) hS (hl : lv_has ls 4 [(1, .int (iI x11))]) => ?_)
  refine lv_iload_n hx hb dX1_greys_52 rfl (lv_at hl 0 rfl) ?_
  obtain rfl := Option.some.inj h
  exact e_i hx hb hr hlk hP hD hS (fun _ => 0) rfl (Nat.le_of_ble_eq_true rfl) (Nat.le_of_ble_eq_true rfl) rfl dX1_greys_53
def f_Mk_noteMade (n : Nat) (M : cSt) (t1 : Option Nat) : Option (cSt) := og (inR (gI M 17)) (if gI M 17 = 0 then some M else on t1 none (fun q3 => og (q3 < n) (some (sT M q3 10 2))))
set_option maxHeartbeats 4000000 in
set_option maxRecDepth 100000 in
theorem C_Mk_noteMade (l : Launch) (G : Nat → Nat) (D : va_G) (K : Nat → ClassId) (sz : Nat) (ga : Nat → Nat) (n : Nat) (M : cSt) (t1 : Option Nat) {x : cSt} (h : f_Mk_noteMade n M t1 = some x) : CM l yX1_noteMade cX1_noteMade 2 (none : Option FieldType) ({ frames := 0, cells := 0, slots := 0, locals := 0 } : Room) G D K [.ref (ga 4), ctv ga t1] (wld ga n (K 0) (K 1) M) sz (CQv D (fun _ => wld ga n (K 0) (K 1) x)) := by
  refine CM_of (lv0 := [(0, .ref (ga 4)), (1, ctv ga t1)]) pn_RX1 (by cases t1 <;> exact (Nat.le_of_ble_eq_true rfl)) (by cases t1 <;> rfl) (fun p e s m args below meth c A ls hx hb hr hml hown hts hlk hnm hP hK hD hS hA hm hl => ?_)
  have hown : s.vm.findClass RX1 = some m.cls := hown
  unfold f_Mk_noteMade at h
  refine lv_aload_n hx hb dX1_noteMade_0 rfl (lv_at hl 0 rfl) ?_
  refine r_get hx hb hts ok_RX1 hown hK hP 4 go_4 rfl 2 (by decide) w_141 (fun _ h9 => h9) rfl dX1_noteMade_1 ?_
  obtain ⟨g1, h⟩ := og_some h
  by_cases c2 : gI M 17 = 0
  · replace h := it_T h c2
    refine i_if_eq_T hx hb g1 (tgt := 12) dX1_noteMade_4 (by decide) c2 ?_
    obtain rfl := Option.some.inj h
    exact e_v hx hb hr hlk hP hD hS (fun _ => 0) rfl (Nat.le_of_ble_eq_true rfl) (Nat.le_of_ble_eq_true rfl) dX1_noteMade_12
  · replace h := it_F h c2
    refine i_if_eq_F hx hb g1 (tgt := 12) dX1_noteMade_4 (by decide) c2 ?_
    refine t_aload_n hx hb dX1_noteMade_7 rfl (lv_at hl 1 rfl) ?_
    refine lv_iconst (v := iI 2) hx hb dX1_noteMade_8 rfl ?_
    rcases on_cases h with ⟨z3, h⟩ | ⟨q3, z3, h⟩
    · cases h
    · obtain ⟨hq3, h⟩ := og_some h
      rw [ctv_some ga z3]
      refine r_put hx hb hts ok_RX7 hown hK hP hD hS (25 + 2 * q3) (go_th hq3) rfl 10 (by decide) w_716 (fun _ h9 => h9) rfl (v := .int (iI 2)) rfl rfl (Nat.le_of_ble_eq_true rfl) dX1_noteMade_9 (ws' := wld ga n (K 0) (K 1) (sT M q3 10 2)) wT_10 (fun H locs hP hD hS => ?_)
      obtain rfl := Option.some.inj h
      exact e_v hx hb hr hlk hP hD hS (fun _ => 0) rfl (Nat.le_of_ble_eq_true rfl) (Nat.le_of_ble_eq_true rfl) dX1_noteMade_12
def f_Mk_noteWritten (n : Nat) (M : cSt) (t1 : Option Nat) (t2 : Option Nat) : Option (cSt) := og (inR (gI M 17)) (if gI M 17 = 0 then some M else on t1 none (fun q3 => og (q3 < n) (og (inR (gT M q3 10)) (if gT M q3 10 = 2 then ob (f_Mk_grey n M t2) (fun x6 => some x6) else some M))))
set_option maxHeartbeats 4000000 in
set_option maxRecDepth 100000 in
theorem C_Mk_noteWritten (l : Launch) (G : Nat → Nat) (D : va_G) (K : Nat → ClassId) (sz : Nat) (ga : Nat → Nat) (n : Nat) (M : cSt) (t1 : Option Nat) (t2 : Option Nat) {x : cSt} (h : f_Mk_noteWritten n M t1 t2 = some x) : CM l yX1_noteWritten cX1_noteWritten 3 (none : Option FieldType) ({ frames := 1, cells := 0, slots := 0, locals := 20 } : Room) G D K [.ref (ga 4), ctv ga t1, ctv ga t2] (wld ga n (K 0) (K 1) M) sz (CQv D (fun _ => wld ga n (K 0) (K 1) x)) := by
  refine CM_of (lv0 := [(0, .ref (ga 4)), (1, ctv ga t1), (2, ctv ga t2)]) pn_RX1 (by cases t1 <;> cases t2 <;> exact (Nat.le_of_ble_eq_true rfl)) (by cases t1 <;> cases t2 <;> rfl) (fun p e s m args below meth c A ls hx hb hr hml hown hts hlk hnm hP hK hD hS hA hm hl => ?_)
  have hown : s.vm.findClass RX1 = some m.cls := hown
  unfold f_Mk_noteWritten at h
  refine lv_aload_n hx hb dX1_noteWritten_0 rfl (lv_at hl 0 rfl) ?_
  refine r_get hx hb hts ok_RX1 hown hK hP 4 go_4 rfl 2 (by decide) w_141 (fun _ h9 => h9) rfl dX1_noteWritten_1 ?_
  obtain ⟨g1, h⟩ := og_some h
  by_cases c2 : gI M 17 = 0
  · replace h := it_T h c2
    refine i_if_eq_T hx hb g1 (tgt := 19) dX1_noteWritten_4 (by decide) c2 ?_
    obtain rfl := Option.some.inj h
    exact e_v hx hb hr hlk hP hD hS (fun _ => 0) rfl (Nat.le_of_ble_eq_true rfl) (Nat.le_of_ble_eq_true rfl) dX1_noteWritten_19
  · replace h := it_F h c2
    refine i_if_eq_F hx hb g1 (tgt := 19) dX1_noteWritten_4 (by decide) c2 ?_
    refine t_aload_n hx hb dX1_noteWritten_7 rfl (lv_at hl 1 rfl) ?_
    rcases on_cases h with ⟨z3, h⟩ | ⟨q3, z3, h⟩
    · cases h
    · obtain ⟨hq3, h⟩ := og_some h
      rw [ctv_some ga z3]
      refine r_get hx hb hts ok_RX7 hown hK hP (25 + 2 * q3) (go_th hq3) rfl 10 (by decide) w_716 (fun _ h9 => h9) rfl dX1_noteWritten_8 ?_
      refine lv_iconst (v := iI 2) hx hb dX1_noteWritten_11 rfl ?_
      obtain ⟨g4, h⟩ := og_some h
      by_cases c5 : gT M q3 10 = 2
      · replace h := it_T h c5
        refine i_icmp_ne_F hx hb g4 ⟨by decide, by decide⟩ (tgt := 19) dX1_noteWritten_12 (by decide) c5 ?_
        refine t_aload_n hx hb dX1_noteWritten_15 rfl (lv_at hl 2 rfl) ?_
        obtain ⟨x6, ex6, h⟩ := ob_some h
        refine gk_v (run_S (rest := []) hx hb hml hown hts hK hP hD hS hA hm (C_Mk_grey l G D K s.heap.size ga n M t2 ex6) _ (full_C _) (full_n _ List.nodup_range) mok_yX1_grey w_801 w_802 ⟨Nat.le_of_ble_eq_true rfl, Nat.le_of_ble_eq_true rfl⟩ rfl hl.1 rfl (Nat.le_of_ble_eq_true rfl) dX1_noteWritten_16 ⟨(Nat.le_of_ble_eq_true rfl), (Nat.le_of_ble_eq_true rfl)⟩) hP hD hS hA (fun u H locs (hP : va_P D cl (wld ga n (K 0) (K 1) x6) H) (hD : va_D A (wld ga n (K 0) (K 1) x6)) hS => ?_)
        obtain rfl := Option.some.inj h
        exact e_v hx hb hr hlk hP hD hS (fun _ => 0) rfl (Nat.le_of_ble_eq_true rfl) (Nat.le_of_ble_eq_true rfl) dX1_noteWritten_19
      · replace h := it_F h c5
        refine i_icmp_ne_T hx hb g4 ⟨by decide, by decide⟩ (tgt := 19) dX1_noteWritten_12 (by decide) c5 ?_
        obtain rfl := Option.some.inj h
        exact e_v hx hb hr hlk hP hD hS (fun _ => 0) rfl (Nat.le_of_ble_eq_true rfl) (Nat.le_of_ble_eq_true rfl) dX1_noteWritten_19
