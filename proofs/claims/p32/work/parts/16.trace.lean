/-! METHODS as functions, with their contracts, written by wip/p32/sx2.py -/
def f_X_isLoose (n : Nat) (M : cSt) (a0 : Int) (a1 : Int) : Option (Int) := og (inR a0) (if a0 = 1 then some 1 else if a0 = 2 then og (inR a1) (if a1 = 0 then some 1 else some 0) else some 0)
set_option maxHeartbeats 4000000 in
set_option maxRecDepth 100000 in
theorem C_X_isLoose (l : Launch) (G : Nat → Nat) (D : va_G) (K : Nat → ClassId) (sz : Nat) (ga : Nat → Nat) (n : Nat) (M : cSt) (a0 : Int) (a1 : Int) {x : Int} (h : f_X_isLoose n M a0 a1 = some x) : CM l yX9_isLoose cX9_isLoose 2 (some FieldType.boolean) ({ frames := 0, cells := 0, slots := 0, locals := 0 } : Room) G D K [.int (iI a0), .int (iI a1)] (wld ga n (K 0) (K 1) M) sz (CQi (iI x) D (fun _ => wld ga n (K 0) (K 1) M)) := by
  refine CM_of (lv0 := [(0, .int (iI a0)), (1, .int (iI a1))]) pn_RX9 (Nat.le_of_ble_eq_true rfl) rfl (fun p e s m args below meth c A ls hx hb hr hml hown hts hlk hnm hP hK hD hS hA hm hl => ?_)
  have hown : s.vm.findClass RX9 = some m.cls := hown
  unfold f_X_isLoose at h
  refine lv_iload_n hx hb dX9_isLoose_0 rfl (lv_at hl 0 rfl) ?_
  refine lv_iconst (v := iI 1) hx hb dX9_isLoose_1 rfl ?_
  obtain ⟨g1, h⟩ := og_some h
  by_cases c2 : a0 = 1
  · replace h := it_T h c2
    refine i_icmp_eq_T hx hb g1 ⟨by decide, by decide⟩ (tgt := 14) dX9_isLoose_2 (by decide) c2 ?_
    refine lv_iconst (v := iI 1) hx hb dX9_isLoose_14 rfl ?_
    refine lv_goto (tgt := 19) hx hb dX9_isLoose_15 (by decide) ?_
    obtain rfl := Option.some.inj h
    exact e_z hx hb hr hlk hP hD hS (fun _ => 0) rfl (Nat.le_of_ble_eq_true rfl) (Nat.le_of_ble_eq_true rfl) rfl (b01 (Or.inr rfl)) dX9_isLoose_19
  · replace h := it_F h c2
    refine i_icmp_eq_F hx hb g1 ⟨by decide, by decide⟩ (tgt := 14) dX9_isLoose_2 (by decide) c2 ?_
    refine lv_iload_n hx hb dX9_isLoose_5 rfl (lv_at hl 0 rfl) ?_
    refine lv_iconst (v := iI 2) hx hb dX9_isLoose_6 rfl ?_
    by_cases c3 : a0 = 2
    · replace h := it_T h c3
      refine i_icmp_ne_F hx hb g1 ⟨by decide, by decide⟩ (tgt := 18) dX9_isLoose_7 (by decide) c3 ?_
      refine lv_iload_n hx hb dX9_isLoose_10 rfl (lv_at hl 1 rfl) ?_
      obtain ⟨g4, h⟩ := og_some h
      by_cases c5 : a1 = 0
      · replace h := it_T h c5
        refine i_if_ne_F hx hb g4 (tgt := 18) dX9_isLoose_11 (by decide) c5 ?_
        refine lv_iconst (v := iI 1) hx hb dX9_isLoose_14 rfl ?_
        refine lv_goto (tgt := 19) hx hb dX9_isLoose_15 (by decide) ?_
        obtain rfl := Option.some.inj h
        exact e_z hx hb hr hlk hP hD hS (fun _ => 0) rfl (Nat.le_of_ble_eq_true rfl) (Nat.le_of_ble_eq_true rfl) rfl (b01 (Or.inr rfl)) dX9_isLoose_19
      · replace h := it_F h c5
        refine i_if_ne_T hx hb g4 (tgt := 18) dX9_isLoose_11 (by decide) c5 ?_
        refine lv_iconst (v := iI 0) hx hb dX9_isLoose_18 rfl ?_
        obtain rfl := Option.some.inj h
        exact e_z hx hb hr hlk hP hD hS (fun _ => 0) rfl (Nat.le_of_ble_eq_true rfl) (Nat.le_of_ble_eq_true rfl) rfl (b01 (Or.inl rfl)) dX9_isLoose_19
    · replace h := it_F h c3
      refine i_icmp_ne_T hx hb g1 ⟨by decide, by decide⟩ (tgt := 18) dX9_isLoose_7 (by decide) c3 ?_
      refine lv_iconst (v := iI 0) hx hb dX9_isLoose_18 rfl ?_
      obtain rfl := Option.some.inj h
      exact e_z hx hb hr hlk hP hD hS (fun _ => 0) rfl (Nat.le_of_ble_eq_true rfl) (Nat.le_of_ble_eq_true rfl) rfl (b01 (Or.inl rfl)) dX9_isLoose_19
def s_Tr_begin_24 (rec : cSt → Int → Option (cSt)) (n : Nat)  (M : cSt) (v3 : Int) : Option (cSt) := ob (f_Row_size n M 0) (fun x3 => og (inR v3) (og (inR x3) (if v3 < x3 then ob (f_Row_item n M 0 v3) (fun x7 => on x7 (rec M (v3 + 1)) (fun q8 => og (q8 < n) (rec (sT (sT M q8 12 0) q8 13 0) (v3 + 1)))) else some M)))
def g_Tr_begin_24 (n : Nat)  : Nat → cSt → Int → Option (cSt)
  | 0 => fun _ _ => none
  | q + 1 => s_Tr_begin_24 (g_Tr_begin_24 n  q) n 
set_option maxHeartbeats 4000000 in
set_option maxRecDepth 100000 in
theorem L_Tr_begin_24 {p : Program} {l : Launch} {G : Nat → Nat} {D : va_G} {K : Nat → ClassId} {e : Env} {s : State} {m : MethodId} {args : Array Value} {below : List Frame} {meth : Method} {c : Code} {A : Nat → Prop} (hx : p.tables.exec = Jvm.exec) (hb : c.code = cX8_begin) (hr : meth.sig.returnType = (none : Option FieldType)) (hml : c.maxLocals = 5) (hown : s.vm.findClass RX8 = some m.cls) (hts : ∀ w ∈ lw_gw, w.before args s = true) (hlk : meth.locks = false) (hK : va_K D cl (tys K) s) (hA : ∀ q : Nat, s.heap.size ≤ q → A q) (hm : Amb G A s s.heap) {Q : State → Prop} (ga : Nat → Nat) (n : Nat)  : ∀ (q : Nat) (M : cSt) (v3 : Int) (out : cSt), g_Tr_begin_24 n  q M v3 = some out → ∀ (ls : Array Slot) (H : Heap) (locs : List Loc), va_P D cl (wld ga n (K 0) (K 1) M) H → va_D A (wld ga n (K 0) (K 1) M) → va_S A s.heap H locs → lv_has ls 5 [(0, .ref (ga 5)), (3, .int (iI v3))] → (∀ (ls : Array Slot) (H : Heap) (locs : List Loc), va_P D cl (wld ga n (K 0) (K 1) out) H → va_D A (wld ga n (K 0) (K 1) out) → va_S A s.heap H locs → lv_has ls 5 [] → W p l e ({ frames := 1, cells := 0, slots := 0, locals := 21 } : Room) s m args below meth c H locs 0 0 Q (F0 m 68 ls [])) → W p l e ({ frames := 1, cells := 0, slots := 0, locals := 21 } : Room) s m args below meth c H locs 0 0 Q (F0 m 24 ls []) := by
  intro q
  induction q with
  | zero =>
    intro M v3 out h
    cases (show none = some out from h)
  | succ q ih =>
    intro M v3 out h ls H locs hP hD hS hl kk
    replace h : s_Tr_begin_24 (g_Tr_begin_24 n  q) n  M v3 = some out := h
    unfold s_Tr_begin_24 at h
    refine lv_iload_n hx hb dX8_begin_24 rfl (lv_at hl 1 rfl) ?_
    refine lv_aload_n hx hb dX8_begin_25 rfl (lv_at hl 0 rfl) ?_
    refine r_get hx hb hts ok_RX8 hown hK hP 5 go_5 rfl 0 (by decide) w_157 (fun _ h9 => h9) rfl dX8_begin_26 ?_
    obtain ⟨x3, ex3, h⟩ := ob_some h
    refine gk_i (run_V (rest := [.int (iI v3)]) hx hb hml hown hts hK hP hD hS hA hm (C_Row_size l G D K H.size ga n M 0 (by decide) ex3) _ (full_C _) (full_n _ List.nodup_range) mok_yX5_size w_565 w_405 w_406 (rcv hK hP (8 + 0) (go_ro (by decide)) rfl rfl) ⟨Nat.le_of_ble_eq_true rfl, Nat.le_of_ble_eq_true rfl⟩ rfl hl.1 rfl (Nat.le_of_ble_eq_true rfl) dX8_begin_29 ⟨(Nat.le_of_ble_eq_true rfl), (Nat.le_of_ble_eq_true rfl)⟩) hP hD hS hA (fun u H locs (hP : va_P D cl (wld ga n (K 0) (K 1) M) H) (hD : va_D A (wld ga n (K 0) (K 1) M)) hS => ?_)
    obtain ⟨g4, h⟩ := og_some h
    obtain ⟨g5, h⟩ := og_some h
    by_cases c6 : v3 < x3
    · replace h := it_T h c6
      refine i_icmp_ge_F hx hb g4 g5 (tgt := 68) dX8_begin_32 (by decide) c6 ?_
      refine lv_aload_n hx hb dX8_begin_35 rfl (lv_at hl 0 rfl) ?_
      refine r_get hx hb hts ok_RX8 hown hK hP 5 go_5 rfl 0 (by decide) w_157 (fun _ h9 => h9) rfl dX8_begin_36 ?_
      refine lv_iload_n hx hb dX8_begin_39 rfl (lv_at hl 1 rfl) ?_
      obtain ⟨x7, ex7, h⟩ := ob_some h
      refine gk_q (run_V (rest := []) hx hb hml hown hts hK hP hD hS hA hm (C_Row_item l G D K H.size ga n M 0 (by decide) v3 ex7) _ (full_C _) (full_n _ List.nodup_range) mok_yX5_item w_566 w_419 w_420 (rcv hK hP (8 + 0) (go_ro (by decide)) rfl rfl) ⟨Nat.le_of_ble_eq_true rfl, Nat.le_of_ble_eq_true rfl⟩ rfl hl.1 rfl (Nat.le_of_ble_eq_true rfl) dX8_begin_40 ⟨(Nat.le_of_ble_eq_true rfl), (Nat.le_of_ble_eq_true rfl)⟩) hP hD hS hA (fun u H locs (hP : va_P D cl (wld ga n (K 0) (K 1) M) H) (hD : va_D A (wld ga n (K 0) (K 1) M)) hS => ?_)
      refine w_tov (y := ctv ga x7) rfl ?_
      refine t_astore hx hb dX8_begin_43 hl (by decide) [0, 1] (lv' := [(0, .ref (ga 5)), (3, .int (iI v3))]) rfl (⟨⟨Nat.ne_of_beq_eq_false rfl, Or.inl (Nat.ne_of_beq_eq_false rfl)⟩, ⟨⟨Nat.ne_of_beq_eq_false rfl, Or.inr rfl⟩, trivial⟩⟩) (fun ls hl => ?_)
      refine t_aload hx hb dX8_begin_45 (lv_at hl 0 rfl) ?_
      rcases on_cases h with ⟨z8, h⟩ | ⟨q8, z8, h⟩
      · rw [ctv_none ga z8]
        refine lv_ifnullN (tgt := 62) hx hb dX8_begin_47 (by decide) ?_
        refine x_iinc (v := iI (v3 + 1)) hx hb dX8_begin_62 hl (k := 2) rfl (iI_add v3 1) (by decide) [0, 1] (lv' := [(4, ctv ga x7), (0, .ref (ga 5))]) rfl (⟨⟨Nat.ne_of_beq_eq_false rfl, Or.inl (Nat.ne_of_beq_eq_false rfl)⟩, ⟨⟨Nat.ne_of_beq_eq_false rfl, Or.inl (Nat.ne_of_beq_eq_false rfl)⟩, trivial⟩⟩) (fun ls hl => ?_)
        refine lv_goto (tgt := 24) hx hb dX8_begin_65 (by decide) ?_
        exact ih M (v3 + 1) _ h _ _ _ hP hD hS (lv_pk hl [2, 0] rfl) kk
      · obtain ⟨hq8, h⟩ := og_some h
        rw [ctv_some ga z8]
        refine lv_ifnull hx hb dX8_begin_47 ?_
        refine t_aload hx hb dX8_begin_50 (lv_at hl 0 rfl) ?_
        rw [ctv_some ga z8]
        refine lv_iconst (v := iI 0) hx hb dX8_begin_52 rfl ?_
        refine r_put hx hb hts ok_RX7 hown hK hP hD hS (25 + 2 * q8) (go_th hq8) rfl 12 (by decide) w_720 (fun _ h9 => h9) rfl (v := .int (iI 0)) (nar_b (Or.inl rfl)) (fit_b (Or.inl rfl)) (Nat.le_of_ble_eq_true rfl) dX8_begin_53 (ws' := wld ga n (K 0) (K 1) (sT M q8 12 0)) wT_12 (fun H locs hP hD hS => ?_)
        refine t_aload hx hb dX8_begin_56 (lv_at hl 0 rfl) ?_
        rw [ctv_some ga z8]
        refine lv_iconst (v := iI 0) hx hb dX8_begin_58 rfl ?_
        refine r_put hx hb hts ok_RX7 hown hK hP hD hS (25 + 2 * q8) (go_th hq8) rfl 13 (by decide) w_723 (fun _ h9 => h9) rfl (v := .int (iI 0)) (nar_b (Or.inl rfl)) (fit_b (Or.inl rfl)) (Nat.le_of_ble_eq_true rfl) dX8_begin_59 (ws' := wld ga n (K 0) (K 1) (sT (sT M q8 12 0) q8 13 0)) wT_13 (fun H locs hP hD hS => ?_)
        refine x_iinc (v := iI (v3 + 1)) hx hb dX8_begin_62 hl (k := 2) rfl (iI_add v3 1) (by decide) [0, 1] (lv' := [(4, ctv ga x7), (0, .ref (ga 5))]) rfl (⟨⟨Nat.ne_of_beq_eq_false rfl, Or.inl (Nat.ne_of_beq_eq_false rfl)⟩, ⟨⟨Nat.ne_of_beq_eq_false rfl, Or.inl (Nat.ne_of_beq_eq_false rfl)⟩, trivial⟩⟩) (fun ls hl => ?_)
        refine lv_goto (tgt := 24) hx hb dX8_begin_65 (by decide) ?_
        exact ih (sT (sT M q8 12 0) q8 13 0) (v3 + 1) _ h _ _ _ hP hD hS (lv_pk hl [2, 0] rfl) kk
    · replace h := it_F h c6
      refine i_icmp_ge_T hx hb g4 g5 (tgt := 68) dX8_begin_32 (by decide) c6 ?_
      obtain rfl := Option.some.inj h
      exact kk _ _ _ hP hD hS (lv_pk hl [] rfl)
def f_Tr_begin (n : Nat) (M : cSt) (a1 : Int) (t2 : Option Nat) : Option (cSt) := og (a1 = 0 ∨ a1 = 1) (ob (f_Row_clear n (sR (sI M 19 a1) 9 0 t2) 5) (fun x2 => ob (g_Tr_begin_24 n  fu (sI x2 18 0) 0) (fun x9 => some x9)))
set_option maxHeartbeats 4000000 in
set_option maxRecDepth 100000 in
theorem C_Tr_begin (l : Launch) (G : Nat → Nat) (D : va_G) (K : Nat → ClassId) (sz : Nat) (ga : Nat → Nat) (n : Nat) (M : cSt) (a1 : Int) (t2 : Option Nat) {x : cSt} (h : f_Tr_begin n M a1 t2 = some x) : CM l yX8_begin cX8_begin 5 (none : Option FieldType) ({ frames := 1, cells := 0, slots := 0, locals := 21 } : Room) G D K [.ref (ga 5), .int (iI a1), ctv ga t2] (wld ga n (K 0) (K 1) M) sz (CQv D (fun _ => wld ga n (K 0) (K 1) x)) := by
  refine CM_of (lv0 := [(0, .ref (ga 5)), (1, .int (iI a1)), (2, ctv ga t2)]) pn_RX8 (by cases t2 <;> exact (Nat.le_of_ble_eq_true rfl)) (by cases t2 <;> rfl) (fun p e s m args below meth c A ls hx hb hr hml hown hts hlk hnm hP hK hD hS hA hm hl => ?_)
  have hown : s.vm.findClass RX8 = some m.cls := hown
  unfold f_Tr_begin at h
  refine lv_aload_n hx hb dX8_begin_0 rfl (lv_at hl 0 rfl) ?_
  refine lv_iload_n hx hb dX8_begin_1 rfl (lv_at hl 1 rfl) ?_
  obtain ⟨g1, h⟩ := og_some h
  refine r_put hx hb hts ok_RX8 hown hK hP hD hS 5 go_5 rfl 4 (by decide) w_161 (fun _ h9 => h9) rfl (v := .int (iI a1)) (nar_b g1) (fit_b g1) (Nat.le_of_ble_eq_true rfl) dX8_begin_2 (ws' := wld ga n (K 0) (K 1) (sI M 19 a1)) wI_19 (fun H locs hP hD hS => ?_)
  refine lv_aload_n hx hb dX8_begin_5 rfl (lv_at hl 0 rfl) ?_
  refine t_aload_n hx hb dX8_begin_6 rfl (lv_at hl 2 rfl) ?_
  refine r_put hx hb hts ok_RX8 hown hK hP hD hS 5 go_5 rfl 5 (by decide) w_162 (fun _ h9 => h9) rfl (v := ctv ga t2) (nar_c _ _) (fit_c _ _) (Nat.le_of_ble_eq_true rfl) dX8_begin_7 (ws' := wld ga n (K 0) (K 1) (sR (sI M 19 a1) 9 0 t2)) wHol (fun H locs hP hD hS => ?_)
  refine lv_aload_n hx hb dX8_begin_10 rfl (lv_at hl 0 rfl) ?_
  refine r_get hx hb hts ok_RX8 hown hK hP 5 go_5 rfl 2 (by decide) w_159 (fun _ h9 => h9) rfl dX8_begin_11 ?_
  obtain ⟨x2, ex2, h⟩ := ob_some h
  refine gk_v (run_V (rest := []) hx hb hml hown hts hK hP hD hS hA hm (C_Row_clear l G D K H.size ga n (sR (sI M 19 a1) 9 0 t2) 5 (by decide) ex2) _ (full_C _) (full_n _ List.nodup_range) mok_yX5_clear w_564 w_447 w_448 (rcv hK hP (8 + 5) (go_ro (by decide)) rfl rfl) ⟨Nat.le_of_ble_eq_true rfl, Nat.le_of_ble_eq_true rfl⟩ rfl hl.1 rfl (Nat.le_of_ble_eq_true rfl) dX8_begin_14 ⟨(Nat.le_of_ble_eq_true rfl), (Nat.le_of_ble_eq_true rfl)⟩) hP hD hS hA (fun u H locs (hP : va_P D cl (wld ga n (K 0) (K 1) x2) H) (hD : va_D A (wld ga n (K 0) (K 1) x2)) hS => ?_)
  refine lv_aload_n hx hb dX8_begin_17 rfl (lv_at hl 0 rfl) ?_
  refine lv_iconst (v := iI 0) hx hb dX8_begin_18 rfl ?_
  refine r_put hx hb hts ok_RX8 hown hK hP hD hS 5 go_5 rfl 3 (by decide) w_160 (fun _ h9 => h9) rfl (v := .int (iI 0)) rfl rfl (Nat.le_of_ble_eq_true rfl) dX8_begin_19 (ws' := wld ga n (K 0) (K 1) (sI x2 18 0)) wI_18 (fun H locs hP hD hS => ?_)
  refine lv_iconst (v := iI 0) hx hb dX8_begin_22 rfl ?_
  refine x_istore_n hx hb dX8_begin_23 rfl hl (by decide) [0, 1, 2] (lv' := [(0, .ref (ga 5)), (1, .int (iI a1)), (2, ctv ga t2)]) rfl (⟨⟨Nat.ne_of_beq_eq_false rfl, Or.inl (Nat.ne_of_beq_eq_false rfl)⟩, ⟨⟨Nat.ne_of_beq_eq_false rfl, Or.inl (Nat.ne_of_beq_eq_false rfl)⟩, ⟨⟨Nat.ne_of_beq_eq_false rfl, Or.inr (ctv_cat _ _)⟩, trivial⟩⟩⟩) (fun ls hl => ?_)
  obtain ⟨x9, ex9, h⟩ := ob_some h
  refine L_Tr_begin_24 hx hb hr hml hown hts hlk hK hA hm ga n   fu (sI x2 18 0) 0 _ ex9 _ _ _ hP hD hS (lv_pk hl [1, 0] rfl) (fun ls H locs (hP : va_P D cl (wld ga n (K 0) (K 1) x9) H) (hD : va_D A (wld ga n (K 0) (K 1) x9)) hS (hl : lv_has ls 5 []) => ?_)
  obtain rfl := Option.some.inj h
  exact e_v hx hb hr hlk hP hD hS (fun _ => 0) rfl (Nat.le_of_ble_eq_true rfl) (Nat.le_of_ble_eq_true rfl) dX8_begin_68
def f_Tr_mark (n : Nat) (M : cSt) (t1 : Option Nat) : Option (cSt) := on t1 (some M) (fun q1 => og (q1 < n) (og (inR (gT M q1 12)) (if gT M q1 12 = 0 then ob (f_Row_add n (sT M q1 12 1) 5 (some q1)) (fun x4 => some x4) else some M)))
set_option maxHeartbeats 4000000 in
set_option maxRecDepth 100000 in
theorem C_Tr_mark (l : Launch) (G : Nat → Nat) (D : va_G) (K : Nat → ClassId) (sz : Nat) (ga : Nat → Nat) (n : Nat) (M : cSt) (t1 : Option Nat) {x : cSt} (h : f_Tr_mark n M t1 = some x) : CM l yX8_mark cX8_mark 2 (none : Option FieldType) ({ frames := 1, cells := 0, slots := 0, locals := 21 } : Room) G D K [.ref (ga 5), ctv ga t1] (wld ga n (K 0) (K 1) M) sz (CQv D (fun _ => wld ga n (K 0) (K 1) x)) := by
  refine CM_of (lv0 := [(0, .ref (ga 5)), (1, ctv ga t1)]) pn_RX8 (by cases t1 <;> exact (Nat.le_of_ble_eq_true rfl)) (by cases t1 <;> rfl) (fun p e s m args below meth c A ls hx hb hr hml hown hts hlk hnm hP hK hD hS hA hm hl => ?_)
  have hown : s.vm.findClass RX8 = some m.cls := hown
  unfold f_Tr_mark at h
  refine t_aload_n hx hb dX8_mark_0 rfl (lv_at hl 1 rfl) ?_
  rcases on_cases h with ⟨z1, h⟩ | ⟨q1, z1, h⟩
  · rw [ctv_none ga z1]
    refine lv_ifnullN (tgt := 24) hx hb dX8_mark_1 (by decide) ?_
    obtain rfl := Option.some.inj h
    exact e_v hx hb hr hlk hP hD hS (fun _ => 0) rfl (Nat.le_of_ble_eq_true rfl) (Nat.le_of_ble_eq_true rfl) dX8_mark_24
  · obtain ⟨hq1, h⟩ := og_some h
    rw [ctv_some ga z1]
    refine lv_ifnull hx hb dX8_mark_1 ?_
    refine t_aload_n hx hb dX8_mark_4 rfl (lv_at hl 1 rfl) ?_
    rw [ctv_some ga z1]
    refine r_get hx hb hts ok_RX7 hown hK hP (25 + 2 * q1) (go_th hq1) rfl 12 (by decide) w_720 (fun _ h9 => h9) rfl dX8_mark_5 ?_
    obtain ⟨g2, h⟩ := og_some h
    by_cases c3 : gT M q1 12 = 0
    · replace h := it_T h c3
      refine i_if_ne_F hx hb g2 (tgt := 24) dX8_mark_8 (by decide) c3 ?_
      refine t_aload_n hx hb dX8_mark_11 rfl (lv_at hl 1 rfl) ?_
      rw [ctv_some ga z1]
      refine lv_iconst (v := iI 1) hx hb dX8_mark_12 rfl ?_
      refine r_put hx hb hts ok_RX7 hown hK hP hD hS (25 + 2 * q1) (go_th hq1) rfl 12 (by decide) w_720 (fun _ h9 => h9) rfl (v := .int (iI 1)) (nar_b (Or.inr rfl)) (fit_b (Or.inr rfl)) (Nat.le_of_ble_eq_true rfl) dX8_mark_13 (ws' := wld ga n (K 0) (K 1) (sT M q1 12 1)) wT_12 (fun H locs hP hD hS => ?_)
      refine lv_aload_n hx hb dX8_mark_16 rfl (lv_at hl 0 rfl) ?_
      refine r_get hx hb hts ok_RX8 hown hK hP 5 go_5 rfl 2 (by decide) w_159 (fun _ h9 => h9) rfl dX8_mark_17 ?_
      refine t_aload_n hx hb dX8_mark_20 rfl (lv_at hl 1 rfl) ?_
      rw [ctv_some ga z1]
      obtain ⟨x4, ex4, h⟩ := ob_some h
      refine gk_v (run_V (rest := []) hx hb hml hown hts hK hP hD hS hA hm (C_Row_add l G D K H.size ga n (sT M q1 12 1) 5 (by decide) (some q1) ex4) _ (full_C _) (full_n _ List.nodup_range) mok_yX5_add w_575 w_465 w_466 (rcv hK hP (8 + 5) (go_ro (by decide)) rfl rfl) ⟨Nat.le_of_ble_eq_true rfl, Nat.le_of_ble_eq_true rfl⟩ rfl hl.1 rfl (Nat.le_of_ble_eq_true rfl) dX8_mark_21 ⟨(Nat.le_of_ble_eq_true rfl), (Nat.le_of_ble_eq_true rfl)⟩) hP hD hS hA (fun u H locs (hP : va_P D cl (wld ga n (K 0) (K 1) x4) H) (hD : va_D A (wld ga n (K 0) (K 1) x4)) hS => ?_)
      obtain rfl := Option.some.inj h
      exact e_v hx hb hr hlk hP hD hS (fun _ => 0) rfl (Nat.le_of_ble_eq_true rfl) (Nat.le_of_ble_eq_true rfl) dX8_mark_24
    · replace h := it_F h c3
      refine i_if_ne_T hx hb g2 (tgt := 24) dX8_mark_8 (by decide) c3 ?_
      obtain rfl := Option.some.inj h
      exact e_v hx hb hr hlk hP hD hS (fun _ => 0) rfl (Nat.le_of_ble_eq_true rfl) (Nat.le_of_ble_eq_true rfl) dX8_mark_24
def s_Tr_markRoots_2 (rec : cSt → Int → Option (cSt)) (n : Nat)  (M : cSt) (v1 : Int) : Option (cSt) := ob (f_Ro_count n M) (fun x1 => og (inR v1) (og (inR x1) (if v1 < x1 then ob (f_Ro_root n M v1) (fun x5 => ob (f_Tr_mark n M x5) (fun x6 => rec x6 (v1 + 1))) else some M)))
def g_Tr_markRoots_2 (n : Nat)  : Nat → cSt → Int → Option (cSt)
  | 0 => fun _ _ => none
  | q + 1 => s_Tr_markRoots_2 (g_Tr_markRoots_2 n  q) n 
set_option maxHeartbeats 4000000 in
set_option maxRecDepth 100000 in
theorem L_Tr_markRoots_2 {p : Program} {l : Launch} {G : Nat → Nat} {D : va_G} {K : Nat → ClassId} {e : Env} {s : State} {m : MethodId} {args : Array Value} {below : List Frame} {meth : Method} {c : Code} {A : Nat → Prop} (hx : p.tables.exec = Jvm.exec) (hb : c.code = cX8_markRoots) (hr : meth.sig.returnType = (none : Option FieldType)) (hml : c.maxLocals = 3) (hown : s.vm.findClass RX8 = some m.cls) (hts : ∀ w ∈ lw_gw, w.before args s = true) (hlk : meth.locks = false) (hK : va_K D cl (tys K) s) (hA : ∀ q : Nat, s.heap.size ≤ q → A q) (hm : Amb G A s s.heap) {Q : State → Prop} (ga : Nat → Nat) (n : Nat)  : ∀ (q : Nat) (M : cSt) (v1 : Int) (out : cSt), g_Tr_markRoots_2 n  q M v1 = some out → ∀ (ls : Array Slot) (H : Heap) (locs : List Loc), va_P D cl (wld ga n (K 0) (K 1) M) H → va_D A (wld ga n (K 0) (K 1) M) → va_S A s.heap H locs → lv_has ls 3 [(0, .ref (ga 5)), (1, .int (iI v1))] → (∀ (ls : Array Slot) (H : Heap) (locs : List Loc), va_P D cl (wld ga n (K 0) (K 1) out) H → va_D A (wld ga n (K 0) (K 1) out) → va_S A s.heap H locs → lv_has ls 3 [(0, .ref (ga 5))] → W p l e ({ frames := 2, cells := 0, slots := 0, locals := 44 } : Room) s m args below meth c H locs 0 0 Q (F0 m 31 ls [])) → W p l e ({ frames := 2, cells := 0, slots := 0, locals := 44 } : Room) s m args below meth c H locs 0 0 Q (F0 m 2 ls []) := by
  intro q
  induction q with
  | zero =>
    intro M v1 out h
    cases (show none = some out from h)
  | succ q ih =>
    intro M v1 out h ls H locs hP hD hS hl kk
    replace h : s_Tr_markRoots_2 (g_Tr_markRoots_2 n  q) n  M v1 = some out := h
    unfold s_Tr_markRoots_2 at h
    refine lv_iload_n hx hb dX8_markRoots_2 rfl (lv_at hl 1 rfl) ?_
    refine lv_aload_n hx hb dX8_markRoots_3 rfl (lv_at hl 0 rfl) ?_
    refine r_get hx hb hts ok_RX8 hown hK hP 5 go_5 rfl 1 (by decide) w_158 (fun _ h9 => h9) rfl dX8_markRoots_4 ?_
    obtain ⟨x1, ex1, h⟩ := ob_some h
    refine gk_i (run_V (rest := [.int (iI v1)]) hx hb hml hown hts hK hP hD hS hA hm (C_Ro_count l G D K H.size ga n M ex1) _ (full_C _) (full_n _ List.nodup_range) mok_yX4_count w_580 w_469 w_470 (rcv hK hP 1 go_1 rfl rfl) ⟨Nat.le_of_ble_eq_true rfl, Nat.le_of_ble_eq_true rfl⟩ rfl hl.1 rfl (Nat.le_of_ble_eq_true rfl) dX8_markRoots_7 ⟨(Nat.le_of_ble_eq_true rfl), (Nat.le_of_ble_eq_true rfl)⟩) hP hD hS hA (fun u H locs (hP : va_P D cl (wld ga n (K 0) (K 1) M) H) (hD : va_D A (wld ga n (K 0) (K 1) M)) hS => ?_)
    obtain ⟨g2, h⟩ := og_some h
    obtain ⟨g3, h⟩ := og_some h
    by_cases c4 : v1 < x1
    · replace h := it_T h c4
      refine i_icmp_ge_F hx hb g2 g3 (tgt := 31) dX8_markRoots_10 (by decide) c4 ?_
      refine lv_aload_n hx hb dX8_markRoots_13 rfl (lv_at hl 0 rfl) ?_
      refine lv_aload_n hx hb dX8_markRoots_14 rfl (lv_at hl 0 rfl) ?_
      refine r_get hx hb hts ok_RX8 hown hK hP 5 go_5 rfl 1 (by decide) w_158 (fun _ h9 => h9) rfl dX8_markRoots_15 ?_
      refine lv_iload_n hx hb dX8_markRoots_18 rfl (lv_at hl 1 rfl) ?_
      obtain ⟨x5, ex5, h⟩ := ob_some h
      refine gk_q (run_V (rest := [.ref (ga 5)]) hx hb hml hown hts hK hP hD hS hA hm (C_Ro_root l G D K H.size ga n M v1 ex5) _ (full_C _) (full_n _ List.nodup_range) mok_yX4_root w_581 w_474 w_475 (rcv hK hP 1 go_1 rfl rfl) ⟨Nat.le_of_ble_eq_true rfl, Nat.le_of_ble_eq_true rfl⟩ rfl hl.1 rfl (Nat.le_of_ble_eq_true rfl) dX8_markRoots_19 ⟨(Nat.le_of_ble_eq_true rfl), (Nat.le_of_ble_eq_true rfl)⟩) hP hD hS hA (fun u H locs (hP : va_P D cl (wld ga n (K 0) (K 1) M) H) (hD : va_D A (wld ga n (K 0) (K 1) M)) hS => ?_)
      refine w_tov (y := ctv ga x5) rfl ?_
      obtain ⟨x6, ex6, h⟩ := ob_some h
      refine gk_v (run_V (rest := []) hx hb hml hown hts hK hP hD hS hA hm (C_Tr_mark l G D K H.size ga n M x5 ex6) _ (full_C _) (full_n _ List.nodup_range) mok_yX8_mark w_571 w_572 w_573 (rcv hK hP 5 go_5 rfl rfl) ⟨Nat.le_of_ble_eq_true rfl, Nat.le_of_ble_eq_true rfl⟩ rfl hl.1 rfl (Nat.le_of_ble_eq_true rfl) dX8_markRoots_22 ⟨(Nat.le_of_ble_eq_true rfl), (Nat.le_of_ble_eq_true rfl)⟩) hP hD hS hA (fun u H locs (hP : va_P D cl (wld ga n (K 0) (K 1) x6) H) (hD : va_D A (wld ga n (K 0) (K 1) x6)) hS => ?_)
      refine x_iinc (v := iI (v1 + 1)) hx hb dX8_markRoots_25 hl (k := 1) rfl (iI_add v1 1) (by decide) [0] (lv' := [(0, .ref (ga 5))]) rfl (⟨⟨Nat.ne_of_beq_eq_false rfl, Or.inr rfl⟩, trivial⟩) (fun ls hl => ?_)
      refine lv_goto (tgt := 2) hx hb dX8_markRoots_28 (by decide) ?_
      exact ih x6 (v1 + 1) _ h _ _ _ hP hD hS (lv_pk hl [1, 0] rfl) kk
    · replace h := it_F h c4
      refine i_icmp_ge_T hx hb g2 g3 (tgt := 31) dX8_markRoots_10 (by decide) c4 ?_
      obtain rfl := Option.some.inj h
      exact kk _ _ _ hP hD hS (lv_pk hl [0] rfl)
def s_Tr_markRoots_33 (rec : cSt → Int → Option (cSt)) (n : Nat)  (M : cSt) (v1 : Int) : Option (cSt) := ob (f_Row_size n M 0) (fun x8 => og (inR v1) (og (inR x8) (if v1 < x8 then ob (f_Row_item n M 0 v1) (fun x12 => on x12 (rec M (v1 + 1)) (fun q13 => og (q13 < n) (og (inR (gT M q13 9)) (if gT M q13 9 = 0 then rec M (v1 + 1) else ob (f_Tr_mark n M (some q13)) (fun x16 => rec x16 (v1 + 1)))))) else some M)))
def g_Tr_markRoots_33 (n : Nat)  : Nat → cSt → Int → Option (cSt)
  | 0 => fun _ _ => none
  | q + 1 => s_Tr_markRoots_33 (g_Tr_markRoots_33 n  q) n 
set_option maxHeartbeats 4000000 in
set_option maxRecDepth 100000 in
theorem L_Tr_markRoots_33 {p : Program} {l : Launch} {G : Nat → Nat} {D : va_G} {K : Nat → ClassId} {e : Env} {s : State} {m : MethodId} {args : Array Value} {below : List Frame} {meth : Method} {c : Code} {A : Nat → Prop} (hx : p.tables.exec = Jvm.exec) (hb : c.code = cX8_markRoots) (hr : meth.sig.returnType = (none : Option FieldType)) (hml : c.maxLocals = 3) (hown : s.vm.findClass RX8 = some m.cls) (hts : ∀ w ∈ lw_gw, w.before args s = true) (hlk : meth.locks = false) (hK : va_K D cl (tys K) s) (hA : ∀ q : Nat, s.heap.size ≤ q → A q) (hm : Amb G A s s.heap) {Q : State → Prop} (ga : Nat → Nat) (n : Nat)  : ∀ (q : Nat) (M : cSt) (v1 : Int) (out : cSt), g_Tr_markRoots_33 n  q M v1 = some out → ∀ (ls : Array Slot) (H : Heap) (locs : List Loc), va_P D cl (wld ga n (K 0) (K 1) M) H → va_D A (wld ga n (K 0) (K 1) M) → va_S A s.heap H locs → lv_has ls 3 [(0, .ref (ga 5)), (1, .int (iI v1))] → (∀ (ls : Array Slot) (H : Heap) (locs : List Loc), va_P D cl (wld ga n (K 0) (K 1) out) H → va_D A (wld ga n (K 0) (K 1) out) → va_S A s.heap H locs → lv_has ls 3 [] → W p l e ({ frames := 2, cells := 0, slots := 0, locals := 44 } : Room) s m args below meth c H locs 0 0 Q (F0 m 75 ls [])) → W p l e ({ frames := 2, cells := 0, slots := 0, locals := 44 } : Room) s m args below meth c H locs 0 0 Q (F0 m 33 ls []) := by
  intro q
  induction q with
  | zero =>
    intro M v1 out h
    cases (show none = some out from h)
  | succ q ih =>
    intro M v1 out h ls H locs hP hD hS hl kk
    replace h : s_Tr_markRoots_33 (g_Tr_markRoots_33 n  q) n  M v1 = some out := h
    unfold s_Tr_markRoots_33 at h
    refine lv_iload_n hx hb dX8_markRoots_33 rfl (lv_at hl 1 rfl) ?_
    refine lv_aload_n hx hb dX8_markRoots_34 rfl (lv_at hl 0 rfl) ?_
    refine r_get hx hb hts ok_RX8 hown hK hP 5 go_5 rfl 0 (by decide) w_157 (fun _ h9 => h9) rfl dX8_markRoots_35 ?_
    obtain ⟨x8, ex8, h⟩ := ob_some h
    refine gk_i (run_V (rest := [.int (iI v1)]) hx hb hml hown hts hK hP hD hS hA hm (C_Row_size l G D K H.size ga n M 0 (by decide) ex8) _ (full_C _) (full_n _ List.nodup_range) mok_yX5_size w_565 w_405 w_406 (rcv hK hP (8 + 0) (go_ro (by decide)) rfl rfl) ⟨Nat.le_of_ble_eq_true rfl, Nat.le_of_ble_eq_true rfl⟩ rfl hl.1 rfl (Nat.le_of_ble_eq_true rfl) dX8_markRoots_38 ⟨(Nat.le_of_ble_eq_true rfl), (Nat.le_of_ble_eq_true rfl)⟩) hP hD hS hA (fun u H locs (hP : va_P D cl (wld ga n (K 0) (K 1) M) H) (hD : va_D A (wld ga n (K 0) (K 1) M)) hS => ?_)
    obtain ⟨g9, h⟩ := og_some h
    obtain ⟨g10, h⟩ := og_some h
    by_cases c11 : v1 < x8
    · replace h := it_T h c11
      refine i_icmp_ge_F hx hb g9 g10 (tgt := 75) dX8_markRoots_41 (by decide) c11 ?_
      refine lv_aload_n hx hb dX8_markRoots_44 rfl (lv_at hl 0 rfl) ?_
      refine r_get hx hb hts ok_RX8 hown hK hP 5 go_5 rfl 0 (by decide) w_157 (fun _ h9 => h9) rfl dX8_markRoots_45 ?_
      refine lv_iload_n hx hb dX8_markRoots_48 rfl (lv_at hl 1 rfl) ?_
      obtain ⟨x12, ex12, h⟩ := ob_some h
      refine gk_q (run_V (rest := []) hx hb hml hown hts hK hP hD hS hA hm (C_Row_item l G D K H.size ga n M 0 (by decide) v1 ex12) _ (full_C _) (full_n _ List.nodup_range) mok_yX5_item w_566 w_419 w_420 (rcv hK hP (8 + 0) (go_ro (by decide)) rfl rfl) ⟨Nat.le_of_ble_eq_true rfl, Nat.le_of_ble_eq_true rfl⟩ rfl hl.1 rfl (Nat.le_of_ble_eq_true rfl) dX8_markRoots_49 ⟨(Nat.le_of_ble_eq_true rfl), (Nat.le_of_ble_eq_true rfl)⟩) hP hD hS hA (fun u H locs (hP : va_P D cl (wld ga n (K 0) (K 1) M) H) (hD : va_D A (wld ga n (K 0) (K 1) M)) hS => ?_)
      refine w_tov (y := ctv ga x12) rfl ?_
      refine t_astore_n hx hb dX8_markRoots_52 rfl hl (by decide) [0, 1] (lv' := [(0, .ref (ga 5)), (1, .int (iI v1))]) rfl (⟨⟨Nat.ne_of_beq_eq_false rfl, Or.inl (Nat.ne_of_beq_eq_false rfl)⟩, ⟨⟨Nat.ne_of_beq_eq_false rfl, Or.inr rfl⟩, trivial⟩⟩) (fun ls hl => ?_)
      refine t_aload_n hx hb dX8_markRoots_53 rfl (lv_at hl 0 rfl) ?_
      rcases on_cases h with ⟨z13, h⟩ | ⟨q13, z13, h⟩
      · rw [ctv_none ga z13]
        refine lv_ifnullN (tgt := 69) hx hb dX8_markRoots_54 (by decide) ?_
        refine x_iinc (v := iI (v1 + 1)) hx hb dX8_markRoots_69 hl (k := 2) rfl (iI_add v1 1) (by decide) [0, 1] (lv' := [(2, ctv ga x12), (0, .ref (ga 5))]) rfl (⟨⟨Nat.ne_of_beq_eq_false rfl, Or.inl (Nat.ne_of_beq_eq_false rfl)⟩, ⟨⟨Nat.ne_of_beq_eq_false rfl, Or.inr rfl⟩, trivial⟩⟩) (fun ls hl => ?_)
        refine lv_goto (tgt := 33) hx hb dX8_markRoots_72 (by decide) ?_
        exact ih M (v1 + 1) _ h _ _ _ hP hD hS (lv_pk hl [2, 0] rfl) kk
      · obtain ⟨hq13, h⟩ := og_some h
        rw [ctv_some ga z13]
        refine lv_ifnull hx hb dX8_markRoots_54 ?_
        refine t_aload_n hx hb dX8_markRoots_57 rfl (lv_at hl 0 rfl) ?_
        rw [ctv_some ga z13]
        refine r_get hx hb hts ok_RX7 hown hK hP (25 + 2 * q13) (go_th hq13) rfl 9 (by decide) w_711 (fun _ h9 => h9) rfl dX8_markRoots_58 ?_
        obtain ⟨g14, h⟩ := og_some h
        by_cases c15 : gT M q13 9 = 0
        · replace h := it_T h c15
          refine i_if_eq_T hx hb g14 (tgt := 69) dX8_markRoots_61 (by decide) c15 ?_
          refine x_iinc (v := iI (v1 + 1)) hx hb dX8_markRoots_69 hl (k := 2) rfl (iI_add v1 1) (by decide) [0, 1] (lv' := [(2, ctv ga x12), (0, .ref (ga 5))]) rfl (⟨⟨Nat.ne_of_beq_eq_false rfl, Or.inl (Nat.ne_of_beq_eq_false rfl)⟩, ⟨⟨Nat.ne_of_beq_eq_false rfl, Or.inr rfl⟩, trivial⟩⟩) (fun ls hl => ?_)
          refine lv_goto (tgt := 33) hx hb dX8_markRoots_72 (by decide) ?_
          exact ih M (v1 + 1) _ h _ _ _ hP hD hS (lv_pk hl [2, 0] rfl) kk
        · replace h := it_F h c15
          refine i_if_eq_F hx hb g14 (tgt := 69) dX8_markRoots_61 (by decide) c15 ?_
          refine lv_aload_n hx hb dX8_markRoots_64 rfl (lv_at hl 1 rfl) ?_
          refine t_aload_n hx hb dX8_markRoots_65 rfl (lv_at hl 0 rfl) ?_
          rw [ctv_some ga z13]
          obtain ⟨x16, ex16, h⟩ := ob_some h
          refine gk_v (run_V (rest := []) hx hb hml hown hts hK hP hD hS hA hm (C_Tr_mark l G D K H.size ga n M (some q13) ex16) _ (full_C _) (full_n _ List.nodup_range) mok_yX8_mark w_571 w_572 w_573 (rcv hK hP 5 go_5 rfl rfl) ⟨Nat.le_of_ble_eq_true rfl, Nat.le_of_ble_eq_true rfl⟩ rfl hl.1 rfl (Nat.le_of_ble_eq_true rfl) dX8_markRoots_66 ⟨(Nat.le_of_ble_eq_true rfl), (Nat.le_of_ble_eq_true rfl)⟩) hP hD hS hA (fun u H locs (hP : va_P D cl (wld ga n (K 0) (K 1) x16) H) (hD : va_D A (wld ga n (K 0) (K 1) x16)) hS => ?_)
          refine x_iinc (v := iI (v1 + 1)) hx hb dX8_markRoots_69 hl (k := 2) rfl (iI_add v1 1) (by decide) [0, 1] (lv' := [(2, ctv ga x12), (0, .ref (ga 5))]) rfl (⟨⟨Nat.ne_of_beq_eq_false rfl, Or.inl (Nat.ne_of_beq_eq_false rfl)⟩, ⟨⟨Nat.ne_of_beq_eq_false rfl, Or.inr rfl⟩, trivial⟩⟩) (fun ls hl => ?_)
          refine lv_goto (tgt := 33) hx hb dX8_markRoots_72 (by decide) ?_
          exact ih x16 (v1 + 1) _ h _ _ _ hP hD hS (lv_pk hl [2, 0] rfl) kk
    · replace h := it_F h c11
      refine i_icmp_ge_T hx hb g9 g10 (tgt := 75) dX8_markRoots_41 (by decide) c11 ?_
      obtain rfl := Option.some.inj h
      exact kk _ _ _ hP hD hS (lv_pk hl [] rfl)
def f_Tr_markRoots (n : Nat) (M : cSt)  : Option (cSt) := ob (g_Tr_markRoots_2 n  fu M 0) (fun x7 => ob (g_Tr_markRoots_33 n  fu x7 0) (fun x17 => some x17))
set_option maxHeartbeats 4000000 in
set_option maxRecDepth 100000 in
theorem C_Tr_markRoots (l : Launch) (G : Nat → Nat) (D : va_G) (K : Nat → ClassId) (sz : Nat) (ga : Nat → Nat) (n : Nat) (M : cSt)  {x : cSt} (h : f_Tr_markRoots n M  = some x) : CM l yX8_markRoots cX8_markRoots 3 (none : Option FieldType) ({ frames := 2, cells := 0, slots := 0, locals := 44 } : Room) G D K [.ref (ga 5)] (wld ga n (K 0) (K 1) M) sz (CQv D (fun _ => wld ga n (K 0) (K 1) x)) := by
  refine CM_of (lv0 := [(0, .ref (ga 5))]) pn_RX8 (Nat.le_of_ble_eq_true rfl) rfl (fun p e s m args below meth c A ls hx hb hr hml hown hts hlk hnm hP hK hD hS hA hm hl => ?_)
  have hown : s.vm.findClass RX8 = some m.cls := hown
  unfold f_Tr_markRoots at h
  refine lv_iconst (v := iI 0) hx hb dX8_markRoots_0 rfl ?_
  refine x_istore_n hx hb dX8_markRoots_1 rfl hl (by decide) [0] (lv' := [(0, .ref (ga 5))]) rfl (⟨⟨Nat.ne_of_beq_eq_false rfl, Or.inr rfl⟩, trivial⟩) (fun ls hl => ?_)
  obtain ⟨x7, ex7, h⟩ := ob_some h
  refine L_Tr_markRoots_2 hx hb hr hml hown hts hlk hK hA hm ga n   fu M 0 _ ex7 _ _ _ hP hD hS (lv_pk hl [1, 0] rfl) (fun ls H locs (hP : va_P D cl (wld ga n (K 0) (K 1) x7) H) (hD : va_D A (wld ga n (K 0) (K 1) x7)) hS (hl : lv_has ls 3 [(0, .ref (ga 5))]) => ?_)
  refine lv_iconst (v := iI 0) hx hb dX8_markRoots_31 rfl ?_
  refine x_istore_n hx hb dX8_markRoots_32 rfl hl (by decide) [0] (lv' := [(0, .ref (ga 5))]) rfl (⟨⟨Nat.ne_of_beq_eq_false rfl, Or.inr rfl⟩, trivial⟩) (fun ls hl => ?_)
  obtain ⟨x17, ex17, h⟩ := ob_some h
  refine L_Tr_markRoots_33 hx hb hr hml hown hts hlk hK hA hm ga n   fu x7 0 _ ex17 _ _ _ hP hD hS (lv_pk hl [1, 0] rfl) (fun ls H locs (hP : va_P D cl (wld ga n (K 0) (K 1) x17) H) (hD : va_D A (wld ga n (K 0) (K 1) x17)) hS (hl : lv_has ls 3 []) => ?_)
  obtain rfl := Option.some.inj h
  exact e_v hx hb hr hlk hP hD hS (fun _ => 0) rfl (Nat.le_of_ble_eq_true rfl) (Nat.le_of_ble_eq_true rfl) dX8_markRoots_75
def s_Tr_markBlack_2 (rec : cSt → Int → Option (cSt)) (n : Nat)  (M : cSt) (v1 : Int) : Option (cSt) := ob (f_Row_size n M 0) (fun x1 => og (inR v1) (og (inR x1) (if v1 < x1 then ob (f_Row_item n M 0 v1) (fun x5 => on x5 (rec M (v1 + 1)) (fun q6 => og (q6 < n) (og (inR (gT M q6 10)) (if gT M q6 10 = 2 then ob (f_Tr_mark n M (some q6)) (fun x9 => rec x9 (v1 + 1)) else rec M (v1 + 1))))) else some M)))
def g_Tr_markBlack_2 (n : Nat)  : Nat → cSt → Int → Option (cSt)
  | 0 => fun _ _ => none
  | q + 1 => s_Tr_markBlack_2 (g_Tr_markBlack_2 n  q) n 
set_option maxHeartbeats 4000000 in
set_option maxRecDepth 100000 in
theorem L_Tr_markBlack_2 {p : Program} {l : Launch} {G : Nat → Nat} {D : va_G} {K : Nat → ClassId} {e : Env} {s : State} {m : MethodId} {args : Array Value} {below : List Frame} {meth : Method} {c : Code} {A : Nat → Prop} (hx : p.tables.exec = Jvm.exec) (hb : c.code = cX8_markBlack) (hr : meth.sig.returnType = (none : Option FieldType)) (hml : c.maxLocals = 3) (hown : s.vm.findClass RX8 = some m.cls) (hts : ∀ w ∈ lw_gw, w.before args s = true) (hlk : meth.locks = false) (hK : va_K D cl (tys K) s) (hA : ∀ q : Nat, s.heap.size ≤ q → A q) (hm : Amb G A s s.heap) {Q : State → Prop} (ga : Nat → Nat) (n : Nat)  : ∀ (q : Nat) (M : cSt) (v1 : Int) (out : cSt), g_Tr_markBlack_2 n  q M v1 = some out → ∀ (ls : Array Slot) (H : Heap) (locs : List Loc), va_P D cl (wld ga n (K 0) (K 1) M) H → va_D A (wld ga n (K 0) (K 1) M) → va_S A s.heap H locs → lv_has ls 3 [(0, .ref (ga 5)), (1, .int (iI v1))] → (∀ (ls : Array Slot) (H : Heap) (locs : List Loc), va_P D cl (wld ga n (K 0) (K 1) out) H → va_D A (wld ga n (K 0) (K 1) out) → va_S A s.heap H locs → lv_has ls 3 [(0, .ref (ga 5))] → W p l e ({ frames := 2, cells := 0, slots := 0, locals := 42 } : Room) s m args below meth c H locs 0 0 Q (F0 m 45 ls [])) → W p l e ({ frames := 2, cells := 0, slots := 0, locals := 42 } : Room) s m args below meth c H locs 0 0 Q (F0 m 2 ls []) := by
  intro q
  induction q with
  | zero =>
    intro M v1 out h
    cases (show none = some out from h)
  | succ q ih =>
    intro M v1 out h ls H locs hP hD hS hl kk
    replace h : s_Tr_markBlack_2 (g_Tr_markBlack_2 n  q) n  M v1 = some out := h
    unfold s_Tr_markBlack_2 at h
    refine lv_iload_n hx hb dX8_markBlack_2 rfl (lv_at hl 1 rfl) ?_
    refine lv_aload_n hx hb dX8_markBlack_3 rfl (lv_at hl 0 rfl) ?_
    refine r_get hx hb hts ok_RX8 hown hK hP 5 go_5 rfl 0 (by decide) w_157 (fun _ h9 => h9) rfl dX8_markBlack_4 ?_
    obtain ⟨x1, ex1, h⟩ := ob_some h
    refine gk_i (run_V (rest := [.int (iI v1)]) hx hb hml hown hts hK hP hD hS hA hm (C_Row_size l G D K H.size ga n M 0 (by decide) ex1) _ (full_C _) (full_n _ List.nodup_range) mok_yX5_size w_565 w_405 w_406 (rcv hK hP (8 + 0) (go_ro (by decide)) rfl rfl) ⟨Nat.le_of_ble_eq_true rfl, Nat.le_of_ble_eq_true rfl⟩ rfl hl.1 rfl (Nat.le_of_ble_eq_true rfl) dX8_markBlack_7 ⟨(Nat.le_of_ble_eq_true rfl), (Nat.le_of_ble_eq_true rfl)⟩) hP hD hS hA (fun u H locs (hP : va_P D cl (wld ga n (K 0) (K 1) M) H) (hD : va_D A (wld ga n (K 0) (K 1) M)) hS => ?_)
    obtain ⟨g2, h⟩ := og_some h
    obtain ⟨g3, h⟩ := og_some h
    by_cases c4 : v1 < x1
    · replace h := it_T h c4
      refine i_icmp_ge_F hx hb g2 g3 (tgt := 45) dX8_markBlack_10 (by decide) c4 ?_
      refine lv_aload_n hx hb dX8_markBlack_13 rfl (lv_at hl 0 rfl) ?_
      refine r_get hx hb hts ok_RX8 hown hK hP 5 go_5 rfl 0 (by decide) w_157 (fun _ h9 => h9) rfl dX8_markBlack_14 ?_
      refine lv_iload_n hx hb dX8_markBlack_17 rfl (lv_at hl 1 rfl) ?_
      obtain ⟨x5, ex5, h⟩ := ob_some h
      refine gk_q (run_V (rest := []) hx hb hml hown hts hK hP hD hS hA hm (C_Row_item l G D K H.size ga n M 0 (by decide) v1 ex5) _ (full_C _) (full_n _ List.nodup_range) mok_yX5_item w_566 w_419 w_420 (rcv hK hP (8 + 0) (go_ro (by decide)) rfl rfl) ⟨Nat.le_of_ble_eq_true rfl, Nat.le_of_ble_eq_true rfl⟩ rfl hl.1 rfl (Nat.le_of_ble_eq_true rfl) dX8_markBlack_18 ⟨(Nat.le_of_ble_eq_true rfl), (Nat.le_of_ble_eq_true rfl)⟩) hP hD hS hA (fun u H locs (hP : va_P D cl (wld ga n (K 0) (K 1) M) H) (hD : va_D A (wld ga n (K 0) (K 1) M)) hS => ?_)
      refine w_tov (y := ctv ga x5) rfl ?_
      refine t_astore_n hx hb dX8_markBlack_21 rfl hl (by decide) [0, 1] (lv' := [(0, .ref (ga 5)), (1, .int (iI v1))]) rfl (⟨⟨Nat.ne_of_beq_eq_false rfl, Or.inl (Nat.ne_of_beq_eq_false rfl)⟩, ⟨⟨Nat.ne_of_beq_eq_false rfl, Or.inr rfl⟩, trivial⟩⟩) (fun ls hl => ?_)
      refine t_aload_n hx hb dX8_markBlack_22 rfl (lv_at hl 0 rfl) ?_
      rcases on_cases h with ⟨z6, h⟩ | ⟨q6, z6, h⟩
      · rw [ctv_none ga z6]
        refine lv_ifnullN (tgt := 39) hx hb dX8_markBlack_23 (by decide) ?_
        refine x_iinc (v := iI (v1 + 1)) hx hb dX8_markBlack_39 hl (k := 2) rfl (iI_add v1 1) (by decide) [0, 1] (lv' := [(2, ctv ga x5), (0, .ref (ga 5))]) rfl (⟨⟨Nat.ne_of_beq_eq_false rfl, Or.inl (Nat.ne_of_beq_eq_false rfl)⟩, ⟨⟨Nat.ne_of_beq_eq_false rfl, Or.inr rfl⟩, trivial⟩⟩) (fun ls hl => ?_)
        refine lv_goto (tgt := 2) hx hb dX8_markBlack_42 (by decide) ?_
        exact ih M (v1 + 1) _ h _ _ _ hP hD hS (lv_pk hl [2, 0] rfl) kk
      · obtain ⟨hq6, h⟩ := og_some h
        rw [ctv_some ga z6]
        refine lv_ifnull hx hb dX8_markBlack_23 ?_
        refine t_aload_n hx hb dX8_markBlack_26 rfl (lv_at hl 0 rfl) ?_
        rw [ctv_some ga z6]
        refine r_get hx hb hts ok_RX7 hown hK hP (25 + 2 * q6) (go_th hq6) rfl 10 (by decide) w_715 (fun _ h9 => h9) rfl dX8_markBlack_27 ?_
        refine lv_iconst (v := iI 2) hx hb dX8_markBlack_30 rfl ?_
        obtain ⟨g7, h⟩ := og_some h
        by_cases c8 : gT M q6 10 = 2
        · replace h := it_T h c8
          refine i_icmp_ne_F hx hb g7 ⟨by decide, by decide⟩ (tgt := 39) dX8_markBlack_31 (by decide) c8 ?_
          refine lv_aload_n hx hb dX8_markBlack_34 rfl (lv_at hl 1 rfl) ?_
          refine t_aload_n hx hb dX8_markBlack_35 rfl (lv_at hl 0 rfl) ?_
          rw [ctv_some ga z6]
          obtain ⟨x9, ex9, h⟩ := ob_some h
          refine gk_v (run_V (rest := []) hx hb hml hown hts hK hP hD hS hA hm (C_Tr_mark l G D K H.size ga n M (some q6) ex9) _ (full_C _) (full_n _ List.nodup_range) mok_yX8_mark w_571 w_572 w_573 (rcv hK hP 5 go_5 rfl rfl) ⟨Nat.le_of_ble_eq_true rfl, Nat.le_of_ble_eq_true rfl⟩ rfl hl.1 rfl (Nat.le_of_ble_eq_true rfl) dX8_markBlack_36 ⟨(Nat.le_of_ble_eq_true rfl), (Nat.le_of_ble_eq_true rfl)⟩) hP hD hS hA (fun u H locs (hP : va_P D cl (wld ga n (K 0) (K 1) x9) H) (hD : va_D A (wld ga n (K 0) (K 1) x9)) hS => ?_)
          refine x_iinc (v := iI (v1 + 1)) hx hb dX8_markBlack_39 hl (k := 2) rfl (iI_add v1 1) (by decide) [0, 1] (lv' := [(2, ctv ga x5), (0, .ref (ga 5))]) rfl (⟨⟨Nat.ne_of_beq_eq_false rfl, Or.inl (Nat.ne_of_beq_eq_false rfl)⟩, ⟨⟨Nat.ne_of_beq_eq_false rfl, Or.inr rfl⟩, trivial⟩⟩) (fun ls hl => ?_)
          refine lv_goto (tgt := 2) hx hb dX8_markBlack_42 (by decide) ?_
          exact ih x9 (v1 + 1) _ h _ _ _ hP hD hS (lv_pk hl [2, 0] rfl) kk
        · replace h := it_F h c8
          refine i_icmp_ne_T hx hb g7 ⟨by decide, by decide⟩ (tgt := 39) dX8_markBlack_31 (by decide) c8 ?_
          refine x_iinc (v := iI (v1 + 1)) hx hb dX8_markBlack_39 hl (k := 2) rfl (iI_add v1 1) (by decide) [0, 1] (lv' := [(2, ctv ga x5), (0, .ref (ga 5))]) rfl (⟨⟨Nat.ne_of_beq_eq_false rfl, Or.inl (Nat.ne_of_beq_eq_false rfl)⟩, ⟨⟨Nat.ne_of_beq_eq_false rfl, Or.inr rfl⟩, trivial⟩⟩) (fun ls hl => ?_)
          refine lv_goto (tgt := 2) hx hb dX8_markBlack_42 (by decide) ?_
          exact ih M (v1 + 1) _ h _ _ _ hP hD hS (lv_pk hl [2, 0] rfl) kk
    · replace h := it_F h c4
      refine i_icmp_ge_T hx hb g2 g3 (tgt := 45) dX8_markBlack_10 (by decide) c4 ?_
      obtain rfl := Option.some.inj h
      exact kk _ _ _ hP hD hS (lv_pk hl [0] rfl)
def f_Tr_markBlack (n : Nat) (M : cSt)  : Option (cSt) := ob (g_Tr_markBlack_2 n  fu M 0) (fun x10 => ob (f_Row_size n x10 5) (fun x11 => some (sI x10 18 x11)))
set_option maxHeartbeats 4000000 in
set_option maxRecDepth 100000 in
theorem C_Tr_markBlack (l : Launch) (G : Nat → Nat) (D : va_G) (K : Nat → ClassId) (sz : Nat) (ga : Nat → Nat) (n : Nat) (M : cSt)  {x : cSt} (h : f_Tr_markBlack n M  = some x) : CM l yX8_markBlack cX8_markBlack 3 (none : Option FieldType) ({ frames := 2, cells := 0, slots := 0, locals := 42 } : Room) G D K [.ref (ga 5)] (wld ga n (K 0) (K 1) M) sz (CQv D (fun _ => wld ga n (K 0) (K 1) x)) := by
  refine CM_of (lv0 := [(0, .ref (ga 5))]) pn_RX8 (Nat.le_of_ble_eq_true rfl) rfl (fun p e s m args below meth c A ls hx hb hr hml hown hts hlk hnm hP hK hD hS hA hm hl => ?_)
  have hown : s.vm.findClass RX8 = some m.cls := hown
  unfold f_Tr_markBlack at h
  refine lv_iconst (v := iI 0) hx hb dX8_markBlack_0 rfl ?_
  refine x_istore_n hx hb dX8_markBlack_1 rfl hl (by decide) [0] (lv' := [(0, .ref (ga 5))]) rfl (⟨⟨Nat.ne_of_beq_eq_false rfl, Or.inr rfl⟩, trivial⟩) (fun ls hl => ?_)
  obtain ⟨x10, ex10, h⟩ := ob_some h
  refine L_Tr_markBlack_2 hx hb hr hml hown hts hlk hK hA hm ga n   fu M 0 _ ex10 _ _ _ hP hD hS (lv_pk hl [1, 0] rfl) (fun ls H locs (hP : va_P D cl (wld ga n (K 0) (K 1) x10) H) (hD : va_D A (wld ga n (K 0) (K 1) x10)) hS (hl : lv_has ls 3 [(0, .ref (ga 5))]) => ?_)
  refine lv_aload_n hx hb dX8_markBlack_45 rfl (lv_at hl 0 rfl) ?_
  refine lv_aload_n hx hb dX8_markBlack_46 rfl (lv_at hl 0 rfl) ?_
  refine r_get hx hb hts ok_RX8 hown hK hP 5 go_5 rfl 2 (by decide) w_159 (fun _ h9 => h9) rfl dX8_markBlack_47 ?_
  obtain ⟨x11, ex11, h⟩ := ob_some h
  refine gk_i (run_V (rest := [.ref (ga 5)]) hx hb hml hown hts hK hP hD hS hA hm (C_Row_size l G D K H.size ga n x10 5 (by decide) ex11) _ (full_C _) (full_n _ List.nodup_range) mok_yX5_size w_565 w_405 w_406 (rcv hK hP (8 + 5) (go_ro (by decide)) rfl rfl) ⟨Nat.le_of_ble_eq_true rfl, Nat.le_of_ble_eq_true rfl⟩ rfl hl.1 rfl (Nat.le_of_ble_eq_true rfl) dX8_markBlack_50 ⟨(Nat.le_of_ble_eq_true rfl), (Nat.le_of_ble_eq_true rfl)⟩) hP hD hS hA (fun u H locs (hP : va_P D cl (wld ga n (K 0) (K 1) x10) H) (hD : va_D A (wld ga n (K 0) (K 1) x10)) hS => ?_)
  refine r_put hx hb hts ok_RX8 hown hK hP hD hS 5 go_5 rfl 3 (by decide) w_160 (fun _ h9 => h9) rfl (v := .int (iI x11)) rfl rfl (Nat.le_of_ble_eq_true rfl) dX8_markBlack_53 (ws' := wld ga n (K 0) (K 1) (sI x10 18 x11)) wI_18 (fun H locs hP hD hS => ?_)
  obtain rfl := Option.some.inj h
  exact e_v hx hb hr hlk hP hD hS (fun _ => 0) rfl (Nat.le_of_ble_eq_true rfl) (Nat.le_of_ble_eq_true rfl) dX8_markBlack_56
def f_Tr_firstStrongField (n : Nat) (M : cSt) (a1 : Int) : Option (Int) := og (inR a1) (if a1 = 3 then some 2 else ob (f_X_isLoose n M a1 (gI M 19)) (fun x3 => og (inR x3) (if x3 = 0 then some 0 else some 1)))
set_option maxHeartbeats 4000000 in
set_option maxRecDepth 100000 in
theorem C_Tr_firstStrongField (l : Launch) (G : Nat → Nat) (D : va_G) (K : Nat → ClassId) (sz : Nat) (ga : Nat → Nat) (n : Nat) (M : cSt) (a1 : Int) {x : Int} (h : f_Tr_firstStrongField n M a1 = some x) : CM l yX8_firstStrongField cX8_firstStrongField 2 (some FieldType.int) ({ frames := 1, cells := 0, slots := 0, locals := 21 } : Room) G D K [.ref (ga 5), .int (iI a1)] (wld ga n (K 0) (K 1) M) sz (CQi (iI x) D (fun _ => wld ga n (K 0) (K 1) M)) := by
  refine CM_of (lv0 := [(0, .ref (ga 5)), (1, .int (iI a1))]) pn_RX8 (Nat.le_of_ble_eq_true rfl) rfl (fun p e s m args below meth c A ls hx hb hr hml hown hts hlk hnm hP hK hD hS hA hm hl => ?_)
  have hown : s.vm.findClass RX8 = some m.cls := hown
  unfold f_Tr_firstStrongField at h
  refine lv_iload_n hx hb dX8_firstStrongField_0 rfl (lv_at hl 1 rfl) ?_
  refine lv_iconst (v := iI 3) hx hb dX8_firstStrongField_1 rfl ?_
  obtain ⟨g1, h⟩ := og_some h
  by_cases c2 : a1 = 3
  · replace h := it_T h c2
    refine i_icmp_ne_F hx hb g1 ⟨by decide, by decide⟩ (tgt := 7) dX8_firstStrongField_2 (by decide) c2 ?_
    refine lv_iconst (v := iI 2) hx hb dX8_firstStrongField_5 rfl ?_
    obtain rfl := Option.some.inj h
    exact e_i hx hb hr hlk hP hD hS (fun _ => 0) rfl (Nat.le_of_ble_eq_true rfl) (Nat.le_of_ble_eq_true rfl) rfl dX8_firstStrongField_6
  · replace h := it_F h c2
    refine i_icmp_ne_T hx hb g1 ⟨by decide, by decide⟩ (tgt := 7) dX8_firstStrongField_2 (by decide) c2 ?_
    refine lv_iload_n hx hb dX8_firstStrongField_7 rfl (lv_at hl 1 rfl) ?_
    refine lv_aload_n hx hb dX8_firstStrongField_8 rfl (lv_at hl 0 rfl) ?_
    refine r_get hx hb hts ok_RX8 hown hK hP 5 go_5 rfl 4 (by decide) w_161 (fun _ h9 => h9) rfl dX8_firstStrongField_9 ?_
    obtain ⟨x3, ex3, h⟩ := ob_some h
    refine gk_i (run_SN (rest := []) hx hb hml hown hts hK hP hD hS hA hm (C_X_isLoose l G D K s.heap.size ga n M a1 (gI M 19) ex3) _ (full_C _) (full_n _ List.nodup_range) mok_yX9_isLoose w_594 w_595 ⟨Nat.le_of_ble_eq_true rfl, Nat.le_of_ble_eq_true rfl⟩ rfl hl.1 rfl (Nat.le_of_ble_eq_true rfl) dX8_firstStrongField_12 ⟨(Nat.le_of_ble_eq_true rfl), (Nat.le_of_ble_eq_true rfl)⟩) hP hD hS hA (fun u H locs (hP : va_P D cl (wld ga n (K 0) (K 1) M) H) (hD : va_D A (wld ga n (K 0) (K 1) M)) hS => ?_)
    obtain ⟨g4, h⟩ := og_some h
    by_cases c5 : x3 = 0
    · replace h := it_T h c5
      refine i_if_eq_T hx hb g4 (tgt := 22) dX8_firstStrongField_15 (by decide) c5 ?_
      refine lv_iconst (v := iI 0) hx hb dX8_firstStrongField_22 rfl ?_
      obtain rfl := Option.some.inj h
      exact e_i hx hb hr hlk hP hD hS (fun _ => 0) rfl (Nat.le_of_ble_eq_true rfl) (Nat.le_of_ble_eq_true rfl) rfl dX8_firstStrongField_23
    · replace h := it_F h c5
      refine i_if_eq_F hx hb g4 (tgt := 22) dX8_firstStrongField_15 (by decide) c5 ?_
      refine lv_iconst (v := iI 1) hx hb dX8_firstStrongField_18 rfl ?_
      refine lv_goto (tgt := 23) hx hb dX8_firstStrongField_19 (by decide) ?_
      obtain rfl := Option.some.inj h
      exact e_i hx hb hr hlk hP hD hS (fun _ => 0) rfl (Nat.le_of_ble_eq_true rfl) (Nat.le_of_ble_eq_true rfl) rfl dX8_firstStrongField_23
def s_Tr_markFieldsOf_22 (rec : cSt → Int → Option (cSt)) (n : Nat) (v1 : Option Nat) (M : cSt) (v2 : Int) : Option (cSt) := on v1 none (fun q4 => og (q4 < n) (og (gL M q4 < 2147483648) (og (inR v2) (og (inR (gL M q4 : Int)) (if v2 < (gL M q4 : Int) then og (0 ≤ v2 ∧ v2 < (gL M q4 : Int)) (ob (f_Tr_mark n M (gF M q4 (v2.toNat))) (fun x10 => rec x10 (v2 + 1))) else some M)))))
def g_Tr_markFieldsOf_22 (n : Nat) (v1 : Option Nat) : Nat → cSt → Int → Option (cSt)
  | 0 => fun _ _ => none
  | q + 1 => s_Tr_markFieldsOf_22 (g_Tr_markFieldsOf_22 n v1 q) n v1
set_option maxHeartbeats 4000000 in
set_option maxRecDepth 100000 in
theorem L_Tr_markFieldsOf_22 {p : Program} {l : Launch} {G : Nat → Nat} {D : va_G} {K : Nat → ClassId} {e : Env} {s : State} {m : MethodId} {args : Array Value} {below : List Frame} {meth : Method} {c : Code} {A : Nat → Prop} (hx : p.tables.exec = Jvm.exec) (hb : c.code = cX8_markFieldsOf) (hr : meth.sig.returnType = (none : Option FieldType)) (hml : c.maxLocals = 3) (hown : s.vm.findClass RX8 = some m.cls) (hts : ∀ w ∈ lw_gw, w.before args s = true) (hlk : meth.locks = false) (hK : va_K D cl (tys K) s) (hA : ∀ q : Nat, s.heap.size ≤ q → A q) (hm : Amb G A s s.heap) {Q : State → Prop} (ga : Nat → Nat) (n : Nat) (v1 : Option Nat) : ∀ (q : Nat) (M : cSt) (v2 : Int) (out : cSt), g_Tr_markFieldsOf_22 n v1 q M v2 = some out → ∀ (ls : Array Slot) (H : Heap) (locs : List Loc), va_P D cl (wld ga n (K 0) (K 1) M) H → va_D A (wld ga n (K 0) (K 1) M) → va_S A s.heap H locs → lv_has ls 3 [(0, .ref (ga 5)), (1, ctv ga v1), (2, .int (iI v2))] → (∀ (ls : Array Slot) (H : Heap) (locs : List Loc), va_P D cl (wld ga n (K 0) (K 1) out) H → va_D A (wld ga n (K 0) (K 1) out) → va_S A s.heap H locs → lv_has ls 3 [] → W p l e ({ frames := 2, cells := 0, slots := 0, locals := 42 } : Room) s m args below meth c H locs 0 0 Q (F0 m 47 ls [])) → W p l e ({ frames := 2, cells := 0, slots := 0, locals := 42 } : Room) s m args below meth c H locs 0 0 Q (F0 m 22 ls []) := by
  intro q
  induction q with
  | zero =>
    intro M v2 out h
    cases (show none = some out from h)
  | succ q ih =>
    intro M v2 out h ls H locs hP hD hS hl kk
    replace h : s_Tr_markFieldsOf_22 (g_Tr_markFieldsOf_22 n v1 q) n v1 M v2 = some out := h
    unfold s_Tr_markFieldsOf_22 at h
    refine lv_iload_n hx hb dX8_markFieldsOf_22 rfl (lv_at hl 2 rfl) ?_
    refine t_aload_n hx hb dX8_markFieldsOf_23 rfl (lv_at hl 1 rfl) ?_
    rcases on_cases h with ⟨z4, h⟩ | ⟨q4, z4, h⟩
    · cases h
    · obtain ⟨hq4, h⟩ := og_some h
      rw [ctv_some ga z4]
      refine r_get hx hb hts ok_RX7 hown hK hP (25 + 2 * q4) (go_th hq4) rfl 1 (by decide) w_679 (fun _ h9 => h9) rfl dX8_markFieldsOf_24 ?_
      obtain ⟨g5, h⟩ := og_some h
      refine i_alen hx hb (26 + 2 * q4) 0 hK hP (go_fl hq4) rfl rfl g5 dX8_markFieldsOf_27 ?_
      obtain ⟨g6, h⟩ := og_some h
      obtain ⟨g7, h⟩ := og_some h
      by_cases c8 : v2 < (gL M q4 : Int)
      · replace h := it_T h c8
        refine i_icmp_ge_F hx hb g6 g7 (tgt := 47) dX8_markFieldsOf_28 (by decide) c8 ?_
        refine lv_aload_n hx hb dX8_markFieldsOf_31 rfl (lv_at hl 0 rfl) ?_
        refine t_aload_n hx hb dX8_markFieldsOf_32 rfl (lv_at hl 1 rfl) ?_
        rw [ctv_some ga z4]
        refine r_get hx hb hts ok_RX7 hown hK hP (25 + 2 * q4) (go_th hq4) rfl 1 (by decide) w_679 (fun _ h9 => h9) rfl dX8_markFieldsOf_33 ?_
        refine lv_iload_n hx hb dX8_markFieldsOf_36 rfl (lv_at hl 2 rfl) ?_
        obtain ⟨g9, h⟩ := og_some h
        refine i_aald hx hb (26 + 2 * q4) 0 hK hP (go_fl hq4) rfl g9.1 g9.2 g5 (v := ctv ga (gF M q4 (v2.toNat))) rfl dX8_markFieldsOf_37 ?_
        obtain ⟨x10, ex10, h⟩ := ob_some h
        refine gk_v (run_V (rest := []) hx hb hml hown hts hK hP hD hS hA hm (C_Tr_mark l G D K H.size ga n M (gF M q4 (v2.toNat)) ex10) _ (full_C _) (full_n _ List.nodup_range) mok_yX8_mark w_571 w_572 w_573 (rcv hK hP 5 go_5 rfl rfl) ⟨Nat.le_of_ble_eq_true rfl, Nat.le_of_ble_eq_true rfl⟩ rfl hl.1 rfl (Nat.le_of_ble_eq_true rfl) dX8_markFieldsOf_38 ⟨(Nat.le_of_ble_eq_true rfl), (Nat.le_of_ble_eq_true rfl)⟩) hP hD hS hA (fun u H locs (hP : va_P D cl (wld ga n (K 0) (K 1) x10) H) (hD : va_D A (wld ga n (K 0) (K 1) x10)) hS => ?_)
        refine x_iinc (v := iI (v2 + 1)) hx hb dX8_markFieldsOf_41 hl (k := 2) rfl (iI_add v2 1) (by decide) [0, 1] (lv' := [(0, .ref (ga 5)), (1, ctv ga v1)]) rfl (⟨⟨Nat.ne_of_beq_eq_false rfl, Or.inl (Nat.ne_of_beq_eq_false rfl)⟩, ⟨⟨Nat.ne_of_beq_eq_false rfl, Or.inr (ctv_cat _ _)⟩, trivial⟩⟩) (fun ls hl => ?_)
        refine lv_goto (tgt := 22) hx hb dX8_markFieldsOf_44 (by decide) ?_
        exact ih x10 (v2 + 1) _ h _ _ _ hP hD hS (lv_pk hl [1, 2, 0] rfl) kk
      · replace h := it_F h c8
        refine i_icmp_ge_T hx hb g6 g7 (tgt := 47) dX8_markFieldsOf_28 (by decide) c8 ?_
        obtain rfl := Option.some.inj h
        exact kk _ _ _ hP hD hS (lv_pk hl [] rfl)
def f_Tr_markFieldsOf (n : Nat) (M : cSt) (t1 : Option Nat) : Option (cSt) := on t1 (some M) (fun q1 => og (q1 < n) (on (gR M 9 0) (ob (f_Tr_firstStrongField n M (gT M q1 2)) (fun x3 => ob (g_Tr_markFieldsOf_22 n t1 fu M x3) (fun x11 => some x11))) (fun q2 => og (q2 < n) (if q1 = q2 then some M else ob (f_Tr_firstStrongField n M (gT M q1 2)) (fun x13 => ob (g_Tr_markFieldsOf_22 n t1 fu M x13) (fun x14 => some x14))))))
set_option maxHeartbeats 4000000 in
set_option maxRecDepth 100000 in
theorem C_Tr_markFieldsOf (l : Launch) (G : Nat → Nat) (D : va_G) (K : Nat → ClassId) (sz : Nat) (ga : Nat → Nat) (n : Nat) (M : cSt) (t1 : Option Nat) {x : cSt} (h : f_Tr_markFieldsOf n M t1 = some x) : CM l yX8_markFieldsOf cX8_markFieldsOf 3 (none : Option FieldType) ({ frames := 2, cells := 0, slots := 0, locals := 42 } : Room) G D K [.ref (ga 5), ctv ga t1] (wld ga n (K 0) (K 1) M) sz (CQv D (fun _ => wld ga n (K 0) (K 1) x)) := by
  refine CM_of (lv0 := [(0, .ref (ga 5)), (1, ctv ga t1)]) pn_RX8 (by cases t1 <;> exact (Nat.le_of_ble_eq_true rfl)) (by cases t1 <;> rfl) (fun p e s m args below meth c A ls hx hb hr hml hown hts hlk hnm hP hK hD hS hA hm hl => ?_)
  have hown : s.vm.findClass RX8 = some m.cls := hown
  unfold f_Tr_markFieldsOf at h
  refine t_aload_n hx hb dX8_markFieldsOf_0 rfl (lv_at hl 1 rfl) ?_
  rcases on_cases h with ⟨z1, h⟩ | ⟨q1, z1, h⟩
  · rw [ctv_none ga z1]
    refine lv_ifnullN (tgt := 12) hx hb dX8_markFieldsOf_1 (by decide) ?_
    obtain rfl := Option.some.inj h
    exact e_v hx hb hr hlk hP hD hS (fun _ => 0) rfl (Nat.le_of_ble_eq_true rfl) (Nat.le_of_ble_eq_true rfl) dX8_markFieldsOf_12
  · obtain ⟨hq1, h⟩ := og_some h
    rw [ctv_some ga z1]
    refine lv_ifnull hx hb dX8_markFieldsOf_1 ?_
    refine t_aload_n hx hb dX8_markFieldsOf_4 rfl (lv_at hl 1 rfl) ?_
    rw [ctv_some ga z1]
    refine lv_aload_n hx hb dX8_markFieldsOf_5 rfl (lv_at hl 0 rfl) ?_
    refine r_get hx hb hts ok_RX8 hown hK hP 5 go_5 rfl 5 (by decide) w_162 (fun _ h9 => h9) rfl dX8_markFieldsOf_6 ?_
    rcases on_cases h with ⟨z2, h⟩ | ⟨q2, z2, h⟩
    · rw [ctv_none ga z2]
      refine lv_acmp_ne (rx := (some (ga (25 + 2 * q1)))) (ry := (none : Option Nat)) (tgt := 13) hx hb dX8_markFieldsOf_9 (by decide) (fun _ => ?_) (fun c9 => absurd c9 (by intro h9; cases h9))
      refine lv_aload_n hx hb dX8_markFieldsOf_13 rfl (lv_at hl 0 rfl) ?_
      refine t_aload_n hx hb dX8_markFieldsOf_14 rfl (lv_at hl 1 rfl) ?_
      rw [ctv_some ga z1]
      refine r_get hx hb hts ok_RX7 hown hK hP (25 + 2 * q1) (go_th hq1) rfl 2 (by decide) w_684 (fun _ h9 => h9) rfl dX8_markFieldsOf_15 ?_
      obtain ⟨x3, ex3, h⟩ := ob_some h
      refine gk_i (run_V (rest := []) hx hb hml hown hts hK hP hD hS hA hm (C_Tr_firstStrongField l G D K s.heap.size ga n M (gT M q1 2) ex3) _ (full_C _) (full_n _ List.nodup_range) mok_yX8_firstStrongField w_590 w_592 w_p13 (rcv hK hP 5 go_5 rfl rfl) ⟨Nat.le_of_ble_eq_true rfl, Nat.le_of_ble_eq_true rfl⟩ rfl hl.1 rfl (Nat.le_of_ble_eq_true rfl) dX8_markFieldsOf_18 ⟨(Nat.le_of_ble_eq_true rfl), (Nat.le_of_ble_eq_true rfl)⟩) hP hD hS hA (fun u H locs (hP : va_P D cl (wld ga n (K 0) (K 1) M) H) (hD : va_D A (wld ga n (K 0) (K 1) M)) hS => ?_)
      refine x_istore_n hx hb dX8_markFieldsOf_21 rfl hl (by decide) [0, 1] (lv' := [(0, .ref (ga 5)), (1, ctv ga t1)]) rfl (⟨⟨Nat.ne_of_beq_eq_false rfl, Or.inl (Nat.ne_of_beq_eq_false rfl)⟩, ⟨⟨Nat.ne_of_beq_eq_false rfl, Or.inr (ctv_cat _ _)⟩, trivial⟩⟩) (fun ls hl => ?_)
      obtain ⟨x11, ex11, h⟩ := ob_some h
      refine L_Tr_markFieldsOf_22 hx hb hr hml hown hts hlk hK hA hm ga n t1  fu M x3 _ ex11 _ _ _ hP hD hS (lv_pk hl [1, 2, 0] rfl) (fun ls H locs (hP : va_P D cl (wld ga n (K 0) (K 1) x11) H) (hD : va_D A (wld ga n (K 0) (K 1) x11)) hS (hl : lv_has ls 3 []) => ?_)
      obtain rfl := Option.some.inj h
      exact e_v hx hb hr hlk hP hD hS (fun _ => 0) rfl (Nat.le_of_ble_eq_true rfl) (Nat.le_of_ble_eq_true rfl) dX8_markFieldsOf_47
    · obtain ⟨hq2, h⟩ := og_some h
      rw [ctv_some ga z2]
      by_cases c12 : q1 = q2
      · replace h := it_T h c12
        refine a_acmp_ne_F hx hb hD hq1 hq2 (tgt := 13) dX8_markFieldsOf_9 (by decide) c12 ?_
        obtain rfl := Option.some.inj h
        exact e_v hx hb hr hlk hP hD hS (fun _ => 0) rfl (Nat.le_of_ble_eq_true rfl) (Nat.le_of_ble_eq_true rfl) dX8_markFieldsOf_12
      · replace h := it_F h c12
        refine a_acmp_ne_T hx hb hD hq1 hq2 (tgt := 13) dX8_markFieldsOf_9 (by decide) c12 ?_
        refine lv_aload_n hx hb dX8_markFieldsOf_13 rfl (lv_at hl 0 rfl) ?_
        refine t_aload_n hx hb dX8_markFieldsOf_14 rfl (lv_at hl 1 rfl) ?_
        rw [ctv_some ga z1]
        refine r_get hx hb hts ok_RX7 hown hK hP (25 + 2 * q1) (go_th hq1) rfl 2 (by decide) w_684 (fun _ h9 => h9) rfl dX8_markFieldsOf_15 ?_
        obtain ⟨x13, ex13, h⟩ := ob_some h
        refine gk_i (run_V (rest := []) hx hb hml hown hts hK hP hD hS hA hm (C_Tr_firstStrongField l G D K s.heap.size ga n M (gT M q1 2) ex13) _ (full_C _) (full_n _ List.nodup_range) mok_yX8_firstStrongField w_590 w_592 w_p13 (rcv hK hP 5 go_5 rfl rfl) ⟨Nat.le_of_ble_eq_true rfl, Nat.le_of_ble_eq_true rfl⟩ rfl hl.1 rfl (Nat.le_of_ble_eq_true rfl) dX8_markFieldsOf_18 ⟨(Nat.le_of_ble_eq_true rfl), (Nat.le_of_ble_eq_true rfl)⟩) hP hD hS hA (fun u H locs (hP : va_P D cl (wld ga n (K 0) (K 1) M) H) (hD : va_D A (wld ga n (K 0) (K 1) M)) hS => ?_)
        refine x_istore_n hx hb dX8_markFieldsOf_21 rfl hl (by decide) [0, 1] (lv' := [(0, .ref (ga 5)), (1, ctv ga t1)]) rfl (⟨⟨Nat.ne_of_beq_eq_false rfl, Or.inl (Nat.ne_of_beq_eq_false rfl)⟩, ⟨⟨Nat.ne_of_beq_eq_false rfl, Or.inr (ctv_cat _ _)⟩, trivial⟩⟩) (fun ls hl => ?_)
        obtain ⟨x14, ex14, h⟩ := ob_some h
        refine L_Tr_markFieldsOf_22 hx hb hr hml hown hts hlk hK hA hm ga n t1  fu M x13 _ ex14 _ _ _ hP hD hS (lv_pk hl [1, 2, 0] rfl) (fun ls H locs (hP : va_P D cl (wld ga n (K 0) (K 1) x14) H) (hD : va_D A (wld ga n (K 0) (K 1) x14)) hS (hl : lv_has ls 3 []) => ?_)
        obtain rfl := Option.some.inj h
        exact e_v hx hb hr hlk hP hD hS (fun _ => 0) rfl (Nat.le_of_ble_eq_true rfl) (Nat.le_of_ble_eq_true rfl) dX8_markFieldsOf_47
def f_Tr_hasMarked (n : Nat) (M : cSt) (t0 : Option Nat) (a1 : Int) : Option (Int) := on t0 none (fun q1 => og (q1 < n) (ob (f_Th_read n M q1 a1) (fun x2 => on x2 (some 0) (fun q3 => og (q3 < n) (og (inR (gT M q3 12)) (if gT M q3 12 = 0 then some 0 else some 1))))))
set_option maxHeartbeats 4000000 in
set_option maxRecDepth 100000 in
theorem C_Tr_hasMarked (l : Launch) (G : Nat → Nat) (D : va_G) (K : Nat → ClassId) (sz : Nat) (ga : Nat → Nat) (n : Nat) (M : cSt) (t0 : Option Nat) (a1 : Int) {x : Int} (h : f_Tr_hasMarked n M t0 a1 = some x) : CM l yX8_hasMarked cX8_hasMarked 3 (some FieldType.boolean) ({ frames := 1, cells := 0, slots := 0, locals := 21 } : Room) G D K [ctv ga t0, .int (iI a1)] (wld ga n (K 0) (K 1) M) sz (CQi (iI x) D (fun _ => wld ga n (K 0) (K 1) M)) := by
  refine CM_of (lv0 := [(0, ctv ga t0), (1, .int (iI a1))]) pn_RX8 (by cases t0 <;> exact (Nat.le_of_ble_eq_true rfl)) (by cases t0 <;> rfl) (fun p e s m args below meth c A ls hx hb hr hml hown hts hlk hnm hP hK hD hS hA hm hl => ?_)
  have hown : s.vm.findClass RX8 = some m.cls := hown
  unfold f_Tr_hasMarked at h
  refine t_aload_n hx hb dX8_hasMarked_0 rfl (lv_at hl 0 rfl) ?_
  refine lv_iload_n hx hb dX8_hasMarked_1 rfl (lv_at hl 1 rfl) ?_
  rcases on_cases h with ⟨z1, h⟩ | ⟨q1, z1, h⟩
  · cases h
  · obtain ⟨hq1, h⟩ := og_some h
    rw [ctv_some ga z1]
    obtain ⟨x2, ex2, h⟩ := ob_some h
    refine gk_q (run_V (rest := []) hx hb hml hown hts hK hP hD hS hA hm (C_Th_read l G D K s.heap.size ga n M q1 hq1 a1 ex2) _ (full_C _) (full_n _ List.nodup_range) mok_yX7_read w_604 w_509 w_510 (rcv hK hP (25 + 2 * q1) (go_th hq1) rfl rfl) ⟨Nat.le_of_ble_eq_true rfl, Nat.le_of_ble_eq_true rfl⟩ rfl hl.1 rfl (Nat.le_of_ble_eq_true rfl) dX8_hasMarked_2 ⟨(Nat.le_of_ble_eq_true rfl), (Nat.le_of_ble_eq_true rfl)⟩) hP hD hS hA (fun u H locs (hP : va_P D cl (wld ga n (K 0) (K 1) M) H) (hD : va_D A (wld ga n (K 0) (K 1) M)) hS => ?_)
    refine w_tov (y := ctv ga x2) rfl ?_
    refine t_astore_n hx hb dX8_hasMarked_5 rfl hl (by decide) [0, 1] (lv' := [(0, ctv ga t0), (1, .int (iI a1))]) rfl (⟨⟨Nat.ne_of_beq_eq_false rfl, Or.inl (Nat.ne_of_beq_eq_false rfl)⟩, ⟨⟨Nat.ne_of_beq_eq_false rfl, Or.inr rfl⟩, trivial⟩⟩) (fun ls hl => ?_)
    refine t_aload_n hx hb dX8_hasMarked_6 rfl (lv_at hl 0 rfl) ?_
    rcases on_cases h with ⟨z3, h⟩ | ⟨q3, z3, h⟩
    · rw [ctv_none ga z3]
      refine lv_ifnullN (tgt := 21) hx hb dX8_hasMarked_7 (by decide) ?_
      refine lv_iconst (v := iI 0) hx hb dX8_hasMarked_21 rfl ?_
      obtain rfl := Option.some.inj h
      exact e_z hx hb hr hlk hP hD hS (fun _ => 0) rfl (Nat.le_of_ble_eq_true rfl) (Nat.le_of_ble_eq_true rfl) rfl (b01 (Or.inl rfl)) dX8_hasMarked_22
    · obtain ⟨hq3, h⟩ := og_some h
      rw [ctv_some ga z3]
      refine lv_ifnull hx hb dX8_hasMarked_7 ?_
      refine t_aload_n hx hb dX8_hasMarked_10 rfl (lv_at hl 0 rfl) ?_
      rw [ctv_some ga z3]
      refine r_get hx hb hts ok_RX7 hown hK hP (25 + 2 * q3) (go_th hq3) rfl 12 (by decide) w_720 (fun _ h9 => h9) rfl dX8_hasMarked_11 ?_
      obtain ⟨g4, h⟩ := og_some h
      by_cases c5 : gT M q3 12 = 0
      · replace h := it_T h c5
        refine i_if_eq_T hx hb g4 (tgt := 21) dX8_hasMarked_14 (by decide) c5 ?_
        refine lv_iconst (v := iI 0) hx hb dX8_hasMarked_21 rfl ?_
        obtain rfl := Option.some.inj h
        exact e_z hx hb hr hlk hP hD hS (fun _ => 0) rfl (Nat.le_of_ble_eq_true rfl) (Nat.le_of_ble_eq_true rfl) rfl (b01 (Or.inl rfl)) dX8_hasMarked_22
      · replace h := it_F h c5
        refine i_if_eq_F hx hb g4 (tgt := 21) dX8_hasMarked_14 (by decide) c5 ?_
        refine lv_iconst (v := iI 1) hx hb dX8_hasMarked_17 rfl ?_
        refine lv_goto (tgt := 22) hx hb dX8_hasMarked_18 (by decide) ?_
        obtain rfl := Option.some.inj h
        exact e_z hx hb hr hlk hP hD hS (fun _ => 0) rfl (Nat.le_of_ble_eq_true rfl) (Nat.le_of_ble_eq_true rfl) rfl (b01 (Or.inr rfl)) dX8_hasMarked_22
def s_Tr_markValues_10 (rec : cSt → Int → Option (cSt)) (n : Nat) (v1 : Int) (M : cSt) (v2 : Int) : Option (cSt) := og (inR v2) (og (inR v1) (if v2 < v1 then ob (f_Row_item n M 5 v2) (fun x5 => on x5 (rec M (v2 + 1)) (fun q6 => og (q6 < n) (og (inR (gT M q6 2)) (if gT M q6 2 = 3 then on (gR M 9 0) (og (inR (gT M q6 13)) (if gT M q6 13 = 0 then ob (f_Tr_hasMarked n M (some q6) 0) (fun x12 => og (inR x12) (if x12 = 0 then rec M (v2 + 1) else ob (f_Th_read n M q6 1) (fun x15 => ob (f_Tr_mark n M x15) (fun x16 => rec x16 (v2 + 1))))) else rec M (v2 + 1))) (fun q9 => og (q9 < n) (if q6 = q9 then rec M (v2 + 1) else og (inR (gT M q6 13)) (if gT M q6 13 = 0 then ob (f_Tr_hasMarked n M (some q6) 0) (fun x20 => og (inR x20) (if x20 = 0 then rec M (v2 + 1) else ob (f_Th_read n M q6 1) (fun x23 => ob (f_Tr_mark n M x23) (fun x24 => rec x24 (v2 + 1))))) else rec M (v2 + 1)))) else rec M (v2 + 1))))) else some M))
def g_Tr_markValues_10 (n : Nat) (v1 : Int) : Nat → cSt → Int → Option (cSt)
  | 0 => fun _ _ => none
  | q + 1 => s_Tr_markValues_10 (g_Tr_markValues_10 n v1 q) n v1
set_option maxHeartbeats 4000000 in
set_option maxRecDepth 100000 in
theorem L_Tr_markValues_10 {p : Program} {l : Launch} {G : Nat → Nat} {D : va_G} {K : Nat → ClassId} {e : Env} {s : State} {m : MethodId} {args : Array Value} {below : List Frame} {meth : Method} {c : Code} {A : Nat → Prop} (hx : p.tables.exec = Jvm.exec) (hb : c.code = cX8_markValues) (hr : meth.sig.returnType = (some FieldType.boolean)) (hml : c.maxLocals = 4) (hown : s.vm.findClass RX8 = some m.cls) (hts : ∀ w ∈ lw_gw, w.before args s = true) (hlk : meth.locks = false) (hK : va_K D cl (tys K) s) (hA : ∀ q : Nat, s.heap.size ≤ q → A q) (hm : Amb G A s s.heap) {Q : State → Prop} (ga : Nat → Nat) (n : Nat) (v1 : Int) : ∀ (q : Nat) (M : cSt) (v2 : Int) (out : cSt), g_Tr_markValues_10 n v1 q M v2 = some out → ∀ (ls : Array Slot) (H : Heap) (locs : List Loc), va_P D cl (wld ga n (K 0) (K 1) M) H → va_D A (wld ga n (K 0) (K 1) M) → va_S A s.heap H locs → lv_has ls 4 [(0, .ref (ga 5)), (1, .int (iI v1)), (2, .int (iI v2))] → (∀ (ls : Array Slot) (H : Heap) (locs : List Loc), va_P D cl (wld ga n (K 0) (K 1) out) H → va_D A (wld ga n (K 0) (K 1) out) → va_S A s.heap H locs → lv_has ls 4 [(0, .ref (ga 5)), (1, .int (iI v1))] → W p l e ({ frames := 2, cells := 0, slots := 0, locals := 43 } : Room) s m args below meth c H locs 0 0 Q (F0 m 74 ls [])) → W p l e ({ frames := 2, cells := 0, slots := 0, locals := 43 } : Room) s m args below meth c H locs 0 0 Q (F0 m 10 ls []) := by
  intro q
  induction q with
  | zero =>
    intro M v2 out h
    cases (show none = some out from h)
  | succ q ih =>
    intro M v2 out h ls H locs hP hD hS hl kk
    replace h : s_Tr_markValues_10 (g_Tr_markValues_10 n v1 q) n v1 M v2 = some out := h
    unfold s_Tr_markValues_10 at h
    refine lv_iload_n hx hb dX8_markValues_10 rfl (lv_at hl 2 rfl) ?_
    refine lv_iload_n hx hb dX8_markValues_11 rfl (lv_at hl 1 rfl) ?_
    obtain ⟨g2, h⟩ := og_some h
    obtain ⟨g3, h⟩ := og_some h
    by_cases c4 : v2 < v1
    · replace h := it_T h c4
      refine i_icmp_ge_F hx hb g2 g3 (tgt := 74) dX8_markValues_12 (by decide) c4 ?_
      refine lv_aload_n hx hb dX8_markValues_15 rfl (lv_at hl 0 rfl) ?_
      refine r_get hx hb hts ok_RX8 hown hK hP 5 go_5 rfl 2 (by decide) w_159 (fun _ h9 => h9) rfl dX8_markValues_16 ?_
      refine lv_iload_n hx hb dX8_markValues_19 rfl (lv_at hl 2 rfl) ?_
      obtain ⟨x5, ex5, h⟩ := ob_some h
      refine gk_q (run_V (rest := []) hx hb hml hown hts hK hP hD hS hA hm (C_Row_item l G D K H.size ga n M 5 (by decide) v2 ex5) _ (full_C _) (full_n _ List.nodup_range) mok_yX5_item w_566 w_419 w_420 (rcv hK hP (8 + 5) (go_ro (by decide)) rfl rfl) ⟨Nat.le_of_ble_eq_true rfl, Nat.le_of_ble_eq_true rfl⟩ rfl hl.1 rfl (Nat.le_of_ble_eq_true rfl) dX8_markValues_20 ⟨(Nat.le_of_ble_eq_true rfl), (Nat.le_of_ble_eq_true rfl)⟩) hP hD hS hA (fun u H locs (hP : va_P D cl (wld ga n (K 0) (K 1) M) H) (hD : va_D A (wld ga n (K 0) (K 1) M)) hS => ?_)
      refine w_tov (y := ctv ga x5) rfl ?_
      refine t_astore_n hx hb dX8_markValues_23 rfl hl (by decide) [0, 1, 2] (lv' := [(0, .ref (ga 5)), (1, .int (iI v1)), (2, .int (iI v2))]) rfl (⟨⟨Nat.ne_of_beq_eq_false rfl, Or.inl (Nat.ne_of_beq_eq_false rfl)⟩, ⟨⟨Nat.ne_of_beq_eq_false rfl, Or.inl (Nat.ne_of_beq_eq_false rfl)⟩, ⟨⟨Nat.ne_of_beq_eq_false rfl, Or.inr rfl⟩, trivial⟩⟩⟩) (fun ls hl => ?_)
      refine t_aload_n hx hb dX8_markValues_24 rfl (lv_at hl 0 rfl) ?_
      rcases on_cases h with ⟨z6, h⟩ | ⟨q6, z6, h⟩
      · rw [ctv_none ga z6]
        refine lv_ifnullN (tgt := 68) hx hb dX8_markValues_25 (by decide) ?_
        refine x_iinc (v := iI (v2 + 1)) hx hb dX8_markValues_68 hl (k := 3) rfl (iI_add v2 1) (by decide) [0, 1, 2] (lv' := [(3, ctv ga x5), (0, .ref (ga 5)), (1, .int (iI v1))]) rfl (⟨⟨Nat.ne_of_beq_eq_false rfl, Or.inl (Nat.ne_of_beq_eq_false rfl)⟩, ⟨⟨Nat.ne_of_beq_eq_false rfl, Or.inl (Nat.ne_of_beq_eq_false rfl)⟩, ⟨⟨Nat.ne_of_beq_eq_false rfl, Or.inr rfl⟩, trivial⟩⟩⟩) (fun ls hl => ?_)
        refine lv_goto (tgt := 10) hx hb dX8_markValues_71 (by decide) ?_
        exact ih M (v2 + 1) _ h _ _ _ hP hD hS (lv_pk hl [2, 3, 0] rfl) kk
      · obtain ⟨hq6, h⟩ := og_some h
        rw [ctv_some ga z6]
        refine lv_ifnull hx hb dX8_markValues_25 ?_
        refine t_aload_n hx hb dX8_markValues_28 rfl (lv_at hl 0 rfl) ?_
        rw [ctv_some ga z6]
        refine r_get hx hb hts ok_RX7 hown hK hP (25 + 2 * q6) (go_th hq6) rfl 2 (by decide) w_684 (fun _ h9 => h9) rfl dX8_markValues_29 ?_
        refine lv_iconst (v := iI 3) hx hb dX8_markValues_32 rfl ?_
        obtain ⟨g7, h⟩ := og_some h
        by_cases c8 : gT M q6 2 = 3
        · replace h := it_T h c8
          refine i_icmp_ne_F hx hb g7 ⟨by decide, by decide⟩ (tgt := 68) dX8_markValues_33 (by decide) c8 ?_
          refine t_aload_n hx hb dX8_markValues_36 rfl (lv_at hl 0 rfl) ?_
          rw [ctv_some ga z6]
          refine lv_aload_n hx hb dX8_markValues_37 rfl (lv_at hl 1 rfl) ?_
          refine r_get hx hb hts ok_RX8 hown hK hP 5 go_5 rfl 5 (by decide) w_162 (fun _ h9 => h9) rfl dX8_markValues_38 ?_
          rcases on_cases h with ⟨z9, h⟩ | ⟨q9, z9, h⟩
          · rw [ctv_none ga z9]
            refine lv_acmp_eq (rx := (some (ga (25 + 2 * q6)))) (ry := (none : Option Nat)) (tgt := 68) hx hb dX8_markValues_41 (by decide) (fun c9 => absurd c9 (by intro h9; cases h9)) (fun _ => ?_)
            refine t_aload_n hx hb dX8_markValues_44 rfl (lv_at hl 0 rfl) ?_
            rw [ctv_some ga z6]
            refine r_get hx hb hts ok_RX7 hown hK hP (25 + 2 * q6) (go_th hq6) rfl 13 (by decide) w_723 (fun _ h9 => h9) rfl dX8_markValues_45 ?_
            obtain ⟨g10, h⟩ := og_some h
            by_cases c11 : gT M q6 13 = 0
            · replace h := it_T h c11
              refine i_if_ne_F hx hb g10 (tgt := 68) dX8_markValues_48 (by decide) c11 ?_
              refine t_aload_n hx hb dX8_markValues_51 rfl (lv_at hl 0 rfl) ?_
              rw [ctv_some ga z6]
              refine lv_iconst (v := iI 0) hx hb dX8_markValues_52 rfl ?_
              obtain ⟨x12, ex12, h⟩ := ob_some h
              refine gk_i (run_S (rest := []) hx hb hml hown hts hK hP hD hS hA hm (C_Tr_hasMarked l G D K H.size ga n M (some q6) 0 ex12) _ (full_C _) (full_n _ List.nodup_range) mok_yX8_hasMarked w_601 w_602 ⟨Nat.le_of_ble_eq_true rfl, Nat.le_of_ble_eq_true rfl⟩ rfl hl.1 rfl (Nat.le_of_ble_eq_true rfl) dX8_markValues_53 ⟨(Nat.le_of_ble_eq_true rfl), (Nat.le_of_ble_eq_true rfl)⟩) hP hD hS hA (fun u H locs (hP : va_P D cl (wld ga n (K 0) (K 1) M) H) (hD : va_D A (wld ga n (K 0) (K 1) M)) hS => ?_)
              obtain ⟨g13, h⟩ := og_some h
              by_cases c14 : x12 = 0
              · replace h := it_T h c14
                refine i_if_eq_T hx hb g13 (tgt := 68) dX8_markValues_56 (by decide) c14 ?_
                refine x_iinc (v := iI (v2 + 1)) hx hb dX8_markValues_68 hl (k := 3) rfl (iI_add v2 1) (by decide) [0, 1, 2] (lv' := [(3, ctv ga x5), (0, .ref (ga 5)), (1, .int (iI v1))]) rfl (⟨⟨Nat.ne_of_beq_eq_false rfl, Or.inl (Nat.ne_of_beq_eq_false rfl)⟩, ⟨⟨Nat.ne_of_beq_eq_false rfl, Or.inl (Nat.ne_of_beq_eq_false rfl)⟩, ⟨⟨Nat.ne_of_beq_eq_false rfl, Or.inr rfl⟩, trivial⟩⟩⟩) (fun ls hl => ?_)
                refine lv_goto (tgt := 10) hx hb dX8_markValues_71 (by decide) ?_
                exact ih M (v2 + 1) _ h _ _ _ hP hD hS (lv_pk hl [2, 3, 0] rfl) kk
              · replace h := it_F h c14
                refine i_if_eq_F hx hb g13 (tgt := 68) dX8_markValues_56 (by decide) c14 ?_
                refine lv_aload_n hx hb dX8_markValues_59 rfl (lv_at hl 1 rfl) ?_
                refine t_aload_n hx hb dX8_markValues_60 rfl (lv_at hl 0 rfl) ?_
                rw [ctv_some ga z6]
                refine lv_iconst (v := iI 1) hx hb dX8_markValues_61 rfl ?_
                obtain ⟨x15, ex15, h⟩ := ob_some h
                refine gk_q (run_V (rest := [.ref (ga 5)]) hx hb hml hown hts hK hP hD hS hA hm (C_Th_read l G D K H.size ga n M q6 hq6 1 ex15) _ (full_C _) (full_n _ List.nodup_range) mok_yX7_read w_604 w_509 w_510 (rcv hK hP (25 + 2 * q6) (go_th hq6) rfl rfl) ⟨Nat.le_of_ble_eq_true rfl, Nat.le_of_ble_eq_true rfl⟩ rfl hl.1 rfl (Nat.le_of_ble_eq_true rfl) dX8_markValues_62 ⟨(Nat.le_of_ble_eq_true rfl), (Nat.le_of_ble_eq_true rfl)⟩) hP hD hS hA (fun u H locs (hP : va_P D cl (wld ga n (K 0) (K 1) M) H) (hD : va_D A (wld ga n (K 0) (K 1) M)) hS => ?_)
                refine w_tov (y := ctv ga x15) rfl ?_
                obtain ⟨x16, ex16, h⟩ := ob_some h
                refine gk_v (run_V (rest := []) hx hb hml hown hts hK hP hD hS hA hm (C_Tr_mark l G D K H.size ga n M x15 ex16) _ (full_C _) (full_n _ List.nodup_range) mok_yX8_mark w_571 w_572 w_573 (rcv hK hP 5 go_5 rfl rfl) ⟨Nat.le_of_ble_eq_true rfl, Nat.le_of_ble_eq_true rfl⟩ rfl hl.1 rfl (Nat.le_of_ble_eq_true rfl) dX8_markValues_65 ⟨(Nat.le_of_ble_eq_true rfl), (Nat.le_of_ble_eq_true rfl)⟩) hP hD hS hA (fun u H locs (hP : va_P D cl (wld ga n (K 0) (K 1) x16) H) (hD : va_D A (wld ga n (K 0) (K 1) x16)) hS => ?_)
                refine x_iinc (v := iI (v2 + 1)) hx hb dX8_markValues_68 hl (k := 3) rfl (iI_add v2 1) (by decide) [0, 1, 2] (lv' := [(3, ctv ga x5), (0, .ref (ga 5)), (1, .int (iI v1))]) rfl (⟨⟨Nat.ne_of_beq_eq_false rfl, Or.inl (Nat.ne_of_beq_eq_false rfl)⟩, ⟨⟨Nat.ne_of_beq_eq_false rfl, Or.inl (Nat.ne_of_beq_eq_false rfl)⟩, ⟨⟨Nat.ne_of_beq_eq_false rfl, Or.inr rfl⟩, trivial⟩⟩⟩) (fun ls hl => ?_)
                refine lv_goto (tgt := 10) hx hb dX8_markValues_71 (by decide) ?_
                exact ih x16 (v2 + 1) _ h _ _ _ hP hD hS (lv_pk hl [2, 3, 0] rfl) kk
            · replace h := it_F h c11
              refine i_if_ne_T hx hb g10 (tgt := 68) dX8_markValues_48 (by decide) c11 ?_
              refine x_iinc (v := iI (v2 + 1)) hx hb dX8_markValues_68 hl (k := 3) rfl (iI_add v2 1) (by decide) [0, 1, 2] (lv' := [(3, ctv ga x5), (0, .ref (ga 5)), (1, .int (iI v1))]) rfl (⟨⟨Nat.ne_of_beq_eq_false rfl, Or.inl (Nat.ne_of_beq_eq_false rfl)⟩, ⟨⟨Nat.ne_of_beq_eq_false rfl, Or.inl (Nat.ne_of_beq_eq_false rfl)⟩, ⟨⟨Nat.ne_of_beq_eq_false rfl, Or.inr rfl⟩, trivial⟩⟩⟩) (fun ls hl => ?_)
              refine lv_goto (tgt := 10) hx hb dX8_markValues_71 (by decide) ?_
              exact ih M (v2 + 1) _ h _ _ _ hP hD hS (lv_pk hl [2, 3, 0] rfl) kk
          · obtain ⟨hq9, h⟩ := og_some h
            rw [ctv_some ga z9]
            by_cases c17 : q6 = q9
            · replace h := it_T h c17
              refine a_acmp_eq_T hx hb hD hq6 hq9 (tgt := 68) dX8_markValues_41 (by decide) c17 ?_
              refine x_iinc (v := iI (v2 + 1)) hx hb dX8_markValues_68 hl (k := 3) rfl (iI_add v2 1) (by decide) [0, 1, 2] (lv' := [(3, ctv ga x5), (0, .ref (ga 5)), (1, .int (iI v1))]) rfl (⟨⟨Nat.ne_of_beq_eq_false rfl, Or.inl (Nat.ne_of_beq_eq_false rfl)⟩, ⟨⟨Nat.ne_of_beq_eq_false rfl, Or.inl (Nat.ne_of_beq_eq_false rfl)⟩, ⟨⟨Nat.ne_of_beq_eq_false rfl, Or.inr rfl⟩, trivial⟩⟩⟩) (fun ls hl => ?_)
              refine lv_goto (tgt := 10) hx hb dX8_markValues_71 (by decide) ?_
              exact ih M (v2 + 1) _ h _ _ _ hP hD hS (lv_pk hl [2, 3, 0] rfl) kk
            · replace h := it_F h c17
              refine a_acmp_eq_F hx hb hD hq6 hq9 (tgt := 68) dX8_markValues_41 (by decide) c17 ?_
              refine t_aload_n hx hb dX8_markValues_44 rfl (lv_at hl 0 rfl) ?_
              rw [ctv_some ga z6]
              refine r_get hx hb hts ok_RX7 hown hK hP (25 + 2 * q6) (go_th hq6) rfl 13 (by decide) w_723 (fun _ h9 => h9) rfl dX8_markValues_45 ?_
              obtain ⟨g18, h⟩ := og_some h
              by_cases c19 : gT M q6 13 = 0
              · replace h := it_T h c19
                refine i_if_ne_F hx hb g18 (tgt := 68) dX8_markValues_48 (by decide) c19 ?_
                refine t_aload_n hx hb dX8_markValues_51 rfl (lv_at hl 0 rfl) ?_
                rw [ctv_some ga z6]
                refine lv_iconst (v := iI 0) hx hb dX8_markValues_52 rfl ?_
                obtain ⟨x20, ex20, h⟩ := ob_some h
                refine gk_i (run_S (rest := []) hx hb hml hown hts hK hP hD hS hA hm (C_Tr_hasMarked l G D K H.size ga n M (some q6) 0 ex20) _ (full_C _) (full_n _ List.nodup_range) mok_yX8_hasMarked w_601 w_602 ⟨Nat.le_of_ble_eq_true rfl, Nat.le_of_ble_eq_true rfl⟩ rfl hl.1 rfl (Nat.le_of_ble_eq_true rfl) dX8_markValues_53 ⟨(Nat.le_of_ble_eq_true rfl), (Nat.le_of_ble_eq_true rfl)⟩) hP hD hS hA (fun u H locs (hP : va_P D cl (wld ga n (K 0) (K 1) M) H) (hD : va_D A (wld ga n (K 0) (K 1) M)) hS => ?_)
                obtain ⟨g21, h⟩ := og_some h
                by_cases c22 : x20 = 0
                · replace h := it_T h c22
                  refine i_if_eq_T hx hb g21 (tgt := 68) dX8_markValues_56 (by decide) c22 ?_
                  refine x_iinc (v := iI (v2 + 1)) hx hb dX8_markValues_68 hl (k := 3) rfl (iI_add v2 1) (by decide) [0, 1, 2] (lv' := [(3, ctv ga x5), (0, .ref (ga 5)), (1, .int (iI v1))]) rfl (⟨⟨Nat.ne_of_beq_eq_false rfl, Or.inl (Nat.ne_of_beq_eq_false rfl)⟩, ⟨⟨Nat.ne_of_beq_eq_false rfl, Or.inl (Nat.ne_of_beq_eq_false rfl)⟩, ⟨⟨Nat.ne_of_beq_eq_false rfl, Or.inr rfl⟩, trivial⟩⟩⟩) (fun ls hl => ?_)
                  refine lv_goto (tgt := 10) hx hb dX8_markValues_71 (by decide) ?_
                  exact ih M (v2 + 1) _ h _ _ _ hP hD hS (lv_pk hl [2, 3, 0] rfl) kk
                · replace h := it_F h c22
                  refine i_if_eq_F hx hb g21 (tgt := 68) dX8_markValues_56 (by decide) c22 ?_
                  refine lv_aload_n hx hb dX8_markValues_59 rfl (lv_at hl 1 rfl) ?_
                  refine t_aload_n hx hb dX8_markValues_60 rfl (lv_at hl 0 rfl) ?_
                  rw [ctv_some ga z6]
                  refine lv_iconst (v := iI 1) hx hb dX8_markValues_61 rfl ?_
                  obtain ⟨x23, ex23, h⟩ := ob_some h
                  refine gk_q (run_V (rest := [.ref (ga 5)]) hx hb hml hown hts hK hP hD hS hA hm (C_Th_read l G D K H.size ga n M q6 hq6 1 ex23) _ (full_C _) (full_n _ List.nodup_range) mok_yX7_read w_604 w_509 w_510 (rcv hK hP (25 + 2 * q6) (go_th hq6) rfl rfl) ⟨Nat.le_of_ble_eq_true rfl, Nat.le_of_ble_eq_true rfl⟩ rfl hl.1 rfl (Nat.le_of_ble_eq_true rfl) dX8_markValues_62 ⟨(Nat.le_of_ble_eq_true rfl), (Nat.le_of_ble_eq_true rfl)⟩) hP hD hS hA (fun u H locs (hP : va_P D cl (wld ga n (K 0) (K 1) M) H) (hD : va_D A (wld ga n (K 0) (K 1) M)) hS => ?_)
                  refine w_tov (y := ctv ga x23) rfl ?_
                  obtain ⟨x24, ex24, h⟩ := ob_some h
                  refine gk_v (run_V (rest := []) hx hb hml hown hts hK hP hD hS hA hm (C_Tr_mark l G D K H.size ga n M x23 ex24) _ (full_C _) (full_n _ List.nodup_range) mok_yX8_mark w_571 w_572 w_573 (rcv hK hP 5 go_5 rfl rfl) ⟨Nat.le_of_ble_eq_true rfl, Nat.le_of_ble_eq_true rfl⟩ rfl hl.1 rfl (Nat.le_of_ble_eq_true rfl) dX8_markValues_65 ⟨(Nat.le_of_ble_eq_true rfl), (Nat.le_of_ble_eq_true rfl)⟩) hP hD hS hA (fun u H locs (hP : va_P D cl (wld ga n (K 0) (K 1) x24) H) (hD : va_D A (wld ga n (K 0) (K 1) x24)) hS => ?_)
                  refine x_iinc (v := iI (v2 + 1)) hx hb dX8_markValues_68 hl (k := 3) rfl (iI_add v2 1) (by decide) [0, 1, 2] (lv' := [(3, ctv ga x5), (0, .ref (ga 5)), (1, .int (iI v1))]) rfl (⟨⟨Nat.ne_of_beq_eq_false rfl, Or.inl (Nat.ne_of_beq_eq_false rfl)⟩, ⟨⟨Nat.ne_of_beq_eq_false rfl, Or.inl (Nat.ne_of_beq_eq_false rfl)⟩, ⟨⟨Nat.ne_of_beq_eq_false rfl, Or.inr rfl⟩, trivial⟩⟩⟩) (fun ls hl => ?_)
                  refine lv_goto (tgt := 10) hx hb dX8_markValues_71 (by decide) ?_
                  exact ih x24 (v2 + 1) _ h _ _ _ hP hD hS (lv_pk hl [2, 3, 0] rfl) kk
              · replace h := it_F h c19
                refine i_if_ne_T hx hb g18 (tgt := 68) dX8_markValues_48 (by decide) c19 ?_
                refine x_iinc (v := iI (v2 + 1)) hx hb dX8_markValues_68 hl (k := 3) rfl (iI_add v2 1) (by decide) [0, 1, 2] (lv' := [(3, ctv ga x5), (0, .ref (ga 5)), (1, .int (iI v1))]) rfl (⟨⟨Nat.ne_of_beq_eq_false rfl, Or.inl (Nat.ne_of_beq_eq_false rfl)⟩, ⟨⟨Nat.ne_of_beq_eq_false rfl, Or.inl (Nat.ne_of_beq_eq_false rfl)⟩, ⟨⟨Nat.ne_of_beq_eq_false rfl, Or.inr rfl⟩, trivial⟩⟩⟩) (fun ls hl => ?_)
                refine lv_goto (tgt := 10) hx hb dX8_markValues_71 (by decide) ?_
                exact ih M (v2 + 1) _ h _ _ _ hP hD hS (lv_pk hl [2, 3, 0] rfl) kk
        · replace h := it_F h c8
          refine i_icmp_ne_T hx hb g7 ⟨by decide, by decide⟩ (tgt := 68) dX8_markValues_33 (by decide) c8 ?_
          refine x_iinc (v := iI (v2 + 1)) hx hb dX8_markValues_68 hl (k := 3) rfl (iI_add v2 1) (by decide) [0, 1, 2] (lv' := [(3, ctv ga x5), (0, .ref (ga 5)), (1, .int (iI v1))]) rfl (⟨⟨Nat.ne_of_beq_eq_false rfl, Or.inl (Nat.ne_of_beq_eq_false rfl)⟩, ⟨⟨Nat.ne_of_beq_eq_false rfl, Or.inl (Nat.ne_of_beq_eq_false rfl)⟩, ⟨⟨Nat.ne_of_beq_eq_false rfl, Or.inr rfl⟩, trivial⟩⟩⟩) (fun ls hl => ?_)
          refine lv_goto (tgt := 10) hx hb dX8_markValues_71 (by decide) ?_
          exact ih M (v2 + 1) _ h _ _ _ hP hD hS (lv_pk hl [2, 3, 0] rfl) kk
    · replace h := it_F h c4
      refine i_icmp_ge_T hx hb g2 g3 (tgt := 74) dX8_markValues_12 (by decide) c4 ?_
      obtain rfl := Option.some.inj h
      exact kk _ _ _ hP hD hS (lv_pk hl [0, 1] rfl)
def f_Tr_markValues (n : Nat) (M : cSt)  : Option (cSt × Int) := ob (f_Row_size n M 5) (fun x1 => ob (g_Tr_markValues_10 n x1 fu M 0) (fun x25 => ob (f_Row_size n x25 5) (fun x26 => og (inR x26) (og (inR x1) (if x1 < x26 then some (x25, 1) else some (x25, 0))))))
set_option maxHeartbeats 4000000 in
set_option maxRecDepth 100000 in
theorem C_Tr_markValues (l : Launch) (G : Nat → Nat) (D : va_G) (K : Nat → ClassId) (sz : Nat) (ga : Nat → Nat) (n : Nat) (M : cSt)  {x : cSt × Int} (h : f_Tr_markValues n M  = some x) : CM l yX8_markValues cX8_markValues 4 (some FieldType.boolean) ({ frames := 2, cells := 0, slots := 0, locals := 43 } : Room) G D K [.ref (ga 5)] (wld ga n (K 0) (K 1) M) sz (CQi (iI x.2) D (fun _ => wld ga n (K 0) (K 1) x.1)) := by
  refine CM_of (lv0 := [(0, .ref (ga 5))]) pn_RX8 (Nat.le_of_ble_eq_true rfl) rfl (fun p e s m args below meth c A ls hx hb hr hml hown hts hlk hnm hP hK hD hS hA hm hl => ?_)
  have hown : s.vm.findClass RX8 = some m.cls := hown
  unfold f_Tr_markValues at h
  refine lv_aload_n hx hb dX8_markValues_0 rfl (lv_at hl 0 rfl) ?_
  refine r_get hx hb hts ok_RX8 hown hK hP 5 go_5 rfl 2 (by decide) w_159 (fun _ h9 => h9) rfl dX8_markValues_1 ?_
  obtain ⟨x1, ex1, h⟩ := ob_some h
  refine gk_i (run_V (rest := []) hx hb hml hown hts hK hP hD hS hA hm (C_Row_size l G D K s.heap.size ga n M 5 (by decide) ex1) _ (full_C _) (full_n _ List.nodup_range) mok_yX5_size w_565 w_405 w_406 (rcv hK hP (8 + 5) (go_ro (by decide)) rfl rfl) ⟨Nat.le_of_ble_eq_true rfl, Nat.le_of_ble_eq_true rfl⟩ rfl hl.1 rfl (Nat.le_of_ble_eq_true rfl) dX8_markValues_4 ⟨(Nat.le_of_ble_eq_true rfl), (Nat.le_of_ble_eq_true rfl)⟩) hP hD hS hA (fun u H locs (hP : va_P D cl (wld ga n (K 0) (K 1) M) H) (hD : va_D A (wld ga n (K 0) (K 1) M)) hS => ?_)
  refine x_istore_n hx hb dX8_markValues_7 rfl hl (by decide) [0] (lv' := [(0, .ref (ga 5))]) rfl (⟨⟨Nat.ne_of_beq_eq_false rfl, Or.inr rfl⟩, trivial⟩) (fun ls hl => ?_)
  refine lv_iconst (v := iI 0) hx hb dX8_markValues_8 rfl ?_
  refine x_istore_n hx hb dX8_markValues_9 rfl hl (by decide) [0, 1] (lv' := [(1, .int (iI x1)), (0, .ref (ga 5))]) rfl (⟨⟨Nat.ne_of_beq_eq_false rfl, Or.inr rfl⟩, ⟨⟨Nat.ne_of_beq_eq_false rfl, Or.inl (Nat.ne_of_beq_eq_false rfl)⟩, trivial⟩⟩) (fun ls hl => ?_)
  obtain ⟨x25, ex25, h⟩ := ob_some h
  refine L_Tr_markValues_10 hx hb hr hml hown hts hlk hK hA hm ga n x1  fu M 0 _ ex25 _ _ _ hP hD hS (lv_pk hl [2, 1, 0] rfl) (fun ls H locs (hP : va_P D cl (wld ga n (K 0) (K 1) x25) H) (hD : va_D A (wld ga n (K 0) (K 1) x25)) hS (hl : lv_has ls 4 [(0, .ref (ga 5)), (1, .int (iI x1))]) => ?_)
  refine lv_aload_n hx hb dX8_markValues_74 rfl (lv_at hl 0 rfl) ?_
  refine r_get hx hb hts ok_RX8 hown hK hP 5 go_5 rfl 2 (by decide) w_159 (fun _ h9 => h9) rfl dX8_markValues_75 ?_
  obtain ⟨x26, ex26, h⟩ := ob_some h
  refine gk_i (run_V (rest := []) hx hb hml hown hts hK hP hD hS hA hm (C_Row_size l G D K H.size ga n x25 5 (by decide) ex26) _ (full_C _) (full_n _ List.nodup_range) mok_yX5_size w_565 w_405 w_406 (rcv hK hP (8 + 5) (go_ro (by decide)) rfl rfl) ⟨Nat.le_of_ble_eq_true rfl, Nat.le_of_ble_eq_true rfl⟩ rfl hl.1 rfl (Nat.le_of_ble_eq_true rfl) dX8_markValues_78 ⟨(Nat.le_of_ble_eq_true rfl), (Nat.le_of_ble_eq_true rfl)⟩) hP hD hS hA (fun u H locs (hP : va_P D cl (wld ga n (K 0) (K 1) x25) H) (hD : va_D A (wld ga n (K 0) (K 1) x25)) hS => ?_)
  refine lv_iload_n hx hb dX8_markValues_81 rfl (lv_at hl 1 rfl) ?_
  obtain ⟨g27, h⟩ := og_some h
  obtain ⟨g28, h⟩ := og_some h
  by_cases c29 : x1 < x26
  · replace h := it_T h c29
    refine i_icmp_le_F hx hb g27 g28 (tgt := 89) dX8_markValues_82 (by decide) c29 ?_
    refine lv_iconst (v := iI 1) hx hb dX8_markValues_85 rfl ?_
    refine lv_goto (tgt := 90) hx hb dX8_markValues_86 (by decide) ?_
    obtain rfl := Option.some.inj h
    exact e_z hx hb hr hlk hP hD hS (fun _ => 0) rfl (Nat.le_of_ble_eq_true rfl) (Nat.le_of_ble_eq_true rfl) rfl (b01 (Or.inr rfl)) dX8_markValues_90
  · replace h := it_F h c29
    refine i_icmp_le_T hx hb g27 g28 (tgt := 89) dX8_markValues_82 (by decide) c29 ?_
    refine lv_iconst (v := iI 0) hx hb dX8_markValues_89 rfl ?_
    obtain rfl := Option.some.inj h
    exact e_z hx hb hr hlk hP hD hS (fun _ => 0) rfl (Nat.le_of_ble_eq_true rfl) (Nat.le_of_ble_eq_true rfl) rfl (b01 (Or.inl rfl)) dX8_markValues_90
def s_Tr_spread_9 (rec : cSt → Option (cSt)) (n : Nat) (v1 : Int) (M : cSt) : Option (cSt) := og (inR (gI M 18)) (if gI M 18 < 200 then ob (f_Row_size n M 5) (fun x5 => og (inR x5) (if gI M 18 < x5 then ob (f_Row_item n M 5 (gI M 18)) (fun x8 => ob (f_Tr_markFieldsOf n M x8) (fun x9 => rec (sI x9 18 (gI x9 18 + 1)))) else some M)) else some M)
def g_Tr_spread_9 (n : Nat) (v1 : Int) : Nat → cSt → Option (cSt)
  | 0 => fun _ => none
  | q + 1 => s_Tr_spread_9 (g_Tr_spread_9 n v1 q) n v1
set_option maxHeartbeats 4000000 in
set_option maxRecDepth 100000 in
theorem L_Tr_spread_9 {p : Program} {l : Launch} {G : Nat → Nat} {D : va_G} {K : Nat → ClassId} {e : Env} {s : State} {m : MethodId} {args : Array Value} {below : List Frame} {meth : Method} {c : Code} {A : Nat → Prop} (hx : p.tables.exec = Jvm.exec) (hb : c.code = cX8_spread) (hr : meth.sig.returnType = (none : Option FieldType)) (hml : c.maxLocals = 2) (hown : s.vm.findClass RX8 = some m.cls) (hts : ∀ w ∈ lw_gw, w.before args s = true) (hlk : meth.locks = false) (hK : va_K D cl (tys K) s) (hA : ∀ q : Nat, s.heap.size ≤ q → A q) (hm : Amb G A s s.heap) {Q : State → Prop} (ga : Nat → Nat) (n : Nat) (v1 : Int) : ∀ (q : Nat) (M : cSt) (out : cSt), g_Tr_spread_9 n v1 q M = some out → ∀ (ls : Array Slot) (H : Heap) (locs : List Loc), va_P D cl (wld ga n (K 0) (K 1) M) H → va_D A (wld ga n (K 0) (K 1) M) → va_S A s.heap H locs → lv_has ls 2 [(0, .ref (ga 5)), (1, .int (iI v1))] → (∀ (ls : Array Slot) (H : Heap) (locs : List Loc), va_P D cl (wld ga n (K 0) (K 1) out) H → va_D A (wld ga n (K 0) (K 1) out) → va_S A s.heap H locs → lv_has ls 2 [(0, .ref (ga 5)), (1, .int (iI v1))] → W p l e ({ frames := 3, cells := 0, slots := 0, locals := 66 } : Room) s m args below meth c H locs 0 0 Q (F0 m 61 ls [])) → W p l e ({ frames := 3, cells := 0, slots := 0, locals := 66 } : Room) s m args below meth c H locs 0 0 Q (F0 m 9 ls []) := by
  intro q
  induction q with
  | zero =>
    intro M out h
    cases (show none = some out from h)
  | succ q ih =>
    intro M out h ls H locs hP hD hS hl kk
    replace h : s_Tr_spread_9 (g_Tr_spread_9 n v1 q) n v1 M = some out := h
    unfold s_Tr_spread_9 at h
    refine lv_aload_n hx hb dX8_spread_9 rfl (lv_at hl 0 rfl) ?_
    refine r_get hx hb hts ok_RX8 hown hK hP 5 go_5 rfl 3 (by decide) w_160 (fun _ h9 => h9) rfl dX8_spread_10 ?_
    refine lv_sipush (v := iI 200) hx hb dX8_spread_13 rfl ?_
    obtain ⟨g3, h⟩ := og_some h
    by_cases c4 : gI M 18 < 200
    · replace h := it_T h c4
      refine i_icmp_ge_F hx hb g3 ⟨by decide, by decide⟩ (tgt := 61) dX8_spread_16 (by decide) c4 ?_
      refine lv_aload_n hx hb dX8_spread_19 rfl (lv_at hl 0 rfl) ?_
      refine r_get hx hb hts ok_RX8 hown hK hP 5 go_5 rfl 3 (by decide) w_160 (fun _ h9 => h9) rfl dX8_spread_20 ?_
      refine lv_aload_n hx hb dX8_spread_23 rfl (lv_at hl 0 rfl) ?_
      refine r_get hx hb hts ok_RX8 hown hK hP 5 go_5 rfl 2 (by decide) w_159 (fun _ h9 => h9) rfl dX8_spread_24 ?_
      obtain ⟨x5, ex5, h⟩ := ob_some h
      refine gk_i (run_V (rest := [.int (iI (gI M 18))]) hx hb hml hown hts hK hP hD hS hA hm (C_Row_size l G D K H.size ga n M 5 (by decide) ex5) _ (full_C _) (full_n _ List.nodup_range) mok_yX5_size w_565 w_405 w_406 (rcv hK hP (8 + 5) (go_ro (by decide)) rfl rfl) ⟨Nat.le_of_ble_eq_true rfl, Nat.le_of_ble_eq_true rfl⟩ rfl hl.1 rfl (Nat.le_of_ble_eq_true rfl) dX8_spread_27 ⟨(Nat.le_of_ble_eq_true rfl), (Nat.le_of_ble_eq_true rfl)⟩) hP hD hS hA (fun u H locs (hP : va_P D cl (wld ga n (K 0) (K 1) M) H) (hD : va_D A (wld ga n (K 0) (K 1) M)) hS => ?_)
      obtain ⟨g6, h⟩ := og_some h
      by_cases c7 : gI M 18 < x5
      · replace h := it_T h c7
        refine i_icmp_ge_F hx hb g3 g6 (tgt := 61) dX8_spread_30 (by decide) c7 ?_
        refine lv_aload_n hx hb dX8_spread_33 rfl (lv_at hl 0 rfl) ?_
        refine lv_aload_n hx hb dX8_spread_34 rfl (lv_at hl 0 rfl) ?_
        refine r_get hx hb hts ok_RX8 hown hK hP 5 go_5 rfl 2 (by decide) w_159 (fun _ h9 => h9) rfl dX8_spread_35 ?_
        refine lv_aload_n hx hb dX8_spread_38 rfl (lv_at hl 0 rfl) ?_
        refine r_get hx hb hts ok_RX8 hown hK hP 5 go_5 rfl 3 (by decide) w_160 (fun _ h9 => h9) rfl dX8_spread_39 ?_
        obtain ⟨x8, ex8, h⟩ := ob_some h
        refine gk_q (run_V (rest := [.ref (ga 5)]) hx hb hml hown hts hK hP hD hS hA hm (C_Row_item l G D K H.size ga n M 5 (by decide) (gI M 18) ex8) _ (full_C _) (full_n _ List.nodup_range) mok_yX5_item w_566 w_419 w_420 (rcv hK hP (8 + 5) (go_ro (by decide)) rfl rfl) ⟨Nat.le_of_ble_eq_true rfl, Nat.le_of_ble_eq_true rfl⟩ rfl hl.1 rfl (Nat.le_of_ble_eq_true rfl) dX8_spread_42 ⟨(Nat.le_of_ble_eq_true rfl), (Nat.le_of_ble_eq_true rfl)⟩) hP hD hS hA (fun u H locs (hP : va_P D cl (wld ga n (K 0) (K 1) M) H) (hD : va_D A (wld ga n (K 0) (K 1) M)) hS => ?_)
        refine w_tov (y := ctv ga x8) rfl ?_
        obtain ⟨x9, ex9, h⟩ := ob_some h
        refine gk_v (run_V (rest := []) hx hb hml hown hts hK hP hD hS hA hm (C_Tr_markFieldsOf l G D K H.size ga n M x8 ex9) _ (full_C _) (full_n _ List.nodup_range) mok_yX8_markFieldsOf w_586 w_588 w_p12 (rcv hK hP 5 go_5 rfl rfl) ⟨Nat.le_of_ble_eq_true rfl, Nat.le_of_ble_eq_true rfl⟩ rfl hl.1 rfl (Nat.le_of_ble_eq_true rfl) dX8_spread_45 ⟨(Nat.le_of_ble_eq_true rfl), (Nat.le_of_ble_eq_true rfl)⟩) hP hD hS hA (fun u H locs (hP : va_P D cl (wld ga n (K 0) (K 1) x9) H) (hD : va_D A (wld ga n (K 0) (K 1) x9)) hS => ?_)
        refine lv_aload_n hx hb dX8_spread_48 rfl (lv_at hl 0 rfl) ?_
        refine lv_dup hx hb dX8_spread_49 rfl ?_
        refine r_get hx hb hts ok_RX8 hown hK hP 5 go_5 rfl 3 (by decide) w_160 (fun _ h9 => h9) rfl dX8_spread_50 ?_
        refine lv_iconst (v := iI 1) hx hb dX8_spread_53 rfl ?_
        refine lv_iadd hx hb dX8_spread_54 ?_
        refine w_toeq (iI_add (gI x9 18) 1) ?_
        refine r_put hx hb hts ok_RX8 hown hK hP hD hS 5 go_5 rfl 3 (by decide) w_160 (fun _ h9 => h9) rfl (v := .int (iI (gI x9 18 + 1))) rfl rfl (Nat.le_of_ble_eq_true rfl) dX8_spread_55 (ws' := wld ga n (K 0) (K 1) (sI x9 18 (gI x9 18 + 1))) wI_18 (fun H locs hP hD hS => ?_)
        refine lv_goto (tgt := 9) hx hb dX8_spread_58 (by decide) ?_
        exact ih (sI x9 18 (gI x9 18 + 1)) _ h _ _ _ hP hD hS (lv_pk hl [0, 1] rfl) kk
      · replace h := it_F h c7
        refine i_icmp_ge_T hx hb g3 g6 (tgt := 61) dX8_spread_30 (by decide) c7 ?_
        obtain rfl := Option.some.inj h
        exact kk _ _ _ hP hD hS (lv_pk hl [0, 1] rfl)
    · replace h := it_F h c4
      refine i_icmp_ge_T hx hb g3 ⟨by decide, by decide⟩ (tgt := 61) dX8_spread_16 (by decide) c4 ?_
      obtain rfl := Option.some.inj h
      exact kk _ _ _ hP hD hS (lv_pk hl [0, 1] rfl)
def s_Tr_spread_2 (rec : cSt → Int → Option ((cSt) ⊕ (cSt))) (n : Nat)  (M : cSt) (v1 : Int) : Option ((cSt) ⊕ (cSt)) := og (inR v1) (if 200 < v1 then some (.inl M) else ob (g_Tr_spread_9 n v1 fu M) (fun x10 => ob (f_Tr_markValues n x10) (fun x11 => og (inR x11.2) (if x11.2 = 0 then some (.inr x11.1) else rec x11.1 (v1 + 1)))))
def g_Tr_spread_2 (n : Nat)  : Nat → cSt → Int → Option ((cSt) ⊕ (cSt))
  | 0 => fun _ _ => none
  | q + 1 => s_Tr_spread_2 (g_Tr_spread_2 n  q) n 
set_option maxHeartbeats 4000000 in
set_option maxRecDepth 100000 in
theorem L_Tr_spread_2 {p : Program} {l : Launch} {G : Nat → Nat} {D : va_G} {K : Nat → ClassId} {e : Env} {s : State} {m : MethodId} {args : Array Value} {below : List Frame} {meth : Method} {c : Code} {A : Nat → Prop} (hx : p.tables.exec = Jvm.exec) (hb : c.code = cX8_spread) (hr : meth.sig.returnType = (none : Option FieldType)) (hml : c.maxLocals = 2) (hown : s.vm.findClass RX8 = some m.cls) (hts : ∀ w ∈ lw_gw, w.before args s = true) (hlk : meth.locks = false) (hK : va_K D cl (tys K) s) (hA : ∀ q : Nat, s.heap.size ≤ q → A q) (hm : Amb G A s s.heap) {x : cSt} (ga : Nat → Nat) (n : Nat)  : ∀ (q : Nat) (M : cSt) (v1 : Int) (out : (cSt) ⊕ (cSt)), g_Tr_spread_2 n  q M v1 = some out → ∀ (ls : Array Slot) (H : Heap) (locs : List Loc), va_P D cl (wld ga n (K 0) (K 1) M) H → va_D A (wld ga n (K 0) (K 1) M) → va_S A s.heap H locs → lv_has ls 2 [(0, .ref (ga 5)), (1, .int (iI v1))] → (∀ (y : (cSt)), out = .inl y → ∀ (ls : Array Slot) (H : Heap) (locs : List Loc), va_P D cl (wld ga n (K 0) (K 1) y) H → va_D A (wld ga n (K 0) (K 1) y) → va_S A s.heap H locs → lv_has ls 2 [] → W p l e ({ frames := 3, cells := 0, slots := 0, locals := 66 } : Room) s m args below meth c H locs 0 0 (MQ below ((CQv D (fun _ => wld ga n (K 0) (K 1) x)) A) args s 0 0 A) (F0 m 75 ls [])) → (∀ y : cSt, out = .inr y → y = x) → W p l e ({ frames := 3, cells := 0, slots := 0, locals := 66 } : Room) s m args below meth c H locs 0 0 (MQ below ((CQv D (fun _ => wld ga n (K 0) (K 1) x)) A) args s 0 0 A) (F0 m 2 ls []) := by
  intro q
  induction q with
  | zero =>
    intro M v1 out h
    cases (show none = some out from h)
  | succ q ih =>
    intro M v1 out h ls H locs hP hD hS hl kk hrt
    replace h : s_Tr_spread_2 (g_Tr_spread_2 n  q) n  M v1 = some out := h
    unfold s_Tr_spread_2 at h
    refine lv_iload_n hx hb dX8_spread_2 rfl (lv_at hl 1 rfl) ?_
    refine lv_sipush (v := iI 200) hx hb dX8_spread_3 rfl ?_
    obtain ⟨g1, h⟩ := og_some h
    by_cases c2 : 200 < v1
    · replace h := it_T h c2
      refine i_icmp_gt_T hx hb g1 ⟨by decide, by decide⟩ (tgt := 75) dX8_spread_6 (by decide) c2 ?_
      obtain rfl := Option.some.inj h
      exact kk _ rfl _ _ _ hP hD hS (lv_pk hl [] rfl)
    · replace h := it_F h c2
      refine i_icmp_gt_F hx hb g1 ⟨by decide, by decide⟩ (tgt := 75) dX8_spread_6 (by decide) c2 ?_
      obtain ⟨x10, ex10, h⟩ := ob_some h
      refine L_Tr_spread_9 hx hb hr hml hown hts hlk hK hA hm ga n v1  fu M _ ex10 _ _ _ hP hD hS (lv_pk hl [0, 1] rfl) (fun ls H locs (hP : va_P D cl (wld ga n (K 0) (K 1) x10) H) (hD : va_D A (wld ga n (K 0) (K 1) x10)) hS (hl : lv_has ls 2 [(0, .ref (ga 5)), (1, .int (iI v1))]) => ?_)
      refine lv_aload_n hx hb dX8_spread_61 rfl (lv_at hl 0 rfl) ?_
      obtain ⟨x11, ex11, h⟩ := ob_some h
      refine gk_i (run_V (rest := []) hx hb hml hown hts hK hP hD hS hA hm (C_Tr_markValues l G D K H.size ga n x10 ex11) _ (full_C _) (full_n _ List.nodup_range) mok_yX8_markValues w_597 w_599 w_p14 (rcv hK hP 5 go_5 rfl rfl) ⟨Nat.le_of_ble_eq_true rfl, Nat.le_of_ble_eq_true rfl⟩ rfl hl.1 rfl (Nat.le_of_ble_eq_true rfl) dX8_spread_62 ⟨(Nat.le_of_ble_eq_true rfl), (Nat.le_of_ble_eq_true rfl)⟩) hP hD hS hA (fun u H locs (hP : va_P D cl (wld ga n (K 0) (K 1) x11.1) H) (hD : va_D A (wld ga n (K 0) (K 1) x11.1)) hS => ?_)
      obtain ⟨g12, h⟩ := og_some h
      by_cases c13 : x11.2 = 0
      · replace h := it_T h c13
        refine i_if_ne_F hx hb g12 (tgt := 69) dX8_spread_65 (by decide) c13 ?_
        obtain rfl := Option.some.inj h
        obtain rfl := hrt _ rfl
        exact e_v hx hb hr hlk hP hD hS (fun _ => 0) rfl (Nat.le_of_ble_eq_true rfl) (Nat.le_of_ble_eq_true rfl) dX8_spread_68
      · replace h := it_F h c13
        refine i_if_ne_T hx hb g12 (tgt := 69) dX8_spread_65 (by decide) c13 ?_
        refine x_iinc (v := iI (v1 + 1)) hx hb dX8_spread_69 hl (k := 1) rfl (iI_add v1 1) (by decide) [0] (lv' := [(0, .ref (ga 5))]) rfl (⟨⟨Nat.ne_of_beq_eq_false rfl, Or.inr rfl⟩, trivial⟩) (fun ls hl => ?_)
        refine lv_goto (tgt := 2) hx hb dX8_spread_72 (by decide) ?_
        exact ih x11.1 (v1 + 1) _ h _ _ _ hP hD hS (lv_pk hl [1, 0] rfl) kk hrt
def f_Tr_spread (n : Nat) (M : cSt)  : Option (cSt) := ob (g_Tr_spread_2 n  fu M 0) (fun x14 => os x14 (fun y14 => some y14))
set_option maxHeartbeats 4000000 in
set_option maxRecDepth 100000 in
theorem C_Tr_spread (l : Launch) (G : Nat → Nat) (D : va_G) (K : Nat → ClassId) (sz : Nat) (ga : Nat → Nat) (n : Nat) (M : cSt)  {x : cSt} (h : f_Tr_spread n M  = some x) : CM l yX8_spread cX8_spread 2 (none : Option FieldType) ({ frames := 3, cells := 0, slots := 0, locals := 66 } : Room) G D K [.ref (ga 5)] (wld ga n (K 0) (K 1) M) sz (CQv D (fun _ => wld ga n (K 0) (K 1) x)) := by
  refine CM_of (lv0 := [(0, .ref (ga 5))]) pn_RX8 (Nat.le_of_ble_eq_true rfl) rfl (fun p e s m args below meth c A ls hx hb hr hml hown hts hlk hnm hP hK hD hS hA hm hl => ?_)
  have hown : s.vm.findClass RX8 = some m.cls := hown
  unfold f_Tr_spread at h
  refine lv_iconst (v := iI 0) hx hb dX8_spread_0 rfl ?_
  refine x_istore_n hx hb dX8_spread_1 rfl hl (by decide) [0] (lv' := [(0, .ref (ga 5))]) rfl (⟨⟨Nat.ne_of_beq_eq_false rfl, Or.inr rfl⟩, trivial⟩) (fun ls hl => ?_)
  obtain ⟨x14, ex14, h⟩ := ob_some h
  refine L_Tr_spread_2 hx hb hr hml hown hts hlk hK hA hm ga n   fu M 0 _ ex14 _ _ _ hP hD hS (lv_pk hl [1, 0] rfl) (fun y14 ty14 ls H locs (hP : va_P D cl (wld ga n (K 0) (K 1) y14) H) (hD : va_D A (wld ga n (K 0) (K 1) y14)) hS (hl : lv_has ls 2 []) => ?_) (fun y14 ty14 => os_r h ty14)
  replace h := os_l h ty14
  obtain rfl := Option.some.inj h
  exact e_v hx hb hr hlk hP hD hS (fun _ => 0) rfl (Nat.le_of_ble_eq_true rfl) (Nat.le_of_ble_eq_true rfl) dX8_spread_75
def s_Tr_cutPairs_2 (rec : cSt → Int → Option (cSt)) (n : Nat)  (M : cSt) (v1 : Int) : Option (cSt) := ob (f_Row_size n M 5) (fun x1 => og (inR v1) (og (inR x1) (if v1 < x1 then ob (f_Row_item n M 5 v1) (fun x5 => on x5 (rec M (v1 + 1)) (fun q6 => og (q6 < n) (og (inR (gT M q6 2)) (if gT M q6 2 = 3 then ob (f_Tr_hasMarked n M (some q6) 0) (fun x9 => og (inR x9) (if x9 = 0 then rec (sT M q6 13 1) (v1 + 1) else rec M (v1 + 1))) else rec M (v1 + 1))))) else some M)))
def g_Tr_cutPairs_2 (n : Nat)  : Nat → cSt → Int → Option (cSt)
  | 0 => fun _ _ => none
  | q + 1 => s_Tr_cutPairs_2 (g_Tr_cutPairs_2 n  q) n 
set_option maxHeartbeats 4000000 in
set_option maxRecDepth 100000 in
theorem L_Tr_cutPairs_2 {p : Program} {l : Launch} {G : Nat → Nat} {D : va_G} {K : Nat → ClassId} {e : Env} {s : State} {m : MethodId} {args : Array Value} {below : List Frame} {meth : Method} {c : Code} {A : Nat → Prop} (hx : p.tables.exec = Jvm.exec) (hb : c.code = cX8_cutPairs) (hr : meth.sig.returnType = (none : Option FieldType)) (hml : c.maxLocals = 3) (hown : s.vm.findClass RX8 = some m.cls) (hts : ∀ w ∈ lw_gw, w.before args s = true) (hlk : meth.locks = false) (hK : va_K D cl (tys K) s) (hA : ∀ q : Nat, s.heap.size ≤ q → A q) (hm : Amb G A s s.heap) {Q : State → Prop} (ga : Nat → Nat) (n : Nat)  : ∀ (q : Nat) (M : cSt) (v1 : Int) (out : cSt), g_Tr_cutPairs_2 n  q M v1 = some out → ∀ (ls : Array Slot) (H : Heap) (locs : List Loc), va_P D cl (wld ga n (K 0) (K 1) M) H → va_D A (wld ga n (K 0) (K 1) M) → va_S A s.heap H locs → lv_has ls 3 [(0, .ref (ga 5)), (1, .int (iI v1))] → (∀ (ls : Array Slot) (H : Heap) (locs : List Loc), va_P D cl (wld ga n (K 0) (K 1) out) H → va_D A (wld ga n (K 0) (K 1) out) → va_S A s.heap H locs → lv_has ls 3 [] → W p l e ({ frames := 2, cells := 0, slots := 0, locals := 43 } : Room) s m args below meth c H locs 0 0 Q (F0 m 53 ls [])) → W p l e ({ frames := 2, cells := 0, slots := 0, locals := 43 } : Room) s m args below meth c H locs 0 0 Q (F0 m 2 ls []) := by
  intro q
  induction q with
  | zero =>
    intro M v1 out h
    cases (show none = some out from h)
  | succ q ih =>
    intro M v1 out h ls H locs hP hD hS hl kk
    replace h : s_Tr_cutPairs_2 (g_Tr_cutPairs_2 n  q) n  M v1 = some out := h
    unfold s_Tr_cutPairs_2 at h
    refine lv_iload_n hx hb dX8_cutPairs_2 rfl (lv_at hl 1 rfl) ?_
    refine lv_aload_n hx hb dX8_cutPairs_3 rfl (lv_at hl 0 rfl) ?_
    refine r_get hx hb hts ok_RX8 hown hK hP 5 go_5 rfl 2 (by decide) w_159 (fun _ h9 => h9) rfl dX8_cutPairs_4 ?_
    obtain ⟨x1, ex1, h⟩ := ob_some h
    refine gk_i (run_V (rest := [.int (iI v1)]) hx hb hml hown hts hK hP hD hS hA hm (C_Row_size l G D K H.size ga n M 5 (by decide) ex1) _ (full_C _) (full_n _ List.nodup_range) mok_yX5_size w_565 w_405 w_406 (rcv hK hP (8 + 5) (go_ro (by decide)) rfl rfl) ⟨Nat.le_of_ble_eq_true rfl, Nat.le_of_ble_eq_true rfl⟩ rfl hl.1 rfl (Nat.le_of_ble_eq_true rfl) dX8_cutPairs_7 ⟨(Nat.le_of_ble_eq_true rfl), (Nat.le_of_ble_eq_true rfl)⟩) hP hD hS hA (fun u H locs (hP : va_P D cl (wld ga n (K 0) (K 1) M) H) (hD : va_D A (wld ga n (K 0) (K 1) M)) hS => ?_)
    obtain ⟨g2, h⟩ := og_some h
    obtain ⟨g3, h⟩ := og_some h
    by_cases c4 : v1 < x1
    · replace h := it_T h c4
      refine i_icmp_ge_F hx hb g2 g3 (tgt := 53) dX8_cutPairs_10 (by decide) c4 ?_
      refine lv_aload_n hx hb dX8_cutPairs_13 rfl (lv_at hl 0 rfl) ?_
      refine r_get hx hb hts ok_RX8 hown hK hP 5 go_5 rfl 2 (by decide) w_159 (fun _ h9 => h9) rfl dX8_cutPairs_14 ?_
      refine lv_iload_n hx hb dX8_cutPairs_17 rfl (lv_at hl 1 rfl) ?_
      obtain ⟨x5, ex5, h⟩ := ob_some h
      refine gk_q (run_V (rest := []) hx hb hml hown hts hK hP hD hS hA hm (C_Row_item l G D K H.size ga n M 5 (by decide) v1 ex5) _ (full_C _) (full_n _ List.nodup_range) mok_yX5_item w_566 w_419 w_420 (rcv hK hP (8 + 5) (go_ro (by decide)) rfl rfl) ⟨Nat.le_of_ble_eq_true rfl, Nat.le_of_ble_eq_true rfl⟩ rfl hl.1 rfl (Nat.le_of_ble_eq_true rfl) dX8_cutPairs_18 ⟨(Nat.le_of_ble_eq_true rfl), (Nat.le_of_ble_eq_true rfl)⟩) hP hD hS hA (fun u H locs (hP : va_P D cl (wld ga n (K 0) (K 1) M) H) (hD : va_D A (wld ga n (K 0) (K 1) M)) hS => ?_)
      refine w_tov (y := ctv ga x5) rfl ?_
      refine t_astore_n hx hb dX8_cutPairs_21 rfl hl (by decide) [0, 1] (lv' := [(0, .ref (ga 5)), (1, .int (iI v1))]) rfl (⟨⟨Nat.ne_of_beq_eq_false rfl, Or.inl (Nat.ne_of_beq_eq_false rfl)⟩, ⟨⟨Nat.ne_of_beq_eq_false rfl, Or.inr rfl⟩, trivial⟩⟩) (fun ls hl => ?_)
      refine t_aload_n hx hb dX8_cutPairs_22 rfl (lv_at hl 0 rfl) ?_
      rcases on_cases h with ⟨z6, h⟩ | ⟨q6, z6, h⟩
      · rw [ctv_none ga z6]
        refine lv_ifnullN (tgt := 47) hx hb dX8_cutPairs_23 (by decide) ?_
        refine x_iinc (v := iI (v1 + 1)) hx hb dX8_cutPairs_47 hl (k := 2) rfl (iI_add v1 1) (by decide) [0, 1] (lv' := [(2, ctv ga x5), (0, .ref (ga 5))]) rfl (⟨⟨Nat.ne_of_beq_eq_false rfl, Or.inl (Nat.ne_of_beq_eq_false rfl)⟩, ⟨⟨Nat.ne_of_beq_eq_false rfl, Or.inr rfl⟩, trivial⟩⟩) (fun ls hl => ?_)
        refine lv_goto (tgt := 2) hx hb dX8_cutPairs_50 (by decide) ?_
        exact ih M (v1 + 1) _ h _ _ _ hP hD hS (lv_pk hl [2, 0] rfl) kk
      · obtain ⟨hq6, h⟩ := og_some h
        rw [ctv_some ga z6]
        refine lv_ifnull hx hb dX8_cutPairs_23 ?_
        refine t_aload_n hx hb dX8_cutPairs_26 rfl (lv_at hl 0 rfl) ?_
        rw [ctv_some ga z6]
        refine r_get hx hb hts ok_RX7 hown hK hP (25 + 2 * q6) (go_th hq6) rfl 2 (by decide) w_684 (fun _ h9 => h9) rfl dX8_cutPairs_27 ?_
        refine lv_iconst (v := iI 3) hx hb dX8_cutPairs_30 rfl ?_
        obtain ⟨g7, h⟩ := og_some h
        by_cases c8 : gT M q6 2 = 3
        · replace h := it_T h c8
          refine i_icmp_ne_F hx hb g7 ⟨by decide, by decide⟩ (tgt := 47) dX8_cutPairs_31 (by decide) c8 ?_
          refine t_aload_n hx hb dX8_cutPairs_34 rfl (lv_at hl 0 rfl) ?_
          rw [ctv_some ga z6]
          refine lv_iconst (v := iI 0) hx hb dX8_cutPairs_35 rfl ?_
          obtain ⟨x9, ex9, h⟩ := ob_some h
          refine gk_i (run_S (rest := []) hx hb hml hown hts hK hP hD hS hA hm (C_Tr_hasMarked l G D K H.size ga n M (some q6) 0 ex9) _ (full_C _) (full_n _ List.nodup_range) mok_yX8_hasMarked w_601 w_602 ⟨Nat.le_of_ble_eq_true rfl, Nat.le_of_ble_eq_true rfl⟩ rfl hl.1 rfl (Nat.le_of_ble_eq_true rfl) dX8_cutPairs_36 ⟨(Nat.le_of_ble_eq_true rfl), (Nat.le_of_ble_eq_true rfl)⟩) hP hD hS hA (fun u H locs (hP : va_P D cl (wld ga n (K 0) (K 1) M) H) (hD : va_D A (wld ga n (K 0) (K 1) M)) hS => ?_)
          obtain ⟨g10, h⟩ := og_some h
          by_cases c11 : x9 = 0
          · replace h := it_T h c11
            refine i_if_ne_F hx hb g10 (tgt := 47) dX8_cutPairs_39 (by decide) c11 ?_
            refine t_aload_n hx hb dX8_cutPairs_42 rfl (lv_at hl 0 rfl) ?_
            rw [ctv_some ga z6]
            refine lv_iconst (v := iI 1) hx hb dX8_cutPairs_43 rfl ?_
            refine r_put hx hb hts ok_RX7 hown hK hP hD hS (25 + 2 * q6) (go_th hq6) rfl 13 (by decide) w_723 (fun _ h9 => h9) rfl (v := .int (iI 1)) (nar_b (Or.inr rfl)) (fit_b (Or.inr rfl)) (Nat.le_of_ble_eq_true rfl) dX8_cutPairs_44 (ws' := wld ga n (K 0) (K 1) (sT M q6 13 1)) wT_13 (fun H locs hP hD hS => ?_)
            refine x_iinc (v := iI (v1 + 1)) hx hb dX8_cutPairs_47 hl (k := 2) rfl (iI_add v1 1) (by decide) [0, 1] (lv' := [(2, ctv ga x5), (0, .ref (ga 5))]) rfl (⟨⟨Nat.ne_of_beq_eq_false rfl, Or.inl (Nat.ne_of_beq_eq_false rfl)⟩, ⟨⟨Nat.ne_of_beq_eq_false rfl, Or.inr rfl⟩, trivial⟩⟩) (fun ls hl => ?_)
            refine lv_goto (tgt := 2) hx hb dX8_cutPairs_50 (by decide) ?_
            exact ih (sT M q6 13 1) (v1 + 1) _ h _ _ _ hP hD hS (lv_pk hl [2, 0] rfl) kk
          · replace h := it_F h c11
            refine i_if_ne_T hx hb g10 (tgt := 47) dX8_cutPairs_39 (by decide) c11 ?_
            refine x_iinc (v := iI (v1 + 1)) hx hb dX8_cutPairs_47 hl (k := 2) rfl (iI_add v1 1) (by decide) [0, 1] (lv' := [(2, ctv ga x5), (0, .ref (ga 5))]) rfl (⟨⟨Nat.ne_of_beq_eq_false rfl, Or.inl (Nat.ne_of_beq_eq_false rfl)⟩, ⟨⟨Nat.ne_of_beq_eq_false rfl, Or.inr rfl⟩, trivial⟩⟩) (fun ls hl => ?_)
            refine lv_goto (tgt := 2) hx hb dX8_cutPairs_50 (by decide) ?_
            exact ih M (v1 + 1) _ h _ _ _ hP hD hS (lv_pk hl [2, 0] rfl) kk
        · replace h := it_F h c8
          refine i_icmp_ne_T hx hb g7 ⟨by decide, by decide⟩ (tgt := 47) dX8_cutPairs_31 (by decide) c8 ?_
          refine x_iinc (v := iI (v1 + 1)) hx hb dX8_cutPairs_47 hl (k := 2) rfl (iI_add v1 1) (by decide) [0, 1] (lv' := [(2, ctv ga x5), (0, .ref (ga 5))]) rfl (⟨⟨Nat.ne_of_beq_eq_false rfl, Or.inl (Nat.ne_of_beq_eq_false rfl)⟩, ⟨⟨Nat.ne_of_beq_eq_false rfl, Or.inr rfl⟩, trivial⟩⟩) (fun ls hl => ?_)
          refine lv_goto (tgt := 2) hx hb dX8_cutPairs_50 (by decide) ?_
          exact ih M (v1 + 1) _ h _ _ _ hP hD hS (lv_pk hl [2, 0] rfl) kk
    · replace h := it_F h c4
      refine i_icmp_ge_T hx hb g2 g3 (tgt := 53) dX8_cutPairs_10 (by decide) c4 ?_
      obtain rfl := Option.some.inj h
      exact kk _ _ _ hP hD hS (lv_pk hl [] rfl)
def f_Tr_cutPairs (n : Nat) (M : cSt)  : Option (cSt) := ob (g_Tr_cutPairs_2 n  fu M 0) (fun x12 => some x12)
set_option maxHeartbeats 4000000 in
set_option maxRecDepth 100000 in
theorem C_Tr_cutPairs (l : Launch) (G : Nat → Nat) (D : va_G) (K : Nat → ClassId) (sz : Nat) (ga : Nat → Nat) (n : Nat) (M : cSt)  {x : cSt} (h : f_Tr_cutPairs n M  = some x) : CM l yX8_cutPairs cX8_cutPairs 3 (none : Option FieldType) ({ frames := 2, cells := 0, slots := 0, locals := 43 } : Room) G D K [.ref (ga 5)] (wld ga n (K 0) (K 1) M) sz (CQv D (fun _ => wld ga n (K 0) (K 1) x)) := by
  refine CM_of (lv0 := [(0, .ref (ga 5))]) pn_RX8 (Nat.le_of_ble_eq_true rfl) rfl (fun p e s m args below meth c A ls hx hb hr hml hown hts hlk hnm hP hK hD hS hA hm hl => ?_)
  have hown : s.vm.findClass RX8 = some m.cls := hown
  unfold f_Tr_cutPairs at h
  refine lv_iconst (v := iI 0) hx hb dX8_cutPairs_0 rfl ?_
  refine x_istore_n hx hb dX8_cutPairs_1 rfl hl (by decide) [0] (lv' := [(0, .ref (ga 5))]) rfl (⟨⟨Nat.ne_of_beq_eq_false rfl, Or.inr rfl⟩, trivial⟩) (fun ls hl => ?_)
  obtain ⟨x12, ex12, h⟩ := ob_some h
  refine L_Tr_cutPairs_2 hx hb hr hml hown hts hlk hK hA hm ga n   fu M 0 _ ex12 _ _ _ hP hD hS (lv_pk hl [1, 0] rfl) (fun ls H locs (hP : va_P D cl (wld ga n (K 0) (K 1) x12) H) (hD : va_D A (wld ga n (K 0) (K 1) x12)) hS (hl : lv_has ls 3 []) => ?_)
  obtain rfl := Option.some.inj h
  exact e_v hx hb hr hlk hP hD hS (fun _ => 0) rfl (Nat.le_of_ble_eq_true rfl) (Nat.le_of_ble_eq_true rfl) dX8_cutPairs_53
def s_Tr_wordsFreed_20 (rec : cSt → Int → Option (cSt)) (n : Nat)  (M : cSt) (v3 : Int) : Option (cSt) := ob (f_Row_size n M 0) (fun x5 => og (inR v3) (og (inR x5) (if v3 < x5 then ob (f_Row_item n M 0 v3) (fun x9 => on x9 (rec M (v3 + 1)) (fun q10 => og (q10 < n) (og (inR (gT M q10 3)) (if gT M q10 3 = 0 then rec M (v3 + 1) else og (inR (gT M q10 2)) (if gT M q10 2 = 4 then ob (f_Tr_mark n M (some q10)) (fun x15 => rec x15 (v3 + 1)) else rec M (v3 + 1)))))) else some M)))
def g_Tr_wordsFreed_20 (n : Nat)  : Nat → cSt → Int → Option (cSt)
  | 0 => fun _ _ => none
  | q + 1 => s_Tr_wordsFreed_20 (g_Tr_wordsFreed_20 n  q) n 
set_option maxHeartbeats 4000000 in
set_option maxRecDepth 100000 in
theorem L_Tr_wordsFreed_20 {p : Program} {l : Launch} {G : Nat → Nat} {D : va_G} {K : Nat → ClassId} {e : Env} {s : State} {m : MethodId} {args : Array Value} {below : List Frame} {meth : Method} {c : Code} {A : Nat → Prop} (hx : p.tables.exec = Jvm.exec) (hb : c.code = cX8_wordsFreed) (hr : meth.sig.returnType = (some FieldType.int)) (hml : c.maxLocals = 6) (hown : s.vm.findClass RX8 = some m.cls) (hts : ∀ w ∈ lw_gw, w.before args s = true) (hlk : meth.locks = false) (hK : va_K D cl (tys K) s) (hA : ∀ q : Nat, s.heap.size ≤ q → A q) (hm : Amb G A s s.heap) {Q : State → Prop} (ga : Nat → Nat) (n : Nat)  : ∀ (q : Nat) (M : cSt) (v3 : Int) (out : cSt), g_Tr_wordsFreed_20 n  q M v3 = some out → ∀ (ls : Array Slot) (H : Heap) (locs : List Loc), va_P D cl (wld ga n (K 0) (K 1) M) H → va_D A (wld ga n (K 0) (K 1) M) → va_S A s.heap H locs → lv_has ls 6 [(0, .ref (ga 5)), (3, .int (iI v3))] → (∀ (ls : Array Slot) (H : Heap) (locs : List Loc), va_P D cl (wld ga n (K 0) (K 1) out) H → va_D A (wld ga n (K 0) (K 1) out) → va_S A s.heap H locs → lv_has ls 6 [(0, .ref (ga 5))] → W p l e ({ frames := 4, cells := 0, slots := 0, locals := 87 } : Room) s m args below meth c H locs 0 0 Q (F0 m 75 ls [])) → W p l e ({ frames := 4, cells := 0, slots := 0, locals := 87 } : Room) s m args below meth c H locs 0 0 Q (F0 m 20 ls []) := by
  intro q
  induction q with
  | zero =>
    intro M v3 out h
    cases (show none = some out from h)
  | succ q ih =>
    intro M v3 out h ls H locs hP hD hS hl kk
    replace h : s_Tr_wordsFreed_20 (g_Tr_wordsFreed_20 n  q) n  M v3 = some out := h
    unfold s_Tr_wordsFreed_20 at h
    refine lv_iload_n hx hb dX8_wordsFreed_20 rfl (lv_at hl 1 rfl) ?_
    refine lv_aload_n hx hb dX8_wordsFreed_21 rfl (lv_at hl 0 rfl) ?_
    refine r_get hx hb hts ok_RX8 hown hK hP 5 go_5 rfl 0 (by decide) w_157 (fun _ h9 => h9) rfl dX8_wordsFreed_22 ?_
    obtain ⟨x5, ex5, h⟩ := ob_some h
    refine gk_i (run_V (rest := [.int (iI v3)]) hx hb hml hown hts hK hP hD hS hA hm (C_Row_size l G D K H.size ga n M 0 (by decide) ex5) _ (full_C _) (full_n _ List.nodup_range) mok_yX5_size w_565 w_405 w_406 (rcv hK hP (8 + 0) (go_ro (by decide)) rfl rfl) ⟨Nat.le_of_ble_eq_true rfl, Nat.le_of_ble_eq_true rfl⟩ rfl hl.1 rfl (Nat.le_of_ble_eq_true rfl) dX8_wordsFreed_25 ⟨(Nat.le_of_ble_eq_true rfl), (Nat.le_of_ble_eq_true rfl)⟩) hP hD hS hA (fun u H locs (hP : va_P D cl (wld ga n (K 0) (K 1) M) H) (hD : va_D A (wld ga n (K 0) (K 1) M)) hS => ?_)
    obtain ⟨g6, h⟩ := og_some h
    obtain ⟨g7, h⟩ := og_some h
    by_cases c8 : v3 < x5
    · replace h := it_T h c8
      refine i_icmp_ge_F hx hb g6 g7 (tgt := 75) dX8_wordsFreed_28 (by decide) c8 ?_
      refine lv_aload_n hx hb dX8_wordsFreed_31 rfl (lv_at hl 0 rfl) ?_
      refine r_get hx hb hts ok_RX8 hown hK hP 5 go_5 rfl 0 (by decide) w_157 (fun _ h9 => h9) rfl dX8_wordsFreed_32 ?_
      refine lv_iload_n hx hb dX8_wordsFreed_35 rfl (lv_at hl 1 rfl) ?_
      obtain ⟨x9, ex9, h⟩ := ob_some h
      refine gk_q (run_V (rest := []) hx hb hml hown hts hK hP hD hS hA hm (C_Row_item l G D K H.size ga n M 0 (by decide) v3 ex9) _ (full_C _) (full_n _ List.nodup_range) mok_yX5_item w_566 w_419 w_420 (rcv hK hP (8 + 0) (go_ro (by decide)) rfl rfl) ⟨Nat.le_of_ble_eq_true rfl, Nat.le_of_ble_eq_true rfl⟩ rfl hl.1 rfl (Nat.le_of_ble_eq_true rfl) dX8_wordsFreed_36 ⟨(Nat.le_of_ble_eq_true rfl), (Nat.le_of_ble_eq_true rfl)⟩) hP hD hS hA (fun u H locs (hP : va_P D cl (wld ga n (K 0) (K 1) M) H) (hD : va_D A (wld ga n (K 0) (K 1) M)) hS => ?_)
      refine w_tov (y := ctv ga x9) rfl ?_
      refine t_astore hx hb dX8_wordsFreed_39 hl (by decide) [0, 1] (lv' := [(0, .ref (ga 5)), (3, .int (iI v3))]) rfl (⟨⟨Nat.ne_of_beq_eq_false rfl, Or.inl (Nat.ne_of_beq_eq_false rfl)⟩, ⟨⟨Nat.ne_of_beq_eq_false rfl, Or.inr rfl⟩, trivial⟩⟩) (fun ls hl => ?_)
      refine t_aload hx hb dX8_wordsFreed_41 (lv_at hl 0 rfl) ?_
      rcases on_cases h with ⟨z10, h⟩ | ⟨q10, z10, h⟩
      · rw [ctv_none ga z10]
        refine lv_ifnullN (tgt := 69) hx hb dX8_wordsFreed_43 (by decide) ?_
        refine x_iinc (v := iI (v3 + 1)) hx hb dX8_wordsFreed_69 hl (k := 2) rfl (iI_add v3 1) (by decide) [0, 1] (lv' := [(4, ctv ga x9), (0, .ref (ga 5))]) rfl (⟨⟨Nat.ne_of_beq_eq_false rfl, Or.inl (Nat.ne_of_beq_eq_false rfl)⟩, ⟨⟨Nat.ne_of_beq_eq_false rfl, Or.inl (Nat.ne_of_beq_eq_false rfl)⟩, trivial⟩⟩) (fun ls hl => ?_)
        refine lv_goto (tgt := 20) hx hb dX8_wordsFreed_72 (by decide) ?_
        exact ih M (v3 + 1) _ h _ _ _ hP hD hS (lv_pk hl [2, 0] rfl) kk
      · obtain ⟨hq10, h⟩ := og_some h
        rw [ctv_some ga z10]
        refine lv_ifnull hx hb dX8_wordsFreed_43 ?_
        refine t_aload hx hb dX8_wordsFreed_46 (lv_at hl 0 rfl) ?_
        rw [ctv_some ga z10]
        refine r_get hx hb hts ok_RX7 hown hK hP (25 + 2 * q10) (go_th hq10) rfl 3 (by decide) w_692 (fun _ h9 => h9) rfl dX8_wordsFreed_48 ?_
        obtain ⟨g11, h⟩ := og_some h
        by_cases c12 : gT M q10 3 = 0
        · replace h := it_T h c12
          refine i_if_eq_T hx hb g11 (tgt := 69) dX8_wordsFreed_51 (by decide) c12 ?_
          refine x_iinc (v := iI (v3 + 1)) hx hb dX8_wordsFreed_69 hl (k := 2) rfl (iI_add v3 1) (by decide) [0, 1] (lv' := [(4, ctv ga x9), (0, .ref (ga 5))]) rfl (⟨⟨Nat.ne_of_beq_eq_false rfl, Or.inl (Nat.ne_of_beq_eq_false rfl)⟩, ⟨⟨Nat.ne_of_beq_eq_false rfl, Or.inl (Nat.ne_of_beq_eq_false rfl)⟩, trivial⟩⟩) (fun ls hl => ?_)
          refine lv_goto (tgt := 20) hx hb dX8_wordsFreed_72 (by decide) ?_
          exact ih M (v3 + 1) _ h _ _ _ hP hD hS (lv_pk hl [2, 0] rfl) kk
        · replace h := it_F h c12
          refine i_if_eq_F hx hb g11 (tgt := 69) dX8_wordsFreed_51 (by decide) c12 ?_
          refine t_aload hx hb dX8_wordsFreed_54 (lv_at hl 0 rfl) ?_
          rw [ctv_some ga z10]
          refine r_get hx hb hts ok_RX7 hown hK hP (25 + 2 * q10) (go_th hq10) rfl 2 (by decide) w_684 (fun _ h9 => h9) rfl dX8_wordsFreed_56 ?_
          refine lv_iconst (v := iI 4) hx hb dX8_wordsFreed_59 rfl ?_
          obtain ⟨g13, h⟩ := og_some h
          by_cases c14 : gT M q10 2 = 4
          · replace h := it_T h c14
            refine i_icmp_ne_F hx hb g13 ⟨by decide, by decide⟩ (tgt := 69) dX8_wordsFreed_60 (by decide) c14 ?_
            refine lv_aload_n hx hb dX8_wordsFreed_63 rfl (lv_at hl 1 rfl) ?_
            refine t_aload hx hb dX8_wordsFreed_64 (lv_at hl 0 rfl) ?_
            rw [ctv_some ga z10]
            obtain ⟨x15, ex15, h⟩ := ob_some h
            refine gk_v (run_V (rest := []) hx hb hml hown hts hK hP hD hS hA hm (C_Tr_mark l G D K H.size ga n M (some q10) ex15) _ (full_C _) (full_n _ List.nodup_range) mok_yX8_mark w_571 w_572 w_573 (rcv hK hP 5 go_5 rfl rfl) ⟨Nat.le_of_ble_eq_true rfl, Nat.le_of_ble_eq_true rfl⟩ rfl hl.1 rfl (Nat.le_of_ble_eq_true rfl) dX8_wordsFreed_66 ⟨(Nat.le_of_ble_eq_true rfl), (Nat.le_of_ble_eq_true rfl)⟩) hP hD hS hA (fun u H locs (hP : va_P D cl (wld ga n (K 0) (K 1) x15) H) (hD : va_D A (wld ga n (K 0) (K 1) x15)) hS => ?_)
            refine x_iinc (v := iI (v3 + 1)) hx hb dX8_wordsFreed_69 hl (k := 2) rfl (iI_add v3 1) (by decide) [0, 1] (lv' := [(4, ctv ga x9), (0, .ref (ga 5))]) rfl (⟨⟨Nat.ne_of_beq_eq_false rfl, Or.inl (Nat.ne_of_beq_eq_false rfl)⟩, ⟨⟨Nat.ne_of_beq_eq_false rfl, Or.inl (Nat.ne_of_beq_eq_false rfl)⟩, trivial⟩⟩) (fun ls hl => ?_)
            refine lv_goto (tgt := 20) hx hb dX8_wordsFreed_72 (by decide) ?_
            exact ih x15 (v3 + 1) _ h _ _ _ hP hD hS (lv_pk hl [2, 0] rfl) kk
          · replace h := it_F h c14
            refine i_icmp_ne_T hx hb g13 ⟨by decide, by decide⟩ (tgt := 69) dX8_wordsFreed_60 (by decide) c14 ?_
            refine x_iinc (v := iI (v3 + 1)) hx hb dX8_wordsFreed_69 hl (k := 2) rfl (iI_add v3 1) (by decide) [0, 1] (lv' := [(4, ctv ga x9), (0, .ref (ga 5))]) rfl (⟨⟨Nat.ne_of_beq_eq_false rfl, Or.inl (Nat.ne_of_beq_eq_false rfl)⟩, ⟨⟨Nat.ne_of_beq_eq_false rfl, Or.inl (Nat.ne_of_beq_eq_false rfl)⟩, trivial⟩⟩) (fun ls hl => ?_)
            refine lv_goto (tgt := 20) hx hb dX8_wordsFreed_72 (by decide) ?_
            exact ih M (v3 + 1) _ h _ _ _ hP hD hS (lv_pk hl [2, 0] rfl) kk
    · replace h := it_F h c8
      refine i_icmp_ge_T hx hb g6 g7 (tgt := 75) dX8_wordsFreed_28 (by decide) c8 ?_
      obtain rfl := Option.some.inj h
      exact kk _ _ _ hP hD hS (lv_pk hl [0] rfl)
def s_Tr_wordsFreed_84 (rec : Int → Int → Option (Int)) (n : Nat) (M : cSt)  (v3 : Int) (v4 : Int) : Option (Int) := ob (f_Row_size n M 0) (fun x18 => og (inR v4) (og (inR x18) (if v4 < x18 then ob (f_Row_item n M 0 v4) (fun x22 => on x22 (rec v3 (v4 + 1)) (fun q23 => og (q23 < n) (og (inR (gT M q23 3)) (if gT M q23 3 = 0 then rec v3 (v4 + 1) else og (inR (gT M q23 12)) (if gT M q23 12 = 0 then rec (v3 + gT M q23 5) (v4 + 1) else rec v3 (v4 + 1)))))) else some v3)))
def g_Tr_wordsFreed_84 (n : Nat) (M : cSt)  : Nat → Int → Int → Option (Int)
  | 0 => fun _ _ => none
  | q + 1 => s_Tr_wordsFreed_84 (g_Tr_wordsFreed_84 n M  q) n M 
set_option maxHeartbeats 4000000 in
set_option maxRecDepth 100000 in
theorem L_Tr_wordsFreed_84 {p : Program} {l : Launch} {G : Nat → Nat} {D : va_G} {K : Nat → ClassId} {e : Env} {s : State} {m : MethodId} {args : Array Value} {below : List Frame} {meth : Method} {c : Code} {A : Nat → Prop} (hx : p.tables.exec = Jvm.exec) (hb : c.code = cX8_wordsFreed) (hr : meth.sig.returnType = (some FieldType.int)) (hml : c.maxLocals = 6) (hown : s.vm.findClass RX8 = some m.cls) (hts : ∀ w ∈ lw_gw, w.before args s = true) (hlk : meth.locks = false) (hK : va_K D cl (tys K) s) (hA : ∀ q : Nat, s.heap.size ≤ q → A q) (hm : Amb G A s s.heap) {Q : State → Prop} (ga : Nat → Nat) (n : Nat) (M : cSt)  : ∀ (q : Nat) (v3 : Int) (v4 : Int) (out : Int), g_Tr_wordsFreed_84 n M  q v3 v4 = some out → ∀ (ls : Array Slot) (H : Heap) (locs : List Loc), va_P D cl (wld ga n (K 0) (K 1) M) H → va_D A (wld ga n (K 0) (K 1) M) → va_S A s.heap H locs → lv_has ls 6 [(0, .ref (ga 5)), (3, .int (iI v3)), (4, .int (iI v4))] → (∀ (ls : Array Slot) (H : Heap) (locs : List Loc), va_P D cl (wld ga n (K 0) (K 1) M) H → va_D A (wld ga n (K 0) (K 1) M) → va_S A s.heap H locs → lv_has ls 6 [(3, .int (iI out))] → W p l e ({ frames := 4, cells := 0, slots := 0, locals := 87 } : Room) s m args below meth c H locs 0 0 Q (F0 m 142 ls [])) → W p l e ({ frames := 4, cells := 0, slots := 0, locals := 87 } : Room) s m args below meth c H locs 0 0 Q (F0 m 84 ls []) := by
  intro q
  induction q with
  | zero =>
    intro v3 v4 out h
    cases (show none = some out from h)
  | succ q ih =>
    intro v3 v4 out h ls H locs hP hD hS hl kk
    replace h : s_Tr_wordsFreed_84 (g_Tr_wordsFreed_84 n M  q) n M  v3 v4 = some out := h
    unfold s_Tr_wordsFreed_84 at h
    refine lv_iload hx hb dX8_wordsFreed_84 (lv_at hl 2 rfl) ?_
    refine lv_aload_n hx hb dX8_wordsFreed_86 rfl (lv_at hl 0 rfl) ?_
    refine r_get hx hb hts ok_RX8 hown hK hP 5 go_5 rfl 0 (by decide) w_157 (fun _ h9 => h9) rfl dX8_wordsFreed_87 ?_
    obtain ⟨x18, ex18, h⟩ := ob_some h
    refine gk_i (run_V (rest := [.int (iI v4)]) hx hb hml hown hts hK hP hD hS hA hm (C_Row_size l G D K H.size ga n M 0 (by decide) ex18) _ (full_C _) (full_n _ List.nodup_range) mok_yX5_size w_565 w_405 w_406 (rcv hK hP (8 + 0) (go_ro (by decide)) rfl rfl) ⟨Nat.le_of_ble_eq_true rfl, Nat.le_of_ble_eq_true rfl⟩ rfl hl.1 rfl (Nat.le_of_ble_eq_true rfl) dX8_wordsFreed_90 ⟨(Nat.le_of_ble_eq_true rfl), (Nat.le_of_ble_eq_true rfl)⟩) hP hD hS hA (fun u H locs (hP : va_P D cl (wld ga n (K 0) (K 1) M) H) (hD : va_D A (wld ga n (K 0) (K 1) M)) hS => ?_)
    obtain ⟨g19, h⟩ := og_some h
    obtain ⟨g20, h⟩ := og_some h
    by_cases c21 : v4 < x18
    · replace h := it_T h c21
      refine i_icmp_ge_F hx hb g19 g20 (tgt := 142) dX8_wordsFreed_93 (by decide) c21 ?_
      refine lv_aload_n hx hb dX8_wordsFreed_96 rfl (lv_at hl 0 rfl) ?_
      refine r_get hx hb hts ok_RX8 hown hK hP 5 go_5 rfl 0 (by decide) w_157 (fun _ h9 => h9) rfl dX8_wordsFreed_97 ?_
      refine lv_iload hx hb dX8_wordsFreed_100 (lv_at hl 2 rfl) ?_
      obtain ⟨x22, ex22, h⟩ := ob_some h
      refine gk_q (run_V (rest := []) hx hb hml hown hts hK hP hD hS hA hm (C_Row_item l G D K H.size ga n M 0 (by decide) v4 ex22) _ (full_C _) (full_n _ List.nodup_range) mok_yX5_item w_566 w_419 w_420 (rcv hK hP (8 + 0) (go_ro (by decide)) rfl rfl) ⟨Nat.le_of_ble_eq_true rfl, Nat.le_of_ble_eq_true rfl⟩ rfl hl.1 rfl (Nat.le_of_ble_eq_true rfl) dX8_wordsFreed_102 ⟨(Nat.le_of_ble_eq_true rfl), (Nat.le_of_ble_eq_true rfl)⟩) hP hD hS hA (fun u H locs (hP : va_P D cl (wld ga n (K 0) (K 1) M) H) (hD : va_D A (wld ga n (K 0) (K 1) M)) hS => ?_)
      refine w_tov (y := ctv ga x22) rfl ?_
      refine t_astore hx hb dX8_wordsFreed_105 hl (by decide) [0, 1, 2] (lv' := [(0, .ref (ga 5)), (3, .int (iI v3)), (4, .int (iI v4))]) rfl (⟨⟨Nat.ne_of_beq_eq_false rfl, Or.inl (Nat.ne_of_beq_eq_false rfl)⟩, ⟨⟨Nat.ne_of_beq_eq_false rfl, Or.inl (Nat.ne_of_beq_eq_false rfl)⟩, ⟨⟨Nat.ne_of_beq_eq_false rfl, Or.inr rfl⟩, trivial⟩⟩⟩) (fun ls hl => ?_)
      refine t_aload hx hb dX8_wordsFreed_107 (lv_at hl 0 rfl) ?_
      rcases on_cases h with ⟨z23, h⟩ | ⟨q23, z23, h⟩
      · rw [ctv_none ga z23]
        refine lv_ifnullN (tgt := 136) hx hb dX8_wordsFreed_109 (by decide) ?_
        refine x_iinc (v := iI (v4 + 1)) hx hb dX8_wordsFreed_136 hl (k := 3) rfl (iI_add v4 1) (by decide) [0, 1, 2] (lv' := [(5, ctv ga x22), (0, .ref (ga 5)), (3, .int (iI v3))]) rfl (⟨⟨Nat.ne_of_beq_eq_false rfl, Or.inl (Nat.ne_of_beq_eq_false rfl)⟩, ⟨⟨Nat.ne_of_beq_eq_false rfl, Or.inl (Nat.ne_of_beq_eq_false rfl)⟩, ⟨⟨Nat.ne_of_beq_eq_false rfl, Or.inr rfl⟩, trivial⟩⟩⟩) (fun ls hl => ?_)
        refine lv_goto (tgt := 84) hx hb dX8_wordsFreed_139 (by decide) ?_
        exact ih v3 (v4 + 1) _ h _ _ _ hP hD hS (lv_pk hl [2, 3, 0] rfl) kk
      · obtain ⟨hq23, h⟩ := og_some h
        rw [ctv_some ga z23]
        refine lv_ifnull hx hb dX8_wordsFreed_109 ?_
        refine t_aload hx hb dX8_wordsFreed_112 (lv_at hl 0 rfl) ?_
        rw [ctv_some ga z23]
        refine r_get hx hb hts ok_RX7 hown hK hP (25 + 2 * q23) (go_th hq23) rfl 3 (by decide) w_692 (fun _ h9 => h9) rfl dX8_wordsFreed_114 ?_
        obtain ⟨g24, h⟩ := og_some h
        by_cases c25 : gT M q23 3 = 0
        · replace h := it_T h c25
          refine i_if_eq_T hx hb g24 (tgt := 136) dX8_wordsFreed_117 (by decide) c25 ?_
          refine x_iinc (v := iI (v4 + 1)) hx hb dX8_wordsFreed_136 hl (k := 3) rfl (iI_add v4 1) (by decide) [0, 1, 2] (lv' := [(5, ctv ga x22), (0, .ref (ga 5)), (3, .int (iI v3))]) rfl (⟨⟨Nat.ne_of_beq_eq_false rfl, Or.inl (Nat.ne_of_beq_eq_false rfl)⟩, ⟨⟨Nat.ne_of_beq_eq_false rfl, Or.inl (Nat.ne_of_beq_eq_false rfl)⟩, ⟨⟨Nat.ne_of_beq_eq_false rfl, Or.inr rfl⟩, trivial⟩⟩⟩) (fun ls hl => ?_)
          refine lv_goto (tgt := 84) hx hb dX8_wordsFreed_139 (by decide) ?_
          exact ih v3 (v4 + 1) _ h _ _ _ hP hD hS (lv_pk hl [2, 3, 0] rfl) kk
        · replace h := it_F h c25
          refine i_if_eq_F hx hb g24 (tgt := 136) dX8_wordsFreed_117 (by decide) c25 ?_
          refine t_aload hx hb dX8_wordsFreed_120 (lv_at hl 0 rfl) ?_
          rw [ctv_some ga z23]
          refine r_get hx hb hts ok_RX7 hown hK hP (25 + 2 * q23) (go_th hq23) rfl 12 (by decide) w_720 (fun _ h9 => h9) rfl dX8_wordsFreed_122 ?_
          obtain ⟨g26, h⟩ := og_some h
          by_cases c27 : gT M q23 12 = 0
          · replace h := it_T h c27
            refine i_if_ne_F hx hb g26 (tgt := 136) dX8_wordsFreed_125 (by decide) c27 ?_
            refine lv_iload_n hx hb dX8_wordsFreed_128 rfl (lv_at hl 2 rfl) ?_
            refine t_aload hx hb dX8_wordsFreed_129 (lv_at hl 0 rfl) ?_
            rw [ctv_some ga z23]
            refine r_get hx hb hts ok_RX7 hown hK hP (25 + 2 * q23) (go_th hq23) rfl 5 (by decide) w_700 (fun _ h9 => h9) rfl dX8_wordsFreed_131 ?_
            refine lv_iadd hx hb dX8_wordsFreed_134 ?_
            refine w_toeq (iI_add v3 (gT M q23 5)) ?_
            refine x_istore_n hx hb dX8_wordsFreed_135 rfl hl (by decide) [0, 1, 3] (lv' := [(5, ctv ga x22), (0, .ref (ga 5)), (4, .int (iI v4))]) rfl (⟨⟨Nat.ne_of_beq_eq_false rfl, Or.inl (Nat.ne_of_beq_eq_false rfl)⟩, ⟨⟨Nat.ne_of_beq_eq_false rfl, Or.inl (Nat.ne_of_beq_eq_false rfl)⟩, ⟨⟨Nat.ne_of_beq_eq_false rfl, Or.inl (Nat.ne_of_beq_eq_false rfl)⟩, trivial⟩⟩⟩) (fun ls hl => ?_)
            refine x_iinc (v := iI (v4 + 1)) hx hb dX8_wordsFreed_136 hl (k := 3) rfl (iI_add v4 1) (by decide) [0, 1, 2] (lv' := [(3, .int (iI (v3 + gT M q23 5))), (5, ctv ga x22), (0, .ref (ga 5))]) rfl (⟨⟨Nat.ne_of_beq_eq_false rfl, Or.inr rfl⟩, ⟨⟨Nat.ne_of_beq_eq_false rfl, Or.inl (Nat.ne_of_beq_eq_false rfl)⟩, ⟨⟨Nat.ne_of_beq_eq_false rfl, Or.inl (Nat.ne_of_beq_eq_false rfl)⟩, trivial⟩⟩⟩) (fun ls hl => ?_)
            refine lv_goto (tgt := 84) hx hb dX8_wordsFreed_139 (by decide) ?_
            exact ih (v3 + gT M q23 5) (v4 + 1) _ h _ _ _ hP hD hS (lv_pk hl [3, 1, 0] rfl) kk
          · replace h := it_F h c27
            refine i_if_ne_T hx hb g26 (tgt := 136) dX8_wordsFreed_125 (by decide) c27 ?_
            refine x_iinc (v := iI (v4 + 1)) hx hb dX8_wordsFreed_136 hl (k := 3) rfl (iI_add v4 1) (by decide) [0, 1, 2] (lv' := [(5, ctv ga x22), (0, .ref (ga 5)), (3, .int (iI v3))]) rfl (⟨⟨Nat.ne_of_beq_eq_false rfl, Or.inl (Nat.ne_of_beq_eq_false rfl)⟩, ⟨⟨Nat.ne_of_beq_eq_false rfl, Or.inl (Nat.ne_of_beq_eq_false rfl)⟩, ⟨⟨Nat.ne_of_beq_eq_false rfl, Or.inr rfl⟩, trivial⟩⟩⟩) (fun ls hl => ?_)
            refine lv_goto (tgt := 84) hx hb dX8_wordsFreed_139 (by decide) ?_
            exact ih v3 (v4 + 1) _ h _ _ _ hP hD hS (lv_pk hl [2, 3, 0] rfl) kk
    · replace h := it_F h c21
      refine i_icmp_ge_T hx hb g19 g20 (tgt := 142) dX8_wordsFreed_93 (by decide) c21 ?_
      obtain rfl := Option.some.inj h
      exact kk _ _ _ hP hD hS (lv_pk hl [1] rfl)
def f_Tr_wordsFreed (n : Nat) (M : cSt) (a1 : Int) (t2 : Option Nat) : Option (cSt × Int) := ob (f_Tr_begin n M a1 t2) (fun x1 => ob (f_Tr_markRoots n x1) (fun x2 => ob (f_Tr_spread n x2) (fun x3 => ob (f_Tr_cutPairs n x3) (fun x4 => ob (g_Tr_wordsFreed_20 n  fu x4 0) (fun x16 => ob (f_Tr_spread n x16) (fun x17 => ob (g_Tr_wordsFreed_84 n x17 fu 0 0) (fun x28 => some (x17, x28))))))))
set_option maxHeartbeats 4000000 in
set_option maxRecDepth 100000 in
theorem C_Tr_wordsFreed (l : Launch) (G : Nat → Nat) (D : va_G) (K : Nat → ClassId) (sz : Nat) (ga : Nat → Nat) (n : Nat) (M : cSt) (a1 : Int) (t2 : Option Nat) {x : cSt × Int} (h : f_Tr_wordsFreed n M a1 t2 = some x) : CM l yX8_wordsFreed cX8_wordsFreed 6 (some FieldType.int) ({ frames := 4, cells := 0, slots := 0, locals := 87 } : Room) G D K [.ref (ga 5), .int (iI a1), ctv ga t2] (wld ga n (K 0) (K 1) M) sz (CQi (iI x.2) D (fun _ => wld ga n (K 0) (K 1) x.1)) := by
  refine CM_of (lv0 := [(0, .ref (ga 5)), (1, .int (iI a1)), (2, ctv ga t2)]) pn_RX8 (by cases t2 <;> exact (Nat.le_of_ble_eq_true rfl)) (by cases t2 <;> rfl) (fun p e s m args below meth c A ls hx hb hr hml hown hts hlk hnm hP hK hD hS hA hm hl => ?_)
  have hown : s.vm.findClass RX8 = some m.cls := hown
  unfold f_Tr_wordsFreed at h
  refine lv_aload_n hx hb dX8_wordsFreed_0 rfl (lv_at hl 0 rfl) ?_
  refine lv_iload_n hx hb dX8_wordsFreed_1 rfl (lv_at hl 1 rfl) ?_
  refine t_aload_n hx hb dX8_wordsFreed_2 rfl (lv_at hl 2 rfl) ?_
  obtain ⟨x1, ex1, h⟩ := ob_some h
  refine gk_v (run_V (rest := []) hx hb hml hown hts hK hP hD hS hA hm (C_Tr_begin l G D K s.heap.size ga n M a1 t2 ex1) _ (full_C _) (full_n _ List.nodup_range) mok_yX8_begin w_919 w_561 w_562 (rcv hK hP 5 go_5 rfl rfl) ⟨Nat.le_of_ble_eq_true rfl, Nat.le_of_ble_eq_true rfl⟩ rfl hl.1 rfl (Nat.le_of_ble_eq_true rfl) dX8_wordsFreed_3 ⟨(Nat.le_of_ble_eq_true rfl), (Nat.le_of_ble_eq_true rfl)⟩) hP hD hS hA (fun u H locs (hP : va_P D cl (wld ga n (K 0) (K 1) x1) H) (hD : va_D A (wld ga n (K 0) (K 1) x1)) hS => ?_)
  refine lv_aload_n hx hb dX8_wordsFreed_6 rfl (lv_at hl 0 rfl) ?_
  obtain ⟨x2, ex2, h⟩ := ob_some h
  refine gk_v (run_V (rest := []) hx hb hml hown hts hK hP hD hS hA hm (C_Tr_markRoots l G D K H.size ga n x1 ex2) _ (full_C _) (full_n _ List.nodup_range) mok_yX8_markRoots w_920 w_577 w_578 (rcv hK hP 5 go_5 rfl rfl) ⟨Nat.le_of_ble_eq_true rfl, Nat.le_of_ble_eq_true rfl⟩ rfl hl.1 rfl (Nat.le_of_ble_eq_true rfl) dX8_wordsFreed_7 ⟨(Nat.le_of_ble_eq_true rfl), (Nat.le_of_ble_eq_true rfl)⟩) hP hD hS hA (fun u H locs (hP : va_P D cl (wld ga n (K 0) (K 1) x2) H) (hD : va_D A (wld ga n (K 0) (K 1) x2)) hS => ?_)
  refine lv_aload_n hx hb dX8_wordsFreed_10 rfl (lv_at hl 0 rfl) ?_
  obtain ⟨x3, ex3, h⟩ := ob_some h
  refine gk_v (run_V (rest := []) hx hb hml hown hts hK hP hD hS hA hm (C_Tr_spread l G D K H.size ga n x2 ex3) _ (full_C _) (full_n _ List.nodup_range) mok_yX8_spread w_921 w_583 w_584 (rcv hK hP 5 go_5 rfl rfl) ⟨Nat.le_of_ble_eq_true rfl, Nat.le_of_ble_eq_true rfl⟩ rfl hl.1 rfl (Nat.le_of_ble_eq_true rfl) dX8_wordsFreed_11 ⟨(Nat.le_of_ble_eq_true rfl), (Nat.le_of_ble_eq_true rfl)⟩) hP hD hS hA (fun u H locs (hP : va_P D cl (wld ga n (K 0) (K 1) x3) H) (hD : va_D A (wld ga n (K 0) (K 1) x3)) hS => ?_)
  refine lv_aload_n hx hb dX8_wordsFreed_14 rfl (lv_at hl 0 rfl) ?_
  obtain ⟨x4, ex4, h⟩ := ob_some h
  refine gk_v (run_V (rest := []) hx hb hml hown hts hK hP hD hS hA hm (C_Tr_cutPairs l G D K H.size ga n x3 ex4) _ (full_C _) (full_n _ List.nodup_range) mok_yX8_cutPairs w_922 w_924 w_p23 (rcv hK hP 5 go_5 rfl rfl) ⟨Nat.le_of_ble_eq_true rfl, Nat.le_of_ble_eq_true rfl⟩ rfl hl.1 rfl (Nat.le_of_ble_eq_true rfl) dX8_wordsFreed_15 ⟨(Nat.le_of_ble_eq_true rfl), (Nat.le_of_ble_eq_true rfl)⟩) hP hD hS hA (fun u H locs (hP : va_P D cl (wld ga n (K 0) (K 1) x4) H) (hD : va_D A (wld ga n (K 0) (K 1) x4)) hS => ?_)
  refine lv_iconst (v := iI 0) hx hb dX8_wordsFreed_18 rfl ?_
  refine x_istore_n hx hb dX8_wordsFreed_19 rfl hl (by decide) [0, 1, 2] (lv' := [(0, .ref (ga 5)), (1, .int (iI a1)), (2, ctv ga t2)]) rfl (⟨⟨Nat.ne_of_beq_eq_false rfl, Or.inl (Nat.ne_of_beq_eq_false rfl)⟩, ⟨⟨Nat.ne_of_beq_eq_false rfl, Or.inl (Nat.ne_of_beq_eq_false rfl)⟩, ⟨⟨Nat.ne_of_beq_eq_false rfl, Or.inr (ctv_cat _ _)⟩, trivial⟩⟩⟩) (fun ls hl => ?_)
  obtain ⟨x16, ex16, h⟩ := ob_some h
  refine L_Tr_wordsFreed_20 hx hb hr hml hown hts hlk hK hA hm ga n   fu x4 0 _ ex16 _ _ _ hP hD hS (lv_pk hl [1, 0] rfl) (fun ls H locs (hP : va_P D cl (wld ga n (K 0) (K 1) x16) H) (hD : va_D A (wld ga n (K 0) (K 1) x16)) hS (hl : lv_has ls 6 [(0, .ref (ga 5))]) => ?_)
  refine lv_aload_n hx hb dX8_wordsFreed_75 rfl (lv_at hl 0 rfl) ?_
  obtain ⟨x17, ex17, h⟩ := ob_some h
  refine gk_v (run_V (rest := []) hx hb hml hown hts hK hP hD hS hA hm (C_Tr_spread l G D K H.size ga n x16 ex17) _ (full_C _) (full_n _ List.nodup_range) mok_yX8_spread w_921 w_583 w_584 (rcv hK hP 5 go_5 rfl rfl) ⟨Nat.le_of_ble_eq_true rfl, Nat.le_of_ble_eq_true rfl⟩ rfl hl.1 rfl (Nat.le_of_ble_eq_true rfl) dX8_wordsFreed_76 ⟨(Nat.le_of_ble_eq_true rfl), (Nat.le_of_ble_eq_true rfl)⟩) hP hD hS hA (fun u H locs (hP : va_P D cl (wld ga n (K 0) (K 1) x17) H) (hD : va_D A (wld ga n (K 0) (K 1) x17)) hS => ?_)
  refine lv_iconst (v := iI 0) hx hb dX8_wordsFreed_79 rfl ?_
  refine x_istore_n hx hb dX8_wordsFreed_80 rfl hl (by decide) [0] (lv' := [(0, .ref (ga 5))]) rfl (⟨⟨Nat.ne_of_beq_eq_false rfl, Or.inl (Nat.ne_of_beq_eq_false rfl)⟩, trivial⟩) (fun ls hl => ?_)
  refine lv_iconst (v := iI 0) hx hb dX8_wordsFreed_81 rfl ?_
  refine x_istore hx hb dX8_wordsFreed_82 hl (by decide) [0, 1] (lv' := [(3, .int (iI 0)), (0, .ref (ga 5))]) rfl (⟨⟨Nat.ne_of_beq_eq_false rfl, Or.inr rfl⟩, ⟨⟨Nat.ne_of_beq_eq_false rfl, Or.inl (Nat.ne_of_beq_eq_false rfl)⟩, trivial⟩⟩) (fun ls hl => ?_)
  obtain ⟨x28, ex28, h⟩ := ob_some h
  refine L_Tr_wordsFreed_84 hx hb hr hml hown hts hlk hK hA hm ga n x17  fu 0 0 _ ex28 _ _ _ hP hD hS (lv_pk hl [2, 1, 0] rfl) (fun ls H locs (hP : va_P D cl (wld ga n (K 0) (K 1) x17) H) (hD : va_D A (wld ga n (K 0) (K 1) x17)) hS (hl : lv_has ls 6 [(3, .int (iI x28))]) => ?_)
  refine lv_iload_n hx hb dX8_wordsFreed_142 rfl (lv_at hl 0 rfl) ?_
  obtain rfl := Option.some.inj h
  exact e_i hx hb hr hlk hP hD hS (fun _ => 0) rfl (Nat.le_of_ble_eq_true rfl) (Nat.le_of_ble_eq_true rfl) rfl dX8_wordsFreed_143
