/-! METHODS as functions, with their contracts, written by wip/p32/sx2.py -/
def s_Fu_dropReferences_2 (rec : cSt → Int → Option (cSt)) (n : Nat) (v1 : Int) (M : cSt) (v2 : Int) : Option (cSt) := ob (f_Row_size n M 0) (fun x1 => og (inR v2) (og (inR x1) (if v2 < x1 then ob (f_Row_item n M 0 v2) (fun x5 => on x5 (rec M (v2 + 1)) (fun q6 => og (q6 < n) (og (inR (gT M q6 2)) (if gT M q6 2 = 3 then og (inR (gT M q6 12)) (if gT M q6 12 = 0 then ob (f_X_isLoose n M (gT M q6 2) v1) (fun x11 => og (inR x11) (if x11 = 0 then rec M (v2 + 1) else ob (f_Tr_hasMarked n M (some q6) 0) (fun x14 => og (inR x14) (if x14 = 0 then ob (f_Th_write n M q6 0 none) (fun x17 => rec x17 (v2 + 1)) else rec M (v2 + 1))))) else ob (f_Tr_hasMarked n M (some q6) 0) (fun x18 => og (inR x18) (if x18 = 0 then ob (f_Th_write n M q6 0 none) (fun x21 => ob (f_Th_write n x21 q6 1 none) (fun x22 => ob (f_X_isLoose n x22 (gT x22 q6 2) v1) (fun x23 => og (inR x23) (if x23 = 0 then rec x22 (v2 + 1) else ob (f_Tr_hasMarked n x22 (some q6) 0) (fun x26 => og (inR x26) (if x26 = 0 then ob (f_Th_write n x22 q6 0 none) (fun x29 => rec x29 (v2 + 1)) else rec x22 (v2 + 1))))))) else ob (f_X_isLoose n M (gT M q6 2) v1) (fun x30 => og (inR x30) (if x30 = 0 then rec M (v2 + 1) else ob (f_Tr_hasMarked n M (some q6) 0) (fun x33 => og (inR x33) (if x33 = 0 then ob (f_Th_write n M q6 0 none) (fun x36 => rec x36 (v2 + 1)) else rec M (v2 + 1)))))))) else ob (f_X_isLoose n M (gT M q6 2) v1) (fun x37 => og (inR x37) (if x37 = 0 then rec M (v2 + 1) else ob (f_Tr_hasMarked n M (some q6) 0) (fun x40 => og (inR x40) (if x40 = 0 then ob (f_Th_write n M q6 0 none) (fun x43 => rec x43 (v2 + 1)) else rec M (v2 + 1))))))))) else some M)))
def g_Fu_dropReferences_2 (n : Nat) (v1 : Int) : Nat → cSt → Int → Option (cSt)
  | 0 => fun _ _ => none
  | q + 1 => s_Fu_dropReferences_2 (g_Fu_dropReferences_2 n v1 q) n v1
set_option maxHeartbeats 4000000 in
set_option maxRecDepth 100000 in
theorem L_Fu_dropReferences_2 {p : Program} {l : Launch} {G : Nat → Nat} {D : va_G} {K : Nat → ClassId} {e : Env} {s : State} {m : MethodId} {args : Array Value} {below : List Frame} {meth : Method} {c : Code} {A : Nat → Prop} (hx : p.tables.exec = Jvm.exec) (hb : c.code = cX0_dropReferences) (hr : meth.sig.returnType = (none : Option FieldType)) (hml : c.maxLocals = 4) (hown : s.vm.findClass RX0 = some m.cls) (hts : ∀ w ∈ lw_gw, w.before args s = true) (hlk : meth.locks = false) (hK : va_K D cl (tys K) s) (hA : ∀ q : Nat, s.heap.size ≤ q → A q) (hm : Amb G A s s.heap) {Q : State → Prop} (ga : Nat → Nat) (n : Nat) (v1 : Int) : ∀ (q : Nat) (M : cSt) (v2 : Int) (out : cSt), g_Fu_dropReferences_2 n v1 q M v2 = some out → ∀ (ls : Array Slot) (H : Heap) (locs : List Loc), va_P D cl (wld ga n (K 0) (K 1) M) H → va_D A (wld ga n (K 0) (K 1) M) → va_S A s.heap H locs → lv_has ls 4 [(0, .ref (ga 7)), (1, .int (iI v1)), (2, .int (iI v2))] → (∀ (ls : Array Slot) (H : Heap) (locs : List Loc), va_P D cl (wld ga n (K 0) (K 1) out) H → va_D A (wld ga n (K 0) (K 1) out) → va_S A s.heap H locs → lv_has ls 4 [] → W p l e ({ frames := 2, cells := 0, slots := 0, locals := 43 } : Room) s m args below meth c H locs 0 0 Q (F0 m 96 ls [])) → W p l e ({ frames := 2, cells := 0, slots := 0, locals := 43 } : Room) s m args below meth c H locs 0 0 Q (F0 m 2 ls []) := by
  intro q
  induction q with
  | zero =>
    intro M v2 out h
    cases (show none = some out from h)
  | succ q ih =>
    intro M v2 out h ls H locs hP hD hS hl kk
    replace h : s_Fu_dropReferences_2 (g_Fu_dropReferences_2 n v1 q) n v1 M v2 = some out := h
    unfold s_Fu_dropReferences_2 at h
    refine lv_iload_n hx hb dX0_dropReferences_2 rfl (lv_at hl 2 rfl) ?_
    refine lv_aload_n hx hb dX0_dropReferences_3 rfl (lv_at hl 0 rfl) ?_
    refine r_get hx hb hts ok_RX0 hown hK hP 7 go_7 rfl 0 (by decide) w_218 (fun _ h9 => h9) rfl dX0_dropReferences_4 ?_
    obtain ⟨x1, ex1, h⟩ := ob_some h
    refine gk_i (run_V (rest := [.int (iI v2)]) hx hb hml hown hts hK hP hD hS hA hm (C_Row_size l G D K H.size ga n M 0 (by decide) ex1) _ (full_C _) (full_n _ List.nodup_range) mok_yX5_size w_609 w_405 w_406 (rcv hK hP (8 + 0) (go_ro (by decide)) rfl rfl) ⟨Nat.le_of_ble_eq_true rfl, Nat.le_of_ble_eq_true rfl⟩ rfl hl.1 rfl (Nat.le_of_ble_eq_true rfl) dX0_dropReferences_7 ⟨(Nat.le_of_ble_eq_true rfl), (Nat.le_of_ble_eq_true rfl)⟩) hP hD hS hA (fun u H locs (hP : va_P D cl (wld ga n (K 0) (K 1) M) H) (hD : va_D A (wld ga n (K 0) (K 1) M)) hS => ?_)
    obtain ⟨g2, h⟩ := og_some h
    obtain ⟨g3, h⟩ := og_some h
    by_cases c4 : v2 < x1
    · replace h := it_T h c4
      refine i_icmp_ge_F hx hb g2 g3 (tgt := 96) dX0_dropReferences_10 (by decide) c4 ?_
      refine lv_aload_n hx hb dX0_dropReferences_13 rfl (lv_at hl 0 rfl) ?_
      refine r_get hx hb hts ok_RX0 hown hK hP 7 go_7 rfl 0 (by decide) w_218 (fun _ h9 => h9) rfl dX0_dropReferences_14 ?_
      refine lv_iload_n hx hb dX0_dropReferences_17 rfl (lv_at hl 2 rfl) ?_
      obtain ⟨x5, ex5, h⟩ := ob_some h
      refine gk_q (run_V (rest := []) hx hb hml hown hts hK hP hD hS hA hm (C_Row_item l G D K H.size ga n M 0 (by decide) v2 ex5) _ (full_C _) (full_n _ List.nodup_range) mok_yX5_item w_610 w_419 w_420 (rcv hK hP (8 + 0) (go_ro (by decide)) rfl rfl) ⟨Nat.le_of_ble_eq_true rfl, Nat.le_of_ble_eq_true rfl⟩ rfl hl.1 rfl (Nat.le_of_ble_eq_true rfl) dX0_dropReferences_18 ⟨(Nat.le_of_ble_eq_true rfl), (Nat.le_of_ble_eq_true rfl)⟩) hP hD hS hA (fun u H locs (hP : va_P D cl (wld ga n (K 0) (K 1) M) H) (hD : va_D A (wld ga n (K 0) (K 1) M)) hS => ?_)
      refine w_tov (y := ctv ga x5) rfl ?_
      refine t_astore_n hx hb dX0_dropReferences_21 rfl hl (by decide) [0, 1, 2] (lv' := [(0, .ref (ga 7)), (1, .int (iI v1)), (2, .int (iI v2))]) rfl (⟨⟨Nat.ne_of_beq_eq_false rfl, Or.inl (Nat.ne_of_beq_eq_false rfl)⟩, ⟨⟨Nat.ne_of_beq_eq_false rfl, Or.inl (Nat.ne_of_beq_eq_false rfl)⟩, ⟨⟨Nat.ne_of_beq_eq_false rfl, Or.inr rfl⟩, trivial⟩⟩⟩) (fun ls hl => ?_)
      refine t_aload_n hx hb dX0_dropReferences_22 rfl (lv_at hl 0 rfl) ?_
      rcases on_cases h with ⟨z6, h⟩ | ⟨q6, z6, h⟩
      · rw [ctv_none ga z6]
        refine lv_ifnullN (tgt := 61) hx hb dX0_dropReferences_23 (by decide) ?_
        refine t_aload_n hx hb dX0_dropReferences_61 rfl (lv_at hl 0 rfl) ?_
        rw [ctv_none ga z6]
        refine lv_ifnullN (tgt := 90) hx hb dX0_dropReferences_62 (by decide) ?_
        refine x_iinc (v := iI (v2 + 1)) hx hb dX0_dropReferences_90 hl (k := 3) rfl (iI_add v2 1) (by decide) [0, 1, 2] (lv' := [(3, ctv ga x5), (0, .ref (ga 7)), (1, .int (iI v1))]) rfl (⟨⟨Nat.ne_of_beq_eq_false rfl, Or.inl (Nat.ne_of_beq_eq_false rfl)⟩, ⟨⟨Nat.ne_of_beq_eq_false rfl, Or.inl (Nat.ne_of_beq_eq_false rfl)⟩, ⟨⟨Nat.ne_of_beq_eq_false rfl, Or.inr rfl⟩, trivial⟩⟩⟩) (fun ls hl => ?_)
        refine lv_goto (tgt := 2) hx hb dX0_dropReferences_93 (by decide) ?_
        exact ih M (v2 + 1) _ h _ _ _ hP hD hS (lv_pk hl [2, 3, 0] rfl) kk
      · obtain ⟨hq6, h⟩ := og_some h
        rw [ctv_some ga z6]
        refine lv_ifnull hx hb dX0_dropReferences_23 ?_
        refine t_aload_n hx hb dX0_dropReferences_26 rfl (lv_at hl 0 rfl) ?_
        rw [ctv_some ga z6]
        refine r_get hx hb hts ok_RX7 hown hK hP (25 + 2 * q6) (go_th hq6) rfl 2 (by decide) w_683 (fun _ h9 => h9) rfl dX0_dropReferences_27 ?_
        refine lv_iconst (v := iI 3) hx hb dX0_dropReferences_30 rfl ?_
        obtain ⟨g7, h⟩ := og_some h
        by_cases c8 : gT M q6 2 = 3
        · replace h := it_T h c8
          refine i_icmp_ne_F hx hb g7 ⟨by decide, by decide⟩ (tgt := 61) dX0_dropReferences_31 (by decide) c8 ?_
          refine t_aload_n hx hb dX0_dropReferences_34 rfl (lv_at hl 0 rfl) ?_
          rw [ctv_some ga z6]
          refine r_get hx hb hts ok_RX7 hown hK hP (25 + 2 * q6) (go_th hq6) rfl 12 (by decide) w_721 (fun _ h9 => h9) rfl dX0_dropReferences_35 ?_
          obtain ⟨g9, h⟩ := og_some h
          by_cases c10 : gT M q6 12 = 0
          · replace h := it_T h c10
            refine i_if_eq_T hx hb g9 (tgt := 61) dX0_dropReferences_38 (by decide) c10 ?_
            refine t_aload_n hx hb dX0_dropReferences_61 rfl (lv_at hl 0 rfl) ?_
            rw [ctv_some ga z6]
            refine lv_ifnull hx hb dX0_dropReferences_62 ?_
            refine t_aload_n hx hb dX0_dropReferences_65 rfl (lv_at hl 0 rfl) ?_
            rw [ctv_some ga z6]
            refine r_get hx hb hts ok_RX7 hown hK hP (25 + 2 * q6) (go_th hq6) rfl 2 (by decide) w_683 (fun _ h9 => h9) rfl dX0_dropReferences_66 ?_
            refine lv_iload_n hx hb dX0_dropReferences_69 rfl (lv_at hl 2 rfl) ?_
            obtain ⟨x11, ex11, h⟩ := ob_some h
            refine gk_i (run_SN (rest := []) hx hb hml hown hts hK hP hD hS hA hm (C_X_isLoose l G D K H.size ga n M (gT M q6 2) v1 ex11) _ (full_C _) (full_n _ List.nodup_range) mok_yX9_isLoose w_613 w_595 ⟨Nat.le_of_ble_eq_true rfl, Nat.le_of_ble_eq_true rfl⟩ rfl hl.1 rfl (Nat.le_of_ble_eq_true rfl) dX0_dropReferences_70 ⟨(Nat.le_of_ble_eq_true rfl), (Nat.le_of_ble_eq_true rfl)⟩) hP hD hS hA (fun u H locs (hP : va_P D cl (wld ga n (K 0) (K 1) M) H) (hD : va_D A (wld ga n (K 0) (K 1) M)) hS => ?_)
            obtain ⟨g12, h⟩ := og_some h
            by_cases c13 : x11 = 0
            · replace h := it_T h c13
              refine i_if_eq_T hx hb g12 (tgt := 90) dX0_dropReferences_73 (by decide) c13 ?_
              refine x_iinc (v := iI (v2 + 1)) hx hb dX0_dropReferences_90 hl (k := 3) rfl (iI_add v2 1) (by decide) [0, 1, 2] (lv' := [(3, ctv ga x5), (0, .ref (ga 7)), (1, .int (iI v1))]) rfl (⟨⟨Nat.ne_of_beq_eq_false rfl, Or.inl (Nat.ne_of_beq_eq_false rfl)⟩, ⟨⟨Nat.ne_of_beq_eq_false rfl, Or.inl (Nat.ne_of_beq_eq_false rfl)⟩, ⟨⟨Nat.ne_of_beq_eq_false rfl, Or.inr rfl⟩, trivial⟩⟩⟩) (fun ls hl => ?_)
              refine lv_goto (tgt := 2) hx hb dX0_dropReferences_93 (by decide) ?_
              exact ih M (v2 + 1) _ h _ _ _ hP hD hS (lv_pk hl [2, 3, 0] rfl) kk
            · replace h := it_F h c13
              refine i_if_eq_F hx hb g12 (tgt := 90) dX0_dropReferences_73 (by decide) c13 ?_
              refine t_aload_n hx hb dX0_dropReferences_76 rfl (lv_at hl 0 rfl) ?_
              rw [ctv_some ga z6]
              refine lv_iconst (v := iI 0) hx hb dX0_dropReferences_77 rfl ?_
              obtain ⟨x14, ex14, h⟩ := ob_some h
              refine gk_i (run_S (rest := []) hx hb hml hown hts hK hP hD hS hA hm (C_Tr_hasMarked l G D K H.size ga n M (some q6) 0 ex14) _ (full_C _) (full_n _ List.nodup_range) mok_yX8_hasMarked w_611 w_602 ⟨Nat.le_of_ble_eq_true rfl, Nat.le_of_ble_eq_true rfl⟩ rfl hl.1 rfl (Nat.le_of_ble_eq_true rfl) dX0_dropReferences_78 ⟨(Nat.le_of_ble_eq_true rfl), (Nat.le_of_ble_eq_true rfl)⟩) hP hD hS hA (fun u H locs (hP : va_P D cl (wld ga n (K 0) (K 1) M) H) (hD : va_D A (wld ga n (K 0) (K 1) M)) hS => ?_)
              obtain ⟨g15, h⟩ := og_some h
              by_cases c16 : x14 = 0
              · replace h := it_T h c16
                refine i_if_ne_F hx hb g15 (tgt := 90) dX0_dropReferences_81 (by decide) c16 ?_
                refine t_aload_n hx hb dX0_dropReferences_84 rfl (lv_at hl 0 rfl) ?_
                rw [ctv_some ga z6]
                refine lv_iconst (v := iI 0) hx hb dX0_dropReferences_85 rfl ?_
                refine lv_null hx hb dX0_dropReferences_86 ?_
                obtain ⟨x17, ex17, h⟩ := ob_some h
                refine gk_v (run_V (rest := []) hx hb hml hown hts hK hP hD hS hA hm (C_Th_write l G D K H.size ga n M q6 hq6 0 none ex17) _ (full_C _) (full_n _ List.nodup_range) mok_yX7_write w_612 w_513 w_514 (rcv hK hP (25 + 2 * q6) (go_th hq6) rfl rfl) ⟨Nat.le_of_ble_eq_true rfl, Nat.le_of_ble_eq_true rfl⟩ rfl hl.1 rfl (Nat.le_of_ble_eq_true rfl) dX0_dropReferences_87 ⟨(Nat.le_of_ble_eq_true rfl), (Nat.le_of_ble_eq_true rfl)⟩) hP hD hS hA (fun u H locs (hP : va_P D cl (wld ga n (K 0) (K 1) x17) H) (hD : va_D A (wld ga n (K 0) (K 1) x17)) hS => ?_)
                refine x_iinc (v := iI (v2 + 1)) hx hb dX0_dropReferences_90 hl (k := 3) rfl (iI_add v2 1) (by decide) [0, 1, 2] (lv' := [(3, ctv ga x5), (0, .ref (ga 7)), (1, .int (iI v1))]) rfl (⟨⟨Nat.ne_of_beq_eq_false rfl, Or.inl (Nat.ne_of_beq_eq_false rfl)⟩, ⟨⟨Nat.ne_of_beq_eq_false rfl, Or.inl (Nat.ne_of_beq_eq_false rfl)⟩, ⟨⟨Nat.ne_of_beq_eq_false rfl, Or.inr rfl⟩, trivial⟩⟩⟩) (fun ls hl => ?_)
                refine lv_goto (tgt := 2) hx hb dX0_dropReferences_93 (by decide) ?_
                exact ih x17 (v2 + 1) _ h _ _ _ hP hD hS (lv_pk hl [2, 3, 0] rfl) kk
              · replace h := it_F h c16
                refine i_if_ne_T hx hb g15 (tgt := 90) dX0_dropReferences_81 (by decide) c16 ?_
                refine x_iinc (v := iI (v2 + 1)) hx hb dX0_dropReferences_90 hl (k := 3) rfl (iI_add v2 1) (by decide) [0, 1, 2] (lv' := [(3, ctv ga x5), (0, .ref (ga 7)), (1, .int (iI v1))]) rfl (⟨⟨Nat.ne_of_beq_eq_false rfl, Or.inl (Nat.ne_of_beq_eq_false rfl)⟩, ⟨⟨Nat.ne_of_beq_eq_false rfl, Or.inl (Nat.ne_of_beq_eq_false rfl)⟩, ⟨⟨Nat.ne_of_beq_eq_false rfl, Or.inr rfl⟩, trivial⟩⟩⟩) (fun ls hl => ?_)
                refine lv_goto (tgt := 2) hx hb dX0_dropReferences_93 (by decide) ?_
                exact ih M (v2 + 1) _ h _ _ _ hP hD hS (lv_pk hl [2, 3, 0] rfl) kk
          · replace h := it_F h c10
            refine i_if_eq_F hx hb g9 (tgt := 61) dX0_dropReferences_38 (by decide) c10 ?_
            refine t_aload_n hx hb dX0_dropReferences_41 rfl (lv_at hl 0 rfl) ?_
            rw [ctv_some ga z6]
            refine lv_iconst (v := iI 0) hx hb dX0_dropReferences_42 rfl ?_
            obtain ⟨x18, ex18, h⟩ := ob_some h
            refine gk_i (run_S (rest := []) hx hb hml hown hts hK hP hD hS hA hm (C_Tr_hasMarked l G D K H.size ga n M (some q6) 0 ex18) _ (full_C _) (full_n _ List.nodup_range) mok_yX8_hasMarked w_611 w_602 ⟨Nat.le_of_ble_eq_true rfl, Nat.le_of_ble_eq_true rfl⟩ rfl hl.1 rfl (Nat.le_of_ble_eq_true rfl) dX0_dropReferences_43 ⟨(Nat.le_of_ble_eq_true rfl), (Nat.le_of_ble_eq_true rfl)⟩) hP hD hS hA (fun u H locs (hP : va_P D cl (wld ga n (K 0) (K 1) M) H) (hD : va_D A (wld ga n (K 0) (K 1) M)) hS => ?_)
            obtain ⟨g19, h⟩ := og_some h
            by_cases c20 : x18 = 0
            · replace h := it_T h c20
              refine i_if_ne_F hx hb g19 (tgt := 61) dX0_dropReferences_46 (by decide) c20 ?_
              refine t_aload_n hx hb dX0_dropReferences_49 rfl (lv_at hl 0 rfl) ?_
              rw [ctv_some ga z6]
              refine lv_iconst (v := iI 0) hx hb dX0_dropReferences_50 rfl ?_
              refine lv_null hx hb dX0_dropReferences_51 ?_
              obtain ⟨x21, ex21, h⟩ := ob_some h
              refine gk_v (run_V (rest := []) hx hb hml hown hts hK hP hD hS hA hm (C_Th_write l G D K H.size ga n M q6 hq6 0 none ex21) _ (full_C _) (full_n _ List.nodup_range) mok_yX7_write w_612 w_513 w_514 (rcv hK hP (25 + 2 * q6) (go_th hq6) rfl rfl) ⟨Nat.le_of_ble_eq_true rfl, Nat.le_of_ble_eq_true rfl⟩ rfl hl.1 rfl (Nat.le_of_ble_eq_true rfl) dX0_dropReferences_52 ⟨(Nat.le_of_ble_eq_true rfl), (Nat.le_of_ble_eq_true rfl)⟩) hP hD hS hA (fun u H locs (hP : va_P D cl (wld ga n (K 0) (K 1) x21) H) (hD : va_D A (wld ga n (K 0) (K 1) x21)) hS => ?_)
              refine t_aload_n hx hb dX0_dropReferences_55 rfl (lv_at hl 0 rfl) ?_
              rw [ctv_some ga z6]
              refine lv_iconst (v := iI 1) hx hb dX0_dropReferences_56 rfl ?_
              refine lv_null hx hb dX0_dropReferences_57 ?_
              obtain ⟨x22, ex22, h⟩ := ob_some h
              refine gk_v (run_V (rest := []) hx hb hml hown hts hK hP hD hS hA hm (C_Th_write l G D K H.size ga n x21 q6 hq6 1 none ex22) _ (full_C _) (full_n _ List.nodup_range) mok_yX7_write w_612 w_513 w_514 (rcv hK hP (25 + 2 * q6) (go_th hq6) rfl rfl) ⟨Nat.le_of_ble_eq_true rfl, Nat.le_of_ble_eq_true rfl⟩ rfl hl.1 rfl (Nat.le_of_ble_eq_true rfl) dX0_dropReferences_58 ⟨(Nat.le_of_ble_eq_true rfl), (Nat.le_of_ble_eq_true rfl)⟩) hP hD hS hA (fun u H locs (hP : va_P D cl (wld ga n (K 0) (K 1) x22) H) (hD : va_D A (wld ga n (K 0) (K 1) x22)) hS => ?_)
              refine t_aload_n hx hb dX0_dropReferences_61 rfl (lv_at hl 0 rfl) ?_
              rw [ctv_some ga z6]
              refine lv_ifnull hx hb dX0_dropReferences_62 ?_
              refine t_aload_n hx hb dX0_dropReferences_65 rfl (lv_at hl 0 rfl) ?_
              rw [ctv_some ga z6]
              refine r_get hx hb hts ok_RX7 hown hK hP (25 + 2 * q6) (go_th hq6) rfl 2 (by decide) w_683 (fun _ h9 => h9) rfl dX0_dropReferences_66 ?_
              refine lv_iload_n hx hb dX0_dropReferences_69 rfl (lv_at hl 2 rfl) ?_
              obtain ⟨x23, ex23, h⟩ := ob_some h
              refine gk_i (run_SN (rest := []) hx hb hml hown hts hK hP hD hS hA hm (C_X_isLoose l G D K H.size ga n x22 (gT x22 q6 2) v1 ex23) _ (full_C _) (full_n _ List.nodup_range) mok_yX9_isLoose w_613 w_595 ⟨Nat.le_of_ble_eq_true rfl, Nat.le_of_ble_eq_true rfl⟩ rfl hl.1 rfl (Nat.le_of_ble_eq_true rfl) dX0_dropReferences_70 ⟨(Nat.le_of_ble_eq_true rfl), (Nat.le_of_ble_eq_true rfl)⟩) hP hD hS hA (fun u H locs (hP : va_P D cl (wld ga n (K 0) (K 1) x22) H) (hD : va_D A (wld ga n (K 0) (K 1) x22)) hS => ?_)
              obtain ⟨g24, h⟩ := og_some h
              by_cases c25 : x23 = 0
              · replace h := it_T h c25
                refine i_if_eq_T hx hb g24 (tgt := 90) dX0_dropReferences_73 (by decide) c25 ?_
                refine x_iinc (v := iI (v2 + 1)) hx hb dX0_dropReferences_90 hl (k := 3) rfl (iI_add v2 1) (by decide) [0, 1, 2] (lv' := [(3, ctv ga x5), (0, .ref (ga 7)), (1, .int (iI v1))]) rfl (⟨⟨Nat.ne_of_beq_eq_false rfl, Or.inl (Nat.ne_of_beq_eq_false rfl)⟩, ⟨⟨Nat.ne_of_beq_eq_false rfl, Or.inl (Nat.ne_of_beq_eq_false rfl)⟩, ⟨⟨Nat.ne_of_beq_eq_false rfl, Or.inr rfl⟩, trivial⟩⟩⟩) (fun ls hl => ?_)
                refine lv_goto (tgt := 2) hx hb dX0_dropReferences_93 (by decide) ?_
                exact ih x22 (v2 + 1) _ h _ _ _ hP hD hS (lv_pk hl [2, 3, 0] rfl) kk
              · replace h := it_F h c25
                refine i_if_eq_F hx hb g24 (tgt := 90) dX0_dropReferences_73 (by decide) c25 ?_
                refine t_aload_n hx hb dX0_dropReferences_76 rfl (lv_at hl 0 rfl) ?_
                rw [ctv_some ga z6]
                refine lv_iconst (v := iI 0) hx hb dX0_dropReferences_77 rfl ?_
                obtain ⟨x26, ex26, h⟩ := ob_some h
                refine gk_i (run_S (rest := []) hx hb hml hown hts hK hP hD hS hA hm (C_Tr_hasMarked l G D K H.size ga n x22 (some q6) 0 ex26) _ (full_C _) (full_n _ List.nodup_range) mok_yX8_hasMarked w_611 w_602 ⟨Nat.le_of_ble_eq_true rfl, Nat.le_of_ble_eq_true rfl⟩ rfl hl.1 rfl (Nat.le_of_ble_eq_true rfl) dX0_dropReferences_78 ⟨(Nat.le_of_ble_eq_true rfl), (Nat.le_of_ble_eq_true rfl)⟩) hP hD hS hA (fun u H locs (hP : va_P D cl (wld ga n (K 0) (K 1) x22) H) (hD : va_D A (wld ga n (K 0) (K 1) x22)) hS => ?_)
                obtain ⟨g27, h⟩ := og_some h
                by_cases c28 : x26 = 0
                · replace h := it_T h c28
                  refine i_if_ne_F hx hb g27 (tgt := 90) dX0_dropReferences_81 (by decide) c28 ?_
                  refine t_aload_n hx hb dX0_dropReferences_84 rfl (lv_at hl 0 rfl) ?_
                  rw [ctv_some ga z6]
                  refine lv_iconst (v := iI 0) hx hb dX0_dropReferences_85 rfl ?_
                  refine lv_null hx hb dX0_dropReferences_86 ?_
                  obtain ⟨x29, ex29, h⟩ := ob_some h
                  refine gk_v (run_V (rest := []) hx hb hml hown hts hK hP hD hS hA hm (C_Th_write l G D K H.size ga n x22 q6 hq6 0 none ex29) _ (full_C _) (full_n _ List.nodup_range) mok_yX7_write w_612 w_513 w_514 (rcv hK hP (25 + 2 * q6) (go_th hq6) rfl rfl) ⟨Nat.le_of_ble_eq_true rfl, Nat.le_of_ble_eq_true rfl⟩ rfl hl.1 rfl (Nat.le_of_ble_eq_true rfl) dX0_dropReferences_87 ⟨(Nat.le_of_ble_eq_true rfl), (Nat.le_of_ble_eq_true rfl)⟩) hP hD hS hA (fun u H locs (hP : va_P D cl (wld ga n (K 0) (K 1) x29) H) (hD : va_D A (wld ga n (K 0) (K 1) x29)) hS => ?_)
                  refine x_iinc (v := iI (v2 + 1)) hx hb dX0_dropReferences_90 hl (k := 3) rfl (iI_add v2 1) (by decide) [0, 1, 2] (lv' := [(3, ctv ga x5), (0, .ref (ga 7)), (1, .int (iI v1))]) rfl (⟨⟨Nat.ne_of_beq_eq_false rfl, Or.inl (Nat.ne_of_beq_eq_false rfl)⟩, ⟨⟨Nat.ne_of_beq_eq_false rfl, Or.inl (Nat.ne_of_beq_eq_false rfl)⟩, ⟨⟨Nat.ne_of_beq_eq_false rfl, Or.inr rfl⟩, trivial⟩⟩⟩) (fun ls hl => ?_)
                  refine lv_goto (tgt := 2) hx hb dX0_dropReferences_93 (by decide) ?_
                  exact ih x29 (v2 + 1) _ h _ _ _ hP hD hS (lv_pk hl [2, 3, 0] rfl) kk
                · replace h := it_F h c28
                  refine i_if_ne_T hx hb g27 (tgt := 90) dX0_dropReferences_81 (by decide) c28 ?_
                  refine x_iinc (v := iI (v2 + 1)) hx hb dX0_dropReferences_90 hl (k := 3) rfl (iI_add v2 1) (by decide) [0, 1, 2] (lv' := [(3, ctv ga x5), (0, .ref (ga 7)), (1, .int (iI v1))]) rfl (⟨⟨Nat.ne_of_beq_eq_false rfl, Or.inl (Nat.ne_of_beq_eq_false rfl)⟩, ⟨⟨Nat.ne_of_beq_eq_false rfl, Or.inl (Nat.ne_of_beq_eq_false rfl)⟩, ⟨⟨Nat.ne_of_beq_eq_false rfl, Or.inr rfl⟩, trivial⟩⟩⟩) (fun ls hl => ?_)
                  refine lv_goto (tgt := 2) hx hb dX0_dropReferences_93 (by decide) ?_
                  exact ih x22 (v2 + 1) _ h _ _ _ hP hD hS (lv_pk hl [2, 3, 0] rfl) kk
            · replace h := it_F h c20
              refine i_if_ne_T hx hb g19 (tgt := 61) dX0_dropReferences_46 (by decide) c20 ?_
              refine t_aload_n hx hb dX0_dropReferences_61 rfl (lv_at hl 0 rfl) ?_
              rw [ctv_some ga z6]
              refine lv_ifnull hx hb dX0_dropReferences_62 ?_
              refine t_aload_n hx hb dX0_dropReferences_65 rfl (lv_at hl 0 rfl) ?_
              rw [ctv_some ga z6]
              refine r_get hx hb hts ok_RX7 hown hK hP (25 + 2 * q6) (go_th hq6) rfl 2 (by decide) w_683 (fun _ h9 => h9) rfl dX0_dropReferences_66 ?_
              refine lv_iload_n hx hb dX0_dropReferences_69 rfl (lv_at hl 2 rfl) ?_
              obtain ⟨x30, ex30, h⟩ := ob_some h
              refine gk_i (run_SN (rest := []) hx hb hml hown hts hK hP hD hS hA hm (C_X_isLoose l G D K H.size ga n M (gT M q6 2) v1 ex30) _ (full_C _) (full_n _ List.nodup_range) mok_yX9_isLoose w_613 w_595 ⟨Nat.le_of_ble_eq_true rfl, Nat.le_of_ble_eq_true rfl⟩ rfl hl.1 rfl (Nat.le_of_ble_eq_true rfl) dX0_dropReferences_70 ⟨(Nat.le_of_ble_eq_true rfl), (Nat.le_of_ble_eq_true rfl)⟩) hP hD hS hA (fun u H locs (hP : va_P D cl (wld ga n (K 0) (K 1) M) H) (hD : va_D A (wld ga n (K 0) (K 1) M)) hS => ?_)
              obtain ⟨g31, h⟩ := og_some h
              by_cases c32 : x30 = 0
              · replace h := it_T h c32
                refine i_if_eq_T hx hb g31 (tgt := 90) dX0_dropReferences_73 (by decide) c32 ?_
                refine x_iinc (v := iI (v2 + 1)) hx hb dX0_dropReferences_90 hl (k := 3) rfl (iI_add v2 1) (by decide) [0, 1, 2] (lv' := [(3, ctv ga x5), (0, .ref (ga 7)), (1, .int (iI v1))]) rfl (⟨⟨Nat.ne_of_beq_eq_false rfl, Or.inl (Nat.ne_of_beq_eq_false rfl)⟩, ⟨⟨Nat.ne_of_beq_eq_false rfl, Or.inl (Nat.ne_of_beq_eq_false rfl)⟩, ⟨⟨Nat.ne_of_beq_eq_false rfl, Or.inr rfl⟩, trivial⟩⟩⟩) (fun ls hl => ?_)
                refine lv_goto (tgt := 2) hx hb dX0_dropReferences_93 (by decide) ?_
                exact ih M (v2 + 1) _ h _ _ _ hP hD hS (lv_pk hl [2, 3, 0] rfl) kk
              · replace h := it_F h c32
                refine i_if_eq_F hx hb g31 (tgt := 90) dX0_dropReferences_73 (by decide) c32 ?_
                refine t_aload_n hx hb dX0_dropReferences_76 rfl (lv_at hl 0 rfl) ?_
                rw [ctv_some ga z6]
                refine lv_iconst (v := iI 0) hx hb dX0_dropReferences_77 rfl ?_
                obtain ⟨x33, ex33, h⟩ := ob_some h
                refine gk_i (run_S (rest := []) hx hb hml hown hts hK hP hD hS hA hm (C_Tr_hasMarked l G D K H.size ga n M (some q6) 0 ex33) _ (full_C _) (full_n _ List.nodup_range) mok_yX8_hasMarked w_611 w_602 ⟨Nat.le_of_ble_eq_true rfl, Nat.le_of_ble_eq_true rfl⟩ rfl hl.1 rfl (Nat.le_of_ble_eq_true rfl) dX0_dropReferences_78 ⟨(Nat.le_of_ble_eq_true rfl), (Nat.le_of_ble_eq_true rfl)⟩) hP hD hS hA (fun u H locs (hP : va_P D cl (wld ga n (K 0) (K 1) M) H) (hD : va_D A (wld ga n (K 0) (K 1) M)) hS => ?_)
                obtain ⟨g34, h⟩ := og_some h
                by_cases c35 : x33 = 0
                · replace h := it_T h c35
                  refine i_if_ne_F hx hb g34 (tgt := 90) dX0_dropReferences_81 (by decide) c35 ?_
                  refine t_aload_n hx hb dX0_dropReferences_84 rfl (lv_at hl 0 rfl) ?_
                  rw [ctv_some ga z6]
                  refine lv_iconst (v := iI 0) hx hb dX0_dropReferences_85 rfl ?_
                  refine lv_null hx hb dX0_dropReferences_86 ?_
                  obtain ⟨x36, ex36, h⟩ := ob_some h
                  refine gk_v (run_V (rest := []) hx hb hml hown hts hK hP hD hS hA hm (C_Th_write l G D K H.size ga n M q6 hq6 0 none ex36) _ (full_C _) (full_n _ List.nodup_range) mok_yX7_write w_612 w_513 w_514 (rcv hK hP (25 + 2 * q6) (go_th hq6) rfl rfl) ⟨Nat.le_of_ble_eq_true rfl, Nat.le_of_ble_eq_true rfl⟩ rfl hl.1 rfl (Nat.le_of_ble_eq_true rfl) dX0_dropReferences_87 ⟨(Nat.le_of_ble_eq_true rfl), (Nat.le_of_ble_eq_true rfl)⟩) hP hD hS hA (fun u H locs (hP : va_P D cl (wld ga n (K 0) (K 1) x36) H) (hD : va_D A (wld ga n (K 0) (K 1) x36)) hS => ?_)
                  refine x_iinc (v := iI (v2 + 1)) hx hb dX0_dropReferences_90 hl (k := 3) rfl (iI_add v2 1) (by decide) [0, 1, 2] (lv' := [(3, ctv ga x5), (0, .ref (ga 7)), (1, .int (iI v1))]) rfl (⟨⟨Nat.ne_of_beq_eq_false rfl, Or.inl (Nat.ne_of_beq_eq_false rfl)⟩, ⟨⟨Nat.ne_of_beq_eq_false rfl, Or.inl (Nat.ne_of_beq_eq_false rfl)⟩, ⟨⟨Nat.ne_of_beq_eq_false rfl, Or.inr rfl⟩, trivial⟩⟩⟩) (fun ls hl => ?_)
                  refine lv_goto (tgt := 2) hx hb dX0_dropReferences_93 (by decide) ?_
                  exact ih x36 (v2 + 1) _ h _ _ _ hP hD hS (lv_pk hl [2, 3, 0] rfl) kk
                · replace h := it_F h c35
                  refine i_if_ne_T hx hb g34 (tgt := 90) dX0_dropReferences_81 (by decide) c35 ?_
                  refine x_iinc (v := iI (v2 + 1)) hx hb dX0_dropReferences_90 hl (k := 3) rfl (iI_add v2 1) (by decide) [0, 1, 2] (lv' := [(3, ctv ga x5), (0, .ref (ga 7)), (1, .int (iI v1))]) rfl (⟨⟨Nat.ne_of_beq_eq_false rfl, Or.inl (Nat.ne_of_beq_eq_false rfl)⟩, ⟨⟨Nat.ne_of_beq_eq_false rfl, Or.inl (Nat.ne_of_beq_eq_false rfl)⟩, ⟨⟨Nat.ne_of_beq_eq_false rfl, Or.inr rfl⟩, trivial⟩⟩⟩) (fun ls hl => ?_)
                  refine lv_goto (tgt := 2) hx hb dX0_dropReferences_93 (by decide) ?_
                  exact ih M (v2 + 1) _ h _ _ _ hP hD hS (lv_pk hl [2, 3, 0] rfl) kk
        · replace h := it_F h c8
          refine i_icmp_ne_T hx hb g7 ⟨by decide, by decide⟩ (tgt := 61) dX0_dropReferences_31 (by decide) c8 ?_
          refine t_aload_n hx hb dX0_dropReferences_61 rfl (lv_at hl 0 rfl) ?_
          rw [ctv_some ga z6]
          refine lv_ifnull hx hb dX0_dropReferences_62 ?_
          refine t_aload_n hx hb dX0_dropReferences_65 rfl (lv_at hl 0 rfl) ?_
          rw [ctv_some ga z6]
          refine r_get hx hb hts ok_RX7 hown hK hP (25 + 2 * q6) (go_th hq6) rfl 2 (by decide) w_683 (fun _ h9 => h9) rfl dX0_dropReferences_66 ?_
          refine lv_iload_n hx hb dX0_dropReferences_69 rfl (lv_at hl 2 rfl) ?_
          obtain ⟨x37, ex37, h⟩ := ob_some h
          refine gk_i (run_SN (rest := []) hx hb hml hown hts hK hP hD hS hA hm (C_X_isLoose l G D K H.size ga n M (gT M q6 2) v1 ex37) _ (full_C _) (full_n _ List.nodup_range) mok_yX9_isLoose w_613 w_595 ⟨Nat.le_of_ble_eq_true rfl, Nat.le_of_ble_eq_true rfl⟩ rfl hl.1 rfl (Nat.le_of_ble_eq_true rfl) dX0_dropReferences_70 ⟨(Nat.le_of_ble_eq_true rfl), (Nat.le_of_ble_eq_true rfl)⟩) hP hD hS hA (fun u H locs (hP : va_P D cl (wld ga n (K 0) (K 1) M) H) (hD : va_D A (wld ga n (K 0) (K 1) M)) hS => ?_)
          obtain ⟨g38, h⟩ := og_some h
          by_cases c39 : x37 = 0
          · replace h := it_T h c39
            refine i_if_eq_T hx hb g38 (tgt := 90) dX0_dropReferences_73 (by decide) c39 ?_
            refine x_iinc (v := iI (v2 + 1)) hx hb dX0_dropReferences_90 hl (k := 3) rfl (iI_add v2 1) (by decide) [0, 1, 2] (lv' := [(3, ctv ga x5), (0, .ref (ga 7)), (1, .int (iI v1))]) rfl (⟨⟨Nat.ne_of_beq_eq_false rfl, Or.inl (Nat.ne_of_beq_eq_false rfl)⟩, ⟨⟨Nat.ne_of_beq_eq_false rfl, Or.inl (Nat.ne_of_beq_eq_false rfl)⟩, ⟨⟨Nat.ne_of_beq_eq_false rfl, Or.inr rfl⟩, trivial⟩⟩⟩) (fun ls hl => ?_)
            refine lv_goto (tgt := 2) hx hb dX0_dropReferences_93 (by decide) ?_
            exact ih M (v2 + 1) _ h _ _ _ hP hD hS (lv_pk hl [2, 3, 0] rfl) kk
          · replace h := it_F h c39
            refine i_if_eq_F hx hb g38 (tgt := 90) dX0_dropReferences_73 (by decide) c39 ?_
            refine t_aload_n hx hb dX0_dropReferences_76 rfl (lv_at hl 0 rfl) ?_
            rw [ctv_some ga z6]
            refine lv_iconst (v := iI 0) hx hb dX0_dropReferences_77 rfl ?_
            obtain ⟨x40, ex40, h⟩ := ob_some h
            refine gk_i (run_S (rest := []) hx hb hml hown hts hK hP hD hS hA hm (C_Tr_hasMarked l G D K H.size ga n M (some q6) 0 ex40) _ (full_C _) (full_n _ List.nodup_range) mok_yX8_hasMarked w_611 w_602 ⟨Nat.le_of_ble_eq_true rfl, Nat.le_of_ble_eq_true rfl⟩ rfl hl.1 rfl (Nat.le_of_ble_eq_true rfl) dX0_dropReferences_78 ⟨(Nat.le_of_ble_eq_true rfl), (Nat.le_of_ble_eq_true rfl)⟩) hP hD hS hA (fun u H locs (hP : va_P D cl (wld ga n (K 0) (K 1) M) H) (hD : va_D A (wld ga n (K 0) (K 1) M)) hS => ?_)
            obtain ⟨g41, h⟩ := og_some h
            by_cases c42 : x40 = 0
            · replace h := it_T h c42
              refine i_if_ne_F hx hb g41 (tgt := 90) dX0_dropReferences_81 (by decide) c42 ?_
              refine t_aload_n hx hb dX0_dropReferences_84 rfl (lv_at hl 0 rfl) ?_
              rw [ctv_some ga z6]
              refine lv_iconst (v := iI 0) hx hb dX0_dropReferences_85 rfl ?_
              refine lv_null hx hb dX0_dropReferences_86 ?_
              obtain ⟨x43, ex43, h⟩ := ob_some h
              refine gk_v (run_V (rest := []) hx hb hml hown hts hK hP hD hS hA hm (C_Th_write l G D K H.size ga n M q6 hq6 0 none ex43) _ (full_C _) (full_n _ List.nodup_range) mok_yX7_write w_612 w_513 w_514 (rcv hK hP (25 + 2 * q6) (go_th hq6) rfl rfl) ⟨Nat.le_of_ble_eq_true rfl, Nat.le_of_ble_eq_true rfl⟩ rfl hl.1 rfl (Nat.le_of_ble_eq_true rfl) dX0_dropReferences_87 ⟨(Nat.le_of_ble_eq_true rfl), (Nat.le_of_ble_eq_true rfl)⟩) hP hD hS hA (fun u H locs (hP : va_P D cl (wld ga n (K 0) (K 1) x43) H) (hD : va_D A (wld ga n (K 0) (K 1) x43)) hS => ?_)
              refine x_iinc (v := iI (v2 + 1)) hx hb dX0_dropReferences_90 hl (k := 3) rfl (iI_add v2 1) (by decide) [0, 1, 2] (lv' := [(3, ctv ga x5), (0, .ref (ga 7)), (1, .int (iI v1))]) rfl (⟨⟨Nat.ne_of_beq_eq_false rfl, Or.inl (Nat.ne_of_beq_eq_false rfl)⟩, ⟨⟨Nat.ne_of_beq_eq_false rfl, Or.inl (Nat.ne_of_beq_eq_false rfl)⟩, ⟨⟨Nat.ne_of_beq_eq_false rfl, Or.inr rfl⟩, trivial⟩⟩⟩) (fun ls hl => ?_)
              refine lv_goto (tgt := 2) hx hb dX0_dropReferences_93 (by decide) ?_
              exact ih x43 (v2 + 1) _ h _ _ _ hP hD hS (lv_pk hl [2, 3, 0] rfl) kk
            · replace h := it_F h c42
              refine i_if_ne_T hx hb g41 (tgt := 90) dX0_dropReferences_81 (by decide) c42 ?_
              refine x_iinc (v := iI (v2 + 1)) hx hb dX0_dropReferences_90 hl (k := 3) rfl (iI_add v2 1) (by decide) [0, 1, 2] (lv' := [(3, ctv ga x5), (0, .ref (ga 7)), (1, .int (iI v1))]) rfl (⟨⟨Nat.ne_of_beq_eq_false rfl, Or.inl (Nat.ne_of_beq_eq_false rfl)⟩, ⟨⟨Nat.ne_of_beq_eq_false rfl, Or.inl (Nat.ne_of_beq_eq_false rfl)⟩, ⟨⟨Nat.ne_of_beq_eq_false rfl, Or.inr rfl⟩, trivial⟩⟩⟩) (fun ls hl => ?_)
              refine lv_goto (tgt := 2) hx hb dX0_dropReferences_93 (by decide) ?_
              exact ih M (v2 + 1) _ h _ _ _ hP hD hS (lv_pk hl [2, 3, 0] rfl) kk
    · replace h := it_F h c4
      refine i_icmp_ge_T hx hb g2 g3 (tgt := 96) dX0_dropReferences_10 (by decide) c4 ?_
      obtain rfl := Option.some.inj h
      exact kk _ _ _ hP hD hS (lv_pk hl [] rfl)
def f_Fu_dropReferences (n : Nat) (M : cSt) (a1 : Int) : Option (cSt) := ob (g_Fu_dropReferences_2 n a1 fu M 0) (fun x44 => some x44)
set_option maxHeartbeats 4000000 in
set_option maxRecDepth 100000 in
theorem C_Fu_dropReferences (l : Launch) (G : Nat → Nat) (D : va_G) (K : Nat → ClassId) (sz : Nat) (ga : Nat → Nat) (n : Nat) (M : cSt) (a1 : Int) {x : cSt} (h : f_Fu_dropReferences n M a1 = some x) : CM l yX0_dropReferences cX0_dropReferences 4 (none : Option FieldType) ({ frames := 2, cells := 0, slots := 0, locals := 43 } : Room) G D K [.ref (ga 7), .int (iI a1)] (wld ga n (K 0) (K 1) M) sz (CQv D (fun _ => wld ga n (K 0) (K 1) x)) := by
  refine CM_of (lv0 := [(0, .ref (ga 7)), (1, .int (iI a1))]) pn_RX0 (Nat.le_of_ble_eq_true rfl) rfl (fun p e s m args below meth c A ls hx hb hr hml hown hts hlk hnm hP hK hD hS hA hm hl => ?_)
  have hown : s.vm.findClass RX0 = some m.cls := hown
  unfold f_Fu_dropReferences at h
  refine lv_iconst (v := iI 0) hx hb dX0_dropReferences_0 rfl ?_
  refine x_istore_n hx hb dX0_dropReferences_1 rfl hl (by decide) [0, 1] (lv' := [(0, .ref (ga 7)), (1, .int (iI a1))]) rfl (⟨⟨Nat.ne_of_beq_eq_false rfl, Or.inl (Nat.ne_of_beq_eq_false rfl)⟩, ⟨⟨Nat.ne_of_beq_eq_false rfl, Or.inr rfl⟩, trivial⟩⟩) (fun ls hl => ?_)
  obtain ⟨x44, ex44, h⟩ := ob_some h
  refine L_Fu_dropReferences_2 hx hb hr hml hown hts hlk hK hA hm ga n a1  fu M 0 _ ex44 _ _ _ hP hD hS (lv_pk hl [1, 2, 0] rfl) (fun ls H locs (hP : va_P D cl (wld ga n (K 0) (K 1) x44) H) (hD : va_D A (wld ga n (K 0) (K 1) x44)) hS (hl : lv_has ls 4 []) => ?_)
  obtain rfl := Option.some.inj h
  exact e_v hx hb hr hlk hP hD hS (fun _ => 0) rfl (Nat.le_of_ble_eq_true rfl) (Nat.le_of_ble_eq_true rfl) dX0_dropReferences_96
def s_Fu_raiseFinals_2 (rec : cSt → Int → Option (cSt)) (n : Nat)  (M : cSt) (v1 : Int) : Option (cSt) := ob (f_Row_size n M 0) (fun x1 => og (inR v1) (og (inR x1) (if v1 < x1 then ob (f_Row_item n M 0 v1) (fun x5 => on x5 (rec M (v1 + 1)) (fun q6 => og (q6 < n) (og (inR (gT M q6 3)) (if gT M q6 3 = 0 then rec M (v1 + 1) else og (inR (gT M q6 2)) (if gT M q6 2 = 4 then og (inR (gT M q6 12)) (if gT M q6 12 = 0 then ob (f_Row_add n (sT M q6 2 0) 1 (some q6)) (fun x13 => ob (f_Tr_mark n x13 (some q6)) (fun x14 => rec x14 (v1 + 1))) else rec M (v1 + 1)) else rec M (v1 + 1)))))) else some M)))
def g_Fu_raiseFinals_2 (n : Nat)  : Nat → cSt → Int → Option (cSt)
  | 0 => fun _ _ => none
  | q + 1 => s_Fu_raiseFinals_2 (g_Fu_raiseFinals_2 n  q) n 
set_option maxHeartbeats 4000000 in
set_option maxRecDepth 100000 in
theorem L_Fu_raiseFinals_2 {p : Program} {l : Launch} {G : Nat → Nat} {D : va_G} {K : Nat → ClassId} {e : Env} {s : State} {m : MethodId} {args : Array Value} {below : List Frame} {meth : Method} {c : Code} {A : Nat → Prop} (hx : p.tables.exec = Jvm.exec) (hb : c.code = cX0_raiseFinals) (hr : meth.sig.returnType = (none : Option FieldType)) (hml : c.maxLocals = 3) (hown : s.vm.findClass RX0 = some m.cls) (hts : ∀ w ∈ lw_gw, w.before args s = true) (hlk : meth.locks = false) (hK : va_K D cl (tys K) s) (hA : ∀ q : Nat, s.heap.size ≤ q → A q) (hm : Amb G A s s.heap) {Q : State → Prop} (ga : Nat → Nat) (n : Nat)  : ∀ (q : Nat) (M : cSt) (v1 : Int) (out : cSt), g_Fu_raiseFinals_2 n  q M v1 = some out → ∀ (ls : Array Slot) (H : Heap) (locs : List Loc), va_P D cl (wld ga n (K 0) (K 1) M) H → va_D A (wld ga n (K 0) (K 1) M) → va_S A s.heap H locs → lv_has ls 3 [(0, .ref (ga 7)), (1, .int (iI v1))] → (∀ (ls : Array Slot) (H : Heap) (locs : List Loc), va_P D cl (wld ga n (K 0) (K 1) out) H → va_D A (wld ga n (K 0) (K 1) out) → va_S A s.heap H locs → lv_has ls 3 [] → W p l e ({ frames := 2, cells := 0, slots := 0, locals := 42 } : Room) s m args below meth c H locs 0 0 Q (F0 m 78 ls [])) → W p l e ({ frames := 2, cells := 0, slots := 0, locals := 42 } : Room) s m args below meth c H locs 0 0 Q (F0 m 2 ls []) := by
  intro q
  induction q with
  | zero =>
    intro M v1 out h
    cases (show none = some out from h)
  | succ q ih =>
    intro M v1 out h ls H locs hP hD hS hl kk
    replace h : s_Fu_raiseFinals_2 (g_Fu_raiseFinals_2 n  q) n  M v1 = some out := h
    unfold s_Fu_raiseFinals_2 at h
    refine lv_iload_n hx hb dX0_raiseFinals_2 rfl (lv_at hl 1 rfl) ?_
    refine lv_aload_n hx hb dX0_raiseFinals_3 rfl (lv_at hl 0 rfl) ?_
    refine r_get hx hb hts ok_RX0 hown hK hP 7 go_7 rfl 0 (by decide) w_218 (fun _ h9 => h9) rfl dX0_raiseFinals_4 ?_
    obtain ⟨x1, ex1, h⟩ := ob_some h
    refine gk_i (run_V (rest := [.int (iI v1)]) hx hb hml hown hts hK hP hD hS hA hm (C_Row_size l G D K H.size ga n M 0 (by decide) ex1) _ (full_C _) (full_n _ List.nodup_range) mok_yX5_size w_609 w_405 w_406 (rcv hK hP (8 + 0) (go_ro (by decide)) rfl rfl) ⟨Nat.le_of_ble_eq_true rfl, Nat.le_of_ble_eq_true rfl⟩ rfl hl.1 rfl (Nat.le_of_ble_eq_true rfl) dX0_raiseFinals_7 ⟨(Nat.le_of_ble_eq_true rfl), (Nat.le_of_ble_eq_true rfl)⟩) hP hD hS hA (fun u H locs (hP : va_P D cl (wld ga n (K 0) (K 1) M) H) (hD : va_D A (wld ga n (K 0) (K 1) M)) hS => ?_)
    obtain ⟨g2, h⟩ := og_some h
    obtain ⟨g3, h⟩ := og_some h
    by_cases c4 : v1 < x1
    · replace h := it_T h c4
      refine i_icmp_ge_F hx hb g2 g3 (tgt := 78) dX0_raiseFinals_10 (by decide) c4 ?_
      refine lv_aload_n hx hb dX0_raiseFinals_13 rfl (lv_at hl 0 rfl) ?_
      refine r_get hx hb hts ok_RX0 hown hK hP 7 go_7 rfl 0 (by decide) w_218 (fun _ h9 => h9) rfl dX0_raiseFinals_14 ?_
      refine lv_iload_n hx hb dX0_raiseFinals_17 rfl (lv_at hl 1 rfl) ?_
      obtain ⟨x5, ex5, h⟩ := ob_some h
      refine gk_q (run_V (rest := []) hx hb hml hown hts hK hP hD hS hA hm (C_Row_item l G D K H.size ga n M 0 (by decide) v1 ex5) _ (full_C _) (full_n _ List.nodup_range) mok_yX5_item w_610 w_419 w_420 (rcv hK hP (8 + 0) (go_ro (by decide)) rfl rfl) ⟨Nat.le_of_ble_eq_true rfl, Nat.le_of_ble_eq_true rfl⟩ rfl hl.1 rfl (Nat.le_of_ble_eq_true rfl) dX0_raiseFinals_18 ⟨(Nat.le_of_ble_eq_true rfl), (Nat.le_of_ble_eq_true rfl)⟩) hP hD hS hA (fun u H locs (hP : va_P D cl (wld ga n (K 0) (K 1) M) H) (hD : va_D A (wld ga n (K 0) (K 1) M)) hS => ?_)
      refine w_tov (y := ctv ga x5) rfl ?_
      refine t_astore_n hx hb dX0_raiseFinals_21 rfl hl (by decide) [0, 1] (lv' := [(0, .ref (ga 7)), (1, .int (iI v1))]) rfl (⟨⟨Nat.ne_of_beq_eq_false rfl, Or.inl (Nat.ne_of_beq_eq_false rfl)⟩, ⟨⟨Nat.ne_of_beq_eq_false rfl, Or.inr rfl⟩, trivial⟩⟩) (fun ls hl => ?_)
      refine t_aload_n hx hb dX0_raiseFinals_22 rfl (lv_at hl 0 rfl) ?_
      rcases on_cases h with ⟨z6, h⟩ | ⟨q6, z6, h⟩
      · rw [ctv_none ga z6]
        refine lv_ifnullN (tgt := 72) hx hb dX0_raiseFinals_23 (by decide) ?_
        refine x_iinc (v := iI (v1 + 1)) hx hb dX0_raiseFinals_72 hl (k := 2) rfl (iI_add v1 1) (by decide) [0, 1] (lv' := [(2, ctv ga x5), (0, .ref (ga 7))]) rfl (⟨⟨Nat.ne_of_beq_eq_false rfl, Or.inl (Nat.ne_of_beq_eq_false rfl)⟩, ⟨⟨Nat.ne_of_beq_eq_false rfl, Or.inr rfl⟩, trivial⟩⟩) (fun ls hl => ?_)
        refine lv_goto (tgt := 2) hx hb dX0_raiseFinals_75 (by decide) ?_
        exact ih M (v1 + 1) _ h _ _ _ hP hD hS (lv_pk hl [2, 0] rfl) kk
      · obtain ⟨hq6, h⟩ := og_some h
        rw [ctv_some ga z6]
        refine lv_ifnull hx hb dX0_raiseFinals_23 ?_
        refine t_aload_n hx hb dX0_raiseFinals_26 rfl (lv_at hl 0 rfl) ?_
        rw [ctv_some ga z6]
        refine r_get hx hb hts ok_RX7 hown hK hP (25 + 2 * q6) (go_th hq6) rfl 3 (by decide) w_687 (fun _ h9 => h9) rfl dX0_raiseFinals_27 ?_
        obtain ⟨g7, h⟩ := og_some h
        by_cases c8 : gT M q6 3 = 0
        · replace h := it_T h c8
          refine i_if_eq_T hx hb g7 (tgt := 72) dX0_raiseFinals_30 (by decide) c8 ?_
          refine x_iinc (v := iI (v1 + 1)) hx hb dX0_raiseFinals_72 hl (k := 2) rfl (iI_add v1 1) (by decide) [0, 1] (lv' := [(2, ctv ga x5), (0, .ref (ga 7))]) rfl (⟨⟨Nat.ne_of_beq_eq_false rfl, Or.inl (Nat.ne_of_beq_eq_false rfl)⟩, ⟨⟨Nat.ne_of_beq_eq_false rfl, Or.inr rfl⟩, trivial⟩⟩) (fun ls hl => ?_)
          refine lv_goto (tgt := 2) hx hb dX0_raiseFinals_75 (by decide) ?_
          exact ih M (v1 + 1) _ h _ _ _ hP hD hS (lv_pk hl [2, 0] rfl) kk
        · replace h := it_F h c8
          refine i_if_eq_F hx hb g7 (tgt := 72) dX0_raiseFinals_30 (by decide) c8 ?_
          refine t_aload_n hx hb dX0_raiseFinals_33 rfl (lv_at hl 0 rfl) ?_
          rw [ctv_some ga z6]
          refine r_get hx hb hts ok_RX7 hown hK hP (25 + 2 * q6) (go_th hq6) rfl 2 (by decide) w_683 (fun _ h9 => h9) rfl dX0_raiseFinals_34 ?_
          refine lv_iconst (v := iI 4) hx hb dX0_raiseFinals_37 rfl ?_
          obtain ⟨g9, h⟩ := og_some h
          by_cases c10 : gT M q6 2 = 4
          · replace h := it_T h c10
            refine i_icmp_ne_F hx hb g9 ⟨by decide, by decide⟩ (tgt := 72) dX0_raiseFinals_38 (by decide) c10 ?_
            refine t_aload_n hx hb dX0_raiseFinals_41 rfl (lv_at hl 0 rfl) ?_
            rw [ctv_some ga z6]
            refine r_get hx hb hts ok_RX7 hown hK hP (25 + 2 * q6) (go_th hq6) rfl 12 (by decide) w_721 (fun _ h9 => h9) rfl dX0_raiseFinals_42 ?_
            obtain ⟨g11, h⟩ := og_some h
            by_cases c12 : gT M q6 12 = 0
            · replace h := it_T h c12
              refine i_if_ne_F hx hb g11 (tgt := 72) dX0_raiseFinals_45 (by decide) c12 ?_
              refine t_aload_n hx hb dX0_raiseFinals_48 rfl (lv_at hl 0 rfl) ?_
              rw [ctv_some ga z6]
              refine lv_iconst (v := iI 0) hx hb dX0_raiseFinals_49 rfl ?_
              refine r_put hx hb hts ok_RX7 hown hK hP hD hS (25 + 2 * q6) (go_th hq6) rfl 2 (by decide) w_683 (fun _ h9 => h9) rfl (v := .int (iI 0)) rfl rfl (Nat.le_of_ble_eq_true rfl) dX0_raiseFinals_50 (ws' := wld ga n (K 0) (K 1) (sT M q6 2 0)) wT_2 (fun H locs hP hD hS => ?_)
              refine lv_aload_n hx hb dX0_raiseFinals_53 rfl (lv_at hl 1 rfl) ?_
              refine r_get hx hb hts ok_RX0 hown hK hP 7 go_7 rfl 1 (by decide) w_219 (fun _ h9 => h9) rfl dX0_raiseFinals_54 ?_
              refine r_get hx hb hts ok_RX4 hown hK hP 1 go_1 rfl 0 (by decide) w_51 (fun _ h9 => h9) rfl dX0_raiseFinals_57 ?_
              refine t_aload_n hx hb dX0_raiseFinals_60 rfl (lv_at hl 0 rfl) ?_
              rw [ctv_some ga z6]
              obtain ⟨x13, ex13, h⟩ := ob_some h
              refine gk_v (run_V (rest := []) hx hb hml hown hts hK hP hD hS hA hm (C_Row_add l G D K H.size ga n (sT M q6 2 0) 1 (by decide) (some q6) ex13) _ (full_C _) (full_n _ List.nodup_range) mok_yX5_add w_618 w_465 w_466 (rcv hK hP (8 + 1) (go_ro (by decide)) rfl rfl) ⟨Nat.le_of_ble_eq_true rfl, Nat.le_of_ble_eq_true rfl⟩ rfl hl.1 rfl (Nat.le_of_ble_eq_true rfl) dX0_raiseFinals_61 ⟨(Nat.le_of_ble_eq_true rfl), (Nat.le_of_ble_eq_true rfl)⟩) hP hD hS hA (fun u H locs (hP : va_P D cl (wld ga n (K 0) (K 1) x13) H) (hD : va_D A (wld ga n (K 0) (K 1) x13)) hS => ?_)
              refine lv_aload_n hx hb dX0_raiseFinals_64 rfl (lv_at hl 1 rfl) ?_
              refine r_get hx hb hts ok_RX0 hown hK hP 7 go_7 rfl 5 (by decide) w_223 (fun _ h9 => h9) rfl dX0_raiseFinals_65 ?_
              refine t_aload_n hx hb dX0_raiseFinals_68 rfl (lv_at hl 0 rfl) ?_
              rw [ctv_some ga z6]
              obtain ⟨x14, ex14, h⟩ := ob_some h
              refine gk_v (run_V (rest := []) hx hb hml hown hts hK hP hD hS hA hm (C_Tr_mark l G D K H.size ga n x13 (some q6) ex14) _ (full_C _) (full_n _ List.nodup_range) mok_yX8_mark w_619 w_572 w_573 (rcv hK hP 5 go_5 rfl rfl) ⟨Nat.le_of_ble_eq_true rfl, Nat.le_of_ble_eq_true rfl⟩ rfl hl.1 rfl (Nat.le_of_ble_eq_true rfl) dX0_raiseFinals_69 ⟨(Nat.le_of_ble_eq_true rfl), (Nat.le_of_ble_eq_true rfl)⟩) hP hD hS hA (fun u H locs (hP : va_P D cl (wld ga n (K 0) (K 1) x14) H) (hD : va_D A (wld ga n (K 0) (K 1) x14)) hS => ?_)
              refine x_iinc (v := iI (v1 + 1)) hx hb dX0_raiseFinals_72 hl (k := 2) rfl (iI_add v1 1) (by decide) [0, 1] (lv' := [(2, ctv ga x5), (0, .ref (ga 7))]) rfl (⟨⟨Nat.ne_of_beq_eq_false rfl, Or.inl (Nat.ne_of_beq_eq_false rfl)⟩, ⟨⟨Nat.ne_of_beq_eq_false rfl, Or.inr rfl⟩, trivial⟩⟩) (fun ls hl => ?_)
              refine lv_goto (tgt := 2) hx hb dX0_raiseFinals_75 (by decide) ?_
              exact ih x14 (v1 + 1) _ h _ _ _ hP hD hS (lv_pk hl [2, 0] rfl) kk
            · replace h := it_F h c12
              refine i_if_ne_T hx hb g11 (tgt := 72) dX0_raiseFinals_45 (by decide) c12 ?_
              refine x_iinc (v := iI (v1 + 1)) hx hb dX0_raiseFinals_72 hl (k := 2) rfl (iI_add v1 1) (by decide) [0, 1] (lv' := [(2, ctv ga x5), (0, .ref (ga 7))]) rfl (⟨⟨Nat.ne_of_beq_eq_false rfl, Or.inl (Nat.ne_of_beq_eq_false rfl)⟩, ⟨⟨Nat.ne_of_beq_eq_false rfl, Or.inr rfl⟩, trivial⟩⟩) (fun ls hl => ?_)
              refine lv_goto (tgt := 2) hx hb dX0_raiseFinals_75 (by decide) ?_
              exact ih M (v1 + 1) _ h _ _ _ hP hD hS (lv_pk hl [2, 0] rfl) kk
          · replace h := it_F h c10
            refine i_icmp_ne_T hx hb g9 ⟨by decide, by decide⟩ (tgt := 72) dX0_raiseFinals_38 (by decide) c10 ?_
            refine x_iinc (v := iI (v1 + 1)) hx hb dX0_raiseFinals_72 hl (k := 2) rfl (iI_add v1 1) (by decide) [0, 1] (lv' := [(2, ctv ga x5), (0, .ref (ga 7))]) rfl (⟨⟨Nat.ne_of_beq_eq_false rfl, Or.inl (Nat.ne_of_beq_eq_false rfl)⟩, ⟨⟨Nat.ne_of_beq_eq_false rfl, Or.inr rfl⟩, trivial⟩⟩) (fun ls hl => ?_)
            refine lv_goto (tgt := 2) hx hb dX0_raiseFinals_75 (by decide) ?_
            exact ih M (v1 + 1) _ h _ _ _ hP hD hS (lv_pk hl [2, 0] rfl) kk
    · replace h := it_F h c4
      refine i_icmp_ge_T hx hb g2 g3 (tgt := 78) dX0_raiseFinals_10 (by decide) c4 ?_
      obtain rfl := Option.some.inj h
      exact kk _ _ _ hP hD hS (lv_pk hl [] rfl)
def f_Fu_raiseFinals (n : Nat) (M : cSt)  : Option (cSt) := ob (g_Fu_raiseFinals_2 n  fu M 0) (fun x15 => some x15)
set_option maxHeartbeats 4000000 in
set_option maxRecDepth 100000 in
theorem C_Fu_raiseFinals (l : Launch) (G : Nat → Nat) (D : va_G) (K : Nat → ClassId) (sz : Nat) (ga : Nat → Nat) (n : Nat) (M : cSt)  {x : cSt} (h : f_Fu_raiseFinals n M  = some x) : CM l yX0_raiseFinals cX0_raiseFinals 3 (none : Option FieldType) ({ frames := 2, cells := 0, slots := 0, locals := 42 } : Room) G D K [.ref (ga 7)] (wld ga n (K 0) (K 1) M) sz (CQv D (fun _ => wld ga n (K 0) (K 1) x)) := by
  refine CM_of (lv0 := [(0, .ref (ga 7))]) pn_RX0 (Nat.le_of_ble_eq_true rfl) rfl (fun p e s m args below meth c A ls hx hb hr hml hown hts hlk hnm hP hK hD hS hA hm hl => ?_)
  have hown : s.vm.findClass RX0 = some m.cls := hown
  unfold f_Fu_raiseFinals at h
  refine lv_iconst (v := iI 0) hx hb dX0_raiseFinals_0 rfl ?_
  refine x_istore_n hx hb dX0_raiseFinals_1 rfl hl (by decide) [0] (lv' := [(0, .ref (ga 7))]) rfl (⟨⟨Nat.ne_of_beq_eq_false rfl, Or.inr rfl⟩, trivial⟩) (fun ls hl => ?_)
  obtain ⟨x15, ex15, h⟩ := ob_some h
  refine L_Fu_raiseFinals_2 hx hb hr hml hown hts hlk hK hA hm ga n   fu M 0 _ ex15 _ _ _ hP hD hS (lv_pk hl [1, 0] rfl) (fun ls H locs (hP : va_P D cl (wld ga n (K 0) (K 1) x15) H) (hD : va_D A (wld ga n (K 0) (K 1) x15)) hS (hl : lv_has ls 3 []) => ?_)
  obtain rfl := Option.some.inj h
  exact e_v hx hb hr hlk hP hD hS (fun _ => 0) rfl (Nat.le_of_ble_eq_true rfl) (Nat.le_of_ble_eq_true rfl) dX0_raiseFinals_78
def s_Fu_sweep_4 (rec : cSt → Int → Int → Option (cSt × Int)) (n : Nat)  (M : cSt) (v1 : Int) (v2 : Int) : Option (cSt × Int) := ob (f_Row_size n M 0) (fun x1 => og (inR v2) (og (inR x1) (if v2 < x1 then ob (f_Row_item n M 0 v2) (fun x5 => on x5 (rec M v1 (v2 + 1)) (fun q6 => og (q6 < n) (og (inR (gT M q6 3)) (if gT M q6 3 = 0 then rec M v1 (v2 + 1) else og (inR (gT M q6 12)) (if gT M q6 12 = 0 then ob (f_Th_vanish n M q6) (fun x11 => rec x11 (v1 + 1) (v2 + 1)) else rec M v1 (v2 + 1)))))) else some (M, v1))))
def g_Fu_sweep_4 (n : Nat)  : Nat → cSt → Int → Int → Option (cSt × Int)
  | 0 => fun _ _ _ => none
  | q + 1 => s_Fu_sweep_4 (g_Fu_sweep_4 n  q) n 
set_option maxHeartbeats 4000000 in
set_option maxRecDepth 100000 in
theorem L_Fu_sweep_4 {p : Program} {l : Launch} {G : Nat → Nat} {D : va_G} {K : Nat → ClassId} {e : Env} {s : State} {m : MethodId} {args : Array Value} {below : List Frame} {meth : Method} {c : Code} {A : Nat → Prop} (hx : p.tables.exec = Jvm.exec) (hb : c.code = cX0_sweep) (hr : meth.sig.returnType = (some FieldType.int)) (hml : c.maxLocals = 4) (hown : s.vm.findClass RX0 = some m.cls) (hts : ∀ w ∈ lw_gw, w.before args s = true) (hlk : meth.locks = false) (hK : va_K D cl (tys K) s) (hA : ∀ q : Nat, s.heap.size ≤ q → A q) (hm : Amb G A s s.heap) {Q : State → Prop} (ga : Nat → Nat) (n : Nat)  : ∀ (q : Nat) (M : cSt) (v1 : Int) (v2 : Int) (out : cSt × Int), g_Fu_sweep_4 n  q M v1 v2 = some out → ∀ (ls : Array Slot) (H : Heap) (locs : List Loc), va_P D cl (wld ga n (K 0) (K 1) M) H → va_D A (wld ga n (K 0) (K 1) M) → va_S A s.heap H locs → lv_has ls 4 [(0, .ref (ga 7)), (1, .int (iI v1)), (2, .int (iI v2))] → (∀ (ls : Array Slot) (H : Heap) (locs : List Loc), va_P D cl (wld ga n (K 0) (K 1) out.1) H → va_D A (wld ga n (K 0) (K 1) out.1) → va_S A s.heap H locs → lv_has ls 4 [(1, .int (iI out.2))] → W p l e ({ frames := 1, cells := 0, slots := 0, locals := 21 } : Room) s m args below meth c H locs 0 0 Q (F0 m 55 ls [])) → W p l e ({ frames := 1, cells := 0, slots := 0, locals := 21 } : Room) s m args below meth c H locs 0 0 Q (F0 m 4 ls []) := by
  intro q
  induction q with
  | zero =>
    intro M v1 v2 out h
    cases (show none = some out from h)
  | succ q ih =>
    intro M v1 v2 out h ls H locs hP hD hS hl kk
    replace h : s_Fu_sweep_4 (g_Fu_sweep_4 n  q) n  M v1 v2 = some out := h
    unfold s_Fu_sweep_4 at h
    refine lv_iload_n hx hb dX0_sweep_4 rfl (lv_at hl 2 rfl) ?_
    refine lv_aload_n hx hb dX0_sweep_5 rfl (lv_at hl 0 rfl) ?_
    refine r_get hx hb hts ok_RX0 hown hK hP 7 go_7 rfl 0 (by decide) w_218 (fun _ h9 => h9) rfl dX0_sweep_6 ?_
    obtain ⟨x1, ex1, h⟩ := ob_some h
    refine gk_i (run_V (rest := [.int (iI v2)]) hx hb hml hown hts hK hP hD hS hA hm (C_Row_size l G D K H.size ga n M 0 (by decide) ex1) _ (full_C _) (full_n _ List.nodup_range) mok_yX5_size w_609 w_405 w_406 (rcv hK hP (8 + 0) (go_ro (by decide)) rfl rfl) ⟨Nat.le_of_ble_eq_true rfl, Nat.le_of_ble_eq_true rfl⟩ rfl hl.1 rfl (Nat.le_of_ble_eq_true rfl) dX0_sweep_9 ⟨(Nat.le_of_ble_eq_true rfl), (Nat.le_of_ble_eq_true rfl)⟩) hP hD hS hA (fun u H locs (hP : va_P D cl (wld ga n (K 0) (K 1) M) H) (hD : va_D A (wld ga n (K 0) (K 1) M)) hS => ?_)
    obtain ⟨g2, h⟩ := og_some h
    obtain ⟨g3, h⟩ := og_some h
    by_cases c4 : v2 < x1
    · replace h := it_T h c4
      refine i_icmp_ge_F hx hb g2 g3 (tgt := 55) dX0_sweep_12 (by decide) c4 ?_
      refine lv_aload_n hx hb dX0_sweep_15 rfl (lv_at hl 0 rfl) ?_
      refine r_get hx hb hts ok_RX0 hown hK hP 7 go_7 rfl 0 (by decide) w_218 (fun _ h9 => h9) rfl dX0_sweep_16 ?_
      refine lv_iload_n hx hb dX0_sweep_19 rfl (lv_at hl 2 rfl) ?_
      obtain ⟨x5, ex5, h⟩ := ob_some h
      refine gk_q (run_V (rest := []) hx hb hml hown hts hK hP hD hS hA hm (C_Row_item l G D K H.size ga n M 0 (by decide) v2 ex5) _ (full_C _) (full_n _ List.nodup_range) mok_yX5_item w_610 w_419 w_420 (rcv hK hP (8 + 0) (go_ro (by decide)) rfl rfl) ⟨Nat.le_of_ble_eq_true rfl, Nat.le_of_ble_eq_true rfl⟩ rfl hl.1 rfl (Nat.le_of_ble_eq_true rfl) dX0_sweep_20 ⟨(Nat.le_of_ble_eq_true rfl), (Nat.le_of_ble_eq_true rfl)⟩) hP hD hS hA (fun u H locs (hP : va_P D cl (wld ga n (K 0) (K 1) M) H) (hD : va_D A (wld ga n (K 0) (K 1) M)) hS => ?_)
      refine w_tov (y := ctv ga x5) rfl ?_
      refine t_astore_n hx hb dX0_sweep_23 rfl hl (by decide) [0, 1, 2] (lv' := [(0, .ref (ga 7)), (1, .int (iI v1)), (2, .int (iI v2))]) rfl (⟨⟨Nat.ne_of_beq_eq_false rfl, Or.inl (Nat.ne_of_beq_eq_false rfl)⟩, ⟨⟨Nat.ne_of_beq_eq_false rfl, Or.inl (Nat.ne_of_beq_eq_false rfl)⟩, ⟨⟨Nat.ne_of_beq_eq_false rfl, Or.inr rfl⟩, trivial⟩⟩⟩) (fun ls hl => ?_)
      refine t_aload_n hx hb dX0_sweep_24 rfl (lv_at hl 0 rfl) ?_
      rcases on_cases h with ⟨z6, h⟩ | ⟨q6, z6, h⟩
      · rw [ctv_none ga z6]
        refine lv_ifnullN (tgt := 49) hx hb dX0_sweep_25 (by decide) ?_
        refine x_iinc (v := iI (v2 + 1)) hx hb dX0_sweep_49 hl (k := 3) rfl (iI_add v2 1) (by decide) [0, 1, 2] (lv' := [(3, ctv ga x5), (0, .ref (ga 7)), (1, .int (iI v1))]) rfl (⟨⟨Nat.ne_of_beq_eq_false rfl, Or.inl (Nat.ne_of_beq_eq_false rfl)⟩, ⟨⟨Nat.ne_of_beq_eq_false rfl, Or.inl (Nat.ne_of_beq_eq_false rfl)⟩, ⟨⟨Nat.ne_of_beq_eq_false rfl, Or.inr rfl⟩, trivial⟩⟩⟩) (fun ls hl => ?_)
        refine lv_goto (tgt := 4) hx hb dX0_sweep_52 (by decide) ?_
        exact ih M v1 (v2 + 1) _ h _ _ _ hP hD hS (lv_pk hl [2, 3, 0] rfl) kk
      · obtain ⟨hq6, h⟩ := og_some h
        rw [ctv_some ga z6]
        refine lv_ifnull hx hb dX0_sweep_25 ?_
        refine t_aload_n hx hb dX0_sweep_28 rfl (lv_at hl 0 rfl) ?_
        rw [ctv_some ga z6]
        refine r_get hx hb hts ok_RX7 hown hK hP (25 + 2 * q6) (go_th hq6) rfl 3 (by decide) w_687 (fun _ h9 => h9) rfl dX0_sweep_29 ?_
        obtain ⟨g7, h⟩ := og_some h
        by_cases c8 : gT M q6 3 = 0
        · replace h := it_T h c8
          refine i_if_eq_T hx hb g7 (tgt := 49) dX0_sweep_32 (by decide) c8 ?_
          refine x_iinc (v := iI (v2 + 1)) hx hb dX0_sweep_49 hl (k := 3) rfl (iI_add v2 1) (by decide) [0, 1, 2] (lv' := [(3, ctv ga x5), (0, .ref (ga 7)), (1, .int (iI v1))]) rfl (⟨⟨Nat.ne_of_beq_eq_false rfl, Or.inl (Nat.ne_of_beq_eq_false rfl)⟩, ⟨⟨Nat.ne_of_beq_eq_false rfl, Or.inl (Nat.ne_of_beq_eq_false rfl)⟩, ⟨⟨Nat.ne_of_beq_eq_false rfl, Or.inr rfl⟩, trivial⟩⟩⟩) (fun ls hl => ?_)
          refine lv_goto (tgt := 4) hx hb dX0_sweep_52 (by decide) ?_
          exact ih M v1 (v2 + 1) _ h _ _ _ hP hD hS (lv_pk hl [2, 3, 0] rfl) kk
        · replace h := it_F h c8
          refine i_if_eq_F hx hb g7 (tgt := 49) dX0_sweep_32 (by decide) c8 ?_
          refine t_aload_n hx hb dX0_sweep_35 rfl (lv_at hl 0 rfl) ?_
          rw [ctv_some ga z6]
          refine r_get hx hb hts ok_RX7 hown hK hP (25 + 2 * q6) (go_th hq6) rfl 12 (by decide) w_721 (fun _ h9 => h9) rfl dX0_sweep_36 ?_
          obtain ⟨g9, h⟩ := og_some h
          by_cases c10 : gT M q6 12 = 0
          · replace h := it_T h c10
            refine i_if_ne_F hx hb g9 (tgt := 49) dX0_sweep_39 (by decide) c10 ?_
            refine t_aload_n hx hb dX0_sweep_42 rfl (lv_at hl 0 rfl) ?_
            rw [ctv_some ga z6]
            obtain ⟨x11, ex11, h⟩ := ob_some h
            refine gk_v (run_V (rest := []) hx hb hml hown hts hK hP hD hS hA hm (C_Th_vanish l G D K H.size ga n M q6 hq6 ex11) _ (full_C _) (full_n _ List.nodup_range) mok_yX7_vanish w_624 w_525 w_526 (rcv hK hP (25 + 2 * q6) (go_th hq6) rfl rfl) ⟨Nat.le_of_ble_eq_true rfl, Nat.le_of_ble_eq_true rfl⟩ rfl hl.1 rfl (Nat.le_of_ble_eq_true rfl) dX0_sweep_43 ⟨(Nat.le_of_ble_eq_true rfl), (Nat.le_of_ble_eq_true rfl)⟩) hP hD hS hA (fun u H locs (hP : va_P D cl (wld ga n (K 0) (K 1) x11) H) (hD : va_D A (wld ga n (K 0) (K 1) x11)) hS => ?_)
            refine x_iinc (v := iI (v1 + 1)) hx hb dX0_sweep_46 hl (k := 2) rfl (iI_add v1 1) (by decide) [0, 1, 3] (lv' := [(3, ctv ga x5), (0, .ref (ga 7)), (2, .int (iI v2))]) rfl (⟨⟨Nat.ne_of_beq_eq_false rfl, Or.inl (Nat.ne_of_beq_eq_false rfl)⟩, ⟨⟨Nat.ne_of_beq_eq_false rfl, Or.inr rfl⟩, ⟨⟨Nat.ne_of_beq_eq_false rfl, Or.inl (Nat.ne_of_beq_eq_false rfl)⟩, trivial⟩⟩⟩) (fun ls hl => ?_)
            refine x_iinc (v := iI (v2 + 1)) hx hb dX0_sweep_49 hl (k := 3) rfl (iI_add v2 1) (by decide) [0, 1, 2] (lv' := [(1, .int (iI (v1 + 1))), (3, ctv ga x5), (0, .ref (ga 7))]) rfl (⟨⟨Nat.ne_of_beq_eq_false rfl, Or.inr rfl⟩, ⟨⟨Nat.ne_of_beq_eq_false rfl, Or.inl (Nat.ne_of_beq_eq_false rfl)⟩, ⟨⟨Nat.ne_of_beq_eq_false rfl, Or.inl (Nat.ne_of_beq_eq_false rfl)⟩, trivial⟩⟩⟩) (fun ls hl => ?_)
            refine lv_goto (tgt := 4) hx hb dX0_sweep_52 (by decide) ?_
            exact ih x11 (v1 + 1) (v2 + 1) _ h _ _ _ hP hD hS (lv_pk hl [3, 1, 0] rfl) kk
          · replace h := it_F h c10
            refine i_if_ne_T hx hb g9 (tgt := 49) dX0_sweep_39 (by decide) c10 ?_
            refine x_iinc (v := iI (v2 + 1)) hx hb dX0_sweep_49 hl (k := 3) rfl (iI_add v2 1) (by decide) [0, 1, 2] (lv' := [(3, ctv ga x5), (0, .ref (ga 7)), (1, .int (iI v1))]) rfl (⟨⟨Nat.ne_of_beq_eq_false rfl, Or.inl (Nat.ne_of_beq_eq_false rfl)⟩, ⟨⟨Nat.ne_of_beq_eq_false rfl, Or.inl (Nat.ne_of_beq_eq_false rfl)⟩, ⟨⟨Nat.ne_of_beq_eq_false rfl, Or.inr rfl⟩, trivial⟩⟩⟩) (fun ls hl => ?_)
            refine lv_goto (tgt := 4) hx hb dX0_sweep_52 (by decide) ?_
            exact ih M v1 (v2 + 1) _ h _ _ _ hP hD hS (lv_pk hl [2, 3, 0] rfl) kk
    · replace h := it_F h c4
      refine i_icmp_ge_T hx hb g2 g3 (tgt := 55) dX0_sweep_12 (by decide) c4 ?_
      obtain rfl := Option.some.inj h
      exact kk _ _ _ hP hD hS (lv_pk hl [1] rfl)
def f_Fu_sweep (n : Nat) (M : cSt)  : Option (cSt × Int) := ob (g_Fu_sweep_4 n  fu M 0 0) (fun x12 => some (x12.1, x12.2))
set_option maxHeartbeats 4000000 in
set_option maxRecDepth 100000 in
theorem C_Fu_sweep (l : Launch) (G : Nat → Nat) (D : va_G) (K : Nat → ClassId) (sz : Nat) (ga : Nat → Nat) (n : Nat) (M : cSt)  {x : cSt × Int} (h : f_Fu_sweep n M  = some x) : CM l yX0_sweep cX0_sweep 4 (some FieldType.int) ({ frames := 1, cells := 0, slots := 0, locals := 21 } : Room) G D K [.ref (ga 7)] (wld ga n (K 0) (K 1) M) sz (CQi (iI x.2) D (fun _ => wld ga n (K 0) (K 1) x.1)) := by
  refine CM_of (lv0 := [(0, .ref (ga 7))]) pn_RX0 (Nat.le_of_ble_eq_true rfl) rfl (fun p e s m args below meth c A ls hx hb hr hml hown hts hlk hnm hP hK hD hS hA hm hl => ?_)
  have hown : s.vm.findClass RX0 = some m.cls := hown
  unfold f_Fu_sweep at h
  refine lv_iconst (v := iI 0) hx hb dX0_sweep_0 rfl ?_
  refine x_istore_n hx hb dX0_sweep_1 rfl hl (by decide) [0] (lv' := [(0, .ref (ga 7))]) rfl (⟨⟨Nat.ne_of_beq_eq_false rfl, Or.inr rfl⟩, trivial⟩) (fun ls hl => ?_)
  refine lv_iconst (v := iI 0) hx hb dX0_sweep_2 rfl ?_
  refine x_istore_n hx hb dX0_sweep_3 rfl hl (by decide) [0, 1] (lv' := [(1, .int (iI 0)), (0, .ref (ga 7))]) rfl (⟨⟨Nat.ne_of_beq_eq_false rfl, Or.inr rfl⟩, ⟨⟨Nat.ne_of_beq_eq_false rfl, Or.inl (Nat.ne_of_beq_eq_false rfl)⟩, trivial⟩⟩) (fun ls hl => ?_)
  obtain ⟨x12, ex12, h⟩ := ob_some h
  refine L_Fu_sweep_4 hx hb hr hml hown hts hlk hK hA hm ga n   fu M 0 0 _ ex12 _ _ _ hP hD hS (lv_pk hl [2, 1, 0] rfl) (fun ls H locs (hP : va_P D cl (wld ga n (K 0) (K 1) x12.1) H) (hD : va_D A (wld ga n (K 0) (K 1) x12.1)) hS (hl : lv_has ls 4 [(1, .int (iI x12.2))]) => ?_)
  refine lv_iload_n hx hb dX0_sweep_55 rfl (lv_at hl 0 rfl) ?_
  obtain rfl := Option.some.inj h
  exact e_i hx hb hr hlk hP hD hS (fun _ => 0) rfl (Nat.le_of_ble_eq_true rfl) (Nat.le_of_ble_eq_true rfl) rfl dX0_sweep_56
def f_Fu_run (n : Nat) (M : cSt) (a1 : Int) (a2 : Int) : Option (cSt × Int) := ob (f_Tr_begin n M a1 none) (fun x1 => og (inR a2) (if a2 = 0 then ob (f_Tr_markRoots n x1) (fun x4 => ob (f_Tr_spread n x4) (fun x5 => ob (f_Fu_dropReferences n x5 a1) (fun x6 => ob (f_Fu_raiseFinals n x6) (fun x7 => ob (f_Tr_spread n x7) (fun x8 => ob (f_Fu_dropReferences n x8 a1) (fun x9 => ob (f_Fu_sweep n x9) (fun x10 => ob (f_Pl_compact n x10.1) (fun x11 => ob (f_Pl_renewCards n x11.1) (fun x12 => ob (f_Mk_end n x12) (fun x13 => ob (f_Pl_words n (sI x13 7 (gI x13 7 + 1))) (fun x14 => ob (f_Ta_noteTouched n (sI x13 7 (gI x13 7 + 1)) (x14 + x11.2)) (fun x15 => some (x15, x10.2))))))))))))) else ob (f_Tr_markBlack n x1) (fun x16 => ob (f_Fu_dropReferences n x16 a1) (fun x17 => ob (f_Fu_raiseFinals n x17) (fun x18 => ob (f_Tr_spread n x18) (fun x19 => ob (f_Fu_dropReferences n x19 a1) (fun x20 => ob (f_Fu_sweep n x20) (fun x21 => ob (f_Pl_compact n x21.1) (fun x22 => ob (f_Pl_renewCards n x22.1) (fun x23 => ob (f_Mk_end n x23) (fun x24 => ob (f_Pl_words n (sI x24 7 (gI x24 7 + 1))) (fun x25 => ob (f_Ta_noteTouched n (sI x24 7 (gI x24 7 + 1)) (x25 + x22.2)) (fun x26 => some (x26, x21.2))))))))))))))
set_option maxHeartbeats 4000000 in
set_option maxRecDepth 100000 in
theorem C_Fu_run (l : Launch) (G : Nat → Nat) (D : va_G) (K : Nat → ClassId) (sz : Nat) (ga : Nat → Nat) (n : Nat) (M : cSt) (a1 : Int) (a2 : Int) {x : cSt × Int} (h : f_Fu_run n M a1 a2 = some x) : CM l yX0_run cX0_run 5 (some FieldType.int) ({ frames := 4, cells := 0, slots := 0, locals := 87 } : Room) G D K [.ref (ga 7), .int (iI a1), .int (iI a2)] (wld ga n (K 0) (K 1) M) sz (CQi (iI x.2) D (fun _ => wld ga n (K 0) (K 1) x.1)) := by
  refine CM_of (lv0 := [(0, .ref (ga 7)), (1, .int (iI a1)), (2, .int (iI a2))]) pn_RX0 (Nat.le_of_ble_eq_true rfl) rfl (fun p e s m args below meth c A ls hx hb hr hml hown hts hlk hnm hP hK hD hS hA hm hl => ?_)
  have hown : s.vm.findClass RX0 = some m.cls := hown
  unfold f_Fu_run at h
  refine lv_aload_n hx hb dX0_run_0 rfl (lv_at hl 0 rfl) ?_
  refine r_get hx hb hts ok_RX0 hown hK hP 7 go_7 rfl 5 (by decide) w_223 (fun _ h9 => h9) rfl dX0_run_1 ?_
  refine lv_iload_n hx hb dX0_run_4 rfl (lv_at hl 1 rfl) ?_
  refine lv_null hx hb dX0_run_5 ?_
  obtain ⟨x1, ex1, h⟩ := ob_some h
  refine gk_v (run_V (rest := []) hx hb hml hown hts hK hP hD hS hA hm (C_Tr_begin l G D K s.heap.size ga n M a1 none ex1) _ (full_C _) (full_n _ List.nodup_range) mok_yX8_begin w_560 w_561 w_562 (rcv hK hP 5 go_5 rfl rfl) ⟨Nat.le_of_ble_eq_true rfl, Nat.le_of_ble_eq_true rfl⟩ rfl hl.1 rfl (Nat.le_of_ble_eq_true rfl) dX0_run_6 ⟨(Nat.le_of_ble_eq_true rfl), (Nat.le_of_ble_eq_true rfl)⟩) hP hD hS hA (fun u H locs (hP : va_P D cl (wld ga n (K 0) (K 1) x1) H) (hD : va_D A (wld ga n (K 0) (K 1) x1)) hS => ?_)
  refine lv_iload_n hx hb dX0_run_9 rfl (lv_at hl 2 rfl) ?_
  obtain ⟨g2, h⟩ := og_some h
  by_cases c3 : a2 = 0
  · replace h := it_T h c3
    refine i_if_eq_T hx hb g2 (tgt := 23) dX0_run_10 (by decide) c3 ?_
    refine lv_aload_n hx hb dX0_run_23 rfl (lv_at hl 0 rfl) ?_
    refine r_get hx hb hts ok_RX0 hown hK hP 7 go_7 rfl 5 (by decide) w_223 (fun _ h9 => h9) rfl dX0_run_24 ?_
    obtain ⟨x4, ex4, h⟩ := ob_some h
    refine gk_v (run_V (rest := []) hx hb hml hown hts hK hP hD hS hA hm (C_Tr_markRoots l G D K H.size ga n x1 ex4) _ (full_C _) (full_n _ List.nodup_range) mok_yX8_markRoots w_576 w_577 w_578 (rcv hK hP 5 go_5 rfl rfl) ⟨Nat.le_of_ble_eq_true rfl, Nat.le_of_ble_eq_true rfl⟩ rfl hl.1 rfl (Nat.le_of_ble_eq_true rfl) dX0_run_27 ⟨(Nat.le_of_ble_eq_true rfl), (Nat.le_of_ble_eq_true rfl)⟩) hP hD hS hA (fun u H locs (hP : va_P D cl (wld ga n (K 0) (K 1) x4) H) (hD : va_D A (wld ga n (K 0) (K 1) x4)) hS => ?_)
    refine lv_aload_n hx hb dX0_run_30 rfl (lv_at hl 0 rfl) ?_
    refine r_get hx hb hts ok_RX0 hown hK hP 7 go_7 rfl 5 (by decide) w_223 (fun _ h9 => h9) rfl dX0_run_31 ?_
    obtain ⟨x5, ex5, h⟩ := ob_some h
    refine gk_v (run_V (rest := []) hx hb hml hown hts hK hP hD hS hA hm (C_Tr_spread l G D K H.size ga n x4 ex5) _ (full_C _) (full_n _ List.nodup_range) mok_yX8_spread w_582 w_583 w_584 (rcv hK hP 5 go_5 rfl rfl) ⟨Nat.le_of_ble_eq_true rfl, Nat.le_of_ble_eq_true rfl⟩ rfl hl.1 rfl (Nat.le_of_ble_eq_true rfl) dX0_run_34 ⟨(Nat.le_of_ble_eq_true rfl), (Nat.le_of_ble_eq_true rfl)⟩) hP hD hS hA (fun u H locs (hP : va_P D cl (wld ga n (K 0) (K 1) x5) H) (hD : va_D A (wld ga n (K 0) (K 1) x5)) hS => ?_)
    refine lv_aload_n hx hb dX0_run_37 rfl (lv_at hl 0 rfl) ?_
    refine lv_iload_n hx hb dX0_run_38 rfl (lv_at hl 1 rfl) ?_
    obtain ⟨x6, ex6, h⟩ := ob_some h
    refine gk_v (run_V (rest := []) hx hb hml hown hts hK hP hD hS hA hm (C_Fu_dropReferences l G D K H.size ga n x5 a1 ex6) _ (full_C _) (full_n _ List.nodup_range) mok_yX0_dropReferences w_605 w_607 w_p15 (rcv hK hP 7 go_7 rfl rfl) ⟨Nat.le_of_ble_eq_true rfl, Nat.le_of_ble_eq_true rfl⟩ rfl hl.1 rfl (Nat.le_of_ble_eq_true rfl) dX0_run_39 ⟨(Nat.le_of_ble_eq_true rfl), (Nat.le_of_ble_eq_true rfl)⟩) hP hD hS hA (fun u H locs (hP : va_P D cl (wld ga n (K 0) (K 1) x6) H) (hD : va_D A (wld ga n (K 0) (K 1) x6)) hS => ?_)
    refine lv_aload_n hx hb dX0_run_42 rfl (lv_at hl 0 rfl) ?_
    obtain ⟨x7, ex7, h⟩ := ob_some h
    refine gk_v (run_V (rest := []) hx hb hml hown hts hK hP hD hS hA hm (C_Fu_raiseFinals l G D K H.size ga n x6 ex7) _ (full_C _) (full_n _ List.nodup_range) mok_yX0_raiseFinals w_614 w_616 w_p16 (rcv hK hP 7 go_7 rfl rfl) ⟨Nat.le_of_ble_eq_true rfl, Nat.le_of_ble_eq_true rfl⟩ rfl hl.1 rfl (Nat.le_of_ble_eq_true rfl) dX0_run_43 ⟨(Nat.le_of_ble_eq_true rfl), (Nat.le_of_ble_eq_true rfl)⟩) hP hD hS hA (fun u H locs (hP : va_P D cl (wld ga n (K 0) (K 1) x7) H) (hD : va_D A (wld ga n (K 0) (K 1) x7)) hS => ?_)
    refine lv_aload_n hx hb dX0_run_46 rfl (lv_at hl 0 rfl) ?_
    refine r_get hx hb hts ok_RX0 hown hK hP 7 go_7 rfl 5 (by decide) w_223 (fun _ h9 => h9) rfl dX0_run_47 ?_
    obtain ⟨x8, ex8, h⟩ := ob_some h
    refine gk_v (run_V (rest := []) hx hb hml hown hts hK hP hD hS hA hm (C_Tr_spread l G D K H.size ga n x7 ex8) _ (full_C _) (full_n _ List.nodup_range) mok_yX8_spread w_582 w_583 w_584 (rcv hK hP 5 go_5 rfl rfl) ⟨Nat.le_of_ble_eq_true rfl, Nat.le_of_ble_eq_true rfl⟩ rfl hl.1 rfl (Nat.le_of_ble_eq_true rfl) dX0_run_50 ⟨(Nat.le_of_ble_eq_true rfl), (Nat.le_of_ble_eq_true rfl)⟩) hP hD hS hA (fun u H locs (hP : va_P D cl (wld ga n (K 0) (K 1) x8) H) (hD : va_D A (wld ga n (K 0) (K 1) x8)) hS => ?_)
    refine lv_aload_n hx hb dX0_run_53 rfl (lv_at hl 0 rfl) ?_
    refine lv_iload_n hx hb dX0_run_54 rfl (lv_at hl 1 rfl) ?_
    obtain ⟨x9, ex9, h⟩ := ob_some h
    refine gk_v (run_V (rest := []) hx hb hml hown hts hK hP hD hS hA hm (C_Fu_dropReferences l G D K H.size ga n x8 a1 ex9) _ (full_C _) (full_n _ List.nodup_range) mok_yX0_dropReferences w_605 w_607 w_p15 (rcv hK hP 7 go_7 rfl rfl) ⟨Nat.le_of_ble_eq_true rfl, Nat.le_of_ble_eq_true rfl⟩ rfl hl.1 rfl (Nat.le_of_ble_eq_true rfl) dX0_run_55 ⟨(Nat.le_of_ble_eq_true rfl), (Nat.le_of_ble_eq_true rfl)⟩) hP hD hS hA (fun u H locs (hP : va_P D cl (wld ga n (K 0) (K 1) x9) H) (hD : va_D A (wld ga n (K 0) (K 1) x9)) hS => ?_)
    refine lv_aload_n hx hb dX0_run_58 rfl (lv_at hl 0 rfl) ?_
    obtain ⟨x10, ex10, h⟩ := ob_some h
    refine gk_i (run_V (rest := []) hx hb hml hown hts hK hP hD hS hA hm (C_Fu_sweep l G D K H.size ga n x9 ex10) _ (full_C _) (full_n _ List.nodup_range) mok_yX0_sweep w_620 w_622 w_p17 (rcv hK hP 7 go_7 rfl rfl) ⟨Nat.le_of_ble_eq_true rfl, Nat.le_of_ble_eq_true rfl⟩ rfl hl.1 rfl (Nat.le_of_ble_eq_true rfl) dX0_run_59 ⟨(Nat.le_of_ble_eq_true rfl), (Nat.le_of_ble_eq_true rfl)⟩) hP hD hS hA (fun u H locs (hP : va_P D cl (wld ga n (K 0) (K 1) x10.1) H) (hD : va_D A (wld ga n (K 0) (K 1) x10.1)) hS => ?_)
    refine x_istore_n hx hb dX0_run_62 rfl hl (by decide) [0, 1, 2] (lv' := [(0, .ref (ga 7)), (1, .int (iI a1)), (2, .int (iI a2))]) rfl (⟨⟨Nat.ne_of_beq_eq_false rfl, Or.inl (Nat.ne_of_beq_eq_false rfl)⟩, ⟨⟨Nat.ne_of_beq_eq_false rfl, Or.inl (Nat.ne_of_beq_eq_false rfl)⟩, ⟨⟨Nat.ne_of_beq_eq_false rfl, Or.inr rfl⟩, trivial⟩⟩⟩) (fun ls hl => ?_)
    refine lv_aload_n hx hb dX0_run_63 rfl (lv_at hl 1 rfl) ?_
    refine r_get hx hb hts ok_RX0 hown hK hP 7 go_7 rfl 2 (by decide) w_220 (fun _ h9 => h9) rfl dX0_run_64 ?_
    obtain ⟨x11, ex11, h⟩ := ob_some h
    refine gk_i (run_V (rest := []) hx hb hml hown hts hK hP hD hS hA hm (C_Pl_compact l G D K H.size ga n x10.1 ex11) _ (full_C _) (full_n _ List.nodup_range) mok_yX3_compact w_625 w_626 w_627 (rcv hK hP 2 go_2 rfl rfl) ⟨Nat.le_of_ble_eq_true rfl, Nat.le_of_ble_eq_true rfl⟩ rfl hl.1 rfl (Nat.le_of_ble_eq_true rfl) dX0_run_67 ⟨(Nat.le_of_ble_eq_true rfl), (Nat.le_of_ble_eq_true rfl)⟩) hP hD hS hA (fun u H locs (hP : va_P D cl (wld ga n (K 0) (K 1) x11.1) H) (hD : va_D A (wld ga n (K 0) (K 1) x11.1)) hS => ?_)
    refine x_istore hx hb dX0_run_70 hl (by decide) [0, 1, 2, 3] (lv' := [(3, .int (iI x10.2)), (0, .ref (ga 7)), (1, .int (iI a1)), (2, .int (iI a2))]) rfl (⟨⟨Nat.ne_of_beq_eq_false rfl, Or.inr rfl⟩, ⟨⟨Nat.ne_of_beq_eq_false rfl, Or.inl (Nat.ne_of_beq_eq_false rfl)⟩, ⟨⟨Nat.ne_of_beq_eq_false rfl, Or.inl (Nat.ne_of_beq_eq_false rfl)⟩, ⟨⟨Nat.ne_of_beq_eq_false rfl, Or.inl (Nat.ne_of_beq_eq_false rfl)⟩, trivial⟩⟩⟩⟩) (fun ls hl => ?_)
    refine lv_aload_n hx hb dX0_run_72 rfl (lv_at hl 2 rfl) ?_
    refine r_get hx hb hts ok_RX0 hown hK hP 7 go_7 rfl 2 (by decide) w_220 (fun _ h9 => h9) rfl dX0_run_73 ?_
    obtain ⟨x12, ex12, h⟩ := ob_some h
    refine gk_v (run_V (rest := []) hx hb hml hown hts hK hP hD hS hA hm (C_Pl_renewCards l G D K H.size ga n x11.1 ex12) _ (full_C _) (full_n _ List.nodup_range) mok_yX3_renewCards w_654 w_529 w_530 (rcv hK hP 2 go_2 rfl rfl) ⟨Nat.le_of_ble_eq_true rfl, Nat.le_of_ble_eq_true rfl⟩ rfl hl.1 rfl (Nat.le_of_ble_eq_true rfl) dX0_run_76 ⟨(Nat.le_of_ble_eq_true rfl), (Nat.le_of_ble_eq_true rfl)⟩) hP hD hS hA (fun u H locs (hP : va_P D cl (wld ga n (K 0) (K 1) x12) H) (hD : va_D A (wld ga n (K 0) (K 1) x12)) hS => ?_)
    refine lv_aload_n hx hb dX0_run_79 rfl (lv_at hl 2 rfl) ?_
    refine r_get hx hb hts ok_RX0 hown hK hP 7 go_7 rfl 4 (by decide) w_222 (fun _ h9 => h9) rfl dX0_run_80 ?_
    obtain ⟨x13, ex13, h⟩ := ob_some h
    refine gk_v (run_V (rest := []) hx hb hml hown hts hK hP hD hS hA hm (C_Mk_end l G D K H.size ga n x12 ex13) _ (full_C _) (full_n _ List.nodup_range) mok_yX1_end w_655 w_656 w_657 (rcv hK hP 4 go_4 rfl rfl) ⟨Nat.le_of_ble_eq_true rfl, Nat.le_of_ble_eq_true rfl⟩ rfl hl.1 rfl (Nat.le_of_ble_eq_true rfl) dX0_run_83 ⟨(Nat.le_of_ble_eq_true rfl), (Nat.le_of_ble_eq_true rfl)⟩) hP hD hS hA (fun u H locs (hP : va_P D cl (wld ga n (K 0) (K 1) x13) H) (hD : va_D A (wld ga n (K 0) (K 1) x13)) hS => ?_)
    refine lv_aload_n hx hb dX0_run_86 rfl (lv_at hl 2 rfl) ?_
    refine r_get hx hb hts ok_RX0 hown hK hP 7 go_7 rfl 3 (by decide) w_221 (fun _ h9 => h9) rfl dX0_run_87 ?_
    refine lv_dup hx hb dX0_run_90 rfl ?_
    refine r_get hx hb hts ok_RX6 hown hK hP 3 go_3 rfl 1 (by decide) w_118 (fun _ h9 => h9) rfl dX0_run_91 ?_
    refine lv_iconst (v := iI 1) hx hb dX0_run_94 rfl ?_
    refine lv_iadd hx hb dX0_run_95 ?_
    refine w_toeq (iI_add (gI x13 7) 1) ?_
    refine r_put hx hb hts ok_RX6 hown hK hP hD hS 3 go_3 rfl 1 (by decide) w_118 (fun _ h9 => h9) rfl (v := .int (iI (gI x13 7 + 1))) rfl rfl (Nat.le_of_ble_eq_true rfl) dX0_run_96 (ws' := wld ga n (K 0) (K 1) (sI x13 7 (gI x13 7 + 1))) wI_7 (fun H locs hP hD hS => ?_)
    refine lv_aload_n hx hb dX0_run_99 rfl (lv_at hl 2 rfl) ?_
    refine r_get hx hb hts ok_RX0 hown hK hP 7 go_7 rfl 3 (by decide) w_221 (fun _ h9 => h9) rfl dX0_run_100 ?_
    refine lv_aload_n hx hb dX0_run_103 rfl (lv_at hl 2 rfl) ?_
    refine r_get hx hb hts ok_RX0 hown hK hP 7 go_7 rfl 2 (by decide) w_220 (fun _ h9 => h9) rfl dX0_run_104 ?_
    obtain ⟨x14, ex14, h⟩ := ob_some h
    refine gk_i (run_V (rest := [.ref (ga 3)]) hx hb hml hown hts hK hP hD hS hA hm (C_Pl_words l G D K H.size ga n (sI x13 7 (gI x13 7 + 1)) ex14) _ (full_C _) (full_n _ List.nodup_range) mok_yX3_words w_659 w_660 w_661 (rcv hK hP 2 go_2 rfl rfl) ⟨Nat.le_of_ble_eq_true rfl, Nat.le_of_ble_eq_true rfl⟩ rfl hl.1 rfl (Nat.le_of_ble_eq_true rfl) dX0_run_107 ⟨(Nat.le_of_ble_eq_true rfl), (Nat.le_of_ble_eq_true rfl)⟩) hP hD hS hA (fun u H locs (hP : va_P D cl (wld ga n (K 0) (K 1) (sI x13 7 (gI x13 7 + 1))) H) (hD : va_D A (wld ga n (K 0) (K 1) (sI x13 7 (gI x13 7 + 1)))) hS => ?_)
    refine lv_iload hx hb dX0_run_110 (lv_at hl 0 rfl) ?_
    refine lv_iadd hx hb dX0_run_112 ?_
    refine w_toeq (iI_add x14 x11.2) ?_
    obtain ⟨x15, ex15, h⟩ := ob_some h
    refine gk_v (run_V (rest := []) hx hb hml hown hts hK hP hD hS hA hm (C_Ta_noteTouched l G D K H.size ga n (sI x13 7 (gI x13 7 + 1)) (x14 + x11.2) ex15) _ (full_C _) (full_n _ List.nodup_range) mok_yX6_noteTouched w_663 w_550 w_551 (rcv hK hP 3 go_3 rfl rfl) ⟨Nat.le_of_ble_eq_true rfl, Nat.le_of_ble_eq_true rfl⟩ rfl hl.1 rfl (Nat.le_of_ble_eq_true rfl) dX0_run_113 ⟨(Nat.le_of_ble_eq_true rfl), (Nat.le_of_ble_eq_true rfl)⟩) hP hD hS hA (fun u H locs (hP : va_P D cl (wld ga n (K 0) (K 1) x15) H) (hD : va_D A (wld ga n (K 0) (K 1) x15)) hS => ?_)
    refine lv_iload_n hx hb dX0_run_116 rfl (lv_at hl 1 rfl) ?_
    obtain rfl := Option.some.inj h
    exact e_i hx hb hr hlk hP hD hS (fun _ => 0) rfl (Nat.le_of_ble_eq_true rfl) (Nat.le_of_ble_eq_true rfl) rfl dX0_run_117
  · replace h := it_F h c3
    refine i_if_eq_F hx hb g2 (tgt := 23) dX0_run_10 (by decide) c3 ?_
    refine lv_aload_n hx hb dX0_run_13 rfl (lv_at hl 0 rfl) ?_
    refine r_get hx hb hts ok_RX0 hown hK hP 7 go_7 rfl 5 (by decide) w_223 (fun _ h9 => h9) rfl dX0_run_14 ?_
    obtain ⟨x16, ex16, h⟩ := ob_some h
    refine gk_v (run_V (rest := []) hx hb hml hown hts hK hP hD hS hA hm (C_Tr_markBlack l G D K H.size ga n x1 ex16) _ (full_C _) (full_n _ List.nodup_range) mok_yX8_markBlack w_567 w_568 w_569 (rcv hK hP 5 go_5 rfl rfl) ⟨Nat.le_of_ble_eq_true rfl, Nat.le_of_ble_eq_true rfl⟩ rfl hl.1 rfl (Nat.le_of_ble_eq_true rfl) dX0_run_17 ⟨(Nat.le_of_ble_eq_true rfl), (Nat.le_of_ble_eq_true rfl)⟩) hP hD hS hA (fun u H locs (hP : va_P D cl (wld ga n (K 0) (K 1) x16) H) (hD : va_D A (wld ga n (K 0) (K 1) x16)) hS => ?_)
    refine lv_goto (tgt := 37) hx hb dX0_run_20 (by decide) ?_
    refine lv_aload_n hx hb dX0_run_37 rfl (lv_at hl 0 rfl) ?_
    refine lv_iload_n hx hb dX0_run_38 rfl (lv_at hl 1 rfl) ?_
    obtain ⟨x17, ex17, h⟩ := ob_some h
    refine gk_v (run_V (rest := []) hx hb hml hown hts hK hP hD hS hA hm (C_Fu_dropReferences l G D K H.size ga n x16 a1 ex17) _ (full_C _) (full_n _ List.nodup_range) mok_yX0_dropReferences w_605 w_607 w_p15 (rcv hK hP 7 go_7 rfl rfl) ⟨Nat.le_of_ble_eq_true rfl, Nat.le_of_ble_eq_true rfl⟩ rfl hl.1 rfl (Nat.le_of_ble_eq_true rfl) dX0_run_39 ⟨(Nat.le_of_ble_eq_true rfl), (Nat.le_of_ble_eq_true rfl)⟩) hP hD hS hA (fun u H locs (hP : va_P D cl (wld ga n (K 0) (K 1) x17) H) (hD : va_D A (wld ga n (K 0) (K 1) x17)) hS => ?_)
    refine lv_aload_n hx hb dX0_run_42 rfl (lv_at hl 0 rfl) ?_
    obtain ⟨x18, ex18, h⟩ := ob_some h
    refine gk_v (run_V (rest := []) hx hb hml hown hts hK hP hD hS hA hm (C_Fu_raiseFinals l G D K H.size ga n x17 ex18) _ (full_C _) (full_n _ List.nodup_range) mok_yX0_raiseFinals w_614 w_616 w_p16 (rcv hK hP 7 go_7 rfl rfl) ⟨Nat.le_of_ble_eq_true rfl, Nat.le_of_ble_eq_true rfl⟩ rfl hl.1 rfl (Nat.le_of_ble_eq_true rfl) dX0_run_43 ⟨(Nat.le_of_ble_eq_true rfl), (Nat.le_of_ble_eq_true rfl)⟩) hP hD hS hA (fun u H locs (hP : va_P D cl (wld ga n (K 0) (K 1) x18) H) (hD : va_D A (wld ga n (K 0) (K 1) x18)) hS => ?_)
    refine lv_aload_n hx hb dX0_run_46 rfl (lv_at hl 0 rfl) ?_
    refine r_get hx hb hts ok_RX0 hown hK hP 7 go_7 rfl 5 (by decide) w_223 (fun _ h9 => h9) rfl dX0_run_47 ?_
    obtain ⟨x19, ex19, h⟩ := ob_some h
    refine gk_v (run_V (rest := []) hx hb hml hown hts hK hP hD hS hA hm (C_Tr_spread l G D K H.size ga n x18 ex19) _ (full_C _) (full_n _ List.nodup_range) mok_yX8_spread w_582 w_583 w_584 (rcv hK hP 5 go_5 rfl rfl) ⟨Nat.le_of_ble_eq_true rfl, Nat.le_of_ble_eq_true rfl⟩ rfl hl.1 rfl (Nat.le_of_ble_eq_true rfl) dX0_run_50 ⟨(Nat.le_of_ble_eq_true rfl), (Nat.le_of_ble_eq_true rfl)⟩) hP hD hS hA (fun u H locs (hP : va_P D cl (wld ga n (K 0) (K 1) x19) H) (hD : va_D A (wld ga n (K 0) (K 1) x19)) hS => ?_)
    refine lv_aload_n hx hb dX0_run_53 rfl (lv_at hl 0 rfl) ?_
    refine lv_iload_n hx hb dX0_run_54 rfl (lv_at hl 1 rfl) ?_
    obtain ⟨x20, ex20, h⟩ := ob_some h
    refine gk_v (run_V (rest := []) hx hb hml hown hts hK hP hD hS hA hm (C_Fu_dropReferences l G D K H.size ga n x19 a1 ex20) _ (full_C _) (full_n _ List.nodup_range) mok_yX0_dropReferences w_605 w_607 w_p15 (rcv hK hP 7 go_7 rfl rfl) ⟨Nat.le_of_ble_eq_true rfl, Nat.le_of_ble_eq_true rfl⟩ rfl hl.1 rfl (Nat.le_of_ble_eq_true rfl) dX0_run_55 ⟨(Nat.le_of_ble_eq_true rfl), (Nat.le_of_ble_eq_true rfl)⟩) hP hD hS hA (fun u H locs (hP : va_P D cl (wld ga n (K 0) (K 1) x20) H) (hD : va_D A (wld ga n (K 0) (K 1) x20)) hS => ?_)
    refine lv_aload_n hx hb dX0_run_58 rfl (lv_at hl 0 rfl) ?_
    obtain ⟨x21, ex21, h⟩ := ob_some h
    refine gk_i (run_V (rest := []) hx hb hml hown hts hK hP hD hS hA hm (C_Fu_sweep l G D K H.size ga n x20 ex21) _ (full_C _) (full_n _ List.nodup_range) mok_yX0_sweep w_620 w_622 w_p17 (rcv hK hP 7 go_7 rfl rfl) ⟨Nat.le_of_ble_eq_true rfl, Nat.le_of_ble_eq_true rfl⟩ rfl hl.1 rfl (Nat.le_of_ble_eq_true rfl) dX0_run_59 ⟨(Nat.le_of_ble_eq_true rfl), (Nat.le_of_ble_eq_true rfl)⟩) hP hD hS hA (fun u H locs (hP : va_P D cl (wld ga n (K 0) (K 1) x21.1) H) (hD : va_D A (wld ga n (K 0) (K 1) x21.1)) hS => ?_)
    refine x_istore_n hx hb dX0_run_62 rfl hl (by decide) [0, 1, 2] (lv' := [(0, .ref (ga 7)), (1, .int (iI a1)), (2, .int (iI a2))]) rfl (⟨⟨Nat.ne_of_beq_eq_false rfl, Or.inl (Nat.ne_of_beq_eq_false rfl)⟩, ⟨⟨Nat.ne_of_beq_eq_false rfl, Or.inl (Nat.ne_of_beq_eq_false rfl)⟩, ⟨⟨Nat.ne_of_beq_eq_false rfl, Or.inr rfl⟩, trivial⟩⟩⟩) (fun ls hl => ?_)
    refine lv_aload_n hx hb dX0_run_63 rfl (lv_at hl 1 rfl) ?_
    refine r_get hx hb hts ok_RX0 hown hK hP 7 go_7 rfl 2 (by decide) w_220 (fun _ h9 => h9) rfl dX0_run_64 ?_
    obtain ⟨x22, ex22, h⟩ := ob_some h
    refine gk_i (run_V (rest := []) hx hb hml hown hts hK hP hD hS hA hm (C_Pl_compact l G D K H.size ga n x21.1 ex22) _ (full_C _) (full_n _ List.nodup_range) mok_yX3_compact w_625 w_626 w_627 (rcv hK hP 2 go_2 rfl rfl) ⟨Nat.le_of_ble_eq_true rfl, Nat.le_of_ble_eq_true rfl⟩ rfl hl.1 rfl (Nat.le_of_ble_eq_true rfl) dX0_run_67 ⟨(Nat.le_of_ble_eq_true rfl), (Nat.le_of_ble_eq_true rfl)⟩) hP hD hS hA (fun u H locs (hP : va_P D cl (wld ga n (K 0) (K 1) x22.1) H) (hD : va_D A (wld ga n (K 0) (K 1) x22.1)) hS => ?_)
    refine x_istore hx hb dX0_run_70 hl (by decide) [0, 1, 2, 3] (lv' := [(3, .int (iI x21.2)), (0, .ref (ga 7)), (1, .int (iI a1)), (2, .int (iI a2))]) rfl (⟨⟨Nat.ne_of_beq_eq_false rfl, Or.inr rfl⟩, ⟨⟨Nat.ne_of_beq_eq_false rfl, Or.inl (Nat.ne_of_beq_eq_false rfl)⟩, ⟨⟨Nat.ne_of_beq_eq_false rfl, Or.inl (Nat.ne_of_beq_eq_false rfl)⟩, ⟨⟨Nat.ne_of_beq_eq_false rfl, Or.inl (Nat.ne_of_beq_eq_false rfl)⟩, trivial⟩⟩⟩⟩) (fun ls hl => ?_)
    refine lv_aload_n hx hb dX0_run_72 rfl (lv_at hl 2 rfl) ?_
    refine r_get hx hb hts ok_RX0 hown hK hP 7 go_7 rfl 2 (by decide) w_220 (fun _ h9 => h9) rfl dX0_run_73 ?_
    obtain ⟨x23, ex23, h⟩ := ob_some h
    refine gk_v (run_V (rest := []) hx hb hml hown hts hK hP hD hS hA hm (C_Pl_renewCards l G D K H.size ga n x22.1 ex23) _ (full_C _) (full_n _ List.nodup_range) mok_yX3_renewCards w_654 w_529 w_530 (rcv hK hP 2 go_2 rfl rfl) ⟨Nat.le_of_ble_eq_true rfl, Nat.le_of_ble_eq_true rfl⟩ rfl hl.1 rfl (Nat.le_of_ble_eq_true rfl) dX0_run_76 ⟨(Nat.le_of_ble_eq_true rfl), (Nat.le_of_ble_eq_true rfl)⟩) hP hD hS hA (fun u H locs (hP : va_P D cl (wld ga n (K 0) (K 1) x23) H) (hD : va_D A (wld ga n (K 0) (K 1) x23)) hS => ?_)
    refine lv_aload_n hx hb dX0_run_79 rfl (lv_at hl 2 rfl) ?_
    refine r_get hx hb hts ok_RX0 hown hK hP 7 go_7 rfl 4 (by decide) w_222 (fun _ h9 => h9) rfl dX0_run_80 ?_
    obtain ⟨x24, ex24, h⟩ := ob_some h
    refine gk_v (run_V (rest := []) hx hb hml hown hts hK hP hD hS hA hm (C_Mk_end l G D K H.size ga n x23 ex24) _ (full_C _) (full_n _ List.nodup_range) mok_yX1_end w_655 w_656 w_657 (rcv hK hP 4 go_4 rfl rfl) ⟨Nat.le_of_ble_eq_true rfl, Nat.le_of_ble_eq_true rfl⟩ rfl hl.1 rfl (Nat.le_of_ble_eq_true rfl) dX0_run_83 ⟨(Nat.le_of_ble_eq_true rfl), (Nat.le_of_ble_eq_true rfl)⟩) hP hD hS hA (fun u H locs (hP : va_P D cl (wld ga n (K 0) (K 1) x24) H) (hD : va_D A (wld ga n (K 0) (K 1) x24)) hS => ?_)
    refine lv_aload_n hx hb dX0_run_86 rfl (lv_at hl 2 rfl) ?_
    refine r_get hx hb hts ok_RX0 hown hK hP 7 go_7 rfl 3 (by decide) w_221 (fun _ h9 => h9) rfl dX0_run_87 ?_
    refine lv_dup hx hb dX0_run_90 rfl ?_
    refine r_get hx hb hts ok_RX6 hown hK hP 3 go_3 rfl 1 (by decide) w_118 (fun _ h9 => h9) rfl dX0_run_91 ?_
    refine lv_iconst (v := iI 1) hx hb dX0_run_94 rfl ?_
    refine lv_iadd hx hb dX0_run_95 ?_
    refine w_toeq (iI_add (gI x24 7) 1) ?_
    refine r_put hx hb hts ok_RX6 hown hK hP hD hS 3 go_3 rfl 1 (by decide) w_118 (fun _ h9 => h9) rfl (v := .int (iI (gI x24 7 + 1))) rfl rfl (Nat.le_of_ble_eq_true rfl) dX0_run_96 (ws' := wld ga n (K 0) (K 1) (sI x24 7 (gI x24 7 + 1))) wI_7 (fun H locs hP hD hS => ?_)
    refine lv_aload_n hx hb dX0_run_99 rfl (lv_at hl 2 rfl) ?_
    refine r_get hx hb hts ok_RX0 hown hK hP 7 go_7 rfl 3 (by decide) w_221 (fun _ h9 => h9) rfl dX0_run_100 ?_
    refine lv_aload_n hx hb dX0_run_103 rfl (lv_at hl 2 rfl) ?_
    refine r_get hx hb hts ok_RX0 hown hK hP 7 go_7 rfl 2 (by decide) w_220 (fun _ h9 => h9) rfl dX0_run_104 ?_
    obtain ⟨x25, ex25, h⟩ := ob_some h
    refine gk_i (run_V (rest := [.ref (ga 3)]) hx hb hml hown hts hK hP hD hS hA hm (C_Pl_words l G D K H.size ga n (sI x24 7 (gI x24 7 + 1)) ex25) _ (full_C _) (full_n _ List.nodup_range) mok_yX3_words w_659 w_660 w_661 (rcv hK hP 2 go_2 rfl rfl) ⟨Nat.le_of_ble_eq_true rfl, Nat.le_of_ble_eq_true rfl⟩ rfl hl.1 rfl (Nat.le_of_ble_eq_true rfl) dX0_run_107 ⟨(Nat.le_of_ble_eq_true rfl), (Nat.le_of_ble_eq_true rfl)⟩) hP hD hS hA (fun u H locs (hP : va_P D cl (wld ga n (K 0) (K 1) (sI x24 7 (gI x24 7 + 1))) H) (hD : va_D A (wld ga n (K 0) (K 1) (sI x24 7 (gI x24 7 + 1)))) hS => ?_)
    refine lv_iload hx hb dX0_run_110 (lv_at hl 0 rfl) ?_
    refine lv_iadd hx hb dX0_run_112 ?_
    refine w_toeq (iI_add x25 x22.2) ?_
    obtain ⟨x26, ex26, h⟩ := ob_some h
    refine gk_v (run_V (rest := []) hx hb hml hown hts hK hP hD hS hA hm (C_Ta_noteTouched l G D K H.size ga n (sI x24 7 (gI x24 7 + 1)) (x25 + x22.2) ex26) _ (full_C _) (full_n _ List.nodup_range) mok_yX6_noteTouched w_663 w_550 w_551 (rcv hK hP 3 go_3 rfl rfl) ⟨Nat.le_of_ble_eq_true rfl, Nat.le_of_ble_eq_true rfl⟩ rfl hl.1 rfl (Nat.le_of_ble_eq_true rfl) dX0_run_113 ⟨(Nat.le_of_ble_eq_true rfl), (Nat.le_of_ble_eq_true rfl)⟩) hP hD hS hA (fun u H locs (hP : va_P D cl (wld ga n (K 0) (K 1) x26) H) (hD : va_D A (wld ga n (K 0) (K 1) x26)) hS => ?_)
    refine lv_iload_n hx hb dX0_run_116 rfl (lv_at hl 1 rfl) ?_
    obtain rfl := Option.some.inj h
    exact e_i hx hb hr hlk hP hD hS (fun _ => 0) rfl (Nat.le_of_ble_eq_true rfl) (Nat.le_of_ble_eq_true rfl) rfl dX0_run_117
