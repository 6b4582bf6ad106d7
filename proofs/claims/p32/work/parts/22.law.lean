/-! METHODS as functions, with their contracts, written by wip/p32/sx2.py -/
def s_Law_pinned_4 (rec : Int → Int → Option (Int)) (n : Nat) (M : cSt)  (v1 : Int) (v2 : Int) : Option (Int) := ob (f_X_many n M 0) (fun x1 => og (inR v2) (og (inR x1) (if v2 < x1 then ob (f_X_ofObject n M v2 5) (fun x5 => og (inR x5) (if x5 = 1 then rec (v1 + 1) (v2 + 1) else rec (v1 + 0) (v2 + 1))) else some v1)))
def g_Law_pinned_4 (n : Nat) (M : cSt)  : Nat → Int → Int → Option (Int)
  | 0 => fun _ _ => none
  | q + 1 => s_Law_pinned_4 (g_Law_pinned_4 n M  q) n M 
set_option maxHeartbeats 4000000 in
set_option maxRecDepth 100000 in
theorem L_Law_pinned_4 {p : Program} {l : Launch} {G : Nat → Nat} {D : va_G} {K : Nat → ClassId} {e : Env} {s : State} {m : MethodId} {args : Array Value} {below : List Frame} {meth : Method} {c : Code} {A : Nat → Prop} (hx : p.tables.exec = Jvm.exec) (hb : c.code = cL_pinned) (hr : meth.sig.returnType = (some FieldType.int)) (hml : c.maxLocals = 3) (hown : s.vm.findClass RL = some m.cls) (hts : ∀ w ∈ lw_gw, w.before args s = true) (hlk : meth.locks = false) (hK : va_K D cl (tys K) s) (hA : ∀ q : Nat, s.heap.size ≤ q → A q) (hm : Amb G A s s.heap) {Q : State → Prop} (ga : Nat → Nat) (n : Nat) (M : cSt)  : ∀ (q : Nat) (v1 : Int) (v2 : Int) (out : Int), g_Law_pinned_4 n M  q v1 v2 = some out → ∀ (cs sl : Nat), cs + q * 0 + 0 ≤ 0 → sl + q * 0 + 0 ≤ 0 → ∀ (ls : Array Slot) (H : Heap) (locs : List Loc), va_P D cl (wld ga n (K 0) (K 1) M) H → va_D A (wld ga n (K 0) (K 1) M) → va_S A s.heap H locs → lv_has ls 3 [(0, .ref (ga 0)), (1, .int (iI v1)), (2, .int (iI v2))] → (∀ (cs2 sl2 : Nat), cs2 ≤ cs + q * 0 → sl2 ≤ sl + q * 0 → ∀ (ls : Array Slot) (H : Heap) (locs : List Loc), va_P D cl (wld ga n (K 0) (K 1) M) H → va_D A (wld ga n (K 0) (K 1) M) → va_S A s.heap H locs → lv_has ls 3 [(1, .int (iI out))] → W p l e ({ frames := 3, cells := 0, slots := 0, locals := 66 } : Room) s m args below meth c H locs cs2 sl2 Q (F0 m 37 ls [])) → W p l e ({ frames := 3, cells := 0, slots := 0, locals := 66 } : Room) s m args below meth c H locs cs sl Q (F0 m 4 ls []) := by
  intro q
  induction q with
  | zero =>
    intro v1 v2 out h
    cases (show none = some out from h)
  | succ q ih =>
    intro v1 v2 out h cs sl hcs hsl ls H locs hP hD hS hl kk
    replace h : s_Law_pinned_4 (g_Law_pinned_4 n M  q) n M  v1 v2 = some out := h
    unfold s_Law_pinned_4 at h
    have hfu : fu = 500 := rfl
    refine lv_iload_n hx hb dL_pinned_4 rfl (lv_at hl 2 rfl) ?_
    refine lv_aload_n hx hb dL_pinned_5 rfl (lv_at hl 0 rfl) ?_
    refine lv_iconst (v := iI 0) hx hb dL_pinned_6 rfl ?_
    obtain ⟨x1, ex1, h⟩ := ob_some h
    refine gk_i (run_V (rest := [.int (iI v2)]) hx hb hml hown hts hK hP hD hS hA hm (C_X_many l G D K H.size ga n M 0 ex1) _ (full_C _) (full_n _ List.nodup_range) mok_yX9_many w_867 w_868 w_869 (rcv hK hP 0 go_0 rfl rfl) ⟨Nat.le_of_ble_eq_true rfl, Nat.le_of_ble_eq_true rfl⟩ rfl hl.1 rfl (Nat.le_of_ble_eq_true rfl) dL_pinned_7 ⟨(by first | omega | (dsimp only at *; omega) | (dsimp only [room_1] at *; omega)), (by first | omega | (dsimp only at *; omega) | (dsimp only [room_1] at *; omega))⟩) hP hD hS hA (fun u H locs (hP : va_P D cl (wld ga n (K 0) (K 1) M) H) (hD : va_D A (wld ga n (K 0) (K 1) M)) hS => ?_)
    obtain ⟨g2, h⟩ := og_some h
    obtain ⟨g3, h⟩ := og_some h
    by_cases c4 : v2 < x1
    · replace h := it_T h c4
      refine i_icmp_ge_F hx hb g2 g3 (tgt := 37) dL_pinned_10 (by decide) c4 ?_
      refine lv_iload_n hx hb dL_pinned_13 rfl (lv_at hl 1 rfl) ?_
      refine lv_aload_n hx hb dL_pinned_14 rfl (lv_at hl 0 rfl) ?_
      refine lv_iload_n hx hb dL_pinned_15 rfl (lv_at hl 2 rfl) ?_
      refine lv_iconst (v := iI 5) hx hb dL_pinned_16 rfl ?_
      obtain ⟨x5, ex5, h⟩ := ob_some h
      refine gk_i (run_V (rest := [.int (iI v1)]) hx hb hml hown hts hK hP hD hS hA hm (C_X_ofObject l G D K H.size ga n M v2 5 ex5) _ (full_C _) (full_n _ List.nodup_range) mok_yX9_ofObject w_858 w_859 w_860 (rcv hK hP 0 go_0 rfl rfl) ⟨Nat.le_of_ble_eq_true rfl, Nat.le_of_ble_eq_true rfl⟩ rfl hl.1 rfl (Nat.le_of_ble_eq_true rfl) dL_pinned_17 ⟨(by first | omega | (dsimp only at *; omega) | (dsimp only [room_1] at *; omega)), (by first | omega | (dsimp only at *; omega) | (dsimp only [room_1] at *; omega))⟩) hP hD hS hA (fun u H locs (hP : va_P D cl (wld ga n (K 0) (K 1) M) H) (hD : va_D A (wld ga n (K 0) (K 1) M)) hS => ?_)
      refine lv_iconst (v := iI 1) hx hb dL_pinned_20 rfl ?_
      obtain ⟨g6, h⟩ := og_some h
      by_cases c7 : x5 = 1
      · replace h := it_T h c7
        refine i_icmp_ne_F hx hb g6 ⟨by decide, by decide⟩ (tgt := 28) dL_pinned_21 (by decide) c7 ?_
        refine lv_iconst (v := iI 1) hx hb dL_pinned_24 rfl ?_
        refine lv_goto (tgt := 29) hx hb dL_pinned_25 (by decide) ?_
        refine lv_iadd hx hb dL_pinned_29 ?_
        refine w_toeq (iI_add v1 1) ?_
        refine x_istore_n hx hb dL_pinned_30 rfl hl (by decide) [0, 2] (lv' := [(0, .ref (ga 0)), (2, .int (iI v2))]) rfl (⟨⟨Nat.ne_of_beq_eq_false rfl, Or.inr rfl⟩, ⟨⟨Nat.ne_of_beq_eq_false rfl, Or.inl (Nat.ne_of_beq_eq_false rfl)⟩, trivial⟩⟩) (fun ls hl => ?_)
        refine x_iinc (v := iI (v2 + 1)) hx hb dL_pinned_31 hl (k := 2) rfl (iI_add v2 1) (by decide) [0, 1] (lv' := [(1, .int (iI (v1 + 1))), (0, .ref (ga 0))]) rfl (⟨⟨Nat.ne_of_beq_eq_false rfl, Or.inr rfl⟩, ⟨⟨Nat.ne_of_beq_eq_false rfl, Or.inl (Nat.ne_of_beq_eq_false rfl)⟩, trivial⟩⟩) (fun ls hl => ?_)
        refine lv_goto (tgt := 4) hx hb dL_pinned_34 (by decide) ?_
        exact ih (v1 + 1) (v2 + 1) _ h _ _ (by first | omega | (dsimp only at *; omega) | (dsimp only [room_1] at *; omega)) (by first | omega | (dsimp only at *; omega) | (dsimp only [room_1] at *; omega)) _ _ _ hP hD hS (lv_pk hl [2, 1, 0] rfl) (fun cs2 sl2 h7 h8 => kk cs2 sl2 (by first | (dsimp only at h7; omega) | omega | (dsimp only at *; omega)) (by first | (dsimp only at h8; omega) | omega | (dsimp only at *; omega)))
      · replace h := it_F h c7
        refine i_icmp_ne_T hx hb g6 ⟨by decide, by decide⟩ (tgt := 28) dL_pinned_21 (by decide) c7 ?_
        refine lv_iconst (v := iI 0) hx hb dL_pinned_28 rfl ?_
        refine lv_iadd hx hb dL_pinned_29 ?_
        refine w_toeq (iI_add v1 0) ?_
        refine x_istore_n hx hb dL_pinned_30 rfl hl (by decide) [0, 2] (lv' := [(0, .ref (ga 0)), (2, .int (iI v2))]) rfl (⟨⟨Nat.ne_of_beq_eq_false rfl, Or.inr rfl⟩, ⟨⟨Nat.ne_of_beq_eq_false rfl, Or.inl (Nat.ne_of_beq_eq_false rfl)⟩, trivial⟩⟩) (fun ls hl => ?_)
        refine x_iinc (v := iI (v2 + 1)) hx hb dL_pinned_31 hl (k := 2) rfl (iI_add v2 1) (by decide) [0, 1] (lv' := [(1, .int (iI (v1 + 0))), (0, .ref (ga 0))]) rfl (⟨⟨Nat.ne_of_beq_eq_false rfl, Or.inr rfl⟩, ⟨⟨Nat.ne_of_beq_eq_false rfl, Or.inl (Nat.ne_of_beq_eq_false rfl)⟩, trivial⟩⟩) (fun ls hl => ?_)
        refine lv_goto (tgt := 4) hx hb dL_pinned_34 (by decide) ?_
        exact ih (v1 + 0) (v2 + 1) _ h _ _ (by first | omega | (dsimp only at *; omega) | (dsimp only [room_1] at *; omega)) (by first | omega | (dsimp only at *; omega) | (dsimp only [room_1] at *; omega)) _ _ _ hP hD hS (lv_pk hl [2, 1, 0] rfl) (fun cs2 sl2 h7 h8 => kk cs2 sl2 (by first | (dsimp only at h7; omega) | omega | (dsimp only at *; omega)) (by first | (dsimp only at h8; omega) | omega | (dsimp only at *; omega)))
    · replace h := it_F h c4
      refine i_icmp_ge_T hx hb g2 g3 (tgt := 37) dL_pinned_10 (by decide) c4 ?_
      obtain rfl := Option.some.inj h
      exact kk _ _ (by first | omega | (dsimp only at *; omega) | (dsimp only [room_1] at *; omega)) (by first | omega | (dsimp only at *; omega) | (dsimp only [room_1] at *; omega)) _ _ _ hP hD hS (lv_pk hl [1] rfl)
def f_Law_pinned (n : Nat) (M : cSt)  : Option (Int) := ob (g_Law_pinned_4 n M fu 0 0) (fun x8 => some x8)
set_option maxHeartbeats 4000000 in
set_option maxRecDepth 100000 in
theorem C_Law_pinned (l : Launch) (G : Nat → Nat) (D : va_G) (K : Nat → ClassId) (sz : Nat) (ga : Nat → Nat) (n : Nat) (M : cSt)  {x : Int} (h : f_Law_pinned n M  = some x) : CM l yL_pinned cL_pinned 3 (some FieldType.int) ({ frames := 3, cells := 0, slots := 0, locals := 66 } : Room) G D K [.ref (ga 0)] (wld ga n (K 0) (K 1) M) sz (CQi (iI x) D (fun _ => wld ga n (K 0) (K 1) M)) := by
  refine CM_of (lv0 := [(0, .ref (ga 0))]) pn_RL (Nat.le_of_ble_eq_true rfl) rfl (fun p e s m args below meth c A ls hx hb hr hml hown hts hlk hnm hP hK hD hS hA hm hl => ?_)
  have hown : s.vm.findClass RL = some m.cls := hown
  unfold f_Law_pinned at h
  have hfu : fu = 500 := rfl
  refine lv_iconst (v := iI 0) hx hb dL_pinned_0 rfl ?_
  refine x_istore_n hx hb dL_pinned_1 rfl hl (by decide) [0] (lv' := [(0, .ref (ga 0))]) rfl (⟨⟨Nat.ne_of_beq_eq_false rfl, Or.inr rfl⟩, trivial⟩) (fun ls hl => ?_)
  refine lv_iconst (v := iI 0) hx hb dL_pinned_2 rfl ?_
  refine x_istore_n hx hb dL_pinned_3 rfl hl (by decide) [0, 1] (lv' := [(1, .int (iI 0)), (0, .ref (ga 0))]) rfl (⟨⟨Nat.ne_of_beq_eq_false rfl, Or.inr rfl⟩, ⟨⟨Nat.ne_of_beq_eq_false rfl, Or.inl (Nat.ne_of_beq_eq_false rfl)⟩, trivial⟩⟩) (fun ls hl => ?_)
  obtain ⟨x8, ex8, h⟩ := ob_some h
  refine L_Law_pinned_4 hx hb hr hml hown hts hlk hK hA hm ga n M  fu 0 0 _ ex8 _ _ (by first | omega | (dsimp only at *; omega) | (dsimp only [room_1] at *; omega)) (by first | omega | (dsimp only at *; omega) | (dsimp only [room_1] at *; omega)) _ _ _ hP hD hS (lv_pk hl [2, 1, 0] rfl) (fun cs8 sl8 hcs8 hsl8 ls H locs (hP : va_P D cl (wld ga n (K 0) (K 1) M) H) (hD : va_D A (wld ga n (K 0) (K 1) M)) hS (hl : lv_has ls 3 [(1, .int (iI x8))]) => ?_)
  refine lv_iload_n hx hb dL_pinned_37 rfl (lv_at hl 0 rfl) ?_
  obtain rfl := Option.some.inj h
  exact e_i hx hb hr hlk hP hD hS (fun _ => 0) rfl (by first | omega | (dsimp only at *; omega) | (dsimp only [room_1] at *; omega)) (by first | omega | (dsimp only at *; omega) | (dsimp only [room_1] at *; omega)) rfl dL_pinned_38
def s_Law_words_4 (rec : Int → Int → Option (Int)) (n : Nat) (M : cSt) (nx0 : Nat) (fx0 : Nat → Int) (v2 : Int) (v3 : Int) : Option (Int) := og (nx0 < 2147483648) (og (inR v3) (og (inR (nx0 : Int)) (if v3 < (nx0 : Int) then og (0 ≤ v3 ∧ v3 < (nx0 : Int)) (og (inR (fx0 (v3.toNat))) (if 0 < fx0 (v3.toNat) then ob (f_X_ofObject n M v3 0) (fun x8 => og (inR x8) (if x8 = 0 then rec (v2 + fx0 (v3.toNat)) (v3 + 1) else rec (v2 + 0) (v3 + 1))) else rec (v2 + 0) (v3 + 1))) else some v2)))
def g_Law_words_4 (n : Nat) (M : cSt) (nx0 : Nat) (fx0 : Nat → Int) : Nat → Int → Int → Option (Int)
  | 0 => fun _ _ => none
  | q + 1 => s_Law_words_4 (g_Law_words_4 n M nx0 fx0 q) n M nx0 fx0
set_option maxHeartbeats 4000000 in
set_option maxRecDepth 100000 in
theorem L_Law_words_4 {p : Program} {l : Launch} {G : Nat → Nat} {D : va_G} {K : Nat → ClassId} {e : Env} {s : State} {m : MethodId} {args : Array Value} {below : List Frame} {meth : Method} {c : Code} {A : Nat → Prop} (hx : p.tables.exec = Jvm.exec) (hb : c.code = cL_words) (hr : meth.sig.returnType = (some FieldType.int)) (hml : c.maxLocals = 4) (hown : s.vm.findClass RL = some m.cls) (hts : ∀ w ∈ lw_gw, w.before args s = true) (hlk : meth.locks = false) (hK : va_K D cl (tys K) s) (hA : ∀ q : Nat, s.heap.size ≤ q → A q) (hm : Amb G A s s.heap) {Q : State → Prop} (ga : Nat → Nat) (n : Nat) (M : cSt) (nx0 : Nat) (bx0 : Nat) (fx0 : Nat → Int) : ∀ (q : Nat) (v2 : Int) (v3 : Int) (out : Int), g_Law_words_4 n M nx0 fx0 q v2 v3 = some out → ∀ (cs sl : Nat), cs + q * 0 + 0 ≤ 0 → sl + q * 0 + 0 ≤ 0 → ∀ (ls : Array Slot) (H : Heap) (locs : List Loc), va_P D cl ((bx0, .inl (K 2, nx0, .inl (ci fx0))) :: wld ga n (K 0) (K 1) M) H → va_D A ((bx0, .inl (K 2, nx0, .inl (ci fx0))) :: wld ga n (K 0) (K 1) M) → va_S A s.heap H locs → lv_has ls 4 [(0, .ref (ga 0)), (1, .ref bx0), (2, .int (iI v2)), (3, .int (iI v3))] → (∀ (cs2 sl2 : Nat), cs2 ≤ cs + q * 0 → sl2 ≤ sl + q * 0 → ∀ (ls : Array Slot) (H : Heap) (locs : List Loc), va_P D cl ((bx0, .inl (K 2, nx0, .inl (ci fx0))) :: wld ga n (K 0) (K 1) M) H → va_D A ((bx0, .inl (K 2, nx0, .inl (ci fx0))) :: wld ga n (K 0) (K 1) M) → va_S A s.heap H locs → lv_has ls 4 [(2, .int (iI out))] → W p l e ({ frames := 3, cells := 0, slots := 0, locals := 66 } : Room) s m args below meth c H locs cs2 sl2 Q (F0 m 41 ls [])) → W p l e ({ frames := 3, cells := 0, slots := 0, locals := 66 } : Room) s m args below meth c H locs cs sl Q (F0 m 4 ls []) := by
  intro q
  induction q with
  | zero =>
    intro v2 v3 out h
    cases (show none = some out from h)
  | succ q ih =>
    intro v2 v3 out h cs sl hcs hsl ls H locs hP hD hS hl kk
    replace h : s_Law_words_4 (g_Law_words_4 n M nx0 fx0 q) n M nx0 fx0 v2 v3 = some out := h
    unfold s_Law_words_4 at h
    have hfu : fu = 500 := rfl
    refine lv_iload_n hx hb dL_words_4 rfl (lv_at hl 3 rfl) ?_
    refine lv_aload_n hx hb dL_words_5 rfl (lv_at hl 1 rfl) ?_
    obtain ⟨g1, h⟩ := og_some h
    refine i_alen hx hb 0 2 hK hP rfl rfl rfl g1 dL_words_6 ?_
    obtain ⟨g2, h⟩ := og_some h
    obtain ⟨g3, h⟩ := og_some h
    by_cases c4 : v3 < (nx0 : Int)
    · replace h := it_T h c4
      refine i_icmp_ge_F hx hb g2 g3 (tgt := 41) dL_words_7 (by decide) c4 ?_
      refine lv_iload_n hx hb dL_words_10 rfl (lv_at hl 2 rfl) ?_
      refine lv_aload_n hx hb dL_words_11 rfl (lv_at hl 1 rfl) ?_
      refine lv_iload_n hx hb dL_words_12 rfl (lv_at hl 3 rfl) ?_
      obtain ⟨g5, h⟩ := og_some h
      refine l_iald hx hb 0 hK hP (f := fx0) rfl g5.1 g5.2 g1 dL_words_13 ?_
      obtain ⟨g6, h⟩ := og_some h
      by_cases c7 : 0 < fx0 (v3.toNat)
      · replace h := it_T h c7
        refine i_if_le_F hx hb g6 (tgt := 32) dL_words_14 (by decide) c7 ?_
        refine lv_aload_n hx hb dL_words_17 rfl (lv_at hl 0 rfl) ?_
        refine lv_iload_n hx hb dL_words_18 rfl (lv_at hl 3 rfl) ?_
        refine lv_iconst (v := iI 0) hx hb dL_words_19 rfl ?_
        obtain ⟨x8, ex8, h⟩ := ob_some h
        refine gx_i [(bx0, .inl (K 2, nx0, .inl (ci fx0)))] [] [(bx0, .inl (K 2, nx0, .inl (ci fx0)))] [] [0] 1 rfl rfl rfl (by decide) (by decide) (by decide) (by decide) (run_V (rest := [.int (iI v2)]) hx hb hml hown hts hK hP hD hS hA hm (C_X_ofObject l G D K H.size ga n M v3 0 ex8) (axI [] 1 _) (ax_C (X := [(bx0, .inl (K 2, nx0, .inl (ci fx0)))]) (Y := []) rfl rfl (by decide)) (ax_n (by decide) (by decide)) mok_yX9_ofObject w_858 w_859 w_860 (rcv hK hP 1 (sk go_0) rfl rfl) ⟨Nat.le_of_ble_eq_true rfl, Nat.le_of_ble_eq_true rfl⟩ rfl hl.1 rfl (Nat.le_of_ble_eq_true rfl) dL_words_20 ⟨(by first | omega | (dsimp only at *; omega) | (dsimp only [room_1] at *; omega)), (by first | omega | (dsimp only at *; omega) | (dsimp only [room_1] at *; omega))⟩) hP hD hS hA (fun u H locs (hP : va_P D cl ((bx0, .inl (K 2, nx0, .inl (ci fx0))) :: wld ga n (K 0) (K 1) M) H) (hD : va_D A ((bx0, .inl (K 2, nx0, .inl (ci fx0))) :: wld ga n (K 0) (K 1) M)) hS => ?_)
        obtain ⟨g9, h⟩ := og_some h
        by_cases c10 : x8 = 0
        · replace h := it_T h c10
          refine i_if_ne_F hx hb g9 (tgt := 32) dL_words_23 (by decide) c10 ?_
          refine lv_aload_n hx hb dL_words_26 rfl (lv_at hl 1 rfl) ?_
          refine lv_iload_n hx hb dL_words_27 rfl (lv_at hl 3 rfl) ?_
          refine l_iald hx hb 0 hK hP (f := fx0) rfl g5.1 g5.2 g1 dL_words_28 ?_
          refine lv_goto (tgt := 33) hx hb dL_words_29 (by decide) ?_
          refine lv_iadd hx hb dL_words_33 ?_
          refine w_toeq (iI_add v2 (fx0 (v3.toNat))) ?_
          refine x_istore_n hx hb dL_words_34 rfl hl (by decide) [0, 1, 3] (lv' := [(0, .ref (ga 0)), (1, .ref bx0), (3, .int (iI v3))]) rfl (⟨⟨Nat.ne_of_beq_eq_false rfl, Or.inl (Nat.ne_of_beq_eq_false rfl)⟩, ⟨⟨Nat.ne_of_beq_eq_false rfl, Or.inr rfl⟩, ⟨⟨Nat.ne_of_beq_eq_false rfl, Or.inl (Nat.ne_of_beq_eq_false rfl)⟩, trivial⟩⟩⟩) (fun ls hl => ?_)
          refine x_iinc (v := iI (v3 + 1)) hx hb dL_words_35 hl (k := 3) rfl (iI_add v3 1) (by decide) [0, 1, 2] (lv' := [(2, .int (iI (v2 + fx0 (v3.toNat)))), (0, .ref (ga 0)), (1, .ref bx0)]) rfl (⟨⟨Nat.ne_of_beq_eq_false rfl, Or.inr rfl⟩, ⟨⟨Nat.ne_of_beq_eq_false rfl, Or.inl (Nat.ne_of_beq_eq_false rfl)⟩, ⟨⟨Nat.ne_of_beq_eq_false rfl, Or.inl (Nat.ne_of_beq_eq_false rfl)⟩, trivial⟩⟩⟩) (fun ls hl => ?_)
          refine lv_goto (tgt := 4) hx hb dL_words_38 (by decide) ?_
          exact ih (v2 + fx0 (v3.toNat)) (v3 + 1) _ h _ _ (by first | omega | (dsimp only at *; omega) | (dsimp only [room_1] at *; omega)) (by first | omega | (dsimp only at *; omega) | (dsimp only [room_1] at *; omega)) _ _ _ hP hD hS (lv_pk hl [2, 3, 1, 0] rfl) (fun cs2 sl2 h7 h8 => kk cs2 sl2 (by first | (dsimp only at h7; omega) | omega | (dsimp only at *; omega)) (by first | (dsimp only at h8; omega) | omega | (dsimp only at *; omega)))
        · replace h := it_F h c10
          refine i_if_ne_T hx hb g9 (tgt := 32) dL_words_23 (by decide) c10 ?_
          refine lv_iconst (v := iI 0) hx hb dL_words_32 rfl ?_
          refine lv_iadd hx hb dL_words_33 ?_
          refine w_toeq (iI_add v2 0) ?_
          refine x_istore_n hx hb dL_words_34 rfl hl (by decide) [0, 1, 3] (lv' := [(0, .ref (ga 0)), (1, .ref bx0), (3, .int (iI v3))]) rfl (⟨⟨Nat.ne_of_beq_eq_false rfl, Or.inl (Nat.ne_of_beq_eq_false rfl)⟩, ⟨⟨Nat.ne_of_beq_eq_false rfl, Or.inr rfl⟩, ⟨⟨Nat.ne_of_beq_eq_false rfl, Or.inl (Nat.ne_of_beq_eq_false rfl)⟩, trivial⟩⟩⟩) (fun ls hl => ?_)
          refine x_iinc (v := iI (v3 + 1)) hx hb dL_words_35 hl (k := 3) rfl (iI_add v3 1) (by decide) [0, 1, 2] (lv' := [(2, .int (iI (v2 + 0))), (0, .ref (ga 0)), (1, .ref bx0)]) rfl (⟨⟨Nat.ne_of_beq_eq_false rfl, Or.inr rfl⟩, ⟨⟨Nat.ne_of_beq_eq_false rfl, Or.inl (Nat.ne_of_beq_eq_false rfl)⟩, ⟨⟨Nat.ne_of_beq_eq_false rfl, Or.inl (Nat.ne_of_beq_eq_false rfl)⟩, trivial⟩⟩⟩) (fun ls hl => ?_)
          refine lv_goto (tgt := 4) hx hb dL_words_38 (by decide) ?_
          exact ih (v2 + 0) (v3 + 1) _ h _ _ (by first | omega | (dsimp only at *; omega) | (dsimp only [room_1] at *; omega)) (by first | omega | (dsimp only at *; omega) | (dsimp only [room_1] at *; omega)) _ _ _ hP hD hS (lv_pk hl [2, 3, 1, 0] rfl) (fun cs2 sl2 h7 h8 => kk cs2 sl2 (by first | (dsimp only at h7; omega) | omega | (dsimp only at *; omega)) (by first | (dsimp only at h8; omega) | omega | (dsimp only at *; omega)))
      · replace h := it_F h c7
        refine i_if_le_T hx hb g6 (tgt := 32) dL_words_14 (by decide) c7 ?_
        refine lv_iconst (v := iI 0) hx hb dL_words_32 rfl ?_
        refine lv_iadd hx hb dL_words_33 ?_
        refine w_toeq (iI_add v2 0) ?_
        refine x_istore_n hx hb dL_words_34 rfl hl (by decide) [0, 1, 3] (lv' := [(0, .ref (ga 0)), (1, .ref bx0), (3, .int (iI v3))]) rfl (⟨⟨Nat.ne_of_beq_eq_false rfl, Or.inl (Nat.ne_of_beq_eq_false rfl)⟩, ⟨⟨Nat.ne_of_beq_eq_false rfl, Or.inr rfl⟩, ⟨⟨Nat.ne_of_beq_eq_false rfl, Or.inl (Nat.ne_of_beq_eq_false rfl)⟩, trivial⟩⟩⟩) (fun ls hl => ?_)
        refine x_iinc (v := iI (v3 + 1)) hx hb dL_words_35 hl (k := 3) rfl (iI_add v3 1) (by decide) [0, 1, 2] (lv' := [(2, .int (iI (v2 + 0))), (0, .ref (ga 0)), (1, .ref bx0)]) rfl (⟨⟨Nat.ne_of_beq_eq_false rfl, Or.inr rfl⟩, ⟨⟨Nat.ne_of_beq_eq_false rfl, Or.inl (Nat.ne_of_beq_eq_false rfl)⟩, ⟨⟨Nat.ne_of_beq_eq_false rfl, Or.inl (Nat.ne_of_beq_eq_false rfl)⟩, trivial⟩⟩⟩) (fun ls hl => ?_)
        refine lv_goto (tgt := 4) hx hb dL_words_38 (by decide) ?_
        exact ih (v2 + 0) (v3 + 1) _ h _ _ (by first | omega | (dsimp only at *; omega) | (dsimp only [room_1] at *; omega)) (by first | omega | (dsimp only at *; omega) | (dsimp only [room_1] at *; omega)) _ _ _ hP hD hS (lv_pk hl [2, 3, 1, 0] rfl) (fun cs2 sl2 h7 h8 => kk cs2 sl2 (by first | (dsimp only at h7; omega) | omega | (dsimp only at *; omega)) (by first | (dsimp only at h8; omega) | omega | (dsimp only at *; omega)))
    · replace h := it_F h c4
      refine i_icmp_ge_T hx hb g2 g3 (tgt := 41) dL_words_7 (by decide) c4 ?_
      obtain rfl := Option.some.inj h
      exact kk _ _ (by first | omega | (dsimp only at *; omega) | (dsimp only [room_1] at *; omega)) (by first | omega | (dsimp only at *; omega) | (dsimp only [room_1] at *; omega)) _ _ _ hP hD hS (lv_pk hl [2] rfl)
def f_Law_words (n : Nat) (M : cSt) (n1 : Nat) (f1 : Nat → Int) : Option (Int) := ob (g_Law_words_4 n M n1 f1 fu 0 0) (fun x11 => some x11)
set_option maxHeartbeats 4000000 in
set_option maxRecDepth 100000 in
theorem C_Law_words (l : Launch) (G : Nat → Nat) (D : va_G) (K : Nat → ClassId) (sz : Nat) (ga : Nat → Nat) (n : Nat) (M : cSt) (n1 : Nat) (b1 : Nat) (f1 : Nat → Int) {x : Int} (h : f_Law_words n M n1 f1 = some x) : CM l yL_words cL_words 4 (some FieldType.int) ({ frames := 3, cells := 0, slots := 0, locals := 66 } : Room) G D K [.ref (ga 0), .ref b1] ((b1, .inl (K 2, n1, .inl (ci f1))) :: wld ga n (K 0) (K 1) M) sz (CQi (iI x) D (fun _ => (b1, .inl (K 2, n1, .inl (ci f1))) :: wld ga n (K 0) (K 1) M)) := by
  refine CM_of (lv0 := [(0, .ref (ga 0)), (1, .ref b1)]) pn_RL (Nat.le_of_ble_eq_true rfl) rfl (fun p e s m args below meth c A ls hx hb hr hml hown hts hlk hnm hP hK hD hS hA hm hl => ?_)
  have hown : s.vm.findClass RL = some m.cls := hown
  unfold f_Law_words at h
  have hfu : fu = 500 := rfl
  refine lv_iconst (v := iI 0) hx hb dL_words_0 rfl ?_
  refine x_istore_n hx hb dL_words_1 rfl hl (by decide) [0, 1] (lv' := [(0, .ref (ga 0)), (1, .ref b1)]) rfl (⟨⟨Nat.ne_of_beq_eq_false rfl, Or.inl (Nat.ne_of_beq_eq_false rfl)⟩, ⟨⟨Nat.ne_of_beq_eq_false rfl, Or.inr rfl⟩, trivial⟩⟩) (fun ls hl => ?_)
  refine lv_iconst (v := iI 0) hx hb dL_words_2 rfl ?_
  refine x_istore_n hx hb dL_words_3 rfl hl (by decide) [0, 1, 2] (lv' := [(2, .int (iI 0)), (0, .ref (ga 0)), (1, .ref b1)]) rfl (⟨⟨Nat.ne_of_beq_eq_false rfl, Or.inr rfl⟩, ⟨⟨Nat.ne_of_beq_eq_false rfl, Or.inl (Nat.ne_of_beq_eq_false rfl)⟩, ⟨⟨Nat.ne_of_beq_eq_false rfl, Or.inl (Nat.ne_of_beq_eq_false rfl)⟩, trivial⟩⟩⟩) (fun ls hl => ?_)
  obtain ⟨x11, ex11, h⟩ := ob_some h
  refine L_Law_words_4 hx hb hr hml hown hts hlk hK hA hm ga n M n1 b1 f1  fu 0 0 _ ex11 _ _ (by first | omega | (dsimp only at *; omega) | (dsimp only [room_1] at *; omega)) (by first | omega | (dsimp only at *; omega) | (dsimp only [room_1] at *; omega)) _ _ _ hP hD hS (lv_pk hl [2, 3, 1, 0] rfl) (fun cs11 sl11 hcs11 hsl11 ls H locs (hP : va_P D cl ((b1, .inl (K 2, n1, .inl (ci f1))) :: wld ga n (K 0) (K 1) M) H) (hD : va_D A ((b1, .inl (K 2, n1, .inl (ci f1))) :: wld ga n (K 0) (K 1) M)) hS (hl : lv_has ls 4 [(2, .int (iI x11))]) => ?_)
  refine lv_iload_n hx hb dL_words_41 rfl (lv_at hl 0 rfl) ?_
  obtain rfl := Option.some.inj h
  exact e_i hx hb hr hlk hP hD hS (fun _ => 0) rfl (by first | omega | (dsimp only at *; omega) | (dsimp only [room_1] at *; omega)) (by first | omega | (dsimp only at *; omega) | (dsimp only [room_1] at *; omega)) rfl dL_words_42
def s_Law_areFieldsSound_12 (rec : Int → Option ((Unit) ⊕ (Int))) (n : Nat) (M : cSt) (v1 : Int) (v2 : Int) (v3 : Int) (v4 : Int) : Option ((Unit) ⊕ (Int)) := og (inR v4) (og (inR v3) (if v4 < v3 then oe (e_X_field n M v1 v4) (og (inR (v3 - 1)) (if v4 = (v3 - 1) then ob (f_X_ofObject n M v1 4) (fun x9 => og (inR x9) (if x9 < 0 then some (.inr 0) else some (.inr 1))) else some (.inr 0))) (ob (f_X_field n M v1 v4) (fun x12 => og (inR x12) (if x12 < 0 then rec (v4 + 1) else ob (f_X_ofObject n M x12 0) (fun x15 => og (inR x15) (if x15 = 0 then some (.inr 0) else og (inR v2) (if 1 < v2 then if x15 = 1 then ob (f_X_ofObject n M v1 1) (fun x21 => og (inR (x21 - 100)) (ob (f_X_isDirty n M (Int.tdiv (x21 - 100) 16)) (fun x23 => og (inR x23) (if x23 = 0 then some (.inr 0) else rec (v4 + 1))))) else rec (v4 + 1) else rec (v4 + 1))))))) else some (.inl ())))
def g_Law_areFieldsSound_12 (n : Nat) (M : cSt) (v1 : Int) (v2 : Int) (v3 : Int) : Nat → Int → Option ((Unit) ⊕ (Int))
  | 0 => fun _ => none
  | q + 1 => s_Law_areFieldsSound_12 (g_Law_areFieldsSound_12 n M v1 v2 v3 q) n M v1 v2 v3
set_option maxHeartbeats 4000000 in
set_option maxRecDepth 100000 in
theorem L_Law_areFieldsSound_12 {p : Program} {l : Launch} {G : Nat → Nat} {D : va_G} {K : Nat → ClassId} {e : Env} {s : State} {m : MethodId} {args : Array Value} {below : List Frame} {meth : Method} {c : Code} {A : Nat → Prop} (hx : p.tables.exec = Jvm.exec) (hb : c.code = cL_areFieldsSound) (hr : meth.sig.returnType = (some FieldType.boolean)) (hml : c.maxLocals = 7) (hown : s.vm.findClass RL = some m.cls) (hts : ∀ w ∈ lw_gw, w.before args s = true) (hlk : meth.locks = false) (hK : va_K D cl (tys K) s) (hA : ∀ q : Nat, s.heap.size ≤ q → A q) (hm : Amb G A s s.heap) (hl0 : l.stackTraces = false) (htab : c.exceptionTable.toList = tableOf [(18, 27, 30, 99)]) {x : Int} (ga : Nat → Nat) (n : Nat) (M : cSt) (v1 : Int) (v2 : Int) (v3 : Int) : ∀ (q : Nat) (v4 : Int) (out : (Unit) ⊕ (Int)), g_Law_areFieldsSound_12 n M v1 v2 v3 q v4 = some out → ∀ (cs sl : Nat), cs + q * 0 + 1 ≤ 1 → sl + q * 0 + 6 ≤ 6 → ∀ (ls : Array Slot) (H : Heap) (locs : List Loc), va_P D cl (wld ga n (K 0) (K 1) M) H → va_D A (wld ga n (K 0) (K 1) M) → va_S A s.heap H locs → lv_has ls 7 [(0, .ref (ga 0)), (1, .int (iI v1)), (2, .int (iI v2)), (3, .int (iI v3)), (4, .int (iI v4))] → (∀ (y : (Unit)), out = .inl y → ∀ (cs2 sl2 : Nat), cs2 ≤ cs + q * 0 → sl2 ≤ sl + q * 0 → ∀ (ls : Array Slot) (H : Heap) (locs : List Loc), va_P D cl (wld ga n (K 0) (K 1) M) H → va_D A (wld ga n (K 0) (K 1) M) → va_S A s.heap H locs → lv_has ls 7 [] → W p l e ({ frames := 8, cells := 1, slots := 6, locals := 220 } : Room) s m args below meth c H locs cs2 sl2 (MQ below ((CQi (iI x) D (fun _ => wld ga n (K 0) (K 1) M)) A) args s 1 6 A) (F0 m 115 ls [])) → (∀ y : Int, out = .inr y → y = x) → W p l e ({ frames := 8, cells := 1, slots := 6, locals := 220 } : Room) s m args below meth c H locs cs sl (MQ below ((CQi (iI x) D (fun _ => wld ga n (K 0) (K 1) M)) A) args s 1 6 A) (F0 m 12 ls []) := by
  intro q
  induction q with
  | zero =>
    intro v4 out h
    cases (show none = some out from h)
  | succ q ih =>
    intro v4 out h cs sl hcs hsl ls H locs hP hD hS hl kk hrt
    replace h : s_Law_areFieldsSound_12 (g_Law_areFieldsSound_12 n M v1 v2 v3 q) n M v1 v2 v3 v4 = some out := h
    unfold s_Law_areFieldsSound_12 at h
    have hfu : fu = 500 := rfl
    refine lv_iload hx hb dL_areFieldsSound_12 (lv_at hl 4 rfl) ?_
    refine lv_iload_n hx hb dL_areFieldsSound_14 rfl (lv_at hl 3 rfl) ?_
    obtain ⟨g2, h⟩ := og_some h
    obtain ⟨g3, h⟩ := og_some h
    by_cases c4 : v4 < v3
    · replace h := it_T h c4
      refine i_icmp_ge_F hx hb g2 g3 (tgt := 115) dL_areFieldsSound_15 (by decide) c4 ?_
      refine lv_aload_n hx hb dL_areFieldsSound_18 rfl (lv_at hl 0 rfl) ?_
      refine lv_iload_n hx hb dL_areFieldsSound_19 rfl (lv_at hl 1 rfl) ?_
      refine lv_iload hx hb dL_areFieldsSound_20 (lv_at hl 4 rfl) ?_
      rcases oe_cases h with ⟨w6, h⟩ | ⟨w6, h⟩
      · refine k_catchw (wr := []) [] ⟨18, 27, 30, 99⟩ [] (xun_Vw (rest := []) hx hb hml hown hts hK hP hD hS hA hm (CX_X_field l G D K hl0 H.size ga n M v1 v4 w6) _ (full_C _) (full_n _ List.nodup_range) mok_yX9_field w_848 w_849 w_850 (rcv hK hP 0 go_0 rfl rfl) ⟨Nat.le_of_ble_eq_true rfl, Nat.le_of_ble_eq_true rfl⟩ rfl hl.1 rfl (Nat.le_of_ble_eq_true rfl) dL_areFieldsSound_22 ⟨(by first | omega | (dsimp only at *; omega) | (dsimp only [room_1] at *; omega)), (by first | omega | (dsimp only at *; omega) | (dsimp only [room_1] at *; omega))⟩) hown hts hm hP hD hS hA _ [] (full_C _) rfl rfl (fun _ h9 => nomatch h9) (htab.trans rfl) hp_0 (by decide) (by decide) w_963 w_371 (fun q9 H locs (hP : va_P D cl (wld ga n (K 0) (K 1) M) H) (hD : va_D A (wld ga n (K 0) (K 1) M)) hS => ?_)
        refine x_astore hx hb dL_areFieldsSound_30 hl (by decide) [0, 1, 2, 3, 4] (lv' := [(0, .ref (ga 0)), (1, .int (iI v1)), (2, .int (iI v2)), (3, .int (iI v3)), (4, .int (iI v4))]) rfl (⟨⟨Nat.ne_of_beq_eq_false rfl, Or.inl (Nat.ne_of_beq_eq_false rfl)⟩, ⟨⟨Nat.ne_of_beq_eq_false rfl, Or.inl (Nat.ne_of_beq_eq_false rfl)⟩, ⟨⟨Nat.ne_of_beq_eq_false rfl, Or.inl (Nat.ne_of_beq_eq_false rfl)⟩, ⟨⟨Nat.ne_of_beq_eq_false rfl, Or.inl (Nat.ne_of_beq_eq_false rfl)⟩, ⟨⟨Nat.ne_of_beq_eq_false rfl, Or.inl (Nat.ne_of_beq_eq_false rfl)⟩, trivial⟩⟩⟩⟩⟩) (fun ls hl => ?_)
        refine lv_iload hx hb dL_areFieldsSound_32 (lv_at hl 5 rfl) ?_
        refine lv_iload_n hx hb dL_areFieldsSound_34 rfl (lv_at hl 4 rfl) ?_
        refine lv_iconst (v := iI 1) hx hb dL_areFieldsSound_35 rfl ?_
        refine lv_isub hx hb dL_areFieldsSound_36 ?_
        refine w_toeq (iI_sub v3 1) ?_
        obtain ⟨g7, h⟩ := og_some h
        by_cases c8 : v4 = (v3 - 1)
        · replace h := it_T h c8
          refine i_icmp_ne_F hx hb g2 g7 (tgt := 53) dL_areFieldsSound_37 (by decide) c8 ?_
          refine lv_aload_n hx hb dL_areFieldsSound_40 rfl (lv_at hl 1 rfl) ?_
          refine lv_iload_n hx hb dL_areFieldsSound_41 rfl (lv_at hl 2 rfl) ?_
          refine lv_iconst (v := iI 4) hx hb dL_areFieldsSound_42 rfl ?_
          obtain ⟨x9, ex9, h⟩ := ob_some h
          refine gk_i (run_V (rest := []) hx hb hml hown hts hK hP hD hS hA hm (C_X_ofObject l G D K H.size ga n M v1 4 ex9) _ (full_C _) (full_n _ List.nodup_range) mok_yX9_ofObject w_858 w_859 w_860 (rcv hK hP 0 go_0 rfl rfl) ⟨Nat.le_of_ble_eq_true rfl, Nat.le_of_ble_eq_true rfl⟩ rfl hl.1 rfl (Nat.le_of_ble_eq_true rfl) dL_areFieldsSound_43 ⟨(by first | omega | (dsimp only at *; omega) | (dsimp only [room_1] at *; omega)), (by first | omega | (dsimp only at *; omega) | (dsimp only [room_1] at *; omega))⟩) hP hD hS hA (fun u H locs (hP : va_P D cl (wld ga n (K 0) (K 1) M) H) (hD : va_D A (wld ga n (K 0) (K 1) M)) hS => ?_)
          obtain ⟨g10, h⟩ := og_some h
          by_cases c11 : x9 < 0
          · replace h := it_T h c11
            refine i_if_lt_T hx hb g10 (tgt := 53) dL_areFieldsSound_46 (by decide) c11 ?_
            refine lv_iconst (v := iI 0) hx hb dL_areFieldsSound_53 rfl ?_
            obtain rfl := Option.some.inj h
            obtain rfl := hrt _ rfl
            exact e_z hx hb hr hlk hP hD hS (fun _ => 0) rfl (by first | omega | (dsimp only at *; omega) | (dsimp only [room_1] at *; omega)) (by first | omega | (dsimp only at *; omega) | (dsimp only [room_1] at *; omega)) rfl (b01 (Or.inl rfl)) dL_areFieldsSound_54
          · replace h := it_F h c11
            refine i_if_lt_F hx hb g10 (tgt := 53) dL_areFieldsSound_46 (by decide) c11 ?_
            refine lv_iconst (v := iI 1) hx hb dL_areFieldsSound_49 rfl ?_
            refine lv_goto (tgt := 54) hx hb dL_areFieldsSound_50 (by decide) ?_
            obtain rfl := Option.some.inj h
            obtain rfl := hrt _ rfl
            exact e_z hx hb hr hlk hP hD hS (fun _ => 0) rfl (by first | omega | (dsimp only at *; omega) | (dsimp only [room_1] at *; omega)) (by first | omega | (dsimp only at *; omega) | (dsimp only [room_1] at *; omega)) rfl (b01 (Or.inr rfl)) dL_areFieldsSound_54
        · replace h := it_F h c8
          refine i_icmp_ne_T hx hb g2 g7 (tgt := 53) dL_areFieldsSound_37 (by decide) c8 ?_
          refine lv_iconst (v := iI 0) hx hb dL_areFieldsSound_53 rfl ?_
          obtain rfl := Option.some.inj h
          obtain rfl := hrt _ rfl
          exact e_z hx hb hr hlk hP hD hS (fun _ => 0) rfl (by first | omega | (dsimp only at *; omega) | (dsimp only [room_1] at *; omega)) (by first | omega | (dsimp only at *; omega) | (dsimp only [room_1] at *; omega)) rfl (b01 (Or.inl rfl)) dL_areFieldsSound_54
      · obtain ⟨x12, ex12, h⟩ := ob_some h
        refine gk_i (run_V (rest := []) hx hb hml hown hts hK hP hD hS hA hm (C_X_field l G D K H.size ga n M v1 v4 ex12) _ (full_C _) (full_n _ List.nodup_range) mok_yX9_field w_848 w_849 w_850 (rcv hK hP 0 go_0 rfl rfl) ⟨Nat.le_of_ble_eq_true rfl, Nat.le_of_ble_eq_true rfl⟩ rfl hl.1 rfl (Nat.le_of_ble_eq_true rfl) dL_areFieldsSound_22 ⟨(by first | omega | (dsimp only at *; omega) | (dsimp only [room_1] at *; omega)), (by first | omega | (dsimp only at *; omega) | (dsimp only [room_1] at *; omega))⟩) hP hD hS hA (fun u H locs (hP : va_P D cl (wld ga n (K 0) (K 1) M) H) (hD : va_D A (wld ga n (K 0) (K 1) M)) hS => ?_)
        refine x_istore hx hb dL_areFieldsSound_25 hl (by decide) [0, 1, 2, 3, 4] (lv' := [(0, .ref (ga 0)), (1, .int (iI v1)), (2, .int (iI v2)), (3, .int (iI v3)), (4, .int (iI v4))]) rfl (⟨⟨Nat.ne_of_beq_eq_false rfl, Or.inl (Nat.ne_of_beq_eq_false rfl)⟩, ⟨⟨Nat.ne_of_beq_eq_false rfl, Or.inl (Nat.ne_of_beq_eq_false rfl)⟩, ⟨⟨Nat.ne_of_beq_eq_false rfl, Or.inl (Nat.ne_of_beq_eq_false rfl)⟩, ⟨⟨Nat.ne_of_beq_eq_false rfl, Or.inl (Nat.ne_of_beq_eq_false rfl)⟩, ⟨⟨Nat.ne_of_beq_eq_false rfl, Or.inr rfl⟩, trivial⟩⟩⟩⟩⟩) (fun ls hl => ?_)
        refine lv_goto (tgt := 55) hx hb dL_areFieldsSound_27 (by decide) ?_
        refine lv_iload hx hb dL_areFieldsSound_55 (lv_at hl 0 rfl) ?_
        obtain ⟨g13, h⟩ := og_some h
        by_cases c14 : x12 < 0
        · replace h := it_T h c14
          refine i_if_ge_F hx hb g13 (tgt := 63) dL_areFieldsSound_57 (by decide) c14 ?_
          refine lv_goto (tgt := 109) hx hb dL_areFieldsSound_60 (by decide) ?_
          refine x_iinc (v := iI (v4 + 1)) hx hb dL_areFieldsSound_109 hl (k := 5) rfl (iI_add v4 1) (by decide) [0, 1, 2, 3, 4] (lv' := [(5, .int (iI x12)), (0, .ref (ga 0)), (1, .int (iI v1)), (2, .int (iI v2)), (3, .int (iI v3))]) rfl (⟨⟨Nat.ne_of_beq_eq_false rfl, Or.inl (Nat.ne_of_beq_eq_false rfl)⟩, ⟨⟨Nat.ne_of_beq_eq_false rfl, Or.inl (Nat.ne_of_beq_eq_false rfl)⟩, ⟨⟨Nat.ne_of_beq_eq_false rfl, Or.inl (Nat.ne_of_beq_eq_false rfl)⟩, ⟨⟨Nat.ne_of_beq_eq_false rfl, Or.inl (Nat.ne_of_beq_eq_false rfl)⟩, ⟨⟨Nat.ne_of_beq_eq_false rfl, Or.inr rfl⟩, trivial⟩⟩⟩⟩⟩) (fun ls hl => ?_)
          refine lv_goto (tgt := 12) hx hb dL_areFieldsSound_112 (by decide) ?_
          exact ih (v4 + 1) _ h _ _ (by first | omega | (dsimp only at *; omega) | (dsimp only [room_1] at *; omega)) (by first | omega | (dsimp only at *; omega) | (dsimp only [room_1] at *; omega)) _ _ _ hP hD hS (lv_pk hl [2, 3, 4, 5, 0] rfl) (fun y7 t7 cs2 sl2 h7 h8 => kk y7 t7 cs2 sl2 (by first | (dsimp only at h7; omega) | omega | (dsimp only at *; omega)) (by first | (dsimp only at h8; omega) | omega | (dsimp only at *; omega))) hrt
        · replace h := it_F h c14
          refine i_if_ge_T hx hb g13 (tgt := 63) dL_areFieldsSound_57 (by decide) c14 ?_
          refine lv_aload_n hx hb dL_areFieldsSound_63 rfl (lv_at hl 1 rfl) ?_
          refine lv_iload hx hb dL_areFieldsSound_64 (lv_at hl 0 rfl) ?_
          refine lv_iconst (v := iI 0) hx hb dL_areFieldsSound_66 rfl ?_
          obtain ⟨x15, ex15, h⟩ := ob_some h
          refine gk_i (run_V (rest := []) hx hb hml hown hts hK hP hD hS hA hm (C_X_ofObject l G D K H.size ga n M x12 0 ex15) _ (full_C _) (full_n _ List.nodup_range) mok_yX9_ofObject w_858 w_859 w_860 (rcv hK hP 0 go_0 rfl rfl) ⟨Nat.le_of_ble_eq_true rfl, Nat.le_of_ble_eq_true rfl⟩ rfl hl.1 rfl (Nat.le_of_ble_eq_true rfl) dL_areFieldsSound_67 ⟨(by first | omega | (dsimp only at *; omega) | (dsimp only [room_1] at *; omega)), (by first | omega | (dsimp only at *; omega) | (dsimp only [room_1] at *; omega))⟩) hP hD hS hA (fun u H locs (hP : va_P D cl (wld ga n (K 0) (K 1) M) H) (hD : va_D A (wld ga n (K 0) (K 1) M)) hS => ?_)
          refine x_istore hx hb dL_areFieldsSound_70 hl (by decide) [0, 1, 2, 3, 4, 5] (lv' := [(5, .int (iI x12)), (0, .ref (ga 0)), (1, .int (iI v1)), (2, .int (iI v2)), (3, .int (iI v3)), (4, .int (iI v4))]) rfl (⟨⟨Nat.ne_of_beq_eq_false rfl, Or.inr rfl⟩, ⟨⟨Nat.ne_of_beq_eq_false rfl, Or.inl (Nat.ne_of_beq_eq_false rfl)⟩, ⟨⟨Nat.ne_of_beq_eq_false rfl, Or.inl (Nat.ne_of_beq_eq_false rfl)⟩, ⟨⟨Nat.ne_of_beq_eq_false rfl, Or.inl (Nat.ne_of_beq_eq_false rfl)⟩, ⟨⟨Nat.ne_of_beq_eq_false rfl, Or.inl (Nat.ne_of_beq_eq_false rfl)⟩, ⟨⟨Nat.ne_of_beq_eq_false rfl, Or.inl (Nat.ne_of_beq_eq_false rfl)⟩, trivial⟩⟩⟩⟩⟩⟩) (fun ls hl => ?_)
          refine lv_iload hx hb dL_areFieldsSound_72 (lv_at hl 0 rfl) ?_
          obtain ⟨g16, h⟩ := og_some h
          by_cases c17 : x15 = 0
          · replace h := it_T h c17
            refine i_if_eq_T hx hb g16 (tgt := 107) dL_areFieldsSound_74 (by decide) c17 ?_
            refine lv_iconst (v := iI 0) hx hb dL_areFieldsSound_107 rfl ?_
            obtain rfl := Option.some.inj h
            obtain rfl := hrt _ rfl
            exact e_z hx hb hr hlk hP hD hS (fun _ => 0) rfl (by first | omega | (dsimp only at *; omega) | (dsimp only [room_1] at *; omega)) (by first | omega | (dsimp only at *; omega) | (dsimp only [room_1] at *; omega)) rfl (b01 (Or.inl rfl)) dL_areFieldsSound_108
          · replace h := it_F h c17
            refine i_if_eq_F hx hb g16 (tgt := 107) dL_areFieldsSound_74 (by decide) c17 ?_
            refine lv_iload_n hx hb dL_areFieldsSound_77 rfl (lv_at hl 4 rfl) ?_
            refine lv_iconst (v := iI 1) hx hb dL_areFieldsSound_78 rfl ?_
            obtain ⟨g18, h⟩ := og_some h
            by_cases c19 : 1 < v2
            · replace h := it_T h c19
              refine i_icmp_le_F hx hb g18 ⟨by decide, by decide⟩ (tgt := 109) dL_areFieldsSound_79 (by decide) c19 ?_
              refine lv_iload hx hb dL_areFieldsSound_82 (lv_at hl 0 rfl) ?_
              refine lv_iconst (v := iI 1) hx hb dL_areFieldsSound_84 rfl ?_
              by_cases c20 : x15 = 1
              · replace h := it_T h c20
                refine i_icmp_ne_F hx hb g16 ⟨by decide, by decide⟩ (tgt := 109) dL_areFieldsSound_85 (by decide) c20 ?_
                refine lv_aload_n hx hb dL_areFieldsSound_88 rfl (lv_at hl 2 rfl) ?_
                refine lv_aload_n hx hb dL_areFieldsSound_89 rfl (lv_at hl 2 rfl) ?_
                refine lv_iload_n hx hb dL_areFieldsSound_90 rfl (lv_at hl 3 rfl) ?_
                refine lv_iconst (v := iI 1) hx hb dL_areFieldsSound_91 rfl ?_
                obtain ⟨x21, ex21, h⟩ := ob_some h
                refine gk_i (run_V (rest := [.ref (ga 0)]) hx hb hml hown hts hK hP hD hS hA hm (C_X_ofObject l G D K H.size ga n M v1 1 ex21) _ (full_C _) (full_n _ List.nodup_range) mok_yX9_ofObject w_858 w_859 w_860 (rcv hK hP 0 go_0 rfl rfl) ⟨Nat.le_of_ble_eq_true rfl, Nat.le_of_ble_eq_true rfl⟩ rfl hl.1 rfl (Nat.le_of_ble_eq_true rfl) dL_areFieldsSound_92 ⟨(by first | omega | (dsimp only at *; omega) | (dsimp only [room_1] at *; omega)), (by first | omega | (dsimp only at *; omega) | (dsimp only [room_1] at *; omega))⟩) hP hD hS hA (fun u H locs (hP : va_P D cl (wld ga n (K 0) (K 1) M) H) (hD : va_D A (wld ga n (K 0) (K 1) M)) hS => ?_)
                refine lv_bipush (v := iI 100) hx hb dL_areFieldsSound_95 rfl ?_
                refine lv_isub hx hb dL_areFieldsSound_97 ?_
                refine w_toeq (iI_sub x21 100) ?_
                refine lv_bipush (v := iI 16) hx hb dL_areFieldsSound_98 rfl ?_
                obtain ⟨g22, h⟩ := og_some h
                refine lv_idiv hx hb dL_areFieldsSound_100 (iI_ne0 ⟨by decide, by decide⟩ (by decide)) ?_
                refine w_toeq (iI_div g22 ⟨by decide, by decide⟩ (by decide)) ?_
                obtain ⟨x23, ex23, h⟩ := ob_some h
                refine gk_i (run_V (rest := []) hx hb hml hown hts hK hP hD hS hA hm (C_X_isDirty l G D K H.size ga n M (Int.tdiv (x21 - 100) 16) ex23) _ (full_C _) (full_n _ List.nodup_range) mok_yX9_isDirty w_964 w_965 w_966 (rcv hK hP 0 go_0 rfl rfl) ⟨Nat.le_of_ble_eq_true rfl, Nat.le_of_ble_eq_true rfl⟩ rfl hl.1 rfl (Nat.le_of_ble_eq_true rfl) dL_areFieldsSound_101 ⟨(by first | omega | (dsimp only at *; omega) | (dsimp only [room_1] at *; omega)), (by first | omega | (dsimp only at *; omega) | (dsimp only [room_1] at *; omega))⟩) hP hD hS hA (fun u H locs (hP : va_P D cl (wld ga n (K 0) (K 1) M) H) (hD : va_D A (wld ga n (K 0) (K 1) M)) hS => ?_)
                obtain ⟨g24, h⟩ := og_some h
                by_cases c25 : x23 = 0
                · replace h := it_T h c25
                  refine i_if_ne_F hx hb g24 (tgt := 109) dL_areFieldsSound_104 (by decide) c25 ?_
                  refine lv_iconst (v := iI 0) hx hb dL_areFieldsSound_107 rfl ?_
                  obtain rfl := Option.some.inj h
                  obtain rfl := hrt _ rfl
                  exact e_z hx hb hr hlk hP hD hS (fun _ => 0) rfl (by first | omega | (dsimp only at *; omega) | (dsimp only [room_1] at *; omega)) (by first | omega | (dsimp only at *; omega) | (dsimp only [room_1] at *; omega)) rfl (b01 (Or.inl rfl)) dL_areFieldsSound_108
                · replace h := it_F h c25
                  refine i_if_ne_T hx hb g24 (tgt := 109) dL_areFieldsSound_104 (by decide) c25 ?_
                  refine x_iinc (v := iI (v4 + 1)) hx hb dL_areFieldsSound_109 hl (k := 6) rfl (iI_add v4 1) (by decide) [0, 1, 2, 3, 4, 5] (lv' := [(6, .int (iI x15)), (5, .int (iI x12)), (0, .ref (ga 0)), (1, .int (iI v1)), (2, .int (iI v2)), (3, .int (iI v3))]) rfl (⟨⟨Nat.ne_of_beq_eq_false rfl, Or.inl (Nat.ne_of_beq_eq_false rfl)⟩, ⟨⟨Nat.ne_of_beq_eq_false rfl, Or.inl (Nat.ne_of_beq_eq_false rfl)⟩, ⟨⟨Nat.ne_of_beq_eq_false rfl, Or.inl (Nat.ne_of_beq_eq_false rfl)⟩, ⟨⟨Nat.ne_of_beq_eq_false rfl, Or.inl (Nat.ne_of_beq_eq_false rfl)⟩, ⟨⟨Nat.ne_of_beq_eq_false rfl, Or.inl (Nat.ne_of_beq_eq_false rfl)⟩, ⟨⟨Nat.ne_of_beq_eq_false rfl, Or.inr rfl⟩, trivial⟩⟩⟩⟩⟩⟩) (fun ls hl => ?_)
                  refine lv_goto (tgt := 12) hx hb dL_areFieldsSound_112 (by decide) ?_
                  exact ih (v4 + 1) _ h _ _ (by first | omega | (dsimp only at *; omega) | (dsimp only [room_1] at *; omega)) (by first | omega | (dsimp only at *; omega) | (dsimp only [room_1] at *; omega)) _ _ _ hP hD hS (lv_pk hl [3, 4, 5, 6, 0] rfl) (fun y7 t7 cs2 sl2 h7 h8 => kk y7 t7 cs2 sl2 (by first | (dsimp only at h7; omega) | omega | (dsimp only at *; omega)) (by first | (dsimp only at h8; omega) | omega | (dsimp only at *; omega))) hrt
              · replace h := it_F h c20
                refine i_icmp_ne_T hx hb g16 ⟨by decide, by decide⟩ (tgt := 109) dL_areFieldsSound_85 (by decide) c20 ?_
                refine x_iinc (v := iI (v4 + 1)) hx hb dL_areFieldsSound_109 hl (k := 6) rfl (iI_add v4 1) (by decide) [0, 1, 2, 3, 4, 5] (lv' := [(6, .int (iI x15)), (5, .int (iI x12)), (0, .ref (ga 0)), (1, .int (iI v1)), (2, .int (iI v2)), (3, .int (iI v3))]) rfl (⟨⟨Nat.ne_of_beq_eq_false rfl, Or.inl (Nat.ne_of_beq_eq_false rfl)⟩, ⟨⟨Nat.ne_of_beq_eq_false rfl, Or.inl (Nat.ne_of_beq_eq_false rfl)⟩, ⟨⟨Nat.ne_of_beq_eq_false rfl, Or.inl (Nat.ne_of_beq_eq_false rfl)⟩, ⟨⟨Nat.ne_of_beq_eq_false rfl, Or.inl (Nat.ne_of_beq_eq_false rfl)⟩, ⟨⟨Nat.ne_of_beq_eq_false rfl, Or.inl (Nat.ne_of_beq_eq_false rfl)⟩, ⟨⟨Nat.ne_of_beq_eq_false rfl, Or.inr rfl⟩, trivial⟩⟩⟩⟩⟩⟩) (fun ls hl => ?_)
                refine lv_goto (tgt := 12) hx hb dL_areFieldsSound_112 (by decide) ?_
                exact ih (v4 + 1) _ h _ _ (by first | omega | (dsimp only at *; omega) | (dsimp only [room_1] at *; omega)) (by first | omega | (dsimp only at *; omega) | (dsimp only [room_1] at *; omega)) _ _ _ hP hD hS (lv_pk hl [3, 4, 5, 6, 0] rfl) (fun y7 t7 cs2 sl2 h7 h8 => kk y7 t7 cs2 sl2 (by first | (dsimp only at h7; omega) | omega | (dsimp only at *; omega)) (by first | (dsimp only at h8; omega) | omega | (dsimp only at *; omega))) hrt
            · replace h := it_F h c19
              refine i_icmp_le_T hx hb g18 ⟨by decide, by decide⟩ (tgt := 109) dL_areFieldsSound_79 (by decide) c19 ?_
              refine x_iinc (v := iI (v4 + 1)) hx hb dL_areFieldsSound_109 hl (k := 6) rfl (iI_add v4 1) (by decide) [0, 1, 2, 3, 4, 5] (lv' := [(6, .int (iI x15)), (5, .int (iI x12)), (0, .ref (ga 0)), (1, .int (iI v1)), (2, .int (iI v2)), (3, .int (iI v3))]) rfl (⟨⟨Nat.ne_of_beq_eq_false rfl, Or.inl (Nat.ne_of_beq_eq_false rfl)⟩, ⟨⟨Nat.ne_of_beq_eq_false rfl, Or.inl (Nat.ne_of_beq_eq_false rfl)⟩, ⟨⟨Nat.ne_of_beq_eq_false rfl, Or.inl (Nat.ne_of_beq_eq_false rfl)⟩, ⟨⟨Nat.ne_of_beq_eq_false rfl, Or.inl (Nat.ne_of_beq_eq_false rfl)⟩, ⟨⟨Nat.ne_of_beq_eq_false rfl, Or.inl (Nat.ne_of_beq_eq_false rfl)⟩, ⟨⟨Nat.ne_of_beq_eq_false rfl, Or.inr rfl⟩, trivial⟩⟩⟩⟩⟩⟩) (fun ls hl => ?_)
              refine lv_goto (tgt := 12) hx hb dL_areFieldsSound_112 (by decide) ?_
              exact ih (v4 + 1) _ h _ _ (by first | omega | (dsimp only at *; omega) | (dsimp only [room_1] at *; omega)) (by first | omega | (dsimp only at *; omega) | (dsimp only [room_1] at *; omega)) _ _ _ hP hD hS (lv_pk hl [3, 4, 5, 6, 0] rfl) (fun y7 t7 cs2 sl2 h7 h8 => kk y7 t7 cs2 sl2 (by first | (dsimp only at h7; omega) | omega | (dsimp only at *; omega)) (by first | (dsimp only at h8; omega) | omega | (dsimp only at *; omega))) hrt
    · replace h := it_F h c4
      refine i_icmp_ge_T hx hb g2 g3 (tgt := 115) dL_areFieldsSound_15 (by decide) c4 ?_
      obtain rfl := Option.some.inj h
      exact kk _ rfl _ _ (by first | omega | (dsimp only at *; omega) | (dsimp only [room_1] at *; omega)) (by first | omega | (dsimp only at *; omega) | (dsimp only [room_1] at *; omega)) _ _ _ hP hD hS (lv_pk hl [] rfl)
def f_Law_areFieldsSound (n : Nat) (M : cSt) (a1 : Int) (a2 : Int) : Option (Int) := ob (f_X_ofObject n M a1 2) (fun x1 => ob (g_Law_areFieldsSound_12 n M a1 a2 (x1 - 2) fu 0) (fun x26 => os x26 (fun y26 => some 1)))
set_option maxHeartbeats 4000000 in
set_option maxRecDepth 100000 in
theorem C_Law_areFieldsSound (l : Launch) (G : Nat → Nat) (D : va_G) (K : Nat → ClassId) (hl0 : l.stackTraces = false) (sz : Nat) (ga : Nat → Nat) (n : Nat) (M : cSt) (a1 : Int) (a2 : Int) {x : Int} (h : f_Law_areFieldsSound n M a1 a2 = some x) : CMH l yL_areFieldsSound cL_areFieldsSound 7 (some FieldType.boolean) [(18, 27, 30, 99)] ({ frames := 8, cells := 1, slots := 6, locals := 220 } : Room) G D K [.ref (ga 0), .int (iI a1), .int (iI a2)] (wld ga n (K 0) (K 1) M) sz (CQi (iI x) D (fun _ => wld ga n (K 0) (K 1) M)) := by
  refine CMH_of (lv0 := [(0, .ref (ga 0)), (1, .int (iI a1)), (2, .int (iI a2))]) pn_RL (Nat.le_of_ble_eq_true rfl) rfl (fun p e s m args below meth c A ls hx hb hr htab hml hown hts hlk hnm hP hK hD hS hA hm hl => ?_)
  have hown : s.vm.findClass RL = some m.cls := hown
  unfold f_Law_areFieldsSound at h
  have hfu : fu = 500 := rfl
  refine lv_aload_n hx hb dL_areFieldsSound_0 rfl (lv_at hl 0 rfl) ?_
  refine lv_iload_n hx hb dL_areFieldsSound_1 rfl (lv_at hl 1 rfl) ?_
  refine lv_iconst (v := iI 2) hx hb dL_areFieldsSound_2 rfl ?_
  obtain ⟨x1, ex1, h⟩ := ob_some h
  refine gk_i (run_V (rest := []) hx hb hml hown hts hK hP hD hS hA hm (C_X_ofObject l G D K s.heap.size ga n M a1 2 ex1) _ (full_C _) (full_n _ List.nodup_range) mok_yX9_ofObject w_858 w_859 w_860 (rcv hK hP 0 go_0 rfl rfl) ⟨Nat.le_of_ble_eq_true rfl, Nat.le_of_ble_eq_true rfl⟩ rfl hl.1 rfl (Nat.le_of_ble_eq_true rfl) dL_areFieldsSound_3 ⟨(by first | omega | (dsimp only at *; omega) | (dsimp only [room_1] at *; omega)), (by first | omega | (dsimp only at *; omega) | (dsimp only [room_1] at *; omega))⟩) hP hD hS hA (fun u H locs (hP : va_P D cl (wld ga n (K 0) (K 1) M) H) (hD : va_D A (wld ga n (K 0) (K 1) M)) hS => ?_)
  refine lv_iconst (v := iI 2) hx hb dL_areFieldsSound_6 rfl ?_
  refine lv_isub hx hb dL_areFieldsSound_7 ?_
  refine w_toeq (iI_sub x1 2) ?_
  refine x_istore_n hx hb dL_areFieldsSound_8 rfl hl (by decide) [0, 1, 2] (lv' := [(0, .ref (ga 0)), (1, .int (iI a1)), (2, .int (iI a2))]) rfl (⟨⟨Nat.ne_of_beq_eq_false rfl, Or.inl (Nat.ne_of_beq_eq_false rfl)⟩, ⟨⟨Nat.ne_of_beq_eq_false rfl, Or.inl (Nat.ne_of_beq_eq_false rfl)⟩, ⟨⟨Nat.ne_of_beq_eq_false rfl, Or.inr rfl⟩, trivial⟩⟩⟩) (fun ls hl => ?_)
  refine lv_iconst (v := iI 0) hx hb dL_areFieldsSound_9 rfl ?_
  refine x_istore hx hb dL_areFieldsSound_10 hl (by decide) [0, 1, 2, 3] (lv' := [(3, .int (iI (x1 - 2))), (0, .ref (ga 0)), (1, .int (iI a1)), (2, .int (iI a2))]) rfl (⟨⟨Nat.ne_of_beq_eq_false rfl, Or.inr rfl⟩, ⟨⟨Nat.ne_of_beq_eq_false rfl, Or.inl (Nat.ne_of_beq_eq_false rfl)⟩, ⟨⟨Nat.ne_of_beq_eq_false rfl, Or.inl (Nat.ne_of_beq_eq_false rfl)⟩, ⟨⟨Nat.ne_of_beq_eq_false rfl, Or.inl (Nat.ne_of_beq_eq_false rfl)⟩, trivial⟩⟩⟩⟩) (fun ls hl => ?_)
  obtain ⟨x26, ex26, h⟩ := ob_some h
  refine L_Law_areFieldsSound_12 hx hb hr hml hown hts hlk hK hA hm hl0 htab ga n M a1 a2 (x1 - 2)  fu 0 _ ex26 _ _ (by first | omega | (dsimp only at *; omega) | (dsimp only [room_1] at *; omega)) (by first | omega | (dsimp only at *; omega) | (dsimp only [room_1] at *; omega)) _ _ _ hP hD hS (lv_pk hl [2, 3, 4, 1, 0] rfl) (fun y26 ty26 cs26 sl26 hcs26 hsl26 ls H locs (hP : va_P D cl (wld ga n (K 0) (K 1) M) H) (hD : va_D A (wld ga n (K 0) (K 1) M)) hS (hl : lv_has ls 7 []) => ?_) (fun y26 ty26 => os_r h ty26)
  replace h := os_l h ty26
  refine lv_iconst (v := iI 1) hx hb dL_areFieldsSound_115 rfl ?_
  obtain rfl := Option.some.inj h
  exact e_z hx hb hr hlk hP hD hS (fun _ => 0) rfl (by first | omega | (dsimp only at *; omega) | (dsimp only [room_1] at *; omega)) (by first | omega | (dsimp only at *; omega) | (dsimp only [room_1] at *; omega)) rfl (b01 (Or.inr rfl)) dL_areFieldsSound_116
def s_Law_isFull_16 (rec : cSt → Int → (Nat → Int) → (Nat → Int) → Option (cSt × (Nat → Int) × (Nat → Int))) (n : Nat) (v1 : Int) (nx0 : Nat) (nx1 : Nat) (M : cSt) (v4 : Int) (fx1 : (Nat → Int)) (fx0 : (Nat → Int)) : Option (cSt × (Nat → Int) × (Nat → Int)) := og (nx1 < 2147483648) (og (inR v4) (og (inR (nx1 : Int)) (if v4 < (nx1 : Int) then ob (f_X_ofObject n M v4 2) (fun x11 => og (0 ≤ v4 ∧ v4 < (nx1 : Int)) (ob (f_X_isReachable n M v4) (fun x13 => og (nx0 < 2147483648) (og (0 ≤ v4 ∧ v4 < (nx0 : Int)) (og (x13.2 = 0 ∨ x13.2 = 1) (rec x13.1 (v4 + 1) (va_up fx1 (v4.toNat) x11) (va_up fx0 (v4.toNat) x13.2))))))) else some (M, fx1, fx0))))
def g_Law_isFull_16 (n : Nat) (v1 : Int) (nx0 : Nat) (nx1 : Nat) : Nat → cSt → Int → (Nat → Int) → (Nat → Int) → Option (cSt × (Nat → Int) × (Nat → Int))
  | 0 => fun _ _ _ _ => none
  | q + 1 => s_Law_isFull_16 (g_Law_isFull_16 n v1 nx0 nx1 q) n v1 nx0 nx1
set_option maxHeartbeats 4000000 in
set_option maxRecDepth 100000 in
theorem L_Law_isFull_16 {p : Program} {l : Launch} {G : Nat → Nat} {D : va_G} {K : Nat → ClassId} {e : Env} {s : State} {m : MethodId} {args : Array Value} {below : List Frame} {meth : Method} {c : Code} {A : Nat → Prop} (hx : p.tables.exec = Jvm.exec) (hb : c.code = cL_isFull) (hr : meth.sig.returnType = (some FieldType.boolean)) (hml : c.maxLocals = 7) (hown : s.vm.findClass RL = some m.cls) (hts : ∀ w ∈ lw_gw, w.before args s = true) (hlk : meth.locks = false) (hK : va_K D cl (tys K) s) (hA : ∀ q : Nat, s.heap.size ≤ q → A q) (hm : Amb G A s s.heap) {Q : State → Prop} (ga : Nat → Nat) (n : Nat) (v1 : Int) (nx0 : Nat) (bx0 : Nat) (nx1 : Nat) (bx1 : Nat) : ∀ (q : Nat) (M : cSt) (v4 : Int) (fx1 : (Nat → Int)) (fx0 : (Nat → Int)) (out : cSt × (Nat → Int) × (Nat → Int)), g_Law_isFull_16 n v1 nx0 nx1 q M v4 fx1 fx0 = some out → ∀ (cs sl : Nat), cs + q * 0 + 0 ≤ 2 → sl + q * 0 + 0 ≤ 400 → ∀ (ls : Array Slot) (H : Heap) (locs : List Loc), va_P D cl ((bx0, .inl (K 1, nx0, .inl (ci fx0))) :: (bx1, .inl (K 2, nx1, .inl (ci fx1))) :: wld ga n (K 0) (K 1) M) H → va_D A ((bx0, .inl (K 1, nx0, .inl (ci fx0))) :: (bx1, .inl (K 2, nx1, .inl (ci fx1))) :: wld ga n (K 0) (K 1) M) → va_S A s.heap H locs → lv_has ls 7 [(0, .ref (ga 0)), (1, .int (iI v1)), (2, .ref bx1), (3, .ref bx0), (4, .int (iI v4))] → (∀ (cs2 sl2 : Nat), cs2 ≤ cs + q * 0 → sl2 ≤ sl + q * 0 → ∀ (ls : Array Slot) (H : Heap) (locs : List Loc), va_P D cl ((bx0, .inl (K 1, nx0, .inl (ci out.2.2))) :: (bx1, .inl (K 2, nx1, .inl (ci out.2.1))) :: wld ga n (K 0) (K 1) out.1) H → va_D A ((bx0, .inl (K 1, nx0, .inl (ci out.2.2))) :: (bx1, .inl (K 2, nx1, .inl (ci out.2.1))) :: wld ga n (K 0) (K 1) out.1) → va_S A s.heap H locs → lv_has ls 7 [(0, .ref (ga 0)), (1, .int (iI v1)), (2, .ref bx1), (3, .ref bx0)] → W p l e ({ frames := 6, cells := 2, slots := 400, locals := 133 } : Room) s m args below meth c H locs cs2 sl2 Q (F0 m 50 ls [])) → W p l e ({ frames := 6, cells := 2, slots := 400, locals := 133 } : Room) s m args below meth c H locs cs sl Q (F0 m 16 ls []) := by
  intro q
  induction q with
  | zero =>
    intro M v4 fx1 fx0 out h
    cases (show none = some out from h)
  | succ q ih =>
    intro M v4 fx1 fx0 out h cs sl hcs hsl ls H locs hP hD hS hl kk
    replace h : s_Law_isFull_16 (g_Law_isFull_16 n v1 nx0 nx1 q) n v1 nx0 nx1 M v4 fx1 fx0 = some out := h
    unfold s_Law_isFull_16 at h
    have hfu : fu = 500 := rfl
    refine lv_iload hx hb dL_isFull_16 (lv_at hl 4 rfl) ?_
    refine lv_aload_n hx hb dL_isFull_18 rfl (lv_at hl 2 rfl) ?_
    obtain ⟨g7, h⟩ := og_some h
    refine i_alen hx hb 1 2 hK hP rfl rfl rfl g7 dL_isFull_19 ?_
    obtain ⟨g8, h⟩ := og_some h
    obtain ⟨g9, h⟩ := og_some h
    by_cases c10 : v4 < (nx1 : Int)
    · replace h := it_T h c10
      refine i_icmp_ge_F hx hb g8 g9 (tgt := 50) dL_isFull_20 (by decide) c10 ?_
      refine lv_aload_n hx hb dL_isFull_23 rfl (lv_at hl 2 rfl) ?_
      refine lv_iload hx hb dL_isFull_24 (lv_at hl 4 rfl) ?_
      refine lv_aload_n hx hb dL_isFull_26 rfl (lv_at hl 0 rfl) ?_
      refine lv_iload hx hb dL_isFull_27 (lv_at hl 4 rfl) ?_
      refine lv_iconst (v := iI 2) hx hb dL_isFull_29 rfl ?_
      obtain ⟨x11, ex11, h⟩ := ob_some h
      refine gx_i [(bx0, .inl (K 1, nx0, .inl (ci fx0))), (bx1, .inl (K 2, nx1, .inl (ci fx1)))] [] [(bx0, .inl (K 1, nx0, .inl (ci fx0))), (bx1, .inl (K 2, nx1, .inl (ci fx1)))] [] [0, 1] 2 rfl rfl rfl (by decide) (by decide) (by decide) (by decide) (run_V (rest := [.int (iI v4), .ref bx1]) hx hb hml hown hts hK hP hD hS hA hm (C_X_ofObject l G D K H.size ga n M v4 2 ex11) (axI [] 2 _) (ax_C (X := [(bx0, .inl (K 1, nx0, .inl (ci fx0))), (bx1, .inl (K 2, nx1, .inl (ci fx1)))]) (Y := []) rfl rfl (by decide)) (ax_n (by decide) (by decide)) mok_yX9_ofObject w_858 w_859 w_860 (rcv hK hP 2 (sk (sk go_0)) rfl rfl) ⟨Nat.le_of_ble_eq_true rfl, Nat.le_of_ble_eq_true rfl⟩ rfl hl.1 rfl (Nat.le_of_ble_eq_true rfl) dL_isFull_30 ⟨(by first | omega | (dsimp only at *; omega) | (dsimp only [room_1] at *; omega)), (by first | omega | (dsimp only at *; omega) | (dsimp only [room_1] at *; omega))⟩) hP hD hS hA (fun u H locs (hP : va_P D cl ((bx0, .inl (K 1, nx0, .inl (ci fx0))) :: (bx1, .inl (K 2, nx1, .inl (ci fx1))) :: wld ga n (K 0) (K 1) M) H) (hD : va_D A ((bx0, .inl (K 1, nx0, .inl (ci fx0))) :: (bx1, .inl (K 2, nx1, .inl (ci fx1))) :: wld ga n (K 0) (K 1) M)) hS => ?_)
      obtain ⟨g12, h⟩ := og_some h
      refine l_iast hx hb 1 (ws' := (bx0, .inl (K 1, nx0, .inl (ci fx0))) :: (bx1, .inl (K 2, nx1, .inl (ci (va_up fx1 (v4.toNat) x11)))) :: wld ga n (K 0) (K 1) M) hK hP hD hS (f := fx1) rfl g12.1 g12.2 g7 dL_isFull_33 rfl (fun H locs hP hD hS => ?_)
      refine lv_aload_n hx hb dL_isFull_34 rfl (lv_at hl 3 rfl) ?_
      refine lv_iload hx hb dL_isFull_35 (lv_at hl 4 rfl) ?_
      refine lv_aload_n hx hb dL_isFull_37 rfl (lv_at hl 0 rfl) ?_
      refine lv_iload hx hb dL_isFull_38 (lv_at hl 4 rfl) ?_
      obtain ⟨x13, ex13, h⟩ := ob_some h
      refine gx_i [(bx0, .inl (K 1, nx0, .inl (ci fx0))), (bx1, .inl (K 2, nx1, .inl (ci (va_up fx1 (v4.toNat) x11))))] [] [(bx0, .inl (K 1, nx0, .inl (ci fx0))), (bx1, .inl (K 2, nx1, .inl (ci (va_up fx1 (v4.toNat) x11))))] [] [0, 1] 2 rfl rfl rfl (by decide) (by decide) (by decide) (by decide) (run_V (rest := [.int (iI v4), .ref bx0]) hx hb hml hown hts hK hP hD hS hA hm (C_X_isReachable l G D K H.size ga n M v4 ex13) (axI [] 2 _) (ax_C (X := [(bx0, .inl (K 1, nx0, .inl (ci fx0))), (bx1, .inl (K 2, nx1, .inl (ci (va_up fx1 (v4.toNat) x11))))]) (Y := []) rfl rfl (by decide)) (ax_n (by decide) (by decide)) mok_yX9_isReachable w_891 w_892 w_893 (rcv hK hP 2 (sk (sk go_0)) rfl rfl) ⟨Nat.le_of_ble_eq_true rfl, Nat.le_of_ble_eq_true rfl⟩ rfl hl.1 rfl (Nat.le_of_ble_eq_true rfl) dL_isFull_40 ⟨(by first | omega | (dsimp only at *; omega) | (dsimp only [room_1] at *; omega)), (by first | omega | (dsimp only at *; omega) | (dsimp only [room_1] at *; omega))⟩) hP hD hS hA (fun u H locs (hP : va_P D cl ((bx0, .inl (K 1, nx0, .inl (ci fx0))) :: (bx1, .inl (K 2, nx1, .inl (ci (va_up fx1 (v4.toNat) x11)))) :: wld ga n (K 0) (K 1) x13.1) H) (hD : va_D A ((bx0, .inl (K 1, nx0, .inl (ci fx0))) :: (bx1, .inl (K 2, nx1, .inl (ci (va_up fx1 (v4.toNat) x11)))) :: wld ga n (K 0) (K 1) x13.1)) hS => ?_)
      obtain ⟨g14, h⟩ := og_some h
      obtain ⟨g15, h⟩ := og_some h
      obtain ⟨g16, h⟩ := og_some h
      refine l_zast hx hb 0 (ws' := (bx0, .inl (K 1, nx0, .inl (ci (va_up fx0 (v4.toNat) x13.2)))) :: (bx1, .inl (K 2, nx1, .inl (ci (va_up fx1 (v4.toNat) x11)))) :: wld ga n (K 0) (K 1) x13.1) hK hP hD hS (f := fx0) rfl g15.1 g15.2 g14 g16 dL_isFull_43 rfl (fun H locs hP hD hS => ?_)
      refine x_iinc (v := iI (v4 + 1)) hx hb dL_isFull_44 hl (k := 4) rfl (iI_add v4 1) (by decide) [0, 1, 2, 3] (lv' := [(0, .ref (ga 0)), (1, .int (iI v1)), (2, .ref bx1), (3, .ref bx0)]) rfl (⟨⟨Nat.ne_of_beq_eq_false rfl, Or.inl (Nat.ne_of_beq_eq_false rfl)⟩, ⟨⟨Nat.ne_of_beq_eq_false rfl, Or.inl (Nat.ne_of_beq_eq_false rfl)⟩, ⟨⟨Nat.ne_of_beq_eq_false rfl, Or.inl (Nat.ne_of_beq_eq_false rfl)⟩, ⟨⟨Nat.ne_of_beq_eq_false rfl, Or.inr rfl⟩, trivial⟩⟩⟩⟩) (fun ls hl => ?_)
      refine lv_goto (tgt := 16) hx hb dL_isFull_47 (by decide) ?_
      exact ih x13.1 (v4 + 1) (va_up fx1 (v4.toNat) x11) (va_up fx0 (v4.toNat) x13.2) _ h _ _ (by first | omega | (dsimp only at *; omega) | (dsimp only [room_1] at *; omega)) (by first | omega | (dsimp only at *; omega) | (dsimp only [room_1] at *; omega)) _ _ _ hP hD hS (lv_pk hl [1, 2, 3, 4, 0] rfl) (fun cs2 sl2 h7 h8 => kk cs2 sl2 (by first | (dsimp only at h7; omega) | omega | (dsimp only at *; omega)) (by first | (dsimp only at h8; omega) | omega | (dsimp only at *; omega)))
    · replace h := it_F h c10
      refine i_icmp_ge_T hx hb g8 g9 (tgt := 50) dL_isFull_20 (by decide) c10 ?_
      obtain rfl := Option.some.inj h
      exact kk _ _ (by first | omega | (dsimp only at *; omega) | (dsimp only [room_1] at *; omega)) (by first | omega | (dsimp only at *; omega) | (dsimp only [room_1] at *; omega)) _ _ _ hP hD hS (lv_pk hl [0, 1, 2, 3] rfl)
def s_Law_isFull_103 (rec : Int → Option ((Unit) ⊕ (cSt × Int))) (n : Nat) (M : cSt) (v1 : Int) (nx0 : Nat) (fx0 : Nat → Int) (nx1 : Nat) (fx1 : Nat → Int) (v6 : Int) : Option ((Unit) ⊕ (cSt × Int)) := og (nx1 < 2147483648) (og (inR v6) (og (inR (nx1 : Int)) (if v6 < (nx1 : Int) then og (inR v1) (if v1 = 0 then rec (v6 + 1) else og (nx0 < 2147483648) (og (0 ≤ v6 ∧ v6 < (nx0 : Int)) (og (inR (fx0 (v6.toNat))) (if fx0 (v6.toNat) = 0 then rec (v6 + 1) else ob (f_X_ofObject n M v6 0) (fun x42 => og (inR x42) (if x42 = 0 then some (.inr (M, 0)) else rec (v6 + 1))))))) else some (.inl ()))))
def g_Law_isFull_103 (n : Nat) (M : cSt) (v1 : Int) (nx0 : Nat) (fx0 : Nat → Int) (nx1 : Nat) (fx1 : Nat → Int) : Nat → Int → Option ((Unit) ⊕ (cSt × Int))
  | 0 => fun _ => none
  | q + 1 => s_Law_isFull_103 (g_Law_isFull_103 n M v1 nx0 fx0 nx1 fx1 q) n M v1 nx0 fx0 nx1 fx1
set_option maxHeartbeats 4000000 in
set_option maxRecDepth 100000 in
theorem L_Law_isFull_103 {p : Program} {l : Launch} {G : Nat → Nat} {D : va_G} {K : Nat → ClassId} {e : Env} {s : State} {m : MethodId} {args : Array Value} {below : List Frame} {meth : Method} {c : Code} {A : Nat → Prop} (hx : p.tables.exec = Jvm.exec) (hb : c.code = cL_isFull) (hr : meth.sig.returnType = (some FieldType.boolean)) (hml : c.maxLocals = 7) (hown : s.vm.findClass RL = some m.cls) (hts : ∀ w ∈ lw_gw, w.before args s = true) (hlk : meth.locks = false) (hK : va_K D cl (tys K) s) (hA : ∀ q : Nat, s.heap.size ≤ q → A q) (hm : Amb G A s s.heap) {x : cSt × Int} (ga : Nat → Nat) (n : Nat) (M : cSt) (v1 : Int) (nx0 : Nat) (bx0 : Nat) (fx0 : Nat → Int) (nx1 : Nat) (bx1 : Nat) (fx1 : Nat → Int) : ∀ (q : Nat) (v6 : Int) (out : (Unit) ⊕ (cSt × Int)), g_Law_isFull_103 n M v1 nx0 fx0 nx1 fx1 q v6 = some out → ∀ (cs sl : Nat), cs + q * 0 + 0 ≤ 2 → sl + q * 0 + 0 ≤ 400 → ∀ (ls : Array Slot) (H : Heap) (locs : List Loc), va_P D cl ((bx0, .inl (K 1, nx0, .inl (ci fx0))) :: (bx1, .inl (K 2, nx1, .inl (ci fx1))) :: wld ga n (K 0) (K 1) M) H → va_D A ((bx0, .inl (K 1, nx0, .inl (ci fx0))) :: (bx1, .inl (K 2, nx1, .inl (ci fx1))) :: wld ga n (K 0) (K 1) M) → va_S A s.heap H locs → lv_has ls 7 [(0, .ref (ga 0)), (1, .int (iI v1)), (2, .ref bx1), (3, .ref bx0), (6, .int (iI v6))] → (∀ (y : (Unit)), out = .inl y → ∀ (cs2 sl2 : Nat), cs2 ≤ cs + q * 0 → sl2 ≤ sl + q * 0 → ∀ (ls : Array Slot) (H : Heap) (locs : List Loc), va_P D cl ((bx0, .inl (K 1, nx0, .inl (ci fx0))) :: (bx1, .inl (K 2, nx1, .inl (ci fx1))) :: wld ga n (K 0) (K 1) M) H → va_D A ((bx0, .inl (K 1, nx0, .inl (ci fx0))) :: (bx1, .inl (K 2, nx1, .inl (ci fx1))) :: wld ga n (K 0) (K 1) M) → va_S A s.heap H locs → lv_has ls 7 [] → W p l e ({ frames := 6, cells := 2, slots := 400, locals := 133 } : Room) s m args below meth c H locs cs2 sl2 (MQ below ((CQi (iI x.2) D (fun _ => wld ga n (K 0) (K 1) x.1)) A) args s 2 400 A) (F0 m 139 ls [])) → (∀ y : cSt × Int, out = .inr y → y = x) → W p l e ({ frames := 6, cells := 2, slots := 400, locals := 133 } : Room) s m args below meth c H locs cs sl (MQ below ((CQi (iI x.2) D (fun _ => wld ga n (K 0) (K 1) x.1)) A) args s 2 400 A) (F0 m 103 ls []) := by
  intro q
  induction q with
  | zero =>
    intro v6 out h
    cases (show none = some out from h)
  | succ q ih =>
    intro v6 out h cs sl hcs hsl ls H locs hP hD hS hl kk hrt
    replace h : s_Law_isFull_103 (g_Law_isFull_103 n M v1 nx0 fx0 nx1 fx1 q) n M v1 nx0 fx0 nx1 fx1 v6 = some out := h
    unfold s_Law_isFull_103 at h
    have hfu : fu = 500 := rfl
    refine lv_iload hx hb dL_isFull_103 (lv_at hl 4 rfl) ?_
    refine lv_aload_n hx hb dL_isFull_105 rfl (lv_at hl 2 rfl) ?_
    obtain ⟨g32, h⟩ := og_some h
    refine i_alen hx hb 1 2 hK hP rfl rfl rfl g32 dL_isFull_106 ?_
    obtain ⟨g33, h⟩ := og_some h
    obtain ⟨g34, h⟩ := og_some h
    by_cases c35 : v6 < (nx1 : Int)
    · replace h := it_T h c35
      refine i_icmp_ge_F hx hb g33 g34 (tgt := 139) dL_isFull_107 (by decide) c35 ?_
      refine lv_iload_n hx hb dL_isFull_110 rfl (lv_at hl 1 rfl) ?_
      obtain ⟨g36, h⟩ := og_some h
      by_cases c37 : v1 = 0
      · replace h := it_T h c37
        refine i_if_eq_T hx hb g36 (tgt := 133) dL_isFull_111 (by decide) c37 ?_
        refine x_iinc (v := iI (v6 + 1)) hx hb dL_isFull_133 hl (k := 4) rfl (iI_add v6 1) (by decide) [0, 1, 2, 3] (lv' := [(0, .ref (ga 0)), (1, .int (iI v1)), (2, .ref bx1), (3, .ref bx0)]) rfl (⟨⟨Nat.ne_of_beq_eq_false rfl, Or.inl (Nat.ne_of_beq_eq_false rfl)⟩, ⟨⟨Nat.ne_of_beq_eq_false rfl, Or.inl (Nat.ne_of_beq_eq_false rfl)⟩, ⟨⟨Nat.ne_of_beq_eq_false rfl, Or.inl (Nat.ne_of_beq_eq_false rfl)⟩, ⟨⟨Nat.ne_of_beq_eq_false rfl, Or.inl (Nat.ne_of_beq_eq_false rfl)⟩, trivial⟩⟩⟩⟩) (fun ls hl => ?_)
        refine lv_goto (tgt := 103) hx hb dL_isFull_136 (by decide) ?_
        exact ih (v6 + 1) _ h _ _ (by first | omega | (dsimp only at *; omega) | (dsimp only [room_1] at *; omega)) (by first | omega | (dsimp only at *; omega) | (dsimp only [room_1] at *; omega)) _ _ _ hP hD hS (lv_pk hl [1, 2, 3, 4, 0] rfl) (fun y7 t7 cs2 sl2 h7 h8 => kk y7 t7 cs2 sl2 (by first | (dsimp only at h7; omega) | omega | (dsimp only at *; omega)) (by first | (dsimp only at h8; omega) | omega | (dsimp only at *; omega))) hrt
      · replace h := it_F h c37
        refine i_if_eq_F hx hb g36 (tgt := 133) dL_isFull_111 (by decide) c37 ?_
        refine lv_aload_n hx hb dL_isFull_114 rfl (lv_at hl 3 rfl) ?_
        refine lv_iload hx hb dL_isFull_115 (lv_at hl 4 rfl) ?_
        obtain ⟨g38, h⟩ := og_some h
        obtain ⟨g39, h⟩ := og_some h
        refine l_zald hx hb 0 hK hP (f := fx0) rfl g39.1 g39.2 g38 dL_isFull_117 ?_
        obtain ⟨g40, h⟩ := og_some h
        by_cases c41 : fx0 (v6.toNat) = 0
        · replace h := it_T h c41
          refine i_if_eq_T hx hb g40 (tgt := 133) dL_isFull_118 (by decide) c41 ?_
          refine x_iinc (v := iI (v6 + 1)) hx hb dL_isFull_133 hl (k := 4) rfl (iI_add v6 1) (by decide) [0, 1, 2, 3] (lv' := [(0, .ref (ga 0)), (1, .int (iI v1)), (2, .ref bx1), (3, .ref bx0)]) rfl (⟨⟨Nat.ne_of_beq_eq_false rfl, Or.inl (Nat.ne_of_beq_eq_false rfl)⟩, ⟨⟨Nat.ne_of_beq_eq_false rfl, Or.inl (Nat.ne_of_beq_eq_false rfl)⟩, ⟨⟨Nat.ne_of_beq_eq_false rfl, Or.inl (Nat.ne_of_beq_eq_false rfl)⟩, ⟨⟨Nat.ne_of_beq_eq_false rfl, Or.inl (Nat.ne_of_beq_eq_false rfl)⟩, trivial⟩⟩⟩⟩) (fun ls hl => ?_)
          refine lv_goto (tgt := 103) hx hb dL_isFull_136 (by decide) ?_
          exact ih (v6 + 1) _ h _ _ (by first | omega | (dsimp only at *; omega) | (dsimp only [room_1] at *; omega)) (by first | omega | (dsimp only at *; omega) | (dsimp only [room_1] at *; omega)) _ _ _ hP hD hS (lv_pk hl [1, 2, 3, 4, 0] rfl) (fun y7 t7 cs2 sl2 h7 h8 => kk y7 t7 cs2 sl2 (by first | (dsimp only at h7; omega) | omega | (dsimp only at *; omega)) (by first | (dsimp only at h8; omega) | omega | (dsimp only at *; omega))) hrt
        · replace h := it_F h c41
          refine i_if_eq_F hx hb g40 (tgt := 133) dL_isFull_118 (by decide) c41 ?_
          refine lv_aload_n hx hb dL_isFull_121 rfl (lv_at hl 0 rfl) ?_
          refine lv_iload hx hb dL_isFull_122 (lv_at hl 4 rfl) ?_
          refine lv_iconst (v := iI 0) hx hb dL_isFull_124 rfl ?_
          obtain ⟨x42, ex42, h⟩ := ob_some h
          refine gx_i [(bx0, .inl (K 1, nx0, .inl (ci fx0))), (bx1, .inl (K 2, nx1, .inl (ci fx1)))] [] [(bx0, .inl (K 1, nx0, .inl (ci fx0))), (bx1, .inl (K 2, nx1, .inl (ci fx1)))] [] [0, 1] 2 rfl rfl rfl (by decide) (by decide) (by decide) (by decide) (run_V (rest := []) hx hb hml hown hts hK hP hD hS hA hm (C_X_ofObject l G D K H.size ga n M v6 0 ex42) (axI [] 2 _) (ax_C (X := [(bx0, .inl (K 1, nx0, .inl (ci fx0))), (bx1, .inl (K 2, nx1, .inl (ci fx1)))]) (Y := []) rfl rfl (by decide)) (ax_n (by decide) (by decide)) mok_yX9_ofObject w_858 w_859 w_860 (rcv hK hP 2 (sk (sk go_0)) rfl rfl) ⟨Nat.le_of_ble_eq_true rfl, Nat.le_of_ble_eq_true rfl⟩ rfl hl.1 rfl (Nat.le_of_ble_eq_true rfl) dL_isFull_125 ⟨(by first | omega | (dsimp only at *; omega) | (dsimp only [room_1] at *; omega)), (by first | omega | (dsimp only at *; omega) | (dsimp only [room_1] at *; omega))⟩) hP hD hS hA (fun u H locs (hP : va_P D cl ((bx0, .inl (K 1, nx0, .inl (ci fx0))) :: (bx1, .inl (K 2, nx1, .inl (ci fx1))) :: wld ga n (K 0) (K 1) M) H) (hD : va_D A ((bx0, .inl (K 1, nx0, .inl (ci fx0))) :: (bx1, .inl (K 2, nx1, .inl (ci fx1))) :: wld ga n (K 0) (K 1) M)) hS => ?_)
          obtain ⟨g43, h⟩ := og_some h
          by_cases c44 : x42 = 0
          · replace h := it_T h c44
            refine i_if_ne_F hx hb g43 (tgt := 133) dL_isFull_128 (by decide) c44 ?_
            refine lv_iconst (v := iI 0) hx hb dL_isFull_131 rfl ?_
            obtain rfl := Option.some.inj h
            obtain rfl := hrt _ rfl
            exact e_z hx hb hr hlk (dro_P (dro_P hP)) (dro_D (dro_D hD)) hS (fun _ => 0) rfl (by first | omega | (dsimp only at *; omega) | (dsimp only [room_1] at *; omega)) (by first | omega | (dsimp only at *; omega) | (dsimp only [room_1] at *; omega)) rfl (b01 (Or.inl rfl)) dL_isFull_132
          · replace h := it_F h c44
            refine i_if_ne_T hx hb g43 (tgt := 133) dL_isFull_128 (by decide) c44 ?_
            refine x_iinc (v := iI (v6 + 1)) hx hb dL_isFull_133 hl (k := 4) rfl (iI_add v6 1) (by decide) [0, 1, 2, 3] (lv' := [(0, .ref (ga 0)), (1, .int (iI v1)), (2, .ref bx1), (3, .ref bx0)]) rfl (⟨⟨Nat.ne_of_beq_eq_false rfl, Or.inl (Nat.ne_of_beq_eq_false rfl)⟩, ⟨⟨Nat.ne_of_beq_eq_false rfl, Or.inl (Nat.ne_of_beq_eq_false rfl)⟩, ⟨⟨Nat.ne_of_beq_eq_false rfl, Or.inl (Nat.ne_of_beq_eq_false rfl)⟩, ⟨⟨Nat.ne_of_beq_eq_false rfl, Or.inl (Nat.ne_of_beq_eq_false rfl)⟩, trivial⟩⟩⟩⟩) (fun ls hl => ?_)
            refine lv_goto (tgt := 103) hx hb dL_isFull_136 (by decide) ?_
            exact ih (v6 + 1) _ h _ _ (by first | omega | (dsimp only at *; omega) | (dsimp only [room_1] at *; omega)) (by first | omega | (dsimp only at *; omega) | (dsimp only [room_1] at *; omega)) _ _ _ hP hD hS (lv_pk hl [1, 2, 3, 4, 0] rfl) (fun y7 t7 cs2 sl2 h7 h8 => kk y7 t7 cs2 sl2 (by first | (dsimp only at h7; omega) | omega | (dsimp only at *; omega)) (by first | (dsimp only at h8; omega) | omega | (dsimp only at *; omega))) hrt
    · replace h := it_F h c35
      refine i_icmp_ge_T hx hb g33 g34 (tgt := 139) dL_isFull_107 (by decide) c35 ?_
      obtain rfl := Option.some.inj h
      exact kk _ rfl _ _ (by first | omega | (dsimp only at *; omega) | (dsimp only [room_1] at *; omega)) (by first | omega | (dsimp only at *; omega) | (dsimp only [room_1] at *; omega)) _ _ _ hP hD hS (lv_pk hl [] rfl)
def f_Law_isFull (n : Nat) (M : cSt) (a1 : Int) : Option (cSt × Int) := ob (f_X_many n M 0) (fun x1 => og (0 ≤ x1 ∧ x1 ≤ 200) (og (x1.toNat < 2147483648) (og (0 ≤ (x1.toNat : Int) ∧ (x1.toNat : Int) ≤ 200) (ob (g_Law_isFull_16 n a1 ((x1.toNat : Int).toNat) x1.toNat fu M 0 (fun _ => 0) (fun _ => 0)) (fun x17 => ob (f_X_wouldFree n x17.1 a1) (fun x18 => ob (f_X_many n x18.1 1) (fun x19 => ob (f_X_full n x18.1 a1) (fun x20 => ob (f_X_many n x20.1 1) (fun x21 => og (inR x20.2) (og (inR (x19 - x21)) (if x20.2 = (x19 - x21) then ob (f_Law_words n x20.1 x1.toNat x17.2.1) (fun x25 => og (inR x25) (og (inR x18.2) (if x25 = x18.2 then ob (f_X_wouldFree n x20.1 1) (fun x29 => og (inR x29.2) (if x29.2 = 0 then ob (g_Law_isFull_103 n x29.1 a1 ((x1.toNat : Int).toNat) x17.2.2 x1.toNat x17.2.1 fu 0) (fun x45 => os x45 (fun y45 => some (x29.1, 1))) else some (x29.1, 0))) else some (x20.1, 0)))) else some (x20.1, 0))))))))))))
set_option maxHeartbeats 4000000 in
set_option maxRecDepth 100000 in
theorem C_Law_isFull (l : Launch) (G : Nat → Nat) (D : va_G) (K : Nat → ClassId) (sz : Nat) (ga : Nat → Nat) (n : Nat) (M : cSt) (a1 : Int) {x : cSt × Int} (h : f_Law_isFull n M a1 = some x) : CM l yL_isFull cL_isFull 7 (some FieldType.boolean) ({ frames := 6, cells := 2, slots := 400, locals := 133 } : Room) G D K [.ref (ga 0), .int (iI a1)] (wld ga n (K 0) (K 1) M) sz (CQi (iI x.2) D (fun _ => wld ga n (K 0) (K 1) x.1)) := by
  refine CM_of (lv0 := [(0, .ref (ga 0)), (1, .int (iI a1))]) pn_RL (Nat.le_of_ble_eq_true rfl) rfl (fun p e s m args below meth c A ls hx hb hr hml hown hts hlk hnm hP hK hD hS hA hm hl => ?_)
  have hown : s.vm.findClass RL = some m.cls := hown
  unfold f_Law_isFull at h
  have hfu : fu = 500 := rfl
  refine lv_aload_n hx hb dL_isFull_0 rfl (lv_at hl 0 rfl) ?_
  refine lv_iconst (v := iI 0) hx hb dL_isFull_1 rfl ?_
  obtain ⟨x1, ex1, h⟩ := ob_some h
  refine gk_i (run_V (rest := []) hx hb hml hown hts hK hP hD hS hA hm (C_X_many l G D K s.heap.size ga n M 0 ex1) _ (full_C _) (full_n _ List.nodup_range) mok_yX9_many w_867 w_868 w_869 (rcv hK hP 0 go_0 rfl rfl) ⟨Nat.le_of_ble_eq_true rfl, Nat.le_of_ble_eq_true rfl⟩ rfl hl.1 rfl (Nat.le_of_ble_eq_true rfl) dL_isFull_2 ⟨(by first | omega | (dsimp only at *; omega) | (dsimp only [room_1] at *; omega)), (by first | omega | (dsimp only at *; omega) | (dsimp only [room_1] at *; omega))⟩) hP hD hS hA (fun u H locs (hP : va_P D cl (wld ga n (K 0) (K 1) M) H) (hD : va_D A (wld ga n (K 0) (K 1) M)) hS => ?_)
  obtain ⟨g2, h⟩ := og_some h
  refine l_new2 hx hb hts w_956 hK hP hD hS hA g2.1 (by omega) (by first | omega | (dsimp only at *; omega) | (dsimp only [room_1] at *; omega)) (by first | omega | (dsimp only at *; omega) | (dsimp only [room_1] at *; omega)) dL_isFull_5 (fun b103 H (hP : va_P D cl ((b103, .inl (K 2, x1.toNat, .inl (ci (fun _ => 0)))) :: wld ga n (K 0) (K 1) M) H) (hD : va_D A ((b103, .inl (K 2, x1.toNat, .inl (ci (fun _ => 0)))) :: wld ga n (K 0) (K 1) M)) hS => ?_)
  refine x_astore_n hx hb dL_isFull_7 rfl hl (by decide) [0, 1] (lv' := [(0, .ref (ga 0)), (1, .int (iI a1))]) rfl (⟨⟨Nat.ne_of_beq_eq_false rfl, Or.inl (Nat.ne_of_beq_eq_false rfl)⟩, ⟨⟨Nat.ne_of_beq_eq_false rfl, Or.inr rfl⟩, trivial⟩⟩) (fun ls hl => ?_)
  refine lv_aload_n hx hb dL_isFull_8 rfl (lv_at hl 0 rfl) ?_
  obtain ⟨g4, h⟩ := og_some h
  refine i_alen hx hb 0 2 hK hP rfl rfl rfl g4 dL_isFull_9 ?_
  obtain ⟨g5, h⟩ := og_some h
  refine l_new1 hx hb hts w_109 hK hP hD hS hA g5.1 (by omega) (by first | omega | (dsimp only at *; omega) | (dsimp only [room_1] at *; omega)) (by first | omega | (dsimp only at *; omega) | (dsimp only [room_1] at *; omega)) dL_isFull_10 (fun b106 H (hP : va_P D cl ((b106, .inl (K 1, ((x1.toNat : Int).toNat), .inl (ci (fun _ => 0)))) :: (b103, .inl (K 2, x1.toNat, .inl (ci (fun _ => 0)))) :: wld ga n (K 0) (K 1) M) H) (hD : va_D A ((b106, .inl (K 1, ((x1.toNat : Int).toNat), .inl (ci (fun _ => 0)))) :: (b103, .inl (K 2, x1.toNat, .inl (ci (fun _ => 0)))) :: wld ga n (K 0) (K 1) M)) hS => ?_)
  refine x_astore_n hx hb dL_isFull_12 rfl hl (by decide) [0, 1, 2] (lv' := [(2, .ref b103), (0, .ref (ga 0)), (1, .int (iI a1))]) rfl (⟨⟨Nat.ne_of_beq_eq_false rfl, Or.inr rfl⟩, ⟨⟨Nat.ne_of_beq_eq_false rfl, Or.inl (Nat.ne_of_beq_eq_false rfl)⟩, ⟨⟨Nat.ne_of_beq_eq_false rfl, Or.inl (Nat.ne_of_beq_eq_false rfl)⟩, trivial⟩⟩⟩) (fun ls hl => ?_)
  refine lv_iconst (v := iI 0) hx hb dL_isFull_13 rfl ?_
  refine x_istore hx hb dL_isFull_14 hl (by decide) [0, 1, 2, 3] (lv' := [(3, .ref b106), (2, .ref b103), (0, .ref (ga 0)), (1, .int (iI a1))]) rfl (⟨⟨Nat.ne_of_beq_eq_false rfl, Or.inr rfl⟩, ⟨⟨Nat.ne_of_beq_eq_false rfl, Or.inl (Nat.ne_of_beq_eq_false rfl)⟩, ⟨⟨Nat.ne_of_beq_eq_false rfl, Or.inl (Nat.ne_of_beq_eq_false rfl)⟩, ⟨⟨Nat.ne_of_beq_eq_false rfl, Or.inl (Nat.ne_of_beq_eq_false rfl)⟩, trivial⟩⟩⟩⟩) (fun ls hl => ?_)
  obtain ⟨x17, ex17, h⟩ := ob_some h
  refine L_Law_isFull_16 hx hb hr hml hown hts hlk hK hA hm ga n a1 ((x1.toNat : Int).toNat) b106 x1.toNat b103  fu M 0 (fun _ => 0) (fun _ => 0) _ ex17 _ _ (by first | omega | (dsimp only at *; omega) | (dsimp only [room_1] at *; omega)) (by first | omega | (dsimp only at *; omega) | (dsimp only [room_1] at *; omega)) _ _ _ hP hD hS (lv_pk hl [3, 4, 2, 1, 0] rfl) (fun cs17 sl17 hcs17 hsl17 ls H locs (hP : va_P D cl ((b106, .inl (K 1, ((x1.toNat : Int).toNat), .inl (ci x17.2.2))) :: (b103, .inl (K 2, x1.toNat, .inl (ci x17.2.1))) :: wld ga n (K 0) (K 1) x17.1) H) (hD : va_D A ((b106, .inl (K 1, ((x1.toNat : Int).toNat), .inl (ci x17.2.2))) :: (b103, .inl (K 2, x1.toNat, .inl (ci x17.2.1))) :: wld ga n (K 0) (K 1) x17.1)) hS (hl : lv_has ls 7 [(0, .ref (ga 0)), (1, .int (iI a1)), (2, .ref b103), (3, .ref b106)]) => ?_)
  refine lv_aload_n hx hb dL_isFull_50 rfl (lv_at hl 0 rfl) ?_
  refine lv_iload_n hx hb dL_isFull_51 rfl (lv_at hl 1 rfl) ?_
  obtain ⟨x18, ex18, h⟩ := ob_some h
  refine gx_i [(b106, .inl (K 1, ((x1.toNat : Int).toNat), .inl (ci x17.2.2))), (b103, .inl (K 2, x1.toNat, .inl (ci x17.2.1)))] [] [(b106, .inl (K 1, ((x1.toNat : Int).toNat), .inl (ci x17.2.2))), (b103, .inl (K 2, x1.toNat, .inl (ci x17.2.1)))] [] [0, 1] 2 rfl rfl rfl (by decide) (by decide) (by decide) (by decide) (run_V (rest := []) hx hb hml hown hts hK hP hD hS hA hm (C_X_wouldFree l G D K H.size ga n x17.1 a1 ex18) (axI [] 2 _) (ax_C (X := [(b106, .inl (K 1, ((x1.toNat : Int).toNat), .inl (ci x17.2.2))), (b103, .inl (K 2, x1.toNat, .inl (ci x17.2.1)))]) (Y := []) rfl rfl (by decide)) (ax_n (by decide) (by decide)) mok_yX9_wouldFree w_951 w_912 w_913 (rcv hK hP 2 (sk (sk go_0)) rfl rfl) ⟨Nat.le_of_ble_eq_true rfl, Nat.le_of_ble_eq_true rfl⟩ rfl hl.1 rfl (Nat.le_of_ble_eq_true rfl) dL_isFull_52 ⟨(by first | omega | (dsimp only at *; omega) | (dsimp only [room_1] at *; omega)), (by first | omega | (dsimp only at *; omega) | (dsimp only [room_1] at *; omega))⟩) hP hD hS hA (fun u H locs (hP : va_P D cl ((b106, .inl (K 1, ((x1.toNat : Int).toNat), .inl (ci x17.2.2))) :: (b103, .inl (K 2, x1.toNat, .inl (ci x17.2.1))) :: wld ga n (K 0) (K 1) x18.1) H) (hD : va_D A ((b106, .inl (K 1, ((x1.toNat : Int).toNat), .inl (ci x17.2.2))) :: (b103, .inl (K 2, x1.toNat, .inl (ci x17.2.1))) :: wld ga n (K 0) (K 1) x18.1)) hS => ?_)
  refine x_istore hx hb dL_isFull_55 hl (by decide) [0, 1, 2, 3] (lv' := [(0, .ref (ga 0)), (1, .int (iI a1)), (2, .ref b103), (3, .ref b106)]) rfl (⟨⟨Nat.ne_of_beq_eq_false rfl, Or.inl (Nat.ne_of_beq_eq_false rfl)⟩, ⟨⟨Nat.ne_of_beq_eq_false rfl, Or.inl (Nat.ne_of_beq_eq_false rfl)⟩, ⟨⟨Nat.ne_of_beq_eq_false rfl, Or.inl (Nat.ne_of_beq_eq_false rfl)⟩, ⟨⟨Nat.ne_of_beq_eq_false rfl, Or.inr rfl⟩, trivial⟩⟩⟩⟩) (fun ls hl => ?_)
  refine lv_aload_n hx hb dL_isFull_57 rfl (lv_at hl 1 rfl) ?_
  refine lv_iconst (v := iI 1) hx hb dL_isFull_58 rfl ?_
  obtain ⟨x19, ex19, h⟩ := ob_some h
  refine gx_i [(b106, .inl (K 1, ((x1.toNat : Int).toNat), .inl (ci x17.2.2))), (b103, .inl (K 2, x1.toNat, .inl (ci x17.2.1)))] [] [(b106, .inl (K 1, ((x1.toNat : Int).toNat), .inl (ci x17.2.2))), (b103, .inl (K 2, x1.toNat, .inl (ci x17.2.1)))] [] [0, 1] 2 rfl rfl rfl (by decide) (by decide) (by decide) (by decide) (run_V (rest := []) hx hb hml hown hts hK hP hD hS hA hm (C_X_many l G D K H.size ga n x18.1 1 ex19) (axI [] 2 _) (ax_C (X := [(b106, .inl (K 1, ((x1.toNat : Int).toNat), .inl (ci x17.2.2))), (b103, .inl (K 2, x1.toNat, .inl (ci x17.2.1)))]) (Y := []) rfl rfl (by decide)) (ax_n (by decide) (by decide)) mok_yX9_many w_867 w_868 w_869 (rcv hK hP 2 (sk (sk go_0)) rfl rfl) ⟨Nat.le_of_ble_eq_true rfl, Nat.le_of_ble_eq_true rfl⟩ rfl hl.1 rfl (Nat.le_of_ble_eq_true rfl) dL_isFull_59 ⟨(by first | omega | (dsimp only at *; omega) | (dsimp only [room_1] at *; omega)), (by first | omega | (dsimp only at *; omega) | (dsimp only [room_1] at *; omega))⟩) hP hD hS hA (fun u H locs (hP : va_P D cl ((b106, .inl (K 1, ((x1.toNat : Int).toNat), .inl (ci x17.2.2))) :: (b103, .inl (K 2, x1.toNat, .inl (ci x17.2.1))) :: wld ga n (K 0) (K 1) x18.1) H) (hD : va_D A ((b106, .inl (K 1, ((x1.toNat : Int).toNat), .inl (ci x17.2.2))) :: (b103, .inl (K 2, x1.toNat, .inl (ci x17.2.1))) :: wld ga n (K 0) (K 1) x18.1)) hS => ?_)
  refine x_istore hx hb dL_isFull_62 hl (by decide) [0, 1, 2, 3, 4] (lv' := [(4, .int (iI x18.2)), (0, .ref (ga 0)), (1, .int (iI a1)), (2, .ref b103), (3, .ref b106)]) rfl (⟨⟨Nat.ne_of_beq_eq_false rfl, Or.inr rfl⟩, ⟨⟨Nat.ne_of_beq_eq_false rfl, Or.inl (Nat.ne_of_beq_eq_false rfl)⟩, ⟨⟨Nat.ne_of_beq_eq_false rfl, Or.inl (Nat.ne_of_beq_eq_false rfl)⟩, ⟨⟨Nat.ne_of_beq_eq_false rfl, Or.inl (Nat.ne_of_beq_eq_false rfl)⟩, ⟨⟨Nat.ne_of_beq_eq_false rfl, Or.inl (Nat.ne_of_beq_eq_false rfl)⟩, trivial⟩⟩⟩⟩⟩) (fun ls hl => ?_)
  refine lv_aload_n hx hb dL_isFull_64 rfl (lv_at hl 2 rfl) ?_
  refine lv_iload_n hx hb dL_isFull_65 rfl (lv_at hl 3 rfl) ?_
  obtain ⟨x20, ex20, h⟩ := ob_some h
  refine gx_i [(b106, .inl (K 1, ((x1.toNat : Int).toNat), .inl (ci x17.2.2))), (b103, .inl (K 2, x1.toNat, .inl (ci x17.2.1)))] [] [(b106, .inl (K 1, ((x1.toNat : Int).toNat), .inl (ci x17.2.2))), (b103, .inl (K 2, x1.toNat, .inl (ci x17.2.1)))] [] [0, 1] 2 rfl rfl rfl (by decide) (by decide) (by decide) (by decide) (run_V (rest := []) hx hb hml hown hts hK hP hD hS hA hm (C_X_full l G D K H.size ga n x18.1 a1 ex20) (axI [] 2 _) (ax_C (X := [(b106, .inl (K 1, ((x1.toNat : Int).toNat), .inl (ci x17.2.2))), (b103, .inl (K 2, x1.toNat, .inl (ci x17.2.1)))]) (Y := []) rfl rfl (by decide)) (ax_n (by decide) (by decide)) mok_yX9_full w_952 w_665 w_666 (rcv hK hP 2 (sk (sk go_0)) rfl rfl) ⟨Nat.le_of_ble_eq_true rfl, Nat.le_of_ble_eq_true rfl⟩ rfl hl.1 rfl (Nat.le_of_ble_eq_true rfl) dL_isFull_66 ⟨(by first | omega | (dsimp only at *; omega) | (dsimp only [room_1] at *; omega)), (by first | omega | (dsimp only at *; omega) | (dsimp only [room_1] at *; omega))⟩) hP hD hS hA (fun u H locs (hP : va_P D cl ((b106, .inl (K 1, ((x1.toNat : Int).toNat), .inl (ci x17.2.2))) :: (b103, .inl (K 2, x1.toNat, .inl (ci x17.2.1))) :: wld ga n (K 0) (K 1) x20.1) H) (hD : va_D A ((b106, .inl (K 1, ((x1.toNat : Int).toNat), .inl (ci x17.2.2))) :: (b103, .inl (K 2, x1.toNat, .inl (ci x17.2.1))) :: wld ga n (K 0) (K 1) x20.1)) hS => ?_)
  refine lv_iload hx hb dL_isFull_69 (lv_at hl 0 rfl) ?_
  refine lv_aload_n hx hb dL_isFull_71 rfl (lv_at hl 2 rfl) ?_
  refine lv_iconst (v := iI 1) hx hb dL_isFull_72 rfl ?_
  obtain ⟨x21, ex21, h⟩ := ob_some h
  refine gx_i [(b106, .inl (K 1, ((x1.toNat : Int).toNat), .inl (ci x17.2.2))), (b103, .inl (K 2, x1.toNat, .inl (ci x17.2.1)))] [] [(b106, .inl (K 1, ((x1.toNat : Int).toNat), .inl (ci x17.2.2))), (b103, .inl (K 2, x1.toNat, .inl (ci x17.2.1)))] [] [0, 1] 2 rfl rfl rfl (by decide) (by decide) (by decide) (by decide) (run_V (rest := [.int (iI x19), .int (iI x20.2)]) hx hb hml hown hts hK hP hD hS hA hm (C_X_many l G D K H.size ga n x20.1 1 ex21) (axI [] 2 _) (ax_C (X := [(b106, .inl (K 1, ((x1.toNat : Int).toNat), .inl (ci x17.2.2))), (b103, .inl (K 2, x1.toNat, .inl (ci x17.2.1)))]) (Y := []) rfl rfl (by decide)) (ax_n (by decide) (by decide)) mok_yX9_many w_867 w_868 w_869 (rcv hK hP 2 (sk (sk go_0)) rfl rfl) ⟨Nat.le_of_ble_eq_true rfl, Nat.le_of_ble_eq_true rfl⟩ rfl hl.1 rfl (Nat.le_of_ble_eq_true rfl) dL_isFull_73 ⟨(by first | omega | (dsimp only at *; omega) | (dsimp only [room_1] at *; omega)), (by first | omega | (dsimp only at *; omega) | (dsimp only [room_1] at *; omega))⟩) hP hD hS hA (fun u H locs (hP : va_P D cl ((b106, .inl (K 1, ((x1.toNat : Int).toNat), .inl (ci x17.2.2))) :: (b103, .inl (K 2, x1.toNat, .inl (ci x17.2.1))) :: wld ga n (K 0) (K 1) x20.1) H) (hD : va_D A ((b106, .inl (K 1, ((x1.toNat : Int).toNat), .inl (ci x17.2.2))) :: (b103, .inl (K 2, x1.toNat, .inl (ci x17.2.1))) :: wld ga n (K 0) (K 1) x20.1)) hS => ?_)
  refine lv_isub hx hb dL_isFull_76 ?_
  refine w_toeq (iI_sub x19 x21) ?_
  obtain ⟨g22, h⟩ := og_some h
  obtain ⟨g23, h⟩ := og_some h
  by_cases c24 : x20.2 = (x19 - x21)
  · replace h := it_T h c24
    refine i_icmp_ne_F hx hb g22 g23 (tgt := 98) dL_isFull_77 (by decide) c24 ?_
    refine lv_aload_n hx hb dL_isFull_80 rfl (lv_at hl 2 rfl) ?_
    refine lv_aload_n hx hb dL_isFull_81 rfl (lv_at hl 4 rfl) ?_
    obtain ⟨x25, ex25, h⟩ := ob_some h
    refine gx_i [(b106, .inl (K 1, ((x1.toNat : Int).toNat), .inl (ci x17.2.2))), (b103, .inl (K 2, x1.toNat, .inl (ci x17.2.1)))] [(b103, .inl (K 2, x1.toNat, .inl (ci x17.2.1)))] [(b106, .inl (K 1, ((x1.toNat : Int).toNat), .inl (ci x17.2.2)))] [1] [0] 2 rfl rfl rfl (by decide) (by decide) (by decide) (by decide) (run_S (rest := []) hx hb hml hown hts hK hP hD hS hA hm (C_Law_words l G D K H.size ga n x20.1 x1.toNat b103 x17.2.1 ex25) (axI [1] 2 _) (ax_C (X := [(b106, .inl (K 1, ((x1.toNat : Int).toNat), .inl (ci x17.2.2))), (b103, .inl (K 2, x1.toNat, .inl (ci x17.2.1)))]) (Y := [(b103, .inl (K 2, x1.toNat, .inl (ci x17.2.1)))]) rfl rfl (by decide)) (ax_n (by decide) (by decide)) mok_yL_words w_953 w_954 ⟨Nat.le_of_ble_eq_true rfl, Nat.le_of_ble_eq_true rfl⟩ rfl hl.1 rfl (Nat.le_of_ble_eq_true rfl) dL_isFull_82 ⟨(by first | omega | (dsimp only at *; omega) | (dsimp only [room_1] at *; omega)), (by first | omega | (dsimp only at *; omega) | (dsimp only [room_1] at *; omega))⟩) hP hD hS hA (fun u H locs (hP : va_P D cl ((b106, .inl (K 1, ((x1.toNat : Int).toNat), .inl (ci x17.2.2))) :: (b103, .inl (K 2, x1.toNat, .inl (ci x17.2.1))) :: wld ga n (K 0) (K 1) x20.1) H) (hD : va_D A ((b106, .inl (K 1, ((x1.toNat : Int).toNat), .inl (ci x17.2.2))) :: (b103, .inl (K 2, x1.toNat, .inl (ci x17.2.1))) :: wld ga n (K 0) (K 1) x20.1)) hS => ?_)
    refine lv_iload hx hb dL_isFull_85 (lv_at hl 1 rfl) ?_
    obtain ⟨g26, h⟩ := og_some h
    obtain ⟨g27, h⟩ := og_some h
    by_cases c28 : x25 = x18.2
    · replace h := it_T h c28
      refine i_icmp_ne_F hx hb g26 g27 (tgt := 98) dL_isFull_87 (by decide) c28 ?_
      refine lv_aload_n hx hb dL_isFull_90 rfl (lv_at hl 2 rfl) ?_
      refine lv_iconst (v := iI 1) hx hb dL_isFull_91 rfl ?_
      obtain ⟨x29, ex29, h⟩ := ob_some h
      refine gx_i [(b106, .inl (K 1, ((x1.toNat : Int).toNat), .inl (ci x17.2.2))), (b103, .inl (K 2, x1.toNat, .inl (ci x17.2.1)))] [] [(b106, .inl (K 1, ((x1.toNat : Int).toNat), .inl (ci x17.2.2))), (b103, .inl (K 2, x1.toNat, .inl (ci x17.2.1)))] [] [0, 1] 2 rfl rfl rfl (by decide) (by decide) (by decide) (by decide) (run_V (rest := []) hx hb hml hown hts hK hP hD hS hA hm (C_X_wouldFree l G D K H.size ga n x20.1 1 ex29) (axI [] 2 _) (ax_C (X := [(b106, .inl (K 1, ((x1.toNat : Int).toNat), .inl (ci x17.2.2))), (b103, .inl (K 2, x1.toNat, .inl (ci x17.2.1)))]) (Y := []) rfl rfl (by decide)) (ax_n (by decide) (by decide)) mok_yX9_wouldFree w_951 w_912 w_913 (rcv hK hP 2 (sk (sk go_0)) rfl rfl) ⟨Nat.le_of_ble_eq_true rfl, Nat.le_of_ble_eq_true rfl⟩ rfl hl.1 rfl (Nat.le_of_ble_eq_true rfl) dL_isFull_92 ⟨(by first | omega | (dsimp only at *; omega) | (dsimp only [room_1] at *; omega)), (by first | omega | (dsimp only at *; omega) | (dsimp only [room_1] at *; omega))⟩) hP hD hS hA (fun u H locs (hP : va_P D cl ((b106, .inl (K 1, ((x1.toNat : Int).toNat), .inl (ci x17.2.2))) :: (b103, .inl (K 2, x1.toNat, .inl (ci x17.2.1))) :: wld ga n (K 0) (K 1) x29.1) H) (hD : va_D A ((b106, .inl (K 1, ((x1.toNat : Int).toNat), .inl (ci x17.2.2))) :: (b103, .inl (K 2, x1.toNat, .inl (ci x17.2.1))) :: wld ga n (K 0) (K 1) x29.1)) hS => ?_)
      obtain ⟨g30, h⟩ := og_some h
      by_cases c31 : x29.2 = 0
      · replace h := it_T h c31
        refine i_if_eq_T hx hb g30 (tgt := 100) dL_isFull_95 (by decide) c31 ?_
        refine lv_iconst (v := iI 0) hx hb dL_isFull_100 rfl ?_
        refine x_istore hx hb dL_isFull_101 hl (by decide) [0, 1, 2, 3, 4, 5] (lv' := [(5, .int (iI x19)), (4, .int (iI x18.2)), (0, .ref (ga 0)), (1, .int (iI a1)), (2, .ref b103), (3, .ref b106)]) rfl (⟨⟨Nat.ne_of_beq_eq_false rfl, Or.inr rfl⟩, ⟨⟨Nat.ne_of_beq_eq_false rfl, Or.inl (Nat.ne_of_beq_eq_false rfl)⟩, ⟨⟨Nat.ne_of_beq_eq_false rfl, Or.inl (Nat.ne_of_beq_eq_false rfl)⟩, ⟨⟨Nat.ne_of_beq_eq_false rfl, Or.inl (Nat.ne_of_beq_eq_false rfl)⟩, ⟨⟨Nat.ne_of_beq_eq_false rfl, Or.inl (Nat.ne_of_beq_eq_false rfl)⟩, ⟨⟨Nat.ne_of_beq_eq_false rfl, Or.inl (Nat.ne_of_beq_eq_false rfl)⟩, trivial⟩⟩⟩⟩⟩⟩) (fun ls hl => ?_)
        obtain ⟨x45, ex45, h⟩ := ob_some h
        refine L_Law_isFull_103 hx hb hr hml hown hts hlk hK hA hm ga n x29.1 a1 ((x1.toNat : Int).toNat) b106 x17.2.2 x1.toNat b103 x17.2.1  fu 0 _ ex45 _ _ (by first | omega | (dsimp only at *; omega) | (dsimp only [room_1] at *; omega)) (by first | omega | (dsimp only at *; omega) | (dsimp only [room_1] at *; omega)) _ _ _ hP hD hS (lv_pk hl [3, 4, 5, 6, 0] rfl) (fun y45 ty45 cs45 sl45 hcs45 hsl45 ls H locs (hP : va_P D cl ((b106, .inl (K 1, ((x1.toNat : Int).toNat), .inl (ci x17.2.2))) :: (b103, .inl (K 2, x1.toNat, .inl (ci x17.2.1))) :: wld ga n (K 0) (K 1) x29.1) H) (hD : va_D A ((b106, .inl (K 1, ((x1.toNat : Int).toNat), .inl (ci x17.2.2))) :: (b103, .inl (K 2, x1.toNat, .inl (ci x17.2.1))) :: wld ga n (K 0) (K 1) x29.1)) hS (hl : lv_has ls 7 []) => ?_) (fun y45 ty45 => os_r h ty45)
        replace h := os_l h ty45
        refine lv_iconst (v := iI 1) hx hb dL_isFull_139 rfl ?_
        obtain rfl := Option.some.inj h
        exact e_z hx hb hr hlk (dro_P (dro_P hP)) (dro_D (dro_D hD)) hS (fun _ => 0) rfl (by first | omega | (dsimp only at *; omega) | (dsimp only [room_1] at *; omega)) (by first | omega | (dsimp only at *; omega) | (dsimp only [room_1] at *; omega)) rfl (b01 (Or.inr rfl)) dL_isFull_140
      · replace h := it_F h c31
        refine i_if_eq_F hx hb g30 (tgt := 100) dL_isFull_95 (by decide) c31 ?_
        refine lv_iconst (v := iI 0) hx hb dL_isFull_98 rfl ?_
        obtain rfl := Option.some.inj h
        exact e_z hx hb hr hlk (dro_P (dro_P hP)) (dro_D (dro_D hD)) hS (fun _ => 0) rfl (by first | omega | (dsimp only at *; omega) | (dsimp only [room_1] at *; omega)) (by first | omega | (dsimp only at *; omega) | (dsimp only [room_1] at *; omega)) rfl (b01 (Or.inl rfl)) dL_isFull_99
    · replace h := it_F h c28
      refine i_icmp_ne_T hx hb g26 g27 (tgt := 98) dL_isFull_87 (by decide) c28 ?_
      refine lv_iconst (v := iI 0) hx hb dL_isFull_98 rfl ?_
      obtain rfl := Option.some.inj h
      exact e_z hx hb hr hlk (dro_P (dro_P hP)) (dro_D (dro_D hD)) hS (fun _ => 0) rfl (by first | omega | (dsimp only at *; omega) | (dsimp only [room_1] at *; omega)) (by first | omega | (dsimp only at *; omega) | (dsimp only [room_1] at *; omega)) rfl (b01 (Or.inl rfl)) dL_isFull_99
  · replace h := it_F h c24
    refine i_icmp_ne_T hx hb g22 g23 (tgt := 98) dL_isFull_77 (by decide) c24 ?_
    refine lv_iconst (v := iI 0) hx hb dL_isFull_98 rfl ?_
    obtain rfl := Option.some.inj h
    exact e_z hx hb hr hlk (dro_P (dro_P hP)) (dro_D (dro_D hD)) hS (fun _ => 0) rfl (by first | omega | (dsimp only at *; omega) | (dsimp only [room_1] at *; omega)) (by first | omega | (dsimp only at *; omega) | (dsimp only [room_1] at *; omega)) rfl (b01 (Or.inl rfl)) dL_isFull_99
def s_Law_isSound_199 (rec : Int → (Nat → Int) → Option (((Nat → Int)) ⊕ (Int))) (n : Nat) (M : cSt) (v4 : Int) (v5 : Int) (v6 : Int) (v8 : Int) (nx0 : Nat) (nx1 : Nat) (fx1 : Nat → Int) (nx2 : Nat) (fx2 : Nat → Int) (v11 : Int) (fx0 : (Nat → Int)) : Option (((Nat → Int)) ⊕ (Int)) := og (inR v11) (og (inR v8) (if v11 < v8 then og (nx0 < 2147483648) (og (0 ≤ v11 ∧ v11 < (nx0 : Int)) (og (inR (fx0 (v11.toNat))) (if 0 < fx0 (v11.toNat) then some (.inr 0) else rec (v11 + 1) (va_up fx0 (v11.toNat) (v5 + 1))))) else some (.inl fx0)))
def g_Law_isSound_199 (n : Nat) (M : cSt) (v4 : Int) (v5 : Int) (v6 : Int) (v8 : Int) (nx0 : Nat) (nx1 : Nat) (fx1 : Nat → Int) (nx2 : Nat) (fx2 : Nat → Int) : Nat → Int → (Nat → Int) → Option (((Nat → Int)) ⊕ (Int))
  | 0 => fun _ _ => none
  | q + 1 => s_Law_isSound_199 (g_Law_isSound_199 n M v4 v5 v6 v8 nx0 nx1 fx1 nx2 fx2 q) n M v4 v5 v6 v8 nx0 nx1 fx1 nx2 fx2
set_option maxHeartbeats 4000000 in
set_option maxRecDepth 100000 in
theorem L_Law_isSound_199 {p : Program} {l : Launch} {G : Nat → Nat} {D : va_G} {K : Nat → ClassId} {e : Env} {s : State} {m : MethodId} {args : Array Value} {below : List Frame} {meth : Method} {c : Code} {A : Nat → Prop} (hx : p.tables.exec = Jvm.exec) (hb : c.code = cL_isSound) (hr : meth.sig.returnType = (some FieldType.boolean)) (hml : c.maxLocals = 12) (hown : s.vm.findClass RL = some m.cls) (hts : ∀ w ∈ lw_gw, w.before args s = true) (hlk : meth.locks = false) (hK : va_K D cl (tys K) s) (hA : ∀ q : Nat, s.heap.size ≤ q → A q) (hm : Amb G A s s.heap) (hl0 : l.stackTraces = false) {x : Int} (ga : Nat → Nat) (n : Nat) (M : cSt) (v4 : Int) (v5 : Int) (v6 : Int) (v8 : Int) (nx0 : Nat) (bx0 : Nat) (nx1 : Nat) (bx1 : Nat) (fx1 : Nat → Int) (nx2 : Nat) (bx2 : Nat) (fx2 : Nat → Int) : ∀ (q : Nat) (v11 : Int) (fx0 : (Nat → Int)) (out : ((Nat → Int)) ⊕ (Int)), g_Law_isSound_199 n M v4 v5 v6 v8 nx0 nx1 fx1 nx2 fx2 q v11 fx0 = some out → ∀ (cs sl : Nat), cs + q * 0 + 0 ≤ 501 → sl + q * 0 + 0 ≤ 3420 → ∀ (ls : Array Slot) (H : Heap) (locs : List Loc), va_P D cl ((bx0, .inl (K 2, nx0, .inl (ci fx0))) :: (bx1, .inl (K 2, nx1, .inl (ci fx1))) :: (bx2, .inl (K 2, nx2, .inl (ci fx2))) :: wld ga n (K 0) (K 1) M) H → va_D A ((bx0, .inl (K 2, nx0, .inl (ci fx0))) :: (bx1, .inl (K 2, nx1, .inl (ci fx1))) :: (bx2, .inl (K 2, nx2, .inl (ci fx2))) :: wld ga n (K 0) (K 1) M) → va_S A s.heap H locs → lv_has ls 12 [(0, .ref (ga 0)), (1, .ref bx2), (2, .ref bx1), (3, .ref bx0), (4, .int (iI v4)), (5, .int (iI v5)), (6, .int (iI v6)), (8, .int (iI v8)), (11, .int (iI v11))] → (∀ (y : ((Nat → Int))), out = .inl y → ∀ (cs2 sl2 : Nat), cs2 ≤ cs + q * 0 → sl2 ≤ sl + q * 0 → ∀ (ls : Array Slot) (H : Heap) (locs : List Loc), va_P D cl ((bx0, .inl (K 2, nx0, .inl (ci y))) :: (bx1, .inl (K 2, nx1, .inl (ci fx1))) :: (bx2, .inl (K 2, nx2, .inl (ci fx2))) :: wld ga n (K 0) (K 1) M) H → va_D A ((bx0, .inl (K 2, nx0, .inl (ci y))) :: (bx1, .inl (K 2, nx1, .inl (ci fx1))) :: (bx2, .inl (K 2, nx2, .inl (ci fx2))) :: wld ga n (K 0) (K 1) M) → va_S A s.heap H locs → lv_has ls 12 [(0, .ref (ga 0)), (1, .ref bx2), (2, .ref bx1), (3, .ref bx0), (4, .int (iI v4)), (5, .int (iI v5)), (6, .int (iI v6))] → W p l e ({ frames := 9, cells := 501, slots := 3420, locals := 246 } : Room) s m args below meth c H locs cs2 sl2 (MQ below ((CQi (iI x) D (fun _ => (bx1, .inl (K 2, nx1, .inl (ci fx1))) :: (bx2, .inl (K 2, nx2, .inl (ci fx2))) :: wld ga n (K 0) (K 1) M)) A) args s 501 3420 A) (F0 m 229 ls [])) → (∀ y : Int, out = .inr y → y = x) → W p l e ({ frames := 9, cells := 501, slots := 3420, locals := 246 } : Room) s m args below meth c H locs cs sl (MQ below ((CQi (iI x) D (fun _ => (bx1, .inl (K 2, nx1, .inl (ci fx1))) :: (bx2, .inl (K 2, nx2, .inl (ci fx2))) :: wld ga n (K 0) (K 1) M)) A) args s 501 3420 A) (F0 m 199 ls []) := by
  intro q
  induction q with
  | zero =>
    intro v11 fx0 out h
    cases (show none = some out from h)
  | succ q ih =>
    intro v11 fx0 out h cs sl hcs hsl ls H locs hP hD hS hl kk hrt
    replace h : s_Law_isSound_199 (g_Law_isSound_199 n M v4 v5 v6 v8 nx0 nx1 fx1 nx2 fx2 q) n M v4 v5 v6 v8 nx0 nx1 fx1 nx2 fx2 v11 fx0 = some out := h
    unfold s_Law_isSound_199 at h
    have hfu : fu = 500 := rfl
    refine lv_iload hx hb dL_isSound_199 (lv_at hl 8 rfl) ?_
    refine lv_iload hx hb dL_isSound_201 (lv_at hl 7 rfl) ?_
    obtain ⟨g34, h⟩ := og_some h
    obtain ⟨g35, h⟩ := og_some h
    by_cases c36 : v11 < v8
    · replace h := it_T h c36
      refine i_icmp_ge_F hx hb g34 g35 (tgt := 229) dL_isSound_203 (by decide) c36 ?_
      refine lv_aload_n hx hb dL_isSound_206 rfl (lv_at hl 3 rfl) ?_
      refine lv_iload hx hb dL_isSound_207 (lv_at hl 8 rfl) ?_
      obtain ⟨g37, h⟩ := og_some h
      obtain ⟨g38, h⟩ := og_some h
      refine l_iald hx hb 0 hK hP (f := fx0) rfl g38.1 g38.2 g37 dL_isSound_209 ?_
      obtain ⟨g39, h⟩ := og_some h
      by_cases c40 : 0 < fx0 (v11.toNat)
      · replace h := it_T h c40
        refine i_if_le_F hx hb g39 (tgt := 215) dL_isSound_210 (by decide) c40 ?_
        refine lv_iconst (v := iI 0) hx hb dL_isSound_213 rfl ?_
        obtain rfl := Option.some.inj h
        obtain rfl := hrt _ rfl
        exact e_z hx hb hr hlk (dro_P hP) (dro_D hD) hS (fun _ => 0) rfl (by first | omega | (dsimp only at *; omega) | (dsimp only [room_1] at *; omega)) (by first | omega | (dsimp only at *; omega) | (dsimp only [room_1] at *; omega)) rfl (b01 (Or.inl rfl)) dL_isSound_214
      · replace h := it_F h c40
        refine i_if_le_T hx hb g39 (tgt := 215) dL_isSound_210 (by decide) c40 ?_
        refine lv_aload_n hx hb dL_isSound_215 rfl (lv_at hl 3 rfl) ?_
        refine lv_iload hx hb dL_isSound_216 (lv_at hl 8 rfl) ?_
        refine lv_iload hx hb dL_isSound_218 (lv_at hl 5 rfl) ?_
        refine lv_iconst (v := iI 1) hx hb dL_isSound_220 rfl ?_
        refine lv_iadd hx hb dL_isSound_221 ?_
        refine w_toeq (iI_add v5 1) ?_
        refine l_iast hx hb 0 (ws' := (bx0, .inl (K 2, nx0, .inl (ci (va_up fx0 (v11.toNat) (v5 + 1))))) :: (bx1, .inl (K 2, nx1, .inl (ci fx1))) :: (bx2, .inl (K 2, nx2, .inl (ci fx2))) :: wld ga n (K 0) (K 1) M) hK hP hD hS (f := fx0) rfl g38.1 g38.2 g37 dL_isSound_222 rfl (fun H locs hP hD hS => ?_)
        refine x_iinc (v := iI (v11 + 1)) hx hb dL_isSound_223 hl (k := 8) rfl (iI_add v11 1) (by decide) [0, 1, 2, 3, 4, 5, 6, 7] (lv' := [(0, .ref (ga 0)), (1, .ref bx2), (2, .ref bx1), (3, .ref bx0), (4, .int (iI v4)), (5, .int (iI v5)), (6, .int (iI v6)), (8, .int (iI v8))]) rfl (⟨⟨Nat.ne_of_beq_eq_false rfl, Or.inl (Nat.ne_of_beq_eq_false rfl)⟩, ⟨⟨Nat.ne_of_beq_eq_false rfl, Or.inl (Nat.ne_of_beq_eq_false rfl)⟩, ⟨⟨Nat.ne_of_beq_eq_false rfl, Or.inl (Nat.ne_of_beq_eq_false rfl)⟩, ⟨⟨Nat.ne_of_beq_eq_false rfl, Or.inl (Nat.ne_of_beq_eq_false rfl)⟩, ⟨⟨Nat.ne_of_beq_eq_false rfl, Or.inl (Nat.ne_of_beq_eq_false rfl)⟩, ⟨⟨Nat.ne_of_beq_eq_false rfl, Or.inl (Nat.ne_of_beq_eq_false rfl)⟩, ⟨⟨Nat.ne_of_beq_eq_false rfl, Or.inl (Nat.ne_of_beq_eq_false rfl)⟩, ⟨⟨Nat.ne_of_beq_eq_false rfl, Or.inl (Nat.ne_of_beq_eq_false rfl)⟩, trivial⟩⟩⟩⟩⟩⟩⟩⟩) (fun ls hl => ?_)
        refine lv_goto (tgt := 199) hx hb dL_isSound_226 (by decide) ?_
        exact ih (v11 + 1) (va_up fx0 (v11.toNat) (v5 + 1)) _ h _ _ (by first | omega | (dsimp only at *; omega) | (dsimp only [room_1] at *; omega)) (by first | omega | (dsimp only at *; omega) | (dsimp only [room_1] at *; omega)) _ _ _ hP hD hS (lv_pk hl [1, 2, 3, 4, 5, 6, 7, 8, 0] rfl) (fun y7 t7 cs2 sl2 h7 h8 => kk y7 t7 cs2 sl2 (by first | (dsimp only at h7; omega) | omega | (dsimp only at *; omega)) (by first | (dsimp only at h8; omega) | omega | (dsimp only at *; omega))) hrt
    · replace h := it_F h c36
      refine i_icmp_ge_T hx hb g34 g35 (tgt := 229) dL_isSound_203 (by decide) c36 ?_
      obtain rfl := Option.some.inj h
      exact kk _ rfl _ _ (by first | omega | (dsimp only at *; omega) | (dsimp only [room_1] at *; omega)) (by first | omega | (dsimp only at *; omega) | (dsimp only [room_1] at *; omega)) _ _ _ hP hD hS (lv_pk hl [0, 1, 2, 3, 4, 5, 6] rfl)
def s_Law_isSound_12 (rec : Int → Int → (Nat → Int) → Option ((Int × (Nat → Int)) ⊕ (Int))) (n : Nat) (M : cSt) (nx0 : Nat) (nx1 : Nat) (fx1 : Nat → Int) (nx2 : Nat) (fx2 : Nat → Int) (v4 : Int) (v5 : Int) (fx0 : (Nat → Int)) : Option ((Int × (Nat → Int)) ⊕ (Int)) := ob (f_X_many n M 0) (fun x2 => og (inR v5) (og (inR x2) (if v5 < x2 then ob (f_X_ofObject n M v5 0) (fun x6 => og (inR x6) (if x6 = 0 then og (nx1 < 2147483648) (og (0 ≤ v5 ∧ v5 < (nx1 : Int)) (og (inR (fx1 (v5.toNat))) (if fx1 (v5.toNat) < 0 then rec v4 (v5 + 1) fx0 else some (.inr 0)))) else ob (f_X_ofObject n M v5 1) (fun x13 => ob (f_X_ofObject n M v5 2) (fun x14 => if x6 = 1 then ob (f_X_many n M 4) (fun x16 => ob (f_X_many n M 3) (fun x17 => og (inR x13) (og (inR x16) (if x13 < x16 then some (.inr 0) else og (inR (x13 + x14)) (og (inR (x16 + x17)) (if (x16 + x17) < (x13 + x14) then some (.inr 0) else ob (f_X_ofObject n M v5 4) (fun x24 => og (nx2 < 2147483648) (og (0 ≤ v5 ∧ v5 < (nx2 : Int)) (og (inR x24) (og (inR (fx2 (v5.toNat))) (if x24 = fx2 (v5.toNat) then og (nx1 < 2147483648) (og (0 ≤ v5 ∧ v5 < (nx1 : Int)) (og (inR (fx1 (v5.toNat))) (if fx1 (v5.toNat) < 0 then ob (g_Law_isSound_199 n M (v4 + 1) v5 x6 (x13 + x14) nx0 nx1 fx1 nx2 fx2 fu x13 fx0) (fun x41 => oi x41 (fun y41 => ob (f_Law_areFieldsSound n M v5 x6) (fun x42 => og (inR x42) (if x42 = 0 then some (.inr 0) else rec (v4 + 1) (v5 + 1) y41)))) else if x13 = fx1 (v5.toNat) then ob (f_X_ofObject n M v5 5) (fun x46 => og (inR x46) (if x46 = 1 then ob (g_Law_isSound_199 n M (v4 + 1) v5 x6 (x13 + x14) nx0 nx1 fx1 nx2 fx2 fu x13 fx0) (fun x49 => oi x49 (fun y49 => ob (f_Law_areFieldsSound n M v5 x6) (fun x50 => og (inR x50) (if x50 = 0 then some (.inr 0) else rec (v4 + 1) (v5 + 1) y49)))) else some (.inr 0))) else some (.inr 0)))) else some (.inr 0)))))))))))) else if x6 = 2 then ob (f_X_many n M 5) (fun x54 => og (inR x13) (if x13 < 100 then some (.inr 0) else og (inR (x13 + x14)) (og (inR (100 + x54)) (if (100 + x54) < (x13 + x14) then some (.inr 0) else ob (f_X_ofObject n M v5 4) (fun x60 => og (nx2 < 2147483648) (og (0 ≤ v5 ∧ v5 < (nx2 : Int)) (og (inR x60) (og (inR (fx2 (v5.toNat))) (if x60 = fx2 (v5.toNat) then og (nx1 < 2147483648) (og (0 ≤ v5 ∧ v5 < (nx1 : Int)) (og (inR (fx1 (v5.toNat))) (if fx1 (v5.toNat) < 0 then ob (g_Law_isSound_199 n M (v4 + 1) v5 x6 (x13 + x14) nx0 nx1 fx1 nx2 fx2 fu x13 fx0) (fun x70 => oi x70 (fun y70 => ob (f_Law_areFieldsSound n M v5 x6) (fun x71 => og (inR x71) (if x71 = 0 then some (.inr 0) else rec (v4 + 1) (v5 + 1) y70)))) else if x13 = fx1 (v5.toNat) then ob (f_X_ofObject n M v5 5) (fun x75 => og (inR x75) (if x75 = 1 then ob (g_Law_isSound_199 n M (v4 + 1) v5 x6 (x13 + x14) nx0 nx1 fx1 nx2 fx2 fu x13 fx0) (fun x78 => oi x78 (fun y78 => ob (f_Law_areFieldsSound n M v5 x6) (fun x79 => og (inR x79) (if x79 = 0 then some (.inr 0) else rec (v4 + 1) (v5 + 1) y78)))) else some (.inr 0))) else some (.inr 0)))) else some (.inr 0)))))))))) else og (inR x13) (if x13 < 300 then some (.inr 0) else og (inR (x13 + x14)) (if 420 < (x13 + x14) then some (.inr 0) else ob (f_X_ofObject n M v5 4) (fun x86 => og (nx2 < 2147483648) (og (0 ≤ v5 ∧ v5 < (nx2 : Int)) (og (inR x86) (og (inR (fx2 (v5.toNat))) (if x86 = fx2 (v5.toNat) then og (nx1 < 2147483648) (og (0 ≤ v5 ∧ v5 < (nx1 : Int)) (og (inR (fx1 (v5.toNat))) (if fx1 (v5.toNat) < 0 then ob (g_Law_isSound_199 n M (v4 + 1) v5 x6 (x13 + x14) nx0 nx1 fx1 nx2 fx2 fu x13 fx0) (fun x96 => oi x96 (fun y96 => ob (f_Law_areFieldsSound n M v5 x6) (fun x97 => og (inR x97) (if x97 = 0 then some (.inr 0) else rec (v4 + 1) (v5 + 1) y96)))) else if x13 = fx1 (v5.toNat) then ob (f_X_ofObject n M v5 5) (fun x101 => og (inR x101) (if x101 = 1 then ob (g_Law_isSound_199 n M (v4 + 1) v5 x6 (x13 + x14) nx0 nx1 fx1 nx2 fx2 fu x13 fx0) (fun x104 => oi x104 (fun y104 => ob (f_Law_areFieldsSound n M v5 x6) (fun x105 => og (inR x105) (if x105 = 0 then some (.inr 0) else rec (v4 + 1) (v5 + 1) y104)))) else some (.inr 0))) else some (.inr 0)))) else some (.inr 0)))))))))))) else some (.inl (v4, fx0)))))
def g_Law_isSound_12 (n : Nat) (M : cSt) (nx0 : Nat) (nx1 : Nat) (fx1 : Nat → Int) (nx2 : Nat) (fx2 : Nat → Int) : Nat → Int → Int → (Nat → Int) → Option ((Int × (Nat → Int)) ⊕ (Int))
  | 0 => fun _ _ _ => none
  | q + 1 => s_Law_isSound_12 (g_Law_isSound_12 n M nx0 nx1 fx1 nx2 fx2 q) n M nx0 nx1 fx1 nx2 fx2
set_option maxHeartbeats 4000000 in
set_option maxRecDepth 100000 in
theorem L_Law_isSound_12 {p : Program} {l : Launch} {G : Nat → Nat} {D : va_G} {K : Nat → ClassId} {e : Env} {s : State} {m : MethodId} {args : Array Value} {below : List Frame} {meth : Method} {c : Code} {A : Nat → Prop} (hx : p.tables.exec = Jvm.exec) (hb : c.code = cL_isSound) (hr : meth.sig.returnType = (some FieldType.boolean)) (hml : c.maxLocals = 12) (hown : s.vm.findClass RL = some m.cls) (hts : ∀ w ∈ lw_gw, w.before args s = true) (hlk : meth.locks = false) (hK : va_K D cl (tys K) s) (hA : ∀ q : Nat, s.heap.size ≤ q → A q) (hm : Amb G A s s.heap) (hl0 : l.stackTraces = false) {x : Int} (ga : Nat → Nat) (n : Nat) (M : cSt) (nx0 : Nat) (bx0 : Nat) (nx1 : Nat) (bx1 : Nat) (fx1 : Nat → Int) (nx2 : Nat) (bx2 : Nat) (fx2 : Nat → Int) : ∀ (q : Nat) (v4 : Int) (v5 : Int) (fx0 : (Nat → Int)) (out : (Int × (Nat → Int)) ⊕ (Int)), g_Law_isSound_12 n M nx0 nx1 fx1 nx2 fx2 q v4 v5 fx0 = some out → ∀ (cs sl : Nat), cs + q * 1 + 0 ≤ 501 → sl + q * 6 + 0 ≤ 3420 → ∀ (ls : Array Slot) (H : Heap) (locs : List Loc), va_P D cl ((bx0, .inl (K 2, nx0, .inl (ci fx0))) :: (bx1, .inl (K 2, nx1, .inl (ci fx1))) :: (bx2, .inl (K 2, nx2, .inl (ci fx2))) :: wld ga n (K 0) (K 1) M) H → va_D A ((bx0, .inl (K 2, nx0, .inl (ci fx0))) :: (bx1, .inl (K 2, nx1, .inl (ci fx1))) :: (bx2, .inl (K 2, nx2, .inl (ci fx2))) :: wld ga n (K 0) (K 1) M) → va_S A s.heap H locs → lv_has ls 12 [(0, .ref (ga 0)), (1, .ref bx2), (2, .ref bx1), (3, .ref bx0), (4, .int (iI v4)), (5, .int (iI v5))] → (∀ (y : (Int × (Nat → Int))), out = .inl y → ∀ (cs2 sl2 : Nat), cs2 ≤ cs + q * 1 → sl2 ≤ sl + q * 6 → ∀ (ls : Array Slot) (H : Heap) (locs : List Loc), va_P D cl ((bx0, .inl (K 2, nx0, .inl (ci y.2))) :: (bx1, .inl (K 2, nx1, .inl (ci fx1))) :: (bx2, .inl (K 2, nx2, .inl (ci fx2))) :: wld ga n (K 0) (K 1) M) H → va_D A ((bx0, .inl (K 2, nx0, .inl (ci y.2))) :: (bx1, .inl (K 2, nx1, .inl (ci fx1))) :: (bx2, .inl (K 2, nx2, .inl (ci fx2))) :: wld ga n (K 0) (K 1) M) → va_S A s.heap H locs → lv_has ls 12 [(0, .ref (ga 0)), (4, .int (iI y.1))] → W p l e ({ frames := 9, cells := 501, slots := 3420, locals := 246 } : Room) s m args below meth c H locs cs2 sl2 (MQ below ((CQi (iI x) D (fun _ => (bx1, .inl (K 2, nx1, .inl (ci fx1))) :: (bx2, .inl (K 2, nx2, .inl (ci fx2))) :: wld ga n (K 0) (K 1) M)) A) args s 501 3420 A) (F0 m 248 ls [])) → (∀ y : Int, out = .inr y → y = x) → W p l e ({ frames := 9, cells := 501, slots := 3420, locals := 246 } : Room) s m args below meth c H locs cs sl (MQ below ((CQi (iI x) D (fun _ => (bx1, .inl (K 2, nx1, .inl (ci fx1))) :: (bx2, .inl (K 2, nx2, .inl (ci fx2))) :: wld ga n (K 0) (K 1) M)) A) args s 501 3420 A) (F0 m 12 ls []) := by
  intro q
  induction q with
  | zero =>
    intro v4 v5 fx0 out h
    cases (show none = some out from h)
  | succ q ih =>
    intro v4 v5 fx0 out h cs sl hcs hsl ls H locs hP hD hS hl kk hrt
    replace h : s_Law_isSound_12 (g_Law_isSound_12 n M nx0 nx1 fx1 nx2 fx2 q) n M nx0 nx1 fx1 nx2 fx2 v4 v5 fx0 = some out := h
    unfold s_Law_isSound_12 at h
    have hfu : fu = 500 := rfl
    refine lv_iload hx hb dL_isSound_12 (lv_at hl 5 rfl) ?_
    refine lv_aload_n hx hb dL_isSound_14 rfl (lv_at hl 0 rfl) ?_
    refine lv_iconst (v := iI 0) hx hb dL_isSound_15 rfl ?_
    obtain ⟨x2, ex2, h⟩ := ob_some h
    refine gx_i [(bx0, .inl (K 2, nx0, .inl (ci fx0))), (bx1, .inl (K 2, nx1, .inl (ci fx1))), (bx2, .inl (K 2, nx2, .inl (ci fx2)))] [] [(bx0, .inl (K 2, nx0, .inl (ci fx0))), (bx1, .inl (K 2, nx1, .inl (ci fx1))), (bx2, .inl (K 2, nx2, .inl (ci fx2)))] [] [0, 1, 2] 3 rfl rfl rfl (by decide) (by decide) (by decide) (by decide) (run_V (rest := [.int (iI v5)]) hx hb hml hown hts hK hP hD hS hA hm (C_X_many l G D K H.size ga n M 0 ex2) (axI [] 3 _) (ax_C (X := [(bx0, .inl (K 2, nx0, .inl (ci fx0))), (bx1, .inl (K 2, nx1, .inl (ci fx1))), (bx2, .inl (K 2, nx2, .inl (ci fx2)))]) (Y := []) rfl rfl (by decide)) (ax_n (by decide) (by decide)) mok_yX9_many w_867 w_868 w_869 (rcv hK hP 3 (sk (sk (sk go_0))) rfl rfl) ⟨Nat.le_of_ble_eq_true rfl, Nat.le_of_ble_eq_true rfl⟩ rfl hl.1 rfl (Nat.le_of_ble_eq_true rfl) dL_isSound_16 ⟨(by first | omega | (dsimp only at *; omega) | (dsimp only [room_1] at *; omega)), (by first | omega | (dsimp only at *; omega) | (dsimp only [room_1] at *; omega))⟩) hP hD hS hA (fun u H locs (hP : va_P D cl ((bx0, .inl (K 2, nx0, .inl (ci fx0))) :: (bx1, .inl (K 2, nx1, .inl (ci fx1))) :: (bx2, .inl (K 2, nx2, .inl (ci fx2))) :: wld ga n (K 0) (K 1) M) H) (hD : va_D A ((bx0, .inl (K 2, nx0, .inl (ci fx0))) :: (bx1, .inl (K 2, nx1, .inl (ci fx1))) :: (bx2, .inl (K 2, nx2, .inl (ci fx2))) :: wld ga n (K 0) (K 1) M)) hS => ?_)
    obtain ⟨g3, h⟩ := og_some h
    obtain ⟨g4, h⟩ := og_some h
    by_cases c5 : v5 < x2
    · replace h := it_T h c5
      refine i_icmp_ge_F hx hb g3 g4 (tgt := 248) dL_isSound_19 (by decide) c5 ?_
      refine lv_aload_n hx hb dL_isSound_22 rfl (lv_at hl 0 rfl) ?_
      refine lv_iload hx hb dL_isSound_23 (lv_at hl 5 rfl) ?_
      refine lv_iconst (v := iI 0) hx hb dL_isSound_25 rfl ?_
      obtain ⟨x6, ex6, h⟩ := ob_some h
      refine gx_i [(bx0, .inl (K 2, nx0, .inl (ci fx0))), (bx1, .inl (K 2, nx1, .inl (ci fx1))), (bx2, .inl (K 2, nx2, .inl (ci fx2)))] [] [(bx0, .inl (K 2, nx0, .inl (ci fx0))), (bx1, .inl (K 2, nx1, .inl (ci fx1))), (bx2, .inl (K 2, nx2, .inl (ci fx2)))] [] [0, 1, 2] 3 rfl rfl rfl (by decide) (by decide) (by decide) (by decide) (run_V (rest := []) hx hb hml hown hts hK hP hD hS hA hm (C_X_ofObject l G D K H.size ga n M v5 0 ex6) (axI [] 3 _) (ax_C (X := [(bx0, .inl (K 2, nx0, .inl (ci fx0))), (bx1, .inl (K 2, nx1, .inl (ci fx1))), (bx2, .inl (K 2, nx2, .inl (ci fx2)))]) (Y := []) rfl rfl (by decide)) (ax_n (by decide) (by decide)) mok_yX9_ofObject w_858 w_859 w_860 (rcv hK hP 3 (sk (sk (sk go_0))) rfl rfl) ⟨Nat.le_of_ble_eq_true rfl, Nat.le_of_ble_eq_true rfl⟩ rfl hl.1 rfl (Nat.le_of_ble_eq_true rfl) dL_isSound_26 ⟨(by first | omega | (dsimp only at *; omega) | (dsimp only [room_1] at *; omega)), (by first | omega | (dsimp only at *; omega) | (dsimp only [room_1] at *; omega))⟩) hP hD hS hA (fun u H locs (hP : va_P D cl ((bx0, .inl (K 2, nx0, .inl (ci fx0))) :: (bx1, .inl (K 2, nx1, .inl (ci fx1))) :: (bx2, .inl (K 2, nx2, .inl (ci fx2))) :: wld ga n (K 0) (K 1) M) H) (hD : va_D A ((bx0, .inl (K 2, nx0, .inl (ci fx0))) :: (bx1, .inl (K 2, nx1, .inl (ci fx1))) :: (bx2, .inl (K 2, nx2, .inl (ci fx2))) :: wld ga n (K 0) (K 1) M)) hS => ?_)
      refine x_istore hx hb dL_isSound_29 hl (by decide) [0, 1, 2, 3, 4, 5] (lv' := [(0, .ref (ga 0)), (1, .ref bx2), (2, .ref bx1), (3, .ref bx0), (4, .int (iI v4)), (5, .int (iI v5))]) rfl (⟨⟨Nat.ne_of_beq_eq_false rfl, Or.inl (Nat.ne_of_beq_eq_false rfl)⟩, ⟨⟨Nat.ne_of_beq_eq_false rfl, Or.inl (Nat.ne_of_beq_eq_false rfl)⟩, ⟨⟨Nat.ne_of_beq_eq_false rfl, Or.inl (Nat.ne_of_beq_eq_false rfl)⟩, ⟨⟨Nat.ne_of_beq_eq_false rfl, Or.inl (Nat.ne_of_beq_eq_false rfl)⟩, ⟨⟨Nat.ne_of_beq_eq_false rfl, Or.inl (Nat.ne_of_beq_eq_false rfl)⟩, ⟨⟨Nat.ne_of_beq_eq_false rfl, Or.inr rfl⟩, trivial⟩⟩⟩⟩⟩⟩) (fun ls hl => ?_)
      refine lv_iload hx hb dL_isSound_31 (lv_at hl 0 rfl) ?_
      obtain ⟨g7, h⟩ := og_some h
      by_cases c8 : x6 = 0
      · replace h := it_T h c8
        refine i_if_ne_F hx hb g7 (tgt := 45) dL_isSound_33 (by decide) c8 ?_
        refine lv_aload_n hx hb dL_isSound_36 rfl (lv_at hl 3 rfl) ?_
        refine lv_iload hx hb dL_isSound_37 (lv_at hl 6 rfl) ?_
        obtain ⟨g9, h⟩ := og_some h
        obtain ⟨g10, h⟩ := og_some h
        refine l_iald hx hb 1 hK hP (f := fx1) rfl g10.1 g10.2 g9 dL_isSound_39 ?_
        obtain ⟨g11, h⟩ := og_some h
        by_cases c12 : fx1 (v5.toNat) < 0
        · replace h := it_T h c12
          refine i_if_lt_T hx hb g11 (tgt := 242) dL_isSound_40 (by decide) c12 ?_
          refine x_iinc (v := iI (v5 + 1)) hx hb dL_isSound_242 hl (k := 6) rfl (iI_add v5 1) (by decide) [0, 1, 2, 3, 4, 5] (lv' := [(6, .int (iI x6)), (0, .ref (ga 0)), (1, .ref bx2), (2, .ref bx1), (3, .ref bx0), (4, .int (iI v4))]) rfl (⟨⟨Nat.ne_of_beq_eq_false rfl, Or.inl (Nat.ne_of_beq_eq_false rfl)⟩, ⟨⟨Nat.ne_of_beq_eq_false rfl, Or.inl (Nat.ne_of_beq_eq_false rfl)⟩, ⟨⟨Nat.ne_of_beq_eq_false rfl, Or.inl (Nat.ne_of_beq_eq_false rfl)⟩, ⟨⟨Nat.ne_of_beq_eq_false rfl, Or.inl (Nat.ne_of_beq_eq_false rfl)⟩, ⟨⟨Nat.ne_of_beq_eq_false rfl, Or.inl (Nat.ne_of_beq_eq_false rfl)⟩, ⟨⟨Nat.ne_of_beq_eq_false rfl, Or.inr rfl⟩, trivial⟩⟩⟩⟩⟩⟩) (fun ls hl => ?_)
          refine lv_goto (tgt := 12) hx hb dL_isSound_245 (by decide) ?_
          exact ih v4 (v5 + 1) fx0 _ h _ _ (by first | omega | (dsimp only at *; omega) | (dsimp only [room_1] at *; omega)) (by first | omega | (dsimp only at *; omega) | (dsimp only [room_1] at *; omega)) _ _ _ hP hD hS (lv_pk hl [2, 3, 4, 5, 6, 0] rfl) (fun y7 t7 cs2 sl2 h7 h8 => kk y7 t7 cs2 sl2 (by first | (dsimp only at h7; omega) | omega | (dsimp only at *; omega)) (by first | (dsimp only at h8; omega) | omega | (dsimp only at *; omega))) hrt
        · replace h := it_F h c12
          refine i_if_lt_F hx hb g11 (tgt := 242) dL_isSound_40 (by decide) c12 ?_
          refine lv_iconst (v := iI 0) hx hb dL_isSound_43 rfl ?_
          obtain rfl := Option.some.inj h
          obtain rfl := hrt _ rfl
          exact e_z hx hb hr hlk (dro_P hP) (dro_D hD) hS (fun _ => 0) rfl (by first | omega | (dsimp only at *; omega) | (dsimp only [room_1] at *; omega)) (by first | omega | (dsimp only at *; omega) | (dsimp only [room_1] at *; omega)) rfl (b01 (Or.inl rfl)) dL_isSound_44
      · replace h := it_F h c8
        refine i_if_ne_T hx hb g7 (tgt := 45) dL_isSound_33 (by decide) c8 ?_
        refine x_iinc (v := iI (v4 + 1)) hx hb dL_isSound_45 hl (k := 5) rfl (iI_add v4 1) (by decide) [0, 1, 2, 3, 4, 6] (lv' := [(6, .int (iI x6)), (0, .ref (ga 0)), (1, .ref bx2), (2, .ref bx1), (3, .ref bx0), (5, .int (iI v5))]) rfl (⟨⟨Nat.ne_of_beq_eq_false rfl, Or.inl (Nat.ne_of_beq_eq_false rfl)⟩, ⟨⟨Nat.ne_of_beq_eq_false rfl, Or.inl (Nat.ne_of_beq_eq_false rfl)⟩, ⟨⟨Nat.ne_of_beq_eq_false rfl, Or.inl (Nat.ne_of_beq_eq_false rfl)⟩, ⟨⟨Nat.ne_of_beq_eq_false rfl, Or.inl (Nat.ne_of_beq_eq_false rfl)⟩, ⟨⟨Nat.ne_of_beq_eq_false rfl, Or.inr rfl⟩, ⟨⟨Nat.ne_of_beq_eq_false rfl, Or.inl (Nat.ne_of_beq_eq_false rfl)⟩, trivial⟩⟩⟩⟩⟩⟩) (fun ls hl => ?_)
        refine lv_aload_n hx hb dL_isSound_48 rfl (lv_at hl 2 rfl) ?_
        refine lv_iload hx hb dL_isSound_49 (lv_at hl 6 rfl) ?_
        refine lv_iconst (v := iI 1) hx hb dL_isSound_51 rfl ?_
        obtain ⟨x13, ex13, h⟩ := ob_some h
        refine gx_i [(bx0, .inl (K 2, nx0, .inl (ci fx0))), (bx1, .inl (K 2, nx1, .inl (ci fx1))), (bx2, .inl (K 2, nx2, .inl (ci fx2)))] [] [(bx0, .inl (K 2, nx0, .inl (ci fx0))), (bx1, .inl (K 2, nx1, .inl (ci fx1))), (bx2, .inl (K 2, nx2, .inl (ci fx2)))] [] [0, 1, 2] 3 rfl rfl rfl (by decide) (by decide) (by decide) (by decide) (run_V (rest := []) hx hb hml hown hts hK hP hD hS hA hm (C_X_ofObject l G D K H.size ga n M v5 1 ex13) (axI [] 3 _) (ax_C (X := [(bx0, .inl (K 2, nx0, .inl (ci fx0))), (bx1, .inl (K 2, nx1, .inl (ci fx1))), (bx2, .inl (K 2, nx2, .inl (ci fx2)))]) (Y := []) rfl rfl (by decide)) (ax_n (by decide) (by decide)) mok_yX9_ofObject w_858 w_859 w_860 (rcv hK hP 3 (sk (sk (sk go_0))) rfl rfl) ⟨Nat.le_of_ble_eq_true rfl, Nat.le_of_ble_eq_true rfl⟩ rfl hl.1 rfl (Nat.le_of_ble_eq_true rfl) dL_isSound_52 ⟨(by first | omega | (dsimp only at *; omega) | (dsimp only [room_1] at *; omega)), (by first | omega | (dsimp only at *; omega) | (dsimp only [room_1] at *; omega))⟩) hP hD hS hA (fun u H locs (hP : va_P D cl ((bx0, .inl (K 2, nx0, .inl (ci fx0))) :: (bx1, .inl (K 2, nx1, .inl (ci fx1))) :: (bx2, .inl (K 2, nx2, .inl (ci fx2))) :: wld ga n (K 0) (K 1) M) H) (hD : va_D A ((bx0, .inl (K 2, nx0, .inl (ci fx0))) :: (bx1, .inl (K 2, nx1, .inl (ci fx1))) :: (bx2, .inl (K 2, nx2, .inl (ci fx2))) :: wld ga n (K 0) (K 1) M)) hS => ?_)
        refine x_istore hx hb dL_isSound_55 hl (by decide) [0, 1, 2, 3, 4, 5, 6] (lv' := [(4, .int (iI (v4 + 1))), (6, .int (iI x6)), (0, .ref (ga 0)), (1, .ref bx2), (2, .ref bx1), (3, .ref bx0), (5, .int (iI v5))]) rfl (⟨⟨Nat.ne_of_beq_eq_false rfl, Or.inl (Nat.ne_of_beq_eq_false rfl)⟩, ⟨⟨Nat.ne_of_beq_eq_false rfl, Or.inr rfl⟩, ⟨⟨Nat.ne_of_beq_eq_false rfl, Or.inl (Nat.ne_of_beq_eq_false rfl)⟩, ⟨⟨Nat.ne_of_beq_eq_false rfl, Or.inl (Nat.ne_of_beq_eq_false rfl)⟩, ⟨⟨Nat.ne_of_beq_eq_false rfl, Or.inl (Nat.ne_of_beq_eq_false rfl)⟩, ⟨⟨Nat.ne_of_beq_eq_false rfl, Or.inl (Nat.ne_of_beq_eq_false rfl)⟩, ⟨⟨Nat.ne_of_beq_eq_false rfl, Or.inl (Nat.ne_of_beq_eq_false rfl)⟩, trivial⟩⟩⟩⟩⟩⟩⟩) (fun ls hl => ?_)
        refine lv_iload hx hb dL_isSound_57 (lv_at hl 0 rfl) ?_
        refine lv_aload_n hx hb dL_isSound_59 rfl (lv_at hl 3 rfl) ?_
        refine lv_iload hx hb dL_isSound_60 (lv_at hl 7 rfl) ?_
        refine lv_iconst (v := iI 2) hx hb dL_isSound_62 rfl ?_
        obtain ⟨x14, ex14, h⟩ := ob_some h
        refine gx_i [(bx0, .inl (K 2, nx0, .inl (ci fx0))), (bx1, .inl (K 2, nx1, .inl (ci fx1))), (bx2, .inl (K 2, nx2, .inl (ci fx2)))] [] [(bx0, .inl (K 2, nx0, .inl (ci fx0))), (bx1, .inl (K 2, nx1, .inl (ci fx1))), (bx2, .inl (K 2, nx2, .inl (ci fx2)))] [] [0, 1, 2] 3 rfl rfl rfl (by decide) (by decide) (by decide) (by decide) (run_V (rest := [.int (iI x13)]) hx hb hml hown hts hK hP hD hS hA hm (C_X_ofObject l G D K H.size ga n M v5 2 ex14) (axI [] 3 _) (ax_C (X := [(bx0, .inl (K 2, nx0, .inl (ci fx0))), (bx1, .inl (K 2, nx1, .inl (ci fx1))), (bx2, .inl (K 2, nx2, .inl (ci fx2)))]) (Y := []) rfl rfl (by decide)) (ax_n (by decide) (by decide)) mok_yX9_ofObject w_858 w_859 w_860 (rcv hK hP 3 (sk (sk (sk go_0))) rfl rfl) ⟨Nat.le_of_ble_eq_true rfl, Nat.le_of_ble_eq_true rfl⟩ rfl hl.1 rfl (Nat.le_of_ble_eq_true rfl) dL_isSound_63 ⟨(by first | omega | (dsimp only at *; omega) | (dsimp only [room_1] at *; omega)), (by first | omega | (dsimp only at *; omega) | (dsimp only [room_1] at *; omega))⟩) hP hD hS hA (fun u H locs (hP : va_P D cl ((bx0, .inl (K 2, nx0, .inl (ci fx0))) :: (bx1, .inl (K 2, nx1, .inl (ci fx1))) :: (bx2, .inl (K 2, nx2, .inl (ci fx2))) :: wld ga n (K 0) (K 1) M) H) (hD : va_D A ((bx0, .inl (K 2, nx0, .inl (ci fx0))) :: (bx1, .inl (K 2, nx1, .inl (ci fx1))) :: (bx2, .inl (K 2, nx2, .inl (ci fx2))) :: wld ga n (K 0) (K 1) M)) hS => ?_)
        refine lv_iadd hx hb dL_isSound_66 ?_
        refine w_toeq (iI_add x13 x14) ?_
        refine x_istore hx hb dL_isSound_67 hl (by decide) [0, 1, 2, 3, 4, 5, 6, 7] (lv' := [(7, .int (iI x13)), (4, .int (iI (v4 + 1))), (6, .int (iI x6)), (0, .ref (ga 0)), (1, .ref bx2), (2, .ref bx1), (3, .ref bx0), (5, .int (iI v5))]) rfl (⟨⟨Nat.ne_of_beq_eq_false rfl, Or.inr rfl⟩, ⟨⟨Nat.ne_of_beq_eq_false rfl, Or.inl (Nat.ne_of_beq_eq_false rfl)⟩, ⟨⟨Nat.ne_of_beq_eq_false rfl, Or.inl (Nat.ne_of_beq_eq_false rfl)⟩, ⟨⟨Nat.ne_of_beq_eq_false rfl, Or.inl (Nat.ne_of_beq_eq_false rfl)⟩, ⟨⟨Nat.ne_of_beq_eq_false rfl, Or.inl (Nat.ne_of_beq_eq_false rfl)⟩, ⟨⟨Nat.ne_of_beq_eq_false rfl, Or.inl (Nat.ne_of_beq_eq_false rfl)⟩, ⟨⟨Nat.ne_of_beq_eq_false rfl, Or.inl (Nat.ne_of_beq_eq_false rfl)⟩, ⟨⟨Nat.ne_of_beq_eq_false rfl, Or.inl (Nat.ne_of_beq_eq_false rfl)⟩, trivial⟩⟩⟩⟩⟩⟩⟩⟩) (fun ls hl => ?_)
        refine lv_iload hx hb dL_isSound_69 (lv_at hl 3 rfl) ?_
        refine lv_iconst (v := iI 1) hx hb dL_isSound_71 rfl ?_
        by_cases c15 : x6 = 1
        · replace h := it_T h c15
          refine i_icmp_ne_F hx hb g7 ⟨by decide, by decide⟩ (tgt := 83) dL_isSound_72 (by decide) c15 ?_
          refine lv_aload_n hx hb dL_isSound_75 rfl (lv_at hl 4 rfl) ?_
          refine lv_iconst (v := iI 4) hx hb dL_isSound_76 rfl ?_
          obtain ⟨x16, ex16, h⟩ := ob_some h
          refine gx_i [(bx0, .inl (K 2, nx0, .inl (ci fx0))), (bx1, .inl (K 2, nx1, .inl (ci fx1))), (bx2, .inl (K 2, nx2, .inl (ci fx2)))] [] [(bx0, .inl (K 2, nx0, .inl (ci fx0))), (bx1, .inl (K 2, nx1, .inl (ci fx1))), (bx2, .inl (K 2, nx2, .inl (ci fx2)))] [] [0, 1, 2] 3 rfl rfl rfl (by decide) (by decide) (by decide) (by decide) (run_V (rest := []) hx hb hml hown hts hK hP hD hS hA hm (C_X_many l G D K H.size ga n M 4 ex16) (axI [] 3 _) (ax_C (X := [(bx0, .inl (K 2, nx0, .inl (ci fx0))), (bx1, .inl (K 2, nx1, .inl (ci fx1))), (bx2, .inl (K 2, nx2, .inl (ci fx2)))]) (Y := []) rfl rfl (by decide)) (ax_n (by decide) (by decide)) mok_yX9_many w_867 w_868 w_869 (rcv hK hP 3 (sk (sk (sk go_0))) rfl rfl) ⟨Nat.le_of_ble_eq_true rfl, Nat.le_of_ble_eq_true rfl⟩ rfl hl.1 rfl (Nat.le_of_ble_eq_true rfl) dL_isSound_77 ⟨(by first | omega | (dsimp only at *; omega) | (dsimp only [room_1] at *; omega)), (by first | omega | (dsimp only at *; omega) | (dsimp only [room_1] at *; omega))⟩) hP hD hS hA (fun u H locs (hP : va_P D cl ((bx0, .inl (K 2, nx0, .inl (ci fx0))) :: (bx1, .inl (K 2, nx1, .inl (ci fx1))) :: (bx2, .inl (K 2, nx2, .inl (ci fx2))) :: wld ga n (K 0) (K 1) M) H) (hD : va_D A ((bx0, .inl (K 2, nx0, .inl (ci fx0))) :: (bx1, .inl (K 2, nx1, .inl (ci fx1))) :: (bx2, .inl (K 2, nx2, .inl (ci fx2))) :: wld ga n (K 0) (K 1) M)) hS => ?_)
          refine lv_goto (tgt := 97) hx hb dL_isSound_80 (by decide) ?_
          refine x_istore hx hb dL_isSound_97 hl (by decide) [0, 1, 2, 3, 4, 5, 6, 7, 8] (lv' := [(8, .int (iI (x13 + x14))), (7, .int (iI x13)), (4, .int (iI (v4 + 1))), (6, .int (iI x6)), (0, .ref (ga 0)), (1, .ref bx2), (2, .ref bx1), (3, .ref bx0), (5, .int (iI v5))]) rfl (⟨⟨Nat.ne_of_beq_eq_false rfl, Or.inr rfl⟩, ⟨⟨Nat.ne_of_beq_eq_false rfl, Or.inl (Nat.ne_of_beq_eq_false rfl)⟩, ⟨⟨Nat.ne_of_beq_eq_false rfl, Or.inl (Nat.ne_of_beq_eq_false rfl)⟩, ⟨⟨Nat.ne_of_beq_eq_false rfl, Or.inl (Nat.ne_of_beq_eq_false rfl)⟩, ⟨⟨Nat.ne_of_beq_eq_false rfl, Or.inl (Nat.ne_of_beq_eq_false rfl)⟩, ⟨⟨Nat.ne_of_beq_eq_false rfl, Or.inl (Nat.ne_of_beq_eq_false rfl)⟩, ⟨⟨Nat.ne_of_beq_eq_false rfl, Or.inl (Nat.ne_of_beq_eq_false rfl)⟩, ⟨⟨Nat.ne_of_beq_eq_false rfl, Or.inl (Nat.ne_of_beq_eq_false rfl)⟩, ⟨⟨Nat.ne_of_beq_eq_false rfl, Or.inl (Nat.ne_of_beq_eq_false rfl)⟩, trivial⟩⟩⟩⟩⟩⟩⟩⟩⟩) (fun ls hl => ?_)
          refine lv_iload hx hb dL_isSound_99 (lv_at hl 4 rfl) ?_
          refine lv_iconst (v := iI 1) hx hb dL_isSound_101 rfl ?_
          refine i_icmp_ne_F hx hb g7 ⟨by decide, by decide⟩ (tgt := 116) dL_isSound_102 (by decide) c15 ?_
          refine lv_iload hx hb dL_isSound_105 (lv_at hl 0 rfl) ?_
          refine lv_aload_n hx hb dL_isSound_107 rfl (lv_at hl 5 rfl) ?_
          refine lv_iconst (v := iI 3) hx hb dL_isSound_108 rfl ?_
          obtain ⟨x17, ex17, h⟩ := ob_some h
          refine gx_i [(bx0, .inl (K 2, nx0, .inl (ci fx0))), (bx1, .inl (K 2, nx1, .inl (ci fx1))), (bx2, .inl (K 2, nx2, .inl (ci fx2)))] [] [(bx0, .inl (K 2, nx0, .inl (ci fx0))), (bx1, .inl (K 2, nx1, .inl (ci fx1))), (bx2, .inl (K 2, nx2, .inl (ci fx2)))] [] [0, 1, 2] 3 rfl rfl rfl (by decide) (by decide) (by decide) (by decide) (run_V (rest := [.int (iI x16)]) hx hb hml hown hts hK hP hD hS hA hm (C_X_many l G D K H.size ga n M 3 ex17) (axI [] 3 _) (ax_C (X := [(bx0, .inl (K 2, nx0, .inl (ci fx0))), (bx1, .inl (K 2, nx1, .inl (ci fx1))), (bx2, .inl (K 2, nx2, .inl (ci fx2)))]) (Y := []) rfl rfl (by decide)) (ax_n (by decide) (by decide)) mok_yX9_many w_867 w_868 w_869 (rcv hK hP 3 (sk (sk (sk go_0))) rfl rfl) ⟨Nat.le_of_ble_eq_true rfl, Nat.le_of_ble_eq_true rfl⟩ rfl hl.1 rfl (Nat.le_of_ble_eq_true rfl) dL_isSound_109 ⟨(by first | omega | (dsimp only at *; omega) | (dsimp only [room_1] at *; omega)), (by first | omega | (dsimp only at *; omega) | (dsimp only [room_1] at *; omega))⟩) hP hD hS hA (fun u H locs (hP : va_P D cl ((bx0, .inl (K 2, nx0, .inl (ci fx0))) :: (bx1, .inl (K 2, nx1, .inl (ci fx1))) :: (bx2, .inl (K 2, nx2, .inl (ci fx2))) :: wld ga n (K 0) (K 1) M) H) (hD : va_D A ((bx0, .inl (K 2, nx0, .inl (ci fx0))) :: (bx1, .inl (K 2, nx1, .inl (ci fx1))) :: (bx2, .inl (K 2, nx2, .inl (ci fx2))) :: wld ga n (K 0) (K 1) M)) hS => ?_)
          refine lv_iadd hx hb dL_isSound_112 ?_
          refine w_toeq (iI_add x16 x17) ?_
          refine lv_goto (tgt := 136) hx hb dL_isSound_113 (by decide) ?_
          refine x_istore hx hb dL_isSound_136 hl (by decide) [0, 1, 2, 3, 4, 5, 6, 7, 8, 9] (lv' := [(9, .int (iI x16)), (8, .int (iI (x13 + x14))), (7, .int (iI x13)), (4, .int (iI (v4 + 1))), (6, .int (iI x6)), (0, .ref (ga 0)), (1, .ref bx2), (2, .ref bx1), (3, .ref bx0), (5, .int (iI v5))]) rfl (⟨⟨Nat.ne_of_beq_eq_false rfl, Or.inr rfl⟩, ⟨⟨Nat.ne_of_beq_eq_false rfl, Or.inl (Nat.ne_of_beq_eq_false rfl)⟩, ⟨⟨Nat.ne_of_beq_eq_false rfl, Or.inl (Nat.ne_of_beq_eq_false rfl)⟩, ⟨⟨Nat.ne_of_beq_eq_false rfl, Or.inl (Nat.ne_of_beq_eq_false rfl)⟩, ⟨⟨Nat.ne_of_beq_eq_false rfl, Or.inl (Nat.ne_of_beq_eq_false rfl)⟩, ⟨⟨Nat.ne_of_beq_eq_false rfl, Or.inl (Nat.ne_of_beq_eq_false rfl)⟩, ⟨⟨Nat.ne_of_beq_eq_false rfl, Or.inl (Nat.ne_of_beq_eq_false rfl)⟩, ⟨⟨Nat.ne_of_beq_eq_false rfl, Or.inl (Nat.ne_of_beq_eq_false rfl)⟩, ⟨⟨Nat.ne_of_beq_eq_false rfl, Or.inl (Nat.ne_of_beq_eq_false rfl)⟩, ⟨⟨Nat.ne_of_beq_eq_false rfl, Or.inl (Nat.ne_of_beq_eq_false rfl)⟩, trivial⟩⟩⟩⟩⟩⟩⟩⟩⟩⟩) (fun ls hl => ?_)
          refine lv_iload hx hb dL_isSound_138 (lv_at hl 3 rfl) ?_
          refine lv_iload hx hb dL_isSound_140 (lv_at hl 1 rfl) ?_
          obtain ⟨g18, h⟩ := og_some h
          obtain ⟨g19, h⟩ := og_some h
          by_cases c20 : x13 < x16
          · replace h := it_T h c20
            refine i_icmp_lt_T hx hb g18 g19 (tgt := 193) dL_isSound_142 (by decide) c20 ?_
            refine lv_iconst (v := iI 0) hx hb dL_isSound_193 rfl ?_
            obtain rfl := Option.some.inj h
            obtain rfl := hrt _ rfl
            exact e_z hx hb hr hlk (dro_P hP) (dro_D hD) hS (fun _ => 0) rfl (by first | omega | (dsimp only at *; omega) | (dsimp only [room_1] at *; omega)) (by first | omega | (dsimp only at *; omega) | (dsimp only [room_1] at *; omega)) rfl (b01 (Or.inl rfl)) dL_isSound_194
          · replace h := it_F h c20
            refine i_icmp_lt_F hx hb g18 g19 (tgt := 193) dL_isSound_142 (by decide) c20 ?_
            refine lv_iload hx hb dL_isSound_145 (lv_at hl 2 rfl) ?_
            refine lv_iload hx hb dL_isSound_147 (lv_at hl 0 rfl) ?_
            obtain ⟨g21, h⟩ := og_some h
            obtain ⟨g22, h⟩ := og_some h
            by_cases c23 : (x16 + x17) < (x13 + x14)
            · replace h := it_T h c23
              refine i_icmp_gt_T hx hb g21 g22 (tgt := 193) dL_isSound_149 (by decide) c23 ?_
              refine lv_iconst (v := iI 0) hx hb dL_isSound_193 rfl ?_
              obtain rfl := Option.some.inj h
              obtain rfl := hrt _ rfl
              exact e_z hx hb hr hlk (dro_P hP) (dro_D hD) hS (fun _ => 0) rfl (by first | omega | (dsimp only at *; omega) | (dsimp only [room_1] at *; omega)) (by first | omega | (dsimp only at *; omega) | (dsimp only [room_1] at *; omega)) rfl (b01 (Or.inl rfl)) dL_isSound_194
            · replace h := it_F h c23
              refine i_icmp_gt_F hx hb g21 g22 (tgt := 193) dL_isSound_149 (by decide) c23 ?_
              refine lv_aload_n hx hb dL_isSound_152 rfl (lv_at hl 6 rfl) ?_
              refine lv_iload hx hb dL_isSound_153 (lv_at hl 10 rfl) ?_
              refine lv_iconst (v := iI 4) hx hb dL_isSound_155 rfl ?_
              obtain ⟨x24, ex24, h⟩ := ob_some h
              refine gx_i [(bx0, .inl (K 2, nx0, .inl (ci fx0))), (bx1, .inl (K 2, nx1, .inl (ci fx1))), (bx2, .inl (K 2, nx2, .inl (ci fx2)))] [] [(bx0, .inl (K 2, nx0, .inl (ci fx0))), (bx1, .inl (K 2, nx1, .inl (ci fx1))), (bx2, .inl (K 2, nx2, .inl (ci fx2)))] [] [0, 1, 2] 3 rfl rfl rfl (by decide) (by decide) (by decide) (by decide) (run_V (rest := []) hx hb hml hown hts hK hP hD hS hA hm (C_X_ofObject l G D K H.size ga n M v5 4 ex24) (axI [] 3 _) (ax_C (X := [(bx0, .inl (K 2, nx0, .inl (ci fx0))), (bx1, .inl (K 2, nx1, .inl (ci fx1))), (bx2, .inl (K 2, nx2, .inl (ci fx2)))]) (Y := []) rfl rfl (by decide)) (ax_n (by decide) (by decide)) mok_yX9_ofObject w_858 w_859 w_860 (rcv hK hP 3 (sk (sk (sk go_0))) rfl rfl) ⟨Nat.le_of_ble_eq_true rfl, Nat.le_of_ble_eq_true rfl⟩ rfl hl.1 rfl (Nat.le_of_ble_eq_true rfl) dL_isSound_156 ⟨(by first | omega | (dsimp only at *; omega) | (dsimp only [room_1] at *; omega)), (by first | omega | (dsimp only at *; omega) | (dsimp only [room_1] at *; omega))⟩) hP hD hS hA (fun u H locs (hP : va_P D cl ((bx0, .inl (K 2, nx0, .inl (ci fx0))) :: (bx1, .inl (K 2, nx1, .inl (ci fx1))) :: (bx2, .inl (K 2, nx2, .inl (ci fx2))) :: wld ga n (K 0) (K 1) M) H) (hD : va_D A ((bx0, .inl (K 2, nx0, .inl (ci fx0))) :: (bx1, .inl (K 2, nx1, .inl (ci fx1))) :: (bx2, .inl (K 2, nx2, .inl (ci fx2))) :: wld ga n (K 0) (K 1) M)) hS => ?_)
              refine lv_aload_n hx hb dL_isSound_159 rfl (lv_at hl 7 rfl) ?_
              refine lv_iload hx hb dL_isSound_160 (lv_at hl 10 rfl) ?_
              obtain ⟨g25, h⟩ := og_some h
              obtain ⟨g26, h⟩ := og_some h
              refine l_iald hx hb 2 hK hP (f := fx2) rfl g26.1 g26.2 g25 dL_isSound_162 ?_
              obtain ⟨g27, h⟩ := og_some h
              obtain ⟨g28, h⟩ := og_some h
              by_cases c29 : x24 = fx2 (v5.toNat)
              · replace h := it_T h c29
                refine i_icmp_ne_F hx hb g27 g28 (tgt := 193) dL_isSound_163 (by decide) c29 ?_
                refine lv_aload_n hx hb dL_isSound_166 rfl (lv_at hl 8 rfl) ?_
                refine lv_iload hx hb dL_isSound_167 (lv_at hl 10 rfl) ?_
                obtain ⟨g30, h⟩ := og_some h
                obtain ⟨g31, h⟩ := og_some h
                refine l_iald hx hb 1 hK hP (f := fx1) rfl g31.1 g31.2 g30 dL_isSound_169 ?_
                obtain ⟨g32, h⟩ := og_some h
                by_cases c33 : fx1 (v5.toNat) < 0
                · replace h := it_T h c33
                  refine i_if_lt_T hx hb g32 (tgt := 195) dL_isSound_170 (by decide) c33 ?_
                  refine lv_iload hx hb dL_isSound_195 (lv_at hl 3 rfl) ?_
                  refine x_istore hx hb dL_isSound_197 hl (by decide) [0, 1, 2, 3, 4, 5, 6, 7, 8, 9, 10] (lv' := [(10, .int (iI (x16 + x17))), (9, .int (iI x16)), (8, .int (iI (x13 + x14))), (7, .int (iI x13)), (4, .int (iI (v4 + 1))), (6, .int (iI x6)), (0, .ref (ga 0)), (1, .ref bx2), (2, .ref bx1), (3, .ref bx0), (5, .int (iI v5))]) rfl (⟨⟨Nat.ne_of_beq_eq_false rfl, Or.inr rfl⟩, ⟨⟨Nat.ne_of_beq_eq_false rfl, Or.inl (Nat.ne_of_beq_eq_false rfl)⟩, ⟨⟨Nat.ne_of_beq_eq_false rfl, Or.inl (Nat.ne_of_beq_eq_false rfl)⟩, ⟨⟨Nat.ne_of_beq_eq_false rfl, Or.inl (Nat.ne_of_beq_eq_false rfl)⟩, ⟨⟨Nat.ne_of_beq_eq_false rfl, Or.inl (Nat.ne_of_beq_eq_false rfl)⟩, ⟨⟨Nat.ne_of_beq_eq_false rfl, Or.inl (Nat.ne_of_beq_eq_false rfl)⟩, ⟨⟨Nat.ne_of_beq_eq_false rfl, Or.inl (Nat.ne_of_beq_eq_false rfl)⟩, ⟨⟨Nat.ne_of_beq_eq_false rfl, Or.inl (Nat.ne_of_beq_eq_false rfl)⟩, ⟨⟨Nat.ne_of_beq_eq_false rfl, Or.inl (Nat.ne_of_beq_eq_false rfl)⟩, ⟨⟨Nat.ne_of_beq_eq_false rfl, Or.inl (Nat.ne_of_beq_eq_false rfl)⟩, ⟨⟨Nat.ne_of_beq_eq_false rfl, Or.inl (Nat.ne_of_beq_eq_false rfl)⟩, trivial⟩⟩⟩⟩⟩⟩⟩⟩⟩⟩⟩) (fun ls hl => ?_)
                  obtain ⟨x41, ex41, h⟩ := ob_some h
                  refine L_Law_isSound_199 hx hb hr hml hown hts hlk hK hA hm hl0 ga n M (v4 + 1) v5 x6 (x13 + x14) nx0 bx0 nx1 bx1 fx1 nx2 bx2 fx2  fu x13 fx0 _ ex41 _ _ (by first | omega | (dsimp only at *; omega) | (dsimp only [room_1] at *; omega)) (by first | omega | (dsimp only at *; omega) | (dsimp only [room_1] at *; omega)) _ _ _ hP hD hS (lv_pk hl [7, 8, 9, 10, 5, 11, 6, 3, 0] rfl) (fun y41 ty41 cs41 sl41 hcs41 hsl41 ls H locs (hP : va_P D cl ((bx0, .inl (K 2, nx0, .inl (ci y41))) :: (bx1, .inl (K 2, nx1, .inl (ci fx1))) :: (bx2, .inl (K 2, nx2, .inl (ci fx2))) :: wld ga n (K 0) (K 1) M) H) (hD : va_D A ((bx0, .inl (K 2, nx0, .inl (ci y41))) :: (bx1, .inl (K 2, nx1, .inl (ci fx1))) :: (bx2, .inl (K 2, nx2, .inl (ci fx2))) :: wld ga n (K 0) (K 1) M)) hS (hl : lv_has ls 12 [(0, .ref (ga 0)), (1, .ref bx2), (2, .ref bx1), (3, .ref bx0), (4, .int (iI (v4 + 1))), (5, .int (iI v5)), (6, .int (iI x6))]) => ?_) (fun y41 ty41 => hrt _ (oi_r h ty41))
                  replace h := oi_l h ty41
                  refine lv_aload_n hx hb dL_isSound_229 rfl (lv_at hl 0 rfl) ?_
                  refine lv_iload hx hb dL_isSound_230 (lv_at hl 5 rfl) ?_
                  refine lv_iload hx hb dL_isSound_232 (lv_at hl 6 rfl) ?_
                  obtain ⟨x42, ex42, h⟩ := ob_some h
                  refine gx_i [(bx0, .inl (K 2, nx0, .inl (ci y41))), (bx1, .inl (K 2, nx1, .inl (ci fx1))), (bx2, .inl (K 2, nx2, .inl (ci fx2)))] [] [(bx0, .inl (K 2, nx0, .inl (ci y41))), (bx1, .inl (K 2, nx1, .inl (ci fx1))), (bx2, .inl (K 2, nx2, .inl (ci fx2)))] [] [0, 1, 2] 3 rfl rfl rfl (by decide) (by decide) (by decide) (by decide) (run_SW (rest := []) hx hb hml hown hts hK hP hD hS hA hm (C_Law_areFieldsSound l G D K hl0 H.size ga n M v5 x6 ex42) (axI [] 3 _) (ax_C (X := [(bx0, .inl (K 2, nx0, .inl (ci y41))), (bx1, .inl (K 2, nx1, .inl (ci fx1))), (bx2, .inl (K 2, nx2, .inl (ci fx2)))]) (Y := []) rfl rfl (by decide)) (ax_n (by decide) (by decide)) mokh_yL_areFieldsSound w_960 w_961 ⟨Nat.le_of_ble_eq_true rfl, Nat.le_of_ble_eq_true rfl⟩ rfl hl.1 rfl (Nat.le_of_ble_eq_true rfl) dL_isSound_234 ⟨(by first | omega | (dsimp only at *; omega) | (dsimp only [room_1] at *; omega)), (by first | omega | (dsimp only at *; omega) | (dsimp only [room_1] at *; omega))⟩) hP hD hS hA (fun u H locs (hP : va_P D cl ((bx0, .inl (K 2, nx0, .inl (ci y41))) :: (bx1, .inl (K 2, nx1, .inl (ci fx1))) :: (bx2, .inl (K 2, nx2, .inl (ci fx2))) :: wld ga n (K 0) (K 1) M) H) (hD : va_D A ((bx0, .inl (K 2, nx0, .inl (ci y41))) :: (bx1, .inl (K 2, nx1, .inl (ci fx1))) :: (bx2, .inl (K 2, nx2, .inl (ci fx2))) :: wld ga n (K 0) (K 1) M)) hS => ?_)
                  obtain ⟨g43, h⟩ := og_some h
                  by_cases c44 : x42 = 0
                  · replace h := it_T h c44
                    refine i_if_ne_F hx hb g43 (tgt := 242) dL_isSound_237 (by decide) c44 ?_
                    refine lv_iconst (v := iI 0) hx hb dL_isSound_240 rfl ?_
                    obtain rfl := Option.some.inj h
                    obtain rfl := hrt _ rfl
                    exact e_z hx hb hr hlk (dro_P hP) (dro_D hD) hS (fun _ => 0) rfl (by first | omega | (dsimp only at *; omega) | (dsimp only [room_1] at *; omega)) (by first | omega | (dsimp only at *; omega) | (dsimp only [room_1] at *; omega)) rfl (b01 (Or.inl rfl)) dL_isSound_241
                  · replace h := it_F h c44
                    refine i_if_ne_T hx hb g43 (tgt := 242) dL_isSound_237 (by decide) c44 ?_
                    refine x_iinc (v := iI (v5 + 1)) hx hb dL_isSound_242 hl (k := 5) rfl (iI_add v5 1) (by decide) [0, 1, 2, 3, 4, 6] (lv' := [(0, .ref (ga 0)), (1, .ref bx2), (2, .ref bx1), (3, .ref bx0), (4, .int (iI (v4 + 1))), (6, .int (iI x6))]) rfl (⟨⟨Nat.ne_of_beq_eq_false rfl, Or.inl (Nat.ne_of_beq_eq_false rfl)⟩, ⟨⟨Nat.ne_of_beq_eq_false rfl, Or.inl (Nat.ne_of_beq_eq_false rfl)⟩, ⟨⟨Nat.ne_of_beq_eq_false rfl, Or.inl (Nat.ne_of_beq_eq_false rfl)⟩, ⟨⟨Nat.ne_of_beq_eq_false rfl, Or.inl (Nat.ne_of_beq_eq_false rfl)⟩, ⟨⟨Nat.ne_of_beq_eq_false rfl, Or.inr rfl⟩, ⟨⟨Nat.ne_of_beq_eq_false rfl, Or.inl (Nat.ne_of_beq_eq_false rfl)⟩, trivial⟩⟩⟩⟩⟩⟩) (fun ls hl => ?_)
                    refine lv_goto (tgt := 12) hx hb dL_isSound_245 (by decide) ?_
                    exact ih (v4 + 1) (v5 + 1) y41 _ h _ _ (by first | omega | (dsimp only at *; omega) | (dsimp only [room_1] at *; omega)) (by first | omega | (dsimp only at *; omega) | (dsimp only [room_1] at *; omega)) _ _ _ hP hD hS (lv_pk hl [1, 2, 3, 4, 5, 0] rfl) (fun y7 t7 cs2 sl2 h7 h8 => kk y7 t7 cs2 sl2 (by first | (dsimp only at h7; omega) | omega | (dsimp only at *; omega)) (by first | (dsimp only at h8; omega) | omega | (dsimp only at *; omega))) hrt
                · replace h := it_F h c33
                  refine i_if_lt_F hx hb g32 (tgt := 195) dL_isSound_170 (by decide) c33 ?_
                  refine lv_iload hx hb dL_isSound_173 (lv_at hl 3 rfl) ?_
                  refine lv_aload_n hx hb dL_isSound_175 rfl (lv_at hl 8 rfl) ?_
                  refine lv_iload hx hb dL_isSound_176 (lv_at hl 10 rfl) ?_
                  refine l_iald hx hb 1 hK hP (f := fx1) rfl g31.1 g31.2 g30 dL_isSound_178 ?_
                  by_cases c45 : x13 = fx1 (v5.toNat)
                  · replace h := it_T h c45
                    refine i_icmp_ne_F hx hb g18 g32 (tgt := 193) dL_isSound_179 (by decide) c45 ?_
                    refine lv_aload_n hx hb dL_isSound_182 rfl (lv_at hl 6 rfl) ?_
                    refine lv_iload hx hb dL_isSound_183 (lv_at hl 10 rfl) ?_
                    refine lv_iconst (v := iI 5) hx hb dL_isSound_185 rfl ?_
                    obtain ⟨x46, ex46, h⟩ := ob_some h
                    refine gx_i [(bx0, .inl (K 2, nx0, .inl (ci fx0))), (bx1, .inl (K 2, nx1, .inl (ci fx1))), (bx2, .inl (K 2, nx2, .inl (ci fx2)))] [] [(bx0, .inl (K 2, nx0, .inl (ci fx0))), (bx1, .inl (K 2, nx1, .inl (ci fx1))), (bx2, .inl (K 2, nx2, .inl (ci fx2)))] [] [0, 1, 2] 3 rfl rfl rfl (by decide) (by decide) (by decide) (by decide) (run_V (rest := []) hx hb hml hown hts hK hP hD hS hA hm (C_X_ofObject l G D K H.size ga n M v5 5 ex46) (axI [] 3 _) (ax_C (X := [(bx0, .inl (K 2, nx0, .inl (ci fx0))), (bx1, .inl (K 2, nx1, .inl (ci fx1))), (bx2, .inl (K 2, nx2, .inl (ci fx2)))]) (Y := []) rfl rfl (by decide)) (ax_n (by decide) (by decide)) mok_yX9_ofObject w_858 w_859 w_860 (rcv hK hP 3 (sk (sk (sk go_0))) rfl rfl) ⟨Nat.le_of_ble_eq_true rfl, Nat.le_of_ble_eq_true rfl⟩ rfl hl.1 rfl (Nat.le_of_ble_eq_true rfl) dL_isSound_186 ⟨(by first | omega | (dsimp only at *; omega) | (dsimp only [room_1] at *; omega)), (by first | omega | (dsimp only at *; omega) | (dsimp only [room_1] at *; omega))⟩) hP hD hS hA (fun u H locs (hP : va_P D cl ((bx0, .inl (K 2, nx0, .inl (ci fx0))) :: (bx1, .inl (K 2, nx1, .inl (ci fx1))) :: (bx2, .inl (K 2, nx2, .inl (ci fx2))) :: wld ga n (K 0) (K 1) M) H) (hD : va_D A ((bx0, .inl (K 2, nx0, .inl (ci fx0))) :: (bx1, .inl (K 2, nx1, .inl (ci fx1))) :: (bx2, .inl (K 2, nx2, .inl (ci fx2))) :: wld ga n (K 0) (K 1) M)) hS => ?_)
                    refine lv_iconst (v := iI 1) hx hb dL_isSound_189 rfl ?_
                    obtain ⟨g47, h⟩ := og_some h
                    by_cases c48 : x46 = 1
                    · replace h := it_T h c48
                      refine i_icmp_eq_T hx hb g47 ⟨by decide, by decide⟩ (tgt := 195) dL_isSound_190 (by decide) c48 ?_
                      refine lv_iload hx hb dL_isSound_195 (lv_at hl 3 rfl) ?_
                      refine x_istore hx hb dL_isSound_197 hl (by decide) [0, 1, 2, 3, 4, 5, 6, 7, 8, 9, 10] (lv' := [(10, .int (iI (x16 + x17))), (9, .int (iI x16)), (8, .int (iI (x13 + x14))), (7, .int (iI x13)), (4, .int (iI (v4 + 1))), (6, .int (iI x6)), (0, .ref (ga 0)), (1, .ref bx2), (2, .ref bx1), (3, .ref bx0), (5, .int (iI v5))]) rfl (⟨⟨Nat.ne_of_beq_eq_false rfl, Or.inr rfl⟩, ⟨⟨Nat.ne_of_beq_eq_false rfl, Or.inl (Nat.ne_of_beq_eq_false rfl)⟩, ⟨⟨Nat.ne_of_beq_eq_false rfl, Or.inl (Nat.ne_of_beq_eq_false rfl)⟩, ⟨⟨Nat.ne_of_beq_eq_false rfl, Or.inl (Nat.ne_of_beq_eq_false rfl)⟩, ⟨⟨Nat.ne_of_beq_eq_false rfl, Or.inl (Nat.ne_of_beq_eq_false rfl)⟩, ⟨⟨Nat.ne_of_beq_eq_false rfl, Or.inl (Nat.ne_of_beq_eq_false rfl)⟩, ⟨⟨Nat.ne_of_beq_eq_false rfl, Or.inl (Nat.ne_of_beq_eq_false rfl)⟩, ⟨⟨Nat.ne_of_beq_eq_false rfl, Or.inl (Nat.ne_of_beq_eq_false rfl)⟩, ⟨⟨Nat.ne_of_beq_eq_false rfl, Or.inl (Nat.ne_of_beq_eq_false rfl)⟩, ⟨⟨Nat.ne_of_beq_eq_false rfl, Or.inl (Nat.ne_of_beq_eq_false rfl)⟩, ⟨⟨Nat.ne_of_beq_eq_false rfl, Or.inl (Nat.ne_of_beq_eq_false rfl)⟩, trivial⟩⟩⟩⟩⟩⟩⟩⟩⟩⟩⟩) (fun ls hl => ?_)
                      obtain ⟨x49, ex49, h⟩ := ob_some h
                      refine L_Law_isSound_199 hx hb hr hml hown hts hlk hK hA hm hl0 ga n M (v4 + 1) v5 x6 (x13 + x14) nx0 bx0 nx1 bx1 fx1 nx2 bx2 fx2  fu x13 fx0 _ ex49 _ _ (by first | omega | (dsimp only at *; omega) | (dsimp only [room_1] at *; omega)) (by first | omega | (dsimp only at *; omega) | (dsimp only [room_1] at *; omega)) _ _ _ hP hD hS (lv_pk hl [7, 8, 9, 10, 5, 11, 6, 3, 0] rfl) (fun y49 ty49 cs49 sl49 hcs49 hsl49 ls H locs (hP : va_P D cl ((bx0, .inl (K 2, nx0, .inl (ci y49))) :: (bx1, .inl (K 2, nx1, .inl (ci fx1))) :: (bx2, .inl (K 2, nx2, .inl (ci fx2))) :: wld ga n (K 0) (K 1) M) H) (hD : va_D A ((bx0, .inl (K 2, nx0, .inl (ci y49))) :: (bx1, .inl (K 2, nx1, .inl (ci fx1))) :: (bx2, .inl (K 2, nx2, .inl (ci fx2))) :: wld ga n (K 0) (K 1) M)) hS (hl : lv_has ls 12 [(0, .ref (ga 0)), (1, .ref bx2), (2, .ref bx1), (3, .ref bx0), (4, .int (iI (v4 + 1))), (5, .int (iI v5)), (6, .int (iI x6))]) => ?_) (fun y49 ty49 => hrt _ (oi_r h ty49))
                      replace h := oi_l h ty49
                      refine lv_aload_n hx hb dL_isSound_229 rfl (lv_at hl 0 rfl) ?_
                      refine lv_iload hx hb dL_isSound_230 (lv_at hl 5 rfl) ?_
                      refine lv_iload hx hb dL_isSound_232 (lv_at hl 6 rfl) ?_
                      obtain ⟨x50, ex50, h⟩ := ob_some h
                      refine gx_i [(bx0, .inl (K 2, nx0, .inl (ci y49))), (bx1, .inl (K 2, nx1, .inl (ci fx1))), (bx2, .inl (K 2, nx2, .inl (ci fx2)))] [] [(bx0, .inl (K 2, nx0, .inl (ci y49))), (bx1, .inl (K 2, nx1, .inl (ci fx1))), (bx2, .inl (K 2, nx2, .inl (ci fx2)))] [] [0, 1, 2] 3 rfl rfl rfl (by decide) (by decide) (by decide) (by decide) (run_SW (rest := []) hx hb hml hown hts hK hP hD hS hA hm (C_Law_areFieldsSound l G D K hl0 H.size ga n M v5 x6 ex50) (axI [] 3 _) (ax_C (X := [(bx0, .inl (K 2, nx0, .inl (ci y49))), (bx1, .inl (K 2, nx1, .inl (ci fx1))), (bx2, .inl (K 2, nx2, .inl (ci fx2)))]) (Y := []) rfl rfl (by decide)) (ax_n (by decide) (by decide)) mokh_yL_areFieldsSound w_960 w_961 ⟨Nat.le_of_ble_eq_true rfl, Nat.le_of_ble_eq_true rfl⟩ rfl hl.1 rfl (Nat.le_of_ble_eq_true rfl) dL_isSound_234 ⟨(by first | omega | (dsimp only at *; omega) | (dsimp only [room_1] at *; omega)), (by first | omega | (dsimp only at *; omega) | (dsimp only [room_1] at *; omega))⟩) hP hD hS hA (fun u H locs (hP : va_P D cl ((bx0, .inl (K 2, nx0, .inl (ci y49))) :: (bx1, .inl (K 2, nx1, .inl (ci fx1))) :: (bx2, .inl (K 2, nx2, .inl (ci fx2))) :: wld ga n (K 0) (K 1) M) H) (hD : va_D A ((bx0, .inl (K 2, nx0, .inl (ci y49))) :: (bx1, .inl (K 2, nx1, .inl (ci fx1))) :: (bx2, .inl (K 2, nx2, .inl (ci fx2))) :: wld ga n (K 0) (K 1) M)) hS => ?_)
                      obtain ⟨g51, h⟩ := og_some h
                      by_cases c52 : x50 = 0
                      · replace h := it_T h c52
                        refine i_if_ne_F hx hb g51 (tgt := 242) dL_isSound_237 (by decide) c52 ?_
                        refine lv_iconst (v := iI 0) hx hb dL_isSound_240 rfl ?_
                        obtain rfl := Option.some.inj h
                        obtain rfl := hrt _ rfl
                        exact e_z hx hb hr hlk (dro_P hP) (dro_D hD) hS (fun _ => 0) rfl (by first | omega | (dsimp only at *; omega) | (dsimp only [room_1] at *; omega)) (by first | omega | (dsimp only at *; omega) | (dsimp only [room_1] at *; omega)) rfl (b01 (Or.inl rfl)) dL_isSound_241
                      · replace h := it_F h c52
                        refine i_if_ne_T hx hb g51 (tgt := 242) dL_isSound_237 (by decide) c52 ?_
                        refine x_iinc (v := iI (v5 + 1)) hx hb dL_isSound_242 hl (k := 5) rfl (iI_add v5 1) (by decide) [0, 1, 2, 3, 4, 6] (lv' := [(0, .ref (ga 0)), (1, .ref bx2), (2, .ref bx1), (3, .ref bx0), (4, .int (iI (v4 + 1))), (6, .int (iI x6))]) rfl (⟨⟨Nat.ne_of_beq_eq_false rfl, Or.inl (Nat.ne_of_beq_eq_false rfl)⟩, ⟨⟨Nat.ne_of_beq_eq_false rfl, Or.inl (Nat.ne_of_beq_eq_false rfl)⟩, ⟨⟨Nat.ne_of_beq_eq_false rfl, Or.inl (Nat.ne_of_beq_eq_false rfl)⟩, ⟨⟨Nat.ne_of_beq_eq_false rfl, Or.inl (Nat.ne_of_beq_eq_false rfl)⟩, ⟨⟨Nat.ne_of_beq_eq_false rfl, Or.inr rfl⟩, ⟨⟨Nat.ne_of_beq_eq_false rfl, Or.inl (Nat.ne_of_beq_eq_false rfl)⟩, trivial⟩⟩⟩⟩⟩⟩) (fun ls hl => ?_)
                        refine lv_goto (tgt := 12) hx hb dL_isSound_245 (by decide) ?_
                        exact ih (v4 + 1) (v5 + 1) y49 _ h _ _ (by first | omega | (dsimp only at *; omega) | (dsimp only [room_1] at *; omega)) (by first | omega | (dsimp only at *; omega) | (dsimp only [room_1] at *; omega)) _ _ _ hP hD hS (lv_pk hl [1, 2, 3, 4, 5, 0] rfl) (fun y7 t7 cs2 sl2 h7 h8 => kk y7 t7 cs2 sl2 (by first | (dsimp only at h7; omega) | omega | (dsimp only at *; omega)) (by first | (dsimp only at h8; omega) | omega | (dsimp only at *; omega))) hrt
                    · replace h := it_F h c48
                      refine i_icmp_eq_F hx hb g47 ⟨by decide, by decide⟩ (tgt := 195) dL_isSound_190 (by decide) c48 ?_
                      refine lv_iconst (v := iI 0) hx hb dL_isSound_193 rfl ?_
                      obtain rfl := Option.some.inj h
                      obtain rfl := hrt _ rfl
                      exact e_z hx hb hr hlk (dro_P hP) (dro_D hD) hS (fun _ => 0) rfl (by first | omega | (dsimp only at *; omega) | (dsimp only [room_1] at *; omega)) (by first | omega | (dsimp only at *; omega) | (dsimp only [room_1] at *; omega)) rfl (b01 (Or.inl rfl)) dL_isSound_194
                  · replace h := it_F h c45
                    refine i_icmp_ne_T hx hb g18 g32 (tgt := 193) dL_isSound_179 (by decide) c45 ?_
                    refine lv_iconst (v := iI 0) hx hb dL_isSound_193 rfl ?_
                    obtain rfl := Option.some.inj h
                    obtain rfl := hrt _ rfl
                    exact e_z hx hb hr hlk (dro_P hP) (dro_D hD) hS (fun _ => 0) rfl (by first | omega | (dsimp only at *; omega) | (dsimp only [room_1] at *; omega)) (by first | omega | (dsimp only at *; omega) | (dsimp only [room_1] at *; omega)) rfl (b01 (Or.inl rfl)) dL_isSound_194
              · replace h := it_F h c29
                refine i_icmp_ne_T hx hb g27 g28 (tgt := 193) dL_isSound_163 (by decide) c29 ?_
                refine lv_iconst (v := iI 0) hx hb dL_isSound_193 rfl ?_
                obtain rfl := Option.some.inj h
                obtain rfl := hrt _ rfl
                exact e_z hx hb hr hlk (dro_P hP) (dro_D hD) hS (fun _ => 0) rfl (by first | omega | (dsimp only at *; omega) | (dsimp only [room_1] at *; omega)) (by first | omega | (dsimp only at *; omega) | (dsimp only [room_1] at *; omega)) rfl (b01 (Or.inl rfl)) dL_isSound_194
        · replace h := it_F h c15
          refine i_icmp_ne_T hx hb g7 ⟨by decide, by decide⟩ (tgt := 83) dL_isSound_72 (by decide) c15 ?_
          refine lv_iload hx hb dL_isSound_83 (lv_at hl 3 rfl) ?_
          refine lv_iconst (v := iI 2) hx hb dL_isSound_85 rfl ?_
          by_cases c53 : x6 = 2
          · replace h := it_T h c53
            refine i_icmp_ne_F hx hb g7 ⟨by decide, by decide⟩ (tgt := 94) dL_isSound_86 (by decide) c53 ?_
            refine lv_bipush (v := iI 100) hx hb dL_isSound_89 rfl ?_
            refine lv_goto (tgt := 97) hx hb dL_isSound_91 (by decide) ?_
            refine x_istore hx hb dL_isSound_97 hl (by decide) [0, 1, 2, 3, 4, 5, 6, 7, 8] (lv' := [(8, .int (iI (x13 + x14))), (7, .int (iI x13)), (4, .int (iI (v4 + 1))), (6, .int (iI x6)), (0, .ref (ga 0)), (1, .ref bx2), (2, .ref bx1), (3, .ref bx0), (5, .int (iI v5))]) rfl (⟨⟨Nat.ne_of_beq_eq_false rfl, Or.inr rfl⟩, ⟨⟨Nat.ne_of_beq_eq_false rfl, Or.inl (Nat.ne_of_beq_eq_false rfl)⟩, ⟨⟨Nat.ne_of_beq_eq_false rfl, Or.inl (Nat.ne_of_beq_eq_false rfl)⟩, ⟨⟨Nat.ne_of_beq_eq_false rfl, Or.inl (Nat.ne_of_beq_eq_false rfl)⟩, ⟨⟨Nat.ne_of_beq_eq_false rfl, Or.inl (Nat.ne_of_beq_eq_false rfl)⟩, ⟨⟨Nat.ne_of_beq_eq_false rfl, Or.inl (Nat.ne_of_beq_eq_false rfl)⟩, ⟨⟨Nat.ne_of_beq_eq_false rfl, Or.inl (Nat.ne_of_beq_eq_false rfl)⟩, ⟨⟨Nat.ne_of_beq_eq_false rfl, Or.inl (Nat.ne_of_beq_eq_false rfl)⟩, ⟨⟨Nat.ne_of_beq_eq_false rfl, Or.inl (Nat.ne_of_beq_eq_false rfl)⟩, trivial⟩⟩⟩⟩⟩⟩⟩⟩⟩) (fun ls hl => ?_)
            refine lv_iload hx hb dL_isSound_99 (lv_at hl 4 rfl) ?_
            refine lv_iconst (v := iI 1) hx hb dL_isSound_101 rfl ?_
            refine i_icmp_ne_T hx hb g7 ⟨by decide, by decide⟩ (tgt := 116) dL_isSound_102 (by decide) c15 ?_
            refine lv_iload hx hb dL_isSound_116 (lv_at hl 4 rfl) ?_
            refine lv_iconst (v := iI 2) hx hb dL_isSound_118 rfl ?_
            refine i_icmp_ne_F hx hb g7 ⟨by decide, by decide⟩ (tgt := 133) dL_isSound_119 (by decide) c53 ?_
            refine lv_bipush (v := iI 100) hx hb dL_isSound_122 rfl ?_
            refine lv_aload_n hx hb dL_isSound_124 rfl (lv_at hl 5 rfl) ?_
            refine lv_iconst (v := iI 5) hx hb dL_isSound_125 rfl ?_
            obtain ⟨x54, ex54, h⟩ := ob_some h
            refine gx_i [(bx0, .inl (K 2, nx0, .inl (ci fx0))), (bx1, .inl (K 2, nx1, .inl (ci fx1))), (bx2, .inl (K 2, nx2, .inl (ci fx2)))] [] [(bx0, .inl (K 2, nx0, .inl (ci fx0))), (bx1, .inl (K 2, nx1, .inl (ci fx1))), (bx2, .inl (K 2, nx2, .inl (ci fx2)))] [] [0, 1, 2] 3 rfl rfl rfl (by decide) (by decide) (by decide) (by decide) (run_V (rest := [.int (iI 100)]) hx hb hml hown hts hK hP hD hS hA hm (C_X_many l G D K H.size ga n M 5 ex54) (axI [] 3 _) (ax_C (X := [(bx0, .inl (K 2, nx0, .inl (ci fx0))), (bx1, .inl (K 2, nx1, .inl (ci fx1))), (bx2, .inl (K 2, nx2, .inl (ci fx2)))]) (Y := []) rfl rfl (by decide)) (ax_n (by decide) (by decide)) mok_yX9_many w_867 w_868 w_869 (rcv hK hP 3 (sk (sk (sk go_0))) rfl rfl) ⟨Nat.le_of_ble_eq_true rfl, Nat.le_of_ble_eq_true rfl⟩ rfl hl.1 rfl (Nat.le_of_ble_eq_true rfl) dL_isSound_126 ⟨(by first | omega | (dsimp only at *; omega) | (dsimp only [room_1] at *; omega)), (by first | omega | (dsimp only at *; omega) | (dsimp only [room_1] at *; omega))⟩) hP hD hS hA (fun u H locs (hP : va_P D cl ((bx0, .inl (K 2, nx0, .inl (ci fx0))) :: (bx1, .inl (K 2, nx1, .inl (ci fx1))) :: (bx2, .inl (K 2, nx2, .inl (ci fx2))) :: wld ga n (K 0) (K 1) M) H) (hD : va_D A ((bx0, .inl (K 2, nx0, .inl (ci fx0))) :: (bx1, .inl (K 2, nx1, .inl (ci fx1))) :: (bx2, .inl (K 2, nx2, .inl (ci fx2))) :: wld ga n (K 0) (K 1) M)) hS => ?_)
            refine lv_iadd hx hb dL_isSound_129 ?_
            refine w_toeq (iI_add 100 x54) ?_
            refine lv_goto (tgt := 136) hx hb dL_isSound_130 (by decide) ?_
            refine x_istore hx hb dL_isSound_136 hl (by decide) [0, 1, 2, 3, 4, 5, 6, 7, 8, 9] (lv' := [(9, .int (iI 100)), (8, .int (iI (x13 + x14))), (7, .int (iI x13)), (4, .int (iI (v4 + 1))), (6, .int (iI x6)), (0, .ref (ga 0)), (1, .ref bx2), (2, .ref bx1), (3, .ref bx0), (5, .int (iI v5))]) rfl (⟨⟨Nat.ne_of_beq_eq_false rfl, Or.inr rfl⟩, ⟨⟨Nat.ne_of_beq_eq_false rfl, Or.inl (Nat.ne_of_beq_eq_false rfl)⟩, ⟨⟨Nat.ne_of_beq_eq_false rfl, Or.inl (Nat.ne_of_beq_eq_false rfl)⟩, ⟨⟨Nat.ne_of_beq_eq_false rfl, Or.inl (Nat.ne_of_beq_eq_false rfl)⟩, ⟨⟨Nat.ne_of_beq_eq_false rfl, Or.inl (Nat.ne_of_beq_eq_false rfl)⟩, ⟨⟨Nat.ne_of_beq_eq_false rfl, Or.inl (Nat.ne_of_beq_eq_false rfl)⟩, ⟨⟨Nat.ne_of_beq_eq_false rfl, Or.inl (Nat.ne_of_beq_eq_false rfl)⟩, ⟨⟨Nat.ne_of_beq_eq_false rfl, Or.inl (Nat.ne_of_beq_eq_false rfl)⟩, ⟨⟨Nat.ne_of_beq_eq_false rfl, Or.inl (Nat.ne_of_beq_eq_false rfl)⟩, ⟨⟨Nat.ne_of_beq_eq_false rfl, Or.inl (Nat.ne_of_beq_eq_false rfl)⟩, trivial⟩⟩⟩⟩⟩⟩⟩⟩⟩⟩) (fun ls hl => ?_)
            refine lv_iload hx hb dL_isSound_138 (lv_at hl 3 rfl) ?_
            refine lv_iload hx hb dL_isSound_140 (lv_at hl 1 rfl) ?_
            obtain ⟨g55, h⟩ := og_some h
            by_cases c56 : x13 < 100
            · replace h := it_T h c56
              refine i_icmp_lt_T hx hb g55 ⟨by decide, by decide⟩ (tgt := 193) dL_isSound_142 (by decide) c56 ?_
              refine lv_iconst (v := iI 0) hx hb dL_isSound_193 rfl ?_
              obtain rfl := Option.some.inj h
              obtain rfl := hrt _ rfl
              exact e_z hx hb hr hlk (dro_P hP) (dro_D hD) hS (fun _ => 0) rfl (by first | omega | (dsimp only at *; omega) | (dsimp only [room_1] at *; omega)) (by first | omega | (dsimp only at *; omega) | (dsimp only [room_1] at *; omega)) rfl (b01 (Or.inl rfl)) dL_isSound_194
            · replace h := it_F h c56
              refine i_icmp_lt_F hx hb g55 ⟨by decide, by decide⟩ (tgt := 193) dL_isSound_142 (by decide) c56 ?_
              refine lv_iload hx hb dL_isSound_145 (lv_at hl 2 rfl) ?_
              refine lv_iload hx hb dL_isSound_147 (lv_at hl 0 rfl) ?_
              obtain ⟨g57, h⟩ := og_some h
              obtain ⟨g58, h⟩ := og_some h
              by_cases c59 : (100 + x54) < (x13 + x14)
              · replace h := it_T h c59
                refine i_icmp_gt_T hx hb g57 g58 (tgt := 193) dL_isSound_149 (by decide) c59 ?_
                refine lv_iconst (v := iI 0) hx hb dL_isSound_193 rfl ?_
                obtain rfl := Option.some.inj h
                obtain rfl := hrt _ rfl
                exact e_z hx hb hr hlk (dro_P hP) (dro_D hD) hS (fun _ => 0) rfl (by first | omega | (dsimp only at *; omega) | (dsimp only [room_1] at *; omega)) (by first | omega | (dsimp only at *; omega) | (dsimp only [room_1] at *; omega)) rfl (b01 (Or.inl rfl)) dL_isSound_194
              · replace h := it_F h c59
                refine i_icmp_gt_F hx hb g57 g58 (tgt := 193) dL_isSound_149 (by decide) c59 ?_
                refine lv_aload_n hx hb dL_isSound_152 rfl (lv_at hl 6 rfl) ?_
                refine lv_iload hx hb dL_isSound_153 (lv_at hl 10 rfl) ?_
                refine lv_iconst (v := iI 4) hx hb dL_isSound_155 rfl ?_
                obtain ⟨x60, ex60, h⟩ := ob_some h
                refine gx_i [(bx0, .inl (K 2, nx0, .inl (ci fx0))), (bx1, .inl (K 2, nx1, .inl (ci fx1))), (bx2, .inl (K 2, nx2, .inl (ci fx2)))] [] [(bx0, .inl (K 2, nx0, .inl (ci fx0))), (bx1, .inl (K 2, nx1, .inl (ci fx1))), (bx2, .inl (K 2, nx2, .inl (ci fx2)))] [] [0, 1, 2] 3 rfl rfl rfl (by decide) (by decide) (by decide) (by decide) (run_V (rest := []) hx hb hml hown hts hK hP hD hS hA hm (C_X_ofObject l G D K H.size ga n M v5 4 ex60) (axI [] 3 _) (ax_C (X := [(bx0, .inl (K 2, nx0, .inl (ci fx0))), (bx1, .inl (K 2, nx1, .inl (ci fx1))), (bx2, .inl (K 2, nx2, .inl (ci fx2)))]) (Y := []) rfl rfl (by decide)) (ax_n (by decide) (by decide)) mok_yX9_ofObject w_858 w_859 w_860 (rcv hK hP 3 (sk (sk (sk go_0))) rfl rfl) ⟨Nat.le_of_ble_eq_true rfl, Nat.le_of_ble_eq_true rfl⟩ rfl hl.1 rfl (Nat.le_of_ble_eq_true rfl) dL_isSound_156 ⟨(by first | omega | (dsimp only at *; omega) | (dsimp only [room_1] at *; omega)), (by first | omega | (dsimp only at *; omega) | (dsimp only [room_1] at *; omega))⟩) hP hD hS hA (fun u H locs (hP : va_P D cl ((bx0, .inl (K 2, nx0, .inl (ci fx0))) :: (bx1, .inl (K 2, nx1, .inl (ci fx1))) :: (bx2, .inl (K 2, nx2, .inl (ci fx2))) :: wld ga n (K 0) (K 1) M) H) (hD : va_D A ((bx0, .inl (K 2, nx0, .inl (ci fx0))) :: (bx1, .inl (K 2, nx1, .inl (ci fx1))) :: (bx2, .inl (K 2, nx2, .inl (ci fx2))) :: wld ga n (K 0) (K 1) M)) hS => ?_)
                refine lv_aload_n hx hb dL_isSound_159 rfl (lv_at hl 7 rfl) ?_
                refine lv_iload hx hb dL_isSound_160 (lv_at hl 10 rfl) ?_
                obtain ⟨g61, h⟩ := og_some h
                obtain ⟨g62, h⟩ := og_some h
                refine l_iald hx hb 2 hK hP (f := fx2) rfl g62.1 g62.2 g61 dL_isSound_162 ?_
                obtain ⟨g63, h⟩ := og_some h
                obtain ⟨g64, h⟩ := og_some h
                by_cases c65 : x60 = fx2 (v5.toNat)
                · replace h := it_T h c65
                  refine i_icmp_ne_F hx hb g63 g64 (tgt := 193) dL_isSound_163 (by decide) c65 ?_
                  refine lv_aload_n hx hb dL_isSound_166 rfl (lv_at hl 8 rfl) ?_
                  refine lv_iload hx hb dL_isSound_167 (lv_at hl 10 rfl) ?_
                  obtain ⟨g66, h⟩ := og_some h
                  obtain ⟨g67, h⟩ := og_some h
                  refine l_iald hx hb 1 hK hP (f := fx1) rfl g67.1 g67.2 g66 dL_isSound_169 ?_
                  obtain ⟨g68, h⟩ := og_some h
                  by_cases c69 : fx1 (v5.toNat) < 0
                  · replace h := it_T h c69
                    refine i_if_lt_T hx hb g68 (tgt := 195) dL_isSound_170 (by decide) c69 ?_
                    refine lv_iload hx hb dL_isSound_195 (lv_at hl 3 rfl) ?_
                    refine x_istore hx hb dL_isSound_197 hl (by decide) [0, 1, 2, 3, 4, 5, 6, 7, 8, 9, 10] (lv' := [(10, .int (iI (100 + x54))), (9, .int (iI 100)), (8, .int (iI (x13 + x14))), (7, .int (iI x13)), (4, .int (iI (v4 + 1))), (6, .int (iI x6)), (0, .ref (ga 0)), (1, .ref bx2), (2, .ref bx1), (3, .ref bx0), (5, .int (iI v5))]) rfl (⟨⟨Nat.ne_of_beq_eq_false rfl, Or.inr rfl⟩, ⟨⟨Nat.ne_of_beq_eq_false rfl, Or.inl (Nat.ne_of_beq_eq_false rfl)⟩, ⟨⟨Nat.ne_of_beq_eq_false rfl, Or.inl (Nat.ne_of_beq_eq_false rfl)⟩, ⟨⟨Nat.ne_of_beq_eq_false rfl, Or.inl (Nat.ne_of_beq_eq_false rfl)⟩, ⟨⟨Nat.ne_of_beq_eq_false rfl, Or.inl (Nat.ne_of_beq_eq_false rfl)⟩, ⟨⟨Nat.ne_of_beq_eq_false rfl, Or.inl (Nat.ne_of_beq_eq_false rfl)⟩, ⟨⟨Nat.ne_of_beq_eq_false rfl, Or.inl (Nat.ne_of_beq_eq_false rfl)⟩, ⟨⟨Nat.ne_of_beq_eq_false rfl, Or.inl (Nat.ne_of_beq_eq_false rfl)⟩, ⟨⟨Nat.ne_of_beq_eq_false rfl, Or.inl (Nat.ne_of_beq_eq_false rfl)⟩, ⟨⟨Nat.ne_of_beq_eq_false rfl, Or.inl (Nat.ne_of_beq_eq_false rfl)⟩, ⟨⟨Nat.ne_of_beq_eq_false rfl, Or.inl (Nat.ne_of_beq_eq_false rfl)⟩, trivial⟩⟩⟩⟩⟩⟩⟩⟩⟩⟩⟩) (fun ls hl => ?_)
                    obtain ⟨x70, ex70, h⟩ := ob_some h
                    refine L_Law_isSound_199 hx hb hr hml hown hts hlk hK hA hm hl0 ga n M (v4 + 1) v5 x6 (x13 + x14) nx0 bx0 nx1 bx1 fx1 nx2 bx2 fx2  fu x13 fx0 _ ex70 _ _ (by first | omega | (dsimp only at *; omega) | (dsimp only [room_1] at *; omega)) (by first | omega | (dsimp only at *; omega) | (dsimp only [room_1] at *; omega)) _ _ _ hP hD hS (lv_pk hl [7, 8, 9, 10, 5, 11, 6, 3, 0] rfl) (fun y70 ty70 cs70 sl70 hcs70 hsl70 ls H locs (hP : va_P D cl ((bx0, .inl (K 2, nx0, .inl (ci y70))) :: (bx1, .inl (K 2, nx1, .inl (ci fx1))) :: (bx2, .inl (K 2, nx2, .inl (ci fx2))) :: wld ga n (K 0) (K 1) M) H) (hD : va_D A ((bx0, .inl (K 2, nx0, .inl (ci y70))) :: (bx1, .inl (K 2, nx1, .inl (ci fx1))) :: (bx2, .inl (K 2, nx2, .inl (ci fx2))) :: wld ga n (K 0) (K 1) M)) hS (hl : lv_has ls 12 [(0, .ref (ga 0)), (1, .ref bx2), (2, .ref bx1), (3, .ref bx0), (4, .int (iI (v4 + 1))), (5, .int (iI v5)), (6, .int (iI x6))]) => ?_) (fun y70 ty70 => hrt _ (oi_r h ty70))
                    replace h := oi_l h ty70
                    refine lv_aload_n hx hb dL_isSound_229 rfl (lv_at hl 0 rfl) ?_
                    refine lv_iload hx hb dL_isSound_230 (lv_at hl 5 rfl) ?_
                    refine lv_iload hx hb dL_isSound_232 (lv_at hl 6 rfl) ?_
                    obtain ⟨x71, ex71, h⟩ := ob_some h
                    refine gx_i [(bx0, .inl (K 2, nx0, .inl (ci y70))), (bx1, .inl (K 2, nx1, .inl (ci fx1))), (bx2, .inl (K 2, nx2, .inl (ci fx2)))] [] [(bx0, .inl (K 2, nx0, .inl (ci y70))), (bx1, .inl (K 2, nx1, .inl (ci fx1))), (bx2, .inl (K 2, nx2, .inl (ci fx2)))] [] [0, 1, 2] 3 rfl rfl rfl (by decide) (by decide) (by decide) (by decide) (run_SW (rest := []) hx hb hml hown hts hK hP hD hS hA hm (C_Law_areFieldsSound l G D K hl0 H.size ga n M v5 x6 ex71) (axI [] 3 _) (ax_C (X := [(bx0, .inl (K 2, nx0, .inl (ci y70))), (bx1, .inl (K 2, nx1, .inl (ci fx1))), (bx2, .inl (K 2, nx2, .inl (ci fx2)))]) (Y := []) rfl rfl (by decide)) (ax_n (by decide) (by decide)) mokh_yL_areFieldsSound w_960 w_961 ⟨Nat.le_of_ble_eq_true rfl, Nat.le_of_ble_eq_true rfl⟩ rfl hl.1 rfl (Nat.le_of_ble_eq_true rfl) dL_isSound_234 ⟨(by first | omega | (dsimp only at *; omega) | (dsimp only [room_1] at *; omega)), (by first | omega | (dsimp only at *; omega) | (dsimp only [room_1] at *; omega))⟩) hP hD hS hA (fun u H locs (hP : va_P D cl ((bx0, .inl (K 2, nx0, .inl (ci y70))) :: (bx1, .inl (K 2, nx1, .inl (ci fx1))) :: (bx2, .inl (K 2, nx2, .inl (ci fx2))) :: wld ga n (K 0) (K 1) M) H) (hD : va_D A ((bx0, .inl (K 2, nx0, .inl (ci y70))) :: (bx1, .inl (K 2, nx1, .inl (ci fx1))) :: (bx2, .inl (K 2, nx2, .inl (ci fx2))) :: wld ga n (K 0) (K 1) M)) hS => ?_)
                    obtain ⟨g72, h⟩ := og_some h
                    by_cases c73 : x71 = 0
                    · replace h := it_T h c73
                      refine i_if_ne_F hx hb g72 (tgt := 242) dL_isSound_237 (by decide) c73 ?_
                      refine lv_iconst (v := iI 0) hx hb dL_isSound_240 rfl ?_
                      obtain rfl := Option.some.inj h
                      obtain rfl := hrt _ rfl
                      exact e_z hx hb hr hlk (dro_P hP) (dro_D hD) hS (fun _ => 0) rfl (by first | omega | (dsimp only at *; omega) | (dsimp only [room_1] at *; omega)) (by first | omega | (dsimp only at *; omega) | (dsimp only [room_1] at *; omega)) rfl (b01 (Or.inl rfl)) dL_isSound_241
                    · replace h := it_F h c73
                      refine i_if_ne_T hx hb g72 (tgt := 242) dL_isSound_237 (by decide) c73 ?_
                      refine x_iinc (v := iI (v5 + 1)) hx hb dL_isSound_242 hl (k := 5) rfl (iI_add v5 1) (by decide) [0, 1, 2, 3, 4, 6] (lv' := [(0, .ref (ga 0)), (1, .ref bx2), (2, .ref bx1), (3, .ref bx0), (4, .int (iI (v4 + 1))), (6, .int (iI x6))]) rfl (⟨⟨Nat.ne_of_beq_eq_false rfl, Or.inl (Nat.ne_of_beq_eq_false rfl)⟩, ⟨⟨Nat.ne_of_beq_eq_false rfl, Or.inl (Nat.ne_of_beq_eq_false rfl)⟩, ⟨⟨Nat.ne_of_beq_eq_false rfl, Or.inl (Nat.ne_of_beq_eq_false rfl)⟩, ⟨⟨Nat.ne_of_beq_eq_false rfl, Or.inl (Nat.ne_of_beq_eq_false rfl)⟩, ⟨⟨Nat.ne_of_beq_eq_false rfl, Or.inr rfl⟩, ⟨⟨Nat.ne_of_beq_eq_false rfl, Or.inl (Nat.ne_of_beq_eq_false rfl)⟩, trivial⟩⟩⟩⟩⟩⟩) (fun ls hl => ?_)
                      refine lv_goto (tgt := 12) hx hb dL_isSound_245 (by decide) ?_
                      exact ih (v4 + 1) (v5 + 1) y70 _ h _ _ (by first | omega | (dsimp only at *; omega) | (dsimp only [room_1] at *; omega)) (by first | omega | (dsimp only at *; omega) | (dsimp only [room_1] at *; omega)) _ _ _ hP hD hS (lv_pk hl [1, 2, 3, 4, 5, 0] rfl) (fun y7 t7 cs2 sl2 h7 h8 => kk y7 t7 cs2 sl2 (by first | (dsimp only at h7; omega) | omega | (dsimp only at *; omega)) (by first | (dsimp only at h8; omega) | omega | (dsimp only at *; omega))) hrt
                  · replace h := it_F h c69
                    refine i_if_lt_F hx hb g68 (tgt := 195) dL_isSound_170 (by decide) c69 ?_
                    refine lv_iload hx hb dL_isSound_173 (lv_at hl 3 rfl) ?_
                    refine lv_aload_n hx hb dL_isSound_175 rfl (lv_at hl 8 rfl) ?_
                    refine lv_iload hx hb dL_isSound_176 (lv_at hl 10 rfl) ?_
                    refine l_iald hx hb 1 hK hP (f := fx1) rfl g67.1 g67.2 g66 dL_isSound_178 ?_
                    by_cases c74 : x13 = fx1 (v5.toNat)
                    · replace h := it_T h c74
                      refine i_icmp_ne_F hx hb g55 g68 (tgt := 193) dL_isSound_179 (by decide) c74 ?_
                      refine lv_aload_n hx hb dL_isSound_182 rfl (lv_at hl 6 rfl) ?_
                      refine lv_iload hx hb dL_isSound_183 (lv_at hl 10 rfl) ?_
                      refine lv_iconst (v := iI 5) hx hb dL_isSound_185 rfl ?_
                      obtain ⟨x75, ex75, h⟩ := ob_some h
                      refine gx_i [(bx0, .inl (K 2, nx0, .inl (ci fx0))), (bx1, .inl (K 2, nx1, .inl (ci fx1))), (bx2, .inl (K 2, nx2, .inl (ci fx2)))] [] [(bx0, .inl (K 2, nx0, .inl (ci fx0))), (bx1, .inl (K 2, nx1, .inl (ci fx1))), (bx2, .inl (K 2, nx2, .inl (ci fx2)))] [] [0, 1, 2] 3 rfl rfl rfl (by decide) (by decide) (by decide) (by decide) (run_V (rest := []) hx hb hml hown hts hK hP hD hS hA hm (C_X_ofObject l G D K H.size ga n M v5 5 ex75) (axI [] 3 _) (ax_C (X := [(bx0, .inl (K 2, nx0, .inl (ci fx0))), (bx1, .inl (K 2, nx1, .inl (ci fx1))), (bx2, .inl (K 2, nx2, .inl (ci fx2)))]) (Y := []) rfl rfl (by decide)) (ax_n (by decide) (by decide)) mok_yX9_ofObject w_858 w_859 w_860 (rcv hK hP 3 (sk (sk (sk go_0))) rfl rfl) ⟨Nat.le_of_ble_eq_true rfl, Nat.le_of_ble_eq_true rfl⟩ rfl hl.1 rfl (Nat.le_of_ble_eq_true rfl) dL_isSound_186 ⟨(by first | omega | (dsimp only at *; omega) | (dsimp only [room_1] at *; omega)), (by first | omega | (dsimp only at *; omega) | (dsimp only [room_1] at *; omega))⟩) hP hD hS hA (fun u H locs (hP : va_P D cl ((bx0, .inl (K 2, nx0, .inl (ci fx0))) :: (bx1, .inl (K 2, nx1, .inl (ci fx1))) :: (bx2, .inl (K 2, nx2, .inl (ci fx2))) :: wld ga n (K 0) (K 1) M) H) (hD : va_D A ((bx0, .inl (K 2, nx0, .inl (ci fx0))) :: (bx1, .inl (K 2, nx1, .inl (ci fx1))) :: (bx2, .inl (K 2, nx2, .inl (ci fx2))) :: wld ga n (K 0) (K 1) M)) hS => ?_)
                      refine lv_iconst (v := iI 1) hx hb dL_isSound_189 rfl ?_
                      obtain ⟨g76, h⟩ := og_some h
                      by_cases c77 : x75 = 1
                      · replace h := it_T h c77
                        refine i_icmp_eq_T hx hb g76 ⟨by decide, by decide⟩ (tgt := 195) dL_isSound_190 (by decide) c77 ?_
                        refine lv_iload hx hb dL_isSound_195 (lv_at hl 3 rfl) ?_
                        refine x_istore hx hb dL_isSound_197 hl (by decide) [0, 1, 2, 3, 4, 5, 6, 7, 8, 9, 10] (lv' := [(10, .int (iI (100 + x54))), (9, .int (iI 100)), (8, .int (iI (x13 + x14))), (7, .int (iI x13)), (4, .int (iI (v4 + 1))), (6, .int (iI x6)), (0, .ref (ga 0)), (1, .ref bx2), (2, .ref bx1), (3, .ref bx0), (5, .int (iI v5))]) rfl (⟨⟨Nat.ne_of_beq_eq_false rfl, Or.inr rfl⟩, ⟨⟨Nat.ne_of_beq_eq_false rfl, Or.inl (Nat.ne_of_beq_eq_false rfl)⟩, ⟨⟨Nat.ne_of_beq_eq_false rfl, Or.inl (Nat.ne_of_beq_eq_false rfl)⟩, ⟨⟨Nat.ne_of_beq_eq_false rfl, Or.inl (Nat.ne_of_beq_eq_false rfl)⟩, ⟨⟨Nat.ne_of_beq_eq_false rfl, Or.inl (Nat.ne_of_beq_eq_false rfl)⟩, ⟨⟨Nat.ne_of_beq_eq_false rfl, Or.inl (Nat.ne_of_beq_eq_false rfl)⟩, ⟨⟨Nat.ne_of_beq_eq_false rfl, Or.inl (Nat.ne_of_beq_eq_false rfl)⟩, ⟨⟨Nat.ne_of_beq_eq_false rfl, Or.inl (Nat.ne_of_beq_eq_false rfl)⟩, ⟨⟨Nat.ne_of_beq_eq_false rfl, Or.inl (Nat.ne_of_beq_eq_false rfl)⟩, ⟨⟨Nat.ne_of_beq_eq_false rfl, Or.inl (Nat.ne_of_beq_eq_false rfl)⟩, ⟨⟨Nat.ne_of_beq_eq_false rfl, Or.inl (Nat.ne_of_beq_eq_false rfl)⟩, trivial⟩⟩⟩⟩⟩⟩⟩⟩⟩⟩⟩) (fun ls hl => ?_)
                        obtain ⟨x78, ex78, h⟩ := ob_some h
                        refine L_Law_isSound_199 hx hb hr hml hown hts hlk hK hA hm hl0 ga n M (v4 + 1) v5 x6 (x13 + x14) nx0 bx0 nx1 bx1 fx1 nx2 bx2 fx2  fu x13 fx0 _ ex78 _ _ (by first | omega | (dsimp only at *; omega) | (dsimp only [room_1] at *; omega)) (by first | omega | (dsimp only at *; omega) | (dsimp only [room_1] at *; omega)) _ _ _ hP hD hS (lv_pk hl [7, 8, 9, 10, 5, 11, 6, 3, 0] rfl) (fun y78 ty78 cs78 sl78 hcs78 hsl78 ls H locs (hP : va_P D cl ((bx0, .inl (K 2, nx0, .inl (ci y78))) :: (bx1, .inl (K 2, nx1, .inl (ci fx1))) :: (bx2, .inl (K 2, nx2, .inl (ci fx2))) :: wld ga n (K 0) (K 1) M) H) (hD : va_D A ((bx0, .inl (K 2, nx0, .inl (ci y78))) :: (bx1, .inl (K 2, nx1, .inl (ci fx1))) :: (bx2, .inl (K 2, nx2, .inl (ci fx2))) :: wld ga n (K 0) (K 1) M)) hS (hl : lv_has ls 12 [(0, .ref (ga 0)), (1, .ref bx2), (2, .ref bx1), (3, .ref bx0), (4, .int (iI (v4 + 1))), (5, .int (iI v5)), (6, .int (iI x6))]) => ?_) (fun y78 ty78 => hrt _ (oi_r h ty78))
                        replace h := oi_l h ty78
                        refine lv_aload_n hx hb dL_isSound_229 rfl (lv_at hl 0 rfl) ?_
                        refine lv_iload hx hb dL_isSound_230 (lv_at hl 5 rfl) ?_
                        refine lv_iload hx hb dL_isSound_232 (lv_at hl 6 rfl) ?_
                        obtain ⟨x79, ex79, h⟩ := ob_some h
                        refine gx_i [(bx0, .inl (K 2, nx0, .inl (ci y78))), (bx1, .inl (K 2, nx1, .inl (ci fx1))), (bx2, .inl (K 2, nx2, .inl (ci fx2)))] [] [(bx0, .inl (K 2, nx0, .inl (ci y78))), (bx1, .inl (K 2, nx1, .inl (ci fx1))), (bx2, .inl (K 2, nx2, .inl (ci fx2)))] [] [0, 1, 2] 3 rfl rfl rfl (by decide) (by decide) (by decide) (by decide) (run_SW (rest := []) hx hb hml hown hts hK hP hD hS hA hm (C_Law_areFieldsSound l G D K hl0 H.size ga n M v5 x6 ex79) (axI [] 3 _) (ax_C (X := [(bx0, .inl (K 2, nx0, .inl (ci y78))), (bx1, .inl (K 2, nx1, .inl (ci fx1))), (bx2, .inl (K 2, nx2, .inl (ci fx2)))]) (Y := []) rfl rfl (by decide)) (ax_n (by decide) (by decide)) mokh_yL_areFieldsSound w_960 w_961 ⟨Nat.le_of_ble_eq_true rfl, Nat.le_of_ble_eq_true rfl⟩ rfl hl.1 rfl (Nat.le_of_ble_eq_true rfl) dL_isSound_234 ⟨(by first | omega | (dsimp only at *; omega) | (dsimp only [room_1] at *; omega)), (by first | omega | (dsimp only at *; omega) | (dsimp only [room_1] at *; omega))⟩) hP hD hS hA (fun u H locs (hP : va_P D cl ((bx0, .inl (K 2, nx0, .inl (ci y78))) :: (bx1, .inl (K 2, nx1, .inl (ci fx1))) :: (bx2, .inl (K 2, nx2, .inl (ci fx2))) :: wld ga n (K 0) (K 1) M) H) (hD : va_D A ((bx0, .inl (K 2, nx0, .inl (ci y78))) :: (bx1, .inl (K 2, nx1, .inl (ci fx1))) :: (bx2, .inl (K 2, nx2, .inl (ci fx2))) :: wld ga n (K 0) (K 1) M)) hS => ?_)
                        obtain ⟨g80, h⟩ := og_some h
                        by_cases c81 : x79 = 0
                        · replace h := it_T h c81
                          refine i_if_ne_F hx hb g80 (tgt := 242) dL_isSound_237 (by decide) c81 ?_
                          refine lv_iconst (v := iI 0) hx hb dL_isSound_240 rfl ?_
                          obtain rfl := Option.some.inj h
                          obtain rfl := hrt _ rfl
                          exact e_z hx hb hr hlk (dro_P hP) (dro_D hD) hS (fun _ => 0) rfl (by first | omega | (dsimp only at *; omega) | (dsimp only [room_1] at *; omega)) (by first | omega | (dsimp only at *; omega) | (dsimp only [room_1] at *; omega)) rfl (b01 (Or.inl rfl)) dL_isSound_241
                        · replace h := it_F h c81
                          refine i_if_ne_T hx hb g80 (tgt := 242) dL_isSound_237 (by decide) c81 ?_
                          refine x_iinc (v := iI (v5 + 1)) hx hb dL_isSound_242 hl (k := 5) rfl (iI_add v5 1) (by decide) [0, 1, 2, 3, 4, 6] (lv' := [(0, .ref (ga 0)), (1, .ref bx2), (2, .ref bx1), (3, .ref bx0), (4, .int (iI (v4 + 1))), (6, .int (iI x6))]) rfl (⟨⟨Nat.ne_of_beq_eq_false rfl, Or.inl (Nat.ne_of_beq_eq_false rfl)⟩, ⟨⟨Nat.ne_of_beq_eq_false rfl, Or.inl (Nat.ne_of_beq_eq_false rfl)⟩, ⟨⟨Nat.ne_of_beq_eq_false rfl, Or.inl (Nat.ne_of_beq_eq_false rfl)⟩, ⟨⟨Nat.ne_of_beq_eq_false rfl, Or.inl (Nat.ne_of_beq_eq_false rfl)⟩, ⟨⟨Nat.ne_of_beq_eq_false rfl, Or.inr rfl⟩, ⟨⟨Nat.ne_of_beq_eq_false rfl, Or.inl (Nat.ne_of_beq_eq_false rfl)⟩, trivial⟩⟩⟩⟩⟩⟩) (fun ls hl => ?_)
                          refine lv_goto (tgt := 12) hx hb dL_isSound_245 (by decide) ?_
                          exact ih (v4 + 1) (v5 + 1) y78 _ h _ _ (by first | omega | (dsimp only at *; omega) | (dsimp only [room_1] at *; omega)) (by first | omega | (dsimp only at *; omega) | (dsimp only [room_1] at *; omega)) _ _ _ hP hD hS (lv_pk hl [1, 2, 3, 4, 5, 0] rfl) (fun y7 t7 cs2 sl2 h7 h8 => kk y7 t7 cs2 sl2 (by first | (dsimp only at h7; omega) | omega | (dsimp only at *; omega)) (by first | (dsimp only at h8; omega) | omega | (dsimp only at *; omega))) hrt
                      · replace h := it_F h c77
                        refine i_icmp_eq_F hx hb g76 ⟨by decide, by decide⟩ (tgt := 195) dL_isSound_190 (by decide) c77 ?_
                        refine lv_iconst (v := iI 0) hx hb dL_isSound_193 rfl ?_
                        obtain rfl := Option.some.inj h
                        obtain rfl := hrt _ rfl
                        exact e_z hx hb hr hlk (dro_P hP) (dro_D hD) hS (fun _ => 0) rfl (by first | omega | (dsimp only at *; omega) | (dsimp only [room_1] at *; omega)) (by first | omega | (dsimp only at *; omega) | (dsimp only [room_1] at *; omega)) rfl (b01 (Or.inl rfl)) dL_isSound_194
                    · replace h := it_F h c74
                      refine i_icmp_ne_T hx hb g55 g68 (tgt := 193) dL_isSound_179 (by decide) c74 ?_
                      refine lv_iconst (v := iI 0) hx hb dL_isSound_193 rfl ?_
                      obtain rfl := Option.some.inj h
                      obtain rfl := hrt _ rfl
                      exact e_z hx hb hr hlk (dro_P hP) (dro_D hD) hS (fun _ => 0) rfl (by first | omega | (dsimp only at *; omega) | (dsimp only [room_1] at *; omega)) (by first | omega | (dsimp only at *; omega) | (dsimp only [room_1] at *; omega)) rfl (b01 (Or.inl rfl)) dL_isSound_194
                · replace h := it_F h c65
                  refine i_icmp_ne_T hx hb g63 g64 (tgt := 193) dL_isSound_163 (by decide) c65 ?_
                  refine lv_iconst (v := iI 0) hx hb dL_isSound_193 rfl ?_
                  obtain rfl := Option.some.inj h
                  obtain rfl := hrt _ rfl
                  exact e_z hx hb hr hlk (dro_P hP) (dro_D hD) hS (fun _ => 0) rfl (by first | omega | (dsimp only at *; omega) | (dsimp only [room_1] at *; omega)) (by first | omega | (dsimp only at *; omega) | (dsimp only [room_1] at *; omega)) rfl (b01 (Or.inl rfl)) dL_isSound_194
          · replace h := it_F h c53
            refine i_icmp_ne_T hx hb g7 ⟨by decide, by decide⟩ (tgt := 94) dL_isSound_86 (by decide) c53 ?_
            refine lv_sipush (v := iI 300) hx hb dL_isSound_94 rfl ?_
            refine x_istore hx hb dL_isSound_97 hl (by decide) [0, 1, 2, 3, 4, 5, 6, 7, 8] (lv' := [(8, .int (iI (x13 + x14))), (7, .int (iI x13)), (4, .int (iI (v4 + 1))), (6, .int (iI x6)), (0, .ref (ga 0)), (1, .ref bx2), (2, .ref bx1), (3, .ref bx0), (5, .int (iI v5))]) rfl (⟨⟨Nat.ne_of_beq_eq_false rfl, Or.inr rfl⟩, ⟨⟨Nat.ne_of_beq_eq_false rfl, Or.inl (Nat.ne_of_beq_eq_false rfl)⟩, ⟨⟨Nat.ne_of_beq_eq_false rfl, Or.inl (Nat.ne_of_beq_eq_false rfl)⟩, ⟨⟨Nat.ne_of_beq_eq_false rfl, Or.inl (Nat.ne_of_beq_eq_false rfl)⟩, ⟨⟨Nat.ne_of_beq_eq_false rfl, Or.inl (Nat.ne_of_beq_eq_false rfl)⟩, ⟨⟨Nat.ne_of_beq_eq_false rfl, Or.inl (Nat.ne_of_beq_eq_false rfl)⟩, ⟨⟨Nat.ne_of_beq_eq_false rfl, Or.inl (Nat.ne_of_beq_eq_false rfl)⟩, ⟨⟨Nat.ne_of_beq_eq_false rfl, Or.inl (Nat.ne_of_beq_eq_false rfl)⟩, ⟨⟨Nat.ne_of_beq_eq_false rfl, Or.inl (Nat.ne_of_beq_eq_false rfl)⟩, trivial⟩⟩⟩⟩⟩⟩⟩⟩⟩) (fun ls hl => ?_)
            refine lv_iload hx hb dL_isSound_99 (lv_at hl 4 rfl) ?_
            refine lv_iconst (v := iI 1) hx hb dL_isSound_101 rfl ?_
            refine i_icmp_ne_T hx hb g7 ⟨by decide, by decide⟩ (tgt := 116) dL_isSound_102 (by decide) c15 ?_
            refine lv_iload hx hb dL_isSound_116 (lv_at hl 4 rfl) ?_
            refine lv_iconst (v := iI 2) hx hb dL_isSound_118 rfl ?_
            refine i_icmp_ne_T hx hb g7 ⟨by decide, by decide⟩ (tgt := 133) dL_isSound_119 (by decide) c53 ?_
            refine lv_sipush (v := iI 420) hx hb dL_isSound_133 rfl ?_
            refine x_istore hx hb dL_isSound_136 hl (by decide) [0, 1, 2, 3, 4, 5, 6, 7, 8, 9] (lv' := [(9, .int (iI 300)), (8, .int (iI (x13 + x14))), (7, .int (iI x13)), (4, .int (iI (v4 + 1))), (6, .int (iI x6)), (0, .ref (ga 0)), (1, .ref bx2), (2, .ref bx1), (3, .ref bx0), (5, .int (iI v5))]) rfl (⟨⟨Nat.ne_of_beq_eq_false rfl, Or.inr rfl⟩, ⟨⟨Nat.ne_of_beq_eq_false rfl, Or.inl (Nat.ne_of_beq_eq_false rfl)⟩, ⟨⟨Nat.ne_of_beq_eq_false rfl, Or.inl (Nat.ne_of_beq_eq_false rfl)⟩, ⟨⟨Nat.ne_of_beq_eq_false rfl, Or.inl (Nat.ne_of_beq_eq_false rfl)⟩, ⟨⟨Nat.ne_of_beq_eq_false rfl, Or.inl (Nat.ne_of_beq_eq_false rfl)⟩, ⟨⟨Nat.ne_of_beq_eq_false rfl, Or.inl (Nat.ne_of_beq_eq_false rfl)⟩, ⟨⟨Nat.ne_of_beq_eq_false rfl, Or.inl (Nat.ne_of_beq_eq_false rfl)⟩, ⟨⟨Nat.ne_of_beq_eq_false rfl, Or.inl (Nat.ne_of_beq_eq_false rfl)⟩, ⟨⟨Nat.ne_of_beq_eq_false rfl, Or.inl (Nat.ne_of_beq_eq_false rfl)⟩, ⟨⟨Nat.ne_of_beq_eq_false rfl, Or.inl (Nat.ne_of_beq_eq_false rfl)⟩, trivial⟩⟩⟩⟩⟩⟩⟩⟩⟩⟩) (fun ls hl => ?_)
            refine lv_iload hx hb dL_isSound_138 (lv_at hl 3 rfl) ?_
            refine lv_iload hx hb dL_isSound_140 (lv_at hl 1 rfl) ?_
            obtain ⟨g82, h⟩ := og_some h
            by_cases c83 : x13 < 300
            · replace h := it_T h c83
              refine i_icmp_lt_T hx hb g82 ⟨by decide, by decide⟩ (tgt := 193) dL_isSound_142 (by decide) c83 ?_
              refine lv_iconst (v := iI 0) hx hb dL_isSound_193 rfl ?_
              obtain rfl := Option.some.inj h
              obtain rfl := hrt _ rfl
              exact e_z hx hb hr hlk (dro_P hP) (dro_D hD) hS (fun _ => 0) rfl (by first | omega | (dsimp only at *; omega) | (dsimp only [room_1] at *; omega)) (by first | omega | (dsimp only at *; omega) | (dsimp only [room_1] at *; omega)) rfl (b01 (Or.inl rfl)) dL_isSound_194
            · replace h := it_F h c83
              refine i_icmp_lt_F hx hb g82 ⟨by decide, by decide⟩ (tgt := 193) dL_isSound_142 (by decide) c83 ?_
              refine lv_iload hx hb dL_isSound_145 (lv_at hl 2 rfl) ?_
              refine lv_iload hx hb dL_isSound_147 (lv_at hl 0 rfl) ?_
              obtain ⟨g84, h⟩ := og_some h
              by_cases c85 : 420 < (x13 + x14)
              · replace h := it_T h c85
                refine i_icmp_gt_T hx hb g84 ⟨by decide, by decide⟩ (tgt := 193) dL_isSound_149 (by decide) c85 ?_
                refine lv_iconst (v := iI 0) hx hb dL_isSound_193 rfl ?_
                obtain rfl := Option.some.inj h
                obtain rfl := hrt _ rfl
                exact e_z hx hb hr hlk (dro_P hP) (dro_D hD) hS (fun _ => 0) rfl (by first | omega | (dsimp only at *; omega) | (dsimp only [room_1] at *; omega)) (by first | omega | (dsimp only at *; omega) | (dsimp only [room_1] at *; omega)) rfl (b01 (Or.inl rfl)) dL_isSound_194
              · replace h := it_F h c85
                refine i_icmp_gt_F hx hb g84 ⟨by decide, by decide⟩ (tgt := 193) dL_isSound_149 (by decide) c85 ?_
                refine lv_aload_n hx hb dL_isSound_152 rfl (lv_at hl 6 rfl) ?_
                refine lv_iload hx hb dL_isSound_153 (lv_at hl 10 rfl) ?_
                refine lv_iconst (v := iI 4) hx hb dL_isSound_155 rfl ?_
                obtain ⟨x86, ex86, h⟩ := ob_some h
                refine gx_i [(bx0, .inl (K 2, nx0, .inl (ci fx0))), (bx1, .inl (K 2, nx1, .inl (ci fx1))), (bx2, .inl (K 2, nx2, .inl (ci fx2)))] [] [(bx0, .inl (K 2, nx0, .inl (ci fx0))), (bx1, .inl (K 2, nx1, .inl (ci fx1))), (bx2, .inl (K 2, nx2, .inl (ci fx2)))] [] [0, 1, 2] 3 rfl rfl rfl (by decide) (by decide) (by decide) (by decide) (run_V (rest := []) hx hb hml hown hts hK hP hD hS hA hm (C_X_ofObject l G D K H.size ga n M v5 4 ex86) (axI [] 3 _) (ax_C (X := [(bx0, .inl (K 2, nx0, .inl (ci fx0))), (bx1, .inl (K 2, nx1, .inl (ci fx1))), (bx2, .inl (K 2, nx2, .inl (ci fx2)))]) (Y := []) rfl rfl (by decide)) (ax_n (by decide) (by decide)) mok_yX9_ofObject w_858 w_859 w_860 (rcv hK hP 3 (sk (sk (sk go_0))) rfl rfl) ⟨Nat.le_of_ble_eq_true rfl, Nat.le_of_ble_eq_true rfl⟩ rfl hl.1 rfl (Nat.le_of_ble_eq_true rfl) dL_isSound_156 ⟨(by first | omega | (dsimp only at *; omega) | (dsimp only [room_1] at *; omega)), (by first | omega | (dsimp only at *; omega) | (dsimp only [room_1] at *; omega))⟩) hP hD hS hA (fun u H locs (hP : va_P D cl ((bx0, .inl (K 2, nx0, .inl (ci fx0))) :: (bx1, .inl (K 2, nx1, .inl (ci fx1))) :: (bx2, .inl (K 2, nx2, .inl (ci fx2))) :: wld ga n (K 0) (K 1) M) H) (hD : va_D A ((bx0, .inl (K 2, nx0, .inl (ci fx0))) :: (bx1, .inl (K 2, nx1, .inl (ci fx1))) :: (bx2, .inl (K 2, nx2, .inl (ci fx2))) :: wld ga n (K 0) (K 1) M)) hS => ?_)
                refine lv_aload_n hx hb dL_isSound_159 rfl (lv_at hl 7 rfl) ?_
                refine lv_iload hx hb dL_isSound_160 (lv_at hl 10 rfl) ?_
                obtain ⟨g87, h⟩ := og_some h
                obtain ⟨g88, h⟩ := og_some h
                refine l_iald hx hb 2 hK hP (f := fx2) rfl g88.1 g88.2 g87 dL_isSound_162 ?_
                obtain ⟨g89, h⟩ := og_some h
                obtain ⟨g90, h⟩ := og_some h
                by_cases c91 : x86 = fx2 (v5.toNat)
                · replace h := it_T h c91
                  refine i_icmp_ne_F hx hb g89 g90 (tgt := 193) dL_isSound_163 (by decide) c91 ?_
                  refine lv_aload_n hx hb dL_isSound_166 rfl (lv_at hl 8 rfl) ?_
                  refine lv_iload hx hb dL_isSound_167 (lv_at hl 10 rfl) ?_
                  obtain ⟨g92, h⟩ := og_some h
                  obtain ⟨g93, h⟩ := og_some h
                  refine l_iald hx hb 1 hK hP (f := fx1) rfl g93.1 g93.2 g92 dL_isSound_169 ?_
                  obtain ⟨g94, h⟩ := og_some h
                  by_cases c95 : fx1 (v5.toNat) < 0
                  · replace h := it_T h c95
                    refine i_if_lt_T hx hb g94 (tgt := 195) dL_isSound_170 (by decide) c95 ?_
                    refine lv_iload hx hb dL_isSound_195 (lv_at hl 3 rfl) ?_
                    refine x_istore hx hb dL_isSound_197 hl (by decide) [0, 1, 2, 3, 4, 5, 6, 7, 8, 9, 10] (lv' := [(10, .int (iI 420)), (9, .int (iI 300)), (8, .int (iI (x13 + x14))), (7, .int (iI x13)), (4, .int (iI (v4 + 1))), (6, .int (iI x6)), (0, .ref (ga 0)), (1, .ref bx2), (2, .ref bx1), (3, .ref bx0), (5, .int (iI v5))]) rfl (⟨⟨Nat.ne_of_beq_eq_false rfl, Or.inr rfl⟩, ⟨⟨Nat.ne_of_beq_eq_false rfl, Or.inl (Nat.ne_of_beq_eq_false rfl)⟩, ⟨⟨Nat.ne_of_beq_eq_false rfl, Or.inl (Nat.ne_of_beq_eq_false rfl)⟩, ⟨⟨Nat.ne_of_beq_eq_false rfl, Or.inl (Nat.ne_of_beq_eq_false rfl)⟩, ⟨⟨Nat.ne_of_beq_eq_false rfl, Or.inl (Nat.ne_of_beq_eq_false rfl)⟩, ⟨⟨Nat.ne_of_beq_eq_false rfl, Or.inl (Nat.ne_of_beq_eq_false rfl)⟩, ⟨⟨Nat.ne_of_beq_eq_false rfl, Or.inl (Nat.ne_of_beq_eq_false rfl)⟩, ⟨⟨Nat.ne_of_beq_eq_false rfl, Or.inl (Nat.ne_of_beq_eq_false rfl)⟩, ⟨⟨Nat.ne_of_beq_eq_false rfl, Or.inl (Nat.ne_of_beq_eq_false rfl)⟩, ⟨⟨Nat.ne_of_beq_eq_false rfl, Or.inl (Nat.ne_of_beq_eq_false rfl)⟩, ⟨⟨Nat.ne_of_beq_eq_false rfl, Or.inl (Nat.ne_of_beq_eq_false rfl)⟩, trivial⟩⟩⟩⟩⟩⟩⟩⟩⟩⟩⟩) (fun ls hl => ?_)
                    obtain ⟨x96, ex96, h⟩ := ob_some h
                    refine L_Law_isSound_199 hx hb hr hml hown hts hlk hK hA hm hl0 ga n M (v4 + 1) v5 x6 (x13 + x14) nx0 bx0 nx1 bx1 fx1 nx2 bx2 fx2  fu x13 fx0 _ ex96 _ _ (by first | omega | (dsimp only at *; omega) | (dsimp only [room_1] at *; omega)) (by first | omega | (dsimp only at *; omega) | (dsimp only [room_1] at *; omega)) _ _ _ hP hD hS (lv_pk hl [7, 8, 9, 10, 5, 11, 6, 3, 0] rfl) (fun y96 ty96 cs96 sl96 hcs96 hsl96 ls H locs (hP : va_P D cl ((bx0, .inl (K 2, nx0, .inl (ci y96))) :: (bx1, .inl (K 2, nx1, .inl (ci fx1))) :: (bx2, .inl (K 2, nx2, .inl (ci fx2))) :: wld ga n (K 0) (K 1) M) H) (hD : va_D A ((bx0, .inl (K 2, nx0, .inl (ci y96))) :: (bx1, .inl (K 2, nx1, .inl (ci fx1))) :: (bx2, .inl (K 2, nx2, .inl (ci fx2))) :: wld ga n (K 0) (K 1) M)) hS (hl : lv_has ls 12 [(0, .ref (ga 0)), (1, .ref bx2), (2, .ref bx1), (3, .ref bx0), (4, .int (iI (v4 + 1))), (5, .int (iI v5)), (6, .int (iI x6))]) => ?_) (fun y96 ty96 => hrt _ (oi_r h ty96))
                    replace h := oi_l h ty96
                    refine lv_aload_n hx hb dL_isSound_229 rfl (lv_at hl 0 rfl) ?_
                    refine lv_iload hx hb dL_isSound_230 (lv_at hl 5 rfl) ?_
                    refine lv_iload hx hb dL_isSound_232 (lv_at hl 6 rfl) ?_
                    obtain ⟨x97, ex97, h⟩ := ob_some h
                    refine gx_i [(bx0, .inl (K 2, nx0, .inl (ci y96))), (bx1, .inl (K 2, nx1, .inl (ci fx1))), (bx2, .inl (K 2, nx2, .inl (ci fx2)))] [] [(bx0, .inl (K 2, nx0, .inl (ci y96))), (bx1, .inl (K 2, nx1, .inl (ci fx1))), (bx2, .inl (K 2, nx2, .inl (ci fx2)))] [] [0, 1, 2] 3 rfl rfl rfl (by decide) (by decide) (by decide) (by decide) (run_SW (rest := []) hx hb hml hown hts hK hP hD hS hA hm (C_Law_areFieldsSound l G D K hl0 H.size ga n M v5 x6 ex97) (axI [] 3 _) (ax_C (X := [(bx0, .inl (K 2, nx0, .inl (ci y96))), (bx1, .inl (K 2, nx1, .inl (ci fx1))), (bx2, .inl (K 2, nx2, .inl (ci fx2)))]) (Y := []) rfl rfl (by decide)) (ax_n (by decide) (by decide)) mokh_yL_areFieldsSound w_960 w_961 ⟨Nat.le_of_ble_eq_true rfl, Nat.le_of_ble_eq_true rfl⟩ rfl hl.1 rfl (Nat.le_of_ble_eq_true rfl) dL_isSound_234 ⟨(by first | omega | (dsimp only at *; omega) | (dsimp only [room_1] at *; omega)), (by first | omega | (dsimp only at *; omega) | (dsimp only [room_1] at *; omega))⟩) hP hD hS hA (fun u H locs (hP : va_P D cl ((bx0, .inl (K 2, nx0, .inl (ci y96))) :: (bx1, .inl (K 2, nx1, .inl (ci fx1))) :: (bx2, .inl (K 2, nx2, .inl (ci fx2))) :: wld ga n (K 0) (K 1) M) H) (hD : va_D A ((bx0, .inl (K 2, nx0, .inl (ci y96))) :: (bx1, .inl (K 2, nx1, .inl (ci fx1))) :: (bx2, .inl (K 2, nx2, .inl (ci fx2))) :: wld ga n (K 0) (K 1) M)) hS => ?_)
                    obtain ⟨g98, h⟩ := og_some h
                    by_cases c99 : x97 = 0
                    · replace h := it_T h c99
                      refine i_if_ne_F hx hb g98 (tgt := 242) dL_isSound_237 (by decide) c99 ?_
                      refine lv_iconst (v := iI 0) hx hb dL_isSound_240 rfl ?_
                      obtain rfl := Option.some.inj h
                      obtain rfl := hrt _ rfl
                      exact e_z hx hb hr hlk (dro_P hP) (dro_D hD) hS (fun _ => 0) rfl (by first | omega | (dsimp only at *; omega) | (dsimp only [room_1] at *; omega)) (by first | omega | (dsimp only at *; omega) | (dsimp only [room_1] at *; omega)) rfl (b01 (Or.inl rfl)) dL_isSound_241
                    · replace h := it_F h c99
                      refine i_if_ne_T hx hb g98 (tgt := 242) dL_isSound_237 (by decide) c99 ?_
                      refine x_iinc (v := iI (v5 + 1)) hx hb dL_isSound_242 hl (k := 5) rfl (iI_add v5 1) (by decide) [0, 1, 2, 3, 4, 6] (lv' := [(0, .ref (ga 0)), (1, .ref bx2), (2, .ref bx1), (3, .ref bx0), (4, .int (iI (v4 + 1))), (6, .int (iI x6))]) rfl (⟨⟨Nat.ne_of_beq_eq_false rfl, Or.inl (Nat.ne_of_beq_eq_false rfl)⟩, ⟨⟨Nat.ne_of_beq_eq_false rfl, Or.inl (Nat.ne_of_beq_eq_false rfl)⟩, ⟨⟨Nat.ne_of_beq_eq_false rfl, Or.inl (Nat.ne_of_beq_eq_false rfl)⟩, ⟨⟨Nat.ne_of_beq_eq_false rfl, Or.inl (Nat.ne_of_beq_eq_false rfl)⟩, ⟨⟨Nat.ne_of_beq_eq_false rfl, Or.inr rfl⟩, ⟨⟨Nat.ne_of_beq_eq_false rfl, Or.inl (Nat.ne_of_beq_eq_false rfl)⟩, trivial⟩⟩⟩⟩⟩⟩) (fun ls hl => ?_)
                      refine lv_goto (tgt := 12) hx hb dL_isSound_245 (by decide) ?_
                      exact ih (v4 + 1) (v5 + 1) y96 _ h _ _ (by first | omega | (dsimp only at *; omega) | (dsimp only [room_1] at *; omega)) (by first | omega | (dsimp only at *; omega) | (dsimp only [room_1] at *; omega)) _ _ _ hP hD hS (lv_pk hl [1, 2, 3, 4, 5, 0] rfl) (fun y7 t7 cs2 sl2 h7 h8 => kk y7 t7 cs2 sl2 (by first | (dsimp only at h7; omega) | omega | (dsimp only at *; omega)) (by first | (dsimp only at h8; omega) | omega | (dsimp only at *; omega))) hrt
                  · replace h := it_F h c95
                    refine i_if_lt_F hx hb g94 (tgt := 195) dL_isSound_170 (by decide) c95 ?_
                    refine lv_iload hx hb dL_isSound_173 (lv_at hl 3 rfl) ?_
                    refine lv_aload_n hx hb dL_isSound_175 rfl (lv_at hl 8 rfl) ?_
                    refine lv_iload hx hb dL_isSound_176 (lv_at hl 10 rfl) ?_
                    refine l_iald hx hb 1 hK hP (f := fx1) rfl g93.1 g93.2 g92 dL_isSound_178 ?_
                    by_cases c100 : x13 = fx1 (v5.toNat)
                    · replace h := it_T h c100
                      refine i_icmp_ne_F hx hb g82 g94 (tgt := 193) dL_isSound_179 (by decide) c100 ?_
                      refine lv_aload_n hx hb dL_isSound_182 rfl (lv_at hl 6 rfl) ?_
                      refine lv_iload hx hb dL_isSound_183 (lv_at hl 10 rfl) ?_
                      refine lv_iconst (v := iI 5) hx hb dL_isSound_185 rfl ?_
                      obtain ⟨x101, ex101, h⟩ := ob_some h
                      refine gx_i [(bx0, .inl (K 2, nx0, .inl (ci fx0))), (bx1, .inl (K 2, nx1, .inl (ci fx1))), (bx2, .inl (K 2, nx2, .inl (ci fx2)))] [] [(bx0, .inl (K 2, nx0, .inl (ci fx0))), (bx1, .inl (K 2, nx1, .inl (ci fx1))), (bx2, .inl (K 2, nx2, .inl (ci fx2)))] [] [0, 1, 2] 3 rfl rfl rfl (by decide) (by decide) (by decide) (by decide) (run_V (rest := []) hx hb hml hown hts hK hP hD hS hA hm (C_X_ofObject l G D K H.size ga n M v5 5 ex101) (axI [] 3 _) (ax_C (X := [(bx0, .inl (K 2, nx0, .inl (ci fx0))), (bx1, .inl (K 2, nx1, .inl (ci fx1))), (bx2, .inl (K 2, nx2, .inl (ci fx2)))]) (Y := []) rfl rfl (by decide)) (ax_n (by decide) (by decide)) mok_yX9_ofObject w_858 w_859 w_860 (rcv hK hP 3 (sk (sk (sk go_0))) rfl rfl) ⟨Nat.le_of_ble_eq_true rfl, Nat.le_of_ble_eq_true rfl⟩ rfl hl.1 rfl (Nat.le_of_ble_eq_true rfl) dL_isSound_186 ⟨(by first | omega | (dsimp only at *; omega) | (dsimp only [room_1] at *; omega)), (by first | omega | (dsimp only at *; omega) | (dsimp only [room_1] at *; omega))⟩) hP hD hS hA (fun u H locs (hP : va_P D cl ((bx0, .inl (K 2, nx0, .inl (ci fx0))) :: (bx1, .inl (K 2, nx1, .inl (ci fx1))) :: (bx2, .inl (K 2, nx2, .inl (ci fx2))) :: wld ga n (K 0) (K 1) M) H) (hD : va_D A ((bx0, .inl (K 2, nx0, .inl (ci fx0))) :: (bx1, .inl (K 2, nx1, .inl (ci fx1))) :: (bx2, .inl (K 2, nx2, .inl (ci fx2))) :: wld ga n (K 0) (K 1) M)) hS => ?_)
                      refine lv_iconst (v := iI 1) hx hb dL_isSound_189 rfl ?_
                      obtain ⟨g102, h⟩ := og_some h
                      by_cases c103 : x101 = 1
                      · replace h := it_T h c103
                        refine i_icmp_eq_T hx hb g102 ⟨by decide, by decide⟩ (tgt := 195) dL_isSound_190 (by decide) c103 ?_
                        refine lv_iload hx hb dL_isSound_195 (lv_at hl 3 rfl) ?_
                        refine x_istore hx hb dL_isSound_197 hl (by decide) [0, 1, 2, 3, 4, 5, 6, 7, 8, 9, 10] (lv' := [(10, .int (iI 420)), (9, .int (iI 300)), (8, .int (iI (x13 + x14))), (7, .int (iI x13)), (4, .int (iI (v4 + 1))), (6, .int (iI x6)), (0, .ref (ga 0)), (1, .ref bx2), (2, .ref bx1), (3, .ref bx0), (5, .int (iI v5))]) rfl (⟨⟨Nat.ne_of_beq_eq_false rfl, Or.inr rfl⟩, ⟨⟨Nat.ne_of_beq_eq_false rfl, Or.inl (Nat.ne_of_beq_eq_false rfl)⟩, ⟨⟨Nat.ne_of_beq_eq_false rfl, Or.inl (Nat.ne_of_beq_eq_false rfl)⟩, ⟨⟨Nat.ne_of_beq_eq_false rfl, Or.inl (Nat.ne_of_beq_eq_false rfl)⟩, ⟨⟨Nat.ne_of_beq_eq_false rfl, Or.inl (Nat.ne_of_beq_eq_false rfl)⟩, ⟨⟨Nat.ne_of_beq_eq_false rfl, Or.inl (Nat.ne_of_beq_eq_false rfl)⟩, ⟨⟨Nat.ne_of_beq_eq_false rfl, Or.inl (Nat.ne_of_beq_eq_false rfl)⟩, ⟨⟨Nat.ne_of_beq_eq_false rfl, Or.inl (Nat.ne_of_beq_eq_false rfl)⟩, ⟨⟨Nat.ne_of_beq_eq_false rfl, Or.inl (Nat.ne_of_beq_eq_false rfl)⟩, ⟨⟨Nat.ne_of_beq_eq_false rfl, Or.inl (Nat.ne_of_beq_eq_false rfl)⟩, ⟨⟨Nat.ne_of_beq_eq_false rfl, Or.inl (Nat.ne_of_beq_eq_false rfl)⟩, trivial⟩⟩⟩⟩⟩⟩⟩⟩⟩⟩⟩) (fun ls hl => ?_)
                        obtain ⟨x104, ex104, h⟩ := ob_some h
                        refine L_Law_isSound_199 hx hb hr hml hown hts hlk hK hA hm hl0 ga n M (v4 + 1) v5 x6 (x13 + x14) nx0 bx0 nx1 bx1 fx1 nx2 bx2 fx2  fu x13 fx0 _ ex104 _ _ (by first | omega | (dsimp only at *; omega) | (dsimp only [room_1] at *; omega)) (by first | omega | (dsimp only at *; omega) | (dsimp only [room_1] at *; omega)) _ _ _ hP hD hS (lv_pk hl [7, 8, 9, 10, 5, 11, 6, 3, 0] rfl) (fun y104 ty104 cs104 sl104 hcs104 hsl104 ls H locs (hP : va_P D cl ((bx0, .inl (K 2, nx0, .inl (ci y104))) :: (bx1, .inl (K 2, nx1, .inl (ci fx1))) :: (bx2, .inl (K 2, nx2, .inl (ci fx2))) :: wld ga n (K 0) (K 1) M) H) (hD : va_D A ((bx0, .inl (K 2, nx0, .inl (ci y104))) :: (bx1, .inl (K 2, nx1, .inl (ci fx1))) :: (bx2, .inl (K 2, nx2, .inl (ci fx2))) :: wld ga n (K 0) (K 1) M)) hS (hl : lv_has ls 12 [(0, .ref (ga 0)), (1, .ref bx2), (2, .ref bx1), (3, .ref bx0), (4, .int (iI (v4 + 1))), (5, .int (iI v5)), (6, .int (iI x6))]) => ?_) (fun y104 ty104 => hrt _ (oi_r h ty104))
                        replace h := oi_l h ty104
                        refine lv_aload_n hx hb dL_isSound_229 rfl (lv_at hl 0 rfl) ?_
                        refine lv_iload hx hb dL_isSound_230 (lv_at hl 5 rfl) ?_
                        refine lv_iload hx hb dL_isSound_232 (lv_at hl 6 rfl) ?_
                        obtain ⟨x105, ex105, h⟩ := ob_some h
                        refine gx_i [(bx0, .inl (K 2, nx0, .inl (ci y104))), (bx1, .inl (K 2, nx1, .inl (ci fx1))), (bx2, .inl (K 2, nx2, .inl (ci fx2)))] [] [(bx0, .inl (K 2, nx0, .inl (ci y104))), (bx1, .inl (K 2, nx1, .inl (ci fx1))), (bx2, .inl (K 2, nx2, .inl (ci fx2)))] [] [0, 1, 2] 3 rfl rfl rfl (by decide) (by decide) (by decide) (by decide) (run_SW (rest := []) hx hb hml hown hts hK hP hD hS hA hm (C_Law_areFieldsSound l G D K hl0 H.size ga n M v5 x6 ex105) (axI [] 3 _) (ax_C (X := [(bx0, .inl (K 2, nx0, .inl (ci y104))), (bx1, .inl (K 2, nx1, .inl (ci fx1))), (bx2, .inl (K 2, nx2, .inl (ci fx2)))]) (Y := []) rfl rfl (by decide)) (ax_n (by decide) (by decide)) mokh_yL_areFieldsSound w_960 w_961 ⟨Nat.le_of_ble_eq_true rfl, Nat.le_of_ble_eq_true rfl⟩ rfl hl.1 rfl (Nat.le_of_ble_eq_true rfl) dL_isSound_234 ⟨(by first | omega | (dsimp only at *; omega) | (dsimp only [room_1] at *; omega)), (by first | omega | (dsimp only at *; omega) | (dsimp only [room_1] at *; omega))⟩) hP hD hS hA (fun u H locs (hP : va_P D cl ((bx0, .inl (K 2, nx0, .inl (ci y104))) :: (bx1, .inl (K 2, nx1, .inl (ci fx1))) :: (bx2, .inl (K 2, nx2, .inl (ci fx2))) :: wld ga n (K 0) (K 1) M) H) (hD : va_D A ((bx0, .inl (K 2, nx0, .inl (ci y104))) :: (bx1, .inl (K 2, nx1, .inl (ci fx1))) :: (bx2, .inl (K 2, nx2, .inl (ci fx2))) :: wld ga n (K 0) (K 1) M)) hS => ?_)
                        obtain ⟨g106, h⟩ := og_some h
                        by_cases c107 : x105 = 0
                        · replace h := it_T h c107
                          refine i_if_ne_F hx hb g106 (tgt := 242) dL_isSound_237 (by decide) c107 ?_
                          refine lv_iconst (v := iI 0) hx hb dL_isSound_240 rfl ?_
                          obtain rfl := Option.some.inj h
                          obtain rfl := hrt _ rfl
                          exact e_z hx hb hr hlk (dro_P hP) (dro_D hD) hS (fun _ => 0) rfl (by first | omega | (dsimp only at *; omega) | (dsimp only [room_1] at *; omega)) (by first | omega | (dsimp only at *; omega) | (dsimp only [room_1] at *; omega)) rfl (b01 (Or.inl rfl)) dL_isSound_241
                        · replace h := it_F h c107
                          refine i_if_ne_T hx hb g106 (tgt := 242) dL_isSound_237 (by decide) c107 ?_
                          refine x_iinc (v := iI (v5 + 1)) hx hb dL_isSound_242 hl (k := 5) rfl (iI_add v5 1) (by decide) [0, 1, 2, 3, 4, 6] (lv' := [(0, .ref (ga 0)), (1, .ref bx2), (2, .ref bx1), (3, .ref bx0), (4, .int (iI (v4 + 1))), (6, .int (iI x6))]) rfl (⟨⟨Nat.ne_of_beq_eq_false rfl, Or.inl (Nat.ne_of_beq_eq_false rfl)⟩, ⟨⟨Nat.ne_of_beq_eq_false rfl, Or.inl (Nat.ne_of_beq_eq_false rfl)⟩, ⟨⟨Nat.ne_of_beq_eq_false rfl, Or.inl (Nat.ne_of_beq_eq_false rfl)⟩, ⟨⟨Nat.ne_of_beq_eq_false rfl, Or.inl (Nat.ne_of_beq_eq_false rfl)⟩, ⟨⟨Nat.ne_of_beq_eq_false rfl, Or.inr rfl⟩, ⟨⟨Nat.ne_of_beq_eq_false rfl, Or.inl (Nat.ne_of_beq_eq_false rfl)⟩, trivial⟩⟩⟩⟩⟩⟩) (fun ls hl => ?_)
                          refine lv_goto (tgt := 12) hx hb dL_isSound_245 (by decide) ?_
                          exact ih (v4 + 1) (v5 + 1) y104 _ h _ _ (by first | omega | (dsimp only at *; omega) | (dsimp only [room_1] at *; omega)) (by first | omega | (dsimp only at *; omega) | (dsimp only [room_1] at *; omega)) _ _ _ hP hD hS (lv_pk hl [1, 2, 3, 4, 5, 0] rfl) (fun y7 t7 cs2 sl2 h7 h8 => kk y7 t7 cs2 sl2 (by first | (dsimp only at h7; omega) | omega | (dsimp only at *; omega)) (by first | (dsimp only at h8; omega) | omega | (dsimp only at *; omega))) hrt
                      · replace h := it_F h c103
                        refine i_icmp_eq_F hx hb g102 ⟨by decide, by decide⟩ (tgt := 195) dL_isSound_190 (by decide) c103 ?_
                        refine lv_iconst (v := iI 0) hx hb dL_isSound_193 rfl ?_
                        obtain rfl := Option.some.inj h
                        obtain rfl := hrt _ rfl
                        exact e_z hx hb hr hlk (dro_P hP) (dro_D hD) hS (fun _ => 0) rfl (by first | omega | (dsimp only at *; omega) | (dsimp only [room_1] at *; omega)) (by first | omega | (dsimp only at *; omega) | (dsimp only [room_1] at *; omega)) rfl (b01 (Or.inl rfl)) dL_isSound_194
                    · replace h := it_F h c100
                      refine i_icmp_ne_T hx hb g82 g94 (tgt := 193) dL_isSound_179 (by decide) c100 ?_
                      refine lv_iconst (v := iI 0) hx hb dL_isSound_193 rfl ?_
                      obtain rfl := Option.some.inj h
                      obtain rfl := hrt _ rfl
                      exact e_z hx hb hr hlk (dro_P hP) (dro_D hD) hS (fun _ => 0) rfl (by first | omega | (dsimp only at *; omega) | (dsimp only [room_1] at *; omega)) (by first | omega | (dsimp only at *; omega) | (dsimp only [room_1] at *; omega)) rfl (b01 (Or.inl rfl)) dL_isSound_194
                · replace h := it_F h c91
                  refine i_icmp_ne_T hx hb g89 g90 (tgt := 193) dL_isSound_163 (by decide) c91 ?_
                  refine lv_iconst (v := iI 0) hx hb dL_isSound_193 rfl ?_
                  obtain rfl := Option.some.inj h
                  obtain rfl := hrt _ rfl
                  exact e_z hx hb hr hlk (dro_P hP) (dro_D hD) hS (fun _ => 0) rfl (by first | omega | (dsimp only at *; omega) | (dsimp only [room_1] at *; omega)) (by first | omega | (dsimp only at *; omega) | (dsimp only [room_1] at *; omega)) rfl (b01 (Or.inl rfl)) dL_isSound_194
    · replace h := it_F h c5
      refine i_icmp_ge_T hx hb g3 g4 (tgt := 248) dL_isSound_19 (by decide) c5 ?_
      obtain rfl := Option.some.inj h
      exact kk _ rfl _ _ (by first | omega | (dsimp only at *; omega) | (dsimp only [room_1] at *; omega)) (by first | omega | (dsimp only at *; omega) | (dsimp only [room_1] at *; omega)) _ _ _ hP hD hS (lv_pk hl [0, 4] rfl)
def s_Law_isSound_251 (rec : Int → Option ((Unit) ⊕ (Int))) (n : Nat) (M : cSt) (v4 : Int) (nx0 : Nat) (fx0 : Nat → Int) (nx1 : Nat) (fx1 : Nat → Int) (nx2 : Nat) (fx2 : Nat → Int) (v5 : Int) : Option ((Unit) ⊕ (Int)) := og (inR v5) (if v5 < 4 then ob (f_X_at n M v5) (fun x111 => og (inR x111) (if x111 < 0 then rec (v5 + 1) else ob (f_X_at n M v5) (fun x114 => ob (f_X_ofObject n M x114 0) (fun x115 => og (inR x115) (if x115 = 0 then some (.inr 0) else rec (v5 + 1)))))) else some (.inl ()))
def g_Law_isSound_251 (n : Nat) (M : cSt) (v4 : Int) (nx0 : Nat) (fx0 : Nat → Int) (nx1 : Nat) (fx1 : Nat → Int) (nx2 : Nat) (fx2 : Nat → Int) : Nat → Int → Option ((Unit) ⊕ (Int))
  | 0 => fun _ => none
  | q + 1 => s_Law_isSound_251 (g_Law_isSound_251 n M v4 nx0 fx0 nx1 fx1 nx2 fx2 q) n M v4 nx0 fx0 nx1 fx1 nx2 fx2
set_option maxHeartbeats 4000000 in
set_option maxRecDepth 100000 in
theorem L_Law_isSound_251 {p : Program} {l : Launch} {G : Nat → Nat} {D : va_G} {K : Nat → ClassId} {e : Env} {s : State} {m : MethodId} {args : Array Value} {below : List Frame} {meth : Method} {c : Code} {A : Nat → Prop} (hx : p.tables.exec = Jvm.exec) (hb : c.code = cL_isSound) (hr : meth.sig.returnType = (some FieldType.boolean)) (hml : c.maxLocals = 12) (hown : s.vm.findClass RL = some m.cls) (hts : ∀ w ∈ lw_gw, w.before args s = true) (hlk : meth.locks = false) (hK : va_K D cl (tys K) s) (hA : ∀ q : Nat, s.heap.size ≤ q → A q) (hm : Amb G A s s.heap) (hl0 : l.stackTraces = false) {x : Int} (ga : Nat → Nat) (n : Nat) (M : cSt) (v4 : Int) (nx0 : Nat) (bx0 : Nat) (fx0 : Nat → Int) (nx1 : Nat) (bx1 : Nat) (fx1 : Nat → Int) (nx2 : Nat) (bx2 : Nat) (fx2 : Nat → Int) : ∀ (q : Nat) (v5 : Int) (out : (Unit) ⊕ (Int)), g_Law_isSound_251 n M v4 nx0 fx0 nx1 fx1 nx2 fx2 q v5 = some out → ∀ (cs sl : Nat), cs + q * 0 + 0 ≤ 501 → sl + q * 0 + 0 ≤ 3420 → ∀ (ls : Array Slot) (H : Heap) (locs : List Loc), va_P D cl ((bx0, .inl (K 2, nx0, .inl (ci fx0))) :: (bx1, .inl (K 2, nx1, .inl (ci fx1))) :: (bx2, .inl (K 2, nx2, .inl (ci fx2))) :: wld ga n (K 0) (K 1) M) H → va_D A ((bx0, .inl (K 2, nx0, .inl (ci fx0))) :: (bx1, .inl (K 2, nx1, .inl (ci fx1))) :: (bx2, .inl (K 2, nx2, .inl (ci fx2))) :: wld ga n (K 0) (K 1) M) → va_S A s.heap H locs → lv_has ls 12 [(0, .ref (ga 0)), (4, .int (iI v4)), (5, .int (iI v5))] → (∀ (y : (Unit)), out = .inl y → ∀ (cs2 sl2 : Nat), cs2 ≤ cs + q * 0 → sl2 ≤ sl + q * 0 → ∀ (ls : Array Slot) (H : Heap) (locs : List Loc), va_P D cl ((bx0, .inl (K 2, nx0, .inl (ci fx0))) :: (bx1, .inl (K 2, nx1, .inl (ci fx1))) :: (bx2, .inl (K 2, nx2, .inl (ci fx2))) :: wld ga n (K 0) (K 1) M) H → va_D A ((bx0, .inl (K 2, nx0, .inl (ci fx0))) :: (bx1, .inl (K 2, nx1, .inl (ci fx1))) :: (bx2, .inl (K 2, nx2, .inl (ci fx2))) :: wld ga n (K 0) (K 1) M) → va_S A s.heap H locs → lv_has ls 12 [(0, .ref (ga 0)), (4, .int (iI v4))] → W p l e ({ frames := 9, cells := 501, slots := 3420, locals := 246 } : Room) s m args below meth c H locs cs2 sl2 (MQ below ((CQi (iI x) D (fun _ => (bx1, .inl (K 2, nx1, .inl (ci fx1))) :: (bx2, .inl (K 2, nx2, .inl (ci fx2))) :: wld ga n (K 0) (K 1) M)) A) args s 501 3420 A) (F0 m 288 ls [])) → (∀ y : Int, out = .inr y → y = x) → W p l e ({ frames := 9, cells := 501, slots := 3420, locals := 246 } : Room) s m args below meth c H locs cs sl (MQ below ((CQi (iI x) D (fun _ => (bx1, .inl (K 2, nx1, .inl (ci fx1))) :: (bx2, .inl (K 2, nx2, .inl (ci fx2))) :: wld ga n (K 0) (K 1) M)) A) args s 501 3420 A) (F0 m 251 ls []) := by
  intro q
  induction q with
  | zero =>
    intro v5 out h
    cases (show none = some out from h)
  | succ q ih =>
    intro v5 out h cs sl hcs hsl ls H locs hP hD hS hl kk hrt
    replace h : s_Law_isSound_251 (g_Law_isSound_251 n M v4 nx0 fx0 nx1 fx1 nx2 fx2 q) n M v4 nx0 fx0 nx1 fx1 nx2 fx2 v5 = some out := h
    unfold s_Law_isSound_251 at h
    have hfu : fu = 500 := rfl
    refine lv_iload hx hb dL_isSound_251 (lv_at hl 2 rfl) ?_
    refine lv_iconst (v := iI 4) hx hb dL_isSound_253 rfl ?_
    obtain ⟨g109, h⟩ := og_some h
    by_cases c110 : v5 < 4
    · replace h := it_T h c110
      refine i_icmp_ge_F hx hb g109 ⟨by decide, by decide⟩ (tgt := 288) dL_isSound_254 (by decide) c110 ?_
      refine lv_aload_n hx hb dL_isSound_257 rfl (lv_at hl 0 rfl) ?_
      refine lv_iload hx hb dL_isSound_258 (lv_at hl 2 rfl) ?_
      obtain ⟨x111, ex111, h⟩ := ob_some h
      refine gx_i [(bx0, .inl (K 2, nx0, .inl (ci fx0))), (bx1, .inl (K 2, nx1, .inl (ci fx1))), (bx2, .inl (K 2, nx2, .inl (ci fx2)))] [] [(bx0, .inl (K 2, nx0, .inl (ci fx0))), (bx1, .inl (K 2, nx1, .inl (ci fx1))), (bx2, .inl (K 2, nx2, .inl (ci fx2)))] [] [0, 1, 2] 3 rfl rfl rfl (by decide) (by decide) (by decide) (by decide) (run_V (rest := []) hx hb hml hown hts hK hP hD hS hA hm (C_X_at l G D K H.size ga n M v5 ex111) (axI [] 3 _) (ax_C (X := [(bx0, .inl (K 2, nx0, .inl (ci fx0))), (bx1, .inl (K 2, nx1, .inl (ci fx1))), (bx2, .inl (K 2, nx2, .inl (ci fx2)))]) (Y := []) rfl rfl (by decide)) (ax_n (by decide) (by decide)) mok_yX9_at w_844 w_845 w_846 (rcv hK hP 3 (sk (sk (sk go_0))) rfl rfl) ⟨Nat.le_of_ble_eq_true rfl, Nat.le_of_ble_eq_true rfl⟩ rfl hl.1 rfl (Nat.le_of_ble_eq_true rfl) dL_isSound_260 ⟨(by first | omega | (dsimp only at *; omega) | (dsimp only [room_1] at *; omega)), (by first | omega | (dsimp only at *; omega) | (dsimp only [room_1] at *; omega))⟩) hP hD hS hA (fun u H locs (hP : va_P D cl ((bx0, .inl (K 2, nx0, .inl (ci fx0))) :: (bx1, .inl (K 2, nx1, .inl (ci fx1))) :: (bx2, .inl (K 2, nx2, .inl (ci fx2))) :: wld ga n (K 0) (K 1) M) H) (hD : va_D A ((bx0, .inl (K 2, nx0, .inl (ci fx0))) :: (bx1, .inl (K 2, nx1, .inl (ci fx1))) :: (bx2, .inl (K 2, nx2, .inl (ci fx2))) :: wld ga n (K 0) (K 1) M)) hS => ?_)
      obtain ⟨g112, h⟩ := og_some h
      by_cases c113 : x111 < 0
      · replace h := it_T h c113
        refine i_if_lt_T hx hb g112 (tgt := 282) dL_isSound_263 (by decide) c113 ?_
        refine x_iinc (v := iI (v5 + 1)) hx hb dL_isSound_282 hl (k := 2) rfl (iI_add v5 1) (by decide) [0, 1] (lv' := [(0, .ref (ga 0)), (4, .int (iI v4))]) rfl (⟨⟨Nat.ne_of_beq_eq_false rfl, Or.inl (Nat.ne_of_beq_eq_false rfl)⟩, ⟨⟨Nat.ne_of_beq_eq_false rfl, Or.inr rfl⟩, trivial⟩⟩) (fun ls hl => ?_)
        refine lv_goto (tgt := 251) hx hb dL_isSound_285 (by decide) ?_
        exact ih (v5 + 1) _ h _ _ (by first | omega | (dsimp only at *; omega) | (dsimp only [room_1] at *; omega)) (by first | omega | (dsimp only at *; omega) | (dsimp only [room_1] at *; omega)) _ _ _ hP hD hS (lv_pk hl [1, 2, 0] rfl) (fun y7 t7 cs2 sl2 h7 h8 => kk y7 t7 cs2 sl2 (by first | (dsimp only at h7; omega) | omega | (dsimp only at *; omega)) (by first | (dsimp only at h8; omega) | omega | (dsimp only at *; omega))) hrt
      · replace h := it_F h c113
        refine i_if_lt_F hx hb g112 (tgt := 282) dL_isSound_263 (by decide) c113 ?_
        refine lv_aload_n hx hb dL_isSound_266 rfl (lv_at hl 0 rfl) ?_
        refine lv_aload_n hx hb dL_isSound_267 rfl (lv_at hl 0 rfl) ?_
        refine lv_iload hx hb dL_isSound_268 (lv_at hl 2 rfl) ?_
        obtain ⟨x114, ex114, h⟩ := ob_some h
        refine gx_i [(bx0, .inl (K 2, nx0, .inl (ci fx0))), (bx1, .inl (K 2, nx1, .inl (ci fx1))), (bx2, .inl (K 2, nx2, .inl (ci fx2)))] [] [(bx0, .inl (K 2, nx0, .inl (ci fx0))), (bx1, .inl (K 2, nx1, .inl (ci fx1))), (bx2, .inl (K 2, nx2, .inl (ci fx2)))] [] [0, 1, 2] 3 rfl rfl rfl (by decide) (by decide) (by decide) (by decide) (run_V (rest := [.ref (ga 0)]) hx hb hml hown hts hK hP hD hS hA hm (C_X_at l G D K H.size ga n M v5 ex114) (axI [] 3 _) (ax_C (X := [(bx0, .inl (K 2, nx0, .inl (ci fx0))), (bx1, .inl (K 2, nx1, .inl (ci fx1))), (bx2, .inl (K 2, nx2, .inl (ci fx2)))]) (Y := []) rfl rfl (by decide)) (ax_n (by decide) (by decide)) mok_yX9_at w_844 w_845 w_846 (rcv hK hP 3 (sk (sk (sk go_0))) rfl rfl) ⟨Nat.le_of_ble_eq_true rfl, Nat.le_of_ble_eq_true rfl⟩ rfl hl.1 rfl (Nat.le_of_ble_eq_true rfl) dL_isSound_270 ⟨(by first | omega | (dsimp only at *; omega) | (dsimp only [room_1] at *; omega)), (by first | omega | (dsimp only at *; omega) | (dsimp only [room_1] at *; omega))⟩) hP hD hS hA (fun u H locs (hP : va_P D cl ((bx0, .inl (K 2, nx0, .inl (ci fx0))) :: (bx1, .inl (K 2, nx1, .inl (ci fx1))) :: (bx2, .inl (K 2, nx2, .inl (ci fx2))) :: wld ga n (K 0) (K 1) M) H) (hD : va_D A ((bx0, .inl (K 2, nx0, .inl (ci fx0))) :: (bx1, .inl (K 2, nx1, .inl (ci fx1))) :: (bx2, .inl (K 2, nx2, .inl (ci fx2))) :: wld ga n (K 0) (K 1) M)) hS => ?_)
        refine lv_iconst (v := iI 0) hx hb dL_isSound_273 rfl ?_
        obtain ⟨x115, ex115, h⟩ := ob_some h
        refine gx_i [(bx0, .inl (K 2, nx0, .inl (ci fx0))), (bx1, .inl (K 2, nx1, .inl (ci fx1))), (bx2, .inl (K 2, nx2, .inl (ci fx2)))] [] [(bx0, .inl (K 2, nx0, .inl (ci fx0))), (bx1, .inl (K 2, nx1, .inl (ci fx1))), (bx2, .inl (K 2, nx2, .inl (ci fx2)))] [] [0, 1, 2] 3 rfl rfl rfl (by decide) (by decide) (by decide) (by decide) (run_V (rest := []) hx hb hml hown hts hK hP hD hS hA hm (C_X_ofObject l G D K H.size ga n M x114 0 ex115) (axI [] 3 _) (ax_C (X := [(bx0, .inl (K 2, nx0, .inl (ci fx0))), (bx1, .inl (K 2, nx1, .inl (ci fx1))), (bx2, .inl (K 2, nx2, .inl (ci fx2)))]) (Y := []) rfl rfl (by decide)) (ax_n (by decide) (by decide)) mok_yX9_ofObject w_858 w_859 w_860 (rcv hK hP 3 (sk (sk (sk go_0))) rfl rfl) ⟨Nat.le_of_ble_eq_true rfl, Nat.le_of_ble_eq_true rfl⟩ rfl hl.1 rfl (Nat.le_of_ble_eq_true rfl) dL_isSound_274 ⟨(by first | omega | (dsimp only at *; omega) | (dsimp only [room_1] at *; omega)), (by first | omega | (dsimp only at *; omega) | (dsimp only [room_1] at *; omega))⟩) hP hD hS hA (fun u H locs (hP : va_P D cl ((bx0, .inl (K 2, nx0, .inl (ci fx0))) :: (bx1, .inl (K 2, nx1, .inl (ci fx1))) :: (bx2, .inl (K 2, nx2, .inl (ci fx2))) :: wld ga n (K 0) (K 1) M) H) (hD : va_D A ((bx0, .inl (K 2, nx0, .inl (ci fx0))) :: (bx1, .inl (K 2, nx1, .inl (ci fx1))) :: (bx2, .inl (K 2, nx2, .inl (ci fx2))) :: wld ga n (K 0) (K 1) M)) hS => ?_)
        obtain ⟨g116, h⟩ := og_some h
        by_cases c117 : x115 = 0
        · replace h := it_T h c117
          refine i_if_ne_F hx hb g116 (tgt := 282) dL_isSound_277 (by decide) c117 ?_
          refine lv_iconst (v := iI 0) hx hb dL_isSound_280 rfl ?_
          obtain rfl := Option.some.inj h
          obtain rfl := hrt _ rfl
          exact e_z hx hb hr hlk (dro_P hP) (dro_D hD) hS (fun _ => 0) rfl (by first | omega | (dsimp only at *; omega) | (dsimp only [room_1] at *; omega)) (by first | omega | (dsimp only at *; omega) | (dsimp only [room_1] at *; omega)) rfl (b01 (Or.inl rfl)) dL_isSound_281
        · replace h := it_F h c117
          refine i_if_ne_T hx hb g116 (tgt := 282) dL_isSound_277 (by decide) c117 ?_
          refine x_iinc (v := iI (v5 + 1)) hx hb dL_isSound_282 hl (k := 2) rfl (iI_add v5 1) (by decide) [0, 1] (lv' := [(0, .ref (ga 0)), (4, .int (iI v4))]) rfl (⟨⟨Nat.ne_of_beq_eq_false rfl, Or.inl (Nat.ne_of_beq_eq_false rfl)⟩, ⟨⟨Nat.ne_of_beq_eq_false rfl, Or.inr rfl⟩, trivial⟩⟩) (fun ls hl => ?_)
          refine lv_goto (tgt := 251) hx hb dL_isSound_285 (by decide) ?_
          exact ih (v5 + 1) _ h _ _ (by first | omega | (dsimp only at *; omega) | (dsimp only [room_1] at *; omega)) (by first | omega | (dsimp only at *; omega) | (dsimp only [room_1] at *; omega)) _ _ _ hP hD hS (lv_pk hl [1, 2, 0] rfl) (fun y7 t7 cs2 sl2 h7 h8 => kk y7 t7 cs2 sl2 (by first | (dsimp only at h7; omega) | omega | (dsimp only at *; omega)) (by first | (dsimp only at h8; omega) | omega | (dsimp only at *; omega))) hrt
    · replace h := it_F h c110
      refine i_icmp_ge_T hx hb g109 ⟨by decide, by decide⟩ (tgt := 288) dL_isSound_254 (by decide) c110 ?_
      obtain rfl := Option.some.inj h
      exact kk _ rfl _ _ (by first | omega | (dsimp only at *; omega) | (dsimp only [room_1] at *; omega)) (by first | omega | (dsimp only at *; omega) | (dsimp only [room_1] at *; omega)) _ _ _ hP hD hS (lv_pk hl [0, 1] rfl)
def f_Law_isSound (n : Nat) (M : cSt) (n1 : Nat) (f1 : Nat → Int) (n2 : Nat) (f2 : Nat → Int) : Option (Int) := ob (g_Law_isSound_12 n M ((420 : Int).toNat) n2 f2 n1 f1 fu 0 0 (fun _ => 0)) (fun x108 => os x108 (fun y108 => ob (g_Law_isSound_251 n M y108.1 ((420 : Int).toNat) y108.2 n2 f2 n1 f1 fu 0) (fun x118 => os x118 (fun y118 => ob (f_X_many n M 1) (fun x119 => og (inR y108.1) (og (inR x119) (if y108.1 = x119 then ob (f_X_many n M 5) (fun x123 => ob (f_X_many n M 6) (fun x124 => og (inR x123) (og (inR x124) (if x124 < x123 then some 0 else ob (f_X_many n M 6) (fun x128 => og (inR x128) (if x128 < 60 then some 0 else ob (f_X_many n M 6) (fun x131 => og (inR x131) (if 180 < x131 then some 0 else some 1)))))))) else some 0)))))))
set_option maxHeartbeats 4000000 in
set_option maxRecDepth 100000 in
theorem C_Law_isSound (l : Launch) (G : Nat → Nat) (D : va_G) (K : Nat → ClassId) (hl0 : l.stackTraces = false) (sz : Nat) (ga : Nat → Nat) (n : Nat) (M : cSt) (n1 : Nat) (b1 : Nat) (f1 : Nat → Int) (n2 : Nat) (b2 : Nat) (f2 : Nat → Int) {x : Int} (h : f_Law_isSound n M n1 f1 n2 f2 = some x) : CM l yL_isSound cL_isSound 12 (some FieldType.boolean) ({ frames := 9, cells := 501, slots := 3420, locals := 246 } : Room) G D K [.ref (ga 0), .ref b1, .ref b2] ((b2, .inl (K 2, n2, .inl (ci f2))) :: (b1, .inl (K 2, n1, .inl (ci f1))) :: wld ga n (K 0) (K 1) M) sz (CQi (iI x) D (fun _ => (b2, .inl (K 2, n2, .inl (ci f2))) :: (b1, .inl (K 2, n1, .inl (ci f1))) :: wld ga n (K 0) (K 1) M)) := by
  refine CM_of (lv0 := [(0, .ref (ga 0)), (1, .ref b1), (2, .ref b2)]) pn_RL (Nat.le_of_ble_eq_true rfl) rfl (fun p e s m args below meth c A ls hx hb hr hml hown hts hlk hnm hP hK hD hS hA hm hl => ?_)
  have hown : s.vm.findClass RL = some m.cls := hown
  unfold f_Law_isSound at h
  have hfu : fu = 500 := rfl
  refine lv_sipush (v := iI 420) hx hb dL_isSound_0 rfl ?_
  refine l_new2 hx hb hts w_956 hK hP hD hS hA (by decide) (by decide) (by first | omega | (dsimp only at *; omega) | (dsimp only [room_1] at *; omega)) (by first | omega | (dsimp only at *; omega) | (dsimp only [room_1] at *; omega)) dL_isSound_3 (fun b101 H (hP : va_P D cl ((b101, .inl (K 2, ((420 : Int).toNat), .inl (ci (fun _ => 0)))) :: (b2, .inl (K 2, n2, .inl (ci f2))) :: (b1, .inl (K 2, n1, .inl (ci f1))) :: wld ga n (K 0) (K 1) M) H) (hD : va_D A ((b101, .inl (K 2, ((420 : Int).toNat), .inl (ci (fun _ => 0)))) :: (b2, .inl (K 2, n2, .inl (ci f2))) :: (b1, .inl (K 2, n1, .inl (ci f1))) :: wld ga n (K 0) (K 1) M)) hS => ?_)
  refine x_astore_n hx hb dL_isSound_5 rfl hl (by decide) [0, 1, 2] (lv' := [(0, .ref (ga 0)), (1, .ref b1), (2, .ref b2)]) rfl (⟨⟨Nat.ne_of_beq_eq_false rfl, Or.inl (Nat.ne_of_beq_eq_false rfl)⟩, ⟨⟨Nat.ne_of_beq_eq_false rfl, Or.inl (Nat.ne_of_beq_eq_false rfl)⟩, ⟨⟨Nat.ne_of_beq_eq_false rfl, Or.inr rfl⟩, trivial⟩⟩⟩) (fun ls hl => ?_)
  refine lv_iconst (v := iI 0) hx hb dL_isSound_6 rfl ?_
  refine x_istore hx hb dL_isSound_7 hl (by decide) [0, 1, 2, 3] (lv' := [(3, .ref b101), (0, .ref (ga 0)), (1, .ref b1), (2, .ref b2)]) rfl (⟨⟨Nat.ne_of_beq_eq_false rfl, Or.inr rfl⟩, ⟨⟨Nat.ne_of_beq_eq_false rfl, Or.inl (Nat.ne_of_beq_eq_false rfl)⟩, ⟨⟨Nat.ne_of_beq_eq_false rfl, Or.inl (Nat.ne_of_beq_eq_false rfl)⟩, ⟨⟨Nat.ne_of_beq_eq_false rfl, Or.inl (Nat.ne_of_beq_eq_false rfl)⟩, trivial⟩⟩⟩⟩) (fun ls hl => ?_)
  refine lv_iconst (v := iI 0) hx hb dL_isSound_9 rfl ?_
  refine x_istore hx hb dL_isSound_10 hl (by decide) [0, 1, 2, 3, 4] (lv' := [(4, .int (iI 0)), (3, .ref b101), (0, .ref (ga 0)), (1, .ref b1), (2, .ref b2)]) rfl (⟨⟨Nat.ne_of_beq_eq_false rfl, Or.inr rfl⟩, ⟨⟨Nat.ne_of_beq_eq_false rfl, Or.inl (Nat.ne_of_beq_eq_false rfl)⟩, ⟨⟨Nat.ne_of_beq_eq_false rfl, Or.inl (Nat.ne_of_beq_eq_false rfl)⟩, ⟨⟨Nat.ne_of_beq_eq_false rfl, Or.inl (Nat.ne_of_beq_eq_false rfl)⟩, ⟨⟨Nat.ne_of_beq_eq_false rfl, Or.inl (Nat.ne_of_beq_eq_false rfl)⟩, trivial⟩⟩⟩⟩⟩) (fun ls hl => ?_)
  obtain ⟨x108, ex108, h⟩ := ob_some h
  refine L_Law_isSound_12 hx hb hr hml hown hts hlk hK hA hm hl0 ga n M ((420 : Int).toNat) b101 n2 b2 f2 n1 b1 f1  fu 0 0 (fun _ => 0) _ ex108 _ _ (by first | omega | (dsimp only at *; omega) | (dsimp only [room_1] at *; omega)) (by first | omega | (dsimp only at *; omega) | (dsimp only [room_1] at *; omega)) _ _ _ hP hD hS (lv_pk hl [3, 4, 5, 2, 1, 0] rfl) (fun y108 ty108 cs108 sl108 hcs108 hsl108 ls H locs (hP : va_P D cl ((b101, .inl (K 2, ((420 : Int).toNat), .inl (ci y108.2))) :: (b2, .inl (K 2, n2, .inl (ci f2))) :: (b1, .inl (K 2, n1, .inl (ci f1))) :: wld ga n (K 0) (K 1) M) H) (hD : va_D A ((b101, .inl (K 2, ((420 : Int).toNat), .inl (ci y108.2))) :: (b2, .inl (K 2, n2, .inl (ci f2))) :: (b1, .inl (K 2, n1, .inl (ci f1))) :: wld ga n (K 0) (K 1) M)) hS (hl : lv_has ls 12 [(0, .ref (ga 0)), (4, .int (iI y108.1))]) => ?_) (fun y108 ty108 => os_r h ty108)
  replace h := os_l h ty108
  refine lv_iconst (v := iI 0) hx hb dL_isSound_248 rfl ?_
  refine x_istore hx hb dL_isSound_249 hl (by decide) [0, 1] (lv' := [(0, .ref (ga 0)), (4, .int (iI y108.1))]) rfl (⟨⟨Nat.ne_of_beq_eq_false rfl, Or.inl (Nat.ne_of_beq_eq_false rfl)⟩, ⟨⟨Nat.ne_of_beq_eq_false rfl, Or.inr rfl⟩, trivial⟩⟩) (fun ls hl => ?_)
  obtain ⟨x118, ex118, h⟩ := ob_some h
  refine L_Law_isSound_251 hx hb hr hml hown hts hlk hK hA hm hl0 ga n M y108.1 ((420 : Int).toNat) b101 y108.2 n2 b2 f2 n1 b1 f1  fu 0 _ ex118 _ _ (by first | omega | (dsimp only at *; omega) | (dsimp only [room_1] at *; omega)) (by first | omega | (dsimp only at *; omega) | (dsimp only [room_1] at *; omega)) _ _ _ hP hD hS (lv_pk hl [1, 2, 0] rfl) (fun y118 ty118 cs118 sl118 hcs118 hsl118 ls H locs (hP : va_P D cl ((b101, .inl (K 2, ((420 : Int).toNat), .inl (ci y108.2))) :: (b2, .inl (K 2, n2, .inl (ci f2))) :: (b1, .inl (K 2, n1, .inl (ci f1))) :: wld ga n (K 0) (K 1) M) H) (hD : va_D A ((b101, .inl (K 2, ((420 : Int).toNat), .inl (ci y108.2))) :: (b2, .inl (K 2, n2, .inl (ci f2))) :: (b1, .inl (K 2, n1, .inl (ci f1))) :: wld ga n (K 0) (K 1) M)) hS (hl : lv_has ls 12 [(0, .ref (ga 0)), (4, .int (iI y108.1))]) => ?_) (fun y118 ty118 => os_r h ty118)
  replace h := os_l h ty118
  refine lv_iload hx hb dL_isSound_288 (lv_at hl 1 rfl) ?_
  refine lv_aload_n hx hb dL_isSound_290 rfl (lv_at hl 0 rfl) ?_
  refine lv_iconst (v := iI 1) hx hb dL_isSound_291 rfl ?_
  obtain ⟨x119, ex119, h⟩ := ob_some h
  refine gx_i [(b101, .inl (K 2, ((420 : Int).toNat), .inl (ci y108.2))), (b2, .inl (K 2, n2, .inl (ci f2))), (b1, .inl (K 2, n1, .inl (ci f1)))] [] [(b101, .inl (K 2, ((420 : Int).toNat), .inl (ci y108.2))), (b2, .inl (K 2, n2, .inl (ci f2))), (b1, .inl (K 2, n1, .inl (ci f1)))] [] [0, 1, 2] 3 rfl rfl rfl (by decide) (by decide) (by decide) (by decide) (run_V (rest := [.int (iI y108.1)]) hx hb hml hown hts hK hP hD hS hA hm (C_X_many l G D K H.size ga n M 1 ex119) (axI [] 3 _) (ax_C (X := [(b101, .inl (K 2, ((420 : Int).toNat), .inl (ci y108.2))), (b2, .inl (K 2, n2, .inl (ci f2))), (b1, .inl (K 2, n1, .inl (ci f1)))]) (Y := []) rfl rfl (by decide)) (ax_n (by decide) (by decide)) mok_yX9_many w_867 w_868 w_869 (rcv hK hP 3 (sk (sk (sk go_0))) rfl rfl) ⟨Nat.le_of_ble_eq_true rfl, Nat.le_of_ble_eq_true rfl⟩ rfl hl.1 rfl (Nat.le_of_ble_eq_true rfl) dL_isSound_292 ⟨(by first | omega | (dsimp only at *; omega) | (dsimp only [room_1] at *; omega)), (by first | omega | (dsimp only at *; omega) | (dsimp only [room_1] at *; omega))⟩) hP hD hS hA (fun u H locs (hP : va_P D cl ((b101, .inl (K 2, ((420 : Int).toNat), .inl (ci y108.2))) :: (b2, .inl (K 2, n2, .inl (ci f2))) :: (b1, .inl (K 2, n1, .inl (ci f1))) :: wld ga n (K 0) (K 1) M) H) (hD : va_D A ((b101, .inl (K 2, ((420 : Int).toNat), .inl (ci y108.2))) :: (b2, .inl (K 2, n2, .inl (ci f2))) :: (b1, .inl (K 2, n1, .inl (ci f1))) :: wld ga n (K 0) (K 1) M)) hS => ?_)
  obtain ⟨g120, h⟩ := og_some h
  obtain ⟨g121, h⟩ := og_some h
  by_cases c122 : y108.1 = x119
  · replace h := it_T h c122
    refine i_icmp_ne_F hx hb g120 g121 (tgt := 339) dL_isSound_295 (by decide) c122 ?_
    refine lv_aload_n hx hb dL_isSound_298 rfl (lv_at hl 0 rfl) ?_
    refine lv_iconst (v := iI 5) hx hb dL_isSound_299 rfl ?_
    obtain ⟨x123, ex123, h⟩ := ob_some h
    refine gx_i [(b101, .inl (K 2, ((420 : Int).toNat), .inl (ci y108.2))), (b2, .inl (K 2, n2, .inl (ci f2))), (b1, .inl (K 2, n1, .inl (ci f1)))] [] [(b101, .inl (K 2, ((420 : Int).toNat), .inl (ci y108.2))), (b2, .inl (K 2, n2, .inl (ci f2))), (b1, .inl (K 2, n1, .inl (ci f1)))] [] [0, 1, 2] 3 rfl rfl rfl (by decide) (by decide) (by decide) (by decide) (run_V (rest := []) hx hb hml hown hts hK hP hD hS hA hm (C_X_many l G D K H.size ga n M 5 ex123) (axI [] 3 _) (ax_C (X := [(b101, .inl (K 2, ((420 : Int).toNat), .inl (ci y108.2))), (b2, .inl (K 2, n2, .inl (ci f2))), (b1, .inl (K 2, n1, .inl (ci f1)))]) (Y := []) rfl rfl (by decide)) (ax_n (by decide) (by decide)) mok_yX9_many w_867 w_868 w_869 (rcv hK hP 3 (sk (sk (sk go_0))) rfl rfl) ⟨Nat.le_of_ble_eq_true rfl, Nat.le_of_ble_eq_true rfl⟩ rfl hl.1 rfl (Nat.le_of_ble_eq_true rfl) dL_isSound_300 ⟨(by first | omega | (dsimp only at *; omega) | (dsimp only [room_1] at *; omega)), (by first | omega | (dsimp only at *; omega) | (dsimp only [room_1] at *; omega))⟩) hP hD hS hA (fun u H locs (hP : va_P D cl ((b101, .inl (K 2, ((420 : Int).toNat), .inl (ci y108.2))) :: (b2, .inl (K 2, n2, .inl (ci f2))) :: (b1, .inl (K 2, n1, .inl (ci f1))) :: wld ga n (K 0) (K 1) M) H) (hD : va_D A ((b101, .inl (K 2, ((420 : Int).toNat), .inl (ci y108.2))) :: (b2, .inl (K 2, n2, .inl (ci f2))) :: (b1, .inl (K 2, n1, .inl (ci f1))) :: wld ga n (K 0) (K 1) M)) hS => ?_)
    refine lv_aload_n hx hb dL_isSound_303 rfl (lv_at hl 0 rfl) ?_
    refine lv_bipush (v := iI 6) hx hb dL_isSound_304 rfl ?_
    obtain ⟨x124, ex124, h⟩ := ob_some h
    refine gx_i [(b101, .inl (K 2, ((420 : Int).toNat), .inl (ci y108.2))), (b2, .inl (K 2, n2, .inl (ci f2))), (b1, .inl (K 2, n1, .inl (ci f1)))] [] [(b101, .inl (K 2, ((420 : Int).toNat), .inl (ci y108.2))), (b2, .inl (K 2, n2, .inl (ci f2))), (b1, .inl (K 2, n1, .inl (ci f1)))] [] [0, 1, 2] 3 rfl rfl rfl (by decide) (by decide) (by decide) (by decide) (run_V (rest := [.int (iI x123)]) hx hb hml hown hts hK hP hD hS hA hm (C_X_many l G D K H.size ga n M 6 ex124) (axI [] 3 _) (ax_C (X := [(b101, .inl (K 2, ((420 : Int).toNat), .inl (ci y108.2))), (b2, .inl (K 2, n2, .inl (ci f2))), (b1, .inl (K 2, n1, .inl (ci f1)))]) (Y := []) rfl rfl (by decide)) (ax_n (by decide) (by decide)) mok_yX9_many w_867 w_868 w_869 (rcv hK hP 3 (sk (sk (sk go_0))) rfl rfl) ⟨Nat.le_of_ble_eq_true rfl, Nat.le_of_ble_eq_true rfl⟩ rfl hl.1 rfl (Nat.le_of_ble_eq_true rfl) dL_isSound_306 ⟨(by first | omega | (dsimp only at *; omega) | (dsimp only [room_1] at *; omega)), (by first | omega | (dsimp only at *; omega) | (dsimp only [room_1] at *; omega))⟩) hP hD hS hA (fun u H locs (hP : va_P D cl ((b101, .inl (K 2, ((420 : Int).toNat), .inl (ci y108.2))) :: (b2, .inl (K 2, n2, .inl (ci f2))) :: (b1, .inl (K 2, n1, .inl (ci f1))) :: wld ga n (K 0) (K 1) M) H) (hD : va_D A ((b101, .inl (K 2, ((420 : Int).toNat), .inl (ci y108.2))) :: (b2, .inl (K 2, n2, .inl (ci f2))) :: (b1, .inl (K 2, n1, .inl (ci f1))) :: wld ga n (K 0) (K 1) M)) hS => ?_)
    obtain ⟨g125, h⟩ := og_some h
    obtain ⟨g126, h⟩ := og_some h
    by_cases c127 : x124 < x123
    · replace h := it_T h c127
      refine i_icmp_gt_T hx hb g125 g126 (tgt := 339) dL_isSound_309 (by decide) c127 ?_
      refine lv_iconst (v := iI 0) hx hb dL_isSound_339 rfl ?_
      obtain rfl := Option.some.inj h
      exact e_z hx hb hr hlk (dro_P hP) (dro_D hD) hS (fun _ => 0) rfl (by first | omega | (dsimp only at *; omega) | (dsimp only [room_1] at *; omega)) (by first | omega | (dsimp only at *; omega) | (dsimp only [room_1] at *; omega)) rfl (b01 (Or.inl rfl)) dL_isSound_340
    · replace h := it_F h c127
      refine i_icmp_gt_F hx hb g125 g126 (tgt := 339) dL_isSound_309 (by decide) c127 ?_
      refine lv_aload_n hx hb dL_isSound_312 rfl (lv_at hl 0 rfl) ?_
      refine lv_bipush (v := iI 6) hx hb dL_isSound_313 rfl ?_
      obtain ⟨x128, ex128, h⟩ := ob_some h
      refine gx_i [(b101, .inl (K 2, ((420 : Int).toNat), .inl (ci y108.2))), (b2, .inl (K 2, n2, .inl (ci f2))), (b1, .inl (K 2, n1, .inl (ci f1)))] [] [(b101, .inl (K 2, ((420 : Int).toNat), .inl (ci y108.2))), (b2, .inl (K 2, n2, .inl (ci f2))), (b1, .inl (K 2, n1, .inl (ci f1)))] [] [0, 1, 2] 3 rfl rfl rfl (by decide) (by decide) (by decide) (by decide) (run_V (rest := []) hx hb hml hown hts hK hP hD hS hA hm (C_X_many l G D K H.size ga n M 6 ex128) (axI [] 3 _) (ax_C (X := [(b101, .inl (K 2, ((420 : Int).toNat), .inl (ci y108.2))), (b2, .inl (K 2, n2, .inl (ci f2))), (b1, .inl (K 2, n1, .inl (ci f1)))]) (Y := []) rfl rfl (by decide)) (ax_n (by decide) (by decide)) mok_yX9_many w_867 w_868 w_869 (rcv hK hP 3 (sk (sk (sk go_0))) rfl rfl) ⟨Nat.le_of_ble_eq_true rfl, Nat.le_of_ble_eq_true rfl⟩ rfl hl.1 rfl (Nat.le_of_ble_eq_true rfl) dL_isSound_315 ⟨(by first | omega | (dsimp only at *; omega) | (dsimp only [room_1] at *; omega)), (by first | omega | (dsimp only at *; omega) | (dsimp only [room_1] at *; omega))⟩) hP hD hS hA (fun u H locs (hP : va_P D cl ((b101, .inl (K 2, ((420 : Int).toNat), .inl (ci y108.2))) :: (b2, .inl (K 2, n2, .inl (ci f2))) :: (b1, .inl (K 2, n1, .inl (ci f1))) :: wld ga n (K 0) (K 1) M) H) (hD : va_D A ((b101, .inl (K 2, ((420 : Int).toNat), .inl (ci y108.2))) :: (b2, .inl (K 2, n2, .inl (ci f2))) :: (b1, .inl (K 2, n1, .inl (ci f1))) :: wld ga n (K 0) (K 1) M)) hS => ?_)
      refine lv_bipush (v := iI 60) hx hb dL_isSound_318 rfl ?_
      obtain ⟨g129, h⟩ := og_some h
      by_cases c130 : x128 < 60
      · replace h := it_T h c130
        refine i_icmp_lt_T hx hb g129 ⟨by decide, by decide⟩ (tgt := 339) dL_isSound_320 (by decide) c130 ?_
        refine lv_iconst (v := iI 0) hx hb dL_isSound_339 rfl ?_
        obtain rfl := Option.some.inj h
        exact e_z hx hb hr hlk (dro_P hP) (dro_D hD) hS (fun _ => 0) rfl (by first | omega | (dsimp only at *; omega) | (dsimp only [room_1] at *; omega)) (by first | omega | (dsimp only at *; omega) | (dsimp only [room_1] at *; omega)) rfl (b01 (Or.inl rfl)) dL_isSound_340
      · replace h := it_F h c130
        refine i_icmp_lt_F hx hb g129 ⟨by decide, by decide⟩ (tgt := 339) dL_isSound_320 (by decide) c130 ?_
        refine lv_aload_n hx hb dL_isSound_323 rfl (lv_at hl 0 rfl) ?_
        refine lv_bipush (v := iI 6) hx hb dL_isSound_324 rfl ?_
        obtain ⟨x131, ex131, h⟩ := ob_some h
        refine gx_i [(b101, .inl (K 2, ((420 : Int).toNat), .inl (ci y108.2))), (b2, .inl (K 2, n2, .inl (ci f2))), (b1, .inl (K 2, n1, .inl (ci f1)))] [] [(b101, .inl (K 2, ((420 : Int).toNat), .inl (ci y108.2))), (b2, .inl (K 2, n2, .inl (ci f2))), (b1, .inl (K 2, n1, .inl (ci f1)))] [] [0, 1, 2] 3 rfl rfl rfl (by decide) (by decide) (by decide) (by decide) (run_V (rest := []) hx hb hml hown hts hK hP hD hS hA hm (C_X_many l G D K H.size ga n M 6 ex131) (axI [] 3 _) (ax_C (X := [(b101, .inl (K 2, ((420 : Int).toNat), .inl (ci y108.2))), (b2, .inl (K 2, n2, .inl (ci f2))), (b1, .inl (K 2, n1, .inl (ci f1)))]) (Y := []) rfl rfl (by decide)) (ax_n (by decide) (by decide)) mok_yX9_many w_867 w_868 w_869 (rcv hK hP 3 (sk (sk (sk go_0))) rfl rfl) ⟨Nat.le_of_ble_eq_true rfl, Nat.le_of_ble_eq_true rfl⟩ rfl hl.1 rfl (Nat.le_of_ble_eq_true rfl) dL_isSound_326 ⟨(by first | omega | (dsimp only at *; omega) | (dsimp only [room_1] at *; omega)), (by first | omega | (dsimp only at *; omega) | (dsimp only [room_1] at *; omega))⟩) hP hD hS hA (fun u H locs (hP : va_P D cl ((b101, .inl (K 2, ((420 : Int).toNat), .inl (ci y108.2))) :: (b2, .inl (K 2, n2, .inl (ci f2))) :: (b1, .inl (K 2, n1, .inl (ci f1))) :: wld ga n (K 0) (K 1) M) H) (hD : va_D A ((b101, .inl (K 2, ((420 : Int).toNat), .inl (ci y108.2))) :: (b2, .inl (K 2, n2, .inl (ci f2))) :: (b1, .inl (K 2, n1, .inl (ci f1))) :: wld ga n (K 0) (K 1) M)) hS => ?_)
        refine lv_sipush (v := iI 180) hx hb dL_isSound_329 rfl ?_
        obtain ⟨g132, h⟩ := og_some h
        by_cases c133 : 180 < x131
        · replace h := it_T h c133
          refine i_icmp_gt_T hx hb g132 ⟨by decide, by decide⟩ (tgt := 339) dL_isSound_332 (by decide) c133 ?_
          refine lv_iconst (v := iI 0) hx hb dL_isSound_339 rfl ?_
          obtain rfl := Option.some.inj h
          exact e_z hx hb hr hlk (dro_P hP) (dro_D hD) hS (fun _ => 0) rfl (by first | omega | (dsimp only at *; omega) | (dsimp only [room_1] at *; omega)) (by first | omega | (dsimp only at *; omega) | (dsimp only [room_1] at *; omega)) rfl (b01 (Or.inl rfl)) dL_isSound_340
        · replace h := it_F h c133
          refine i_icmp_gt_F hx hb g132 ⟨by decide, by decide⟩ (tgt := 339) dL_isSound_332 (by decide) c133 ?_
          refine lv_iconst (v := iI 1) hx hb dL_isSound_335 rfl ?_
          refine lv_goto (tgt := 340) hx hb dL_isSound_336 (by decide) ?_
          obtain rfl := Option.some.inj h
          exact e_z hx hb hr hlk (dro_P hP) (dro_D hD) hS (fun _ => 0) rfl (by first | omega | (dsimp only at *; omega) | (dsimp only [room_1] at *; omega)) (by first | omega | (dsimp only at *; omega) | (dsimp only [room_1] at *; omega)) rfl (b01 (Or.inr rfl)) dL_isSound_340
  · replace h := it_F h c122
    refine i_icmp_ne_T hx hb g120 g121 (tgt := 339) dL_isSound_295 (by decide) c122 ?_
    refine lv_iconst (v := iI 0) hx hb dL_isSound_339 rfl ?_
    obtain rfl := Option.some.inj h
    exact e_z hx hb hr hlk (dro_P hP) (dro_D hD) hS (fun _ => 0) rfl (by first | omega | (dsimp only at *; omega) | (dsimp only [room_1] at *; omega)) (by first | omega | (dsimp only at *; omega) | (dsimp only [room_1] at *; omega)) rfl (b01 (Or.inl rfl)) dL_isSound_340
