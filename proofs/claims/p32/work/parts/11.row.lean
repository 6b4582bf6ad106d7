/-! METHODS as functions, with their contracts, written by wip/p32/sx2.py -/
def f_Row_size (n : Nat) (M : cSt) (r0 : Nat) : Option (Int) := some (gI M (10 + r0))
set_option maxHeartbeats 4000000 in
set_option maxRecDepth 100000 in
theorem C_Row_size (l : Launch) (G : Nat → Nat) (D : va_G) (K : Nat → ClassId) (sz : Nat) (ga : Nat → Nat) (n : Nat) (M : cSt) (r0 : Nat) (hr0 : r0 < 7) {x : Int} (h : f_Row_size n M r0 = some x) : CM l yX5_size cX5_size 1 (some FieldType.int) ({ frames := 0, cells := 0, slots := 0, locals := 0 } : Room) G D K [.ref (ga (8 + r0))] (wld ga n (K 0) (K 1) M) sz (CQi (iI x) D (fun _ => wld ga n (K 0) (K 1) M)) := by
  refine CM_of (lv0 := [(0, .ref (ga (8 + r0)))]) pn_RX5 (Nat.le_of_ble_eq_true rfl) rfl (fun p e s m args below meth c A ls hx hb hr hml hown hts hlk hnm hP hK hD hS hA hm hl => ?_)
  have hown : s.vm.findClass RX5 = some m.cls := hown
  unfold f_Row_size at h
  refine lv_aload_n hx hb dX5_size_0 rfl (lv_at hl 0 rfl) ?_
  refine r_get hx hb hts ok_RX5 hown hK hP (8 + r0) (go_ro hr0) rfl 1 (by decide) w_35 (fun _ h9 => h9) rfl dX5_size_1 ?_
  obtain rfl := Option.some.inj h
  exact e_i hx hb hr hlk hP hD hS (fun _ => 0) rfl (Nat.le_of_ble_eq_true rfl) (Nat.le_of_ble_eq_true rfl) rfl dX5_size_4
def f_Row_item (n : Nat) (M : cSt) (r0 : Nat) (a1 : Int) : Option (Option Nat) := og (inR a1) (if a1 < 0 then some none else og (inR (gI M (10 + r0))) (if a1 < gI M (10 + r0) then if a1 < 200 then og (0 ≤ a1 ∧ a1 < 200) (some (gR M r0 (a1.toNat))) else some none else some none))
set_option maxHeartbeats 4000000 in
set_option maxRecDepth 100000 in
theorem C_Row_item (l : Launch) (G : Nat → Nat) (D : va_G) (K : Nat → ClassId) (sz : Nat) (ga : Nat → Nat) (n : Nat) (M : cSt) (r0 : Nat) (hr0 : r0 < 7) (a1 : Int) {x : Option Nat} (h : f_Row_item n M r0 a1 = some x) : CM l yX5_item cX5_item 2 (some (FieldType.object "Tenuredale$Thing")) ({ frames := 0, cells := 0, slots := 0, locals := 0 } : Room) G D K [.ref (ga (8 + r0)), .int (iI a1)] (wld ga n (K 0) (K 1) M) sz (CQq (fun _ => x.map (fun k => ga (25 + 2 * k))) D (fun _ => wld ga n (K 0) (K 1) M)) := by
  refine CM_of (lv0 := [(0, .ref (ga (8 + r0))), (1, .int (iI a1))]) pn_RX5 (Nat.le_of_ble_eq_true rfl) rfl (fun p e s m args below meth c A ls hx hb hr hml hown hts hlk hnm hP hK hD hS hA hm hl => ?_)
  have hown : s.vm.findClass RX5 = some m.cls := hown
  unfold f_Row_item at h
  refine lv_iload_n hx hb dX5_item_0 rfl (lv_at hl 1 rfl) ?_
  obtain ⟨g1, h⟩ := og_some h
  by_cases c2 : a1 < 0
  · replace h := it_T h c2
    refine i_if_lt_T hx hb g1 (tgt := 30) dX5_item_1 (by decide) c2 ?_
    refine lv_null hx hb dX5_item_30 ?_
    obtain rfl := Option.some.inj h
    exact e_q hx hb hr (Or.inl ⟨_, rfl⟩) hlk hP hD hS (fun _ => 0) rfl (Nat.le_of_ble_eq_true rfl) (Nat.le_of_ble_eq_true rfl) (v := .null) (r := fun _ => (none : Option Nat).map (fun k => ga (25 + 2 * k))) rfl dX5_item_31
  · replace h := it_F h c2
    refine i_if_lt_F hx hb g1 (tgt := 30) dX5_item_1 (by decide) c2 ?_
    refine lv_iload_n hx hb dX5_item_4 rfl (lv_at hl 1 rfl) ?_
    refine lv_aload_n hx hb dX5_item_5 rfl (lv_at hl 0 rfl) ?_
    refine r_get hx hb hts ok_RX5 hown hK hP (8 + r0) (go_ro hr0) rfl 1 (by decide) w_35 (fun _ h9 => h9) rfl dX5_item_6 ?_
    obtain ⟨g3, h⟩ := og_some h
    by_cases c4 : a1 < gI M (10 + r0)
    · replace h := it_T h c4
      refine i_icmp_ge_F hx hb g1 g3 (tgt := 30) dX5_item_9 (by decide) c4 ?_
      refine lv_iload_n hx hb dX5_item_12 rfl (lv_at hl 1 rfl) ?_
      refine lv_aload_n hx hb dX5_item_13 rfl (lv_at hl 0 rfl) ?_
      refine r_get hx hb hts ok_RX5 hown hK hP (8 + r0) (go_ro hr0) rfl 0 (by decide) w_34 (fun _ h9 => h9) rfl dX5_item_14 ?_
      refine i_alen hx hb (15 + r0) 0 hK hP (go_rw hr0) rfl rfl (Nat.le_of_ble_eq_true rfl) dX5_item_17 ?_
      refine w_toeq (show iI ((200 : Nat) : Int) = iI 200 from rfl) ?_
      by_cases c5 : a1 < 200
      · replace h := it_T h c5
        refine i_icmp_ge_F hx hb g1 ⟨by decide, by decide⟩ (tgt := 30) dX5_item_18 (by decide) c5 ?_
        refine lv_aload_n hx hb dX5_item_21 rfl (lv_at hl 0 rfl) ?_
        refine r_get hx hb hts ok_RX5 hown hK hP (8 + r0) (go_ro hr0) rfl 0 (by decide) w_34 (fun _ h9 => h9) rfl dX5_item_22 ?_
        refine lv_iload_n hx hb dX5_item_25 rfl (lv_at hl 1 rfl) ?_
        obtain ⟨g6, h⟩ := og_some h
        refine i_aald hx hb (15 + r0) 0 hK hP (go_rw hr0) rfl g6.1 g6.2 (Nat.le_of_ble_eq_true rfl) (v := ctv ga (gR M r0 (a1.toNat))) rfl dX5_item_26 ?_
        refine lv_goto (tgt := 31) hx hb dX5_item_27 (by decide) ?_
        obtain rfl := Option.some.inj h
        exact e_q hx hb hr (Or.inl ⟨_, rfl⟩) hlk hP hD hS (fun _ => 0) rfl (Nat.le_of_ble_eq_true rfl) (Nat.le_of_ble_eq_true rfl) (v := ctv ga (gR M r0 (a1.toNat))) (r := fun _ => ((gR M r0 (a1.toNat)) : Option Nat).map (fun k => ga (25 + 2 * k))) rfl dX5_item_31
      · replace h := it_F h c5
        refine i_icmp_ge_T hx hb g1 ⟨by decide, by decide⟩ (tgt := 30) dX5_item_18 (by decide) c5 ?_
        refine lv_null hx hb dX5_item_30 ?_
        obtain rfl := Option.some.inj h
        exact e_q hx hb hr (Or.inl ⟨_, rfl⟩) hlk hP hD hS (fun _ => 0) rfl (Nat.le_of_ble_eq_true rfl) (Nat.le_of_ble_eq_true rfl) (v := .null) (r := fun _ => (none : Option Nat).map (fun k => ga (25 + 2 * k))) rfl dX5_item_31
    · replace h := it_F h c4
      refine i_icmp_ge_T hx hb g1 g3 (tgt := 30) dX5_item_9 (by decide) c4 ?_
      refine lv_null hx hb dX5_item_30 ?_
      obtain rfl := Option.some.inj h
      exact e_q hx hb hr (Or.inl ⟨_, rfl⟩) hlk hP hD hS (fun _ => 0) rfl (Nat.le_of_ble_eq_true rfl) (Nat.le_of_ble_eq_true rfl) (v := .null) (r := fun _ => (none : Option Nat).map (fun k => ga (25 + 2 * k))) rfl dX5_item_31
def f_Row_add (n : Nat) (M : cSt) (r0 : Nat) (t1 : Option Nat) : Option (cSt) := og (inR (gI M (10 + r0))) (if gI M (10 + r0) < 0 then some M else if gI M (10 + r0) < 200 then on t1 (og (0 ≤ gI M (10 + r0) ∧ gI M (10 + r0) < 200) (some (sI (sR M r0 ((gI M (10 + r0)).toNat) none) (10 + r0) (gI (sR M r0 ((gI M (10 + r0)).toNat) none) (10 + r0) + 1)))) (fun q4 => og (q4 < n) (og (0 ≤ gI M (10 + r0) ∧ gI M (10 + r0) < 200) (some (sI (sR M r0 ((gI M (10 + r0)).toNat) (some q4)) (10 + r0) (gI (sR M r0 ((gI M (10 + r0)).toNat) (some q4)) (10 + r0) + 1))))) else some M)
set_option maxHeartbeats 4000000 in
set_option maxRecDepth 100000 in
theorem C_Row_add (l : Launch) (G : Nat → Nat) (D : va_G) (K : Nat → ClassId) (sz : Nat) (ga : Nat → Nat) (n : Nat) (M : cSt) (r0 : Nat) (hr0 : r0 < 7) (t1 : Option Nat) {x : cSt} (h : f_Row_add n M r0 t1 = some x) : CM l yX5_add cX5_add 2 (none : Option FieldType) ({ frames := 0, cells := 0, slots := 0, locals := 0 } : Room) G D K [.ref (ga (8 + r0)), ctv ga t1] (wld ga n (K 0) (K 1) M) sz (CQv D (fun _ => wld ga n (K 0) (K 1) x)) := by
  refine CM_of (lv0 := [(0, .ref (ga (8 + r0))), (1, ctv ga t1)]) pn_RX5 (by cases t1 <;> exact (Nat.le_of_ble_eq_true rfl)) (by cases t1 <;> rfl) (fun p e s m args below meth c A ls hx hb hr hml hown hts hlk hnm hP hK hD hS hA hm hl => ?_)
  have hown : s.vm.findClass RX5 = some m.cls := hown
  unfold f_Row_add at h
  refine lv_aload_n hx hb dX5_add_0 rfl (lv_at hl 0 rfl) ?_
  refine r_get hx hb hts ok_RX5 hown hK hP (8 + r0) (go_ro hr0) rfl 1 (by decide) w_35 (fun _ h9 => h9) rfl dX5_add_1 ?_
  obtain ⟨g1, h⟩ := og_some h
  by_cases c2 : gI M (10 + r0) < 0
  · replace h := it_T h c2
    refine i_if_lt_T hx hb g1 (tgt := 39) dX5_add_4 (by decide) c2 ?_
    obtain rfl := Option.some.inj h
    exact e_v hx hb hr hlk hP hD hS (fun _ => 0) rfl (Nat.le_of_ble_eq_true rfl) (Nat.le_of_ble_eq_true rfl) dX5_add_39
  · replace h := it_F h c2
    refine i_if_lt_F hx hb g1 (tgt := 39) dX5_add_4 (by decide) c2 ?_
    refine lv_aload_n hx hb dX5_add_7 rfl (lv_at hl 0 rfl) ?_
    refine r_get hx hb hts ok_RX5 hown hK hP (8 + r0) (go_ro hr0) rfl 1 (by decide) w_35 (fun _ h9 => h9) rfl dX5_add_8 ?_
    refine lv_aload_n hx hb dX5_add_11 rfl (lv_at hl 0 rfl) ?_
    refine r_get hx hb hts ok_RX5 hown hK hP (8 + r0) (go_ro hr0) rfl 0 (by decide) w_34 (fun _ h9 => h9) rfl dX5_add_12 ?_
    refine i_alen hx hb (15 + r0) 0 hK hP (go_rw hr0) rfl rfl (Nat.le_of_ble_eq_true rfl) dX5_add_15 ?_
    refine w_toeq (show iI ((200 : Nat) : Int) = iI 200 from rfl) ?_
    by_cases c3 : gI M (10 + r0) < 200
    · replace h := it_T h c3
      refine i_icmp_ge_F hx hb g1 ⟨by decide, by decide⟩ (tgt := 39) dX5_add_16 (by decide) c3 ?_
      refine lv_aload_n hx hb dX5_add_19 rfl (lv_at hl 0 rfl) ?_
      refine r_get hx hb hts ok_RX5 hown hK hP (8 + r0) (go_ro hr0) rfl 0 (by decide) w_34 (fun _ h9 => h9) rfl dX5_add_20 ?_
      refine lv_aload_n hx hb dX5_add_23 rfl (lv_at hl 0 rfl) ?_
      refine r_get hx hb hts ok_RX5 hown hK hP (8 + r0) (go_ro hr0) rfl 1 (by decide) w_35 (fun _ h9 => h9) rfl dX5_add_24 ?_
      refine t_aload_n hx hb dX5_add_27 rfl (lv_at hl 1 rfl) ?_
      rcases on_cases h with ⟨z4, h⟩ | ⟨q4, z4, h⟩
      · rw [ctv_none ga z4]
        obtain ⟨g5, h⟩ := og_some h
        refine i_aastN hx hb (15 + r0) 0 (ws' := wld ga n (K 0) (K 1) (sR M r0 ((gI M (10 + r0)).toNat) none)) hK hP hD hS (go_rw hr0) rfl g5.1 g5.2 (Nat.le_of_ble_eq_true rfl) dX5_add_28 (wRr (v := none) hr0) (fun H locs hP hD hS => ?_)
        refine lv_aload_n hx hb dX5_add_29 rfl (lv_at hl 0 rfl) ?_
        refine lv_dup hx hb dX5_add_30 rfl ?_
        refine r_get hx hb hts ok_RX5 hown hK hP (8 + r0) (go_ro hr0) rfl 1 (by decide) w_35 (fun _ h9 => h9) rfl dX5_add_31 ?_
        refine lv_iconst (v := iI 1) hx hb dX5_add_34 rfl ?_
        refine lv_iadd hx hb dX5_add_35 ?_
        refine w_toeq (iI_add (gI (sR M r0 ((gI M (10 + r0)).toNat) none) (10 + r0)) 1) ?_
        refine r_put hx hb hts ok_RX5 hown hK hP hD hS (8 + r0) (go_ro hr0) rfl 1 (by decide) w_35 (fun _ h9 => h9) rfl (v := .int (iI (gI (sR M r0 ((gI M (10 + r0)).toNat) none) (10 + r0) + 1))) rfl rfl (Nat.le_of_ble_eq_true rfl) dX5_add_36 (ws' := wld ga n (K 0) (K 1) (sI (sR M r0 ((gI M (10 + r0)).toNat) none) (10 + r0) (gI (sR M r0 ((gI M (10 + r0)).toNat) none) (10 + r0) + 1))) (wIr hr0) (fun H locs hP hD hS => ?_)
        obtain rfl := Option.some.inj h
        exact e_v hx hb hr hlk hP hD hS (fun _ => 0) rfl (Nat.le_of_ble_eq_true rfl) (Nat.le_of_ble_eq_true rfl) dX5_add_39
      · obtain ⟨hq4, h⟩ := og_some h
        rw [ctv_some ga z4]
        obtain ⟨g6, h⟩ := og_some h
        refine i_aast hx hb (15 + r0) 0 (ws' := wld ga n (K 0) (K 1) (sR M r0 ((gI M (10 + r0)).toNat) (some q4))) hK hP hD hS (go_rw hr0) rfl (any_S hK hP (25 + 2 * q4) (go_th hq4) rfl rfl) g6.1 g6.2 (Nat.le_of_ble_eq_true rfl) dX5_add_28 (wRr (v := (some q4)) hr0) (fun H locs hP hD hS => ?_)
        refine lv_aload_n hx hb dX5_add_29 rfl (lv_at hl 0 rfl) ?_
        refine lv_dup hx hb dX5_add_30 rfl ?_
        refine r_get hx hb hts ok_RX5 hown hK hP (8 + r0) (go_ro hr0) rfl 1 (by decide) w_35 (fun _ h9 => h9) rfl dX5_add_31 ?_
        refine lv_iconst (v := iI 1) hx hb dX5_add_34 rfl ?_
        refine lv_iadd hx hb dX5_add_35 ?_
        refine w_toeq (iI_add (gI (sR M r0 ((gI M (10 + r0)).toNat) (some q4)) (10 + r0)) 1) ?_
        refine r_put hx hb hts ok_RX5 hown hK hP hD hS (8 + r0) (go_ro hr0) rfl 1 (by decide) w_35 (fun _ h9 => h9) rfl (v := .int (iI (gI (sR M r0 ((gI M (10 + r0)).toNat) (some q4)) (10 + r0) + 1))) rfl rfl (Nat.le_of_ble_eq_true rfl) dX5_add_36 (ws' := wld ga n (K 0) (K 1) (sI (sR M r0 ((gI M (10 + r0)).toNat) (some q4)) (10 + r0) (gI (sR M r0 ((gI M (10 + r0)).toNat) (some q4)) (10 + r0) + 1))) (wIr hr0) (fun H locs hP hD hS => ?_)
        obtain rfl := Option.some.inj h
        exact e_v hx hb hr hlk hP hD hS (fun _ => 0) rfl (Nat.le_of_ble_eq_true rfl) (Nat.le_of_ble_eq_true rfl) dX5_add_39
    · replace h := it_F h c3
      refine i_icmp_ge_T hx hb g1 ⟨by decide, by decide⟩ (tgt := 39) dX5_add_16 (by decide) c3 ?_
      obtain rfl := Option.some.inj h
      exact e_v hx hb hr hlk hP hD hS (fun _ => 0) rfl (Nat.le_of_ble_eq_true rfl) (Nat.le_of_ble_eq_true rfl) dX5_add_39
def s_Row_addByAddress_12 (rec : cSt → Int → Option ((cSt) ⊕ (cSt))) (n : Nat) (r0 : Nat) (v1 : Option Nat) (M : cSt) (v2 : Int) : Option ((cSt) ⊕ (cSt)) := og (inR v2) (if 0 < v2 then if v2 < 200 then og (0 ≤ (v2 - 1) ∧ (v2 - 1) < 200) (on (gR M r0 ((v2 - 1).toNat)) (some (.inr M)) (fun q6 => og (q6 < n) (on v1 none (fun q7 => og (q7 < n) (og (inR (gT M q6 4)) (og (inR (gT M q7 4)) (if gT M q7 4 < gT M q6 4 then og (0 ≤ v2 ∧ v2 < 200) (rec (sR (sR M r0 (v2.toNat) (some q6)) r0 ((v2 - 1).toNat) (some q7)) (v2 + (-1))) else some (.inr M)))))))) else some (.inl M) else some (.inl M))
def g_Row_addByAddress_12 (n : Nat) (r0 : Nat) (v1 : Option Nat) : Nat → cSt → Int → Option ((cSt) ⊕ (cSt))
  | 0 => fun _ _ => none
  | q + 1 => s_Row_addByAddress_12 (g_Row_addByAddress_12 n r0 v1 q) n r0 v1
set_option maxHeartbeats 4000000 in
set_option maxRecDepth 100000 in
theorem L_Row_addByAddress_12 {p : Program} {l : Launch} {G : Nat → Nat} {D : va_G} {K : Nat → ClassId} {e : Env} {s : State} {m : MethodId} {args : Array Value} {below : List Frame} {meth : Method} {c : Code} {A : Nat → Prop} (hx : p.tables.exec = Jvm.exec) (hb : c.code = cX5_addByAddress) (hr : meth.sig.returnType = (none : Option FieldType)) (hml : c.maxLocals = 4) (hown : s.vm.findClass RX5 = some m.cls) (hts : ∀ w ∈ lw_gw, w.before args s = true) (hlk : meth.locks = false) (hK : va_K D cl (tys K) s) (hA : ∀ q : Nat, s.heap.size ≤ q → A q) (hm : Amb G A s s.heap) {x : cSt} (ga : Nat → Nat) (n : Nat) (r0 : Nat) (hr0 : r0 < 7) (v1 : Option Nat) : ∀ (q : Nat) (M : cSt) (v2 : Int) (out : (cSt) ⊕ (cSt)), g_Row_addByAddress_12 n r0 v1 q M v2 = some out → ∀ (ls : Array Slot) (H : Heap) (locs : List Loc), va_P D cl (wld ga n (K 0) (K 1) M) H → va_D A (wld ga n (K 0) (K 1) M) → va_S A s.heap H locs → lv_has ls 4 [(0, .ref (ga (8 + r0))), (1, ctv ga v1), (2, .int (iI v2))] → (∀ (y : (cSt)), out = .inl y → ∀ (ls : Array Slot) (H : Heap) (locs : List Loc), va_P D cl (wld ga n (K 0) (K 1) y) H → va_D A (wld ga n (K 0) (K 1) y) → va_S A s.heap H locs → lv_has ls 4 [] → W p l e ({ frames := 1, cells := 0, slots := 0, locals := 21 } : Room) s m args below meth c H locs 0 0 (MQ below ((CQv D (fun _ => wld ga n (K 0) (K 1) x)) A) args s 0 0 A) (F0 m 72 ls [])) → (∀ y : cSt, out = .inr y → y = x) → W p l e ({ frames := 1, cells := 0, slots := 0, locals := 21 } : Room) s m args below meth c H locs 0 0 (MQ below ((CQv D (fun _ => wld ga n (K 0) (K 1) x)) A) args s 0 0 A) (F0 m 12 ls []) := by
  intro q
  induction q with
  | zero =>
    intro M v2 out h
    cases (show none = some out from h)
  | succ q ih =>
    intro M v2 out h ls H locs hP hD hS hl kk hrt
    replace h : s_Row_addByAddress_12 (g_Row_addByAddress_12 n r0 v1 q) n r0 v1 M v2 = some out := h
    unfold s_Row_addByAddress_12 at h
    refine lv_iload_n hx hb dX5_addByAddress_12 rfl (lv_at hl 2 rfl) ?_
    obtain ⟨g2, h⟩ := og_some h
    by_cases c3 : 0 < v2
    · replace h := it_T h c3
      refine i_if_le_F hx hb g2 (tgt := 72) dX5_addByAddress_13 (by decide) c3 ?_
      refine lv_iload_n hx hb dX5_addByAddress_16 rfl (lv_at hl 2 rfl) ?_
      refine lv_aload_n hx hb dX5_addByAddress_17 rfl (lv_at hl 0 rfl) ?_
      refine r_get hx hb hts ok_RX5 hown hK hP (8 + r0) (go_ro hr0) rfl 0 (by decide) w_34 (fun _ h9 => h9) rfl dX5_addByAddress_18 ?_
      refine i_alen hx hb (15 + r0) 0 hK hP (go_rw hr0) rfl rfl (Nat.le_of_ble_eq_true rfl) dX5_addByAddress_21 ?_
      refine w_toeq (show iI ((200 : Nat) : Int) = iI 200 from rfl) ?_
      by_cases c4 : v2 < 200
      · replace h := it_T h c4
        refine i_icmp_ge_F hx hb g2 ⟨by decide, by decide⟩ (tgt := 72) dX5_addByAddress_22 (by decide) c4 ?_
        refine lv_aload_n hx hb dX5_addByAddress_25 rfl (lv_at hl 0 rfl) ?_
        refine r_get hx hb hts ok_RX5 hown hK hP (8 + r0) (go_ro hr0) rfl 0 (by decide) w_34 (fun _ h9 => h9) rfl dX5_addByAddress_26 ?_
        refine lv_iload_n hx hb dX5_addByAddress_29 rfl (lv_at hl 2 rfl) ?_
        refine lv_iconst (v := iI 1) hx hb dX5_addByAddress_30 rfl ?_
        refine lv_isub hx hb dX5_addByAddress_31 ?_
        refine w_toeq (iI_sub v2 1) ?_
        obtain ⟨g5, h⟩ := og_some h
        refine i_aald hx hb (15 + r0) 0 hK hP (go_rw hr0) rfl g5.1 g5.2 (Nat.le_of_ble_eq_true rfl) (v := ctv ga (gR M r0 ((v2 - 1).toNat))) rfl dX5_addByAddress_32 ?_
        refine t_astore_n hx hb dX5_addByAddress_33 rfl hl (by decide) [0, 1, 2] (lv' := [(0, .ref (ga (8 + r0))), (1, ctv ga v1), (2, .int (iI v2))]) rfl (⟨⟨Nat.ne_of_beq_eq_false rfl, Or.inl (Nat.ne_of_beq_eq_false rfl)⟩, ⟨⟨Nat.ne_of_beq_eq_false rfl, Or.inl (Nat.ne_of_beq_eq_false rfl)⟩, ⟨⟨Nat.ne_of_beq_eq_false rfl, Or.inr rfl⟩, trivial⟩⟩⟩) (fun ls hl => ?_)
        refine t_aload_n hx hb dX5_addByAddress_34 rfl (lv_at hl 0 rfl) ?_
        rcases on_cases h with ⟨z6, h⟩ | ⟨q6, z6, h⟩
        · rw [ctv_none ga z6]
          refine lv_ifnullN (tgt := 49) hx hb dX5_addByAddress_35 (by decide) ?_
          obtain rfl := Option.some.inj h
          obtain rfl := hrt _ rfl
          exact e_v hx hb hr hlk hP hD hS (fun _ => 0) rfl (Nat.le_of_ble_eq_true rfl) (Nat.le_of_ble_eq_true rfl) dX5_addByAddress_49
        · obtain ⟨hq6, h⟩ := og_some h
          rw [ctv_some ga z6]
          refine lv_ifnull hx hb dX5_addByAddress_35 ?_
          refine t_aload_n hx hb dX5_addByAddress_38 rfl (lv_at hl 0 rfl) ?_
          rw [ctv_some ga z6]
          refine r_get hx hb hts ok_RX7 hown hK hP (25 + 2 * q6) (go_th hq6) rfl 4 (by decide) w_695 (fun _ h9 => h9) rfl dX5_addByAddress_39 ?_
          refine t_aload_n hx hb dX5_addByAddress_42 rfl (lv_at hl 2 rfl) ?_
          rcases on_cases h with ⟨z7, h⟩ | ⟨q7, z7, h⟩
          · cases h
          · obtain ⟨hq7, h⟩ := og_some h
            rw [ctv_some ga z7]
            refine r_get hx hb hts ok_RX7 hown hK hP (25 + 2 * q7) (go_th hq7) rfl 4 (by decide) w_695 (fun _ h9 => h9) rfl dX5_addByAddress_43 ?_
            obtain ⟨g8, h⟩ := og_some h
            obtain ⟨g9, h⟩ := og_some h
            by_cases c10 : gT M q7 4 < gT M q6 4
            · replace h := it_T h c10
              refine i_icmp_gt_T hx hb g8 g9 (tgt := 50) dX5_addByAddress_46 (by decide) c10 ?_
              refine lv_aload_n hx hb dX5_addByAddress_50 rfl (lv_at hl 1 rfl) ?_
              refine r_get hx hb hts ok_RX5 hown hK hP (8 + r0) (go_ro hr0) rfl 0 (by decide) w_34 (fun _ h9 => h9) rfl dX5_addByAddress_51 ?_
              refine lv_iload_n hx hb dX5_addByAddress_54 rfl (lv_at hl 3 rfl) ?_
              refine t_aload_n hx hb dX5_addByAddress_55 rfl (lv_at hl 0 rfl) ?_
              rw [ctv_some ga z6]
              obtain ⟨g11, h⟩ := og_some h
              refine i_aast hx hb (15 + r0) 0 (ws' := wld ga n (K 0) (K 1) (sR M r0 (v2.toNat) (some q6))) hK hP hD hS (go_rw hr0) rfl (any_S hK hP (25 + 2 * q6) (go_th hq6) rfl rfl) g11.1 g11.2 (Nat.le_of_ble_eq_true rfl) dX5_addByAddress_56 (wRr (v := (some q6)) hr0) (fun H locs hP hD hS => ?_)
              refine lv_aload_n hx hb dX5_addByAddress_57 rfl (lv_at hl 1 rfl) ?_
              refine r_get hx hb hts ok_RX5 hown hK hP (8 + r0) (go_ro hr0) rfl 0 (by decide) w_34 (fun _ h9 => h9) rfl dX5_addByAddress_58 ?_
              refine lv_iload_n hx hb dX5_addByAddress_61 rfl (lv_at hl 3 rfl) ?_
              refine lv_iconst (v := iI 1) hx hb dX5_addByAddress_62 rfl ?_
              refine lv_isub hx hb dX5_addByAddress_63 ?_
              refine w_toeq (iI_sub v2 1) ?_
              refine t_aload_n hx hb dX5_addByAddress_64 rfl (lv_at hl 2 rfl) ?_
              rw [ctv_some ga z7]
              refine i_aast hx hb (15 + r0) 0 (ws' := wld ga n (K 0) (K 1) (sR (sR M r0 (v2.toNat) (some q6)) r0 ((v2 - 1).toNat) (some q7))) hK hP hD hS (go_rw hr0) rfl (any_S hK hP (25 + 2 * q7) (go_th hq7) rfl rfl) g5.1 g5.2 (Nat.le_of_ble_eq_true rfl) dX5_addByAddress_65 (wRr (v := (some q7)) hr0) (fun H locs hP hD hS => ?_)
              refine x_iinc (v := iI (v2 + (-1))) hx hb dX5_addByAddress_66 hl (k := 3) rfl (iI_add v2 (-1)) (by decide) [0, 1, 2] (lv' := [(3, ctv ga (gR M r0 ((v2 - 1).toNat))), (0, .ref (ga (8 + r0))), (1, ctv ga v1)]) rfl (⟨⟨Nat.ne_of_beq_eq_false rfl, Or.inl (Nat.ne_of_beq_eq_false rfl)⟩, ⟨⟨Nat.ne_of_beq_eq_false rfl, Or.inl (Nat.ne_of_beq_eq_false rfl)⟩, ⟨⟨Nat.ne_of_beq_eq_false rfl, Or.inr (ctv_cat _ _)⟩, trivial⟩⟩⟩) (fun ls hl => ?_)
              refine lv_goto (tgt := 12) hx hb dX5_addByAddress_69 (by decide) ?_
              exact ih (sR (sR M r0 (v2.toNat) (some q6)) r0 ((v2 - 1).toNat) (some q7)) (v2 + (-1)) _ h _ _ _ hP hD hS (lv_pk hl [2, 3, 0] rfl) kk hrt
            · replace h := it_F h c10
              refine i_icmp_gt_F hx hb g8 g9 (tgt := 50) dX5_addByAddress_46 (by decide) c10 ?_
              obtain rfl := Option.some.inj h
              obtain rfl := hrt _ rfl
              exact e_v hx hb hr hlk hP hD hS (fun _ => 0) rfl (Nat.le_of_ble_eq_true rfl) (Nat.le_of_ble_eq_true rfl) dX5_addByAddress_49
      · replace h := it_F h c4
        refine i_icmp_ge_T hx hb g2 ⟨by decide, by decide⟩ (tgt := 72) dX5_addByAddress_22 (by decide) c4 ?_
        obtain rfl := Option.some.inj h
        exact kk _ rfl _ _ _ hP hD hS (lv_pk hl [] rfl)
    · replace h := it_F h c3
      refine i_if_le_T hx hb g2 (tgt := 72) dX5_addByAddress_13 (by decide) c3 ?_
      obtain rfl := Option.some.inj h
      exact kk _ rfl _ _ _ hP hD hS (lv_pk hl [] rfl)
def f_Row_addByAddress (n : Nat) (M : cSt) (r0 : Nat) (t1 : Option Nat) : Option (cSt) := ob (f_Row_add n M r0 t1) (fun x1 => ob (g_Row_addByAddress_12 n r0 t1 fu x1 (gI x1 (10 + r0) - 1)) (fun x12 => os x12 (fun y12 => some y12)))
set_option maxHeartbeats 4000000 in
set_option maxRecDepth 100000 in
theorem C_Row_addByAddress (l : Launch) (G : Nat → Nat) (D : va_G) (K : Nat → ClassId) (sz : Nat) (ga : Nat → Nat) (n : Nat) (M : cSt) (r0 : Nat) (hr0 : r0 < 7) (t1 : Option Nat) {x : cSt} (h : f_Row_addByAddress n M r0 t1 = some x) : CM l yX5_addByAddress cX5_addByAddress 4 (none : Option FieldType) ({ frames := 1, cells := 0, slots := 0, locals := 21 } : Room) G D K [.ref (ga (8 + r0)), ctv ga t1] (wld ga n (K 0) (K 1) M) sz (CQv D (fun _ => wld ga n (K 0) (K 1) x)) := by
  refine CM_of (lv0 := [(0, .ref (ga (8 + r0))), (1, ctv ga t1)]) pn_RX5 (by cases t1 <;> exact (Nat.le_of_ble_eq_true rfl)) (by cases t1 <;> rfl) (fun p e s m args below meth c A ls hx hb hr hml hown hts hlk hnm hP hK hD hS hA hm hl => ?_)
  have hown : s.vm.findClass RX5 = some m.cls := hown
  unfold f_Row_addByAddress at h
  refine lv_aload_n hx hb dX5_addByAddress_0 rfl (lv_at hl 0 rfl) ?_
  refine t_aload_n hx hb dX5_addByAddress_1 rfl (lv_at hl 1 rfl) ?_
  obtain ⟨x1, ex1, h⟩ := ob_some h
  refine gk_v (run_V (rest := []) hx hb hml hown hts hK hP hD hS hA hm (C_Row_add l G D K s.heap.size ga n M r0 hr0 t1 ex1) _ (full_C _) (full_n _ List.nodup_range) mok_yX5_add w_633 w_465 w_466 (rcv hK hP (8 + r0) (go_ro hr0) rfl rfl) ⟨Nat.le_of_ble_eq_true rfl, Nat.le_of_ble_eq_true rfl⟩ rfl hl.1 rfl (Nat.le_of_ble_eq_true rfl) dX5_addByAddress_2 ⟨(Nat.le_of_ble_eq_true rfl), (Nat.le_of_ble_eq_true rfl)⟩) hP hD hS hA (fun u H locs (hP : va_P D cl (wld ga n (K 0) (K 1) x1) H) (hD : va_D A (wld ga n (K 0) (K 1) x1)) hS => ?_)
  refine lv_aload_n hx hb dX5_addByAddress_5 rfl (lv_at hl 0 rfl) ?_
  refine r_get hx hb hts ok_RX5 hown hK hP (8 + r0) (go_ro hr0) rfl 1 (by decide) w_35 (fun _ h9 => h9) rfl dX5_addByAddress_6 ?_
  refine lv_iconst (v := iI 1) hx hb dX5_addByAddress_9 rfl ?_
  refine lv_isub hx hb dX5_addByAddress_10 ?_
  refine w_toeq (iI_sub (gI x1 (10 + r0)) 1) ?_
  refine x_istore_n hx hb dX5_addByAddress_11 rfl hl (by decide) [0, 1] (lv' := [(0, .ref (ga (8 + r0))), (1, ctv ga t1)]) rfl (⟨⟨Nat.ne_of_beq_eq_false rfl, Or.inl (Nat.ne_of_beq_eq_false rfl)⟩, ⟨⟨Nat.ne_of_beq_eq_false rfl, Or.inr (ctv_cat _ _)⟩, trivial⟩⟩) (fun ls hl => ?_)
  obtain ⟨x12, ex12, h⟩ := ob_some h
  refine L_Row_addByAddress_12 hx hb hr hml hown hts hlk hK hA hm ga n r0 hr0 t1  fu x1 (gI x1 (10 + r0) - 1) _ ex12 _ _ _ hP hD hS (lv_pk hl [1, 2, 0] rfl) (fun y12 ty12 ls H locs (hP : va_P D cl (wld ga n (K 0) (K 1) y12) H) (hD : va_D A (wld ga n (K 0) (K 1) y12)) hS (hl : lv_has ls 4 []) => ?_) (fun y12 ty12 => os_r h ty12)
  replace h := os_l h ty12
  obtain rfl := Option.some.inj h
  exact e_v hx hb hr hlk hP hD hS (fun _ => 0) rfl (Nat.le_of_ble_eq_true rfl) (Nat.le_of_ble_eq_true rfl) dX5_addByAddress_72
def s_Row_keepOnly_12 (rec : cSt → Int → Option (cSt)) (n : Nat) (r0 : Nat) (v1 : Int) (v2 : Int) (M : cSt) (v3 : Int) : Option (cSt) := og (inR v3) (og (inR v2) (if v3 < v2 then if v3 < 200 then og (0 ≤ v3 ∧ v3 < 200) (on (gR M r0 (v3.toNat)) (rec M (v3 + 1)) (fun q6 => og (q6 < n) (og (inR (gT M q6 3)) (og (inR v1) (if gT M q6 3 = v1 then ob (f_Row_add n M r0 (some q6)) (fun x10 => rec x10 (v3 + 1)) else rec M (v3 + 1)))))) else some M else some M))
def g_Row_keepOnly_12 (n : Nat) (r0 : Nat) (v1 : Int) (v2 : Int) : Nat → cSt → Int → Option (cSt)
  | 0 => fun _ _ => none
  | q + 1 => s_Row_keepOnly_12 (g_Row_keepOnly_12 n r0 v1 v2 q) n r0 v1 v2
set_option maxHeartbeats 4000000 in
set_option maxRecDepth 100000 in
theorem L_Row_keepOnly_12 {p : Program} {l : Launch} {G : Nat → Nat} {D : va_G} {K : Nat → ClassId} {e : Env} {s : State} {m : MethodId} {args : Array Value} {below : List Frame} {meth : Method} {c : Code} {A : Nat → Prop} (hx : p.tables.exec = Jvm.exec) (hb : c.code = cX5_keepOnly) (hr : meth.sig.returnType = (none : Option FieldType)) (hml : c.maxLocals = 5) (hown : s.vm.findClass RX5 = some m.cls) (hts : ∀ w ∈ lw_gw, w.before args s = true) (hlk : meth.locks = false) (hK : va_K D cl (tys K) s) (hA : ∀ q : Nat, s.heap.size ≤ q → A q) (hm : Amb G A s s.heap) {Q : State → Prop} (ga : Nat → Nat) (n : Nat) (r0 : Nat) (hr0 : r0 < 7) (v1 : Int) (v2 : Int) : ∀ (q : Nat) (M : cSt) (v3 : Int) (out : cSt), g_Row_keepOnly_12 n r0 v1 v2 q M v3 = some out → ∀ (ls : Array Slot) (H : Heap) (locs : List Loc), va_P D cl (wld ga n (K 0) (K 1) M) H → va_D A (wld ga n (K 0) (K 1) M) → va_S A s.heap H locs → lv_has ls 5 [(0, .ref (ga (8 + r0))), (1, .int (iI v1)), (2, .int (iI v2)), (3, .int (iI v3))] → (∀ (ls : Array Slot) (H : Heap) (locs : List Loc), va_P D cl (wld ga n (K 0) (K 1) out) H → va_D A (wld ga n (K 0) (K 1) out) → va_S A s.heap H locs → lv_has ls 5 [] → W p l e ({ frames := 1, cells := 0, slots := 0, locals := 21 } : Room) s m args below meth c H locs 0 0 Q (F0 m 60 ls [])) → W p l e ({ frames := 1, cells := 0, slots := 0, locals := 21 } : Room) s m args below meth c H locs 0 0 Q (F0 m 12 ls []) := by
  intro q
  induction q with
  | zero =>
    intro M v3 out h
    cases (show none = some out from h)
  | succ q ih =>
    intro M v3 out h ls H locs hP hD hS hl kk
    replace h : s_Row_keepOnly_12 (g_Row_keepOnly_12 n r0 v1 v2 q) n r0 v1 v2 M v3 = some out := h
    unfold s_Row_keepOnly_12 at h
    refine lv_iload_n hx hb dX5_keepOnly_12 rfl (lv_at hl 3 rfl) ?_
    refine lv_iload_n hx hb dX5_keepOnly_13 rfl (lv_at hl 2 rfl) ?_
    obtain ⟨g1, h⟩ := og_some h
    obtain ⟨g2, h⟩ := og_some h
    by_cases c3 : v3 < v2
    · replace h := it_T h c3
      refine i_icmp_ge_F hx hb g1 g2 (tgt := 60) dX5_keepOnly_14 (by decide) c3 ?_
      refine lv_iload_n hx hb dX5_keepOnly_17 rfl (lv_at hl 3 rfl) ?_
      refine lv_aload_n hx hb dX5_keepOnly_18 rfl (lv_at hl 0 rfl) ?_
      refine r_get hx hb hts ok_RX5 hown hK hP (8 + r0) (go_ro hr0) rfl 0 (by decide) w_34 (fun _ h9 => h9) rfl dX5_keepOnly_19 ?_
      refine i_alen hx hb (15 + r0) 0 hK hP (go_rw hr0) rfl rfl (Nat.le_of_ble_eq_true rfl) dX5_keepOnly_22 ?_
      refine w_toeq (show iI ((200 : Nat) : Int) = iI 200 from rfl) ?_
      by_cases c4 : v3 < 200
      · replace h := it_T h c4
        refine i_icmp_ge_F hx hb g1 ⟨by decide, by decide⟩ (tgt := 60) dX5_keepOnly_23 (by decide) c4 ?_
        refine lv_aload_n hx hb dX5_keepOnly_26 rfl (lv_at hl 0 rfl) ?_
        refine r_get hx hb hts ok_RX5 hown hK hP (8 + r0) (go_ro hr0) rfl 0 (by decide) w_34 (fun _ h9 => h9) rfl dX5_keepOnly_27 ?_
        refine lv_iload_n hx hb dX5_keepOnly_30 rfl (lv_at hl 3 rfl) ?_
        obtain ⟨g5, h⟩ := og_some h
        refine i_aald hx hb (15 + r0) 0 hK hP (go_rw hr0) rfl g5.1 g5.2 (Nat.le_of_ble_eq_true rfl) (v := ctv ga (gR M r0 (v3.toNat))) rfl dX5_keepOnly_31 ?_
        refine t_astore hx hb dX5_keepOnly_32 hl (by decide) [0, 1, 2, 3] (lv' := [(0, .ref (ga (8 + r0))), (1, .int (iI v1)), (2, .int (iI v2)), (3, .int (iI v3))]) rfl (⟨⟨Nat.ne_of_beq_eq_false rfl, Or.inl (Nat.ne_of_beq_eq_false rfl)⟩, ⟨⟨Nat.ne_of_beq_eq_false rfl, Or.inl (Nat.ne_of_beq_eq_false rfl)⟩, ⟨⟨Nat.ne_of_beq_eq_false rfl, Or.inl (Nat.ne_of_beq_eq_false rfl)⟩, ⟨⟨Nat.ne_of_beq_eq_false rfl, Or.inr rfl⟩, trivial⟩⟩⟩⟩) (fun ls hl => ?_)
        refine t_aload hx hb dX5_keepOnly_34 (lv_at hl 0 rfl) ?_
        rcases on_cases h with ⟨z6, h⟩ | ⟨q6, z6, h⟩
        · rw [ctv_none ga z6]
          refine lv_ifnullN (tgt := 54) hx hb dX5_keepOnly_36 (by decide) ?_
          refine x_iinc (v := iI (v3 + 1)) hx hb dX5_keepOnly_54 hl (k := 4) rfl (iI_add v3 1) (by decide) [0, 1, 2, 3] (lv' := [(4, ctv ga (gR M r0 (v3.toNat))), (0, .ref (ga (8 + r0))), (1, .int (iI v1)), (2, .int (iI v2))]) rfl (⟨⟨Nat.ne_of_beq_eq_false rfl, Or.inl (Nat.ne_of_beq_eq_false rfl)⟩, ⟨⟨Nat.ne_of_beq_eq_false rfl, Or.inl (Nat.ne_of_beq_eq_false rfl)⟩, ⟨⟨Nat.ne_of_beq_eq_false rfl, Or.inl (Nat.ne_of_beq_eq_false rfl)⟩, ⟨⟨Nat.ne_of_beq_eq_false rfl, Or.inr rfl⟩, trivial⟩⟩⟩⟩) (fun ls hl => ?_)
          refine lv_goto (tgt := 12) hx hb dX5_keepOnly_57 (by decide) ?_
          exact ih M (v3 + 1) _ h _ _ _ hP hD hS (lv_pk hl [2, 3, 4, 0] rfl) kk
        · obtain ⟨hq6, h⟩ := og_some h
          rw [ctv_some ga z6]
          refine lv_ifnull hx hb dX5_keepOnly_36 ?_
          refine t_aload hx hb dX5_keepOnly_39 (lv_at hl 0 rfl) ?_
          rw [ctv_some ga z6]
          refine r_get hx hb hts ok_RX7 hown hK hP (25 + 2 * q6) (go_th hq6) rfl 3 (by decide) w_690 (fun _ h9 => h9) rfl dX5_keepOnly_41 ?_
          refine lv_iload_n hx hb dX5_keepOnly_44 rfl (lv_at hl 2 rfl) ?_
          obtain ⟨g7, h⟩ := og_some h
          obtain ⟨g8, h⟩ := og_some h
          by_cases c9 : gT M q6 3 = v1
          · replace h := it_T h c9
            refine i_icmp_ne_F hx hb g7 g8 (tgt := 54) dX5_keepOnly_45 (by decide) c9 ?_
            refine lv_aload_n hx hb dX5_keepOnly_48 rfl (lv_at hl 1 rfl) ?_
            refine t_aload hx hb dX5_keepOnly_49 (lv_at hl 0 rfl) ?_
            rw [ctv_some ga z6]
            obtain ⟨x10, ex10, h⟩ := ob_some h
            refine gk_v (run_V (rest := []) hx hb hml hown hts hK hP hD hS hA hm (C_Row_add l G D K H.size ga n M r0 hr0 (some q6) ex10) _ (full_C _) (full_n _ List.nodup_range) mok_yX5_add w_633 w_465 w_466 (rcv hK hP (8 + r0) (go_ro hr0) rfl rfl) ⟨Nat.le_of_ble_eq_true rfl, Nat.le_of_ble_eq_true rfl⟩ rfl hl.1 rfl (Nat.le_of_ble_eq_true rfl) dX5_keepOnly_51 ⟨(Nat.le_of_ble_eq_true rfl), (Nat.le_of_ble_eq_true rfl)⟩) hP hD hS hA (fun u H locs (hP : va_P D cl (wld ga n (K 0) (K 1) x10) H) (hD : va_D A (wld ga n (K 0) (K 1) x10)) hS => ?_)
            refine x_iinc (v := iI (v3 + 1)) hx hb dX5_keepOnly_54 hl (k := 4) rfl (iI_add v3 1) (by decide) [0, 1, 2, 3] (lv' := [(4, ctv ga (gR M r0 (v3.toNat))), (0, .ref (ga (8 + r0))), (1, .int (iI v1)), (2, .int (iI v2))]) rfl (⟨⟨Nat.ne_of_beq_eq_false rfl, Or.inl (Nat.ne_of_beq_eq_false rfl)⟩, ⟨⟨Nat.ne_of_beq_eq_false rfl, Or.inl (Nat.ne_of_beq_eq_false rfl)⟩, ⟨⟨Nat.ne_of_beq_eq_false rfl, Or.inl (Nat.ne_of_beq_eq_false rfl)⟩, ⟨⟨Nat.ne_of_beq_eq_false rfl, Or.inr rfl⟩, trivial⟩⟩⟩⟩) (fun ls hl => ?_)
            refine lv_goto (tgt := 12) hx hb dX5_keepOnly_57 (by decide) ?_
            exact ih x10 (v3 + 1) _ h _ _ _ hP hD hS (lv_pk hl [2, 3, 4, 0] rfl) kk
          · replace h := it_F h c9
            refine i_icmp_ne_T hx hb g7 g8 (tgt := 54) dX5_keepOnly_45 (by decide) c9 ?_
            refine x_iinc (v := iI (v3 + 1)) hx hb dX5_keepOnly_54 hl (k := 4) rfl (iI_add v3 1) (by decide) [0, 1, 2, 3] (lv' := [(4, ctv ga (gR M r0 (v3.toNat))), (0, .ref (ga (8 + r0))), (1, .int (iI v1)), (2, .int (iI v2))]) rfl (⟨⟨Nat.ne_of_beq_eq_false rfl, Or.inl (Nat.ne_of_beq_eq_false rfl)⟩, ⟨⟨Nat.ne_of_beq_eq_false rfl, Or.inl (Nat.ne_of_beq_eq_false rfl)⟩, ⟨⟨Nat.ne_of_beq_eq_false rfl, Or.inl (Nat.ne_of_beq_eq_false rfl)⟩, ⟨⟨Nat.ne_of_beq_eq_false rfl, Or.inr rfl⟩, trivial⟩⟩⟩⟩) (fun ls hl => ?_)
            refine lv_goto (tgt := 12) hx hb dX5_keepOnly_57 (by decide) ?_
            exact ih M (v3 + 1) _ h _ _ _ hP hD hS (lv_pk hl [2, 3, 4, 0] rfl) kk
      · replace h := it_F h c4
        refine i_icmp_ge_T hx hb g1 ⟨by decide, by decide⟩ (tgt := 60) dX5_keepOnly_23 (by decide) c4 ?_
        obtain rfl := Option.some.inj h
        exact kk _ _ _ hP hD hS (lv_pk hl [] rfl)
    · replace h := it_F h c3
      refine i_icmp_ge_T hx hb g1 g2 (tgt := 60) dX5_keepOnly_14 (by decide) c3 ?_
      obtain rfl := Option.some.inj h
      exact kk _ _ _ hP hD hS (lv_pk hl [] rfl)
def f_Row_keepOnly (n : Nat) (M : cSt) (r0 : Nat) (a1 : Int) : Option (cSt) := ob (g_Row_keepOnly_12 n r0 a1 (gI M (10 + r0)) fu (sI M (10 + r0) 0) 0) (fun x11 => some x11)
set_option maxHeartbeats 4000000 in
set_option maxRecDepth 100000 in
theorem C_Row_keepOnly (l : Launch) (G : Nat → Nat) (D : va_G) (K : Nat → ClassId) (sz : Nat) (ga : Nat → Nat) (n : Nat) (M : cSt) (r0 : Nat) (hr0 : r0 < 7) (a1 : Int) {x : cSt} (h : f_Row_keepOnly n M r0 a1 = some x) : CM l yX5_keepOnly cX5_keepOnly 5 (none : Option FieldType) ({ frames := 1, cells := 0, slots := 0, locals := 21 } : Room) G D K [.ref (ga (8 + r0)), .int (iI a1)] (wld ga n (K 0) (K 1) M) sz (CQv D (fun _ => wld ga n (K 0) (K 1) x)) := by
  refine CM_of (lv0 := [(0, .ref (ga (8 + r0))), (1, .int (iI a1))]) pn_RX5 (Nat.le_of_ble_eq_true rfl) rfl (fun p e s m args below meth c A ls hx hb hr hml hown hts hlk hnm hP hK hD hS hA hm hl => ?_)
  have hown : s.vm.findClass RX5 = some m.cls := hown
  unfold f_Row_keepOnly at h
  refine lv_aload_n hx hb dX5_keepOnly_0 rfl (lv_at hl 0 rfl) ?_
  refine r_get hx hb hts ok_RX5 hown hK hP (8 + r0) (go_ro hr0) rfl 1 (by decide) w_35 (fun _ h9 => h9) rfl dX5_keepOnly_1 ?_
  refine x_istore_n hx hb dX5_keepOnly_4 rfl hl (by decide) [0, 1] (lv' := [(0, .ref (ga (8 + r0))), (1, .int (iI a1))]) rfl (⟨⟨Nat.ne_of_beq_eq_false rfl, Or.inl (Nat.ne_of_beq_eq_false rfl)⟩, ⟨⟨Nat.ne_of_beq_eq_false rfl, Or.inr rfl⟩, trivial⟩⟩) (fun ls hl => ?_)
  refine lv_aload_n hx hb dX5_keepOnly_5 rfl (lv_at hl 1 rfl) ?_
  refine lv_iconst (v := iI 0) hx hb dX5_keepOnly_6 rfl ?_
  refine r_put hx hb hts ok_RX5 hown hK hP hD hS (8 + r0) (go_ro hr0) rfl 1 (by decide) w_35 (fun _ h9 => h9) rfl (v := .int (iI 0)) rfl rfl (Nat.le_of_ble_eq_true rfl) dX5_keepOnly_7 (ws' := wld ga n (K 0) (K 1) (sI M (10 + r0) 0)) (wIr hr0) (fun H locs hP hD hS => ?_)
  refine lv_iconst (v := iI 0) hx hb dX5_keepOnly_10 rfl ?_
  refine x_istore_n hx hb dX5_keepOnly_11 rfl hl (by decide) [0, 1, 2] (lv' := [(2, .int (iI (gI M (10 + r0)))), (0, .ref (ga (8 + r0))), (1, .int (iI a1))]) rfl (⟨⟨Nat.ne_of_beq_eq_false rfl, Or.inr rfl⟩, ⟨⟨Nat.ne_of_beq_eq_false rfl, Or.inl (Nat.ne_of_beq_eq_false rfl)⟩, ⟨⟨Nat.ne_of_beq_eq_false rfl, Or.inl (Nat.ne_of_beq_eq_false rfl)⟩, trivial⟩⟩⟩) (fun ls hl => ?_)
  obtain ⟨x11, ex11, h⟩ := ob_some h
  refine L_Row_keepOnly_12 hx hb hr hml hown hts hlk hK hA hm ga n r0 hr0 a1 (gI M (10 + r0))  fu (sI M (10 + r0) 0) 0 _ ex11 _ _ _ hP hD hS (lv_pk hl [2, 3, 1, 0] rfl) (fun ls H locs (hP : va_P D cl (wld ga n (K 0) (K 1) x11) H) (hD : va_D A (wld ga n (K 0) (K 1) x11)) hS (hl : lv_has ls 5 []) => ?_)
  obtain rfl := Option.some.inj h
  exact e_v hx hb hr hlk hP hD hS (fun _ => 0) rfl (Nat.le_of_ble_eq_true rfl) (Nat.le_of_ble_eq_true rfl) dX5_keepOnly_60
def f_Row_clear (n : Nat) (M : cSt) (r0 : Nat) : Option (cSt) := some (sI M (10 + r0) 0)
set_option maxHeartbeats 4000000 in
set_option maxRecDepth 100000 in
theorem C_Row_clear (l : Launch) (G : Nat → Nat) (D : va_G) (K : Nat → ClassId) (sz : Nat) (ga : Nat → Nat) (n : Nat) (M : cSt) (r0 : Nat) (hr0 : r0 < 7) {x : cSt} (h : f_Row_clear n M r0 = some x) : CM l yX5_clear cX5_clear 1 (none : Option FieldType) ({ frames := 0, cells := 0, slots := 0, locals := 0 } : Room) G D K [.ref (ga (8 + r0))] (wld ga n (K 0) (K 1) M) sz (CQv D (fun _ => wld ga n (K 0) (K 1) x)) := by
  refine CM_of (lv0 := [(0, .ref (ga (8 + r0)))]) pn_RX5 (Nat.le_of_ble_eq_true rfl) rfl (fun p e s m args below meth c A ls hx hb hr hml hown hts hlk hnm hP hK hD hS hA hm hl => ?_)
  have hown : s.vm.findClass RX5 = some m.cls := hown
  unfold f_Row_clear at h
  refine lv_aload_n hx hb dX5_clear_0 rfl (lv_at hl 0 rfl) ?_
  refine lv_iconst (v := iI 0) hx hb dX5_clear_1 rfl ?_
  refine r_put hx hb hts ok_RX5 hown hK hP hD hS (8 + r0) (go_ro hr0) rfl 1 (by decide) w_35 (fun _ h9 => h9) rfl (v := .int (iI 0)) rfl rfl (Nat.le_of_ble_eq_true rfl) dX5_clear_2 (ws' := wld ga n (K 0) (K 1) (sI M (10 + r0) 0)) (wIr hr0) (fun H locs hP hD hS => ?_)
  obtain rfl := Option.some.inj h
  exact e_v hx hb hr hlk hP hD hS (fun _ => 0) rfl (Nat.le_of_ble_eq_true rfl) (Nat.le_of_ble_eq_true rfl) dX5_clear_5
def s_Row_words_4 (rec : Int → Int → Option (Int)) (n : Nat) (M : cSt) (r0 : Nat) (v1 : Int) (v2 : Int) : Option (Int) := og (inR v2) (og (inR (gI M (10 + r0))) (if v2 < gI M (10 + r0) then if v2 < 200 then og (0 ≤ v2 ∧ v2 < 200) (on (gR M r0 (v2.toNat)) (rec v1 (v2 + 1)) (fun q6 => og (q6 < n) (rec (v1 + gT M q6 5) (v2 + 1)))) else some v1 else some v1))
def g_Row_words_4 (n : Nat) (M : cSt) (r0 : Nat) : Nat → Int → Int → Option (Int)
  | 0 => fun _ _ => none
  | q + 1 => s_Row_words_4 (g_Row_words_4 n M r0 q) n M r0
set_option maxHeartbeats 4000000 in
set_option maxRecDepth 100000 in
theorem L_Row_words_4 {p : Program} {l : Launch} {G : Nat → Nat} {D : va_G} {K : Nat → ClassId} {e : Env} {s : State} {m : MethodId} {args : Array Value} {below : List Frame} {meth : Method} {c : Code} {A : Nat → Prop} (hx : p.tables.exec = Jvm.exec) (hb : c.code = cX5_words) (hr : meth.sig.returnType = (some FieldType.int)) (hml : c.maxLocals = 4) (hown : s.vm.findClass RX5 = some m.cls) (hts : ∀ w ∈ lw_gw, w.before args s = true) (hlk : meth.locks = false) (hK : va_K D cl (tys K) s) (hA : ∀ q : Nat, s.heap.size ≤ q → A q) (hm : Amb G A s s.heap) {Q : State → Prop} (ga : Nat → Nat) (n : Nat) (M : cSt) (r0 : Nat) (hr0 : r0 < 7) : ∀ (q : Nat) (v1 : Int) (v2 : Int) (out : Int), g_Row_words_4 n M r0 q v1 v2 = some out → ∀ (ls : Array Slot) (H : Heap) (locs : List Loc), va_P D cl (wld ga n (K 0) (K 1) M) H → va_D A (wld ga n (K 0) (K 1) M) → va_S A s.heap H locs → lv_has ls 4 [(0, .ref (ga (8 + r0))), (1, .int (iI v1)), (2, .int (iI v2))] → (∀ (ls : Array Slot) (H : Heap) (locs : List Loc), va_P D cl (wld ga n (K 0) (K 1) M) H → va_D A (wld ga n (K 0) (K 1) M) → va_S A s.heap H locs → lv_has ls 4 [(1, .int (iI out))] → W p l e ({ frames := 0, cells := 0, slots := 0, locals := 0 } : Room) s m args below meth c H locs 0 0 Q (F0 m 45 ls [])) → W p l e ({ frames := 0, cells := 0, slots := 0, locals := 0 } : Room) s m args below meth c H locs 0 0 Q (F0 m 4 ls []) := by
  intro q
  induction q with
  | zero =>
    intro v1 v2 out h
    cases (show none = some out from h)
  | succ q ih =>
    intro v1 v2 out h ls H locs hP hD hS hl kk
    replace h : s_Row_words_4 (g_Row_words_4 n M r0 q) n M r0 v1 v2 = some out := h
    unfold s_Row_words_4 at h
    refine lv_iload_n hx hb dX5_words_4 rfl (lv_at hl 2 rfl) ?_
    refine lv_aload_n hx hb dX5_words_5 rfl (lv_at hl 0 rfl) ?_
    refine r_get hx hb hts ok_RX5 hown hK hP (8 + r0) (go_ro hr0) rfl 1 (by decide) w_35 (fun _ h9 => h9) rfl dX5_words_6 ?_
    obtain ⟨g1, h⟩ := og_some h
    obtain ⟨g2, h⟩ := og_some h
    by_cases c3 : v2 < gI M (10 + r0)
    · replace h := it_T h c3
      refine i_icmp_ge_F hx hb g1 g2 (tgt := 45) dX5_words_9 (by decide) c3 ?_
      refine lv_iload_n hx hb dX5_words_12 rfl (lv_at hl 2 rfl) ?_
      refine lv_aload_n hx hb dX5_words_13 rfl (lv_at hl 0 rfl) ?_
      refine r_get hx hb hts ok_RX5 hown hK hP (8 + r0) (go_ro hr0) rfl 0 (by decide) w_34 (fun _ h9 => h9) rfl dX5_words_14 ?_
      refine i_alen hx hb (15 + r0) 0 hK hP (go_rw hr0) rfl rfl (Nat.le_of_ble_eq_true rfl) dX5_words_17 ?_
      refine w_toeq (show iI ((200 : Nat) : Int) = iI 200 from rfl) ?_
      by_cases c4 : v2 < 200
      · replace h := it_T h c4
        refine i_icmp_ge_F hx hb g1 ⟨by decide, by decide⟩ (tgt := 45) dX5_words_18 (by decide) c4 ?_
        refine lv_aload_n hx hb dX5_words_21 rfl (lv_at hl 0 rfl) ?_
        refine r_get hx hb hts ok_RX5 hown hK hP (8 + r0) (go_ro hr0) rfl 0 (by decide) w_34 (fun _ h9 => h9) rfl dX5_words_22 ?_
        refine lv_iload_n hx hb dX5_words_25 rfl (lv_at hl 2 rfl) ?_
        obtain ⟨g5, h⟩ := og_some h
        refine i_aald hx hb (15 + r0) 0 hK hP (go_rw hr0) rfl g5.1 g5.2 (Nat.le_of_ble_eq_true rfl) (v := ctv ga (gR M r0 (v2.toNat))) rfl dX5_words_26 ?_
        refine t_astore_n hx hb dX5_words_27 rfl hl (by decide) [0, 1, 2] (lv' := [(0, .ref (ga (8 + r0))), (1, .int (iI v1)), (2, .int (iI v2))]) rfl (⟨⟨Nat.ne_of_beq_eq_false rfl, Or.inl (Nat.ne_of_beq_eq_false rfl)⟩, ⟨⟨Nat.ne_of_beq_eq_false rfl, Or.inl (Nat.ne_of_beq_eq_false rfl)⟩, ⟨⟨Nat.ne_of_beq_eq_false rfl, Or.inr rfl⟩, trivial⟩⟩⟩) (fun ls hl => ?_)
        refine t_aload_n hx hb dX5_words_28 rfl (lv_at hl 0 rfl) ?_
        rcases on_cases h with ⟨z6, h⟩ | ⟨q6, z6, h⟩
        · rw [ctv_none ga z6]
          refine lv_ifnullN (tgt := 39) hx hb dX5_words_29 (by decide) ?_
          refine x_iinc (v := iI (v2 + 1)) hx hb dX5_words_39 hl (k := 3) rfl (iI_add v2 1) (by decide) [0, 1, 2] (lv' := [(3, ctv ga (gR M r0 (v2.toNat))), (0, .ref (ga (8 + r0))), (1, .int (iI v1))]) rfl (⟨⟨Nat.ne_of_beq_eq_false rfl, Or.inl (Nat.ne_of_beq_eq_false rfl)⟩, ⟨⟨Nat.ne_of_beq_eq_false rfl, Or.inl (Nat.ne_of_beq_eq_false rfl)⟩, ⟨⟨Nat.ne_of_beq_eq_false rfl, Or.inr rfl⟩, trivial⟩⟩⟩) (fun ls hl => ?_)
          refine lv_goto (tgt := 4) hx hb dX5_words_42 (by decide) ?_
          exact ih v1 (v2 + 1) _ h _ _ _ hP hD hS (lv_pk hl [2, 3, 0] rfl) kk
        · obtain ⟨hq6, h⟩ := og_some h
          rw [ctv_some ga z6]
          refine lv_ifnull hx hb dX5_words_29 ?_
          refine lv_iload_n hx hb dX5_words_32 rfl (lv_at hl 2 rfl) ?_
          refine t_aload_n hx hb dX5_words_33 rfl (lv_at hl 0 rfl) ?_
          rw [ctv_some ga z6]
          refine r_get hx hb hts ok_RX7 hown hK hP (25 + 2 * q6) (go_th hq6) rfl 5 (by decide) w_699 (fun _ h9 => h9) rfl dX5_words_34 ?_
          refine lv_iadd hx hb dX5_words_37 ?_
          refine w_toeq (iI_add v1 (gT M q6 5)) ?_
          refine x_istore_n hx hb dX5_words_38 rfl hl (by decide) [0, 1, 3] (lv' := [(3, ctv ga (gR M r0 (v2.toNat))), (0, .ref (ga (8 + r0))), (2, .int (iI v2))]) rfl (⟨⟨Nat.ne_of_beq_eq_false rfl, Or.inl (Nat.ne_of_beq_eq_false rfl)⟩, ⟨⟨Nat.ne_of_beq_eq_false rfl, Or.inr rfl⟩, ⟨⟨Nat.ne_of_beq_eq_false rfl, Or.inl (Nat.ne_of_beq_eq_false rfl)⟩, trivial⟩⟩⟩) (fun ls hl => ?_)
          refine x_iinc (v := iI (v2 + 1)) hx hb dX5_words_39 hl (k := 3) rfl (iI_add v2 1) (by decide) [0, 1, 2] (lv' := [(1, .int (iI (v1 + gT M q6 5))), (3, ctv ga (gR M r0 (v2.toNat))), (0, .ref (ga (8 + r0)))]) rfl (⟨⟨Nat.ne_of_beq_eq_false rfl, Or.inr rfl⟩, ⟨⟨Nat.ne_of_beq_eq_false rfl, Or.inl (Nat.ne_of_beq_eq_false rfl)⟩, ⟨⟨Nat.ne_of_beq_eq_false rfl, Or.inl (Nat.ne_of_beq_eq_false rfl)⟩, trivial⟩⟩⟩) (fun ls hl => ?_)
          refine lv_goto (tgt := 4) hx hb dX5_words_42 (by decide) ?_
          exact ih (v1 + gT M q6 5) (v2 + 1) _ h _ _ _ hP hD hS (lv_pk hl [3, 1, 0] rfl) kk
      · replace h := it_F h c4
        refine i_icmp_ge_T hx hb g1 ⟨by decide, by decide⟩ (tgt := 45) dX5_words_18 (by decide) c4 ?_
        obtain rfl := Option.some.inj h
        exact kk _ _ _ hP hD hS (lv_pk hl [1] rfl)
    · replace h := it_F h c3
      refine i_icmp_ge_T hx hb g1 g2 (tgt := 45) dX5_words_9 (by decide) c3 ?_
      obtain rfl := Option.some.inj h
      exact kk _ _ _ hP hD hS (lv_pk hl [1] rfl)
def f_Row_words (n : Nat) (M : cSt) (r0 : Nat) : Option (Int) := ob (g_Row_words_4 n M r0 fu 0 0) (fun x7 => some x7)
set_option maxHeartbeats 4000000 in
set_option maxRecDepth 100000 in
theorem C_Row_words (l : Launch) (G : Nat → Nat) (D : va_G) (K : Nat → ClassId) (sz : Nat) (ga : Nat → Nat) (n : Nat) (M : cSt) (r0 : Nat) (hr0 : r0 < 7) {x : Int} (h : f_Row_words n M r0 = some x) : CM l yX5_words cX5_words 4 (some FieldType.int) ({ frames := 0, cells := 0, slots := 0, locals := 0 } : Room) G D K [.ref (ga (8 + r0))] (wld ga n (K 0) (K 1) M) sz (CQi (iI x) D (fun _ => wld ga n (K 0) (K 1) M)) := by
  refine CM_of (lv0 := [(0, .ref (ga (8 + r0)))]) pn_RX5 (Nat.le_of_ble_eq_true rfl) rfl (fun p e s m args below meth c A ls hx hb hr hml hown hts hlk hnm hP hK hD hS hA hm hl => ?_)
  have hown : s.vm.findClass RX5 = some m.cls := hown
  unfold f_Row_words at h
  refine lv_iconst (v := iI 0) hx hb dX5_words_0 rfl ?_
  refine x_istore_n hx hb dX5_words_1 rfl hl (by decide) [0] (lv' := [(0, .ref (ga (8 + r0)))]) rfl (⟨⟨Nat.ne_of_beq_eq_false rfl, Or.inr rfl⟩, trivial⟩) (fun ls hl => ?_)
  refine lv_iconst (v := iI 0) hx hb dX5_words_2 rfl ?_
  refine x_istore_n hx hb dX5_words_3 rfl hl (by decide) [0, 1] (lv' := [(1, .int (iI 0)), (0, .ref (ga (8 + r0)))]) rfl (⟨⟨Nat.ne_of_beq_eq_false rfl, Or.inr rfl⟩, ⟨⟨Nat.ne_of_beq_eq_false rfl, Or.inl (Nat.ne_of_beq_eq_false rfl)⟩, trivial⟩⟩) (fun ls hl => ?_)
  obtain ⟨x7, ex7, h⟩ := ob_some h
  refine L_Row_words_4 hx hb hr hml hown hts hlk hK hA hm ga n M r0 hr0  fu 0 0 _ ex7 _ _ _ hP hD hS (lv_pk hl [2, 1, 0] rfl) (fun ls H locs (hP : va_P D cl (wld ga n (K 0) (K 1) M) H) (hD : va_D A (wld ga n (K 0) (K 1) M)) hS (hl : lv_has ls 4 [(1, .int (iI x7))]) => ?_)
  refine lv_iload_n hx hb dX5_words_45 rfl (lv_at hl 0 rfl) ?_
  obtain rfl := Option.some.inj h
  exact e_i hx hb hr hlk hP hD hS (fun _ => 0) rfl (Nat.le_of_ble_eq_true rfl) (Nat.le_of_ble_eq_true rfl) rfl dX5_words_46
def s_Row_pinned_4 (rec : Int → Int → Option (Int)) (n : Nat) (M : cSt) (r0 : Nat) (v1 : Int) (v2 : Int) : Option (Int) := og (inR v2) (og (inR (gI M (10 + r0))) (if v2 < gI M (10 + r0) then if v2 < 200 then og (0 ≤ v2 ∧ v2 < 200) (on (gR M r0 (v2.toNat)) (rec v1 (v2 + 1)) (fun q6 => og (q6 < n) (og (inR (gT M q6 9)) (if gT M q6 9 = 0 then rec v1 (v2 + 1) else rec (v1 + 1) (v2 + 1))))) else some v1 else some v1))
def g_Row_pinned_4 (n : Nat) (M : cSt) (r0 : Nat) : Nat → Int → Int → Option (Int)
  | 0 => fun _ _ => none
  | q + 1 => s_Row_pinned_4 (g_Row_pinned_4 n M r0 q) n M r0
set_option maxHeartbeats 4000000 in
set_option maxRecDepth 100000 in
theorem L_Row_pinned_4 {p : Program} {l : Launch} {G : Nat → Nat} {D : va_G} {K : Nat → ClassId} {e : Env} {s : State} {m : MethodId} {args : Array Value} {below : List Frame} {meth : Method} {c : Code} {A : Nat → Prop} (hx : p.tables.exec = Jvm.exec) (hb : c.code = cX5_pinned) (hr : meth.sig.returnType = (some FieldType.int)) (hml : c.maxLocals = 4) (hown : s.vm.findClass RX5 = some m.cls) (hts : ∀ w ∈ lw_gw, w.before args s = true) (hlk : meth.locks = false) (hK : va_K D cl (tys K) s) (hA : ∀ q : Nat, s.heap.size ≤ q → A q) (hm : Amb G A s s.heap) {Q : State → Prop} (ga : Nat → Nat) (n : Nat) (M : cSt) (r0 : Nat) (hr0 : r0 < 7) : ∀ (q : Nat) (v1 : Int) (v2 : Int) (out : Int), g_Row_pinned_4 n M r0 q v1 v2 = some out → ∀ (ls : Array Slot) (H : Heap) (locs : List Loc), va_P D cl (wld ga n (K 0) (K 1) M) H → va_D A (wld ga n (K 0) (K 1) M) → va_S A s.heap H locs → lv_has ls 4 [(0, .ref (ga (8 + r0))), (1, .int (iI v1)), (2, .int (iI v2))] → (∀ (ls : Array Slot) (H : Heap) (locs : List Loc), va_P D cl (wld ga n (K 0) (K 1) M) H → va_D A (wld ga n (K 0) (K 1) M) → va_S A s.heap H locs → lv_has ls 4 [(1, .int (iI out))] → W p l e ({ frames := 0, cells := 0, slots := 0, locals := 0 } : Room) s m args below meth c H locs 0 0 Q (F0 m 48 ls [])) → W p l e ({ frames := 0, cells := 0, slots := 0, locals := 0 } : Room) s m args below meth c H locs 0 0 Q (F0 m 4 ls []) := by
  intro q
  induction q with
  | zero =>
    intro v1 v2 out h
    cases (show none = some out from h)
  | succ q ih =>
    intro v1 v2 out h ls H locs hP hD hS hl kk
    replace h : s_Row_pinned_4 (g_Row_pinned_4 n M r0 q) n M r0 v1 v2 = some out := h
    unfold s_Row_pinned_4 at h
    refine lv_iload_n hx hb dX5_pinned_4 rfl (lv_at hl 2 rfl) ?_
    refine lv_aload_n hx hb dX5_pinned_5 rfl (lv_at hl 0 rfl) ?_
    refine r_get hx hb hts ok_RX5 hown hK hP (8 + r0) (go_ro hr0) rfl 1 (by decide) w_35 (fun _ h9 => h9) rfl dX5_pinned_6 ?_
    obtain ⟨g1, h⟩ := og_some h
    obtain ⟨g2, h⟩ := og_some h
    by_cases c3 : v2 < gI M (10 + r0)
    · replace h := it_T h c3
      refine i_icmp_ge_F hx hb g1 g2 (tgt := 48) dX5_pinned_9 (by decide) c3 ?_
      refine lv_iload_n hx hb dX5_pinned_12 rfl (lv_at hl 2 rfl) ?_
      refine lv_aload_n hx hb dX5_pinned_13 rfl (lv_at hl 0 rfl) ?_
      refine r_get hx hb hts ok_RX5 hown hK hP (8 + r0) (go_ro hr0) rfl 0 (by decide) w_34 (fun _ h9 => h9) rfl dX5_pinned_14 ?_
      refine i_alen hx hb (15 + r0) 0 hK hP (go_rw hr0) rfl rfl (Nat.le_of_ble_eq_true rfl) dX5_pinned_17 ?_
      refine w_toeq (show iI ((200 : Nat) : Int) = iI 200 from rfl) ?_
      by_cases c4 : v2 < 200
      · replace h := it_T h c4
        refine i_icmp_ge_F hx hb g1 ⟨by decide, by decide⟩ (tgt := 48) dX5_pinned_18 (by decide) c4 ?_
        refine lv_aload_n hx hb dX5_pinned_21 rfl (lv_at hl 0 rfl) ?_
        refine r_get hx hb hts ok_RX5 hown hK hP (8 + r0) (go_ro hr0) rfl 0 (by decide) w_34 (fun _ h9 => h9) rfl dX5_pinned_22 ?_
        refine lv_iload_n hx hb dX5_pinned_25 rfl (lv_at hl 2 rfl) ?_
        obtain ⟨g5, h⟩ := og_some h
        refine i_aald hx hb (15 + r0) 0 hK hP (go_rw hr0) rfl g5.1 g5.2 (Nat.le_of_ble_eq_true rfl) (v := ctv ga (gR M r0 (v2.toNat))) rfl dX5_pinned_26 ?_
        refine t_astore_n hx hb dX5_pinned_27 rfl hl (by decide) [0, 1, 2] (lv' := [(0, .ref (ga (8 + r0))), (1, .int (iI v1)), (2, .int (iI v2))]) rfl (⟨⟨Nat.ne_of_beq_eq_false rfl, Or.inl (Nat.ne_of_beq_eq_false rfl)⟩, ⟨⟨Nat.ne_of_beq_eq_false rfl, Or.inl (Nat.ne_of_beq_eq_false rfl)⟩, ⟨⟨Nat.ne_of_beq_eq_false rfl, Or.inr rfl⟩, trivial⟩⟩⟩) (fun ls hl => ?_)
        refine t_aload_n hx hb dX5_pinned_28 rfl (lv_at hl 0 rfl) ?_
        rcases on_cases h with ⟨z6, h⟩ | ⟨q6, z6, h⟩
        · rw [ctv_none ga z6]
          refine lv_ifnullN (tgt := 42) hx hb dX5_pinned_29 (by decide) ?_
          refine x_iinc (v := iI (v2 + 1)) hx hb dX5_pinned_42 hl (k := 3) rfl (iI_add v2 1) (by decide) [0, 1, 2] (lv' := [(3, ctv ga (gR M r0 (v2.toNat))), (0, .ref (ga (8 + r0))), (1, .int (iI v1))]) rfl (⟨⟨Nat.ne_of_beq_eq_false rfl, Or.inl (Nat.ne_of_beq_eq_false rfl)⟩, ⟨⟨Nat.ne_of_beq_eq_false rfl, Or.inl (Nat.ne_of_beq_eq_false rfl)⟩, ⟨⟨Nat.ne_of_beq_eq_false rfl, Or.inr rfl⟩, trivial⟩⟩⟩) (fun ls hl => ?_)
          refine lv_goto (tgt := 4) hx hb dX5_pinned_45 (by decide) ?_
          exact ih v1 (v2 + 1) _ h _ _ _ hP hD hS (lv_pk hl [2, 3, 0] rfl) kk
        · obtain ⟨hq6, h⟩ := og_some h
          rw [ctv_some ga z6]
          refine lv_ifnull hx hb dX5_pinned_29 ?_
          refine t_aload_n hx hb dX5_pinned_32 rfl (lv_at hl 0 rfl) ?_
          rw [ctv_some ga z6]
          refine r_get hx hb hts ok_RX7 hown hK hP (25 + 2 * q6) (go_th hq6) rfl 9 (by decide) w_713 (fun _ h9 => h9) rfl dX5_pinned_33 ?_
          obtain ⟨g7, h⟩ := og_some h
          by_cases c8 : gT M q6 9 = 0
          · replace h := it_T h c8
            refine i_if_eq_T hx hb g7 (tgt := 42) dX5_pinned_36 (by decide) c8 ?_
            refine x_iinc (v := iI (v2 + 1)) hx hb dX5_pinned_42 hl (k := 3) rfl (iI_add v2 1) (by decide) [0, 1, 2] (lv' := [(3, ctv ga (gR M r0 (v2.toNat))), (0, .ref (ga (8 + r0))), (1, .int (iI v1))]) rfl (⟨⟨Nat.ne_of_beq_eq_false rfl, Or.inl (Nat.ne_of_beq_eq_false rfl)⟩, ⟨⟨Nat.ne_of_beq_eq_false rfl, Or.inl (Nat.ne_of_beq_eq_false rfl)⟩, ⟨⟨Nat.ne_of_beq_eq_false rfl, Or.inr rfl⟩, trivial⟩⟩⟩) (fun ls hl => ?_)
            refine lv_goto (tgt := 4) hx hb dX5_pinned_45 (by decide) ?_
            exact ih v1 (v2 + 1) _ h _ _ _ hP hD hS (lv_pk hl [2, 3, 0] rfl) kk
          · replace h := it_F h c8
            refine i_if_eq_F hx hb g7 (tgt := 42) dX5_pinned_36 (by decide) c8 ?_
            refine x_iinc (v := iI (v1 + 1)) hx hb dX5_pinned_39 hl (k := 2) rfl (iI_add v1 1) (by decide) [0, 1, 3] (lv' := [(3, ctv ga (gR M r0 (v2.toNat))), (0, .ref (ga (8 + r0))), (2, .int (iI v2))]) rfl (⟨⟨Nat.ne_of_beq_eq_false rfl, Or.inl (Nat.ne_of_beq_eq_false rfl)⟩, ⟨⟨Nat.ne_of_beq_eq_false rfl, Or.inr rfl⟩, ⟨⟨Nat.ne_of_beq_eq_false rfl, Or.inl (Nat.ne_of_beq_eq_false rfl)⟩, trivial⟩⟩⟩) (fun ls hl => ?_)
            refine x_iinc (v := iI (v2 + 1)) hx hb dX5_pinned_42 hl (k := 3) rfl (iI_add v2 1) (by decide) [0, 1, 2] (lv' := [(1, .int (iI (v1 + 1))), (3, ctv ga (gR M r0 (v2.toNat))), (0, .ref (ga (8 + r0)))]) rfl (⟨⟨Nat.ne_of_beq_eq_false rfl, Or.inr rfl⟩, ⟨⟨Nat.ne_of_beq_eq_false rfl, Or.inl (Nat.ne_of_beq_eq_false rfl)⟩, ⟨⟨Nat.ne_of_beq_eq_false rfl, Or.inl (Nat.ne_of_beq_eq_false rfl)⟩, trivial⟩⟩⟩) (fun ls hl => ?_)
            refine lv_goto (tgt := 4) hx hb dX5_pinned_45 (by decide) ?_
            exact ih (v1 + 1) (v2 + 1) _ h _ _ _ hP hD hS (lv_pk hl [3, 1, 0] rfl) kk
      · replace h := it_F h c4
        refine i_icmp_ge_T hx hb g1 ⟨by decide, by decide⟩ (tgt := 48) dX5_pinned_18 (by decide) c4 ?_
        obtain rfl := Option.some.inj h
        exact kk _ _ _ hP hD hS (lv_pk hl [1] rfl)
    · replace h := it_F h c3
      refine i_icmp_ge_T hx hb g1 g2 (tgt := 48) dX5_pinned_9 (by decide) c3 ?_
      obtain rfl := Option.some.inj h
      exact kk _ _ _ hP hD hS (lv_pk hl [1] rfl)
def f_Row_pinned (n : Nat) (M : cSt) (r0 : Nat) : Option (Int) := ob (g_Row_pinned_4 n M r0 fu 0 0) (fun x9 => some x9)
set_option maxHeartbeats 4000000 in
set_option maxRecDepth 100000 in
theorem C_Row_pinned (l : Launch) (G : Nat → Nat) (D : va_G) (K : Nat → ClassId) (sz : Nat) (ga : Nat → Nat) (n : Nat) (M : cSt) (r0 : Nat) (hr0 : r0 < 7) {x : Int} (h : f_Row_pinned n M r0 = some x) : CM l yX5_pinned cX5_pinned 4 (some FieldType.int) ({ frames := 0, cells := 0, slots := 0, locals := 0 } : Room) G D K [.ref (ga (8 + r0))] (wld ga n (K 0) (K 1) M) sz (CQi (iI x) D (fun _ => wld ga n (K 0) (K 1) M)) := by
  refine CM_of (lv0 := [(0, .ref (ga (8 + r0)))]) pn_RX5 (Nat.le_of_ble_eq_true rfl) rfl (fun p e s m args below meth c A ls hx hb hr hml hown hts hlk hnm hP hK hD hS hA hm hl => ?_)
  have hown : s.vm.findClass RX5 = some m.cls := hown
  unfold f_Row_pinned at h
  refine lv_iconst (v := iI 0) hx hb dX5_pinned_0 rfl ?_
  refine x_istore_n hx hb dX5_pinned_1 rfl hl (by decide) [0] (lv' := [(0, .ref (ga (8 + r0)))]) rfl (⟨⟨Nat.ne_of_beq_eq_false rfl, Or.inr rfl⟩, trivial⟩) (fun ls hl => ?_)
  refine lv_iconst (v := iI 0) hx hb dX5_pinned_2 rfl ?_
  refine x_istore_n hx hb dX5_pinned_3 rfl hl (by decide) [0, 1] (lv' := [(1, .int (iI 0)), (0, .ref (ga (8 + r0)))]) rfl (⟨⟨Nat.ne_of_beq_eq_false rfl, Or.inr rfl⟩, ⟨⟨Nat.ne_of_beq_eq_false rfl, Or.inl (Nat.ne_of_beq_eq_false rfl)⟩, trivial⟩⟩) (fun ls hl => ?_)
  obtain ⟨x9, ex9, h⟩ := ob_some h
  refine L_Row_pinned_4 hx hb hr hml hown hts hlk hK hA hm ga n M r0 hr0  fu 0 0 _ ex9 _ _ _ hP hD hS (lv_pk hl [2, 1, 0] rfl) (fun ls H locs (hP : va_P D cl (wld ga n (K 0) (K 1) M) H) (hD : va_D A (wld ga n (K 0) (K 1) M)) hS (hl : lv_has ls 4 [(1, .int (iI x9))]) => ?_)
  refine lv_iload_n hx hb dX5_pinned_48 rfl (lv_at hl 0 rfl) ?_
  obtain rfl := Option.some.inj h
  exact e_i hx hb hr hlk hP hD hS (fun _ => 0) rfl (Nat.le_of_ble_eq_true rfl) (Nat.le_of_ble_eq_true rfl) rfl dX5_pinned_49
