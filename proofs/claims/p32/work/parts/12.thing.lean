/-! METHODS as functions, with their contracts, written by wip/p32/sx2.py -/
def f_Th_hasField (n : Nat) (M : cSt) (k0 : Nat) (a1 : Int) : Option (Int) := og (inR a1) (if a1 < 0 then some 0 else og (gL M k0 < 2147483648) (og (inR (gL M k0 : Int)) (if a1 < (gL M k0 : Int) then some 1 else some 0)))
set_option maxHeartbeats 4000000 in
set_option maxRecDepth 100000 in
theorem C_Th_hasField (l : Launch) (G : Nat → Nat) (D : va_G) (K : Nat → ClassId) (sz : Nat) (ga : Nat → Nat) (n : Nat) (M : cSt) (k0 : Nat) (hk0 : k0 < n) (a1 : Int) {x : Int} (h : f_Th_hasField n M k0 a1 = some x) : CM l yX7_hasField cX7_hasField 2 (some FieldType.boolean) ({ frames := 0, cells := 0, slots := 0, locals := 0 } : Room) G D K [.ref (ga (25 + 2 * k0)), .int (iI a1)] (wld ga n (K 0) (K 1) M) sz (CQi (iI x) D (fun _ => wld ga n (K 0) (K 1) M)) := by
  refine CM_of (lv0 := [(0, .ref (ga (25 + 2 * k0))), (1, .int (iI a1))]) pn_RX7 (Nat.le_of_ble_eq_true rfl) rfl (fun p e s m args below meth c A ls hx hb hr hml hown hts hlk hnm hP hK hD hS hA hm hl => ?_)
  have hown : s.vm.findClass RX7 = some m.cls := hown
  unfold f_Th_hasField at h
  refine lv_iload_n hx hb dX7_hasField_0 rfl (lv_at hl 1 rfl) ?_
  obtain ⟨g1, h⟩ := og_some h
  by_cases c2 : a1 < 0
  · replace h := it_T h c2
    refine i_if_lt_T hx hb g1 (tgt := 17) dX7_hasField_1 (by decide) c2 ?_
    refine lv_iconst (v := iI 0) hx hb dX7_hasField_17 rfl ?_
    obtain rfl := Option.some.inj h
    exact e_z hx hb hr hlk hP hD hS (fun _ => 0) rfl (Nat.le_of_ble_eq_true rfl) (Nat.le_of_ble_eq_true rfl) rfl (b01 (Or.inl rfl)) dX7_hasField_18
  · replace h := it_F h c2
    refine i_if_lt_F hx hb g1 (tgt := 17) dX7_hasField_1 (by decide) c2 ?_
    refine lv_iload_n hx hb dX7_hasField_4 rfl (lv_at hl 1 rfl) ?_
    refine lv_aload_n hx hb dX7_hasField_5 rfl (lv_at hl 0 rfl) ?_
    refine r_get hx hb hts ok_RX7 hown hK hP (25 + 2 * k0) (go_th hk0) rfl 1 (by decide) w_677 (fun _ h9 => h9) rfl dX7_hasField_6 ?_
    obtain ⟨g3, h⟩ := og_some h
    refine i_alen hx hb (26 + 2 * k0) 0 hK hP (go_fl hk0) rfl rfl g3 dX7_hasField_9 ?_
    obtain ⟨g4, h⟩ := og_some h
    by_cases c5 : a1 < (gL M k0 : Int)
    · replace h := it_T h c5
      refine i_icmp_ge_F hx hb g1 g4 (tgt := 17) dX7_hasField_10 (by decide) c5 ?_
      refine lv_iconst (v := iI 1) hx hb dX7_hasField_13 rfl ?_
      refine lv_goto (tgt := 18) hx hb dX7_hasField_14 (by decide) ?_
      obtain rfl := Option.some.inj h
      exact e_z hx hb hr hlk hP hD hS (fun _ => 0) rfl (Nat.le_of_ble_eq_true rfl) (Nat.le_of_ble_eq_true rfl) rfl (b01 (Or.inr rfl)) dX7_hasField_18
    · replace h := it_F h c5
      refine i_icmp_ge_T hx hb g1 g4 (tgt := 17) dX7_hasField_10 (by decide) c5 ?_
      refine lv_iconst (v := iI 0) hx hb dX7_hasField_17 rfl ?_
      obtain rfl := Option.some.inj h
      exact e_z hx hb hr hlk hP hD hS (fun _ => 0) rfl (Nat.le_of_ble_eq_true rfl) (Nat.le_of_ble_eq_true rfl) rfl (b01 (Or.inl rfl)) dX7_hasField_18
def f_Th_read (n : Nat) (M : cSt) (k0 : Nat) (a1 : Int) : Option (Option Nat) := og (inR a1) (if a1 < 0 then some none else og (gL M k0 < 2147483648) (og (inR (gL M k0 : Int)) (if a1 < (gL M k0 : Int) then og (0 ≤ a1 ∧ a1 < (gL M k0 : Int)) (some (gF M k0 (a1.toNat))) else some none)))
set_option maxHeartbeats 4000000 in
set_option maxRecDepth 100000 in
theorem C_Th_read (l : Launch) (G : Nat → Nat) (D : va_G) (K : Nat → ClassId) (sz : Nat) (ga : Nat → Nat) (n : Nat) (M : cSt) (k0 : Nat) (hk0 : k0 < n) (a1 : Int) {x : Option Nat} (h : f_Th_read n M k0 a1 = some x) : CM l yX7_read cX7_read 2 (some (FieldType.object "Tenuredale$Thing")) ({ frames := 0, cells := 0, slots := 0, locals := 0 } : Room) G D K [.ref (ga (25 + 2 * k0)), .int (iI a1)] (wld ga n (K 0) (K 1) M) sz (CQq (fun _ => x.map (fun k => ga (25 + 2 * k))) D (fun _ => wld ga n (K 0) (K 1) M)) := by
  refine CM_of (lv0 := [(0, .ref (ga (25 + 2 * k0))), (1, .int (iI a1))]) pn_RX7 (Nat.le_of_ble_eq_true rfl) rfl (fun p e s m args below meth c A ls hx hb hr hml hown hts hlk hnm hP hK hD hS hA hm hl => ?_)
  have hown : s.vm.findClass RX7 = some m.cls := hown
  unfold f_Th_read at h
  refine lv_iload_n hx hb dX7_read_0 rfl (lv_at hl 1 rfl) ?_
  obtain ⟨g1, h⟩ := og_some h
  by_cases c2 : a1 < 0
  · replace h := it_T h c2
    refine i_if_lt_T hx hb g1 (tgt := 22) dX7_read_1 (by decide) c2 ?_
    refine lv_null hx hb dX7_read_22 ?_
    obtain rfl := Option.some.inj h
    exact e_q hx hb hr (Or.inl ⟨_, rfl⟩) hlk hP hD hS (fun _ => 0) rfl (Nat.le_of_ble_eq_true rfl) (Nat.le_of_ble_eq_true rfl) (v := .null) (r := fun _ => (none : Option Nat).map (fun k => ga (25 + 2 * k))) rfl dX7_read_23
  · replace h := it_F h c2
    refine i_if_lt_F hx hb g1 (tgt := 22) dX7_read_1 (by decide) c2 ?_
    refine lv_iload_n hx hb dX7_read_4 rfl (lv_at hl 1 rfl) ?_
    refine lv_aload_n hx hb dX7_read_5 rfl (lv_at hl 0 rfl) ?_
    refine r_get hx hb hts ok_RX7 hown hK hP (25 + 2 * k0) (go_th hk0) rfl 1 (by decide) w_677 (fun _ h9 => h9) rfl dX7_read_6 ?_
    obtain ⟨g3, h⟩ := og_some h
    refine i_alen hx hb (26 + 2 * k0) 0 hK hP (go_fl hk0) rfl rfl g3 dX7_read_9 ?_
    obtain ⟨g4, h⟩ := og_some h
    by_cases c5 : a1 < (gL M k0 : Int)
    · replace h := it_T h c5
      refine i_icmp_ge_F hx hb g1 g4 (tgt := 22) dX7_read_10 (by decide) c5 ?_
      refine lv_aload_n hx hb dX7_read_13 rfl (lv_at hl 0 rfl) ?_
      refine r_get hx hb hts ok_RX7 hown hK hP (25 + 2 * k0) (go_th hk0) rfl 1 (by decide) w_677 (fun _ h9 => h9) rfl dX7_read_14 ?_
      refine lv_iload_n hx hb dX7_read_17 rfl (lv_at hl 1 rfl) ?_
      obtain ⟨g6, h⟩ := og_some h
      refine i_aald hx hb (26 + 2 * k0) 0 hK hP (go_fl hk0) rfl g6.1 g6.2 g3 (v := ctv ga (gF M k0 (a1.toNat))) rfl dX7_read_18 ?_
      refine lv_goto (tgt := 23) hx hb dX7_read_19 (by decide) ?_
      obtain rfl := Option.some.inj h
      exact e_q hx hb hr (Or.inl ⟨_, rfl⟩) hlk hP hD hS (fun _ => 0) rfl (Nat.le_of_ble_eq_true rfl) (Nat.le_of_ble_eq_true rfl) (v := ctv ga (gF M k0 (a1.toNat))) (r := fun _ => ((gF M k0 (a1.toNat)) : Option Nat).map (fun k => ga (25 + 2 * k))) rfl dX7_read_23
    · replace h := it_F h c5
      refine i_icmp_ge_T hx hb g1 g4 (tgt := 22) dX7_read_10 (by decide) c5 ?_
      refine lv_null hx hb dX7_read_22 ?_
      obtain rfl := Option.some.inj h
      exact e_q hx hb hr (Or.inl ⟨_, rfl⟩) hlk hP hD hS (fun _ => 0) rfl (Nat.le_of_ble_eq_true rfl) (Nat.le_of_ble_eq_true rfl) (v := .null) (r := fun _ => (none : Option Nat).map (fun k => ga (25 + 2 * k))) rfl dX7_read_23
def f_Th_write (n : Nat) (M : cSt) (k0 : Nat) (a1 : Int) (t2 : Option Nat) : Option (cSt) := og (inR a1) (if a1 < 0 then some M else og (gL M k0 < 2147483648) (og (inR (gL M k0 : Int)) (if a1 < (gL M k0 : Int) then on t2 (og (0 ≤ a1 ∧ a1 < (gL M k0 : Int)) (some (sF M k0 (a1.toNat) none))) (fun q6 => og (q6 < n) (og (0 ≤ a1 ∧ a1 < (gL M k0 : Int)) (some (sF M k0 (a1.toNat) (some q6))))) else some M)))
set_option maxHeartbeats 4000000 in
set_option maxRecDepth 100000 in
theorem C_Th_write (l : Launch) (G : Nat → Nat) (D : va_G) (K : Nat → ClassId) (sz : Nat) (ga : Nat → Nat) (n : Nat) (M : cSt) (k0 : Nat) (hk0 : k0 < n) (a1 : Int) (t2 : Option Nat) {x : cSt} (h : f_Th_write n M k0 a1 t2 = some x) : CM l yX7_write cX7_write 3 (none : Option FieldType) ({ frames := 0, cells := 0, slots := 0, locals := 0 } : Room) G D K [.ref (ga (25 + 2 * k0)), .int (iI a1), ctv ga t2] (wld ga n (K 0) (K 1) M) sz (CQv D (fun _ => wld ga n (K 0) (K 1) x)) := by
  refine CM_of (lv0 := [(0, .ref (ga (25 + 2 * k0))), (1, .int (iI a1)), (2, ctv ga t2)]) pn_RX7 (by cases t2 <;> exact (Nat.le_of_ble_eq_true rfl)) (by cases t2 <;> rfl) (fun p e s m args below meth c A ls hx hb hr hml hown hts hlk hnm hP hK hD hS hA hm hl => ?_)
  have hown : s.vm.findClass RX7 = some m.cls := hown
  unfold f_Th_write at h
  refine lv_iload_n hx hb dX7_write_0 rfl (lv_at hl 1 rfl) ?_
  obtain ⟨g1, h⟩ := og_some h
  by_cases c2 : a1 < 0
  · replace h := it_T h c2
    refine i_if_lt_T hx hb g1 (tgt := 20) dX7_write_1 (by decide) c2 ?_
    obtain rfl := Option.some.inj h
    exact e_v hx hb hr hlk hP hD hS (fun _ => 0) rfl (Nat.le_of_ble_eq_true rfl) (Nat.le_of_ble_eq_true rfl) dX7_write_20
  · replace h := it_F h c2
    refine i_if_lt_F hx hb g1 (tgt := 20) dX7_write_1 (by decide) c2 ?_
    refine lv_iload_n hx hb dX7_write_4 rfl (lv_at hl 1 rfl) ?_
    refine lv_aload_n hx hb dX7_write_5 rfl (lv_at hl 0 rfl) ?_
    refine r_get hx hb hts ok_RX7 hown hK hP (25 + 2 * k0) (go_th hk0) rfl 1 (by decide) w_677 (fun _ h9 => h9) rfl dX7_write_6 ?_
    obtain ⟨g3, h⟩ := og_some h
    refine i_alen hx hb (26 + 2 * k0) 0 hK hP (go_fl hk0) rfl rfl g3 dX7_write_9 ?_
    obtain ⟨g4, h⟩ := og_some h
    by_cases c5 : a1 < (gL M k0 : Int)
    · replace h := it_T h c5
      refine i_icmp_ge_F hx hb g1 g4 (tgt := 20) dX7_write_10 (by decide) c5 ?_
      refine lv_aload_n hx hb dX7_write_13 rfl (lv_at hl 0 rfl) ?_
      refine r_get hx hb hts ok_RX7 hown hK hP (25 + 2 * k0) (go_th hk0) rfl 1 (by decide) w_677 (fun _ h9 => h9) rfl dX7_write_14 ?_
      refine lv_iload_n hx hb dX7_write_17 rfl (lv_at hl 1 rfl) ?_
      refine t_aload_n hx hb dX7_write_18 rfl (lv_at hl 2 rfl) ?_
      rcases on_cases h with ⟨z6, h⟩ | ⟨q6, z6, h⟩
      · rw [ctv_none ga z6]
        obtain ⟨g7, h⟩ := og_some h
        refine i_aastN hx hb (26 + 2 * k0) 0 (ws' := wld ga n (K 0) (K 1) (sF M k0 (a1.toNat) none)) hK hP hD hS (go_fl hk0) rfl g7.1 g7.2 g3 dX7_write_19 (wF (v := none)) (fun H locs hP hD hS => ?_)
        obtain rfl := Option.some.inj h
        exact e_v hx hb hr hlk hP hD hS (fun _ => 0) rfl (Nat.le_of_ble_eq_true rfl) (Nat.le_of_ble_eq_true rfl) dX7_write_20
      · obtain ⟨hq6, h⟩ := og_some h
        rw [ctv_some ga z6]
        obtain ⟨g8, h⟩ := og_some h
        refine i_aast hx hb (26 + 2 * k0) 0 (ws' := wld ga n (K 0) (K 1) (sF M k0 (a1.toNat) (some q6))) hK hP hD hS (go_fl hk0) rfl (any_S hK hP (25 + 2 * q6) (go_th hq6) rfl rfl) g8.1 g8.2 g3 dX7_write_19 (wF (v := (some q6))) (fun H locs hP hD hS => ?_)
        obtain rfl := Option.some.inj h
        exact e_v hx hb hr hlk hP hD hS (fun _ => 0) rfl (Nat.le_of_ble_eq_true rfl) (Nat.le_of_ble_eq_true rfl) dX7_write_20
    · replace h := it_F h c5
      refine i_icmp_ge_T hx hb g1 g4 (tgt := 20) dX7_write_10 (by decide) c5 ?_
      obtain rfl := Option.some.inj h
      exact e_v hx hb hr hlk hP hD hS (fun _ => 0) rfl (Nat.le_of_ble_eq_true rfl) (Nat.le_of_ble_eq_true rfl) dX7_write_20
def s_Th_hasYoungField_2 (rec : Int → Option ((Unit) ⊕ (Int))) (n : Nat) (M : cSt) (k0 : Nat) (v1 : Int) : Option ((Unit) ⊕ (Int)) := og (gL M k0 < 2147483648) (og (inR v1) (og (inR (gL M k0 : Int)) (if v1 < (gL M k0 : Int) then og (0 ≤ v1 ∧ v1 < (gL M k0 : Int)) (on (gF M k0 (v1.toNat)) (rec (v1 + 1)) (fun q6 => og (q6 < n) (og (inR (gT M q6 3)) (if gT M q6 3 = 1 then some (.inr 1) else rec (v1 + 1))))) else some (.inl ()))))
def g_Th_hasYoungField_2 (n : Nat) (M : cSt) (k0 : Nat) : Nat → Int → Option ((Unit) ⊕ (Int))
  | 0 => fun _ => none
  | q + 1 => s_Th_hasYoungField_2 (g_Th_hasYoungField_2 n M k0 q) n M k0
set_option maxHeartbeats 4000000 in
set_option maxRecDepth 100000 in
theorem L_Th_hasYoungField_2 {p : Program} {l : Launch} {G : Nat → Nat} {D : va_G} {K : Nat → ClassId} {e : Env} {s : State} {m : MethodId} {args : Array Value} {below : List Frame} {meth : Method} {c : Code} {A : Nat → Prop} (hx : p.tables.exec = Jvm.exec) (hb : c.code = cX7_hasYoungField) (hr : meth.sig.returnType = (some FieldType.boolean)) (hml : c.maxLocals = 3) (hown : s.vm.findClass RX7 = some m.cls) (hts : ∀ w ∈ lw_gw, w.before args s = true) (hlk : meth.locks = false) (hK : va_K D cl (tys K) s) (hA : ∀ q : Nat, s.heap.size ≤ q → A q) (hm : Amb G A s s.heap) {x : Int} (ga : Nat → Nat) (n : Nat) (M : cSt) (k0 : Nat) (hk0 : k0 < n) : ∀ (q : Nat) (v1 : Int) (out : (Unit) ⊕ (Int)), g_Th_hasYoungField_2 n M k0 q v1 = some out → ∀ (ls : Array Slot) (H : Heap) (locs : List Loc), va_P D cl (wld ga n (K 0) (K 1) M) H → va_D A (wld ga n (K 0) (K 1) M) → va_S A s.heap H locs → lv_has ls 3 [(0, .ref (ga (25 + 2 * k0))), (1, .int (iI v1))] → (∀ (y : (Unit)), out = .inl y → ∀ (ls : Array Slot) (H : Heap) (locs : List Loc), va_P D cl (wld ga n (K 0) (K 1) M) H → va_D A (wld ga n (K 0) (K 1) M) → va_S A s.heap H locs → lv_has ls 3 [] → W p l e ({ frames := 0, cells := 0, slots := 0, locals := 0 } : Room) s m args below meth c H locs 0 0 (MQ below ((CQi (iI x) D (fun _ => wld ga n (K 0) (K 1) M)) A) args s 0 0 A) (F0 m 38 ls [])) → (∀ y : Int, out = .inr y → y = x) → W p l e ({ frames := 0, cells := 0, slots := 0, locals := 0 } : Room) s m args below meth c H locs 0 0 (MQ below ((CQi (iI x) D (fun _ => wld ga n (K 0) (K 1) M)) A) args s 0 0 A) (F0 m 2 ls []) := by
  intro q
  induction q with
  | zero =>
    intro v1 out h
    cases (show none = some out from h)
  | succ q ih =>
    intro v1 out h ls H locs hP hD hS hl kk hrt
    replace h : s_Th_hasYoungField_2 (g_Th_hasYoungField_2 n M k0 q) n M k0 v1 = some out := h
    unfold s_Th_hasYoungField_2 at h
    refine lv_iload_n hx hb dX7_hasYoungField_2 rfl (lv_at hl 1 rfl) ?_
    refine lv_aload_n hx hb dX7_hasYoungField_3 rfl (lv_at hl 0 rfl) ?_
    refine r_get hx hb hts ok_RX7 hown hK hP (25 + 2 * k0) (go_th hk0) rfl 1 (by decide) w_677 (fun _ h9 => h9) rfl dX7_hasYoungField_4 ?_
    obtain ⟨g1, h⟩ := og_some h
    refine i_alen hx hb (26 + 2 * k0) 0 hK hP (go_fl hk0) rfl rfl g1 dX7_hasYoungField_7 ?_
    obtain ⟨g2, h⟩ := og_some h
    obtain ⟨g3, h⟩ := og_some h
    by_cases c4 : v1 < (gL M k0 : Int)
    · replace h := it_T h c4
      refine i_icmp_ge_F hx hb g2 g3 (tgt := 38) dX7_hasYoungField_8 (by decide) c4 ?_
      refine lv_aload_n hx hb dX7_hasYoungField_11 rfl (lv_at hl 0 rfl) ?_
      refine r_get hx hb hts ok_RX7 hown hK hP (25 + 2 * k0) (go_th hk0) rfl 1 (by decide) w_677 (fun _ h9 => h9) rfl dX7_hasYoungField_12 ?_
      refine lv_iload_n hx hb dX7_hasYoungField_15 rfl (lv_at hl 1 rfl) ?_
      obtain ⟨g5, h⟩ := og_some h
      refine i_aald hx hb (26 + 2 * k0) 0 hK hP (go_fl hk0) rfl g5.1 g5.2 g1 (v := ctv ga (gF M k0 (v1.toNat))) rfl dX7_hasYoungField_16 ?_
      refine t_astore_n hx hb dX7_hasYoungField_17 rfl hl (by decide) [0, 1] (lv' := [(0, .ref (ga (25 + 2 * k0))), (1, .int (iI v1))]) rfl (⟨⟨Nat.ne_of_beq_eq_false rfl, Or.inl (Nat.ne_of_beq_eq_false rfl)⟩, ⟨⟨Nat.ne_of_beq_eq_false rfl, Or.inr rfl⟩, trivial⟩⟩) (fun ls hl => ?_)
      refine t_aload_n hx hb dX7_hasYoungField_18 rfl (lv_at hl 0 rfl) ?_
      rcases on_cases h with ⟨z6, h⟩ | ⟨q6, z6, h⟩
      · rw [ctv_none ga z6]
        refine lv_ifnullN (tgt := 32) hx hb dX7_hasYoungField_19 (by decide) ?_
        refine x_iinc (v := iI (v1 + 1)) hx hb dX7_hasYoungField_32 hl (k := 2) rfl (iI_add v1 1) (by decide) [0, 1] (lv' := [(2, ctv ga (gF M k0 (v1.toNat))), (0, .ref (ga (25 + 2 * k0)))]) rfl (⟨⟨Nat.ne_of_beq_eq_false rfl, Or.inl (Nat.ne_of_beq_eq_false rfl)⟩, ⟨⟨Nat.ne_of_beq_eq_false rfl, Or.inr rfl⟩, trivial⟩⟩) (fun ls hl => ?_)
        refine lv_goto (tgt := 2) hx hb dX7_hasYoungField_35 (by decide) ?_
        exact ih (v1 + 1) _ h _ _ _ hP hD hS (lv_pk hl [2, 0] rfl) kk hrt
      · obtain ⟨hq6, h⟩ := og_some h
        rw [ctv_some ga z6]
        refine lv_ifnull hx hb dX7_hasYoungField_19 ?_
        refine t_aload_n hx hb dX7_hasYoungField_22 rfl (lv_at hl 0 rfl) ?_
        rw [ctv_some ga z6]
        refine r_get hx hb hts ok_RX7 hown hK hP (25 + 2 * q6) (go_th hq6) rfl 3 (by decide) w_689 (fun _ h9 => h9) rfl dX7_hasYoungField_23 ?_
        refine lv_iconst (v := iI 1) hx hb dX7_hasYoungField_26 rfl ?_
        obtain ⟨g7, h⟩ := og_some h
        by_cases c8 : gT M q6 3 = 1
        · replace h := it_T h c8
          refine i_icmp_ne_F hx hb g7 ⟨by decide, by decide⟩ (tgt := 32) dX7_hasYoungField_27 (by decide) c8 ?_
          refine lv_iconst (v := iI 1) hx hb dX7_hasYoungField_30 rfl ?_
          obtain rfl := Option.some.inj h
          obtain rfl := hrt _ rfl
          exact e_z hx hb hr hlk hP hD hS (fun _ => 0) rfl (Nat.le_of_ble_eq_true rfl) (Nat.le_of_ble_eq_true rfl) rfl (b01 (Or.inr rfl)) dX7_hasYoungField_31
        · replace h := it_F h c8
          refine i_icmp_ne_T hx hb g7 ⟨by decide, by decide⟩ (tgt := 32) dX7_hasYoungField_27 (by decide) c8 ?_
          refine x_iinc (v := iI (v1 + 1)) hx hb dX7_hasYoungField_32 hl (k := 2) rfl (iI_add v1 1) (by decide) [0, 1] (lv' := [(2, ctv ga (gF M k0 (v1.toNat))), (0, .ref (ga (25 + 2 * k0)))]) rfl (⟨⟨Nat.ne_of_beq_eq_false rfl, Or.inl (Nat.ne_of_beq_eq_false rfl)⟩, ⟨⟨Nat.ne_of_beq_eq_false rfl, Or.inr rfl⟩, trivial⟩⟩) (fun ls hl => ?_)
          refine lv_goto (tgt := 2) hx hb dX7_hasYoungField_35 (by decide) ?_
          exact ih (v1 + 1) _ h _ _ _ hP hD hS (lv_pk hl [2, 0] rfl) kk hrt
    · replace h := it_F h c4
      refine i_icmp_ge_T hx hb g2 g3 (tgt := 38) dX7_hasYoungField_8 (by decide) c4 ?_
      obtain rfl := Option.some.inj h
      exact kk _ rfl _ _ _ hP hD hS (lv_pk hl [] rfl)
def f_Th_hasYoungField (n : Nat) (M : cSt) (k0 : Nat) : Option (Int) := ob (g_Th_hasYoungField_2 n M k0 fu 0) (fun x9 => os x9 (fun y9 => some 0))
set_option maxHeartbeats 4000000 in
set_option maxRecDepth 100000 in
theorem C_Th_hasYoungField (l : Launch) (G : Nat → Nat) (D : va_G) (K : Nat → ClassId) (sz : Nat) (ga : Nat → Nat) (n : Nat) (M : cSt) (k0 : Nat) (hk0 : k0 < n) {x : Int} (h : f_Th_hasYoungField n M k0 = some x) : CM l yX7_hasYoungField cX7_hasYoungField 3 (some FieldType.boolean) ({ frames := 0, cells := 0, slots := 0, locals := 0 } : Room) G D K [.ref (ga (25 + 2 * k0))] (wld ga n (K 0) (K 1) M) sz (CQi (iI x) D (fun _ => wld ga n (K 0) (K 1) M)) := by
  refine CM_of (lv0 := [(0, .ref (ga (25 + 2 * k0)))]) pn_RX7 (Nat.le_of_ble_eq_true rfl) rfl (fun p e s m args below meth c A ls hx hb hr hml hown hts hlk hnm hP hK hD hS hA hm hl => ?_)
  have hown : s.vm.findClass RX7 = some m.cls := hown
  unfold f_Th_hasYoungField at h
  refine lv_iconst (v := iI 0) hx hb dX7_hasYoungField_0 rfl ?_
  refine x_istore_n hx hb dX7_hasYoungField_1 rfl hl (by decide) [0] (lv' := [(0, .ref (ga (25 + 2 * k0)))]) rfl (⟨⟨Nat.ne_of_beq_eq_false rfl, Or.inr rfl⟩, trivial⟩) (fun ls hl => ?_)
  obtain ⟨x9, ex9, h⟩ := ob_some h
  refine L_Th_hasYoungField_2 hx hb hr hml hown hts hlk hK hA hm ga n M k0 hk0  fu 0 _ ex9 _ _ _ hP hD hS (lv_pk hl [1, 0] rfl) (fun y9 ty9 ls H locs (hP : va_P D cl (wld ga n (K 0) (K 1) M) H) (hD : va_D A (wld ga n (K 0) (K 1) M)) hS (hl : lv_has ls 3 []) => ?_) (fun y9 ty9 => os_r h ty9)
  replace h := os_l h ty9
  refine lv_iconst (v := iI 0) hx hb dX7_hasYoungField_38 rfl ?_
  obtain rfl := Option.some.inj h
  exact e_z hx hb hr hlk hP hD hS (fun _ => 0) rfl (Nat.le_of_ble_eq_true rfl) (Nat.le_of_ble_eq_true rfl) rfl (b01 (Or.inl rfl)) dX7_hasYoungField_39
def f_Th_end (n : Nat) (M : cSt) (k0 : Nat) : Option (Int) := some (gT M k0 4 + gT M k0 5)
set_option maxHeartbeats 4000000 in
set_option maxRecDepth 100000 in
theorem C_Th_end (l : Launch) (G : Nat → Nat) (D : va_G) (K : Nat → ClassId) (sz : Nat) (ga : Nat → Nat) (n : Nat) (M : cSt) (k0 : Nat) (hk0 : k0 < n) {x : Int} (h : f_Th_end n M k0 = some x) : CM l yX7_end cX7_end 1 (some FieldType.int) ({ frames := 0, cells := 0, slots := 0, locals := 0 } : Room) G D K [.ref (ga (25 + 2 * k0))] (wld ga n (K 0) (K 1) M) sz (CQi (iI x) D (fun _ => wld ga n (K 0) (K 1) M)) := by
  refine CM_of (lv0 := [(0, .ref (ga (25 + 2 * k0)))]) pn_RX7 (Nat.le_of_ble_eq_true rfl) rfl (fun p e s m args below meth c A ls hx hb hr hml hown hts hlk hnm hP hK hD hS hA hm hl => ?_)
  have hown : s.vm.findClass RX7 = some m.cls := hown
  unfold f_Th_end at h
  refine lv_aload_n hx hb dX7_end_0 rfl (lv_at hl 0 rfl) ?_
  refine r_get hx hb hts ok_RX7 hown hK hP (25 + 2 * k0) (go_th hk0) rfl 4 (by decide) w_696 (fun _ h9 => h9) rfl dX7_end_1 ?_
  refine lv_aload_n hx hb dX7_end_4 rfl (lv_at hl 0 rfl) ?_
  refine r_get hx hb hts ok_RX7 hown hK hP (25 + 2 * k0) (go_th hk0) rfl 5 (by decide) w_698 (fun _ h9 => h9) rfl dX7_end_5 ?_
  refine lv_iadd hx hb dX7_end_8 ?_
  refine w_toeq (iI_add (gT M k0 4) (gT M k0 5)) ?_
  obtain rfl := Option.some.inj h
  exact e_i hx hb hr hlk hP hD hS (fun _ => 0) rfl (Nat.le_of_ble_eq_true rfl) (Nat.le_of_ble_eq_true rfl) rfl dX7_end_9
def f_Th_card (n : Nat) (M : cSt) (k0 : Nat) : Option (Int) := og (inR (gT M k0 4 - 100)) (some (Int.tdiv (gT M k0 4 - 100) 16))
set_option maxHeartbeats 4000000 in
set_option maxRecDepth 100000 in
theorem C_Th_card (l : Launch) (G : Nat → Nat) (D : va_G) (K : Nat → ClassId) (sz : Nat) (ga : Nat → Nat) (n : Nat) (M : cSt) (k0 : Nat) (hk0 : k0 < n) {x : Int} (h : f_Th_card n M k0 = some x) : CM l yX7_card cX7_card 1 (some FieldType.int) ({ frames := 0, cells := 0, slots := 0, locals := 0 } : Room) G D K [.ref (ga (25 + 2 * k0))] (wld ga n (K 0) (K 1) M) sz (CQi (iI x) D (fun _ => wld ga n (K 0) (K 1) M)) := by
  refine CM_of (lv0 := [(0, .ref (ga (25 + 2 * k0)))]) pn_RX7 (Nat.le_of_ble_eq_true rfl) rfl (fun p e s m args below meth c A ls hx hb hr hml hown hts hlk hnm hP hK hD hS hA hm hl => ?_)
  have hown : s.vm.findClass RX7 = some m.cls := hown
  unfold f_Th_card at h
  refine lv_aload_n hx hb dX7_card_0 rfl (lv_at hl 0 rfl) ?_
  refine r_get hx hb hts ok_RX7 hown hK hP (25 + 2 * k0) (go_th hk0) rfl 4 (by decide) w_696 (fun _ h9 => h9) rfl dX7_card_1 ?_
  refine lv_bipush (v := iI 100) hx hb dX7_card_4 rfl ?_
  refine lv_isub hx hb dX7_card_6 ?_
  refine w_toeq (iI_sub (gT M k0 4) 100) ?_
  refine lv_bipush (v := iI 16) hx hb dX7_card_7 rfl ?_
  obtain ⟨g1, h⟩ := og_some h
  refine lv_idiv hx hb dX7_card_9 (iI_ne0 ⟨by decide, by decide⟩ (by decide)) ?_
  refine w_toeq (iI_div g1 ⟨by decide, by decide⟩ (by decide)) ?_
  obtain rfl := Option.some.inj h
  exact e_i hx hb hr hlk hP hD hS (fun _ => 0) rfl (Nat.le_of_ble_eq_true rfl) (Nat.le_of_ble_eq_true rfl) rfl dX7_card_10
def f_Th_giveHash (n : Nat) (M : cSt) (k0 : Nat) (a1 : Int) : Option (cSt) := some (sT (sT M k0 8 a1) k0 6 (gT (sT M k0 8 a1) k0 5 + 1))
set_option maxHeartbeats 4000000 in
set_option maxRecDepth 100000 in
theorem C_Th_giveHash (l : Launch) (G : Nat → Nat) (D : va_G) (K : Nat → ClassId) (sz : Nat) (ga : Nat → Nat) (n : Nat) (M : cSt) (k0 : Nat) (hk0 : k0 < n) (a1 : Int) {x : cSt} (h : f_Th_giveHash n M k0 a1 = some x) : CM l yX7_giveHash cX7_giveHash 2 (none : Option FieldType) ({ frames := 0, cells := 0, slots := 0, locals := 0 } : Room) G D K [.ref (ga (25 + 2 * k0)), .int (iI a1)] (wld ga n (K 0) (K 1) M) sz (CQv D (fun _ => wld ga n (K 0) (K 1) x)) := by
  refine CM_of (lv0 := [(0, .ref (ga (25 + 2 * k0))), (1, .int (iI a1))]) pn_RX7 (Nat.le_of_ble_eq_true rfl) rfl (fun p e s m args below meth c A ls hx hb hr hml hown hts hlk hnm hP hK hD hS hA hm hl => ?_)
  have hown : s.vm.findClass RX7 = some m.cls := hown
  unfold f_Th_giveHash at h
  refine lv_aload_n hx hb dX7_giveHash_0 rfl (lv_at hl 0 rfl) ?_
  refine lv_iload_n hx hb dX7_giveHash_1 rfl (lv_at hl 1 rfl) ?_
  refine r_put hx hb hts ok_RX7 hown hK hP hD hS (25 + 2 * k0) (go_th hk0) rfl 8 (by decide) w_709 (fun _ h9 => h9) rfl (v := .int (iI a1)) rfl rfl (Nat.le_of_ble_eq_true rfl) dX7_giveHash_2 (ws' := wld ga n (K 0) (K 1) (sT M k0 8 a1)) wT_8 (fun H locs hP hD hS => ?_)
  refine lv_aload_n hx hb dX7_giveHash_5 rfl (lv_at hl 0 rfl) ?_
  refine lv_aload_n hx hb dX7_giveHash_6 rfl (lv_at hl 0 rfl) ?_
  refine r_get hx hb hts ok_RX7 hown hK hP (25 + 2 * k0) (go_th hk0) rfl 5 (by decide) w_698 (fun _ h9 => h9) rfl dX7_giveHash_7 ?_
  refine lv_iconst (v := iI 1) hx hb dX7_giveHash_10 rfl ?_
  refine lv_iadd hx hb dX7_giveHash_11 ?_
  refine w_toeq (iI_add (gT (sT M k0 8 a1) k0 5) 1) ?_
  refine r_put hx hb hts ok_RX7 hown hK hP hD hS (25 + 2 * k0) (go_th hk0) rfl 6 (by decide) w_703 (fun _ h9 => h9) rfl (v := .int (iI (gT (sT M k0 8 a1) k0 5 + 1))) rfl rfl (Nat.le_of_ble_eq_true rfl) dX7_giveHash_12 (ws' := wld ga n (K 0) (K 1) (sT (sT M k0 8 a1) k0 6 (gT (sT M k0 8 a1) k0 5 + 1))) wT_6 (fun H locs hP hD hS => ?_)
  obtain rfl := Option.some.inj h
  exact e_v hx hb hr hlk hP hD hS (fun _ => 0) rfl (Nat.le_of_ble_eq_true rfl) (Nat.le_of_ble_eq_true rfl) dX7_giveHash_15
def f_Th_moveTo (n : Nat) (M : cSt) (k0 : Nat) (a1 : Int) (a2 : Int) : Option (cSt) := some (sT (sT (sT M k0 5 (gT M k0 6)) k0 3 a1) k0 4 a2)
set_option maxHeartbeats 4000000 in
set_option maxRecDepth 100000 in
theorem C_Th_moveTo (l : Launch) (G : Nat → Nat) (D : va_G) (K : Nat → ClassId) (sz : Nat) (ga : Nat → Nat) (n : Nat) (M : cSt) (k0 : Nat) (hk0 : k0 < n) (a1 : Int) (a2 : Int) {x : cSt} (h : f_Th_moveTo n M k0 a1 a2 = some x) : CM l yX7_moveTo cX7_moveTo 3 (none : Option FieldType) ({ frames := 0, cells := 0, slots := 0, locals := 0 } : Room) G D K [.ref (ga (25 + 2 * k0)), .int (iI a1), .int (iI a2)] (wld ga n (K 0) (K 1) M) sz (CQv D (fun _ => wld ga n (K 0) (K 1) x)) := by
  refine CM_of (lv0 := [(0, .ref (ga (25 + 2 * k0))), (1, .int (iI a1)), (2, .int (iI a2))]) pn_RX7 (Nat.le_of_ble_eq_true rfl) rfl (fun p e s m args below meth c A ls hx hb hr hml hown hts hlk hnm hP hK hD hS hA hm hl => ?_)
  have hown : s.vm.findClass RX7 = some m.cls := hown
  unfold f_Th_moveTo at h
  refine lv_aload_n hx hb dX7_moveTo_0 rfl (lv_at hl 0 rfl) ?_
  refine lv_aload_n hx hb dX7_moveTo_1 rfl (lv_at hl 0 rfl) ?_
  refine r_get hx hb hts ok_RX7 hown hK hP (25 + 2 * k0) (go_th hk0) rfl 6 (by decide) w_703 (fun _ h9 => h9) rfl dX7_moveTo_2 ?_
  refine r_put hx hb hts ok_RX7 hown hK hP hD hS (25 + 2 * k0) (go_th hk0) rfl 5 (by decide) w_698 (fun _ h9 => h9) rfl (v := .int (iI (gT M k0 6))) rfl rfl (Nat.le_of_ble_eq_true rfl) dX7_moveTo_5 (ws' := wld ga n (K 0) (K 1) (sT M k0 5 (gT M k0 6))) wT_5 (fun H locs hP hD hS => ?_)
  refine lv_aload_n hx hb dX7_moveTo_8 rfl (lv_at hl 0 rfl) ?_
  refine lv_iload_n hx hb dX7_moveTo_9 rfl (lv_at hl 1 rfl) ?_
  refine r_put hx hb hts ok_RX7 hown hK hP hD hS (25 + 2 * k0) (go_th hk0) rfl 3 (by decide) w_689 (fun _ h9 => h9) rfl (v := .int (iI a1)) rfl rfl (Nat.le_of_ble_eq_true rfl) dX7_moveTo_10 (ws' := wld ga n (K 0) (K 1) (sT (sT M k0 5 (gT M k0 6)) k0 3 a1)) wT_3 (fun H locs hP hD hS => ?_)
  refine lv_aload_n hx hb dX7_moveTo_13 rfl (lv_at hl 0 rfl) ?_
  refine lv_iload_n hx hb dX7_moveTo_14 rfl (lv_at hl 2 rfl) ?_
  refine r_put hx hb hts ok_RX7 hown hK hP hD hS (25 + 2 * k0) (go_th hk0) rfl 4 (by decide) w_696 (fun _ h9 => h9) rfl (v := .int (iI a2)) rfl rfl (Nat.le_of_ble_eq_true rfl) dX7_moveTo_15 (ws' := wld ga n (K 0) (K 1) (sT (sT (sT M k0 5 (gT M k0 6)) k0 3 a1) k0 4 a2)) wT_4 (fun H locs hP hD hS => ?_)
  obtain rfl := Option.some.inj h
  exact e_v hx hb hr hlk hP hD hS (fun _ => 0) rfl (Nat.le_of_ble_eq_true rfl) (Nat.le_of_ble_eq_true rfl) dX7_moveTo_18
def s_Th_vanish_12 (rec : cSt → Int → Option (cSt)) (n : Nat) (k0 : Nat) (M : cSt) (v1 : Int) : Option (cSt) := og (gL M k0 < 2147483648) (og (inR v1) (og (inR (gL M k0 : Int)) (if v1 < (gL M k0 : Int) then og (0 ≤ v1 ∧ v1 < (gL M k0 : Int)) (rec (sF M k0 (v1.toNat) none) (v1 + 1)) else some M)))
def g_Th_vanish_12 (n : Nat) (k0 : Nat) : Nat → cSt → Int → Option (cSt)
  | 0 => fun _ _ => none
  | q + 1 => s_Th_vanish_12 (g_Th_vanish_12 n k0 q) n k0
set_option maxHeartbeats 4000000 in
set_option maxRecDepth 100000 in
theorem L_Th_vanish_12 {p : Program} {l : Launch} {G : Nat → Nat} {D : va_G} {K : Nat → ClassId} {e : Env} {s : State} {m : MethodId} {args : Array Value} {below : List Frame} {meth : Method} {c : Code} {A : Nat → Prop} (hx : p.tables.exec = Jvm.exec) (hb : c.code = cX7_vanish) (hr : meth.sig.returnType = (none : Option FieldType)) (hml : c.maxLocals = 2) (hown : s.vm.findClass RX7 = some m.cls) (hts : ∀ w ∈ lw_gw, w.before args s = true) (hlk : meth.locks = false) (hK : va_K D cl (tys K) s) (hA : ∀ q : Nat, s.heap.size ≤ q → A q) (hm : Amb G A s s.heap) {Q : State → Prop} (ga : Nat → Nat) (n : Nat) (k0 : Nat) (hk0 : k0 < n) : ∀ (q : Nat) (M : cSt) (v1 : Int) (out : cSt), g_Th_vanish_12 n k0 q M v1 = some out → ∀ (ls : Array Slot) (H : Heap) (locs : List Loc), va_P D cl (wld ga n (K 0) (K 1) M) H → va_D A (wld ga n (K 0) (K 1) M) → va_S A s.heap H locs → lv_has ls 2 [(0, .ref (ga (25 + 2 * k0))), (1, .int (iI v1))] → (∀ (ls : Array Slot) (H : Heap) (locs : List Loc), va_P D cl (wld ga n (K 0) (K 1) out) H → va_D A (wld ga n (K 0) (K 1) out) → va_S A s.heap H locs → lv_has ls 2 [] → W p l e ({ frames := 0, cells := 0, slots := 0, locals := 0 } : Room) s m args below meth c H locs 0 0 Q (F0 m 34 ls [])) → W p l e ({ frames := 0, cells := 0, slots := 0, locals := 0 } : Room) s m args below meth c H locs 0 0 Q (F0 m 12 ls []) := by
  intro q
  induction q with
  | zero =>
    intro M v1 out h
    cases (show none = some out from h)
  | succ q ih =>
    intro M v1 out h ls H locs hP hD hS hl kk
    replace h : s_Th_vanish_12 (g_Th_vanish_12 n k0 q) n k0 M v1 = some out := h
    unfold s_Th_vanish_12 at h
    refine lv_iload_n hx hb dX7_vanish_12 rfl (lv_at hl 1 rfl) ?_
    refine lv_aload_n hx hb dX7_vanish_13 rfl (lv_at hl 0 rfl) ?_
    refine r_get hx hb hts ok_RX7 hown hK hP (25 + 2 * k0) (go_th hk0) rfl 1 (by decide) w_677 (fun _ h9 => h9) rfl dX7_vanish_14 ?_
    obtain ⟨g1, h⟩ := og_some h
    refine i_alen hx hb (26 + 2 * k0) 0 hK hP (go_fl hk0) rfl rfl g1 dX7_vanish_17 ?_
    obtain ⟨g2, h⟩ := og_some h
    obtain ⟨g3, h⟩ := og_some h
    by_cases c4 : v1 < (gL M k0 : Int)
    · replace h := it_T h c4
      refine i_icmp_ge_F hx hb g2 g3 (tgt := 34) dX7_vanish_18 (by decide) c4 ?_
      refine lv_aload_n hx hb dX7_vanish_21 rfl (lv_at hl 0 rfl) ?_
      refine r_get hx hb hts ok_RX7 hown hK hP (25 + 2 * k0) (go_th hk0) rfl 1 (by decide) w_677 (fun _ h9 => h9) rfl dX7_vanish_22 ?_
      refine lv_iload_n hx hb dX7_vanish_25 rfl (lv_at hl 1 rfl) ?_
      refine lv_null hx hb dX7_vanish_26 ?_
      obtain ⟨g5, h⟩ := og_some h
      refine i_aastN hx hb (26 + 2 * k0) 0 (ws' := wld ga n (K 0) (K 1) (sF M k0 (v1.toNat) none)) hK hP hD hS (go_fl hk0) rfl g5.1 g5.2 g1 dX7_vanish_27 (wF (v := none)) (fun H locs hP hD hS => ?_)
      refine x_iinc (v := iI (v1 + 1)) hx hb dX7_vanish_28 hl (k := 1) rfl (iI_add v1 1) (by decide) [0] (lv' := [(0, .ref (ga (25 + 2 * k0)))]) rfl (⟨⟨Nat.ne_of_beq_eq_false rfl, Or.inr rfl⟩, trivial⟩) (fun ls hl => ?_)
      refine lv_goto (tgt := 12) hx hb dX7_vanish_31 (by decide) ?_
      exact ih (sF M k0 (v1.toNat) none) (v1 + 1) _ h _ _ _ hP hD hS (lv_pk hl [1, 0] rfl) kk
    · replace h := it_F h c4
      refine i_icmp_ge_T hx hb g2 g3 (tgt := 34) dX7_vanish_18 (by decide) c4 ?_
      obtain rfl := Option.some.inj h
      exact kk _ _ _ hP hD hS (lv_pk hl [] rfl)
def f_Th_vanish (n : Nat) (M : cSt) (k0 : Nat) : Option (cSt) := ob (g_Th_vanish_12 n k0 fu (sT (sT M k0 3 0) k0 10 0) 0) (fun x6 => some x6)
set_option maxHeartbeats 4000000 in
set_option maxRecDepth 100000 in
theorem C_Th_vanish (l : Launch) (G : Nat → Nat) (D : va_G) (K : Nat → ClassId) (sz : Nat) (ga : Nat → Nat) (n : Nat) (M : cSt) (k0 : Nat) (hk0 : k0 < n) {x : cSt} (h : f_Th_vanish n M k0 = some x) : CM l yX7_vanish cX7_vanish 2 (none : Option FieldType) ({ frames := 0, cells := 0, slots := 0, locals := 0 } : Room) G D K [.ref (ga (25 + 2 * k0))] (wld ga n (K 0) (K 1) M) sz (CQv D (fun _ => wld ga n (K 0) (K 1) x)) := by
  refine CM_of (lv0 := [(0, .ref (ga (25 + 2 * k0)))]) pn_RX7 (Nat.le_of_ble_eq_true rfl) rfl (fun p e s m args below meth c A ls hx hb hr hml hown hts hlk hnm hP hK hD hS hA hm hl => ?_)
  have hown : s.vm.findClass RX7 = some m.cls := hown
  unfold f_Th_vanish at h
  refine lv_aload_n hx hb dX7_vanish_0 rfl (lv_at hl 0 rfl) ?_
  refine lv_iconst (v := iI 0) hx hb dX7_vanish_1 rfl ?_
  refine r_put hx hb hts ok_RX7 hown hK hP hD hS (25 + 2 * k0) (go_th hk0) rfl 3 (by decide) w_689 (fun _ h9 => h9) rfl (v := .int (iI 0)) rfl rfl (Nat.le_of_ble_eq_true rfl) dX7_vanish_2 (ws' := wld ga n (K 0) (K 1) (sT M k0 3 0)) wT_3 (fun H locs hP hD hS => ?_)
  refine lv_aload_n hx hb dX7_vanish_5 rfl (lv_at hl 0 rfl) ?_
  refine lv_iconst (v := iI 0) hx hb dX7_vanish_6 rfl ?_
  refine r_put hx hb hts ok_RX7 hown hK hP hD hS (25 + 2 * k0) (go_th hk0) rfl 10 (by decide) w_717 (fun _ h9 => h9) rfl (v := .int (iI 0)) rfl rfl (Nat.le_of_ble_eq_true rfl) dX7_vanish_7 (ws' := wld ga n (K 0) (K 1) (sT (sT M k0 3 0) k0 10 0)) wT_10 (fun H locs hP hD hS => ?_)
  refine lv_iconst (v := iI 0) hx hb dX7_vanish_10 rfl ?_
  refine x_istore_n hx hb dX7_vanish_11 rfl hl (by decide) [0] (lv' := [(0, .ref (ga (25 + 2 * k0)))]) rfl (⟨⟨Nat.ne_of_beq_eq_false rfl, Or.inr rfl⟩, trivial⟩) (fun ls hl => ?_)
  obtain ⟨x6, ex6, h⟩ := ob_some h
  refine L_Th_vanish_12 hx hb hr hml hown hts hlk hK hA hm ga n k0 hk0  fu (sT (sT M k0 3 0) k0 10 0) 0 _ ex6 _ _ _ hP hD hS (lv_pk hl [1, 0] rfl) (fun ls H locs (hP : va_P D cl (wld ga n (K 0) (K 1) x6) H) (hD : va_D A (wld ga n (K 0) (K 1) x6)) hS (hl : lv_has ls 2 []) => ?_)
  obtain rfl := Option.some.inj h
  exact e_v hx hb hr hlk hP hD hS (fun _ => 0) rfl (Nat.le_of_ble_eq_true rfl) (Nat.le_of_ble_eq_true rfl) dX7_vanish_34
def f_Ta_noteTouched (n : Nat) (M : cSt) (a1 : Int) : Option (cSt) := og (inR (gI (sI M 8 a1) 9)) (og (inR a1) (some (sI (sI M 8 a1) 9 (max (gI (sI M 8 a1) 9) a1))))
set_option maxHeartbeats 4000000 in
set_option maxRecDepth 100000 in
theorem C_Ta_noteTouched (l : Launch) (G : Nat → Nat) (D : va_G) (K : Nat → ClassId) (sz : Nat) (ga : Nat → Nat) (n : Nat) (M : cSt) (a1 : Int) {x : cSt} (h : f_Ta_noteTouched n M a1 = some x) : CM l yX6_noteTouched cX6_noteTouched 2 (none : Option FieldType) ({ frames := 1, cells := 0, slots := 0, locals := 21 } : Room) G D K [.ref (ga 3), .int (iI a1)] (wld ga n (K 0) (K 1) M) sz (CQv D (fun _ => wld ga n (K 0) (K 1) x)) := by
  refine CM_of (lv0 := [(0, .ref (ga 3)), (1, .int (iI a1))]) pn_RX6 (Nat.le_of_ble_eq_true rfl) rfl (fun p e s m args below meth c A ls hx hb hr hml hown hts hlk hnm hP hK hD hS hA hm hl => ?_)
  have hown : s.vm.findClass RX6 = some m.cls := hown
  unfold f_Ta_noteTouched at h
  refine lv_aload_n hx hb dX6_noteTouched_0 rfl (lv_at hl 0 rfl) ?_
  refine lv_iload_n hx hb dX6_noteTouched_1 rfl (lv_at hl 1 rfl) ?_
  refine r_put hx hb hts ok_RX6 hown hK hP hD hS 3 go_3 rfl 2 (by decide) w_120 (fun _ h9 => h9) rfl (v := .int (iI a1)) rfl rfl (Nat.le_of_ble_eq_true rfl) dX6_noteTouched_2 (ws' := wld ga n (K 0) (K 1) (sI M 8 a1)) wI_8 (fun H locs hP hD hS => ?_)
  refine lv_aload_n hx hb dX6_noteTouched_5 rfl (lv_at hl 0 rfl) ?_
  refine lv_aload_n hx hb dX6_noteTouched_6 rfl (lv_at hl 0 rfl) ?_
  refine r_get hx hb hts ok_RX6 hown hK hP 3 go_3 rfl 3 (by decide) w_122 (fun _ h9 => h9) rfl dX6_noteTouched_7 ?_
  refine lv_iload_n hx hb dX6_noteTouched_10 rfl (lv_at hl 1 rfl) ?_
  obtain ⟨g1, h⟩ := og_some h
  obtain ⟨g2, h⟩ := og_some h
  refine va_mmax hx hb (hml.trans hl.1.symm) hown (hts _ w_553) (hts _ w_554) (hts _ w_16) (hts _ w_555) (Nat.le_of_ble_eq_true rfl) (Nat.le_of_ble_eq_true rfl) (Nat.le_of_ble_eq_true rfl) (Nat.le_of_ble_eq_true rfl) dX6_noteTouched_11 ?_
  refine w_toeq (iI_max g1 g2) ?_
  refine r_put hx hb hts ok_RX6 hown hK hP hD hS 3 go_3 rfl 3 (by decide) w_122 (fun _ h9 => h9) rfl (v := .int (iI (max (gI (sI M 8 a1) 9) a1))) rfl rfl (Nat.le_of_ble_eq_true rfl) dX6_noteTouched_14 (ws' := wld ga n (K 0) (K 1) (sI (sI M 8 a1) 9 (max (gI (sI M 8 a1) 9) a1))) wI_9 (fun H locs hP hD hS => ?_)
  obtain rfl := Option.some.inj h
  exact e_v hx hb hr hlk hP hD hS (fun _ => 0) rfl (Nat.le_of_ble_eq_true rfl) (Nat.le_of_ble_eq_true rfl) dX6_noteTouched_17
