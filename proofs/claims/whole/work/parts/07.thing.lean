set_option maxHeartbeats 4000000 in
set_option maxRecDepth 100000 in
/-- Tenuredale$Thing.hasField -/
theorem cX7_hasField_ok (l : Launch) (ga : Nat → Nat) (n : Nat) (cT cZ : ClassId) (D : va_G) (M : cSt) (hw : cWF n M) (k : Nat) (hk : k < n) (i : Int32)  : Met l yX7_hasField wsX7_hasField ({ frames := 0, cells := 0, slots := 0, locals := 0 }) (va_Pc [.ref (ga (25 + 2 * k)), .int i] (cPu ga n cT cZ D M)) (vp_Si (fun z9 => z9 = f_hasField M k i)) 0 0 (fun _ => False) := by
  refine Met.ofW (cc := cX7_hasField) (maxL := 2) (ret := (some .boolean)) (by decide) rfl ?_
  intro p e s m args below meth c s₁ B hml hv
  obtain ⟨rfl, hP, hK, hD⟩ := hv
  have hx := B.exec
  have hb := B.bytes
  have hr := B.returns
  have hts := atoms_spec (ws := wsX7_hasField) B.pre
  have hown : s.vm.findClass RX7 = some m.cls := findClass_of_methodNamed B.named
  have hlocks := B.notSynchronized
  have hin7 : ∀ w ∈ u_ws RX7 TX7 14, w ∈ wsX7_hasField := by decide +kernel
  have hl := lv_entry ([.ref (ga (25 + 2 * k)), .int i]) (n := 2) (Nat.le_of_ble_eq_true rfl)
  rw [lg_entry_eq]
  generalize (lg_sl ([.ref (ga (25 + 2 * k)), .int i]) ++ List.replicate (2 - (lg_sl ([.ref (ga (25 + 2 * k)), .int i])).length) Slot.unset).toArray = ls at hl ⊢
  have hl : lv_has ls 2 [(0, .ref (ga (25 + 2 * k))), (1, .int i)] := hl
  refine lv_iload_n hx hb dX7_hasField_0 rfl (lv_at hl 1 rfl) ?_
  refine lv_if_lt (tgt := 17) hx hb dX7_hasField_1 (by decide) (fun c_1 => ?_) (fun c_1 => ?_)
  · skip
    refine lv_iconst (v := nI 0) hx hb dX7_hasField_17 (by decide) ?_
    exact W.zret (v := nI 0) hx hb hr (nar_b (Or.inl rfl)) (fun t ht hW => ⟨_, rfl, (by first | (rw [f_hasField_nI _ _ _ (by omega), if_pos (by omega)]; done) | (rw [f_hasField_nI _ _ _ (by omega), if_pos (by omega)]; exact (Eq.symm (by assumption))) | (rw [f_hasField_nI _ _ _ (by omega), if_neg (by omega)]) | exact (if_pos (by assumption)).symm), ht⟩) (fun q h => by cases h) dX7_hasField_18
  · skip
    obtain ⟨j1, hj1, rfl⟩ := nI_of c_1
    refine lv_iload_n hx hb dX7_hasField_4 rfl (lv_at hl 1 rfl) ?_
    refine lv_aload_n hx hb dX7_hasField_5 rfl (lv_at hl 0 rfl) ?_
    refine va_get (D := D) (cl := cl) (ci := 7) (C := RX7) (T := TX7) (N := 14) hx hb hts hin7 hown hK hP (25 + 2 * k) (wld_get (by omega) (E_th ga cT cZ M k)) rfl 1 (by decide) (hts (.fieldLink RX7 18 "Tenuredale$Thing" "fields" "[LTenuredale$Thing;") (by decide +kernel)) (fun _ h9 => h9) rfl dX7_hasField_6 ?_
    refine va_alen (D := D) (cl := cl) (v := nI (gL M k)) hx hb hK hP (26 + 2 * k) 0 (wld_get (by omega) (E_fl ga cT cZ M k)) rfl rfl dX7_hasField_9 ?_
    have hb_2 := hw.2.2.2.2.1 k
    refine lv_icmp_ge (tgt := 17) hx hb dX7_hasField_10 (by decide) (fun c_10 => ?_) (fun c_10 => ?_)
    · skip
      have c_10 : gL M k ≤ j1 := (nI_leI (a := gL M k) (b := j1) (by omega) (by omega)).mp c_10
      refine lv_iconst (v := nI 0) hx hb dX7_hasField_17 (by decide) ?_
      exact W.zret (v := nI 0) hx hb hr (nar_b (Or.inl rfl)) (fun t ht hW => ⟨_, rfl, (by first | (rw [f_hasField_nI _ _ _ (by omega), if_pos (by omega)]; done) | (rw [f_hasField_nI _ _ _ (by omega), if_pos (by omega)]; exact (Eq.symm (by assumption))) | (rw [f_hasField_nI _ _ _ (by omega), if_neg (by omega)]) | exact (if_pos (by assumption)).symm), ht⟩) (fun q h => by cases h) dX7_hasField_18
    · skip
      have c_10 : ¬ gL M k ≤ j1 := fun h9 => c_10 ((nI_leI (a := gL M k) (b := j1) (by omega) (by omega)).mpr h9)
      refine lv_iconst (v := nI 1) hx hb dX7_hasField_13 (by decide) ?_
      refine lv_goto (tgt := 18) hx hb dX7_hasField_14 (by decide) ?_
      exact W.zret (v := nI 1) hx hb hr (nar_b (Or.inr rfl)) (fun t ht hW => ⟨_, rfl, (by first | (rw [f_hasField_nI _ _ _ (by omega), if_pos (by omega)]; done) | (rw [f_hasField_nI _ _ _ (by omega), if_pos (by omega)]; exact (Eq.symm (by assumption))) | (rw [f_hasField_nI _ _ _ (by omega), if_neg (by omega)]) | exact (if_pos (by assumption)).symm), ht⟩) (fun q h => by cases h) dX7_hasField_18
set_option maxHeartbeats 4000000 in
set_option maxRecDepth 100000 in
/-- Tenuredale$Thing.read -/
theorem cX7_read_ok (l : Launch) (ga : Nat → Nat) (n : Nat) (cT cZ : ClassId) (D : va_G) (M : cSt) (hw : cWF n M) (k : Nat) (hk : k < n) (i : Int32)  : Met l yX7_read wsX7_read ({ frames := 0, cells := 0, slots := 0, locals := 0 }) (va_Pc [.ref (ga (25 + 2 * k)), .int i] (cPu ga n cT cZ D M)) (va_Sq (fun z9 => ∃ o9 : Option Nat, z9 = o9.map (fun k => ga (25 + 2 * k)) ∧ o9 = f_read M k i ∧ ∀ k, o9 = some k → k < n)) 0 0 (fun _ => False) := by
  refine Met.ofW (cc := cX7_read) (maxL := 2) (ret := (some (.object "Tenuredale$Thing"))) (by decide) rfl ?_
  intro p e s m args below meth c s₁ B hml hv
  obtain ⟨rfl, hP, hK, hD⟩ := hv
  have hx := B.exec
  have hb := B.bytes
  have hr := B.returns
  have hts := atoms_spec (ws := wsX7_read) B.pre
  have hown : s.vm.findClass RX7 = some m.cls := findClass_of_methodNamed B.named
  have hlocks := B.notSynchronized
  have hin7 : ∀ w ∈ u_ws RX7 TX7 14, w ∈ wsX7_read := by decide +kernel
  have hl := lv_entry ([.ref (ga (25 + 2 * k)), .int i]) (n := 2) (Nat.le_of_ble_eq_true rfl)
  rw [lg_entry_eq]
  generalize (lg_sl ([.ref (ga (25 + 2 * k)), .int i]) ++ List.replicate (2 - (lg_sl ([.ref (ga (25 + 2 * k)), .int i])).length) Slot.unset).toArray = ls at hl ⊢
  have hl : lv_has ls 2 [(0, .ref (ga (25 + 2 * k))), (1, .int i)] := hl
  refine lv_iload_n hx hb dX7_read_0 rfl (lv_at hl 1 rfl) ?_
  refine lv_if_lt (tgt := 22) hx hb dX7_read_1 (by decide) (fun c_1 => ?_) (fun c_1 => ?_)
  · skip
    refine lv_null hx hb dX7_read_22 ?_
    exact W.aret (v := va_rf ((none : Option Nat).map (fun k => ga (25 + 2 * k)))) hx hb hr (Or.inl ⟨_, rfl⟩) (va_rf_or _) (fun t ht hW => ⟨_, rfl, ⟨(none : Option Nat), rfl, (by first | (rw [f_read_nI _ _ _ (by omega), if_pos (by omega)]; done) | (rw [f_read_nI _ _ _ (by omega), if_pos (by omega)]; exact (Eq.symm (by assumption))) | (rw [f_read_nI _ _ _ (by omega), if_neg (by omega)]) | exact (if_pos (by assumption)).symm), (fun _ h => by cases h)⟩, ht⟩) (fun q h => by cases h) dX7_read_23
  · skip
    obtain ⟨j1, hj1, rfl⟩ := nI_of c_1
    refine lv_iload_n hx hb dX7_read_4 rfl (lv_at hl 1 rfl) ?_
    refine lv_aload_n hx hb dX7_read_5 rfl (lv_at hl 0 rfl) ?_
    refine va_get (D := D) (cl := cl) (ci := 7) (C := RX7) (T := TX7) (N := 14) hx hb hts hin7 hown hK hP (25 + 2 * k) (wld_get (by omega) (E_th ga cT cZ M k)) rfl 1 (by decide) (hts (.fieldLink RX7 18 "Tenuredale$Thing" "fields" "[LTenuredale$Thing;") (by decide +kernel)) (fun _ h9 => h9) rfl dX7_read_6 ?_
    refine va_alen (D := D) (cl := cl) (v := nI (gL M k)) hx hb hK hP (26 + 2 * k) 0 (wld_get (by omega) (E_fl ga cT cZ M k)) rfl rfl dX7_read_9 ?_
    have hb_2 := hw.2.2.2.2.1 k
    refine lv_icmp_ge (tgt := 22) hx hb dX7_read_10 (by decide) (fun c_10 => ?_) (fun c_10 => ?_)
    · skip
      have c_10 : gL M k ≤ j1 := (nI_leI (a := gL M k) (b := j1) (by omega) (by omega)).mp c_10
      refine lv_null hx hb dX7_read_22 ?_
      exact W.aret (v := va_rf ((none : Option Nat).map (fun k => ga (25 + 2 * k)))) hx hb hr (Or.inl ⟨_, rfl⟩) (va_rf_or _) (fun t ht hW => ⟨_, rfl, ⟨(none : Option Nat), rfl, (by first | (rw [f_read_nI _ _ _ (by omega), if_pos (by omega)]; done) | (rw [f_read_nI _ _ _ (by omega), if_pos (by omega)]; exact (Eq.symm (by assumption))) | (rw [f_read_nI _ _ _ (by omega), if_neg (by omega)]) | exact (if_pos (by assumption)).symm), (fun _ h => by cases h)⟩, ht⟩) (fun q h => by cases h) dX7_read_23
    · skip
      have c_10 : ¬ gL M k ≤ j1 := fun h9 => c_10 ((nI_leI (a := gL M k) (b := j1) (by omega) (by omega)).mpr h9)
      refine lv_aload_n hx hb dX7_read_13 rfl (lv_at hl 0 rfl) ?_
      refine va_get (D := D) (cl := cl) (ci := 7) (C := RX7) (T := TX7) (N := 14) hx hb hts hin7 hown hK hP (25 + 2 * k) (wld_get (by omega) (E_th ga cT cZ M k)) rfl 1 (by decide) (hts (.fieldLink RX7 18 "Tenuredale$Thing" "fields" "[LTenuredale$Thing;") (by decide +kernel)) (fun _ h9 => h9) rfl dX7_read_14 ?_
      refine lv_iload_n hx hb dX7_read_17 rfl (lv_at hl 1 rfl) ?_
      refine va_aldq (D := D) (cl := cl) hx hb hK hP (26 + 2 * k) 0 (wld_get (by omega) (E_fl ga cT cZ M k)) rfl (vp_in_nI (n := j1) (by omega) (by omega)) dX7_read_18 ?_
      rw [nI_clamp (n := j1) (by omega)]
      show W p l e _ s m _ below meth c _ _ _ _ _ (F0 m 19 ls (va_rf ((gF M k j1).map (fun k => ga (25 + 2 * k))) :: _))
      refine w_split (o := gF M k j1) (f := fun k => ga (25 + 2 * k)) (fun hq3 => ?_) (fun k4 hq3 => ?_)
      · skip
        refine lv_goto (tgt := 23) hx hb dX7_read_19 (by decide) ?_
        exact W.aret (v := va_rf ((none : Option Nat).map (fun k => ga (25 + 2 * k)))) hx hb hr (Or.inl ⟨_, rfl⟩) (va_rf_or _) (fun t ht hW => ⟨_, rfl, ⟨(none : Option Nat), rfl, (by first | (rw [f_read_nI _ _ _ (by omega), if_pos (by omega)]; done) | (rw [f_read_nI _ _ _ (by omega), if_pos (by omega)]; exact (Eq.symm (by assumption))) | (rw [f_read_nI _ _ _ (by omega), if_neg (by omega)]) | exact (if_pos (by assumption)).symm), (fun _ h => by cases h)⟩, ht⟩) (fun q h => by cases h) dX7_read_23
      · have hk4 : k4 < n := hw.2.1 _ _ _ hq3
        refine lv_goto (tgt := 23) hx hb dX7_read_19 (by decide) ?_
        exact W.aret (v := va_rf ((some k4).map (fun k => ga (25 + 2 * k)))) hx hb hr (Or.inl ⟨_, rfl⟩) (va_rf_or _) (fun t ht hW => ⟨_, rfl, ⟨(some k4), rfl, (by first | (rw [f_read_nI _ _ _ (by omega), if_pos (by omega)]; done) | (rw [f_read_nI _ _ _ (by omega), if_pos (by omega)]; exact (Eq.symm (by assumption))) | (rw [f_read_nI _ _ _ (by omega), if_neg (by omega)]) | exact (if_pos (by assumption)).symm), (fun _ h => by cases h; exact hk4)⟩, ht⟩) (fun q h => by cases h) dX7_read_23
set_option maxHeartbeats 4000000 in
set_option maxRecDepth 100000 in
/-- Tenuredale$Thing.write -/
theorem cX7_write_ok (l : Launch) (ga : Nat → Nat) (n : Nat) (cT cZ : ClassId) (D : va_G) (M : cSt) (hw : cWF n M) (sz : Nat) (k : Nat) (hk : k < n) (i : Int32) (ot : Option Nat) (hot : ∀ k, ot = some k → k < n)  : Met l yX7_write wsX7_write ({ frames := 0, cells := 0, slots := 0, locals := 0 }) (va_Pc [.ref (ga (25 + 2 * k)), .int i, va_rf ((ot).map (fun k => ga (25 + 2 * k)))] (cPr ga n cT cZ D M sz)) (va_Qv (fun u9 : cSt => u9 = f_write M k i ot ∧ cWF n u9) (cB ga n cT cZ D (cAA ga n sz)) (cAA ga n sz)) 0 0 (cAA ga n sz) := by
  rcases ot with _ | k_ot
  · skip
    refine Met.ofW (cc := cX7_write) (maxL := 3) (ret := none) (by decide) rfl ?_
    intro p e s m args below meth c s₁ B hml hv
    obtain ⟨rfl, hsz, hP, hK, hD0⟩ := hv
    have hx := B.exec
    have hb := B.bytes
    have hr := B.returns
    have hts := atoms_spec (ws := wsX7_write) B.pre
    have hown : s.vm.findClass RX7 = some m.cls := findClass_of_methodNamed B.named
    have hlocks := B.notSynchronized
    have hin7 : ∀ w ∈ u_ws RX7 TX7 14, w ∈ wsX7_write := by decide +kernel
    subst hsz
    have hD := wld_self (sz := s.heap.size) hD0
    generalize hAe : cAA ga n s.heap.size = A at hD ⊢
    have hA : ∀ q : Nat, s.heap.size ≤ q → A q := fun q h => by rw [← hAe]; exact Or.inr h
    have hS : va_S A s.heap s.heap [] := va_S.rf
    have hP : va_P D cl (wld ga n cT cZ M) s.heap := hP
    have hl := lv_entry ([.ref (ga (25 + 2 * k)), .int i, .null]) (n := 3) (Nat.le_of_ble_eq_true rfl)
    rw [lg_entry_eq]
    generalize (lg_sl ([.ref (ga (25 + 2 * k)), .int i, .null]) ++ List.replicate (3 - (lg_sl ([.ref (ga (25 + 2 * k)), .int i, .null])).length) Slot.unset).toArray = ls at hl ⊢
    have hl : lv_has ls 3 [(0, .ref (ga (25 + 2 * k))), (1, .int i), (2, .null)] := hl
    refine lv_iload_n hx hb dX7_write_0 rfl (lv_at hl 1 rfl) ?_
    refine lv_if_lt (tgt := 20) hx hb dX7_write_1 (by decide) (fun c_1 => ?_) (fun c_1 => ?_)
    · skip
      exact W.vret hx hb hr (fun t ht hW => ⟨⟨_, rfl, ⟨(by first | (rw [f_write_nI _ _ _ _ (by omega), if_pos (by omega)]; done) | (rw [f_write_nI _ _ _ _ (by omega), if_neg (by omega)]; done) | exact (if_pos (by assumption)).symm), hw⟩, by rw [ht]; exact hP, va_K.moved hW.alike hK, hD⟩, hS.F ht⟩) hS.2.2 dX7_write_20
    · skip
      obtain ⟨j1, hj1, rfl⟩ := nI_of c_1
      refine lv_iload_n hx hb dX7_write_4 rfl (lv_at hl 1 rfl) ?_
      refine lv_aload_n hx hb dX7_write_5 rfl (lv_at hl 0 rfl) ?_
      refine va_get (D := D) (cl := cl) (ci := 7) (C := RX7) (T := TX7) (N := 14) hx hb hts hin7 hown hK hP (25 + 2 * k) (wld_get (by omega) (E_th ga cT cZ M k)) rfl 1 (by decide) (hts (.fieldLink RX7 18 "Tenuredale$Thing" "fields" "[LTenuredale$Thing;") (by decide +kernel)) (fun _ h9 => h9) rfl dX7_write_6 ?_
      refine va_alen (D := D) (cl := cl) (v := nI (gL M k)) hx hb hK hP (26 + 2 * k) 0 (wld_get (by omega) (E_fl ga cT cZ M k)) rfl rfl dX7_write_9 ?_
      have hb_2 := hw.2.2.2.2.1 k
      refine lv_icmp_ge (tgt := 20) hx hb dX7_write_10 (by decide) (fun c_10 => ?_) (fun c_10 => ?_)
      · skip
        have c_10 : gL M k ≤ j1 := (nI_leI (a := gL M k) (b := j1) (by omega) (by omega)).mp c_10
        exact W.vret hx hb hr (fun t ht hW => ⟨⟨_, rfl, ⟨(by first | (rw [f_write_nI _ _ _ _ (by omega), if_pos (by omega)]; done) | (rw [f_write_nI _ _ _ _ (by omega), if_neg (by omega)]; done) | exact (if_pos (by assumption)).symm), hw⟩, by rw [ht]; exact hP, va_K.moved hW.alike hK, hD⟩, hS.F ht⟩) hS.2.2 dX7_write_20
      · skip
        have c_10 : ¬ gL M k ≤ j1 := fun h9 => c_10 ((nI_leI (a := gL M k) (b := j1) (by omega) (by omega)).mpr h9)
        refine lv_aload_n hx hb dX7_write_13 rfl (lv_at hl 0 rfl) ?_
        refine va_get (D := D) (cl := cl) (ci := 7) (C := RX7) (T := TX7) (N := 14) hx hb hts hin7 hown hK hP (25 + 2 * k) (wld_get (by omega) (E_th ga cT cZ M k)) rfl 1 (by decide) (hts (.fieldLink RX7 18 "Tenuredale$Thing" "fields" "[LTenuredale$Thing;") (by decide +kernel)) (fun _ h9 => h9) rfl dX7_write_14 ?_
        refine lv_iload_n hx hb dX7_write_17 rfl (lv_at hl 1 rfl) ?_
        refine lv_aload_nN hx hb dX7_write_18 rfl (lv_at hl 2 rfl) ?_
        refine va_astqN (D := D) (cl := cl) hx hb hK hP hD hS (26 + 2 * k) 0 (wld_get (by omega) (E_fl ga cT cZ M k)) rfl (vp_in_nI (n := j1) (by omega) (by omega)) dX7_write_19 (fun H locs hP hD hS => ?_)
        rw [nI_clamp (n := j1) (by omega)] at hP hD
        have hwM3 := wf_sF hw k j1 (v := none) (fun _ h => by cases h)
        obtain ⟨M3, eM3⟩ : ∃ z, z = sF M k j1 none := ⟨_, rfl⟩
        have hP := cP_eq (wF (v := none)) hP; have hD := cD_eq (wF (v := none)) hD; rw [← eM3] at hP hD hwM3
        exact W.vret hx hb hr (fun t ht hW => ⟨⟨_, rfl, ⟨(by subst eM3; first | (rw [f_write_nI _ _ _ _ (by omega), if_pos (by omega)]; done) | (rw [f_write_nI _ _ _ _ (by omega), if_neg (by omega)]; done) | exact (if_pos (by assumption)).symm), hwM3⟩, by rw [ht]; exact hP, va_K.moved hW.alike hK, hD⟩, hS.F ht⟩) hS.2.2 dX7_write_20
  · skip
    refine Met.ofW (cc := cX7_write) (maxL := 3) (ret := none) (by decide) rfl ?_
    intro p e s m args below meth c s₁ B hml hv
    obtain ⟨rfl, hsz, hP, hK, hD0⟩ := hv
    have hx := B.exec
    have hb := B.bytes
    have hr := B.returns
    have hts := atoms_spec (ws := wsX7_write) B.pre
    have hown : s.vm.findClass RX7 = some m.cls := findClass_of_methodNamed B.named
    have hlocks := B.notSynchronized
    have hin7 : ∀ w ∈ u_ws RX7 TX7 14, w ∈ wsX7_write := by decide +kernel
    subst hsz
    have hD := wld_self (sz := s.heap.size) hD0
    generalize hAe : cAA ga n s.heap.size = A at hD ⊢
    have hA : ∀ q : Nat, s.heap.size ≤ q → A q := fun q h => by rw [← hAe]; exact Or.inr h
    have hS : va_S A s.heap s.heap [] := va_S.rf
    have hP : va_P D cl (wld ga n cT cZ M) s.heap := hP
    have hk_ot : k_ot < n := hot _ rfl
    have hl := lv_entry ([.ref (ga (25 + 2 * k)), .int i, .ref (ga (25 + 2 * k_ot))]) (n := 3) (Nat.le_of_ble_eq_true rfl)
    rw [lg_entry_eq]
    generalize (lg_sl ([.ref (ga (25 + 2 * k)), .int i, .ref (ga (25 + 2 * k_ot))]) ++ List.replicate (3 - (lg_sl ([.ref (ga (25 + 2 * k)), .int i, .ref (ga (25 + 2 * k_ot))])).length) Slot.unset).toArray = ls at hl ⊢
    have hl : lv_has ls 3 [(0, .ref (ga (25 + 2 * k))), (1, .int i), (2, .ref (ga (25 + 2 * k_ot)))] := hl
    refine lv_iload_n hx hb dX7_write_0 rfl (lv_at hl 1 rfl) ?_
    refine lv_if_lt (tgt := 20) hx hb dX7_write_1 (by decide) (fun c_1 => ?_) (fun c_1 => ?_)
    · skip
      exact W.vret hx hb hr (fun t ht hW => ⟨⟨_, rfl, ⟨(by first | (rw [f_write_nI _ _ _ _ (by omega), if_pos (by omega)]; done) | (rw [f_write_nI _ _ _ _ (by omega), if_neg (by omega)]; done) | exact (if_pos (by assumption)).symm), hw⟩, by rw [ht]; exact hP, va_K.moved hW.alike hK, hD⟩, hS.F ht⟩) hS.2.2 dX7_write_20
    · skip
      obtain ⟨j4, hj4, rfl⟩ := nI_of c_1
      refine lv_iload_n hx hb dX7_write_4 rfl (lv_at hl 1 rfl) ?_
      refine lv_aload_n hx hb dX7_write_5 rfl (lv_at hl 0 rfl) ?_
      refine va_get (D := D) (cl := cl) (ci := 7) (C := RX7) (T := TX7) (N := 14) hx hb hts hin7 hown hK hP (25 + 2 * k) (wld_get (by omega) (E_th ga cT cZ M k)) rfl 1 (by decide) (hts (.fieldLink RX7 18 "Tenuredale$Thing" "fields" "[LTenuredale$Thing;") (by decide +kernel)) (fun _ h9 => h9) rfl dX7_write_6 ?_
      refine va_alen (D := D) (cl := cl) (v := nI (gL M k)) hx hb hK hP (26 + 2 * k) 0 (wld_get (by omega) (E_fl ga cT cZ M k)) rfl rfl dX7_write_9 ?_
      have hb_5 := hw.2.2.2.2.1 k
      refine lv_icmp_ge (tgt := 20) hx hb dX7_write_10 (by decide) (fun c_10 => ?_) (fun c_10 => ?_)
      · skip
        have c_10 : gL M k ≤ j4 := (nI_leI (a := gL M k) (b := j4) (by omega) (by omega)).mp c_10
        exact W.vret hx hb hr (fun t ht hW => ⟨⟨_, rfl, ⟨(by first | (rw [f_write_nI _ _ _ _ (by omega), if_pos (by omega)]; done) | (rw [f_write_nI _ _ _ _ (by omega), if_neg (by omega)]; done) | exact (if_pos (by assumption)).symm), hw⟩, by rw [ht]; exact hP, va_K.moved hW.alike hK, hD⟩, hS.F ht⟩) hS.2.2 dX7_write_20
      · skip
        have c_10 : ¬ gL M k ≤ j4 := fun h9 => c_10 ((nI_leI (a := gL M k) (b := j4) (by omega) (by omega)).mpr h9)
        refine lv_aload_n hx hb dX7_write_13 rfl (lv_at hl 0 rfl) ?_
        refine va_get (D := D) (cl := cl) (ci := 7) (C := RX7) (T := TX7) (N := 14) hx hb hts hin7 hown hK hP (25 + 2 * k) (wld_get (by omega) (E_th ga cT cZ M k)) rfl 1 (by decide) (hts (.fieldLink RX7 18 "Tenuredale$Thing" "fields" "[LTenuredale$Thing;") (by decide +kernel)) (fun _ h9 => h9) rfl dX7_write_14 ?_
        refine lv_iload_n hx hb dX7_write_17 rfl (lv_at hl 1 rfl) ?_
        refine lv_aload_n hx hb dX7_write_18 rfl (lv_at hl 2 rfl) ?_
        refine va_astq (D := D) (cl := cl) (r := (RX7, TX7, 14)) hx hb hK hP hD hS (26 + 2 * k) 0 (25 + 2 * k_ot) 7 (wld_get (by omega) (E_fl ga cT cZ M k)) rfl (wld_get (by omega) (E_th ga cT cZ M k_ot)) rfl (vp_in_nI (n := j4) (by omega) (by omega)) dX7_write_19 (fun H locs hP hD hS => ?_)
        rw [nI_clamp (n := j4) (by omega)] at hP hD
        have hwM6 := wf_sF hw k j4 (v := (some k_ot)) (fun _ h => by cases h; exact hk_ot)
        obtain ⟨M6, eM6⟩ : ∃ z, z = sF M k j4 (some k_ot) := ⟨_, rfl⟩
        have hP := cP_eq (wF (v := (some k_ot))) hP; have hD := cD_eq (wF (v := (some k_ot))) hD; rw [← eM6] at hP hD hwM6
        exact W.vret hx hb hr (fun t ht hW => ⟨⟨_, rfl, ⟨(by subst eM6; first | (rw [f_write_nI _ _ _ _ (by omega), if_pos (by omega)]; done) | (rw [f_write_nI _ _ _ _ (by omega), if_neg (by omega)]; done) | exact (if_pos (by assumption)).symm), hwM6⟩, by rw [ht]; exact hP, va_K.moved hW.alike hK, hD⟩, hS.F ht⟩) hS.2.2 dX7_write_20
set_option maxHeartbeats 4000000 in
set_option maxRecDepth 100000 in
/-- Tenuredale$Thing.hasYoungField -/
theorem cX7_hasYoungField_ok (l : Launch) (ga : Nat → Nat) (n : Nat) (cT cZ : ClassId) (D : va_G) (M : cSt) (hw : cWF n M) (k : Nat) (hk : k < n)  : Met l yX7_hasYoungField wsX7_hasYoungField ({ frames := 0, cells := 0, slots := 0, locals := 0 }) (va_Pc [.ref (ga (25 + 2 * k))] (cPu ga n cT cZ D M)) (vp_Si (fun z9 => z9 = f_hasYoung M k)) 0 0 (fun _ => False) := by
  refine Met.ofW (cc := cX7_hasYoungField) (maxL := 3) (ret := (some .boolean)) (by decide) rfl ?_
  intro p e s m args below meth c s₁ B hml hv
  obtain ⟨rfl, hP, hK, hD⟩ := hv
  have hx := B.exec
  have hb := B.bytes
  have hr := B.returns
  have hts := atoms_spec (ws := wsX7_hasYoungField) B.pre
  have hown : s.vm.findClass RX7 = some m.cls := findClass_of_methodNamed B.named
  have hlocks := B.notSynchronized
  have hin7 : ∀ w ∈ u_ws RX7 TX7 14, w ∈ wsX7_hasYoungField := by decide +kernel
  have hl := lv_entry ([.ref (ga (25 + 2 * k))]) (n := 3) (Nat.le_of_ble_eq_true rfl)
  rw [lg_entry_eq]
  generalize (lg_sl ([.ref (ga (25 + 2 * k))]) ++ List.replicate (3 - (lg_sl ([.ref (ga (25 + 2 * k))])).length) Slot.unset).toArray = ls at hl ⊢
  have hl : lv_has ls 3 [(0, .ref (ga (25 + 2 * k)))] := hl
  refine lv_iconst (v := nI 0) hx hb dX7_hasYoungField_0 (by decide) ?_
  refine lv_istore_n (lv' := [(1, .int (nI 0)), (0, .ref (ga (25 + 2 * k)))]) hx hb dX7_hasYoungField_1 rfl hl (by decide) rfl (fun ls hl => ?_)
  refine w_loopP (σ := Nat) (I := fun x ls => match x with | j => (j ≤ gL M k) ∧ (anyb (isYf M k) j = false) ∧ lv_has ls 3 [(1, .int (nI (j))), (0, .ref (ga (25 + 2 * k)))]) (μ := fun x => match x with | j => gL M k - j) ?_ (0) ⟨Nat.zero_le _, rfl, lv_sub hl [0, 1] rfl⟩
  rintro j ls ⟨hj, hv, hl⟩ ih
  have hb_L := hw.2.2.2.2.1 k
  refine lv_iload_n hx hb dX7_hasYoungField_2 rfl (lv_at hl 0 rfl) ?_
  refine lv_aload_n hx hb dX7_hasYoungField_3 rfl (lv_at hl 1 rfl) ?_
  refine va_get (D := D) (cl := cl) (ci := 7) (C := RX7) (T := TX7) (N := 14) hx hb hts hin7 hown hK hP (25 + 2 * k) (wld_get (by omega) (E_th ga cT cZ M k)) rfl 1 (by decide) (hts (.fieldLink RX7 18 "Tenuredale$Thing" "fields" "[LTenuredale$Thing;") (by decide +kernel)) (fun _ h9 => h9) rfl dX7_hasYoungField_4 ?_
  refine va_alen (D := D) (cl := cl) (v := nI (gL M k)) hx hb hK hP (26 + 2 * k) 0 (wld_get (by omega) (E_fl ga cT cZ M k)) rfl rfl dX7_hasYoungField_7 ?_
  have hb_1 := hw.2.2.2.2.1 k
  refine lv_icmp_ge (tgt := 38) hx hb dX7_hasYoungField_8 (by decide) (fun c_8 => ?_) (fun c_8 => ?_)
  · skip
    have c_8 : gL M k ≤ j := (nI_leI (a := gL M k) (b := j) (by omega) (by omega)).mp c_8
    refine lv_iconst (v := nI 0) hx hb dX7_hasYoungField_38 (by decide) ?_
    exact W.zret (v := nI 0) hx hb hr (nar_b (Or.inl rfl)) (fun t ht hW => ⟨_, rfl, (by first | (unfold f_hasYoung; rw [show gL M k = j from by omega, hv]; rfl) | (unfold f_hasYoung; rw [anyb_t (j := j) (by omega) (by unfold isYf; simp_all)]; rfl)), ht⟩) (fun q h => by cases h) dX7_hasYoungField_39
  · skip
    have c_8 : ¬ gL M k ≤ j := fun h9 => c_8 ((nI_leI (a := gL M k) (b := j) (by omega) (by omega)).mpr h9)
    refine lv_aload_n hx hb dX7_hasYoungField_11 rfl (lv_at hl 1 rfl) ?_
    refine va_get (D := D) (cl := cl) (ci := 7) (C := RX7) (T := TX7) (N := 14) hx hb hts hin7 hown hK hP (25 + 2 * k) (wld_get (by omega) (E_th ga cT cZ M k)) rfl 1 (by decide) (hts (.fieldLink RX7 18 "Tenuredale$Thing" "fields" "[LTenuredale$Thing;") (by decide +kernel)) (fun _ h9 => h9) rfl dX7_hasYoungField_12 ?_
    refine lv_iload_n hx hb dX7_hasYoungField_15 rfl (lv_at hl 0 rfl) ?_
    refine va_aldq (D := D) (cl := cl) hx hb hK hP (26 + 2 * k) 0 (wld_get (by omega) (E_fl ga cT cZ M k)) rfl (vp_in_nI (n := j) (by omega) (by omega)) dX7_hasYoungField_16 ?_
    rw [nI_clamp (n := j) (by omega)]
    show W p l e _ s m _ below meth c _ _ _ _ _ (F0 m 17 ls (va_rf ((gF M k j).map (fun k => ga (25 + 2 * k))) :: _))
    refine w_split (o := gF M k j) (f := fun k => ga (25 + 2 * k)) (fun hq2 => ?_) (fun k3 hq2 => ?_)
    · skip
      refine lv_astore_nN (lv' := [(2, .null), (1, .int (nI (j))), (0, .ref (ga (25 + 2 * k)))]) hx hb dX7_hasYoungField_17 rfl hl (by decide) rfl (fun ls hl => ?_)
      refine lv_aload_nN hx hb dX7_hasYoungField_18 rfl (lv_at hl 0 rfl) ?_
      refine lv_ifnullN (tgt := 32) hx hb dX7_hasYoungField_19 (by decide) ?_
      refine lv_iinc (v := nI (j + 1)) (lv' := [(1, .int (nI (j + 1))), (2, .null), (0, .ref (ga (25 + 2 * k)))]) hx hb dX7_hasYoungField_32 hl (k := 1) rfl (nI_1 j) (by decide) rfl (fun ls hl => ?_)
      refine lv_goto (tgt := 2) hx hb dX7_hasYoungField_35 (by decide) ?_
      exact ih (j + 1) ls (by dsimp only; omega) ⟨(by omega), (anyb_f hv (by unfold isYf; simp_all)), lv_sub hl [0, 2] rfl⟩
    · have hk3 : k3 < n := hw.2.1 _ _ _ hq2
      refine lv_astore_n (lv' := [(2, .ref (ga (25 + 2 * k3))), (1, .int (nI (j))), (0, .ref (ga (25 + 2 * k)))]) hx hb dX7_hasYoungField_17 rfl hl (by decide) rfl (fun ls hl => ?_)
      refine lv_aload_n hx hb dX7_hasYoungField_18 rfl (lv_at hl 0 rfl) ?_
      refine lv_ifnull hx hb dX7_hasYoungField_19 ?_
      refine lv_aload_n hx hb dX7_hasYoungField_22 rfl (lv_at hl 0 rfl) ?_
      refine va_get (D := D) (cl := cl) (ci := 7) (C := RX7) (T := TX7) (N := 14) hx hb hts hin7 hown hK hP (25 + 2 * k3) (wld_get (by omega) (E_th ga cT cZ M k3)) rfl 3 (by decide) (hts (.fieldLink RX7 31 "Tenuredale$Thing" "place" "I") (by decide +kernel)) (fun _ h9 => h9) rfl dX7_hasYoungField_23 ?_
      refine lv_iconst (v := nI 1) hx hb dX7_hasYoungField_26 (by decide) ?_
      refine lv_icmp_ne (tgt := 32) hx hb dX7_hasYoungField_27 (by decide) (fun c_27 => ?_) (fun c_27 => ?_)
      · skip
        refine lv_iinc (v := nI (j + 1)) (lv' := [(1, .int (nI (j + 1))), (2, .ref (ga (25 + 2 * k3))), (0, .ref (ga (25 + 2 * k)))]) hx hb dX7_hasYoungField_32 hl (k := 1) rfl (nI_1 j) (by decide) rfl (fun ls hl => ?_)
        refine lv_goto (tgt := 2) hx hb dX7_hasYoungField_35 (by decide) ?_
        exact ih (j + 1) ls (by dsimp only; omega) ⟨(by omega), (anyb_f hv (by unfold isYf; simp_all)), lv_sub hl [0, 2] rfl⟩
      · skip
        refine lv_iconst (v := nI 1) hx hb dX7_hasYoungField_30 (by decide) ?_
        exact W.zret (v := nI 1) hx hb hr (nar_b (Or.inr rfl)) (fun t ht hW => ⟨_, rfl, (by first | (unfold f_hasYoung; rw [show gL M k = j from by omega, hv]; rfl) | (unfold f_hasYoung; rw [anyb_t (j := j) (by omega) (by unfold isYf; simp_all)]; rfl)), ht⟩) (fun q h => by cases h) dX7_hasYoungField_31
set_option maxHeartbeats 4000000 in
set_option maxRecDepth 100000 in
/-- Tenuredale$Thing.end -/
theorem cX7_end_ok (l : Launch) (ga : Nat → Nat) (n : Nat) (cT cZ : ClassId) (D : va_G) (M : cSt) (hw : cWF n M) (k : Nat) (hk : k < n)  : Met l yX7_end wsX7_end ({ frames := 0, cells := 0, slots := 0, locals := 0 }) (va_Pc [.ref (ga (25 + 2 * k))] (cPu ga n cT cZ D M)) (vp_Si (fun z9 => z9 = f_end M k)) 0 0 (fun _ => False) := by
  refine Met.ofW (cc := cX7_end) (maxL := 1) (ret := (some .int)) (by decide) rfl ?_
  intro p e s m args below meth c s₁ B hml hv
  obtain ⟨rfl, hP, hK, hD⟩ := hv
  have hx := B.exec
  have hb := B.bytes
  have hr := B.returns
  have hts := atoms_spec (ws := wsX7_end) B.pre
  have hown : s.vm.findClass RX7 = some m.cls := findClass_of_methodNamed B.named
  have hlocks := B.notSynchronized
  have hin7 : ∀ w ∈ u_ws RX7 TX7 14, w ∈ wsX7_end := by decide +kernel
  have hl := lv_entry ([.ref (ga (25 + 2 * k))]) (n := 1) (Nat.le_of_ble_eq_true rfl)
  rw [lg_entry_eq]
  generalize (lg_sl ([.ref (ga (25 + 2 * k))]) ++ List.replicate (1 - (lg_sl ([.ref (ga (25 + 2 * k))])).length) Slot.unset).toArray = ls at hl ⊢
  have hl : lv_has ls 1 [(0, .ref (ga (25 + 2 * k)))] := hl
  refine lv_aload_n hx hb dX7_end_0 rfl (lv_at hl 0 rfl) ?_
  refine va_get (D := D) (cl := cl) (ci := 7) (C := RX7) (T := TX7) (N := 14) hx hb hts hin7 hown hK hP (25 + 2 * k) (wld_get (by omega) (E_th ga cT cZ M k)) rfl 4 (by decide) (hts (.fieldLink RX7 34 "Tenuredale$Thing" "address" "I") (by decide +kernel)) (fun _ h9 => h9) rfl dX7_end_1 ?_
  refine lv_aload_n hx hb dX7_end_4 rfl (lv_at hl 0 rfl) ?_
  refine va_get (D := D) (cl := cl) (ci := 7) (C := RX7) (T := TX7) (N := 14) hx hb hts hin7 hown hK hP (25 + 2 * k) (wld_get (by omega) (E_th ga cT cZ M k)) rfl 5 (by decide) (hts (.fieldLink RX7 22 "Tenuredale$Thing" "size" "I") (by decide +kernel)) (fun _ h9 => h9) rfl dX7_end_5 ?_
  refine lv_iadd hx hb dX7_end_8 ?_
  exact W.iret (v := (gT M k 4) + (gT M k 5)) hx hb hr (fun t ht hW => ⟨_, rfl, (by first | rfl | (simp []; done) | (simp [] <;> omega)), ht⟩) (fun q h => by cases h) dX7_end_9
set_option maxHeartbeats 4000000 in
set_option maxRecDepth 100000 in
/-- Tenuredale$Thing.card -/
theorem cX7_card_ok (l : Launch) (ga : Nat → Nat) (n : Nat) (cT cZ : ClassId) (D : va_G) (M : cSt) (hw : cWF n M) (k : Nat) (hk : k < n)  : Met l yX7_card wsX7_card ({ frames := 0, cells := 0, slots := 0, locals := 0 }) (va_Pc [.ref (ga (25 + 2 * k))] (cPu ga n cT cZ D M)) (vp_Si (fun z9 => z9 = f_card M k)) 0 0 (fun _ => False) := by
  refine Met.ofW (cc := cX7_card) (maxL := 1) (ret := (some .int)) (by decide) rfl ?_
  intro p e s m args below meth c s₁ B hml hv
  obtain ⟨rfl, hP, hK, hD⟩ := hv
  have hx := B.exec
  have hb := B.bytes
  have hr := B.returns
  have hts := atoms_spec (ws := wsX7_card) B.pre
  have hown : s.vm.findClass RX7 = some m.cls := findClass_of_methodNamed B.named
  have hlocks := B.notSynchronized
  have hin7 : ∀ w ∈ u_ws RX7 TX7 14, w ∈ wsX7_card := by decide +kernel
  have hl := lv_entry ([.ref (ga (25 + 2 * k))]) (n := 1) (Nat.le_of_ble_eq_true rfl)
  rw [lg_entry_eq]
  generalize (lg_sl ([.ref (ga (25 + 2 * k))]) ++ List.replicate (1 - (lg_sl ([.ref (ga (25 + 2 * k))])).length) Slot.unset).toArray = ls at hl ⊢
  have hl : lv_has ls 1 [(0, .ref (ga (25 + 2 * k)))] := hl
  refine lv_aload_n hx hb dX7_card_0 rfl (lv_at hl 0 rfl) ?_
  refine va_get (D := D) (cl := cl) (ci := 7) (C := RX7) (T := TX7) (N := 14) hx hb hts hin7 hown hK hP (25 + 2 * k) (wld_get (by omega) (E_th ga cT cZ M k)) rfl 4 (by decide) (hts (.fieldLink RX7 34 "Tenuredale$Thing" "address" "I") (by decide +kernel)) (fun _ h9 => h9) rfl dX7_card_1 ?_
  refine lv_bipush (v := nI 100) hx hb dX7_card_4 (by decide) ?_
  refine lv_isub hx hb dX7_card_6 ?_
  refine lv_bipush (v := nI 16) hx hb dX7_card_7 (by decide) ?_
  refine lv_idiv hx hb dX7_card_9 (by decide) ?_
  exact W.iret (v := ((gT M k 4) - (nI 100)) / (nI 16)) hx hb hr (fun t ht hW => ⟨_, rfl, (by first | rfl | (simp []; done) | (simp [] <;> omega)), ht⟩) (fun q h => by cases h) dX7_card_10
set_option maxHeartbeats 4000000 in
set_option maxRecDepth 100000 in
/-- Tenuredale$Thing.giveHash -/
theorem cX7_giveHash_ok (l : Launch) (ga : Nat → Nat) (n : Nat) (cT cZ : ClassId) (D : va_G) (M : cSt) (hw : cWF n M) (sz : Nat) (k : Nat) (hk : k < n) (v : Int32)  : Met l yX7_giveHash wsX7_giveHash ({ frames := 0, cells := 0, slots := 0, locals := 0 }) (va_Pc [.ref (ga (25 + 2 * k)), .int v] (cPr ga n cT cZ D M sz)) (va_Qv (fun u9 : cSt => u9 = f_giveHash M k v ∧ cWF n u9) (cB ga n cT cZ D (cAA ga n sz)) (cAA ga n sz)) 0 0 (cAA ga n sz) := by
  refine Met.ofW (cc := cX7_giveHash) (maxL := 2) (ret := none) (by decide) rfl ?_
  intro p e s m args below meth c s₁ B hml hv
  obtain ⟨rfl, hsz, hP, hK, hD0⟩ := hv
  have hx := B.exec
  have hb := B.bytes
  have hr := B.returns
  have hts := atoms_spec (ws := wsX7_giveHash) B.pre
  have hown : s.vm.findClass RX7 = some m.cls := findClass_of_methodNamed B.named
  have hlocks := B.notSynchronized
  have hin7 : ∀ w ∈ u_ws RX7 TX7 14, w ∈ wsX7_giveHash := by decide +kernel
  subst hsz
  have hD := wld_self (sz := s.heap.size) hD0
  generalize hAe : cAA ga n s.heap.size = A at hD ⊢
  have hA : ∀ q : Nat, s.heap.size ≤ q → A q := fun q h => by rw [← hAe]; exact Or.inr h
  have hS : va_S A s.heap s.heap [] := va_S.rf
  have hP : va_P D cl (wld ga n cT cZ M) s.heap := hP
  have hl := lv_entry ([.ref (ga (25 + 2 * k)), .int v]) (n := 2) (Nat.le_of_ble_eq_true rfl)
  rw [lg_entry_eq]
  generalize (lg_sl ([.ref (ga (25 + 2 * k)), .int v]) ++ List.replicate (2 - (lg_sl ([.ref (ga (25 + 2 * k)), .int v])).length) Slot.unset).toArray = ls at hl ⊢
  have hl : lv_has ls 2 [(0, .ref (ga (25 + 2 * k))), (1, .int v)] := hl
  refine lv_aload_n hx hb dX7_giveHash_0 rfl (lv_at hl 0 rfl) ?_
  refine lv_iload_n hx hb dX7_giveHash_1 rfl (lv_at hl 1 rfl) ?_
  refine va_put (D := D) (cl := cl) (ci := 7) (v := .int v) (ty := .int) (C := RX7) (T := TX7) (N := 14) hx hb hts hin7 tyX7 tyX7_ok nmX7 hown hK hP hD hS (25 + 2 * k) (wld_get (by omega) (E_th ga cT cZ M k)) rfl 8 (by decide) (hts (.fieldLink RX7 28 "Tenuredale$Thing" "hash" "I") (by decide +kernel)) (fun _ h9 => h9) rfl (by decide +kernel) rfl rfl (Nat.le_of_ble_eq_true rfl) dX7_giveHash_2 (fun H locs hP hD hS => ?_)
  have hwM1 := wf_sT hw _ _ _ (Or.inl (by decide))
  obtain ⟨M1, eM1⟩ : ∃ z, z = sT M k 8 v := ⟨_, rfl⟩
  have hP := cP_eq wT_8 hP; have hD := cD_eq wT_8 hD; rw [← eM1] at hP hD hwM1
  refine lv_aload_n hx hb dX7_giveHash_5 rfl (lv_at hl 0 rfl) ?_
  refine lv_aload_n hx hb dX7_giveHash_6 rfl (lv_at hl 0 rfl) ?_
  refine va_get (D := D) (cl := cl) (ci := 7) (C := RX7) (T := TX7) (N := 14) hx hb hts hin7 hown hK hP (25 + 2 * k) (wld_get (by omega) (E_th ga cT cZ M1 k)) rfl 5 (by decide) (hts (.fieldLink RX7 22 "Tenuredale$Thing" "size" "I") (by decide +kernel)) (fun _ h9 => h9) rfl dX7_giveHash_7 ?_
  refine lv_iconst (v := nI 1) hx hb dX7_giveHash_10 (by decide) ?_
  refine lv_iadd hx hb dX7_giveHash_11 ?_
  refine va_put (D := D) (cl := cl) (ci := 7) (v := .int ((gT M1 k 5) + (nI 1))) (ty := .int) (C := RX7) (T := TX7) (N := 14) hx hb hts hin7 tyX7 tyX7_ok nmX7 hown hK hP hD hS (25 + 2 * k) (wld_get (by omega) (E_th ga cT cZ M1 k)) rfl 6 (by decide) (hts (.fieldLink RX7 25 "Tenuredale$Thing" "sizeBehindMove" "I") (by decide +kernel)) (fun _ h9 => h9) rfl (by decide +kernel) rfl rfl (Nat.le_of_ble_eq_true rfl) dX7_giveHash_12 (fun H locs hP hD hS => ?_)
  have hwM2 := wf_sT hwM1 _ _ _ (Or.inl (by decide))
  obtain ⟨M2, eM2⟩ : ∃ z, z = sT M1 k 6 ((gT M1 k 5) + (nI 1)) := ⟨_, rfl⟩
  have hP := cP_eq wT_6 hP; have hD := cD_eq wT_6 hD; rw [← eM2] at hP hD hwM2
  exact W.vret hx hb hr (fun t ht hW => ⟨⟨_, rfl, ⟨(by subst eM2; subst eM1; first | rfl | (simp []; done) | (simp [] <;> omega)), hwM2⟩, by rw [ht]; exact hP, va_K.moved hW.alike hK, hD⟩, hS.F ht⟩) hS.2.2 dX7_giveHash_15
set_option maxHeartbeats 4000000 in
set_option maxRecDepth 100000 in
/-- Tenuredale$Thing.moveTo -/
theorem cX7_moveTo_ok (l : Launch) (ga : Nat → Nat) (n : Nat) (cT cZ : ClassId) (D : va_G) (M : cSt) (hw : cWF n M) (sz : Nat) (k : Nat) (hk : k < n) (pl : Int32) (a : Int32)  : Met l yX7_moveTo wsX7_moveTo ({ frames := 0, cells := 0, slots := 0, locals := 0 }) (va_Pc [.ref (ga (25 + 2 * k)), .int pl, .int a] (cPr ga n cT cZ D M sz)) (va_Qv (fun u9 : cSt => u9 = f_moveTo M k pl a ∧ cWF n u9) (cB ga n cT cZ D (cAA ga n sz)) (cAA ga n sz)) 0 0 (cAA ga n sz) := by
  refine Met.ofW (cc := cX7_moveTo) (maxL := 3) (ret := none) (by decide) rfl ?_
  intro p e s m args below meth c s₁ B hml hv
  obtain ⟨rfl, hsz, hP, hK, hD0⟩ := hv
  have hx := B.exec
  have hb := B.bytes
  have hr := B.returns
  have hts := atoms_spec (ws := wsX7_moveTo) B.pre
  have hown : s.vm.findClass RX7 = some m.cls := findClass_of_methodNamed B.named
  have hlocks := B.notSynchronized
  have hin7 : ∀ w ∈ u_ws RX7 TX7 14, w ∈ wsX7_moveTo := by decide +kernel
  subst hsz
  have hD := wld_self (sz := s.heap.size) hD0
  generalize hAe : cAA ga n s.heap.size = A at hD ⊢
  have hA : ∀ q : Nat, s.heap.size ≤ q → A q := fun q h => by rw [← hAe]; exact Or.inr h
  have hS : va_S A s.heap s.heap [] := va_S.rf
  have hP : va_P D cl (wld ga n cT cZ M) s.heap := hP
  have hl := lv_entry ([.ref (ga (25 + 2 * k)), .int pl, .int a]) (n := 3) (Nat.le_of_ble_eq_true rfl)
  rw [lg_entry_eq]
  generalize (lg_sl ([.ref (ga (25 + 2 * k)), .int pl, .int a]) ++ List.replicate (3 - (lg_sl ([.ref (ga (25 + 2 * k)), .int pl, .int a])).length) Slot.unset).toArray = ls at hl ⊢
  have hl : lv_has ls 3 [(0, .ref (ga (25 + 2 * k))), (1, .int pl), (2, .int a)] := hl
  refine lv_aload_n hx hb dX7_moveTo_0 rfl (lv_at hl 0 rfl) ?_
  refine lv_aload_n hx hb dX7_moveTo_1 rfl (lv_at hl 0 rfl) ?_
  refine va_get (D := D) (cl := cl) (ci := 7) (C := RX7) (T := TX7) (N := 14) hx hb hts hin7 hown hK hP (25 + 2 * k) (wld_get (by omega) (E_th ga cT cZ M k)) rfl 6 (by decide) (hts (.fieldLink RX7 25 "Tenuredale$Thing" "sizeBehindMove" "I") (by decide +kernel)) (fun _ h9 => h9) rfl dX7_moveTo_2 ?_
  refine va_put (D := D) (cl := cl) (ci := 7) (v := .int (gT M k 6)) (ty := .int) (C := RX7) (T := TX7) (N := 14) hx hb hts hin7 tyX7 tyX7_ok nmX7 hown hK hP hD hS (25 + 2 * k) (wld_get (by omega) (E_th ga cT cZ M k)) rfl 5 (by decide) (hts (.fieldLink RX7 22 "Tenuredale$Thing" "size" "I") (by decide +kernel)) (fun _ h9 => h9) rfl (by decide +kernel) rfl rfl (Nat.le_of_ble_eq_true rfl) dX7_moveTo_5 (fun H locs hP hD hS => ?_)
  have hwM1 := wf_sT hw _ _ _ (Or.inl (by decide))
  obtain ⟨M1, eM1⟩ : ∃ z, z = sT M k 5 (gT M k 6) := ⟨_, rfl⟩
  have hP := cP_eq wT_5 hP; have hD := cD_eq wT_5 hD; rw [← eM1] at hP hD hwM1
  refine lv_aload_n hx hb dX7_moveTo_8 rfl (lv_at hl 0 rfl) ?_
  refine lv_iload_n hx hb dX7_moveTo_9 rfl (lv_at hl 1 rfl) ?_
  refine va_put (D := D) (cl := cl) (ci := 7) (v := .int pl) (ty := .int) (C := RX7) (T := TX7) (N := 14) hx hb hts hin7 tyX7 tyX7_ok nmX7 hown hK hP hD hS (25 + 2 * k) (wld_get (by omega) (E_th ga cT cZ M1 k)) rfl 3 (by decide) (hts (.fieldLink RX7 31 "Tenuredale$Thing" "place" "I") (by decide +kernel)) (fun _ h9 => h9) rfl (by decide +kernel) rfl rfl (Nat.le_of_ble_eq_true rfl) dX7_moveTo_10 (fun H locs hP hD hS => ?_)
  have hwM2 := wf_sT hwM1 _ _ _ (Or.inl (by decide))
  obtain ⟨M2, eM2⟩ : ∃ z, z = sT M1 k 3 pl := ⟨_, rfl⟩
  have hP := cP_eq wT_3 hP; have hD := cD_eq wT_3 hD; rw [← eM2] at hP hD hwM2
  refine lv_aload_n hx hb dX7_moveTo_13 rfl (lv_at hl 0 rfl) ?_
  refine lv_iload_n hx hb dX7_moveTo_14 rfl (lv_at hl 2 rfl) ?_
  refine va_put (D := D) (cl := cl) (ci := 7) (v := .int a) (ty := .int) (C := RX7) (T := TX7) (N := 14) hx hb hts hin7 tyX7 tyX7_ok nmX7 hown hK hP hD hS (25 + 2 * k) (wld_get (by omega) (E_th ga cT cZ M2 k)) rfl 4 (by decide) (hts (.fieldLink RX7 34 "Tenuredale$Thing" "address" "I") (by decide +kernel)) (fun _ h9 => h9) rfl (by decide +kernel) rfl rfl (Nat.le_of_ble_eq_true rfl) dX7_moveTo_15 (fun H locs hP hD hS => ?_)
  have hwM3 := wf_sT hwM2 _ _ _ (Or.inl (by decide))
  obtain ⟨M3, eM3⟩ : ∃ z, z = sT M2 k 4 a := ⟨_, rfl⟩
  have hP := cP_eq wT_4 hP; have hD := cD_eq wT_4 hD; rw [← eM3] at hP hD hwM3
  exact W.vret hx hb hr (fun t ht hW => ⟨⟨_, rfl, ⟨(by subst eM3; subst eM2; subst eM1; first | rfl | (simp []; done) | (simp [] <;> omega)), hwM3⟩, by rw [ht]; exact hP, va_K.moved hW.alike hK, hD⟩, hS.F ht⟩) hS.2.2 dX7_moveTo_18
set_option maxHeartbeats 4000000 in
set_option maxRecDepth 100000 in
/-- Tenuredale$Thing.vanish -/
theorem cX7_vanish_ok (l : Launch) (ga : Nat → Nat) (n : Nat) (cT cZ : ClassId) (D : va_G) (M : cSt) (hw : cWF n M) (sz : Nat) (k : Nat) (hk : k < n)  : Met l yX7_vanish wsX7_vanish ({ frames := 0, cells := 0, slots := 0, locals := 0 }) (va_Pc [.ref (ga (25 + 2 * k))] (cPr ga n cT cZ D M sz)) (va_Qv (fun u9 : cSt => u9 = f_vanish M k ∧ cWF n u9) (cB ga n cT cZ D (cAA ga n sz)) (cAA ga n sz)) 0 0 (cAA ga n sz) := by
  refine Met.ofW (cc := cX7_vanish) (maxL := 2) (ret := none) (by decide) rfl ?_
  intro p e s m args below meth c s₁ B hml hv
  obtain ⟨rfl, hsz, hP, hK, hD0⟩ := hv
  have hx := B.exec
  have hb := B.bytes
  have hr := B.returns
  have hts := atoms_spec (ws := wsX7_vanish) B.pre
  have hown : s.vm.findClass RX7 = some m.cls := findClass_of_methodNamed B.named
  have hlocks := B.notSynchronized
  have hin7 : ∀ w ∈ u_ws RX7 TX7 14, w ∈ wsX7_vanish := by decide +kernel
  subst hsz
  have hD := wld_self (sz := s.heap.size) hD0
  generalize hAe : cAA ga n s.heap.size = A at hD ⊢
  have hA : ∀ q : Nat, s.heap.size ≤ q → A q := fun q h => by rw [← hAe]; exact Or.inr h
  have hS : va_S A s.heap s.heap [] := va_S.rf
  have hP : va_P D cl (wld ga n cT cZ M) s.heap := hP
  have hl := lv_entry ([.ref (ga (25 + 2 * k))]) (n := 2) (Nat.le_of_ble_eq_true rfl)
  rw [lg_entry_eq]
  generalize (lg_sl ([.ref (ga (25 + 2 * k))]) ++ List.replicate (2 - (lg_sl ([.ref (ga (25 + 2 * k))])).length) Slot.unset).toArray = ls at hl ⊢
  have hl : lv_has ls 2 [(0, .ref (ga (25 + 2 * k)))] := hl
  refine lv_aload_n hx hb dX7_vanish_0 rfl (lv_at hl 0 rfl) ?_
  refine lv_iconst (v := nI 0) hx hb dX7_vanish_1 (by decide) ?_
  refine va_put (D := D) (cl := cl) (ci := 7) (v := .int (nI 0)) (ty := .int) (C := RX7) (T := TX7) (N := 14) hx hb hts hin7 tyX7 tyX7_ok nmX7 hown hK hP hD hS (25 + 2 * k) (wld_get (by omega) (E_th ga cT cZ M k)) rfl 3 (by decide) (hts (.fieldLink RX7 31 "Tenuredale$Thing" "place" "I") (by decide +kernel)) (fun _ h9 => h9) rfl (by decide +kernel) rfl rfl (Nat.le_of_ble_eq_true rfl) dX7_vanish_2 (fun H locs hP hD hS => ?_)
  have hwM1 := wf_sT hw _ _ _ (Or.inl (by decide))
  obtain ⟨M1, eM1⟩ : ∃ z, z = sT M k 3 (nI 0) := ⟨_, rfl⟩
  have hP := cP_eq wT_3 hP; have hD := cD_eq wT_3 hD; rw [← eM1] at hP hD hwM1
  refine lv_aload_n hx hb dX7_vanish_5 rfl (lv_at hl 0 rfl) ?_
  refine lv_iconst (v := nI 0) hx hb dX7_vanish_6 (by decide) ?_
  refine va_put (D := D) (cl := cl) (ci := 7) (v := .int (nI 0)) (ty := .int) (C := RX7) (T := TX7) (N := 14) hx hb hts hin7 tyX7 tyX7_ok nmX7 hown hK hP hD hS (25 + 2 * k) (wld_get (by omega) (E_th ga cT cZ M1 k)) rfl 10 (by decide) (hts (.fieldLink RX7 37 "Tenuredale$Thing" "colour" "I") (by decide +kernel)) (fun _ h9 => h9) rfl (by decide +kernel) rfl rfl (Nat.le_of_ble_eq_true rfl) dX7_vanish_7 (fun H locs hP hD hS => ?_)
  have hwM2 := wf_sT hwM1 _ _ _ (Or.inl (by decide))
  obtain ⟨M2, eM2⟩ : ∃ z, z = sT M1 k 10 (nI 0) := ⟨_, rfl⟩
  have hP := cP_eq wT_10 hP; have hD := cD_eq wT_10 hD; rw [← eM2] at hP hD hwM2
  refine lv_iconst (v := nI 0) hx hb dX7_vanish_10 (by decide) ?_
  refine lv_istore_n (lv' := [(1, .int (nI 0)), (0, .ref (ga (25 + 2 * k)))]) hx hb dX7_vanish_11 rfl hl (by decide) rfl (fun ls hl => ?_)
  refine w_loop (σ := Nat × cSt) (I := fun x H locs ls => match x with | (j, M2) => (j ≤ gL M k) ∧ (M2 = nfo (fun j M => sF M k j none) j (sT (sT M k 3 (nI 0)) k 10 (nI 0))) ∧ (gL M2 k = gL M k) ∧ cWF n M2 ∧ va_P D cl (wld ga n cT cZ M2) H ∧ va_D A (wld ga n cT cZ M2) ∧ va_S A s.heap H locs ∧ lv_has ls 2 [(1, .int (nI (j))), (0, .ref (ga (25 + 2 * k)))]) (μ := fun x => match x with | (j, M2) => gL M k - j) ?_ (0, M2) ⟨Nat.zero_le _, (by subst eM2; subst eM1; rfl), (by subst eM2; subst eM1; rfl), hwM2, hP, hD, hS, lv_sub hl [0, 1] rfl⟩
  rintro ⟨j, M2⟩ H locs ls ⟨hj, hM2, hLk, hwM2, hP, hD, hS, hl⟩ ih
  have hb_L := hw.2.2.2.2.1 k
  refine lv_iload_n hx hb dX7_vanish_12 rfl (lv_at hl 0 rfl) ?_
  refine lv_aload_n hx hb dX7_vanish_13 rfl (lv_at hl 1 rfl) ?_
  refine va_get (D := D) (cl := cl) (ci := 7) (C := RX7) (T := TX7) (N := 14) hx hb hts hin7 hown hK hP (25 + 2 * k) (wld_get (by omega) (E_th ga cT cZ M2 k)) rfl 1 (by decide) (hts (.fieldLink RX7 18 "Tenuredale$Thing" "fields" "[LTenuredale$Thing;") (by decide +kernel)) (fun _ h9 => h9) rfl dX7_vanish_14 ?_
  refine va_alen (D := D) (cl := cl) (v := nI (gL M2 k)) hx hb hK hP (26 + 2 * k) 0 (wld_get (by omega) (E_fl ga cT cZ M2 k)) rfl rfl dX7_vanish_17 ?_
  have hb_3 := hwM2.2.2.2.2.1 k
  refine lv_icmp_ge (tgt := 34) hx hb dX7_vanish_18 (by decide) (fun c_18 => ?_) (fun c_18 => ?_)
  · skip
    have c_18 : gL M2 k ≤ j := (nI_leI (a := gL M2 k) (b := j) (by omega) (by omega)).mp c_18
    exact W.vret hx hb hr (fun t ht hW => ⟨⟨_, rfl, ⟨(by subst eM2; subst eM1; rw [hM2, show j = gL M k from by omega]; rfl), hwM2⟩, by rw [ht]; exact hP, va_K.moved hW.alike hK, hD⟩, hS.F ht⟩) hS.2.2 dX7_vanish_34
  · skip
    have c_18 : ¬ gL M2 k ≤ j := fun h9 => c_18 ((nI_leI (a := gL M2 k) (b := j) (by omega) (by omega)).mpr h9)
    refine lv_aload_n hx hb dX7_vanish_21 rfl (lv_at hl 1 rfl) ?_
    refine va_get (D := D) (cl := cl) (ci := 7) (C := RX7) (T := TX7) (N := 14) hx hb hts hin7 hown hK hP (25 + 2 * k) (wld_get (by omega) (E_th ga cT cZ M2 k)) rfl 1 (by decide) (hts (.fieldLink RX7 18 "Tenuredale$Thing" "fields" "[LTenuredale$Thing;") (by decide +kernel)) (fun _ h9 => h9) rfl dX7_vanish_22 ?_
    refine lv_iload_n hx hb dX7_vanish_25 rfl (lv_at hl 0 rfl) ?_
    refine lv_null hx hb dX7_vanish_26 ?_
    refine va_astqN (D := D) (cl := cl) hx hb hK hP hD hS (26 + 2 * k) 0 (wld_get (by omega) (E_fl ga cT cZ M2 k)) rfl (vp_in_nI (n := j) (by omega) (by omega)) dX7_vanish_27 (fun H locs hP hD hS => ?_)
    rw [nI_clamp (n := j) (by omega)] at hP hD
    have hwM4 := wf_sF hwM2 k j (v := none) (fun _ h => by cases h)
    obtain ⟨M4, eM4⟩ : ∃ z, z = sF M2 k j none := ⟨_, rfl⟩
    have hP := cP_eq (wF (v := none)) hP; have hD := cD_eq (wF (v := none)) hD; rw [← eM4] at hP hD hwM4
    refine lv_iinc (v := nI (j + 1)) (lv' := [(1, .int (nI (j + 1))), (0, .ref (ga (25 + 2 * k)))]) hx hb dX7_vanish_28 hl (k := 0) rfl (nI_1 j) (by decide) rfl (fun ls hl => ?_)
    refine lv_goto (tgt := 12) hx hb dX7_vanish_31 (by decide) ?_
    exact ih (j + 1, M4) H locs ls (by dsimp only; omega) ⟨(by omega), (by subst eM4; subst eM2; subst eM1; rw [nfo_s, ← hM2]), (by subst eM4; subst eM2; subst eM1; exact hLk), hwM4, hP, hD, hS, lv_sub hl [0, 1] rfl⟩
