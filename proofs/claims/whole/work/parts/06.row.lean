set_option maxHeartbeats 4000000 in
set_option maxRecDepth 100000 in
/-- Tenuredale$Row.size -/
theorem cX5_size_ok (l : Launch) (ga : Nat → Nat) (n : Nat) (cT cZ : ClassId) (D : va_G) (M : cSt) (hw : cWF n M) (ro : Nat) (hro : ro < 7)  : Met l yX5_size wsX5_size ({ frames := 0, cells := 0, slots := 0, locals := 0 }) (va_Pc [.ref (ga (8 + ro))] (cPu ga n cT cZ D M)) (vp_Si (fun z9 => z9 = gI M (10 + ro))) 0 0 (fun _ => False) := by
  refine Met.ofW (cc := cX5_size) (maxL := 1) (ret := (some .int)) (by decide) rfl ?_
  intro p e s m args below meth c s₁ B hml hv
  obtain ⟨rfl, hP, hK, hD⟩ := hv
  have hx := B.exec
  have hb := B.bytes
  have hr := B.returns
  have hts := atoms_spec (ws := wsX5_size) B.pre
  have hown : s.vm.findClass RX5 = some m.cls := findClass_of_methodNamed B.named
  have hlocks := B.notSynchronized
  have hin5 : ∀ w ∈ u_ws RX5 TX5 2, w ∈ wsX5_size := by decide +kernel
  have hl := lv_entry ([.ref (ga (8 + ro))]) (n := 1) (Nat.le_of_ble_eq_true rfl)
  rw [lg_entry_eq]
  generalize (lg_sl ([.ref (ga (8 + ro))]) ++ List.replicate (1 - (lg_sl ([.ref (ga (8 + ro))])).length) Slot.unset).toArray = ls at hl ⊢
  have hl : lv_has ls 1 [(0, .ref (ga (8 + ro)))] := hl
  refine lv_aload_n hx hb dX5_size_0 rfl (lv_at hl 0 rfl) ?_
  have hb_1 := (wf_rc hw (r := ro) hro).2
  refine va_get (D := D) (cl := cl) (ci := 5) (v := .int (nI (rc M ro))) (C := RX5) (T := TX5) (N := 2) hx hb hts hin5 hown hK hP (8 + ro) (wld_get (by omega) (E_ro ga cT cZ M hro)) rfl 1 (by decide) (hts (.fieldLink RX5 17 "Tenuredale$Row" "size" "I") (by decide +kernel)) (fun _ h9 => h9) (cg_i (wf_rc hw (r := ro) hro).1) dX5_size_1 ?_
  exact W.iret (v := nI (rc M ro)) hx hb hr (fun t ht hW => ⟨_, rfl, (by exact (wf_rc hw hro).1.symm), ht⟩) (fun q h => by cases h) dX5_size_4
set_option maxHeartbeats 4000000 in
set_option maxRecDepth 100000 in
/-- Tenuredale$Row.item -/
theorem cX5_item_ok (l : Launch) (ga : Nat → Nat) (n : Nat) (cT cZ : ClassId) (D : va_G) (M : cSt) (hw : cWF n M) (ro : Nat) (hro : ro < 7) (i : Int32)  : Met l yX5_item wsX5_item ({ frames := 0, cells := 0, slots := 0, locals := 0 }) (va_Pc [.ref (ga (8 + ro)), .int i] (cPu ga n cT cZ D M)) (va_Sq (fun z9 => ∃ o9 : Option Nat, z9 = o9.map (fun k => ga (25 + 2 * k)) ∧ o9 = f_item M ro i ∧ ∀ k, o9 = some k → k < n)) 0 0 (fun _ => False) := by
  refine Met.ofW (cc := cX5_item) (maxL := 2) (ret := (some (.object "Tenuredale$Thing"))) (by decide) rfl ?_
  intro p e s m args below meth c s₁ B hml hv
  obtain ⟨rfl, hP, hK, hD⟩ := hv
  have hx := B.exec
  have hb := B.bytes
  have hr := B.returns
  have hts := atoms_spec (ws := wsX5_item) B.pre
  have hown : s.vm.findClass RX5 = some m.cls := findClass_of_methodNamed B.named
  have hlocks := B.notSynchronized
  have hin5 : ∀ w ∈ u_ws RX5 TX5 2, w ∈ wsX5_item := by decide +kernel
  have hl := lv_entry ([.ref (ga (8 + ro)), .int i]) (n := 2) (Nat.le_of_ble_eq_true rfl)
  rw [lg_entry_eq]
  generalize (lg_sl ([.ref (ga (8 + ro)), .int i]) ++ List.replicate (2 - (lg_sl ([.ref (ga (8 + ro)), .int i])).length) Slot.unset).toArray = ls at hl ⊢
  have hl : lv_has ls 2 [(0, .ref (ga (8 + ro))), (1, .int i)] := hl
  refine lv_iload_n hx hb dX5_item_0 rfl (lv_at hl 1 rfl) ?_
  refine lv_if_lt (tgt := 30) hx hb dX5_item_1 (by decide) (fun c_1 => ?_) (fun c_1 => ?_)
  · skip
    refine lv_null hx hb dX5_item_30 ?_
    exact W.aret (v := va_rf ((none : Option Nat).map (fun k => ga (25 + 2 * k)))) hx hb hr (Or.inl ⟨_, rfl⟩) (va_rf_or _) (fun t ht hW => ⟨_, rfl, ⟨(none : Option Nat), rfl, (by first | (rw [f_item_nI _ _ _ (by omega), if_pos (by omega)]; exact (Eq.symm (by assumption))) | (rw [f_item_nI _ _ _ (by omega), if_neg (by omega)]) | exact (if_pos (by assumption)).symm), (fun _ h => by cases h)⟩, ht⟩) (fun q h => by cases h) dX5_item_31
  · skip
    obtain ⟨j1, hj1, rfl⟩ := nI_of c_1
    refine lv_iload_n hx hb dX5_item_4 rfl (lv_at hl 1 rfl) ?_
    refine lv_aload_n hx hb dX5_item_5 rfl (lv_at hl 0 rfl) ?_
    have hb_2 := (wf_rc hw (r := ro) hro).2
    refine va_get (D := D) (cl := cl) (ci := 5) (v := .int (nI (rc M ro))) (C := RX5) (T := TX5) (N := 2) hx hb hts hin5 hown hK hP (8 + ro) (wld_get (by omega) (E_ro ga cT cZ M hro)) rfl 1 (by decide) (hts (.fieldLink RX5 17 "Tenuredale$Row" "size" "I") (by decide +kernel)) (fun _ h9 => h9) (cg_i (wf_rc hw (r := ro) hro).1) dX5_item_6 ?_
    refine lv_icmp_ge (tgt := 30) hx hb dX5_item_9 (by decide) (fun c_9 => ?_) (fun c_9 => ?_)
    · skip
      have c_9 : rc M ro ≤ j1 := (nI_leI (a := rc M ro) (b := j1) (by omega) (by omega)).mp c_9
      refine lv_null hx hb dX5_item_30 ?_
      exact W.aret (v := va_rf ((none : Option Nat).map (fun k => ga (25 + 2 * k)))) hx hb hr (Or.inl ⟨_, rfl⟩) (va_rf_or _) (fun t ht hW => ⟨_, rfl, ⟨(none : Option Nat), rfl, (by first | (rw [f_item_nI _ _ _ (by omega), if_pos (by omega)]; exact (Eq.symm (by assumption))) | (rw [f_item_nI _ _ _ (by omega), if_neg (by omega)]) | exact (if_pos (by assumption)).symm), (fun _ h => by cases h)⟩, ht⟩) (fun q h => by cases h) dX5_item_31
    · skip
      have c_9 : ¬ rc M ro ≤ j1 := fun h9 => c_9 ((nI_leI (a := rc M ro) (b := j1) (by omega) (by omega)).mpr h9)
      refine lv_iload_n hx hb dX5_item_12 rfl (lv_at hl 1 rfl) ?_
      refine lv_aload_n hx hb dX5_item_13 rfl (lv_at hl 0 rfl) ?_
      refine va_get (D := D) (cl := cl) (ci := 5) (C := RX5) (T := TX5) (N := 2) hx hb hts hin5 hown hK hP (8 + ro) (wld_get (by omega) (E_ro ga cT cZ M hro)) rfl 0 (by decide) (hts (.fieldLink RX5 11 "Tenuredale$Row" "things" "[LTenuredale$Thing;") (by decide +kernel)) (fun _ h9 => h9) rfl dX5_item_14 ?_
      refine va_alen (D := D) (cl := cl) (v := nI 200) hx hb hK hP (15 + ro) 0 (wld_get (by omega) (E_rw ga cT cZ M hro)) rfl rfl dX5_item_17 ?_
      refine lv_icmp_ge (tgt := 30) hx hb dX5_item_18 (by decide) (fun c_18 => ?_) (fun c_18 => ?_)
      · skip
        have c_18 : 200 ≤ j1 := (nI_leI (a := 200) (b := j1) (by omega) (by omega)).mp c_18
        refine lv_null hx hb dX5_item_30 ?_
        exact W.aret (v := va_rf ((none : Option Nat).map (fun k => ga (25 + 2 * k)))) hx hb hr (Or.inl ⟨_, rfl⟩) (va_rf_or _) (fun t ht hW => ⟨_, rfl, ⟨(none : Option Nat), rfl, (by first | (rw [f_item_nI _ _ _ (by omega), if_pos (by omega)]; exact (Eq.symm (by assumption))) | (rw [f_item_nI _ _ _ (by omega), if_neg (by omega)]) | exact (if_pos (by assumption)).symm), (fun _ h => by cases h)⟩, ht⟩) (fun q h => by cases h) dX5_item_31
      · skip
        have c_18 : ¬ 200 ≤ j1 := fun h9 => c_18 ((nI_leI (a := 200) (b := j1) (by omega) (by omega)).mpr h9)
        refine lv_aload_n hx hb dX5_item_21 rfl (lv_at hl 0 rfl) ?_
        refine va_get (D := D) (cl := cl) (ci := 5) (C := RX5) (T := TX5) (N := 2) hx hb hts hin5 hown hK hP (8 + ro) (wld_get (by omega) (E_ro ga cT cZ M hro)) rfl 0 (by decide) (hts (.fieldLink RX5 11 "Tenuredale$Row" "things" "[LTenuredale$Thing;") (by decide +kernel)) (fun _ h9 => h9) rfl dX5_item_22 ?_
        refine lv_iload_n hx hb dX5_item_25 rfl (lv_at hl 1 rfl) ?_
        refine va_aldq (D := D) (cl := cl) hx hb hK hP (15 + ro) 0 (wld_get (by omega) (E_rw ga cT cZ M hro)) rfl (vp_in_nI (n := j1) (by omega) (by omega)) dX5_item_26 ?_
        rw [nI_clamp (n := j1) (by omega)]
        show W p l e _ s m _ below meth c _ _ _ _ _ (F0 m 27 ls (va_rf ((gR M ro j1).map (fun k => ga (25 + 2 * k))) :: _))
        refine w_split (o := gR M ro j1) (f := fun k => ga (25 + 2 * k)) (fun hq3 => ?_) (fun k4 hq3 => ?_)
        · skip
          refine lv_goto (tgt := 31) hx hb dX5_item_27 (by decide) ?_
          exact W.aret (v := va_rf ((none : Option Nat).map (fun k => ga (25 + 2 * k)))) hx hb hr (Or.inl ⟨_, rfl⟩) (va_rf_or _) (fun t ht hW => ⟨_, rfl, ⟨(none : Option Nat), rfl, (by first | (rw [f_item_nI _ _ _ (by omega), if_pos (by omega)]; exact (Eq.symm (by assumption))) | (rw [f_item_nI _ _ _ (by omega), if_neg (by omega)]) | exact (if_pos (by assumption)).symm), (fun _ h => by cases h)⟩, ht⟩) (fun q h => by cases h) dX5_item_31
        · have hk4 : k4 < n := hw.1 _ _ _ hq3
          refine lv_goto (tgt := 31) hx hb dX5_item_27 (by decide) ?_
          exact W.aret (v := va_rf ((some k4).map (fun k => ga (25 + 2 * k)))) hx hb hr (Or.inl ⟨_, rfl⟩) (va_rf_or _) (fun t ht hW => ⟨_, rfl, ⟨(some k4), rfl, (by first | (rw [f_item_nI _ _ _ (by omega), if_pos (by omega)]; exact (Eq.symm (by assumption))) | (rw [f_item_nI _ _ _ (by omega), if_neg (by omega)]) | exact (if_pos (by assumption)).symm), (fun _ h => by cases h; exact hk4)⟩, ht⟩) (fun q h => by cases h) dX5_item_31
set_option maxHeartbeats 4000000 in
set_option maxRecDepth 100000 in
/-- Tenuredale$Row.add -/
theorem cX5_add_ok (l : Launch) (ga : Nat → Nat) (n : Nat) (cT cZ : ClassId) (D : va_G) (M : cSt) (hw : cWF n M) (sz : Nat) (ro : Nat) (hro : ro < 7) (k : Nat) (hk : k < n)  : Met l yX5_add wsX5_add ({ frames := 0, cells := 0, slots := 0, locals := 0 }) (va_Pc [.ref (ga (8 + ro)), .ref (ga (25 + 2 * k))] (cPr ga n cT cZ D M sz)) (va_Qv (fun u9 : cSt => u9 = f_add M ro k ∧ cWF n u9) (cB ga n cT cZ D (cAA ga n sz)) (cAA ga n sz)) 0 0 (cAA ga n sz) := by
  refine Met.ofW (cc := cX5_add) (maxL := 2) (ret := none) (by decide) rfl ?_
  intro p e s m args below meth c s₁ B hml hv
  obtain ⟨rfl, hsz, hP, hK, hD0⟩ := hv
  have hx := B.exec
  have hb := B.bytes
  have hr := B.returns
  have hts := atoms_spec (ws := wsX5_add) B.pre
  have hown : s.vm.findClass RX5 = some m.cls := findClass_of_methodNamed B.named
  have hlocks := B.notSynchronized
  have hin5 : ∀ w ∈ u_ws RX5 TX5 2, w ∈ wsX5_add := by decide +kernel
  subst hsz
  have hD := wld_self (sz := s.heap.size) hD0
  generalize hAe : cAA ga n s.heap.size = A at hD ⊢
  have hA : ∀ q : Nat, s.heap.size ≤ q → A q := fun q h => by rw [← hAe]; exact Or.inr h
  have hS : va_S A s.heap s.heap [] := va_S.rf
  have hP : va_P D cl (wld ga n cT cZ M) s.heap := hP
  have hl := lv_entry ([.ref (ga (8 + ro)), .ref (ga (25 + 2 * k))]) (n := 2) (Nat.le_of_ble_eq_true rfl)
  rw [lg_entry_eq]
  generalize (lg_sl ([.ref (ga (8 + ro)), .ref (ga (25 + 2 * k))]) ++ List.replicate (2 - (lg_sl ([.ref (ga (8 + ro)), .ref (ga (25 + 2 * k))])).length) Slot.unset).toArray = ls at hl ⊢
  have hl : lv_has ls 2 [(0, .ref (ga (8 + ro))), (1, .ref (ga (25 + 2 * k)))] := hl
  refine lv_aload_n hx hb dX5_add_0 rfl (lv_at hl 0 rfl) ?_
  have hb_1 := (wf_rc hw (r := ro) hro).2
  refine va_get (D := D) (cl := cl) (ci := 5) (v := .int (nI (rc M ro))) (C := RX5) (T := TX5) (N := 2) hx hb hts hin5 hown hK hP (8 + ro) (wld_get (by omega) (E_ro ga cT cZ M hro)) rfl 1 (by decide) (hts (.fieldLink RX5 17 "Tenuredale$Row" "size" "I") (by decide +kernel)) (fun _ h9 => h9) (cg_i (wf_rc hw (r := ro) hro).1) dX5_add_1 ?_
  refine lv_if_lt (tgt := 39) hx hb dX5_add_4 (by decide) (fun c_4 => ?_) (fun c_4 => ?_)
  · skip
    have c_4 : rc M ro < 0 := (nI_ltI (a := rc M ro) (b := 0) (by omega) (by omega)).mp c_4
    exact W.vret hx hb hr (fun t ht hW => ⟨⟨_, rfl, ⟨(by first | exact (if_pos (by omega)).symm | exact (if_neg (by omega)).symm), hw⟩, by rw [ht]; exact hP, va_K.moved hW.alike hK, hD⟩, hS.F ht⟩) hS.2.2 dX5_add_39
  · skip
    have c_4 : ¬ rc M ro < 0 := fun h9 => c_4 ((nI_ltI (a := rc M ro) (b := 0) (by omega) (by omega)).mpr h9)
    refine lv_aload_n hx hb dX5_add_7 rfl (lv_at hl 0 rfl) ?_
    have hb_2 := (wf_rc hw (r := ro) hro).2
    refine va_get (D := D) (cl := cl) (ci := 5) (v := .int (nI (rc M ro))) (C := RX5) (T := TX5) (N := 2) hx hb hts hin5 hown hK hP (8 + ro) (wld_get (by omega) (E_ro ga cT cZ M hro)) rfl 1 (by decide) (hts (.fieldLink RX5 17 "Tenuredale$Row" "size" "I") (by decide +kernel)) (fun _ h9 => h9) (cg_i (wf_rc hw (r := ro) hro).1) dX5_add_8 ?_
    refine lv_aload_n hx hb dX5_add_11 rfl (lv_at hl 0 rfl) ?_
    refine va_get (D := D) (cl := cl) (ci := 5) (C := RX5) (T := TX5) (N := 2) hx hb hts hin5 hown hK hP (8 + ro) (wld_get (by omega) (E_ro ga cT cZ M hro)) rfl 0 (by decide) (hts (.fieldLink RX5 11 "Tenuredale$Row" "things" "[LTenuredale$Thing;") (by decide +kernel)) (fun _ h9 => h9) rfl dX5_add_12 ?_
    refine va_alen (D := D) (cl := cl) (v := nI 200) hx hb hK hP (15 + ro) 0 (wld_get (by omega) (E_rw ga cT cZ M hro)) rfl rfl dX5_add_15 ?_
    refine lv_icmp_ge (tgt := 39) hx hb dX5_add_16 (by decide) (fun c_16 => ?_) (fun c_16 => ?_)
    · skip
      have c_16 : 200 ≤ rc M ro := (nI_leI (a := 200) (b := rc M ro) (by omega) (by omega)).mp c_16
      exact W.vret hx hb hr (fun t ht hW => ⟨⟨_, rfl, ⟨(by first | exact (if_pos (by omega)).symm | exact (if_neg (by omega)).symm), hw⟩, by rw [ht]; exact hP, va_K.moved hW.alike hK, hD⟩, hS.F ht⟩) hS.2.2 dX5_add_39
    · skip
      have c_16 : ¬ 200 ≤ rc M ro := fun h9 => c_16 ((nI_leI (a := 200) (b := rc M ro) (by omega) (by omega)).mpr h9)
      refine lv_aload_n hx hb dX5_add_19 rfl (lv_at hl 0 rfl) ?_
      refine va_get (D := D) (cl := cl) (ci := 5) (C := RX5) (T := TX5) (N := 2) hx hb hts hin5 hown hK hP (8 + ro) (wld_get (by omega) (E_ro ga cT cZ M hro)) rfl 0 (by decide) (hts (.fieldLink RX5 11 "Tenuredale$Row" "things" "[LTenuredale$Thing;") (by decide +kernel)) (fun _ h9 => h9) rfl dX5_add_20 ?_
      refine lv_aload_n hx hb dX5_add_23 rfl (lv_at hl 0 rfl) ?_
      have hb_3 := (wf_rc hw (r := ro) hro).2
      refine va_get (D := D) (cl := cl) (ci := 5) (v := .int (nI (rc M ro))) (C := RX5) (T := TX5) (N := 2) hx hb hts hin5 hown hK hP (8 + ro) (wld_get (by omega) (E_ro ga cT cZ M hro)) rfl 1 (by decide) (hts (.fieldLink RX5 17 "Tenuredale$Row" "size" "I") (by decide +kernel)) (fun _ h9 => h9) (cg_i (wf_rc hw (r := ro) hro).1) dX5_add_24 ?_
      refine lv_aload_n hx hb dX5_add_27 rfl (lv_at hl 1 rfl) ?_
      refine va_astq (D := D) (cl := cl) (r := (RX7, TX7, 14)) hx hb hK hP hD hS (15 + ro) 0 (25 + 2 * k) 7 (wld_get (by omega) (E_rw ga cT cZ M hro)) rfl (wld_get (by omega) (E_th ga cT cZ M k)) rfl (vp_in_nI (n := rc M ro) (by omega) (by omega)) dX5_add_28 (fun H locs hP hD hS => ?_)
      rw [nI_clamp (n := rc M ro) (by omega)] at hP hD
      have hwM4 := wf_sR hw ro (rc M ro) (v := (some k)) (fun _ h => by cases h; exact hk)
      obtain ⟨M4, eM4⟩ : ∃ z, z = sR M ro (rc M ro) (some k) := ⟨_, rfl⟩
      have hP := cP_eq (wRr (r := ro) (v := (some k)) hro) hP; have hD := cD_eq (wRr (r := ro) (v := (some k)) hro) hD; rw [← eM4] at hP hD hwM4
      have hr_5 : rc M4 ro = rc M ro := by rw [eM4]; rfl
      refine lv_aload_n hx hb dX5_add_29 rfl (lv_at hl 0 rfl) ?_
      refine lv_dup hx hb dX5_add_30 rfl ?_
      have hb_6 := (wf_rc hwM4 (r := ro) hro).2
      refine va_get (D := D) (cl := cl) (ci := 5) (v := .int (nI (rc M4 ro))) (C := RX5) (T := TX5) (N := 2) hx hb hts hin5 hown hK hP (8 + ro) (wld_get (by omega) (E_ro ga cT cZ M4 hro)) rfl 1 (by decide) (hts (.fieldLink RX5 17 "Tenuredale$Row" "size" "I") (by decide +kernel)) (fun _ h9 => h9) (cg_i (wf_rc hwM4 (r := ro) hro).1) dX5_add_31 ?_
      refine lv_iconst (v := nI 1) hx hb dX5_add_34 (by decide) ?_
      refine lv_iadd hx hb dX5_add_35 ?_
      refine w_toeq (nI_add (rc M4 ro) 1) ?_
      refine va_put (D := D) (cl := cl) (ci := 5) (v := .int (nI (rc M4 ro + 1))) (ty := .int) (C := RX5) (T := TX5) (N := 2) hx hb hts hin5 tyX5 tyX5_ok nmX5 hown hK hP hD hS (8 + ro) (wld_get (by omega) (E_ro ga cT cZ M4 hro)) rfl 1 (by decide) (hts (.fieldLink RX5 17 "Tenuredale$Row" "size" "I") (by decide +kernel)) (fun _ h9 => h9) rfl (by decide +kernel) rfl rfl (Nat.le_of_ble_eq_true rfl) dX5_add_36 (fun H locs hP hD hS => ?_)
      have hwM7 := wf_sIrow hwM4 (r := ro) (c := rc M4 ro + 1) hro (by omega)
      obtain ⟨M7, eM7⟩ : ∃ z, z = sI M4 (10 + ro) (nI (rc M4 ro + 1)) := ⟨_, rfl⟩
      have hP := cP_eq (wIr (r := ro) hro) hP; have hD := cD_eq (wIr (r := ro) hro) hD; rw [← eM7] at hP hD hwM7
      have hr_8 : rc M7 ro = rc M4 ro + 1 := by rw [eM7]; exact rc_sI _ _ _ (by omega)
      exact W.vret hx hb hr (fun t ht hW => ⟨⟨_, rfl, ⟨(by subst eM7; subst eM4; first | exact (if_pos (by omega)).symm | exact (if_neg (by omega)).symm), hwM7⟩, by rw [ht]; exact hP, va_K.moved hW.alike hK, hD⟩, hS.F ht⟩) hS.2.2 dX5_add_39
set_option maxHeartbeats 4000000 in
set_option maxRecDepth 100000 in
/-- Tenuredale$Row.clear -/
theorem cX5_clear_ok (l : Launch) (ga : Nat → Nat) (n : Nat) (cT cZ : ClassId) (D : va_G) (M : cSt) (hw : cWF n M) (sz : Nat) (ro : Nat) (hro : ro < 7)  : Met l yX5_clear wsX5_clear ({ frames := 0, cells := 0, slots := 0, locals := 0 }) (va_Pc [.ref (ga (8 + ro))] (cPr ga n cT cZ D M sz)) (va_Qv (fun u9 : cSt => u9 = f_clear M ro ∧ cWF n u9) (cB ga n cT cZ D (cAA ga n sz)) (cAA ga n sz)) 0 0 (cAA ga n sz) := by
  refine Met.ofW (cc := cX5_clear) (maxL := 1) (ret := none) (by decide) rfl ?_
  intro p e s m args below meth c s₁ B hml hv
  obtain ⟨rfl, hsz, hP, hK, hD0⟩ := hv
  have hx := B.exec
  have hb := B.bytes
  have hr := B.returns
  have hts := atoms_spec (ws := wsX5_clear) B.pre
  have hown : s.vm.findClass RX5 = some m.cls := findClass_of_methodNamed B.named
  have hlocks := B.notSynchronized
  have hin5 : ∀ w ∈ u_ws RX5 TX5 2, w ∈ wsX5_clear := by decide +kernel
  subst hsz
  have hD := wld_self (sz := s.heap.size) hD0
  generalize hAe : cAA ga n s.heap.size = A at hD ⊢
  have hA : ∀ q : Nat, s.heap.size ≤ q → A q := fun q h => by rw [← hAe]; exact Or.inr h
  have hS : va_S A s.heap s.heap [] := va_S.rf
  have hP : va_P D cl (wld ga n cT cZ M) s.heap := hP
  have hl := lv_entry ([.ref (ga (8 + ro))]) (n := 1) (Nat.le_of_ble_eq_true rfl)
  rw [lg_entry_eq]
  generalize (lg_sl ([.ref (ga (8 + ro))]) ++ List.replicate (1 - (lg_sl ([.ref (ga (8 + ro))])).length) Slot.unset).toArray = ls at hl ⊢
  have hl : lv_has ls 1 [(0, .ref (ga (8 + ro)))] := hl
  refine lv_aload_n hx hb dX5_clear_0 rfl (lv_at hl 0 rfl) ?_
  refine lv_iconst (v := nI 0) hx hb dX5_clear_1 (by decide) ?_
  refine va_put (D := D) (cl := cl) (ci := 5) (v := .int (nI 0)) (ty := .int) (C := RX5) (T := TX5) (N := 2) hx hb hts hin5 tyX5 tyX5_ok nmX5 hown hK hP hD hS (8 + ro) (wld_get (by omega) (E_ro ga cT cZ M hro)) rfl 1 (by decide) (hts (.fieldLink RX5 17 "Tenuredale$Row" "size" "I") (by decide +kernel)) (fun _ h9 => h9) rfl (by decide +kernel) rfl rfl (Nat.le_of_ble_eq_true rfl) dX5_clear_2 (fun H locs hP hD hS => ?_)
  have hwM1 := wf_sIrow hw (r := ro) (c := 0) hro (by omega)
  obtain ⟨M1, eM1⟩ : ∃ z, z = sI M (10 + ro) (nI 0) := ⟨_, rfl⟩
  have hP := cP_eq (wIr (r := ro) hro) hP; have hD := cD_eq (wIr (r := ro) hro) hD; rw [← eM1] at hP hD hwM1
  have hr_2 : rc M1 ro = 0 := by rw [eM1]; exact rc_sI _ _ _ (by omega)
  exact W.vret hx hb hr (fun t ht hW => ⟨⟨_, rfl, ⟨(by subst eM1; first | rfl | (simp []; done) | (simp [] <;> omega)), hwM1⟩, by rw [ht]; exact hP, va_K.moved hW.alike hK, hD⟩, hS.F ht⟩) hS.2.2 dX5_clear_5
set_option maxHeartbeats 4000000 in
set_option maxRecDepth 100000 in
/-- Tenuredale$Row.words -/
theorem cX5_words_ok (l : Launch) (ga : Nat → Nat) (n : Nat) (cT cZ : ClassId) (D : va_G) (M : cSt) (hw : cWF n M) (ro : Nat) (hro : ro < 7)  : Met l yX5_words wsX5_words ({ frames := 0, cells := 0, slots := 0, locals := 0 }) (va_Pc [.ref (ga (8 + ro))] (cPu ga n cT cZ D M)) (vp_Si (fun z9 => z9 = f_words M ro)) 0 0 (fun _ => False) := by
  refine Met.ofW (cc := cX5_words) (maxL := 4) (ret := (some .int)) (by decide) rfl ?_
  intro p e s m args below meth c s₁ B hml hv
  obtain ⟨rfl, hP, hK, hD⟩ := hv
  have hx := B.exec
  have hb := B.bytes
  have hr := B.returns
  have hts := atoms_spec (ws := wsX5_words) B.pre
  have hown : s.vm.findClass RX5 = some m.cls := findClass_of_methodNamed B.named
  have hlocks := B.notSynchronized
  have hin5 : ∀ w ∈ u_ws RX5 TX5 2, w ∈ wsX5_words := by decide +kernel
  have hin7 : ∀ w ∈ u_ws RX7 TX7 14, w ∈ wsX5_words := by decide +kernel
  have hl := lv_entry ([.ref (ga (8 + ro))]) (n := 4) (Nat.le_of_ble_eq_true rfl)
  rw [lg_entry_eq]
  generalize (lg_sl ([.ref (ga (8 + ro))]) ++ List.replicate (4 - (lg_sl ([.ref (ga (8 + ro))])).length) Slot.unset).toArray = ls at hl ⊢
  have hl : lv_has ls 4 [(0, .ref (ga (8 + ro)))] := hl
  refine lv_iconst (v := nI 0) hx hb dX5_words_0 (by decide) ?_
  refine lv_istore_n (lv' := [(1, .int (nI 0)), (0, .ref (ga (8 + ro)))]) hx hb dX5_words_1 rfl hl (by decide) rfl (fun ls hl => ?_)
  refine lv_iconst (v := nI 0) hx hb dX5_words_2 (by decide) ?_
  refine lv_istore_n (lv' := [(2, .int (nI 0)), (1, .int (nI 0)), (0, .ref (ga (8 + ro)))]) hx hb dX5_words_3 rfl hl (by decide) rfl (fun ls hl => ?_)
  refine w_loopP (σ := Nat × Int32) (I := fun x ls => match x with | (j, w) => (j ≤ rc M ro) ∧ (w = nfo (fun j w => match gR M ro j with | some k => w + gT M k 5 | none => w) j (nI 0)) ∧ lv_has ls 4 [(2, .int (nI (j))), (1, .int w), (0, .ref (ga (8 + ro)))]) (μ := fun x => match x with | (j, w) => rc M ro - j) ?_ (0, nI 0) ⟨Nat.zero_le _, rfl, lv_sub hl [0, 1, 2] rfl⟩
  rintro ⟨j, w⟩ ls ⟨hj, hv, hl⟩ ih
  refine lv_iload_n hx hb dX5_words_4 rfl (lv_at hl 0 rfl) ?_
  refine lv_aload_n hx hb dX5_words_5 rfl (lv_at hl 2 rfl) ?_
  have hb_1 := (wf_rc hw (r := ro) hro).2
  refine va_get (D := D) (cl := cl) (ci := 5) (v := .int (nI (rc M ro))) (C := RX5) (T := TX5) (N := 2) hx hb hts hin5 hown hK hP (8 + ro) (wld_get (by omega) (E_ro ga cT cZ M hro)) rfl 1 (by decide) (hts (.fieldLink RX5 17 "Tenuredale$Row" "size" "I") (by decide +kernel)) (fun _ h9 => h9) (cg_i (wf_rc hw (r := ro) hro).1) dX5_words_6 ?_
  refine lv_icmp_ge (tgt := 45) hx hb dX5_words_9 (by decide) (fun c_9 => ?_) (fun c_9 => ?_)
  · skip
    have c_9 : rc M ro ≤ j := (nI_leI (a := rc M ro) (b := j) (by omega) (by omega)).mp c_9
    refine lv_iload_n hx hb dX5_words_45 rfl (lv_at hl 1 rfl) ?_
    exact W.iret (v := w) hx hb hr (fun t ht hW => ⟨_, rfl, (by first | (exfalso; omega) | (rw [hv, show j = rc M ro from by omega]; rfl)), ht⟩) (fun q h => by cases h) dX5_words_46
  · skip
    have c_9 : ¬ rc M ro ≤ j := fun h9 => c_9 ((nI_leI (a := rc M ro) (b := j) (by omega) (by omega)).mpr h9)
    refine lv_iload_n hx hb dX5_words_12 rfl (lv_at hl 0 rfl) ?_
    refine lv_aload_n hx hb dX5_words_13 rfl (lv_at hl 2 rfl) ?_
    refine va_get (D := D) (cl := cl) (ci := 5) (C := RX5) (T := TX5) (N := 2) hx hb hts hin5 hown hK hP (8 + ro) (wld_get (by omega) (E_ro ga cT cZ M hro)) rfl 0 (by decide) (hts (.fieldLink RX5 11 "Tenuredale$Row" "things" "[LTenuredale$Thing;") (by decide +kernel)) (fun _ h9 => h9) rfl dX5_words_14 ?_
    refine va_alen (D := D) (cl := cl) (v := nI 200) hx hb hK hP (15 + ro) 0 (wld_get (by omega) (E_rw ga cT cZ M hro)) rfl rfl dX5_words_17 ?_
    refine lv_icmp_ge (tgt := 45) hx hb dX5_words_18 (by decide) (fun c_18 => ?_) (fun c_18 => ?_)
    · skip
      have c_18 : 200 ≤ j := (nI_leI (a := 200) (b := j) (by omega) (by omega)).mp c_18
      refine lv_iload_n hx hb dX5_words_45 rfl (lv_at hl 1 rfl) ?_
      exact W.iret (v := w) hx hb hr (fun t ht hW => ⟨_, rfl, (by first | (exfalso; omega) | (rw [hv, show j = rc M ro from by omega]; rfl)), ht⟩) (fun q h => by cases h) dX5_words_46
    · skip
      have c_18 : ¬ 200 ≤ j := fun h9 => c_18 ((nI_leI (a := 200) (b := j) (by omega) (by omega)).mpr h9)
      refine lv_aload_n hx hb dX5_words_21 rfl (lv_at hl 2 rfl) ?_
      refine va_get (D := D) (cl := cl) (ci := 5) (C := RX5) (T := TX5) (N := 2) hx hb hts hin5 hown hK hP (8 + ro) (wld_get (by omega) (E_ro ga cT cZ M hro)) rfl 0 (by decide) (hts (.fieldLink RX5 11 "Tenuredale$Row" "things" "[LTenuredale$Thing;") (by decide +kernel)) (fun _ h9 => h9) rfl dX5_words_22 ?_
      refine lv_iload_n hx hb dX5_words_25 rfl (lv_at hl 0 rfl) ?_
      refine va_aldq (D := D) (cl := cl) hx hb hK hP (15 + ro) 0 (wld_get (by omega) (E_rw ga cT cZ M hro)) rfl (vp_in_nI (n := j) (by omega) (by omega)) dX5_words_26 ?_
      rw [nI_clamp (n := j) (by omega)]
      show W p l e _ s m _ below meth c _ _ _ _ _ (F0 m 27 ls (va_rf ((gR M ro j).map (fun k => ga (25 + 2 * k))) :: _))
      refine w_split (o := gR M ro j) (f := fun k => ga (25 + 2 * k)) (fun hq2 => ?_) (fun k3 hq2 => ?_)
      · skip
        refine lv_astore_nN (lv' := [(3, .null), (2, .int (nI (j))), (1, .int w), (0, .ref (ga (8 + ro)))]) hx hb dX5_words_27 rfl hl (by decide) rfl (fun ls hl => ?_)
        refine lv_aload_nN hx hb dX5_words_28 rfl (lv_at hl 0 rfl) ?_
        refine lv_ifnullN (tgt := 39) hx hb dX5_words_29 (by decide) ?_
        refine lv_iinc (v := nI (j + 1)) (lv' := [(2, .int (nI (j + 1))), (3, .null), (1, .int w), (0, .ref (ga (8 + ro)))]) hx hb dX5_words_39 hl (k := 1) rfl (nI_1 j) (by decide) rfl (fun ls hl => ?_)
        refine lv_goto (tgt := 4) hx hb dX5_words_42 (by decide) ?_
        exact ih (j + 1, w) ls (by dsimp only; omega) ⟨(by omega), (by rw [nfo_s, ← hv]; simp [hj, hv, c_9, c_18, hq2]), lv_sub hl [0, 2, 3] rfl⟩
      · have hk3 : k3 < n := hw.1 _ _ _ hq2
        refine lv_astore_n (lv' := [(3, .ref (ga (25 + 2 * k3))), (2, .int (nI (j))), (1, .int w), (0, .ref (ga (8 + ro)))]) hx hb dX5_words_27 rfl hl (by decide) rfl (fun ls hl => ?_)
        refine lv_aload_n hx hb dX5_words_28 rfl (lv_at hl 0 rfl) ?_
        refine lv_ifnull hx hb dX5_words_29 ?_
        refine lv_iload_n hx hb dX5_words_32 rfl (lv_at hl 2 rfl) ?_
        refine lv_aload_n hx hb dX5_words_33 rfl (lv_at hl 0 rfl) ?_
        refine va_get (D := D) (cl := cl) (ci := 7) (C := RX7) (T := TX7) (N := 14) hx hb hts hin7 hown hK hP (25 + 2 * k3) (wld_get (by omega) (E_th ga cT cZ M k3)) rfl 5 (by decide) (hts (.fieldLink RX5 35 "Tenuredale$Thing" "size" "I") (by decide +kernel)) (fun _ h9 => h9) rfl dX5_words_34 ?_
        refine lv_iadd hx hb dX5_words_37 ?_
        refine lv_istore_n (lv' := [(1, .int (w + (gT M k3 5))), (3, .ref (ga (25 + 2 * k3))), (2, .int (nI (j))), (0, .ref (ga (8 + ro)))]) hx hb dX5_words_38 rfl hl (by decide) rfl (fun ls hl => ?_)
        refine lv_iinc (v := nI (j + 1)) (lv' := [(2, .int (nI (j + 1))), (1, .int (w + (gT M k3 5))), (3, .ref (ga (25 + 2 * k3))), (0, .ref (ga (8 + ro)))]) hx hb dX5_words_39 hl (k := 2) rfl (nI_1 j) (by decide) rfl (fun ls hl => ?_)
        refine lv_goto (tgt := 4) hx hb dX5_words_42 (by decide) ?_
        exact ih (j + 1, w + (gT M k3 5)) ls (by dsimp only; omega) ⟨(by omega), (by rw [nfo_s, ← hv]; simp [hj, hv, c_9, c_18, hq2]), lv_sub hl [0, 1, 3] rfl⟩
set_option maxHeartbeats 4000000 in
set_option maxRecDepth 100000 in
/-- Tenuredale$Row.pinned -/
theorem cX5_pinned_ok (l : Launch) (ga : Nat → Nat) (n : Nat) (cT cZ : ClassId) (D : va_G) (M : cSt) (hw : cWF n M) (ro : Nat) (hro : ro < 7)  : Met l yX5_pinned wsX5_pinned ({ frames := 0, cells := 0, slots := 0, locals := 0 }) (va_Pc [.ref (ga (8 + ro))] (cPu ga n cT cZ D M)) (vp_Si (fun z9 => z9 = nI (f_pinned M ro))) 0 0 (fun _ => False) := by
  refine Met.ofW (cc := cX5_pinned) (maxL := 4) (ret := (some .int)) (by decide) rfl ?_
  intro p e s m args below meth c s₁ B hml hv
  obtain ⟨rfl, hP, hK, hD⟩ := hv
  have hx := B.exec
  have hb := B.bytes
  have hr := B.returns
  have hts := atoms_spec (ws := wsX5_pinned) B.pre
  have hown : s.vm.findClass RX5 = some m.cls := findClass_of_methodNamed B.named
  have hlocks := B.notSynchronized
  have hin5 : ∀ w ∈ u_ws RX5 TX5 2, w ∈ wsX5_pinned := by decide +kernel
  have hin7 : ∀ w ∈ u_ws RX7 TX7 14, w ∈ wsX5_pinned := by decide +kernel
  have hl := lv_entry ([.ref (ga (8 + ro))]) (n := 4) (Nat.le_of_ble_eq_true rfl)
  rw [lg_entry_eq]
  generalize (lg_sl ([.ref (ga (8 + ro))]) ++ List.replicate (4 - (lg_sl ([.ref (ga (8 + ro))])).length) Slot.unset).toArray = ls at hl ⊢
  have hl : lv_has ls 4 [(0, .ref (ga (8 + ro)))] := hl
  refine lv_iconst (v := nI 0) hx hb dX5_pinned_0 (by decide) ?_
  refine lv_istore_n (lv' := [(1, .int (nI 0)), (0, .ref (ga (8 + ro)))]) hx hb dX5_pinned_1 rfl hl (by decide) rfl (fun ls hl => ?_)
  refine lv_iconst (v := nI 0) hx hb dX5_pinned_2 (by decide) ?_
  refine lv_istore_n (lv' := [(2, .int (nI 0)), (1, .int (nI 0)), (0, .ref (ga (8 + ro)))]) hx hb dX5_pinned_3 rfl hl (by decide) rfl (fun ls hl => ?_)
  refine w_loopP (σ := Nat × Nat) (I := fun x ls => match x with | (j, w) => (j ≤ rc M ro) ∧ (w = nfo (fun j w => match gR M ro j with | some k => if gT M k 9 = 0 then w else w + 1 | none => w) j 0) ∧ (w ≤ j) ∧ lv_has ls 4 [(2, .int (nI (j))), (1, .int (nI (w))), (0, .ref (ga (8 + ro)))]) (μ := fun x => match x with | (j, w) => rc M ro - j) ?_ (0, 0) ⟨Nat.zero_le _, rfl, Nat.le_refl _, lv_sub hl [0, 1, 2] rfl⟩
  rintro ⟨j, w⟩ ls ⟨hj, hv, hwj, hl⟩ ih
  refine lv_iload_n hx hb dX5_pinned_4 rfl (lv_at hl 0 rfl) ?_
  refine lv_aload_n hx hb dX5_pinned_5 rfl (lv_at hl 2 rfl) ?_
  have hb_1 := (wf_rc hw (r := ro) hro).2
  refine va_get (D := D) (cl := cl) (ci := 5) (v := .int (nI (rc M ro))) (C := RX5) (T := TX5) (N := 2) hx hb hts hin5 hown hK hP (8 + ro) (wld_get (by omega) (E_ro ga cT cZ M hro)) rfl 1 (by decide) (hts (.fieldLink RX5 17 "Tenuredale$Row" "size" "I") (by decide +kernel)) (fun _ h9 => h9) (cg_i (wf_rc hw (r := ro) hro).1) dX5_pinned_6 ?_
  refine lv_icmp_ge (tgt := 48) hx hb dX5_pinned_9 (by decide) (fun c_9 => ?_) (fun c_9 => ?_)
  · skip
    have c_9 : rc M ro ≤ j := (nI_leI (a := rc M ro) (b := j) (by omega) (by omega)).mp c_9
    refine lv_iload_n hx hb dX5_pinned_48 rfl (lv_at hl 1 rfl) ?_
    exact W.iret (v := nI (w)) hx hb hr (fun t ht hW => ⟨_, rfl, (by first | (exfalso; omega) | (rw [hv, show j = rc M ro from by omega]; rfl)), ht⟩) (fun q h => by cases h) dX5_pinned_49
  · skip
    have c_9 : ¬ rc M ro ≤ j := fun h9 => c_9 ((nI_leI (a := rc M ro) (b := j) (by omega) (by omega)).mpr h9)
    refine lv_iload_n hx hb dX5_pinned_12 rfl (lv_at hl 0 rfl) ?_
    refine lv_aload_n hx hb dX5_pinned_13 rfl (lv_at hl 2 rfl) ?_
    refine va_get (D := D) (cl := cl) (ci := 5) (C := RX5) (T := TX5) (N := 2) hx hb hts hin5 hown hK hP (8 + ro) (wld_get (by omega) (E_ro ga cT cZ M hro)) rfl 0 (by decide) (hts (.fieldLink RX5 11 "Tenuredale$Row" "things" "[LTenuredale$Thing;") (by decide +kernel)) (fun _ h9 => h9) rfl dX5_pinned_14 ?_
    refine va_alen (D := D) (cl := cl) (v := nI 200) hx hb hK hP (15 + ro) 0 (wld_get (by omega) (E_rw ga cT cZ M hro)) rfl rfl dX5_pinned_17 ?_
    refine lv_icmp_ge (tgt := 48) hx hb dX5_pinned_18 (by decide) (fun c_18 => ?_) (fun c_18 => ?_)
    · skip
      have c_18 : 200 ≤ j := (nI_leI (a := 200) (b := j) (by omega) (by omega)).mp c_18
      refine lv_iload_n hx hb dX5_pinned_48 rfl (lv_at hl 1 rfl) ?_
      exact W.iret (v := nI (w)) hx hb hr (fun t ht hW => ⟨_, rfl, (by first | (exfalso; omega) | (rw [hv, show j = rc M ro from by omega]; rfl)), ht⟩) (fun q h => by cases h) dX5_pinned_49
    · skip
      have c_18 : ¬ 200 ≤ j := fun h9 => c_18 ((nI_leI (a := 200) (b := j) (by omega) (by omega)).mpr h9)
      refine lv_aload_n hx hb dX5_pinned_21 rfl (lv_at hl 2 rfl) ?_
      refine va_get (D := D) (cl := cl) (ci := 5) (C := RX5) (T := TX5) (N := 2) hx hb hts hin5 hown hK hP (8 + ro) (wld_get (by omega) (E_ro ga cT cZ M hro)) rfl 0 (by decide) (hts (.fieldLink RX5 11 "Tenuredale$Row" "things" "[LTenuredale$Thing;") (by decide +kernel)) (fun _ h9 => h9) rfl dX5_pinned_22 ?_
      refine lv_iload_n hx hb dX5_pinned_25 rfl (lv_at hl 0 rfl) ?_
      refine va_aldq (D := D) (cl := cl) hx hb hK hP (15 + ro) 0 (wld_get (by omega) (E_rw ga cT cZ M hro)) rfl (vp_in_nI (n := j) (by omega) (by omega)) dX5_pinned_26 ?_
      rw [nI_clamp (n := j) (by omega)]
      show W p l e _ s m _ below meth c _ _ _ _ _ (F0 m 27 ls (va_rf ((gR M ro j).map (fun k => ga (25 + 2 * k))) :: _))
      refine w_split (o := gR M ro j) (f := fun k => ga (25 + 2 * k)) (fun hq2 => ?_) (fun k3 hq2 => ?_)
      · skip
        refine lv_astore_nN (lv' := [(3, .null), (2, .int (nI (j))), (1, .int (nI (w))), (0, .ref (ga (8 + ro)))]) hx hb dX5_pinned_27 rfl hl (by decide) rfl (fun ls hl => ?_)
        refine lv_aload_nN hx hb dX5_pinned_28 rfl (lv_at hl 0 rfl) ?_
        refine lv_ifnullN (tgt := 42) hx hb dX5_pinned_29 (by decide) ?_
        refine lv_iinc (v := nI (j + 1)) (lv' := [(2, .int (nI (j + 1))), (3, .null), (1, .int (nI (w))), (0, .ref (ga (8 + ro)))]) hx hb dX5_pinned_42 hl (k := 1) rfl (nI_1 j) (by decide) rfl (fun ls hl => ?_)
        refine lv_goto (tgt := 4) hx hb dX5_pinned_45 (by decide) ?_
        exact ih (j + 1, w) ls (by dsimp only; omega) ⟨(by omega), (by rw [nfo_s, ← hv]; simp_all), (by omega), lv_sub hl [0, 2, 3] rfl⟩
      · have hk3 : k3 < n := hw.1 _ _ _ hq2
        refine lv_astore_n (lv' := [(3, .ref (ga (25 + 2 * k3))), (2, .int (nI (j))), (1, .int (nI (w))), (0, .ref (ga (8 + ro)))]) hx hb dX5_pinned_27 rfl hl (by decide) rfl (fun ls hl => ?_)
        refine lv_aload_n hx hb dX5_pinned_28 rfl (lv_at hl 0 rfl) ?_
        refine lv_ifnull hx hb dX5_pinned_29 ?_
        refine lv_aload_n hx hb dX5_pinned_32 rfl (lv_at hl 0 rfl) ?_
        refine va_get (D := D) (cl := cl) (ci := 7) (C := RX7) (T := TX7) (N := 14) hx hb hts hin7 hown hK hP (25 + 2 * k3) (wld_get (by omega) (E_th ga cT cZ M k3)) rfl 9 (by decide) (hts (.fieldLink RX5 36 "Tenuredale$Thing" "isPinned" "Z") (by decide +kernel)) (fun _ h9 => h9) rfl dX5_pinned_33 ?_
        refine lv_if_eq (tgt := 42) hx hb dX5_pinned_36 (by decide) (fun c_36 => ?_) (fun c_36 => ?_)
        · skip
          refine lv_iinc (v := nI (j + 1)) (lv' := [(2, .int (nI (j + 1))), (3, .ref (ga (25 + 2 * k3))), (1, .int (nI (w))), (0, .ref (ga (8 + ro)))]) hx hb dX5_pinned_42 hl (k := 1) rfl (nI_1 j) (by decide) rfl (fun ls hl => ?_)
          refine lv_goto (tgt := 4) hx hb dX5_pinned_45 (by decide) ?_
          exact ih (j + 1, w) ls (by dsimp only; omega) ⟨(by omega), (by rw [nfo_s, ← hv]; simp_all), (by omega), lv_sub hl [0, 2, 3] rfl⟩
        · skip
          refine lv_iinc (v := nI (w + 1)) (lv' := [(1, .int (nI (w + 1))), (3, .ref (ga (25 + 2 * k3))), (2, .int (nI (j))), (0, .ref (ga (8 + ro)))]) hx hb dX5_pinned_39 hl (k := 2) rfl (nI_1 w) (by decide) rfl (fun ls hl => ?_)
          refine lv_iinc (v := nI (j + 1)) (lv' := [(2, .int (nI (j + 1))), (1, .int (nI (w + 1))), (3, .ref (ga (25 + 2 * k3))), (0, .ref (ga (8 + ro)))]) hx hb dX5_pinned_42 hl (k := 2) rfl (nI_1 j) (by decide) rfl (fun ls hl => ?_)
          refine lv_goto (tgt := 4) hx hb dX5_pinned_45 (by decide) ?_
          exact ih (j + 1, w + 1) ls (by dsimp only; omega) ⟨(by omega), (by rw [nfo_s, ← hv]; simp_all), (by omega), lv_sub hl [0, 1, 3] rfl⟩
set_option maxHeartbeats 4000000 in
set_option maxRecDepth 100000 in
/-- Tenuredale$Row.keepOnly -/
theorem cX5_keepOnly_ok (l : Launch) (ga : Nat → Nat) (n : Nat) (cT cZ : ClassId) (D : va_G) (M : cSt) (hw : cWF n M) (sz : Nat) (ro : Nat) (hro : ro < 7) (pl : Int32)  : Met l yX5_keepOnly wsX5_keepOnly ({ frames := 1, cells := 0, slots := 0, locals := 21 }) (va_Pc [.ref (ga (8 + ro)), .int pl] (cPr ga n cT cZ D M sz)) (va_Qv (fun u9 : cSt => u9 = f_keepOnly M ro pl ∧ cWF n u9) (cB ga n cT cZ D (cAA ga n sz)) (cAA ga n sz)) 0 0 (cAA ga n sz) := by
  refine Met.ofW (cc := cX5_keepOnly) (maxL := 5) (ret := none) (by decide) rfl ?_
  intro p e s m args below meth c s₁ B hml hv
  obtain ⟨rfl, hsz, hP, hK, hD0⟩ := hv
  have hx := B.exec
  have hb := B.bytes
  have hr := B.returns
  have hts := atoms_spec (ws := wsX5_keepOnly) B.pre
  have hown : s.vm.findClass RX5 = some m.cls := findClass_of_methodNamed B.named
  have hlocks := B.notSynchronized
  have hin5 : ∀ w ∈ u_ws RX5 TX5 2, w ∈ wsX5_keepOnly := by decide +kernel
  have hin7 : ∀ w ∈ u_ws RX7 TX7 14, w ∈ wsX5_keepOnly := by decide +kernel
  subst hsz
  have hD := wld_self (sz := s.heap.size) hD0
  generalize hAe : cAA ga n s.heap.size = A at hD ⊢
  have hA : ∀ q : Nat, s.heap.size ≤ q → A q := fun q h => by rw [← hAe]; exact Or.inr h
  have hS : va_S A s.heap s.heap [] := va_S.rf
  have hP : va_P D cl (wld ga n cT cZ M) s.heap := hP
  have hl := lv_entry ([.ref (ga (8 + ro)), .int pl]) (n := 5) (Nat.le_of_ble_eq_true rfl)
  rw [lg_entry_eq]
  generalize (lg_sl ([.ref (ga (8 + ro)), .int pl]) ++ List.replicate (5 - (lg_sl ([.ref (ga (8 + ro)), .int pl])).length) Slot.unset).toArray = ls at hl ⊢
  have hl : lv_has ls 5 [(0, .ref (ga (8 + ro))), (1, .int pl)] := hl
  refine lv_aload_n hx hb dX5_keepOnly_0 rfl (lv_at hl 0 rfl) ?_
  have hb_1 := (wf_rc hw (r := ro) hro).2
  refine va_get (D := D) (cl := cl) (ci := 5) (v := .int (nI (rc M ro))) (C := RX5) (T := TX5) (N := 2) hx hb hts hin5 hown hK hP (8 + ro) (wld_get (by omega) (E_ro ga cT cZ M hro)) rfl 1 (by decide) (hts (.fieldLink RX5 17 "Tenuredale$Row" "size" "I") (by decide +kernel)) (fun _ h9 => h9) (cg_i (wf_rc hw (r := ro) hro).1) dX5_keepOnly_1 ?_
  refine lv_istore_n (lv' := [(2, .int (nI (rc M ro))), (0, .ref (ga (8 + ro))), (1, .int pl)]) hx hb dX5_keepOnly_4 rfl hl (by decide) rfl (fun ls hl => ?_)
  refine lv_aload_n hx hb dX5_keepOnly_5 rfl (lv_at hl 1 rfl) ?_
  refine lv_iconst (v := nI 0) hx hb dX5_keepOnly_6 (by decide) ?_
  refine va_put (D := D) (cl := cl) (ci := 5) (v := .int (nI 0)) (ty := .int) (C := RX5) (T := TX5) (N := 2) hx hb hts hin5 tyX5 tyX5_ok nmX5 hown hK hP hD hS (8 + ro) (wld_get (by omega) (E_ro ga cT cZ M hro)) rfl 1 (by decide) (hts (.fieldLink RX5 17 "Tenuredale$Row" "size" "I") (by decide +kernel)) (fun _ h9 => h9) rfl (by decide +kernel) rfl rfl (Nat.le_of_ble_eq_true rfl) dX5_keepOnly_7 (fun H locs hP hD hS => ?_)
  have hwM2 := wf_sIrow hw (r := ro) (c := 0) hro (by omega)
  obtain ⟨M2, eM2⟩ : ∃ z, z = sI M (10 + ro) (nI 0) := ⟨_, rfl⟩
  have hP := cP_eq (wIr (r := ro) hro) hP; have hD := cD_eq (wIr (r := ro) hro) hD; rw [← eM2] at hP hD hwM2
  have hr_3 : rc M2 ro = 0 := by rw [eM2]; exact rc_sI _ _ _ (by omega)
  refine lv_iconst (v := nI 0) hx hb dX5_keepOnly_10 (by decide) ?_
  refine lv_istore_n (lv' := [(3, .int (nI 0)), (2, .int (nI (rc M ro))), (0, .ref (ga (8 + ro))), (1, .int pl)]) hx hb dX5_keepOnly_11 rfl hl (by decide) rfl (fun ls hl => ?_)
  refine w_loop (σ := Nat × cSt) (I := fun x H locs ls => match x with | (j, M2) => (j ≤ rc M ro) ∧ (M2 = nfo (f_keep pl ro) j (sI M (10 + ro) (nI 0))) ∧ (rc M2 ro ≤ j) ∧ cWF n M2 ∧ va_P D cl (wld ga n cT cZ M2) H ∧ va_D A (wld ga n cT cZ M2) ∧ va_S A s.heap H locs ∧ lv_has ls 5 [(3, .int (nI (j))), (2, .int (nI (rc M ro))), (0, .ref (ga (8 + ro))), (1, .int pl)]) (μ := fun x => match x with | (j, M2) => rc M ro - j) ?_ (0, M2) ⟨Nat.zero_le _, (by assumption), (by omega), hwM2, hP, hD, hS, lv_sub hl [0, 1, 2, 3] rfl⟩
  rintro ⟨j, M2⟩ H locs ls ⟨hj, hM2, hrj, hwM2, hP, hD, hS, hl⟩ ih
  refine lv_iload_n hx hb dX5_keepOnly_12 rfl (lv_at hl 0 rfl) ?_
  refine lv_iload_n hx hb dX5_keepOnly_13 rfl (lv_at hl 1 rfl) ?_
  refine lv_icmp_ge (tgt := 60) hx hb dX5_keepOnly_14 (by decide) (fun c_14 => ?_) (fun c_14 => ?_)
  · skip
    have c_14 : rc M ro ≤ j := (nI_leI (a := rc M ro) (b := j) (by omega) (by omega)).mp c_14
    exact W.vret hx hb hr (fun t ht hW => ⟨⟨_, rfl, ⟨(by subst eM2; first | (exfalso; omega) | (rw [hM2, show j = rc M ro from by omega]; rfl)), hwM2⟩, by rw [ht]; exact hP, va_K.moved hW.alike hK, hD⟩, hS.F ht⟩) hS.2.2 dX5_keepOnly_60
  · skip
    have c_14 : ¬ rc M ro ≤ j := fun h9 => c_14 ((nI_leI (a := rc M ro) (b := j) (by omega) (by omega)).mpr h9)
    refine lv_iload_n hx hb dX5_keepOnly_17 rfl (lv_at hl 0 rfl) ?_
    refine lv_aload_n hx hb dX5_keepOnly_18 rfl (lv_at hl 2 rfl) ?_
    refine va_get (D := D) (cl := cl) (ci := 5) (C := RX5) (T := TX5) (N := 2) hx hb hts hin5 hown hK hP (8 + ro) (wld_get (by omega) (E_ro ga cT cZ M2 hro)) rfl 0 (by decide) (hts (.fieldLink RX5 11 "Tenuredale$Row" "things" "[LTenuredale$Thing;") (by decide +kernel)) (fun _ h9 => h9) rfl dX5_keepOnly_19 ?_
    refine va_alen (D := D) (cl := cl) (v := nI 200) hx hb hK hP (15 + ro) 0 (wld_get (by omega) (E_rw ga cT cZ M2 hro)) rfl rfl dX5_keepOnly_22 ?_
    refine lv_icmp_ge (tgt := 60) hx hb dX5_keepOnly_23 (by decide) (fun c_23 => ?_) (fun c_23 => ?_)
    · skip
      have c_23 : 200 ≤ j := (nI_leI (a := 200) (b := j) (by omega) (by omega)).mp c_23
      exact W.vret hx hb hr (fun t ht hW => ⟨⟨_, rfl, ⟨(by subst eM2; first | (exfalso; omega) | (rw [hM2, show j = rc M ro from by omega]; rfl)), hwM2⟩, by rw [ht]; exact hP, va_K.moved hW.alike hK, hD⟩, hS.F ht⟩) hS.2.2 dX5_keepOnly_60
    · skip
      have c_23 : ¬ 200 ≤ j := fun h9 => c_23 ((nI_leI (a := 200) (b := j) (by omega) (by omega)).mpr h9)
      refine lv_aload_n hx hb dX5_keepOnly_26 rfl (lv_at hl 2 rfl) ?_
      refine va_get (D := D) (cl := cl) (ci := 5) (C := RX5) (T := TX5) (N := 2) hx hb hts hin5 hown hK hP (8 + ro) (wld_get (by omega) (E_ro ga cT cZ M2 hro)) rfl 0 (by decide) (hts (.fieldLink RX5 11 "Tenuredale$Row" "things" "[LTenuredale$Thing;") (by decide +kernel)) (fun _ h9 => h9) rfl dX5_keepOnly_27 ?_
      refine lv_iload_n hx hb dX5_keepOnly_30 rfl (lv_at hl 0 rfl) ?_
      refine va_aldq (D := D) (cl := cl) hx hb hK hP (15 + ro) 0 (wld_get (by omega) (E_rw ga cT cZ M2 hro)) rfl (vp_in_nI (n := j) (by omega) (by omega)) dX5_keepOnly_31 ?_
      rw [nI_clamp (n := j) (by omega)]
      show W p l e _ s m _ below meth c _ _ _ _ _ (F0 m 32 ls (va_rf ((gR M2 ro j).map (fun k => ga (25 + 2 * k))) :: _))
      refine w_split (o := gR M2 ro j) (f := fun k => ga (25 + 2 * k)) (fun hq4 => ?_) (fun k5 hq4 => ?_)
      · skip
        refine lv_astoreN (lv' := [(4, .null), (3, .int (nI (j))), (2, .int (nI (rc M ro))), (0, .ref (ga (8 + ro))), (1, .int pl)]) hx hb dX5_keepOnly_32 hl (by decide) rfl (fun ls hl => ?_)
        refine lv_aloadN hx hb dX5_keepOnly_34 (lv_at hl 0 rfl) ?_
        refine lv_ifnullN (tgt := 54) hx hb dX5_keepOnly_36 (by decide) ?_
        refine lv_iinc (v := nI (j + 1)) (lv' := [(3, .int (nI (j + 1))), (4, .null), (2, .int (nI (rc M ro))), (0, .ref (ga (8 + ro))), (1, .int pl)]) hx hb dX5_keepOnly_54 hl (k := 1) rfl (nI_1 j) (by decide) rfl (fun ls hl => ?_)
        refine lv_goto (tgt := 12) hx hb dX5_keepOnly_57 (by decide) ?_
        exact ih (j + 1, M2) H locs ls (by dsimp only; omega) ⟨(by omega), (by rw [nfo_s, ← hM2]; simp_all [f_keep]), (by omega), hwM2, hP, hD, hS, lv_sub hl [0, 2, 3, 4] rfl⟩
      · have hk5 : k5 < n := hwM2.1 _ _ _ hq4
        refine lv_astore (lv' := [(4, .ref (ga (25 + 2 * k5))), (3, .int (nI (j))), (2, .int (nI (rc M ro))), (0, .ref (ga (8 + ro))), (1, .int pl)]) hx hb dX5_keepOnly_32 hl (by decide) rfl (fun ls hl => ?_)
        refine lv_aload hx hb dX5_keepOnly_34 (lv_at hl 0 rfl) ?_
        refine lv_ifnull hx hb dX5_keepOnly_36 ?_
        refine lv_aload hx hb dX5_keepOnly_39 (lv_at hl 0 rfl) ?_
        refine va_get (D := D) (cl := cl) (ci := 7) (C := RX7) (T := TX7) (N := 14) hx hb hts hin7 hown hK hP (25 + 2 * k5) (wld_get (by omega) (E_th ga cT cZ M2 k5)) rfl 3 (by decide) (hts (.fieldLink RX5 32 "Tenuredale$Thing" "place" "I") (by decide +kernel)) (fun _ h9 => h9) rfl dX5_keepOnly_41 ?_
        refine lv_iload_n hx hb dX5_keepOnly_44 rfl (lv_at hl 4 rfl) ?_
        refine lv_icmp_ne (tgt := 54) hx hb dX5_keepOnly_45 (by decide) (fun c_45 => ?_) (fun c_45 => ?_)
        · skip
          refine lv_iinc (v := nI (j + 1)) (lv' := [(3, .int (nI (j + 1))), (4, .ref (ga (25 + 2 * k5))), (2, .int (nI (rc M ro))), (0, .ref (ga (8 + ro))), (1, .int pl)]) hx hb dX5_keepOnly_54 hl (k := 1) rfl (nI_1 j) (by decide) rfl (fun ls hl => ?_)
          refine lv_goto (tgt := 12) hx hb dX5_keepOnly_57 (by decide) ?_
          exact ih (j + 1, M2) H locs ls (by dsimp only; omega) ⟨(by omega), (by rw [nfo_s, ← hM2]; simp_all [f_keep]), (by omega), hwM2, hP, hD, hS, lv_sub hl [0, 2, 3, 4] rfl⟩
        · skip
          refine lv_aload_n hx hb dX5_keepOnly_48 rfl (lv_at hl 3 rfl) ?_
          refine lv_aload hx hb dX5_keepOnly_49 (lv_at hl 0 rfl) ?_
          refine kV_v (As := [.ref (ga (25 + 2 * k5))]) (rest := []) (i := 8 + ro) (q := (RX5, TX5, 2)) ⟨hx, hb, hml, hown, hts⟩ (cX5_add_ok l ga n cT cZ D M2 hwM2 H.size ro hro k5 hk5 ) (cwV 1 hts gX5_keepOnly_X5_add rfl rfl rfl (by decide +kernel) ⟨Nat.le_of_ble_eq_true rfl, Nat.le_of_ble_eq_true rfl⟩) hK hP hD hS hA (by omega) (E_ro ga cT cZ M2 hro) rfl rfl rfl hl.1 rfl (by decide) dX5_keepOnly_51 ⟨Nat.zero_le _, Nat.zero_le _⟩ (fun M6 H locs hM6 hP hD hS => ?_)
          obtain ⟨eM6, hwM6⟩ := hM6
          have hr_7 : rc M6 ro ≤ rc M2 ro + 1 ∧ 0 < rc M6 ro := by rw [eM6]; exact ⟨rc_add_le _ _ _, rc_add_pos _ _ _⟩
          refine lv_iinc (v := nI (j + 1)) (lv' := [(3, .int (nI (j + 1))), (4, .ref (ga (25 + 2 * k5))), (2, .int (nI (rc M ro))), (0, .ref (ga (8 + ro))), (1, .int pl)]) hx hb dX5_keepOnly_54 hl (k := 1) rfl (nI_1 j) (by decide) rfl (fun ls hl => ?_)
          refine lv_goto (tgt := 12) hx hb dX5_keepOnly_57 (by decide) ?_
          exact ih (j + 1, M6) H locs ls (by dsimp only; omega) ⟨(by omega), (by rw [nfo_s, ← hM2]; simp_all [f_keep]), (by omega), hwM6, hP, hD, hS, lv_sub hl [0, 2, 3, 4] rfl⟩
set_option maxHeartbeats 4000000 in
set_option maxRecDepth 100000 in
/-- Tenuredale$Row.removeFirst -/
theorem cX5_removeFirst_ok (l : Launch) (ga : Nat → Nat) (n : Nat) (cT cZ : ClassId) (D : va_G) (M : cSt) (hw : cWF n M) (sz : Nat) (ro : Nat) (hro : ro < 7)  : Met l yX5_removeFirst wsX5_removeFirst ({ frames := 1, cells := 0, slots := 0, locals := 21 }) (va_Pc [.ref (ga (8 + ro))] (cPr ga n cT cZ D M sz)) (va_Qq (fun (z9 : Option Nat) (u9 : cSt) => ∃ o9 : Option Nat, z9 = o9.map (fun k => ga (25 + 2 * k)) ∧ o9 = f_item M ro (nI 0) ∧ (∀ k, o9 = some k → k < n) ∧ u9 = f_removeFirst M ro ∧ cWF n u9) (cB ga n cT cZ D (cAA ga n sz)) (cAA ga n sz)) 0 0 (cAA ga n sz) := by
  refine Met.ofW (cc := cX5_removeFirst) (maxL := 3) (ret := (some (.object "Tenuredale$Thing"))) (by decide) rfl ?_
  intro p e s m args below meth c s₁ B hml hv
  obtain ⟨rfl, hsz, hP, hK, hD0⟩ := hv
  have hx := B.exec
  have hb := B.bytes
  have hr := B.returns
  have hts := atoms_spec (ws := wsX5_removeFirst) B.pre
  have hown : s.vm.findClass RX5 = some m.cls := findClass_of_methodNamed B.named
  have hlocks := B.notSynchronized
  have hin5 : ∀ w ∈ u_ws RX5 TX5 2, w ∈ wsX5_removeFirst := by decide +kernel
  subst hsz
  have hD := wld_self (sz := s.heap.size) hD0
  generalize hAe : cAA ga n s.heap.size = A at hD ⊢
  have hA : ∀ q : Nat, s.heap.size ≤ q → A q := fun q h => by rw [← hAe]; exact Or.inr h
  have hS : va_S A s.heap s.heap [] := va_S.rf
  have hP : va_P D cl (wld ga n cT cZ M) s.heap := hP
  have hl := lv_entry ([.ref (ga (8 + ro))]) (n := 3) (Nat.le_of_ble_eq_true rfl)
  rw [lg_entry_eq]
  generalize (lg_sl ([.ref (ga (8 + ro))]) ++ List.replicate (3 - (lg_sl ([.ref (ga (8 + ro))])).length) Slot.unset).toArray = ls at hl ⊢
  have hl : lv_has ls 3 [(0, .ref (ga (8 + ro)))] := hl
  refine lv_aload_n hx hb dX5_removeFirst_0 rfl (lv_at hl 0 rfl) ?_
  refine lv_iconst (v := nI 0) hx hb dX5_removeFirst_1 (by decide) ?_
  refine kV_q (As := [.int (nI 0)]) (rest := []) (i := 8 + ro) (q := (RX5, TX5, 2)) ⟨hx, hb, hml, hown, hts⟩ (cX5_item_ok l ga n cT cZ D M hw ro hro (nI 0) ) (cwV 1 hts gX5_removeFirst_X5_item rfl rfl rfl (by decide +kernel) ⟨Nat.le_of_ble_eq_true rfl, Nat.le_of_ble_eq_true rfl⟩) hK hP hD (by omega) (E_ro ga cT cZ M hro) rfl rfl rfl hl.1 rfl (by decide) dX5_removeFirst_2 ⟨Nat.zero_le _, Nat.zero_le _⟩ (fun o1 ho1 => ?_)
  obtain ⟨eo1, vo1⟩ := ho1; subst eo1
  refine w_split (o := f_item M (ro) (nI 0)) (f := fun k => ga (25 + 2 * k)) (fun hq2 => ?_) (fun k3 hq2 => ?_)
  · skip
    refine lv_astore_nN (lv' := [(1, .null), (0, .ref (ga (8 + ro)))]) hx hb dX5_removeFirst_5 rfl hl (by decide) rfl (fun ls hl => ?_)
    refine lv_aload_nN hx hb dX5_removeFirst_6 rfl (lv_at hl 0 rfl) ?_
    refine lv_ifnullN (tgt := 59) hx hb dX5_removeFirst_7 (by decide) ?_
    refine lv_aload_nN hx hb dX5_removeFirst_59 rfl (lv_at hl 0 rfl) ?_
    exact W.aret (v := va_rf ((none : Option Nat).map (fun k => ga (25 + 2 * k)))) hx hb hr (Or.inl ⟨_, rfl⟩) (va_rf_or _) (fun t ht hW => ⟨⟨_, _, rfl, ⟨(none : Option Nat), rfl, (by simp_all), (fun _ h => by cases h), (by first | (exfalso; omega) | (unfold f_removeFirst; simp_all; done) | (unfold f_removeFirst; rw [if_pos (by simp_all)]; have e9 : j = rc M ro - 1 := (by omega); rw [hrj, hM2, e9])), hw⟩, by rw [ht]; exact hP, va_K.moved hW.alike hK, hD⟩, hS.F ht⟩) hS.2.2 dX5_removeFirst_60
  · have hk3 : k3 < n := vo1 _ hq2
    refine lv_astore_n (lv' := [(1, .ref (ga (25 + 2 * k3))), (0, .ref (ga (8 + ro)))]) hx hb dX5_removeFirst_5 rfl hl (by decide) rfl (fun ls hl => ?_)
    refine lv_aload_n hx hb dX5_removeFirst_6 rfl (lv_at hl 0 rfl) ?_
    refine lv_ifnull hx hb dX5_removeFirst_7 ?_
    refine lv_iconst (v := nI 1) hx hb dX5_removeFirst_10 (by decide) ?_
    refine lv_istore_n (lv' := [(2, .int (nI 1)), (1, .ref (ga (25 + 2 * k3))), (0, .ref (ga (8 + ro)))]) hx hb dX5_removeFirst_11 rfl hl (by decide) rfl (fun ls hl => ?_)
    refine w_loop (σ := Nat × cSt) (I := fun x H locs ls => match x with | (j, M2) => (j + 1 ≤ rc M ro) ∧ (M2 = nfo (f_shift ro) j M) ∧ (rc M2 ro = rc M ro) ∧ cWF n M2 ∧ va_P D cl (wld ga n cT cZ M2) H ∧ va_D A (wld ga n cT cZ M2) ∧ va_S A s.heap H locs ∧ lv_has ls 3 [(2, .int (nI (j + 1))), (1, .ref (ga (25 + 2 * k3))), (0, .ref (ga (8 + ro)))]) (μ := fun x => match x with | (j, M2) => rc M ro - j) ?_ (0, M) ⟨(by have h9 := (f_item_pos (j := 0) (by omega) (by assumption)).1; omega), rfl, rfl, hw, hP, hD, hS, lv_sub hl [0, 1, 2] rfl⟩
    rintro ⟨j, M2⟩ H locs ls ⟨hj, hM2, hrj, hwM2, hP, hD, hS, hl⟩ ih
    have hb_rc := (wf_rc hw (r := ro) hro).2
    refine lv_iload_n hx hb dX5_removeFirst_12 rfl (lv_at hl 0 rfl) ?_
    refine lv_aload_n hx hb dX5_removeFirst_13 rfl (lv_at hl 2 rfl) ?_
    have hb_4 := (wf_rc hwM2 (r := ro) hro).2
    refine va_get (D := D) (cl := cl) (ci := 5) (v := .int (nI (rc M2 ro))) (C := RX5) (T := TX5) (N := 2) hx hb hts hin5 hown hK hP (8 + ro) (wld_get (by omega) (E_ro ga cT cZ M2 hro)) rfl 1 (by decide) (hts (.fieldLink RX5 17 "Tenuredale$Row" "size" "I") (by decide +kernel)) (fun _ h9 => h9) (cg_i (wf_rc hwM2 (r := ro) hro).1) dX5_removeFirst_14 ?_
    refine lv_icmp_ge (tgt := 49) hx hb dX5_removeFirst_17 (by decide) (fun c_17 => ?_) (fun c_17 => ?_)
    · skip
      have c_17 : rc M2 ro ≤ j + 1 := (nI_leI (a := rc M2 ro) (b := j + 1) (by omega) (by omega)).mp c_17
      refine lv_aload_n hx hb dX5_removeFirst_49 rfl (lv_at hl 2 rfl) ?_
      refine lv_dup hx hb dX5_removeFirst_50 rfl ?_
      have hb_5 := (wf_rc hwM2 (r := ro) hro).2
      refine va_get (D := D) (cl := cl) (ci := 5) (v := .int (nI (rc M2 ro))) (C := RX5) (T := TX5) (N := 2) hx hb hts hin5 hown hK hP (8 + ro) (wld_get (by omega) (E_ro ga cT cZ M2 hro)) rfl 1 (by decide) (hts (.fieldLink RX5 17 "Tenuredale$Row" "size" "I") (by decide +kernel)) (fun _ h9 => h9) (cg_i (wf_rc hwM2 (r := ro) hro).1) dX5_removeFirst_51 ?_
      refine lv_iconst (v := nI 1) hx hb dX5_removeFirst_54 (by decide) ?_
      refine lv_isub hx hb dX5_removeFirst_55 ?_
      refine w_toeq (pk_sub (by omega)) ?_
      refine va_put (D := D) (cl := cl) (ci := 5) (v := .int (nI (rc M2 ro - 1))) (ty := .int) (C := RX5) (T := TX5) (N := 2) hx hb hts hin5 tyX5 tyX5_ok nmX5 hown hK hP hD hS (8 + ro) (wld_get (by omega) (E_ro ga cT cZ M2 hro)) rfl 1 (by decide) (hts (.fieldLink RX5 17 "Tenuredale$Row" "size" "I") (by decide +kernel)) (fun _ h9 => h9) rfl (by decide +kernel) rfl rfl (Nat.le_of_ble_eq_true rfl) dX5_removeFirst_56 (fun H locs hP hD hS => ?_)
      have hwM6 := wf_sIrow hwM2 (r := ro) (c := rc M2 ro - 1) hro (by omega)
      obtain ⟨M6, eM6⟩ : ∃ z, z = sI M2 (10 + ro) (nI (rc M2 ro - 1)) := ⟨_, rfl⟩
      have hP := cP_eq (wIr (r := ro) hro) hP; have hD := cD_eq (wIr (r := ro) hro) hD; rw [← eM6] at hP hD hwM6
      have hr_7 : rc M6 ro = rc M2 ro - 1 := by rw [eM6]; exact rc_sI _ _ _ (by omega)
      refine lv_aload_n hx hb dX5_removeFirst_59 rfl (lv_at hl 1 rfl) ?_
      exact W.aret (v := va_rf ((some k3).map (fun k => ga (25 + 2 * k)))) hx hb hr (Or.inl ⟨_, rfl⟩) (va_rf_or _) (fun t ht hW => ⟨⟨_, _, rfl, ⟨(some k3), rfl, (by simp_all), (fun _ h => by cases h; exact hk3), (by subst eM6; first | (exfalso; omega) | (unfold f_removeFirst; simp_all; done) | (unfold f_removeFirst; rw [if_pos (by simp_all)]; have e9 : j = rc M ro - 1 := (by omega); rw [hrj, hM2, e9])), hwM6⟩, by rw [ht]; exact hP, va_K.moved hW.alike hK, hD⟩, hS.F ht⟩) hS.2.2 dX5_removeFirst_60
    · skip
      have c_17 : ¬ rc M2 ro ≤ j + 1 := fun h9 => c_17 ((nI_leI (a := rc M2 ro) (b := j + 1) (by omega) (by omega)).mpr h9)
      refine lv_iload_n hx hb dX5_removeFirst_20 rfl (lv_at hl 0 rfl) ?_
      refine lv_aload_n hx hb dX5_removeFirst_21 rfl (lv_at hl 2 rfl) ?_
      refine va_get (D := D) (cl := cl) (ci := 5) (C := RX5) (T := TX5) (N := 2) hx hb hts hin5 hown hK hP (8 + ro) (wld_get (by omega) (E_ro ga cT cZ M2 hro)) rfl 0 (by decide) (hts (.fieldLink RX5 11 "Tenuredale$Row" "things" "[LTenuredale$Thing;") (by decide +kernel)) (fun _ h9 => h9) rfl dX5_removeFirst_22 ?_
      refine va_alen (D := D) (cl := cl) (v := nI 200) hx hb hK hP (15 + ro) 0 (wld_get (by omega) (E_rw ga cT cZ M2 hro)) rfl rfl dX5_removeFirst_25 ?_
      refine lv_icmp_ge (tgt := 49) hx hb dX5_removeFirst_26 (by decide) (fun c_26 => ?_) (fun c_26 => ?_)
      · skip
        have c_26 : 200 ≤ j + 1 := (nI_leI (a := 200) (b := j + 1) (by omega) (by omega)).mp c_26
        refine lv_aload_n hx hb dX5_removeFirst_49 rfl (lv_at hl 2 rfl) ?_
        refine lv_dup hx hb dX5_removeFirst_50 rfl ?_
        have hb_8 := (wf_rc hwM2 (r := ro) hro).2
        refine va_get (D := D) (cl := cl) (ci := 5) (v := .int (nI (rc M2 ro))) (C := RX5) (T := TX5) (N := 2) hx hb hts hin5 hown hK hP (8 + ro) (wld_get (by omega) (E_ro ga cT cZ M2 hro)) rfl 1 (by decide) (hts (.fieldLink RX5 17 "Tenuredale$Row" "size" "I") (by decide +kernel)) (fun _ h9 => h9) (cg_i (wf_rc hwM2 (r := ro) hro).1) dX5_removeFirst_51 ?_
        refine lv_iconst (v := nI 1) hx hb dX5_removeFirst_54 (by decide) ?_
        refine lv_isub hx hb dX5_removeFirst_55 ?_
        refine w_toeq (pk_sub (by omega)) ?_
        refine va_put (D := D) (cl := cl) (ci := 5) (v := .int (nI (rc M2 ro - 1))) (ty := .int) (C := RX5) (T := TX5) (N := 2) hx hb hts hin5 tyX5 tyX5_ok nmX5 hown hK hP hD hS (8 + ro) (wld_get (by omega) (E_ro ga cT cZ M2 hro)) rfl 1 (by decide) (hts (.fieldLink RX5 17 "Tenuredale$Row" "size" "I") (by decide +kernel)) (fun _ h9 => h9) rfl (by decide +kernel) rfl rfl (Nat.le_of_ble_eq_true rfl) dX5_removeFirst_56 (fun H locs hP hD hS => ?_)
        have hwM9 := wf_sIrow hwM2 (r := ro) (c := rc M2 ro - 1) hro (by omega)
        obtain ⟨M9, eM9⟩ : ∃ z, z = sI M2 (10 + ro) (nI (rc M2 ro - 1)) := ⟨_, rfl⟩
        have hP := cP_eq (wIr (r := ro) hro) hP; have hD := cD_eq (wIr (r := ro) hro) hD; rw [← eM9] at hP hD hwM9
        have hr_10 : rc M9 ro = rc M2 ro - 1 := by rw [eM9]; exact rc_sI _ _ _ (by omega)
        refine lv_aload_n hx hb dX5_removeFirst_59 rfl (lv_at hl 1 rfl) ?_
        exact W.aret (v := va_rf ((some k3).map (fun k => ga (25 + 2 * k)))) hx hb hr (Or.inl ⟨_, rfl⟩) (va_rf_or _) (fun t ht hW => ⟨⟨_, _, rfl, ⟨(some k3), rfl, (by simp_all), (fun _ h => by cases h; exact hk3), (by subst eM9; first | (exfalso; omega) | (unfold f_removeFirst; simp_all; done) | (unfold f_removeFirst; rw [if_pos (by simp_all)]; have e9 : j = rc M ro - 1 := (by omega); rw [hrj, hM2, e9])), hwM9⟩, by rw [ht]; exact hP, va_K.moved hW.alike hK, hD⟩, hS.F ht⟩) hS.2.2 dX5_removeFirst_60
      · skip
        have c_26 : ¬ 200 ≤ j + 1 := fun h9 => c_26 ((nI_leI (a := 200) (b := j + 1) (by omega) (by omega)).mpr h9)
        refine lv_aload_n hx hb dX5_removeFirst_29 rfl (lv_at hl 2 rfl) ?_
        refine va_get (D := D) (cl := cl) (ci := 5) (C := RX5) (T := TX5) (N := 2) hx hb hts hin5 hown hK hP (8 + ro) (wld_get (by omega) (E_ro ga cT cZ M2 hro)) rfl 0 (by decide) (hts (.fieldLink RX5 11 "Tenuredale$Row" "things" "[LTenuredale$Thing;") (by decide +kernel)) (fun _ h9 => h9) rfl dX5_removeFirst_30 ?_
        refine lv_iload_n hx hb dX5_removeFirst_33 rfl (lv_at hl 0 rfl) ?_
        refine lv_iconst (v := nI 1) hx hb dX5_removeFirst_34 (by decide) ?_
        refine lv_isub hx hb dX5_removeFirst_35 ?_
        refine w_toeq (nI_pred j) ?_
        refine lv_aload_n hx hb dX5_removeFirst_36 rfl (lv_at hl 2 rfl) ?_
        refine va_get (D := D) (cl := cl) (ci := 5) (C := RX5) (T := TX5) (N := 2) hx hb hts hin5 hown hK hP (8 + ro) (wld_get (by omega) (E_ro ga cT cZ M2 hro)) rfl 0 (by decide) (hts (.fieldLink RX5 11 "Tenuredale$Row" "things" "[LTenuredale$Thing;") (by decide +kernel)) (fun _ h9 => h9) rfl dX5_removeFirst_37 ?_
        refine lv_iload_n hx hb dX5_removeFirst_40 rfl (lv_at hl 0 rfl) ?_
        refine va_aldq (D := D) (cl := cl) hx hb hK hP (15 + ro) 0 (wld_get (by omega) (E_rw ga cT cZ M2 hro)) rfl (vp_in_nI (n := j + 1) (by omega) (by omega)) dX5_removeFirst_41 ?_
        rw [nI_clamp (n := j + 1) (by omega)]
        show W p l e _ s m _ below meth c _ _ _ _ _ (F0 m 42 ls (va_rf ((gR M2 ro (j + 1)).map (fun k => ga (25 + 2 * k))) :: _))
        refine w_split (o := gR M2 ro (j + 1)) (f := fun k => ga (25 + 2 * k)) (fun hq11 => ?_) (fun k12 hq11 => ?_)
        · skip
          refine va_astqN (D := D) (cl := cl) hx hb hK hP hD hS (15 + ro) 0 (wld_get (by omega) (E_rw ga cT cZ M2 hro)) rfl (vp_in_nI (n := j) (by omega) (by omega)) dX5_removeFirst_42 (fun H locs hP hD hS => ?_)
          rw [nI_clamp (n := j) (by omega)] at hP hD
          have hwM13 := wf_sR hwM2 ro j (v := none) (fun _ h => by cases h)
          obtain ⟨M13, eM13⟩ : ∃ z, z = sR M2 ro j none := ⟨_, rfl⟩
          have hP := cP_eq (wRr (r := ro) (v := none) hro) hP; have hD := cD_eq (wRr (r := ro) (v := none) hro) hD; rw [← eM13] at hP hD hwM13
          have hr_14 : rc M13 ro = rc M2 ro := by rw [eM13]; rfl
          refine lv_iinc (v := nI (j + 1 + 1)) (lv' := [(2, .int (nI (j + 1 + 1))), (1, .ref (ga (25 + 2 * k3))), (0, .ref (ga (8 + ro)))]) hx hb dX5_removeFirst_43 hl (k := 0) rfl (nI_1 (j + 1)) (by decide) rfl (fun ls hl => ?_)
          refine lv_goto (tgt := 12) hx hb dX5_removeFirst_46 (by decide) ?_
          exact ih (j + 1, M13) H locs ls (by dsimp only; omega) ⟨(by omega), (by subst eM13; rw [nfo_s, ← hM2]; simp_all [f_shift]), (by omega), hwM13, hP, hD, hS, lv_sub hl [0, 1, 2] rfl⟩
        · have hk12 : k12 < n := hwM2.1 _ _ _ hq11
          refine va_astq (D := D) (cl := cl) (r := (RX7, TX7, 14)) hx hb hK hP hD hS (15 + ro) 0 (25 + 2 * k12) 7 (wld_get (by omega) (E_rw ga cT cZ M2 hro)) rfl (wld_get (by omega) (E_th ga cT cZ M2 k12)) rfl (vp_in_nI (n := j) (by omega) (by omega)) dX5_removeFirst_42 (fun H locs hP hD hS => ?_)
          rw [nI_clamp (n := j) (by omega)] at hP hD
          have hwM15 := wf_sR hwM2 ro j (v := (some k12)) (fun _ h => by cases h; exact hk12)
          obtain ⟨M15, eM15⟩ : ∃ z, z = sR M2 ro j (some k12) := ⟨_, rfl⟩
          have hP := cP_eq (wRr (r := ro) (v := (some k12)) hro) hP; have hD := cD_eq (wRr (r := ro) (v := (some k12)) hro) hD; rw [← eM15] at hP hD hwM15
          have hr_16 : rc M15 ro = rc M2 ro := by rw [eM15]; rfl
          refine lv_iinc (v := nI (j + 1 + 1)) (lv' := [(2, .int (nI (j + 1 + 1))), (1, .ref (ga (25 + 2 * k3))), (0, .ref (ga (8 + ro)))]) hx hb dX5_removeFirst_43 hl (k := 0) rfl (nI_1 (j + 1)) (by decide) rfl (fun ls hl => ?_)
          refine lv_goto (tgt := 12) hx hb dX5_removeFirst_46 (by decide) ?_
          exact ih (j + 1, M15) H locs ls (by dsimp only; omega) ⟨(by omega), (by subst eM15; rw [nfo_s, ← hM2]; simp_all [f_shift]), (by omega), hwM15, hP, hD, hS, lv_sub hl [0, 1, 2] rfl⟩
set_option maxHeartbeats 4000000 in
set_option maxRecDepth 100000 in
/-- Tenuredale$Row.addByAddress -/
theorem cX5_addByAddress_ok (l : Launch) (ga : Nat → Nat) (n : Nat) (cT cZ : ClassId) (D : va_G) (M : cSt) (hw : cWF n M) (sz : Nat) (ro : Nat) (hro : ro < 7) (k : Nat) (hk : k < n)  : Met l yX5_addByAddress wsX5_addByAddress ({ frames := 1, cells := 0, slots := 0, locals := 21 }) (va_Pc [.ref (ga (8 + ro)), .ref (ga (25 + 2 * k))] (cPr ga n cT cZ D M sz)) (va_Qv (fun u9 : cSt => u9 = f_addBy M ro k ∧ cWF n u9) (cB ga n cT cZ D (cAA ga n sz)) (cAA ga n sz)) 0 0 (cAA ga n sz) := by
  refine Met.ofW (cc := cX5_addByAddress) (maxL := 4) (ret := none) (by decide) rfl ?_
  intro p e s m args below meth c s₁ B hml hv
  obtain ⟨rfl, hsz, hP, hK, hD0⟩ := hv
  have hx := B.exec
  have hb := B.bytes
  have hr := B.returns
  have hts := atoms_spec (ws := wsX5_addByAddress) B.pre
  have hown : s.vm.findClass RX5 = some m.cls := findClass_of_methodNamed B.named
  have hlocks := B.notSynchronized
  have hin5 : ∀ w ∈ u_ws RX5 TX5 2, w ∈ wsX5_addByAddress := by decide +kernel
  have hin7 : ∀ w ∈ u_ws RX7 TX7 14, w ∈ wsX5_addByAddress := by decide +kernel
  subst hsz
  have hD := wld_self (sz := s.heap.size) hD0
  generalize hAe : cAA ga n s.heap.size = A at hD ⊢
  have hA : ∀ q : Nat, s.heap.size ≤ q → A q := fun q h => by rw [← hAe]; exact Or.inr h
  have hS : va_S A s.heap s.heap [] := va_S.rf
  have hP : va_P D cl (wld ga n cT cZ M) s.heap := hP
  have hl := lv_entry ([.ref (ga (8 + ro)), .ref (ga (25 + 2 * k))]) (n := 4) (Nat.le_of_ble_eq_true rfl)
  rw [lg_entry_eq]
  generalize (lg_sl ([.ref (ga (8 + ro)), .ref (ga (25 + 2 * k))]) ++ List.replicate (4 - (lg_sl ([.ref (ga (8 + ro)), .ref (ga (25 + 2 * k))])).length) Slot.unset).toArray = ls at hl ⊢
  have hl : lv_has ls 4 [(0, .ref (ga (8 + ro))), (1, .ref (ga (25 + 2 * k)))] := hl
  refine lv_aload_n hx hb dX5_addByAddress_0 rfl (lv_at hl 0 rfl) ?_
  refine lv_aload_n hx hb dX5_addByAddress_1 rfl (lv_at hl 1 rfl) ?_
  refine kV_v (As := [.ref (ga (25 + 2 * k))]) (rest := []) (i := 8 + ro) (q := (RX5, TX5, 2)) ⟨hx, hb, hml, hown, hts⟩ (cX5_add_ok l ga n cT cZ D M hw s.heap.size ro hro k hk ) (cwV 1 hts gX5_addByAddress_X5_add rfl rfl rfl (by decide +kernel) ⟨Nat.le_of_ble_eq_true rfl, Nat.le_of_ble_eq_true rfl⟩) hK hP hD hS hA (by omega) (E_ro ga cT cZ M hro) rfl rfl rfl hl.1 rfl (by decide) dX5_addByAddress_2 ⟨Nat.zero_le _, Nat.zero_le _⟩ (fun M1 H locs hM1 hP hD hS => ?_)
  obtain ⟨eM1, hwM1⟩ := hM1
  have hr_2 : rc M1 ro ≤ rc M ro + 1 ∧ 0 < rc M1 ro := by rw [eM1]; exact ⟨rc_add_le _ _ _, rc_add_pos _ _ _⟩
  refine lv_aload_n hx hb dX5_addByAddress_5 rfl (lv_at hl 0 rfl) ?_
  have hb_3 := (wf_rc hwM1 (r := ro) hro).2
  refine va_get (D := D) (cl := cl) (ci := 5) (v := .int (nI (rc M1 ro))) (C := RX5) (T := TX5) (N := 2) hx hb hts hin5 hown hK hP (8 + ro) (wld_get (by omega) (E_ro ga cT cZ M1 hro)) rfl 1 (by decide) (hts (.fieldLink RX5 17 "Tenuredale$Row" "size" "I") (by decide +kernel)) (fun _ h9 => h9) (cg_i (wf_rc hwM1 (r := ro) hro).1) dX5_addByAddress_6 ?_
  refine lv_iconst (v := nI 1) hx hb dX5_addByAddress_9 (by decide) ?_
  refine lv_isub hx hb dX5_addByAddress_10 ?_
  refine w_toeq (pk_sub (by omega)) ?_
  refine lv_istore_n (lv' := [(2, .int (nI (rc M1 ro - 1))), (0, .ref (ga (8 + ro))), (1, .ref (ga (25 + 2 * k)))]) hx hb dX5_addByAddress_11 rfl hl (by decide) rfl (fun ls hl => ?_)
  refine w_loop (σ := Nat × cSt) (I := fun x H locs ls => match x with | (j, M2) => (j ≤ 199) ∧ (f_sink M2 ro k j = f_addBy M ro k) ∧ cWF n M2 ∧ va_P D cl (wld ga n cT cZ M2) H ∧ va_D A (wld ga n cT cZ M2) ∧ va_S A s.heap H locs ∧ lv_has ls 4 [(2, .int (nI (j))), (0, .ref (ga (8 + ro))), (1, .ref (ga (25 + 2 * k)))]) (μ := fun x => match x with | (j, M2) => j) ?_ (rc M1 ro - 1, M1) ⟨(by omega), (by simp_all [f_addBy]), hwM1, hP, hD, hS, lv_sub hl [0, 1, 2] rfl⟩
  rintro ⟨j, M2⟩ H locs ls ⟨hj, hM2, hwM2, hP, hD, hS, hl⟩ ih
  refine lv_iload_n hx hb dX5_addByAddress_12 rfl (lv_at hl 0 rfl) ?_
  refine lv_if_le (tgt := 72) hx hb dX5_addByAddress_13 (by decide) (fun c_13 => ?_) (fun c_13 => ?_)
  · skip
    have c_13 : j ≤ 0 := (nI_leI (a := j) (b := 0) (by omega) (by omega)).mp c_13
    exact W.vret hx hb hr (fun t ht hW => ⟨⟨_, rfl, ⟨(by subst eM1; first | (exfalso; omega) | (rw [← hM2, show j = 0 from by omega]; rfl) | (rw [← hM2, f_sink_p _ _ _ (by omega)]; simp_all)), hwM2⟩, by rw [ht]; exact hP, va_K.moved hW.alike hK, hD⟩, hS.F ht⟩) hS.2.2 dX5_addByAddress_72
  · skip
    have c_13 : ¬ j ≤ 0 := fun h9 => c_13 ((nI_leI (a := j) (b := 0) (by omega) (by omega)).mpr h9)
    refine lv_iload_n hx hb dX5_addByAddress_16 rfl (lv_at hl 0 rfl) ?_
    refine lv_aload_n hx hb dX5_addByAddress_17 rfl (lv_at hl 1 rfl) ?_
    refine va_get (D := D) (cl := cl) (ci := 5) (C := RX5) (T := TX5) (N := 2) hx hb hts hin5 hown hK hP (8 + ro) (wld_get (by omega) (E_ro ga cT cZ M2 hro)) rfl 0 (by decide) (hts (.fieldLink RX5 11 "Tenuredale$Row" "things" "[LTenuredale$Thing;") (by decide +kernel)) (fun _ h9 => h9) rfl dX5_addByAddress_18 ?_
    refine va_alen (D := D) (cl := cl) (v := nI 200) hx hb hK hP (15 + ro) 0 (wld_get (by omega) (E_rw ga cT cZ M2 hro)) rfl rfl dX5_addByAddress_21 ?_
    refine lv_icmp_ge (tgt := 72) hx hb dX5_addByAddress_22 (by decide) (fun c_22 => ?_) (fun c_22 => ?_)
    · skip
      have c_22 : 200 ≤ j := (nI_leI (a := 200) (b := j) (by omega) (by omega)).mp c_22
      exact W.vret hx hb hr (fun t ht hW => ⟨⟨_, rfl, ⟨(by subst eM1; first | (exfalso; omega) | (rw [← hM2, show j = 0 from by omega]; rfl) | (rw [← hM2, f_sink_p _ _ _ (by omega)]; simp_all)), hwM2⟩, by rw [ht]; exact hP, va_K.moved hW.alike hK, hD⟩, hS.F ht⟩) hS.2.2 dX5_addByAddress_72
    · skip
      have c_22 : ¬ 200 ≤ j := fun h9 => c_22 ((nI_leI (a := 200) (b := j) (by omega) (by omega)).mpr h9)
      refine lv_aload_n hx hb dX5_addByAddress_25 rfl (lv_at hl 1 rfl) ?_
      refine va_get (D := D) (cl := cl) (ci := 5) (C := RX5) (T := TX5) (N := 2) hx hb hts hin5 hown hK hP (8 + ro) (wld_get (by omega) (E_ro ga cT cZ M2 hro)) rfl 0 (by decide) (hts (.fieldLink RX5 11 "Tenuredale$Row" "things" "[LTenuredale$Thing;") (by decide +kernel)) (fun _ h9 => h9) rfl dX5_addByAddress_26 ?_
      refine lv_iload_n hx hb dX5_addByAddress_29 rfl (lv_at hl 0 rfl) ?_
      refine lv_iconst (v := nI 1) hx hb dX5_addByAddress_30 (by decide) ?_
      refine lv_isub hx hb dX5_addByAddress_31 ?_
      refine w_toeq (pk_sub (by omega)) ?_
      refine va_aldq (D := D) (cl := cl) hx hb hK hP (15 + ro) 0 (wld_get (by omega) (E_rw ga cT cZ M2 hro)) rfl (vp_in_nI (n := j - 1) (by omega) (by omega)) dX5_addByAddress_32 ?_
      rw [nI_clamp (n := j - 1) (by omega)]
      show W p l e _ s m _ below meth c _ _ _ _ _ (F0 m 33 ls (va_rf ((gR M2 ro (j - 1)).map (fun k => ga (25 + 2 * k))) :: _))
      refine w_split (o := gR M2 ro (j - 1)) (f := fun k => ga (25 + 2 * k)) (fun hq4 => ?_) (fun k5 hq4 => ?_)
      · skip
        refine lv_astore_nN (lv' := [(3, .null), (2, .int (nI (j))), (0, .ref (ga (8 + ro))), (1, .ref (ga (25 + 2 * k)))]) hx hb dX5_addByAddress_33 rfl hl (by decide) rfl (fun ls hl => ?_)
        refine lv_aload_nN hx hb dX5_addByAddress_34 rfl (lv_at hl 0 rfl) ?_
        refine lv_ifnullN (tgt := 49) hx hb dX5_addByAddress_35 (by decide) ?_
        exact W.vret hx hb hr (fun t ht hW => ⟨⟨_, rfl, ⟨(by subst eM1; first | (exfalso; omega) | (rw [← hM2, show j = 0 from by omega]; rfl) | (rw [← hM2, f_sink_p _ _ _ (by omega)]; simp_all)), hwM2⟩, by rw [ht]; exact hP, va_K.moved hW.alike hK, hD⟩, hS.F ht⟩) hS.2.2 dX5_addByAddress_49
      · have hk5 : k5 < n := hwM2.1 _ _ _ hq4
        refine lv_astore_n (lv' := [(3, .ref (ga (25 + 2 * k5))), (2, .int (nI (j))), (0, .ref (ga (8 + ro))), (1, .ref (ga (25 + 2 * k)))]) hx hb dX5_addByAddress_33 rfl hl (by decide) rfl (fun ls hl => ?_)
        refine lv_aload_n hx hb dX5_addByAddress_34 rfl (lv_at hl 0 rfl) ?_
        refine lv_ifnull hx hb dX5_addByAddress_35 ?_
        refine lv_aload_n hx hb dX5_addByAddress_38 rfl (lv_at hl 0 rfl) ?_
        refine va_get (D := D) (cl := cl) (ci := 7) (C := RX7) (T := TX7) (N := 14) hx hb hts hin7 hown hK hP (25 + 2 * k5) (wld_get (by omega) (E_th ga cT cZ M2 k5)) rfl 4 (by decide) (hts (.fieldLink RX5 25 "Tenuredale$Thing" "address" "I") (by decide +kernel)) (fun _ h9 => h9) rfl dX5_addByAddress_39 ?_
        refine lv_aload_n hx hb dX5_addByAddress_42 rfl (lv_at hl 3 rfl) ?_
        refine va_get (D := D) (cl := cl) (ci := 7) (C := RX7) (T := TX7) (N := 14) hx hb hts hin7 hown hK hP (25 + 2 * k) (wld_get (by omega) (E_th ga cT cZ M2 k)) rfl 4 (by decide) (hts (.fieldLink RX5 25 "Tenuredale$Thing" "address" "I") (by decide +kernel)) (fun _ h9 => h9) rfl dX5_addByAddress_43 ?_
        refine lv_icmp_gt (tgt := 50) hx hb dX5_addByAddress_46 (by decide) (fun c_46 => ?_) (fun c_46 => ?_)
        · skip
          refine lv_aload_n hx hb dX5_addByAddress_50 rfl (lv_at hl 2 rfl) ?_
          refine va_get (D := D) (cl := cl) (ci := 5) (C := RX5) (T := TX5) (N := 2) hx hb hts hin5 hown hK hP (8 + ro) (wld_get (by omega) (E_ro ga cT cZ M2 hro)) rfl 0 (by decide) (hts (.fieldLink RX5 11 "Tenuredale$Row" "things" "[LTenuredale$Thing;") (by decide +kernel)) (fun _ h9 => h9) rfl dX5_addByAddress_51 ?_
          refine lv_iload_n hx hb dX5_addByAddress_54 rfl (lv_at hl 1 rfl) ?_
          refine lv_aload_n hx hb dX5_addByAddress_55 rfl (lv_at hl 0 rfl) ?_
          refine va_astq (D := D) (cl := cl) (r := (RX7, TX7, 14)) hx hb hK hP hD hS (15 + ro) 0 (25 + 2 * k5) 7 (wld_get (by omega) (E_rw ga cT cZ M2 hro)) rfl (wld_get (by omega) (E_th ga cT cZ M2 k5)) rfl (vp_in_nI (n := j) (by omega) (by omega)) dX5_addByAddress_56 (fun H locs hP hD hS => ?_)
          rw [nI_clamp (n := j) (by omega)] at hP hD
          have hwM6 := wf_sR hwM2 ro j (v := (some k5)) (fun _ h => by cases h; exact hk5)
          obtain ⟨M6, eM6⟩ : ∃ z, z = sR M2 ro j (some k5) := ⟨_, rfl⟩
          have hP := cP_eq (wRr (r := ro) (v := (some k5)) hro) hP; have hD := cD_eq (wRr (r := ro) (v := (some k5)) hro) hD; rw [← eM6] at hP hD hwM6
          have hr_7 : rc M6 ro = rc M2 ro := by rw [eM6]; rfl
          refine lv_aload_n hx hb dX5_addByAddress_57 rfl (lv_at hl 2 rfl) ?_
          refine va_get (D := D) (cl := cl) (ci := 5) (C := RX5) (T := TX5) (N := 2) hx hb hts hin5 hown hK hP (8 + ro) (wld_get (by omega) (E_ro ga cT cZ M6 hro)) rfl 0 (by decide) (hts (.fieldLink RX5 11 "Tenuredale$Row" "things" "[LTenuredale$Thing;") (by decide +kernel)) (fun _ h9 => h9) rfl dX5_addByAddress_58 ?_
          refine lv_iload_n hx hb dX5_addByAddress_61 rfl (lv_at hl 1 rfl) ?_
          refine lv_iconst (v := nI 1) hx hb dX5_addByAddress_62 (by decide) ?_
          refine lv_isub hx hb dX5_addByAddress_63 ?_
          refine w_toeq (pk_sub (by omega)) ?_
          refine lv_aload_n hx hb dX5_addByAddress_64 rfl (lv_at hl 3 rfl) ?_
          refine va_astq (D := D) (cl := cl) (r := (RX7, TX7, 14)) hx hb hK hP hD hS (15 + ro) 0 (25 + 2 * k) 7 (wld_get (by omega) (E_rw ga cT cZ M6 hro)) rfl (wld_get (by omega) (E_th ga cT cZ M6 k)) rfl (vp_in_nI (n := j - 1) (by omega) (by omega)) dX5_addByAddress_65 (fun H locs hP hD hS => ?_)
          rw [nI_clamp (n := j - 1) (by omega)] at hP hD
          have hwM8 := wf_sR hwM6 ro (j - 1) (v := (some k)) (fun _ h => by cases h; exact hk)
          obtain ⟨M8, eM8⟩ : ∃ z, z = sR M6 ro (j - 1) (some k) := ⟨_, rfl⟩
          have hP := cP_eq (wRr (r := ro) (v := (some k)) hro) hP; have hD := cD_eq (wRr (r := ro) (v := (some k)) hro) hD; rw [← eM8] at hP hD hwM8
          have hr_9 : rc M8 ro = rc M6 ro := by rw [eM8]; rfl
          refine lv_iinc (v := nI (j - 1)) (lv' := [(2, .int (nI (j - 1))), (3, .ref (ga (25 + 2 * k5))), (0, .ref (ga (8 + ro))), (1, .ref (ga (25 + 2 * k)))]) hx hb dX5_addByAddress_66 hl (k := 1) rfl (pk_dec (by omega)) (by decide) rfl (fun ls hl => ?_)
          refine lv_goto (tgt := 12) hx hb dX5_addByAddress_69 (by decide) ?_
          exact ih (j - 1, M8) H locs ls (by dsimp only; omega) ⟨(by omega), (by subst eM8; subst eM6; subst eM1; rw [← hM2, f_sink_p M2 ro k (j := j) (by omega)]; simp_all), hwM8, hP, hD, hS, lv_sub hl [0, 2, 3] rfl⟩
        · skip
          exact W.vret hx hb hr (fun t ht hW => ⟨⟨_, rfl, ⟨(by subst eM1; first | (exfalso; omega) | (rw [← hM2, show j = 0 from by omega]; rfl) | (rw [← hM2, f_sink_p _ _ _ (by omega)]; simp_all)), hwM2⟩, by rw [ht]; exact hP, va_K.moved hW.alike hK, hD⟩, hS.F ht⟩) hS.2.2 dX5_addByAddress_49
