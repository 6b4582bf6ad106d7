set_option maxHeartbeats 4000000 in
set_option maxRecDepth 100000 in
/-- Tenuredale$Tally.noteTouched -/
theorem cX6_noteTouched_ok (l : Launch) (ga : Nat → Nat) (n : Nat) (cT cZ : ClassId) (D : va_G) (M : cSt) (hw : cWF n M) (sz : Nat) (v : Int32)  : Met l yX6_noteTouched wsX6_noteTouched ({ frames := 1, cells := 0, slots := 0, locals := 21 }) (va_Pc [.ref (ga 3), .int v] (cPr ga n cT cZ D M sz)) (va_Qv (fun u9 : cSt => u9 = f_note M v ∧ cWF n u9) (cB ga n cT cZ D (cAA ga n sz)) (cAA ga n sz)) 0 0 (cAA ga n sz) := by
  refine Met.ofW (cc := cX6_noteTouched) (maxL := 2) (ret := none) (by decide) rfl ?_
  intro p e s m args below meth c s₁ B hml hv
  obtain ⟨rfl, hsz, hP, hK, hD0⟩ := hv
  have hx := B.exec
  have hb := B.bytes
  have hr := B.returns
  have hts := atoms_spec (ws := wsX6_noteTouched) B.pre
  have hown : s.vm.findClass RX6 = some m.cls := findClass_of_methodNamed B.named
  have hlocks := B.notSynchronized
  have hin6 : ∀ w ∈ u_ws RX6 TX6 4, w ∈ wsX6_noteTouched := by decide +kernel
  subst hsz
  have hD := wld_self (sz := s.heap.size) hD0
  generalize hAe : cAA ga n s.heap.size = A at hD ⊢
  have hA : ∀ q : Nat, s.heap.size ≤ q → A q := fun q h => by rw [← hAe]; exact Or.inr h
  have hS : va_S A s.heap s.heap [] := va_S.rf
  have hP : va_P D cl (wld ga n cT cZ M) s.heap := hP
  have hl := lv_entry ([.ref (ga 3), .int v]) (n := 2) (Nat.le_of_ble_eq_true rfl)
  rw [lg_entry_eq]
  generalize (lg_sl ([.ref (ga 3), .int v]) ++ List.replicate (2 - (lg_sl ([.ref (ga 3), .int v])).length) Slot.unset).toArray = ls at hl ⊢
  have hl : lv_has ls 2 [(0, .ref (ga 3)), (1, .int v)] := hl
  refine lv_aload_n hx hb dX6_noteTouched_0 rfl (lv_at hl 0 rfl) ?_
  refine lv_iload_n hx hb dX6_noteTouched_1 rfl (lv_at hl 1 rfl) ?_
  refine va_put (D := D) (cl := cl) (ci := 6) (v := .int v) (ty := .int) (C := RX6) (T := TX6) (N := 4) hx hb hts hin6 tyX6 tyX6_ok nmX6 hown hK hP hD hS (3) (wld_get (by omega) rfl) rfl 2 (by decide) (hts (.fieldLink RX6 7 "Tenuredale$Tally" "latestTouched" "I") (by decide +kernel)) (fun _ h9 => h9) rfl (by decide +kernel) rfl rfl (Nat.le_of_ble_eq_true rfl) dX6_noteTouched_2 (fun H locs hP hD hS => ?_)
  have hwM1 := wf_sI hw _ (by decide)
  obtain ⟨M1, eM1⟩ : ∃ z, z = sI M 8 v := ⟨_, rfl⟩
  have hP := cP_eq wI_8 hP; have hD := cD_eq wI_8 hD; rw [← eM1] at hP hD hwM1
  refine lv_aload_n hx hb dX6_noteTouched_5 rfl (lv_at hl 0 rfl) ?_
  refine lv_aload_n hx hb dX6_noteTouched_6 rfl (lv_at hl 0 rfl) ?_
  refine va_get (D := D) (cl := cl) (ci := 6) (C := RX6) (T := TX6) (N := 4) hx hb hts hin6 hown hK hP (3) (wld_get (by omega) rfl) rfl 3 (by decide) (hts (.fieldLink RX6 13 "Tenuredale$Tally" "mostTouched" "I") (by decide +kernel)) (fun _ h9 => h9) rfl dX6_noteTouched_7 ?_
  refine lv_iload_n hx hb dX6_noteTouched_10 rfl (lv_at hl 1 rfl) ?_
  refine va_mmmax hx hb (hml.trans hl.1.symm) hown (hts (.methodLink RX6 16 Lib.Math.max.name) (by decide +kernel)) (hts (.static Lib.Math.max.name) (by decide +kernel)) (hts (.initialized "java/lang/Math") (by decide +kernel)) (hts (.code Lib.Math.max.name Lib.Math.max.code 2 (some .int)) (by decide +kernel)) (Nat.le_of_ble_eq_true rfl) (Nat.le_of_ble_eq_true rfl) (by decide) (by decide) dX6_noteTouched_11 ?_
  refine va_put (D := D) (cl := cl) (ci := 6) (v := .int (if gI M1 9 < v then v else gI M1 9)) (ty := .int) (C := RX6) (T := TX6) (N := 4) hx hb hts hin6 tyX6 tyX6_ok nmX6 hown hK hP hD hS (3) (wld_get (by omega) rfl) rfl 3 (by decide) (hts (.fieldLink RX6 13 "Tenuredale$Tally" "mostTouched" "I") (by decide +kernel)) (fun _ h9 => h9) rfl (by decide +kernel) rfl rfl (Nat.le_of_ble_eq_true rfl) dX6_noteTouched_14 (fun H locs hP hD hS => ?_)
  have hwM2 := wf_sI hwM1 _ (by decide)
  obtain ⟨M2, eM2⟩ : ∃ z, z = sI M1 9 (if gI M1 9 < v then v else gI M1 9) := ⟨_, rfl⟩
  have hP := cP_eq wI_9 hP; have hD := cD_eq wI_9 hD; rw [← eM2] at hP hD hwM2
  exact W.vret hx hb hr (fun t ht hW => ⟨⟨_, rfl, ⟨(by subst eM2; subst eM1; first | rfl | (simp []; done) | (simp [] <;> omega)), hwM2⟩, by rw [ht]; exact hP, va_K.moved hW.alike hK, hD⟩, hS.F ht⟩) hS.2.2 dX6_noteTouched_17
