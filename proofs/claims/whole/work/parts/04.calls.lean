/-! WHAT A METHOD OF THE CLASS NEEDS AND GIVES: contracts over the class's whole world, and the rows for calls by them. -/
abbrev cl : List vw_C := [(RX0, TX0, 6), (RX1, TX1, 3), (RX2, TX2, 9), (RX3, TX3, 8), (RX4, TX4, 4), (RX5, TX5, 2), (RX6, TX6, 4), (RX7, TX7, 14), (RX8, TX8, 6), (RX9, TX9, 9)]
abbrev ctys (cT cZ : ClassId) : List (ClassId × FieldType) := [(cT, .object "Tenuredale$Thing"), (cZ, .boolean)]
/-- references are to things that are there; rows are within their arrays; truth values are 0 or 1 -/
def cWF (n : Nat) (M : cSt) : Prop :=
  (∀ r j k, gR M r j = some k → k < n) ∧ (∀ k j q, gF M k j = some q → q < n) ∧ (∀ r, r < 7 → ∃ c, c ≤ 200 ∧ gI M (10 + r) = nI c) ∧ (∃ c, 1 ≤ c ∧ c ≤ 8 ∧ gI M 1 = nI c) ∧ (∀ k, gL M k ≤ 20) ∧
  (∀ k f, f = 9 ∨ f = 11 ∨ f = 12 ∨ f = 13 → gT M k f = 0 ∨ gT M k f = 1) ∧ (∀ j, gZ M j = 0 ∨ gZ M j = 1) ∧ (gI M 17 = 0 ∨ gI M 17 = 1) ∧ (gI M 19 = 0 ∨ gI M 19 = 1)
theorem wf_sI {n : Nat} {M : cSt} (h : cWF n M) {j : Nat} (v : Int32) (hj : j ≠ 1 ∧ j ≠ 17 ∧ j ≠ 19 ∧ (j < 10 ∨ 17 ≤ j)) : cWF n (sI M j v) := by
  obtain ⟨h1, h2, h3, h4, h5, h6, h7, h8, h9⟩ := h
  have e : ∀ i, i ≠ j → gI (sI M j v) i = gI M i := fun i hi => by show va_up (gIf M) j v i = _; unfold va_up; rw [if_neg hi]
  refine ⟨h1, h2, fun r hr => ?_, ?_, h5, h6, h7, ?_, ?_⟩
  · rw [e _ (by omega)]; exact h3 r hr
  · rw [e _ (by omega)]; exact h4
  · rw [e _ (by omega)]; exact h8
  · rw [e _ (by omega)]; exact h9
theorem wf_sIrow {n : Nat} {M : cSt} (h : cWF n M) {r c : Nat} (hr : r < 7) (hc : c ≤ 200) : cWF n (sI M (10 + r) (nI c)) := by
  obtain ⟨h1, h2, h3, h4, h5, h6, h7, h8, h9⟩ := h
  have e : ∀ i, i ≠ 10 + r → gI (sI M (10 + r) (nI c)) i = gI M i := fun i hi => by show va_up (gIf M) (10 + r) (nI c) i = _; unfold va_up; rw [if_neg hi]
  refine ⟨h1, h2, fun q hq => ?_, ?_, h5, h6, h7, ?_, ?_⟩
  · by_cases hqr : q = r
    · subst hqr
      exact ⟨c, hc, by show va_up (gIf M) (10 + q) (nI c) (10 + q) = _; unfold va_up; rw [if_pos rfl]⟩
    · rw [e _ (by omega)]; exact h3 q hq
  · rw [e _ (by omega)]; exact h4
  · rw [e _ (by omega)]; exact h8
  · rw [e _ (by omega)]; exact h9
theorem wf_sI1 {n : Nat} {M : cSt} (h : cWF n M) {c : Nat} (h1c : 1 ≤ c) (hc : c ≤ 8) : cWF n (sI M 1 (nI c)) := by
  obtain ⟨h1, h2, h3, h4, h5, h6, h7, h8, h9⟩ := h
  have e : ∀ i, i ≠ 1 → gI (sI M 1 (nI c)) i = gI M i := fun i hi => by show va_up (gIf M) 1 (nI c) i = _; unfold va_up; rw [if_neg hi]
  refine ⟨h1, h2, fun q hq => ?_, ⟨c, h1c, hc, rfl⟩, h5, h6, h7, ?_, ?_⟩
  · rw [e _ (by omega)]; exact h3 q hq
  · rw [e _ (by omega)]; exact h8
  · rw [e _ (by omega)]; exact h9
theorem wf_sIb {n : Nat} {M : cSt} (h : cWF n M) {j : Nat} {v : Int32} (hj : j = 17 ∨ j = 19) (hv : v = 0 ∨ v = 1) : cWF n (sI M j v) := by
  obtain ⟨h1, h2, h3, h4, h5, h6, h7, h8, h9⟩ := h
  have e : ∀ i, i ≠ j → gI (sI M j v) i = gI M i := fun i hi => by show va_up (gIf M) j v i = _; unfold va_up; rw [if_neg hi]
  have e2 : gI (sI M j v) j = v := by show va_up (gIf M) j v j = _; unfold va_up; rw [if_pos rfl]
  refine ⟨h1, h2, fun q hq => ?_, ?_, h5, h6, h7, ?_, ?_⟩
  · rw [e _ (by omega)]; exact h3 q hq
  · rw [e _ (by omega)]; exact h4
  · rcases hj with rfl | rfl
    · rw [e2]; exact hv
    · rw [e _ (by omega)]; exact h8
  · rcases hj with rfl | rfl
    · rw [e _ (by omega)]; exact h9
    · rw [e2]; exact hv
theorem wf_sT {n : Nat} {M : cSt} (h : cWF n M) (k f : Nat) (v : Int32) (hf : (f ≠ 9 ∧ f ≠ 11 ∧ f ≠ 12 ∧ f ≠ 13) ∨ v = 0 ∨ v = 1) : cWF n (sT M k f v) := by
  obtain ⟨h1, h2, h3, h4, h5, h6, h7, h8, h9⟩ := h
  refine ⟨h1, h2, h3, h4, h5, fun q g hg => ?_, h7, h8, h9⟩
  show va_up (gTf M) k (va_up (gTf M k) f v) q g = 0 ∨ va_up (gTf M) k (va_up (gTf M k) f v) q g = 1
  unfold va_up
  by_cases hq : q = k
  · rw [if_pos hq]
    by_cases hgf : g = f
    · rw [if_pos hgf]; rcases hf with hf | hf
      · exact absurd hg (by omega)
      · exact hf
    · rw [if_neg hgf]; exact h6 k g hg
  · rw [if_neg hq]; exact h6 q g hg
theorem wf_sR {n : Nat} {M : cSt} (h : cWF n M) (r j : Nat) {v : Option Nat} (hv : ∀ k, v = some k → k < n) : cWF n (sR M r j v) := by
  obtain ⟨h1, h2, h3, h4, h5, h6, h7, h8, h9⟩ := h
  refine ⟨fun q i k => ?_, h2, h3, h4, h5, h6, h7, h8, h9⟩
  show va_up (gRf M) r (va_up (gRf M r) j v) q i = some k → k < n
  unfold va_up
  by_cases hq : q = r
  · rw [if_pos hq]
    by_cases hi : i = j
    · rw [if_pos hi]; exact hv k
    · rw [if_neg hi]; exact h1 r i k
  · rw [if_neg hq]; exact h1 q i k
theorem wf_sF {n : Nat} {M : cSt} (h : cWF n M) (r j : Nat) {v : Option Nat} (hv : ∀ k, v = some k → k < n) : cWF n (sF M r j v) := by
  obtain ⟨h1, h2, h3, h4, h5, h6, h7, h8, h9⟩ := h
  refine ⟨h1, fun q i k => ?_, h3, h4, h5, h6, h7, h8, h9⟩
  show va_up (gFf M) r (va_up (gFf M r) j v) q i = some k → k < n
  unfold va_up
  by_cases hq : q = r
  · rw [if_pos hq]
    by_cases hi : i = j
    · rw [if_pos hi]; exact hv k
    · rw [if_neg hi]; exact h2 r i k
  · rw [if_neg hq]; exact h2 q i k
theorem wf_sZ {n : Nat} {M : cSt} (h : cWF n M) (j : Nat) {v : Int32} (hv : v = 0 ∨ v = 1) : cWF n (sZ M j v) := by
  obtain ⟨h1, h2, h3, h4, h5, h6, h7, h8, h9⟩ := h
  refine ⟨h1, h2, h3, h4, h5, h6, fun q => ?_, h8, h9⟩
  show va_up (gZf M) j v q = 0 ∨ va_up (gZf M) j v q = 1
  unfold va_up
  by_cases hq : q = j
  · rw [if_pos hq]; exact hv
  · rw [if_neg hq]; exact h7 q
/-- what a reading method needs -/
def cPu (ga : Nat → Nat) (n : Nat) (cT cZ : ClassId) (D : va_G) (M : cSt) (U : State) : Prop := va_P D cl (wld ga n cT cZ M) U.heap ∧ va_K D cl (ctys cT cZ) U ∧ va_D (fun _ => True) (wld ga n cT cZ M)
/-- what a writing method needs: the heap's size besides -/
def cPr (ga : Nat → Nat) (n : Nat) (cT cZ : ClassId) (D : va_G) (M : cSt) (sz : Nat) (U : State) : Prop := U.heap.size = sz ∧ cPu ga n cT cZ D M U
/-- what a writing method leaves -/
def cB (ga : Nat → Nat) (n : Nat) (cT cZ : ClassId) (D : va_G) (A : Nat → Prop) (M : cSt) (t : State) : Prop := va_P D cl (wld ga n cT cZ M) t.heap ∧ va_K D cl (ctys cT cZ) t ∧ va_D A (wld ga n cT cZ M)
theorem cPu.blind {av : List Value} {ga : Nat → Nat} {n : Nat} {cT cZ : ClassId} {D : va_G} {M : cSt} : FrameBlind (va_Pc av (cPu ga n cT cZ D M)) := fun a U g mk q => by
  obtain ⟨q0, qP, qK, qD⟩ := q; exact ⟨q0, qP, va_K.moved (u := U) (U := U.calling g mk a) (Vm.Alike.refl U.vm) qK, qD⟩
theorem cPr.blind {av : List Value} {ga : Nat → Nat} {n : Nat} {cT cZ : ClassId} {D : va_G} {M : cSt} {sz : Nat} : FrameBlind (va_Pc av (cPr ga n cT cZ D M sz)) := fun a U g mk q => by
  obtain ⟨q0, q1, qP, qK, qD⟩ := q; exact ⟨q0, q1, qP, va_K.moved (u := U) (U := U.calling g mk a) (Vm.Alike.refl U.vm) qK, qD⟩
theorem cP_eq {D : va_G} {ws ws' : va_W} {H : Heap} (e : ws = ws') (h : va_P D cl ws H) : va_P D cl ws' H := e ▸ h
theorem cD_eq {A : Nat → Prop} {ws ws' : va_W} (e : ws = ws') (h : va_D A ws) : va_D A ws' := e ▸ h
theorem vin_of {i : Int32} {k : Nat} {z : Int32} (hk : k < 2 ^ 31) (hz : z = nI k) (h0 : ¬ i < 0) (h1 : ¬ z ≤ i) : vp_in i k := by
  obtain ⟨j, hj, rfl⟩ := nI_of h0
  refine vp_in_nI ?_ hk
  rw [hz] at h1
  exact Nat.lt_of_not_le (fun h => h1 (nI_le h hj))
section CCALL
variable {p : Program} {l : Launch} {e : Env} {R : Room} {s : State} {m : MethodId} {args : Array Value} {below : List Frame} {meth : Method} {c : Code} {H : Heap} {locs : List Loc} {cells slots : Nat} {Q : State → Prop}
variable {ga : Nat → Nat} {n : Nat} {cT cZ : ClassId} {D : va_G} {M : cSt} {y : MethodName} {bytes cc : ByteArray} {maxL nL nA index ci i : Nat} {ret : Option FieldType} {ws : List Cond} {rm : Room} {Ts : List Cond} {own C : String} {As rest st : List Value} {fs : List Value} {q : vw_C} {ls : Array Slot} {pc : Nat} {A : Nat → Prop} {H0 : Heap}
/-- a reference that may be null, split -/
theorem w_split {o : Option Nat} {f : Nat → Nat} (hN : o = none → W p l e R s m args below meth c H locs cells slots Q (F0 m pc ls (.null :: rest))) (hS : ∀ k, o = some k → W p l e R s m args below meth c H locs cells slots Q (F0 m pc ls (.ref (f k) :: rest))) : W p l e R s m args below meth c H locs cells slots Q (F0 m pc ls (va_rf (o.map f) :: rest)) := by
  cases o with
  | none => exact hN rfl
  | some k => exact hS k rfl
theorem pre_u (hK : va_K D cl (ctys cT cZ) s) (hP : va_P D cl (wld ga n cT cZ M) H) (hD : va_D A (wld ga n cT cZ M)) {U : State} (hU : U.heap = H) (hW : s.WarmedH U.vm) : cPu ga n cT cZ D M U := ⟨by rw [hU]; exact hP, va_K.moved hW.alike hK, hD.weaken (fun _ _ _ _ => trivial)⟩
theorem pre_r (hK : va_K D cl (ctys cT cZ) s) (hP : va_P D cl (wld ga n cT cZ M) H) (hD : va_D A (wld ga n cT cZ M)) {U : State} (hU : U.heap = H) (hW : s.WarmedH U.vm) : cPr ga n cT cZ D M H.size U := ⟨by rw [hU], pre_u hK hP hD hU hW⟩
/-- reading calls -/
theorem kV_i {post : Int32 → Prop} (S : CallFix p m c cc nL s args Ts own) (hM : Met l y ws rm (va_Pc (.ref (ga i) :: As) (cPu ga n cT cZ D M)) (vp_Si post) 0 0 (fun _ => False)) (cw : CallW R s args own C index y bytes maxL ret ws rm 0 0 nA) (hK : va_K D cl (ctys cT cZ) s) (hP : va_P D cl (wld ga n cT cZ M) H) (hD : va_D A (wld ga n cT cZ M)) (hi : i < 25 + 2 * n) (he : cE ga cT cZ M i = .inr (ci, fs)) (hc : cl[ci]? = some q) (hq : q.1 = C) (hn : As.length = nA) (hls : ls.size = nL) (hst : st = As.reverse ++ .ref (ga i) :: rest) (hW : (rest.map fun v => v.category).sum ≤ 8) (hdg : decode cc pc = .ok (.invokevirtual index, 3)) (hf : cells ≤ R.cells ∧ slots ≤ R.slots)
    (kk : ∀ r : Int32, post r → W p l e R s m args below meth c H locs cells slots Q (F0 m (pc + 3) ls (.int r :: rest))) : W p l e R s m args below meth c H locs cells slots Q (F0 m pc ls st) := by
  subst hq
  exact vp_callSi (W.runV (As := As) (rest := rest) S hM cw ⟨cPu.blind, va_recv hK hP hc (wld_get hi he), fun U hU hW => ⟨rfl, pre_u hK hP hD hU hW⟩⟩ rfl hn hls hst (by simpa using hW) hdg hf) kk
theorem kV_q {post : Option Nat → Prop} (S : CallFix p m c cc nL s args Ts own) (hM : Met l y ws rm (va_Pc (.ref (ga i) :: As) (cPu ga n cT cZ D M)) (va_Sq (fun r => ∃ o, r = o.map (fun k => ga (25 + 2 * k)) ∧ post o)) 0 0 (fun _ => False)) (cw : CallW R s args own C index y bytes maxL ret ws rm 0 0 nA) (hK : va_K D cl (ctys cT cZ) s) (hP : va_P D cl (wld ga n cT cZ M) H) (hD : va_D A (wld ga n cT cZ M)) (hi : i < 25 + 2 * n) (he : cE ga cT cZ M i = .inr (ci, fs)) (hc : cl[ci]? = some q) (hq : q.1 = C) (hn : As.length = nA) (hls : ls.size = nL) (hst : st = As.reverse ++ .ref (ga i) :: rest) (hW : (rest.map fun v => v.category).sum ≤ 8) (hdg : decode cc pc = .ok (.invokevirtual index, 3)) (hf : cells ≤ R.cells ∧ slots ≤ R.slots)
    (kk : ∀ o : Option Nat, post o → W p l e R s m args below meth c H locs cells slots Q (F0 m (pc + 3) ls (va_rf (o.map (fun k => ga (25 + 2 * k))) :: rest))) : W p l e R s m args below meth c H locs cells slots Q (F0 m pc ls st) := by
  subst hq
  exact va_csq (W.runV (As := As) (rest := rest) S hM cw ⟨cPu.blind, va_recv hK hP hc (wld_get hi he), fun U hU hW => ⟨rfl, pre_u hK hP hD hU hW⟩⟩ rfl hn hls hst (by simpa using hW) hdg hf) (fun r h => by obtain ⟨o, rfl, h2⟩ := h; exact kk o h2)
theorem kS_i {post : Int32 → Prop} (S : CallFix p m c cc nL s args Ts own) (hM : Met l y ws rm (va_Pc As (cPu ga n cT cZ D M)) (vp_Si post) 0 0 (fun _ => False)) (cw : CallB R s args own index y bytes maxL ret ws rm 0 0 nA ∧ (Cond.static y).before args s = true) (hK : va_K D cl (ctys cT cZ) s) (hP : va_P D cl (wld ga n cT cZ M) H) (hD : va_D A (wld ga n cT cZ M)) (hn : As.length = nA) (hls : ls.size = nL) (hst : st = As.reverse ++ rest) (hW : (rest.map fun v => v.category).sum ≤ 8) (hdg : decode cc pc = .ok (.invokestatic index, 3)) (hf : cells ≤ R.cells ∧ slots ≤ R.slots)
    (kk : ∀ r : Int32, post r → W p l e R s m args below meth c H locs cells slots Q (F0 m (pc + 3) ls (.int r :: rest))) : W p l e R s m args below meth c H locs cells slots Q (F0 m pc ls st) :=
  vp_callSi (W.runS (As := As) (rest := rest) S hM cw ⟨cPu.blind, fun U hU hW => ⟨rfl, pre_u hK hP hD hU hW⟩⟩ rfl hn hls hst (by simpa using hW) hdg hf) kk
/-- writing calls -/
theorem kV_v {post : cSt → Prop} (S : CallFix p m c cc nL s args Ts own) (hM : Met l y ws rm (va_Pc (.ref (ga i) :: As) (cPr ga n cT cZ D M H.size)) (va_Qv post (cB ga n cT cZ D (cAA ga n H.size)) (cAA ga n H.size)) 0 0 (cAA ga n H.size)) (cw : CallW R s args own C index y bytes maxL ret ws rm 0 0 nA) (hK : va_K D cl (ctys cT cZ) s) (hP : va_P D cl (wld ga n cT cZ M) H) (hD : va_D A (wld ga n cT cZ M)) (hS : va_S A H0 H locs) (hA : ∀ q, H0.size ≤ q → A q) (hi : i < 25 + 2 * n) (he : cE ga cT cZ M i = .inr (ci, fs)) (hc : cl[ci]? = some q) (hq : q.1 = C) (hn : As.length = nA) (hls : ls.size = nL) (hst : st = As.reverse ++ .ref (ga i) :: rest) (hW : (rest.map fun v => v.category).sum ≤ 8) (hdg : decode cc pc = .ok (.invokevirtual index, 3)) (hf : cells ≤ R.cells ∧ slots ≤ R.slots)
    (kk : ∀ (M1 : cSt) (H1 : Heap) (locs1 : List Loc), post M1 → va_P D cl (wld ga n cT cZ M1) H1 → va_D A (wld ga n cT cZ M1) → va_S A H0 H1 locs1 → W p l e R s m args below meth c H1 locs1 cells slots Q (F0 m (pc + 3) ls rest)) : W p l e R s m args below meth c H locs cells slots Q (F0 m pc ls st) := by
  subst hq
  have hF := wld_free hD hS hA
  refine va_callv (va_runV (As := As) (rest := rest) S hM cw ⟨cPr.blind, va_recv hK hP hc (wld_get hi he), fun U hU hW => ⟨rfl, pre_r hK hP hD hU hW⟩⟩ rfl hn hls hst (by simpa using hW) hdg hf) hS (fun q _ h => hF q h) hF (fun u t H1 locs1 ht hvm hw hB hz1 hk1 hS1 => ?_)
  obtain ⟨hP1, -, -⟩ := hB
  rw [ht] at hP1
  exact kk u H1 locs1 hw hP1 (wld_D hD) hS1
theorem kV_wi {post : Int32 → cSt → Prop} (S : CallFix p m c cc nL s args Ts own) (hM : Met l y ws rm (va_Pc (.ref (ga i) :: As) (cPr ga n cT cZ D M H.size)) (va_Qi post (cB ga n cT cZ D (cAA ga n H.size)) (cAA ga n H.size)) 0 0 (cAA ga n H.size)) (cw : CallW R s args own C index y bytes maxL ret ws rm 0 0 nA) (hK : va_K D cl (ctys cT cZ) s) (hP : va_P D cl (wld ga n cT cZ M) H) (hD : va_D A (wld ga n cT cZ M)) (hS : va_S A H0 H locs) (hA : ∀ q, H0.size ≤ q → A q) (hi : i < 25 + 2 * n) (he : cE ga cT cZ M i = .inr (ci, fs)) (hc : cl[ci]? = some q) (hq : q.1 = C) (hn : As.length = nA) (hls : ls.size = nL) (hst : st = As.reverse ++ .ref (ga i) :: rest) (hW : (rest.map fun v => v.category).sum ≤ 8) (hdg : decode cc pc = .ok (.invokevirtual index, 3)) (hf : cells ≤ R.cells ∧ slots ≤ R.slots)
    (kk : ∀ (r : Int32) (M1 : cSt) (H1 : Heap) (locs1 : List Loc), post r M1 → va_P D cl (wld ga n cT cZ M1) H1 → va_D A (wld ga n cT cZ M1) → va_S A H0 H1 locs1 → W p l e R s m args below meth c H1 locs1 cells slots Q (F0 m (pc + 3) ls (.int r :: rest))) : W p l e R s m args below meth c H locs cells slots Q (F0 m pc ls st) := by
  subst hq
  have hF := wld_free hD hS hA
  refine va_calli (va_runV (As := As) (rest := rest) S hM cw ⟨cPr.blind, va_recv hK hP hc (wld_get hi he), fun U hU hW => ⟨rfl, pre_r hK hP hD hU hW⟩⟩ rfl hn hls hst (by simpa using hW) hdg hf) hS (fun q _ h => hF q h) hF (fun r u t H1 locs1 ht hvm hw hB hz1 hk1 hS1 => ?_)
  obtain ⟨hP1, -, -⟩ := hB
  rw [ht] at hP1
  exact kk r u H1 locs1 hw hP1 (wld_D hD) hS1
theorem kV_wq {post : Option Nat → cSt → Prop} (S : CallFix p m c cc nL s args Ts own) (hM : Met l y ws rm (va_Pc (.ref (ga i) :: As) (cPr ga n cT cZ D M H.size)) (va_Qq (fun r u => ∃ o, r = o.map (fun k => ga (25 + 2 * k)) ∧ post o u) (cB ga n cT cZ D (cAA ga n H.size)) (cAA ga n H.size)) 0 0 (cAA ga n H.size)) (cw : CallW R s args own C index y bytes maxL ret ws rm 0 0 nA) (hK : va_K D cl (ctys cT cZ) s) (hP : va_P D cl (wld ga n cT cZ M) H) (hD : va_D A (wld ga n cT cZ M)) (hS : va_S A H0 H locs) (hA : ∀ q, H0.size ≤ q → A q) (hi : i < 25 + 2 * n) (he : cE ga cT cZ M i = .inr (ci, fs)) (hc : cl[ci]? = some q) (hq : q.1 = C) (hn : As.length = nA) (hls : ls.size = nL) (hst : st = As.reverse ++ .ref (ga i) :: rest) (hW : (rest.map fun v => v.category).sum ≤ 8) (hdg : decode cc pc = .ok (.invokevirtual index, 3)) (hf : cells ≤ R.cells ∧ slots ≤ R.slots)
    (kk : ∀ (o : Option Nat) (M1 : cSt) (H1 : Heap) (locs1 : List Loc), post o M1 → va_P D cl (wld ga n cT cZ M1) H1 → va_D A (wld ga n cT cZ M1) → va_S A H0 H1 locs1 → W p l e R s m args below meth c H1 locs1 cells slots Q (F0 m (pc + 3) ls (va_rf (o.map (fun k => ga (25 + 2 * k))) :: rest))) : W p l e R s m args below meth c H locs cells slots Q (F0 m pc ls st) := by
  subst hq
  have hF := wld_free hD hS hA
  refine va_callq (va_runV (As := As) (rest := rest) S hM cw ⟨cPr.blind, va_recv hK hP hc (wld_get hi he), fun U hU hW => ⟨rfl, pre_r hK hP hD hU hW⟩⟩ rfl hn hls hst (by simpa using hW) hdg hf) hS (fun q _ h => hF q h) hF (fun r u t H1 locs1 ht hvm hw hB hz1 hk1 hS1 => ?_)
  obtain ⟨hP1, -, -⟩ := hB
  rw [ht] at hP1
  obtain ⟨o, rfl, h2⟩ := hw
  exact kk o u H1 locs1 h2 hP1 (wld_D hD) hS1
theorem kS_v {post : cSt → Prop} (S : CallFix p m c cc nL s args Ts own) (hM : Met l y ws rm (va_Pc As (cPr ga n cT cZ D M H.size)) (va_Qv post (cB ga n cT cZ D (cAA ga n H.size)) (cAA ga n H.size)) 0 0 (cAA ga n H.size)) (cw : CallB R s args own index y bytes maxL ret ws rm 0 0 nA ∧ (Cond.static y).before args s = true) (hK : va_K D cl (ctys cT cZ) s) (hP : va_P D cl (wld ga n cT cZ M) H) (hD : va_D A (wld ga n cT cZ M)) (hS : va_S A H0 H locs) (hA : ∀ q, H0.size ≤ q → A q) (hn : As.length = nA) (hls : ls.size = nL) (hst : st = As.reverse ++ rest) (hW : (rest.map fun v => v.category).sum ≤ 8) (hdg : decode cc pc = .ok (.invokestatic index, 3)) (hf : cells ≤ R.cells ∧ slots ≤ R.slots)
    (kk : ∀ (M1 : cSt) (H1 : Heap) (locs1 : List Loc), post M1 → va_P D cl (wld ga n cT cZ M1) H1 → va_D A (wld ga n cT cZ M1) → va_S A H0 H1 locs1 → W p l e R s m args below meth c H1 locs1 cells slots Q (F0 m (pc + 3) ls rest)) : W p l e R s m args below meth c H locs cells slots Q (F0 m pc ls st) := by
  have hF := wld_free hD hS hA
  refine va_callv (va_runS (As := As) (rest := rest) S hM cw ⟨cPr.blind, fun U hU hW => ⟨rfl, pre_r hK hP hD hU hW⟩⟩ rfl hn hls hst (by simpa using hW) hdg hf) hS (fun q _ h => hF q h) hF (fun u t H1 locs1 ht hvm hw hB hz1 hk1 hS1 => ?_)
  obtain ⟨hP1, -, -⟩ := hB
  rw [ht] at hP1
  exact kk u H1 locs1 hw hP1 (wld_D hD) hS1
end CCALL
