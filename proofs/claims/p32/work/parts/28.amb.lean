/-! WHAT THE STATEMENT GIVES OF THE START. Written by wip/p32/start.py. -/
theorem str_of {own tx : String} {k : Nat} {args : Array Value} {s : State} (h1 : (Cond.stringRef own k tx).before args s = true) (h2 : (Cond.exactly (.string own k) "java/lang/String").before args s = true) : ∃ a, vk_R own k tx a s := by
  obtain ⟨a, _, _, _, e, -⟩ := Cond.exactly_spec (args := args) (first := s) (o := none) (s := s) (idx := []) h2
  exact ⟨a, vk_R.of h1 e⟩
theorem strs_w : ∀ q ∈ lw_strs, Cond.stringRef q.1 q.2.1 q.2.2 ∈ tables_1 := by decide +kernel
theorem strs_n : ∀ q ∈ lw_strs, Cond.exactly (.string q.1 q.2.1) "java/lang/String" ∈ flatC (Jvm.Cond.and given_1 narrow_1) := by decide +kernel
theorem arr_p {s : State} {args : Array Value} {ty : FieldType} (hty : ∀ C, ty ≠ .object C) (h : (Cond.arrayClass ty).before args s = true) : ∃ cA, ArrOfT s cA ty ∧ va_RA s cA ty := by
  obtain ⟨c, k, comp, h1, h2, h3⟩ := Cond.arrayClass_spec h
  refine ⟨c, fun n z => ⟨fun k h => (by cases h), k, h2, comp, h3⟩, ?_⟩
  cases ty <;> first | exact h1 | exact absurd rfl (hty _)
theorem arr_q {s : State} {args : Array Value} {C : String} (h : (Cond.arrayOver (.object C)).before args s = true) : ∃ cA, ArrOfT s cA (.object C) ∧ va_RA s cA (.object C) := by
  obtain ⟨comp, c, k, h1, -, h2, h3, h4⟩ := Cond.arrayOver_spec h
  exact ⟨c, fun n z => ⟨fun k h => (by cases h), k, h2, comp, h3⟩, k, comp, h2, h3, h1, h4⟩
theorem amb_of {s : State} {b : Nat} (hts : ∀ w ∈ lw_tbl, w.before #[Value.ref b] s = true) (hgv : (Jvm.Cond.and given_1 narrow_1).before #[Value.ref b] s = true) (G : Nat → Nat) : Amb G (fun q : Nat => s.heap.size ≤ q) s s.heap := by
  have hs := flat_of_before _ hgv
  have hA : ∀ a : Nat, a < s.heap.size → ¬ (fun q : Nat => s.heap.size ≤ q) a := fun a h => Nat.not_le.mpr h
  refine ⟨fun w hw => ?_, fun q hq => str_of (hts _ (in_t (strs_w q hq))) (hs _ (strs_n q hq)), va_AO.of (hts (.arrayOver (.object "Tenuredale$Thing")) (in_t (by decide +kernel))), ?_, ?_⟩
  · exact va_Nw.of (aw_onT (List.mem_filter.mp hw).2) (hts w (List.mem_filter.mp hw).1)
  · exact vx_Zqof (hts (.laysStatic Bundle.tN "UNASSIGNED_STACK" Bundle.steD) (in_t (by decide +kernel))) (hts (.initialized Bundle.tN) (in_t (by decide +kernel))) (hs (.isRef (.static Bundle.tN "UNASSIGNED_STACK" Bundle.steD)) (by decide +kernel)) hA
  · exact vx_Zqof (hts (.laysStatic Bundle.tN "SUPPRESSED_SENTINEL" Bundle.listD) (in_t (by decide +kernel))) (hts (.initialized Bundle.tN) (in_t (by decide +kernel))) (hs (.isRef (.static Bundle.tN "SUPPRESSED_SENTINEL" Bundle.listD)) (by decide +kernel)) hA
theorem kn_of {s : State} {b : Nat} (hts : ∀ w ∈ lw_gw, w.before #[Value.ref b] s = true) {C : String} {T : u_T} {N : Nat} {ty : Nat → FieldType} (ok : COK C T N ty) (hi : Cond.instantiable C N ∈ lw_gw) : ∃ z : ClassId × (Nat → Nat), u_Kn s C T N z.1 z.2 := by
  obtain ⟨c, i, h⟩ := u_known hts ok.1 (hts _ hi)
  exact ⟨(c, i), h⟩
theorem K_of {s : State} {b : Nat} (hts : ∀ w ∈ lw_tbl, w.before #[Value.ref b] s = true) : ∃ (D : va_G) (K : Nat → ClassId), va_K D cl (tys K) s := by
  have hg : ∀ w ∈ lw_gw, w.before #[Value.ref b] s = true := fun w h => hts w (List.mem_filter.mp h).1
  have h0 : ∀ k : Nat, ∃ z : ClassId × (Nat → Nat), ∀ q : vw_C, cl[k]? = some q → u_Kn s q.1 q.2.1 q.2.2 z.1 z.2 := by
    intro k
    match k with
    | 0 =>
      obtain ⟨z, hz⟩ := kn_of hg ok_RX0 (gw_of (in_t1 (List.mem_of_getElem? (i := 213) (by decide +kernel))) rfl)
      exact ⟨z, fun q hq => by cases hq; exact hz⟩
    | 1 =>
      obtain ⟨z, hz⟩ := kn_of hg ok_RX1 (gw_of (in_t1 (List.mem_of_getElem? (i := 134) (by decide +kernel))) rfl)
      exact ⟨z, fun q hq => by cases hq; exact hz⟩
    | 2 =>
      obtain ⟨z, hz⟩ := kn_of hg ok_RX2 (gw_of (in_t1 (List.mem_of_getElem? (i := 177) (by decide +kernel))) rfl)
      exact ⟨z, fun q hq => by cases hq; exact hz⟩
    | 3 =>
      obtain ⟨z, hz⟩ := kn_of hg ok_RX3 (gw_of (in_t1 (List.mem_of_getElem? (i := 67) (by decide +kernel))) rfl)
      exact ⟨z, fun q hq => by cases hq; exact hz⟩
    | 4 =>
      obtain ⟨z, hz⟩ := kn_of hg ok_RX4 (gw_of (in_t1 (List.mem_of_getElem? (i := 42) (by decide +kernel))) rfl)
      exact ⟨z, fun q hq => by cases hq; exact hz⟩
    | 5 =>
      obtain ⟨z, hz⟩ := kn_of hg ok_RX5 (gw_of (in_t1 (List.mem_of_getElem? (i := 27) (by decide +kernel))) rfl)
      exact ⟨z, fun q hq => by cases hq; exact hz⟩
    | 6 =>
      obtain ⟨z, hz⟩ := kn_of hg ok_RX6 (gw_of (in_t1 (List.mem_of_getElem? (i := 111) (by decide +kernel))) rfl)
      exact ⟨z, fun q hq => by cases hq; exact hz⟩
    | 7 =>
      obtain ⟨z, hz⟩ := kn_of hg ok_RX7 (gw_of (in_t3 (List.mem_of_getElem? (i := 189) (by decide +kernel))) rfl)
      exact ⟨z, fun q hq => by cases hq; exact hz⟩
    | 8 =>
      obtain ⟨z, hz⟩ := kn_of hg ok_RX8 (gw_of (in_t1 (List.mem_of_getElem? (i := 150) (by decide +kernel))) rfl)
      exact ⟨z, fun q hq => by cases hq; exact hz⟩
    | 9 =>
      obtain ⟨z, hz⟩ := kn_of hg ok_RX9 (gw_of (in_t1 (List.mem_of_getElem? (i := 19) (by decide +kernel))) rfl)
      exact ⟨z, fun q hq => by cases hq; exact hz⟩
    | n + 10 => exact ⟨(0, fun _ => 0), fun q hq => by simp [cl] at hq⟩
  obtain ⟨f, hf⟩ := Classical.axiomOfChoice h0
  obtain ⟨k0, a0⟩ := arr_q (hts (.arrayOver (.object "Tenuredale$Thing")) (in_t (by decide +kernel)))
  obtain ⟨k1, a1⟩ := arr_p (ty := .boolean) (fun _ h => by cases h) (hts (.arrayClass .boolean) (in_t (by decide +kernel)))
  obtain ⟨k2, a2⟩ := arr_p (ty := .int) (fun _ h => by cases h) (hts (.arrayClass .int) (in_t (by decide +kernel)))
  refine ⟨(fun k => (f k).1, fun k => (f k).2), fun k => match k with | 0 => k0 | 1 => k1 | _ => k2, fun c q hq => hf c q hq, fun k q hq => ?_⟩
  match k, hq with
  | 0, hq => cases hq; exact a0
  | 1, hq => cases hq; exact a1
  | 2, hq => cases hq; exact a2
  | n + 3, hq => simp [tys] at hq
