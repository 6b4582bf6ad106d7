/-! WHAT THE STATEMENT GIVES OF THE START: the ground, the classes of objects and arrays -/
theorem str_of {own tx : String} {k : Nat} {args : Array Value} {s : State} (h1 : (Cond.stringRef own k tx).before args s = true) (h2 : (Cond.exactly (.string own k) "java/lang/String").before args s = true) : ∃ a, vk_R own k tx a s := by
  obtain ⟨a, _, _, _, e, -⟩ := Cond.exactly_spec (args := args) (first := s) (o := none) (s := s) (idx := []) h2
  exact ⟨a, vk_R.of h1 e⟩
theorem strs_w : ∀ q ∈ lw_strs, Cond.stringRef q.1 q.2.1 q.2.2 ∈ tables_1 := by decide +kernel
theorem strs_n : ∀ q ∈ lw_strs, Cond.exactly (.string q.1 q.2.1) "java/lang/String" ∈ flatC (Jvm.Cond.and given_1 narrow_1) := by decide +kernel
theorem G_k (t0 mi tc : Nat) (ad : Nat → Nat) (k : Nat) : (fun k : Nat => match k with | 0 => t0 | 1 => mi | 2 => tc | n + 3 => ad n) (3 + k) = ad k := by rw [Nat.add_comm]
theorem arr_p {s : State} {args : Array Value} {ty : FieldType} (hty : ∀ C, ty ≠ .object C) (h : (Cond.arrayClass ty).before args s = true) : ∃ cA, ArrOfT s cA ty ∧ va_RA s cA ty := by
  obtain ⟨c, k, comp, h1, h2, h3⟩ := Cond.arrayClass_spec h
  refine ⟨c, fun n z => ⟨fun k h => (by cases h), k, h2, comp, h3⟩, ?_⟩
  cases ty <;> first | exact h1 | exact absurd rfl (hty _)
theorem arr_q {s : State} {args : Array Value} {C : String} (h : (Cond.arrayOver (.object C)).before args s = true) : ∃ cA, ArrOfT s cA (.object C) ∧ va_RA s cA (.object C) := by
  obtain ⟨comp, c, k, h1, -, h2, h3, h4⟩ := Cond.arrayOver_spec h
  exact ⟨c, fun n z => ⟨fun k h => (by cases h), k, h2, comp, h3⟩, k, comp, h2, h3, h1, h4⟩
theorem amb_of {s : State} {b : Nat} (hts : ∀ w ∈ lw_tbl, w.before #[Value.ref b] s = true) (hgv : (Jvm.Cond.and given_1 narrow_1).before #[Value.ref b] s = true) : ∃ G : Nat → Nat, Amb G (fun q : Nat => s.heap.size ≤ q) s s.heap := by
  have hs := flat_of_before _ hgv
  have hA : ∀ a : Nat, a < s.heap.size → ¬ (fun q : Nat => s.heap.size ≤ q) a := fun a h => Nat.not_le.mpr h
  have hE1 := va_eqt (hs (.eq (.length (.static "java/util/ArrayList" "DEFAULTCAPACITY_EMPTY_ELEMENTDATA" "[Ljava/lang/Object;")) (.int 0)) (by decide +kernel))
  obtain ⟨t0, hE2, hE3⟩ := va_Tof (N := 0) (f := fun _ => .null) (A := fun q : Nat => s.heap.size ≤ q) (by decide) (hs (.arrayOf (.static "java/util/ArrayList" "DEFAULTCAPACITY_EMPTY_ELEMENTDATA" "[Ljava/lang/Object;") (.object "java/lang/Object")) (by decide +kernel)) hE1 (fun j h => absurd h (by omega)) hA
  have hE4 : va_Z "java/util/ArrayList" "DEFAULTCAPACITY_EMPTY_ELEMENTDATA" "[Ljava/lang/Object;" (.ref t0) (fun q : Nat => s.heap.size ≤ q) s s.heap := va_Zof (hts (.laysStatic "java/util/ArrayList" "DEFAULTCAPACITY_EMPTY_ELEMENTDATA" "[Ljava/lang/Object;") (in_t (by decide +kernel))) (hts (.initialized "java/util/ArrayList") (in_t (by decide +kernel))) hE2 hA
  have hE5 : va_O "[Ljava/lang/Object;" t0 (fun q : Nat => s.heap.size ≤ q) s s.heap := by
    obtain ⟨a, c, cell, k, e1, e2, e3, -, e5, e6, -⟩ := Cond.exactly_spec (args := #[Value.ref b]) (first := s) (o := none) (s := s) (idx := []) (hs (.exactly (.static "java/util/ArrayList" "DEFAULTCAPACITY_EMPTY_ELEMENTDATA" "[Ljava/lang/Object;") "[Ljava/lang/Object;") (by decide +kernel))
    cases e1.symm.trans hE2
    exact ⟨cell, e3, e5, by rw [e6]; exact e2, hA _ (Array.getElem?_eq_some_iff.mp e3).1⟩
  obtain ⟨mi, hmi⟩ := va_Mi.of (hs (.isRef (.mirror "[Ljava/lang/Object;")) (by decide +kernel))
  have hC1 := va_eqt (hs (.eq (.length (.static "java/lang/Integer$IntegerCache" "cache" "[Ljava/lang/Integer;")) (.int 256)) (by decide +kernel))
  obtain ⟨ad, hC2, hC3⟩ := vb_Cof (A := fun q : Nat => s.heap.size ≤ q) (st := .static "java/lang/Integer$IntegerCache" "cache" "[Ljava/lang/Integer;") rfl hC1 (hs _ (by decide +kernel)) hA
  obtain ⟨tc, hC4, hC5⟩ := va_Tof (N := 256) (f := fun k => .ref (ad k)) (A := fun q : Nat => s.heap.size ≤ q) (by decide) (hs (.arrayOf (.static "java/lang/Integer$IntegerCache" "cache" "[Ljava/lang/Integer;") (.object "java/lang/Integer")) (by decide +kernel)) hC1 hC3 hA
  have hC6 : va_Z "java/lang/Integer$IntegerCache" "cache" "[Ljava/lang/Integer;" (.ref tc) (fun q : Nat => s.heap.size ≤ q) s s.heap := va_Zof (hts (.laysStatic "java/lang/Integer$IntegerCache" "cache" "[Ljava/lang/Integer;") (in_t (by decide +kernel))) (hts (.initialized "java/lang/Integer$IntegerCache") (in_t (by decide +kernel))) hC4 hA
  have hC7 : va_Z "java/lang/Integer$IntegerCache" "high" "I" (.int 127) (fun q : Nat => s.heap.size ≤ q) s s.heap := va_Zof (hts (.laysStatic "java/lang/Integer$IntegerCache" "high" "I") (in_t (by decide +kernel))) (hts (.initialized "java/lang/Integer$IntegerCache") (in_t (by decide +kernel))) (va_eqi (hs (.eq (.static "java/lang/Integer$IntegerCache" "high" "I") (.int 127)) (by decide +kernel))) hA
  refine ⟨fun k : Nat => match k with | 0 => t0 | 1 => mi | 2 => tc | n + 3 => ad n, fun w hw => ?_, fun q hq => str_of (hts _ (in_t (strs_w q hq))) (hs _ (strs_n q hq)), ⟨va_AO.of (hts (.arrayOver (.object "Tenuredale$Thing")) (in_t (by decide +kernel))), va_AO.of (hts (.arrayOver (.object "java/lang/Object")) (in_t (by decide +kernel)))⟩, ⟨?_, ?_⟩, ⟨hE4, hE3, hE5, hmi⟩, ⟨hC7, hC6, ?_, ?_⟩, ?_, ?_, ?_⟩
  · exact va_Nw.of (aw_onT (List.mem_filter.mp hw).2) (hts w (List.mem_filter.mp hw).1)
  · exact vx_Zqof (hts (.laysStatic Bundle.tN "UNASSIGNED_STACK" Bundle.steD) (in_t (by decide +kernel))) (hts (.initialized Bundle.tN) (in_t (by decide +kernel))) (hs (.isRef (.static Bundle.tN "UNASSIGNED_STACK" Bundle.steD)) (by decide +kernel)) hA
  · exact vx_Zqof (hts (.laysStatic Bundle.tN "SUPPRESSED_SENTINEL" Bundle.listD) (in_t (by decide +kernel))) (hts (.initialized Bundle.tN) (in_t (by decide +kernel))) (hs (.isRef (.static Bundle.tN "SUPPRESSED_SENTINEL" Bundle.listD)) (by decide +kernel)) hA
  · have e : (fun k => Value.ref (ad k)) = (fun k => Value.ref ((fun k : Nat => match k with | 0 => t0 | 1 => mi | 2 => tc | n + 3 => ad n) (3 + k))) := by funext k; rw [G_k]
    rw [← e]; exact hC5
  · have e : ad = (fun k => (fun k : Nat => match k with | 0 => t0 | 1 => mi | 2 => tc | n + 3 => ad n) (3 + k)) := by funext k; rw [G_k]
    rw [← e]; exact hC2
  · exact va_Fw.of (hts _ (in_t (by decide +kernel))) (hts _ (in_t (by decide +kernel))) (hts _ (in_t (by decide +kernel))) (hts _ (in_t (by decide +kernel))) (hts _ (in_t (by decide +kernel)))
  · exact va_Fw.of (hts _ (in_t (by decide +kernel))) (hts _ (in_t (by decide +kernel))) (hts _ (in_t (by decide +kernel))) (hts _ (in_t (by decide +kernel))) (hts _ (in_t (by decide +kernel)))
  · exact va_Fw.of (hts _ (in_t (by decide +kernel))) (hts _ (in_t (by decide +kernel))) (hts _ (in_t (by decide +kernel))) (hts _ (in_t (by decide +kernel))) (hts _ (in_t (by decide +kernel)))
theorem ncs_of {s : State} {b : Nat} (hgv : (Jvm.Cond.and given_1 narrow_1).before #[Value.ref b] s = true) : Ncs s := by
  have hs := flat_of_before _ hgv
  exact ⟨va_Nc.of (hs (.not (.castable "java/lang/IllegalStateException" "java/lang/IndexOutOfBoundsException")) (by decide +kernel)), va_Nc.of (hs (.not (.castable "java/lang/IllegalStateException" "java/lang/IllegalArgumentException")) (by decide +kernel)), va_Nc.of (hs (.not (.castable "java/lang/IllegalArgumentException" "java/lang/IndexOutOfBoundsException")) (by decide +kernel))⟩
theorem kn_of {s : State} {b : Nat} (hts : ∀ w ∈ lw_gw, w.before #[Value.ref b] s = true) {C : String} {T : u_T} {N : Nat} {ty : Nat → FieldType} (ok : COK C T N ty) (hi : Cond.instantiable C N ∈ lw_gw) : ∃ z : ClassId × (Nat → Nat), u_Kn s C T N z.1 z.2 := by
  obtain ⟨c, i, h⟩ := u_known hts ok.1 (hts _ hi)
  exact ⟨(c, i), h⟩
theorem K_of {s : State} {b : Nat} (hts : ∀ w ∈ lw_tbl, w.before #[Value.ref b] s = true) : ∃ (D : va_G) (K : Nat → ClassId), va_K D cl (tys K) s := by
  have hg : ∀ w ∈ lw_gw, w.before #[Value.ref b] s = true := fun w h => hts w (List.mem_filter.mp h).1
  have h0 : ∀ k : Nat, ∃ z : ClassId × (Nat → Nat), ∀ q : vw_C, cl[k]? = some q → u_Kn s q.1 q.2.1 q.2.2 z.1 z.2 := by
    intro k
    match k with
    | 0 =>
      obtain ⟨z, hz⟩ := kn_of hg ok_RX0 (gw_of (in_t1 (List.mem_of_getElem? (i := 234) (by decide +kernel))) rfl)
      exact ⟨z, fun q hq => by cases hq; exact hz⟩
    | 1 =>
      obtain ⟨z, hz⟩ := kn_of hg ok_RX1 (gw_of (in_t1 (List.mem_of_getElem? (i := 154) (by decide +kernel))) rfl)
      exact ⟨z, fun q hq => by cases hq; exact hz⟩
    | 2 =>
      obtain ⟨z, hz⟩ := kn_of hg ok_RX2 (gw_of (in_t1 (List.mem_of_getElem? (i := 197) (by decide +kernel))) rfl)
      exact ⟨z, fun q hq => by cases hq; exact hz⟩
    | 3 =>
      obtain ⟨z, hz⟩ := kn_of hg ok_RX3 (gw_of (in_t1 (List.mem_of_getElem? (i := 87) (by decide +kernel))) rfl)
      exact ⟨z, fun q hq => by cases hq; exact hz⟩
    | 4 =>
      obtain ⟨z, hz⟩ := kn_of hg ok_RX4 (gw_of (in_t1 (List.mem_of_getElem? (i := 62) (by decide +kernel))) rfl)
      exact ⟨z, fun q hq => by cases hq; exact hz⟩
    | 5 =>
      obtain ⟨z, hz⟩ := kn_of hg ok_RX5 (gw_of (in_t1 (List.mem_of_getElem? (i := 47) (by decide +kernel))) rfl)
      exact ⟨z, fun q hq => by cases hq; exact hz⟩
    | 6 =>
      obtain ⟨z, hz⟩ := kn_of hg ok_RX6 (gw_of (in_t1 (List.mem_of_getElem? (i := 131) (by decide +kernel))) rfl)
      exact ⟨z, fun q hq => by cases hq; exact hz⟩
    | 7 =>
      obtain ⟨z, hz⟩ := kn_of hg ok_RX7 (gw_of (in_t4 (List.mem_of_getElem? (i := 83) (by decide +kernel))) rfl)
      exact ⟨z, fun q hq => by cases hq; exact hz⟩
    | 8 =>
      obtain ⟨z, hz⟩ := kn_of hg ok_RX8 (gw_of (in_t1 (List.mem_of_getElem? (i := 170) (by decide +kernel))) rfl)
      exact ⟨z, fun q hq => by cases hq; exact hz⟩
    | 9 =>
      obtain ⟨z, hz⟩ := kn_of hg ok_RX9 (gw_of (in_t1 (List.mem_of_getElem? (i := 39) (by decide +kernel))) rfl)
      exact ⟨z, fun q hq => by cases hq; exact hz⟩
    | 10 =>
      obtain ⟨z, hz⟩ := kn_of hg ok_RX10 (gw_of (in_t5 (List.mem_of_getElem? (i := 163) (by decide +kernel))) rfl)
      exact ⟨z, fun q hq => by cases hq; exact hz⟩
    | 11 =>
      obtain ⟨z, hz⟩ := kn_of hg ok_RX11 (gw_of (in_t8 (List.mem_of_getElem? (i := 143) (by decide +kernel))) rfl)
      exact ⟨z, fun q hq => by cases hq; exact hz⟩
    | 12 =>
      obtain ⟨z, hz⟩ := kn_of hg ok_RX12 (gw_of (in_t5 (List.mem_of_getElem? (i := 157) (by decide +kernel))) rfl)
      exact ⟨z, fun q hq => by cases hq; exact hz⟩
    | 13 =>
      obtain ⟨z, hz⟩ := kn_of hg ok_RJx4a65c (gw_of (in_t5 (List.mem_of_getElem? (i := 169) (by decide +kernel))) rfl)
      exact ⟨z, fun q hq => by cases hq; exact hz⟩
    | 14 =>
      obtain ⟨z, hz⟩ := kn_of hg ok_RJx35411 (gw_of (in_t6 (List.mem_of_getElem? (i := 176) (by decide +kernel))) rfl)
      exact ⟨z, fun q hq => by cases hq; exact hz⟩
    | 15 =>
      obtain ⟨z, hz⟩ := kn_of hg ok_RJ6 (gw_of (in_t8 (List.mem_of_getElem? (i := 29) (by decide +kernel))) rfl)
      exact ⟨z, fun q hq => by cases hq; exact hz⟩
    | n + 16 => exact ⟨(0, fun _ => 0), fun q hq => by simp [cl] at hq⟩
  obtain ⟨f, hf⟩ := Classical.axiomOfChoice h0
  obtain ⟨k0, a0⟩ := arr_q (hts (.arrayOver (.object "Tenuredale$Thing")) (in_t (by decide +kernel)))
  obtain ⟨k1, a1⟩ := arr_p (ty := .boolean) (fun _ h => by cases h) (hts (.arrayClass .boolean) (in_t (by decide +kernel)))
  obtain ⟨k2, a2⟩ := arr_p (ty := .int) (fun _ h => by cases h) (hts (.arrayClass .int) (in_t (by decide +kernel)))
  obtain ⟨k3, a3⟩ := arr_p (ty := .long) (fun _ h => by cases h) (hts (.arrayClass .long) (in_t (by decide +kernel)))
  obtain ⟨k4, a4⟩ := arr_q (hts (.arrayOver (.object "java/lang/Object")) (in_t (by decide +kernel)))
  refine ⟨(fun k => (f k).1, fun k => (f k).2), fun k => match k with | 0 => k0 | 1 => k1 | 2 => k2 | 3 => k3 | _ => k4, fun c q hq => hf c q hq, fun k q hq => ?_⟩
  match k, hq with
  | 0, hq => cases hq; exact a0
  | 1, hq => cases hq; exact a1
  | 2, hq => cases hq; exact a2
  | 3, hq => cases hq; exact a3
  | 4, hq => cases hq; exact a4
  | n + 5, hq => simp [tys] at hq
