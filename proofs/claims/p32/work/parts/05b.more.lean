/-! more rows: words of a class, numbers below 0 -/
theorem usw_of {C : String} {T : u_T} {N : Nat} (ps : List Nat) (h1 : u_ws C T N = ps.filterMap (fun i => tables_1[i]?)) (h2 : (u_ws C T N).all goodWord = true) : ∀ w ∈ u_ws C T N, w ∈ lw_gw := fun w hw => by
  have h3 := List.all_eq_true.mp h2 w hw
  rw [h1] at hw
  obtain ⟨i, -, hi⟩ := List.mem_filterMap.mp hw
  exact gw_of (in_t (List.mem_of_getElem? hi)) h3
theorem z_lt {x : Int32} {n : Nat} (h : x < 0) (hn : n < 2 ^ 31) : x < nI n := by
  rw [Int32.lt_iff_toInt_lt] at h ⊢
  rw [nI_toInt hn]
  have h0 : (0 : Int32).toInt = 0 := by decide +kernel
  omega
theorem ng_lt {x : Int32} (h : x < 0) {n : Nat} (hn : n < 2 ^ 31) : x < nI n := z_lt h hn
theorem ng_le {x : Int32} (h : x < 0) {n : Nat} (hn : n < 2 ^ 31) : x ≤ nI n := Int32.le_of_lt (z_lt h hn)
theorem ng_eqN {x : Int32} (h : x < 0) {n : Nat} (hn : n < 2 ^ 31) : ¬ x = nI n := fun e => by
  have h1 := z_lt h hn
  rw [e] at h1
  exact Int32.lt_irrefl h1
theorem gn_ltN {x : Int32} (h : x < 0) {n : Nat} (hn : n < 2 ^ 31) : ¬ nI n < x := Int32.not_lt.mpr (ng_le h hn)
theorem gn_leN {x : Int32} (h : x < 0) {n : Nat} (hn : n < 2 ^ 31) : ¬ nI n ≤ x := Int32.not_le.mpr (z_lt h hn)
theorem gn_eqN {x : Int32} (h : x < 0) {n : Nat} (hn : n < 2 ^ 31) : ¬ nI n = x := fun e => ng_eqN h hn e.symm
theorem x_toInt {x : Int32} (h : x < 0) {k : Int} (hk : 0 ≤ k) : x.toInt < k := by
  rw [Int32.lt_iff_toInt_lt] at h
  have h0 : (0 : Int32).toInt = 0 := by decide +kernel
  omega
