/-! NUMBERS AS Int: an int cell holds iI z; sums without bounds, comparisons within the range. -/
/-- an int cell holds a number so -/
def iI (z : Int) : Int32 := Int32.ofInt z
abbrev inR (z : Int) : Prop := -2147483648 ≤ z ∧ z < 2147483648
theorem inR_iff {z : Int} : inR z ↔ -2147483648 ≤ z ∧ z < 2147483648 := Iff.rfl
theorem iI_toInt {z : Int} (h : inR z) : (iI z).toInt = z := Int32.toInt_ofInt_of_le h.1 h.2
theorem iI_add (a b : Int) : iI a + iI b = iI (a + b) := (Int32.ofInt_add a b).symm
theorem iI_mul (a b : Int) : iI a * iI b = iI (a * b) := (Int32.ofInt_mul a b).symm
theorem iI_neg (a : Int) : -(iI a) = iI (-a) := (Int32.ofInt_neg a).symm
theorem iI_sub (a b : Int) : iI a - iI b = iI (a - b) := by
  rw [Int32.sub_eq_add_neg, iI_neg, iI_add, Int.sub_eq_add_neg]
theorem iI_of (v : Int32) : v = iI v.toInt := (Int32.ofInt_toInt v).symm
theorem iI_inj {a b : Int} (ha : inR a) (hb : inR b) : iI a = iI b ↔ a = b := by
  rw [← Int32.toInt_inj, iI_toInt ha, iI_toInt hb]
theorem iI_lt {a b : Int} (ha : inR a) (hb : inR b) : iI a < iI b ↔ a < b := by
  rw [Int32.lt_iff_toInt_lt, iI_toInt ha, iI_toInt hb]
theorem iI_le {a b : Int} (ha : inR a) (hb : inR b) : iI a ≤ iI b ↔ a ≤ b := by
  rw [Int32.le_iff_toInt_le, iI_toInt ha, iI_toInt hb]
theorem iI_0 : iI 0 = 0 := by decide +kernel
theorem iI_lt0 {a : Int} (ha : inR a) : iI a < 0 ↔ a < 0 := by
  rw [← iI_0]; exact iI_lt ha ⟨by decide, by decide⟩
theorem nI_iI {n : Nat} (h : n < 2 ^ 31) : nI n = iI (n : Int) := by
  rw [← Int32.toInt_inj, nI_toInt h, iI_toInt ⟨by omega, by omega⟩]
theorem iI_clamp {a : Int} (h0 : 0 ≤ a) (h1 : a < 2147483648) : (iI a).toNatClampNeg = a.toNat := by
  have e : iI a = nI a.toNat := by rw [nI_iI (by omega)]; congr 1; omega
  rw [e, nI_clamp (by omega)]
/-- an index within an array -/
theorem iI_in {a : Int} {N : Nat} (h0 : 0 ≤ a) (h1 : a < N) (hN : N < 2 ^ 31) : vp_in (iI a) N := by
  have e : iI a = nI a.toNat := by rw [nI_iI (by omega)]; congr 1; omega
  rw [e]; exact vp_in_nI (by omega) hN
