/-! THE STATE OF THE CLASS. One value cSt: scalars; fields of things; rows of references; lengths; references of things; cards. ga: addresses, n: how many things. -/
abbrev cSt : Type := (Nat → Int) × (Nat → Nat → Int) × (Nat → Nat → Option Nat) × (Nat → Nat) × (Nat → Nat → Option Nat) × (Nat → Int)
def gIf (M : cSt) : Nat → Int := M.1
def gTf (M : cSt) : Nat → Nat → Int := M.2.1
def gRf (M : cSt) : Nat → Nat → Option Nat := M.2.2.1
def gLf (M : cSt) : Nat → Nat := M.2.2.2.1
def gFf (M : cSt) : Nat → Nat → Option Nat := M.2.2.2.2.1
def gZf (M : cSt) : Nat → Int := M.2.2.2.2.2
abbrev gI (M : cSt) (j : Nat) : Int := gIf M j
abbrev gT (M : cSt) (k : Nat) : Nat → Int := gTf M k
abbrev gR (M : cSt) (r : Nat) : Nat → Option Nat := gRf M r
abbrev gL (M : cSt) (k : Nat) : Nat := gLf M k
abbrev gF (M : cSt) (k : Nat) : Nat → Option Nat := gFf M k
abbrev gZ (M : cSt) (j : Nat) : Int := gZf M j
/-- the cards, as the array holds them -/
def cz (M : cSt) : Nat → Int32 := fun j => iI (gZf M j)
def sI (M : cSt) (j : Nat) (v : Int) : cSt := (va_up (gIf M) j v, gTf M, gRf M, gLf M, gFf M, gZf M)
def sT (M : cSt) (k f : Nat) (v : Int) : cSt := (gIf M, va_up (gTf M) k (va_up (gTf M k) f v), gRf M, gLf M, gFf M, gZf M)
def sR (M : cSt) (r j : Nat) (v : Option Nat) : cSt := (gIf M, gTf M, va_up (gRf M) r (va_up (gRf M r) j v), gLf M, gFf M, gZf M)
def sF (M : cSt) (k j : Nat) (v : Option Nat) : cSt := (gIf M, gTf M, gRf M, gLf M, va_up (gFf M) k (va_up (gFf M k) j v), gZf M)
def sZ (M : cSt) (j : Nat) (v : Int) : cSt := (gIf M, gTf M, gRf M, gLf M, gFf M, va_up (gZf M) j v)
theorem gIf_sI (M : cSt) (j : Nat) (v : Int) : gIf (sI M j v) = va_up (gIf M) j v := rfl
theorem gTf_sI (M : cSt) (j : Nat) (v : Int) : gTf (sI M j v) = gTf M := rfl
theorem gRf_sI (M : cSt) (j : Nat) (v : Int) : gRf (sI M j v) = gRf M := rfl
theorem gLf_sI (M : cSt) (j : Nat) (v : Int) : gLf (sI M j v) = gLf M := rfl
theorem gFf_sI (M : cSt) (j : Nat) (v : Int) : gFf (sI M j v) = gFf M := rfl
theorem gZf_sI (M : cSt) (j : Nat) (v : Int) : gZf (sI M j v) = gZf M := rfl
theorem gIf_sT (M : cSt) (k f : Nat) (v : Int) : gIf (sT M k f v) = gIf M := rfl
theorem gTf_sT (M : cSt) (k f : Nat) (v : Int) : gTf (sT M k f v) = va_up (gTf M) k (va_up (gTf M k) f v) := rfl
theorem gRf_sT (M : cSt) (k f : Nat) (v : Int) : gRf (sT M k f v) = gRf M := rfl
theorem gLf_sT (M : cSt) (k f : Nat) (v : Int) : gLf (sT M k f v) = gLf M := rfl
theorem gFf_sT (M : cSt) (k f : Nat) (v : Int) : gFf (sT M k f v) = gFf M := rfl
theorem gZf_sT (M : cSt) (k f : Nat) (v : Int) : gZf (sT M k f v) = gZf M := rfl
theorem gIf_sR (M : cSt) (r j : Nat) (v : Option Nat) : gIf (sR M r j v) = gIf M := rfl
theorem gTf_sR (M : cSt) (r j : Nat) (v : Option Nat) : gTf (sR M r j v) = gTf M := rfl
theorem gRf_sR (M : cSt) (r j : Nat) (v : Option Nat) : gRf (sR M r j v) = va_up (gRf M) r (va_up (gRf M r) j v) := rfl
theorem gLf_sR (M : cSt) (r j : Nat) (v : Option Nat) : gLf (sR M r j v) = gLf M := rfl
theorem gFf_sR (M : cSt) (r j : Nat) (v : Option Nat) : gFf (sR M r j v) = gFf M := rfl
theorem gZf_sR (M : cSt) (r j : Nat) (v : Option Nat) : gZf (sR M r j v) = gZf M := rfl
theorem gIf_sF (M : cSt) (k j : Nat) (v : Option Nat) : gIf (sF M k j v) = gIf M := rfl
theorem gTf_sF (M : cSt) (k j : Nat) (v : Option Nat) : gTf (sF M k j v) = gTf M := rfl
theorem gRf_sF (M : cSt) (k j : Nat) (v : Option Nat) : gRf (sF M k j v) = gRf M := rfl
theorem gLf_sF (M : cSt) (k j : Nat) (v : Option Nat) : gLf (sF M k j v) = gLf M := rfl
theorem gFf_sF (M : cSt) (k j : Nat) (v : Option Nat) : gFf (sF M k j v) = va_up (gFf M) k (va_up (gFf M k) j v) := rfl
theorem gZf_sF (M : cSt) (k j : Nat) (v : Option Nat) : gZf (sF M k j v) = gZf M := rfl
theorem gIf_sZ (M : cSt) (j : Nat) (v : Int) : gIf (sZ M j v) = gIf M := rfl
theorem gTf_sZ (M : cSt) (j : Nat) (v : Int) : gTf (sZ M j v) = gTf M := rfl
theorem gRf_sZ (M : cSt) (j : Nat) (v : Int) : gRf (sZ M j v) = gRf M := rfl
theorem gLf_sZ (M : cSt) (j : Nat) (v : Int) : gLf (sZ M j v) = gLf M := rfl
theorem gFf_sZ (M : cSt) (j : Nat) (v : Int) : gFf (sZ M j v) = gFf M := rfl
theorem gZf_sZ (M : cSt) (j : Nat) (v : Int) : gZf (sZ M j v) = va_up (gZf M) j v := rfl

/-- a reference to a thing, by its number -/
def ctv (ga : Nat → Nat) (o : Option Nat) : Value := va_rf (o.map (fun k => ga (25 + 2 * k)))
/-- a row of references, by the addresses -/
def crf (ga : Nat → Nat) (f : Nat → Option Nat) : Nat → Option Nat := fun j => (f j).map (fun k => ga (25 + 2 * k))
def cEth (ga : Nat → Nat) (M : cSt) (k : Nat) : va_E := .inr (7, [.int (iI (gT M k 0)), .ref (ga (26 + 2 * k)), .int (iI (gT M k 2)), .int (iI (gT M k 3)), .int (iI (gT M k 4)), .int (iI (gT M k 5)), .int (iI (gT M k 6)), .int (iI (gT M k 7)), .int (iI (gT M k 8)), .int (iI (gT M k 9)), .int (iI (gT M k 10)), .int (iI (gT M k 11)), .int (iI (gT M k 12)), .int (iI (gT M k 13))])
def cEfl (ga : Nat → Nat) (cT : ClassId) (M : cSt) (k : Nat) : va_E := .inl (cT, gL M k, .inr (.inr (.inr (.inr (crf ga (gF M k))))))
def cErw (ga : Nat → Nat) (cT : ClassId) (M : cSt) (r len : Nat) : va_E := .inl (cT, len, .inr (.inr (.inr (.inr (crf ga (gR M r))))))
def cEro (ga : Nat → Nat) (M : cSt) (r : Nat) : va_E := .inr (5, [.ref (ga (15 + r)), .int (iI (gI M (10 + r)))])
/-- what the world's cell i holds -/
def cE (ga : Nat → Nat) (cT cZ : ClassId) (M : cSt) : Nat → va_E
  | 0 => .inr (9, [.ref (ga 8), .ref (ga 1), .ref (ga 2), .ref (ga 3), .ref (ga 4), .ref (ga 5), .ref (ga 6), .ref (ga 7), .int (iI (gI M 0))])
  | 1 => .inr (4, [.ref (ga 9), .ref (ga 22), .ref (ga 23), .int (iI (gI M 1))])
  | 2 => .inr (3, [.ref (ga 10), .ref (ga 11), .ref (ga 12), .int (iI (gI M 2)), .int (iI (gI M 3)), .int (iI (gI M 4)), .int (iI (gI M 5)), .ref (ga 24)])
  | 3 => .inr (6, [.int (iI (gI M 6)), .int (iI (gI M 7)), .int (iI (gI M 8)), .int (iI (gI M 9))])
  | 4 => .inr (1, [.ref (ga 8), .ref (ga 1), .int (iI (gI M 17))])
  | 5 => .inr (8, [.ref (ga 8), .ref (ga 1), .ref (ga 13), .int (iI (gI M 18)), .int (iI (gI M 19)), ctv ga (gR M 9 0)])
  | 6 => .inr (2, [.int (iI (gI M 20)), .ref (ga 8), .ref (ga 1), .ref (ga 2), .ref (ga 3), .ref (ga 14), .int (iI (gI M 21)), .int (iI (gI M 22)), .int (iI (gI M 23))])
  | 7 => .inr (0, [.ref (ga 8), .ref (ga 1), .ref (ga 2), .ref (ga 3), .ref (ga 4), .ref (ga 5)])
  | 8 => cEro ga M 0
  | 9 => cEro ga M 1
  | 10 => cEro ga M 2
  | 11 => cEro ga M 3
  | 12 => cEro ga M 4
  | 13 => cEro ga M 5
  | 14 => cEro ga M 6
  | 15 => cErw ga cT M 0 200
  | 16 => cErw ga cT M 1 200
  | 17 => cErw ga cT M 2 200
  | 18 => cErw ga cT M 3 200
  | 19 => cErw ga cT M 4 200
  | 20 => cErw ga cT M 5 200
  | 21 => cErw ga cT M 6 200
  | 22 => cErw ga cT M 7 32
  | 23 => cErw ga cT M 8 4
  | 24 => .inl (cZ, 20, .inl (cz M))
  | n + 25 => if n % 2 = 0 then cEth ga M (n / 2) else cEfl ga cT M (n / 2)

theorem E_th (ga : Nat → Nat) (cT cZ : ClassId) (M : cSt) (k : Nat) : cE ga cT cZ M (25 + 2 * k) = cEth ga M k := by
  rw [Nat.add_comm 25]
  show (if (2 * k) % 2 = 0 then cEth ga M ((2 * k) / 2) else cEfl ga cT M ((2 * k) / 2)) = _
  rw [if_pos (by omega), show 2 * k / 2 = k by omega]
theorem E_fl (ga : Nat → Nat) (cT cZ : ClassId) (M : cSt) (k : Nat) : cE ga cT cZ M (26 + 2 * k) = cEfl ga cT M k := by
  rw [show 26 + 2 * k = (2 * k + 1) + 25 by omega]
  show (if (2 * k + 1) % 2 = 0 then cEth ga M ((2 * k + 1) / 2) else cEfl ga cT M ((2 * k + 1) / 2)) = _
  rw [if_neg (by omega), show (2 * k + 1) / 2 = k by omega]
theorem E_ro (ga : Nat → Nat) (cT cZ : ClassId) (M : cSt) {r : Nat} (h : r < 7) : cE ga cT cZ M (8 + r) = cEro ga M r := by
  rcases (show r = 0 ∨ r = 1 ∨ r = 2 ∨ r = 3 ∨ r = 4 ∨ r = 5 ∨ r = 6 by omega) with rfl | rfl | rfl | rfl | rfl | rfl | rfl <;> rfl
theorem E_rw (ga : Nat → Nat) (cT cZ : ClassId) (M : cSt) {r : Nat} (h : r < 7) : cE ga cT cZ M (15 + r) = cErw ga cT M r 200 := by
  rcases (show r = 0 ∨ r = 1 ∨ r = 2 ∨ r = 3 ∨ r = 4 ∨ r = 5 ∨ r = 6 by omega) with rfl | rfl | rfl | rfl | rfl | rfl | rfl <;> rfl
/-- the index of a cell: one of the fixed ones, or a thing, or a thing's row -/
theorem ix_cases (i : Nat) : i < 25 ∨ (∃ k, i = 25 + 2 * k) ∨ ∃ k, i = 26 + 2 * k := by
  rcases Nat.lt_or_ge i 25 with h | h
  · exact Or.inl h
  · rcases Nat.mod_two_eq_zero_or_one (i - 25) with e | e
    · exact Or.inr (Or.inl ⟨(i - 25) / 2, by omega⟩)
    · exact Or.inr (Or.inr ⟨(i - 26) / 2, by omega⟩)
/-- the world -/
def wld (ga : Nat → Nat) (n : Nat) (cT cZ : ClassId) (M : cSt) : va_W := (List.range (25 + 2 * n)).map (fun i => (ga i, cE ga cT cZ M i))
theorem wld_get {ga : Nat → Nat} {n : Nat} {cT cZ : ClassId} {M : cSt} {i : Nat} {x : va_E} (h : i < 25 + 2 * n) (hx : cE ga cT cZ M i = x) : (wld ga n cT cZ M)[i]? = some (ga i, x) := by
  rw [wld, List.getElem?_map, List.getElem?_range h, ← hx]; rfl
theorem wld_inv {ga : Nat → Nat} {n : Nat} {cT cZ : ClassId} {M : cSt} {i : Nat} {q : Nat × va_E} (h : (wld ga n cT cZ M)[i]? = some q) : i < 25 + 2 * n ∧ q = (ga i, cE ga cT cZ M i) := by
  rw [wld, List.getElem?_map] at h
  rcases Nat.lt_or_ge i (25 + 2 * n) with hl | hl
  · rw [List.getElem?_range hl] at h; exact ⟨hl, (Option.some.inj h).symm⟩
  · rw [List.getElem?_eq_none (by rw [List.length_range]; exact hl)] at h; cases h
theorem wld_set {ga : Nat → Nat} {n : Nat} {cT cZ : ClassId} {M : cSt} {M' : cSt} {i : Nat} {x : va_E} (hx : cE ga cT cZ M' i = x) (ho : ∀ j, j ≠ i → cE ga cT cZ M' j = cE ga cT cZ M j) : (wld ga n cT cZ M).set i (ga i, x) = wld ga n cT cZ M' := by
  refine List.ext_getElem? (fun j => ?_)
  rw [List.getElem?_set]
  by_cases hij : i = j
  · subst hij
    rw [if_pos rfl]
    by_cases hl : i < 25 + 2 * n
    · rw [if_pos (by rw [wld, List.length_map, List.length_range]; exact hl), wld_get (M := M') hl hx]
    · rw [if_neg (by rw [wld, List.length_map, List.length_range]; exact hl), List.getElem?_eq_none (by rw [wld, List.length_map, List.length_range]; omega)]
  · rw [if_neg hij]
    by_cases hl : j < 25 + 2 * n
    · rw [wld_get hl rfl, wld_get (M := M') hl (ho j (fun e => hij e.symm))]
    · rw [List.getElem?_eq_none (by rw [wld, List.length_map, List.length_range]; omega), List.getElem?_eq_none (by rw [wld, List.length_map, List.length_range]; omega)]
theorem wld_D {ga : Nat → Nat} {n : Nat} {cT cZ : ClassId} {M : cSt} {M' : cSt} {A : Nat → Prop} (h : va_D A (wld ga n cT cZ M)) : va_D A (wld ga n cT cZ M') := by
  refine ⟨fun i j p q hi hj e => ?_, fun k q hk => ?_⟩
  · obtain ⟨a1, a2⟩ := wld_inv hi; obtain ⟨b1, b2⟩ := wld_inv hj
    refine h.1 i j _ _ (wld_get a1 rfl) (wld_get b1 rfl) ?_
    rw [a2, b2] at e; exact e
  · obtain ⟨a1, a2⟩ := wld_inv hk
    rw [a2]; exact h.2 k (ga k, cE ga cT cZ M k) (wld_get a1 rfl)
/-- which cells the class may write: its own, and new ones -/
def cAA (ga : Nat → Nat) (n sz : Nat) : Nat → Prop := fun q => (∃ i, i < 25 + 2 * n ∧ q = ga i) ∨ sz ≤ q
theorem wld_self {ga : Nat → Nat} {n : Nat} {cT cZ : ClassId} {M : cSt} {A : Nat → Prop} {sz : Nat} (h : va_D A (wld ga n cT cZ M)) : va_D (cAA ga n sz) (wld ga n cT cZ M) :=
  ⟨h.1, fun k q hk => by obtain ⟨a1, a2⟩ := wld_inv hk; rw [a2]; exact Or.inl ⟨k, a1, rfl⟩⟩
theorem wld_free {ga : Nat → Nat} {n : Nat} {cT cZ : ClassId} {M : cSt} {A : Nat → Prop} {H0 H : Heap} {locs : List Loc} (hD : va_D A (wld ga n cT cZ M)) (hS : va_S A H0 H locs) (hA : ∀ q, H0.size ≤ q → A q) : ∀ q, cAA ga n H.size q → A q := by
  intro q h
  rcases h with ⟨i, hi, rfl⟩ | h
  · exact hD.2 i _ (wld_get (M := M) (cT := cT) (cZ := cZ) hi rfl)
  · exact hA q (Nat.le_trans hS.1 h)
theorem wld_inj {ga : Nat → Nat} {n : Nat} {cT cZ : ClassId} {M : cSt} {A : Nat → Prop} (h : va_D A (wld ga n cT cZ M)) {i j : Nat} (hi : i < 25 + 2 * n) (hj : j < 25 + 2 * n) (e : ga i = ga j) : i = j :=
  h.1 i j _ _ (wld_get hi rfl) (wld_get hj rfl) e

theorem Ei_0 (ga : Nat → Nat) (cT cZ : ClassId) (M : cSt) (v : Int) : cE ga cT cZ (sI M 0 v) 0 = .inr (9, [.ref (ga 8), .ref (ga 1), .ref (ga 2), .ref (ga 3), .ref (ga 4), .ref (ga 5), .ref (ga 6), .ref (ga 7), .int (iI v)]) := rfl
theorem Eo_0 (ga : Nat → Nat) (cT cZ : ClassId) (M : cSt) (v : Int) : ∀ i, i ≠ 0 → cE ga cT cZ (sI M 0 v) i = cE ga cT cZ M i
  | 0, h => absurd rfl h
  | 1, h => rfl
  | 2, h => rfl
  | 3, h => rfl
  | 4, h => rfl
  | 5, h => rfl
  | 6, h => rfl
  | 7, h => rfl
  | 8, h => rfl
  | 9, h => rfl
  | 10, h => rfl
  | 11, h => rfl
  | 12, h => rfl
  | 13, h => rfl
  | 14, h => rfl
  | 15, h => rfl
  | 16, h => rfl
  | 17, h => rfl
  | 18, h => rfl
  | 19, h => rfl
  | 20, h => rfl
  | 21, h => rfl
  | 22, h => rfl
  | 23, h => rfl
  | 24, h => rfl
  | _ + 25, _ => rfl
theorem wI_0 {ga : Nat → Nat} {n : Nat} {cT cZ : ClassId} {M : cSt} {v : Int} : (wld ga n cT cZ M).set 0 (ga 0, .inr (9, [.ref (ga 8), .ref (ga 1), .ref (ga 2), .ref (ga 3), .ref (ga 4), .ref (ga 5), .ref (ga 6), .ref (ga 7), .int (iI v)])) = wld ga n cT cZ (sI M 0 v) := wld_set (i := 0) (Ei_0 ga cT cZ M v) (Eo_0 ga cT cZ M v)
theorem Ei_1 (ga : Nat → Nat) (cT cZ : ClassId) (M : cSt) (v : Int) : cE ga cT cZ (sI M 1 v) 1 = .inr (4, [.ref (ga 9), .ref (ga 22), .ref (ga 23), .int (iI v)]) := rfl
theorem Eo_1 (ga : Nat → Nat) (cT cZ : ClassId) (M : cSt) (v : Int) : ∀ i, i ≠ 1 → cE ga cT cZ (sI M 1 v) i = cE ga cT cZ M i
  | 0, h => rfl
  | 1, h => absurd rfl h
  | 2, h => rfl
  | 3, h => rfl
  | 4, h => rfl
  | 5, h => rfl
  | 6, h => rfl
  | 7, h => rfl
  | 8, h => rfl
  | 9, h => rfl
  | 10, h => rfl
  | 11, h => rfl
  | 12, h => rfl
  | 13, h => rfl
  | 14, h => rfl
  | 15, h => rfl
  | 16, h => rfl
  | 17, h => rfl
  | 18, h => rfl
  | 19, h => rfl
  | 20, h => rfl
  | 21, h => rfl
  | 22, h => rfl
  | 23, h => rfl
  | 24, h => rfl
  | _ + 25, _ => rfl
theorem wI_1 {ga : Nat → Nat} {n : Nat} {cT cZ : ClassId} {M : cSt} {v : Int} : (wld ga n cT cZ M).set 1 (ga 1, .inr (4, [.ref (ga 9), .ref (ga 22), .ref (ga 23), .int (iI v)])) = wld ga n cT cZ (sI M 1 v) := wld_set (i := 1) (Ei_1 ga cT cZ M v) (Eo_1 ga cT cZ M v)
theorem Ei_2 (ga : Nat → Nat) (cT cZ : ClassId) (M : cSt) (v : Int) : cE ga cT cZ (sI M 2 v) 2 = .inr (3, [.ref (ga 10), .ref (ga 11), .ref (ga 12), .int (iI v), .int (iI (gI M 3)), .int (iI (gI M 4)), .int (iI (gI M 5)), .ref (ga 24)]) := rfl
theorem Eo_2 (ga : Nat → Nat) (cT cZ : ClassId) (M : cSt) (v : Int) : ∀ i, i ≠ 2 → cE ga cT cZ (sI M 2 v) i = cE ga cT cZ M i
  | 0, h => rfl
  | 1, h => rfl
  | 2, h => absurd rfl h
  | 3, h => rfl
  | 4, h => rfl
  | 5, h => rfl
  | 6, h => rfl
  | 7, h => rfl
  | 8, h => rfl
  | 9, h => rfl
  | 10, h => rfl
  | 11, h => rfl
  | 12, h => rfl
  | 13, h => rfl
  | 14, h => rfl
  | 15, h => rfl
  | 16, h => rfl
  | 17, h => rfl
  | 18, h => rfl
  | 19, h => rfl
  | 20, h => rfl
  | 21, h => rfl
  | 22, h => rfl
  | 23, h => rfl
  | 24, h => rfl
  | _ + 25, _ => rfl
theorem wI_2 {ga : Nat → Nat} {n : Nat} {cT cZ : ClassId} {M : cSt} {v : Int} : (wld ga n cT cZ M).set 2 (ga 2, .inr (3, [.ref (ga 10), .ref (ga 11), .ref (ga 12), .int (iI v), .int (iI (gI M 3)), .int (iI (gI M 4)), .int (iI (gI M 5)), .ref (ga 24)])) = wld ga n cT cZ (sI M 2 v) := wld_set (i := 2) (Ei_2 ga cT cZ M v) (Eo_2 ga cT cZ M v)
theorem Ei_3 (ga : Nat → Nat) (cT cZ : ClassId) (M : cSt) (v : Int) : cE ga cT cZ (sI M 3 v) 2 = .inr (3, [.ref (ga 10), .ref (ga 11), .ref (ga 12), .int (iI (gI M 2)), .int (iI v), .int (iI (gI M 4)), .int (iI (gI M 5)), .ref (ga 24)]) := rfl
theorem Eo_3 (ga : Nat → Nat) (cT cZ : ClassId) (M : cSt) (v : Int) : ∀ i, i ≠ 2 → cE ga cT cZ (sI M 3 v) i = cE ga cT cZ M i
  | 0, h => rfl
  | 1, h => rfl
  | 2, h => absurd rfl h
  | 3, h => rfl
  | 4, h => rfl
  | 5, h => rfl
  | 6, h => rfl
  | 7, h => rfl
  | 8, h => rfl
  | 9, h => rfl
  | 10, h => rfl
  | 11, h => rfl
  | 12, h => rfl
  | 13, h => rfl
  | 14, h => rfl
  | 15, h => rfl
  | 16, h => rfl
  | 17, h => rfl
  | 18, h => rfl
  | 19, h => rfl
  | 20, h => rfl
  | 21, h => rfl
  | 22, h => rfl
  | 23, h => rfl
  | 24, h => rfl
  | _ + 25, _ => rfl
theorem wI_3 {ga : Nat → Nat} {n : Nat} {cT cZ : ClassId} {M : cSt} {v : Int} : (wld ga n cT cZ M).set 2 (ga 2, .inr (3, [.ref (ga 10), .ref (ga 11), .ref (ga 12), .int (iI (gI M 2)), .int (iI v), .int (iI (gI M 4)), .int (iI (gI M 5)), .ref (ga 24)])) = wld ga n cT cZ (sI M 3 v) := wld_set (i := 2) (Ei_3 ga cT cZ M v) (Eo_3 ga cT cZ M v)
theorem Ei_4 (ga : Nat → Nat) (cT cZ : ClassId) (M : cSt) (v : Int) : cE ga cT cZ (sI M 4 v) 2 = .inr (3, [.ref (ga 10), .ref (ga 11), .ref (ga 12), .int (iI (gI M 2)), .int (iI (gI M 3)), .int (iI v), .int (iI (gI M 5)), .ref (ga 24)]) := rfl
theorem Eo_4 (ga : Nat → Nat) (cT cZ : ClassId) (M : cSt) (v : Int) : ∀ i, i ≠ 2 → cE ga cT cZ (sI M 4 v) i = cE ga cT cZ M i
  | 0, h => rfl
  | 1, h => rfl
  | 2, h => absurd rfl h
  | 3, h => rfl
  | 4, h => rfl
  | 5, h => rfl
  | 6, h => rfl
  | 7, h => rfl
  | 8, h => rfl
  | 9, h => rfl
  | 10, h => rfl
  | 11, h => rfl
  | 12, h => rfl
  | 13, h => rfl
  | 14, h => rfl
  | 15, h => rfl
  | 16, h => rfl
  | 17, h => rfl
  | 18, h => rfl
  | 19, h => rfl
  | 20, h => rfl
  | 21, h => rfl
  | 22, h => rfl
  | 23, h => rfl
  | 24, h => rfl
  | _ + 25, _ => rfl
theorem wI_4 {ga : Nat → Nat} {n : Nat} {cT cZ : ClassId} {M : cSt} {v : Int} : (wld ga n cT cZ M).set 2 (ga 2, .inr (3, [.ref (ga 10), .ref (ga 11), .ref (ga 12), .int (iI (gI M 2)), .int (iI (gI M 3)), .int (iI v), .int (iI (gI M 5)), .ref (ga 24)])) = wld ga n cT cZ (sI M 4 v) := wld_set (i := 2) (Ei_4 ga cT cZ M v) (Eo_4 ga cT cZ M v)
theorem Ei_5 (ga : Nat → Nat) (cT cZ : ClassId) (M : cSt) (v : Int) : cE ga cT cZ (sI M 5 v) 2 = .inr (3, [.ref (ga 10), .ref (ga 11), .ref (ga 12), .int (iI (gI M 2)), .int (iI (gI M 3)), .int (iI (gI M 4)), .int (iI v), .ref (ga 24)]) := rfl
theorem Eo_5 (ga : Nat → Nat) (cT cZ : ClassId) (M : cSt) (v : Int) : ∀ i, i ≠ 2 → cE ga cT cZ (sI M 5 v) i = cE ga cT cZ M i
  | 0, h => rfl
  | 1, h => rfl
  | 2, h => absurd rfl h
  | 3, h => rfl
  | 4, h => rfl
  | 5, h => rfl
  | 6, h => rfl
  | 7, h => rfl
  | 8, h => rfl
  | 9, h => rfl
  | 10, h => rfl
  | 11, h => rfl
  | 12, h => rfl
  | 13, h => rfl
  | 14, h => rfl
  | 15, h => rfl
  | 16, h => rfl
  | 17, h => rfl
  | 18, h => rfl
  | 19, h => rfl
  | 20, h => rfl
  | 21, h => rfl
  | 22, h => rfl
  | 23, h => rfl
  | 24, h => rfl
  | _ + 25, _ => rfl
theorem wI_5 {ga : Nat → Nat} {n : Nat} {cT cZ : ClassId} {M : cSt} {v : Int} : (wld ga n cT cZ M).set 2 (ga 2, .inr (3, [.ref (ga 10), .ref (ga 11), .ref (ga 12), .int (iI (gI M 2)), .int (iI (gI M 3)), .int (iI (gI M 4)), .int (iI v), .ref (ga 24)])) = wld ga n cT cZ (sI M 5 v) := wld_set (i := 2) (Ei_5 ga cT cZ M v) (Eo_5 ga cT cZ M v)
theorem Ei_6 (ga : Nat → Nat) (cT cZ : ClassId) (M : cSt) (v : Int) : cE ga cT cZ (sI M 6 v) 3 = .inr (6, [.int (iI v), .int (iI (gI M 7)), .int (iI (gI M 8)), .int (iI (gI M 9))]) := rfl
theorem Eo_6 (ga : Nat → Nat) (cT cZ : ClassId) (M : cSt) (v : Int) : ∀ i, i ≠ 3 → cE ga cT cZ (sI M 6 v) i = cE ga cT cZ M i
  | 0, h => rfl
  | 1, h => rfl
  | 2, h => rfl
  | 3, h => absurd rfl h
  | 4, h => rfl
  | 5, h => rfl
  | 6, h => rfl
  | 7, h => rfl
  | 8, h => rfl
  | 9, h => rfl
  | 10, h => rfl
  | 11, h => rfl
  | 12, h => rfl
  | 13, h => rfl
  | 14, h => rfl
  | 15, h => rfl
  | 16, h => rfl
  | 17, h => rfl
  | 18, h => rfl
  | 19, h => rfl
  | 20, h => rfl
  | 21, h => rfl
  | 22, h => rfl
  | 23, h => rfl
  | 24, h => rfl
  | _ + 25, _ => rfl
theorem wI_6 {ga : Nat → Nat} {n : Nat} {cT cZ : ClassId} {M : cSt} {v : Int} : (wld ga n cT cZ M).set 3 (ga 3, .inr (6, [.int (iI v), .int (iI (gI M 7)), .int (iI (gI M 8)), .int (iI (gI M 9))])) = wld ga n cT cZ (sI M 6 v) := wld_set (i := 3) (Ei_6 ga cT cZ M v) (Eo_6 ga cT cZ M v)
theorem Ei_7 (ga : Nat → Nat) (cT cZ : ClassId) (M : cSt) (v : Int) : cE ga cT cZ (sI M 7 v) 3 = .inr (6, [.int (iI (gI M 6)), .int (iI v), .int (iI (gI M 8)), .int (iI (gI M 9))]) := rfl
theorem Eo_7 (ga : Nat → Nat) (cT cZ : ClassId) (M : cSt) (v : Int) : ∀ i, i ≠ 3 → cE ga cT cZ (sI M 7 v) i = cE ga cT cZ M i
  | 0, h => rfl
  | 1, h => rfl
  | 2, h => rfl
  | 3, h => absurd rfl h
  | 4, h => rfl
  | 5, h => rfl
  | 6, h => rfl
  | 7, h => rfl
  | 8, h => rfl
  | 9, h => rfl
  | 10, h => rfl
  | 11, h => rfl
  | 12, h => rfl
  | 13, h => rfl
  | 14, h => rfl
  | 15, h => rfl
  | 16, h => rfl
  | 17, h => rfl
  | 18, h => rfl
  | 19, h => rfl
  | 20, h => rfl
  | 21, h => rfl
  | 22, h => rfl
  | 23, h => rfl
  | 24, h => rfl
  | _ + 25, _ => rfl
theorem wI_7 {ga : Nat → Nat} {n : Nat} {cT cZ : ClassId} {M : cSt} {v : Int} : (wld ga n cT cZ M).set 3 (ga 3, .inr (6, [.int (iI (gI M 6)), .int (iI v), .int (iI (gI M 8)), .int (iI (gI M 9))])) = wld ga n cT cZ (sI M 7 v) := wld_set (i := 3) (Ei_7 ga cT cZ M v) (Eo_7 ga cT cZ M v)
theorem Ei_8 (ga : Nat → Nat) (cT cZ : ClassId) (M : cSt) (v : Int) : cE ga cT cZ (sI M 8 v) 3 = .inr (6, [.int (iI (gI M 6)), .int (iI (gI M 7)), .int (iI v), .int (iI (gI M 9))]) := rfl
theorem Eo_8 (ga : Nat → Nat) (cT cZ : ClassId) (M : cSt) (v : Int) : ∀ i, i ≠ 3 → cE ga cT cZ (sI M 8 v) i = cE ga cT cZ M i
  | 0, h => rfl
  | 1, h => rfl
  | 2, h => rfl
  | 3, h => absurd rfl h
  | 4, h => rfl
  | 5, h => rfl
  | 6, h => rfl
  | 7, h => rfl
  | 8, h => rfl
  | 9, h => rfl
  | 10, h => rfl
  | 11, h => rfl
  | 12, h => rfl
  | 13, h => rfl
  | 14, h => rfl
  | 15, h => rfl
  | 16, h => rfl
  | 17, h => rfl
  | 18, h => rfl
  | 19, h => rfl
  | 20, h => rfl
  | 21, h => rfl
  | 22, h => rfl
  | 23, h => rfl
  | 24, h => rfl
  | _ + 25, _ => rfl
theorem wI_8 {ga : Nat → Nat} {n : Nat} {cT cZ : ClassId} {M : cSt} {v : Int} : (wld ga n cT cZ M).set 3 (ga 3, .inr (6, [.int (iI (gI M 6)), .int (iI (gI M 7)), .int (iI v), .int (iI (gI M 9))])) = wld ga n cT cZ (sI M 8 v) := wld_set (i := 3) (Ei_8 ga cT cZ M v) (Eo_8 ga cT cZ M v)
theorem Ei_9 (ga : Nat → Nat) (cT cZ : ClassId) (M : cSt) (v : Int) : cE ga cT cZ (sI M 9 v) 3 = .inr (6, [.int (iI (gI M 6)), .int (iI (gI M 7)), .int (iI (gI M 8)), .int (iI v)]) := rfl
theorem Eo_9 (ga : Nat → Nat) (cT cZ : ClassId) (M : cSt) (v : Int) : ∀ i, i ≠ 3 → cE ga cT cZ (sI M 9 v) i = cE ga cT cZ M i
  | 0, h => rfl
  | 1, h => rfl
  | 2, h => rfl
  | 3, h => absurd rfl h
  | 4, h => rfl
  | 5, h => rfl
  | 6, h => rfl
  | 7, h => rfl
  | 8, h => rfl
  | 9, h => rfl
  | 10, h => rfl
  | 11, h => rfl
  | 12, h => rfl
  | 13, h => rfl
  | 14, h => rfl
  | 15, h => rfl
  | 16, h => rfl
  | 17, h => rfl
  | 18, h => rfl
  | 19, h => rfl
  | 20, h => rfl
  | 21, h => rfl
  | 22, h => rfl
  | 23, h => rfl
  | 24, h => rfl
  | _ + 25, _ => rfl
theorem wI_9 {ga : Nat → Nat} {n : Nat} {cT cZ : ClassId} {M : cSt} {v : Int} : (wld ga n cT cZ M).set 3 (ga 3, .inr (6, [.int (iI (gI M 6)), .int (iI (gI M 7)), .int (iI (gI M 8)), .int (iI v)])) = wld ga n cT cZ (sI M 9 v) := wld_set (i := 3) (Ei_9 ga cT cZ M v) (Eo_9 ga cT cZ M v)
theorem Ei_17 (ga : Nat → Nat) (cT cZ : ClassId) (M : cSt) (v : Int) : cE ga cT cZ (sI M 17 v) 4 = .inr (1, [.ref (ga 8), .ref (ga 1), .int (iI v)]) := rfl
theorem Eo_17 (ga : Nat → Nat) (cT cZ : ClassId) (M : cSt) (v : Int) : ∀ i, i ≠ 4 → cE ga cT cZ (sI M 17 v) i = cE ga cT cZ M i
  | 0, h => rfl
  | 1, h => rfl
  | 2, h => rfl
  | 3, h => rfl
  | 4, h => absurd rfl h
  | 5, h => rfl
  | 6, h => rfl
  | 7, h => rfl
  | 8, h => rfl
  | 9, h => rfl
  | 10, h => rfl
  | 11, h => rfl
  | 12, h => rfl
  | 13, h => rfl
  | 14, h => rfl
  | 15, h => rfl
  | 16, h => rfl
  | 17, h => rfl
  | 18, h => rfl
  | 19, h => rfl
  | 20, h => rfl
  | 21, h => rfl
  | 22, h => rfl
  | 23, h => rfl
  | 24, h => rfl
  | _ + 25, _ => rfl
theorem wI_17 {ga : Nat → Nat} {n : Nat} {cT cZ : ClassId} {M : cSt} {v : Int} : (wld ga n cT cZ M).set 4 (ga 4, .inr (1, [.ref (ga 8), .ref (ga 1), .int (iI v)])) = wld ga n cT cZ (sI M 17 v) := wld_set (i := 4) (Ei_17 ga cT cZ M v) (Eo_17 ga cT cZ M v)
theorem Ei_18 (ga : Nat → Nat) (cT cZ : ClassId) (M : cSt) (v : Int) : cE ga cT cZ (sI M 18 v) 5 = .inr (8, [.ref (ga 8), .ref (ga 1), .ref (ga 13), .int (iI v), .int (iI (gI M 19)), ctv ga (gR M 9 0)]) := rfl
theorem Eo_18 (ga : Nat → Nat) (cT cZ : ClassId) (M : cSt) (v : Int) : ∀ i, i ≠ 5 → cE ga cT cZ (sI M 18 v) i = cE ga cT cZ M i
  | 0, h => rfl
  | 1, h => rfl
  | 2, h => rfl
  | 3, h => rfl
  | 4, h => rfl
  | 5, h => absurd rfl h
  | 6, h => rfl
  | 7, h => rfl
  | 8, h => rfl
  | 9, h => rfl
  | 10, h => rfl
  | 11, h => rfl
  | 12, h => rfl
  | 13, h => rfl
  | 14, h => rfl
  | 15, h => rfl
  | 16, h => rfl
  | 17, h => rfl
  | 18, h => rfl
  | 19, h => rfl
  | 20, h => rfl
  | 21, h => rfl
  | 22, h => rfl
  | 23, h => rfl
  | 24, h => rfl
  | _ + 25, _ => rfl
theorem wI_18 {ga : Nat → Nat} {n : Nat} {cT cZ : ClassId} {M : cSt} {v : Int} : (wld ga n cT cZ M).set 5 (ga 5, .inr (8, [.ref (ga 8), .ref (ga 1), .ref (ga 13), .int (iI v), .int (iI (gI M 19)), ctv ga (gR M 9 0)])) = wld ga n cT cZ (sI M 18 v) := wld_set (i := 5) (Ei_18 ga cT cZ M v) (Eo_18 ga cT cZ M v)
theorem Ei_19 (ga : Nat → Nat) (cT cZ : ClassId) (M : cSt) (v : Int) : cE ga cT cZ (sI M 19 v) 5 = .inr (8, [.ref (ga 8), .ref (ga 1), .ref (ga 13), .int (iI (gI M 18)), .int (iI v), ctv ga (gR M 9 0)]) := rfl
theorem Eo_19 (ga : Nat → Nat) (cT cZ : ClassId) (M : cSt) (v : Int) : ∀ i, i ≠ 5 → cE ga cT cZ (sI M 19 v) i = cE ga cT cZ M i
  | 0, h => rfl
  | 1, h => rfl
  | 2, h => rfl
  | 3, h => rfl
  | 4, h => rfl
  | 5, h => absurd rfl h
  | 6, h => rfl
  | 7, h => rfl
  | 8, h => rfl
  | 9, h => rfl
  | 10, h => rfl
  | 11, h => rfl
  | 12, h => rfl
  | 13, h => rfl
  | 14, h => rfl
  | 15, h => rfl
  | 16, h => rfl
  | 17, h => rfl
  | 18, h => rfl
  | 19, h => rfl
  | 20, h => rfl
  | 21, h => rfl
  | 22, h => rfl
  | 23, h => rfl
  | 24, h => rfl
  | _ + 25, _ => rfl
theorem wI_19 {ga : Nat → Nat} {n : Nat} {cT cZ : ClassId} {M : cSt} {v : Int} : (wld ga n cT cZ M).set 5 (ga 5, .inr (8, [.ref (ga 8), .ref (ga 1), .ref (ga 13), .int (iI (gI M 18)), .int (iI v), ctv ga (gR M 9 0)])) = wld ga n cT cZ (sI M 19 v) := wld_set (i := 5) (Ei_19 ga cT cZ M v) (Eo_19 ga cT cZ M v)
theorem Ei_20 (ga : Nat → Nat) (cT cZ : ClassId) (M : cSt) (v : Int) : cE ga cT cZ (sI M 20 v) 6 = .inr (2, [.int (iI v), .ref (ga 8), .ref (ga 1), .ref (ga 2), .ref (ga 3), .ref (ga 14), .int (iI (gI M 21)), .int (iI (gI M 22)), .int (iI (gI M 23))]) := rfl
theorem Eo_20 (ga : Nat → Nat) (cT cZ : ClassId) (M : cSt) (v : Int) : ∀ i, i ≠ 6 → cE ga cT cZ (sI M 20 v) i = cE ga cT cZ M i
  | 0, h => rfl
  | 1, h => rfl
  | 2, h => rfl
  | 3, h => rfl
  | 4, h => rfl
  | 5, h => rfl
  | 6, h => absurd rfl h
  | 7, h => rfl
  | 8, h => rfl
  | 9, h => rfl
  | 10, h => rfl
  | 11, h => rfl
  | 12, h => rfl
  | 13, h => rfl
  | 14, h => rfl
  | 15, h => rfl
  | 16, h => rfl
  | 17, h => rfl
  | 18, h => rfl
  | 19, h => rfl
  | 20, h => rfl
  | 21, h => rfl
  | 22, h => rfl
  | 23, h => rfl
  | 24, h => rfl
  | _ + 25, _ => rfl
theorem wI_20 {ga : Nat → Nat} {n : Nat} {cT cZ : ClassId} {M : cSt} {v : Int} : (wld ga n cT cZ M).set 6 (ga 6, .inr (2, [.int (iI v), .ref (ga 8), .ref (ga 1), .ref (ga 2), .ref (ga 3), .ref (ga 14), .int (iI (gI M 21)), .int (iI (gI M 22)), .int (iI (gI M 23))])) = wld ga n cT cZ (sI M 20 v) := wld_set (i := 6) (Ei_20 ga cT cZ M v) (Eo_20 ga cT cZ M v)
theorem Ei_21 (ga : Nat → Nat) (cT cZ : ClassId) (M : cSt) (v : Int) : cE ga cT cZ (sI M 21 v) 6 = .inr (2, [.int (iI (gI M 20)), .ref (ga 8), .ref (ga 1), .ref (ga 2), .ref (ga 3), .ref (ga 14), .int (iI v), .int (iI (gI M 22)), .int (iI (gI M 23))]) := rfl
theorem Eo_21 (ga : Nat → Nat) (cT cZ : ClassId) (M : cSt) (v : Int) : ∀ i, i ≠ 6 → cE ga cT cZ (sI M 21 v) i = cE ga cT cZ M i
  | 0, h => rfl
  | 1, h => rfl
  | 2, h => rfl
  | 3, h => rfl
  | 4, h => rfl
  | 5, h => rfl
  | 6, h => absurd rfl h
  | 7, h => rfl
  | 8, h => rfl
  | 9, h => rfl
  | 10, h => rfl
  | 11, h => rfl
  | 12, h => rfl
  | 13, h => rfl
  | 14, h => rfl
  | 15, h => rfl
  | 16, h => rfl
  | 17, h => rfl
  | 18, h => rfl
  | 19, h => rfl
  | 20, h => rfl
  | 21, h => rfl
  | 22, h => rfl
  | 23, h => rfl
  | 24, h => rfl
  | _ + 25, _ => rfl
theorem wI_21 {ga : Nat → Nat} {n : Nat} {cT cZ : ClassId} {M : cSt} {v : Int} : (wld ga n cT cZ M).set 6 (ga 6, .inr (2, [.int (iI (gI M 20)), .ref (ga 8), .ref (ga 1), .ref (ga 2), .ref (ga 3), .ref (ga 14), .int (iI v), .int (iI (gI M 22)), .int (iI (gI M 23))])) = wld ga n cT cZ (sI M 21 v) := wld_set (i := 6) (Ei_21 ga cT cZ M v) (Eo_21 ga cT cZ M v)
theorem Ei_22 (ga : Nat → Nat) (cT cZ : ClassId) (M : cSt) (v : Int) : cE ga cT cZ (sI M 22 v) 6 = .inr (2, [.int (iI (gI M 20)), .ref (ga 8), .ref (ga 1), .ref (ga 2), .ref (ga 3), .ref (ga 14), .int (iI (gI M 21)), .int (iI v), .int (iI (gI M 23))]) := rfl
theorem Eo_22 (ga : Nat → Nat) (cT cZ : ClassId) (M : cSt) (v : Int) : ∀ i, i ≠ 6 → cE ga cT cZ (sI M 22 v) i = cE ga cT cZ M i
  | 0, h => rfl
  | 1, h => rfl
  | 2, h => rfl
  | 3, h => rfl
  | 4, h => rfl
  | 5, h => rfl
  | 6, h => absurd rfl h
  | 7, h => rfl
  | 8, h => rfl
  | 9, h => rfl
  | 10, h => rfl
  | 11, h => rfl
  | 12, h => rfl
  | 13, h => rfl
  | 14, h => rfl
  | 15, h => rfl
  | 16, h => rfl
  | 17, h => rfl
  | 18, h => rfl
  | 19, h => rfl
  | 20, h => rfl
  | 21, h => rfl
  | 22, h => rfl
  | 23, h => rfl
  | 24, h => rfl
  | _ + 25, _ => rfl
theorem wI_22 {ga : Nat → Nat} {n : Nat} {cT cZ : ClassId} {M : cSt} {v : Int} : (wld ga n cT cZ M).set 6 (ga 6, .inr (2, [.int (iI (gI M 20)), .ref (ga 8), .ref (ga 1), .ref (ga 2), .ref (ga 3), .ref (ga 14), .int (iI (gI M 21)), .int (iI v), .int (iI (gI M 23))])) = wld ga n cT cZ (sI M 22 v) := wld_set (i := 6) (Ei_22 ga cT cZ M v) (Eo_22 ga cT cZ M v)
theorem Ei_23 (ga : Nat → Nat) (cT cZ : ClassId) (M : cSt) (v : Int) : cE ga cT cZ (sI M 23 v) 6 = .inr (2, [.int (iI (gI M 20)), .ref (ga 8), .ref (ga 1), .ref (ga 2), .ref (ga 3), .ref (ga 14), .int (iI (gI M 21)), .int (iI (gI M 22)), .int (iI v)]) := rfl
theorem Eo_23 (ga : Nat → Nat) (cT cZ : ClassId) (M : cSt) (v : Int) : ∀ i, i ≠ 6 → cE ga cT cZ (sI M 23 v) i = cE ga cT cZ M i
  | 0, h => rfl
  | 1, h => rfl
  | 2, h => rfl
  | 3, h => rfl
  | 4, h => rfl
  | 5, h => rfl
  | 6, h => absurd rfl h
  | 7, h => rfl
  | 8, h => rfl
  | 9, h => rfl
  | 10, h => rfl
  | 11, h => rfl
  | 12, h => rfl
  | 13, h => rfl
  | 14, h => rfl
  | 15, h => rfl
  | 16, h => rfl
  | 17, h => rfl
  | 18, h => rfl
  | 19, h => rfl
  | 20, h => rfl
  | 21, h => rfl
  | 22, h => rfl
  | 23, h => rfl
  | 24, h => rfl
  | _ + 25, _ => rfl
theorem wI_23 {ga : Nat → Nat} {n : Nat} {cT cZ : ClassId} {M : cSt} {v : Int} : (wld ga n cT cZ M).set 6 (ga 6, .inr (2, [.int (iI (gI M 20)), .ref (ga 8), .ref (ga 1), .ref (ga 2), .ref (ga 3), .ref (ga 14), .int (iI (gI M 21)), .int (iI (gI M 22)), .int (iI v)])) = wld ga n cT cZ (sI M 23 v) := wld_set (i := 6) (Ei_23 ga cT cZ M v) (Eo_23 ga cT cZ M v)
theorem Eor_0 (ga : Nat → Nat) (cT cZ : ClassId) (M : cSt) (v : Int) : ∀ i, i ≠ 8 → cE ga cT cZ (sI M 10 v) i = cE ga cT cZ M i
  | 0, h => rfl
  | 1, h => rfl
  | 2, h => rfl
  | 3, h => rfl
  | 4, h => rfl
  | 5, h => rfl
  | 6, h => rfl
  | 7, h => rfl
  | 8, h => absurd rfl h
  | 9, h => rfl
  | 10, h => rfl
  | 11, h => rfl
  | 12, h => rfl
  | 13, h => rfl
  | 14, h => rfl
  | 15, h => rfl
  | 16, h => rfl
  | 17, h => rfl
  | 18, h => rfl
  | 19, h => rfl
  | 20, h => rfl
  | 21, h => rfl
  | 22, h => rfl
  | 23, h => rfl
  | 24, h => rfl
  | _ + 25, _ => rfl
theorem Eor_1 (ga : Nat → Nat) (cT cZ : ClassId) (M : cSt) (v : Int) : ∀ i, i ≠ 9 → cE ga cT cZ (sI M 11 v) i = cE ga cT cZ M i
  | 0, h => rfl
  | 1, h => rfl
  | 2, h => rfl
  | 3, h => rfl
  | 4, h => rfl
  | 5, h => rfl
  | 6, h => rfl
  | 7, h => rfl
  | 8, h => rfl
  | 9, h => absurd rfl h
  | 10, h => rfl
  | 11, h => rfl
  | 12, h => rfl
  | 13, h => rfl
  | 14, h => rfl
  | 15, h => rfl
  | 16, h => rfl
  | 17, h => rfl
  | 18, h => rfl
  | 19, h => rfl
  | 20, h => rfl
  | 21, h => rfl
  | 22, h => rfl
  | 23, h => rfl
  | 24, h => rfl
  | _ + 25, _ => rfl
theorem Eor_2 (ga : Nat → Nat) (cT cZ : ClassId) (M : cSt) (v : Int) : ∀ i, i ≠ 10 → cE ga cT cZ (sI M 12 v) i = cE ga cT cZ M i
  | 0, h => rfl
  | 1, h => rfl
  | 2, h => rfl
  | 3, h => rfl
  | 4, h => rfl
  | 5, h => rfl
  | 6, h => rfl
  | 7, h => rfl
  | 8, h => rfl
  | 9, h => rfl
  | 10, h => absurd rfl h
  | 11, h => rfl
  | 12, h => rfl
  | 13, h => rfl
  | 14, h => rfl
  | 15, h => rfl
  | 16, h => rfl
  | 17, h => rfl
  | 18, h => rfl
  | 19, h => rfl
  | 20, h => rfl
  | 21, h => rfl
  | 22, h => rfl
  | 23, h => rfl
  | 24, h => rfl
  | _ + 25, _ => rfl
theorem Eor_3 (ga : Nat → Nat) (cT cZ : ClassId) (M : cSt) (v : Int) : ∀ i, i ≠ 11 → cE ga cT cZ (sI M 13 v) i = cE ga cT cZ M i
  | 0, h => rfl
  | 1, h => rfl
  | 2, h => rfl
  | 3, h => rfl
  | 4, h => rfl
  | 5, h => rfl
  | 6, h => rfl
  | 7, h => rfl
  | 8, h => rfl
  | 9, h => rfl
  | 10, h => rfl
  | 11, h => absurd rfl h
  | 12, h => rfl
  | 13, h => rfl
  | 14, h => rfl
  | 15, h => rfl
  | 16, h => rfl
  | 17, h => rfl
  | 18, h => rfl
  | 19, h => rfl
  | 20, h => rfl
  | 21, h => rfl
  | 22, h => rfl
  | 23, h => rfl
  | 24, h => rfl
  | _ + 25, _ => rfl
theorem Eor_4 (ga : Nat → Nat) (cT cZ : ClassId) (M : cSt) (v : Int) : ∀ i, i ≠ 12 → cE ga cT cZ (sI M 14 v) i = cE ga cT cZ M i
  | 0, h => rfl
  | 1, h => rfl
  | 2, h => rfl
  | 3, h => rfl
  | 4, h => rfl
  | 5, h => rfl
  | 6, h => rfl
  | 7, h => rfl
  | 8, h => rfl
  | 9, h => rfl
  | 10, h => rfl
  | 11, h => rfl
  | 12, h => absurd rfl h
  | 13, h => rfl
  | 14, h => rfl
  | 15, h => rfl
  | 16, h => rfl
  | 17, h => rfl
  | 18, h => rfl
  | 19, h => rfl
  | 20, h => rfl
  | 21, h => rfl
  | 22, h => rfl
  | 23, h => rfl
  | 24, h => rfl
  | _ + 25, _ => rfl
theorem Eor_5 (ga : Nat → Nat) (cT cZ : ClassId) (M : cSt) (v : Int) : ∀ i, i ≠ 13 → cE ga cT cZ (sI M 15 v) i = cE ga cT cZ M i
  | 0, h => rfl
  | 1, h => rfl
  | 2, h => rfl
  | 3, h => rfl
  | 4, h => rfl
  | 5, h => rfl
  | 6, h => rfl
  | 7, h => rfl
  | 8, h => rfl
  | 9, h => rfl
  | 10, h => rfl
  | 11, h => rfl
  | 12, h => rfl
  | 13, h => absurd rfl h
  | 14, h => rfl
  | 15, h => rfl
  | 16, h => rfl
  | 17, h => rfl
  | 18, h => rfl
  | 19, h => rfl
  | 20, h => rfl
  | 21, h => rfl
  | 22, h => rfl
  | 23, h => rfl
  | 24, h => rfl
  | _ + 25, _ => rfl
theorem Eor_6 (ga : Nat → Nat) (cT cZ : ClassId) (M : cSt) (v : Int) : ∀ i, i ≠ 14 → cE ga cT cZ (sI M 16 v) i = cE ga cT cZ M i
  | 0, h => rfl
  | 1, h => rfl
  | 2, h => rfl
  | 3, h => rfl
  | 4, h => rfl
  | 5, h => rfl
  | 6, h => rfl
  | 7, h => rfl
  | 8, h => rfl
  | 9, h => rfl
  | 10, h => rfl
  | 11, h => rfl
  | 12, h => rfl
  | 13, h => rfl
  | 14, h => absurd rfl h
  | 15, h => rfl
  | 16, h => rfl
  | 17, h => rfl
  | 18, h => rfl
  | 19, h => rfl
  | 20, h => rfl
  | 21, h => rfl
  | 22, h => rfl
  | 23, h => rfl
  | 24, h => rfl
  | _ + 25, _ => rfl
theorem Eor (ga : Nat → Nat) (cT cZ : ClassId) (M : cSt) (v : Int) {r : Nat} (h : r < 7) : ∀ i, i ≠ 8 + r → cE ga cT cZ (sI M (10 + r) v) i = cE ga cT cZ M i := by
  rcases (show r = 0 ∨ r = 1 ∨ r = 2 ∨ r = 3 ∨ r = 4 ∨ r = 5 ∨ r = 6 by omega) with rfl | rfl | rfl | rfl | rfl | rfl | rfl
  · exact Eor_0 ga cT cZ M v
  · exact Eor_1 ga cT cZ M v
  · exact Eor_2 ga cT cZ M v
  · exact Eor_3 ga cT cZ M v
  · exact Eor_4 ga cT cZ M v
  · exact Eor_5 ga cT cZ M v
  · exact Eor_6 ga cT cZ M v
theorem wIr {ga : Nat → Nat} {n : Nat} {cT cZ : ClassId} {M : cSt} {v : Int} {r : Nat} (h : r < 7) : (wld ga n cT cZ M).set (8 + r) (ga (8 + r), .inr (5, [.ref (ga (15 + r)), .int (iI v)])) = wld ga n cT cZ (sI M (10 + r) v) :=
  wld_set (i := 8 + r) ((E_ro ga cT cZ _ h).trans (by simp [cEro, gI, gIf_sI, va_up])) (Eor ga cT cZ M v h)
theorem Erow_0 (ga : Nat → Nat) (cT cZ : ClassId) (M : cSt) (a : Nat) (v : Option Nat) : ∀ i, i ≠ 15 → cE ga cT cZ (sR M 0 a v) i = cE ga cT cZ M i
  | 0, h => rfl
  | 1, h => rfl
  | 2, h => rfl
  | 3, h => rfl
  | 4, h => rfl
  | 5, h => rfl
  | 6, h => rfl
  | 7, h => rfl
  | 8, h => rfl
  | 9, h => rfl
  | 10, h => rfl
  | 11, h => rfl
  | 12, h => rfl
  | 13, h => rfl
  | 14, h => rfl
  | 15, h => absurd rfl h
  | 16, h => rfl
  | 17, h => rfl
  | 18, h => rfl
  | 19, h => rfl
  | 20, h => rfl
  | 21, h => rfl
  | 22, h => rfl
  | 23, h => rfl
  | 24, h => rfl
  | _ + 25, _ => rfl
theorem Erow_1 (ga : Nat → Nat) (cT cZ : ClassId) (M : cSt) (a : Nat) (v : Option Nat) : ∀ i, i ≠ 16 → cE ga cT cZ (sR M 1 a v) i = cE ga cT cZ M i
  | 0, h => rfl
  | 1, h => rfl
  | 2, h => rfl
  | 3, h => rfl
  | 4, h => rfl
  | 5, h => rfl
  | 6, h => rfl
  | 7, h => rfl
  | 8, h => rfl
  | 9, h => rfl
  | 10, h => rfl
  | 11, h => rfl
  | 12, h => rfl
  | 13, h => rfl
  | 14, h => rfl
  | 15, h => rfl
  | 16, h => absurd rfl h
  | 17, h => rfl
  | 18, h => rfl
  | 19, h => rfl
  | 20, h => rfl
  | 21, h => rfl
  | 22, h => rfl
  | 23, h => rfl
  | 24, h => rfl
  | _ + 25, _ => rfl
theorem Erow_2 (ga : Nat → Nat) (cT cZ : ClassId) (M : cSt) (a : Nat) (v : Option Nat) : ∀ i, i ≠ 17 → cE ga cT cZ (sR M 2 a v) i = cE ga cT cZ M i
  | 0, h => rfl
  | 1, h => rfl
  | 2, h => rfl
  | 3, h => rfl
  | 4, h => rfl
  | 5, h => rfl
  | 6, h => rfl
  | 7, h => rfl
  | 8, h => rfl
  | 9, h => rfl
  | 10, h => rfl
  | 11, h => rfl
  | 12, h => rfl
  | 13, h => rfl
  | 14, h => rfl
  | 15, h => rfl
  | 16, h => rfl
  | 17, h => absurd rfl h
  | 18, h => rfl
  | 19, h => rfl
  | 20, h => rfl
  | 21, h => rfl
  | 22, h => rfl
  | 23, h => rfl
  | 24, h => rfl
  | _ + 25, _ => rfl
theorem Erow_3 (ga : Nat → Nat) (cT cZ : ClassId) (M : cSt) (a : Nat) (v : Option Nat) : ∀ i, i ≠ 18 → cE ga cT cZ (sR M 3 a v) i = cE ga cT cZ M i
  | 0, h => rfl
  | 1, h => rfl
  | 2, h => rfl
  | 3, h => rfl
  | 4, h => rfl
  | 5, h => rfl
  | 6, h => rfl
  | 7, h => rfl
  | 8, h => rfl
  | 9, h => rfl
  | 10, h => rfl
  | 11, h => rfl
  | 12, h => rfl
  | 13, h => rfl
  | 14, h => rfl
  | 15, h => rfl
  | 16, h => rfl
  | 17, h => rfl
  | 18, h => absurd rfl h
  | 19, h => rfl
  | 20, h => rfl
  | 21, h => rfl
  | 22, h => rfl
  | 23, h => rfl
  | 24, h => rfl
  | _ + 25, _ => rfl
theorem Erow_4 (ga : Nat → Nat) (cT cZ : ClassId) (M : cSt) (a : Nat) (v : Option Nat) : ∀ i, i ≠ 19 → cE ga cT cZ (sR M 4 a v) i = cE ga cT cZ M i
  | 0, h => rfl
  | 1, h => rfl
  | 2, h => rfl
  | 3, h => rfl
  | 4, h => rfl
  | 5, h => rfl
  | 6, h => rfl
  | 7, h => rfl
  | 8, h => rfl
  | 9, h => rfl
  | 10, h => rfl
  | 11, h => rfl
  | 12, h => rfl
  | 13, h => rfl
  | 14, h => rfl
  | 15, h => rfl
  | 16, h => rfl
  | 17, h => rfl
  | 18, h => rfl
  | 19, h => absurd rfl h
  | 20, h => rfl
  | 21, h => rfl
  | 22, h => rfl
  | 23, h => rfl
  | 24, h => rfl
  | _ + 25, _ => rfl
theorem Erow_5 (ga : Nat → Nat) (cT cZ : ClassId) (M : cSt) (a : Nat) (v : Option Nat) : ∀ i, i ≠ 20 → cE ga cT cZ (sR M 5 a v) i = cE ga cT cZ M i
  | 0, h => rfl
  | 1, h => rfl
  | 2, h => rfl
  | 3, h => rfl
  | 4, h => rfl
  | 5, h => rfl
  | 6, h => rfl
  | 7, h => rfl
  | 8, h => rfl
  | 9, h => rfl
  | 10, h => rfl
  | 11, h => rfl
  | 12, h => rfl
  | 13, h => rfl
  | 14, h => rfl
  | 15, h => rfl
  | 16, h => rfl
  | 17, h => rfl
  | 18, h => rfl
  | 19, h => rfl
  | 20, h => absurd rfl h
  | 21, h => rfl
  | 22, h => rfl
  | 23, h => rfl
  | 24, h => rfl
  | _ + 25, _ => rfl
theorem Erow_6 (ga : Nat → Nat) (cT cZ : ClassId) (M : cSt) (a : Nat) (v : Option Nat) : ∀ i, i ≠ 21 → cE ga cT cZ (sR M 6 a v) i = cE ga cT cZ M i
  | 0, h => rfl
  | 1, h => rfl
  | 2, h => rfl
  | 3, h => rfl
  | 4, h => rfl
  | 5, h => rfl
  | 6, h => rfl
  | 7, h => rfl
  | 8, h => rfl
  | 9, h => rfl
  | 10, h => rfl
  | 11, h => rfl
  | 12, h => rfl
  | 13, h => rfl
  | 14, h => rfl
  | 15, h => rfl
  | 16, h => rfl
  | 17, h => rfl
  | 18, h => rfl
  | 19, h => rfl
  | 20, h => rfl
  | 21, h => absurd rfl h
  | 22, h => rfl
  | 23, h => rfl
  | 24, h => rfl
  | _ + 25, _ => rfl
theorem Erow_7 (ga : Nat → Nat) (cT cZ : ClassId) (M : cSt) (a : Nat) (v : Option Nat) : ∀ i, i ≠ 22 → cE ga cT cZ (sR M 7 a v) i = cE ga cT cZ M i
  | 0, h => rfl
  | 1, h => rfl
  | 2, h => rfl
  | 3, h => rfl
  | 4, h => rfl
  | 5, h => rfl
  | 6, h => rfl
  | 7, h => rfl
  | 8, h => rfl
  | 9, h => rfl
  | 10, h => rfl
  | 11, h => rfl
  | 12, h => rfl
  | 13, h => rfl
  | 14, h => rfl
  | 15, h => rfl
  | 16, h => rfl
  | 17, h => rfl
  | 18, h => rfl
  | 19, h => rfl
  | 20, h => rfl
  | 21, h => rfl
  | 22, h => absurd rfl h
  | 23, h => rfl
  | 24, h => rfl
  | _ + 25, _ => rfl
theorem Erow_8 (ga : Nat → Nat) (cT cZ : ClassId) (M : cSt) (a : Nat) (v : Option Nat) : ∀ i, i ≠ 23 → cE ga cT cZ (sR M 8 a v) i = cE ga cT cZ M i
  | 0, h => rfl
  | 1, h => rfl
  | 2, h => rfl
  | 3, h => rfl
  | 4, h => rfl
  | 5, h => rfl
  | 6, h => rfl
  | 7, h => rfl
  | 8, h => rfl
  | 9, h => rfl
  | 10, h => rfl
  | 11, h => rfl
  | 12, h => rfl
  | 13, h => rfl
  | 14, h => rfl
  | 15, h => rfl
  | 16, h => rfl
  | 17, h => rfl
  | 18, h => rfl
  | 19, h => rfl
  | 20, h => rfl
  | 21, h => rfl
  | 22, h => rfl
  | 23, h => absurd rfl h
  | 24, h => rfl
  | _ + 25, _ => rfl
theorem rf_up (ga : Nat → Nat) (f : Nat → Option Nat) (a : Nat) (v : Option Nat) : va_up (crf ga f) a (v.map (fun k => ga (25 + 2 * k))) = crf ga (va_up f a v) := by
  funext j; unfold crf va_up; by_cases h : j = a
  · rw [if_pos h, if_pos h]
  · rw [if_neg h, if_neg h]
theorem Erow (ga : Nat → Nat) (cT cZ : ClassId) (M : cSt) (a : Nat) (v : Option Nat) {r : Nat} (h : r < 9) : ∀ i, i ≠ 15 + r → cE ga cT cZ (sR M r a v) i = cE ga cT cZ M i := by
  rcases (show r = 0 ∨ r = 1 ∨ r = 2 ∨ r = 3 ∨ r = 4 ∨ r = 5 ∨ r = 6 ∨ r = 7 ∨ r = 8 by omega) with rfl | rfl | rfl | rfl | rfl | rfl | rfl | rfl | rfl
  · exact Erow_0 ga cT cZ M a v
  · exact Erow_1 ga cT cZ M a v
  · exact Erow_2 ga cT cZ M a v
  · exact Erow_3 ga cT cZ M a v
  · exact Erow_4 ga cT cZ M a v
  · exact Erow_5 ga cT cZ M a v
  · exact Erow_6 ga cT cZ M a v
  · exact Erow_7 ga cT cZ M a v
  · exact Erow_8 ga cT cZ M a v
theorem Erw_sR (ga : Nat → Nat) (cT : ClassId) (M : cSt) (r len a : Nat) (v : Option Nat) : cErw ga cT (sR M r a v) r len = .inl (cT, len, .inr (.inr (.inr (.inr (va_up (crf ga (gR M r)) a (v.map (fun k => ga (25 + 2 * k)))))))) := by
  rw [rf_up]
  show (Sum.inl (cT, len, Sum.inr (Sum.inr (Sum.inr (Sum.inr (crf ga (gRf (sR M r a v) r)))))) : va_E) = _
  rw [show gRf (sR M r a v) r = va_up (gRf M r) a v from by rw [gRf_sR]; unfold va_up; rw [if_pos rfl]]
/-- writing a place of a row's array -/
theorem wRr {ga : Nat → Nat} {n : Nat} {cT cZ : ClassId} {M : cSt} {a : Nat} {v : Option Nat} {r : Nat} (h : r < 7) : (wld ga n cT cZ M).set (15 + r) (ga (15 + r), .inl (cT, 200, .inr (.inr (.inr (.inr (va_up (crf ga (gR M r)) a (v.map (fun k => ga (25 + 2 * k))))))))) = wld ga n cT cZ (sR M r a v) :=
  wld_set (i := 15 + r) ((E_rw ga cT cZ _ h).trans (Erw_sR ga cT M r 200 a v)) (Erow ga cT cZ M a v (by omega))
theorem wR7 {ga : Nat → Nat} {n : Nat} {cT cZ : ClassId} {M : cSt} {a : Nat} {v : Option Nat} : (wld ga n cT cZ M).set 22 (ga 22, .inl (cT, 32, .inr (.inr (.inr (.inr (va_up (crf ga (gR M 7)) a (v.map (fun k => ga (25 + 2 * k))))))))) = wld ga n cT cZ (sR M 7 a v) :=
  wld_set (i := 22) (Erw_sR ga cT M 7 32 a v) (Erow ga cT cZ M a v (r := 7) (by omega))
theorem wR8 {ga : Nat → Nat} {n : Nat} {cT cZ : ClassId} {M : cSt} {a : Nat} {v : Option Nat} : (wld ga n cT cZ M).set 23 (ga 23, .inl (cT, 4, .inr (.inr (.inr (.inr (va_up (crf ga (gR M 8)) a (v.map (fun k => ga (25 + 2 * k))))))))) = wld ga n cT cZ (sR M 8 a v) :=
  wld_set (i := 23) (Erw_sR ga cT M 8 4 a v) (Erow ga cT cZ M a v (r := 8) (by omega))
theorem Ehol (ga : Nat → Nat) (cT cZ : ClassId) (M : cSt) (v : Option Nat) : ∀ i, i ≠ 5 → cE ga cT cZ (sR M 9 0 v) i = cE ga cT cZ M i
  | 0, h => rfl
  | 1, h => rfl
  | 2, h => rfl
  | 3, h => rfl
  | 4, h => rfl
  | 5, h => absurd rfl h
  | 6, h => rfl
  | 7, h => rfl
  | 8, h => rfl
  | 9, h => rfl
  | 10, h => rfl
  | 11, h => rfl
  | 12, h => rfl
  | 13, h => rfl
  | 14, h => rfl
  | 15, h => rfl
  | 16, h => rfl
  | 17, h => rfl
  | 18, h => rfl
  | 19, h => rfl
  | 20, h => rfl
  | 21, h => rfl
  | 22, h => rfl
  | 23, h => rfl
  | 24, h => rfl
  | _ + 25, _ => rfl
theorem wHol {ga : Nat → Nat} {n : Nat} {cT cZ : ClassId} {M : cSt} {v : Option Nat} : (wld ga n cT cZ M).set 5 (ga 5, .inr (8, [.ref (ga 8), .ref (ga 1), .ref (ga 13), .int (iI (gI M 18)), .int (iI (gI M 19)), ctv ga v])) = wld ga n cT cZ (sR M 9 0 v) := wld_set (i := 5) rfl (Ehol ga cT cZ M v)
theorem Ecar (ga : Nat → Nat) (cT cZ : ClassId) (M : cSt) (a : Nat) (v : Int) : ∀ i, i ≠ 24 → cE ga cT cZ (sZ M a v) i = cE ga cT cZ M i
  | 0, h => rfl
  | 1, h => rfl
  | 2, h => rfl
  | 3, h => rfl
  | 4, h => rfl
  | 5, h => rfl
  | 6, h => rfl
  | 7, h => rfl
  | 8, h => rfl
  | 9, h => rfl
  | 10, h => rfl
  | 11, h => rfl
  | 12, h => rfl
  | 13, h => rfl
  | 14, h => rfl
  | 15, h => rfl
  | 16, h => rfl
  | 17, h => rfl
  | 18, h => rfl
  | 19, h => rfl
  | 20, h => rfl
  | 21, h => rfl
  | 22, h => rfl
  | 23, h => rfl
  | 24, h => absurd rfl h
  | _ + 25, _ => rfl
theorem Ezz (ga : Nat → Nat) (cT cZ : ClassId) (M : cSt) (a : Nat) (v : Int) : cE ga cT cZ (sZ M a v) 24 = .inl (cZ, 20, .inl (va_up (cz M) a (iI v))) := by
  show (Sum.inl (cZ, 20, Sum.inl (cz (sZ M a v))) : va_E) = _
  rw [show cz (sZ M a v) = va_up (cz M) a (iI v) from funext fun j => by
    show iI (gZf (sZ M a v) j) = _
    rw [gZf_sZ]; unfold va_up; by_cases h : j = a
    · rw [if_pos h, if_pos h]
    · rw [if_neg h, if_neg h]; rfl]
theorem wZ {ga : Nat → Nat} {n : Nat} {cT cZ : ClassId} {M : cSt} {a : Nat} {v : Int} : (wld ga n cT cZ M).set 24 (ga 24, .inl (cZ, 20, .inl (va_up (cz M) a (iI v)))) = wld ga n cT cZ (sZ M a v) := wld_set (i := 24) (Ezz ga cT cZ M a v) (Ecar ga cT cZ M a v)
theorem E_lt25 (ga : Nat → Nat) (cT cZ : ClassId) {M M' : cSt} (hI : gIf M' = gIf M) (hR : gRf M' = gRf M) (hZ : gZf M' = gZf M) : ∀ i, i < 25 → cE ga cT cZ M' i = cE ga cT cZ M i
  | 0, _ => by simp only [cE, cEro, cErw, gI, gR, hI, hR, hZ]
  | 1, _ => by simp only [cE, cEro, cErw, gI, gR, hI, hR, hZ]
  | 2, _ => by simp only [cE, cEro, cErw, gI, gR, hI, hR, hZ]
  | 3, _ => by simp only [cE, cEro, cErw, gI, gR, hI, hR, hZ]
  | 4, _ => by simp only [cE, cEro, cErw, gI, gR, hI, hR, hZ]
  | 5, _ => by simp only [cE, cEro, cErw, gI, gR, hI, hR, hZ]
  | 6, _ => by simp only [cE, cEro, cErw, gI, gR, hI, hR, hZ]
  | 7, _ => by simp only [cE, cEro, cErw, gI, gR, hI, hR, hZ]
  | 8, _ => by simp only [cE, cEro, cErw, gI, gR, hI, hR, hZ]
  | 9, _ => by simp only [cE, cEro, cErw, gI, gR, hI, hR, hZ]
  | 10, _ => by simp only [cE, cEro, cErw, gI, gR, hI, hR, hZ]
  | 11, _ => by simp only [cE, cEro, cErw, gI, gR, hI, hR, hZ]
  | 12, _ => by simp only [cE, cEro, cErw, gI, gR, hI, hR, hZ]
  | 13, _ => by simp only [cE, cEro, cErw, gI, gR, hI, hR, hZ]
  | 14, _ => by simp only [cE, cEro, cErw, gI, gR, hI, hR, hZ]
  | 15, _ => by simp only [cE, cEro, cErw, gI, gR, hI, hR, hZ]
  | 16, _ => by simp only [cE, cEro, cErw, gI, gR, hI, hR, hZ]
  | 17, _ => by simp only [cE, cEro, cErw, gI, gR, hI, hR, hZ]
  | 18, _ => by simp only [cE, cEro, cErw, gI, gR, hI, hR, hZ]
  | 19, _ => by simp only [cE, cEro, cErw, gI, gR, hI, hR, hZ]
  | 20, _ => by simp only [cE, cEro, cErw, gI, gR, hI, hR, hZ]
  | 21, _ => by simp only [cE, cEro, cErw, gI, gR, hI, hR, hZ]
  | 22, _ => by simp only [cE, cEro, cErw, gI, gR, hI, hR, hZ]
  | 23, _ => by simp only [cE, cEro, cErw, gI, gR, hI, hR, hZ]
  | 24, _ => by rw [show cE ga cT cZ M' 24 = .inl (cZ, 20, .inl (cz M')) from rfl, show cE ga cT cZ M 24 = .inl (cZ, 20, .inl (cz M)) from rfl, show cz M' = cz M from funext fun j => by show iI (gZf M' j) = iI (gZf M j); rw [hZ]]
  | n + 25, h => absurd h (by omega)
theorem wT_0 {ga : Nat → Nat} {n : Nat} {cT cZ : ClassId} {M : cSt} {k : Nat} {v : Int} : (wld ga n cT cZ M).set (25 + 2 * k) (ga (25 + 2 * k), .inr (7, [.int (iI v), .ref (ga (26 + 2 * k)), .int (iI (gT M k 2)), .int (iI (gT M k 3)), .int (iI (gT M k 4)), .int (iI (gT M k 5)), .int (iI (gT M k 6)), .int (iI (gT M k 7)), .int (iI (gT M k 8)), .int (iI (gT M k 9)), .int (iI (gT M k 10)), .int (iI (gT M k 11)), .int (iI (gT M k 12)), .int (iI (gT M k 13))])) = wld ga n cT cZ (sT M k 0 v) := by
  refine wld_set (i := 25 + 2 * k) ((E_th ga cT cZ _ k).trans (by simp [cEth, gT, gTf_sT, va_up])) (fun j hj => ?_)
  rcases ix_cases j with h | ⟨q, rfl⟩ | ⟨q, rfl⟩
  · exact E_lt25 ga cT cZ (M := M) (M' := sT M k 0 v) rfl rfl rfl j h
  · rw [E_th, E_th]; have hq : q ≠ k := fun e => hj (by rw [e])
    simp [cEth, gT, gTf_sT, va_up, hq]
  · rw [E_fl, E_fl]; rfl
theorem wT_2 {ga : Nat → Nat} {n : Nat} {cT cZ : ClassId} {M : cSt} {k : Nat} {v : Int} : (wld ga n cT cZ M).set (25 + 2 * k) (ga (25 + 2 * k), .inr (7, [.int (iI (gT M k 0)), .ref (ga (26 + 2 * k)), .int (iI v), .int (iI (gT M k 3)), .int (iI (gT M k 4)), .int (iI (gT M k 5)), .int (iI (gT M k 6)), .int (iI (gT M k 7)), .int (iI (gT M k 8)), .int (iI (gT M k 9)), .int (iI (gT M k 10)), .int (iI (gT M k 11)), .int (iI (gT M k 12)), .int (iI (gT M k 13))])) = wld ga n cT cZ (sT M k 2 v) := by
  refine wld_set (i := 25 + 2 * k) ((E_th ga cT cZ _ k).trans (by simp [cEth, gT, gTf_sT, va_up])) (fun j hj => ?_)
  rcases ix_cases j with h | ⟨q, rfl⟩ | ⟨q, rfl⟩
  · exact E_lt25 ga cT cZ (M := M) (M' := sT M k 2 v) rfl rfl rfl j h
  · rw [E_th, E_th]; have hq : q ≠ k := fun e => hj (by rw [e])
    simp [cEth, gT, gTf_sT, va_up, hq]
  · rw [E_fl, E_fl]; rfl
theorem wT_3 {ga : Nat → Nat} {n : Nat} {cT cZ : ClassId} {M : cSt} {k : Nat} {v : Int} : (wld ga n cT cZ M).set (25 + 2 * k) (ga (25 + 2 * k), .inr (7, [.int (iI (gT M k 0)), .ref (ga (26 + 2 * k)), .int (iI (gT M k 2)), .int (iI v), .int (iI (gT M k 4)), .int (iI (gT M k 5)), .int (iI (gT M k 6)), .int (iI (gT M k 7)), .int (iI (gT M k 8)), .int (iI (gT M k 9)), .int (iI (gT M k 10)), .int (iI (gT M k 11)), .int (iI (gT M k 12)), .int (iI (gT M k 13))])) = wld ga n cT cZ (sT M k 3 v) := by
  refine wld_set (i := 25 + 2 * k) ((E_th ga cT cZ _ k).trans (by simp [cEth, gT, gTf_sT, va_up])) (fun j hj => ?_)
  rcases ix_cases j with h | ⟨q, rfl⟩ | ⟨q, rfl⟩
  · exact E_lt25 ga cT cZ (M := M) (M' := sT M k 3 v) rfl rfl rfl j h
  · rw [E_th, E_th]; have hq : q ≠ k := fun e => hj (by rw [e])
    simp [cEth, gT, gTf_sT, va_up, hq]
  · rw [E_fl, E_fl]; rfl
theorem wT_4 {ga : Nat → Nat} {n : Nat} {cT cZ : ClassId} {M : cSt} {k : Nat} {v : Int} : (wld ga n cT cZ M).set (25 + 2 * k) (ga (25 + 2 * k), .inr (7, [.int (iI (gT M k 0)), .ref (ga (26 + 2 * k)), .int (iI (gT M k 2)), .int (iI (gT M k 3)), .int (iI v), .int (iI (gT M k 5)), .int (iI (gT M k 6)), .int (iI (gT M k 7)), .int (iI (gT M k 8)), .int (iI (gT M k 9)), .int (iI (gT M k 10)), .int (iI (gT M k 11)), .int (iI (gT M k 12)), .int (iI (gT M k 13))])) = wld ga n cT cZ (sT M k 4 v) := by
  refine wld_set (i := 25 + 2 * k) ((E_th ga cT cZ _ k).trans (by simp [cEth, gT, gTf_sT, va_up])) (fun j hj => ?_)
  rcases ix_cases j with h | ⟨q, rfl⟩ | ⟨q, rfl⟩
  · exact E_lt25 ga cT cZ (M := M) (M' := sT M k 4 v) rfl rfl rfl j h
  · rw [E_th, E_th]; have hq : q ≠ k := fun e => hj (by rw [e])
    simp [cEth, gT, gTf_sT, va_up, hq]
  · rw [E_fl, E_fl]; rfl
theorem wT_5 {ga : Nat → Nat} {n : Nat} {cT cZ : ClassId} {M : cSt} {k : Nat} {v : Int} : (wld ga n cT cZ M).set (25 + 2 * k) (ga (25 + 2 * k), .inr (7, [.int (iI (gT M k 0)), .ref (ga (26 + 2 * k)), .int (iI (gT M k 2)), .int (iI (gT M k 3)), .int (iI (gT M k 4)), .int (iI v), .int (iI (gT M k 6)), .int (iI (gT M k 7)), .int (iI (gT M k 8)), .int (iI (gT M k 9)), .int (iI (gT M k 10)), .int (iI (gT M k 11)), .int (iI (gT M k 12)), .int (iI (gT M k 13))])) = wld ga n cT cZ (sT M k 5 v) := by
  refine wld_set (i := 25 + 2 * k) ((E_th ga cT cZ _ k).trans (by simp [cEth, gT, gTf_sT, va_up])) (fun j hj => ?_)
  rcases ix_cases j with h | ⟨q, rfl⟩ | ⟨q, rfl⟩
  · exact E_lt25 ga cT cZ (M := M) (M' := sT M k 5 v) rfl rfl rfl j h
  · rw [E_th, E_th]; have hq : q ≠ k := fun e => hj (by rw [e])
    simp [cEth, gT, gTf_sT, va_up, hq]
  · rw [E_fl, E_fl]; rfl
theorem wT_6 {ga : Nat → Nat} {n : Nat} {cT cZ : ClassId} {M : cSt} {k : Nat} {v : Int} : (wld ga n cT cZ M).set (25 + 2 * k) (ga (25 + 2 * k), .inr (7, [.int (iI (gT M k 0)), .ref (ga (26 + 2 * k)), .int (iI (gT M k 2)), .int (iI (gT M k 3)), .int (iI (gT M k 4)), .int (iI (gT M k 5)), .int (iI v), .int (iI (gT M k 7)), .int (iI (gT M k 8)), .int (iI (gT M k 9)), .int (iI (gT M k 10)), .int (iI (gT M k 11)), .int (iI (gT M k 12)), .int (iI (gT M k 13))])) = wld ga n cT cZ (sT M k 6 v) := by
  refine wld_set (i := 25 + 2 * k) ((E_th ga cT cZ _ k).trans (by simp [cEth, gT, gTf_sT, va_up])) (fun j hj => ?_)
  rcases ix_cases j with h | ⟨q, rfl⟩ | ⟨q, rfl⟩
  · exact E_lt25 ga cT cZ (M := M) (M' := sT M k 6 v) rfl rfl rfl j h
  · rw [E_th, E_th]; have hq : q ≠ k := fun e => hj (by rw [e])
    simp [cEth, gT, gTf_sT, va_up, hq]
  · rw [E_fl, E_fl]; rfl
theorem wT_7 {ga : Nat → Nat} {n : Nat} {cT cZ : ClassId} {M : cSt} {k : Nat} {v : Int} : (wld ga n cT cZ M).set (25 + 2 * k) (ga (25 + 2 * k), .inr (7, [.int (iI (gT M k 0)), .ref (ga (26 + 2 * k)), .int (iI (gT M k 2)), .int (iI (gT M k 3)), .int (iI (gT M k 4)), .int (iI (gT M k 5)), .int (iI (gT M k 6)), .int (iI v), .int (iI (gT M k 8)), .int (iI (gT M k 9)), .int (iI (gT M k 10)), .int (iI (gT M k 11)), .int (iI (gT M k 12)), .int (iI (gT M k 13))])) = wld ga n cT cZ (sT M k 7 v) := by
  refine wld_set (i := 25 + 2 * k) ((E_th ga cT cZ _ k).trans (by simp [cEth, gT, gTf_sT, va_up])) (fun j hj => ?_)
  rcases ix_cases j with h | ⟨q, rfl⟩ | ⟨q, rfl⟩
  · exact E_lt25 ga cT cZ (M := M) (M' := sT M k 7 v) rfl rfl rfl j h
  · rw [E_th, E_th]; have hq : q ≠ k := fun e => hj (by rw [e])
    simp [cEth, gT, gTf_sT, va_up, hq]
  · rw [E_fl, E_fl]; rfl
theorem wT_8 {ga : Nat → Nat} {n : Nat} {cT cZ : ClassId} {M : cSt} {k : Nat} {v : Int} : (wld ga n cT cZ M).set (25 + 2 * k) (ga (25 + 2 * k), .inr (7, [.int (iI (gT M k 0)), .ref (ga (26 + 2 * k)), .int (iI (gT M k 2)), .int (iI (gT M k 3)), .int (iI (gT M k 4)), .int (iI (gT M k 5)), .int (iI (gT M k 6)), .int (iI (gT M k 7)), .int (iI v), .int (iI (gT M k 9)), .int (iI (gT M k 10)), .int (iI (gT M k 11)), .int (iI (gT M k 12)), .int (iI (gT M k 13))])) = wld ga n cT cZ (sT M k 8 v) := by
  refine wld_set (i := 25 + 2 * k) ((E_th ga cT cZ _ k).trans (by simp [cEth, gT, gTf_sT, va_up])) (fun j hj => ?_)
  rcases ix_cases j with h | ⟨q, rfl⟩ | ⟨q, rfl⟩
  · exact E_lt25 ga cT cZ (M := M) (M' := sT M k 8 v) rfl rfl rfl j h
  · rw [E_th, E_th]; have hq : q ≠ k := fun e => hj (by rw [e])
    simp [cEth, gT, gTf_sT, va_up, hq]
  · rw [E_fl, E_fl]; rfl
theorem wT_9 {ga : Nat → Nat} {n : Nat} {cT cZ : ClassId} {M : cSt} {k : Nat} {v : Int} : (wld ga n cT cZ M).set (25 + 2 * k) (ga (25 + 2 * k), .inr (7, [.int (iI (gT M k 0)), .ref (ga (26 + 2 * k)), .int (iI (gT M k 2)), .int (iI (gT M k 3)), .int (iI (gT M k 4)), .int (iI (gT M k 5)), .int (iI (gT M k 6)), .int (iI (gT M k 7)), .int (iI (gT M k 8)), .int (iI v), .int (iI (gT M k 10)), .int (iI (gT M k 11)), .int (iI (gT M k 12)), .int (iI (gT M k 13))])) = wld ga n cT cZ (sT M k 9 v) := by
  refine wld_set (i := 25 + 2 * k) ((E_th ga cT cZ _ k).trans (by simp [cEth, gT, gTf_sT, va_up])) (fun j hj => ?_)
  rcases ix_cases j with h | ⟨q, rfl⟩ | ⟨q, rfl⟩
  · exact E_lt25 ga cT cZ (M := M) (M' := sT M k 9 v) rfl rfl rfl j h
  · rw [E_th, E_th]; have hq : q ≠ k := fun e => hj (by rw [e])
    simp [cEth, gT, gTf_sT, va_up, hq]
  · rw [E_fl, E_fl]; rfl
theorem wT_10 {ga : Nat → Nat} {n : Nat} {cT cZ : ClassId} {M : cSt} {k : Nat} {v : Int} : (wld ga n cT cZ M).set (25 + 2 * k) (ga (25 + 2 * k), .inr (7, [.int (iI (gT M k 0)), .ref (ga (26 + 2 * k)), .int (iI (gT M k 2)), .int (iI (gT M k 3)), .int (iI (gT M k 4)), .int (iI (gT M k 5)), .int (iI (gT M k 6)), .int (iI (gT M k 7)), .int (iI (gT M k 8)), .int (iI (gT M k 9)), .int (iI v), .int (iI (gT M k 11)), .int (iI (gT M k 12)), .int (iI (gT M k 13))])) = wld ga n cT cZ (sT M k 10 v) := by
  refine wld_set (i := 25 + 2 * k) ((E_th ga cT cZ _ k).trans (by simp [cEth, gT, gTf_sT, va_up])) (fun j hj => ?_)
  rcases ix_cases j with h | ⟨q, rfl⟩ | ⟨q, rfl⟩
  · exact E_lt25 ga cT cZ (M := M) (M' := sT M k 10 v) rfl rfl rfl j h
  · rw [E_th, E_th]; have hq : q ≠ k := fun e => hj (by rw [e])
    simp [cEth, gT, gTf_sT, va_up, hq]
  · rw [E_fl, E_fl]; rfl
theorem wT_11 {ga : Nat → Nat} {n : Nat} {cT cZ : ClassId} {M : cSt} {k : Nat} {v : Int} : (wld ga n cT cZ M).set (25 + 2 * k) (ga (25 + 2 * k), .inr (7, [.int (iI (gT M k 0)), .ref (ga (26 + 2 * k)), .int (iI (gT M k 2)), .int (iI (gT M k 3)), .int (iI (gT M k 4)), .int (iI (gT M k 5)), .int (iI (gT M k 6)), .int (iI (gT M k 7)), .int (iI (gT M k 8)), .int (iI (gT M k 9)), .int (iI (gT M k 10)), .int (iI v), .int (iI (gT M k 12)), .int (iI (gT M k 13))])) = wld ga n cT cZ (sT M k 11 v) := by
  refine wld_set (i := 25 + 2 * k) ((E_th ga cT cZ _ k).trans (by simp [cEth, gT, gTf_sT, va_up])) (fun j hj => ?_)
  rcases ix_cases j with h | ⟨q, rfl⟩ | ⟨q, rfl⟩
  · exact E_lt25 ga cT cZ (M := M) (M' := sT M k 11 v) rfl rfl rfl j h
  · rw [E_th, E_th]; have hq : q ≠ k := fun e => hj (by rw [e])
    simp [cEth, gT, gTf_sT, va_up, hq]
  · rw [E_fl, E_fl]; rfl
theorem wT_12 {ga : Nat → Nat} {n : Nat} {cT cZ : ClassId} {M : cSt} {k : Nat} {v : Int} : (wld ga n cT cZ M).set (25 + 2 * k) (ga (25 + 2 * k), .inr (7, [.int (iI (gT M k 0)), .ref (ga (26 + 2 * k)), .int (iI (gT M k 2)), .int (iI (gT M k 3)), .int (iI (gT M k 4)), .int (iI (gT M k 5)), .int (iI (gT M k 6)), .int (iI (gT M k 7)), .int (iI (gT M k 8)), .int (iI (gT M k 9)), .int (iI (gT M k 10)), .int (iI (gT M k 11)), .int (iI v), .int (iI (gT M k 13))])) = wld ga n cT cZ (sT M k 12 v) := by
  refine wld_set (i := 25 + 2 * k) ((E_th ga cT cZ _ k).trans (by simp [cEth, gT, gTf_sT, va_up])) (fun j hj => ?_)
  rcases ix_cases j with h | ⟨q, rfl⟩ | ⟨q, rfl⟩
  · exact E_lt25 ga cT cZ (M := M) (M' := sT M k 12 v) rfl rfl rfl j h
  · rw [E_th, E_th]; have hq : q ≠ k := fun e => hj (by rw [e])
    simp [cEth, gT, gTf_sT, va_up, hq]
  · rw [E_fl, E_fl]; rfl
theorem wT_13 {ga : Nat → Nat} {n : Nat} {cT cZ : ClassId} {M : cSt} {k : Nat} {v : Int} : (wld ga n cT cZ M).set (25 + 2 * k) (ga (25 + 2 * k), .inr (7, [.int (iI (gT M k 0)), .ref (ga (26 + 2 * k)), .int (iI (gT M k 2)), .int (iI (gT M k 3)), .int (iI (gT M k 4)), .int (iI (gT M k 5)), .int (iI (gT M k 6)), .int (iI (gT M k 7)), .int (iI (gT M k 8)), .int (iI (gT M k 9)), .int (iI (gT M k 10)), .int (iI (gT M k 11)), .int (iI (gT M k 12)), .int (iI v)])) = wld ga n cT cZ (sT M k 13 v) := by
  refine wld_set (i := 25 + 2 * k) ((E_th ga cT cZ _ k).trans (by simp [cEth, gT, gTf_sT, va_up])) (fun j hj => ?_)
  rcases ix_cases j with h | ⟨q, rfl⟩ | ⟨q, rfl⟩
  · exact E_lt25 ga cT cZ (M := M) (M' := sT M k 13 v) rfl rfl rfl j h
  · rw [E_th, E_th]; have hq : q ≠ k := fun e => hj (by rw [e])
    simp [cEth, gT, gTf_sT, va_up, hq]
  · rw [E_fl, E_fl]; rfl
theorem wF {ga : Nat → Nat} {n : Nat} {cT cZ : ClassId} {M : cSt} {k a : Nat} {v : Option Nat} : (wld ga n cT cZ M).set (26 + 2 * k) (ga (26 + 2 * k), .inl (cT, gL M k, .inr (.inr (.inr (.inr (va_up (crf ga (gF M k)) a (v.map (fun k => ga (25 + 2 * k))))))))) = wld ga n cT cZ (sF M k a v) := by
  refine wld_set (i := 26 + 2 * k) ((E_fl ga cT cZ _ k).trans ?_) (fun j hj => ?_)
  · rw [rf_up]
    show (Sum.inl (cT, gL (sF M k a v) k, Sum.inr (Sum.inr (Sum.inr (Sum.inr (crf ga (gFf (sF M k a v) k)))))) : va_E) = _
    rw [show gFf (sF M k a v) k = va_up (gFf M k) a v from by rw [gFf_sF]; unfold va_up; rw [if_pos rfl]]
    rfl
  · rcases ix_cases j with h | ⟨q, rfl⟩ | ⟨q, rfl⟩
    · exact E_lt25 ga cT cZ (M := M) (M' := sF M k a v) rfl rfl rfl j h
    · rw [E_th, E_th]; rfl
    · rw [E_fl, E_fl]; have hq : q ≠ k := fun e => hj (by rw [e])
      simp [cEfl, gL, gF, gLf_sF, gFf_sF, va_up, hq]
