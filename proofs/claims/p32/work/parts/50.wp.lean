/-! LAYER 2: what the functions answer. Conditions out of them: wp. -/
def wp {α : Type} (o : Option α) (P : α → Prop) : Prop := ∃ x, o = some x ∧ P x
theorem wp_some {α : Type} {x : α} {P : α → Prop} : wp (some x) P ↔ P x := ⟨fun ⟨_, h, hp⟩ => by cases h; exact hp, fun h => ⟨x, rfl, h⟩⟩
theorem wp_none {α : Type} {P : α → Prop} : wp (none : Option α) P ↔ False := ⟨fun h => (by obtain ⟨x, h1, _⟩ := h; cases h1), False.elim⟩
theorem wp_og {α : Type} {c : Prop} [Decidable c] {k : Option α} {P : α → Prop} : wp (og c k) P ↔ c ∧ wp k P :=
  ⟨fun ⟨x, h, hp⟩ => ⟨(og_some h).1, x, (og_some h).2, hp⟩, fun ⟨hc, x, h, hp⟩ => ⟨x, by rw [og_of hc]; exact h, hp⟩⟩
theorem wp_ite {α : Type} {c : Prop} [Decidable c] {a b : Option α} {P : α → Prop} : wp (if c then a else b) P ↔ (c → wp a P) ∧ (¬ c → wp b P) := by
  by_cases h : c
  · rw [if_pos h]; exact ⟨fun q => ⟨fun _ => q, fun g => absurd h g⟩, fun q => q.1 h⟩
  · rw [if_neg h]; exact ⟨fun q => ⟨fun g => absurd g h, fun _ => q⟩, fun q => q.2 h⟩
theorem wp_ob {α β : Type} {o : Option α} {k : α → Option β} {P : β → Prop} : wp (ob o k) P ↔ wp o (fun x => wp (k x) P) :=
  ⟨fun ⟨x, h, hp⟩ => by
    obtain ⟨a, h1, h2⟩ := ob_some h
    exact ⟨a, h1, x, h2, hp⟩, fun ⟨a, h1, x, h2, hp⟩ => ⟨x, by rw [ob_of h1]; exact h2, hp⟩⟩
theorem wp_on {β : Type} {e : Option Nat} {a : Option β} {b : Nat → Option β} {P : β → Prop} : wp (on e a b) P ↔ (e = none → wp a P) ∧ ∀ k, e = some k → wp (b k) P := by
  cases e with
  | none => exact ⟨fun h => ⟨fun _ => h, fun k hk => by cases hk⟩, fun h => h.1 rfl⟩
  | some k => exact ⟨fun h => ⟨fun h9 => (by cases h9), fun k' hk => by cases hk; exact h⟩, fun h => h.2 k rfl⟩
theorem wp_os {α β : Type} {o : α ⊕ β} {k : α → Option β} {P : β → Prop} : wp (os o k) P ↔ (∀ y, o = .inl y → wp (k y) P) ∧ ∀ y, o = .inr y → P y := by
  cases o with
  | inl y => exact ⟨fun h => ⟨fun y' e => by cases e; exact h, fun y' e => by cases e⟩, fun h => h.1 y rfl⟩
  | inr y => exact ⟨fun h => ⟨fun y' e => (by cases e), fun y' e => by cases e; exact wp_some.mp h⟩, fun h => wp_some.mpr (h.2 y rfl)⟩
theorem wp_oi {α β γ : Type} {o : α ⊕ β} {k : α → Option (γ ⊕ β)} {P : γ ⊕ β → Prop} : wp (oi o k) P ↔ (∀ y, o = .inl y → wp (k y) P) ∧ ∀ y, o = .inr y → P (.inr y) := by
  cases o with
  | inl y => exact ⟨fun h => ⟨fun y' e => by cases e; exact h, fun y' e => by cases e⟩, fun h => h.1 y rfl⟩
  | inr y => exact ⟨fun h => ⟨fun y' e => (by cases e), fun y' e => by cases e; exact wp_some.mp h⟩, fun h => wp_some.mpr (h.2 y rfl)⟩
theorem wp_oe {β : Type} {o : Option Unit} {a b : Option β} {P : β → Prop} : wp (oe o a b) P ↔ (o = some () → wp a P) ∧ (o = none → wp b P) := by
  cases o with
  | none => exact ⟨fun h => ⟨fun e => (by cases e), fun _ => h⟩, fun h => h.2 rfl⟩
  | some u => exact ⟨fun h => ⟨fun _ => h, fun e => by cases e⟩, fun h => h.1 rfl⟩
theorem wp_oc {α : Type} {c : Prop} {k : Option α} {P : α → Prop} : wp (oc c k) P ↔ c ∧ wp k P :=
  ⟨fun ⟨x, h, hp⟩ => ⟨(oc_some h).1, x, (oc_some h).2, hp⟩, fun ⟨hc, x, h, hp⟩ => ⟨x, by rw [oc_of hc]; exact h, hp⟩⟩
theorem wp_mono {α : Type} {o : Option α} {P Q : α → Prop} (h : wp o P) (k : ∀ x, P x → Q x) : wp o Q := by
  obtain ⟨x, h1, h2⟩ := h
  exact ⟨x, h1, k x h2⟩
theorem wp_eq {α : Type} {o : Option α} {x : α} (h : wp o (fun y => y = x)) : o = some x := by
  obtain ⟨y, h1, h2⟩ := h
  rw [h1, h2]
theorem wp_of {α : Type} {o : Option α} {x : α} {P : α → Prop} (h : o = some x) (hp : P x) : wp o P := ⟨x, h, hp⟩
/-! parts of a changed state -/
theorem gI_sI (M : cSt) (j i : Nat) (v : Int) : gI (sI M j v) i = if i = j then v else gI M i := rfl
theorem gI_sT (M : cSt) (k f i : Nat) (v : Int) : gI (sT M k f v) i = gI M i := rfl
theorem gI_sR (M : cSt) (r j i : Nat) (v : Option Nat) : gI (sR M r j v) i = gI M i := rfl
theorem gI_sF (M : cSt) (k j i : Nat) (v : Option Nat) : gI (sF M k j v) i = gI M i := rfl
theorem gI_sZ (M : cSt) (j i : Nat) (v : Int) : gI (sZ M j v) i = gI M i := rfl
theorem gT_sI (M : cSt) (j k f : Nat) (v : Int) : gT (sI M j v) k f = gT M k f := rfl
theorem gT_sT (M : cSt) (k f k' f' : Nat) (v : Int) : gT (sT M k f v) k' f' = if k' = k ∧ f' = f then v else gT M k' f' := by
  show va_up (gTf M) k (va_up (gTf M k) f v) k' f' = _
  unfold va_up
  by_cases h : k' = k
  · subst h
    by_cases h2 : f' = f
    · rw [if_pos rfl, if_pos h2, if_pos ⟨rfl, h2⟩]
    · rw [if_pos rfl, if_neg h2, if_neg (fun h9 => h2 h9.2)]
  · rw [if_neg h, if_neg (fun h9 => h h9.1)]
theorem gT_sR (M : cSt) (r j k f : Nat) (v : Option Nat) : gT (sR M r j v) k f = gT M k f := rfl
theorem gT_sF (M : cSt) (k j k' f : Nat) (v : Option Nat) : gT (sF M k j v) k' f = gT M k' f := rfl
theorem gT_sZ (M : cSt) (j k f : Nat) (v : Int) : gT (sZ M j v) k f = gT M k f := rfl
theorem gR_sI (M : cSt) (i r j : Nat) (v : Int) : gR (sI M i v) r j = gR M r j := rfl
theorem gR_sT (M : cSt) (k f r j : Nat) (v : Int) : gR (sT M k f v) r j = gR M r j := rfl
theorem gR_sR (M : cSt) (r j r' j' : Nat) (v : Option Nat) : gR (sR M r j v) r' j' = if r' = r ∧ j' = j then v else gR M r' j' := by
  show va_up (gRf M) r (va_up (gRf M r) j v) r' j' = _
  unfold va_up
  by_cases h : r' = r
  · subst h
    by_cases h2 : j' = j
    · rw [if_pos rfl, if_pos h2, if_pos ⟨rfl, h2⟩]
    · rw [if_pos rfl, if_neg h2, if_neg (fun h9 => h2 h9.2)]
  · rw [if_neg h, if_neg (fun h9 => h h9.1)]
theorem gR_sF (M : cSt) (k j r j' : Nat) (v : Option Nat) : gR (sF M k j v) r j' = gR M r j' := rfl
theorem gR_sZ (M : cSt) (i r j : Nat) (v : Int) : gR (sZ M i v) r j = gR M r j := rfl
theorem gL_sI (M : cSt) (i k : Nat) (v : Int) : gL (sI M i v) k = gL M k := rfl
theorem gL_sT (M : cSt) (k f k' : Nat) (v : Int) : gL (sT M k f v) k' = gL M k' := rfl
theorem gL_sR (M : cSt) (r j k : Nat) (v : Option Nat) : gL (sR M r j v) k = gL M k := rfl
theorem gL_sF (M : cSt) (k j k' : Nat) (v : Option Nat) : gL (sF M k j v) k' = gL M k' := rfl
theorem gL_sZ (M : cSt) (i k : Nat) (v : Int) : gL (sZ M i v) k = gL M k := rfl
theorem gF_sI (M : cSt) (i k j : Nat) (v : Int) : gF (sI M i v) k j = gF M k j := rfl
theorem gF_sT (M : cSt) (k f k' j : Nat) (v : Int) : gF (sT M k f v) k' j = gF M k' j := rfl
theorem gF_sR (M : cSt) (r i k j : Nat) (v : Option Nat) : gF (sR M r i v) k j = gF M k j := rfl
theorem gF_sF (M : cSt) (k j k' j' : Nat) (v : Option Nat) : gF (sF M k j v) k' j' = if k' = k ∧ j' = j then v else gF M k' j' := by
  show va_up (gFf M) k (va_up (gFf M k) j v) k' j' = _
  unfold va_up
  by_cases h : k' = k
  · subst h
    by_cases h2 : j' = j
    · rw [if_pos rfl, if_pos h2, if_pos ⟨rfl, h2⟩]
    · rw [if_pos rfl, if_neg h2, if_neg (fun h9 => h2 h9.2)]
  · rw [if_neg h, if_neg (fun h9 => h h9.1)]
theorem gF_sZ (M : cSt) (i k j : Nat) (v : Int) : gF (sZ M i v) k j = gF M k j := rfl
theorem gZ_sI (M : cSt) (i j : Nat) (v : Int) : gZ (sI M i v) j = gZ M j := rfl
theorem gZ_sT (M : cSt) (k f j : Nat) (v : Int) : gZ (sT M k f v) j = gZ M j := rfl
theorem gZ_sR (M : cSt) (r i j : Nat) (v : Option Nat) : gZ (sR M r i v) j = gZ M j := rfl
theorem gZ_sF (M : cSt) (k i j : Nat) (v : Option Nat) : gZ (sF M k i v) j = gZ M j := rfl
theorem gZ_sZ (M : cSt) (i j : Nat) (v : Int) : gZ (sZ M i v) j = if j = i then v else gZ M j := rfl
/-! a row of the class, as a list of things -/
def Row (M : cSt) (r : Nat) (l : List Nat) : Prop := gI M (10 + r) = l.length ∧ ∀ j, j < l.length → gR M r j = l[j]?
theorem Row.size {M : cSt} {r : Nat} {l : List Nat} (h : Row M r l) : gI M (10 + r) = l.length := h.1
theorem row_nil {M : cSt} {r : Nat} (h : gI M (10 + r) = 0) : Row M r [] := ⟨h, fun j hj => absurd hj (Nat.not_lt_zero j)⟩
/-- an int that counts things is in the range -/
theorem inR_n {a : Int} {n : Nat} (h : n ≤ 1000000) (h0 : 0 ≤ a) (h1 : a ≤ n) : inR a := ⟨by omega, by omega⟩
theorem item_ok {n : Nat} {M : cSt} {r : Nat} {l : List Nat} (h : Row M r l) (hl : l.length ≤ 200) {i : Int} (hi : inR i) : f_Row_item n M r i = some (if 0 ≤ i then l[i.toNat]? else none) := by
  refine wp_eq ?_
  have hs := h.1
  unfold f_Row_item
  simp only [wp_og, wp_ite, wp_some, hs]
  refine ⟨hi, fun h0 => ?_, fun h0 => ⟨⟨by omega, by omega⟩, fun h1 => ⟨fun h2 => ⟨⟨by omega, h2⟩, ?_⟩, fun h2 => by omega⟩, fun h1 => ?_⟩⟩
  · rw [if_neg (by omega)]
  · rw [if_pos (by omega)]; exact h.2 _ (by omega)
  · rw [if_pos (by omega), List.getElem?_eq_none (by omega)]
theorem size_ok {n : Nat} {M : cSt} {r : Nat} {l : List Nat} (h : Row M r l) : f_Row_size n M r = some (l.length : Int) := by
  unfold f_Row_size; rw [h.1]
/-- one more at a row's end -/
def addR (M : cSt) (r : Nat) (k : Nat) : cSt := sI (sR M r (gI M (10 + r)).toNat (some k)) (10 + r) (gI M (10 + r) + 1)
theorem add_ok {n : Nat} {M : cSt} {r k : Nat} {l : List Nat} (h : Row M r l) (hl : l.length < 200) (hk : k < n) : f_Row_add n M r (some k) = some (addR M r k) := by
  refine wp_eq ?_
  have hs := h.1
  unfold f_Row_add
  simp only [wp_og, wp_ite, wp_some, wp_on, hs]
  refine ⟨⟨by omega, by omega⟩, fun h0 => by omega, fun _ => ⟨fun _ => ⟨fun h9 => (by cases h9), fun q hq => ?_⟩, fun h9 => by omega⟩⟩
  cases hq
  refine ⟨hk, ⟨by omega, by omega⟩, ?_⟩
  unfold addR
  rw [gI_sR, hs]
theorem row_addR {M : cSt} {r k : Nat} {l : List Nat} (h : Row M r l) : Row (addR M r k) r (l ++ [k]) := by
  have hs := h.1
  refine ⟨?_, fun j hj => ?_⟩
  · unfold addR; rw [gI_sI, if_pos rfl, hs, List.length_append]; simp
  · unfold addR
    rw [gR_sI, gR_sR, hs]
    rw [List.length_append] at hj
    by_cases h1 : j = l.length
    · rw [if_pos ⟨rfl, by omega⟩, h1, List.getElem?_append_right (Nat.le_refl _), Nat.sub_self]; rfl
    · rw [if_neg (fun h9 => h1 (by omega)), h.2 j (by simp at hj; omega), List.getElem?_append_left (by simp at hj; omega)]
/-- another row is as it was -/
theorem row_addR_ne {M : cSt} {r r' k : Nat} {l : List Nat} (h : Row M r' l) (hr : r' ≠ r) : Row (addR M r k) r' l := by
  refine ⟨?_, fun j hj => ?_⟩
  · unfold addR; rw [gI_sI, if_neg (by omega), gI_sR]; exact h.1
  · unfold addR; rw [gR_sI, gR_sR, if_neg (fun h9 => hr h9.1)]; exact h.2 j hj
