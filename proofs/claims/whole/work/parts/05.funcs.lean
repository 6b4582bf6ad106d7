/-! What the methods of Row, Thing and Tally do, in the words of the state; and small rows for the walks. -/
section CW2
variable {p : Program} {l : Launch} {e : Env} {R : Room} {s : State} {m : MethodId} {args : Array Value} {below : List Frame} {meth : Method} {c : Code} {H : Heap} {locs : List Loc} {cells slots : Nat} {Q : State → Prop} {pc : Nat} {ls : Array Slot} {rest st : List Value}
theorem w_toeq {x y : Int32} (h : x = y) (k : W p l e R s m args below meth c H locs cells slots Q (F0 m pc ls (.int y :: rest))) : W p l e R s m args below meth c H locs cells slots Q (F0 m pc ls (.int x :: rest)) := by rw [h]; exact k
theorem w_loop {σ : Type} (I : σ → Heap → List Loc → Array Slot → Prop) (μ : σ → Nat) (hs : ∀ (x : σ) (H : Heap) (locs : List Loc) (ls : Array Slot), I x H locs ls → (∀ (y : σ) (H' : Heap) (locs' : List Loc) (ls' : Array Slot), μ y < μ x → I y H' locs' ls' → W p l e R s m args below meth c H' locs' cells slots Q (F0 m pc ls' st)) → W p l e R s m args below meth c H locs cells slots Q (F0 m pc ls st)) (x : σ) (h : I x H locs ls) : W p l e R s m args below meth c H locs cells slots Q (F0 m pc ls st) := by
  have key : ∀ (q : Nat) (x : σ) (H : Heap) (locs : List Loc) (ls : Array Slot), μ x < q → I x H locs ls → W p l e R s m args below meth c H locs cells slots Q (F0 m pc ls st) := by
    intro q
    induction q with
    | zero => intro x H locs ls h; exact absurd h (Nat.not_lt_zero _)
    | succ q ih => intro x H locs ls h hI; exact hs x H locs ls hI (fun y H' locs' ls' hy hI' => ih y H' locs' ls' (by omega) hI')
  exact key (μ x + 1) x H locs ls (Nat.lt_succ_self _) h
theorem w_loopP {σ : Type} (I : σ → Array Slot → Prop) (μ : σ → Nat) (hs : ∀ (x : σ) (ls : Array Slot), I x ls → (∀ (y : σ) (ls' : Array Slot), μ y < μ x → I y ls' → W p l e R s m args below meth c H locs cells slots Q (F0 m pc ls' st)) → W p l e R s m args below meth c H locs cells slots Q (F0 m pc ls st)) (x : σ) (h : I x ls) : W p l e R s m args below meth c H locs cells slots Q (F0 m pc ls st) := by
  have key : ∀ (q : Nat) (x : σ) (ls : Array Slot), μ x < q → I x ls → W p l e R s m args below meth c H locs cells slots Q (F0 m pc ls st) := by
    intro q
    induction q with
    | zero => intro x ls h; exact absurd h (Nat.not_lt_zero _)
    | succ q ih => intro x ls h hI; exact hs x ls hI (fun y ls' hy hI' => ih y ls' (by omega) hI')
  exact key (μ x + 1) x ls (Nat.lt_succ_self _) h
end CW2
/-- how many a row holds -/
def rc (M : cSt) (r : Nat) : Nat := (gI M (10 + r)).toNatClampNeg
theorem wf_rc {n : Nat} {M : cSt} (h : cWF n M) {r : Nat} (hr : r < 7) : gI M (10 + r) = nI (rc M r) ∧ rc M r ≤ 200 := by
  obtain ⟨c, hc, e⟩ := h.2.2.1 r hr
  have : rc M r = c := by unfold rc; rw [e]; exact nI_clamp (by omega)
  rw [this]; exact ⟨e, hc⟩
theorem cg_i {x y : Int32} (h : x = y) : some (Value.int x) = some (Value.int y) := by rw [h]
theorem nar_b {v : Int32} (h : v = 0 ∨ v = 1) : narrow .boolean (.int v) = .int v := by rcases h with rfl | rfl <;> rfl
theorem fit_b {v : Int32} (h : v = 0 ∨ v = 1) : fits .boolean (.int v) = true := by rcases h with rfl | rfl <;> rfl
theorem nar_z {v : Int32} (h : v = 0 ∨ v = 1) : vp_nar .boolean v = v := by rcases h with rfl | rfl <;> rfl
theorem upd_up (f : Nat → Int32) (k : Nat) (x : Int32) : upd f k x = va_up f k x := rfl
theorem rc_sI (M : cSt) (r c : Nat) (hc : c < 2 ^ 31) : rc (sI M (10 + r) (nI c)) r = c := by
  unfold rc; rw [show gI (sI M (10 + r) (nI c)) (10 + r) = nI c from by show va_up (gIf M) (10 + r) (nI c) (10 + r) = _; unfold va_up; rw [if_pos rfl]]
  exact nI_clamp hc
theorem rc_sI_ne (M : cSt) (r j : Nat) (v : Int32) (h : 10 + r ≠ j) : rc (sI M j v) r = rc M r := by
  unfold rc; rw [show gI (sI M j v) (10 + r) = gI M (10 + r) from by show va_up (gIf M) j v (10 + r) = _; unfold va_up; rw [if_neg h]]
theorem rc_sR (M : cSt) (r q j : Nat) (v : Option Nat) : rc (sR M q j v) r = rc M r := rfl
theorem rc_sT (M : cSt) (r k f : Nat) (v : Int32) : rc (sT M k f v) r = rc M r := rfl
theorem rc_sF (M : cSt) (r k f : Nat) (v : Option Nat) : rc (sF M k f v) r = rc M r := rfl
theorem rc_sZ (M : cSt) (r k : Nat) (v : Int32) : rc (sZ M k v) r = rc M r := rfl
/-- a counted loop -/
def nfo {σ : Type} (f : Nat → σ → σ) : Nat → σ → σ
  | 0, x => x
  | j + 1, x => f j (nfo f j x)
theorem nfo_s {σ : Type} (f : Nat → σ → σ) (j : Nat) (x : σ) : nfo f (j + 1) x = f j (nfo f j x) := rfl
theorem nfo_0 {σ : Type} (f : Nat → σ → σ) (x : σ) : nfo f 0 x = x := rfl
def anyb (f : Nat → Bool) : Nat → Bool
  | 0 => false
  | j + 1 => anyb f j || f j
theorem anyb_f {f : Nat → Bool} : ∀ {j : Nat}, anyb f j = false → f j = false → anyb f (j + 1) = false := fun {j} h1 h2 => by show (anyb f j || f j) = false; rw [h1, h2]; rfl
theorem anyb_t {f : Nat → Bool} {j : Nat} : ∀ {k : Nat}, j < k → f j = true → anyb f k = true := by
  intro k
  induction k with
  | zero => intro h; omega
  | succ k ih =>
    intro h hf
    show (anyb f k || f k) = true
    by_cases hj : j = k
    · subst hj; rw [hf, Bool.or_true]
    · rw [ih (by omega) hf, Bool.true_or]
def bI (b : Bool) : Int32 := if b then nI 1 else nI 0
-- Row
def f_item (M : cSt) (r : Nat) (i : Int32) : Option Nat := if i < 0 then none else if i.toNatClampNeg < rc M r then gR M r i.toNatClampNeg else none
theorem f_item_nI (M : cSt) (r j : Nat) (hj : j < 2 ^ 31) : f_item M r (nI j) = if j < rc M r then gR M r j else none := by
  unfold f_item; rw [if_neg (nI_pos hj), nI_clamp hj]
def f_add (M : cSt) (r k : Nat) : cSt := if rc M r < 200 then sI (sR M r (rc M r) (some k)) (10 + r) (nI (rc M r + 1)) else M
def f_words (M : cSt) (r : Nat) : Int32 := nfo (fun j w => match gR M r j with | some k => w + gT M k 5 | none => w) (rc M r) (nI 0)
def f_pinned (M : cSt) (r : Nat) : Nat := nfo (fun j w => match gR M r j with | some k => if gT M k 9 = 0 then w else w + 1 | none => w) (rc M r) 0
def f_keep (pl : Int32) (r j : Nat) (M : cSt) : cSt := match gR M r j with | some k => if gT M k 3 = pl then f_add M r k else M | none => M
def f_keepOnly (M : cSt) (r : Nat) (pl : Int32) : cSt := nfo (f_keep pl r) (rc M r) (sI M (10 + r) (nI 0))
def f_clear (M : cSt) (r : Nat) : cSt := sI M (10 + r) (nI 0)
def f_shift (r j : Nat) (M : cSt) : cSt := sR M r j (gR M r (j + 1))
def f_removeFirst (M : cSt) (r : Nat) : cSt := if (f_item M r (nI 0)).isSome then sI (nfo (f_shift r) (rc M r - 1) M) (10 + r) (nI (rc M r - 1)) else M
/-- one step down of a thing that comes in by address: from j + 1 to j -/
def f_sink (M : cSt) (r k : Nat) : Nat → cSt
  | 0 => M
  | j + 1 => match gR M r j with
    | none => M
    | some q => if gT M k 4 < gT M q 4 then f_sink (sR (sR M r (j + 1) (some q)) r j (some k)) r k j else M
def f_addBy (M : cSt) (r k : Nat) : cSt := f_sink (f_add M r k) r k (rc (f_add M r k) r - 1)
-- Thing
def f_hasField (M : cSt) (k : Nat) (i : Int32) : Int32 := if i < 0 then nI 0 else if i.toNatClampNeg < gL M k then nI 1 else nI 0
def f_read (M : cSt) (k : Nat) (i : Int32) : Option Nat := if i < 0 then none else if i.toNatClampNeg < gL M k then gF M k i.toNatClampNeg else none
def f_write (M : cSt) (k : Nat) (i : Int32) (o : Option Nat) : cSt := if i < 0 then M else if i.toNatClampNeg < gL M k then sF M k i.toNatClampNeg o else M
def isYf (M : cSt) (k j : Nat) : Bool := match gF M k j with | some q => decide (gT M q 3 = nI 1) | none => false
def f_hasYoung (M : cSt) (k : Nat) : Int32 := bI (anyb (isYf M k) (gL M k))
def f_end (M : cSt) (k : Nat) : Int32 := gT M k 4 + gT M k 5
def f_card (M : cSt) (k : Nat) : Int32 := (gT M k 4 - nI 100) / nI 16
def f_giveHash (M : cSt) (k : Nat) (h : Int32) : cSt := sT (sT M k 8 h) k 6 (gT M k 5 + nI 1)
def f_moveTo (M : cSt) (k : Nat) (pl a : Int32) : cSt := sT (sT (sT M k 5 (gT M k 6)) k 3 pl) k 4 a
def f_vanish (M : cSt) (k : Nat) : cSt := nfo (fun j M => sF M k j none) (gL M k) (sT (sT M k 3 (nI 0)) k 10 (nI 0))
-- Tally
def f_note (M : cSt) (v : Int32) : cSt := sI (sI M 8 v) 9 (if gI M 9 < v then v else gI M 9)
theorem pk_dec {a : Nat} (h : 0 < a) : nI a + Int32.ofInt (-1) = nI (a - 1) := by
  obtain ⟨b, rfl⟩ : ∃ b, a = b + 1 := ⟨a - 1, by omega⟩
  exact pk_m1 b
theorem rc_add_le (M : cSt) (r k : Nat) : rc (f_add M r k) r ≤ rc M r + 1 := by
  unfold f_add
  by_cases h : rc M r < 200
  · rw [if_pos h, rc_sI _ _ _ (by omega)]; exact Nat.le_refl _
  · rw [if_neg h]; omega
theorem rc_add_pos (M : cSt) (r k : Nat) : 0 < rc (f_add M r k) r := by
  unfold f_add
  by_cases h : rc M r < 200
  · rw [if_pos h, rc_sI _ _ _ (by omega)]; omega
  · rw [if_neg h]; omega
theorem rc_add (M : cSt) (r k : Nat) (h : rc M r < 200) : rc (f_add M r k) r = rc M r + 1 := by
  unfold f_add; rw [if_pos h, rc_sI _ _ _ (by omega)]
theorem f_item_pos {M : cSt} {r j k : Nat} (hj : j < 2 ^ 31) (h : f_item M r (nI j) = some k) : j < rc M r ∧ gR M r j = some k := by
  rw [f_item_nI _ _ _ hj] at h
  by_cases hl : j < rc M r
  · rw [if_pos hl] at h; exact ⟨hl, h⟩
  · rw [if_neg hl] at h; cases h
theorem f_sink_0 (M : cSt) (r k : Nat) : f_sink M r k 0 = M := rfl
theorem f_sink_p (M : cSt) (r k : Nat) {j : Nat} (hj : 0 < j) : f_sink M r k j = (match gR M r (j - 1) with | none => M | some q => if gT M k 4 < gT M q 4 then f_sink (sR (sR M r j (some q)) r (j - 1) (some k)) r k (j - 1) else M) := by
  obtain ⟨i, rfl⟩ : ∃ i, j = i + 1 := ⟨j - 1, by omega⟩
  rfl
theorem f_read_nI (M : cSt) (k j : Nat) (hj : j < 2 ^ 31) : f_read M k (nI j) = if j < gL M k then gF M k j else none := by
  unfold f_read; rw [if_neg (nI_pos hj), nI_clamp hj]
theorem f_write_nI (M : cSt) (k j : Nat) (o : Option Nat) (hj : j < 2 ^ 31) : f_write M k (nI j) o = if j < gL M k then sF M k j o else M := by
  unfold f_write; rw [if_neg (nI_pos hj), nI_clamp hj]
theorem f_hasField_nI (M : cSt) (k j : Nat) (hj : j < 2 ^ 31) : f_hasField M k (nI j) = if j < gL M k then nI 1 else nI 0 := by
  unfold f_hasField; rw [if_neg (nI_pos hj), nI_clamp hj]
