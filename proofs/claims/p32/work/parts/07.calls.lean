/-! CALLS over the whole world of the class: the callee has all of it. -/
theorem full_C (wl : va_W) : (List.range wl.length).map (fun i => wl[i]?) = wl.map some := by
  refine List.ext_getElem? (fun k => ?_)
  rw [List.getElem?_map, List.getElem?_map]
  by_cases h : k < wl.length
  · rw [List.getElem?_range h]; show some (wl[k]?) = _; rw [List.getElem?_eq_getElem h]; rfl
  · rw [List.getElem?_eq_none (by rw [List.length_range]; omega), List.getElem?_eq_none (by omega)]; rfl
theorem full_n : ∀ (L : List Nat), L.Nodup → va_nd L = true
  | [], _ => rfl
  | a :: L, h => by
    rw [List.nodup_cons] at h
    have := full_n L h.2
    simp [va_nd, h.1, this]
section GK
variable {p : Program} {l : Launch} {e : Env} {R : Room} {s : State} {m : MethodId} {args : Array Value} {below : List Frame} {meth : Method} {c : Code} {H : Heap} {locs : List Loc} {cells slots : Nat} {Q : State → Prop}
variable {D : va_G} {wl : va_W} {A : Nat → Prop} {pc : Nat} {ls : Array Slot} {rest st : List Value} {mc ms : Nat} {av : Array Value} {w1 : (Nat → Nat) → va_W}
theorem gk_v (hr : va_Run p l e R s m args below meth c H locs cells slots mc ms (F0 m pc ls st) rest (CQv D w1 (va_A wl H.size) av) (va_A wl H.size)) (hP : va_P D cl wl H) (hD : va_D A wl) (hS : va_S A s.heap H locs) (hA : ∀ q, s.heap.size ≤ q → A q)
    (kk : ∀ (u : Nat → Nat) (H1 : Heap) (locs1 : List Loc), va_P D cl (w1 u) H1 → va_D A (w1 u) → va_S A s.heap H1 locs1 → W p l e R s m args below meth c H1 locs1 (cells + mc) (slots + ms) Q (F0 m (pc + 3) ls rest)) : W p l e R s m args below meth c H locs cells slots Q (F0 m pc ls st) :=
  k_v (wr := []) hr hP hD hS hA (List.range wl.length) [] (full_C wl) rfl rfl (fun _ h => nomatch h) (fun _ => rfl) kk
theorem gk_i {r : Int32} (hr : va_Run p l e R s m args below meth c H locs cells slots mc ms (F0 m pc ls st) rest (CQi r D w1 (va_A wl H.size) av) (va_A wl H.size)) (hP : va_P D cl wl H) (hD : va_D A wl) (hS : va_S A s.heap H locs) (hA : ∀ q, s.heap.size ≤ q → A q)
    (kk : ∀ (u : Nat → Nat) (H1 : Heap) (locs1 : List Loc), va_P D cl (w1 u) H1 → va_D A (w1 u) → va_S A s.heap H1 locs1 → W p l e R s m args below meth c H1 locs1 (cells + mc) (slots + ms) Q (F0 m (pc + 3) ls (.int r :: rest))) : W p l e R s m args below meth c H locs cells slots Q (F0 m pc ls st) :=
  k_i (wr := []) hr hP hD hS hA (List.range wl.length) [] (full_C wl) rfl rfl (fun _ h => nomatch h) (fun _ => rfl) kk
theorem gk_l {r : Int64} (hr : va_Run p l e R s m args below meth c H locs cells slots mc ms (F0 m pc ls st) rest (CQl r D w1 (va_A wl H.size) av) (va_A wl H.size)) (hP : va_P D cl wl H) (hD : va_D A wl) (hS : va_S A s.heap H locs) (hA : ∀ q, s.heap.size ≤ q → A q)
    (kk : ∀ (u : Nat → Nat) (H1 : Heap) (locs1 : List Loc), va_P D cl (w1 u) H1 → va_D A (w1 u) → va_S A s.heap H1 locs1 → W p l e R s m args below meth c H1 locs1 (cells + mc) (slots + ms) Q (F0 m (pc + 3) ls (.long r :: rest))) : W p l e R s m args below meth c H locs cells slots Q (F0 m pc ls st) :=
  k_l (wr := []) hr hP hD hS hA (List.range wl.length) [] (full_C wl) rfl rfl (fun _ h => nomatch h) (fun _ => rfl) kk
theorem gk_q {r : (Nat → Nat) → Option Nat} (hr : va_Run p l e R s m args below meth c H locs cells slots mc ms (F0 m pc ls st) rest (CQq r D w1 (va_A wl H.size) av) (va_A wl H.size)) (hP : va_P D cl wl H) (hD : va_D A wl) (hS : va_S A s.heap H locs) (hA : ∀ q, s.heap.size ≤ q → A q)
    (kk : ∀ (u : Nat → Nat) (H1 : Heap) (locs1 : List Loc), va_P D cl (w1 u) H1 → va_D A (w1 u) → va_S A s.heap H1 locs1 → W p l e R s m args below meth c H1 locs1 (cells + mc) (slots + ms) Q (F0 m (pc + 3) ls (va_rf (r u) :: rest))) : W p l e R s m args below meth c H locs cells slots Q (F0 m pc ls st) :=
  k_q (wr := []) hr hP hD hS hA (List.range wl.length) [] (full_C wl) rfl rfl (fun _ h => nomatch h) (fun _ => rfl) kk
end GK
/-! PURE METHODS in Option: 'none' where a road is not taken into account -/
/-- a call, or an operation that may have no result -/
def ob {α β : Type} (o : Option α) (k : α → Option β) : Option β := match o with | none => none | some a => k a
theorem ob_some {α β : Type} {o : Option α} {k : α → Option β} {r : β} (h : ob o k = some r) : ∃ a, o = some a ∧ k a = some r := by
  cases o with
  | none => cases h
  | some a => exact ⟨a, rfl, h⟩
theorem ob_of {α β : Type} {o : Option α} {k : α → Option β} {a : α} (h : o = some a) : ob o k = k a := by rw [h]; rfl
/-- a guard -/
def og {β : Type} (c : Prop) [Decidable c] (k : Option β) : Option β := if c then k else none
theorem og_some {β : Type} {c : Prop} [Decidable c] {k : Option β} {r : β} (h : og c k = some r) : c ∧ k = some r := by
  unfold og at h
  by_cases hc : c
  · rw [if_pos hc] at h; exact ⟨hc, h⟩
  · rw [if_neg hc] at h; cases h
theorem og_of {β : Type} {c : Prop} [Decidable c] {k : Option β} (hc : c) : og c k = k := if_pos hc
