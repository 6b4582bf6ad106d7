/-! LAYER 2: a MINOR moves. -/
/-- left behind, so far -/
def Lft (M : cSt) (k : Nat) : Prop := gT M k 3 = 1 ∧ gT M k 11 = 0
theorem isLeft_ok {n k : Nat} {M : cSt} (hk : k < n) (h3 : inR (gT M k 3)) (h11 : gT M k 11 = 0 ∨ gT M k 11 = 1) :
    wp (f_Mi_isLeft n M (some k)) (fun x => (x = 0 ∨ x = 1) ∧ (x ≠ 0 ↔ Lft M k)) := by
  unfold f_Mi_isLeft Lft
  rw [wp_on]
  refine ⟨fun e => (by cases e), fun q e => ?_⟩
  cases e
  rw [wp_og, wp_og, wp_ite]
  refine ⟨hk, h3, fun h => ?_, fun h => ?_⟩
  · rw [wp_og, wp_ite]
    refine ⟨by rcases h11 with h | h <;> rw [h] <;> exact ⟨by decide, by decide⟩, fun h0 => ?_, fun h0 => ?_⟩
    · rw [wp_some]; exact ⟨Or.inr rfl, fun _ => ⟨h, h0⟩, fun _ => by decide⟩
    · rw [wp_some]; exact ⟨Or.inl rfl, fun h9 => absurd rfl h9, fun h9 => absurd h9.2 h0⟩
  · rw [wp_some]; exact ⟨Or.inl rfl, fun h9 => absurd rfl h9, fun h9 => absurd h9.1 h⟩
/-- a MINOR under way: M0 its start, D those on DIRTY CARDS, V those that moved -/
def Mv (n : Nat) (M0 : cSt) (Y O G D V : List Nat) (M : cSt) : Prop :=
  n ≤ 199 ∧ Row M 0 (List.range n) ∧ cRf n M ∧ Nm n M ∧ Row M 6 (D ++ V) ∧ (D ++ V).Nodup ∧ (∀ k ∈ V, k ∈ Y) ∧ (∀ k ∈ Y, k < n ∧ gT M0 k 3 = 1) ∧ Y.Nodup ∧ (∀ k ∈ O, k < n) ∧ O.Nodup ∧ (∀ k ∈ D, k < n ∧ k ∉ Y) ∧ (∀ k ∈ O, k ∉ Y) ∧
  (∀ k, k < n → gT M k 11 = if k ∈ V then 1 else 0) ∧ (∀ k, k ∉ V → gT M k 3 = gT M0 k 3 ∧ gT M k 4 = gT M0 k 4 ∧ gT M k 5 = gT M0 k 5 ∧ gT M k 7 = gT M0 k 7) ∧ (∀ k ∈ V, (gT M k 3 = 1 ∨ gT M k 3 = 2) ∧ 0 ≤ gT M k 7 ∧ gT M k 7 ≤ 2 ∧ (gT M k 3 = 1 → gT M k 7 ≤ 1) ∧ gT M k 5 = gT M k 6) ∧
  Row M 3 (O ++ V.filter (isP M 2)) ∧ Chn M 100 (gI M 4) (O ++ V.filter (isP M 2)) ∧ Chn M (gI M 22) (gI M 23) (V.filter (isP M 1)) ∧ (gI M 22 = 0 ∨ gI M 22 = 40) ∧ gI M 22 ≤ gI M 23 ∧ gI M 23 ≤ gI M 22 + 40 ∧ 100 ≤ gI M 4 ∧ gI M 4 + sbs M (Y.filter (fun k => decide (k ∉ V))) ≤ 100 + gI M 5 ∧ gI M 5 ≤ 180 ∧ gI M 20 = 2 ∧
  (∀ k, k < n → gT M0 k 3 = 1 → k ∈ Y) ∧ (∀ k, k < n → 0 ≤ gT M0 k 3 ∧ gT M0 k 3 ≤ 3) ∧ (∀ k ∈ Y, 0 ≤ gT M0 k 7 ∧ gT M0 k 7 ≤ 1)
theorem Mv.pl {n : Nat} {M0 M : cSt} {Y O G D V : List Nat} (h : Mv n M0 Y O G D V M) : ∀ k, k < n → 0 ≤ gT M k 3 ∧ gT M k 3 ≤ 3 := fun k hk => by
  obtain ⟨-, -, -, -, -, -, -, -, -, -, -, -, -, -, h1, h2, -, -, -, -, -, -, -, -, -, -, -, h3, -⟩ := h
  by_cases hv : k ∈ V
  · have := (h2 k hv).1; omega
  · rw [(h1 k hv).1]; exact h3 k hk
theorem Mv.lft {n : Nat} {M0 M : cSt} {Y O G D V : List Nat} (h : Mv n M0 Y O G D V M) {k : Nat} (hk : k < n) : Lft M k ↔ (k ∈ Y ∧ k ∉ V) := by
  obtain ⟨-, -, -, -, -, -, -, hY, -, -, -, -, -, h11, h1, h2, -, -, -, -, -, -, -, -, -, -, hY1, h3, -⟩ := h
  unfold Lft
  rw [h11 k hk]
  constructor
  · rintro ⟨a, b⟩
    have hv : k ∉ V := fun h9 => by rw [if_pos h9] at b; exact absurd b (by decide)
    rw [(h1 k hv).1] at a
    exact ⟨hY1 k hk a, hv⟩
  · rintro ⟨a, b⟩
    rw [if_neg b, (h1 k b).1]
    exact ⟨(hY k a).2, rfl⟩
theorem sbs_split {M : cSt} {Y : List Nat} (p : Nat → Bool) (q : Nat) (hY : Y.Nodup) (hq : q ∈ Y) (hp : p q = true) : sbs M (Y.filter p) = gT M q 6 + sbs M (Y.filter (fun k => p k && decide (k ≠ q))) := by
  induction Y with
  | nil => cases hq
  | cons a l ih =>
    have hnd := List.nodup_cons.mp hY
    by_cases ha : a = q
    · subst ha
      have e : l.filter (fun k => p k && decide (k ≠ a)) = l.filter p := by
        refine List.filter_congr (fun k hk => ?_)
        have : k ≠ a := fun h => hnd.1 (h ▸ hk)
        simp [this]
      rw [List.filter_cons, if_pos hp, sbs_cons, List.filter_cons, if_neg (by simp), e]
    · have hql : q ∈ l := by
        rcases List.mem_cons.mp hq with e | h
        · exact absurd e.symm ha
        · exact h
      have := ih hnd.2 hql
      rw [List.filter_cons, List.filter_cons]
      by_cases hpa : p a = true
      · rw [if_pos hpa, if_pos (by simp [hpa, ha]), sbs_cons, sbs_cons, this]; omega
      · rw [if_neg hpa, if_neg (by simp [hpa]), this]
