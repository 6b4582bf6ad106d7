/-! LAYER 2: a MINOR moves. -/
/-- left behind, so far -/
def Lft (M : cSt) (k : Nat) : Prop := gT M k 3 = 1 ∧ gT M k 11 = 0
theorem isLeft_ok {n k : Nat} {M : cSt} (hk : k < n) (h3 : inR (gT M k 3)) (h11 : gT M k 11 = 0 ∨ gT M k 11 = 1) :
    wp (f_Mi_isLeft n M (some k)) (fun x => (x = 0 ∨ x = 1) ∧ (x ≠ 0 ↔ Lft M k)) := by
  unfold f_Mi_isLeft Lft
  rw [wp_on]
  refine ⟨fun e => (by cases e), fun q e => ?_⟩
  cases e
  rw [wp_og, wp_og, wp_ite]
  refine ⟨hk, h3, fun h => ?_, fun h => ?_⟩
  · rw [wp_og, wp_ite]
    refine ⟨by rcases h11 with h | h <;> rw [h] <;> exact ⟨by decide, by decide⟩, fun h0 => ?_, fun h0 => ?_⟩
    · rw [wp_some]; exact ⟨Or.inr rfl, fun _ => ⟨h, h0⟩, fun _ => by decide⟩
    · rw [wp_some]; exact ⟨Or.inl rfl, fun h9 => absurd rfl h9, fun h9 => absurd h9.2 h0⟩
  · rw [wp_some]; exact ⟨Or.inl rfl, fun h9 => absurd rfl h9, fun h9 => absurd h9.1 h⟩
/-- a MINOR under way: M0 its start, D those on DIRTY CARDS, V those that moved -/
def Mv (n : Nat) (M0 : cSt) (Y O G D V : List Nat) (M : cSt) : Prop :=
  n ≤ 199 ∧ Row M 0 (List.range n) ∧ cRf n M ∧ Nm n M ∧ Row M 6 (D ++ V) ∧ (D ++ V).Nodup ∧ (∀ k ∈ V, k ∈ Y) ∧ (∀ k ∈ Y, k < n ∧ gT M0 k 3 = 1) ∧ Y.Nodup ∧ (∀ k ∈ O, k < n) ∧ O.Nodup ∧ (∀ k ∈ D, k < n ∧ k ∉ Y) ∧ (∀ k ∈ O, k ∉ Y) ∧
  (∀ k, k < n → gT M k 11 = if k ∈ V then 1 else 0) ∧ (∀ k, k ∉ V → gT M k 3 = gT M0 k 3 ∧ gT M k 4 = gT M0 k 4 ∧ gT M k 5 = gT M0 k 5 ∧ gT M k 7 = gT M0 k 7) ∧ (∀ k ∈ V, (gT M k 3 = 1 ∨ gT M k 3 = 2) ∧ 0 ≤ gT M k 7 ∧ gT M k 7 ≤ 2 ∧ (gT M k 3 = 1 → gT M k 7 ≤ 1) ∧ gT M k 5 = gT M k 6) ∧
  Row M 3 (O ++ V.filter (isP M 2)) ∧ Chn M 100 (gI M 4) (O ++ V.filter (isP M 2)) ∧ Chn M (gI M 22) (gI M 23) (V.filter (isP M 1)) ∧ (gI M 22 = 0 ∨ gI M 22 = 40) ∧ gI M 22 ≤ gI M 23 ∧ gI M 23 ≤ gI M 22 + 40 ∧ 100 ≤ gI M 4 ∧ gI M 4 + sbs M (Y.filter (fun k => decide (k ∉ V))) ≤ 100 + gI M 5 ∧ gI M 5 ≤ 180 ∧ gI M 20 = 2 ∧
  (∀ k, k < n → gT M0 k 3 = 1 → k ∈ Y) ∧ (∀ k, k < n → 0 ≤ gT M0 k 3 ∧ gT M0 k 3 ≤ 3) ∧ (∀ k ∈ Y, 0 ≤ gT M0 k 7 ∧ gT M0 k 7 ≤ 1)
theorem Mv.pl {n : Nat} {M0 M : cSt} {Y O G D V : List Nat} (h : Mv n M0 Y O G D V M) : ∀ k, k < n → 0 ≤ gT M k 3 ∧ gT M k 3 ≤ 3 := fun k hk => by
  obtain ⟨-, -, -, -, -, -, -, -, -, -, -, -, -, -, h1, h2, -, -, -, -, -, -, -, -, -, -, -, h3, -⟩ := h
  by_cases hv : k ∈ V
  · have := (h2 k hv).1; omega
  · rw [(h1 k hv).1]; exact h3 k hk
theorem Mv.lft {n : Nat} {M0 M : cSt} {Y O G D V : List Nat} (h : Mv n M0 Y O G D V M) {k : Nat} (hk : k < n) : Lft M k ↔ (k ∈ Y ∧ k ∉ V) := by
  obtain ⟨-, -, -, -, -, -, -, hY, -, -, -, -, -, h11, h1, h2, -, -, -, -, -, -, -, -, -, -, hY1, h3, -⟩ := h
  unfold Lft
  rw [h11 k hk]
  constructor
  · rintro ⟨a, b⟩
    have hv : k ∉ V := fun h9 => by rw [if_pos h9] at b; exact absurd b (by decide)
    rw [(h1 k hv).1] at a
    exact ⟨hY1 k hk a, hv⟩
  · rintro ⟨a, b⟩
    rw [if_neg b, (h1 k b).1]
    exact ⟨(hY k a).2, rfl⟩
theorem sbs_split {M : cSt} {Y : List Nat} (p : Nat → Bool) (q : Nat) (hY : Y.Nodup) (hq : q ∈ Y) (hp : p q = true) : sbs M (Y.filter p) = gT M q 6 + sbs M (Y.filter (fun k => p k && decide (k ≠ q))) := by
  induction Y with
  | nil => cases hq
  | cons a l ih =>
    have hnd := List.nodup_cons.mp hY
    by_cases ha : a = q
    · subst ha
      have e : l.filter (fun k => p k && decide (k ≠ a)) = l.filter p := by
        refine List.filter_congr (fun k hk => ?_)
        have : k ≠ a := fun h => hnd.1 (h ▸ hk)
        simp [this]
      rw [List.filter_cons, if_pos hp, sbs_cons, List.filter_cons, if_neg (by simp), e]
    · have hql : q ∈ l := by
        rcases List.mem_cons.mp hq with e | h
        · exact absurd e.symm ha
        · exact h
      have := ih hnd.2 hql
      rw [List.filter_cons, List.filter_cons]
      by_cases hpa : p a = true
      · rw [if_pos hpa, if_pos (by simp [hpa, ha]), sbs_cons, sbs_cons, this]; omega
      · rw [if_neg hpa, if_neg (by simp [hpa]), this]
theorem Mv.step {n : Nat} {M0 M M2 : cSt} {Y O G D V : List Nat} {q : Nat} (h : Mv n M0 Y O G D V M) (hqY : q ∈ Y) (hqV : q ∉ V) (hT : ∀ k f, k ≠ q → gT M2 k f = gT M k f) (h11 : gT M2 q 11 = 1) (h7 : gT M2 q 7 = gT M q 7 + 1) (h5 : gT M2 q 5 = gT M q 6) (h6 : gT M2 q 6 = gT M q 6) (h9 : gT M2 q 9 = gT M q 9) (hR0 : Row M2 0 (List.range n)) (hc : cRf n M2) (hR6 : Row M2 6 ((D ++ V) ++ [q])) (hI5 : gI M2 5 = gI M 5) (hI22 : gI M2 22 = gI M 22) (hI20 : gI M2 20 = gI M 20)
    (hcase : (gT M2 q 3 = 2 ∧ gT M2 q 4 = gI M 4 ∧ gI M2 4 = gI M 4 + gT M q 6 ∧ gI M2 23 = gI M 23 ∧ Row M2 3 ((O ++ V.filter (isP M 2)) ++ [q])) ∨ (gT M2 q 3 = 1 ∧ gT M2 q 4 = gI M 23 ∧ gI M2 23 = gI M 23 + gT M q 6 ∧ gI M2 4 = gI M 4 ∧ Row M2 3 (O ++ V.filter (isP M 2)) ∧ gI M 23 + gT M q 6 ≤ gI M 22 + 40 ∧ gT M q 7 + 1 ≤ 1)) : Mv n M0 Y O G D (V ++ [q]) M2 := by
  obtain ⟨a1, a2, a3, a4, a5, a6, a7, a8, a9, b1, b2, b3, b4, b5, b6, b7, b8, b9, c1, c2, c3, c4, c5, c6, c7, c8, d1, d2, d3⟩ := h
  have hqn := (a8 q hqY).1
  have hNq := a4 q hqn
  have hqD : q ∉ D := fun h => (b3 q h).2 hqY
  have hqO : q ∉ O := fun h => b4 q h hqY
  have hVne : ∀ k ∈ V, k ≠ q := fun k hk e => hqV (e ▸ hk)
  have hsplit := sbs_split (M := M) (Y := Y) (fun k => decide (k ∉ V)) q a9 hqY (by simp [hqV])
  have hfY : Y.filter (fun k => decide (k ∉ V ++ [q])) = Y.filter (fun k => decide (k ∉ V) && decide (k ≠ q)) := by
    refine List.filter_congr (fun k _ => ?_)
    simp [List.mem_append, not_or]
  have hsb : sbs M2 (Y.filter (fun k => decide (k ∉ V ++ [q]))) = sbs M (Y.filter (fun k => decide (k ∉ V) && decide (k ≠ q))) := by
    rw [hfY]
    refine sbs_eq (fun k hk => ?_)
    have := (List.mem_filter.mp hk).2
    simp at this
    exact hT k 6 this.2
  have hsr := sbs_rng (n := n) a4 (l := Y.filter (fun k => decide (k ∉ V) && decide (k ≠ q))) (fun k hk => (a8 k (List.mem_filter.mp hk).1).1)
  have hfP : ∀ p : Int, V.filter (isP M2 p) = V.filter (isP M p) := fun p => List.filter_congr (fun k hk => by unfold isP; rw [hT k 3 (hVne k hk)])
  have hage := d3 q hqY
  have hq7 : gT M q 7 = gT M0 q 7 := (b6 q hqV).2.2.2
  have hN2 : Nm n M2 := fun k hk => by
    by_cases hkq : k = q
    · subst hkq
      rw [h5, h6, h9]
      refine ⟨?_, by omega, by omega, by omega, by omega, hNq.2.2.2.2.2⟩
      rcases hcase with hh | hh <;> omega
    · rw [hT k 4 hkq, hT k 5 hkq, hT k 6 hkq, hT k 9 hkq]; exact a4 k hk
  have hcO : ∀ k ∈ O ++ V.filter (isP M 2), gT M2 k 4 = gT M k 4 ∧ gT M2 k 5 = gT M k 5 := fun k hk => by
    have hkq : k ≠ q := by
      rcases List.mem_append.mp hk with h | h
      · exact fun e => hqO (e ▸ h)
      · exact hVne k (List.mem_filter.mp h).1
    exact ⟨hT k 4 hkq, hT k 5 hkq⟩
  have hcV : ∀ k ∈ V.filter (isP M 1), gT M2 k 4 = gT M k 4 ∧ gT M2 k 5 = gT M k 5 := fun k hk => ⟨hT k 4 (hVne k (List.mem_filter.mp hk).1), hT k 5 (hVne k (List.mem_filter.mp hk).1)⟩
  have hmem : ∀ k, k ∈ V ++ [q] ↔ (k ∈ V ∨ k = q) := fun k => by rw [List.mem_append, List.mem_singleton]
  have hrest : (∀ k, k < n → gT M2 k 11 = if k ∈ V ++ [q] then 1 else 0) ∧ (∀ k, k ∉ V ++ [q] → gT M2 k 3 = gT M0 k 3 ∧ gT M2 k 4 = gT M0 k 4 ∧ gT M2 k 5 = gT M0 k 5 ∧ gT M2 k 7 = gT M0 k 7) := by
    refine ⟨fun k hk => ?_, fun k hk => ?_⟩
    · by_cases hkq : k = q
      · subst hkq; rw [h11, if_pos ((hmem k).mpr (Or.inr rfl))]
      · rw [hT k 11 hkq, b5 k hk]
        by_cases hv : k ∈ V
        · rw [if_pos hv, if_pos ((hmem k).mpr (Or.inl hv))]
        · rw [if_neg hv, if_neg (fun h => by rcases (hmem k).mp h with h | h; exact hv h; exact hkq h)]
    · have hkq : k ≠ q := fun e => hk ((hmem k).mpr (Or.inr e))
      rw [hT k 3 hkq, hT k 4 hkq, hT k 5 hkq, hT k 7 hkq]
      exact b6 k (fun h => hk ((hmem k).mpr (Or.inl h)))
  have hVs : ∀ k ∈ V ++ [q], (gT M2 k 3 = 1 ∨ gT M2 k 3 = 2) ∧ 0 ≤ gT M2 k 7 ∧ gT M2 k 7 ≤ 2 ∧ (gT M2 k 3 = 1 → gT M2 k 7 ≤ 1) ∧ gT M2 k 5 = gT M2 k 6 := fun k hk => by
    rcases (hmem k).mp hk with hv | e
    · have hkq := hVne k hv
      rw [hT k 3 hkq, hT k 7 hkq, hT k 5 hkq, hT k 6 hkq]; exact b7 k hv
    · subst e
      rw [h7, h5, h6]
      rcases hcase with hh | hh
      · exact ⟨Or.inr hh.1, by omega, by omega, fun h => by omega, rfl⟩
      · exact ⟨Or.inl hh.1, by omega, by omega, fun _ => by omega, rfl⟩
  have hnd : (D ++ (V ++ [q])).Nodup := by
    rw [← List.append_assoc, List.nodup_append]
    refine ⟨a6, List.nodup_cons.mpr ⟨List.not_mem_nil, List.nodup_nil⟩, fun x hx y hy e => ?_⟩
    rw [List.mem_singleton] at hy; subst hy; subst e
    rcases List.mem_append.mp hx with h | h
    · exact hqD h
    · exact hqV h
  have hVY : ∀ k ∈ V ++ [q], k ∈ Y := fun k hk => by
    rcases (hmem k).mp hk with hv | e
    · exact a7 k hv
    · rw [e]; exact hqY
  have f2 : gT M2 q 3 = 2 → (V ++ [q]).filter (isP M2 2) = V.filter (isP M 2) ++ [q] ∧ (V ++ [q]).filter (isP M2 1) = V.filter (isP M 1) := fun e => by
    rw [List.filter_append, List.filter_append, hfP, hfP]
    have t1 : isP M2 2 q = true := by unfold isP; exact decide_eq_true e
    have t2 : isP M2 1 q = false := by unfold isP; exact decide_eq_false (by omega)
    simp [List.filter_cons, t1, t2]
  have f1 : gT M2 q 3 = 1 → (V ++ [q]).filter (isP M2 2) = V.filter (isP M 2) ∧ (V ++ [q]).filter (isP M2 1) = V.filter (isP M 1) ++ [q] := fun e => by
    rw [List.filter_append, List.filter_append, hfP, hfP]
    have t1 : isP M2 1 q = true := by unfold isP; exact decide_eq_true e
    have t2 : isP M2 2 q = false := by unfold isP; exact decide_eq_false (by omega)
    simp [List.filter_cons, t1, t2]
  refine ⟨a1, hR0, hc, hN2, by rw [← List.append_assoc]; exact hR6, hnd, hVY, a8, a9, b1, b2, b3, b4, hrest.1, hrest.2, hVs, ?_⟩
  rw [hI22, hI5, hI20, hsb]
  rcases hcase with ⟨e1, e2, e3, e4, e5⟩ | ⟨e1, e2, e3, e4, e5, e6, e7⟩
  · rw [(f2 e1).1, (f2 e1).2, ← List.append_assoc, e3, e4]
    refine ⟨e5, ?_, c1.eq hcV, c2, c3, c4, by omega, by omega, c7, c8, d1, d2, d3⟩
    have := Chn.snoc (M := M2) (q := q) (b9.eq hcO) (by omega) (by omega) (by omega)
    rw [e2, h5] at this; exact this
  · rw [(f1 e1).1, (f1 e1).2, e3, e4]
    refine ⟨e5, b9.eq hcO, ?_, c2, by omega, by omega, c5, by omega, c7, c8, d1, d2, d3⟩
    have := Chn.snoc (M := M2) (q := q) (c1.eq hcV) (by omega) (by omega) (by omega)
    rw [e2, h5] at this; exact this
/-- what a move leaves as it is -/
abbrev MEq (M M' : cSt) : Prop := Eqx [4, 13, 16, 23] [3, 4, 5, 7, 11] [3, 6] M M'
theorem move_ok {n : Nat} {M0 M : cSt} {Y O G D V : List Nat} (h : Mv n M0 Y O G D V M) {t : Option Nat} (ht : ∀ k, t = some k → k < n) :
    wp (f_Mi_move n M t) (fun M' => ∃ V', Mv n M0 Y O G D (V ++ V') M' ∧ MEq M M' ∧ (∀ k ∈ V', t = some k) ∧ ∀ k, t = some k → k ∈ Y → k ∈ V ++ V') := by
  unfold f_Mi_move
  rw [wp_on]
  refine ⟨fun e => ?_, fun q e => ?_⟩
  · rw [wp_some]
    exact ⟨[], by rw [List.append_nil]; exact h, Eqx.rf _ _ _ _, fun k hk => absurd hk List.not_mem_nil, fun k hk => by rw [e] at hk; cases hk⟩
  · have hq := ht q e
    have hpl := h.pl q hq
    have hlf := h.lft hq
    obtain ⟨a1, a2, a3, a4, a5, a6, a7, a8, a9, b1, b2, b3, b4, b5, b6, b7, b8, b9, c1, c2, c3, c4, c5, c6, c7, c8, d1, d2, d3⟩ := id h
    rw [wp_og, wp_ob]
    refine ⟨hq, wp_mono (isLeft_ok hq ⟨by omega, by omega⟩ (by rw [b5 q hq]; split; exact Or.inr rfl; exact Or.inl rfl)) (fun x hx => ?_)⟩
    obtain ⟨hx01, hxi⟩ := hx
    rw [wp_og, wp_ite]
    refine ⟨by rcases hx01 with h | h <;> rw [h] <;> exact ⟨by decide, by decide⟩, fun hx0 => ?_, fun hx0 => ?_⟩
    · rw [wp_some]
      refine ⟨[], by rw [List.append_nil]; exact h, Eqx.rf _ _ _ _, fun k hk => absurd hk List.not_mem_nil, fun k hk hkY => ?_⟩
      rw [e] at hk; cases hk
      rw [List.append_nil]
      by_cases hv : q ∈ V
      · exact hv
      · exact absurd hx0 (hxi.mpr (hlf.mpr ⟨hkY, hv⟩))
    · obtain ⟨hqY, hqV⟩ := hlf.mp (hxi.mp hx0)
      have hNq := a4 q hq
      have hage := d3 q hqY
      have hq7 : gT M q 7 = gT M0 q 7 := (b6 q hqV).2.2.2
      have hDl := nodup_le n _ a6 (fun k hk => by
        rcases List.mem_append.mp hk with h | h
        · exact (b3 k h).1
        · exact (a8 k (a7 k h)).1)
      have hOl : (O ++ V.filter (isP M 2)).length ≤ n := by
        refine nodup_le n _ (List.nodup_append.mpr ⟨b2, (List.nodup_append.mp a6).2.1.filter _, fun x hx y hy e9 => ?_⟩) (fun k hk => ?_)
        · subst e9; exact b4 x hx (a7 x (List.mem_filter.mp hy).1)
        · rcases List.mem_append.mp hk with h | h
          · exact b1 k h
          · exact (a8 k (a7 k (List.mem_filter.mp h).1)).1
      generalize hM1 : sT (sT M q 11 1) q 7 (gT (sT M q 11 1) q 7 + 1) = M1 at *
      have hT1 : ∀ k f, k ≠ q → gT M1 k f = gT M k f := fun k f hk => by rw [← hM1, gT_sT, if_neg (fun h => hk h.1), gT_sT, if_neg (fun h => hk h.1)]
      have hq1 : ∀ f, gT M1 q f = if f = 7 then gT M q 7 + 1 else if f = 11 then 1 else gT M q f := fun f => by
        rw [← hM1, gT_sT]
        by_cases h7 : f = 7
        · rw [if_pos ⟨rfl, h7⟩, if_pos h7, gT_sT, if_neg (fun h => absurd h.2 (by decide))]
        · rw [if_neg (fun h => h7 h.2), if_neg h7, gT_sT]
          by_cases h11 : f = 11
          · rw [if_pos ⟨rfl, h11⟩, if_pos h11]
          · rw [if_neg (fun h => h11 h.2), if_neg h11]
      have hI1 : ∀ j, gI M1 j = gI M j := fun j => by rw [← hM1]; rfl
      have hR1 : ∀ r l, Row M r l → Row M1 r l := fun r l hl => by rw [← hM1]; exact ⟨hl.1, hl.2⟩
      have hc1 : cRf n M1 := by rw [← hM1]; exact ⟨fun r j k hk => a3.1 r j k hk, fun k j p hp => a3.2 k j p hp⟩
      have hE1 : MEq M M1 := by
        rw [← hM1]
        refine ⟨fun _ _ => rfl, fun k f hf => ?_, fun _ _ _ => rfl, fun _ => rfl, fun _ _ => rfl, fun _ => rfl⟩
        rw [gT_sT, if_neg (fun h => hf (by rw [h.2]; decide)), gT_sT, if_neg (fun h => hf (by rw [h.2]; decide))]
      have e6 : gT M1 q 6 = gT M q 6 := by rw [hq1, if_neg (by decide), if_neg (by decide)]
      have e7 : gT M1 q 7 = gT M q 7 + 1 := by rw [hq1, if_pos rfl]
      -- it goes to OLD
      have old : wp (ob (f_Pl_moveToOld n M1 (some q)) (fun x11 => ob (f_Row_add n x11 6 (some q)) (fun x12 => some x12))) (fun M' => ∃ V', Mv n M0 Y O G D (V ++ V') M' ∧ MEq M M' ∧ (∀ k ∈ V', t = some k) ∧ ∀ k, t = some k → k ∈ Y → k ∈ V ++ V') := by
        rw [wp_ob]
        refine wp_of (mto_ok hq (hR1 3 _ b8) (by omega)) ?_
        have hE2 := mto_eqx M1 q
        rw [wp_ob]
        refine wp_of (add_ok (hE2.row (hR1 6 _ a5) (by decide) (by decide)) (by omega) hq) ?_
        rw [wp_some]
        have hE3 := eqx_addR (mto M1 q) 6 q
        have hTT : ∀ k f, gT (addR (mto M1 q) 6 q) k f = gT (mto M1 q) k f := fun k f => hE3.2.1 k f List.not_mem_nil
        have hII : ∀ j, j ≠ 16 → gI (addR (mto M1 q) 6 q) j = gI (mto M1 q) j := fun j hj => hE3.1 j (by simp; exact hj)
        refine ⟨[q], h.step hqY hqV (fun k f hk => ?_) ?_ ?_ ?_ ?_ ?_ ?_ (cRf_addR (mto_refs hc1 hq) hq) (row_addR (hE2.row (hR1 6 _ a5) (by decide) (by decide))) ?_ ?_ ?_ (Or.inl ⟨?_, ?_, ?_, ?_, ?_⟩), (hE1.tr (hE2.mono (by decide) (by decide) (by decide))).tr (hE3.mono (by decide) (by decide) (by decide)), fun k hk => by rw [List.mem_singleton] at hk; rw [hk]; exact e, fun k hk _ => by rw [e] at hk; cases hk; exact List.mem_append_right _ List.mem_cons_self⟩
        · rw [hTT, mto_T, if_neg hk, hT1 k f hk]
        · rw [hTT, mto_T, if_pos rfl, if_neg (by decide), if_neg (by decide), if_neg (by decide), hq1, if_neg (by decide), if_pos rfl]
        · rw [hTT, mto_T, if_pos rfl, if_neg (by decide), if_neg (by decide), if_neg (by decide), e7]
        · rw [hTT, mto_T, if_pos rfl, if_neg (by decide), if_neg (by decide), if_pos rfl, e6]
        · rw [hTT, mto_T, if_pos rfl, if_neg (by decide), if_neg (by decide), if_neg (by decide), e6]
        · rw [hTT, mto_T, if_pos rfl, if_neg (by decide), if_neg (by decide), if_neg (by decide), hq1, if_neg (by decide), if_neg (by decide)]
        · exact hE3.row (hE2.row (hR1 0 _ a2) (by decide) (by decide)) (by decide) (by decide)
        · rw [hII 5 (by decide), mto_I, if_neg (by decide), if_neg (by decide), hI1]
        · rw [hII 22 (by decide), mto_I, if_neg (by decide), if_neg (by decide), hI1]
        · rw [hII 20 (by decide), mto_I, if_neg (by decide), if_neg (by decide), hI1]
        · rw [hTT, mto_T, if_pos rfl, if_neg (by decide), if_pos rfl]
        · rw [hTT, mto_T, if_pos rfl, if_pos rfl, hI1]
        · rw [hII 4 (by decide), mto_I, if_neg (by decide), if_pos rfl, hI1, e6]
        · rw [hII 23 (by decide), mto_I, if_neg (by decide), if_neg (by decide), hI1]
        · exact hE3.row (mto_row (hR1 3 _ b8)) (by decide) (by decide)
      rw [hI1 23, hI1 22, hI1 20, e6, e7]
      rw [wp_og, wp_og, wp_ite]
      refine ⟨⟨by omega, by omega⟩, ⟨by omega, by omega⟩, fun hno => ?_, fun hroom => ?_⟩
      · rw [wp_og, wp_og, wp_ite]
        exact ⟨⟨by omega, by omega⟩, ⟨by omega, by omega⟩, fun _ => old, fun _ => old⟩
      · rw [wp_og, wp_og, wp_ite]
        refine ⟨⟨by omega, by omega⟩, ⟨by omega, by omega⟩, fun hyoung => ?_, fun _ => old⟩
        rw [wp_ob]
        refine wp_of (moveTo_eq n M1 q 1 (gI M 23)) ?_
        unfold f_Th_end
        rw [wp_ob, wp_some]
        have hT2 : ∀ k f, gT (sT (sT (sT M1 q 5 (gT M1 q 6)) q 3 1) q 4 (gI M 23)) k f = if k = q then (if f = 4 then gI M 23 else if f = 3 then 1 else if f = 5 then gT M1 q 6 else gT M1 q f) else gT M1 k f := mvd_T M1 q 1 (gI M 23)
        have g4 : gT (sT (sT (sT M1 q 5 (gT M1 q 6)) q 3 1) q 4 (gI M 23)) q 4 = gI M 23 := by rw [hT2, if_pos rfl, if_pos rfl]
        have g5 : gT (sT (sT (sT M1 q 5 (gT M1 q 6)) q 3 1) q 4 (gI M 23)) q 5 = gT M q 6 := by rw [hT2, if_pos rfl, if_neg (by decide), if_neg (by decide), if_pos rfl, e6]
        rw [g4, g5, wp_ob]
        generalize hM2 : sI (sT (sT (sT M1 q 5 (gT M1 q 6)) q 3 1) q 4 (gI M 23)) 23 (gI M 23 + gT M q 6) = M2 at *
        have hTM2 : ∀ k f, gT M2 k f = if k = q then (if f = 4 then gI M 23 else if f = 3 then 1 else if f = 5 then gT M1 q 6 else gT M1 q f) else gT M1 k f := fun k f => by rw [← hM2, gT_sI]; exact hT2 k f
        have hIM2 : ∀ j, gI M2 j = if j = 23 then gI M 23 + gT M q 6 else gI M j := fun j => by
          rw [← hM2, gI_sI]
          by_cases hj : j = 23
          · rw [if_pos hj, if_pos hj]
          · rw [if_neg hj, if_neg hj]; exact hI1 j
        have hRM2 : ∀ r l, r ≠ 13 → Row M r l → Row M2 r l := fun r l hr hl => by
          refine ⟨?_, fun j hj => ?_⟩
          · rw [hIM2, if_neg (by omega)]; exact hl.1
          · rw [← hM2]; exact (hR1 r l hl).2 j hj
        have hcM2 : cRf n M2 := by rw [← hM2]; exact ⟨fun r j k hk => hc1.1 r j k hk, fun k j p hp => hc1.2 k j p hp⟩
        refine wp_of (add_ok (hRM2 6 _ (by decide) a5) (by omega) hq) ?_
        rw [wp_some]
        have hE3 := eqx_addR M2 6 q
        have hTT : ∀ k f, gT (addR M2 6 q) k f = gT M2 k f := fun k f => hE3.2.1 k f List.not_mem_nil
        have hII : ∀ j, j ≠ 16 → gI (addR M2 6 q) j = gI M2 j := fun j hj => hE3.1 j (by simp; exact hj)
        have hE2 : MEq M M2 := by
          refine ⟨fun j hj => by rw [hIM2, if_neg (fun h => hj (by rw [h]; decide))], fun k f hf => ?_, fun r j hr => by rw [← hM2]; exact hE1.2.2.1 r j hr, fun k => by rw [← hM2]; exact hE1.2.2.2.1 k, fun k j => by rw [← hM2]; exact hE1.2.2.2.2.1 k j, fun j => by rw [← hM2]; exact hE1.2.2.2.2.2 j⟩
          rw [hTM2]
          by_cases hk : k = q
          · rw [if_pos hk, if_neg (fun h => hf (by rw [h]; decide)), if_neg (fun h => hf (by rw [h]; decide)), if_neg (fun h => hf (by rw [h]; decide)), hk]; exact hE1.2.1 q f hf
          · rw [if_neg hk]; exact hE1.2.1 k f hf
        refine ⟨[q], h.step hqY hqV (fun k f hk => ?_) ?_ ?_ ?_ ?_ ?_ ?_ (cRf_addR hcM2 hq) (row_addR (hRM2 6 _ (by decide) a5)) ?_ ?_ ?_ (Or.inr ⟨?_, ?_, ?_, ?_, ?_, by omega, by omega⟩), hE2.tr (hE3.mono (by decide) (by decide) (by decide)), fun k hk => by rw [List.mem_singleton] at hk; rw [hk]; exact e, fun k hk _ => by rw [e] at hk; cases hk; exact List.mem_append_right _ List.mem_cons_self⟩
        · rw [hTT, hTM2, if_neg hk, hT1 k f hk]
        · rw [hTT, hTM2, if_pos rfl, if_neg (by decide), if_neg (by decide), if_neg (by decide), hq1, if_neg (by decide), if_pos rfl]
        · rw [hTT, hTM2, if_pos rfl, if_neg (by decide), if_neg (by decide), if_neg (by decide), e7]
        · rw [hTT, hTM2, if_pos rfl, if_neg (by decide), if_neg (by decide), if_pos rfl, e6]
        · rw [hTT, hTM2, if_pos rfl, if_neg (by decide), if_neg (by decide), if_neg (by decide), e6]
        · rw [hTT, hTM2, if_pos rfl, if_neg (by decide), if_neg (by decide), if_neg (by decide), hq1, if_neg (by decide), if_neg (by decide)]
        · exact hE3.row (hRM2 0 _ (by decide) a2) (by decide) (by decide)
        · rw [hII 5 (by decide), hIM2, if_neg (by decide)]
        · rw [hII 22 (by decide), hIM2, if_neg (by decide)]
        · rw [hII 20 (by decide), hIM2, if_neg (by decide)]
        · rw [hTT, hTM2, if_pos rfl, if_neg (by decide), if_pos rfl]
        · rw [hTT, hTM2, if_pos rfl, if_pos rfl]
        · rw [hII 23 (by decide), hIM2, if_pos rfl]
        · rw [hII 4 (by decide), hIM2, if_neg (by decide)]
        · exact hE3.row (hRM2 3 _ (by decide) b8) (by decide) (by decide)
