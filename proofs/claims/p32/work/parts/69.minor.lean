/-! LAYER 2: a MINOR keeps the invariant. -/
theorem fm_kind {a b : Int} (h : a = b ∨ (b = 4 ∧ a = 0)) : fm a = fm b := by
  unfold fm
  rcases h with h | ⟨h1, h2⟩
  · rw [h]
  · rw [h1, h2, if_neg (by decide), if_neg (by decide)]
/-- what a MINOR does to things -/
def MinP (n : Nat) (M : cSt) (Y V : List Nat) (x : cSt × Int) : Prop := (∀ k, k < n → (gT x.1 k 3 ≠ 0 ↔ (gT M k 3 ≠ 0 ∧ ¬ (k ∈ Y ∧ k ∉ V)))) ∧ x.2 = (Y.filter (fun k => decide (k ∉ V))).length ∧ (∀ k, gT x.1 k 8 = gT M k 8 ∧ gT x.1 k 9 = gT M k 9) ∧ (∀ k, k < n → gT M k 9 ≠ 0 → gT x.1 k 4 = gT M k 4) ∧ gI x.1 0 = gI M 0 ∧ gI x.1 1 = gI M 1 ∧ (∀ j, gR x.1 7 j = gR M 7 j ∧ gR x.1 8 j = gR M 8 j) ∧ ∀ k, gL x.1 k = gL M k
set_option maxHeartbeats 1000000 in
theorem minor_ok {n : Nat} {M : cSt} (hI : Inv n M) {Y O G : List Nat} (hP : PL n M Y O G) (hroom : gI M 4 + sbs M Y ≤ 100 + gI M 5) : wp (f_Mi_run n M) (fun x => Inv n x.1 ∧ ∃ V, MinP n M Y V x) := by
  obtain ⟨hB, hr, ⟨Q, hQ⟩, -, hN, hCr, hSl, hPin, hNum, hSz, hFl, hAg⟩ := hI
  have hfu : fu = 500 := rfl
  have hn := hB.1
  have hb0 := hB.2.2.2.1
  have hk0 := hB.2.2.2.2.1
  obtain ⟨pY, pO, pG, dY, dO, dG, mY, mO, mG, cY, cO, cG, h2, h3a, h3b, h4a, h4b, h5a, h5b⟩ := id hP
  have hfq := hB.2.2.2.2.2.1
  have hqq := hB.2.2.2.2.2.2.1
  unfold f_Mi_run
  rw [wp_ob]
  refine wp_mono (beginM_ok hB hN hP hCr.1 hroom hFl.2.1 hAg) (fun M1 h => ?_)
  obtain ⟨v1, e1, g21, g22⟩ := h
  generalize hDe : DD M O G = D at *
  -- roots
  rw [wp_ob]
  refine wp_mono (mroots_loop fu M1 [] 0 v1 (by rw [e1.1 1 (by decide)]; exact hfq) (by rw [e1.1 11 (by decide)]; exact hqq) (by rw [e1.1 1 (by decide), e1.1 11 (by decide)]; omega) (by rw [e1.1 1 (by decide), e1.1 11 (by decide), hfu]; omega)) (fun M2 h => ?_)
  obtain ⟨V2, v2, e2, hrt2⟩ := h
  rw [List.nil_append] at v2 hrt2
  -- their fields
  rw [wp_ob]
  have hL2 : ∀ k, gL M2 k = gL M k := fun k => (e2.2.2.2.1 k).trans (e1.2.2.2.1 k)
  have hK2 : ∀ k, gT M2 k 2 = gT M k 2 := fun k => (e2.2.1 k 2 (by decide)).trans (e1.2.1 k 2 (by decide))
  refine wp_mono (follow_ok v2 (c := 0) (fun k hk => by rw [hL2]; exact hb0 k hk) (fun k hk => by rw [hK2]; exact hk0 k hk) ((e2.1 21 (by decide)).trans g21) (Nat.zero_le _) (fun i q hi => absurd hi (Nat.not_lt_zero i))) (fun M3 h => ?_)
  obtain ⟨V3, v3, e3, h213, sc3⟩ := h
  -- referents
  rw [wp_ob]
  have hL3 : ∀ k, gL M3 k = gL M k := fun k => (e3.2.2.2.1 k).trans (hL2 k)
  have hK3 : ∀ k, gT M3 k 2 = gT M k 2 := fun k => (e3.2.1 k 2 (by decide)).trans (hK2 k)
  refine wp_mono (dropM_ok v3 (fun k hk => by rw [hL3]; exact hb0 k hk) (fun k hk => by rw [hK3]; exact hk0 k hk)) (fun M4 h => ?_)
  obtain ⟨d4, v4⟩ := h
  have e13 : Eqx [4, 13, 16, 21, 22, 23] [3, 4, 5, 7, 11] [3, 6] M M3 := (e1.mono (by decide) (by decide) (by decide)).tr ((e2.mono (by decide) (by decide) (by decide)).tr (e3.mono (by decide) (by decide) (by decide)))
  have hK4 : ∀ k, gT M4 k 2 = gT M k 2 := fun k => (d4.1.2.1 k 2).trans (hK3 k)
  have hL4 : ∀ k, gL M4 k = gL M k := fun k => (d4.1.2.2.2.1 k).trans (hL3 k)
  have hQ4 : Qok n M4 Q := ⟨d4.1.row (e13.row hQ.1 (by decide) (by decide)), hQ.2.1, fun k hk => ⟨(hQ.2.2 k hk).1, by rw [hK4]; exact (hQ.2.2 k hk).2⟩⟩
  -- FINAL ones
  rw [wp_ob]
  have hraise : wp (f_Mi_raiseFinals n M4) (fun M' => ∃ V' R, Mv n M Y O G D ((V2 ++ V3) ++ V') M' ∧ MEq3 M4 M' ∧ Qok n M' (Q ++ R) ∧ (∀ k ∈ R, k ∈ (V2 ++ V3) ++ V') ∧ (∀ k, k < n → gT M' k 2 = gT M4 k 2 ∨ (gT M4 k 2 = 4 ∧ gT M' k 2 = 0)) ∧ gI M' 21 = gI M4 21) := by
    unfold f_Mi_raiseFinals
    rw [wp_ob]
    refine wp_mono (raiseM_loop fu M4 _ Q 0 v4 (fun k hk => by rw [hK4]; exact hk0 k hk) hQ4 (Nat.zero_le _) (by rw [hfu]; omega)) (fun M' h => ?_)
    rw [wp_some]; exact h
  refine wp_mono hraise (fun M5 h => ?_)
  obtain ⟨V5, R, v5, e5, hQ5, hR5, hK5, h215⟩ := h
  have hL5 : ∀ k, gL M5 k = gL M k := fun k => (e5.2.2.2.1 k).trans (hL4 k)
  have hKr : ∀ k, k < n → 0 ≤ gT M5 k 2 ∧ gT M5 k 2 ≤ 4 := fun k hk => by
    have := hk0 k hk
    rcases hK5 k hk with h | h
    · rw [h, hK4]; exact this
    · omega
  have hF5 : ∀ k j p, gF M5 k j = some p → gF M3 k j = some p := fun k j p h => d4.sub k j p (by rw [← e5.2.2.2.2.1 k j]; exact h)
  have hSn : ∀ k ∈ D ++ (V2 ++ V3), k < n := fun k hk => by
    rcases List.mem_append.mp hk with h | h
    · exact (v3.2.2.2.2.2.2.2.2.2.2.2.1 k h).1
    · exact (v3.2.2.2.2.2.2.2.1 k (v3.2.2.2.2.2.2.1 k h)).1
  -- fields again
  rw [wp_ob]
  have sc5 : ScM M5 (D ++ ((V2 ++ V3) ++ V5)) (D ++ (V2 ++ V3)).length Y ((V2 ++ V3) ++ V5) := fun i q hi hq => by
    rw [← List.append_assoc D, List.getElem?_append_left hi] at hq
    have hqn := hSn q (List.mem_of_getElem? hq)
    have hfm : fm (gT M5 q 2) = fm (gT M3 q 2) := fm_kind (by rw [hK3, ← hK4]; exact hK5 q hqn)
    rw [hfm]
    exact (sc3 i q hi hq).mono ((hL5 q).trans (hL3 q).symm) (fun j p hp => hF5 q j p hp) (fun k hk => List.mem_append_left _ hk)
  refine wp_mono (follow_ok v5 (c := (D ++ (V2 ++ V3)).length) (fun k hk => by rw [hL5]; exact hb0 k hk) hKr (h215.trans ((d4.1.1 21).trans h213)) (by simp only [List.length_append]; omega) sc5) (fun M6 h => ?_)
  obtain ⟨V6, v6, e6, -, sc6⟩ := h
  generalize hVe : ((V2 ++ V3) ++ V5) ++ V6 = V at *
  have hVsub2 : ∀ k ∈ V2, k ∈ V := fun k hk => by rw [← hVe]; exact List.mem_append_left _ (List.mem_append_left _ (List.mem_append_left _ hk))
  have hVsub5 : ∀ k ∈ (V2 ++ V3) ++ V5, k ∈ V := fun k hk => by rw [← hVe]; exact List.mem_append_left _ hk
  have hK6 : ∀ k, k < n → gT M6 k 2 = gT M k 2 ∨ (gT M k 2 = 4 ∧ gT M6 k 2 = 0) := fun k hk => by
    rw [e6.2.1 k 2 (by decide), ← hK4 k]; exact hK5 k hk
  have hL6 : ∀ k, gL M6 k = gL M k := fun k => (e6.2.2.2.1 k).trans (hL5 k)
  -- referents again
  rw [wp_ob]
  refine wp_mono (dropM_ok v6 (fun k hk => by rw [hL6]; exact hb0 k hk) (fun k hk => by
    have := hk0 k hk
    rcases hK6 k hk with h | h <;> omega)) (fun M7 h => ?_)
  obtain ⟨d7, v7⟩ := h
  -- all of it so far, against the start
  have hI7 : ∀ j, j ∉ [4, 11, 13, 16, 21, 22, 23] → gI M7 j = gI M j := fun j hj => by
    rw [d7.1.1, e6.1 j (fun h => hj (by simp at h ⊢; omega)), e5.1 j (fun h => hj (by simp at h ⊢; omega)), d4.1.1, e13.1 j (fun h => hj (by simp at h ⊢; omega))]
  have hT7 : ∀ k f, f ∉ [2, 3, 4, 5, 7, 11] → gT M7 k f = gT M k f := fun k f hf => by
    rw [d7.1.2.1, e6.2.1 k f (fun h => hf (by simp at h ⊢; omega)), e5.2.1 k f (fun h => hf (by simp at h ⊢; omega)), d4.1.2.1, e13.2.1 k f (fun h => hf (by simp at h ⊢; omega))]
  have hR7 : ∀ r j, r ∉ [1, 3, 6] → gR M7 r j = gR M r j := fun r j hr => by
    rw [d7.1.2.2.1, e6.2.2.1 r j (fun h => hr (by simp at h ⊢; omega)), e5.2.2.1 r j (fun h => hr (by simp at h ⊢; omega)), d4.1.2.2.1, e13.2.2.1 r j (fun h => hr (by simp at h ⊢; omega))]
  have hL7 : ∀ k, gL M7 k = gL M k := fun k => (d7.1.2.2.2.1 k).trans (hL6 k)
  have hZ7 : ∀ j, gZ M7 j = gZ M j := fun j => (d7.1.2.2.2.2 j).trans ((e6.2.2.2.2.2 j).trans ((e5.2.2.2.2.2 j).trans ((d4.1.2.2.2.2 j).trans (e13.2.2.2.2.2 j))))
  have hF76 : ∀ k j p, gF M7 k j = some p → gF M6 k j = some p := d7.sub
  have hF7 : ∀ k j p, gF M7 k j = some p → gF M k j = some p := fun k j p h => by
    have h6 := hF76 k j p h
    rw [e6.2.2.2.2.1 k j] at h6
    have h3 := hF5 k j p h6
    rw [e13.2.2.2.2.1 k j] at h3; exact h3
  have hK7 : ∀ k, k < n → gT M7 k 2 = gT M k 2 ∨ (gT M k 2 = 4 ∧ gT M7 k 2 = 0) := fun k hk => by rw [d7.1.2.1]; exact hK6 k hk
  have hQ7 : Qok n M7 (Q ++ R) := ⟨d7.1.row (e6.row hQ5.1 (by decide) (by decide)), hQ5.2.1, fun k hk => ⟨(hQ5.2.2 k hk).1, by rw [d7.1.2.1, e6.2.1 k 2 (by decide)]; exact (hQ5.2.2 k hk).2⟩⟩
  have hpl7 := v7.pl
  obtain ⟨a1, a2, a3, a4, a5, a6, a7, a8, a9, b1, b2, b3, b4, b5, b6, b7, b8, b9, c1, c2, c3, c4, c5, c6, c7, c8, d1, d2, d3⟩ := id v7
  have hYn := nodup_le n Y dY (fun k hk => (a8 k hk).1)
  have hSn7 : ∀ k ∈ D ++ V, k < n := fun k hk => by
    rcases List.mem_append.mp hk with h | h
    · exact (b3 k h).1
    · exact (a8 k (a7 k h)).1
  have hSl7 := nodup_le n _ a6 hSn7
  -- the HALF
  rw [wp_ob]
  have hleave : wp (f_Mi_leaveHalf n M7) (fun x => ∃ M8 M9, LvP M7 Y V M8 ∧ Eqx [12] [] [2] M8 M9 ∧ cRf n M9 ∧ Row M9 2 ((D ++ V).filter (isP M8 1)) ∧ x.1 = sI (sI M9 2 (gI M9 22)) 3 (gI (sI M9 2 (gI M9 22)) 23) ∧ x.2 = (Y.filter (fun k => decide (k ∉ V))).length) := by
    have hY7 : Row M7 2 Y := ⟨(hI7 12 (by decide)).trans pY.1, fun j hj => (hR7 2 j (by decide)).trans (pY.2 j hj)⟩
    unfold f_Mi_leaveHalf
    rw [wp_ob]
    refine wp_mono (leave_loop (V := V) Y fu M7 [] 0 (by rw [hfu]; omega) hY7 (by rw [List.nil_append]; omega) (fun k hk => (a8 k hk).1) dY (fun k hk => by rw [hL7]; exact (hb0 k hk).2) hpl7 (fun k hk => by rw [b5 k hk]; split; exact Or.inr rfl; exact Or.inl rfl) (fun k hk => (v7.lft (a8 k hk).1).trans ⟨fun h => h.2, fun h => ⟨hk, h⟩⟩)) (fun x h => ?_)
    obtain ⟨hlv, hg⟩ := h
    have hp8 : ∀ k, k < n → 0 ≤ gT x.1 k 3 ∧ gT x.1 k 3 ≤ 3 := fun k hk => by
      by_cases h : k ∈ Y ∧ k ∉ V
      · rw [((hlv.2 k).1 h).1]; decide
      · rw [((hlv.2 k).2.1 h).1]; exact hpl7 k hk
    have hc8 : cRf n x.1 := ⟨fun r j k hk => a3.1 r j k (by rw [← hlv.1.2.2.1 r j]; exact hk), fun k j q hq => a3.2 k j q ((hlv.2 k).2.2 j q hq)⟩
    have hE8 : Eqx [12] [] [2] x.1 (sI x.1 (10 + 2) 0) := ⟨fun j hj => by rw [gI_sI, if_neg (fun h => hj (by rw [h]; decide))], fun _ _ _ => rfl, fun _ _ _ => rfl, fun _ => rfl, fun _ _ => rfl, fun _ => rfl⟩
    have hR8 : Row x.1 6 (D ++ V) := ⟨(hlv.1.1 _).trans a5.1, fun j hj => (hlv.1.2.2.1 6 j).trans (a5.2 j hj)⟩
    unfold f_Row_clear
    rw [wp_ob, wp_some, wp_ob]
    refine wp_mono (young_loop (S := D ++ V) (by have h9 := hSl7; omega) hSn7 fu (sI x.1 (10 + 2) 0) [] 0 (hE8.row hR8 (by decide) (by decide)) (row_nil (by rw [gI_sI, if_pos rfl])) (by have h9 := hSl7; rw [List.length_nil]; omega) hc8 hp8 (Nat.zero_le _) (by have h9 := hSl7; rw [hfu]; omega)) (fun M9 h => ?_)
    rw [wp_some]
    refine ⟨x.1, M9, hlv, hE8.tr h.1, h.2.1, ?_, rfl, by rw [hg]; omega⟩
    have := h.2.2
    rw [List.nil_append, List.drop_zero] at this; exact this
  refine wp_mono hleave (fun x h => ?_)
  obtain ⟨M8, M9, hlv, e9, hc9, hY9, hx1, hx2⟩ := h
  have hEW : ∀ j, j ∉ [2, 3, 12] → gI x.1 j = gI M7 j := fun j hj => by
    rw [hx1, gI_sI, if_neg (fun h => hj (by rw [h]; decide)), gI_sI, if_neg (fun h => hj (by rw [h]; decide)), e9.1 j (fun h => hj (by simp at h ⊢; omega)), hlv.1.1]
  have hW2 : gI x.1 2 = gI M7 22 := by rw [hx1, gI_sI, if_neg (by decide), gI_sI, if_pos rfl, e9.1 22 (by decide), hlv.1.1]
  have hW3 : gI x.1 3 = gI M7 23 := by rw [hx1, gI_sI, if_pos rfl, gI_sI, if_neg (by decide), e9.1 23 (by decide), hlv.1.1]
  have hTW : ∀ k f, gT x.1 k f = gT M8 k f := fun k f => by rw [hx1]; exact e9.2.1 k f List.not_mem_nil
  have hRW : ∀ r j, gR x.1 r j = gR M9 r j := fun r j => by rw [hx1]; rfl
  have hRW7 : ∀ r j, r ≠ 2 → gR x.1 r j = gR M7 r j := fun r j hr => by rw [hRW, e9.2.2.1 r j (by simp; exact hr), hlv.1.2.2.1]
  have hLW : ∀ k, gL x.1 k = gL M k := fun k => by rw [hx1]; exact (e9.2.2.2.1 k).trans ((hlv.1.2.2.2.1 k).trans (hL7 k))
  have hFW : ∀ k j, gF x.1 k j = gF M8 k j := fun k j => by rw [hx1]; exact e9.2.2.2.2.1 k j
  have hcW : cRf n x.1 := ⟨fun r j k hk => hc9.1 r j k (by rw [← hRW r j]; exact hk), fun k j q hq => hc9.2 k j q (by rw [e9.2.2.2.2.1 k j, ← hFW k j]; exact hq)⟩
  -- places
  have hpV : ∀ k, ¬ (k ∈ Y ∧ k ∉ V) → gT M8 k 3 = gT M7 k 3 := fun k h => ((hlv.2 k).2.1 h).1
  have hpL : ∀ k, (k ∈ Y ∧ k ∉ V) → gT M8 k 3 = 0 := fun k h => ((hlv.2 k).1 h).1
  have hp8 : ∀ k, k < n → 0 ≤ gT M8 k 3 ∧ gT M8 k 3 ≤ 3 := fun k hk => by
    by_cases h : k ∈ Y ∧ k ∉ V
    · rw [hpL k h]; decide
    · rw [hpV k h]; exact hpl7 k hk
  have hT8 : ∀ k f, f ≠ 3 → f ≠ 10 → gT M8 k f = gT M7 k f := hlv.1.2.1
  have nV : ∀ k, k ∉ Y → k ∉ V := fun k h h9 => h (a7 k h9)
  have hth : ∀ k, k < n → (gT M8 k 3 ≠ 0 ↔ (gT M k 3 ≠ 0 ∧ ¬ (k ∈ Y ∧ k ∉ V))) := fun k hk => by
    by_cases h : k ∈ Y ∧ k ∉ V
    · rw [hpL k h]; exact ⟨fun h9 => absurd rfl h9, fun h9 => absurd h h9.2⟩
    · rw [hpV k h]
      by_cases hv : k ∈ V
      · have h1 := (b7 k hv).1
        have h2 := (a8 k (a7 k hv)).2
        exact ⟨fun _ => ⟨by omega, h⟩, fun _ => by omega⟩
      · rw [(b6 k hv).1]; exact ⟨fun h1 => ⟨h1, h⟩, fun h1 => h1.1⟩
  have hY1 : ∀ k, k < n → (k ∈ (D ++ V).filter (isP M8 1) ↔ gT M8 k 3 = 1) := fun k hk => by
    rw [List.mem_filter]
    unfold isP
    rw [decide_eq_true_iff]
    refine ⟨fun h => h.2, fun h => ⟨?_, h⟩⟩
    by_cases hv : k ∈ V
    · exact List.mem_append_right _ hv
    · by_cases hl : k ∈ Y ∧ k ∉ V
      · rw [hpL k hl] at h; omega
      · rw [hpV k hl, (b6 k hv).1] at h
        exact absurd ⟨(mY k).mpr ⟨hk, h⟩, hv⟩ hl
  have hO1 : ∀ k, k ∈ O ++ V.filter (isP M7 2) ↔ (k < n ∧ gT M8 k 3 = 2) := fun k => by
    rw [List.mem_append, List.mem_filter]
    unfold isP
    rw [decide_eq_true_iff]
    constructor
    · rintro (h | ⟨h, h2⟩)
      · have h1 := (mO k).mp h
        have hnY := b4 k h
        rw [hpV k (fun h9 => hnY h9.1), (b6 k (nV k hnY)).1]; exact h1
      · rw [hpV k (fun h9 => h9.2 h)]; exact ⟨(a8 k (a7 k h)).1, h2⟩
    · rintro ⟨hk, h⟩
      have hl : ¬ (k ∈ Y ∧ k ∉ V) := fun h9 => by rw [hpL k h9] at h; omega
      rw [hpV k hl] at h
      by_cases hv : k ∈ V
      · exact Or.inr ⟨hv, h⟩
      · rw [(b6 k hv).1] at h; exact Or.inl ((mO k).mpr ⟨hk, h⟩)
  have hG1 : ∀ k, k ∈ G ↔ (k < n ∧ gT M8 k 3 = 3) := fun k => by
    constructor
    · intro h
      have h1 := (mG k).mp h
      have hnY : k ∉ Y := fun h9 => by have := ((mY k).mp h9).2; omega
      rw [hpV k (fun h9 => hnY h9.1), (b6 k (nV k hnY)).1]; exact h1
    · rintro ⟨hk, h⟩
      have hl : ¬ (k ∈ Y ∧ k ∉ V) := fun h9 => by rw [hpL k h9] at h; omega
      rw [hpV k hl] at h
      by_cases hv : k ∈ V
      · have := (b7 k hv).1; omega
      · rw [(b6 k hv).1] at h; exact (mG k).mpr ⟨hk, h⟩
  have hYe : (D ++ V).filter (isP M8 1) = V.filter (isP M7 1) := by
    rw [List.filter_append]
    have h1 : D.filter (isP M8 1) = [] := by
      rw [List.filter_eq_nil_iff]
      intro k hk
      have h2 := b3 k hk
      unfold isP
      rw [decide_eq_true_iff, hpV k (fun h9 => h2.2 h9.1), (b6 k (nV k h2.2)).1]
      exact fun h9 => h2.2 ((mY k).mpr ⟨h2.1, h9⟩)
    rw [h1, List.nil_append]
    refine List.filter_congr (fun k hk => ?_)
    unfold isP
    rw [hpV k (fun h9 => h9.2 hk)]
  have nO' : (O ++ V.filter (isP M7 2)).Nodup := List.nodup_append.mpr ⟨b2, ((List.nodup_append.mp a6).2.1).filter _, fun k hk q hq e => by
    subst e; exact b4 k hk (a7 k (List.mem_filter.mp hq).1)⟩
  have lO' := nodup_le n _ nO' (fun k hk => ((hO1 k).mp hk).1)
  have lG := nodup_le n G dG (fun k hk => ((mG k).mp hk).1)
  -- CARDS
  rw [wp_ob]
  have hrO : Row x.1 3 (O ++ V.filter (isP M7 2)) := ⟨(hEW 13 (by decide)).trans b8.1, fun j hj => (hRW7 3 j (by decide)).trans (b8.2 j hj)⟩
  have hrG : Row x.1 4 G := ⟨(hEW 14 (by decide)).trans ((hI7 14 (by decide)).trans pG.1), fun j hj => (hRW7 4 j (by decide)).trans ((hR7 4 j (by decide)).trans (pG.2 j hj))⟩
  have hNm8 : Nm n M8 := fun k hk => by rw [hT8 k 4 (by decide) (by decide), hT8 k 5 (by decide) (by decide), hT8 k 6 (by decide) (by decide), hT8 k 9 (by decide) (by decide)]; exact a4 k hk
  have cO8 : Chn M8 100 (gI M7 4) (O ++ V.filter (isP M7 2)) := b9.eq (fun k _ => ⟨hT8 k 4 (by decide) (by decide), hT8 k 5 (by decide) (by decide)⟩)
  have cG8 : Chn M8 300 420 G := cG.eq (fun k hk => by
    have h2 := (mG k).mp hk
    have hnY : k ∉ Y := fun h9 => by have := ((mY k).mp h9).2; omega
    rw [hT8 k 4 (by decide) (by decide), hT8 k 5 (by decide) (by decide)]
    exact ⟨(b6 k (nV k hnY)).2.1, (b6 k (nV k hnY)).2.2.1⟩)
  have hsr := sbs_rng (n := n) a4 (l := Y.filter (fun k => decide (k ∉ V))) (fun k hk => (a8 k (List.mem_filter.mp hk).1).1)
  refine wp_mono (renew_ok hrO hrG (by omega) (by omega) (fun k hk => ((hO1 k).mp hk).1) (fun k hk => ((mG k).mp hk).1) hcW (fun k hk => by rw [hLW]; exact (hb0 k hk).2) (fun k hk => by rw [hTW]; exact hp8 k hk) (fun k hk => by
    rw [hTW]
    rcases hk with hk | hk
    · have h1 := cO8.2 k hk
      have h2 := hNm8 k ((hO1 k).mp hk).1
      omega
    · have h1 := cG8.2 k hk
      have h2 := hNm8 k ((mG k).mp hk).1
      omega)) (fun z h => ?_)
  obtain ⟨hEz, hz1, hz2⟩ := h
  -- what was TOUCHED
  have hR6 : Row (sI z 6 (gI z 6 + 1)) 6 (D ++ V) := ⟨by rw [gI_sI, if_neg (by decide), hEz.1, hEW 16 (by decide)]; exact a5.1, fun j hj => by rw [gR_sI, hEz.2.2.1, hRW7 6 j (by decide)]; exact a5.2 j hj⟩
  rw [wp_ob]
  refine wp_of (words_ok hR6 (by omega) hSn7) ?_
  have hw : 0 ≤ ((D ++ V).map (fun k => gT (sI z 6 (gI z 6 + 1)) k 5)).sum ∧ ((D ++ V).map (fun k => gT (sI z 6 (gI z 6 + 1)) k 5)).sum ≤ 25 * (D ++ V).length := sum_rng (c := 25) (fun k hk => by
    have h1 := hNm8 k (hSn7 k hk)
    have e : gT (sI z 6 (gI z 6 + 1)) k 5 = gT M8 k 5 := by rw [gT_sI, hEz.2.1, hTW]
    rw [e]; omega)
  generalize ((D ++ V).map (fun k => gT (sI z 6 (gI z 6 + 1)) k 5)).sum = w at *
  have h9z : gI (sI z 6 (gI z 6 + 1)) 9 = gI M 9 := by rw [gI_sI, if_neg (by decide), hEz.1, hEW 9 (by decide), hI7 9 (by decide)]
  rw [wp_ob]
  have hf9a := hFl.2.2.1
  have hf9b := hFl.2.2.2
  refine wp_of (touched_ok (by rw [h9z]; exact ⟨by omega, by omega⟩) ⟨by omega, by omega⟩) ?_
  rw [wp_some, h9z]
  generalize hFdef : sI (sI (sI z 6 (gI z 6 + 1)) 8 w) 9 (max (gI M 9) w) = F at *
  have hFI : ∀ j, j ∉ [2, 3, 6, 8, 9, 12] → gI F j = gI M7 j := fun j hj => by
    rw [← hFdef, gI_sI, if_neg (fun h => hj (by rw [h]; decide)), gI_sI, if_neg (fun h => hj (by rw [h]; decide)), gI_sI, if_neg (fun h => hj (by rw [h]; decide)), hEz.1, hEW j (fun h => hj (by simp at h ⊢; omega))]
  have hF9 : gI F 9 = max (gI M 9) w := by rw [← hFdef, gI_sI, if_pos rfl]
  have hF2 : gI F 2 = gI M7 22 := by rw [← hFdef, gI_sI, if_neg (by decide), gI_sI, if_neg (by decide), gI_sI, if_neg (by decide), hEz.1, hW2]
  have hF3 : gI F 3 = gI M7 23 := by rw [← hFdef, gI_sI, if_neg (by decide), gI_sI, if_neg (by decide), gI_sI, if_neg (by decide), hEz.1, hW3]
  have hF12 : gI F 12 = gI M9 12 := by rw [← hFdef, gI_sI, if_neg (by decide), gI_sI, if_neg (by decide), gI_sI, if_neg (by decide), hEz.1, hx1, gI_sI, if_neg (by decide), gI_sI, if_neg (by decide)]
  have hFT : ∀ k f, gT F k f = gT M8 k f := fun k f => by rw [← hFdef]; exact (hEz.2.1 k f).trans (hTW k f)
  have hFR : ∀ r j, gR F r j = gR x.1 r j := fun r j => by rw [← hFdef]; exact hEz.2.2.1 r j
  have hFL : ∀ k, gL F k = gL M k := fun k => by rw [← hFdef]; exact (hEz.2.2.2.1 k).trans (hLW k)
  have hFF : ∀ k j, gF F k j = gF M8 k j := fun k j => by rw [← hFdef]; exact (hEz.2.2.2.2 k j).trans (hFW k j)
  have hFZ : ∀ j, gZ F j = gZ z j := fun j => by rw [← hFdef]; rfl
  have hFIx : ∀ j, j ∉ [2, 3, 4, 6, 8, 9, 11, 12, 13, 16, 21, 22, 23] → gI F j = gI M j := fun j hj => by
    rw [hFI j (fun h => hj (by simp at h ⊢; omega)), hI7 j (fun h => hj (by simp at h ⊢; omega))]
  have hFTx : ∀ k f, f ∉ [2, 3, 4, 5, 7, 10, 11] → gT F k f = gT M k f := fun k f hf => by
    rw [hFT, hT8 k f (fun h => hf (by simp at h ⊢; omega)) (fun h => hf (by simp at h ⊢; omega)), hT7 k f (fun h => hf (by simp at h ⊢; omega))]
  have hFRx : ∀ r j, r ∉ [1, 2, 3, 6] → gR F r j = gR M r j := fun r j hr => by
    rw [hFR, hRW7 r j (fun h => hr (by simp at h ⊢; omega)), hR7 r j (fun h => hr (by simp at h ⊢; omega))]
  have hFth : ∀ k, k < n → (gT F k 3 ≠ 0 ↔ (gT M k 3 ≠ 0 ∧ ¬ (k ∈ Y ∧ k ∉ V))) := fun k hk => by rw [hFT]; exact hth k hk
  have hpin8 : ∀ k, k < n → gT M k 9 ≠ 0 → k ∉ Y := fun k hk h9 h => by
    have h0 := hPin k hk h9
    have h1 := ((mY k).mp h).2; omega
  have hQF : Qok n F (Q ++ R) := by
    refine ⟨⟨?_, fun j hj => ?_⟩, hQ7.2.1, fun k hk => ⟨(hQ7.2.2 k hk).1, ?_⟩⟩
    · rw [hFI _ (by decide)]; exact hQ7.1.1
    · rw [hFR, hRW7 1 j (by decide)]; exact hQ7.1.2 j hj
    · rw [hFT, hT8 k 2 (by decide) (by decide)]; exact (hQ7.2.2 k hk).2
  have hcF : cRf n F := ⟨fun r j k hk => hcW.1 r j k (by rw [← hFR r j]; exact hk), fun k j q hq => hcW.2 k j q (by rw [hFW, ← hFF k j]; exact hq)⟩
  have hNF : Nm n F := fun k hk => by rw [hFT, hFT, hFT, hFT]; exact hNm8 k hk
  have hPF : PL n F ((D ++ V).filter (isP M8 1)) (O ++ V.filter (isP M7 2)) G := by
    refine ⟨⟨hF12.trans hY9.1, fun j hj => (hFR 2 j).trans ((hRW 2 j).trans (hY9.2 j hj))⟩, ⟨(hFI 13 (by decide)).trans b8.1, fun j hj => (hFR 3 j).trans ((hRW7 3 j (by decide)).trans (b8.2 j hj))⟩, ⟨(hFI 14 (by decide)).trans ((hI7 14 (by decide)).trans pG.1), fun j hj => (hFR 4 j).trans (hrG.2 j hj)⟩, a6.filter _, nO', dG, fun k => ?_, fun k => by rw [hFT]; exact hO1 k, fun k => by rw [hFT]; exact hG1 k, ?_, ?_, cG8.eq (fun k _ => ⟨hFT k 4, hFT k 5⟩), ?_⟩
    · rw [hFT]
      exact ⟨fun h => ⟨hSn7 k (List.mem_filter.mp h).1, (hY1 k (hSn7 k (List.mem_filter.mp h).1)).mp h⟩, fun h => (hY1 k h.1).mpr h.2⟩
    · rw [hYe, hF2, hF3]
      exact c1.eq (fun k _ => ⟨(hFT k 4).trans (hT8 k 4 (by decide) (by decide)), (hFT k 5).trans (hT8 k 5 (by decide) (by decide))⟩)
    · rw [hFI 4 (by decide)]; exact cO8.eq (fun k _ => ⟨hFT k 4, hFT k 5⟩)
    · rw [hF2, hF3, hFI 4 (by decide), hFI 5 (by decide)]
      have e5 := hI7 5 (by decide)
      exact ⟨c2, c3, c4, c5, by omega, by omega, c7⟩
  have hlQ := nodup_le n (Q ++ R) hQF.2.1 (fun k hk => (hQF.2.2 k hk).1)
  have hBF : TB n F := by
    refine ⟨hn, ⟨(hFIx 10 (by decide)).trans hB.2.1.1, fun q hq => (hFRx 0 q (by decide)).trans (hB.2.1.2 q hq)⟩, hcF, fun k hk => by rw [hFL]; exact hb0 k hk, fun k hk => ?_, by rw [hFIx 1 (by decide)]; exact hfq, ?_, fun k hk => by rw [hFTx k 9 (by decide)]; exact hB.2.2.2.2.2.2.2.1 k hk, fun k hk => by rw [hFT]; exact hp8 k hk, fun k hk => by have := hNF k hk; omega⟩
    · rw [hFT, hT8 k 2 (by decide) (by decide)]
      have h1 := hk0 k hk
      rcases hK7 k hk with h | h
      · omega
      · omega
    · have h1 : gI F 11 = (Q ++ R).length := hQF.1.1
      omega
  -- nothing that is there leads to what was left
  have hleft : ∀ k j q, k < n → j < gL M k → gF M8 k j = some q → ¬ (k ∈ Y ∧ k ∉ V) ∧ gT M k 3 ≠ 0 ∧ gT M q 3 ≠ 0 ∧ ¬ (q ∈ Y ∧ q ∉ V) := fun k j q hk hj hq => by
    have hnl : ¬ (k ∈ Y ∧ k ∉ V) := fun h => by
      rw [((hlv.2 k).1 h).2 j (by rw [hL7]; exact hj)] at hq; cases hq
    have hq7 : gF M7 k j = some q := (hlv.2 k).2.2 j q hq
    have hqM := hF7 k j q hq7
    have h0 := hr.1 k hk j q hj hqM
    refine ⟨hnl, h0.1, h0.2, fun hql => ?_⟩
    have hqn := (a8 q hql.1).1
    by_cases hkS : k ∈ D ++ V
    · obtain ⟨i, hi, hi2⟩ := List.getElem_of_mem hkS
      have hfm := sc6 i k hi (by rw [List.getElem?_eq_getElem hi, hi2])
      have hq6 := hF76 k j q hq7
      by_cases hfj : fm (gT M6 k 2) ≤ j
      · exact hql.2 (hfm j q hfj (by rw [hL6]; exact hj) hq6 hql.1)
      · unfold fm at hfj
        split at hfj
        · rename_i hk1
          have hj0 : j = 0 := by omega
          subst hj0
          have hd : DrM n M6 0 k 0 := ⟨Nat.zero_le _, hk, rfl, hk1, fun h9 => by
            have h8 := (v6.lft hk).mp h9
            rcases List.mem_append.mp hkS with h7 | h7
            · exact (b3 k h7).2 h8.1
            · exact h8.2 h7, q, hq6, (v6.lft hqn).mpr hql⟩
          rw [(d7.2 k 0).1 hd] at hq7; cases hq7
        · omega
    · have hkV : k ∉ V := fun h => hkS (List.mem_append_right _ h)
      have hkY : k ∉ Y := fun h => hnl ⟨h, hkV⟩
      have hkD : k ∉ D := fun h => hkS (List.mem_append_left _ h)
      have hpk := hB.2.2.2.2.2.2.2.2.1 k hk
      have hp1 : gT M k 3 ≠ 1 := fun h => hkY ((mY k).mpr ⟨hk, h⟩)
      have hp23 : gT M k 3 = 2 ∨ gT M k 3 = 3 := by omega
      have hz := hCr.2 k hk hp23 ⟨j, q, hj, hqM, (a8 q hql.1).2⟩
      refine hkD ?_
      rw [← hDe]
      unfold DD
      rw [List.mem_append, List.mem_filter, List.mem_filter]
      have hdt : dty M k = true := by unfold dty; rw [hz]; rfl
      rcases hp23 with h | h
      · exact Or.inl ⟨(mO k).mpr ⟨hk, h⟩, hdt⟩
      · exact Or.inr ⟨(mG k).mpr ⟨hk, h⟩, hdt⟩
  have hroot : ∀ k, k < n → ∀ i : Nat, (i : Int) < gI M 1 * 4 + 4 + gI M 11 → rtAt M i = some k → ¬ (k ∈ Y ∧ k ∉ V) := fun k hk i hi hrt h => by
    have e1i : ∀ j, j ∉ [16, 21, 22, 23] → gI M1 j = gI M j := e1.1
    refine h.2 (hVsub2 k (hrt2 i k (Nat.zero_le _) (by rw [e1i 1 (by decide), e1i 11 (by decide)]; exact hi) ?_ h.1))
    unfold rtAt at hrt ⊢
    rw [e1i 1 (by decide), e1.2.2.1 7 _ (by decide), e1.2.2.1 8 _ (by decide), e1.2.2.1 1 _ (by decide)]; exact hrt
  refine ⟨⟨hBF, ⟨fun k hk j q hj hq => ?_, fun k hk => ?_⟩, ⟨_, hQF⟩, ⟨_, _, G, hPF⟩, hNF, ⟨fun j hj => by rw [hFZ]; exact hz1 j hj, fun k hk hp hy => ?_⟩, fun j k h => ?_, fun k hk h9 => ?_, fun k hk => by rw [hFTx k 0 (by decide)]; exact hNum k hk, fun k hk => ?_, ⟨by rw [hFIx 17 (by decide)]; exact hFl.1, by rw [hFIx 20 (by decide)]; exact hFl.2.1, ?_, ?_⟩, fun k hk => ?_⟩, V, hFth, hx2, fun k => ⟨hFTx k 8 (by decide), hFTx k 9 (by decide)⟩, fun k hk h9 => ?_, hFIx 0 (by decide), hFIx 1 (by decide), fun j => ⟨hFRx 7 j (by decide), hFRx 8 j (by decide)⟩, hFL⟩
  · rw [hFL] at hj
    rw [hFF] at hq
    have h := hleft k j q hk hj hq
    have hqn := hcF.2 k j q (by rw [hFF]; exact hq)
    exact ⟨(hFth k hk).mpr ⟨h.2.1, h.1⟩, (hFth q hqn).mpr ⟨h.2.2.1, h.2.2.2⟩⟩
  · have hkn : k < n := IsRt.lt hcF hk
    rw [hFth k hkn]
    rcases hk with ⟨j, hj, h⟩ | ⟨j, hj, h⟩ | ⟨j, hj, h⟩ | h
    · rw [hFIx 1 (by decide)] at hj
      rw [hFRx 7 j (by decide)] at h
      exact ⟨hr.2 k (Or.inl ⟨j, hj, h⟩), hroot k hkn j (by omega) (by unfold rtAt; rw [if_pos hj]; exact h)⟩
    · rw [hFRx 8 j (by decide)] at h
      refine ⟨hr.2 k (Or.inr (Or.inl ⟨j, hj, h⟩)), hroot k hkn ((gI M 1 * 4).toNat + j) (by omega) ?_⟩
      unfold rtAt
      rw [if_neg (by omega), if_pos (by omega), show (((gI M 1 * 4).toNat + j : Nat) - gI M 1 * 4 : Int).toNat = j by omega]; exact h
    · have e1 : gI F 11 = (Q ++ R).length := hQF.1.1
      have hj : (j : Int) < gI F 11 := hj
      have hjl : j < (Q ++ R).length := by omega
      have h : gR F 1 j = some k := h
      rw [hQF.1.2 j hjl] at h
      rcases List.mem_append.mp (List.mem_of_getElem? h) with h9 | h9
      · obtain ⟨i, hi, hi2⟩ := List.getElem_of_mem h9
        have e2 : gI M 11 = Q.length := hQ.1.1
        have hgi : gR M 1 i = some k := by rw [hQ.1.2 i hi, List.getElem?_eq_getElem hi, hi2]
        refine ⟨hr.2 k (Or.inr (Or.inr (Or.inl ⟨i, by omega, hgi⟩))), hroot k hkn ((gI M 1 * 4).toNat + 4 + i) (by omega) ?_⟩
        unfold rtAt
        rw [if_neg (by omega), if_neg (by omega), show (((gI M 1 * 4).toNat + 4 + i : Nat) - gI M 1 * 4 - 4 : Int).toNat = i by omega]; exact hgi
      · have hv := hVsub5 k (hR5 k h9)
        have h1 := (a8 k (a7 k hv)).2
        exact ⟨by omega, fun h8 => h8.2 hv⟩
    · rw [hFTx k 9 (by decide)] at h
      exact ⟨hr.2 k (Or.inr (Or.inr (Or.inr h))), fun h8 => hpin8 k hkn h.2 h8.1⟩
  · have hcr : crd F k = crd x.1 k := by unfold crd; rw [hFT, hTW]
    rw [hFZ, hcr]
    refine hz2 k ?_ ?_
    · rcases hp with hp | hp
      · exact Or.inl ((hO1 k).mpr ⟨hk, by rw [← hFT]; exact hp⟩)
      · exact Or.inr ((hG1 k).mpr ⟨hk, by rw [← hFT]; exact hp⟩)
    · obtain ⟨j, p, hj, hp9, h1⟩ := hy
      exact ⟨j, p, by rw [hLW]; rw [hFL] at hj; exact hj, by rw [hFW, ← hFF]; exact hp9, by rw [hTW, ← hFT]; exact h1⟩
  · rw [hFIx 1 (by decide)]
    rw [hFRx 7 j (by decide)] at h
    exact hSl j k h
  · rw [hFTx k 9 (by decide)] at h9
    have hnY := hpin8 k hk h9
    show gT F k 3 = 2 ∨ gT F k 3 = 3
    rw [hFT, hpV k (fun h => hnY h.1), (b6 k (nV k hnY)).1]
    exact hPin k hk h9
  · have h0 := hSz k hk
    have e5 : gT F k 5 = gT M k 5 ∨ gT F k 5 = gT M k 6 := by
      rw [hFT, hT8 k 5 (by decide) (by decide)]
      by_cases hv : k ∈ V
      · exact Or.inr ((b7 k hv).2.2.2.2.trans (hT7 k 6 (by decide)))
      · exact Or.inl (b6 k hv).2.2.1
    rw [hFTx k 6 (by decide), hFTx k 8 (by decide), hFL]
    refine ⟨?_, h0.2⟩
    rcases e5 with e | e <;> rw [e]
    · exact h0.1
    · rcases h0.2.1 with h | h
      · exact Or.inl h.1
      · exact Or.inr h
  · show 0 ≤ gI F 9
    rw [hF9]; omega
  · show gI F 9 ≤ 100000
    rw [hF9]; omega
  · have h0 := hAg k hk
    rw [hFT, hFT, hT8 k 7 (by decide) (by decide)]
    by_cases hv : k ∈ V
    · have h1 := b7 k hv
      rw [hpV k (fun h => h.2 hv)]
      exact ⟨h1.2.1, h1.2.2.1, h1.2.2.2.1⟩
    · rw [(b6 k hv).2.2.2]
      refine ⟨h0.1, h0.2.1, fun h1 => h0.2.2 ?_⟩
      by_cases hl : k ∈ Y ∧ k ∉ V
      · rw [hpL k hl] at h1; omega
      · rw [hpV k hl, (b6 k hv).1] at h1; exact h1
  · have hnY := hpin8 k hk h9
    show gT F k 4 = gT M k 4
    rw [hFT, hT8 k 4 (by decide) (by decide)]
    exact (b6 k (nV k hnY)).2.1
