/-! LAYER 2: a MINOR keeps the invariant. -/
theorem fm_kind {a b : Int} (h : a = b ∨ (b = 4 ∧ a = 0)) : fm a = fm b := by
  unfold fm
  rcases h with h | ⟨h1, h2⟩
  · rw [h]
  · rw [h1, h2, if_neg (by decide), if_neg (by decide)]
/-- what a MINOR does to things -/
def MinP (n : Nat) (M : cSt) (Y V : List Nat) (x : cSt × Int) : Prop := (∀ k, k < n → (gT x.1 k 3 ≠ 0 ↔ (gT M k 3 ≠ 0 ∧ ¬ (k ∈ Y ∧ k ∉ V)))) ∧ x.2 = (Y.filter (fun k => decide (k ∉ V))).length ∧ (∀ k, gT x.1 k 8 = gT M k 8 ∧ gT x.1 k 9 = gT M k 9) ∧ (∀ k, k < n → gT M k 9 ≠ 0 → gT x.1 k 4 = gT M k 4) ∧ gI x.1 0 = gI M 0 ∧ gI x.1 1 = gI M 1 ∧ (∀ j, gR x.1 7 j = gR M 7 j ∧ gR x.1 8 j = gR M 8 j) ∧ ∀ k, gL x.1 k = gL M k
set_option maxHeartbeats 1000000 in
theorem minor_ok {n : Nat} {M : cSt} (hI : Inv n M) {Y O G : List Nat} (hP : PL n M Y O G) (hroom : gI M 4 + sbs M Y ≤ 100 + gI M 5) : wp (f_Mi_run n M) (fun x => Inv n x.1 ∧ ∃ V, MinP n M Y V x) := by
  obtain ⟨hB, hr, ⟨Q, hQ⟩, -, hN, hCr, hSl, hPin, hNum, hSz, hFl, hAg⟩ := hI
  have hfu : fu = 500 := rfl
  have hn := hB.1
  have hb0 := hB.2.2.2.1
  have hk0 := hB.2.2.2.2.1
  obtain ⟨pY, pO, pG, dY, dO, dG, mY, mO, mG, cY, cO, cG, h2, h3a, h3b, h4a, h4b, h5a, h5b⟩ := id hP
  have hfq := hB.2.2.2.2.2.1
  have hqq := hB.2.2.2.2.2.2.1
  unfold f_Mi_run
  rw [wp_ob]
  refine wp_mono (beginM_ok hB hN hP hCr.1 hroom hFl.2.1 hAg) (fun M1 h => ?_)
  obtain ⟨v1, e1, g21, g22⟩ := h
  generalize hDe : DD M O G = D at *
  -- roots
  rw [wp_ob]
  refine wp_mono (mroots_loop fu M1 [] 0 v1 (by rw [e1.1 1 (by decide)]; exact hfq) (by rw [e1.1 11 (by decide)]; exact hqq) (by rw [e1.1 1 (by decide), e1.1 11 (by decide)]; omega) (by rw [e1.1 1 (by decide), e1.1 11 (by decide), hfu]; omega)) (fun M2 h => ?_)
  obtain ⟨V2, v2, e2, hrt2⟩ := h
  rw [List.nil_append] at v2 hrt2
  -- their fields
  rw [wp_ob]
  have hL2 : ∀ k, gL M2 k = gL M k := fun k => (e2.2.2.2.1 k).trans (e1.2.2.2.1 k)
  have hK2 : ∀ k, gT M2 k 2 = gT M k 2 := fun k => (e2.2.1 k 2 (by decide)).trans (e1.2.1 k 2 (by decide))
  refine wp_mono (follow_ok v2 (c := 0) (fun k hk => by rw [hL2]; exact hb0 k hk) (fun k hk => by rw [hK2]; exact hk0 k hk) ((e2.1 21 (by decide)).trans g21) (Nat.zero_le _) (fun i q hi => absurd hi (Nat.not_lt_zero i))) (fun M3 h => ?_)
  obtain ⟨V3, v3, e3, h213, sc3⟩ := h
  -- referents
  rw [wp_ob]
  have hL3 : ∀ k, gL M3 k = gL M k := fun k => (e3.2.2.2.1 k).trans (hL2 k)
  have hK3 : ∀ k, gT M3 k 2 = gT M k 2 := fun k => (e3.2.1 k 2 (by decide)).trans (hK2 k)
  refine wp_mono (dropM_ok v3 (fun k hk => by rw [hL3]; exact hb0 k hk) (fun k hk => by rw [hK3]; exact hk0 k hk)) (fun M4 h => ?_)
  obtain ⟨d4, v4⟩ := h
  have e13 : Eqx [4, 13, 16, 21, 22, 23] [3, 4, 5, 7, 11] [3, 6] M M3 := (e1.mono (by decide) (by decide) (by decide)).tr ((e2.mono (by decide) (by decide) (by decide)).tr (e3.mono (by decide) (by decide) (by decide)))
  have hK4 : ∀ k, gT M4 k 2 = gT M k 2 := fun k => (d4.1.2.1 k 2).trans (hK3 k)
  have hL4 : ∀ k, gL M4 k = gL M k := fun k => (d4.1.2.2.2.1 k).trans (hL3 k)
  have hQ4 : Qok n M4 Q := ⟨d4.1.row (e13.row hQ.1 (by decide) (by decide)), hQ.2.1, fun k hk => ⟨(hQ.2.2 k hk).1, by rw [hK4]; exact (hQ.2.2 k hk).2⟩⟩
  -- FINAL ones
  rw [wp_ob]
  have hraise : wp (f_Mi_raiseFinals n M4) (fun M' => ∃ V' R, Mv n M Y O G D ((V2 ++ V3) ++ V') M' ∧ MEq3 M4 M' ∧ Qok n M' (Q ++ R) ∧ (∀ k ∈ R, k ∈ (V2 ++ V3) ++ V') ∧ (∀ k, k < n → gT M' k 2 = gT M4 k 2 ∨ (gT M4 k 2 = 4 ∧ gT M' k 2 = 0)) ∧ gI M' 21 = gI M4 21) := by
    unfold f_Mi_raiseFinals
    rw [wp_ob]
    refine wp_mono (raiseM_loop fu M4 _ Q 0 v4 (fun k hk => by rw [hK4]; exact hk0 k hk) hQ4 (Nat.zero_le _) (by rw [hfu]; omega)) (fun M' h => ?_)
    rw [wp_some]; exact h
  refine wp_mono hraise (fun M5 h => ?_)
  obtain ⟨V5, R, v5, e5, hQ5, hR5, hK5, h215⟩ := h
  have hL5 : ∀ k, gL M5 k = gL M k := fun k => (e5.2.2.2.1 k).trans (hL4 k)
  have hKr : ∀ k, k < n → 0 ≤ gT M5 k 2 ∧ gT M5 k 2 ≤ 4 := fun k hk => by
    have := hk0 k hk
    rcases hK5 k hk with h | h
    · rw [h, hK4]; exact this
    · omega
  have hF5 : ∀ k j p, gF M5 k j = some p → gF M3 k j = some p := fun k j p h => d4.sub k j p (by rw [← e5.2.2.2.2.1 k j]; exact h)
  have hSn : ∀ k ∈ D ++ (V2 ++ V3), k < n := fun k hk => by
    rcases List.mem_append.mp hk with h | h
    · exact (v3.2.2.2.2.2.2.2.2.2.2.2.1 k h).1
    · exact (v3.2.2.2.2.2.2.2.1 k (v3.2.2.2.2.2.2.1 k h)).1
  -- fields again
  rw [wp_ob]
  have sc5 : ScM M5 (D ++ ((V2 ++ V3) ++ V5)) (D ++ (V2 ++ V3)).length Y ((V2 ++ V3) ++ V5) := fun i q hi hq => by
    rw [← List.append_assoc D, List.getElem?_append_left hi] at hq
    have hqn := hSn q (List.mem_of_getElem? hq)
    have hfm : fm (gT M5 q 2) = fm (gT M3 q 2) := fm_kind (by rw [hK3, ← hK4]; exact hK5 q hqn)
    rw [hfm]
    exact (sc3 i q hi hq).mono ((hL5 q).trans (hL3 q).symm) (fun j p hp => hF5 q j p hp) (fun k hk => List.mem_append_left _ hk)
  refine wp_mono (follow_ok v5 (c := (D ++ (V2 ++ V3)).length) (fun k hk => by rw [hL5]; exact hb0 k hk) hKr (h215.trans ((d4.1.1 21).trans h213)) (by rw [← List.append_assoc D, List.length_append]; omega) sc5) (fun M6 h => ?_)
  obtain ⟨V6, v6, e6, -, sc6⟩ := h
  generalize hVe : ((V2 ++ V3) ++ V5) ++ V6 = V at *
  have hVsub2 : ∀ k ∈ V2, k ∈ V := fun k hk => by rw [← hVe]; exact List.mem_append_left _ (List.mem_append_left _ (List.mem_append_left _ hk))
  have hVsub5 : ∀ k ∈ (V2 ++ V3) ++ V5, k ∈ V := fun k hk => by rw [← hVe]; exact List.mem_append_left _ hk
  have hK6 : ∀ k, k < n → gT M6 k 2 = gT M k 2 ∨ (gT M k 2 = 4 ∧ gT M6 k 2 = 0) := fun k hk => by
    rw [e6.2.1 k 2 (by decide), ← hK4 k]; exact hK5 k hk
  have hL6 : ∀ k, gL M6 k = gL M k := fun k => (e6.2.2.2.1 k).trans (hL5 k)
  -- referents again
  rw [wp_ob]
  refine wp_mono (dropM_ok v6 (fun k hk => by rw [hL6]; exact hb0 k hk) (fun k hk => by
    have := hk0 k hk
    rcases hK6 k hk with h | h <;> omega)) (fun M7 h => ?_)
  obtain ⟨d7, v7⟩ := h
  -- all of it so far, against the start
  have hI7 : ∀ j, j ∉ [4, 11, 13, 16, 21, 22, 23] → gI M7 j = gI M j := fun j hj => by
    rw [d7.1.1, e6.1 j (fun h => hj (by simp at h ⊢; omega)), e5.1 j (fun h => hj (by simp at h ⊢; omega)), d4.1.1, e13.1 j (fun h => hj (by simp at h ⊢; omega))]
  have hT7 : ∀ k f, f ∉ [2, 3, 4, 5, 7, 11] → gT M7 k f = gT M k f := fun k f hf => by
    rw [d7.1.2.1, e6.2.1 k f (fun h => hf (by simp at h ⊢; omega)), e5.2.1 k f (fun h => hf (by simp at h ⊢; omega)), d4.1.2.1, e13.2.1 k f (fun h => hf (by simp at h ⊢; omega))]
  have hR7 : ∀ r j, r ∉ [1, 3, 6] → gR M7 r j = gR M r j := fun r j hr => by
    rw [d7.1.2.2.1, e6.2.2.1 r j (fun h => hr (by simp at h ⊢; omega)), e5.2.2.1 r j (fun h => hr (by simp at h ⊢; omega)), d4.1.2.2.1, e13.2.2.1 r j (fun h => hr (by simp at h ⊢; omega))]
  have hL7 : ∀ k, gL M7 k = gL M k := fun k => (d7.1.2.2.2.1 k).trans (hL6 k)
  have hZ7 : ∀ j, gZ M7 j = gZ M j := fun j => (d7.1.2.2.2.2 j).trans ((e6.2.2.2.2.2 j).trans ((e5.2.2.2.2.2 j).trans ((d4.1.2.2.2.2 j).trans (e13.2.2.2.2.2 j))))
  have hF76 : ∀ k j p, gF M7 k j = some p → gF M6 k j = some p := d7.sub
  have hF7 : ∀ k j p, gF M7 k j = some p → gF M k j = some p := fun k j p h => by
    have h6 := hF76 k j p h
    rw [e6.2.2.2.2.1 k j] at h6
    have h3 := hF5 k j p h6
    rw [e13.2.2.2.2.1 k j] at h3; exact h3
  have hK7 : ∀ k, k < n → gT M7 k 2 = gT M k 2 ∨ (gT M k 2 = 4 ∧ gT M7 k 2 = 0) := fun k hk => by rw [d7.1.2.1]; exact hK6 k hk
  have hQ7 : Qok n M7 (Q ++ R) := ⟨d7.1.row (e6.row hQ5.1 (by decide) (by decide)), hQ5.2.1, fun k hk => ⟨(hQ5.2.2 k hk).1, by rw [d7.1.2.1, e6.2.1 k 2 (by decide)]; exact (hQ5.2.2 k hk).2⟩⟩
  have hpl7 := v7.pl
  obtain ⟨a1, a2, a3, a4, a5, a6, a7, a8, a9, b1, b2, b3, b4, b5, b6, b7, b8, b9, c1, c2, c3, c4, c5, c6, c7, c8, d1, d2, d3⟩ := id v7
  have hYn := nodup_le n Y dY (fun k hk => (a8 k hk).1)
  have hSn7 : ∀ k ∈ D ++ V, k < n := fun k hk => by
    rcases List.mem_append.mp hk with h | h
    · exact (b3 k h).1
    · exact (a8 k (a7 k h)).1
  have hSl7 := nodup_le n _ a6 hSn7
  -- the HALF
  rw [wp_ob]
  have hleave : wp (f_Mi_leaveHalf n M7) (fun x => ∃ M8 M9, LvP M7 Y V M8 ∧ Eqx [12] [] [2] M8 M9 ∧ cRf n M9 ∧ Row M9 2 ((D ++ V).filter (isP M8 1)) ∧ x.1 = sI (sI M9 2 (gI M9 22)) 3 (gI (sI M9 2 (gI M9 22)) 23) ∧ x.2 = (Y.filter (fun k => decide (k ∉ V))).length) := by
    have hY7 : Row M7 2 Y := ⟨(hI7 12 (by decide)).trans pY.1, fun j hj => (hR7 2 j (by decide)).trans (pY.2 j hj)⟩
    unfold f_Mi_leaveHalf
    rw [wp_ob]
    refine wp_mono (leave_loop (V := V) Y fu M7 [] 0 (by rw [hfu]; omega) hY7 (by rw [List.nil_append]; omega) (fun k hk => (a8 k hk).1) dY (fun k hk => by rw [hL7]; exact (hb0 k hk).2) hpl7 (fun k hk => by rw [b5 k hk]; split; exact Or.inr rfl; exact Or.inl rfl) (fun k hk => (v7.lft (a8 k hk).1).trans ⟨fun h => h.2, fun h => ⟨hk, h⟩⟩)) (fun x h => ?_)
    obtain ⟨hlv, hg⟩ := h
    have hp8 : ∀ k, k < n → 0 ≤ gT x.1 k 3 ∧ gT x.1 k 3 ≤ 3 := fun k hk => by
      by_cases h : k ∈ Y ∧ k ∉ V
      · rw [((hlv.2 k).1 h).1]; decide
      · rw [((hlv.2 k).2.1 h).1]; exact hpl7 k hk
    have hc8 : cRf n x.1 := ⟨fun r j k hk => a3.1 r j k (by rw [← hlv.1.2.2.1 r j]; exact hk), fun k j q hq => a3.2 k j q ((hlv.2 k).2.2 j q hq)⟩
    have hE8 : Eqx [12] [] [2] x.1 (sI x.1 (10 + 2) 0) := ⟨fun j hj => by rw [gI_sI, if_neg (fun h => hj (by rw [h]; decide))], fun _ _ _ => rfl, fun _ _ _ => rfl, fun _ => rfl, fun _ _ => rfl, fun _ => rfl⟩
    have hR8 : Row x.1 6 (D ++ V) := ⟨(hlv.1.1 _).trans a5.1, fun j hj => (hlv.1.2.2.1 6 j).trans (a5.2 j hj)⟩
    unfold f_Row_clear
    rw [wp_ob, wp_some, wp_ob]
    refine wp_mono (young_loop (S := D ++ V) (by omega) hSn7 fu (sI x.1 (10 + 2) 0) [] 0 (hE8.row hR8 (by decide) (by decide)) (row_nil (by rw [gI_sI, if_pos rfl])) (by simp; omega) hc8 hp8 (Nat.zero_le _) (by rw [hfu]; omega)) (fun M9 h => ?_)
    rw [wp_some]
    refine ⟨x.1, M9, hlv, hE8.tr h.1, h.2.1, ?_, rfl, by rw [hg]; omega⟩
    have := h.2.2
    rw [List.nil_append, List.drop_zero] at this; exact this
  refine wp_mono hleave (fun x h => ?_)
  obtain ⟨M8, M9, hlv, e9, hc9, hY9, hx1, hx2⟩ := h
  sorry
