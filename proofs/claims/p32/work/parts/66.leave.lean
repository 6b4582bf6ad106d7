/-! LAYER 2: a MINOR raises FINAL ones, and leaves the HALF. -/
abbrev MEq3 (M M' : cSt) : Prop := Eqx [4, 11, 13, 16, 21, 23] [2, 3, 4, 5, 7, 11] [1, 3, 6] M M'
theorem Mv.kind {n : Nat} {M0 M M' : cSt} {Y O G D V : List Nat} (h : Mv n M0 Y O G D V M) (hI : ∀ j, j ≠ 11 → gI M' j = gI M j) (hT : ∀ k f, f ≠ 2 → gT M' k f = gT M k f) (hR : ∀ r j, r ≠ 1 → gR M' r j = gR M r j) (hc : cRf n M') : Mv n M0 Y O G D V M' := by
  obtain ⟨a1, a2, a3, a4, a5, a6, a7, a8, a9, b1, b2, b3, b4, b5, b6, b7, b8, b9, c1, c2, c3, c4, c5, c6, c7, c8, d1, d2, d3⟩ := h
  have hP : ∀ p : Int, isP M' p = isP M p := fun p => by funext k; unfold isP; rw [hT k 3 (by decide)]
  have hrow : ∀ r l, r ≠ 1 → Row M r l → Row M' r l := fun r l hr hl => ⟨(hI _ (by omega)).trans hl.1, fun j hj => (hR r j hr).trans (hl.2 j hj)⟩
  refine ⟨a1, hrow 0 _ (by decide) a2, hc, fun k hk => by rw [hT k 4 (by decide), hT k 5 (by decide), hT k 6 (by decide), hT k 9 (by decide)]; exact a4 k hk, hrow 6 _ (by decide) a5, a6, a7, a8, a9, b1, b2, b3, b4, fun k hk => by rw [hT k 11 (by decide)]; exact b5 k hk, fun k hk => by rw [hT k 3 (by decide), hT k 4 (by decide), hT k 5 (by decide), hT k 7 (by decide)]; exact b6 k hk, fun k hk => by rw [hT k 3 (by decide), hT k 7 (by decide), hT k 5 (by decide), hT k 6 (by decide)]; exact b7 k hk, by rw [hP]; exact hrow 3 _ (by decide) b8, by rw [hP, hI 4 (by decide)]; exact b9.eq (fun k _ => ⟨hT k 4 (by decide), hT k 5 (by decide)⟩), by rw [hP, hI 22 (by decide), hI 23 (by decide)]; exact c1.eq (fun k _ => ⟨hT k 4 (by decide), hT k 5 (by decide)⟩), ?_⟩
  rw [hI 22 (by decide), hI 23 (by decide), hI 4 (by decide), hI 5 (by decide), hI 20 (by decide), sbs_eq (fun k _ => hT k 6 (by decide))]
  exact ⟨c2, c3, c4, c5, c6, c7, c8, d1, d2, d3⟩
theorem raiseM_loop {n : Nat} {M0 : cSt} {Y O G D : List Nat} : ∀ (u : Nat) (M : cSt) (V Q : List Nat) (v : Nat), Mv n M0 Y O G D V M → (∀ k, k < n → 0 ≤ gT M k 2 ∧ gT M k 2 ≤ 4) → Qok n M Q → v ≤ n → n - v < u →
    wp (g_Mi_raiseFinals_2 n u M (v : Int)) (fun M' => ∃ V' R, Mv n M0 Y O G D (V ++ V') M' ∧ MEq3 M M' ∧ Qok n M' (Q ++ R) ∧ (∀ k ∈ R, k ∈ V ++ V') ∧ (∀ k, k < n → gT M' k 2 = gT M k 2 ∨ (gT M k 2 = 4 ∧ gT M' k 2 = 0)) ∧ gI M' 21 = gI M 21) := by
  intro u
  induction u with
  | zero => intro M V Q v _ _ _ _ h; omega
  | succ u ih =>
    intro M V Q v h hk hQ hv hu
    have hn := h.1
    have hc := h.2.2.1
    have hpl := h.pl
    have h11 : ∀ k, k < n → gT M k 11 = 0 ∨ gT M k 11 = 1 := fun k hk => by
      have := h.2.2.2.2.2.2.2.2.2.2.2.2.2.1 k hk
      rw [this]; split; exact Or.inr rfl; exact Or.inl rfl
    show wp (s_Mi_raiseFinals_2 (g_Mi_raiseFinals_2 n u) n M (v : Int)) _
    unfold s_Mi_raiseFinals_2
    rw [wp_ob]
    refine wp_of (size_ok h.2.1) ?_
    rw [List.length_range, wp_og, wp_og, wp_ite]
    refine ⟨⟨by omega, by omega⟩, ⟨by omega, by omega⟩, fun hlt => ?_, fun hge => ?_⟩
    · rw [wp_ob]
      refine wp_of (item_ok h.2.1 (by rw [List.length_range]; omega) ⟨by omega, by omega⟩) ?_
      rw [if_pos (by omega), show (v : Int).toNat = v by omega, List.getElem?_range (by omega), wp_on]
      refine ⟨fun e => (by cases e), fun q e => ?_⟩
      cases e
      have hvn : v < n := by omega
      have hkv := hk v hvn
      have hpv := hpl v hvn
      have skip := ih M V Q (v + 1) h hk hQ (by omega) (by omega)
      rw [wp_og, wp_og, wp_ite]
      refine ⟨hvn, ⟨by omega, by omega⟩, fun h4 => ?_, fun _ => skip⟩
      rw [wp_ob]
      refine wp_mono (isLeft_ok hvn ⟨by omega, by omega⟩ (h11 v hvn)) (fun x hx => ?_)
      obtain ⟨hx01, hxi⟩ := hx
      rw [wp_og, wp_ite]
      refine ⟨by rcases hx01 with h | h <;> rw [h] <;> exact ⟨by decide, by decide⟩, fun _ => skip, fun hx0 => ?_⟩
      obtain ⟨hvY, hvV⟩ := (h.lft hvn).mp (hxi.mp hx0)
      have hnQ : v ∉ Q := fun h9 => by have := (hQ.2.2 v h9).2; omega
      have hQl : Q.length ≤ n := nodup_le n Q hQ.2.1 (fun k hk => (hQ.2.2 k hk).1)
      have hQr : Row (sT M v 2 0) 1 Q := ⟨hQ.1.1, hQ.1.2⟩
      rw [wp_ob]
      refine wp_of (add_ok hQr (by omega) hvn) ?_
      have hE := eqx_addR (sT M v 2 0) 1 v
      have hk0 : ∀ k f, gT (addR (sT M v 2 0) 1 v) k f = if k = v ∧ f = 2 then 0 else gT M k f := fun k f => by rw [hE.2.1 k f List.not_mem_nil, gT_sT]
      have hM1 : Mv n M0 Y O G D V (addR (sT M v 2 0) 1 v) := h.kind (fun j hj => hE.1 j (by simp; exact hj)) (fun k f hf => by rw [hk0, if_neg (fun h => hf h.2)]) (fun r j hr => hE.2.2.1 r j (by simp; exact hr)) (cRf_addR (M := sT M v 2 0) hc hvn)
      rw [wp_ob]
      refine wp_mono (move_ok hM1 (fun k hk => by cases hk; exact hvn)) (fun M2 h9 => ?_)
      obtain ⟨V1, hM2, he2, -, hb2⟩ := h9
      have hk2 : ∀ k, gT M2 k 2 = if k = v then 0 else gT M k 2 := fun k => by
        rw [he2.2.1 k 2 (by decide), hk0]
        by_cases hkv9 : k = v
        · rw [if_pos ⟨hkv9, rfl⟩, if_pos hkv9]
        · rw [if_neg (fun h => hkv9 h.1), if_neg hkv9]
      have hQ2 : Qok n M2 (Q ++ [v]) := by
        refine ⟨he2.row (row_addR hQr) (by decide) (by decide), ?_, fun k hk9 => ?_⟩
        · rw [List.nodup_append]
          exact ⟨hQ.2.1, List.nodup_cons.mpr ⟨List.not_mem_nil, List.nodup_nil⟩, fun a ha b hb e9 => by
            rw [List.mem_singleton] at hb; subst hb; subst e9; exact hnQ ha⟩
        · rcases List.mem_append.mp hk9 with hk9 | hk9
          · refine ⟨(hQ.2.2 k hk9).1, ?_⟩
            rw [hk2 k]; split
            · rfl
            · exact (hQ.2.2 k hk9).2
          · rw [List.mem_singleton] at hk9; subst hk9
            exact ⟨hvn, by rw [hk2, if_pos rfl]⟩
      have heM : MEq3 M M2 := by
        have h1 : MEq3 M (sT M v 2 0) := ⟨fun _ _ => rfl, fun k f hf => by rw [gT_sT, if_neg (fun h9 => hf (by rw [h9.2]; decide))], fun _ _ _ => rfl, fun _ => rfl, fun _ _ => rfl, fun _ => rfl⟩
        exact h1.tr ((hE.mono (by decide) (by decide) (by decide)).tr (he2.mono (by decide) (by decide) (by decide)))
      have h21 : gI M2 21 = gI M 21 := (he2.1 21 (by decide)).trans (hE.1 21 (by decide))
      refine wp_mono (ih M2 (V ++ V1) (Q ++ [v]) (v + 1) hM2 (fun k hk9 => by
        rw [hk2 k]; split
        · omega
        · exact hk k hk9) hQ2 (by omega) (by omega)) (fun M3 h9 => ?_)
      obtain ⟨V2, R, hM3, he3, hQ3, hR3, hk3, h213⟩ := h9
      refine ⟨V1 ++ V2, v :: R, by rw [← List.append_assoc]; exact hM3, heM.tr he3, by rw [List.append_assoc] at hQ3; exact hQ3, fun k hk9 => ?_, fun k hk9 => ?_, h213.trans h21⟩
      · rw [← List.append_assoc]
        rcases List.mem_cons.mp hk9 with e | hk9
        · rw [e]; exact List.mem_append_left _ (hb2 v rfl hvY)
        · exact hR3 k hk9
      · have h3 := hk3 k hk9
        rw [hk2 k] at h3
        by_cases hkv9 : k = v
        · subst hkv9
          rw [if_pos rfl] at h3
          refine Or.inr ⟨h4, ?_⟩
          rcases h3 with h3 | h3
          · exact h3
          · exact h3.2
        · rw [if_neg hkv9] at h3; exact h3
    · rw [wp_some]
      exact ⟨[], [], by rw [List.append_nil]; exact h, Eqx.rf _ _ _ _, by rw [List.append_nil]; exact hQ, fun k hk9 => absurd hk9 List.not_mem_nil, fun k _ => Or.inl rfl, rfl⟩
