/-! LAYER 2: begin, roots, cut pairs, what would be freed. -/
/-- what tracing wants of a state before it begins -/
def TB (n : Nat) (M : cSt) : Prop := n ≤ 199 ∧ Row M 0 (List.range n) ∧ cRf n M ∧ (∀ k, k < n → 2 ≤ gL M k ∧ gL M k ≤ 20) ∧ (∀ k, k < n → 0 ≤ gT M k 2 ∧ gT M k 2 ≤ 4) ∧ (1 ≤ gI M 1 ∧ gI M 1 ≤ 8) ∧ (0 ≤ gI M 11 ∧ gI M 11 ≤ 200) ∧ (∀ k, k < n → gT M k 9 = 0 ∨ gT M k 9 = 1) ∧ (∀ k, k < n → 0 ≤ gT M k 3 ∧ gT M k 3 ≤ 3) ∧ ∀ k, k < n → 0 ≤ gT M k 5 ∧ gT M k 5 ≤ 30
/-- the scratch of tracing -/
abbrev TEq (M M' : cSt) : Prop := Eqx [15, 18, 19] [12, 13] [5, 9] M M'
theorem TB.eqx {n : Nat} {M M' : cSt} (h : TB n M) (he : TEq M M') (h5 : ∀ r j k, gR M' r j = some k → k < n) : TB n M' := by
  obtain ⟨a, b, c, d, e, f, g, i, j, l⟩ := h
  refine ⟨a, he.row b (by decide) (by decide), ⟨fun r j k hk => h5 r j k hk, fun k j q hq => c.2 k j q (by rw [← he.2.2.2.2.1 k j]; exact hq)⟩, fun k hk => by rw [he.2.2.2.1]; exact d k hk, fun k hk => by rw [he.2.1 k 2 (by decide)]; exact e k hk, by rw [he.1 1 (by decide)]; exact f, by rw [he.1 11 (by decide)]; exact g, fun k hk => by rw [he.2.1 k 9 (by decide)]; exact i k hk, fun k hk => by rw [he.2.1 k 3 (by decide)]; exact j k hk, fun k hk => by rw [he.2.1 k 5 (by decide)]; exact l k hk⟩
theorem TC.refs {n : Nat} {M : cSt} (h : TC n M) : ∀ r j k, gR M r j = some k → k < n := h.2.2.1.1
theorem begin_loop {n : Nat} : ∀ (u : Nat) (M : cSt) (v : Nat), n ≤ 199 → Row M 0 (List.range n) → v ≤ n → n - v < u →
    wp (g_Tr_begin_24 n u M (v : Int)) (fun M' => Eqx [] [12, 13] [] M M' ∧ (∀ k, k < n → v ≤ k → gT M' k 12 = 0 ∧ gT M' k 13 = 0) ∧ ∀ k, k < v → gT M' k 12 = gT M k 12 ∧ gT M' k 13 = gT M k 13) := by
  intro u
  induction u with
  | zero => intro M v _ _ _ h; omega
  | succ u ih =>
    intro M v hn hR hv hu
    show wp (s_Tr_begin_24 (g_Tr_begin_24 n u) n M (v : Int)) _
    unfold s_Tr_begin_24
    rw [wp_ob]
    refine wp_of (size_ok hR) ?_
    rw [List.length_range, wp_og, wp_og, wp_ite]
    refine ⟨⟨by omega, by omega⟩, ⟨by omega, by omega⟩, fun hlt => ?_, fun hge => ?_⟩
    · rw [wp_ob]
      refine wp_of (item_ok hR (by rw [List.length_range]; omega) ⟨by omega, by omega⟩) ?_
      rw [if_pos (by omega), show (v : Int).toNat = v by omega, List.getElem?_range (by omega), wp_on]
      refine ⟨fun e => (by cases e), fun q e => ?_⟩
      cases e
      rw [wp_og]
      refine ⟨by omega, ?_⟩
      refine wp_mono (ih (sT (sT M v 12 0) v 13 0) (v + 1) hn ⟨hR.1, hR.2⟩ (by omega) (by omega)) (fun M1 h => ?_)
      obtain ⟨he, h1, h2⟩ := h
      have he0 : Eqx [] [12, 13] [] M (sT (sT M v 12 0) v 13 0) := ⟨fun _ _ => rfl, fun k f hf => by
        rw [gT_sT, if_neg (fun h9 => hf (by rw [h9.2]; decide)), gT_sT, if_neg (fun h9 => hf (by rw [h9.2]; decide))], fun _ _ _ => rfl, fun _ => rfl, fun _ _ => rfl, fun _ => rfl⟩
      refine ⟨he0.tr he, fun k hk hvk => ?_, fun k hk => ?_⟩
      · by_cases hkv : k = v
        · subst hkv
          have := h2 k (by omega)
          rw [this.1, this.2, gT_sT, if_neg (fun h9 => absurd h9.2 (by decide)), gT_sT, if_pos ⟨rfl, rfl⟩, gT_sT, if_pos ⟨rfl, rfl⟩]
          exact ⟨rfl, rfl⟩
        · exact h1 k hk (by omega)
      · have := h2 k (by omega)
        rw [this.1, this.2, gT_sT, if_neg (fun h9 => absurd h9.2 (by decide)), gT_sT, if_neg (fun h9 => absurd h9.1 (by omega)), gT_sT, if_neg (fun h9 => absurd h9.1 (by omega)), gT_sT, if_neg (fun h9 => absurd h9.2 (by decide))]
        exact ⟨rfl, rfl⟩
    · rw [wp_some]
      exact ⟨Eqx.rf _ _ _ _, fun k hk hvk => by omega, fun _ _ => ⟨rfl, rfl⟩⟩
theorem begin_ok {n : Nat} {M : cSt} (hB : TB n M) {s : Int} {h : Option Nat} (hs : s = 0 ∨ s = 1) (hh : ∀ k, h = some k → k < n) :
    wp (f_Tr_begin n M s h) (fun M' => TC n M' ∧ TB n M' ∧ TEq M M' ∧ Mkd n M' [] ∧ gI M' 18 = 0 ∧ gI M' 19 = s ∧ gR M' 9 0 = h ∧ ∀ k, k < n → gT M' k 13 = 0) := by
  have hfu : fu = 500 := rfl
  have hn := hB.1
  unfold f_Tr_begin f_Row_clear
  rw [wp_og]
  refine ⟨hs, ?_⟩
  rw [wp_ob, wp_some, wp_ob]
  refine wp_mono (begin_loop fu (sI (sI (sR (sI M 19 s) 9 0 h) (10 + 5) 0) 18 0) 0 hn ⟨hB.2.1.1, fun j hj => by rw [gR_sI, gR_sI, gR_sR, if_neg (fun h9 => absurd h9.1 (by decide)), gR_sI]; exact hB.2.1.2 j hj⟩ (Nat.zero_le _) (by rw [hfu]; omega)) (fun M1 h9 => ?_)
  obtain ⟨he, h1, -⟩ := h9
  rw [wp_some]
  have he0 : TEq M (sI (sI (sR (sI M 19 s) 9 0 h) (10 + 5) 0) 18 0) := ⟨fun j hj => by
    rw [gI_sI, if_neg (fun h9 => hj (by rw [h9]; decide)), gI_sI, if_neg (fun h9 => hj (by rw [h9]; decide)), gI_sR, gI_sI, if_neg (fun h9 => hj (by rw [h9]; decide))], fun _ _ _ => rfl, fun r j hr => by
    rw [gR_sI, gR_sI, gR_sR, if_neg (fun h9 => hr (by rw [h9.1]; decide)), gR_sI], fun _ => rfl, fun _ _ => rfl, fun _ => rfl⟩
  have he1 : TEq M M1 := he0.tr (he.mono (by decide) (by decide) (by decide))
  have hR9 : gR M1 9 0 = h := by rw [he.2.2.1 9 0 (by decide), gR_sI, gR_sI, gR_sR, if_pos ⟨rfl, rfl⟩]
  have hrefs : ∀ r j k, gR M1 r j = some k → k < n := fun r j k hk => by
    rw [he.2.2.1 r j List.not_mem_nil, gR_sI, gR_sI, gR_sR] at hk
    by_cases h9 : r = 9 ∧ j = 0
    · rw [if_pos h9] at hk; exact hh k hk
    · rw [if_neg h9, gR_sI] at hk; exact hB.2.2.1.1 r j k hk
  have hB1 := hB.eqx he1 hrefs
  have h19 : gI M1 19 = s := by rw [he.1 19 (by decide), gI_sI, if_neg (by decide), gI_sI, if_neg (by decide), gI_sR, gI_sI, if_pos rfl]
  have h18 : gI M1 18 = 0 := by rw [he.1 18 (by decide), gI_sI, if_pos rfl]
  have h15 : gI M1 (10 + 5) = 0 := by rw [he.1 (10 + 5) (by decide), gI_sI, if_neg (by decide), gI_sI, if_pos rfl]
  refine ⟨⟨hB1.1, hB1.2.1, hB1.2.2.1, hB1.2.2.2.1, hB1.2.2.2.2.1, by rw [h19]; exact hs, fun k hk => Or.inl (h1 k hk (Nat.zero_le _)).2⟩, hB1, he1, ⟨row_nil h15, List.nodup_nil, fun k hk => absurd hk List.not_mem_nil, fun k hk => by rw [if_neg List.not_mem_nil]; exact (h1 k hk (Nat.zero_le _)).1⟩, h18, h19, hR9, fun k hk => (h1 k hk (Nat.zero_le _)).2⟩
/-- the roots -/
def IsRt (M : cSt) (n k : Nat) : Prop := (∃ j : Nat, (j : Int) < gI M 1 * 4 ∧ gR M 7 j = some k) ∨ (∃ j : Nat, j < 4 ∧ gR M 8 j = some k) ∨ (∃ j : Nat, (j : Int) < gI M 11 ∧ gR M 1 j = some k) ∨ (k < n ∧ gT M k 9 ≠ 0)
theorem IsRt.eqx {M M' : cSt} {n k : Nat} (he : TEq M M') : IsRt M' n k ↔ IsRt M n k := by
  unfold IsRt
  rw [he.1 1 (by decide), he.1 11 (by decide), he.2.1 k 9 (by decide)]
  simp only [he.2.2.1 7 _ (show (7 : Nat) ∉ [5, 9] by decide), he.2.2.1 8 _ (show (8 : Nat) ∉ [5, 9] by decide), he.2.2.1 1 _ (show (1 : Nat) ∉ [5, 9] by decide)]
/-- the root at an index -/
def rtAt (M : cSt) (i : Nat) : Option Nat := if (i : Int) < gI M 1 * 4 then gR M 7 i else if (i : Int) - gI M 1 * 4 < 4 then gR M 8 ((i : Int) - gI M 1 * 4).toNat else gR M 1 ((i : Int) - gI M 1 * 4 - 4).toNat
theorem root_ok {n : Nat} {M : cSt} (h1 : 1 ≤ gI M 1 ∧ gI M 1 ≤ 8) (h2 : 0 ≤ gI M 11 ∧ gI M 11 ≤ 200) {i : Nat} (hi : (i : Int) < gI M 1 * 4 + 4 + gI M 11) : f_Ro_root n M (i : Int) = some (rtAt M i) := by
  have e101 : gI M (10 + 1) = gI M 11 := rfl
  refine wp_eq ?_
  unfold f_Ro_root f_Ro_readGlobal f_Row_item rtAt
  simp only [wp_og, wp_ite, wp_some, wp_ob]
  refine ⟨⟨by omega, by omega⟩, ⟨by omega, by omega⟩, fun h => ⟨fun _ => by omega, fun _ => ⟨fun _ => ⟨⟨by omega, by omega⟩, ?_⟩, fun _ => by omega⟩⟩, fun h => ⟨⟨by omega, by omega⟩, fun h3 => ⟨⟨by omega, by omega⟩, fun _ => by omega, fun _ => ⟨fun _ => ⟨⟨by omega, by omega⟩, ?_⟩, fun _ => by omega⟩⟩, fun h3 => ⟨⟨by omega, by omega⟩, fun _ => by omega, fun _ => ⟨⟨by omega, by omega⟩, fun _ => ⟨fun _ => ⟨⟨by omega, by omega⟩, ?_⟩, fun _ => by omega⟩, fun h9 => absurd (show (i : Int) - gI M 1 * 4 - 4 < gI M 11 by omega) h9⟩⟩⟩⟩
  · rw [if_pos h]; rfl
  · rw [if_neg h, if_pos h3]
  · rw [if_neg h, if_neg h3]
theorem rtAt_iff {M : cSt} {n k : Nat} (h1 : 1 ≤ gI M 1) (h2 : 0 ≤ gI M 11) : (∃ i : Nat, (i : Int) < gI M 1 * 4 + 4 + gI M 11 ∧ rtAt M i = some k) ∨ (k < n ∧ gT M k 9 ≠ 0) ↔ IsRt M n k := by
  unfold IsRt rtAt
  constructor
  · rintro (⟨i, hi, h⟩ | h)
    · split at h
      · exact Or.inl ⟨i, by assumption, h⟩
      · split at h
        · exact Or.inr (Or.inl ⟨_, by omega, h⟩)
        · exact Or.inr (Or.inr (Or.inl ⟨_, by omega, h⟩))
    · exact Or.inr (Or.inr (Or.inr h))
  · rintro (⟨j, hj, h⟩ | ⟨j, hj, h⟩ | ⟨j, hj, h⟩ | h)
    · exact Or.inl ⟨j, by omega, by rw [if_pos hj]; exact h⟩
    · refine Or.inl ⟨(gI M 1 * 4).toNat + j, by omega, ?_⟩
      rw [if_neg (by omega), if_pos (by omega)]
      rw [show ((((gI M 1 * 4).toNat + j : Nat) : Int) - gI M 1 * 4).toNat = j by omega]; exact h
    · refine Or.inl ⟨(gI M 1 * 4).toNat + 4 + j, by omega, ?_⟩
      rw [if_neg (by omega), if_neg (by omega)]
      rw [show ((((gI M 1 * 4).toNat + 4 + j : Nat) : Int) - gI M 1 * 4 - 4).toNat = j by omega]; exact h
    · exact Or.inr h
/-- both kinds of tracing's states, while things are marked -/
theorem e15T {M M' : cSt} (h : Eqx [15] [12] [5] M M') : TEq M M' := h.mono (by decide) (by decide) (by decide)
theorem e18T {M M' : cSt} (h : Eqx [15, 18] [12] [5] M M') : TEq M M' := h.mono (by decide) (by decide) (by decide)
theorem roots_loop {n : Nat} : ∀ (u : Nat) (M : cSt) (L : List Nat) (v : Nat), TC n M → TB n M → Mkd n M L → (v : Int) ≤ gI M 1 * 4 + 4 + gI M 11 → gI M 1 * 4 + 4 + gI M 11 - v < u →
    wp (g_Tr_markRoots_2 n u M (v : Int)) (fun M' => TC n M' ∧ TB n M' ∧ Eqx [15] [12] [5] M M' ∧ ∃ L', Mkd n M' (L ++ L') ∧ (∀ k ∈ L', IsRt M n k) ∧ ∀ (i k : Nat), v ≤ i → (i : Int) < gI M 1 * 4 + 4 + gI M 11 → rtAt M i = some k → k ∈ L ++ L') := by
  intro u
  induction u with
  | zero => intro M L v _ _ _ h h2; omega
  | succ u ih =>
    intro M L v hT hB hM hv hu
    have hn := hT.1
    obtain ⟨-, -, -, -, -, hf, hq, -⟩ := id hB
    have e101 : gI M (10 + 1) = gI M 11 := rfl
    show wp (s_Tr_markRoots_2 (g_Tr_markRoots_2 n u) n M (v : Int)) _
    unfold s_Tr_markRoots_2 f_Ro_count f_Row_size
    rw [wp_ob, wp_ob, wp_some, wp_some, wp_og, wp_og, wp_ite]
    refine ⟨⟨by omega, by omega⟩, ⟨by omega, by omega⟩, fun hlt => ?_, fun hge => ?_⟩
    · rw [wp_ob]
      refine wp_of (root_ok hf hq hlt) ?_
      rw [wp_ob]
      have hroot : ∀ k, rtAt M v = some k → IsRt M n k := fun k hk => (rtAt_iff hf.1 hq.1).mp (Or.inl ⟨v, hlt, hk⟩)
      refine wp_mono (mark_ok hT hM (fun k hk => by
        rcases hroot k hk with ⟨j, -, h⟩ | ⟨j, -, h⟩ | ⟨j, -, h⟩ | h
        · exact hT.refs _ _ _ h
        · exact hT.refs _ _ _ h
        · exact hT.refs _ _ _ h
        · exact h.1)) (fun M1 h => ?_)
      obtain ⟨hT1, he1, L1, hM1, ha1, hb1⟩ := h
      have hB1 := hB.eqx (e15T he1) hT1.refs
      have e1 : gI M1 1 = gI M 1 := he1.1 1 (by decide)
      have e11 : gI M1 11 = gI M 11 := he1.1 11 (by decide)
      refine wp_mono (ih M1 (L ++ L1) (v + 1) hT1 hB1 hM1 (by rw [e1, e11]; omega) (by rw [e1, e11]; omega)) (fun M2 h => ?_)
      obtain ⟨hT2, hB2, he2, L2, hM2, ha2, hb2⟩ := h
      refine ⟨hT2, hB2, he1.tr he2, L1 ++ L2, ?_⟩
      rw [← List.append_assoc]
      refine ⟨hM2, fun k hk => ?_, fun i k hi hi2 hk => ?_⟩
      · rcases List.mem_append.mp hk with hk | hk
        · exact hroot k (ha1 k hk)
        · exact (IsRt.eqx (e15T he1)).mp (ha2 k hk)
      · by_cases hiv : i = v
        · subst hiv; exact List.mem_append_left _ (hb1 k hk)
        · refine hb2 i k (by omega) (by rw [e1, e11]; exact hi2) ?_
          unfold rtAt at hk ⊢
          rw [e1, he1.2.2.1 7 _ (by decide), he1.2.2.1 8 _ (by decide), he1.2.2.1 1 _ (by decide)]; exact hk
    · rw [wp_some]
      refine ⟨hT, hB, Eqx.rf _ _ _ _, [], ?_⟩
      rw [List.append_nil]
      exact ⟨hM, fun k hk => absurd hk List.not_mem_nil, fun i k hi hi2 => by omega⟩
theorem pins_loop {n : Nat} : ∀ (u : Nat) (M : cSt) (L : List Nat) (v : Nat), TC n M → TB n M → Mkd n M L → v ≤ n → n - v < u →
    wp (g_Tr_markRoots_33 n u M (v : Int)) (fun M' => TC n M' ∧ TB n M' ∧ Eqx [15] [12] [5] M M' ∧ ∃ L', Mkd n M' (L ++ L') ∧ (∀ k ∈ L', IsRt M n k) ∧ ∀ k, v ≤ k → k < n → gT M k 9 ≠ 0 → k ∈ L ++ L') := by
  intro u
  induction u with
  | zero => intro M L v _ _ _ h h2; omega
  | succ u ih =>
    intro M L v hT hB hM hv hu
    have hn := hT.1
    show wp (s_Tr_markRoots_33 (g_Tr_markRoots_33 n u) n M (v : Int)) _
    unfold s_Tr_markRoots_33
    rw [wp_ob]
    refine wp_of (all_size hT) ?_
    rw [wp_og, wp_og, wp_ite]
    refine ⟨⟨by omega, by omega⟩, ⟨by omega, by omega⟩, fun hlt => ?_, fun hge => ?_⟩
    · rw [wp_ob]
      refine wp_of (all_item hT (by omega) (by omega)) ?_
      rw [show (v : Int).toNat = v by omega, wp_on]
      refine ⟨fun e => (by cases e), fun q e => ?_⟩
      cases e
      have h9 := hB.2.2.2.2.2.2.2.1 v (by omega)
      rw [wp_og, wp_og, wp_ite]
      refine ⟨by omega, by rcases h9 with h | h <;> rw [h] <;> exact ⟨by decide, by decide⟩, fun h0 => ?_, fun h0 => ?_⟩
      · refine wp_mono (ih M L (v + 1) hT hB hM (by omega) (by omega)) (fun M2 h => ?_)
        obtain ⟨hT2, hB2, he2, L2, hM2, ha2, hb2⟩ := h
        refine ⟨hT2, hB2, he2, L2, hM2, ha2, fun k hk hkn h8 => ?_⟩
        by_cases hkv : k = v
        · subst hkv; exact absurd h0 h8
        · exact hb2 k (by omega) hkn h8
      · rw [wp_ob]
        refine wp_mono (mark_ok hT hM (fun k hk => by cases hk; omega)) (fun M1 h => ?_)
        obtain ⟨hT1, he1, L1, hM1, ha1, hb1⟩ := h
        have hB1 := hB.eqx (e15T he1) hT1.refs
        refine wp_mono (ih M1 (L ++ L1) (v + 1) hT1 hB1 hM1 (by omega) (by omega)) (fun M2 h => ?_)
        obtain ⟨hT2, hB2, he2, L2, hM2, ha2, hb2⟩ := h
        refine ⟨hT2, hB2, he1.tr he2, L1 ++ L2, ?_⟩
        rw [← List.append_assoc]
        refine ⟨hM2, fun k hk => ?_, fun k hk hkn h8 => ?_⟩
        · rcases List.mem_append.mp hk with hk | hk
          · have := ha1 k hk
            cases this
            exact Or.inr (Or.inr (Or.inr ⟨by omega, h0⟩))
          · exact (IsRt.eqx (e15T he1)).mp (ha2 k hk)
        · by_cases hkv : k = v
          · subst hkv; exact List.mem_append_left _ (hb1 k rfl)
          · exact hb2 k (by omega) hkn (by rw [he1.2.1 k 9 (by decide)]; exact h8)
    · rw [wp_some]
      refine ⟨hT, hB, Eqx.rf _ _ _ _, [], ?_⟩
      rw [List.append_nil]
      exact ⟨hM, fun k hk => absurd hk List.not_mem_nil, fun k hk hkn => by omega⟩
theorem markRoots_ok {n : Nat} {M : cSt} (hT : TC n M) (hB : TB n M) (hM : Mkd n M []) :
    wp (f_Tr_markRoots n M) (fun M' => TC n M' ∧ TB n M' ∧ Eqx [15] [12] [5] M M' ∧ ∃ L, Mkd n M' L ∧ ∀ k, k ∈ L ↔ IsRt M n k) := by
  have hfu : fu = 500 := rfl
  have hn := hT.1
  obtain ⟨-, -, -, -, -, hf, hq, -⟩ := id hB
  unfold f_Tr_markRoots
  rw [wp_ob]
  refine wp_mono (roots_loop fu M [] 0 hT hB hM (by omega) (by rw [hfu]; omega)) (fun M1 h => ?_)
  obtain ⟨hT1, hB1, he1, L1, hM1, ha1, hb1⟩ := h
  rw [wp_ob]
  refine wp_mono (pins_loop fu M1 _ 0 hT1 hB1 hM1 (Nat.zero_le _) (by rw [hfu]; omega)) (fun M2 h => ?_)
  obtain ⟨hT2, hB2, he2, L2, hM2, ha2, hb2⟩ := h
  rw [wp_some]
  refine ⟨hT2, hB2, he1.tr he2, ([] ++ L1) ++ L2, hM2, fun k => ⟨fun hk => ?_, fun hk => ?_⟩⟩
  · rcases List.mem_append.mp hk with hk | hk
    · exact ha1 k hk
    · exact (IsRt.eqx (e15T he1)).mp (ha2 k hk)
  · rcases (rtAt_iff hf.1 hq.1).mpr hk with ⟨i, hi, h⟩ | h
    · exact List.mem_append_left _ (hb1 i k (Nat.zero_le _) hi h)
    · exact hb2 k (Nat.zero_le _) h.1 (by rw [he1.2.1 k 9 (by decide)]; exact h.2)
