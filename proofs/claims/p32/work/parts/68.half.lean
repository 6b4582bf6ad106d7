/-! LAYER 2: a MINOR's roots; what it leaves. -/
theorem mroots_loop {n : Nat} {M0 : cSt} {Y O G D : List Nat} : ∀ (u : Nat) (M : cSt) (V : List Nat) (v : Nat), Mv n M0 Y O G D V M → (1 ≤ gI M 1 ∧ gI M 1 ≤ 8) → (0 ≤ gI M 11 ∧ gI M 11 ≤ 200) → (v : Int) ≤ gI M 1 * 4 + 4 + gI M 11 → gI M 1 * 4 + 4 + gI M 11 - v < u →
    wp (g_Mi_run_6 n u M (v : Int)) (fun M' => ∃ V', Mv n M0 Y O G D (V ++ V') M' ∧ MEq M M' ∧ ∀ (i k : Nat), v ≤ i → (i : Int) < gI M 1 * 4 + 4 + gI M 11 → rtAt M i = some k → k ∈ Y → k ∈ V ++ V') := by
  intro u
  induction u with
  | zero => intro M V v _ _ _ h h2; omega
  | succ u ih =>
    intro M V v h hf hq hv hu
    have e101 : gI M (10 + 1) = gI M 11 := rfl
    have hc := h.2.2.1
    show wp (s_Mi_run_6 (g_Mi_run_6 n u) n M (v : Int)) _
    unfold s_Mi_run_6 f_Ro_count f_Row_size
    rw [wp_ob, wp_ob, wp_some, wp_some, wp_og, wp_og, wp_ite]
    refine ⟨⟨by omega, by omega⟩, ⟨by omega, by omega⟩, fun hlt => ?_, fun hge => ?_⟩
    · rw [wp_ob]
      refine wp_of (root_ok hf hq hlt) ?_
      rw [wp_ob]
      refine wp_mono (move_ok h (fun k hk => by
        unfold rtAt at hk
        split at hk
        · exact hc.1 _ _ _ hk
        · split at hk
          · exact hc.1 _ _ _ hk
          · exact hc.1 _ _ _ hk)) (fun M1 h9 => ?_)
      obtain ⟨V1, hM1, he1, -, hb1⟩ := h9
      have e1 : gI M1 1 = gI M 1 := he1.1 1 (by decide)
      have e11 : gI M1 11 = gI M 11 := he1.1 11 (by decide)
      refine wp_mono (ih M1 (V ++ V1) (v + 1) hM1 (by rw [e1]; exact hf) (by rw [e11]; exact hq) (by rw [e1, e11]; omega) (by rw [e1, e11]; omega)) (fun M2 h9 => ?_)
      obtain ⟨V2, hM2, he2, hb2⟩ := h9
      refine ⟨V1 ++ V2, by rw [← List.append_assoc]; exact hM2, he1.tr he2, fun i k hi hi2 hk hkY => ?_⟩
      rw [← List.append_assoc]
      by_cases hiv : i = v
      · subst hiv; exact List.mem_append_left _ (hb1 k hk hkY)
      · refine hb2 i k (by omega) (by rw [e1, e11]; exact hi2) ?_ hkY
        unfold rtAt at hk ⊢
        rw [e1, he1.2.2.1 7 _ (by decide), he1.2.2.1 8 _ (by decide), he1.2.2.1 1 _ (by decide)]; exact hk
    · rw [wp_some]
      exact ⟨[], by rw [List.append_nil]; exact h, Eqx.rf _ _ _ _, fun i k hi hi2 => by omega⟩
/-- the left ones are gone -/
def LvP (M : cSt) (X V : List Nat) (M' : cSt) : Prop := SwEq M M' ∧ ∀ k, (k ∈ X ∧ k ∉ V → gT M' k 3 = 0 ∧ ∀ j, j < gL M k → gF M' k j = none) ∧ (¬ (k ∈ X ∧ k ∉ V) → gT M' k 3 = gT M k 3 ∧ gT M' k 10 = gT M k 10 ∧ ∀ j, gF M' k j = gF M k j) ∧ ∀ j p, gF M' k j = some p → gF M k j = some p
theorem leave_loop {n : Nat} {V : List Nat} : ∀ (X : List Nat) (u : Nat) (M : cSt) (A : List Nat) (g : Int), X.length < u → Row M 2 (A ++ X) → (A ++ X).length ≤ 199 → (∀ k ∈ A ++ X, k < n) → (A ++ X).Nodup → (∀ k, k < n → gL M k ≤ 20) → (∀ k, k < n → 0 ≤ gT M k 3 ∧ gT M k 3 ≤ 3) → (∀ k, k < n → gT M k 11 = 0 ∨ gT M k 11 = 1) → (∀ k ∈ X, Lft M k ↔ k ∉ V) →
    wp (g_Mi_leaveHalf_4 n u M g (A.length : Int)) (fun x => LvP M X V x.1 ∧ x.2 = g + (X.filter (fun k => decide (k ∉ V))).length) := by
  intro X
  induction X with
  | nil =>
    intro u M A g hu hR hlen hlt hnd hb hp h11 hl
    rw [List.append_nil] at *
    cases u with
    | zero => exact absurd hu (Nat.not_lt_zero _)
    | succ u =>
      show wp (s_Mi_leaveHalf_4 (g_Mi_leaveHalf_4 n u) n M g (A.length : Int)) _
      unfold s_Mi_leaveHalf_4
      rw [wp_ob]
      refine wp_of (size_ok hR) ?_
      rw [wp_og, wp_og, wp_ite]
      refine ⟨⟨by omega, by omega⟩, ⟨by omega, by omega⟩, fun h => by omega, fun _ => ?_⟩
      rw [wp_some]
      exact ⟨⟨SwEq.rf M, fun k => ⟨fun h => absurd h.1 List.not_mem_nil, fun _ => ⟨rfl, rfl, fun _ => rfl⟩, fun _ _ h => h⟩⟩, by simp⟩
  | cons q X ih =>
    intro u M A g hu hR hlen hlt hnd hb hp h11 hl
    cases u with
    | zero => exact absurd hu (Nat.not_lt_zero _)
    | succ u =>
      have hlen2 : (A ++ q :: X).length = A.length + X.length + 1 := by rw [List.length_append, List.length_cons]; omega
      show wp (s_Mi_leaveHalf_4 (g_Mi_leaveHalf_4 n u) n M g (A.length : Int)) _
      unfold s_Mi_leaveHalf_4
      rw [wp_ob]
      refine wp_of (size_ok hR) ?_
      rw [wp_og, wp_og, wp_ite]
      refine ⟨⟨by omega, by omega⟩, ⟨by omega, by omega⟩, fun _ => ?_, fun h => by omega⟩
      rw [wp_ob]
      refine wp_of (item_ok hR (by omega) ⟨by omega, by omega⟩) ?_
      have hat : (A ++ q :: X)[A.length]? = some q := by rw [List.getElem?_append_right (Nat.le_refl _), Nat.sub_self]; rfl
      rw [if_pos (by omega), show ((A.length : Int)).toNat = A.length by omega, hat, wp_on]
      refine ⟨fun e => (by cases e), fun q' e => ?_⟩
      cases e
      have hqn : q < n := hlt q (List.mem_append_right _ List.mem_cons_self)
      have hnX : q ∉ X := (List.nodup_cons.mp (List.nodup_append.mp hnd).2.1).1
      have hcat : A ++ q :: X = (A ++ [q]) ++ X := by rw [List.append_assoc]; rfl
      have hpq := hp q hqn
      have hlq := hl q List.mem_cons_self
      have hal : ((A ++ [q]).length : Int) = (A.length : Int) + 1 := by rw [List.length_append, List.length_singleton]; omega
      rw [wp_og, wp_ob]
      refine ⟨hqn, wp_mono (isLeft_ok hqn ⟨by omega, by omega⟩ (h11 q hqn)) (fun x hx => ?_)⟩
      obtain ⟨hx01, hxi⟩ := hx
      rw [wp_og, wp_ite]
      refine ⟨by rcases hx01 with h | h <;> rw [h] <;> exact ⟨by decide, by decide⟩, fun hx0 => ?_, fun hx0 => ?_⟩
      · have hqV : q ∈ V := by
          by_cases h : q ∈ V
          · exact h
          · exact absurd hx0 (hxi.mpr (hlq.mpr h))
        have := ih u M (A ++ [q]) g (by rw [List.length_cons] at hu; omega) (by rw [← hcat]; exact hR) (by rw [← hcat]; exact hlen) (by rw [← hcat]; exact hlt) (by rw [← hcat]; exact hnd) hb hp h11 (fun k hk => hl k (List.mem_cons_of_mem _ hk))
        rw [hal] at this
        refine wp_mono this (fun x h => ?_)
        obtain ⟨⟨h1, h2⟩, h3⟩ := h
        have hm : ∀ k, (k ∈ X ∧ k ∉ V) ↔ (k ∈ q :: X ∧ k ∉ V) := fun k => ⟨fun h => ⟨List.mem_cons_of_mem _ h.1, h.2⟩, fun h => ⟨by
          rcases List.mem_cons.mp h.1 with e | h9
          · exact absurd hqV (e ▸ h.2)
          · exact h9, h.2⟩⟩
        refine ⟨⟨h1, fun k => ⟨fun h => (h2 k).1 ((hm k).mpr h), fun h => (h2 k).2.1 (fun h9 => h ((hm k).mp h9)), (h2 k).2.2⟩⟩, ?_⟩
        rw [h3, List.filter_cons, if_neg (by simp [hqV])]
      · have hqV : q ∉ V := hlq.mp (hxi.mp hx0)
        rw [wp_ob]
        refine wp_mono (vanish_ok (hb q hqn)) (fun M1 h => ?_)
        obtain ⟨hE, hpl, h10, hF, hFq, hFs⟩ := h
        have hR1 : Row M1 2 ((A ++ [q]) ++ X) := by rw [← hcat]; exact ⟨(hE.1 _).trans hR.1, fun j hj => (hE.2.2.1 2 j).trans (hR.2 j hj)⟩
        have := ih u M1 (A ++ [q]) (g + 1) (by rw [List.length_cons] at hu; omega) hR1 (by rw [← hcat]; exact hlen) (by rw [← hcat]; exact hlt) (by rw [← hcat]; exact hnd) (fun k hk => by rw [hE.2.2.2.1]; exact hb k hk) (fun k hk => by
          rw [hpl k]; split
          · omega
          · exact hp k hk) (fun k hk => by rw [hE.2.1 k 11 (by decide) (by decide)]; exact h11 k hk) (fun k hk => by
          have hkq : k ≠ q := fun e => hnX (e ▸ hk)
          have e3 : gT M1 k 3 = gT M k 3 := by rw [hpl k, if_neg hkq]
          unfold Lft
          rw [e3, hE.2.1 k 11 (by decide) (by decide)]
          exact hl k (List.mem_cons_of_mem _ hk))
        rw [hal] at this
        refine wp_mono this (fun x h => ?_)
        obtain ⟨⟨h1, h2⟩, h3⟩ := h
        refine ⟨⟨hE.tr h1, fun k => ?_⟩, ?_⟩
        · by_cases hkq : k = q
          · subst hkq
            obtain ⟨a1, a2, a3⟩ := (h2 k).2.1 (fun h9 => hnX h9.1)
            refine ⟨fun _ => ⟨by rw [a1, hpl, if_pos rfl], fun j hj => by rw [a3 j]; exact hFq j hj⟩, fun h => absurd ⟨List.mem_cons_self, hqV⟩ h, fun j p hj => hFs j p ((h2 k).2.2 j p hj)⟩
          · have hm : (k ∈ X ∧ k ∉ V) ↔ (k ∈ q :: X ∧ k ∉ V) := ⟨fun h => ⟨List.mem_cons_of_mem _ h.1, h.2⟩, fun h => ⟨by
              rcases List.mem_cons.mp h.1 with e | h9
              · exact absurd e hkq
              · exact h9, h.2⟩⟩
            refine ⟨fun h => ?_, fun h => ?_, fun j p hj => by rw [← hF k j hkq]; exact (h2 k).2.2 j p hj⟩
            · obtain ⟨a1, a2⟩ := (h2 k).1 (hm.mpr h)
              exact ⟨a1, fun j hj => a2 j (by rw [hE.2.2.2.1]; exact hj)⟩
            · obtain ⟨a1, a2, a3⟩ := (h2 k).2.1 (fun h9 => h (hm.mp h9))
              exact ⟨by rw [a1, hpl, if_neg hkq], a2.trans (h10 k hkq), fun j => (a3 j).trans (hF k j hkq)⟩
        · rw [h3, List.filter_cons, if_pos (by simp [hqV]), List.length_cons]; omega
theorem young_loop {n : Nat} {g : Int} {S : List Nat} (hlen : S.length ≤ 199) (hl : ∀ k ∈ S, k < n) : ∀ (u : Nat) (M : cSt) (T : List Nat) (v : Nat), Row M 6 S → Row M 2 T → T.length + S.length ≤ 199 + v → cRf n M → (∀ k, k < n → 0 ≤ gT M k 3 ∧ gT M k 3 ≤ 3) → v ≤ S.length → S.length - v < u →
    wp (g_Mi_leaveHalf_66 n g u M (v : Int)) (fun M' => Eqx [12] [] [2] M M' ∧ cRf n M' ∧ Row M' 2 (T ++ (S.drop v).filter (isP M 1))) := by
  intro u
  induction u with
  | zero => intro M T v _ _ _ _ _ _ h; omega
  | succ u ih =>
    intro M T v hR hT hTl hc hp hv hu
    show wp (s_Mi_leaveHalf_66 (g_Mi_leaveHalf_66 n g u) n g M (v : Int)) _
    unfold s_Mi_leaveHalf_66
    rw [wp_ob]
    refine wp_of (size_ok hR) ?_
    rw [wp_og, wp_og, wp_ite]
    refine ⟨⟨by omega, by omega⟩, ⟨by omega, by omega⟩, fun hlt => ?_, fun hge => ?_⟩
    · have hvl : v < S.length := by omega
      rw [wp_ob]
      refine wp_of (item_ok hR (by omega) ⟨by omega, by omega⟩) ?_
      rw [if_pos (by omega), show (v : Int).toNat = v by omega, List.getElem?_eq_getElem hvl, wp_on]
      refine ⟨fun e => (by cases e), fun q e => ?_⟩
      have hql : S[v] = q := Option.some.inj e
      have hq : q < n := by rw [← hql]; exact hl _ (List.getElem_mem hvl)
      have hpq := hp q hq
      have hdrop : S.drop v = q :: S.drop (v + 1) := by rw [List.drop_eq_getElem_cons hvl, hql]
      rw [wp_og, wp_og, wp_ite]
      refine ⟨hq, ⟨by omega, by omega⟩, fun h1 => ?_, fun h1 => ?_⟩
      · rw [wp_ob]
        refine wp_of (add_ok hT (by omega) hq) ?_
        have hE := eqx_addR M 2 q
        refine wp_mono (ih (addR M 2 q) (T ++ [q]) (v + 1) (row_addR_ne hR (by decide)) (row_addR hT) (by rw [List.length_append, List.length_singleton]; omega) (cRf_addR hc hq) hp (by omega) (by omega)) (fun M' h => ?_)
        refine ⟨hE.tr h.1, h.2.1, ?_⟩
        rw [hdrop, List.filter_cons, if_pos (by unfold isP; exact decide_eq_true h1)]
        have h2 := h.2.2
        rw [List.append_assoc] at h2
        exact h2
      · refine wp_mono (ih M T (v + 1) hR hT (by omega) hc hp (by omega) (by omega)) (fun M' h => ?_)
        refine ⟨h.1, h.2.1, ?_⟩
        rw [hdrop, List.filter_cons, if_neg (by unfold isP; simp [h1])]
        exact h.2.2
    · rw [wp_some]
      refine ⟨Eqx.rf _ _ _ _, hc, ?_⟩
      rw [List.drop_eq_nil_of_le (by omega), List.filter_nil, List.append_nil]; exact hT
