/-! LAYER 2: a MINOR begins; its roots; the HALF that it leaves. -/
def dty (M : cSt) (k : Nat) : Bool := decide (gZ M (crd M k) ≠ 0)
theorem dirty_ok {n : Nat} {M : cSt} {c : Int} (h0 : 0 ≤ c) (h1 : c < 20) (hz : gZ M c.toNat = 0 ∨ gZ M c.toNat = 1) : f_Pl_isCardDirty n M c = some (if gZ M c.toNat = 0 then 0 else 1) := by
  refine wp_eq ?_
  unfold f_Pl_isCardDirty
  simp only [wp_og, wp_ite, wp_some]
  refine ⟨⟨by omega, by omega⟩, fun h => by omega, fun _ => ⟨fun _ => ⟨⟨h0, h1⟩, by rcases hz with h | h <;> rw [h] <;> exact ⟨by decide, by decide⟩, fun h => by rw [if_pos h], fun h => by rw [if_neg h]⟩, fun h => by omega⟩⟩
theorem addDirty_loop {n r : Nat} {l : List Nat} (hr6 : r ≠ 6) (hlen : l.length ≤ 199) (hl : ∀ k ∈ l, k < n) : ∀ (u : Nat) (M : cSt) (S : List Nat) (v : Nat), Row M r l → Row M 6 S → S.length + l.length ≤ 199 + v → cRf n M → (∀ k ∈ l, 100 ≤ gT M k 4 ∧ gT M k 4 < 420) → (∀ j, j < 20 → gZ M j = 0 ∨ gZ M j = 1) → v ≤ l.length → l.length - v < u →
    wp (g_Mi_addDirty_2 n r u M (v : Int)) (fun M' => Eqx [16] [] [6] M M' ∧ cRf n M' ∧ Row M' 6 (S ++ (l.drop v).filter (dty M))) := by
  intro u
  induction u with
  | zero => intro M S v _ _ _ _ _ _ _ h; omega
  | succ u ih =>
    intro M S v hR hS hSl hc ha hz hv hu
    show wp (s_Mi_addDirty_2 (g_Mi_addDirty_2 n r u) n r M (v : Int)) _
    unfold s_Mi_addDirty_2
    rw [wp_ob]
    refine wp_of (size_ok hR) ?_
    rw [wp_og, wp_og, wp_ite]
    refine ⟨⟨by omega, by omega⟩, ⟨by omega, by omega⟩, fun hlt => ?_, fun hge => ?_⟩
    · have hvl : v < l.length := by omega
      rw [wp_ob]
      refine wp_of (item_ok hR (by omega) ⟨by omega, by omega⟩) ?_
      rw [if_pos (by omega), show (v : Int).toNat = v by omega, List.getElem?_eq_getElem hvl, wp_on]
      refine ⟨fun e => (by cases e), fun q e => ?_⟩
      have hql : l[v] = q := Option.some.inj e
      have hqm : q ∈ l := by rw [← hql]; exact List.getElem_mem hvl
      have hq := hl q hqm
      have haq := ha q hqm
      have hcr := crd_rng haq.1 haq.2
      have hdrop : l.drop v = q :: l.drop (v + 1) := by rw [List.drop_eq_getElem_cons hvl, hql]
      unfold f_Th_card
      rw [wp_og, wp_ob, wp_og, wp_some]
      refine ⟨hq, ⟨by omega, by omega⟩, ?_⟩
      rw [wp_ob]
      refine wp_of (dirty_ok hcr.1 hcr.2 (hz _ (by omega))) ?_
      by_cases hd : gZ M (Int.tdiv (gT M q 4 - 100) 16).toNat = 0
      · rw [if_pos hd, wp_og, wp_ite]
        refine ⟨⟨by decide, by decide⟩, fun _ => ?_, fun h => absurd rfl h⟩
        refine wp_mono (ih M S (v + 1) hR hS (by omega) hc ha hz (by omega) (by omega)) (fun M' h => ?_)
        refine ⟨h.1, h.2.1, ?_⟩
        rw [hdrop, List.filter_cons, if_neg (by unfold dty crd; simp [hd])]
        exact h.2.2
      · rw [if_neg hd, wp_og, wp_ite]
        refine ⟨⟨by decide, by decide⟩, fun h => absurd h (by decide), fun _ => ?_⟩
        rw [wp_ob]
        refine wp_of (add_ok hS (by omega) hq) ?_
        have hE := eqx_addR M 6 q
        refine wp_mono (ih (addR M 6 q) (S ++ [q]) (v + 1) (row_addR_ne hR hr6) (row_addR hS) (by rw [List.length_append, List.length_singleton]; omega) (cRf_addR hc hq) ha hz (by omega) (by omega)) (fun M' h => ?_)
        refine ⟨hE.tr h.1, h.2.1, ?_⟩
        rw [hdrop, List.filter_cons, if_pos (by unfold dty crd; simp [hd])]
        have h2 := h.2.2
        rw [List.append_assoc] at h2
        exact h2
    · rw [wp_some]
      refine ⟨Eqx.rf _ _ _ _, hc, ?_⟩
      rw [List.drop_eq_nil_of_le (by omega), List.filter_nil, List.append_nil]; exact hS
theorem unmove_loop {n : Nat} : ∀ (u : Nat) (M : cSt) (v : Nat), n ≤ 199 → Row M 0 (List.range n) → v ≤ n → n - v < u →
    wp (g_Mi_begin_42 n u M (v : Int)) (fun M' => Eqx [] [11] [] M M' ∧ (∀ k, k < n → v ≤ k → gT M' k 11 = 0)∧ ∀ k, k < v → gT M' k 11 = gT M k 11) := by
  intro u
  induction u with
  | zero => intro M v _ _ _ h; omega
  | succ u ih =>
    intro M v hn hR hv hu
    show wp (s_Mi_begin_42 (g_Mi_begin_42 n u) n M (v : Int)) _
    unfold s_Mi_begin_42
    rw [wp_ob]
    refine wp_of (size_ok hR) ?_
    rw [List.length_range, wp_og, wp_og, wp_ite]
    refine ⟨⟨by omega, by omega⟩, ⟨by omega, by omega⟩, fun hlt => ?_, fun hge => ?_⟩
    · rw [wp_ob]
      refine wp_of (item_ok hR (by rw [List.length_range]; omega) ⟨by omega, by omega⟩) ?_
      rw [if_pos (by omega), show (v : Int).toNat = v by omega, List.getElem?_range (by omega), wp_on]
      refine ⟨fun e => (by cases e), fun q e => ?_⟩
      cases e
      rw [wp_og]
      refine ⟨by omega, ?_⟩
      refine wp_mono (ih (sT M v 11 0) (v + 1) hn ⟨hR.1, hR.2⟩ (by omega) (by omega)) (fun M1 h => ?_)
      obtain ⟨he, h1, h2⟩ := h
      have he0 : Eqx [] [11] [] M (sT M v 11 0) := ⟨fun _ _ => rfl, fun k f hf => by rw [gT_sT, if_neg (fun h9 => hf (by rw [h9.2]; decide))], fun _ _ _ => rfl, fun _ => rfl, fun _ _ => rfl, fun _ => rfl⟩
      refine ⟨he0.tr he, fun k hk hvk => ?_, fun k hk => ?_⟩
      · by_cases hkv : k = v
        · subst hkv
          rw [h2 k (by omega), gT_sT, if_pos ⟨rfl, rfl⟩]
        · exact h1 k hk (by omega)
      · rw [h2 k (by omega), gT_sT, if_neg (fun h9 => absurd h9.1 (by omega))]
    · rw [wp_some]
      exact ⟨Eqx.rf _ _ _ _, fun k hk hvk => by omega, fun _ _ => rfl⟩
/-- those on DIRTY CARDS -/
def DD (M : cSt) (O G : List Nat) : List Nat := O.filter (dty M) ++ G.filter (dty M)
theorem beginM_ok {n : Nat} {M : cSt} {Y O G : List Nat} (hB : TB n M) (hN : Nm n M) (hP : PL n M Y O G) (hz : ∀ j, j < 20 → gZ M j = 0 ∨ gZ M j = 1) (hroom : gI M 4 + sbs M Y ≤ 100 + gI M 5) (h20 : gI M 20 = 2) (hAg : Ags n M) :
    wp (f_Mi_begin n M) (fun M' => Mv n M Y O G (DD M O G) [] M' ∧ Eqx [16, 21, 22, 23] [11] [6] M M' ∧ gI M' 21 = 0 ∧ gI M' 22 = 40 - gI M 2) := by
  have hfu : fu = 500 := rfl
  have hn := hB.1
  have hPL := hP
  obtain ⟨pY, pO, pG, dY, dO, dG, mY, mO, mG, cY, cO, cG, h2, h3a, h3b, h4a, h4b, h5a, h5b⟩ := hP
  have lO := nodup_le n O dO (fun k hk => ((mO k).mp hk).1)
  have hOG : (O ++ G).Nodup := List.nodup_append.mpr ⟨dO, dG, fun a ha b hb e => by
    subst e
    have h1 := ((mO a).mp ha).2; have h2 := ((mG a).mp hb).2; omega⟩
  have lOG := nodup_le n (O ++ G) hOG (fun k hk => by
    rcases List.mem_append.mp hk with h | h
    · exact ((mO k).mp h).1
    · exact ((mG k).mp h).1)
  rw [List.length_append] at lOG
  have main : ∀ a : Int, a = 40 - gI M 2 → wp (ob (g_Mi_begin_42 n fu (sI (sI (sI (sI M (10 + 6) 0) 21 0) 22 a) 23 (gI (sI (sI (sI M (10 + 6) 0) 21 0) 22 a) 22)) 0) (fun x10 => ob (f_Mi_addDirty n x10 3) (fun x11 => ob (f_Mi_addDirty n x11 4) (fun x12 => some x12)))) (fun M' => Mv n M Y O G (DD M O G) [] M' ∧ Eqx [16, 21, 22, 23] [11] [6] M M' ∧ gI M' 21 = 0 ∧ gI M' 22 = 40 - gI M 2) := by
    intro a hae
    have e22 : gI (sI (sI (sI M (10 + 6) 0) 21 0) 22 a) 22 = a := by rw [gI_sI, if_pos rfl]
    rw [e22]
    generalize hM1 : sI (sI (sI (sI M (10 + 6) 0) 21 0) 22 a) 23 a = M1 at *
    have hI1 : ∀ j, gI M1 j = if j = 23 then a else if j = 22 then a else if j = 21 then 0 else if j = 16 then 0 else gI M j := fun j => by
      rw [← hM1, gI_sI, gI_sI, gI_sI, gI_sI]
    have hE1 : Eqx [16, 21, 22, 23] [11] [6] M M1 := ⟨fun j hj => by rw [hI1, if_neg (fun h => hj (by rw [h]; decide)), if_neg (fun h => hj (by rw [h]; decide)), if_neg (fun h => hj (by rw [h]; decide)), if_neg (fun h => hj (by rw [h]; decide))], fun _ _ _ => by rw [← hM1]; rfl, fun _ _ _ => by rw [← hM1]; rfl, fun _ => by rw [← hM1]; rfl, fun _ _ => by rw [← hM1]; rfl, fun _ => by rw [← hM1]; rfl⟩
    have hc1 : cRf n M1 := by rw [← hM1]; exact hB.2.2.1
    rw [wp_ob]
    refine wp_mono (unmove_loop fu M1 0 hn (hE1.row hB.2.1 (by decide) (by decide)) (Nat.zero_le _) (by rw [hfu]; omega)) (fun M2 h => ?_)
    obtain ⟨he2, h112, -⟩ := h
    have hE2 : Eqx [16, 21, 22, 23] [11] [6] M M2 := hE1.tr (he2.mono (by decide) (by decide) (by decide))
    have hc2 : cRf n M2 := he2.rfs hc1 (fun r hr => absurd hr List.not_mem_nil)
    have hS2 : Row M2 6 [] := row_nil ((he2.1 _ List.not_mem_nil).trans (by rw [hI1, if_neg (by decide), if_neg (by decide), if_neg (by decide), if_pos rfl]))
    have haO : ∀ k, k < n → (gT M k 3 = 2 ∨ gT M k 3 = 3) → 100 ≤ gT M2 k 4 ∧ gT M2 k 4 < 420 := fun k hk hp => by rw [hE2.2.1 k 4 (by decide)]; exact hPL.addr hN hk hp
    have hz2 : ∀ j, j < 20 → gZ M2 j = 0 ∨ gZ M2 j = 1 := fun j hj => by rw [hE2.2.2.2.2.2]; exact hz j hj
    have hd2 : dty M2 = dty M := by funext k; unfold dty crd; rw [hE2.2.2.2.2.2, hE2.2.1 k 4 (by decide)]
    unfold f_Mi_addDirty
    rw [wp_ob, wp_ob]
    refine wp_mono (addDirty_loop (r := 3) (l := O) (by decide) (by omega) (fun k hk => ((mO k).mp hk).1) fu M2 [] 0 (hE2.row pO (by decide) (by decide)) hS2 (by simp; omega) hc2 (fun k hk => haO k ((mO k).mp hk).1 (Or.inl ((mO k).mp hk).2)) hz2 (Nat.zero_le _) (by rw [hfu]; omega)) (fun M3 h => ?_)
    obtain ⟨he3, hc3, hS3⟩ := h
    rw [List.nil_append, List.drop_zero, hd2] at hS3
    have hE3 : Eqx [16, 21, 22, 23] [11] [6] M M3 := hE2.tr (he3.mono (by decide) (by decide) (by decide))
    have hd3 : dty M3 = dty M := by funext k; unfold dty crd; rw [hE3.2.2.2.2.2, hE3.2.1 k 4 (by decide)]
    have hfl : (O.filter (dty M)).length ≤ O.length := List.length_filter_le _ _
    rw [wp_some, wp_ob, wp_ob]
    refine wp_mono (addDirty_loop (r := 4) (l := G) (by decide) (by omega) (fun k hk => ((mG k).mp hk).1) fu M3 (O.filter (dty M)) 0 (hE3.row pG (by decide) (by decide)) hS3 (by omega) hc3 (fun k hk => by rw [he3.2.1 k 4 List.not_mem_nil]; exact haO k ((mG k).mp hk).1 (Or.inr ((mG k).mp hk).2)) (fun j hj => by rw [hE3.2.2.2.2.2]; exact hz j hj) (Nat.zero_le _) (by rw [hfu]; omega)) (fun M4 h => ?_)
    obtain ⟨he4, hc4, hS4⟩ := h
    rw [List.drop_zero, hd3] at hS4
    have hE4 : Eqx [16, 21, 22, 23] [11] [6] M M4 := hE3.tr (he4.mono (by decide) (by decide) (by decide))
    rw [wp_some, wp_some]
    have hI4 : ∀ j, j ≠ 16 → gI M4 j = gI M1 j := fun j hj => (he4.1 j (by simp; exact hj)).trans ((he3.1 j (by simp; exact hj)).trans (he2.1 j List.not_mem_nil))
    have g22 : gI M4 22 = a := by rw [hI4 22 (by decide), hI1, if_neg (by decide), if_pos rfl]
    have g23 : gI M4 23 = a := by rw [hI4 23 (by decide), hI1, if_pos rfl]
    have g21 : gI M4 21 = 0 := by rw [hI4 21 (by decide), hI1, if_neg (by decide), if_neg (by decide), if_pos rfl]
    have hT4 : ∀ k f, f ≠ 11 → gT M4 k f = gT M k f := fun k f hf => hE4.2.1 k f (by simp; exact hf)
    have hD : ∀ k ∈ DD M O G, k < n ∧ k ∉ Y := fun k hk => by
      unfold DD at hk
      rcases List.mem_append.mp hk with h | h
      · have h1 := (mO k).mp (List.mem_filter.mp h).1
        exact ⟨h1.1, fun h9 => by have := ((mY k).mp h9).2; omega⟩
      · have h1 := (mG k).mp (List.mem_filter.mp h).1
        exact ⟨h1.1, fun h9 => by have := ((mY k).mp h9).2; omega⟩
    refine ⟨⟨hn, hE4.row hB.2.1 (by decide) (by decide), hc4, fun k hk => by rw [hT4 k 4 (by decide), hT4 k 5 (by decide), hT4 k 6 (by decide), hT4 k 9 (by decide)]; exact hN k hk, by rw [List.append_nil]; exact hS4, ?_, fun k hk => absurd hk List.not_mem_nil, fun k hk => (mY k).mp hk, dY, fun k hk => ((mO k).mp hk).1, dO, hD, fun k hk h9 => by have h1 := ((mO k).mp hk).2; have h2 := ((mY k).mp h9).2; omega, fun k hk => ?_, fun k _ => ⟨hT4 k 3 (by decide), hT4 k 4 (by decide), hT4 k 5 (by decide), hT4 k 7 (by decide)⟩, fun k hk => absurd hk List.not_mem_nil, by rw [List.filter_nil, List.append_nil]; exact hE4.row pO (by decide) (by decide), ?_, Chn.nil _ _ _, ?_⟩, hE4, g21, by rw [g22, hae]⟩
    · rw [List.append_nil]
      unfold DD
      exact List.nodup_append.mpr ⟨dO.filter _, dG.filter _, fun x hx y hy e => (List.nodup_append.mp hOG).2.2 x (List.mem_filter.mp hx).1 y (List.mem_filter.mp hy).1 e⟩
    · rw [if_neg List.not_mem_nil, he4.2.1 k 11 List.not_mem_nil, he3.2.1 k 11 List.not_mem_nil]; exact h112 k hk (Nat.zero_le _)
    · rw [List.filter_nil, List.append_nil, hE4.1 4 (by decide)]
      exact cO.eq (fun k _ => ⟨hT4 k 4 (by decide), hT4 k 5 (by decide)⟩)
    · have hfe : Y.filter (fun k => decide (k ∉ ([] : List Nat))) = Y := by rw [List.filter_eq_self]; intro k _; simp
      rw [g22, g23, hE4.1 4 (by decide), hE4.1 5 (by decide), hE4.1 20 (by decide), hfe, sbs_eq (fun k _ => hT4 k 6 (by decide))]
      refine ⟨by omega, Int.le_refl _, by omega, h4a, hroom, h5b, h20, fun k hk h1 => (mY k).mpr ⟨hk, h1⟩, hB.2.2.2.2.2.2.2.2.1, fun k hk => ?_⟩
      have h1 := hAg k ((mY k).mp hk).1
      exact ⟨h1.1, h1.2.2 ((mY k).mp hk).2⟩
  unfold f_Mi_begin f_Row_clear
  rw [wp_ob, wp_some, wp_og, wp_ite]
  have e2 : gI (sI (sI M (10 + 6) 0) 21 0) 2 = gI M 2 := by rw [gI_sI, if_neg (by decide), gI_sI, if_neg (by decide)]
  rw [e2]
  refine ⟨⟨by omega, by omega⟩, fun h => main 40 (by omega), fun h => main 0 (by omega)⟩
