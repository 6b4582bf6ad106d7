/-! LAYER 2: CARDS. -/
def ZEq (M M' : cSt) : Prop := (∀ j, gI M' j = gI M j) ∧ (∀ k f, gT M' k f = gT M k f) ∧ (∀ r j, gR M' r j = gR M r j) ∧ (∀ k, gL M' k = gL M k) ∧ ∀ k j, gF M' k j = gF M k j
theorem ZEq.rf (M : cSt) : ZEq M M := ⟨fun _ => rfl, fun _ _ => rfl, fun _ _ => rfl, fun _ => rfl, fun _ _ => rfl⟩
theorem ZEq.tr {M M' M'' : cSt} (h : ZEq M M') (h' : ZEq M' M'') : ZEq M M'' := ⟨fun j => (h'.1 j).trans (h.1 j), fun k f => (h'.2.1 k f).trans (h.2.1 k f), fun r j => (h'.2.2.1 r j).trans (h.2.2.1 r j), fun k => (h'.2.2.2.1 k).trans (h.2.2.2.1 k), fun k j => (h'.2.2.2.2 k j).trans (h.2.2.2.2 k j)⟩
theorem ZEq.row {M M' : cSt} {r : Nat} {l : List Nat} (h : ZEq M M') (hl : Row M r l) : Row M' r l := ⟨(h.1 _).trans hl.1, fun j hj => (h.2.2.1 r j).trans (hl.2 j hj)⟩
theorem ZEq.refs {n : Nat} {M M' : cSt} (h : ZEq M M') (hc : cRf n M) : cRf n M' := ⟨fun r j k hk => hc.1 r j k (by rw [← h.2.2.1 r j]; exact hk), fun k j q hq => hc.2 k j q (by rw [← h.2.2.2.2 k j]; exact hq)⟩
/-- a field of it leads to a young one -/
def HY (M : cSt) (k : Nat) : Prop := ∃ j p, j < gL M k ∧ gF M k j = some p ∧ gT M p 3 = 1
theorem ZEq.hy {M M' : cSt} (h : ZEq M M') (k : Nat) : HY M' k ↔ HY M k := by
  unfold HY
  simp only [h.2.2.2.1, h.2.2.2.2, h.2.1]
theorem hy_loop {n q : Nat} {M : cSt} (hc : cRf n M) (hb : gL M q ≤ 20) (hpl : ∀ k, k < n → 0 ≤ gT M k 3 ∧ gT M k 3 ≤ 3) : ∀ (u v : Nat), v ≤ gL M q → gL M q - v < u →
    wp (g_Th_hasYoungField_2 n M q u (v : Int)) (fun o => (o = .inl () ∧ ∀ j p, v ≤ j → j < gL M q → gF M q j = some p → gT M p 3 ≠ 1) ∨ (o = .inr 1 ∧ HY M q)) := by
  intro u
  induction u with
  | zero => intro v _ h; omega
  | succ u ih =>
    intro v hv hu
    show wp (s_Th_hasYoungField_2 (g_Th_hasYoungField_2 n M q u) n M q (v : Int)) _
    unfold s_Th_hasYoungField_2
    rw [wp_og, wp_og, wp_og, wp_ite]
    refine ⟨by omega, ⟨by omega, by omega⟩, ⟨by omega, by omega⟩, fun hlt => ?_, fun hge => ?_⟩
    · rw [wp_og, wp_on]
      rw [show (v : Int).toNat = v by omega]
      have next : (∀ p, gF M q v = some p → gT M p 3 ≠ 1) → wp (g_Th_hasYoungField_2 n M q u ((v : Int) + 1)) (fun o => (o = .inl () ∧ ∀ j p, v ≤ j → j < gL M q → gF M q j = some p → gT M p 3 ≠ 1) ∨ (o = .inr 1 ∧ HY M q)) := fun hno => by
        refine wp_mono (ih (v + 1) (by omega) (by omega)) (fun o h => ?_)
        rcases h with ⟨h1, h2⟩ | h
        · refine Or.inl ⟨h1, fun j p hj hj2 hp => ?_⟩
          by_cases hjv : j = v
          · subst hjv; exact hno p hp
          · exact h2 j p (by omega) hj2 hp
        · exact Or.inr h
      refine ⟨⟨by omega, by omega⟩, fun e => next (fun p hp => by rw [e] at hp; cases hp), fun p e => ?_⟩
      have hp := hpl p (hc.2 q v p e)
      rw [wp_og, wp_og, wp_ite]
      refine ⟨hc.2 q v p e, ⟨by omega, by omega⟩, fun h => ?_, fun h => next (fun p' hp' => by rw [e] at hp'; cases hp'; exact h)⟩
      rw [wp_some]
      exact Or.inr ⟨rfl, v, p, by omega, e, h⟩
    · rw [wp_some]
      exact Or.inl ⟨rfl, fun j p hj hj2 => by omega⟩
theorem hy_ok {n q : Nat} {M : cSt} (hc : cRf n M) (hb : gL M q ≤ 20) (hpl : ∀ k, k < n → 0 ≤ gT M k 3 ∧ gT M k 3 ≤ 3) :
    wp (f_Th_hasYoungField n M q) (fun x => (x = 0 ∨ x = 1) ∧ (x ≠ 0 ↔ HY M q)) := by
  have hfu : fu = 500 := rfl
  unfold f_Th_hasYoungField
  rw [wp_ob]
  refine wp_mono (hy_loop hc hb hpl fu 0 (Nat.zero_le _) (by rw [hfu]; omega)) (fun o h => ?_)
  rw [wp_os]
  rcases h with ⟨h1, h2⟩ | ⟨h1, h2⟩
  · refine ⟨fun y e => ?_, fun y e => by rw [h1] at e; cases e⟩
    rw [wp_some]
    refine ⟨Or.inl rfl, fun h => absurd rfl h, fun h => ?_⟩
    obtain ⟨j, p, hj, hp, h3⟩ := h
    exact absurd h3 (h2 j p (Nat.zero_le _) hj hp)
  · refine ⟨fun y e => (by rw [h1] at e; cases e), fun y e => ?_⟩
    rw [h1] at e; cases e
    exact ⟨Or.inr rfl, fun _ => h2, fun _ => by decide⟩
/-- its CARD -/
def crd (M : cSt) (k : Nat) : Nat := (Int.tdiv (gT M k 4 - 100) 16).toNat
theorem crd_rng {a : Int} (h1 : 100 ≤ a) (h2 : a < 420) : 0 ≤ Int.tdiv (a - 100) 16 ∧ Int.tdiv (a - 100) 16 < 20 := by
  rw [Int.tdiv_eq_ediv_of_nonneg (by omega)]
  omega
theorem soil_ok {n q : Nat} {M : cSt} (hq : q < n) (h1 : 100 ≤ gT M q 4) (h2 : gT M q 4 < 420) : f_Pl_soil n M (some q) = some (sZ M (crd M q) 1) := by
  have h3 := crd_rng h1 h2
  refine wp_eq ?_
  unfold f_Pl_soil f_Th_card
  rw [wp_on]
  refine ⟨fun e => (by cases e), fun q' e => ?_⟩
  cases e
  rw [wp_og, wp_ob, wp_og, wp_some, wp_og, wp_ite]
  refine ⟨hq, ⟨by omega, by omega⟩, ⟨by omega, by omega⟩, fun h => by omega, fun _ => ?_⟩
  rw [wp_ite]
  refine ⟨fun _ => ?_, fun h => by omega⟩
  rw [wp_og, wp_some]
  exact ⟨⟨by omega, by omega⟩, rfl⟩
theorem soilRow_loop {n r : Nat} {l : List Nat} (hlen : l.length ≤ 199) (hl : ∀ k ∈ l, k < n) : ∀ (u : Nat) (M : cSt) (v : Nat), Row M r l → cRf n M → (∀ k, k < n → gL M k ≤ 20) → (∀ k, k < n → 0 ≤ gT M k 3 ∧ gT M k 3 ≤ 3) → (∀ k ∈ l, 100 ≤ gT M k 4 ∧ gT M k 4 < 420) → (∀ j, j < 20 → gZ M j = 0 ∨ gZ M j = 1) → v ≤ l.length → l.length - v < u →
    wp (g_Pl_soilYoungHolders_2 n r u M (v : Int)) (fun M' => ZEq M M' ∧ (∀ j, j < 20 → gZ M' j = 0 ∨ gZ M' j = 1) ∧ (∀ j, j < 20 → gZ M j = 1 → gZ M' j = 1) ∧ ∀ (i k : Nat), v ≤ i → l[i]? = some k → HY M k → gZ M' (crd M k) = 1) := by
  intro u
  induction u with
  | zero => intro M v _ _ _ _ _ _ _ h; omega
  | succ u ih =>
    intro M v hR hc hb hpl ha hz hv hu
    show wp (s_Pl_soilYoungHolders_2 (g_Pl_soilYoungHolders_2 n r u) n r M (v : Int)) _
    unfold s_Pl_soilYoungHolders_2
    rw [wp_ob]
    refine wp_of (size_ok hR) ?_
    rw [wp_og, wp_og, wp_ite]
    refine ⟨⟨by omega, by omega⟩, ⟨by omega, by omega⟩, fun hlt => ?_, fun hge => ?_⟩
    · have hvl : v < l.length := by omega
      rw [wp_ob]
      refine wp_of (item_ok hR (by omega) ⟨by omega, by omega⟩) ?_
      rw [if_pos (by omega), show (v : Int).toNat = v by omega, List.getElem?_eq_getElem hvl, wp_on]
      refine ⟨fun e => (by cases e), fun q e => ?_⟩
      have hql : l[v] = q := Option.some.inj e
      have hqm : q ∈ l := by rw [← hql]; exact List.getElem_mem hvl
      have hgq : l[v]? = some q := by rw [List.getElem?_eq_getElem hvl, hql]
      have hq := hl q hqm
      have haq := ha q hqm
      rw [wp_og, wp_ob]
      refine ⟨hq, wp_mono (hy_ok hc (hb q hq) hpl) (fun x hx => ?_)⟩
      obtain ⟨hx01, hxi⟩ := hx
      rw [wp_og, wp_ite]
      refine ⟨by rcases hx01 with h | h <;> rw [h] <;> exact ⟨by decide, by decide⟩, fun hx0 => ?_, fun hx0 => ?_⟩
      · refine wp_mono (ih M (v + 1) hR hc hb hpl ha hz (by omega) (by omega)) (fun M' h => ?_)
        obtain ⟨e1, e2, e3, e4⟩ := h
        refine ⟨e1, e2, e3, fun i k hi hk hy => ?_⟩
        by_cases hiv : i = v
        · subst hiv; rw [hgq] at hk; cases hk; exact absurd hx0 (hxi.mpr hy)
        · exact e4 i k (by omega) hk hy
      · rw [wp_ob]
        refine wp_of (soil_ok hq haq.1 haq.2) ?_
        have hcr := crd_rng haq.1 haq.2
        have hcq : crd M q < 20 := by unfold crd; omega
        have hE : ZEq M (sZ M (crd M q) 1) := ⟨fun _ => rfl, fun _ _ => rfl, fun _ _ => rfl, fun _ => rfl, fun _ _ => rfl⟩
        refine wp_mono (ih (sZ M (crd M q) 1) (v + 1) (hE.row hR) (hE.refs hc) hb hpl ha (fun j hj => by
          rw [gZ_sZ]; split
          · exact Or.inr rfl
          · exact hz j hj) (by omega) (by omega)) (fun M' h => ?_)
        obtain ⟨e1, e2, e3, e4⟩ := h
        refine ⟨hE.tr e1, e2, fun j hj h => e3 j hj (by rw [gZ_sZ]; split; rfl; exact h), fun i k hi hk hy => ?_⟩
        by_cases hiv : i = v
        · subst hiv; rw [hgq] at hk; cases hk
          exact e3 _ hcq (by rw [gZ_sZ, if_pos rfl])
        · exact e4 i k (by omega) hk ((hE.hy k).mpr hy)
    · rw [wp_some]
      exact ⟨ZEq.rf M, hz, fun _ _ h => h, fun i k hi hk => by rw [List.getElem?_eq_none (by omega)] at hk; cases hk⟩
theorem clear_loop {n : Nat} : ∀ (u : Nat) (M : cSt) (v : Nat), v ≤ 20 → 20 - v < u →
    wp (g_Pl_renewCards_2 n u M (v : Int)) (fun M' => ZEq M M' ∧ (∀ j, v ≤ j → j < 20 → gZ M' j = 0) ∧ ∀ j, j < v → gZ M' j = gZ M j) := by
  intro u
  induction u with
  | zero => intro M v _ h; omega
  | succ u ih =>
    intro M v hv hu
    show wp (s_Pl_renewCards_2 (g_Pl_renewCards_2 n u) n M (v : Int)) _
    unfold s_Pl_renewCards_2
    rw [wp_og, wp_ite]
    refine ⟨⟨by omega, by omega⟩, fun hlt => ?_, fun hge => ?_⟩
    · rw [wp_og]
      refine ⟨⟨by omega, by omega⟩, ?_⟩
      rw [show (v : Int).toNat = v by omega]
      refine wp_mono (ih (sZ M v 0) (v + 1) (by omega) (by omega)) (fun M' h => ?_)
      obtain ⟨e1, e2, e3⟩ := h
      refine ⟨ZEq.tr ⟨fun _ => rfl, fun _ _ => rfl, fun _ _ => rfl, fun _ => rfl, fun _ _ => rfl⟩ e1, fun j hj hj2 => ?_, fun j hj => ?_⟩
      · by_cases hjv : j = v
        · subst hjv; rw [e3 j (by omega), gZ_sZ, if_pos rfl]
        · exact e2 j (by omega) hj2
      · rw [e3 j (by omega), gZ_sZ, if_neg (by omega)]
    · rw [wp_some]
      exact ⟨ZEq.rf M, fun j hj hj2 => by omega, fun _ _ => rfl⟩
theorem renew_ok {n : Nat} {M : cSt} {O G : List Nat} (hO : Row M 3 O) (hG : Row M 4 G) (hOl : O.length ≤ 199) (hGl : G.length ≤ 199) (hOn : ∀ k ∈ O, k < n) (hGn : ∀ k ∈ G, k < n) (hc : cRf n M) (hb : ∀ k, k < n → gL M k ≤ 20) (hpl : ∀ k, k < n → 0 ≤ gT M k 3 ∧ gT M k 3 ≤ 3) (ha : ∀ k, k ∈ O ∨ k ∈ G → 100 ≤ gT M k 4 ∧ gT M k 4 < 420) :
    wp (f_Pl_renewCards n M) (fun M' => ZEq M M' ∧ (∀ j, j < 20 → gZ M' j = 0 ∨ gZ M' j = 1) ∧ ∀ k, k ∈ O ∨ k ∈ G → HY M k → gZ M' (crd M k) = 1) := by
  have hfu : fu = 500 := rfl
  unfold f_Pl_renewCards f_Pl_soilYoungHolders
  rw [wp_ob]
  refine wp_mono (clear_loop fu M 0 (by omega) (by rw [hfu]; omega)) (fun M1 h => ?_)
  obtain ⟨e1, e2, -⟩ := h
  rw [wp_ob, wp_ob]
  refine wp_mono (soilRow_loop hOl hOn fu M1 0 (e1.row hO) (e1.refs hc) (fun k hk => by rw [e1.2.2.2.1]; exact hb k hk) (fun k hk => by rw [e1.2.1]; exact hpl k hk) (fun k hk => by rw [e1.2.1]; exact ha k (Or.inl hk)) (fun j hj => Or.inl (e2 j (Nat.zero_le _) hj)) (Nat.zero_le _) (by rw [hfu]; omega)) (fun M2 h => ?_)
  obtain ⟨f1, f2, -, f4⟩ := h
  have e12 := e1.tr f1
  rw [wp_some, wp_ob, wp_ob]
  refine wp_mono (soilRow_loop hGl hGn fu M2 0 (e12.row hG) (e12.refs hc) (fun k hk => by rw [e12.2.2.2.1]; exact hb k hk) (fun k hk => by rw [e12.2.1]; exact hpl k hk) (fun k hk => by rw [e12.2.1]; exact ha k (Or.inr hk)) f2 (Nat.zero_le _) (by rw [hfu]; omega)) (fun M3 h => ?_)
  obtain ⟨g1, g2, g3, g4⟩ := h
  rw [wp_some, wp_some]
  have cr : ∀ M' : cSt, ZEq M M' → ∀ k, crd M' k = crd M k := fun M' he k => by unfold crd; rw [he.2.1]
  refine ⟨e12.tr g1, g2, fun k hk hy => ?_⟩
  rcases hk with hk | hk
  · obtain ⟨i, hi, hi2⟩ := List.getElem_of_mem hk
    have h1 := f4 i k (Nat.zero_le _) (by rw [List.getElem?_eq_getElem hi, hi2]) ((e1.hy k).mpr hy)
    rw [cr M1 e1] at h1
    have hak := ha k (Or.inl hk)
    have hcr := crd_rng hak.1 hak.2
    exact g3 _ (by unfold crd; omega) h1
  · obtain ⟨i, hi, hi2⟩ := List.getElem_of_mem hk
    have h1 := g4 i k (Nat.zero_le _) (by rw [List.getElem?_eq_getElem hi, hi2]) ((e12.hy k).mpr hy)
    rw [cr M2 e12] at h1; exact h1
