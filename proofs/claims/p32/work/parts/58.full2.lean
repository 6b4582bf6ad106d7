/-! LAYER 2: what vanishes in a FULL. -/
def SwEq (M M' : cSt) : Prop := (∀ j, gI M' j = gI M j) ∧ (∀ k f, f ≠ 3 → f ≠ 10 → gT M' k f = gT M k f) ∧ (∀ r j, gR M' r j = gR M r j) ∧ (∀ k, gL M' k = gL M k) ∧ ∀ j, gZ M' j = gZ M j
theorem SwEq.rf (M : cSt) : SwEq M M := ⟨fun _ => rfl, fun _ _ _ _ => rfl, fun _ _ => rfl, fun _ => rfl, fun _ => rfl⟩
theorem SwEq.tr {M M' M'' : cSt} (h : SwEq M M') (h' : SwEq M' M'') : SwEq M M'' := ⟨fun j => (h'.1 j).trans (h.1 j), fun k f a b => (h'.2.1 k f a b).trans (h.2.1 k f a b), fun r j => (h'.2.2.1 r j).trans (h.2.2.1 r j), fun k => (h'.2.2.2.1 k).trans (h.2.2.2.1 k), fun j => (h'.2.2.2.2 j).trans (h.2.2.2.2 j)⟩
theorem vanish_loop {n q : Nat} : ∀ (u : Nat) (M : cSt) (v : Nat), gL M q ≤ 20 → v ≤ gL M q → gL M q - v < u →
    wp (g_Th_vanish_12 n q u M (v : Int)) (fun M' => (∀ j, gI M' j = gI M j) ∧ (∀ k f, gT M' k f = gT M k f) ∧ (∀ r j, gR M' r j = gR M r j) ∧ (∀ k, gL M' k = gL M k) ∧ (∀ j, gZ M' j = gZ M j) ∧ (∀ k j, k ≠ q ∨ j < v ∨ gL M q ≤ j → gF M' k j = gF M k j) ∧ ∀ j, v ≤ j → j < gL M q → gF M' q j = none) := by
  intro u
  induction u with
  | zero => intro M v _ _ h; omega
  | succ u ih =>
    intro M v hb hv hu
    show wp (s_Th_vanish_12 (g_Th_vanish_12 n q u) n q M (v : Int)) _
    unfold s_Th_vanish_12
    rw [wp_og, wp_og, wp_og, wp_ite]
    refine ⟨by omega, ⟨by omega, by omega⟩, ⟨by omega, by omega⟩, fun hlt => ?_, fun hge => ?_⟩
    · rw [wp_og]
      refine ⟨⟨by omega, by omega⟩, ?_⟩
      rw [show (v : Int).toNat = v by omega]
      refine wp_mono (ih (sF M q v none) (v + 1) hb (by rw [gL_sF]; omega) (by rw [gL_sF]; omega)) (fun M1 h => ?_)
      obtain ⟨a, b, c, d, e, f, g⟩ := h
      refine ⟨a, b, c, d, e, fun k j hk => ?_, fun j hj hj2 => ?_⟩
      · rw [f k j (by rw [gL_sF]; omega), gF_sF, if_neg (by omega)]
      · by_cases hjv : j = v
        · subst hjv
          rw [f q j (Or.inr (Or.inl (by omega))), gF_sF, if_pos ⟨rfl, rfl⟩]
        · exact g j (by omega) hj2
    · rw [wp_some]
      exact ⟨fun _ => rfl, fun _ _ => rfl, fun _ _ => rfl, fun _ => rfl, fun _ => rfl, fun _ _ _ => rfl, fun j hj hj2 => by omega⟩
/-- one thing is gone -/
def VanP (M : cSt) (q : Nat) (M' : cSt) : Prop := SwEq M M' ∧ (∀ k, gT M' k 3 = if k = q then 0 else gT M k 3) ∧ (∀ k, k ≠ q → gT M' k 10 = gT M k 10) ∧ (∀ k j, k ≠ q → gF M' k j = gF M k j) ∧ (∀ j, j < gL M q → gF M' q j = none) ∧ ∀ j p, gF M' q j = some p → gF M q j = some p
theorem vanish_ok {n q : Nat} {M : cSt} (hb : gL M q ≤ 20) : wp (f_Th_vanish n M q) (VanP M q) := by
  have hfu : fu = 500 := rfl
  unfold f_Th_vanish
  rw [wp_ob]
  refine wp_mono (vanish_loop fu (sT (sT M q 3 0) q 10 0) 0 hb (Nat.zero_le _) (by show gL M q - 0 < fu; rw [hfu]; omega)) (fun M1 h => ?_)
  obtain ⟨a, b, c, d, e, f, g⟩ := h
  rw [wp_some]
  refine ⟨⟨a, fun k f h3 h10 => ?_, c, d, e⟩, fun k => ?_, fun k hk => ?_, fun k j hk => f k j (Or.inl hk), fun j hj => g j (Nat.zero_le _) hj, fun j p hp => ?_⟩
  · rw [b k f, gT_sT, if_neg (fun h9 => h10 h9.2), gT_sT, if_neg (fun h9 => h3 h9.2)]
  · rw [b k 3, gT_sT, if_neg (fun h9 => absurd h9.2 (by decide)), gT_sT]
    by_cases h9 : k = q
    · rw [if_pos ⟨h9, rfl⟩, if_pos h9]
    · rw [if_neg (fun h8 => h9 h8.1), if_neg h9]
  · rw [b k 10, gT_sT, if_neg (fun h9 => hk h9.1), gT_sT, if_neg (fun h9 => hk h9.1)]
  · by_cases hj : j < gL M q
    · rw [g j (Nat.zero_le _) hj] at hp; cases hp
    · rw [f q j (Or.inr (Or.inr (by show gL M q ≤ j; omega)))] at hp; exact hp
/-- what a FULL sweeps, from v on -/
def Sw (n : Nat) (M : cSt) (v k : Nat) : Prop := v ≤ k ∧ k < n ∧ gT M k 3 ≠ 0 ∧ gT M k 12 = 0
def SwP (n : Nat) (M : cSt) (v : Nat) (M' : cSt) : Prop := SwEq M M' ∧ ∀ k, (Sw n M v k → gT M' k 3 = 0 ∧ ∀ j, j < gL M k → gF M' k j = none) ∧ (¬ Sw n M v k → gT M' k 3 = gT M k 3 ∧ gT M' k 10 = gT M k 10 ∧ ∀ j, gF M' k j = gF M k j) ∧ ∀ j p, gF M' k j = some p → gF M k j = some p
theorem TB.sw {n : Nat} {M M' : cSt} (h : TB n M) (he : SwEq M M') (hp : ∀ k, k < n → 0 ≤ gT M' k 3 ∧ gT M' k 3 ≤ 3) (hf : ∀ k j q, gF M' k j = some q → gF M k j = some q) : TB n M' := by
  obtain ⟨a, b, c, d, e, f, g, i, j, l⟩ := h
  exact ⟨a, ⟨(he.1 _).trans b.1, fun j hj => (he.2.2.1 0 j).trans (b.2 j hj)⟩, ⟨fun r j k hk => c.1 r j k (by rw [← he.2.2.1 r j]; exact hk), fun k j q hq => c.2 k j q (hf k j q hq)⟩, fun k hk => by rw [he.2.2.2.1]; exact d k hk, fun k hk => by rw [he.2.1 k 2 (by decide) (by decide)]; exact e k hk, by rw [he.1]; exact f, by rw [he.1]; exact g, fun k hk => by rw [he.2.1 k 9 (by decide) (by decide)]; exact i k hk, hp, fun k hk => by rw [he.2.1 k 5 (by decide) (by decide)]; exact l k hk⟩
def swc (M : cSt) (k : Nat) : Int := if gT M k 3 = 0 then 0 else if gT M k 12 = 0 then 1 else 0
theorem sweep_loop {n : Nat} : ∀ (u : Nat) (M : cSt) (g : Int) (v : Nat), TB n M → (∀ k, k < n → gT M k 12 = 0 ∨ gT M k 12 = 1) → v ≤ n → n - v < u →
    wp (g_Fu_sweep_4 n u M g (v : Int)) (fun x => SwP n M v x.1 ∧ x.2 = g + (sumN (swc M) n - sumN (swc M) v)) := by
  intro u
  induction u with
  | zero => intro M g v _ _ _ h; omega
  | succ u ih =>
    intro M g v hB h12 hv hu
    have hn := hB.1
    show wp (s_Fu_sweep_4 (g_Fu_sweep_4 n u) n M g (v : Int)) _
    unfold s_Fu_sweep_4
    rw [wp_ob]
    refine wp_of (size_ok hB.2.1) ?_
    rw [List.length_range, wp_og, wp_og, wp_ite]
    refine ⟨⟨by omega, by omega⟩, ⟨by omega, by omega⟩, fun hlt => ?_, fun hge => ?_⟩
    · rw [wp_ob]
      refine wp_of (item_ok hB.2.1 (by rw [List.length_range]; omega) ⟨by omega, by omega⟩) ?_
      rw [if_pos (by omega), show (v : Int).toNat = v by omega, List.getElem?_range (by omega), wp_on]
      refine ⟨fun e => (by cases e), fun q e => ?_⟩
      cases e
      have hvn : v < n := by omega
      have hp := hB.2.2.2.2.2.2.2.2.1 v hvn
      have hb := hB.2.2.2.1 v hvn
      have hst : sumN (swc M) (v + 1) = sumN (swc M) v + swc M v := rfl
      have skip : ¬ (gT M v 3 ≠ 0 ∧ gT M v 12 = 0) → wp (g_Fu_sweep_4 n u M g ((v : Int) + 1)) (fun x => SwP n M v x.1 ∧ x.2 = g + (sumN (swc M) n - sumN (swc M) v)) := by
        intro hno
        refine wp_mono (ih M g (v + 1) hB h12 (by omega) (by omega)) (fun x h => ?_)
        obtain ⟨⟨h1, h2⟩, h3⟩ := h
        have hsw : ∀ k, Sw n M (v + 1) k ↔ Sw n M v k := fun k => by
          unfold Sw
          constructor
          · exact fun h => ⟨by omega, h.2⟩
          · intro h
            by_cases hk : k = v
            · subst hk; exact absurd h.2.2 hno
            · exact ⟨by omega, h.2⟩
        refine ⟨⟨h1, fun k => ⟨fun h => (h2 k).1 ((hsw k).mpr h), fun h => (h2 k).2.1 (fun h9 => h ((hsw k).mp h9)), (h2 k).2.2⟩⟩, ?_⟩
        rw [h3, hst]
        have : swc M v = 0 := by
          unfold swc
          by_cases h0 : gT M v 3 = 0
          · rw [if_pos h0]
          · rw [if_neg h0, if_neg (fun h9 => hno ⟨h0, h9⟩)]
        omega
      rw [wp_og, wp_og, wp_ite]
      refine ⟨hvn, ⟨by omega, by omega⟩, fun h0 => skip (fun h => h.1 h0), fun h0 => ?_⟩
      rw [wp_og, wp_ite]
      refine ⟨by rcases h12 v hvn with h | h <;> rw [h] <;> exact ⟨by decide, by decide⟩, fun hm => ?_, fun hm => skip (fun h => hm h.2)⟩
      rw [wp_ob]
      refine wp_mono (vanish_ok (by omega)) (fun M1 h => ?_)
      obtain ⟨hE, hpl, h10, hF, hFq, hFs⟩ := h
      have hsub : ∀ k j q, gF M1 k j = some q → gF M k j = some q := fun k j q hq => by
        by_cases hk : k = v
        · subst hk; exact hFs j q hq
        · rw [hF k j hk] at hq; exact hq
      have hB1 : TB n M1 := hB.sw hE (fun k hk => by
        rw [hpl k]; split
        · omega
        · exact hB.2.2.2.2.2.2.2.2.1 k hk) hsub
      refine wp_mono (ih M1 (g + 1) (v + 1) hB1 (fun k hk => by rw [hE.2.1 k 12 (by decide) (by decide)]; exact h12 k hk) (by omega) (by omega)) (fun x h => ?_)
      obtain ⟨⟨h1, h2⟩, h3⟩ := h
      have hsw : ∀ k, k ≠ v → (Sw n M1 (v + 1) k ↔ Sw n M v k) := fun k hk => by
        unfold Sw
        rw [hpl k, if_neg hk, hE.2.1 k 12 (by decide) (by decide)]
        exact ⟨fun h => ⟨by omega, h.2⟩, fun h => ⟨by omega, h.2⟩⟩
      have hnv : ¬ Sw n M1 (v + 1) v := fun h => by have := h.1; omega
      refine ⟨⟨hE.tr h1, fun k => ?_⟩, ?_⟩
      · by_cases hk : k = v
        · subst hk
          obtain ⟨a1, a2, a3⟩ := (h2 k).2.1 hnv
          refine ⟨fun _ => ⟨by rw [a1, hpl, if_pos rfl], fun j hj => by rw [a3 j]; exact hFq j hj⟩, fun h => absurd ⟨Nat.le_refl _, hvn, h0, hm⟩ h, fun j p hj => hsub k j p ((h2 k).2.2 j p hj)⟩
        · refine ⟨fun h => ?_, fun h => ?_, fun j p hj => hsub k j p ((h2 k).2.2 j p hj)⟩
          · obtain ⟨a1, a2⟩ := (h2 k).1 ((hsw k hk).mpr h)
            exact ⟨a1, fun j hj => a2 j (by rw [hE.2.2.2.1]; exact hj)⟩
          · obtain ⟨a1, a2, a3⟩ := (h2 k).2.1 (fun h9 => h ((hsw k hk).mp h9))
            exact ⟨by rw [a1, hpl, if_neg hk], a2.trans (h10 k hk), fun j => (a3 j).trans (hF k j hk)⟩
      · rw [h3]
        have e1 : swc M v = 1 := by unfold swc; rw [if_neg h0, if_pos hm]
        have e2 : sumN (swc M1) n - sumN (swc M1) (v + 1) = sumN (swc M) n - sumN (swc M) (v + 1) := by
          have hd : ∀ k, v < k → swc M1 k = swc M k := fun k hk => by
            have e9 : gT M1 k 3 = gT M k 3 := by rw [hpl k, if_neg (show ¬ k = v by omega)]
            unfold swc; rw [e9, hE.2.1 k 12 (by decide) (by decide)]
          have : ∀ d, sumN (swc M1) (v + 1 + d) - sumN (swc M1) (v + 1) = sumN (swc M) (v + 1 + d) - sumN (swc M) (v + 1) := by
            intro d
            induction d with
            | zero => simp
            | succ d ih2 =>
              show sumN (swc M1) (v + 1 + d) + swc M1 (v + 1 + d) - _ = sumN (swc M) (v + 1 + d) + swc M (v + 1 + d) - _
              rw [hd (v + 1 + d) (by omega)]; omega
          have h9 := this (n - (v + 1))
          rw [show v + 1 + (n - (v + 1)) = n by omega] at h9
          exact h9
        omega
    · rw [wp_some]
      refine ⟨⟨SwEq.rf M, fun k => ⟨fun h => ?_, fun _ => ⟨rfl, rfl, fun _ => rfl⟩, fun _ _ h => h⟩⟩, ?_⟩
      · have := h.1; have := h.2.1; omega
      · have : v = n := by omega
        subst this; omega
theorem sweep_ok {n : Nat} {M : cSt} (hB : TB n M) (h12 : ∀ k, k < n → gT M k 12 = 0 ∨ gT M k 12 = 1) : wp (f_Fu_sweep n M) (fun x => SwP n M 0 x.1 ∧ x.2 = sumN (swc M) n) := by
  have hfu : fu = 500 := rfl
  have hn := hB.1
  unfold f_Fu_sweep
  rw [wp_ob]
  refine wp_mono (sweep_loop fu M 0 0 hB h12 (Nat.zero_le _) (by rw [hfu]; omega)) (fun x h => ?_)
  rw [wp_some]
  refine ⟨h.1, ?_⟩
  have := h.2
  show x.2 = _
  rw [this]
  show 0 + (sumN (swc M) n - 0) = _
  omega
theorem RchP.congr2 {n : Nat} {M M' : cSt} {s : Int} {h : Option Nat} {C C' I I' : Nat → Prop} {k : Nat} (hc : cRf n M) (hI : ∀ k, I k → k < n) (h1 : ∀ k, I k → I' k) (hF : ∀ q k, q < n → FolP M s h q k → FolP M' s h q k) (hV : ∀ q a k, q < n → ValP M h C q a k → ValP M' h C' q a k) (hk : RchP M s h C I k) : RchP M' s h C' I' k := by
  intro S a b c
  have := hk (fun k => S k ∧ k < n) (fun k hk => ⟨a k (h1 k hk), hI k hk⟩) (fun q k hq hf => ⟨b q k hq.1 (hF q k hq.2 hf), by obtain ⟨-, j, -, -, h⟩ := hf; exact hc.2 q j k h⟩) (fun q x k hq hx hv => ⟨c q x k hq.1 hx.1 (hV q x k hq.2 hv), hc.2 q 1 k hv.2.2.2.2⟩)
  exact this.1
