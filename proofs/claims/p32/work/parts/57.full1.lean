/-! LAYER 2: a FULL, (b), (c), and what vanishes. -/
/-- all but fields is as it was -/
def FEq (M M' : cSt) : Prop := (∀ j, gI M' j = gI M j) ∧ (∀ k f, gT M' k f = gT M k f) ∧ (∀ r j, gR M' r j = gR M r j) ∧ (∀ k, gL M' k = gL M k) ∧ ∀ j, gZ M' j = gZ M j
theorem FEq.rf (M : cSt) : FEq M M := ⟨fun _ => rfl, fun _ _ => rfl, fun _ _ => rfl, fun _ => rfl, fun _ => rfl⟩
theorem FEq.tr {M M' M'' : cSt} (h : FEq M M') (h' : FEq M' M'') : FEq M M'' := ⟨fun j => (h'.1 j).trans (h.1 j), fun k f => (h'.2.1 k f).trans (h.2.1 k f), fun r j => (h'.2.2.1 r j).trans (h.2.2.1 r j), fun k => (h'.2.2.2.1 k).trans (h.2.2.2.1 k), fun j => (h'.2.2.2.2 j).trans (h.2.2.2.2 j)⟩
theorem FEq.row {M M' : cSt} {r : Nat} {l : List Nat} (h : FEq M M') (hl : Row M r l) : Row M' r l := ⟨(h.1 _).trans hl.1, fun j hj => (h.2.2.1 r j).trans (hl.2 j hj)⟩
theorem FEq.refs {n : Nat} {M M' : cSt} (h : FEq M M') (hc : cRf n M) (hf : ∀ k j q, gF M' k j = some q → gF M k j = some q) : cRf n M' := ⟨fun r j k hk => hc.1 r j k (by rw [← h.2.2.1 r j]; exact hk), fun k j q hq => hc.2 k j q (hf k j q hq)⟩
theorem FEq.mkd {n : Nat} {M M' : cSt} {L : List Nat} (h : FEq M M') (hM : Mkd n M L) : Mkd n M' L := ⟨h.row hM.1, hM.2.1, hM.2.2.1, fun k hk => (h.2.1 k 12).trans (hM.2.2.2 k hk)⟩
theorem FEq.tc {n : Nat} {M M' : cSt} (h : FEq M M') (hT : TC n M) (hf : ∀ k j q, gF M' k j = some q → gF M k j = some q) : TC n M' := by
  obtain ⟨a, b, c, d, e, f, g⟩ := hT
  exact ⟨a, h.row b, h.refs c hf, fun k hk => by rw [h.2.2.2.1]; exact d k hk, fun k hk => by rw [h.2.1]; exact e k hk, by rw [h.1]; exact f, fun k hk => by rw [h.2.1]; exact g k hk⟩
theorem FEq.tb {n : Nat} {M M' : cSt} (h : FEq M M') (hT : TB n M) (hf : ∀ k j q, gF M' k j = some q → gF M k j = some q) : TB n M' := by
  obtain ⟨a, b, c, d, e, f, g, i, j, l⟩ := hT
  exact ⟨a, h.row b, h.refs c hf, fun k hk => by rw [h.2.2.2.1]; exact d k hk, fun k hk => by rw [h.2.1]; exact e k hk, by rw [h.1]; exact f, by rw [h.1]; exact g, fun k hk => by rw [h.2.1]; exact i k hk, fun k hk => by rw [h.2.1]; exact j k hk, fun k hk => by rw [h.2.1]; exact l k hk⟩
theorem write_ok {n q : Nat} {M : cSt} {i : Int} (hb : gL M q ≤ 20) (h0 : 0 ≤ i) (hi : i < gL M q) : f_Th_write n M q i none = some (sF M q i.toNat none) := by
  refine wp_eq ?_
  unfold f_Th_write
  simp only [wp_og, wp_ite, wp_on, wp_some]
  exact ⟨⟨by omega, by omega⟩, fun h => by omega, fun _ => ⟨by omega, ⟨by omega, by omega⟩, fun _ => ⟨fun _ => ⟨⟨h0, hi⟩, trivial⟩, fun k e => by cases e⟩, fun h => by omega⟩⟩
theorem writeS_ok {n q k : Nat} {M : cSt} {i : Int} (hk : k < n) (hb : gL M q ≤ 20) (h0 : 0 ≤ i) (hi : i < gL M q) : f_Th_write n M q i (some k) = some (sF M q i.toNat (some k)) := by
  refine wp_eq ?_
  unfold f_Th_write
  simp only [wp_og, wp_ite, wp_on, wp_some]
  exact ⟨⟨by omega, by omega⟩, fun h => by omega, fun _ => ⟨by omega, ⟨by omega, by omega⟩, fun _ => ⟨fun e => (by cases e), fun k' e => by cases e; exact ⟨hk, ⟨h0, hi⟩, rfl⟩⟩, fun h => by omega⟩⟩
/-- its first field leads to a marked one -/
def KM (M : cSt) (L : List Nat) (k : Nat) : Prop := ∃ a, gF M k 0 = some a ∧ a ∈ L
/-- what (b) empties -/
def Drp (M : cSt) (L : List Nat) (s : Int) (k j : Nat) : Prop := (gT M k 2 = 3 ∧ k ∈ L ∧ ¬ KM M L k ∧ (j = 0 ∨ j = 1)) ∨ ((gT M k 2 = 1 ∨ (gT M k 2 = 2 ∧ s = 0)) ∧ ¬ KM M L k ∧ j = 0)
def DrpP (n : Nat) (M : cSt) (L : List Nat) (s : Int) (v : Nat) (M' : cSt) : Prop := FEq M M' ∧ ∀ k j, ((v ≤ k ∧ k < n ∧ Drp M L s k j) → gF M' k j = none) ∧ (¬ (v ≤ k ∧ k < n ∧ Drp M L s k j) → gF M' k j = gF M k j)
theorem DrpP.sub {n : Nat} {M M' : cSt} {L : List Nat} {s : Int} {v : Nat} (h : DrpP n M L s v M') : ∀ k j q, gF M' k j = some q → gF M k j = some q := fun k j q hq => by
  by_cases hd : v ≤ k ∧ k < n ∧ Drp M L s k j
  · rw [(h.2 k j).1 hd] at hq; cases hq
  · rw [(h.2 k j).2 hd] at hq; exact hq
theorem drop_loop {n : Nat} {s : Int} (hs : s = 0 ∨ s = 1) : ∀ (u : Nat) (M : cSt) (L : List Nat) (v : Nat), TC n M → Mkd n M L → v ≤ n → n - v < u → wp (g_Fu_dropReferences_2 n s u M (v : Int)) (DrpP n M L s v) := by
  intro u
  induction u with
  | zero => intro M L v _ _ _ h; omega
  | succ u ih =>
    intro M L v hT hM hv hu
    have hn := hT.1
    have hsr : inR s := by rcases hs with h | h <;> rw [h] <;> exact ⟨by decide, by decide⟩
    show wp (s_Fu_dropReferences_2 (g_Fu_dropReferences_2 n s u) n s M (v : Int)) _
    unfold s_Fu_dropReferences_2
    rw [wp_ob]
    refine wp_of (all_size hT) ?_
    rw [wp_og, wp_og, wp_ite]
    refine ⟨⟨by omega, by omega⟩, ⟨by omega, by omega⟩, fun hlt => ?_, fun hge => ?_⟩
    · rw [wp_ob]
      refine wp_of (all_item hT (by omega) (by omega)) ?_
      rw [show (v : Int).toNat = v by omega, wp_on]
      refine ⟨fun e => (by cases e), fun q e => ?_⟩
      cases e
      have hvn : v < n := by omega
      have hb := hT.2.2.2.1 v hvn
      have hkd := hT.2.2.2.2.1 v hvn
      have h12 := hM.2.2.2 v hvn
      -- a step, and the rest
      have go : ∀ M1, FEq M M1 → (∀ k j, (k = v ∧ Drp M L s v j → gF M1 k j = none) ∧ (¬ (k = v ∧ Drp M L s v j) → gF M1 k j = gF M k j)) → wp (g_Fu_dropReferences_2 n s u M1 ((v : Int) + 1)) (DrpP n M L s v) := by
        intro M1 hF hG
        have hsub : ∀ k j q, gF M1 k j = some q → gF M k j = some q := fun k j q hq => by
          by_cases hd : k = v ∧ Drp M L s v j
          · rw [(hG k j).1 hd] at hq; cases hq
          · rw [(hG k j).2 hd] at hq; exact hq
        refine wp_mono (ih M1 L (v + 1) (hF.tc hT hsub) (hF.mkd hM) (by omega) (by omega)) (fun M2 h => ?_)
        obtain ⟨hF2, hG2⟩ := h
        have hdr : ∀ k j, k ≠ v → (Drp M1 L s k j ↔ Drp M L s k j) := fun k j hk => by
          unfold Drp KM
          rw [hF.2.1 k 2, (hG k 0).2 (fun h9 => hk h9.1)]
        refine ⟨hF.tr hF2, fun k j => ⟨fun hd => ?_, fun hd => ?_⟩⟩
        · by_cases hk : k = v
          · subst hk
            rw [(hG2 k j).2 (fun h9 => absurd h9.1 (by omega))]
            exact (hG k j).1 ⟨rfl, hd.2.2⟩
          · exact (hG2 k j).1 ⟨by omega, hd.2.1, (hdr k j hk).mpr hd.2.2⟩
        · by_cases hk : k = v
          · subst hk
            rw [(hG2 k j).2 (fun h9 => absurd h9.1 (by omega))]
            exact (hG k j).2 (fun h9 => hd ⟨Nat.le_refl _, hvn, h9.2⟩)
          · rw [(hG2 k j).2 (fun h9 => hd ⟨by omega, h9.2.1, (hdr k j hk).mp h9.2.2⟩)]
            exact (hG k j).2 (fun h9 => hk h9.1)
      have same : (∀ j, ¬ Drp M L s v j) → wp (g_Fu_dropReferences_2 n s u M ((v : Int) + 1)) (DrpP n M L s v) := fun hno => go M (FEq.rf M) (fun k j => ⟨fun h9 => absurd h9.2 (hno j), fun _ => rfl⟩)
      have hF0 : ∀ M1 i, FEq M1 (sF M1 v i none) := fun M1 i => ⟨fun _ => rfl, fun _ _ => rfl, fun _ _ => rfl, fun _ => rfl, fun _ => rfl⟩
      -- the referent of a weak or soft one
      have weak : gT M v 2 ≠ 3 → wp (ob (f_X_isLoose n M (gT M v 2) s) (fun x37 => og (inR x37) (if x37 = 0 then (g_Fu_dropReferences_2 n s u) M ((v : Int) + 1) else ob (f_Tr_hasMarked n M (some v) 0) (fun x40 => og (inR x40) (if x40 = 0 then ob (f_Th_write n M v 0 none) (fun x43 => (g_Fu_dropReferences_2 n s u) x43 ((v : Int) + 1)) else (g_Fu_dropReferences_2 n s u) M ((v : Int) + 1)))))) (DrpP n M L s v) := by
        intro hk3
        rw [wp_ob]
        refine wp_of (loose_ok ⟨by omega, by omega⟩ hsr) ?_
        by_cases hl : gT M v 2 = 1 ∨ (gT M v 2 = 2 ∧ s = 0)
        · rw [if_pos hl, wp_og, wp_ite]
          refine ⟨⟨by decide, by decide⟩, fun h => absurd h (by decide), fun _ => ?_⟩
          rw [wp_ob]
          refine wp_mono (hasMarked_ok hvn hT hM) (fun x hx => ?_)
          obtain ⟨hx01, hxi⟩ := hx
          rw [wp_og, wp_ite]
          refine ⟨by rcases hx01 with h | h <;> rw [h] <;> exact ⟨by decide, by decide⟩, fun hx0 => ?_, fun hx0 => same (fun j hd => ?_)⟩
          · have hnk : ¬ KM M L v := fun h9 => absurd hx0 (hxi.mpr h9)
            rw [wp_ob]
            refine wp_of (write_ok (by omega) (by decide) (by omega)) ?_
            refine go _ (hF0 M _) (fun k j => ⟨fun h9 => ?_, fun h9 => ?_⟩)
            · rcases h9.2 with hd | hd
              · exact absurd hd.1 hk3
              · rw [gF_sF, if_pos ⟨h9.1, by rw [hd.2.2]; rfl⟩]
            · rw [gF_sF, if_neg (fun h8 => h9 ⟨h8.1, Or.inr ⟨hl, hnk, h8.2⟩⟩)]
          · rcases hd with hd | hd
            · exact hk3 hd.1
            · exact hd.2.1 (hxi.mp hx0)
        · rw [if_neg hl, wp_og, wp_ite]
          refine ⟨⟨by decide, by decide⟩, fun _ => same (fun j hd => ?_), fun h => absurd rfl h⟩
          rcases hd with hd | hd
          · exact hk3 hd.1
          · exact hl hd.1
      have hl3 : gT M v 2 = 3 → ¬ (gT M v 2 = 1 ∨ (gT M v 2 = 2 ∧ s = 0)) := fun h9 h8 => by omega
      rw [wp_og, wp_og, wp_ite]
      refine ⟨hvn, ⟨by omega, by omega⟩, fun hk3 => ?_, weak⟩
      -- pairs that stay as they are
      have pair : (∀ j, ¬ Drp M L s v j) → ∀ (A : Int → Option cSt), wp (ob (f_X_isLoose n M (gT M v 2) s) (fun x => og (inR x) (if x = 0 then (g_Fu_dropReferences_2 n s u) M ((v : Int) + 1) else A x))) (DrpP n M L s v) := fun hno A => by
        rw [wp_ob]
        refine wp_of (loose_ok ⟨by omega, by omega⟩ hsr) ?_
        rw [if_neg (hl3 hk3), wp_og, wp_ite]
        exact ⟨⟨by decide, by decide⟩, fun _ => same hno, fun h => absurd rfl h⟩
      rw [wp_og, wp_ite]
      refine ⟨by rw [h12]; split <;> exact ⟨by decide, by decide⟩, fun h0 => ?_, fun h0 => ?_⟩
      · have hnL : v ∉ L := fun h9 => by rw [if_pos h9] at h12; omega
        refine pair (fun j hd => ?_) _
        rcases hd with hd | hd
        · exact hnL hd.2.1
        · exact hl3 hk3 hd.1
      · have hL : v ∈ L := by
          by_cases h9 : v ∈ L
          · exact h9
          · rw [if_neg h9] at h12; exact absurd h12 h0
        rw [wp_ob]
        refine wp_mono (hasMarked_ok hvn hT hM) (fun x hx => ?_)
        obtain ⟨hx01, hxi⟩ := hx
        rw [wp_og, wp_ite]
        refine ⟨by rcases hx01 with h | h <;> rw [h] <;> exact ⟨by decide, by decide⟩, fun hx0 => ?_, fun hx0 => pair (fun j hd => ?_) _⟩
        · have hnk : ¬ KM M L v := fun h9 => absurd hx0 (hxi.mpr h9)
          rw [wp_ob]
          refine wp_of (write_ok (by omega) (by decide) (by omega)) ?_
          rw [wp_ob]
          refine wp_of (write_ok (M := sF M v (0 : Int).toNat none) (by rw [gL_sF]; omega) (by decide) (by rw [gL_sF]; omega)) ?_
          rw [wp_ob]
          refine wp_of (loose_ok (a := gT M v 2) ⟨by omega, by omega⟩ hsr) ?_
          rw [if_neg (hl3 hk3), wp_og, wp_ite]
          refine ⟨⟨by decide, by decide⟩, fun _ => ?_, fun h => absurd rfl h⟩
          refine go _ ((hF0 M _).tr (hF0 _ _)) (fun k j => ⟨fun h9 => ?_, fun h9 => ?_⟩)
          · rw [gF_sF, gF_sF]
            rcases h9.2 with hd | hd
            · rcases hd.2.2.2 with e | e
              · rw [if_neg (fun h8 => by have := h8.2; rw [e] at this; exact absurd this (by decide)), if_pos ⟨h9.1, by rw [e]; rfl⟩]
              · rw [if_pos ⟨h9.1, by rw [e]; rfl⟩]
            · exact absurd hd.1 (hl3 hk3)
          · rw [gF_sF, gF_sF, if_neg (fun h8 => h9 ⟨h8.1, Or.inl ⟨hk3, hL, hnk, Or.inr h8.2⟩⟩), if_neg (fun h8 => h9 ⟨h8.1, Or.inl ⟨hk3, hL, hnk, Or.inl h8.2⟩⟩)]
        · rcases hd with hd | hd
          · exact hd.2.2.1 (hxi.mp hx0)
          · exact hl3 hk3 hd.1
    · rw [wp_some]
      exact ⟨FEq.rf M, fun k j => ⟨fun h9 => by omega, fun _ => rfl⟩⟩
theorem drop_ok {n : Nat} {s : Int} (hs : s = 0 ∨ s = 1) {M : cSt} {L : List Nat} (hT : TC n M) (hM : Mkd n M L) : wp (f_Fu_dropReferences n M s) (DrpP n M L s 0) := by
  have hfu : fu = 500 := rfl
  have hn := hT.1
  unfold f_Fu_dropReferences
  rw [wp_ob]
  refine wp_mono (drop_loop hs fu M L 0 hT hM (Nat.zero_le _) (by rw [hfu]; omega)) (fun M1 h => ?_)
  rw [wp_some]; exact h
/-- the queue: raised ones, none twice -/
def Qok (n : Nat) (M : cSt) (Q : List Nat) : Prop := Row M 1 Q ∧ Q.Nodup ∧ ∀ k ∈ Q, k < n ∧ gT M k 2 = 0
theorem raise_loop {n : Nat} : ∀ (u : Nat) (M : cSt) (L Q : List Nat) (v : Nat), TC n M → (∀ k, k < n → 0 ≤ gT M k 3 ∧ gT M k 3 ≤ 3) → Mkd n M L → Qok n M Q → v ≤ n → n - v < u →
    wp (g_Fu_raiseFinals_2 n u M (v : Int)) (fun M' => TC n M' ∧ Eqx [11, 15] [2, 12] [1, 5] M M' ∧ ∃ L', Mkd n M' (L ++ L') ∧ Qok n M' (Q ++ L') ∧ (∀ k, k ∈ L' ↔ (v ≤ k ∧ Fin9 M n k ∧ k ∉ L)) ∧ ∀ k, k < n → gT M' k 2 = if k ∈ L' then 0 else gT M k 2) := by
  intro u
  induction u with
  | zero => intro M L Q v _ _ _ _ _ h; omega
  | succ u ih =>
    intro M L Q v hT hP hM hQ hv hu
    have hn := hT.1
    show wp (s_Fu_raiseFinals_2 (g_Fu_raiseFinals_2 n u) n M (v : Int)) _
    unfold s_Fu_raiseFinals_2
    rw [wp_ob]
    refine wp_of (all_size hT) ?_
    rw [wp_og, wp_og, wp_ite]
    refine ⟨⟨by omega, by omega⟩, ⟨by omega, by omega⟩, fun hlt => ?_, fun hge => ?_⟩
    · rw [wp_ob]
      refine wp_of (all_item hT (by omega) (by omega)) ?_
      rw [show (v : Int).toNat = v by omega, wp_on]
      refine ⟨fun e => (by cases e), fun q e => ?_⟩
      cases e
      have hvn : v < n := by omega
      have hkd := hT.2.2.2.2.1 v hvn
      have hp := hP v hvn
      have h12 := hM.2.2.2 v hvn
      have skip : ¬ (Fin9 M n v ∧ v ∉ L) → wp (g_Fu_raiseFinals_2 n u M ((v : Int) + 1)) (fun M' => TC n M' ∧ Eqx [11, 15] [2, 12] [1, 5] M M' ∧ ∃ L', Mkd n M' (L ++ L') ∧ Qok n M' (Q ++ L') ∧ (∀ k, k ∈ L' ↔ (v ≤ k ∧ Fin9 M n k ∧ k ∉ L)) ∧ ∀ k, k < n → gT M' k 2 = if k ∈ L' then 0 else gT M k 2) := by
        intro hno
        refine wp_mono (ih M L Q (v + 1) hT hP hM hQ (by omega) (by omega)) (fun M2 h => ?_)
        obtain ⟨hT2, he2, L2, hM2, hQ2, h2, h3⟩ := h
        refine ⟨hT2, he2, L2, hM2, hQ2, fun k => (h2 k).trans ⟨fun h => ⟨by omega, h.2⟩, fun h => ⟨?_, h.2⟩⟩, h3⟩
        by_cases hk : k = v
        · subst hk; exact absurd h.2 hno
        · omega
      rw [wp_og, wp_og, wp_ite]
      refine ⟨hvn, ⟨by omega, by omega⟩, fun h0 => skip (fun h => h.1.2.1 h0), fun h0 => ?_⟩
      rw [wp_og, wp_ite]
      refine ⟨⟨by omega, by omega⟩, fun h4 => ?_, fun h4 => skip (fun h => h4 h.1.2.2)⟩
      rw [wp_og, wp_ite]
      refine ⟨by rw [h12]; split <;> exact ⟨by decide, by decide⟩, fun h0m => ?_, fun h0m => skip (fun h => ?_)⟩
      · have hnL : v ∉ L := fun h9 => by rw [if_pos h9] at h12; omega
        have hnQ : v ∉ Q := fun h9 => by have := (hQ.2.2 v h9).2; omega
        have hQl : Q.length ≤ n := nodup_le n Q hQ.2.1 (fun k hk => (hQ.2.2 k hk).1)
        rw [wp_ob]
        have hQr : Row (sT M v 2 0) 1 Q := ⟨hQ.1.1, hQ.1.2⟩
        refine wp_of (add_ok hQr (by omega) hvn) ?_
        rw [wp_ob]
        have he0 : Eqx [11, 15] [2, 12] [1, 5] M (addR (sT M v 2 0) 1 v) := by
          have h1 : Eqx [11, 15] [2, 12] [1, 5] M (sT M v 2 0) := ⟨fun _ _ => rfl, fun k f hf => by rw [gT_sT, if_neg (fun h9 => hf (by rw [h9.2]; decide))], fun _ _ _ => rfl, fun _ => rfl, fun _ _ => rfl, fun _ => rfl⟩
          exact h1.tr ((eqx_addR (sT M v 2 0) 1 v).mono (by decide) (by decide) (by decide))
        have hk0 : ∀ k, gT (addR (sT M v 2 0) 1 v) k 2 = if k = v then 0 else gT M k 2 := fun k => by
          rw [(eqx_addR (sT M v 2 0) 1 v).2.1 k 2 List.not_mem_nil, gT_sT]
          by_cases h9 : k = v
          · rw [if_pos ⟨h9, rfl⟩, if_pos h9]
          · rw [if_neg (fun h8 => h9 h8.1), if_neg h9]
        have hT0 : TC n (addR (sT M v 2 0) 1 v) := by
          obtain ⟨a, b, c, d, e, f, g⟩ := hT
          refine ⟨a, he0.row b (by decide) (by decide), cRf_addR (M := sT M v 2 0) c hvn, d, fun k hk => ?_, by rw [he0.1 19 (by decide)]; exact f, fun k hk => by rw [he0.2.1 k 13 (by decide)]; exact g k hk⟩
          rw [hk0 k]; split
          · omega
          · exact e k hk
        have hM0 : Mkd n (addR (sT M v 2 0) 1 v) L := by
          refine ⟨row_addR_ne (r := 1) (r' := 5) (M := sT M v 2 0) ⟨hM.1.1, hM.1.2⟩ (by decide), hM.2.1, hM.2.2.1, fun k hk => ?_⟩
          rw [(eqx_addR (sT M v 2 0) 1 v).2.1 k 12 List.not_mem_nil, gT_sT, if_neg (fun h9 => absurd h9.2 (by decide))]
          exact hM.2.2.2 k hk
        refine wp_mono (mark_ok hT0 hM0 (fun k hk => by cases hk; exact hvn)) (fun M1 h => ?_)
        obtain ⟨hT1, he1, L1, hM1, ha1, hb1⟩ := h
        have hL1 : ∀ k, k ∈ L ++ L1 ↔ (k ∈ L ∨ k = v) := fun k => by
          rw [List.mem_append]
          constructor
          · rintro (h | h)
            · exact Or.inl h
            · exact Or.inr (Option.some.inj (ha1 k h)).symm
          · rintro (h | h)
            · exact Or.inl h
            · exact List.mem_append.mp (hb1 k (by rw [h]))
        have hL1e : L1 = [v] := by
          have hvin : v ∈ L1 := by
            rcases List.mem_append.mp (hb1 v rfl) with h | h
            · exact absurd h hnL
            · exact h
          have hnd := (List.nodup_append.mp hM1.2.1).2.1
          cases L1 with
          | nil => cases hvin
          | cons a l =>
            have e1 : v = a := Option.some.inj (ha1 a List.mem_cons_self)
            subst e1
            cases l with
            | nil => rfl
            | cons b l =>
              have e2 : v = b := Option.some.inj (ha1 b (List.mem_cons_of_mem _ List.mem_cons_self))
              subst e2
              exact absurd List.mem_cons_self (List.nodup_cons.mp hnd).1
        subst hL1e
        have hk1 : ∀ k, gT M1 k 2 = if k = v then 0 else gT M k 2 := fun k => (he1.2.1 k 2 (by decide)).trans (hk0 k)
        have hp1 : ∀ k, gT M1 k 3 = gT M k 3 := fun k => (he1.2.1 k 3 (by decide)).trans (he0.2.1 k 3 (by decide))
        have hQ1 : Qok n M1 (Q ++ [v]) := by
          refine ⟨he1.row (row_addR hQr) (by decide) (by decide), ?_, fun k hk => ?_⟩
          · rw [List.nodup_append]
            exact ⟨hQ.2.1, List.nodup_cons.mpr ⟨List.not_mem_nil, List.nodup_nil⟩, fun a ha b hb e9 => by
              rw [List.mem_singleton] at hb; subst hb; subst e9; exact hnQ ha⟩
          · rcases List.mem_append.mp hk with hk | hk
            · refine ⟨(hQ.2.2 k hk).1, ?_⟩
              rw [hk1 k]; split
              · rfl
              · exact (hQ.2.2 k hk).2
            · rw [List.mem_singleton] at hk; subst hk
              exact ⟨hvn, by rw [hk1, if_pos rfl]⟩
        refine wp_mono (ih M1 (L ++ [v]) (Q ++ [v]) (v + 1) hT1 (fun k hk => by rw [hp1 k]; exact hP k hk) hM1 hQ1 (by omega) (by omega)) (fun M2 h => ?_)
        obtain ⟨hT2, he2, L2, hM2, hQ2, h2, h3⟩ := h
        have hfin : ∀ k, k ≠ v → (Fin9 M1 n k ↔ Fin9 M n k) := fun k hk => by unfold Fin9; rw [hp1 k, hk1 k, if_neg hk]
        have hL2 : ∀ k, k ∈ L2 ↔ (v + 1 ≤ k ∧ Fin9 M n k ∧ k ∉ L) := fun k => (h2 k).trans ⟨fun ⟨a, b, c⟩ => ⟨a, (hfin k (by omega)).mp b, fun h9 => c (List.mem_append_left _ h9)⟩, fun ⟨a, b, c⟩ => ⟨a, (hfin k (by omega)).mpr b, fun h9 => by
          rcases List.mem_append.mp h9 with h9 | h9
          · exact c h9
          · rw [List.mem_singleton] at h9; omega⟩⟩
        refine ⟨hT2, (he0.tr (he1.mono (by decide) (by decide) (by decide))).tr he2, v :: L2, ?_, ?_, fun k => ?_, fun k hk => ?_⟩
        · rw [List.append_assoc] at hM2; exact hM2
        · rw [List.append_assoc] at hQ2; exact hQ2
        · rw [List.mem_cons, hL2 k]
          constructor
          · rintro (e | ⟨a, b⟩)
            · subst e; exact ⟨Nat.le_refl _, ⟨hvn, h0, h4⟩, hnL⟩
            · exact ⟨by omega, b⟩
          · rintro ⟨a, b⟩
            by_cases hkv : k = v
            · exact Or.inl hkv
            · exact Or.inr ⟨by omega, b⟩
        · rw [h3 k hk, hk1 k]
          by_cases h9 : k ∈ L2
          · rw [if_pos h9, if_pos (List.mem_cons_of_mem _ h9)]
          · rw [if_neg h9]
            by_cases hkv : k = v
            · rw [if_pos hkv, if_pos (by rw [hkv]; exact List.mem_cons_self)]
            · rw [if_neg hkv, if_neg (fun h8 => by
                rcases List.mem_cons.mp h8 with h8 | h8
                · exact hkv h8
                · exact h9 h8)]
      · rw [if_neg h.2] at h12; exact h0m h12
    · rw [wp_some]
      refine ⟨hT, Eqx.rf _ _ _ _, [], ?_, ?_, fun k => ⟨fun h => absurd h List.not_mem_nil, fun h => ?_⟩, fun k hk => by rw [if_neg List.not_mem_nil]⟩
      · rw [List.append_nil]; exact hM
      · rw [List.append_nil]; exact hQ
      · have := h.2.1.1; omega
