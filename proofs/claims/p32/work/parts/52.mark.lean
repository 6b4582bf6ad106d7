/-! LAYER 2: marking. What a state shares with an earlier one; lists of marked things. -/
theorem nodup_le : ∀ (n : Nat) (L : List Nat), L.Nodup → (∀ k ∈ L, k < n) → L.length ≤ n
  | 0, L, _, h => by
    cases L with
    | nil => exact Nat.le_refl 0
    | cons a l => exact absurd (h a List.mem_cons_self) (Nat.not_lt_zero a)
  | n + 1, L, hd, h => by
    by_cases hn : n ∈ L
    · have h1 := nodup_le n (L.erase n) (hd.erase n) (fun k hk => by
        have h2 := (hd.mem_erase_iff).mp hk
        have := h k h2.2
        omega)
      rw [List.length_erase_of_mem hn] at h1
      omega
    · have h1 := nodup_le n L hd (fun k hk => by
        have := h k hk
        have : k ≠ n := fun e => hn (e ▸ hk)
        omega)
      omega
/-- all but some scalars, fields of things, rows is as it was -/
def Eqx (I T R : List Nat) (M M' : cSt) : Prop := (∀ j, j ∉ I → gI M' j = gI M j) ∧ (∀ k f, f ∉ T → gT M' k f = gT M k f) ∧ (∀ r j, r ∉ R → gR M' r j = gR M r j) ∧ (∀ k, gL M' k = gL M k) ∧ (∀ k j, gF M' k j = gF M k j) ∧ ∀ j, gZ M' j = gZ M j
theorem Eqx.rf (I T R : List Nat) (M : cSt) : Eqx I T R M M := ⟨fun _ _ => rfl, fun _ _ _ => rfl, fun _ _ _ => rfl, fun _ => rfl, fun _ _ => rfl, fun _ => rfl⟩
theorem Eqx.tr {I T R : List Nat} {M M' M'' : cSt} (h : Eqx I T R M M') (h' : Eqx I T R M' M'') : Eqx I T R M M'' :=
  ⟨fun j hj => (h'.1 j hj).trans (h.1 j hj), fun k f hf => (h'.2.1 k f hf).trans (h.2.1 k f hf), fun r j hr => (h'.2.2.1 r j hr).trans (h.2.2.1 r j hr), fun k => (h'.2.2.2.1 k).trans (h.2.2.2.1 k), fun k j => (h'.2.2.2.2.1 k j).trans (h.2.2.2.2.1 k j), fun j => (h'.2.2.2.2.2 j).trans (h.2.2.2.2.2 j)⟩
theorem Eqx.mono {I T R I' T' R' : List Nat} {M M' : cSt} (h : Eqx I T R M M') (hI : ∀ j ∈ I, j ∈ I') (hT : ∀ j ∈ T, j ∈ T') (hR : ∀ j ∈ R, j ∈ R') : Eqx I' T' R' M M' :=
  ⟨fun j hj => h.1 j (fun h9 => hj (hI j h9)), fun k f hf => h.2.1 k f (fun h9 => hf (hT f h9)), fun r j hr => h.2.2.1 r j (fun h9 => hr (hR r h9)), h.2.2.2⟩
theorem Eqx.row {I T R : List Nat} {M M' : cSt} {r : Nat} {l : List Nat} (h : Eqx I T R M M') (hl : Row M r l) (h1 : 10 + r ∉ I) (h2 : r ∉ R) : Row M' r l :=
  ⟨(h.1 _ h1).trans hl.1, fun j hj => (h.2.2.1 r j h2).trans (hl.2 j hj)⟩
/-- the same references but in row 5, which leads to things -/
theorem Eqx.rfs {n : Nat} {I T R : List Nat} {M M' : cSt} (h : Eqx I T R M M') (hc : cRf n M) (hR : ∀ r ∈ R, ∀ j k, gR M' r j = some k → k < n) : cRf n M' := by
  refine ⟨fun r j k hk => ?_, fun k j q hq => hc.2 k j q (by rw [← h.2.2.2.2.1 k j]; exact hq)⟩
  by_cases hr : r ∈ R
  · exact hR r hr j k hk
  · exact hc.1 r j k (by rw [← h.2.2.1 r j hr]; exact hk)
/-- what tracing wants of a state -/
def TC (n : Nat) (M : cSt) : Prop := n ≤ 199 ∧ Row M 0 (List.range n) ∧ cRf n M ∧ (∀ k, k < n → 2 ≤ gL M k ∧ gL M k ≤ 20) ∧ (∀ k, k < n → 0 ≤ gT M k 2 ∧ gT M k 2 ≤ 4) ∧ (gI M 19 = 0 ∨ gI M 19 = 1) ∧ ∀ k, k < n → gT M k 13 = 0 ∨ gT M k 13 = 1
/-- the marked things, in the order of marking -/
def Mkd (n : Nat) (M : cSt) (L : List Nat) : Prop := Row M 5 L ∧ L.Nodup ∧ (∀ k ∈ L, k < n) ∧ ∀ k, k < n → gT M k 12 = if k ∈ L then 1 else 0
theorem Mkd.len {n : Nat} {M : cSt} {L : List Nat} (h : Mkd n M L) : L.length ≤ n := nodup_le n L h.2.1 h.2.2.1
theorem all_item {n : Nat} {M : cSt} (h : TC n M) {i : Int} (h0 : 0 ≤ i) (h1 : i < n) : f_Row_item n M 0 i = some (some i.toNat) := by
  rw [item_ok h.2.1 (by rw [List.length_range]; have := h.1; omega) ⟨by omega, by have := h.1; omega⟩, if_pos h0, List.getElem?_range (by omega)]
theorem all_size {n : Nat} {M : cSt} (h : TC n M) : f_Row_size n M 0 = some (n : Int) := by
  rw [size_ok h.2.1, List.length_range]
theorem TC.eqx {n : Nat} {M M' : cSt} (h : TC n M) (he : Eqx [15, 18] [12] [5] M M') (h5 : ∀ j k, gR M' 5 j = some k → k < n) : TC n M' := by
  obtain ⟨a, b, c, d, e, f, g⟩ := h
  refine ⟨a, he.row b (by decide) (by decide), he.rfs c (fun r hr j k hk => ?_), fun k hk => by rw [he.2.2.2.1]; exact d k hk, fun k hk => by rw [he.2.1 k 2 (by decide)]; exact e k hk, by rw [he.1 19 (by decide)]; exact f, fun k hk => by rw [he.2.1 k 13 (by decide)]; exact g k hk⟩
  rw [List.mem_singleton] at hr
  subst hr; exact h5 j k hk
theorem mark_ok {n : Nat} {M : cSt} {L : List Nat} (hT : TC n M) (hM : Mkd n M L) {t : Option Nat} (ht : ∀ k, t = some k → k < n) :
    wp (f_Tr_mark n M t) (fun M' => TC n M' ∧ Eqx [15] [12] [5] M M' ∧ ∃ L', Mkd n M' (L ++ L') ∧ (∀ k ∈ L', t = some k) ∧ ∀ k, t = some k → k ∈ L ++ L') := by
  unfold f_Tr_mark
  rw [wp_on]
  refine ⟨fun e => ?_, fun k e => ?_⟩
  · rw [wp_some]
    refine ⟨hT, Eqx.rf _ _ _ _, [], ?_, fun k hk => absurd hk List.not_mem_nil, fun k hk => ?_⟩
    · rw [List.append_nil]; exact hM
    · rw [e] at hk; cases hk
  · have hk := ht k e
    have hf := hM.2.2.2 k hk
    rw [wp_og, wp_og, wp_ite]
    refine ⟨hk, ?_, fun h0 => ?_, fun h0 => ?_⟩
    · rw [hf]; split <;> exact ⟨by decide, by decide⟩
    · have hnot : k ∉ L := fun h9 => by rw [if_pos h9] at hf; omega
      rw [wp_ob]
      have hlen := hM.len
      have hrow : Row (sT M k 12 1) 5 L := ⟨hM.1.1, hM.1.2⟩
      have hn := hT.1
      refine wp_of (add_ok hrow (by omega) hk) ?_
      rw [wp_some]
      have he : Eqx [15] [12] [5] M (addR (sT M k 12 1) 5 k) := by
        unfold addR
        refine ⟨fun j hj => ?_, fun k' f hf9 => ?_, fun r j hr => ?_, fun _ => rfl, fun _ _ => rfl, fun _ => rfl⟩
        · rw [gI_sI, if_neg (fun h9 => hj (by rw [h9]; decide)), gI_sR, gI_sT]
        · rw [gT_sI, gT_sR, gT_sT, if_neg (fun h9 => hf9 (by rw [h9.2]; decide))]
        · rw [gR_sI, gR_sR, if_neg (fun h9 => hr (by rw [h9.1]; decide)), gR_sT]
      refine ⟨hT.eqx (he.mono (by decide) (by decide) (by decide)) (fun j q hq => ?_), he, [k], ⟨row_addR hrow, ?_, ?_, ?_⟩, ?_, ?_⟩
      · unfold addR at hq
        rw [gR_sI, gR_sR] at hq
        by_cases h9 : (5 : Nat) = 5 ∧ j = (gI (sT M k 12 1) (10 + 5)).toNat
        · rw [if_pos h9] at hq; cases hq; exact hk
        · rw [if_neg h9, gR_sT] at hq; exact hT.2.2.1.1 5 j q hq
      · rw [List.nodup_append]
        exact ⟨hM.2.1, List.nodup_cons.mpr ⟨List.not_mem_nil, List.nodup_nil⟩, fun a ha b hb e9 => by
          rw [List.mem_singleton] at hb; subst hb; subst e9; exact hnot ha⟩
      · intro q hq
        rcases List.mem_append.mp hq with hq | hq
        · exact hM.2.2.1 q hq
        · rw [List.mem_singleton] at hq; subst hq; exact hk
      · intro q hq
        unfold addR
        rw [gT_sI, gT_sR, gT_sT]
        by_cases h9 : q = k
        · subst h9; rw [if_pos ⟨rfl, rfl⟩, if_pos (List.mem_append_right _ List.mem_cons_self)]
        · rw [if_neg (fun h8 => h9 h8.1), hM.2.2.2 q hq]
          by_cases h8 : q ∈ L
          · rw [if_pos h8, if_pos (List.mem_append_left _ h8)]
          · rw [if_neg h8, if_neg (fun h7 => by
              rcases List.mem_append.mp h7 with h7 | h7
              · exact h8 h7
              · exact h9 (List.mem_singleton.mp h7))]
      · intro q hq; rw [List.mem_singleton] at hq; rw [hq]; exact e
      · intro q hq
        rw [e] at hq; cases hq
        exact List.mem_append_right _ List.mem_cons_self
    · have hin : k ∈ L := by
        by_cases h9 : k ∈ L
        · exact h9
        · rw [if_neg h9] at hf; exact absurd hf h0
      rw [wp_some]
      refine ⟨hT, Eqx.rf _ _ _ _, [], ?_, fun q hq => absurd hq List.not_mem_nil, fun q hq => ?_⟩
      · rw [List.append_nil]; exact hM
      · rw [e] at hq; cases hq; rw [List.append_nil]; exact hin
/-- the fields of a thing, from one on -/
theorem fields_loop {n q : Nat} (hq : q < n) : ∀ (u : Nat) (M : cSt) (L : List Nat) (v : Int), TC n M → Mkd n M L → 0 ≤ v → v ≤ gL M q → (gL M q : Int) - v < u →
    wp (g_Tr_markFieldsOf_22 n (some q) u M v) (fun M' => TC n M' ∧ Eqx [15] [12] [5] M M' ∧ ∃ L', Mkd n M' (L ++ L') ∧ (∀ k ∈ L', ∃ j : Nat, v ≤ j ∧ j < gL M q ∧ gF M q j = some k) ∧ ∀ (j k : Nat), v ≤ j → j < gL M q → gF M q j = some k → k ∈ L ++ L') := by
  intro u
  induction u with
  | zero => intro M L v hT hM h0 h1 h2; omega
  | succ u ih =>
    intro M L v hT hM h0 h1 h2
    show wp (s_Tr_markFieldsOf_22 (g_Tr_markFieldsOf_22 n (some q) u) n (some q) M v) _
    unfold s_Tr_markFieldsOf_22
    have hb := hT.2.2.2.1 q hq
    rw [wp_on]
    refine ⟨fun e => (by cases e), fun k e => ?_⟩
    cases e
    simp only [wp_og, wp_ite]
    refine ⟨hq, by omega, ⟨by omega, by omega⟩, ⟨by omega, by omega⟩, fun hv => ⟨⟨h0, hv⟩, ?_⟩, fun hv => ?_⟩
    · rw [wp_ob]
      refine wp_mono (mark_ok hT hM (t := gF M q v.toNat) (fun k hk => hT.2.2.1.2 q _ k hk)) (fun M1 h => ?_)
      obtain ⟨hT1, he1, L1, hM1, ha1, hb1⟩ := h
      have hg : gL M1 q = gL M q := he1.2.2.2.1 q
      refine wp_mono (ih M1 (L ++ L1) (v + 1) hT1 hM1 (by omega) (by rw [hg]; omega) (by rw [hg]; omega)) (fun M2 h => ?_)
      obtain ⟨hT2, he2, L2, hM2, ha2, hb2⟩ := h
      refine ⟨hT2, he1.tr he2, L1 ++ L2, by rw [← List.append_assoc]; exact hM2, fun k hk => ?_, fun j k hj hj2 hk => ?_⟩
      · rcases List.mem_append.mp hk with hk | hk
        · exact ⟨v.toNat, by omega, by omega, ha1 k hk⟩
        · obtain ⟨j, hj1, hj2, hj3⟩ := ha2 k hk
          exact ⟨j, by omega, by rw [hg] at hj2; exact hj2, by rw [← he1.2.2.2.2.1 q j]; exact hj3⟩
      · rw [← List.append_assoc]
        by_cases hjv : (j : Int) = v
        · have e9 : v.toNat = j := by omega
          exact List.mem_append_left _ (hb1 k (by rw [e9]; exact hk))
        · exact hb2 j k (by omega) (by rw [hg]; exact hj2) (by rw [he1.2.2.2.2.1 q j]; exact hk)
    · rw [wp_some]
      refine ⟨hT, Eqx.rf _ _ _ _, [], by rw [List.append_nil]; exact hM, fun k hk => absurd hk List.not_mem_nil, fun j k hj hj2 _ => ?_⟩
      omega
/-- the first field that a FULL's marking follows -/
def fS (kind s : Int) : Int := if kind = 3 then 2 else if kind = 1 ∨ (kind = 2 ∧ s = 0) then 1 else 0
theorem fS_le (a s : Int) : 0 ≤ fS a s ∧ fS a s ≤ 2 := by
  unfold fS; split
  · omega
  · split <;> omega
theorem loose_ok {n : Nat} {M : cSt} {a s : Int} (ha : inR a) (hs : inR s) : f_X_isLoose n M a s = some (if a = 1 ∨ (a = 2 ∧ s = 0) then 1 else 0) := by
  refine wp_eq ?_
  unfold f_X_isLoose
  simp only [wp_og, wp_ite, wp_some]
  refine ⟨ha, fun h => by rw [if_pos (Or.inl h)], fun h => ⟨fun h2 => ⟨hs, fun h3 => by rw [if_pos (Or.inr ⟨h2, h3⟩)], fun h3 => ?_⟩, fun h2 => ?_⟩⟩
  · rw [if_neg (fun h9 => by rcases h9 with h9 | h9; exact h h9; exact h3 h9.2)]
  · rw [if_neg (fun h9 => by rcases h9 with h9 | h9; exact h h9; exact h2 h9.1)]
theorem first_ok {n : Nat} {M : cSt} {a : Int} (ha : inR a) (hs : inR (gI M 19)) : f_Tr_firstStrongField n M a = some (fS a (gI M 19)) := by
  refine wp_eq ?_
  unfold f_Tr_firstStrongField
  simp only [wp_og, wp_ite, wp_some, wp_ob]
  refine ⟨ha, fun h => by unfold fS; rw [if_pos h], fun h => wp_of (loose_ok ha hs) ⟨?_, fun h2 => ?_, fun h2 => ?_⟩⟩
  · split <;> exact ⟨by decide, by decide⟩
  · unfold fS; rw [if_neg h]
    by_cases h9 : a = 1 ∨ (a = 2 ∧ gI M 19 = 0)
    · rw [if_pos h9] at h2; omega
    · rw [if_neg h9]
  · unfold fS; rw [if_neg h]
    by_cases h9 : a = 1 ∨ (a = 2 ∧ gI M 19 = 0)
    · rw [if_pos h9]
    · rw [if_neg h9] at h2; omega
theorem s_rng {n : Nat} {M : cSt} (h : TC n M) : inR (gI M 19) := by
  rcases h.2.2.2.2.2.1 with h | h <;> rw [h] <;> exact ⟨by decide, by decide⟩
/-- a thing's fields that are followed -/
def Fol (M : cSt) (q k : Nat) : Prop := gR M 9 0 ≠ some q ∧ ∃ j : Nat, fS (gT M q 2) (gI M 19) ≤ j ∧ j < gL M q ∧ gF M q j = some k
theorem fieldsOf_ok {n q : Nat} (hq : q < n) {M : cSt} {L : List Nat} (hT : TC n M) (hM : Mkd n M L) :
    wp (f_Tr_markFieldsOf n M (some q)) (fun M' => TC n M' ∧ Eqx [15] [12] [5] M M' ∧ ∃ L', Mkd n M' (L ++ L') ∧ (∀ k ∈ L', Fol M q k) ∧ ∀ k, Fol M q k → k ∈ L ++ L') := by
  have hk := hT.2.2.2.2.1 q hq
  have hb := hT.2.2.2.1 q hq
  have hfs := fS_le (gT M q 2) (gI M 19)
  have main : gR M 9 0 ≠ some q → wp (ob (f_Tr_firstStrongField n M (gT M q 2)) (fun x3 => ob (g_Tr_markFieldsOf_22 n (some q) fu M x3) (fun x11 => some x11))) (fun M' => TC n M' ∧ Eqx [15] [12] [5] M M' ∧ ∃ L', Mkd n M' (L ++ L') ∧ (∀ k ∈ L', Fol M q k) ∧ ∀ k, Fol M q k → k ∈ L ++ L') := by
    intro h9
    rw [wp_ob]
    refine wp_of (first_ok ⟨by omega, by omega⟩ (s_rng hT)) ?_
    rw [wp_ob]
    have hfu : fu = 500 := rfl
    refine wp_mono (fields_loop hq fu M L _ hT hM hfs.1 (by omega) (by rw [hfu]; omega)) (fun M1 h => ?_)
    obtain ⟨hT1, he1, L1, hM1, ha1, hb1⟩ := h
    rw [wp_some]
    exact ⟨hT1, he1, L1, hM1, fun k hk => ⟨h9, ha1 k hk⟩, fun k hk => by obtain ⟨-, j, h1, h2, h3⟩ := hk; exact hb1 j k h1 h2 h3⟩
  unfold f_Tr_markFieldsOf
  rw [wp_on]
  refine ⟨fun e => (by cases e), fun q1 e => ?_⟩
  cases e
  rw [wp_og, wp_on]
  refine ⟨hq, fun e => main (by rw [e]; exact fun h => by cases h), fun q2 e => ?_⟩
  rw [wp_og, wp_ite]
  refine ⟨hT.2.2.1.1 9 0 q2 e, fun h => ?_, fun h => main (by rw [e]; exact fun h9 => h (Option.some.inj h9).symm)⟩
  rw [wp_some]
  subst h
  exact ⟨hT, Eqx.rf _ _ _ _, [], by rw [List.append_nil]; exact hM, fun k hk => absurd hk List.not_mem_nil, fun k hk => absurd e hk.1⟩
