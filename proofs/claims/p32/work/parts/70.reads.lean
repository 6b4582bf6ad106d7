/-! LAYER 2: readers; states that differ in scratch, slots, globals. -/
theorem Inv.gen {n : Nat} {M M' : cSt} (h : Inv n M) (he : Eqx [0, 1, 6, 7, 8, 15, 16, 18, 19, 21, 22, 23] [1, 10, 11, 12, 13] [5, 6, 7, 8, 9] M M') (hc : cRf n M') (h1 : 1 ≤ gI M' 1 ∧ gI M' 1 ≤ 8)
    (h7 : ∀ (j k : Nat), gR M' 7 j = some k → (j : Int) < gI M' 1 * 4 ∧ gT M k 3 ≠ 0) (h8 : ∀ (j k : Nat), j < 4 → gR M' 8 j = some k → gT M k 3 ≠ 0) : Inv n M' := by
  obtain ⟨hB, hr, ⟨Q, hQ⟩, ⟨Y, O, G, hP⟩, hN, hCr, hSl, hPin, hNum, hSz, hFl, hAg⟩ := h
  obtain ⟨eI, eT, eR, eL, eF, eZ⟩ := id he
  have hY : ∀ k, HY M' k ↔ HY M k := fun k => by
    unfold HY
    simp only [eL, eF]
    constructor
    · rintro ⟨j, p, a, b, c⟩; exact ⟨j, p, a, b, by rw [← eT p 3 (by decide)]; exact c⟩
    · rintro ⟨j, p, a, b, c⟩; exact ⟨j, p, a, b, by rw [eT p 3 (by decide)]; exact c⟩
  have hcr : ∀ k, crd M' k = crd M k := fun k => by unfold crd; rw [eT k 4 (by decide)]
  refine ⟨?_, ⟨fun k hk j q hj hq => ?_, fun k hk => ?_⟩, ⟨Q, ?_⟩, ⟨Y, O, G, ?_⟩, fun k hk => ?_, ⟨fun j hj => by rw [eZ]; exact hCr.1 j hj, fun k hk hp hy => ?_⟩, fun j k hk => (h7 j k hk).1, fun k hk h9 => ?_, fun k hk => ?_, fun k hk => ?_, ⟨?_, ?_, ?_, ?_⟩, fun k hk => ?_⟩
  · obtain ⟨a, b, c, d, e, f, g, i, j, l⟩ := hB
    exact ⟨a, he.row b (by decide) (by decide), hc, fun k hk => by rw [eL]; exact d k hk, fun k hk => by rw [eT k 2 (by decide)]; exact e k hk, h1, by rw [eI 11 (by decide)]; exact g, fun k hk => by rw [eT k 9 (by decide)]; exact i k hk, fun k hk => by rw [eT k 3 (by decide)]; exact j k hk, fun k hk => by rw [eT k 5 (by decide)]; exact l k hk⟩
  · rw [eL] at hj
    rw [eF] at hq
    rw [eT k 3 (by decide), eT q 3 (by decide)]
    exact hr.1 k hk j q hj hq
  · rw [eT k 3 (by decide)]
    rcases hk with ⟨j, hj, h⟩ | ⟨j, hj, h⟩ | ⟨j, hj, h⟩ | h
    · exact (h7 j k h).2
    · exact h8 j k hj h
    · rw [eI 11 (by decide)] at hj
      rw [eR 1 j (by decide)] at h
      exact hr.2 k (Or.inr (Or.inr (Or.inl ⟨j, hj, h⟩)))
    · rw [eT k 9 (by decide)] at h
      exact hr.2 k (Or.inr (Or.inr (Or.inr h)))
  · exact ⟨he.row hQ.1 (by decide) (by decide), hQ.2.1, fun k hk => ⟨(hQ.2.2 k hk).1, by rw [eT k 2 (by decide)]; exact (hQ.2.2 k hk).2⟩⟩
  · obtain ⟨a1, a2, a3, a4, a5, a6, a7, a8, a9, b1, b2, b3, b4, b5, b6, b7, b8, b9, b10⟩ := hP
    refine ⟨he.row a1 (by decide) (by decide), he.row a2 (by decide) (by decide), he.row a3 (by decide) (by decide), a4, a5, a6, fun k => by rw [eT k 3 (by decide)]; exact a7 k, fun k => by rw [eT k 3 (by decide)]; exact a8 k, fun k => by rw [eT k 3 (by decide)]; exact a9 k, ?_, ?_, b3.eq (fun k _ => ⟨eT k 4 (by decide), eT k 5 (by decide)⟩), ?_⟩
    · rw [eI 2 (by decide), eI 3 (by decide)]; exact b1.eq (fun k _ => ⟨eT k 4 (by decide), eT k 5 (by decide)⟩)
    · rw [eI 4 (by decide)]; exact b2.eq (fun k _ => ⟨eT k 4 (by decide), eT k 5 (by decide)⟩)
    · rw [eI 2 (by decide), eI 3 (by decide), eI 4 (by decide), eI 5 (by decide)]
      exact ⟨b4, b5, b6, b7, b8, b9, b10⟩
  · rw [eT k 4 (by decide), eT k 5 (by decide), eT k 6 (by decide), eT k 9 (by decide)]; exact hN k hk
  · rw [eT k 3 (by decide)] at hp
    rw [eZ, hcr]; exact hCr.2 k hk hp ((hY k).mp hy)
  · rw [eT k 9 (by decide)] at h9
    rw [eT k 3 (by decide)]; exact hPin k hk h9
  · rw [eT k 0 (by decide)]; exact hNum k hk
  · rw [eT k 5 (by decide), eT k 6 (by decide), eT k 8 (by decide), eL]; exact hSz k hk
  · rw [eI 17 (by decide)]; exact hFl.1
  · rw [eI 20 (by decide)]; exact hFl.2.1
  · rw [eI 9 (by decide)]; exact hFl.2.2.1
  · rw [eI 9 (by decide)]; exact hFl.2.2.2
  · rw [eT k 7 (by decide), eT k 3 (by decide)]; exact hAg k hk
theorem Inv.th7 {n : Nat} {M : cSt} (h : Inv n M) {j k : Nat} (hk : gR M 7 j = some k) : (j : Int) < gI M 1 * 4 ∧ gT M k 3 ≠ 0 ∧ k < n := by
  obtain ⟨hB, hr, -, -, -, -, hSl, -⟩ := h
  exact ⟨hSl j k hk, hr.2 k (Or.inl ⟨j, hSl j k hk, hk⟩), hB.2.2.1.1 7 j k hk⟩
theorem Inv.th8 {n : Nat} {M : cSt} (h : Inv n M) {j k : Nat} (hj : j < 4) (hk : gR M 8 j = some k) : gT M k 3 ≠ 0 ∧ k < n := by
  obtain ⟨hB, hr, -⟩ := h
  exact ⟨hr.2 k (Or.inr (Or.inl ⟨j, hj, hk⟩)), hB.2.2.1.1 8 j k hk⟩
theorem Inv.fr {n : Nat} {M : cSt} (h : Inv n M) : 1 ≤ gI M 1 ∧ gI M 1 ≤ 8 := h.1.2.2.2.2.2.1
theorem Inv.num {n : Nat} {M : cSt} (h : Inv n M) {k : Nat} (hk : k < n) : gT M k 0 = (k : Int) := h.2.2.2.2.2.2.2.2.1 k hk
theorem Inv.scr {n : Nat} {M M' : cSt} (h : Inv n M) (he : Eqx [0, 6, 7, 8, 15, 16, 18, 19, 21, 22, 23] [1, 10, 11, 12, 13] [5, 6, 9] M M') (hc : cRf n M') : Inv n M' :=
  h.gen (he.mono (by decide) (by decide) (by decide)) hc (by rw [he.1 1 (by decide)]; exact h.fr) (fun j k hk => by
    rw [he.2.2.1 7 j (by decide)] at hk
    rw [he.1 1 (by decide)]
    have := h.th7 hk; exact ⟨this.1, this.2.1⟩) (fun j k hj hk => by
    rw [he.2.2.1 8 j (by decide)] at hk
    exact (h.th8 hj hk).1)
/-- an OBJECT's number, or NONE -/
def nO : Option Nat → Int
  | none => -1
  | some k => k
def sl (M : cSt) (a : Int) : Option Nat := gR M 7 ((gI M 1 - 1) * 4 + a).toNat
theorem idx_ok {n : Nat} {M : cSt} {a : Int} (h0 : 0 ≤ a) (h4 : a < 4) : f_Ro_indexOf n M a = some ((gI M 1 - 1) * 4 + a) := by
  refine wp_eq ?_
  unfold f_Ro_indexOf
  simp only [wp_og, wp_ite, wp_some]
  exact ⟨⟨by omega, by omega⟩, fun h => by omega, fun _ => ⟨fun _ => trivial, fun h => by omega⟩⟩
theorem slot_ok {n : Nat} {M : cSt} (h1 : 1 ≤ gI M 1 ∧ gI M 1 ≤ 8) {a : Int} (h0 : 0 ≤ a) (h4 : a < 4) : f_Ro_readSlot n M a = some (sl M a) := by
  refine wp_eq ?_
  unfold f_Ro_readSlot
  rw [idx_ok h0 h4]
  simp only [wp_ob, wp_og, wp_ite, wp_some]
  exact ⟨⟨by omega, by omega⟩, fun h => by omega, fun _ => ⟨fun _ => ⟨⟨by omega, by omega⟩, rfl⟩, fun h => by omega⟩⟩
theorem slotNone_ok {n : Nat} {M : cSt} : f_Ro_readSlot n M (-1) = some none := by
  refine wp_eq ?_
  unfold f_Ro_readSlot f_Ro_indexOf
  simp only [wp_ob, wp_og, wp_ite, wp_some]
  exact ⟨⟨by omega, by omega⟩, fun _ => ⟨⟨by omega, by omega⟩, fun _ => trivial, fun h => by omega⟩, fun h => by omega⟩
theorem wslot_ok {n : Nat} {M : cSt} (h1 : 1 ≤ gI M 1 ∧ gI M 1 ≤ 8) {a : Int} (h0 : 0 ≤ a) (h4 : a < 4) {t : Option Nat} (ht : ∀ k, t = some k → k < n) : f_Ro_writeSlot n M a t = some (sR M 7 ((gI M 1 - 1) * 4 + a).toNat t) := by
  refine wp_eq ?_
  unfold f_Ro_writeSlot
  rw [idx_ok h0 h4]
  simp only [wp_ob, wp_og, wp_ite, wp_some, wp_on]
  exact ⟨⟨by omega, by omega⟩, fun h => by omega, fun _ => ⟨fun _ => ⟨fun e => ⟨⟨by omega, by omega⟩, by rw [e]⟩, fun q e => ⟨ht q e, ⟨by omega, by omega⟩, by rw [e]⟩⟩, fun h => by omega⟩⟩
theorem reqSlot_ok {n : Nat} {M : cSt} {a : Int} (h0 : 0 ≤ a) (h4 : a < 4) : f_X_requireSlot n M a = some () := by
  refine wp_eq ?_
  unfold f_X_requireSlot
  simp only [wp_og, wp_ite, wp_some]
  exact ⟨⟨by omega, by omega⟩, fun h => by omega, fun _ => ⟨fun _ => trivial, fun h => by omega⟩⟩
theorem reqSlotN_ok {n : Nat} {M : cSt} {a : Int} (h0 : -1 ≤ a) (h4 : a < 4) : f_X_requireSlotOrNone n M a = some () := by
  refine wp_eq ?_
  unfold f_X_requireSlotOrNone
  simp only [wp_og, wp_ite, wp_some, wp_ob]
  exact ⟨⟨by omega, by omega⟩, fun _ => trivial, fun h => wp_of (reqSlot_ok (by omega) h4) trivial⟩
theorem occ_ok {n : Nat} {M : cSt} (h1 : 1 ≤ gI M 1 ∧ gI M 1 ≤ 8) {a : Int} (h0 : 0 ≤ a) (h4 : a < 4) {q : Nat} (hq : sl M a = some q) (hn : q < n) : f_X_occupant n M a = some (some q) := by
  refine wp_eq ?_
  unfold f_X_occupant
  rw [slot_ok h1 h0 h4, hq]
  simp only [wp_ob, wp_og, wp_some, wp_on]
  exact ⟨fun e => (by cases e), fun k e => ⟨by cases e; exact hn, e.symm⟩⟩
theorem numO_ok {n : Nat} {M : cSt} {t : Option Nat} (h : ∀ k, t = some k → k < n ∧ gT M k 0 = (k : Int)) : f_X_numberOf n M t = some (nO t) := by
  refine wp_eq ?_
  unfold f_X_numberOf
  simp only [wp_og, wp_some, wp_on]
  exact ⟨fun e => by rw [e]; rfl, fun k e => ⟨(h k e).1, by rw [(h k e).2, e]; rfl⟩⟩
theorem Inv.slN {n : Nat} {M : cSt} (h : Inv n M) {a : Int} : ∀ k, sl M a = some k → k < n ∧ gT M k 0 = (k : Int) := fun k hk => by
  have := h.th7 hk; exact ⟨this.2.2, h.num this.2.2⟩
theorem at_ok {n : Nat} {M : cSt} (h : Inv n M) {a : Int} (h0 : 0 ≤ a) (h4 : a < 4) : f_X_at n M a = some (nO (sl M a)) := by
  refine wp_eq ?_
  unfold f_X_at
  rw [wp_ob]
  refine wp_of (reqSlot_ok h0 h4) ?_
  rw [wp_ob]
  refine wp_of (slot_ok h.fr h0 h4) ?_
  rw [wp_ob]
  refine wp_of (numO_ok h.slN) ?_
  rw [wp_some]
theorem made_ok {n : Nat} {M : cSt} (h : Inv n M) {k : Nat} (hk : k < n) : f_X_madeAs n M (k : Int) = some (some k) := by
  have hB := h.1
  refine wp_eq ?_
  unfold f_X_madeAs
  rw [wp_ob]
  refine wp_of (item_ok hB.2.1 (by rw [List.length_range]; have := hB.1; omega) ⟨by omega, by have := hB.1; omega⟩) ?_
  rw [if_pos (by omega), List.getElem?_range (by omega), show ((k : Int)).toNat = k by omega]
  simp only [wp_og, wp_some, wp_on]
  exact ⟨fun e => (by cases e), fun q e => ⟨by cases e; exact hk, e.symm⟩⟩
/-- what ofObject answers -/
def oO (M : cSt) (k : Nat) (a : Int) : Int := if a = 0 then gT M k 3 else if gT M k 3 = 0 then -1 else if a = 1 then gT M k 4 else if a = 2 then gT M k 5 else if a = 3 then gT M k 7 else if a = 4 then gT M k 8 else if a = 5 then (if gT M k 9 = 0 then 0 else 1) else if a = 6 then -1 else gT M k 2
theorem of_ok {n : Nat} {M : cSt} (h : Inv n M) {k : Nat} (hk : k < n) {a : Int} (h0 : 0 ≤ a) (h8 : a < 8) : f_X_ofObject n M (k : Int) a = some (oO M k a) := by
  have hB := h.1
  have h3 := hB.2.2.2.2.2.2.2.2.1 k hk
  have h9 := hB.2.2.2.2.2.2.2.1 k hk
  have h17 : gI M 17 = 0 := h.2.2.2.2.2.2.2.2.2.2.1.1
  refine wp_eq ?_
  unfold f_X_ofObject
  rw [wp_ob]
  refine wp_of (made_ok h hk) ?_
  unfold f_Mk_isOn oO
  simp only [wp_og, wp_ite, wp_some, wp_on, wp_ob, h17]
  refine ⟨⟨by omega, by omega⟩, fun h => by omega, fun _ => ⟨fun _ => ⟨fun e0 => ⟨fun e => (by cases e), fun q e => ?_⟩, fun e0 => ⟨fun e => (by cases e), fun q e => ?_⟩⟩, fun h => by omega⟩⟩
  · cases e; exact ⟨hk, by rw [if_pos e0]⟩
  · cases e
    refine ⟨hk, ⟨by omega, by omega⟩, fun hg => by rw [if_neg e0, if_pos hg], fun hg => ?_⟩
    rw [if_neg e0, if_neg hg]
    refine ⟨fun e1 => by rw [if_pos e1], fun e1 => ?_⟩
    rw [if_neg e1]
    refine ⟨fun e1 => by rw [if_pos e1], fun e1 => ?_⟩
    rw [if_neg e1]
    refine ⟨fun e1 => by rw [if_pos e1], fun e1 => ?_⟩
    rw [if_neg e1]
    refine ⟨fun e1 => by rw [if_pos e1], fun e1 => ?_⟩
    rw [if_neg e1]
    refine ⟨fun e1 => ⟨⟨by omega, by omega⟩, fun e2 => by rw [if_pos e1, if_pos e2], fun e2 => by rw [if_pos e1, if_neg e2]⟩, fun e1 => ?_⟩
    rw [if_neg e1]
    exact ⟨fun e1 => ⟨Or.inl trivial, ⟨by omega, by omega⟩, fun _ => by rw [if_pos e1], fun e => absurd trivial e⟩, fun e1 => by rw [if_neg e1]⟩
theorem hasF_ok {n q : Nat} {M : cSt} (hb : gL M q ≤ 20) {a : Int} (ha : inR a) : f_Th_hasField n M q a = some (if 0 ≤ a ∧ a < (gL M q : Int) then 1 else 0) := by
  refine wp_eq ?_
  unfold f_Th_hasField
  simp only [wp_og, wp_ite, wp_some]
  exact ⟨ha, fun h => by rw [if_neg (fun h9 => by omega)], fun h => ⟨by omega, ⟨by omega, by omega⟩, fun h2 => by rw [if_pos ⟨by omega, h2⟩], fun h2 => by rw [if_neg (fun h9 => h2 h9.2)]⟩⟩
theorem reqF_ok {n q : Nat} {M : cSt} (hq : q < n) (hb : gL M q ≤ 20) {j : Nat} (hj : j < gL M q) : f_X_requireField n M (some q) (j : Int) = some () := by
  refine wp_eq ?_
  unfold f_X_requireField
  simp only [wp_og, wp_ite, wp_some, wp_on, wp_ob]
  refine ⟨fun e => (by cases e), fun k e => ?_⟩
  cases e
  refine ⟨hq, wp_of (hasF_ok hb ⟨by omega, by omega⟩) ?_⟩
  rw [if_pos ⟨by omega, by omega⟩]
  exact ⟨⟨by omega, by omega⟩, fun h => by omega, fun _ => trivial⟩
theorem readF_ok {n q : Nat} {M : cSt} (hb : gL M q ≤ 20) {j : Nat} (hj : j < gL M q) : f_Th_read n M q (j : Int) = some (gF M q j) := by
  refine wp_eq ?_
  unfold f_Th_read
  simp only [wp_og, wp_ite, wp_some]
  exact ⟨⟨by omega, by omega⟩, fun h => by omega, fun _ => ⟨by omega, ⟨by omega, by omega⟩, fun _ => ⟨⟨by omega, by omega⟩, by rw [show ((j : Int)).toNat = j by omega]⟩, fun h => by omega⟩⟩
theorem Inv.fl {n : Nat} {M : cSt} (h : Inv n M) {k : Nat} (hk : k < n) : 2 ≤ gL M k ∧ gL M k ≤ 20 := h.1.2.2.2.1 k hk
theorem Inv.fN {n : Nat} {M : cSt} (h : Inv n M) {q j : Nat} : ∀ k, gF M q j = some k → k < n ∧ gT M k 0 = (k : Int) := fun k hk => by
  have := h.1.2.2.1.2 q j k hk; exact ⟨this, h.num this⟩
theorem field_ok {n : Nat} {M : cSt} (h : Inv n M) {k : Nat} (hk : k < n) {j : Nat} (hj : j < gL M k) : f_X_field n M (k : Int) (j : Int) = some (nO (gF M k j)) := by
  refine wp_eq ?_
  unfold f_X_field
  rw [wp_ob]
  refine wp_of (made_ok h hk) ?_
  rw [wp_ob]
  refine wp_of (reqF_ok hk (h.fl hk).2 hj) ?_
  rw [wp_on]
  refine ⟨fun e => (by cases e), fun q e => ?_⟩
  cases e
  rw [wp_og, wp_ob]
  refine ⟨hk, wp_of (readF_ok (h.fl hk).2 hj) ?_⟩
  rw [wp_ob]
  refine wp_of (numO_ok h.fN) ?_
  rw [wp_some]
/-- when field throws -/
theorem eF_none {n : Nat} {M : cSt} (h : Inv n M) {k : Nat} (hk : k < n) {j : Nat} (hj : j < gL M k) : e_X_field n M (k : Int) (j : Int) = none := by
  unfold e_X_field e_X_requireField
  rw [ob_of (made_ok h hk)]
  show og (k < n) (ob (f_Th_hasField n M k (j : Int)) (fun x2 => og (inR x2) (if x2 = 0 then some () else none))) = none
  rw [og_of hk, ob_of (hasF_ok (h.fl hk).2 ⟨by omega, by have := (h.fl hk).2; omega⟩), if_pos ⟨by omega, by omega⟩, og_of ⟨by omega, by omega⟩, if_neg (by decide)]
theorem eF_some {n : Nat} {M : cSt} (h : Inv n M) {k : Nat} (hk : k < n) {j : Nat} (hj : gL M k ≤ j) (hj2 : j ≤ 1000) : e_X_field n M (k : Int) (j : Int) = some () := by
  unfold e_X_field e_X_requireField
  rw [ob_of (made_ok h hk)]
  show og (k < n) (ob (f_Th_hasField n M k (j : Int)) (fun x2 => og (inR x2) (if x2 = 0 then some () else none))) = some ()
  rw [og_of hk, ob_of (hasF_ok (h.fl hk).2 ⟨by omega, by omega⟩), if_neg (fun h9 => by omega), og_of ⟨by omega, by omega⟩, if_pos rfl]
theorem things_ok {n : Nat} {M : cSt} {Y O G : List Nat} (h : PL n M Y O G) : f_Pl_things n M = some ((Y.length : Int) + O.length + G.length) := by
  unfold f_Pl_things
  rw [ob_of (size_ok h.1), ob_of (size_ok h.2.1), ob_of (size_ok h.2.2.1)]
