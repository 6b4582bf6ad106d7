/-! LAYER 2: set, pin. -/
theorem writeF_ok {n q : Nat} {M : cSt} (hb : gL M q ≤ 20) {j : Nat} (hj : j < gL M q) {t : Option Nat} (ht : ∀ k, t = some k → k < n) : f_Th_write n M q (j : Int) t = some (sF M q j t) := by
  refine wp_eq ?_
  unfold f_Th_write
  simp only [wp_og, wp_ite, wp_some, wp_on, show ((j : Int)).toNat = j by omega]
  exact ⟨⟨by omega, by omega⟩, fun h => by omega, fun _ => ⟨by omega, ⟨by omega, by omega⟩, fun _ => ⟨fun e => ⟨⟨by omega, by omega⟩, by rw [e]⟩, fun p e => ⟨ht p e, ⟨by omega, by omega⟩, by rw [e]⟩⟩, fun h => by omega⟩⟩
theorem noteW_ok {n q : Nat} {M : cSt} (hq : q < n) (hpl : ∀ k, k < n → 0 ≤ gT M k 3 ∧ gT M k 3 ≤ 3) (h0 : gT M q 3 ≠ 0) (ha : gT M q 3 = 2 ∨ gT M q 3 = 3 → 100 ≤ gT M q 4 ∧ gT M q 4 < 420) {t : Option Nat} (ht : ∀ k, t = some k → k < n) :
    wp (f_Pl_noteWritten n M (some q) t) (fun M' => (M' = M ∨ M' = sZ M (crd M q) 1) ∧ (gT M q 3 ≠ 1 → ∀ p, t = some p → gT M p 3 = 1 → M' = sZ M (crd M q) 1)) := by
  have h3 := hpl q hq
  unfold f_Pl_noteWritten
  rw [wp_on]
  refine ⟨fun e => (by cases e), fun k e => ?_⟩
  cases e
  rw [wp_og, wp_og, wp_ite]
  refine ⟨hq, ⟨by omega, by omega⟩, fun h1 => ?_, fun h1 => ?_⟩
  · rw [wp_some]; exact ⟨Or.inl rfl, fun h9 => absurd h1 h9⟩
  · rw [wp_on]
    refine ⟨fun e => ?_, fun p e => ?_⟩
    · rw [wp_some]; exact ⟨Or.inl rfl, fun _ p hp => by rw [e] at hp; cases hp⟩
    · have hp := hpl p (ht p e)
      rw [wp_og, wp_og, wp_ite]
      refine ⟨ht p e, ⟨by omega, by omega⟩, fun h2 => ?_, fun h2 => ?_⟩
      · have h9 := ha (by omega)
        rw [wp_ob]
        refine wp_of (soil_ok hq h9.1 h9.2) ?_
        rw [wp_some]; exact ⟨Or.inr rfl, fun _ _ _ _ => rfl⟩
      · rw [wp_some]; exact ⟨Or.inl rfl, fun _ p' hp' h9 => by rw [e] at hp'; cases hp'; exact absurd h9 h2⟩
theorem Inv.ad {n : Nat} {M : cSt} (h : Inv n M) {k : Nat} (hk : k < n) (hp : gT M k 3 = 2 ∨ gT M k 3 = 3) : 100 ≤ gT M k 4 ∧ gT M k 4 < 420 := by
  obtain ⟨-, -, -, ⟨Y, O, G, hP⟩, hN, -⟩ := h
  exact hP.addr hN hk hp
theorem Inv.wr {n q f : Nat} {M M' : cSt} {t : Option Nat} (h : Inv n M) (hq : q < n) (hq0 : gT M q 3 ≠ 0) (ht : ∀ k, t = some k → k < n ∧ gT M k 3 ≠ 0) (hI : ∀ j, gI M' j = gI M j) (hT : ∀ k g, gT M' k g = gT M k g) (hR : ∀ r j, gR M' r j = gR M r j) (hL : ∀ k, gL M' k = gL M k)
    (hF : ∀ k j, gF M' k j = if k = q ∧ j = f then t else gF M k j) (hZ : ∀ j, gZ M' j = gZ M j ∨ gZ M' j = 1) (hZ1 : gT M q 3 ≠ 1 → ∀ p, t = some p → gT M p 3 = 1 → gZ M' (crd M q) = 1) : Inv n M' := by
  obtain ⟨hB, hr, ⟨Q, hQ⟩, ⟨Y, O, G, hP⟩, hN, hCr, hSl, hPin, hNum, hSz, hFl, hAg⟩ := h
  have hrow : ∀ {r l}, Row M r l → Row M' r l := fun h => ⟨(hI _).trans h.1, fun j hj => (hR _ j).trans (h.2 j hj)⟩
  have hcr : ∀ k, crd M' k = crd M k := fun k => by unfold crd; rw [hT]
  refine ⟨?_, ⟨fun k hk j p hj hp => ?_, fun k hk => ?_⟩, ⟨Q, ?_⟩, ⟨Y, O, G, ?_⟩, fun k hk => ?_, ⟨fun j hj => ?_, fun k hk hp hy => ?_⟩, fun j k hk => by rw [hI]; exact hSl j k (by rw [← hR]; exact hk), fun k hk h9 => ?_, fun k hk => ?_, fun k hk => ?_, ⟨?_, ?_, ?_, ?_⟩, fun k hk => ?_⟩
  · obtain ⟨a, b, c, d, e, f, g, i, j, l⟩ := hB
    refine ⟨a, hrow b, ⟨fun r j k hk => c.1 r j k (by rw [← hR]; exact hk), fun k j p hp => ?_⟩, fun k hk => by rw [hL]; exact d k hk, fun k hk => by rw [hT]; exact e k hk, by rw [hI]; exact f, by rw [hI]; exact g, fun k hk => by rw [hT]; exact i k hk, fun k hk => by rw [hT]; exact j k hk, fun k hk => by rw [hT]; exact l k hk⟩
    rw [hF] at hp
    split at hp
    · exact (ht p hp).1
    · exact c.2 k j p hp
  · rw [hL] at hj
    rw [hF] at hp
    rw [hT, hT]
    split at hp
    · rename_i h9
      rw [h9.1]; exact ⟨hq0, (ht p hp).2⟩
    · exact hr.1 k hk j p hj hp
  · rw [hT]
    refine hr.2 k ?_
    rcases hk with ⟨j, hj, h⟩ | ⟨j, hj, h⟩ | ⟨j, hj, h⟩ | h
    · exact Or.inl ⟨j, by rw [← hI]; exact hj, by rw [← hR]; exact h⟩
    · exact Or.inr (Or.inl ⟨j, hj, by rw [← hR]; exact h⟩)
    · exact Or.inr (Or.inr (Or.inl ⟨j, by rw [← hI]; exact hj, by rw [← hR]; exact h⟩))
    · exact Or.inr (Or.inr (Or.inr (by rw [← hT]; exact h)))
  · exact ⟨hrow hQ.1, hQ.2.1, fun k hk => ⟨(hQ.2.2 k hk).1, by rw [hT]; exact (hQ.2.2 k hk).2⟩⟩
  · obtain ⟨a1, a2, a3, a4, a5, a6, a7, a8, a9, b1, b2, b3, b4, b5, b6, b7, b8, b9, b10⟩ := hP
    refine ⟨hrow a1, hrow a2, hrow a3, a4, a5, a6, fun k => by rw [hT]; exact a7 k, fun k => by rw [hT]; exact a8 k, fun k => by rw [hT]; exact a9 k, ?_, ?_, b3.eq (fun k _ => ⟨hT k 4, hT k 5⟩), ?_⟩
    · rw [hI, hI]; exact b1.eq (fun k _ => ⟨hT k 4, hT k 5⟩)
    · rw [hI]; exact b2.eq (fun k _ => ⟨hT k 4, hT k 5⟩)
    · rw [hI, hI, hI, hI]
      exact ⟨b4, b5, b6, b7, b8, b9, b10⟩
  · rw [hT, hT, hT, hT]; exact hN k hk
  · have := hCr.1 j hj
    rcases hZ j with e | e <;> omega
  · rw [hT] at hp
    rw [hcr]
    obtain ⟨j, p, hj, hp9, h1⟩ := hy
    rw [hL] at hj
    rw [hF] at hp9
    rw [hT] at h1
    split at hp9
    · rename_i h9
      rw [h9.1] at hp ⊢
      exact hZ1 (by omega) p hp9 h1
    · have := hCr.2 k hk hp ⟨j, p, hj, hp9, h1⟩
      rcases hZ (crd M k) with e | e
      · rw [e]; exact this
      · exact e
  · rw [hT] at h9 ⊢; exact hPin k hk h9
  · rw [hT]; exact hNum k hk
  · rw [hT, hT, hT, hL]; exact hSz k hk
  · rw [hI]; exact hFl.1
  · rw [hI]; exact hFl.2.1
  · rw [hI]; exact hFl.2.2.1
  · rw [hI]; exact hFl.2.2.2
  · rw [hT, hT]; exact hAg k hk
theorem set_ok {n : Nat} {M : cSt} (h : Inv n M) {a b : Int} (h0 : 0 ≤ a) (h4 : a < 4) (hb0 : 0 ≤ b) (hb4 : b < 4) {q : Nat} (hq : sl M a = some q) {f : Nat} (hf : f < gL M q) :
    wp (f_X_set n M a (f : Int) b) (fun x => Inv n x.1 ∧ x.2 = nO (gF M q f) ∧ gF x.1 q f = sl M b ∧ (∀ j, gI x.1 j = gI M j) ∧ (∀ k g, gT x.1 k g = gT M k g) ∧ (∀ r j, gR x.1 r j = gR M r j) ∧ ∀ k, gL x.1 k = gL M k) := by
  have h1 := h.fr
  have hqT := h.slT q hq
  have hqn := hqT.1
  have hb := h.fl hqn
  unfold f_X_set
  rw [wp_ob]
  refine wp_of (reqSlot_ok h0 h4) ?_
  rw [wp_ob]
  refine wp_of (reqSlotN_ok (by omega) hb4) ?_
  rw [wp_ob]
  refine wp_of (occ_ok h1 h0 h4 hq hqn) ?_
  rw [wp_ob]
  refine wp_of (reqF_ok hqn hb.2 hf) ?_
  rw [wp_on]
  refine ⟨fun e => (by cases e), fun k e => ?_⟩
  cases e
  rw [wp_og, wp_ob]
  refine ⟨hqn, wp_of (readF_ok hb.2 hf) ?_⟩
  rw [wp_ob]
  refine wp_of (slot_ok h1 hb0 hb4) ?_
  have htT := h.slT (a := b)
  rw [wp_ob]
  refine wp_of (writeF_ok hb.2 hf (fun k hk => (htT k hk).1)) ?_
  rw [wp_ob]
  refine wp_mono (noteW_ok (M := sF M q f (sl M b)) hqn h.1.2.2.2.2.2.2.2.2.1 hqT.2 (fun hp => h.ad hqn hp) (fun k hk => (htT k hk).1)) (fun M2 h9 => ?_)
  obtain ⟨hM2, hM2s⟩ := h9
  have hI : ∀ j, gI M2 j = gI M j := fun j => by rcases hM2 with e | e <;> rw [e] <;> rfl
  have hT : ∀ k g, gT M2 k g = gT M k g := fun k g => by rcases hM2 with e | e <;> rw [e] <;> rfl
  have hR : ∀ r j, gR M2 r j = gR M r j := fun r j => by rcases hM2 with e | e <;> rw [e] <;> rfl
  have hL : ∀ k, gL M2 k = gL M k := fun k => by rcases hM2 with e | e <;> rw [e] <;> rfl
  have hF : ∀ k j, gF M2 k j = if k = q ∧ j = f then sl M b else gF M k j := fun k j => by
    have e9 : gF M2 k j = gF (sF M q f (sl M b)) k j := by rcases hM2 with e | e <;> rw [e]; rfl
    rw [e9, gF_sF]
  have hZ : ∀ j, gZ M2 j = gZ M j ∨ gZ M2 j = 1 := fun j => by
    rcases hM2 with e | e <;> rw [e]
    · exact Or.inl rfl
    · rw [gZ_sZ]
      split
      · exact Or.inr rfl
      · exact Or.inl rfl
  have hInv : Inv n M2 := h.wr hqn hqT.2 (fun k hk => htT k hk) hI hT hR hL hF hZ (fun hq1 p hp h1 => by
    rw [hM2s hq1 p hp h1, gZ_sZ]
    have : crd (sF M q f (sl M b)) q = crd M q := rfl
    rw [this, if_pos rfl])
  have h17 : gI M2 17 = 0 := hInv.2.2.2.2.2.2.2.2.2.2.1.1
  have hmk : f_Mk_noteWritten n M2 (some q) (sl M b) = some M2 := by
    unfold f_Mk_noteWritten
    rw [h17, og_of ⟨by omega, by omega⟩, if_pos rfl]
  rw [wp_ob]
  refine wp_of hmk ?_
  rw [wp_ob]
  refine wp_of (numO_ok (fun k hk => ⟨(h.fN k hk).1, by rw [hT]; exact (h.fN k hk).2⟩)) ?_
  rw [wp_some]
  exact ⟨hInv, rfl, by show gF M2 q f = _; rw [hF, if_pos ⟨rfl, rfl⟩], hI, hT, hR, hL⟩
/-- what pin does when it is done -/
def PinP (n : Nat) (M : cSt) (q : Nat) (M' : cSt) : Prop := Inv n M' ∧ gT M' q 9 = 1 ∧ gT M' q 3 ≠ 0 ∧ gT M' q 8 = gT M q 8 ∧ (∀ k g, k ≠ q → gT M' k g = gT M k g) ∧ (gT M q 9 ≠ 0 → gT M' q 4 = gT M q 4) ∧ gI M' 0 = gI M 0 ∧ gI M' 1 = gI M 1 ∧ (∀ j, gR M' 7 j = gR M 7 j ∧ gR M' 8 j = gR M 8 j) ∧ ∀ k, gL M' k = gL M k
theorem Inv.pin {n q : Nat} {M : cSt} (h : Inv n M) (hq : q < n) (hp : gT M q 3 = 2 ∨ gT M q 3 = 3) : PinP n M q (sT M q 9 1) := by
  have hT : ∀ k g, g ≠ 9 → gT (sT M q 9 1) k g = gT M k g := fun k g hg => by rw [gT_sT, if_neg (fun h9 => hg h9.2)]
  have hTo : ∀ k g, k ≠ q → gT (sT M q 9 1) k g = gT M k g := fun k g hk => by rw [gT_sT, if_neg (fun h9 => hk h9.1)]
  have h99 : gT (sT M q 9 1) q 9 = 1 := by rw [gT_sT, if_pos ⟨rfl, rfl⟩]
  refine ⟨?_, h99, by rw [hT q 3 (by decide)]; omega, hT q 8 (by decide), hTo, fun _ => hT q 4 (by decide), rfl, rfl, fun _ => ⟨rfl, rfl⟩, fun _ => rfl⟩
  obtain ⟨hB, hr, ⟨Q, hQ⟩, ⟨Y, O, G, hP⟩, hN, hCr, hSl, hPin, hNum, hSz, hFl, hAg⟩ := h
  have hY : ∀ k, HY (sT M q 9 1) k ↔ HY M k := fun k => by
    unfold HY
    constructor
    · rintro ⟨j, p, a, b, c⟩; exact ⟨j, p, a, b, by rw [← hT p 3 (by decide)]; exact c⟩
    · rintro ⟨j, p, a, b, c⟩; exact ⟨j, p, a, b, by rw [hT p 3 (by decide)]; exact c⟩
  have hcr : ∀ k, crd (sT M q 9 1) k = crd M k := fun k => by unfold crd; rw [hT k 4 (by decide)]
  refine ⟨?_, ⟨fun k hk j p hj hpp => ?_, fun k hk => ?_⟩, ⟨Q, ?_⟩, ⟨Y, O, G, ?_⟩, fun k hk => ?_, ⟨fun j hj => hCr.1 j hj, fun k hk hp hy => ?_⟩, hSl, fun k hk h9 => ?_, fun k hk => ?_, fun k hk => ?_, hFl, fun k hk => ?_⟩
  · obtain ⟨a, b, c, d, e, f, g, i, j, l⟩ := hB
    refine ⟨a, b, c, d, fun k hk => by rw [hT k 2 (by decide)]; exact e k hk, f, g, fun k hk => ?_, fun k hk => by rw [hT k 3 (by decide)]; exact j k hk, fun k hk => by rw [hT k 5 (by decide)]; exact l k hk⟩
    by_cases hkq : k = q
    · rw [hkq, h99]; exact Or.inr rfl
    · rw [hTo k 9 hkq]; exact i k hk
  · rw [hT k 3 (by decide), hT p 3 (by decide)]
    exact hr.1 k hk j p hj hpp
  · rw [hT k 3 (by decide)]
    by_cases hkq : k = q
    · rw [hkq]; omega
    · refine hr.2 k ?_
      rcases hk with h | h | h | h
      · exact Or.inl h
      · exact Or.inr (Or.inl h)
      · exact Or.inr (Or.inr (Or.inl h))
      · exact Or.inr (Or.inr (Or.inr (by rw [← hTo k 9 hkq]; exact h)))
  · exact ⟨hQ.1, hQ.2.1, fun k hk => ⟨(hQ.2.2 k hk).1, by rw [hT k 2 (by decide)]; exact (hQ.2.2 k hk).2⟩⟩
  · obtain ⟨a1, a2, a3, a4, a5, a6, a7, a8, a9, b1, b2, b3, b4, b5, b6, b7, b8, b9, b10⟩ := hP
    have h45 : ∀ k, gT (sT M q 9 1) k 4 = gT M k 4 ∧ gT (sT M q 9 1) k 5 = gT M k 5 := fun k => ⟨hT k 4 (by decide), hT k 5 (by decide)⟩
    exact ⟨a1, a2, a3, a4, a5, a6, fun k => by rw [hT k 3 (by decide)]; exact a7 k, fun k => by rw [hT k 3 (by decide)]; exact a8 k, fun k => by rw [hT k 3 (by decide)]; exact a9 k, b1.eq (fun k _ => h45 k), b2.eq (fun k _ => h45 k), b3.eq (fun k _ => h45 k), b4, b5, b6, b7, b8, b9, b10⟩
  · have h9 := hN k hk
    rw [hT k 4 (by decide), hT k 5 (by decide), hT k 6 (by decide)]
    by_cases hkq : k = q
    · rw [hkq] at h9 ⊢; rw [h99]; exact ⟨h9.1, h9.2.1, h9.2.2.1, h9.2.2.2.1, h9.2.2.2.2.1, Or.inr rfl⟩
    · rw [hTo k 9 hkq]; exact h9
  · rw [hT k 3 (by decide)] at hp
    rw [hcr]; exact hCr.2 k hk hp ((hY k).mp hy)
  · rw [hT k 3 (by decide)]
    by_cases hkq : k = q
    · rw [hkq]; exact hp
    · rw [hTo k 9 hkq] at h9; exact hPin k hk h9
  · rw [hT k 0 (by decide)]; exact hNum k hk
  · rw [hT k 5 (by decide), hT k 6 (by decide), hT k 8 (by decide)]; exact hSz k hk
  · rw [hT k 7 (by decide), hT k 3 (by decide)]; exact hAg k hk
/-- out of YOUNG -/
theorem out_ok {n q : Nat} {M : cSt} (h : Inv n M) (hq : q < n) (h1 : gT M q 3 = 1) (hroom : gT M q 6 ≤ 100 + gI M 5 - gI M 4) :
    wp (f_Pl_moveOutOfYoung n M (some q)) (fun M' => Inv n M' ∧ gT M' q 3 = 2 ∧ gT M' q 8 = gT M q 8 ∧ gT M' q 9 = gT M q 9 ∧ (∀ k g, k ≠ q → gT M' k g = gT M k g) ∧ gI M' 0 = gI M 0 ∧ gI M' 1 = gI M 1 ∧ (∀ j, gR M' 7 j = gR M 7 j ∧ gR M' 8 j = gR M 8 j) ∧ ∀ k, gL M' k = gL M k) := by
  obtain ⟨hB, hr, ⟨Q, hQ⟩, ⟨Y, O, G, hP⟩, hN, hCr, hSl, hPin, hNum, hSz, hFl, hAg⟩ := h
  have hn := hB.1
  have hP' := hP
  obtain ⟨a1, a2, a3, a4, a5, a6, a7, a8, a9, b1, b2, b3, b4, b5, b6, b7, b8, b9, b10⟩ := hP'
  have hNq := hN q hq
  have lY := nodup_le n Y a4 (fun k hk => ((a7 k).mp hk).1)
  have lO := nodup_le n O a5 (fun k hk => ((a8 k).mp hk).1)
  have hqO : q ∉ O := fun h => by have := ((a8 q).mp h).2; omega
  have hq9 : gT M q 9 = 0 := by
    rcases hB.2.2.2.2.2.2.2.1 q hq with e | e
    · exact e
    · have := hPin q hq (by omega); omega
  unfold f_Pl_moveOutOfYoung
  rw [wp_ob]
  refine wp_of (mto_ok hq a2 (by omega)) ?_
  have hT1 := mto_T M q
  have hE1 := mto_eqx M q
  have hp1 : ∀ k, k < n → 0 ≤ gT (mto M q) k 3 ∧ gT (mto M q) k 3 ≤ 3 := fun k hk => by
    rw [hT1]
    by_cases hkq : k = q
    · rw [if_pos hkq, if_neg (by decide), if_pos rfl]; decide
    · rw [if_neg hkq]; exact hB.2.2.2.2.2.2.2.2.1 k hk
  rw [wp_ob]
  refine wp_mono (keep_ok (r := 2) (p := 1) ⟨by decide, by decide⟩ (mto_refs hB.2.2.1 hq) (by omega) (fun k hk => ((a7 k).mp hk).1) hp1 (hE1.row a1 (by decide) (by decide))) (fun M2 h9 => ?_)
  obtain ⟨hE2, hc2, hR2⟩ := h9
  have hT2 : ∀ k f, gT M2 k f = if k = q then (if f = 4 then gI M 4 else if f = 3 then 2 else if f = 5 then gT M q 6 else gT M q f) else gT M k f := fun k f => (hE2.2.1 k f List.not_mem_nil).trans (hT1 k f)
  have hT2o : ∀ k f, k ≠ q → gT M2 k f = gT M k f := fun k f hk => by rw [hT2, if_neg hk]
  have hT2q3 : gT M2 q 3 = 2 := by rw [hT2, if_pos rfl, if_neg (by decide), if_pos rfl]
  have hT2q4 : gT M2 q 4 = gI M 4 := by rw [hT2, if_pos rfl, if_pos rfl]
  have hT2q5 : gT M2 q 5 = gT M q 6 := by rw [hT2, if_pos rfl, if_neg (by decide), if_neg (by decide), if_pos rfl]
  have hT2x : ∀ k f, f ≠ 3 → f ≠ 4 → f ≠ 5 → gT M2 k f = gT M k f := fun k f f3 f4 f5 => by
    rw [hT2]
    by_cases hkq : k = q
    · rw [if_pos hkq, if_neg f4, if_neg f3, if_neg f5, hkq]
    · rw [if_neg hkq]
  have hE : Eqx [4, 12, 13] [3, 4, 5] [2, 3] M M2 := (hE1.mono (by decide) (by decide) (by decide)).tr (hE2.mono (by decide) (by decide) (by decide))
  have hI4 : gI M2 4 = gI M 4 + gT M q 6 := by rw [hE2.1 4 (by decide), mto_I, if_neg (by decide), if_pos rfl]
  have hR3 : Row M2 3 (O ++ [q]) := hE2.row (mto_row a2) (by decide) (by decide)
  have hp2 : ∀ k, k < n → 0 ≤ gT M2 k 3 ∧ gT M2 k 3 ≤ 3 := fun k hk => by rw [hE2.2.1 k 3 List.not_mem_nil]; exact hp1 k hk
  rw [wp_on]
  refine ⟨fun e => (by cases e), fun k e => ?_⟩
  cases e
  rw [wp_og, wp_ob]
  refine ⟨hq, ?_⟩
  refine wp_mono (hy_ok (q := q) hc2 (by rw [hE.2.2.2.1]; exact (hB.2.2.2.1 q hq).2) hp2) (fun y h9 => ?_)
  obtain ⟨hy01, hyHY⟩ := h9
  have fin : ∀ F : cSt, (∀ j, gI F j = gI M2 j) → (∀ k f, gT F k f = gT M2 k f) → (∀ r j, gR F r j = gR M2 r j) → (∀ k, gL F k = gL M2 k) → (∀ k j, gF F k j = gF M2 k j) → (∀ j, gZ F j = gZ M2 j ∨ gZ F j = 1) → (HY M2 q → gZ F (crd M2 q) = 1) →
      Inv n F ∧ gT F q 3 = 2 ∧ gT F q 8 = gT M q 8 ∧ gT F q 9 = gT M q 9 ∧ (∀ k g, k ≠ q → gT F k g = gT M k g) ∧ gI F 0 = gI M 0 ∧ gI F 1 = gI M 1 ∧ (∀ j, gR F 7 j = gR M 7 j ∧ gR F 8 j = gR M 8 j) ∧ ∀ k, gL F k = gL M k := by
    intro F fI fT fR fL fF fZ fH
    have hrow : ∀ {r l}, Row M2 r l → Row F r l := fun h => ⟨(fI _).trans h.1, fun j hj => (fR _ j).trans (h.2 j hj)⟩
    have hIx : ∀ j, j ∉ [4, 12, 13] → gI F j = gI M j := fun j hj => (fI j).trans (hE.1 j hj)
    have hTx : ∀ k f, f ≠ 3 → f ≠ 4 → f ≠ 5 → gT F k f = gT M k f := fun k f f3 f4 f5 => (fT k f).trans (hT2x k f f3 f4 f5)
    have hTo : ∀ k f, k ≠ q → gT F k f = gT M k f := fun k f hk => (fT k f).trans (hT2o k f hk)
    have hq3 : gT F q 3 = 2 := (fT q 3).trans hT2q3
    have hq4 : gT F q 4 = gI M 4 := (fT q 4).trans hT2q4
    have hq5 : gT F q 5 = gT M q 6 := (fT q 5).trans hT2q5
    have hRx : ∀ r j, r ∉ [2, 3] → gR F r j = gR M r j := fun r j hr => (fR r j).trans (hE.2.2.1 r j hr)
    have hLx : ∀ k, gL F k = gL M k := fun k => (fL k).trans (hE.2.2.2.1 k)
    have hFx : ∀ k j, gF F k j = gF M k j := fun k j => (fF k j).trans (hE.2.2.2.2.1 k j)
    have hth : ∀ k, gT M k 3 ≠ 0 → gT F k 3 ≠ 0 := fun k hk => by
      by_cases hkq : k = q
      · rw [hkq, hq3]; decide
      · rw [hTo k 3 hkq]; exact hk
    refine ⟨?_, hq3, hTx q 8 (by decide) (by decide) (by decide), hTx q 9 (by decide) (by decide) (by decide), hTo, hIx 0 (by decide), hIx 1 (by decide), fun j => ⟨hRx 7 j (by decide), hRx 8 j (by decide)⟩, hLx⟩
    refine ⟨?_, ⟨fun k hk j p hj hp => ?_, fun k hk => ?_⟩, ⟨Q, ?_⟩, ⟨Y.filter (isP (mto M q) 1), O ++ [q], G, ?_⟩, fun k hk => ?_, ⟨fun j hj => ?_, fun k hk hp hy => ?_⟩, fun j k hk => by rw [hIx 1 (by decide)]; exact hSl j k (by rw [← hRx 7 j (by decide)]; exact hk), fun k hk h9 => ?_, fun k hk => ?_, fun k hk => ?_, ⟨?_, ?_, ?_, ?_⟩, fun k hk => ?_⟩
    · obtain ⟨a, b, c, d, e, f, g, i, j, l⟩ := hB
      refine ⟨a, ⟨(hIx 10 (by decide)).trans b.1, fun j hj => (hRx 0 j (by decide)).trans (b.2 j hj)⟩, ⟨fun r j k hk => hc2.1 r j k (by rw [← fR]; exact hk), fun k j p hp => hc2.2 k j p (by rw [← fF]; exact hp)⟩, fun k hk => by rw [hLx]; exact d k hk, fun k hk => by rw [hTx k 2 (by decide) (by decide) (by decide)]; exact e k hk, by rw [hIx 1 (by decide)]; exact f, by rw [hIx 11 (by decide)]; exact g, fun k hk => by rw [hTx k 9 (by decide) (by decide) (by decide)]; exact i k hk, fun k hk => by rw [fT]; exact hp2 k hk, fun k hk => ?_⟩
      by_cases hkq : k = q
      · rw [hkq, hq5]; omega
      · rw [hTo k 5 hkq]; exact l k hk
    · rw [hLx] at hj
      rw [hFx] at hp
      have := hr.1 k hk j p hj hp
      exact ⟨hth k this.1, hth p this.2⟩
    · refine hth k (hr.2 k ?_)
      rcases hk with ⟨j, hj, h⟩ | ⟨j, hj, h⟩ | ⟨j, hj, h⟩ | h
      · exact Or.inl ⟨j, by rw [← hIx 1 (by decide)]; exact hj, by rw [← hRx 7 j (by decide)]; exact h⟩
      · exact Or.inr (Or.inl ⟨j, hj, by rw [← hRx 8 j (by decide)]; exact h⟩)
      · exact Or.inr (Or.inr (Or.inl ⟨j, by rw [← hIx 11 (by decide)]; exact hj, by rw [← hRx 1 j (by decide)]; exact h⟩))
      · exact Or.inr (Or.inr (Or.inr (by rw [← hTx k 9 (by decide) (by decide) (by decide)]; exact h)))
    · exact ⟨⟨(hIx 11 (by decide)).trans hQ.1.1, fun j hj => (hRx 1 j (by decide)).trans (hQ.1.2 j hj)⟩, hQ.2.1, fun k hk => ⟨(hQ.2.2 k hk).1, by rw [hTx k 2 (by decide) (by decide) (by decide)]; exact (hQ.2.2 k hk).2⟩⟩
    · have hmY : ∀ k, k ∈ Y.filter (isP (mto M q) 1) ↔ (k ∈ Y ∧ k ≠ q) := fun k => by
        rw [List.mem_filter]
        unfold isP
        rw [decide_eq_true_iff, hT1]
        by_cases hkq : k = q
        · rw [if_pos hkq, if_neg (by decide), if_pos rfl]
          exact ⟨fun h => absurd h.2 (by decide), fun h => absurd hkq h.2⟩
        · rw [if_neg hkq]
          exact ⟨fun h => ⟨h.1, hkq⟩, fun h => ⟨h.1, ((a7 k).mp h.1).2⟩⟩
      have h45 : ∀ k, k ≠ q → gT F k 4 = gT M k 4 ∧ gT F k 5 = gT M k 5 := fun k hk => ⟨hTo k 4 hk, hTo k 5 hk⟩
      have hsn : Chn F 100 (gT F q 4 + gT F q 5) (O ++ [q]) := Chn.snoc (b2.eq (fun k hk => h45 k (fun e => hqO (e ▸ hk)))) (by rw [hq4]; exact b7) (by rw [hq4]; exact Int.le_refl _) (by rw [hq5]; omega)
      refine ⟨hrow hR2, hrow hR3, ⟨(hIx 14 (by decide)).trans a3.1, fun j hj => (hRx 4 j (by decide)).trans (a3.2 j hj)⟩, a4.filter _, List.nodup_append.mpr ⟨a5, List.nodup_cons.mpr ⟨List.not_mem_nil, List.nodup_nil⟩, fun x hx y hy e => by rw [List.mem_singleton] at hy; exact hqO (hy ▸ e ▸ hx)⟩, a6, fun k => ?_, fun k => ?_, fun k => ?_, ?_, ?_, b3.eq (fun k hk => h45 k (fun e => by have := ((a9 k).mp hk).2; rw [e] at this; omega)), ?_⟩
      · rw [hmY]
        by_cases hkq : k = q
        · rw [hkq, hq3]; exact ⟨fun h => absurd rfl h.2, fun h => absurd h.2 (by decide)⟩
        · rw [hTo k 3 hkq]
          exact ⟨fun h => (a7 k).mp h.1, fun h => ⟨(a7 k).mpr h, hkq⟩⟩
      · rw [List.mem_append, List.mem_singleton]
        by_cases hkq : k = q
        · rw [hkq, hq3]; exact ⟨fun _ => ⟨hq, rfl⟩, fun _ => Or.inr rfl⟩
        · rw [hTo k 3 hkq]
          exact ⟨fun h => h.elim (fun h => (a8 k).mp h) (fun h => absurd h hkq), fun h => Or.inl ((a8 k).mpr h)⟩
      · by_cases hkq : k = q
        · rw [hkq, hq3]; exact ⟨fun h => by have := ((a9 q).mp h).2; omega, fun h => absurd h.2 (by decide)⟩
        · rw [hTo k 3 hkq]; exact a9 k
      · rw [hIx 2 (by decide), hIx 3 (by decide)]
        exact (b1.filter _).eq (fun k hk => h45 k ((hmY k).mp hk).2)
      · rw [fI 4, hI4, ← hq4, ← hq5]; exact hsn
      · rw [hIx 2 (by decide), hIx 3 (by decide), hIx 5 (by decide), fI 4, hI4]
        exact ⟨b4, b5, b6, by omega, by omega, b9, b10⟩
    · have h9 := hN k hk
      rw [hTx k 6 (by decide) (by decide) (by decide), hTx k 9 (by decide) (by decide) (by decide)]
      by_cases hkq : k = q
      · rw [hkq, hq4, hq5]; omega
      · rw [hTo k 4 hkq, hTo k 5 hkq]; exact h9
    · have := hCr.1 j hj
      have e9 := hE.2.2.2.2.2 j
      rcases fZ j with e | e <;> omega
    · obtain ⟨j, p, hj, hp9, h9⟩ := hy
      have hpq : p ≠ q := fun e => by rw [e, hq3] at h9; exact absurd h9 (by decide)
      have hcr : crd F k = crd M2 k := by unfold crd; rw [fT]
      rw [hcr]
      by_cases hkq : k = q
      · rw [hkq]
        refine fH ⟨j, p, ?_, ?_, ?_⟩
        · rw [← fL, ← hkq]; exact hj
        · rw [← fF, ← hkq]; exact hp9
        · rw [← fT]; exact h9
      · rw [hTo k 3 hkq] at hp
        have hcr2 : crd M2 k = crd M k := by unfold crd; rw [hT2o k 4 hkq]
        have hz := hCr.2 k hk hp ⟨j, p, by rw [← hLx]; exact hj, by rw [← hFx]; exact hp9, by rw [← hTo p 3 hpq]; exact h9⟩
        rw [hcr2]
        rcases fZ (crd M k) with e | e
        · rw [e, hE.2.2.2.2.2]; exact hz
        · exact e
    · rw [hTx k 9 (by decide) (by decide) (by decide)] at h9
      by_cases hkq : k = q
      · rw [hkq, hq3]; exact Or.inl rfl
      · rw [hTo k 3 hkq]; exact hPin k hk h9
    · rw [hTx k 0 (by decide) (by decide) (by decide)]; exact hNum k hk
    · have h9 := hSz k hk
      rw [hTx k 6 (by decide) (by decide) (by decide), hTx k 8 (by decide) (by decide) (by decide), hLx]
      by_cases hkq : k = q
      · rw [hkq] at h9 ⊢; rw [hq5]; omega
      · rw [hTo k 5 hkq]; exact h9
    · rw [hIx 17 (by decide)]; exact hFl.1
    · rw [hIx 20 (by decide)]; exact hFl.2.1
    · rw [hIx 9 (by decide)]; exact hFl.2.2.1
    · rw [hIx 9 (by decide)]; exact hFl.2.2.2
    · have h9 := hAg k hk
      rw [hTx k 7 (by decide) (by decide) (by decide)]
      refine ⟨h9.1, h9.2.1, fun h3 => ?_⟩
      by_cases hkq : k = q
      · rw [hkq, hq3] at h3; exact absurd h3 (by decide)
      · rw [hTo k 3 hkq] at h3; exact h9.2.2 h3
  rw [wp_og, wp_ite]
  refine ⟨by rcases hy01 with e | e <;> rw [e] <;> exact ⟨by decide, by decide⟩, fun h0 => ?_, fun h0 => ?_⟩
  · rw [wp_some]
    exact fin M2 (fun _ => rfl) (fun _ _ => rfl) (fun _ _ => rfl) (fun _ => rfl) (fun _ _ => rfl) (fun _ => Or.inl rfl) (fun h9 => absurd h0 (hyHY.mpr h9))
  · rw [wp_ob]
    refine wp_of (soil_ok hq (by rw [hT2q4]; omega) (by rw [hT2q4]; omega)) ?_
    rw [wp_some]
    exact fin (sZ M2 (crd M2 q) 1) (fun _ => rfl) (fun _ _ => rfl) (fun _ _ => rfl) (fun _ => rfl) (fun _ _ => rfl) (fun j => by
      rw [gZ_sZ]
      split
      · exact Or.inr rfl
      · exact Or.inl rfl) (fun _ => by rw [gZ_sZ, if_pos rfl])
theorem pin_ok {n : Nat} {M : cSt} (h : Inv n M) {a : Int} (h0 : 0 ≤ a) (h4 : a < 4) {q : Nat} (hq : sl M a = some q) (hpn : ((List.range n).map (fun k => gT M k 9)).sum < 4) :
    wp (f_X_pin n M a) (fun x => (x = (M, 0) ∧ gT M q 3 = 1) ∨ (x.2 = 1 ∧ PinP n M q x.1)) := by
  have h1 := h.fr
  have hqT := h.slT q hq
  have hqn := hqT.1
  have hB := h.1
  have hn := hB.1
  have hp3 := hB.2.2.2.2.2.2.2.2.1 q hqn
  have hp9 := hB.2.2.2.2.2.2.2.1 q hqn
  have hN := h.2.2.2.2.1 q hqn
  obtain ⟨Y, O, G, hP⟩ := h.2.2.2.1
  obtain ⟨-, -, -, -, -, -, -, -, -, -, -, -, -, -, -, b7, b8, b9, b10⟩ := hP
  have hs0 := sum_rng (l := List.range n) (f := fun k => gT M k 9) (c := 1) (fun k hk => by
    have := hB.2.2.2.2.2.2.2.1 k (List.mem_range.mp hk); omega)
  have tail : wp (og (inR (gT M q 3)) (if gT M q 3 = 1 then ob (f_Pl_oldRoom n M) (fun x11 => og (inR x11) (og (inR (gT M q 6)) (if x11 < gT M q 6 then some (M, (0 : Int)) else ob (f_Pl_moveOutOfYoung n M (some q)) (fun x15 => some (sT x15 q 9 1, (1 : Int)))))) else some (sT M q 9 1, (1 : Int)))) (fun x => (x = (M, 0) ∧ gT M q 3 = 1) ∨ (x.2 = 1 ∧ PinP n M q x.1)) := by
    rw [wp_og, wp_ite]
    refine ⟨⟨by omega, by omega⟩, fun hy => ?_, fun hy => ?_⟩
    · unfold f_Pl_oldRoom
      rw [wp_ob, wp_some, wp_og, wp_og, wp_ite]
      refine ⟨⟨by omega, by omega⟩, ⟨by omega, by omega⟩, fun hlt => ?_, fun hge => ?_⟩
      · rw [wp_some]; exact Or.inl ⟨rfl, hy⟩
      · rw [wp_ob]
        refine wp_mono (out_ok h hqn hy (by omega)) (fun M1 h9 => ?_)
        obtain ⟨i1, i2, i3, i4, i5, i6, i7, i8, i9⟩ := h9
        rw [wp_some]
        refine Or.inr ⟨rfl, ?_⟩
        obtain ⟨j1, j2, j3, j4, j5, j6, j7, j8, j9, j10⟩ := i1.pin hqn (Or.inl i2)
        have h90 : gT M q 9 = 0 := by
          rcases hp9 with e | e
          · exact e
          · have := h.2.2.2.2.2.2.2.1 q hqn (by omega); omega
        exact ⟨j1, j2, j3, j4.trans i3, fun k g hk => (j5 k g hk).trans (i5 k g hk), fun h9 => absurd h90 h9, j7.trans i6, j8.trans i7, fun j => ⟨(j9 j).1.trans (i8 j).1, (j9 j).2.trans (i8 j).2⟩, fun k => (j10 k).trans (i9 k)⟩
    · rw [wp_some]
      exact Or.inr ⟨rfl, h.pin hqn (by have := hqT.2; omega)⟩
  unfold f_X_pin
  rw [wp_ob]
  refine wp_of (reqSlot_ok h0 h4) ?_
  rw [wp_ob]
  refine wp_of (occ_ok h1 h0 h4 hq hqn) ?_
  rw [wp_on]
  refine ⟨fun e => (by cases e), fun k e => ?_⟩
  cases e
  rw [wp_og, wp_og, wp_ite]
  refine ⟨hqn, ⟨by omega, by omega⟩, fun hz => ?_, fun hz => tail⟩
  rw [wp_ob]
  refine wp_of (pinnedR_ok hB.2.1 (by rw [List.length_range]; omega) (fun k hk => List.mem_range.mp hk) hB.2.2.2.2.2.2.2.1) ?_
  rw [wp_og, wp_ite]
  exact ⟨⟨by omega, by omega⟩, fun _ => tail, fun h9 => absurd hpn h9⟩
