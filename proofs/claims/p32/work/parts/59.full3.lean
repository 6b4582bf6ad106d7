/-! LAYER 2: a FULL up to what vanishes, as a whole. -/
/-- what refers refers to what is there -/
def Rfs (n : Nat) (M : cSt) : Prop := (∀ k, k < n → ∀ j q, j < gL M k → gF M k j = some q → gT M k 3 ≠ 0 ∧ gT M q 3 ≠ 0) ∧ ∀ k, IsRt M n k → gT M k 3 ≠ 0
theorem C1.there {n : Nat} {M : cSt} {s : Int} {h : Option Nat} {k : Nat} (hB : TB n M) (hr : Rfs n M) (hk : C1 M n s h k) : gT M k 3 ≠ 0 := by
  have := hk (fun k => gT M k 3 ≠ 0 ∧ k < n) (fun k hk => ⟨hr.2 k hk, IsRt.lt hB.2.2.1 hk⟩) (fun q k hq hf => by
    obtain ⟨-, j, -, hj, he⟩ := hf
    exact ⟨(hr.1 q hq.2 j k hj he).2, hB.2.2.1.2 q j k he⟩) (fun q a k hq _ hv => by
    have hb := hB.2.2.2.1 q hq.2
    exact ⟨(hr.1 q hq.2 1 k (by omega) hv.2.2.2.2).2, hB.2.2.1.2 q 1 k hv.2.2.2.2⟩)
  exact this.1
theorem C2.there {n : Nat} {M : cSt} {s : Int} {h : Option Nat} {k : Nat} (hB : TB n M) (hr : Rfs n M) (hk : C2 M n s h k) : gT M k 3 ≠ 0 ∧ k < n := by
  exact hk (fun k => gT M k 3 ≠ 0 ∧ k < n) (fun k hk => by
    rcases hk with hk | hk
    · exact ⟨C1.there hB hr hk, C1.lt hB.2.2.1 hk⟩
    · exact ⟨hk.2.1, hk.1⟩) (fun q k hq hf => by
    obtain ⟨-, j, -, hj, he⟩ := hf
    exact ⟨(hr.1 q hq.2 j k hj he).2, hB.2.2.1.2 q j k he⟩) (fun q a k hq _ hv => by
    have hb := hB.2.2.2.1 q hq.2
    exact ⟨(hr.1 q hq.2 1 k (by omega) hv.2.2.2.2).2, hB.2.2.1.2 q 1 k hv.2.2.2.2⟩)
/-- a state behind (a) to (c), the unmarked gone -/
def Swept (n : Nat) (M : cSt) (s : Int) (Q : List Nat) (M' : cSt) : Prop :=
  TB n M' ∧ (∀ j, j ∉ [11, 15, 18, 19] → gI M' j = gI M j) ∧ (∀ r j, r ∉ [1, 5, 9] → gR M' r j = gR M r j) ∧ (∀ k f, f ∉ [2, 3, 10, 12, 13] → gT M' k f = gT M k f) ∧ (∀ k, gL M' k = gL M k) ∧ (∀ j, gZ M' j = gZ M j) ∧
  (∀ k, k < n → (C2 M n s none k → gT M' k 3 = gT M k 3) ∧ (¬ C2 M n s none k → gT M' k 3 = 0)) ∧ (∀ k, k < n → gT M' k 2 = gT M k 2 ∨ (gT M k 2 = 4 ∧ gT M' k 2 = 0)) ∧
  (∃ R, Qok n M' (Q ++ R) ∧ ∀ k ∈ R, C2 M n s none k) ∧ (∀ k j q, gF M' k j = some q → gF M k j = some q) ∧ (∀ k, k < n → ∀ j q, j < gL M k → gF M' k j = some q → C2 M n s none k ∧ C2 M n s none q) ∧
  (∀ k, C2 M n s none k → C1 M' n 1 none k)
theorem full1_ok {β : Type} {n : Nat} {M : cSt} (hB : TB n M) (hr : Rfs n M) {Q : List Nat} (hQ : Qok n M Q) {s : Int} (hs : s = 0 ∨ s = 1) {rest : cSt × Int → Option β} {P : β → Prop}
    (kk : ∀ x : cSt × Int, Swept n M s Q x.1 → x.2 = sumN (fun k => if gT M k 3 = 0 then 0 else @ite Int (C2 M n s none k) (Classical.propDecidable _) 0 1) n → wp (rest x) P) :
    wp (ob (f_Tr_begin n M s none) (fun x1 => ob (f_Tr_markRoots n x1) (fun x4 => ob (f_Tr_spread n x4) (fun x5 => ob (f_Fu_dropReferences n x5 s) (fun x6 => ob (f_Fu_raiseFinals n x6) (fun x7 => ob (f_Tr_spread n x7) (fun x8 => ob (f_Fu_dropReferences n x8 s) (fun x9 => ob (f_Fu_sweep n x9) rest)))))))) P := by
  have hfu : fu = 500 := rfl
  have hn := hB.1
  have hc := hB.2.2.1
  refine trace1 hB hs (fun k h => by cases h) (fun M1 L1 hT1 hB1 he1 h19 hR9 h13 hM1 h18 hS1 hL1 => ?_)
  -- (b), the first time
  rw [wp_ob]
  refine wp_mono (drop_ok hs hT1 hM1) (fun M2 hd2 => ?_)
  have hF2 := hd2.1
  have hT2 : TC n M2 := hF2.tc hT1 hd2.sub
  have hB2 : TB n M2 := hF2.tb hB1 hd2.sub
  have hM2 : Mkd n M2 L1 := hF2.mkd hM1
  have hQ2 : Qok n M2 Q := ⟨hF2.row (he1.row hQ.1 (by decide) (by decide)), hQ.2.1, fun k hk => ⟨(hQ.2.2 k hk).1, by rw [hF2.2.1, he1.2.1 k 2 (by decide)]; exact (hQ.2.2 k hk).2⟩⟩
  -- fields behind (b)
  have hgF1 : ∀ k j, gF M1 k j = gF M k j := fun k j => he1.2.2.2.2.1 k j
  have hk1 : ∀ k, gT M1 k 2 = gT M k 2 := fun k => he1.2.1 k 2 (by decide)
  have hp1 : ∀ k, gT M1 k 3 = gT M k 3 := fun k => he1.2.1 k 3 (by decide)
  have hsub2 : ∀ k j q, gF M2 k j = some q → gF M k j = some q := fun k j q h => by rw [← hgF1]; exact hd2.sub k j q h
  -- the raised ones
  rw [wp_ob]
  have hraise : wp (f_Fu_raiseFinals n M2) (fun M' => TC n M' ∧ Eqx [11, 15] [2, 12] [1, 5] M2 M' ∧ ∃ L', Mkd n M' (L1 ++ L') ∧ Qok n M' (Q ++ L') ∧ (∀ k, k ∈ L' ↔ (0 ≤ k ∧ Fin9 M2 n k ∧ k ∉ L1)) ∧ ∀ k, k < n → gT M' k 2 = if k ∈ L' then 0 else gT M2 k 2) := by
    unfold f_Fu_raiseFinals
    rw [wp_ob]
    refine wp_mono (raise_loop fu M2 L1 Q 0 hT2 hB2.2.2.2.2.2.2.2.2.1 hM2 hQ2 (Nat.zero_le _) (by rw [hfu]; omega)) (fun M3 h => ?_)
    rw [wp_some]; exact h
  refine wp_mono hraise (fun M3 h => ?_)
  obtain ⟨hT3, he3, R, hM3, hQ3, hR3, hk3⟩ := h
  have hfin : ∀ k, Fin9 M2 n k ↔ Fin9 M n k := fun k => by unfold Fin9; rw [hF2.2.1, hF2.2.1, hp1 k, hk1 k]
  have hRm : ∀ k, k ∈ R ↔ (Fin9 M n k ∧ ¬ C1 M n s none k) := fun k => (hR3 k).trans ⟨fun h => ⟨(hfin k).mp h.2.1, fun h9 => h.2.2 ((hL1 k).mpr h9)⟩, fun h => ⟨Nat.zero_le _, (hfin k).mpr h.1, fun h9 => h.2 ((hL1 k).mp h9)⟩⟩
  have hk30 : ∀ k, k < n → gT M3 k 2 = if k ∈ R then 0 else gT M k 2 := fun k hk => by rw [hk3 k hk, hF2.2.1, hk1]
  have hgF3 : ∀ k j, gF M3 k j = gF M2 k j := fun k j => he3.2.2.2.2.1 k j
  have hgL3 : ∀ k, gL M3 k = gL M k := fun k => (he3.2.2.2.1 k).trans ((hF2.2.2.2.1 k).trans (he1.2.2.2.1 k))
  -- marking goes on
  rw [wp_ob]
  have h183 : gI M3 18 = L1.length := (he3.1 18 (by decide)).trans ((hF2.1 18).trans h18)
  have h193 : gI M3 19 = s := (he3.1 19 (by decide)).trans ((hF2.1 19).trans h19)
  have hR93 : gR M3 9 0 = none := (he3.2.2.1 9 0 (by decide)).trans ((hF2.2.2.1 9 0).trans hR9)
  have h133 : ∀ q, q < n → gT M3 q 13 = 0 := fun q hq => (he3.2.1 q 13 (by decide)).trans ((hF2.2.1 q 13).trans (h13 q hq))
  have hfS3 : ∀ q, q < n → fS (gT M3 q 2) s = fS (gT M q 2) s := fun q hq => by
    rw [hk30 q hq]; split
    · rename_i h9
      have := ((hRm q).mp h9).1.2.2
      rw [this]
      unfold fS
      rw [if_neg (by decide), if_neg (by omega), if_neg (by decide), if_neg (by omega)]
    · rfl
  have hk33 : ∀ q, q < n → (gT M3 q 2 = 3 ↔ gT M q 2 = 3) := fun q hq => by
    rw [hk30 q hq]; split
    · rename_i h9
      have := ((hRm q).mp h9).1.2.2
      omega
    · exact Iff.rfl
  have hScn3 : Scn M3 (L1 ++ R) L1.length := fun j q hj hq k hk => by
    rw [List.getElem?_append_left hj] at hq
    have hqL : q ∈ L1 := List.mem_of_getElem? hq
    have hqn := hM1.2.2.1 q hqL
    refine List.mem_append_left _ (hS1 j q hj hq k ?_)
    obtain ⟨a, i, b, c, d⟩ := hk
    refine ⟨by rw [hR9]; exact fun h => (by cases h), i, ?_, by rw [he1.2.2.2.1, ← hgL3]; exact c, hd2.sub q i k (by rw [← hgF3]; exact d)⟩
    rw [h19, hk1 q, ← hfS3 q hqn, ← h193]; exact b
  refine wp_mono (spread_ok hT3 hM3 (c := L1.length) h183 (by rw [List.length_append]; omega) hScn3) (fun M4 h => ?_)
  obtain ⟨hT4, he4, L4, hM4, -, -, hr4⟩ := h
  -- the set that is marked now
  have hI : ∀ k, k ∈ L1 ++ R ↔ (C1 M n s none k ∨ Fin9 M n k) := fun k => by
    rw [List.mem_append, hL1 k, hRm k]
    constructor
    · rintro (h | h)
      · exact Or.inl h
      · exact Or.inr h.1
    · rintro (h | h)
      · exact Or.inl h
      · by_cases h9 : C1 M n s none k
        · exact Or.inl h9
        · exact Or.inr ⟨h, h9⟩
  have hIlt : ∀ k, (C1 M n s none k ∨ Fin9 M n k) → k < n := fun k hk => by
    rcases hk with hk | hk
    · exact C1.lt hc hk
    · exact hk.1
  have hKM1 : ∀ k, KM M1 L1 k ↔ ∃ a, gF M k 0 = some a ∧ C1 M n s none a := fun k => by
    unfold KM
    simp only [hgF1, hL1]
  -- fields that stay at the first time
  have stay1 : ∀ (q j : Nat), q < n → fS (gT M q 2) s ≤ j → gF M2 q j = gF M q j := fun q j hq hj => by
    rw [(hd2.2 q j).2 (fun h9 => ?_), hgF1]
    rcases h9.2.2 with hd | hd
    · rw [hk1] at hd
      unfold fS at hj; rw [if_pos hd.1] at hj
      have := hd.2.2.2; omega
    · rw [hk1] at hd
      have h8 : ¬ gT M q 2 = 3 := by have := hd.1; omega
      unfold fS at hj; rw [if_neg h8, if_pos hd.1] at hj
      have := hd.2.2; omega
  have stayV : ∀ (q j : Nat), q < n → gT M q 2 = 3 → ¬ Cut M n s none q → gF M2 q j = gF M q j := fun q j hq h3 hcut => by
    rw [(hd2.2 q j).2 (fun h9 => ?_), hgF1]
    rcases h9.2.2 with hd | hd
    · exact hcut ⟨(hL1 q).mp hd.2.1, h3, fun h8 => hd.2.2.1 ((hKM1 q).mpr h8)⟩
    · rw [hk1] at hd; have := hd.1; omega
  have cutE : ∀ (q j : Nat), q < n → Cut M n s none q → (j = 0 ∨ j = 1) → gF M2 q j = none := fun q j hq hcut hj =>
    (hd2.2 q j).1 ⟨Nat.zero_le _, hq, Or.inl ⟨by rw [hk1]; exact hcut.2.1, (hL1 q).mpr hcut.1, fun h9 => hcut.2.2 ((hKM1 q).mp h9), hj⟩⟩
  have hc3 : cRf n M3 := hT3.2.2.1
  have hmem4 : ∀ k, k ∈ (L1 ++ R) ++ L4 ↔ C2 M n s none k := fun k => by
    rw [hr4 k, Rch.toP (Eqx.rf _ _ _ M3) h193 hR93]
    unfold C2
    constructor
    · refine RchP.congr2 hc3 (fun k hk => hIlt k ((hI k).mp hk)) (fun k hk => (hI k).mp hk) (fun q k hq hf => ?_) (fun q a k hq hv => ?_)
      · obtain ⟨a, i, b, c, d⟩ := hf
        exact ⟨a, i, by rw [← hfS3 q hq]; exact b, by rw [← hgL3]; exact c, hsub2 q i k (by rw [← hgF3]; exact d)⟩
      · obtain ⟨a1, a2, a3, a4, a5⟩ := hv
        rw [hgF3] at a4 a5
        refine ⟨(hk33 q hq).mp a1, a2, fun hcut => ?_, hsub2 q 0 a a4, hsub2 q 1 k a5⟩
        rw [cutE q 0 hq hcut (Or.inl rfl)] at a4; cases a4
    · refine RchP.congr2 hc hIlt (fun k hk => (hI k).mpr hk) (fun q k hq hf => ?_) (fun q a k hq hv => ?_)
      · obtain ⟨a, i, b, c, d⟩ := hf
        exact ⟨a, i, by rw [hfS3 q hq]; exact b, by rw [hgL3]; exact c, by rw [hgF3, stay1 q i hq b]; exact d⟩
      · obtain ⟨a1, a2, a3, a4, a5⟩ := hv
        exact ⟨(hk33 q hq).mpr a1, a2, fun h9 => h9 (h133 q hq), by rw [hgF3, stayV q 0 hq a1 a3]; exact a4, by rw [hgF3, stayV q 1 hq a1 a3]; exact a5⟩
  -- (b), the second time
  rw [wp_ob]
  refine wp_mono (drop_ok hs hT4 hM4) (fun M5 hd5 => ?_)
  have hF5 := hd5.1
  have hM5 : Mkd n M5 ((L1 ++ R) ++ L4) := hF5.mkd hM4
  have hgF4 : ∀ k j, gF M4 k j = gF M2 k j := fun k j => (he4.2.2.2.2.1 k j).trans (hgF3 k j)
  have hsub5 : ∀ k j q, gF M5 k j = some q → gF M2 k j = some q := fun k j q h => by rw [← hgF4]; exact hd5.sub k j q h
  have hk4 : ∀ k, gT M4 k 2 = gT M3 k 2 := fun k => he4.2.1 k 2 (by decide)
  have hKM4 : ∀ k, KM M4 ((L1 ++ R) ++ L4) k ↔ ∃ a, gF M2 k 0 = some a ∧ C2 M n s none a := fun k => by
    unfold KM
    simp only [hgF4, hmem4]
  have hT5 : TC n M5 := hF5.tc hT4 hd5.sub
  -- all that a state of things is, so far
  have hgI5 : ∀ j, j ∉ [11, 15, 18, 19] → gI M5 j = gI M j := fun j hj => by
    rw [hF5.1, he4.1 j (fun h => hj (by simp at h ⊢; omega)), he3.1 j (fun h => hj (by simp at h ⊢; omega)), hF2.1, he1.1 j (fun h => hj (by simp at h ⊢; omega))]
  have hgR5 : ∀ r j, r ∉ [1, 5, 9] → gR M5 r j = gR M r j := fun r j hj => by
    rw [hF5.2.2.1, he4.2.2.1 r j (fun h => hj (by simp at h ⊢; omega)), he3.2.2.1 r j (fun h => hj (by simp at h ⊢; omega)), hF2.2.2.1, he1.2.2.1 r j (fun h => hj (by simp at h ⊢; omega))]
  have hgT5 : ∀ k f, f ∉ [2, 12, 13] → gT M5 k f = gT M k f := fun k f hj => by
    rw [hF5.2.1, he4.2.1 k f (fun h => hj (by simp at h ⊢; omega)), he3.2.1 k f (fun h => hj (by simp at h ⊢; omega)), hF2.2.1, he1.2.1 k f (fun h => hj (by simp at h ⊢; omega))]
  have hgL5 : ∀ k, gL M5 k = gL M k := fun k => (hF5.2.2.2.1 k).trans ((he4.2.2.2.1 k).trans (hgL3 k))
  have hgZ5 : ∀ j, gZ M5 j = gZ M j := fun j => (hF5.2.2.2.2 j).trans ((he4.2.2.2.2.2 j).trans ((he3.2.2.2.2.2 j).trans ((hF2.2.2.2.2 j).trans (he1.2.2.2.2.2 j))))
  have hQ5 : Qok n M5 (Q ++ R) := ⟨hF5.row (he4.row hQ3.1 (by decide) (by decide)), hQ3.2.1, fun k hk => ⟨(hQ3.2.2 k hk).1, by rw [hF5.2.1, hk4]; exact (hQ3.2.2 k hk).2⟩⟩
  have hQl : (Q ++ R).length ≤ n := nodup_le n _ hQ5.2.1 (fun k hk => (hQ5.2.2 k hk).1)
  have hB5 : TB n M5 := by
    obtain ⟨a, b, c, d, e, f, g, i, j, l⟩ := hB
    exact ⟨a, ⟨(hgI5 10 (by decide)).trans b.1, fun j hj => (hgR5 0 j (by decide)).trans (b.2 j hj)⟩, hT5.2.2.1, fun k hk => by rw [hgL5]; exact d k hk, hT5.2.2.2.2.1, by rw [hgI5 1 (by decide)]; exact f, by have := hQ5.1.1; rw [show 10 + 1 = 11 from rfl] at this; rw [this]; omega, fun k hk => by rw [hgT5 k 9 (by decide)]; exact i k hk, fun k hk => by rw [hgT5 k 3 (by decide)]; exact j k hk, fun k hk => by rw [hgT5 k 5 (by decide)]; exact l k hk⟩
  -- what vanishes
  rw [wp_ob]
  refine wp_mono (sweep_ok hB5 (fun k hk => by rw [hM5.2.2.2 k hk]; split; exact Or.inr rfl; exact Or.inl rfl)) (fun x h => ?_)
  obtain ⟨⟨hE, hW⟩, hg⟩ := h
  have hsw : ∀ k, k < n → (Sw n M5 0 k ↔ (gT M k 3 ≠ 0 ∧ ¬ C2 M n s none k)) := fun k hk => by
    unfold Sw
    rw [hgT5 k 3 (by decide), hM5.2.2.2 k hk]
    constructor
    · rintro ⟨-, -, h3, h12⟩
      refine ⟨h3, fun h9 => ?_⟩
      rw [if_pos ((hmem4 k).mpr h9)] at h12; exact absurd h12 (by decide)
    · rintro ⟨h3, h9⟩
      exact ⟨Nat.zero_le _, hk, h3, by rw [if_neg (fun h8 => h9 ((hmem4 k).mp h8))]⟩
  have hpl : ∀ k, k < n → (C2 M n s none k → gT x.1 k 3 = gT M k 3) ∧ (¬ C2 M n s none k → gT x.1 k 3 = 0) := fun k hk => by
    constructor
    · intro h9
      rw [((hW k).2.1 (fun h8 => ((hsw k hk).mp h8).2 h9)).1, hgT5 k 3 (by decide)]
    · intro h9
      by_cases h0 : gT M k 3 = 0
      · rw [((hW k).2.1 (fun h8 => ((hsw k hk).mp h8).1 h0)).1, hgT5 k 3 (by decide)]; exact h0
      · exact ((hW k).1 ((hsw k hk).mpr ⟨h0, h9⟩)).1
  have hkd : ∀ k, k < n → gT x.1 k 2 = if k ∈ R then 0 else gT M k 2 := fun k hk => by
    rw [hE.2.1 k 2 (by decide) (by decide), hF5.2.1, hk4, hk30 k hk]
  have hRC : ∀ k, k ∈ R → C2 M n s none k := fun k hk => RchP.base (Or.inr ((hRm k).mp hk).1)
  have hBx : TB n x.1 := hB5.sw hE (fun k hk => by
    have := hB.2.2.2.2.2.2.2.2.1 k hk
    by_cases h9 : C2 M n s none k
    · rw [(hpl k hk).1 h9]; exact this
    · rw [(hpl k hk).2 h9]; omega) (fun k j q => (hW k).2.2 j q)
  have hsubx : ∀ k j q, gF x.1 k j = some q → gF M k j = some q := fun k j q h => hsub2 k j q (hsub5 k j q ((hW k).2.2 j q h))
  -- kept things keep what they follow
  have keepF : ∀ (q j : Nat), q < n → C2 M n s none q → gF x.1 q j = gF M5 q j := fun q j hq h9 => ((hW q).2.1 (fun h8 => ((hsw q hq).mp h8).2 h9)).2.2 j
  have stay5 : ∀ (q j : Nat), q < n → fS (gT M q 2) s ≤ j → gF M5 q j = gF M2 q j := fun q j hq hj => by
    rw [(hd5.2 q j).2 (fun h9 => ?_), hgF4]
    rw [← hfS3 q hq] at hj
    rcases h9.2.2 with hd | hd
    · rw [hk4] at hd
      unfold fS at hj; rw [if_pos hd.1] at hj
      have := hd.2.2.2; omega
    · rw [hk4] at hd
      have h8 : ¬ gT M3 q 2 = 3 := by have := hd.1; omega
      unfold fS at hj; rw [if_neg h8, if_pos hd.1] at hj
      have := hd.2.2; omega
  refine kk x ⟨hBx, fun j hj => (hE.1 j).trans (hgI5 j hj), fun r j hr => (hE.2.2.1 r j).trans (hgR5 r j hr), fun k f hf => ?_, fun k => (hE.2.2.2.1 k).trans (hgL5 k), fun j => (hE.2.2.2.2 j).trans (hgZ5 j), hpl, fun k hk => ?_, ⟨R, ⟨⟨(hE.1 _).trans hQ5.1.1, fun j hj => (hE.2.2.1 1 j).trans (hQ5.1.2 j hj)⟩, hQ5.2.1, fun k hk => ⟨(hQ5.2.2 k hk).1, by rw [hE.2.1 k 2 (by decide) (by decide)]; exact (hQ5.2.2 k hk).2⟩⟩, hRC⟩, hsubx, fun k hk j q hj hq => ?_, fun k hk => ?_⟩ ?_
  · rw [hE.2.1 k f (fun h => hf (by rw [h]; decide)) (fun h => hf (by rw [h]; decide)), hgT5 k f (fun h => hf (by simp at h ⊢; omega))]
  · rw [hkd k hk]; split
    · rename_i h9
      exact Or.inr ⟨((hRm k).mp h9).1.2.2, rfl⟩
    · exact Or.inl rfl
  · -- a field that is left
    have hkC : C2 M n s none k := by
      by_cases h9 : C2 M n s none k
      · exact h9
      · have h3 := (hr.1 k hk j q hj (hsubx k j q hq)).1
        rw [((hW k).1 ((hsw k hk).mpr ⟨h3, h9⟩)).2 j (by rw [hgL5]; exact hj)] at hq; cases hq
    refine ⟨hkC, ?_⟩
    have h5 : gF M5 k j = some q := (hW k).2.2 j q hq
    have h2 : gF M2 k j = some q := hsub5 k j q h5
    have h0 : gF M k j = some q := hsub2 k j q h2
    by_cases hf : fS (gT M k 2) s ≤ j
    · exact RchP.fol hkC ⟨fun h => (by cases h), j, hf, hj, h0⟩
    · -- not followed: it was kept, as what it hangs on is marked
      have hnd : ¬ Drp M4 ((L1 ++ R) ++ L4) s k j := fun h9 => by
        rw [(hd5.2 k j).1 ⟨Nat.zero_le _, hk, h9⟩] at h5; cases h5
      by_cases h3 : gT M k 2 = 3
      · have hj01 : j = 0 ∨ j = 1 := by unfold fS at hf; rw [if_pos h3] at hf; omega
        have hkm : KM M4 ((L1 ++ R) ++ L4) k := by
          by_cases h9 : KM M4 ((L1 ++ R) ++ L4) k
          · exact h9
          · exact absurd (Or.inl ⟨by rw [hk4]; exact (hk33 k hk).mpr h3, (hmem4 k).mpr hkC, h9, hj01⟩) hnd
        obtain ⟨a, ha, haC⟩ := (hKM4 k).mp hkm
        rcases hj01 with e | e
        · rw [e] at h2; rw [h2] at ha; cases ha; exact haC
        · rw [e] at h0
          have hncut : ¬ Cut M n s none k := fun hcut => by
            rw [cutE k 0 hk hcut (Or.inl rfl)] at ha; cases ha
          exact RchP.val hkC haC ⟨h3, fun h => (by cases h), hncut, hsub2 k 0 a ha, h0⟩
      · have hw : (gT M k 2 = 1 ∨ (gT M k 2 = 2 ∧ s = 0)) ∧ j = 0 := by
          unfold fS at hf; rw [if_neg h3] at hf
          by_cases h9 : gT M k 2 = 1 ∨ (gT M k 2 = 2 ∧ s = 0)
          · rw [if_pos h9] at hf; exact ⟨h9, by omega⟩
          · rw [if_neg h9] at hf; omega
        have hkR : k ∉ R := fun h9 => by have := ((hRm k).mp h9).1.2.2; omega
        have hkm : KM M4 ((L1 ++ R) ++ L4) k := by
          by_cases h9 : KM M4 ((L1 ++ R) ++ L4) k
          · exact h9
          · exact absurd (Or.inr ⟨by rw [hk4, hk30 k hk, if_neg hkR]; exact hw.1, h9, hw.2⟩) hnd
        obtain ⟨a, ha, haC⟩ := (hKM4 k).mp hkm
        rw [hw.2] at h2; rw [h2] at ha; cases ha; exact haC
  · -- all that is kept is reachable
    have hrt : ∀ k, IsRt M n k → IsRt x.1 n k := fun k hk => by
      have e1 : gI x.1 1 = gI M 1 := (hE.1 1).trans (hgI5 1 (by decide))
      rcases hk with ⟨j, hj, h⟩ | ⟨j, hj, h⟩ | ⟨j, hj, h⟩ | h
      · exact Or.inl ⟨j, by rw [e1]; exact hj, ((hE.2.2.1 7 j).trans (hgR5 7 j (by decide))).trans h⟩
      · exact Or.inr (Or.inl ⟨j, hj, ((hE.2.2.1 8 j).trans (hgR5 8 j (by decide))).trans h⟩)
      · refine Or.inr (Or.inr (Or.inl ⟨j, ?_, ?_⟩))
        · have h1 := hQ5.1.1
          have h2 := hQ.1.1
          rw [show 10 + 1 = 11 from rfl] at h1 h2
          rw [hE.1, h1, List.length_append]; omega
        · have h2 := hQ.1.1
          rw [show 10 + 1 = 11 from rfl] at h2
          have hjl : j < Q.length := by omega
          rw [hE.2.2.1, hQ5.1.2 j (by rw [List.length_append]; omega), List.getElem?_append_left hjl, ← hQ.1.2 j hjl]; exact h
      · exact Or.inr (Or.inr (Or.inr ⟨h.1, by rw [hE.2.1 k 9 (by decide) (by decide), hgT5 k 9 (by decide)]; exact h.2⟩))
    have hfx : ∀ q, q < n → fS (gT x.1 q 2) 1 ≤ fS (gT M q 2) s := fun q hq => by
      rw [hkd q hq]
      by_cases h9 : q ∈ R
      · rw [if_pos h9]
        have := (fS_le (gT M q 2) s).1
        unfold fS at *
        rw [if_neg (by decide), if_neg (by omega)]; exact this
      · rw [if_neg h9]
        unfold fS
        split
        · omega
        · split
          · rename_i h8
            have : gT M q 2 = 1 := by omega
            rw [if_pos (Or.inl this)]; omega
          · split <;> omega
    have hfolx : ∀ q k, C2 M n s none q → FolP M s none q k → FolP x.1 1 none q k := fun q k hq hf => by
      obtain ⟨a, i, b, c, d⟩ := hf
      have hqn := (C2.there hB hr hq).2
      exact ⟨a, i, Int.le_trans (hfx q hqn) b, by rw [hE.2.2.2.1, hgL5]; exact c, by rw [keepF q i hqn hq, stay5 q i hqn b, stay1 q i hqn b]; exact d⟩
    have hk3x : ∀ q, q < n → gT M q 2 = 3 → gT x.1 q 2 = 3 := fun q hq h3 => by
      rw [hkd q hq, if_neg (fun h9 => by have := ((hRm q).mp h9).1.2.2; omega)]; exact h3
    have hvalx : ∀ q a k, C2 M n s none q → C2 M n s none a → ValP M none (Cut M n s none) q a k → ValP x.1 none (fun _ => False) q a k := fun q a k hq ha hv => by
      obtain ⟨a1, a2, a3, a4, a5⟩ := hv
      have hqn := (C2.there hB hr hq).2
      have hst : ∀ j, gF x.1 q j = gF M q j := fun j => by
        rw [keepF q j hqn hq, (hd5.2 q j).2 (fun h9 => ?_), hgF4, stayV q j hqn a1 a3]
        rcases h9.2.2 with hd | hd
        · exact hd.2.2.1 ((hKM4 q).mpr ⟨a, by rw [stayV q 0 hqn a1 a3]; exact a4, ha⟩)
        · rw [hk4] at hd
          have := (hk33 q hqn).mpr a1
          have := hd.1; omega
      exact ⟨hk3x q hqn a1, a2, fun h => h, by rw [hst]; exact a4, by rw [hst]; exact a5⟩
    -- by the sets themselves
    have hC1 : ∀ k, C1 M n s none k → C1 M n s none k ∧ C1 x.1 n 1 none k ∧ C2 M n s none k := fun k hk =>
      hk (fun k => C1 M n s none k ∧ C1 x.1 n 1 none k ∧ C2 M n s none k) (fun k hk => ⟨RchP.base hk, RchP.base (hrt k hk), RchP.base (Or.inl (RchP.base hk))⟩) (fun q k hq hf => ⟨RchP.fol hq.1 hf, RchP.fol hq.2.1 (hfolx q k hq.2.2 hf), RchP.fol hq.2.2 hf⟩) (fun q a k hq ha hv => by
        have hncut : ¬ Cut M n s none q := fun hcut => hcut.2.2 ⟨a, hv.2.2.2.1, ha.1⟩
        have hv' : ValP M none (Cut M n s none) q a k := ⟨hv.1, hv.2.1, hncut, hv.2.2.2.1, hv.2.2.2.2⟩
        exact ⟨RchP.val hq.1 ha.1 hv, RchP.val hq.2.1 ha.2.1 (hvalx q a k hq.2.2 ha.2.2 hv'), RchP.val hq.2.2 ha.2.2 hv'⟩)
    exact (hk (fun k => C1 x.1 n 1 none k ∧ C2 M n s none k) (fun k hk => by
      rcases hk with hk | hk
      · exact (hC1 k hk).2
      · by_cases h9 : C1 M n s none k
        · exact (hC1 k h9).2
        · have hkR : k ∈ R := (hRm k).mpr ⟨hk, h9⟩
          refine ⟨RchP.base (Or.inr (Or.inr (Or.inl ?_))), hRC k hkR⟩
          obtain ⟨j, hj, hj2⟩ := List.getElem_of_mem hkR
          have h1 := hQ5.1.1
          rw [show 10 + 1 = 11 from rfl] at h1
          refine ⟨Q.length + j, ?_, ?_⟩
          · rw [hE.1, h1, List.length_append]; omega
          · rw [hE.2.2.1, hQ5.1.2 _ (by rw [List.length_append]; omega), List.getElem?_append_right (by omega), show Q.length + j - Q.length = j by omega, List.getElem?_eq_getElem hj, hj2]) (fun q k hq hf => ⟨RchP.fol hq.1 (hfolx q k hq.2 hf), RchP.fol hq.2 hf⟩) (fun q a k hq ha hv => ⟨RchP.val hq.1 ha.1 (hvalx q a k hq.2 ha.2 hv), RchP.val hq.2 ha.2 hv⟩)).1
  · rw [hg]
    refine sumN_congr (fun k hk => ?_)
    unfold swc
    rw [hgT5 k 3 (by decide), hM5.2.2.2 k hk]
    by_cases h0 : gT M k 3 = 0
    · rw [if_pos h0, if_pos h0]
    · rw [if_neg h0, if_neg h0]
      by_cases h9 : C2 M n s none k
      · rw [if_pos ((hmem4 k).mpr h9), if_neg (by decide), if_pos h9]
      · rw [if_neg (fun h8 => h9 ((hmem4 k).mp h8)), if_pos rfl, if_neg h9]
