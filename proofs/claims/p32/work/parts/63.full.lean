/-! LAYER 2: the heap's invariant; a FULL keeps it. -/
/-- SIZES and hashes -/
def Szs (n : Nat) (M : cSt) : Prop := ∀ k, k < n → (gT M k 5 = 2 + gL M k ∨ (gT M k 5 = 3 + gL M k ∧ 0 ≤ gT M k 8)) ∧ ((gT M k 6 = 2 + gL M k ∧ gT M k 8 = -1) ∨ (gT M k 6 = 3 + gL M k ∧ 0 ≤ gT M k 8)) ∧ gT M k 8 ≤ 1000
def Crds (n : Nat) (M : cSt) : Prop := (∀ j, j < 20 → gZ M j = 0 ∨ gZ M j = 1) ∧ ∀ k, k < n → (gT M k 3 = 2 ∨ gT M k 3 = 3) → HY M k → gZ M (crd M k) = 1
def Flg (M : cSt) : Prop := gI M 17 = 0 ∧ gI M 20 = 2 ∧ 0 ≤ gI M 9 ∧ gI M 9 ≤ 100000
def Ags (n : Nat) (M : cSt) : Prop := ∀ k, k < n → 0 ≤ gT M k 7 ∧ gT M k 7 ≤ 2 ∧ (gT M k 3 = 1 → gT M k 7 ≤ 1)
def Inv (n : Nat) (M : cSt) : Prop := TB n M ∧ Rfs n M ∧ (∃ Q, Qok n M Q) ∧ (∃ Y O G, PL n M Y O G) ∧ Nm n M ∧ Crds n M ∧ (∀ j k, gR M 7 j = some k → (j : Int) < gI M 1 * 4) ∧ (∀ k, k < n → gT M k 9 ≠ 0 → gT M k 3 = 2 ∨ gT M k 3 = 3) ∧ (∀ k, k < n → gT M k 0 = (k : Int)) ∧ Szs n M ∧ Flg M ∧ Ags n M
theorem PL.addr {n : Nat} {M : cSt} {Y O G : List Nat} (h : PL n M Y O G) (hN : Nm n M) {k : Nat} (hk : k < n) (hp : gT M k 3 = 2 ∨ gT M k 3 = 3) : 100 ≤ gT M k 4 ∧ gT M k 4 < 420 := by
  obtain ⟨-, -, -, -, -, -, -, hO, hG, -, hcO, hcG, -, -, -, -, h1, -, h2⟩ := h
  have h3 := hN k hk
  rcases hp with hp | hp
  · have := hcO.2 k ((hO k).mpr ⟨hk, hp⟩); omega
  · have := hcG.2 k ((hG k).mpr ⟨hk, hp⟩); omega
theorem plWords_ok {n : Nat} {M : cSt} {Y O G : List Nat} (h : PL n M Y O G) (hn : n ≤ 199) (hN : Nm n M) : wp (f_Pl_words n M) (fun x => 0 ≤ x ∧ x ≤ 15000) := by
  obtain ⟨hY, hO, hG, hYd, hOd, hGd, mY, mO, mG, -⟩ := h
  have lY := nodup_le n Y hYd (fun k hk => ((mY k).mp hk).1)
  have lO := nodup_le n O hOd (fun k hk => ((mO k).mp hk).1)
  have lG := nodup_le n G hGd (fun k hk => ((mG k).mp hk).1)
  unfold f_Pl_words
  rw [wp_ob]
  refine wp_of (words_ok hY (by omega) (fun k hk => ((mY k).mp hk).1)) ?_
  rw [wp_ob]
  refine wp_of (words_ok hO (by omega) (fun k hk => ((mO k).mp hk).1)) ?_
  rw [wp_ob]
  refine wp_of (words_ok hG (by omega) (fun k hk => ((mG k).mp hk).1)) ?_
  rw [wp_some]
  have s1 := sum_rng (l := Y) (f := fun k => gT M k 5) (c := 25) (fun k hk => by have := hN k ((mY k).mp hk).1; omega)
  have s2 := sum_rng (l := O) (f := fun k => gT M k 5) (c := 25) (fun k hk => by have := hN k ((mO k).mp hk).1; omega)
  have s3 := sum_rng (l := G) (f := fun k => gT M k 5) (c := 25) (fun k hk => by have := hN k ((mG k).mp hk).1; omega)
  omega
theorem touched_ok {n : Nat} {M : cSt} {a : Int} (h1 : inR (gI M 9)) (h2 : inR a) : f_Ta_noteTouched n M a = some (sI (sI M 8 a) 9 (max (gI M 9) a)) := by
  refine wp_eq ?_
  unfold f_Ta_noteTouched
  rw [wp_og, wp_og, wp_some]
  exact ⟨h1, h2, rfl⟩
/-- what a FULL does to things -/
def FullP (n : Nat) (M : cSt) (s : Int) (x : cSt × Int) : Prop :=
  (∀ k, k < n → (gT x.1 k 3 ≠ 0 ↔ C2 M n s none k)) ∧ x.2 = sumN (fun k => if gT M k 3 = 0 then 0 else @ite Int (C2 M n s none k) (Classical.propDecidable _) 0 1) n ∧ (∀ k, gT x.1 k 8 = gT M k 8 ∧ gT x.1 k 9 = gT M k 9) ∧ (∀ k, k < n → gT x.1 k 3 ≠ 0 → gT M k 9 ≠ 0 → gT x.1 k 4 = gT M k 4) ∧ (∀ k, C2 M n s none k → C1 x.1 n 1 none k) ∧ gI x.1 0 = gI M 0 ∧ gI x.1 1 = gI M 1 ∧ (∀ j, gR x.1 7 j = gR M 7 j ∧ gR x.1 8 j = gR M 8 j) ∧ ∀ k, gL x.1 k = gL M k
theorem full_ok {n : Nat} {M : cSt} (hI : Inv n M) {s : Int} (hs : s = 0 ∨ s = 1) : wp (f_Fu_run n M s 0) (fun x => Inv n x.1 ∧ FullP n M s x) := by
  obtain ⟨hB, hr, ⟨Q, hQ⟩, ⟨Y, O, G, hP⟩, hN, hCr, hSl, hPin, hNum, hSz, hFl, hAg⟩ := hI
  have hn := hB.1
  have hrun : ∀ P : cSt × Int → Prop, wp (ob (f_Tr_begin n M s none) (fun x1 => ob (f_Tr_markRoots n x1) (fun x4 => ob (f_Tr_spread n x4) (fun x5 => ob (f_Fu_dropReferences n x5 s) (fun x6 => ob (f_Fu_raiseFinals n x6) (fun x7 => ob (f_Tr_spread n x7) (fun x8 => ob (f_Fu_dropReferences n x8 s) (fun x9 => ob (f_Fu_sweep n x9) (fun x10 => ob (f_Pl_compact n x10.1) (fun x11 => ob (f_Pl_renewCards n x11.1) (fun x12 => ob (f_Mk_end n x12) (fun x13 => ob (f_Pl_words n (sI x13 7 (gI x13 7 + 1))) (fun x14 => ob (f_Ta_noteTouched n (sI x13 7 (gI x13 7 + 1)) (x14 + x11.2)) (fun x15 => some (x15, x10.2))))))))))))))) P → wp (f_Fu_run n M s 0) P := fun P h => by
    unfold f_Fu_run
    rw [wp_ob] at h ⊢
    refine wp_mono h (fun x1 h => ?_)
    rw [wp_og, wp_ite]
    exact ⟨⟨by decide, by decide⟩, fun _ => h, fun h => absurd rfl h⟩
  refine hrun _ (full1_ok hB hr hQ hs (fun x hSw hg => ?_))
  obtain ⟨hBx, hxI, hxR, hxT, hxL, hxZ, hxp, hxk, ⟨R, hQx, hRx⟩, hxF, hxFC, hxC1⟩ := hSw
  have hcx := hBx.2.2.1
  have hC2lt : ∀ k, C2 M n s none k → gT M k 3 ≠ 0 ∧ k < n := fun k hk => C2.there hB hr hk
  have hpx : ∀ k, k < n → gT x.1 k 3 = gT M k 3 ∨ gT x.1 k 3 = 0 := fun k hk => by
    by_cases h : C2 M n s none k
    · exact Or.inl ((hxp k hk).1 h)
    · exact Or.inr ((hxp k hk).2 h)
  have hthx : ∀ k, k < n → (gT x.1 k 3 ≠ 0 ↔ C2 M n s none k) := fun k hk => by
    constructor
    · intro h
      by_cases h9 : C2 M n s none k
      · exact h9
      · exact absurd ((hxp k hk).2 h9) h
    · intro h
      rw [(hxp k hk).1 h]; exact (hC2lt k h).1
  have hNx : Nm n x.1 := fun k hk => by rw [hxT k 4 (by decide), hxT k 5 (by decide), hxT k 6 (by decide), hxT k 9 (by decide)]; exact hN k hk
  obtain ⟨pY, pO, pG, dY, dO, dG, mY, mO, mG, cY, cO, cG, h2, h3a, h3b, h4a, h4b, h5a, h5b⟩ := id hP
  have hPw : PLw n x.1 Y O G := by
    have hch : ∀ {lo hi : Int} {l : List Nat}, Chn M lo hi l → Chn x.1 lo hi l := fun h => h.eq (fun k _ => ⟨hxT k 4 (by decide), hxT k 5 (by decide)⟩)
    refine ⟨⟨(hxI 12 (by decide)).trans pY.1, fun j hj => (hxR 2 j (by decide)).trans (pY.2 j hj)⟩, ⟨(hxI 13 (by decide)).trans pO.1, fun j hj => (hxR 3 j (by decide)).trans (pO.2 j hj)⟩, ⟨(hxI 14 (by decide)).trans pG.1, fun j hj => (hxR 4 j (by decide)).trans (pG.2 j hj)⟩, dY, dO, dG, fun k hk => ((mY k).mp hk).1, fun k hk => ((mO k).mp hk).1, fun k hk => ((mG k).mp hk).1, fun k hk h => ?_, fun k hk h => ?_, fun k hk h => ?_, ?_, ?_, hch cG, ?_⟩
    · rcases hpx k hk with e | e
      · exact (mY k).mpr ⟨hk, by rw [← e]; exact h⟩
      · omega
    · rcases hpx k hk with e | e
      · exact (mO k).mpr ⟨hk, by rw [← e]; exact h⟩
      · omega
    · rcases hpx k hk with e | e
      · exact (mG k).mpr ⟨hk, by rw [← e]; exact h⟩
      · omega
    · rw [hxI 2 (by decide), hxI 3 (by decide)]; exact hch cY
    · rw [hxI 4 (by decide)]; exact hch cO
    · rw [hxI 2 (by decide), hxI 3 (by decide), hxI 4 (by decide), hxI 5 (by decide)]
      exact ⟨h2, h3a, h3b, h4a, h4b, h5a, h5b⟩
  rw [wp_ob]
  refine wp_mono (compact_ok hn hcx hNx hBx.2.2.2.2.2.2.2.2.1 hPw) (fun y h => ?_)
  obtain ⟨⟨Y', O', G', hPy⟩, hEy, hcy, hNy, hpy, hpiny, hszy, hm1, hm2⟩ := h
  have hly : ∀ k, gL y.1 k = gL M k := fun k => (hEy.2.2.2.1 k).trans (hxL k)
  obtain ⟨qY, qO, qG, eY, eO, eG, nY, nO, nG, -⟩ := id hPy
  have ly1 := nodup_le n O' eO (fun k hk => ((nO k).mp hk).1)
  have ly2 := nodup_le n G' eG (fun k hk => ((nG k).mp hk).1)
  have hplr : ∀ k, k < n → 0 ≤ gT y.1 k 3 ∧ gT y.1 k 3 ≤ 3 := fun k hk => by
    have := hBx.2.2.2.2.2.2.2.2.1 k hk
    rcases hpy k hk with h | h <;> omega
  rw [wp_ob]
  refine wp_mono (renew_ok qO qG (by omega) (by omega) (fun k hk => ((nO k).mp hk).1) (fun k hk => ((nG k).mp hk).1) hcy (fun k hk => by rw [hly]; exact (hB.2.2.2.1 k hk).2) hplr (fun k hk => by
    rcases hk with hk | hk
    · exact hPy.addr hNy ((nO k).mp hk).1 (Or.inl ((nO k).mp hk).2)
    · exact hPy.addr hNy ((nG k).mp hk).1 (Or.inr ((nG k).mp hk).2))) (fun z h => ?_)
  obtain ⟨hEz, hz1, hz2⟩ := h
  unfold f_Mk_end
  rw [wp_ob, wp_some, wp_ob]
  -- the state at the end, but for what was TOUCHED
  have hWI : ∀ j, j ∉ [7, 17] → gI (sI (sI z 17 0) 7 (gI (sI z 17 0) 7 + 1)) j = gI y.1 j := fun j hj => by
    rw [gI_sI, if_neg (fun h => hj (by rw [h]; decide)), gI_sI, if_neg (fun h => hj (by rw [h]; decide)), hEz.1]
  have hPz : PL n (sI (sI z 17 0) 7 (gI (sI z 17 0) 7 + 1)) Y' O' G' := by
    obtain ⟨a1, a2, a3, a4, a5, a6, a7, a8, a9, b1, b2, b3, b4, b5, b6, b7, b8, b9, b10⟩ := hPy
    have hT : ∀ k f, gT (sI (sI z 17 0) 7 (gI (sI z 17 0) 7 + 1)) k f = gT y.1 k f := fun k f => hEz.2.1 k f
    have hR : ∀ r j, gR (sI (sI z 17 0) 7 (gI (sI z 17 0) 7 + 1)) r j = gR y.1 r j := fun r j => hEz.2.2.1 r j
    refine ⟨⟨(hWI 12 (by decide)).trans a1.1, fun j hj => (hR 2 j).trans (a1.2 j hj)⟩, ⟨(hWI 13 (by decide)).trans a2.1, fun j hj => (hR 3 j).trans (a2.2 j hj)⟩, ⟨(hWI 14 (by decide)).trans a3.1, fun j hj => (hR 4 j).trans (a3.2 j hj)⟩, a4, a5, a6, fun k => by rw [hT]; exact a7 k, fun k => by rw [hT]; exact a8 k, fun k => by rw [hT]; exact a9 k, ?_, ?_, b3.eq (fun k _ => ⟨hT k 4, hT k 5⟩), ?_⟩
    · rw [hWI 2 (by decide), hWI 3 (by decide)]; exact b1.eq (fun k _ => ⟨hT k 4, hT k 5⟩)
    · rw [hWI 4 (by decide)]; exact b2.eq (fun k _ => ⟨hT k 4, hT k 5⟩)
    · rw [hWI 2 (by decide), hWI 3 (by decide), hWI 4 (by decide), hWI 5 (by decide)]
      exact ⟨b4, b5, b6, b7, b8, b9, b10⟩
  have hNz : Nm n (sI (sI z 17 0) 7 (gI (sI z 17 0) 7 + 1)) := fun k hk => by
    have := hNy k hk
    show (0 ≤ gT z k 4 ∧ gT z k 4 ≤ 1000) ∧ 4 ≤ gT z k 5 ∧ gT z k 5 ≤ gT z k 6 ∧ gT z k 6 ≤ gT z k 5 + 1 ∧ gT z k 6 ≤ 25 ∧ (gT z k 9 = 0 ∨ gT z k 9 = 1)
    rw [hEz.2.1, hEz.2.1, hEz.2.1, hEz.2.1]; exact this
  refine wp_mono (plWords_ok hPz hn hNz) (fun w hw => ?_)
  have h9z : gI (sI (sI z 17 0) 7 (gI (sI z 17 0) 7 + 1)) 9 = gI M 9 := (hWI 9 (by decide)).trans ((hEy.1 9 (by decide)).trans (hxI 9 (by decide)))
  rw [wp_ob]
  refine wp_of (touched_ok (by rw [h9z]; have ha := hFl.2.2.1; have hb := hFl.2.2.2; exact ⟨by omega, by omega⟩) ⟨by omega, by omega⟩) ?_
  rw [wp_some, h9z]
  -- the state at the end
  generalize hFdef : sI (sI (sI (sI z 17 0) 7 (gI (sI z 17 0) 7 + 1)) 8 (w + y.2)) 9 (max (gI M 9) (w + y.2)) = F at *
  have hFI : ∀ j, j ∉ [7, 8, 9, 17] → gI F j = gI y.1 j := fun j hj => by
    rw [← hFdef, gI_sI, if_neg (fun h => hj (by rw [h]; decide)), gI_sI, if_neg (fun h => hj (by rw [h]; decide)), hWI j (fun h => hj (by simp at h ⊢; omega))]
  have hF9 : gI F 9 = max (gI M 9) (w + y.2) := by rw [← hFdef, gI_sI, if_pos rfl]
  have hF17 : gI F 17 = 0 := by rw [← hFdef, gI_sI, if_neg (by decide), gI_sI, if_neg (by decide), gI_sI, if_neg (by decide), gI_sI, if_pos rfl]
  have hFT : ∀ k f, gT F k f = gT y.1 k f := fun k f => by rw [← hFdef]; exact hEz.2.1 k f
  have hFR : ∀ r j, gR F r j = gR y.1 r j := fun r j => by rw [← hFdef]; exact hEz.2.2.1 r j
  have hFL : ∀ k, gL F k = gL M k := fun k => by rw [← hFdef]; exact (hEz.2.2.2.1 k).trans (hly k)
  have hFF : ∀ k j, gF F k j = gF x.1 k j := fun k j => by rw [← hFdef]; exact (hEz.2.2.2.2 k j).trans (hEy.2.2.2.2.1 k j)
  have hFZ : ∀ j, gZ F j = gZ z j := fun j => by rw [← hFdef]; rfl
  have hFIx : ∀ j, j ∉ [2, 3, 4, 5, 7, 8, 9, 11, 12, 13, 14, 15, 17, 18, 19] → gI F j = gI M j := fun j hj => by
    rw [hFI j (fun h => hj (by simp at h ⊢; omega)), hEy.1 j (fun h => hj (by simp at h ⊢; omega)), hxI j (fun h => hj (by simp at h ⊢; omega))]
  have hFTx : ∀ k f, f ∉ [2, 3, 4, 5, 10, 12, 13] → gT F k f = gT M k f := fun k f hf => by
    rw [hFT, hEy.2.1 k f (fun h => hf (by simp at h ⊢; omega)), hxT k f (fun h => hf (by simp at h ⊢; omega))]
  have hFRx : ∀ r j, r ∉ [1, 2, 3, 4, 5, 9] → gR F r j = gR M r j := fun r j hr => by
    rw [hFR, hEy.2.2.1 r j (fun h => hr (by simp at h ⊢; omega)), hxR r j (fun h => hr (by simp at h ⊢; omega))]
  have hFp : ∀ k, k < n → gT F k 3 = gT x.1 k 3 ∨ (gT x.1 k 3 = 1 ∧ gT F k 3 = 2) := fun k hk => by rw [hFT]; exact hpy k hk
  have hFth : ∀ k, k < n → (gT F k 3 ≠ 0 ↔ C2 M n s none k) := fun k hk => by
    rw [← hthx k hk]
    rcases hFp k hk with h | h
    · rw [h]
    · constructor <;> intro _ <;> omega
  have hQF : Qok n F (Q ++ R) := by
    refine ⟨⟨?_, fun j hj => ?_⟩, hQx.2.1, fun k hk => ⟨(hQx.2.2 k hk).1, ?_⟩⟩
    · rw [hFI _ (by decide), hEy.1 _ (by decide)]; exact hQx.1.1
    · rw [hFR, hEy.2.2.1 1 j (by decide)]; exact hQx.1.2 j hj
    · rw [hFT, hEy.2.1 k 2 (by decide)]; exact (hQx.2.2 k hk).2
  have hrtM : ∀ k, IsRt F n k → C2 M n s none k := fun k hk => by
    rcases hk with ⟨j, hj, h⟩ | ⟨j, hj, h⟩ | ⟨j, hj, h⟩ | h
    · rw [hFIx 1 (by decide)] at hj
      rw [hFRx 7 j (by decide)] at h
      exact RchP.base (Or.inl (RchP.base (Or.inl ⟨j, hj, h⟩)))
    · rw [hFRx 8 j (by decide)] at h
      exact RchP.base (Or.inl (RchP.base (Or.inr (Or.inl ⟨j, hj, h⟩))))
    · have e1 := hQF.1.1
      rw [show 10 + 1 = 11 from rfl] at e1
      have hjl : j < (Q ++ R).length := by omega
      rw [hQF.1.2 j hjl] at h
      rcases List.mem_append.mp (List.mem_of_getElem? h) with h9 | h9
      · obtain ⟨i, hi, hi2⟩ := List.getElem_of_mem h9
        have e2 := hQ.1.1
        rw [show 10 + 1 = 11 from rfl] at e2
        exact RchP.base (Or.inl (RchP.base (Or.inr (Or.inr (Or.inl ⟨i, by omega, by rw [hQ.1.2 i hi, List.getElem?_eq_getElem hi, hi2]⟩)))))
      · exact hRx k h9
    · rw [hFTx k 9 (by decide)] at h
      exact RchP.base (Or.inl (RchP.base (Or.inr (Or.inr (Or.inr h)))))
  have hcF : cRf n F := ⟨fun r j k hk => hcy.1 r j k (by rw [← hFR r j]; exact hk), fun k j q hq => hcx.2 k j q (by rw [← hFF k j]; exact hq)⟩
  have hNF : Nm n F := fun k hk => by rw [hFT, hFT, hFT, hFT]; exact hNy k hk
  have hPF : PL n F Y' O' G' := by
    obtain ⟨a1, a2, a3, a4, a5, a6, a7, a8, a9, b1, b2, b3, b4, b5, b6, b7, b8, b9, b10⟩ := hPy
    refine ⟨⟨(hFI 12 (by decide)).trans a1.1, fun j hj => (hFR 2 j).trans (a1.2 j hj)⟩, ⟨(hFI 13 (by decide)).trans a2.1, fun j hj => (hFR 3 j).trans (a2.2 j hj)⟩, ⟨(hFI 14 (by decide)).trans a3.1, fun j hj => (hFR 4 j).trans (a3.2 j hj)⟩, a4, a5, a6, fun k => by rw [hFT]; exact a7 k, fun k => by rw [hFT]; exact a8 k, fun k => by rw [hFT]; exact a9 k, ?_, ?_, b3.eq (fun k _ => ⟨hFT k 4, hFT k 5⟩), ?_⟩
    · rw [hFI 2 (by decide), hFI 3 (by decide)]; exact b1.eq (fun k _ => ⟨hFT k 4, hFT k 5⟩)
    · rw [hFI 4 (by decide)]; exact b2.eq (fun k _ => ⟨hFT k 4, hFT k 5⟩)
    · rw [hFI 2 (by decide), hFI 3 (by decide), hFI 4 (by decide), hFI 5 (by decide)]
      exact ⟨b4, b5, b6, b7, b8, b9, b10⟩
  have hBF : TB n F := by
    obtain ⟨a, b, c, d, e, f, g, i, j, l⟩ := hBx
    refine ⟨a, ⟨(hFI 10 (by decide)).trans ((hEy.1 10 (by decide)).trans b.1), fun q hq => (hFR 0 q).trans ((hEy.2.2.1 0 q (by decide)).trans (b.2 q hq))⟩, hcF, fun k hk => by rw [hFL]; exact hB.2.2.2.1 k hk, fun k hk => by rw [hFT, hEy.2.1 k 2 (by decide)]; exact e k hk, by rw [hFI 1 (by decide), hEy.1 1 (by decide)]; exact f, by rw [hFI 11 (by decide), hEy.1 11 (by decide)]; exact g, fun k hk => by rw [hFT, hEy.2.1 k 9 (by decide)]; exact i k hk, fun k hk => by rw [hFT]; exact hplr k hk, fun k hk => by have := hNF k hk; omega⟩
  refine ⟨⟨hBF, ⟨fun k hk j q hj hq => ?_, fun k hk => ?_⟩, ⟨_, hQF⟩, ⟨Y', O', G', hPF⟩, hNF, ⟨fun j hj => by rw [hFZ]; exact hz1 j hj, fun k hk hp hy => ?_⟩, fun j k h => ?_, fun k hk h9 => ?_, fun k hk => by rw [hFTx k 0 (by decide)]; exact hNum k hk, fun k hk => ?_, ⟨hF17, by rw [hFIx 20 (by decide)]; exact hFl.2.1, ?_, ?_⟩, fun k hk => ?_⟩, hFth, hg, fun k => ⟨hFTx k 8 (by decide), hFTx k 9 (by decide)⟩, fun k hk hth h9 => ?_, fun k hk => ?_, hFIx 0 (by decide), hFIx 1 (by decide), fun j => ⟨hFRx 7 j (by decide), hFRx 8 j (by decide)⟩, hFL⟩
  · rw [hFL] at hj
    rw [hFF] at hq
    have h := hxFC k hk j q hj hq
    exact ⟨(hFth k hk).mpr h.1, (hFth q (hC2lt q h.2).2).mpr h.2⟩
  · have h := hrtM k hk
    exact (hFth k (hC2lt k h).2).mpr h
  · have hcr : crd F k = crd y.1 k := by unfold crd; rw [hFT]
    rw [hFZ, hcr]
    refine hz2 k ?_ ?_
    · rcases hp with hp | hp
      · exact Or.inl ((nO k).mpr ⟨hk, by rw [← hFT]; exact hp⟩)
      · exact Or.inr ((nG k).mpr ⟨hk, by rw [← hFT]; exact hp⟩)
    · obtain ⟨j, p, hj, hp9, h1⟩ := hy
      exact ⟨j, p, by rw [hly]; rw [hFL] at hj; exact hj, by rw [hEy.2.2.2.2.1, ← hFF]; exact hp9, by rw [← hFT]; exact h1⟩
  · rw [hFIx 1 (by decide)]
    rw [hFRx 7 j (by decide)] at h
    exact hSl j k h
  · rw [hFTx k 9 (by decide)] at h9
    have hC : C2 M n s none k := RchP.base (Or.inl (RchP.base (Or.inr (Or.inr (Or.inr ⟨hk, h9⟩)))))
    have h0 := hPin k hk h9
    have h1 := (hxp k hk).1 hC
    show gT F k 3 = 2 ∨ gT F k 3 = 3
    rcases hFp k hk with h | h <;> omega
  · have h0 := hSz k hk
    have e5 : gT F k 5 = gT M k 5 ∨ gT F k 5 = gT M k 6 := by
      rw [hFT]
      rcases hszy k hk with h | h
      · exact Or.inl (h.trans (hxT k 5 (by decide)))
      · exact Or.inr (h.trans (hxT k 6 (by decide)))
    rw [hFTx k 6 (by decide), hFTx k 8 (by decide), hFL]
    refine ⟨?_, h0.2⟩
    rcases e5 with e | e <;> rw [e]
    · exact h0.1
    · rcases h0.2.1 with h | h
      · exact Or.inl h.1
      · exact Or.inr h
  · show 0 ≤ gI F 9
    rw [hF9]; have := hFl.2.2.1; omega
  · show gI F 9 ≤ 100000
    rw [hF9]; have := hFl.2.2.2; omega
  · have h0 := hAg k hk
    rw [hFTx k 7 (by decide)]
    refine ⟨h0.1, h0.2.1, fun h1 => h0.2.2 ?_⟩
    have h1 : gT F k 3 = 1 := h1
    rcases hFp k hk with h | h
    · rcases hpx k hk with e | e <;> omega
    · omega
  · have hC := (hFth k hk).mp hth
    have h0 := hPin k hk h9
    have h1 := (hxp k hk).1 hC
    show gT F k 4 = gT M k 4
    rw [hFT, hpiny k hk (by rw [hxT k 9 (by decide)]; exact h9) (by rw [h1]; exact h0), hxT k 4 (by decide)]
  · -- the same set out of the last state
    have h := hxC1 k hk
    refine RchP.congr2 hcx (fun k hk => IsRt.lt hcx hk) (fun k hk => ?_) (fun q k hq hf => ?_) (fun q a k hq hv => ?_) h
    · rcases hk with ⟨j, hj, h⟩ | ⟨j, hj, h⟩ | ⟨j, hj, h⟩ | h
      · exact Or.inl ⟨j, by rw [hFIx 1 (by decide), ← hxI 1 (by decide)]; exact hj, by rw [hFRx 7 j (by decide), ← hxR 7 j (by decide)]; exact h⟩
      · exact Or.inr (Or.inl ⟨j, hj, by rw [hFRx 8 j (by decide), ← hxR 8 j (by decide)]; exact h⟩)
      · exact Or.inr (Or.inr (Or.inl ⟨j, by rw [hFI 11 (by decide), hEy.1 11 (by decide)]; exact hj, by rw [hFR, hEy.2.2.1 1 j (by decide)]; exact h⟩))
      · exact Or.inr (Or.inr (Or.inr ⟨h.1, by rw [hFT, hEy.2.1 k 9 (by decide)]; exact h.2⟩))
    · obtain ⟨a, i, b, c, d⟩ := hf
      exact ⟨a, i, by rw [hFT, hEy.2.1 q 2 (by decide)]; exact b, by rw [hFL, ← hxL]; exact c, by rw [hFF]; exact d⟩
    · obtain ⟨a1, a2, a3, a4, a5⟩ := hv
      exact ⟨by rw [hFT, hEy.2.1 q 2 (by decide)]; exact a1, a2, a3, by rw [hFF]; exact a4, by rw [hFF]; exact a5⟩
