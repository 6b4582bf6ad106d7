/-! LAYER 2: a new OBJECT. -/
theorem nTh_I (M : cSt) (n : Nat) (a b c : Int) (j : Nat) : gI (nTh M n a b c) j = gI M j := rfl
theorem nTh_T (M : cSt) (n : Nat) (a b c : Int) (k f : Nat) : gT (nTh M n a b c) k f = if k = n then (if f = 0 then a else if f = 2 then b else if f = 5 then 2 + c else if f = 6 then 2 + c else if f = 8 then -1 else 0) else gT M k f := by
  show va_up (gTf M) n _ k f = _
  unfold va_up
  by_cases h : k = n
  · rw [if_pos h, if_pos h]
  · rw [if_neg h, if_neg h]
theorem nTh_L (M : cSt) (n : Nat) (a b c : Int) (k : Nat) : gL (nTh M n a b c) k = if k = n then c.toNat else gL M k := by
  show va_up (gLf M) n _ k = _
  unfold va_up
  by_cases h : k = n
  · rw [if_pos h]
  · rw [if_neg h]
theorem nTh_F (M : cSt) (n : Nat) (a b c : Int) (k j : Nat) : gF (nTh M n a b c) k j = if k = n then none else gF M k j := by
  show va_up (gFf M) n _ k j = _
  unfold va_up
  by_cases h : k = n
  · rw [if_pos h, if_pos h]
  · rw [if_neg h, if_neg h]
theorem nTh_R (M : cSt) (n : Nat) (a b c : Int) (r j : Nat) : gR (nTh M n a b c) r j = gR M r j := rfl
theorem nTh_Z (M : cSt) (n : Nat) (a b c : Int) (j : Nat) : gZ (nTh M n a b c) j = gZ M j := rfl
/-- a state with one more OBJECT that has been laid -/
def Laid (n : Nat) (M : cSt) (a b p x : Int) (L : cSt) : Prop :=
  (∀ j, j ∉ [3, 10, 12, 14] → gI L j = gI M j) ∧ (∀ k f, gT L k f = if k = n then (if f = 4 then x else if f = 3 then p else if f = 0 then (n : Int) else if f = 2 then a else if f = 5 then 2 + b else if f = 6 then 2 + b else if f = 8 then -1 else 0) else gT M k f) ∧ (∀ r j, r ∉ [0, 2, 4] → gR L r j = gR M r j) ∧ (∀ k, gL L k = if k = n then b.toNat else gL M k) ∧ (∀ k j, gF L k j = if k = n then none else gF M k j) ∧ (∀ j, gZ L j = gZ M j) ∧ Row L 0 (List.range (n + 1)) ∧ cRf (n + 1) L ∧ ∃ Y O G, PL (n + 1) L Y O G
/-- the state before it is laid -/
theorem new_row {n : Nat} {M : cSt} (h : Inv n M) (hn : n ≤ 198) {a b : Int} : ∃ N, f_Row_add (n + 1) (nTh M n (n : Int) a b) 0 (some n) = some N ∧ (∀ j, j ≠ 10 → gI N j = gI M j) ∧ (∀ k f, gT N k f = gT (nTh M n (n : Int) a b) k f) ∧ (∀ r j, r ≠ 0 → gR N r j = gR M r j) ∧ (∀ k, gL N k = gL (nTh M n (n : Int) a b) k) ∧ (∀ k j, gF N k j = gF (nTh M n (n : Int) a b) k j) ∧ (∀ j, gZ N j = gZ M j) ∧ Row N 0 (List.range (n + 1)) ∧ cRf (n + 1) N := by
  have hR : Row (nTh M n (n : Int) a b) 0 (List.range n) := h.1.2.1
  have he := eqx_addR (nTh M n (n : Int) a b) 0 n
  refine ⟨addR (nTh M n (n : Int) a b) 0 n, add_ok hR (by rw [List.length_range]; omega) (by omega), fun j hj => (he.1 j (by simp; exact hj)).trans rfl, fun k f => he.2.1 k f List.not_mem_nil, fun r j hr => (he.2.2.1 r j (by simp; exact hr)).trans rfl, he.2.2.2.1, he.2.2.2.2.1, fun j => (he.2.2.2.2.2 j).trans rfl, ?_, ?_⟩
  · rw [List.range_succ]; exact row_addR hR
  · refine cRf_addR ⟨fun r j k hk => ?_, fun k j q hq => ?_⟩ (by omega)
    · have := h.1.2.2.1.1 r j k hk; omega
    · rw [nTh_F] at hq
      split at hq
      · cases hq
      · have := h.1.2.2.1.2 k j q hq; omega
theorem lay_ok {n : Nat} {M N : cSt} (h : Inv n M) (hn : n ≤ 198) {a b x : Int} (hb : 2 ≤ b ∧ b ≤ 20) (hx : 0 ≤ x ∧ x ≤ 420) (hg : GapP n M b x)
    (nI : ∀ j, j ≠ 10 → gI N j = gI M j) (nT : ∀ k f, gT N k f = gT (nTh M n (n : Int) a b) k f) (nR : ∀ r j, r ≠ 0 → gR N r j = gR M r j) (nL : ∀ k, gL N k = gL (nTh M n (n : Int) a b) k) (nF : ∀ k j, gF N k j = gF (nTh M n (n : Int) a b) k j) (nZ : ∀ j, gZ N j = gZ M j) (n0 : Row N 0 (List.range (n + 1))) (nc : cRf (n + 1) N) :
    wp (f_Pl_lay (n + 1) N (some n) x) (fun L => ∃ p, (p = 1 ∨ p = 3) ∧ Laid n M a b p x L) := by
  have hB := h.1
  obtain ⟨Y, O, G, hP⟩ := h.2.2.2.1
  have hN := h.2.2.2.2.1
  obtain ⟨a1, a2, a3, a4, a5, a6, a7, a8, a9, b1, b2, b3, b4, b5, b6, b7, b8, b9, b10⟩ := hP
  have lY := nodup_le n Y a4 (fun k hk => ((a7 k).mp hk).1)
  have lG := nodup_le n G a6 (fun k hk => ((a9 k).mp hk).1)
  have hLn : gL N n = b.toNat := by rw [nL, nTh_L, if_pos rfl]
  have hT6 : gT N n 6 = 2 + b := by rw [nT, nTh_T, if_pos rfl, if_neg (by decide), if_neg (by decide), if_neg (by decide), if_pos rfl]
  have hMT : ∀ p k f, gT (mvd N n p x) k f = if k = n then (if f = 4 then x else if f = 3 then p else if f = 0 then (n : Int) else if f = 2 then a else if f = 5 then 2 + b else if f = 6 then 2 + b else if f = 8 then -1 else 0) else gT M k f := fun p k f => by
    rw [mvd_T, hT6]
    by_cases hk : k = n
    · rw [if_pos hk, if_pos hk]
      by_cases h4 : f = 4
      · rw [if_pos h4, if_pos h4]
      · rw [if_neg h4, if_neg h4]
        by_cases h3 : f = 3
        · rw [if_pos h3, if_pos h3]
        · rw [if_neg h3, if_neg h3]
          by_cases h5 : f = 5
          · rw [if_pos h5, if_neg (by omega), if_neg (by omega), if_pos h5]
          · rw [if_neg h5, nT, nTh_T, if_pos rfl, if_neg h5]
    · rw [if_neg hk, if_neg hk, nT, nTh_T, if_neg hk]
  have hrow : ∀ p r l, r ≠ 0 → Row M r l → Row (mvd N n p x) r l := fun p r l hr hl => ⟨(nI _ (by omega)).trans hl.1, fun j hj => (nR r j hr).trans (hl.2 j hj)⟩
  have hne : ∀ k, k ∈ Y ∨ k ∈ O ∨ k ∈ G → k ≠ n := fun k hk e => by
    rcases hk with hk | hk | hk
    · have := ((a7 k).mp hk).1; omega
    · have := ((a8 k).mp hk).1; omega
    · have := ((a9 k).mp hk).1; omega
  unfold f_Pl_lay
  rw [wp_on]
  refine ⟨fun e => (by cases e), fun q e => ?_⟩
  cases e
  rw [wp_og, wp_og, wp_og, wp_ite, hLn]
  refine ⟨by omega, by omega, ⟨by omega, by omega⟩, fun hs => ?_, fun hl => ?_⟩
  · rcases hg with ⟨-, g2, g3⟩ | ⟨g1, -⟩
    · rw [wp_ob]
      refine wp_of (moveTo_eq (n + 1) N n 1 x) ?_
      have hR2 : Row (mvd N n 1 x) 2 Y := hrow 1 2 Y (by decide) a1
      rw [wp_ob]
      refine wp_of (add_ok (M := mvd N n 1 x) hR2 (by omega) (by omega)) ?_
      unfold f_Th_end
      rw [wp_ob, wp_some, wp_some]
      have he := eqx_addR (mvd N n 1 x) 2 n
      have hT4 : gT (addR (mvd N n 1 x) 2 n) n 4 + gT (addR (mvd N n 1 x) 2 n) n 5 = x + (2 + b) := by
        rw [he.2.1 n 4 List.not_mem_nil, he.2.1 n 5 List.not_mem_nil, hMT, hMT, if_pos rfl, if_pos rfl, if_pos rfl, if_neg (by decide), if_neg (by decide), if_neg (by decide), if_neg (by decide), if_pos rfl]
      rw [hT4]
      have eI : ∀ j, j ≠ 3 → j ≠ 10 → j ≠ 12 → gI (sI (addR (mvd N n 1 x) 2 n) 3 (x + (2 + b))) j = gI M j := fun j h3 h10 h12 => by
        rw [gI_sI, if_neg h3, he.1 j (by simp; exact h12)]; exact nI j h10
      have e3 : gI (sI (addR (mvd N n 1 x) 2 n) 3 (x + (2 + b))) 3 = x + (2 + b) := by rw [gI_sI, if_pos rfl]
      have eT : ∀ k f, gT (sI (addR (mvd N n 1 x) 2 n) 3 (x + (2 + b))) k f = gT (mvd N n 1 x) k f := fun k f => he.2.1 k f List.not_mem_nil
      have eR : ∀ r j, r ≠ 2 → gR (sI (addR (mvd N n 1 x) 2 n) 3 (x + (2 + b))) r j = gR N r j := fun r j hr => (he.2.2.1 r j (by simp; exact hr)).trans rfl
      have hRY : Row (sI (addR (mvd N n 1 x) 2 n) 3 (x + (2 + b))) 2 (Y ++ [n]) := ⟨by rw [gI_sI, if_neg (by decide)]; exact (row_addR hR2).1, fun j hj => (row_addR hR2).2 j hj⟩
      have h45 : ∀ k, k ≠ n → gT (sI (addR (mvd N n 1 x) 2 n) 3 (x + (2 + b))) k 4 = gT M k 4 ∧ gT (sI (addR (mvd N n 1 x) 2 n) 3 (x + (2 + b))) k 5 = gT M k 5 := fun k hk => ⟨by rw [eT, hMT, if_neg hk], by rw [eT, hMT, if_neg hk]⟩
      have t4 : gT (sI (addR (mvd N n 1 x) 2 n) 3 (x + (2 + b))) n 4 = x := by rw [eT, hMT, if_pos rfl, if_pos rfl]
      have t5 : gT (sI (addR (mvd N n 1 x) 2 n) 3 (x + (2 + b))) n 5 = 2 + b := by rw [eT, hMT, if_pos rfl, if_neg (by decide), if_neg (by decide), if_neg (by decide), if_neg (by decide), if_pos rfl]
      have t3 : gT (sI (addR (mvd N n 1 x) 2 n) 3 (x + (2 + b))) n 3 = 1 := by rw [eT, hMT, if_pos rfl, if_neg (by decide), if_pos rfl]
      have t3o : ∀ k, k ≠ n → gT (sI (addR (mvd N n 1 x) 2 n) 3 (x + (2 + b))) k 3 = gT M k 3 := fun k hk => by rw [eT, hMT, if_neg hk]
      refine ⟨1, Or.inl rfl, fun j hj => eI j (fun h9 => hj (by rw [h9]; decide)) (fun h9 => hj (by rw [h9]; decide)) (fun h9 => hj (by rw [h9]; decide)), fun k f => by rw [eT, hMT], fun r j hr => (eR r j (fun h9 => hr (by rw [h9]; decide))).trans (nR r j (fun h9 => hr (by rw [h9]; decide))), fun k => (he.2.2.2.1 k).trans ((nL k).trans (nTh_L M n _ _ _ k)), fun k j => (he.2.2.2.2.1 k j).trans ((nF k j).trans (nTh_F M n _ _ _ k j)), fun j => (he.2.2.2.2.2 j).trans (nZ j), ?_, ?_, Y ++ [n], O, G, ?_⟩
      · exact ⟨by rw [gI_sI, if_neg (by decide), he.1 10 (by decide)]; exact n0.1, fun j hj => (eR 0 j (by decide)).trans (n0.2 j hj)⟩
      · exact cRf_addR (M := mvd N n 1 x) ⟨fun r j k hk => nc.1 r j k hk, fun k j q hq => nc.2 k j q hq⟩ (by omega)
      · refine ⟨hRY, ⟨(eI 13 (by decide) (by decide) (by decide)).trans a2.1, fun j hj => ((eR 3 j (by decide)).trans (nR 3 j (by decide))).trans (a2.2 j hj)⟩, ⟨(eI 14 (by decide) (by decide) (by decide)).trans a3.1, fun j hj => ((eR 4 j (by decide)).trans (nR 4 j (by decide))).trans (a3.2 j hj)⟩, List.nodup_append.mpr ⟨a4, List.nodup_cons.mpr ⟨List.not_mem_nil, List.nodup_nil⟩, fun u hu y hy e => by rw [List.mem_singleton] at hy; exact hne u (Or.inl hu) (e.trans hy)⟩, a5, a6, fun k => ?_, fun k => ?_, fun k => ?_, ?_, ?_, b3.eq (fun k hk => h45 k (hne k (Or.inr (Or.inr hk)))), ?_⟩
        · rw [List.mem_append, List.mem_singleton]
          by_cases hk : k = n
          · rw [hk, t3]; exact ⟨fun _ => ⟨by omega, rfl⟩, fun _ => Or.inr rfl⟩
          · rw [t3o k hk]
            exact ⟨fun h9 => h9.elim (fun h9 => ⟨by have := ((a7 k).mp h9).1; omega, ((a7 k).mp h9).2⟩) (fun h9 => absurd h9 hk), fun h9 => Or.inl ((a7 k).mpr ⟨by omega, h9.2⟩)⟩
        · by_cases hk : k = n
          · rw [hk, t3]; exact ⟨fun h9 => absurd rfl (hne n (Or.inr (Or.inl h9))), fun h9 => absurd h9.2 (by decide)⟩
          · rw [t3o k hk, a8 k]; exact ⟨fun h9 => ⟨by omega, h9.2⟩, fun h9 => ⟨by omega, h9.2⟩⟩
        · by_cases hk : k = n
          · rw [hk, t3]; exact ⟨fun h9 => absurd rfl (hne n (Or.inr (Or.inr h9))), fun h9 => absurd h9.2 (by decide)⟩
          · rw [t3o k hk, a9 k]; exact ⟨fun h9 => ⟨by omega, h9.2⟩, fun h9 => ⟨by omega, h9.2⟩⟩
        · rw [eI 2 (by decide) (by decide) (by decide), e3]
          have := Chn.snoc (q := n) (b1.eq (fun k hk => h45 k (hne k (Or.inl hk)))) (by rw [t4]; omega) (by rw [t4]; omega) (by rw [t5]; omega)
          rw [t4, t5] at this; exact this
        · rw [eI 4 (by decide) (by decide) (by decide)]; exact b2.eq (fun k hk => h45 k (hne k (Or.inr (Or.inl hk))))
        · rw [eI 2 (by decide) (by decide) (by decide), e3, eI 4 (by decide) (by decide) (by decide), eI 5 (by decide) (by decide) (by decide)]
          exact ⟨b4, by omega, by omega, b7, b8, b9, b10⟩
    · exact absurd g1 (by omega)
  · rcases hg with ⟨g1, -⟩ | ⟨g1, g2, g3, g4⟩
    · exact absurd g1 (by omega)
    · rw [wp_ob]
      refine wp_of (moveTo_eq (n + 1) N n 3 x) ?_
      have hR4 : Row (mvd N n 3 x) 4 G := hrow 3 4 G (by decide) a3
      rw [wp_ob]
      refine wp_mono (byAddr_ok (n := n + 1) (r := 4) (k := n) (M := mvd N n 3 x) (l := G) (by omega) ⟨fun r j k hk => nc.1 r j k hk, fun k j q hq => nc.2 k j q hq⟩ hR4 (by omega) (fun k hk => by have := ((a9 k).mp hk).1; omega) (fun k hk => by
        rw [hMT]
        by_cases hkn : k = n
        · rw [if_pos hkn, if_pos rfl]; exact ⟨by omega, by omega⟩
        · rw [if_neg hkn]
          have := (hN k (by omega)).1
          exact ⟨by omega, by omega⟩)) (fun L h9 => ?_)
      obtain ⟨he, hc, A, B, hAB, hRL, hBx, hAx⟩ := h9
      rw [wp_some]
      have eI : ∀ j, j ≠ 10 → j ≠ 14 → gI L j = gI M j := fun j h10 h14 => (he.1 j (by simp; exact h14)).trans (nI j h10)
      have eT : ∀ k f, gT L k f = gT (mvd N n 3 x) k f := fun k f => he.2.1 k f List.not_mem_nil
      have eR : ∀ r j, r ≠ 4 → gR L r j = gR N r j := fun r j hr => (he.2.2.1 r j (by simp; exact hr)).trans rfl
      have h45 : ∀ k, k ≠ n → gT L k 4 = gT M k 4 ∧ gT L k 5 = gT M k 5 := fun k hk => ⟨by rw [eT, hMT, if_neg hk], by rw [eT, hMT, if_neg hk]⟩
      have t4 : gT L n 4 = x := by rw [eT, hMT, if_pos rfl, if_pos rfl]
      have t5 : gT L n 5 = 2 + b := by rw [eT, hMT, if_pos rfl, if_neg (by decide), if_neg (by decide), if_neg (by decide), if_neg (by decide), if_pos rfl]
      have t3 : gT L n 3 = 3 := by rw [eT, hMT, if_pos rfl, if_neg (by decide), if_pos rfl]
      have t3o : ∀ k, k ≠ n → gT L k 3 = gT M k 3 := fun k hk => by rw [eT, hMT, if_neg hk]
      have hxn : gT (mvd N n 3 x) n 4 = x := by rw [hMT, if_pos rfl, if_pos rfl]
      have hxo : ∀ k, k ≠ n → gT (mvd N n 3 x) k 4 = gT M k 4 := fun k hk => by rw [hMT, if_neg hk]
      have hmem : ∀ k, k ∈ A ++ n :: B ↔ (k ∈ G ∨ k = n) := fun k => by
        rw [hAB, List.mem_append, List.mem_cons, List.mem_append]
        constructor
        · rintro (h | h | h)
          · exact Or.inl (Or.inl h)
          · exact Or.inr h
          · exact Or.inl (Or.inr h)
        · rintro ((h | h) | h)
          · exact Or.inl h
          · exact Or.inr (Or.inr h)
          · exact Or.inr (Or.inl h)
      have hpw := b3.1
      rw [hAB, List.pairwise_append] at hpw
      have hGA : ∀ k ∈ A, k ∈ G := fun k hk => by rw [hAB]; exact List.mem_append_left _ hk
      have hGB : ∀ k ∈ B, k ∈ G := fun k hk => by rw [hAB]; exact List.mem_append_right _ hk
      have hB1 : ∀ k ∈ B, x + (2 + b) ≤ gT M k 4 := fun k hk => by
        have h1 := hBx k hk
        rw [hxn, hxo k (hne k (Or.inr (Or.inr (hGB k hk))))] at h1
        have h2 := (a9 k).mp (hGB k hk)
        have h3 := hN k h2.1
        rcases g4 k h2.1 h2.2 with h | h <;> omega
      have hA1 : ∀ k ∈ A, gT M k 4 + gT M k 5 ≤ x := fun k hk => by
        have hA0 : A ≠ [] := fun e => by rw [e] at hk; cases hk
        have hlast := List.getLast?_eq_some_getLast hA0
        have h1 := hAx _ hlast
        have hlG := hGA _ (List.getLast_mem hA0)
        rw [hxn, hxo _ (hne _ (Or.inr (Or.inr hlG)))] at h1
        have h2 := (a9 _).mp hlG
        have h3 := hN _ h2.1
        have h4 : gT M (A.getLast hA0) 4 + gT M (A.getLast hA0) 5 ≤ x := by
          rcases g4 _ h2.1 h2.2 with h | h <;> omega
        by_cases hkl : k = A.getLast hA0
        · rw [hkl]; exact h4
        · have hpA := hpw.1
          have hsp := List.dropLast_concat_getLast hA0
          rw [← hsp, List.pairwise_append] at hpA
          have hkd : k ∈ A.dropLast := by
            rw [← hsp] at hk
            rcases List.mem_append.mp hk with h | h
            · exact h
            · exact absurd (List.mem_singleton.mp h) hkl
          have := hpA.2.2 k hkd _ List.mem_cons_self
          omega
      have nG : (A ++ n :: B).Nodup := by
        have h1 := a6
        rw [hAB] at h1
        have h2 := List.nodup_append.mp h1
        refine List.nodup_append.mpr ⟨h2.1, List.nodup_cons.mpr ⟨fun h9 => hne n (Or.inr (Or.inr (hGB n h9))) rfl, h2.2.1⟩, fun u hu y hy e => ?_⟩
        rcases List.mem_cons.mp hy with h | h
        · exact hne u (Or.inr (Or.inr (hGA u hu))) (e.trans h)
        · exact h2.2.2 u hu y h e
      refine ⟨3, Or.inr rfl, fun j hj => eI j (fun h9 => hj (by rw [h9]; decide)) (fun h9 => hj (by rw [h9]; decide)), fun k f => by rw [eT, hMT], fun r j hr => (eR r j (fun h9 => hr (by rw [h9]; decide))).trans (nR r j (fun h9 => hr (by rw [h9]; decide))), fun k => (he.2.2.2.1 k).trans ((nL k).trans (nTh_L M n _ _ _ k)), fun k j => (he.2.2.2.2.1 k j).trans ((nF k j).trans (nTh_F M n _ _ _ k j)), fun j => (he.2.2.2.2.2 j).trans (nZ j), ?_, hc, Y, O, A ++ n :: B, ?_⟩
      · exact ⟨by rw [he.1 10 (by decide)]; exact n0.1, fun j hj => (eR 0 j (by decide)).trans (n0.2 j hj)⟩
      · refine ⟨⟨(eI 12 (by decide) (by decide)).trans a1.1, fun j hj => ((eR 2 j (by decide)).trans (nR 2 j (by decide))).trans (a1.2 j hj)⟩, ⟨(eI 13 (by decide) (by decide)).trans a2.1, fun j hj => ((eR 3 j (by decide)).trans (nR 3 j (by decide))).trans (a2.2 j hj)⟩, hRL, a4, a5, nG, fun k => ?_, fun k => ?_, fun k => ?_, ?_, ?_, ?_, ?_⟩
        · by_cases hk : k = n
          · rw [hk, t3]; exact ⟨fun h9 => absurd rfl (hne n (Or.inl h9)), fun h9 => absurd h9.2 (by decide)⟩
          · rw [t3o k hk, a7 k]; exact ⟨fun h9 => ⟨by omega, h9.2⟩, fun h9 => ⟨by omega, h9.2⟩⟩
        · by_cases hk : k = n
          · rw [hk, t3]; exact ⟨fun h9 => absurd rfl (hne n (Or.inr (Or.inl h9))), fun h9 => absurd h9.2 (by decide)⟩
          · rw [t3o k hk, a8 k]; exact ⟨fun h9 => ⟨by omega, h9.2⟩, fun h9 => ⟨by omega, h9.2⟩⟩
        · rw [hmem]
          by_cases hk : k = n
          · rw [hk, t3]; exact ⟨fun _ => ⟨by omega, rfl⟩, fun _ => Or.inr rfl⟩
          · rw [t3o k hk]
            exact ⟨fun h9 => h9.elim (fun h9 => ⟨by have := ((a9 k).mp h9).1; omega, ((a9 k).mp h9).2⟩) (fun h9 => absurd h9 hk), fun h9 => Or.inl ((a9 k).mpr ⟨by omega, h9.2⟩)⟩
        · rw [eI 2 (by decide) (by decide), eI 3 (by decide) (by decide)]; exact b1.eq (fun k hk => h45 k (hne k (Or.inl hk)))
        · rw [eI 4 (by decide) (by decide)]; exact b2.eq (fun k hk => h45 k (hne k (Or.inr (Or.inl hk))))
        · have hbs := b3.eq (M' := L) (fun k hk => h45 k (hne k (Or.inr (Or.inr hk))))
          have hpL := hbs.1
          rw [hAB, List.pairwise_append] at hpL
          refine ⟨List.pairwise_append.mpr ⟨hpL.1, List.pairwise_cons.mpr ⟨fun y hy => ?_, hpL.2.1⟩, fun u hu y hy => ?_⟩, fun u hu => ?_⟩
          · rw [t4, t5, (h45 y (hne y (Or.inr (Or.inr (hGB y hy))))).1]; exact hB1 y hy
          · rcases List.mem_cons.mp hy with h | h
            · rw [h, t4, (h45 u (hne u (Or.inr (Or.inr (hGA u hu))))).1, (h45 u (hne u (Or.inr (Or.inr (hGA u hu))))).2]; exact hA1 u hu
            · exact hpL.2.2 u hu y h
          · rcases (hmem u).mp hu with h | h
            · exact hbs.2 u h
            · rw [h, t4, t5]; omega
        · rw [eI 2 (by decide) (by decide), eI 3 (by decide) (by decide), eI 4 (by decide) (by decide), eI 5 (by decide) (by decide)]
          exact ⟨b4, b5, b6, b7, b8, b9, b10⟩
