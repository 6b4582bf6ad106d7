/-! LAYER 2: places: what stands by address; sliding, emptying, sizing. -/
/-- things that stand one behind the other between two addresses -/
def Chn (M : cSt) (lo hi : Int) (l : List Nat) : Prop := l.Pairwise (fun x y => gT M x 4 + gT M x 5 ≤ gT M y 4) ∧ ∀ x ∈ l, lo ≤ gT M x 4 ∧ gT M x 4 + gT M x 5 ≤ hi
theorem Chn.nil (M : cSt) (lo hi : Int) : Chn M lo hi [] := ⟨List.Pairwise.nil, fun _ h => absurd h List.not_mem_nil⟩
theorem Chn.eq {M M' : cSt} {lo hi : Int} {l : List Nat} (h : Chn M lo hi l) (he : ∀ k ∈ l, gT M' k 4 = gT M k 4 ∧ gT M' k 5 = gT M k 5) : Chn M' lo hi l := by
  refine ⟨List.Pairwise.imp_of_mem (fun ha hb hab => ?_) h.1, fun x hx => ?_⟩
  · rw [(he _ ha).1, (he _ ha).2, (he _ hb).1]; exact hab
  · rw [(he x hx).1, (he x hx).2]; exact h.2 x hx
theorem Chn.wide {M : cSt} {lo hi lo' hi' : Int} {l : List Nat} (h : Chn M lo hi l) (h1 : lo' ≤ lo) (h2 : hi ≤ hi') : Chn M lo' hi' l := ⟨h.1, fun x hx => ⟨Int.le_trans h1 (h.2 x hx).1, Int.le_trans (h.2 x hx).2 h2⟩⟩
theorem Chn.filter {M : cSt} {lo hi : Int} {l : List Nat} (p : Nat → Bool) (h : Chn M lo hi l) : Chn M lo hi (l.filter p) := ⟨h.1.filter p, fun x hx => h.2 x (List.mem_filter.mp hx).1⟩
/-- one more at the end -/
theorem Chn.snoc {M : cSt} {lo hi : Int} {l : List Nat} {q : Nat} (h : Chn M lo hi l) (h1 : lo ≤ gT M q 4) (h2 : hi ≤ gT M q 4) (h3 : 0 ≤ gT M q 5) : Chn M lo (gT M q 4 + gT M q 5) (l ++ [q]) := by
  refine ⟨List.pairwise_append.mpr ⟨h.1, List.pairwise_singleton _ _, fun a ha b hb => ?_⟩, fun x hx => ?_⟩
  · rw [List.mem_singleton] at hb; subst hb
    have := (h.2 a ha).2; omega
  · rcases List.mem_append.mp hx with hx | hx
    · have := h.2 x hx; omega
    · rw [List.mem_singleton] at hx; subst hx; omega
/-- numbers of things -/
def Nm (n : Nat) (M : cSt) : Prop := ∀ k, k < n → (0 ≤ gT M k 4 ∧ gT M k 4 ≤ 1000) ∧ 4 ≤ gT M k 5 ∧ gT M k 5 ≤ gT M k 6 ∧ gT M k 6 ≤ gT M k 5 + 1 ∧ gT M k 6 ≤ 25 ∧ (gT M k 9 = 0 ∨ gT M k 9 = 1)
theorem moveTo_eq (n : Nat) (M : cSt) (k : Nat) (a b : Int) : f_Th_moveTo n M k a b = some (sT (sT (sT M k 5 (gT M k 6)) k 3 a) k 4 b) := rfl
/-- a thing that moved -/
def mvd (M : cSt) (k : Nat) (a b : Int) : cSt := sT (sT (sT M k 5 (gT M k 6)) k 3 a) k 4 b
theorem mvd_T (M : cSt) (k : Nat) (a b : Int) (k' f : Nat) : gT (mvd M k a b) k' f = if k' = k then (if f = 4 then b else if f = 3 then a else if f = 5 then gT M k 6 else gT M k f) else gT M k' f := by
  unfold mvd
  rw [gT_sT, gT_sT, gT_sT]
  by_cases hk : k' = k
  · subst hk
    rw [if_pos rfl]
    by_cases h4 : f = 4
    · rw [if_pos ⟨rfl, h4⟩, if_pos h4]
    · rw [if_neg (fun h => h4 h.2), if_neg h4]
      by_cases h3 : f = 3
      · rw [if_pos ⟨rfl, h3⟩, if_pos h3]
      · rw [if_neg (fun h => h3 h.2), if_neg h3]
        by_cases h5 : f = 5
        · rw [if_pos ⟨rfl, h5⟩, if_pos h5]
        · rw [if_neg (fun h => h5 h.2), if_neg h5]
  · rw [if_neg (fun h => hk h.1), if_neg (fun h => hk h.1), if_neg (fun h => hk h.1), if_neg hk]
theorem slide_loop {n : Nat} {H : Int} (hH : H ≤ 1000) : ∀ (B : List Nat) (u : Nat) (M : cSt) (A : List Nat) (a : Int), B.length < u → Row M 3 (A ++ B) → (A ++ B).length ≤ 199 → (∀ k ∈ A ++ B, k < n) → (A ++ B).Nodup → Nm n M → (∀ k ∈ A ++ B, gT M k 3 = 2) → 100 ≤ gI M 4 → Chn M 100 (gI M 4) A → B.Pairwise (fun x y => gT M x 4 + gT M x 5 ≤ gT M y 4) → (∀ x ∈ B, gI M 4 ≤ gT M x 4 ∧ gT M x 4 + gT M x 5 ≤ H) → gI M 4 ≤ H →
    wp (g_Pl_slideOld_10 n u M a (A.length : Int)) (fun x => Eqx [4] [4, 5] [] M x.1 ∧ Nm n x.1 ∧ Chn x.1 100 (gI x.1 4) (A ++ B) ∧ 100 ≤ gI x.1 4 ∧ gI x.1 4 ≤ H ∧ (∀ k, k ∉ B → gT x.1 k 4 = gT M k 4 ∧ gT x.1 k 5 = gT M k 5) ∧ (∀ k ∈ B, gT M k 9 ≠ 0 → gT x.1 k 4 = gT M k 4) ∧ (∀ k, gT x.1 k 5 = gT M k 5 ∨ gT x.1 k 5 = gT M k 6) ∧ a ≤ x.2 ∧ x.2 ≤ a + 25 * B.length) := by
  intro B
  induction B with
  | nil =>
    intro u M A a hu hR hlen hlt hnd hN hp h1 hA _ _ hH2
    rw [List.append_nil] at *
    cases u with
    | zero => exact absurd hu (Nat.not_lt_zero _)
    | succ u =>
      show wp (s_Pl_slideOld_10 (g_Pl_slideOld_10 n u) n M a (A.length : Int)) _
      unfold s_Pl_slideOld_10
      rw [wp_ob]
      refine wp_of (size_ok hR) ?_
      rw [wp_og, wp_og, wp_ite]
      refine ⟨⟨by omega, by omega⟩, ⟨by omega, by omega⟩, fun h => by omega, fun _ => ?_⟩
      rw [wp_some]
      refine ⟨Eqx.rf _ _ _ _, hN, hA, h1, hH2, fun _ _ => ⟨rfl, rfl⟩, fun _ _ _ => rfl, fun _ => Or.inl rfl, Int.le_refl _, ?_⟩
      simp
  | cons q B ih =>
    intro u M A a hu hR hlen hlt hnd hN hp h1 hA hB hBr hH2
    cases u with
    | zero => exact absurd hu (Nat.not_lt_zero _)
    | succ u =>
      have hlen2 : (A ++ q :: B).length = A.length + B.length + 1 := by rw [List.length_append, List.length_cons]; omega
      show wp (s_Pl_slideOld_10 (g_Pl_slideOld_10 n u) n M a (A.length : Int)) _
      unfold s_Pl_slideOld_10
      rw [wp_ob]
      refine wp_of (size_ok hR) ?_
      rw [wp_og, wp_og, wp_ite]
      refine ⟨⟨by omega, by omega⟩, ⟨by omega, by omega⟩, fun _ => ?_, fun h => by omega⟩
      rw [wp_ob]
      refine wp_of (item_ok hR (by omega) ⟨by omega, by omega⟩) ?_
      have hat : (A ++ q :: B)[A.length]? = some q := by rw [List.getElem?_append_right (Nat.le_refl _), Nat.sub_self]; rfl
      rw [if_pos (by omega), show ((A.length : Int)).toNat = A.length by omega, hat, wp_on]
      refine ⟨fun e => (by cases e), fun q' e => ?_⟩
      cases e
      have hqn : q < n := hlt q (List.mem_append_right _ List.mem_cons_self)
      have hNq := hN q hqn
      have hqr := hBr q List.mem_cons_self
      have hqp := hp q (List.mem_append_right _ List.mem_cons_self)
      have hnA : q ∉ A := fun h => (List.nodup_append.mp hnd).2.2 q h q List.mem_cons_self rfl
      have hnB : q ∉ B := (List.nodup_cons.mp (List.nodup_append.mp hnd).2.1).1
      have hBp := List.pairwise_cons.mp hB
      have hcat : A ++ q :: B = (A ++ [q]) ++ B := by rw [List.append_assoc]; rfl
      -- the rest, behind a step
      have go : ∀ (M1 : cSt) (a1 : Int), Eqx [4] [4, 5] [] M M1 → (∀ k, k ≠ q → gT M1 k 4 = gT M k 4 ∧ gT M1 k 5 = gT M k 5) → (gT M q 9 ≠ 0 → gT M1 q 4 = gT M q 4) → (gT M1 q 5 = gT M q 5 ∨ gT M1 q 5 = gT M q 6) → gI M 4 ≤ gT M1 q 4 → gI M1 4 = gT M1 q 4 + gT M1 q 5 → gI M1 4 ≤ gT M q 4 + gT M q 5 → a ≤ a1 → a1 ≤ a + 25 →
          wp (g_Pl_slideOld_10 n u M1 a1 ((A.length : Int) + 1)) (fun x => Eqx [4] [4, 5] [] M x.1 ∧ Nm n x.1 ∧ Chn x.1 100 (gI x.1 4) (A ++ q :: B) ∧ 100 ≤ gI x.1 4 ∧ gI x.1 4 ≤ H ∧ (∀ k, k ∉ q :: B → gT x.1 k 4 = gT M k 4 ∧ gT x.1 k 5 = gT M k 5) ∧ (∀ k ∈ q :: B, gT M k 9 ≠ 0 → gT x.1 k 4 = gT M k 4) ∧ (∀ k, gT x.1 k 5 = gT M k 5 ∨ gT x.1 k 5 = gT M k 6) ∧ a ≤ x.2 ∧ x.2 ≤ a + 25 * (q :: B).length) := by
        intro M1 a1 he hk h9 h5 htop hI hle ha ha2
        have hsz : 4 ≤ gT M1 q 5 := by rcases h5 with h | h <;> omega
        have hN1 : Nm n M1 := fun k hkn => by
          have hNk := hN k hkn
          rw [he.2.1 k 6 (by decide), he.2.1 k 9 (by decide)]
          by_cases hkq : k = q
          · subst hkq
            refine ⟨by omega, hsz, by rcases h5 with h | h <;> omega, by rcases h5 with h | h <;> omega, hNk.2.2.2.2⟩
          · rw [(hk k hkq).1, (hk k hkq).2]; exact hNk
        have hA1 : Chn M1 100 (gI M1 4) (A ++ [q]) := by
          rw [hI]
          refine Chn.snoc (hi := gI M 4) (hA.eq (fun k hkA => hk k (fun h => hnA (h ▸ hkA)))) (by omega) htop (by omega)
        have hB1 : ∀ x ∈ B, gT M1 x 4 = gT M x 4 ∧ gT M1 x 5 = gT M x 5 := fun x hx => hk x (fun h => hnB (h ▸ hx))
        have ihh := ih u M1 (A ++ [q]) a1 (by rw [List.length_cons] at hu; omega) (by rw [← hcat]; exact he.row hR (by decide) (by decide)) (by rw [← hcat]; exact hlen) (by rw [← hcat]; exact hlt) (by rw [← hcat]; exact hnd) hN1 (fun k hk9 => by rw [he.2.1 k 3 (by decide)]; exact hp k (by rw [hcat]; exact hk9)) (by omega) hA1 (List.Pairwise.imp_of_mem (fun ha9 hb9 hab => by rw [(hB1 _ ha9).1, (hB1 _ ha9).2, (hB1 _ hb9).1]; exact hab) hBp.2) (fun x hx => by
          rw [(hB1 x hx).1, (hB1 x hx).2]
          have := hBp.1 x hx
          have := hBr x (List.mem_cons_of_mem _ hx)
          omega) (by omega)
        rw [List.length_append, List.length_singleton] at ihh
        refine wp_mono ihh (fun x h => ?_)
        obtain ⟨e1, e2, e3, e4, e5, e6, e7, e8, e10, e11⟩ := h
        refine ⟨he.tr e1, e2, by rw [hcat]; exact e3, e4, e5, fun k hkn => ?_, fun k hkn h8 => ?_, fun k => ?_, by omega, by rw [List.length_cons]; omega⟩
        · have h1k : k ≠ q := fun h => hkn (by rw [h]; exact List.mem_cons_self)
          have h2k := e6 k (fun h => hkn (List.mem_cons_of_mem _ h))
          exact ⟨h2k.1.trans (hk k h1k).1, h2k.2.trans (hk k h1k).2⟩
        · rcases List.mem_cons.mp hkn with e | e
          · subst e; exact (e6 k hnB).1.trans (h9 h8)
          · exact (e7 k e (by rw [he.2.1 k 9 (by decide)]; exact h8)).trans (hB1 k e).1
        · rcases e8 k with h | h
          · rw [h]
            by_cases hkq : k = q
            · subst hkq; exact h5
            · exact Or.inl (hk k hkq).2
          · exact Or.inr (h.trans (he.2.1 k 6 (by decide)))
      have heI : ∀ (M1 : cSt) (v : Int), Eqx [4] [4, 5] [] M1 (sI M1 4 v) := fun M1 v => ⟨fun j hj => by rw [gI_sI, if_neg (fun h9 => hj (by rw [h9]; decide))], fun _ _ _ => rfl, fun _ _ _ => rfl, fun _ => rfl, fun _ _ => rfl, fun _ => rfl⟩
      have stay : gI M 4 ≤ gT M q 4 → wp (ob (f_Th_end n M q) (fun x12 => (g_Pl_slideOld_10 n u) (sI M 4 x12) a ((A.length : Int) + 1))) (fun x => Eqx [4] [4, 5] [] M x.1 ∧ Nm n x.1 ∧ Chn x.1 100 (gI x.1 4) (A ++ q :: B) ∧ 100 ≤ gI x.1 4 ∧ gI x.1 4 ≤ H ∧ (∀ k, k ∉ q :: B → gT x.1 k 4 = gT M k 4 ∧ gT x.1 k 5 = gT M k 5) ∧ (∀ k ∈ q :: B, gT M k 9 ≠ 0 → gT x.1 k 4 = gT M k 4) ∧ (∀ k, gT x.1 k 5 = gT M k 5 ∨ gT x.1 k 5 = gT M k 6) ∧ a ≤ x.2 ∧ x.2 ≤ a + 25 * (q :: B).length) := fun h => by
        unfold f_Th_end
        rw [wp_ob, wp_some]
        exact go (sI M 4 (gT M q 4 + gT M q 5)) a (heI M _) (fun _ _ => ⟨rfl, rfl⟩) (fun _ => rfl) (Or.inl rfl) h (by rw [gI_sI, if_pos rfl]; rfl) (by rw [gI_sI, if_pos rfl]; exact Int.le_refl _) (Int.le_refl _) (by omega)
      rw [wp_og, wp_og, wp_ite]
      refine ⟨hqn, by rcases hNq.2.2.2.2.2 with h | h <;> rw [h] <;> exact ⟨by decide, by decide⟩, fun h9 => ?_, fun h9 => stay hqr.1⟩
      rw [wp_og, wp_og, wp_ite]
      refine ⟨⟨by omega, by omega⟩, ⟨by omega, by omega⟩, fun heq => stay hqr.1, fun hne => ?_⟩
      rw [wp_ob]
      refine wp_of (moveTo_eq n M q 2 (gI M 4)) ?_
      unfold f_Th_end
      rw [wp_ob, wp_some]
      have hT : ∀ k f, gT (sT (sT (sT M q 5 (gT M q 6)) q 3 2) q 4 (gI M 4)) k f = if k = q then (if f = 4 then gI M 4 else if f = 3 then 2 else if f = 5 then gT M q 6 else gT M q f) else gT M k f := mvd_T M q 2 (gI M 4)
      have e4 : gT (sT (sT (sT M q 5 (gT M q 6)) q 3 2) q 4 (gI M 4)) q 4 = gI M 4 := by rw [hT, if_pos rfl, if_pos rfl]
      have e5 : gT (sT (sT (sT M q 5 (gT M q 6)) q 3 2) q 4 (gI M 4)) q 5 = gT M q 6 := by rw [hT, if_pos rfl, if_neg (by decide), if_neg (by decide), if_pos rfl]
      rw [e4, e5]
      refine go _ _ ?_ (fun k hk => ?_) (fun h => absurd h9 h) (Or.inr ?_) ?_ ?_ ?_ (by omega) (by omega)
      · refine ⟨fun j hj => by rw [gI_sI, if_neg (fun h9 => hj (by rw [h9]; decide))]; rfl, fun k f hf => ?_, fun _ _ _ => rfl, fun _ => rfl, fun _ _ => rfl, fun _ => rfl⟩
        rw [gT_sI, hT]
        by_cases hk : k = q
        · subst hk
          rw [if_pos rfl, if_neg (fun h => hf (by rw [h]; decide))]
          by_cases h3 : f = 3
          · rw [if_pos h3, h3, hqp]
          · rw [if_neg h3, if_neg (fun h => hf (by rw [h]; decide))]
        · rw [if_neg hk]
      · rw [gT_sI, gT_sI, hT, hT, if_neg hk, if_neg hk]; exact ⟨rfl, rfl⟩
      · rw [gT_sI]; exact e5
      · rw [gT_sI, e4]; exact Int.le_refl _
      · rw [gI_sI, if_pos rfl, gT_sI, gT_sI, e4, e5]
      · rw [gI_sI, if_pos rfl]; omega
