/-! LAYER 2: moving to OLD, emptying YOUNG, OLD's size, a FULL's (d) to (f). -/
def mto (M : cSt) (q : Nat) : cSt := addR (sI (mvd M q 2 (gI M 4)) 4 (gI M 4 + gT M q 6)) 3 q
theorem mto_ok {n q : Nat} {M : cSt} {O : List Nat} (hq : q < n) (hR : Row M 3 O) (hl : O.length < 200) : f_Pl_moveToOld n M (some q) = some (mto M q) := by
  refine wp_eq ?_
  unfold f_Pl_moveToOld f_Th_end
  rw [wp_on]
  refine ⟨fun e => (by cases e), fun q' e => ?_⟩
  cases e
  rw [wp_og, wp_ob]
  refine ⟨hq, wp_of (moveTo_eq n M q 2 (gI M 4)) ?_⟩
  rw [wp_ob, wp_some, wp_ob]
  have hT : ∀ k f, gT (sT (sT (sT M q 5 (gT M q 6)) q 3 2) q 4 (gI M 4)) k f = if k = q then (if f = 4 then gI M 4 else if f = 3 then 2 else if f = 5 then gT M q 6 else gT M q f) else gT M k f := mvd_T M q 2 (gI M 4)
  have e4 : gT (sT (sT (sT M q 5 (gT M q 6)) q 3 2) q 4 (gI M 4)) q 4 = gI M 4 := by rw [hT, if_pos rfl, if_pos rfl]
  have e5 : gT (sT (sT (sT M q 5 (gT M q 6)) q 3 2) q 4 (gI M 4)) q 5 = gT M q 6 := by rw [hT, if_pos rfl, if_neg (by decide), if_neg (by decide), if_pos rfl]
  rw [e4, e5]
  refine wp_of (add_ok (l := O) ⟨by rw [gI_sI, if_neg (by decide)]; exact hR.1, fun j hj => hR.2 j hj⟩ hl hq) ?_
  rw [wp_some]; rfl
theorem mto_I (M : cSt) (q j : Nat) : gI (mto M q) j = if j = 13 then gI M 13 + 1 else if j = 4 then gI M 4 + gT M q 6 else gI M j := by
  unfold mto addR
  rw [gI_sI]
  by_cases h : j = 10 + 3
  · rw [if_pos h, if_pos h]; rfl
  · rw [if_neg h, if_neg h, gI_sR, gI_sI]; rfl
theorem mto_T (M : cSt) (q k f : Nat) : gT (mto M q) k f = if k = q then (if f = 4 then gI M 4 else if f = 3 then 2 else if f = 5 then gT M q 6 else gT M q f) else gT M k f := by
  unfold mto addR
  rw [gT_sI, gT_sR, gT_sI]; exact mvd_T M q 2 (gI M 4) k f
theorem mto_row {M : cSt} {q : Nat} {O : List Nat} (h : Row M 3 O) : Row (mto M q) 3 (O ++ [q]) := row_addR (M := sI (mvd M q 2 (gI M 4)) 4 (gI M 4 + gT M q 6)) ⟨by rw [gI_sI, if_neg (by decide)]; exact h.1, fun j hj => h.2 j hj⟩
theorem mto_eqx (M : cSt) (q : Nat) : Eqx [4, 13] [3, 4, 5] [3] M (mto M q) := by
  refine ⟨fun j hj => ?_, fun k f hf => ?_, fun r j hr => ?_, fun _ => rfl, fun _ _ => rfl, fun _ => rfl⟩
  · rw [mto_I, if_neg (fun h => hj (by rw [h]; decide)), if_neg (fun h => hj (by rw [h]; decide))]
  · rw [mto_T]
    by_cases hk : k = q
    · rw [if_pos hk, if_neg (fun h => hf (by rw [h]; decide)), if_neg (fun h => hf (by rw [h]; decide)), if_neg (fun h => hf (by rw [h]; decide)), hk]
    · rw [if_neg hk]
  · exact (eqx_addR (sI (mvd M q 2 (gI M 4)) 4 (gI M 4 + gT M q 6)) 3 q).2.2.1 r j hr
theorem mto_refs {n q : Nat} {M : cSt} (h : cRf n M) (hq : q < n) : cRf n (mto M q) := cRf_addR (M := sI (mvd M q 2 (gI M 4)) 4 (gI M 4 + gT M q 6)) h hq
theorem mto_nm {n q : Nat} {M : cSt} (h : Nm n M) (hI : 0 ≤ gI M 4 ∧ gI M 4 ≤ 1000) : Nm n (mto M q) := fun k hk => by
  have h1 := h k hk
  rw [mto_T, mto_T, mto_T, mto_T]
  by_cases hkq : k = q
  · subst hkq
    rw [if_pos rfl, if_pos rfl, if_pos rfl, if_pos rfl, if_pos rfl, if_neg (by decide), if_neg (by decide), if_pos rfl, if_neg (by decide), if_neg (by decide), if_neg (by decide), if_neg (by decide), if_neg (by decide), if_neg (by decide)]
    omega
  · rw [if_neg hkq, if_neg hkq, if_neg hkq, if_neg hkq]; exact h1
/-- SIZES behind a move -/
def sbs (M : cSt) (l : List Nat) : Int := (l.map (fun k => gT M k 6)).sum
theorem sbs_cons (M : cSt) (q : Nat) (l : List Nat) : sbs M (q :: l) = gT M q 6 + sbs M l := by unfold sbs; rw [List.map_cons, List.sum_cons]
theorem sbs_eq {M M' : cSt} {l : List Nat} (h : ∀ k ∈ l, gT M' k 6 = gT M k 6) : sbs M' l = sbs M l := by unfold sbs; rw [List.map_congr_left h]
theorem sbs_rng {n : Nat} {M : cSt} {l : List Nat} (h : Nm n M) (hl : ∀ k ∈ l, k < n) : 0 ≤ sbs M l ∧ sbs M l ≤ 25 * l.length :=
  sum_rng (fun k hk => by have := h k (hl k hk); omega)
theorem can_loop {n : Nat} {M : cSt} {l : List Nat} (h : Row M 2 l) (hl : l.length ≤ 199) (hn : ∀ k ∈ l, k < n) : ∀ (u v : Nat) (a : Int), v ≤ l.length → l.length - v < u →
    wp (g_Pl_canOldTakeYoung_4 n M u a (v : Int)) (fun x => x = a + sbs M (l.drop v)) := by
  intro u
  induction u with
  | zero => intro v a _ h; omega
  | succ u ih =>
    intro v a hv hu
    show wp (s_Pl_canOldTakeYoung_4 (g_Pl_canOldTakeYoung_4 n M u) n M a (v : Int)) _
    unfold s_Pl_canOldTakeYoung_4
    rw [wp_ob]
    refine wp_of (size_ok h) ?_
    rw [wp_og, wp_og, wp_ite]
    refine ⟨⟨by omega, by omega⟩, ⟨by omega, by omega⟩, fun hlt => ?_, fun hge => ?_⟩
    · have hvl : v < l.length := by omega
      rw [wp_ob]
      refine wp_of (item_ok h (by omega) ⟨by omega, by omega⟩) ?_
      rw [if_pos (by omega), show (v : Int).toNat = v by omega, List.getElem?_eq_getElem hvl, wp_on]
      refine ⟨fun e => (by cases e), fun q e => ?_⟩
      have hql : l[v] = q := Option.some.inj e
      rw [wp_og]
      refine ⟨by rw [← hql]; exact hn _ (List.getElem_mem hvl), ?_⟩
      refine wp_mono (ih (v + 1) (a + gT M q 6) (by omega) (by omega)) (fun x hx => ?_)
      rw [hx, List.drop_eq_getElem_cons hvl, hql, sbs_cons]; omega
    · rw [wp_some, List.drop_eq_nil_of_le (by omega)]
      unfold sbs; simp
theorem can_ok {n : Nat} {M : cSt} {l : List Nat} (h : Row M 2 l) (hl : l.length ≤ 199) (hn : ∀ k ∈ l, k < n) (hN : Nm n M) (hr : inR (100 + gI M 5 - gI M 4)) :
    f_Pl_canOldTakeYoung n M = some (if 100 + gI M 5 - gI M 4 < sbs M l then 0 else 1) := by
  have hfu : fu = 500 := rfl
  have hs := sbs_rng hN hn
  refine wp_eq ?_
  unfold f_Pl_canOldTakeYoung f_Pl_oldRoom
  rw [wp_ob]
  refine wp_mono (can_loop h hl hn fu 0 0 (Nat.zero_le _) (by rw [hfu]; omega)) (fun x hx => ?_)
  rw [List.drop_zero, Int.zero_add] at hx
  rw [wp_ob, wp_some, wp_og, wp_og, wp_ite, hx]
  refine ⟨⟨by omega, by omega⟩, hr, fun h => ?_, fun h => ?_⟩
  · rw [wp_some, if_pos h]
  · rw [wp_some, if_neg h]
theorem empty_loop {n : Nat} : ∀ (B : List Nat) (u : Nat) (M : cSt) (A O : List Nat), B.length < u → Row M 2 (A ++ B) → (A ++ B).length ≤ 199 → (∀ k ∈ A ++ B, k < n) → (A ++ B).Nodup → Row M 3 O → O.length + B.length ≤ 199 → (∀ k ∈ B, k ∉ O) → cRf n M → Nm n M → 100 ≤ gI M 4 → gI M 4 + sbs M B ≤ 1000 → Chn M 100 (gI M 4) O →
    wp (g_Pl_emptyYoung_11 n u M (A.length : Int)) (fun M' => Eqx [4, 13] [3, 4, 5] [3] M M' ∧ cRf n M' ∧ Nm n M' ∧ Row M' 3 (O ++ B) ∧ Chn M' 100 (gI M' 4) (O ++ B) ∧ gI M' 4 = gI M 4 + sbs M B ∧ (∀ k, k ∉ B → gT M' k 3 = gT M k 3 ∧ gT M' k 4 = gT M k 4 ∧ gT M' k 5 = gT M k 5) ∧ ∀ k ∈ B, gT M' k 3 = 2 ∧ gT M' k 5 = gT M k 6) := by
  intro B
  induction B with
  | nil =>
    intro u M A O hu hR hlen hlt hnd hO hOl hdis hc hN h1 hcap hch
    rw [List.append_nil] at *
    cases u with
    | zero => exact absurd hu (Nat.not_lt_zero _)
    | succ u =>
      show wp (s_Pl_emptyYoung_11 (g_Pl_emptyYoung_11 n u) n M (A.length : Int)) _
      unfold s_Pl_emptyYoung_11
      rw [wp_ob]
      refine wp_of (size_ok hR) ?_
      rw [wp_og, wp_og, wp_ite]
      refine ⟨⟨by omega, by omega⟩, ⟨by omega, by omega⟩, fun h => by omega, fun _ => ?_⟩
      rw [wp_some]
      exact ⟨Eqx.rf _ _ _ _, hc, hN, hO, hch, by unfold sbs; simp, fun _ _ => ⟨rfl, rfl, rfl⟩, fun k hk => absurd hk List.not_mem_nil⟩
  | cons q B ih =>
    intro u M A O hu hR hlen hlt hnd hO hOl hdis hc hN h1 hcap hch
    cases u with
    | zero => exact absurd hu (Nat.not_lt_zero _)
    | succ u =>
      have hlen2 : (A ++ q :: B).length = A.length + B.length + 1 := by rw [List.length_append, List.length_cons]; omega
      show wp (s_Pl_emptyYoung_11 (g_Pl_emptyYoung_11 n u) n M (A.length : Int)) _
      unfold s_Pl_emptyYoung_11
      rw [wp_ob]
      refine wp_of (size_ok hR) ?_
      rw [wp_og, wp_og, wp_ite]
      refine ⟨⟨by omega, by omega⟩, ⟨by omega, by omega⟩, fun _ => ?_, fun h => by omega⟩
      rw [wp_ob]
      refine wp_of (item_ok hR (by omega) ⟨by omega, by omega⟩) ?_
      have hat : (A ++ q :: B)[A.length]? = some q := by rw [List.getElem?_append_right (Nat.le_refl _), Nat.sub_self]; rfl
      rw [if_pos (by omega), show ((A.length : Int)).toNat = A.length by omega, hat, wp_on]
      refine ⟨fun e => (by cases e), fun q' e => ?_⟩
      cases e
      have hqn : q < n := hlt q (List.mem_append_right _ List.mem_cons_self)
      have hNq := hN q hqn
      rw [List.length_cons] at hOl
      rw [sbs_cons] at hcap
      have hsr := sbs_rng hN (l := B) (fun k hk => hlt k (List.mem_append_right _ (List.mem_cons_of_mem _ hk)))
      have hnB : q ∉ B := (List.nodup_cons.mp (List.nodup_append.mp hnd).2.1).1
      have hcat : A ++ q :: B = (A ++ [q]) ++ B := by rw [List.append_assoc]; rfl
      rw [wp_og, wp_ob]
      refine ⟨hqn, wp_of (mto_ok hqn hO (by omega)) ?_⟩
      have he := mto_eqx M q
      have hs : sbs (mto M q) B = sbs M B := sbs_eq (fun k _ => he.2.1 k 6 (by decide))
      have h4 : gI (mto M q) 4 = gI M 4 + gT M q 6 := by rw [mto_I, if_neg (by decide), if_pos rfl]
      have hTq : ∀ f, gT (mto M q) q f = (if f = 4 then gI M 4 else if f = 3 then 2 else if f = 5 then gT M q 6 else gT M q f) := fun f => by rw [mto_T, if_pos rfl]
      have hTk : ∀ k f, k ≠ q → gT (mto M q) k f = gT M k f := fun k f hk => by rw [mto_T, if_neg hk]
      have hch1 : Chn (mto M q) 100 (gI (mto M q) 4) (O ++ [q]) := by
        have e4 : gT (mto M q) q 4 = gI M 4 := by rw [hTq, if_pos rfl]
        have e5 : gT (mto M q) q 5 = gT M q 6 := by rw [hTq, if_neg (by decide), if_neg (by decide), if_pos rfl]
        have := Chn.snoc (M := mto M q) (q := q) (hi := gI M 4) (hch.eq (fun k hk => by
          have hkq : k ≠ q := fun h => hdis q List.mem_cons_self (h ▸ hk)
          exact ⟨hTk k 4 hkq, hTk k 5 hkq⟩)) (by omega) (by omega) (by omega)
        rw [e4, e5] at this
        rw [h4]; exact this
      have ihh := ih u (mto M q) (A ++ [q]) (O ++ [q]) (by rw [List.length_cons] at hu; omega) (by rw [← hcat]; exact he.row hR (by decide) (by decide)) (by rw [← hcat]; exact hlen) (by rw [← hcat]; exact hlt) (by rw [← hcat]; exact hnd) (mto_row hO) (by rw [List.length_append, List.length_singleton]; omega) (fun k hk h => by
        rcases List.mem_append.mp h with h | h
        · exact hdis k (List.mem_cons_of_mem _ hk) h
        · rw [List.mem_singleton] at h; subst h; exact hnB hk) (mto_refs hc hqn) (mto_nm hN (by omega)) (by omega) (by rw [h4, hs]; omega) hch1
      rw [List.length_append, List.length_singleton] at ihh
      refine wp_mono ihh (fun M' h => ?_)
      obtain ⟨e1, e2, e3, e4, e5, e6, e7, e8⟩ := h
      have hcat2 : O ++ q :: B = (O ++ [q]) ++ B := by rw [List.append_assoc]; rfl
      refine ⟨he.tr e1, e2, e3, by rw [hcat2]; exact e4, by rw [hcat2]; exact e5, by rw [e6, h4, hs, sbs_cons]; omega, fun k hk => ?_, fun k hk => ?_⟩
      · have hkq : k ≠ q := fun h => hk (by rw [h]; exact List.mem_cons_self)
        have := e7 k (fun h => hk (List.mem_cons_of_mem _ h))
        exact ⟨this.1.trans (hTk k 3 hkq), this.2.1.trans (hTk k 4 hkq), this.2.2.trans (hTk k 5 hkq)⟩
      · rcases List.mem_cons.mp hk with e | hk
        · subst e
          have := e7 k hnB
          exact ⟨this.1.trans (by rw [hTq, if_neg (by decide), if_pos rfl]), this.2.2.trans (by rw [hTq, if_neg (by decide), if_neg (by decide), if_pos rfl])⟩
        · have := e8 k hk
          exact ⟨this.1, this.2.trans (he.2.1 k 6 (by decide))⟩
theorem resize_ok {n : Nat} {M : cSt} (h1 : 100 ≤ gI M 4 ∧ gI M 4 ≤ 100 + gI M 5) (h2 : 60 ≤ gI M 5 ∧ gI M 5 ≤ 180) :
    wp (f_Pl_resizeOld n M) (fun M' => ∃ v, M' = sI M 5 v ∧ 60 ≤ v ∧ v ≤ 180 ∧ gI M 4 ≤ 100 + v) := by
  unfold f_Pl_resizeOld
  simp only [wp_og, wp_ite, wp_some]
  refine ⟨⟨by omega, by omega⟩, ⟨by omega, by omega⟩, fun h => ⟨⟨by omega, by omega⟩, _, rfl, by omega, by omega, by omega⟩, fun h => ⟨⟨by omega, by omega⟩, fun h3 => ⟨⟨by omega, by omega⟩, ⟨by omega, by omega⟩, ⟨by omega, by omega⟩, _, rfl, by omega, by omega, by omega⟩, fun h3 => ⟨gI M 5, ?_, h2.1, h2.2, h1.2⟩⟩⟩
  unfold sI
  have : va_up (gIf M) 5 (gI M 5) = gIf M := by
    funext j; unfold va_up; split
    · rename_i h9; rw [h9]
    · rfl
  rw [this]; rfl
/-- where things are -/
def PL (n : Nat) (M : cSt) (Y O G : List Nat) : Prop := Row M 2 Y ∧ Row M 3 O ∧ Row M 4 G ∧ Y.Nodup ∧ O.Nodup ∧ G.Nodup ∧ (∀ k, k ∈ Y ↔ (k < n ∧ gT M k 3 = 1)) ∧ (∀ k, k ∈ O ↔ (k < n ∧ gT M k 3 = 2)) ∧ (∀ k, k ∈ G ↔ (k < n ∧ gT M k 3 = 3)) ∧ Chn M (gI M 2) (gI M 3) Y ∧ Chn M 100 (gI M 4) O ∧ Chn M 300 420 G ∧ (gI M 2 = 0 ∨ gI M 2 = 40) ∧ gI M 2 ≤ gI M 3 ∧ gI M 3 ≤ gI M 2 + 40 ∧ 100 ≤ gI M 4 ∧ gI M 4 ≤ 100 + gI M 5 ∧ 60 ≤ gI M 5 ∧ gI M 5 ≤ 180
/-- where things were, before some of them vanished -/
def PLw (n : Nat) (M : cSt) (Y O G : List Nat) : Prop := Row M 2 Y ∧ Row M 3 O ∧ Row M 4 G ∧ Y.Nodup ∧ O.Nodup ∧ G.Nodup ∧ (∀ k ∈ Y, k < n) ∧ (∀ k ∈ O, k < n) ∧ (∀ k ∈ G, k < n) ∧ (∀ k, k < n → gT M k 3 = 1 → k ∈ Y) ∧ (∀ k, k < n → gT M k 3 = 2 → k ∈ O) ∧ (∀ k, k < n → gT M k 3 = 3 → k ∈ G) ∧ Chn M (gI M 2) (gI M 3) Y ∧ Chn M 100 (gI M 4) O ∧ Chn M 300 420 G ∧ (gI M 2 = 0 ∨ gI M 2 = 40) ∧ gI M 2 ≤ gI M 3 ∧ gI M 3 ≤ gI M 2 + 40 ∧ 100 ≤ gI M 4 ∧ gI M 4 ≤ 100 + gI M 5 ∧ 60 ≤ gI M 5 ∧ gI M 5 ≤ 180
theorem mem_isP {M : cSt} {p : Int} {l : List Nat} {n k : Nat} (h1 : ∀ k ∈ l, k < n) (h2 : ∀ k, k < n → gT M k 3 = p → k ∈ l) : k ∈ l.filter (isP M p) ↔ (k < n ∧ gT M k 3 = p) := by
  rw [List.mem_filter]
  unfold isP
  rw [decide_eq_true_eq]
  exact ⟨fun h => ⟨h1 k h.1, h.2⟩, fun h => ⟨h2 k h.1 h.2, h.2⟩⟩
theorem compact_ok {n : Nat} {M : cSt} {Y O G : List Nat} (hn : n ≤ 199) (hc : cRf n M) (hN : Nm n M) (hpl : ∀ k, k < n → 0 ≤ gT M k 3 ∧ gT M k 3 ≤ 3) (hPL : PLw n M Y O G) :
    wp (f_Pl_compact n M) (fun x => (∃ Y' O' G', PL n x.1 Y' O' G') ∧ Eqx [2, 3, 4, 5, 12, 13, 14] [3, 4, 5] [2, 3, 4] M x.1 ∧ cRf n x.1 ∧ Nm n x.1 ∧ (∀ k, k < n → gT x.1 k 3 = gT M k 3 ∨ (gT M k 3 = 1 ∧ gT x.1 k 3 = 2)) ∧ (∀ k, k < n → gT M k 9 ≠ 0 → gT M k 3 = 2 ∨ gT M k 3 = 3 → gT x.1 k 4 = gT M k 4) ∧ (∀ k, k < n → gT x.1 k 5 = gT M k 5 ∨ gT x.1 k 5 = gT M k 6) ∧ 0 ≤ x.2 ∧ x.2 ≤ 20000) := by
  have hfu : fu = 500 := rfl
  obtain ⟨hY, hO, hG, hYd, hOd, hGd, hYl, hOl, hGl, hY3, hO3, hG3, hcY, hcO, hcG, hh, ht1, ht2, ho1, ho2, hw1, hw2⟩ := hPL
  have hYn := nodup_le n Y hYd hYl
  have hOn := nodup_le n O hOd hOl
  have hGn := nodup_le n G hGd hGl
  unfold f_Pl_compact
  rw [wp_ob]
  refine wp_mono (keep_ok (p := 1) ⟨by decide, by decide⟩ hc (by omega) hYl hpl hY) (fun M1 h => ?_)
  obtain ⟨he1, hc1, hr1⟩ := h
  rw [wp_ob]
  have hp1 : ∀ k, gT M1 k 3 = gT M k 3 := fun k => he1.2.1 k 3 (by decide)
  refine wp_mono (keep_ok (p := 2) ⟨by decide, by decide⟩ hc1 (by omega) hOl (fun k hk => by rw [hp1]; exact hpl k hk) (he1.row hO (by decide) (by decide))) (fun M2 h => ?_)
  obtain ⟨he2, hc2, hr2⟩ := h
  rw [wp_ob]
  have hp2 : ∀ k, gT M2 k 3 = gT M k 3 := fun k => (he2.2.1 k 3 (by decide)).trans (hp1 k)
  refine wp_mono (keep_ok (p := 3) ⟨by decide, by decide⟩ hc2 (by omega) hGl (fun k hk => by rw [hp2]; exact hpl k hk) (he2.row (he1.row hG (by decide) (by decide)) (by decide) (by decide))) (fun M3 h => ?_)
  obtain ⟨he3, hc3, hr3⟩ := h
  have he123 : Eqx [12, 13, 14] [] [2, 3, 4] M M3 := (he1.mono (by decide) (by decide) (by decide)).tr ((he2.mono (by decide) (by decide) (by decide)).tr (he3.mono (by decide) (by decide) (by decide)))
  have hf2 : isP M1 2 = isP M 2 := by funext k; unfold isP; rw [hp1]
  have hf3 : isP M2 3 = isP M 3 := by funext k; unfold isP; rw [hp2]
  rw [hf2] at hr2
  rw [hf3] at hr3
  have hrY : Row M3 2 (Y.filter (isP M 1)) := he3.row (he2.row hr1 (by decide) (by decide)) (by decide) (by decide)
  have hrO : Row M3 3 (O.filter (isP M 2)) := he3.row hr2 (by decide) (by decide)
  have hT3 : ∀ k f, gT M3 k f = gT M k f := fun k f => he123.2.1 k f List.not_mem_nil
  have hI3 : ∀ j, j ∉ [12, 13, 14] → gI M3 j = gI M j := fun j hj => he123.1 j hj
  have mY : ∀ k, k ∈ Y.filter (isP M 1) ↔ (k < n ∧ gT M k 3 = 1) := fun k => mem_isP hYl hY3
  have mO : ∀ k, k ∈ O.filter (isP M 2) ↔ (k < n ∧ gT M k 3 = 2) := fun k => mem_isP hOl hO3
  have mG : ∀ k, k ∈ G.filter (isP M 3) ↔ (k < n ∧ gT M k 3 = 3) := fun k => mem_isP hGl hG3
  have dY : (Y.filter (isP M 1)).Nodup := hYd.filter _
  have dO : (O.filter (isP M 2)).Nodup := hOd.filter _
  have dG : (G.filter (isP M 3)).Nodup := hGd.filter _
  have lY := nodup_le n _ dY (fun k hk => ((mY k).mp hk).1)
  have lO := nodup_le n _ dO (fun k hk => ((mO k).mp hk).1)
  have hN3 : Nm n M3 := fun k hk => by rw [hT3, hT3, hT3, hT3]; exact hN k hk
  generalize hYe : Y.filter (isP M 1) = Y' at *
  generalize hOe : O.filter (isP M 2) = O' at *
  generalize hGe : G.filter (isP M 3) = G' at *
  have hcY' : Chn M (gI M 2) (gI M 3) Y' := hYe ▸ hcY.filter _
  have hcO' : Chn M 100 (gI M 4) O' := hOe ▸ hcO.filter _
  have hcG' : Chn M 300 420 G' := hGe ▸ hcG.filter _
  -- OLD slides
  rw [wp_ob]
  have hslide : wp (f_Pl_slideOld n M3) (fun x => Eqx [4] [4, 5] [] M3 x.1 ∧ Nm n x.1 ∧ Chn x.1 100 (gI x.1 4) O' ∧ 100 ≤ gI x.1 4 ∧ gI x.1 4 ≤ gI M 4 ∧ (∀ k, k ∉ O' → gT x.1 k 4 = gT M3 k 4 ∧ gT x.1 k 5 = gT M3 k 5) ∧ (∀ k ∈ O', gT M3 k 9 ≠ 0 → gT x.1 k 4 = gT M3 k 4) ∧ (∀ k, gT x.1 k 5 = gT M3 k 5 ∨ gT x.1 k 5 = gT M3 k 6) ∧ 0 ≤ x.2 ∧ x.2 ≤ 25 * O'.length) := by
    have heI : Eqx [4] [4, 5] [] M3 (sI M3 4 100) := ⟨fun j hj => by rw [gI_sI, if_neg (fun h9 => hj (by rw [h9]; decide))], fun _ _ _ => rfl, fun _ _ _ => rfl, fun _ => rfl, fun _ _ => rfl, fun _ => rfl⟩
    unfold f_Pl_slideOld
    rw [wp_ob]
    have hTI : ∀ k f, gT (sI M3 4 100) k f = gT M k f := fun k f => hT3 k f
    refine wp_mono (slide_loop (n := n) (H := gI M 4) (by omega) O' fu (sI M3 4 100) [] 0 (by rw [hfu]; omega) (heI.row hrO (by decide) (by decide)) (by rw [List.nil_append]; omega) (fun k hk => ((mO k).mp hk).1) dO hN3 (fun k hk => by rw [hTI]; exact ((mO k).mp hk).2) (by rw [gI_sI, if_pos rfl]; decide) (Chn.nil _ _ _) (by simp only [hTI]; exact hcO'.1) (fun x hx => by rw [gI_sI, if_pos rfl, hTI, hTI]; exact hcO'.2 x hx) (by rw [gI_sI, if_pos rfl]; exact ho1)) (fun x h => ?_)
    obtain ⟨a1, a2, a3, a4, a5, a6, a7, a8, a9, a10⟩ := h
    rw [wp_some]
    exact ⟨heI.tr a1, a2, a3, a4, a5, a6, a7, a8, a9, by omega⟩
  refine wp_mono hslide (fun x4 h => ?_)
  obtain ⟨he4, hN4, hcO4, ho41, ho42, hk4, hpin4, hsz4, hm41, hm42⟩ := h
  have hc4 : cRf n x4.1 := he4.rfs hc3 (fun r hr => absurd hr List.not_mem_nil)
  have hnYO : ∀ k ∈ Y', k ∉ O' := fun k hk h => by have h1 := ((mY k).mp hk).2; have h2 := ((mO k).mp h).2; omega
  have hnGO : ∀ k ∈ G', k ∉ O' := fun k hk h => by have h1 := ((mG k).mp hk).2; have h2 := ((mO k).mp h).2; omega
  have hrY4 : Row x4.1 2 Y' := he4.row hrY (by decide) (by decide)
  have hrO4 : Row x4.1 3 O' := he4.row hrO (by decide) (by decide)
  have hI4 : ∀ j, j ∉ [4, 12, 13, 14] → gI x4.1 j = gI M j := fun j hj => (he4.1 j (fun h => hj (by simp at h ⊢; omega))).trans (hI3 j (fun h => hj (by simp at h ⊢; omega)))
  have hT4 : ∀ k f, f ∉ [4, 5] → gT x4.1 k f = gT M k f := fun k f hf => (he4.2.1 k f hf).trans (hT3 k f)
  have hk44 : ∀ k, k ∉ O' → gT x4.1 k 4 = gT M k 4 ∧ gT x4.1 k 5 = gT M k 5 := fun k hk => ⟨(hk4 k hk).1.trans (hT3 k 4), (hk4 k hk).2.trans (hT3 k 5)⟩
  -- YOUNG is emptied, if OLD has room
  rw [wp_ob]
  have hempty : wp (f_Pl_emptyYoung n x4.1) (fun x => ∃ Y2 O2, Row x.1 2 Y2 ∧ Row x.1 3 O2 ∧ Y2.Nodup ∧ O2.Nodup ∧ (∀ k, k ∈ Y2 ↔ (k < n ∧ gT x.1 k 3 = 1)) ∧ (∀ k, k ∈ O2 ↔ (k < n ∧ gT x.1 k 3 = 2)) ∧ Chn x.1 (gI x.1 2) (gI x.1 3) Y2 ∧ Chn x.1 100 (gI x.1 4) O2 ∧ (gI x.1 2 = 0 ∨ gI x.1 2 = 40) ∧ gI x.1 2 ≤ gI x.1 3 ∧ gI x.1 3 ≤ gI x.1 2 + 40 ∧ 100 ≤ gI x.1 4 ∧ gI x.1 4 ≤ 100 + gI M 5 ∧ Eqx [2, 3, 4, 12, 13] [3, 4, 5] [3] x4.1 x.1 ∧ cRf n x.1 ∧ Nm n x.1 ∧ (∀ k, k ∉ Y' → gT x.1 k 3 = gT x4.1 k 3 ∧ gT x.1 k 4 = gT x4.1 k 4 ∧ gT x.1 k 5 = gT x4.1 k 5) ∧ (∀ k ∈ Y', (gT x.1 k 3 = gT x4.1 k 3 ∧ gT x.1 k 5 = gT x4.1 k 5) ∨ (gT x.1 k 3 = 2 ∧ gT x.1 k 5 = gT x4.1 k 6)) ∧ 0 ≤ x.2 ∧ x.2 ≤ 25 * Y'.length) := by
    have h5 : gI x4.1 5 = gI M 5 := hI4 5 (by decide)
    unfold f_Pl_emptyYoung
    rw [wp_ob]
    refine wp_of (can_ok hrY4 (by omega) (fun k hk => ((mY k).mp hk).1) hN4 (by rw [h5]; exact ⟨by omega, by omega⟩)) ?_
    rw [h5]
    by_cases hcan : 100 + gI M 5 - gI x4.1 4 < sbs x4.1 Y'
    · rw [if_pos hcan, wp_og, wp_ite]
      refine ⟨⟨by decide, by decide⟩, fun _ => ?_, fun h => absurd rfl h⟩
      rw [wp_some]
      have h2 : gI x4.1 2 = gI M 2 := hI4 2 (by decide)
      have h3 : gI x4.1 3 = gI M 3 := hI4 3 (by decide)
      refine ⟨Y', O', hrY4, hrO4, dY, dO, fun k => by rw [hT4 k 3 (by decide)]; exact mY k, fun k => by rw [hT4 k 3 (by decide)]; exact mO k, ?_, hcO4, by rw [h2]; exact hh, by rw [h2, h3]; exact ht1, by rw [h2, h3]; exact ht2, ho41, (show gI x4.1 4 ≤ 100 + gI M 5 by omega), Eqx.rf _ _ _ _, hc4, hN4, fun _ _ => ⟨rfl, rfl, rfl⟩, fun _ _ => Or.inl ⟨rfl, rfl⟩, Int.le_refl _, by omega⟩
      rw [h2, h3]
      exact hcY'.eq (fun k hk => hk44 k (hnYO k hk))
    · rw [if_neg hcan, wp_og, wp_ite]
      refine ⟨⟨by decide, by decide⟩, fun h => absurd h (by decide), fun _ => ?_⟩
      have hlen : O'.length + Y'.length ≤ n := by
        have := nodup_le n (O' ++ Y') (List.nodup_append.mpr ⟨dO, dY, fun a ha b hb e => hnYO b hb (e ▸ ha)⟩) (fun k hk => by
          rcases List.mem_append.mp hk with hk | hk
          · exact ((mO k).mp hk).1
          · exact ((mY k).mp hk).1)
        rw [List.length_append] at this; exact this
      rw [wp_ob]
      refine wp_mono (empty_loop Y' fu x4.1 [] O' (by rw [hfu]; omega) hrY4 (by rw [List.nil_append]; omega) (fun k hk => ((mY k).mp hk).1) dY hrO4 (by omega) hnYO hc4 hN4 ho41 (by omega) hcO4) (fun M5 h => ?_)
      obtain ⟨e1, e2, e3, e4, e5, e6, e7, e8⟩ := h
      have hrY5 : Row M5 2 Y' := e1.row hrY4 (by decide) (by decide)
      rw [wp_ob]
      refine wp_of (words_ok hrY5 (by omega) (fun k hk => ((mY k).mp hk).1)) ?_
      unfold f_Row_clear
      rw [wp_ob, wp_some, wp_some]
      have hw := sum_rng (l := Y') (f := fun k => gT M5 k 5) (c := 25) (fun k hk => by have := e3 k ((mY k).mp hk).1; omega)
      have heF : Eqx [2, 3, 12] [] [] M5 (sI (sI (sI M5 (10 + 2) 0) 2 0) 3 0) := ⟨fun j hj => by
        rw [gI_sI, if_neg (fun h9 => hj (by rw [h9]; decide)), gI_sI, if_neg (fun h9 => hj (by rw [h9]; decide)), gI_sI, if_neg (fun h9 => hj (by rw [h9]; decide))], fun _ _ _ => rfl, fun _ _ _ => rfl, fun _ => rfl, fun _ _ => rfl, fun _ => rfl⟩
      have g2 : gI (sI (sI (sI M5 (10 + 2) 0) 2 0) 3 0) 2 = 0 := by rw [gI_sI, if_neg (by decide), gI_sI, if_pos rfl]
      have g3 : gI (sI (sI (sI M5 (10 + 2) 0) 2 0) 3 0) 3 = 0 := by rw [gI_sI, if_pos rfl]
      have g4 : gI (sI (sI (sI M5 (10 + 2) 0) 2 0) 3 0) 4 = gI M5 4 := heF.1 4 (by decide)
      have hT5 : ∀ k f, gT (sI (sI (sI M5 (10 + 2) 0) 2 0) 3 0) k f = gT M5 k f := fun _ _ => rfl
      have hmO : ∀ k, k ∈ O' ++ Y' ↔ (k < n ∧ gT M5 k 3 = 2) := fun k => by
        rw [List.mem_append]
        constructor
        · rintro (h | h)
          · have hy : k ∉ Y' := fun h9 => hnYO k h9 h
            exact ⟨((mO k).mp h).1, by rw [(e7 k hy).1, hT4 k 3 (by decide)]; exact ((mO k).mp h).2⟩
          · exact ⟨((mY k).mp h).1, (e8 k h).1⟩
        · rintro ⟨h1, h2⟩
          by_cases hy : k ∈ Y'
          · exact Or.inr hy
          · exact Or.inl ((mO k).mpr ⟨h1, by rw [← hT4 k 3 (by decide), ← (e7 k hy).1]; exact h2⟩)
      refine ⟨[], O' ++ Y', row_nil (by rw [gI_sI, if_neg (by decide), gI_sI, if_neg (by decide), gI_sI, if_pos rfl]), heF.row e4 (by decide) (by decide), List.nodup_nil, List.nodup_append.mpr ⟨dO, dY, fun a ha b hb e => hnYO b hb (e ▸ ha)⟩, fun k => ⟨fun h => absurd h List.not_mem_nil, fun h => ?_⟩, fun k => by rw [hT5]; exact hmO k, Chn.nil _ _ _, by rw [g4]; exact e5.eq (fun _ _ => ⟨rfl, rfl⟩), Or.inl g2, by rw [g2, g3]; decide, by rw [g2, g3]; decide, by rw [g4, e6]; have := sbs_rng hN4 (l := Y') (fun k hk => ((mY k).mp hk).1); omega, by rw [g4, e6]; omega, (e1.mono (by decide) (by decide) (by decide)).tr (heF.mono (by decide) (by decide) (by decide)), heF.rfs e2 (fun r hr => absurd hr List.not_mem_nil), e3, fun k hk => e7 k hk, fun k hk => Or.inr (e8 k hk), hw.1, hw.2⟩
      exfalso
      rw [hT5] at h
      by_cases hy : k ∈ Y'
      · have := (e8 k hy).1; omega
      · rw [(e7 k hy).1, hT4 k 3 (by decide)] at h
        exact hy ((mY k).mpr h)
  refine wp_mono hempty (fun x5 h => ?_)
  obtain ⟨Y2, O2, q1, q2, q3, q4, q5, q6, q7, q8, q9, q10, q11, q12, q13, q14, q15, q16, q17, q18, q19, q20⟩ := h
  rw [wp_ob]
  have h55 : gI x5.1 5 = gI M 5 := (q14.1 5 (by decide)).trans (hI4 5 (by decide))
  refine wp_mono (resize_ok (M := x5.1) (by rw [h55]; exact ⟨q12, q13⟩) (by rw [h55]; exact ⟨hw1, hw2⟩)) (fun M6 h => ?_)
  obtain ⟨v, rfl, hv1, hv2, hv3⟩ := h
  rw [wp_some]
  have heR : Eqx [5] [] [] x5.1 (sI x5.1 5 v) := ⟨fun j hj => by rw [gI_sI, if_neg (fun h9 => hj (by rw [h9]; decide))], fun _ _ _ => rfl, fun _ _ _ => rfl, fun _ => rfl, fun _ _ => rfl, fun _ => rfl⟩
  have g5 : gI (sI x5.1 5 v) 5 = v := by rw [gI_sI, if_pos rfl]
  have gI5 : ∀ j, j ≠ 5 → gI (sI x5.1 5 v) j = gI x5.1 j := fun j hj => by rw [gI_sI, if_neg hj]
  have hnGY : ∀ k ∈ G', k ∉ Y' := fun k hk h => by have h1 := ((mG k).mp hk).2; have h2 := ((mY k).mp h).2; omega
  have hrG : Row x5.1 4 G' := q14.row (he4.row hr3 (by decide) (by decide)) (by decide) (by decide)
  have hplx : ∀ k, k < n → gT x5.1 k 3 = gT M k 3 ∨ (gT M k 3 = 1 ∧ gT x5.1 k 3 = 2) := fun k hk => by
    by_cases hy : k ∈ Y'
    · rcases q18 k hy with h | h
      · exact Or.inl (h.1.trans (hT4 k 3 (by decide)))
      · exact Or.inr ⟨((mY k).mp hy).2, h.1⟩
    · exact Or.inl ((q17 k hy).1.trans (hT4 k 3 (by decide)))
  refine ⟨⟨Y2, O2, G', heR.row q1 (by decide) (by decide), heR.row q2 (by decide) (by decide), heR.row hrG (by decide) (by decide), q3, q4, dG, q5, q6, fun k => ?_, ?_, ?_, ?_, by rw [gI5 2 (by decide)]; exact q9, by rw [gI5 2 (by decide), gI5 3 (by decide)]; exact q10, by rw [gI5 2 (by decide), gI5 3 (by decide)]; exact q11, by rw [gI5 4 (by decide)]; exact q12, by rw [gI5 4 (by decide), g5]; exact hv3, by rw [g5]; exact hv1, by rw [g5]; exact hv2⟩, ?_, heR.rfs q15 (fun r hr => absurd hr List.not_mem_nil), q16, hplx, fun k hk h9 h3 => ?_, fun k hk => ?_, ?_, ?_⟩
  · show k ∈ G' ↔ (k < n ∧ gT x5.1 k 3 = 3)
    rw [mG k]
    constructor
    · rintro ⟨h1, h2⟩
      rcases hplx k h1 with h | h
      · exact ⟨h1, by rw [h]; exact h2⟩
      · omega
    · rintro ⟨h1, h2⟩
      rcases hplx k h1 with h | h
      · exact ⟨h1, by rw [← h]; exact h2⟩
      · omega
  · rw [gI5 2 (by decide), gI5 3 (by decide)]; exact q7.eq (fun _ _ => ⟨rfl, rfl⟩)
  · rw [gI5 4 (by decide)]; exact q8.eq (fun _ _ => ⟨rfl, rfl⟩)
  · refine hcG'.eq (fun k hk => ?_)
    have h1 := q17 k (hnGY k hk)
    have h2 := hk44 k (hnGO k hk)
    exact ⟨h1.2.1.trans h2.1, h1.2.2.trans h2.2⟩
  · refine (he123.mono (by decide) (by decide) (by decide)).tr ((he4.mono (by decide) (by decide) (by decide)).tr ((q14.mono (by decide) (by decide) (by decide)).tr (heR.mono (by decide) (by decide) (by decide))))
  · have hy : k ∉ Y' := fun h => by have := ((mY k).mp h).2; omega
    show gT x5.1 k 4 = gT M k 4
    rw [(q17 k hy).2.1]
    by_cases ho : k ∈ O'
    · rw [hpin4 k ho (by rw [hT3]; exact h9), hT3]
    · exact (hk44 k ho).1
  · show gT x5.1 k 5 = gT M k 5 ∨ gT x5.1 k 5 = gT M k 6
    by_cases hy : k ∈ Y'
    · have h2 := hk44 k (hnYO k hy)
      rcases q18 k hy with h | h
      · exact Or.inl (h.2.trans h2.2)
      · exact Or.inr (h.2.trans (hT4 k 6 (by decide)))
    · rw [(q17 k hy).2.2]
      rcases hsz4 k with h | h
      · exact Or.inl (h.trans (hT3 k 5))
      · exact Or.inr (h.trans (hT3 k 6))
  · show 0 ≤ x4.2 + x5.2; omega
  · show x4.2 + x5.2 ≤ 20000; omega
