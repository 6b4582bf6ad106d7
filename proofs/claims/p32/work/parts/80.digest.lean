/-! LAYER 2: digest is the same in states that differ in scratch alone. -/
theorem dg6_loop {n : Nat} {M M' : cSt} (hm : ∀ v : Nat, v < 16 → Sm (f_X_many n M (v : Int)) (f_X_many n M' (v : Int))) : ∀ (u v : Nat) (d : Int64), v ≤ 16 → 16 - v < u → Sm (g_X_digest_6 n M u d (v : Int)) (g_X_digest_6 n M' u d (v : Int)) := by
  intro u
  induction u with
  | zero => intro v d _ h; omega
  | succ u ih =>
    intro v d hv hu
    by_cases hlt : v < 16
    · obtain ⟨x, h1, h2⟩ := hm v hlt
      obtain ⟨r, r1, r2⟩ := ih (v + 1) ((d * (31 : Int64)) + (iI x).toInt64) (by omega) (by omega)
      refine ⟨r, ?_, ?_⟩
      · show s_X_digest_6 (g_X_digest_6 n M u) n M d (v : Int) = _
        unfold s_X_digest_6
        rw [og_of ⟨by omega, by omega⟩, if_pos (by omega), ob_of h1]; exact r1
      · show s_X_digest_6 (g_X_digest_6 n M' u) n M' d (v : Int) = _
        unfold s_X_digest_6
        rw [og_of ⟨by omega, by omega⟩, if_pos (by omega), ob_of h2]; exact r2
    · refine ⟨d, ?_, ?_⟩
      · show s_X_digest_6 (g_X_digest_6 n M u) n M d (v : Int) = _
        unfold s_X_digest_6
        rw [og_of ⟨by omega, by omega⟩, if_neg (by omega)]
      · show s_X_digest_6 (g_X_digest_6 n M' u) n M' d (v : Int) = _
        unfold s_X_digest_6
        rw [og_of ⟨by omega, by omega⟩, if_neg (by omega)]
theorem dg68_loop {n : Nat} {M M' : cSt} (hm : ∀ v : Nat, v < 4 → Sm (f_X_at n M (v : Int)) (f_X_at n M' (v : Int))) : ∀ (u v : Nat) (d : Int64), v ≤ 4 → 4 - v < u → Sm (g_X_digest_68 n M u d (v : Int)) (g_X_digest_68 n M' u d (v : Int)) := by
  intro u
  induction u with
  | zero => intro v d _ h; omega
  | succ u ih =>
    intro v d hv hu
    by_cases hlt : v < 4
    · obtain ⟨x, h1, h2⟩ := hm v hlt
      obtain ⟨r, r1, r2⟩ := ih (v + 1) ((d * (31 : Int64)) + (iI x).toInt64) (by omega) (by omega)
      refine ⟨r, ?_, ?_⟩
      · show s_X_digest_68 (g_X_digest_68 n M u) n M d (v : Int) = _
        unfold s_X_digest_68
        rw [og_of ⟨by omega, by omega⟩, if_pos (by omega), ob_of h1]; exact r1
      · show s_X_digest_68 (g_X_digest_68 n M' u) n M' d (v : Int) = _
        unfold s_X_digest_68
        rw [og_of ⟨by omega, by omega⟩, if_pos (by omega), ob_of h2]; exact r2
    · refine ⟨d, ?_, ?_⟩
      · show s_X_digest_68 (g_X_digest_68 n M u) n M d (v : Int) = _
        unfold s_X_digest_68
        rw [og_of ⟨by omega, by omega⟩, if_neg (by omega)]
      · show s_X_digest_68 (g_X_digest_68 n M' u) n M' d (v : Int) = _
        unfold s_X_digest_68
        rw [og_of ⟨by omega, by omega⟩, if_neg (by omega)]
theorem queue_ok {n : Nat} {M : cSt} {Q : List Nat} (hQ : Row M 1 Q) (hl : Q.length ≤ 199) {v : Nat} (hv : v < Q.length) (hn : Q[v] < n) : f_X_queue n M (v : Int) = some (gT M Q[v] 0) := by
  unfold f_X_queue
  rw [ob_of (item_ok hQ (by omega) ⟨by omega, by omega⟩), if_pos (by omega), show (v : Int).toNat = v by omega, List.getElem?_eq_getElem hv, on_of rfl, og_of hn]
theorem dg33_loop {n : Nat} {M M' : cSt} {Q : List Nat} (hQ : Row M 1 Q) (hQ' : Row M' 1 Q) (hl : Q.length ≤ 199) (hm : ∀ v : Nat, v < Q.length → Sm (f_X_queue n M (v : Int)) (f_X_queue n M' (v : Int))) : ∀ (u v : Nat) (d : Int64), v ≤ Q.length → Q.length - v < u → Sm (g_X_digest_33 n M u d (v : Int)) (g_X_digest_33 n M' u d (v : Int)) := by
  intro u
  induction u with
  | zero => intro v d _ h; omega
  | succ u ih =>
    intro v d hv hu
    by_cases hlt : v < Q.length
    · obtain ⟨x, h1, h2⟩ := hm v hlt
      obtain ⟨r, r1, r2⟩ := ih (v + 1) ((d * (31 : Int64)) + (iI x).toInt64) (by omega) (by omega)
      refine ⟨r, ?_, ?_⟩
      · show s_X_digest_33 (g_X_digest_33 n M u) n M d (v : Int) = _
        unfold s_X_digest_33
        rw [ob_of (size_ok hQ), og_of ⟨by omega, by omega⟩, og_of ⟨by omega, by omega⟩, if_pos (by omega), ob_of h1]; exact r1
      · show s_X_digest_33 (g_X_digest_33 n M' u) n M' d (v : Int) = _
        unfold s_X_digest_33
        rw [ob_of (size_ok hQ'), og_of ⟨by omega, by omega⟩, og_of ⟨by omega, by omega⟩, if_pos (by omega), ob_of h2]; exact r2
    · refine ⟨d, ?_, ?_⟩
      · show s_X_digest_33 (g_X_digest_33 n M u) n M d (v : Int) = _
        unfold s_X_digest_33
        rw [ob_of (size_ok hQ), og_of ⟨by omega, by omega⟩, og_of ⟨by omega, by omega⟩, if_neg (by omega)]
      · show s_X_digest_33 (g_X_digest_33 n M' u) n M' d (v : Int) = _
        unfold s_X_digest_33
        rw [ob_of (size_ok hQ'), og_of ⟨by omega, by omega⟩, og_of ⟨by omega, by omega⟩, if_neg (by omega)]
theorem do16_step {n k : Nat} {M : cSt} {a : Int} (h : Inv n M) (hk : k < n) (u v : Nat) (d : Int64) (hv : v < 8) : g_X_digestOf_16 n M (some k) a (u + 1) d (v : Int) = g_X_digestOf_16 n M (some k) a u ((d * (31 : Int64)) + (iI (oO M k (v : Int))).toInt64) ((v + 1 : Nat) : Int) := by
  show s_X_digestOf_16 (g_X_digestOf_16 n M (some k) a u) n M (some k) a d (v : Int) = _
  unfold s_X_digestOf_16
  rw [og_of ⟨by omega, by omega⟩, if_pos (by omega), on_of rfl, og_of hk, h.num hk, ob_of (of_ok h hk (by omega) (by omega))]
  rfl
theorem do16_loop {n k : Nat} {M M' : cSt} {a : Int} (h : Inv n M) (h' : Inv n M') (he : TEq M M') (hk : k < n) : ∀ (u v : Nat) (d : Int64), v ≤ 8 → 8 - v < u → Sm (g_X_digestOf_16 n M (some k) a u d (v : Int)) (g_X_digestOf_16 n M' (some k) a u d (v : Int)) := by
  intro u
  induction u with
  | zero => intro v d _ h; omega
  | succ u ih =>
    intro v d hv hu
    by_cases hlt : v < 8
    · rw [do16_step h hk u v d hlt, do16_step h' hk u v d hlt, oO.teq he]
      exact ih (v + 1) _ (by omega) (by omega)
    · refine ⟨d, ?_, ?_⟩
      · show s_X_digestOf_16 (g_X_digestOf_16 n M (some k) a u) n M (some k) a d (v : Int) = _
        unfold s_X_digestOf_16
        rw [og_of ⟨by omega, by omega⟩, if_neg (by omega)]
      · show s_X_digestOf_16 (g_X_digestOf_16 n M' (some k) a u) n M' (some k) a d (v : Int) = _
        unfold s_X_digestOf_16
        rw [og_of ⟨by omega, by omega⟩, if_neg (by omega)]
theorem do52_step {n k : Nat} {M : cSt} {a : Int} (h : Inv n M) (hk : k < n) (u v : Nat) (d : Int64) (hv : v < gL M k) : g_X_digestOf_52 n M (some k) a (u + 1) d (v : Int) = g_X_digestOf_52 n M (some k) a u ((d * (31 : Int64)) + (iI (nO (gF M k v))).toInt64) ((v + 1 : Nat) : Int) := by
  have hb := h.fl hk
  show s_X_digestOf_52 (g_X_digestOf_52 n M (some k) a u) n M (some k) a d (v : Int) = _
  unfold s_X_digestOf_52
  rw [on_of rfl, og_of hk, og_of (by omega), og_of ⟨by omega, by omega⟩, og_of ⟨by omega, by omega⟩, if_pos (by omega), ob_of (readF_ok hb.2 hv), ob_of (numO_ok (n := n) (fun q hq => h.fN q hq))]
  rfl
theorem do52_loop {n k : Nat} {M M' : cSt} {a : Int} (h : Inv n M) (h' : Inv n M') (he : TEq M M') (hk : k < n) : ∀ (u v : Nat) (d : Int64), v ≤ gL M k → gL M k - v < u → Sm (g_X_digestOf_52 n M (some k) a u d (v : Int)) (g_X_digestOf_52 n M' (some k) a u d (v : Int)) := by
  have hb := h.fl hk
  have eL : gL M' k = gL M k := he.2.2.2.1 k
  intro u
  induction u with
  | zero => intro v d _ h; omega
  | succ u ih =>
    intro v d hv hu
    by_cases hlt : v < gL M k
    · rw [do52_step h hk u v d hlt, do52_step h' hk u v d (by omega), he.2.2.2.2.1 k v]
      exact ih (v + 1) _ (by omega) (by omega)
    · refine ⟨d, ?_, ?_⟩
      · show s_X_digestOf_52 (g_X_digestOf_52 n M (some k) a u) n M (some k) a d (v : Int) = _
        unfold s_X_digestOf_52
        rw [on_of rfl, og_of hk, og_of (by omega), og_of ⟨by omega, by omega⟩, og_of ⟨by omega, by omega⟩, if_neg (by omega)]
      · show s_X_digestOf_52 (g_X_digestOf_52 n M' (some k) a u) n M' (some k) a d (v : Int) = _
        unfold s_X_digestOf_52
        rw [on_of rfl, og_of hk, eL, og_of (by omega), og_of ⟨by omega, by omega⟩, og_of ⟨by omega, by omega⟩, if_neg (by omega)]
theorem freedI_ok {n : Nat} {M : cSt} (h : Inv n M) {t : Option Nat} (ht : ∀ k, t = some k → k < n) : ∃ M1, f_Tr_wordsFreed n M 1 t = some (M1, wFr M n 1 t) ∧ Inv n M1 ∧ TEq M M1 := by
  obtain ⟨x, h1, h2, h3, h4⟩ := freed_ok h.1 (Or.inr rfl) ht
  exact ⟨x.1, by rw [h1, ← h4], h.teq h3 h2.2.2.1, h3⟩
/-- both runs of a writer: the same number, states that differ in scratch alone -/
def Sw2 (n : Nat) (M M' : cSt) (o o' : Option (cSt × Int64)) : Prop := ∃ M1 M2 r, o = some (M1, r) ∧ o' = some (M2, r) ∧ Inv n M1 ∧ Inv n M2 ∧ TEq M M1 ∧ TEq M' M2
theorem dof_ok {n k : Nat} {M M' : cSt} (h : Inv n M) (h' : Inv n M') (he : TEq M M') (hk : k < n) (d : Int64) (a : Int) : Sw2 n M M' (f_X_digestOf n M (some k) d a) (f_X_digestOf n M' (some k) d a) := by
  have hfu : fu = 500 := rfl
  have hb := h.fl hk
  obtain ⟨r1, a1, b1⟩ := do16_loop (a := a) h h' he hk fu 0 ((d * (31 : Int64)) + (iI (k : Int)).toInt64) (by omega) (by rw [hfu]; omega)
  obtain ⟨r2, a2, b2⟩ := do52_loop (a := a) h h' he hk fu 0 r1 (by omega) (by rw [hfu]; omega)
  obtain ⟨x, hx, hxI, hxe, hxr⟩ := xreach_ok h hk
  obtain ⟨x', hx', hxI', hxe', hxr'⟩ := xreach_ok h' hk
  obtain ⟨N, hN, hNI, hNe⟩ := freedI_ok hxI (t := some k) (fun q hq => by cases hq; exact hk)
  obtain ⟨N', hN', hNI', hNe'⟩ := freedI_ok hxI' (t := some k) (fun q hq => by cases hq; exact hk)
  have hr := (rcN_rng M n k).1
  have hw : wFr x'.1 n 1 (some k) = wFr x.1 n 1 (some k) := by
    rw [wFr.teq hxe', wFr.teq hxe, wFr.teq he]
  rw [rcN.teq he] at hxr'
  have one : ∀ {Ma : cSt} {y : cSt × Int} {Nb : cSt}, Inv n Ma → g_X_digestOf_16 n Ma (some k) a fu ((d * (31 : Int64)) + (iI (k : Int)).toInt64) 0 = some r1 → g_X_digestOf_52 n Ma (some k) a fu r1 0 = some r2 → f_X_isReachable n Ma (k : Int) = some y → y.2 = rcN M n k → f_Tr_wordsFreed n y.1 1 (some k) = some (Nb, wFr x.1 n 1 (some k)) →
      f_X_digestOf n Ma (some k) d a = some (Nb, (((((r2 * (31 : Int64)) + (iI (rcN M n k)).toInt64) * (31 : Int64)) + (iI (wFr x.1 n 1 (some k) - a)).toInt64))) := fun {Ma y Nb} hMa c1 c2 c3 c4 c5 => by
    unfold f_X_digestOf
    rw [on_of rfl, og_of hk, hMa.num hk, ob_of c1, ob_of c2, ob_of c3, c4]
    rcases hr with e | e
    · rw [e, og_of ⟨by decide, by decide⟩, if_pos rfl, ob_of c5]
    · rw [e, og_of ⟨by decide, by decide⟩, if_neg (by decide), ob_of c5]
  exact ⟨N, N', _, one h a1 a2 hx hxr hN, one h' b1 b2 hx' hxr' (by rw [← hw]; exact hN'), hNI, hNI', hxe.tr hNe, hxe'.tr hNe'⟩
theorem all_it {n : Nat} {M : cSt} (h : Inv n M) {v : Nat} (hv : v < n) : f_Row_item n M 0 (v : Int) = some (some v) := by
  have hn := h.1.1
  rw [item_ok h.1.2.1 (by rw [List.length_range]; omega) ⟨by omega, by omega⟩, if_pos (by omega), show (v : Int).toNat = v by omega, List.getElem?_range hv]
theorem all_sz {n : Nat} {M : cSt} (h : Inv n M) : f_Row_size n M 0 = some (n : Int) := by
  rw [size_ok h.1.2.1, List.length_range]
theorem dg101_loop {n : Nat} {a : Int} : ∀ (u v : Nat) (M M' : cSt) (d : Int64), Inv n M → Inv n M' → TEq M M' → v ≤ n → n - v < u → Sw2 n M M' (g_X_digest_101 n a u M d (v : Int)) (g_X_digest_101 n a u M' d (v : Int)) := by
  intro u
  induction u with
  | zero => intro v M M' d _ _ _ _ h; omega
  | succ u ih =>
    intro v M M' d h h' he hv hu
    have hn := h.1.1
    by_cases hlt : v < n
    · have e3 : gT M' v 3 = gT M v 3 := he.2.1 v 3 (by decide)
      have hz := h.sz hlt
      have st : ∀ {N : cSt}, Inv n N → g_X_digest_101 n a (u + 1) N d (v : Int) = (if gT N v 3 = 0 then g_X_digest_101 n a u N d ((v + 1 : Nat) : Int) else ob (f_X_digestOf n N (some v) d a) (fun x24 => g_X_digest_101 n a u x24.1 x24.2 ((v + 1 : Nat) : Int))) := fun {N} hN => by
        have hzN := hN.sz hlt
        show s_X_digest_101 (g_X_digest_101 n a u) n a N d (v : Int) = _
        unfold s_X_digest_101
        rw [ob_of (all_sz hN), og_of ⟨by omega, by omega⟩, og_of ⟨by omega, by omega⟩, if_pos (by omega), ob_of (all_it hN hlt), on_of rfl, og_of hlt, og_of ⟨by omega, by omega⟩]
        rfl
      rw [st h, st h', e3]
      by_cases h0 : gT M v 3 = 0
      · rw [if_pos h0, if_pos h0]
        exact ih (v + 1) M M' d h h' he (by omega) (by omega)
      · rw [if_neg h0, if_neg h0]
        obtain ⟨N, N', r, c1, c2, c3, c4, c5, c6⟩ := dof_ok h h' he hlt d a
        rw [ob_of c1, ob_of c2]
        obtain ⟨P, P', q, d1, d2, d3, d4, d5, d6⟩ := ih (v + 1) N N' r c3 c4 (c5.symm.tr (he.tr c6)) (by omega) (by omega)
        exact ⟨P, P', q, d1, d2, d3, d4, c5.tr d5, c6.tr d6⟩
    · refine ⟨M, M', d, ?_, ?_, h, h', Eqx.rf _ _ _ M, Eqx.rf _ _ _ M'⟩
      · show s_X_digest_101 (g_X_digest_101 n a u) n a M d (v : Int) = _
        unfold s_X_digest_101
        rw [ob_of (all_sz h), og_of ⟨by omega, by omega⟩, og_of ⟨by omega, by omega⟩, if_neg (by omega)]
      · show s_X_digest_101 (g_X_digest_101 n a u) n a M' d (v : Int) = _
        unfold s_X_digest_101
        rw [ob_of (all_sz h'), og_of ⟨by omega, by omega⟩, og_of ⟨by omega, by omega⟩, if_neg (by omega)]
theorem addr4_sm {n : Nat} {M M' : cSt} (h : Inv n M) (he : TEq M M') : Sm (f_X_addressFor n M 4) (f_X_addressFor n M' 4) := by
  have e : f_X_addressFor n M' 4 = f_X_addressFor n M 4 := by
    unfold f_X_addressFor f_Pl_gapFor
    rw [if_pos (by decide : (4 : Int) < 12), if_pos (by decide : (4 : Int) < 12), he.1 3 (by decide), he.1 2 (by decide)]
  refine Sm.of (P := fun _ => True) ?_ e
  unfold f_X_addressFor
  rw [wp_og, wp_ite]
  refine ⟨⟨by decide, by decide⟩, fun h9 => absurd h9 (by decide), fun _ => ?_⟩
  rw [wp_ite]
  refine ⟨fun h9 => absurd h9 (by decide), fun _ => ?_⟩
  rw [wp_ob]
  exact wp_mono (gap_ok h ⟨by decide, by decide⟩) (fun x _ => wp_some.mpr trivial)
theorem wouldI_ok {n : Nat} {M : cSt} (h : Inv n M) {s : Int} (hs : s = 0 ∨ s = 1) : ∃ M1, f_X_wouldFree n M s = some (M1, wFr M n s none) ∧ Inv n M1 ∧ TEq M M1 := by
  obtain ⟨x, h1, h2, h3, h4⟩ := xwould_ok h hs
  exact ⟨x.1, by rw [h1, ← h4], h2, h3⟩
theorem digest_ok {n : Nat} {M M' : cSt} (h : Inv n M) (h' : Inv n M') (he : TEq M M') : Sw2 n M M' (f_X_digest n M) (f_X_digest n M') := by
  have hfu : fu = 500 := rfl
  have hn := h.1.1
  obtain ⟨r1, a1, b1⟩ := dg6_loop (fun v hv => many_sm h h' he hv) fu 0 (58130 : Int64) (by omega) (by rw [hfu]; omega)
  obtain ⟨Q, hQ1, hQ2, hQ3⟩ := h.2.2.1
  have hQ' : Row M' 1 Q := he.row hQ1 (by decide) (by decide)
  have hQl := nodup_le n Q hQ2 (fun k hk => (hQ3 k hk).1)
  obtain ⟨r2, a2, b2⟩ := dg33_loop (n := n) hQ1 hQ' (by omega) (fun v hv => by
    have hqn := (hQ3 _ (List.getElem_mem hv)).1
    refine ⟨gT M Q[v] 0, queue_ok hQ1 (by omega) hv hqn, ?_⟩
    rw [queue_ok hQ' (by omega) hv hqn, he.2.1 _ 0 (by decide)]) fu 0 r1 (by omega) (by rw [hfu]; omega)
  obtain ⟨r3, a3, b3⟩ := dg68_loop (n := n) (M := M) (M' := M') (fun v hv => by
    refine ⟨nO (sl M (v : Int)), at_ok h (by omega) (by omega), ?_⟩
    have e : sl M' (v : Int) = sl M (v : Int) := by
      unfold sl; rw [he.1 1 (by decide), he.2.2.1 7 _ (by decide)]
    rw [at_ok h' (by omega) (by omega), e]) fu 0 r2 (by omega) (by rw [hfu]; omega)
  obtain ⟨N, c1, c2, c3⟩ := wouldI_ok h (Or.inr rfl)
  obtain ⟨N', c1', c2', c3'⟩ := wouldI_ok h' (Or.inr rfl)
  rw [wFr.teq he] at c1'
  have heN : TEq N N' := c3.symm.tr (he.tr c3')
  obtain ⟨P, P', r4, d1, d2, d3, d4, d5, d6⟩ := dg101_loop (a := wFr M n 1 none) fu 0 N N' r3 c2 c2' heN (Nat.zero_le _) (by rw [hfu]; omega)
  have heP : TEq P P' := d5.symm.tr (heN.tr d6)
  obtain ⟨S, e1, e2, e3⟩ := wouldI_ok d3 (Or.inl rfl)
  obtain ⟨S', e1', e2', e3'⟩ := wouldI_ok d4 (Or.inl rfl)
  rw [wFr.teq heP] at e1'
  have heS : TEq S S' := e3.symm.tr (heP.tr e3')
  obtain ⟨r5, f1, f2⟩ := addr4_sm e2 heS
  rw [show ((0 : Nat) : Int) = 0 from rfl] at a1 b1 a2 b2 a3 b3 d1 d2
  refine ⟨S, S', ((((((r4 * (31 : Int64)) + (iI (wFr M n 1 none)).toInt64) * (31 : Int64)) + (iI (wFr P n 0 none)).toInt64) * (31 : Int64)) + (iI r5).toInt64), ?_, ?_, e2, e2', c3.tr (d5.tr e3), c3'.tr (d6.tr e3')⟩
  · unfold f_X_digest
    rw [ob_of a1, ob_of a2, ob_of a3, ob_of c1, ob_of d1, ob_of e1, ob_of f1]
  · unfold f_X_digest
    rw [ob_of b1, ob_of b2, ob_of b3, ob_of c1', ob_of d2, ob_of e1', ob_of f2]
