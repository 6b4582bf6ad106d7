/-! LAYER 2: what digest asks, the same in states that differ in scratch alone. -/
/-- both have an answer, and the same one -/
def Sm {α : Type} (o o' : Option α) : Prop := ∃ x, o = some x ∧ o' = some x
theorem Sm.of {α : Type} {o o' : Option α} {P : α → Prop} (h : wp o P) (e : o' = o) : Sm o o' := by
  obtain ⟨x, h1, -⟩ := h
  exact ⟨x, h1, by rw [e, h1]⟩
theorem lgap_loop {n : Nat} {M : cSt} {G : List Nat} (hR : Row M 4 G) (hl : G.length ≤ 199) (hn : ∀ k ∈ G, k < n) (hN : Nm n M) : ∀ (u v : Nat) (a e : Int), v ≤ G.length → G.length - v < u → 0 ≤ e → e ≤ 2000 →
    wp (g_Pl_largeGaps_8 n M u a e (v : Int)) (fun x => 0 ≤ x.2 ∧ x.2 ≤ 2000) := by
  intro u
  induction u with
  | zero => intro v a e _ h; omega
  | succ u ih =>
    intro v a e hv hu he1 he2
    show wp (s_Pl_largeGaps_8 (g_Pl_largeGaps_8 n M u) n M a e (v : Int)) _
    unfold s_Pl_largeGaps_8
    rw [wp_ob]
    refine wp_of (size_ok hR) ?_
    rw [wp_og, wp_og, wp_ite]
    refine ⟨⟨by omega, by omega⟩, ⟨by omega, by omega⟩, fun hlt => ?_, fun hge => wp_some.mpr ⟨he1, he2⟩⟩
    have hvl : v < G.length := by omega
    rw [wp_ob]
    refine wp_of (item_ok hR (by omega) ⟨by omega, by omega⟩) ?_
    rw [if_pos (by omega), show (v : Int).toNat = v by omega, List.getElem?_eq_getElem hvl, wp_on]
    refine ⟨fun e => (by cases e), fun q e9 => ?_⟩
    have hq : G[v] = q := Option.some.inj e9
    have hqn : q < n := by rw [← hq]; exact hn _ (List.getElem_mem hvl)
    have hNq := hN q hqn
    unfold f_Th_end
    rw [wp_og, wp_og, wp_og, wp_ite, wp_ob, wp_some, wp_ob, wp_some]
    exact ⟨hqn, ⟨by omega, by omega⟩, ⟨by omega, by omega⟩, fun _ => ih (v + 1) _ _ (by omega) (by omega) (by omega) (by omega), fun _ => ih (v + 1) _ _ (by omega) (by omega) (by omega) (by omega)⟩
theorem dcard_loop {n : Nat} {M : cSt} (hz : ∀ j, j < 20 → gZ M j = 0 ∨ gZ M j = 1) : ∀ (u v : Nat) (a : Int), v ≤ 20 → 20 - v < u → wp (g_Pl_dirtyCards_4 n M u a (v : Int)) (fun _ => True) := by
  intro u
  induction u with
  | zero => intro v a _ h; omega
  | succ u ih =>
    intro v a hv hu
    show wp (s_Pl_dirtyCards_4 (g_Pl_dirtyCards_4 n M u) n M a (v : Int)) _
    unfold s_Pl_dirtyCards_4
    rw [wp_og, wp_ite]
    refine ⟨⟨by omega, by omega⟩, fun hlt => ?_, fun hge => wp_some.mpr trivial⟩
    have h9 := hz v (by omega)
    rw [wp_og, wp_og, wp_ite, show (v : Int).toNat = v by omega]
    refine ⟨⟨by omega, by omega⟩, ?_, fun _ => ih (v + 1) _ (by omega) (by omega), fun _ => ih (v + 1) _ (by omega) (by omega)⟩
    rcases h9 with e | e <;> rw [e] <;> exact ⟨by decide, by decide⟩
theorem lgap_eq {n : Nat} {M M' : cSt} (he : TEq M M') : ∀ u, g_Pl_largeGaps_8 n M' u = g_Pl_largeGaps_8 n M u
  | 0 => rfl
  | u + 1 => by
    show s_Pl_largeGaps_8 (g_Pl_largeGaps_8 n M' u) n M' = s_Pl_largeGaps_8 (g_Pl_largeGaps_8 n M u) n M
    rw [lgap_eq he u]
    funext v1 v2 v3
    have e1 : f_Row_size n M' 4 = f_Row_size n M 4 := by
      unfold f_Row_size; rw [he.1 (10 + 4) (by decide)]
    have e2 : ∀ i, f_Row_item n M' 4 i = f_Row_item n M 4 i := fun i => by
      unfold f_Row_item; rw [he.1 (10 + 4) (by decide), he.2.2.1 4 _ (by decide)]
    have e3 : ∀ q, f_Th_end n M' q = f_Th_end n M q := fun q => by
      unfold f_Th_end; rw [he.2.1 q 4 (by decide), he.2.1 q 5 (by decide)]
    have e4 : ∀ q, gT M' q 4 = gT M q 4 := fun q => he.2.1 q 4 (by decide)
    unfold s_Pl_largeGaps_8
    simp only [e1, e2, e3, e4]
theorem dcard_eq {n : Nat} {M M' : cSt} (he : TEq M M') : ∀ u, g_Pl_dirtyCards_4 n M' u = g_Pl_dirtyCards_4 n M u
  | 0 => rfl
  | u + 1 => by
    show s_Pl_dirtyCards_4 (g_Pl_dirtyCards_4 n M' u) n M' = s_Pl_dirtyCards_4 (g_Pl_dirtyCards_4 n M u) n M
    rw [dcard_eq he u]
    funext v1 v2
    have e4 : ∀ j, gZ M' j = gZ M j := he.2.2.2.2.2
    unfold s_Pl_dirtyCards_4
    simp only [e4]
theorem greys_ok {n : Nat} {M : cSt} (h : gI M 17 = 0) : f_Mk_greys n M = some 0 := by
  unfold f_Mk_greys
  show ob (s_Mk_greys_4 (g_Mk_greys_4 n M 499) n M 0 0) (fun x11 => some x11) = some 0
  unfold s_Mk_greys_4
  rw [h, og_of ⟨by decide, by decide⟩, if_pos rfl]; rfl
theorem large_some {n : Nat} {M : cSt} (h : Inv n M) : wp (f_Pl_largeGaps n M) (fun _ => True) := by
  have hfu : fu = 500 := rfl
  have hn := h.1.1
  obtain ⟨Y, O, G, hP⟩ := h.2.2.2.1
  obtain ⟨a1, a2, a3, a4, a5, a6, a7, a8, a9, -⟩ := hP
  have lG := nodup_le n G a6 (fun k hk => ((a9 k).mp hk).1)
  unfold f_Pl_largeGaps
  rw [wp_ob]
  refine wp_mono (lgap_loop a3 (by omega) (fun k hk => ((a9 k).mp hk).1) h.2.2.2.2.1 fu 0 0 300 (Nat.zero_le _) (by rw [hfu]; omega) (by decide) (by decide)) (fun x hx => ?_)
  rw [wp_og, wp_ite, wp_some, wp_some]
  exact ⟨⟨by omega, by omega⟩, fun _ => trivial, fun _ => trivial⟩
theorem cards_some {n : Nat} {M : cSt} (h : Inv n M) : wp (f_Pl_dirtyCards n M) (fun _ => True) := by
  have hfu : fu = 500 := rfl
  unfold f_Pl_dirtyCards
  rw [wp_ob]
  refine wp_mono (dcard_loop h.2.2.2.2.2.1.1 fu 0 0 (Nat.zero_le _) (by rw [hfu]; omega)) (fun x hx => ?_)
  rw [wp_some]; trivial
theorem thN.teq {n : Nat} {M M' : cSt} (he : TEq M M') : thN n M' = thN n M := sumN_congr (fun k _ => by rw [he.2.1 k 3 (by decide)])
theorem many_sm {n : Nat} {M M' : cSt} (h : Inv n M) (h' : Inv n M') (he : TEq M M') {v : Nat} (hv : v < 16) : Sm (f_X_many n M (v : Int)) (f_X_many n M' (v : Int)) := by
  have f11 : ∀ (N : cSt), f_X_many n N 11 = some (gI N 6) := fun N => by
    unfold f_X_many
    rw [og_of ⟨by decide, by decide⟩, if_neg (by decide), if_neg (by decide), if_neg (by decide), if_neg (by decide), if_neg (by decide), if_neg (by decide), if_neg (by decide), if_neg (by decide), if_neg (by decide), if_neg (by decide), if_neg (by decide), if_pos rfl]
  have f12 : ∀ (N : cSt), f_X_many n N 12 = some (gI N 7) := fun N => by
    unfold f_X_many
    rw [og_of ⟨by decide, by decide⟩, if_neg (by decide), if_neg (by decide), if_neg (by decide), if_neg (by decide), if_neg (by decide), if_neg (by decide), if_neg (by decide), if_neg (by decide), if_neg (by decide), if_neg (by decide), if_neg (by decide), if_neg (by decide), if_pos rfl]
  have f13 : ∀ (N : cSt), f_X_many n N 13 = some (gI N 8) := fun N => by
    unfold f_X_many
    rw [og_of ⟨by decide, by decide⟩, if_neg (by decide), if_neg (by decide), if_neg (by decide), if_neg (by decide), if_neg (by decide), if_neg (by decide), if_neg (by decide), if_neg (by decide), if_neg (by decide), if_neg (by decide), if_neg (by decide), if_neg (by decide), if_neg (by decide), if_pos rfl]
  have f14 : ∀ (N : cSt), f_X_many n N 14 = some (gI N 9) := fun N => by
    unfold f_X_many
    rw [og_of ⟨by decide, by decide⟩, if_neg (by decide), if_neg (by decide), if_neg (by decide), if_neg (by decide), if_neg (by decide), if_neg (by decide), if_neg (by decide), if_neg (by decide), if_neg (by decide), if_neg (by decide), if_neg (by decide), if_neg (by decide), if_neg (by decide), if_neg (by decide), if_pos rfl]
  have f15 : ∀ (N : cSt), f_X_many n N 15 = ob (f_Mk_greys n N) (fun x25 => some x25) := fun N => by
    unfold f_X_many
    rw [og_of ⟨by decide, by decide⟩, if_neg (by decide), if_neg (by decide), if_neg (by decide), if_neg (by decide), if_neg (by decide), if_neg (by decide), if_neg (by decide), if_neg (by decide), if_neg (by decide), if_neg (by decide), if_neg (by decide), if_neg (by decide), if_neg (by decide), if_neg (by decide), if_neg (by decide), if_pos rfl]
  have f10 : ∀ (N : cSt), f_X_many n N 10 = ob (f_Row_size n N 1) (fun x19 => some x19) := fun N => by
    unfold f_X_many
    rw [og_of ⟨by decide, by decide⟩, if_neg (by decide), if_neg (by decide), if_neg (by decide), if_neg (by decide), if_neg (by decide), if_neg (by decide), if_neg (by decide), if_neg (by decide), if_neg (by decide), if_neg (by decide), if_pos rfl]
  have f9 : ∀ (N : cSt), f_X_many n N 9 = ob (f_Pl_dirtyCards n N) (fun x17 => some x17) := fun N => by
    unfold f_X_many
    rw [og_of ⟨by decide, by decide⟩, if_neg (by decide), if_neg (by decide), if_neg (by decide), if_neg (by decide), if_neg (by decide), if_neg (by decide), if_neg (by decide), if_neg (by decide), if_neg (by decide), if_pos rfl]
  have f8 : ∀ (N : cSt), f_X_many n N 8 = ob (f_Pl_largeGaps n N) (fun x15 => some x15) := fun N => by
    unfold f_X_many
    rw [og_of ⟨by decide, by decide⟩, if_neg (by decide), if_neg (by decide), if_neg (by decide), if_neg (by decide), if_neg (by decide), if_neg (by decide), if_neg (by decide), if_neg (by decide), if_pos rfl]
  have f7 : ∀ (N : cSt), f_X_many n N 7 = ob (f_Row_words n N 4) (fun x13 => some x13) := fun N => by
    unfold f_X_many
    rw [og_of ⟨by decide, by decide⟩, if_neg (by decide), if_neg (by decide), if_neg (by decide), if_neg (by decide), if_neg (by decide), if_neg (by decide), if_neg (by decide), if_pos rfl]
  have oi : ∀ {o : Option Int}, ob o (fun x => some x) = o := fun {o} => by cases o <;> rfl
  have hI : ∀ j, j ∉ [15, 18, 19] → gI M' j = gI M j := he.1
  rcases (show v = 0 ∨ v = 1 ∨ v = 2 ∨ v = 3 ∨ v = 4 ∨ v = 5 ∨ v = 6 ∨ v = 7 ∨ v = 8 ∨ v = 9 ∨ v = 10 ∨ v = 11 ∨ v = 12 ∨ v = 13 ∨ v = 14 ∨ v = 15 by omega) with e | e | e | e | e | e | e | e | e | e | e | e | e | e | e | e <;> subst e
  · exact ⟨_, many0_ok h, many0_ok h'⟩
  · exact ⟨_, many1_ok h, by rw [← thN.teq he]; exact many1_ok h'⟩
  · exact ⟨_, many2_ok n M, by rw [← hI 1 (by decide)]; exact many2_ok n M'⟩
  · exact ⟨_, many3_ok n M, by rw [← hI 3 (by decide), ← hI 2 (by decide)]; exact many3_ok n M'⟩
  · exact ⟨_, many4_ok n M, by rw [← hI 2 (by decide)]; exact many4_ok n M'⟩
  · exact ⟨_, many5_ok n M, by rw [← hI 4 (by decide)]; exact many5_ok n M'⟩
  · exact ⟨_, many6_ok n M, by rw [← hI 5 (by decide)]; exact many6_ok n M'⟩
  · have hn := h.1.1
    obtain ⟨Y, O, G, hP⟩ := h.2.2.2.1
    obtain ⟨a1, a2, a3, a4, a5, a6, a7, a8, a9, -⟩ := hP
    have lG := nodup_le n G a6 (fun k hk => ((a9 k).mp hk).1)
    have w1 := words_ok (n := n) a3 (by omega) (fun k hk => ((a9 k).mp hk).1)
    have w2 := words_ok (n := n) (he.row a3 (by decide) (by decide)) (by omega) (fun k hk => ((a9 k).mp hk).1)
    have e5 : (fun k => gT M' k 5) = (fun k => gT M k 5) := funext (fun k => he.2.1 k 5 (by decide))
    rw [e5] at w2
    exact ⟨_, ((f7 M).trans oi).trans w1, ((f7 M').trans oi).trans w2⟩
  · obtain ⟨x, hx, -⟩ := large_some h
    refine ⟨x, ((f8 M).trans oi).trans hx, ((f8 M').trans oi).trans ?_⟩
    rw [← hx]
    unfold f_Pl_largeGaps
    rw [lgap_eq he]
  · obtain ⟨x, hx, -⟩ := cards_some h
    refine ⟨x, ((f9 M).trans oi).trans hx, ((f9 M').trans oi).trans ?_⟩
    rw [← hx]
    unfold f_Pl_dirtyCards
    rw [dcard_eq he]
  · refine ⟨gI M 11, ((f10 M).trans oi).trans rfl, ((f10 M').trans oi).trans ?_⟩
    rw [← hI 11 (by decide)]; rfl
  · exact ⟨_, f11 M, by rw [← hI 6 (by decide)]; exact f11 M'⟩
  · exact ⟨_, f12 M, by rw [← hI 7 (by decide)]; exact f12 M'⟩
  · exact ⟨_, f13 M, by rw [← hI 8 (by decide)]; exact f13 M'⟩
  · exact ⟨_, f14 M, by rw [← hI 9 (by decide)]; exact f14 M'⟩
  · exact ⟨0, ((f15 M).trans oi).trans (greys_ok h.2.2.2.2.2.2.2.2.2.2.1.1), ((f15 M').trans oi).trans (greys_ok h'.2.2.2.2.2.2.2.2.2.2.1.1)⟩
