/-! LAYER 2: what the law says of every state: areFieldsSound, isSound. -/
theorem many2_ok (n : Nat) (M : cSt) : f_X_many n M 2 = some (gI M 1) := by
  unfold f_X_many
  rw [og_of ⟨by decide, by decide⟩, if_neg (by decide), if_neg (by decide), if_pos rfl]; rfl
theorem many3_ok (n : Nat) (M : cSt) : f_X_many n M 3 = some (gI M 3 - gI M 2) := by
  unfold f_X_many
  rw [og_of ⟨by decide, by decide⟩, if_neg (by decide), if_neg (by decide), if_neg (by decide), if_pos rfl]
theorem many4_ok (n : Nat) (M : cSt) : f_X_many n M 4 = some (gI M 2) := by
  unfold f_X_many
  rw [og_of ⟨by decide, by decide⟩, if_neg (by decide), if_neg (by decide), if_neg (by decide), if_neg (by decide), if_pos rfl]
theorem many5_ok (n : Nat) (M : cSt) : f_X_many n M 5 = some (gI M 4 - 100) := by
  unfold f_X_many
  rw [og_of ⟨by decide, by decide⟩, if_neg (by decide), if_neg (by decide), if_neg (by decide), if_neg (by decide), if_neg (by decide), if_pos rfl]
theorem many6_ok (n : Nat) (M : cSt) : f_X_many n M 6 = some (gI M 5) := by
  unfold f_X_many
  rw [og_of ⟨by decide, by decide⟩, if_neg (by decide), if_neg (by decide), if_neg (by decide), if_neg (by decide), if_neg (by decide), if_neg (by decide), if_pos rfl]
theorem oO1 {M : cSt} {k : Nat} (h : gT M k 3 ≠ 0) : oO M k 1 = gT M k 4 := by
  unfold oO; rw [if_neg (by decide), if_neg h, if_pos rfl]
theorem oO2 {M : cSt} {k : Nat} (h : gT M k 3 ≠ 0) : oO M k 2 = gT M k 5 := by
  unfold oO; rw [if_neg (by decide), if_neg h, if_neg (by decide), if_pos rfl]
theorem oO4 {M : cSt} {k : Nat} (h : gT M k 3 ≠ 0) : oO M k 4 = gT M k 8 := by
  unfold oO; rw [if_neg (by decide), if_neg h, if_neg (by decide), if_neg (by decide), if_neg (by decide), if_pos rfl]
theorem xdirty_ok {n : Nat} {M : cSt} {c : Int} (h0 : 0 ≤ c) (h1 : c < 20) (hz : gZ M c.toNat = 0 ∨ gZ M c.toNat = 1) : f_X_isDirty n M c = some (gZ M c.toNat) := by
  refine wp_eq ?_
  unfold f_X_isDirty
  rw [wp_og, wp_ite]
  refine ⟨⟨by omega, by omega⟩, fun h9 => absurd h9 (by omega), fun _ => ?_⟩
  rw [wp_ite]
  refine ⟨fun _ => ?_, fun h9 => absurd h1 h9⟩
  rw [wp_ob]
  refine wp_of (dirty_ok h0 h1 hz) ?_
  rw [wp_og, wp_some]
  rcases hz with e | e
  · rw [e]; exact ⟨Or.inl rfl, rfl⟩
  · rw [e]; exact ⟨Or.inr rfl, rfl⟩
/-- sizes are small -/
theorem Inv.sz {n : Nat} {M : cSt} (h : Inv n M) {k : Nat} (hk : k < n) : 4 ≤ gT M k 5 ∧ gT M k 5 ≤ 25 ∧ 0 ≤ gT M k 4 ∧ gT M k 4 ≤ 1000 ∧ -1 ≤ gT M k 8 ∧ gT M k 8 ≤ 1000 ∧ 0 ≤ gT M k 3 ∧ gT M k 3 ≤ 3 := by
  have h1 := h.2.2.2.2.1 k hk
  have h2 := h.2.2.2.2.2.2.2.2.2.1 k hk
  have h3 := h.1.2.2.2.2.2.2.2.2.1 k hk
  omega
theorem af_loop {n k : Nat} {M : cSt} (h : Inv n M) (hk : k < n) (h0 : gT M k 3 ≠ 0) : ∀ (u v : Nat), (v : Int) ≤ gT M k 5 - 2 → gT M k 5 - 2 - v < u →
    wp (g_Law_areFieldsSound_12 n M (k : Int) (gT M k 3) (gT M k 5 - 2) u (v : Int)) (fun o => o = .inl () ∨ o = .inr 1) := by
  intro u
  induction u with
  | zero => intro v hv hu; omega
  | succ u ih =>
    intro v hv hu
    have hz := h.sz hk
    have hfl := h.fl hk
    have hS := h.2.2.2.2.2.2.2.2.2.1 k hk
    show wp (s_Law_areFieldsSound_12 (g_Law_areFieldsSound_12 n M (k : Int) (gT M k 3) (gT M k 5 - 2) u) n M (k : Int) (gT M k 3) (gT M k 5 - 2) (v : Int)) _
    unfold s_Law_areFieldsSound_12
    rw [wp_og, wp_og, wp_ite]
    refine ⟨⟨by omega, by omega⟩, ⟨by omega, by omega⟩, fun hlt => ?_, fun hge => ?_⟩
    · have next : ∀ (_ : Unit), wp (g_Law_areFieldsSound_12 n M (k : Int) (gT M k 3) (gT M k 5 - 2) u ((v : Int) + 1)) (fun o => o = .inl () ∨ o = .inr 1) := fun _ => ih (v + 1) (by omega) (by omega)
      by_cases hj : v < gL M k
      · rw [wp_oe]
        refine ⟨fun e => (by rw [eF_none h hk hj] at e; cases e), fun _ => ?_⟩
        rw [wp_ob]
        refine wp_of (field_ok h hk hj) ?_
        cases hq : gF M k v with
        | none =>
          rw [wp_og, wp_ite]
          exact ⟨⟨by decide, by decide⟩, fun _ => next (), fun h9 => absurd (show nO none < 0 by decide) h9⟩
        | some q =>
          have hqn := (h.fN q hq).1
          have hr := h.2.1.1 k hk v q hj hq
          have hqz := h.sz hqn
          have hn := h.1.1
          show wp (og (inR (q : Int)) _) _
          rw [wp_og, wp_ite]
          refine ⟨⟨by omega, by omega⟩, fun h9 => absurd (show (q : Int) < 0 from h9) (by omega), fun _ => ?_⟩
          rw [wp_ob]
          refine wp_of (of_ok h hqn (by decide) (by decide)) ?_
          have ho : oO M q 0 = gT M q 3 := rfl
          rw [ho, wp_og, wp_ite]
          refine ⟨⟨by omega, by omega⟩, fun h9 => absurd h9 hr.2, fun _ => ?_⟩
          rw [wp_og, wp_ite]
          refine ⟨⟨by omega, by omega⟩, fun h1 => ?_, fun _ => next ()⟩
          rw [wp_ite]
          refine ⟨fun h2 => ?_, fun _ => next ()⟩
          have hp : gT M k 3 = 2 ∨ gT M k 3 = 3 := by omega
          have had := h.ad hk hp
          have hcr := crd_rng had.1 had.2
          have hC := h.2.2.2.2.2.1
          have hz1 : gZ M (crd M k) = 1 := hC.2 k hk hp ⟨v, q, hj, hq, h2⟩
          rw [wp_ob]
          refine wp_of (of_ok h hk (by decide) (by decide)) ?_
          rw [oO1 h0, wp_og, wp_ob]
          refine ⟨⟨by omega, by omega⟩, ?_⟩
          refine wp_of (xdirty_ok hcr.1 hcr.2 (Or.inr hz1)) ?_
          have e1 : gZ M (Int.tdiv (gT M k 4 - 100) 16).toNat = 1 := hz1
          rw [e1, wp_og, wp_ite]
          exact ⟨⟨by decide, by decide⟩, fun h9 => absurd h9 (by decide), fun _ => next ()⟩
      · have hv2 : v = gL M k := by omega
        rw [wp_oe]
        refine ⟨fun _ => ?_, fun e => (by rw [eF_some h hk (by omega) (by omega)] at e; cases e)⟩
        rw [wp_og, wp_ite]
        refine ⟨⟨by omega, by omega⟩, fun _ => ?_, fun h9 => absurd (show (v : Int) = gT M k 5 - 2 - 1 by omega) h9⟩
        rw [wp_ob]
        refine wp_of (of_ok h hk (by decide) (by decide)) ?_
        rw [oO4 h0, wp_og, wp_ite]
        refine ⟨⟨by omega, by omega⟩, fun h9 => absurd h9 (by omega), fun _ => ?_⟩
        rw [wp_some]; exact Or.inr rfl
    · rw [wp_some]; exact Or.inl rfl
theorem af_ok {n k : Nat} {M : cSt} (h : Inv n M) (hk : k < n) (h0 : gT M k 3 ≠ 0) : f_Law_areFieldsSound n M (k : Int) (gT M k 3) = some 1 := by
  have hfu : fu = 500 := rfl
  have hz := h.sz hk
  refine wp_eq ?_
  unfold f_Law_areFieldsSound
  rw [wp_ob]
  refine wp_of (of_ok h hk (by decide) (by decide)) ?_
  rw [oO2 h0, wp_ob]
  refine wp_mono (af_loop h hk h0 fu 0 (by omega) (by rw [hfu]; omega)) (fun o ho => ?_)
  rw [wp_os]
  refine ⟨fun y _ => wp_some.mpr rfl, fun y e => ?_⟩
  rcases ho with e' | e'
  · rw [e] at e'; cases e'
  · rw [e] at e'; cases e'; rfl
/-- words that are taken belong to those seen so far -/
def OwnP (M : cSt) (k : Nat) (f : Nat → Int) : Prop := (∀ x, inR (f x)) ∧ ∀ x : Nat, 0 < f x → ∃ j, j < k ∧ gT M j 3 ≠ 0 ∧ gT M j 4 ≤ (x : Int) ∧ (x : Int) < gT M j 4 + gT M j 5
theorem own_loop {n : Nat} {M : cSt} {a b p t : Int} {nx0 nx1 nx2 : Nat} {f1 f2 : Nat → Int} (e0 : nx0 = 420) (ht : t ≤ 420) (hb : 0 ≤ b ∧ b ≤ 1000) : ∀ (u : Nat) (w : Int) (f : Nat → Int), 0 ≤ w → w ≤ t → t - w < u → (∀ x : Nat, w ≤ (x : Int) → (x : Int) < t → ¬ 0 < f x) → (∀ x, inR (f x)) →
    wp (g_Law_isSound_199 n M a b p t nx0 nx1 f1 nx2 f2 u w f) (fun o => ∃ f', o = .inl f' ∧ (∀ x, inR (f' x)) ∧ ∀ x : Nat, 0 < f' x → 0 < f x ∨ (w ≤ (x : Int) ∧ (x : Int) < t)) := by
  subst e0
  intro u
  induction u with
  | zero => intro w f h0 h1 hu; omega
  | succ u ih =>
    intro w f h0 h1 hu hf hr
    show wp (s_Law_isSound_199 (g_Law_isSound_199 n M a b p t 420 nx1 f1 nx2 f2 u) n M a b p t 420 nx1 f1 nx2 f2 w f) _
    unfold s_Law_isSound_199
    rw [wp_og, wp_og, wp_ite]
    refine ⟨⟨by omega, by omega⟩, ⟨by omega, by omega⟩, fun hlt => ?_, fun hge => ?_⟩
    · rw [wp_og, wp_og, wp_og, wp_ite]
      refine ⟨by decide, ⟨h0, by omega⟩, hr _, fun h9 => absurd h9 (hf w.toNat (by omega) (by omega)), fun _ => ?_⟩
      have hup : ∀ x, va_up f w.toNat (b + 1) x = if x = w.toNat then b + 1 else f x := fun x => rfl
      refine wp_mono (ih (w + 1) (va_up f w.toNat (b + 1)) (by omega) (by omega) (by omega) (fun x hx1 hx2 => ?_) (fun x => ?_)) (fun o ho => ?_)
      · rw [hup, if_neg (by omega)]; exact hf x (by omega) hx2
      · rw [hup]
        split
        · exact ⟨by omega, by omega⟩
        · exact hr x
      · obtain ⟨f', e, h2, h3⟩ := ho
        refine ⟨f', e, h2, fun x hx => ?_⟩
        rcases h3 x hx with h4 | h4
        · rw [hup] at h4
          by_cases hxw : x = w.toNat
          · exact Or.inr ⟨by omega, by omega⟩
          · rw [if_neg hxw] at h4; exact Or.inl h4
        · exact Or.inr ⟨by omega, h4.2⟩
    · rw [wp_some]
      exact ⟨f, rfl, hr, fun x hx => Or.inl hx⟩
theorem pw_or {R : Nat → Nat → Prop} : ∀ {l : List Nat}, l.Pairwise R → ∀ {x y}, x ∈ l → y ∈ l → x ≠ y → R x y ∨ R y x
  | [], _, _, _, hx, _, _ => absurd hx List.not_mem_nil
  | a :: l, h, x, y, hx, hy, hne => by
    have h2 := List.pairwise_cons.mp h
    rcases List.mem_cons.mp hx with e | e <;> rcases List.mem_cons.mp hy with e' | e'
    · exact absurd (e.trans e'.symm) hne
    · rw [e]; exact Or.inl (h2.1 y e')
    · rw [e']; exact Or.inr (h2.1 x e)
    · exact pw_or h2.2 e e' hne
/-- where things are -/
theorem Inv.reg {n : Nat} {M : cSt} (h : Inv n M) {k : Nat} (hk : k < n) (h0 : gT M k 3 ≠ 0) : (gT M k 3 = 1 ∧ gI M 2 ≤ gT M k 4 ∧ gT M k 4 + gT M k 5 ≤ gI M 3 ∧ 0 ≤ gI M 2 ∧ gI M 3 ≤ 80) ∨ (gT M k 3 = 2 ∧ 100 ≤ gT M k 4 ∧ gT M k 4 + gT M k 5 ≤ gI M 4 ∧ gI M 4 ≤ 280) ∨ (gT M k 3 = 3 ∧ 300 ≤ gT M k 4 ∧ gT M k 4 + gT M k 5 ≤ 420) := by
  have hz := h.sz hk
  obtain ⟨Y, O, G, hP⟩ := h.2.2.2.1
  obtain ⟨a1, a2, a3, a4, a5, a6, a7, a8, a9, b1, b2, b3, b4, b5, b6, b7, b8, b9, b10⟩ := hP
  rcases (show gT M k 3 = 1 ∨ gT M k 3 = 2 ∨ gT M k 3 = 3 by omega) with e | e | e
  · have := b1.2 k ((a7 k).mpr ⟨hk, e⟩); exact Or.inl ⟨e, this.1, this.2, by omega, by omega⟩
  · have := b2.2 k ((a8 k).mpr ⟨hk, e⟩); exact Or.inr (Or.inl ⟨e, this.1, this.2, by omega⟩)
  · have := b3.2 k ((a9 k).mpr ⟨hk, e⟩); exact Or.inr (Or.inr ⟨e, this.1, this.2⟩)
theorem Inv.disj {n : Nat} {M : cSt} (h : Inv n M) {k q : Nat} (hk : k < n) (hq : q < n) (hne : k ≠ q) (hk0 : gT M k 3 ≠ 0) (hq0 : gT M q 3 ≠ 0) : gT M k 4 + gT M k 5 ≤ gT M q 4 ∨ gT M q 4 + gT M q 5 ≤ gT M k 4 := by
  have rk := h.reg hk hk0
  have rq := h.reg hq hq0
  obtain ⟨Y, O, G, hP⟩ := h.2.2.2.1
  obtain ⟨a1, a2, a3, a4, a5, a6, a7, a8, a9, b1, b2, b3, b4, b5, b6, b7, b8, b9, b10⟩ := hP
  by_cases e : gT M k 3 = gT M q 3
  · rcases rk with ⟨e1, -⟩ | ⟨e1, -⟩ | ⟨e1, -⟩
    · exact pw_or b1.1 ((a7 k).mpr ⟨hk, e1⟩) ((a7 q).mpr ⟨hq, by rw [← e]; exact e1⟩) hne
    · exact pw_or b2.1 ((a8 k).mpr ⟨hk, e1⟩) ((a8 q).mpr ⟨hq, by rw [← e]; exact e1⟩) hne
    · exact pw_or b3.1 ((a9 k).mpr ⟨hk, e1⟩) ((a9 q).mpr ⟨hq, by rw [← e]; exact e1⟩) hne
  · omega
theorem sndTail {n k nx0 nx1 nx2 : Nat} {M : cSt} {H P f0 : Nat → Int} (h : Inv n M) (hk : k < n) (h0 : gT M k 3 ≠ 0) (e0 : nx0 = 420) (e1 : nx1 = 200) (e2 : nx2 = 200) (hH : H k = gT M k 8) (hP : P k = -1 ∨ (gT M k 9 ≠ 0 ∧ P k = gT M k 4)) (hf : OwnP M k f0) {v4 : Int} {rec : Int → Int → (Nat → Int) → Option ((Int × (Nat → Int)) ⊕ (Int))} {Q : (Int × (Nat → Int)) ⊕ (Int) → Prop} (kk : ∀ f', OwnP M (k + 1) f' → wp (rec (v4 + 1) ((k : Int) + 1) f') Q) :
    wp (ob (f_X_ofObject n M (k : Int) 4) (fun x24 => og (nx2 < 2147483648) (og (0 ≤ (k : Int) ∧ (k : Int) < (nx2 : Int)) (og (inR x24) (og (inR (H ((k : Int).toNat))) (if x24 = H ((k : Int).toNat) then og (nx1 < 2147483648) (og (0 ≤ (k : Int) ∧ (k : Int) < (nx1 : Int)) (og (inR (P ((k : Int).toNat))) (if P ((k : Int).toNat) < 0 then ob (g_Law_isSound_199 n M (v4 + 1) (k : Int) (gT M k 3) (gT M k 4 + gT M k 5) nx0 nx1 P nx2 H fu (gT M k 4) f0) (fun x41 => oi x41 (fun y41 => ob (f_Law_areFieldsSound n M (k : Int) (gT M k 3)) (fun x42 => og (inR x42) (if x42 = 0 then some (.inr 0) else rec (v4 + 1) ((k : Int) + 1) y41)))) else if gT M k 4 = P ((k : Int).toNat) then ob (f_X_ofObject n M (k : Int) 5) (fun x46 => og (inR x46) (if x46 = 1 then ob (g_Law_isSound_199 n M (v4 + 1) (k : Int) (gT M k 3) (gT M k 4 + gT M k 5) nx0 nx1 P nx2 H fu (gT M k 4) f0) (fun x41 => oi x41 (fun y41 => ob (f_Law_areFieldsSound n M (k : Int) (gT M k 3)) (fun x42 => og (inR x42) (if x42 = 0 then some (.inr 0) else rec (v4 + 1) ((k : Int) + 1) y41)))) else some (.inr 0))) else some (.inr 0)))) else some (.inr 0))))))) Q := by
  have hfu : fu = 500 := rfl
  have hz := h.sz hk
  have hn := h.1.1
  have hr := h.reg hk h0
  have tail : ∀ (_ : Unit), wp (ob (g_Law_isSound_199 n M (v4 + 1) (k : Int) (gT M k 3) (gT M k 4 + gT M k 5) nx0 nx1 P nx2 H fu (gT M k 4) f0) (fun x41 => oi x41 (fun y41 => ob (f_Law_areFieldsSound n M (k : Int) (gT M k 3)) (fun x42 => og (inR x42) (if x42 = 0 then some (.inr 0) else rec (v4 + 1) ((k : Int) + 1) y41))))) Q := fun _ => by
    rw [wp_ob]
    refine wp_mono (own_loop e0 (by omega) ⟨by omega, by omega⟩ fu (gT M k 4) f0 (by omega) (by omega) (by rw [hfu]; omega) (fun x h1 h2 hx => ?_) hf.1) (fun o ho => ?_)
    · obtain ⟨j, hj, hj0, hj1, hj2⟩ := hf.2 x hx
      have := h.disj (k := j) (q := k) (by omega) hk (by omega) hj0 h0
      omega
    · obtain ⟨f', e, h2, h3⟩ := ho
      rw [wp_oi]
      refine ⟨fun y ey => ?_, fun y ey => (by rw [e] at ey; cases ey)⟩
      rw [e] at ey; cases ey
      rw [wp_ob]
      refine wp_of (af_ok h hk h0) ?_
      rw [wp_og, wp_ite]
      refine ⟨⟨by decide, by decide⟩, fun h9 => absurd h9 (by decide), fun _ => kk f' ⟨h2, fun x hx => ?_⟩⟩
      rcases h3 x hx with h4 | h4
      · obtain ⟨j, hj, hj0, hj1, hj2⟩ := hf.2 x h4
        exact ⟨j, by omega, hj0, hj1, hj2⟩
      · exact ⟨k, by omega, h0, h4.1, h4.2⟩
  rw [wp_ob]
  refine wp_of (of_ok h hk (by decide) (by decide)) ?_
  rw [oO4 h0, show (k : Int).toNat = k by omega, wp_og, wp_og, wp_og, wp_og, wp_ite, hH]
  refine ⟨by omega, ⟨by omega, by omega⟩, ⟨by omega, by omega⟩, ⟨by omega, by omega⟩, fun _ => ?_, fun h9 => absurd rfl h9⟩
  rw [wp_og, wp_og, wp_og, wp_ite]
  refine ⟨by omega, ⟨by omega, by omega⟩, ?_, fun _ => tail (), fun hp => ?_⟩
  · rcases hP with e | e
    · rw [e]; exact ⟨by decide, by decide⟩
    · rw [e.2]; exact ⟨by omega, by omega⟩
  · rcases hP with e | e
    · rw [e] at hp; exact absurd (by decide) hp
    · have h5 := oO5 h hk
      rw [wp_ite]
      refine ⟨fun _ => ?_, fun h9 => absurd e.2.symm h9⟩
      rw [wp_ob]
      refine wp_of (of_ok h hk (by decide) (by decide)) ?_
      rw [wp_og, wp_ite]
      refine ⟨h5.1, fun _ => tail (), fun h9 => absurd (h5.2.2 h9) e.1⟩
theorem thN_succ {M : cSt} {k : Nat} (h : gT M k 3 ≠ 0) : thN (k + 1) M = thN k M + 1 := by
  show thN k M + (if gT M k 3 = 0 then 0 else 1) = _
  rw [if_neg h]
theorem thN_succ0 {M : cSt} {k : Nat} (h : gT M k 3 = 0) : thN (k + 1) M = thN k M := by
  show thN k M + (if gT M k 3 = 0 then 0 else 1) = _
  rw [if_pos h]; omega
/-- what the law keeps of hashes and of those pinned -/
def HPk (n : Nat) (M : cSt) (H P : Nat → Int) : Prop := (∀ k, k < n → H k = gT M k 8) ∧ ∀ k, k < n → P k = -1 ∨ (gT M k 9 ≠ 0 ∧ P k = gT M k 4)
theorem snd_loop {n nx0 nx1 nx2 : Nat} {M : cSt} {H P : Nat → Int} (h : Inv n M) (hh : HPk n M H P) (e0 : nx0 = 420) (e1 : nx1 = 200) (e2 : nx2 = 200) : ∀ (u v : Nat) (f : Nat → Int), v ≤ n → n - v < u → OwnP M v f →
    wp (g_Law_isSound_12 n M nx0 nx1 P nx2 H u (thN v M) (v : Int) f) (fun o => ∃ f', o = .inl (thN n M, f')) := by
  intro u
  induction u with
  | zero => intro v f _ h; omega
  | succ u ih =>
    intro v f hv hu hf
    have hn := h.1.1
    show wp (s_Law_isSound_12 (g_Law_isSound_12 n M nx0 nx1 P nx2 H u) n M nx0 nx1 P nx2 H (thN v M) (v : Int) f) _
    unfold s_Law_isSound_12
    rw [wp_ob]
    refine wp_of (many0_ok h) ?_
    rw [wp_og, wp_og, wp_ite]
    refine ⟨⟨by omega, by omega⟩, ⟨by omega, by omega⟩, fun hlt => ?_, fun hge => ?_⟩
    · have hvn : v < n := by omega
      have hz := h.sz hvn
      have hP := hh.2 v hvn
      rw [wp_ob]
      refine wp_of (of_ok h hvn (by decide) (by decide)) ?_
      have ho : oO M v 0 = gT M v 3 := rfl
      rw [ho, wp_og, wp_ite]
      refine ⟨⟨by omega, by omega⟩, fun h0 => ?_, fun h0 => ?_⟩
      · have hp1 : P v = -1 := by
          rcases hP with e | e
          · exact e
          · have := h.2.2.2.2.2.2.2.1 v hvn e.1; omega
        rw [wp_og, wp_og, wp_og, wp_ite, show (v : Int).toNat = v by omega, hp1]
        refine ⟨by omega, ⟨by omega, by omega⟩, ⟨by decide, by decide⟩, fun _ => ?_, fun h9 => absurd (by decide) h9⟩
        have := ih (v + 1) f (by omega) (by omega) ⟨hf.1, fun x hx => by
          obtain ⟨j, hj, hj0, hj1, hj2⟩ := hf.2 x hx
          exact ⟨j, by omega, hj0, hj1, hj2⟩⟩
        rw [thN_succ0 h0] at this
        exact this
      · have hr := h.reg hvn h0
        have nx : ∀ f', OwnP M (v + 1) f' → wp (g_Law_isSound_12 n M nx0 nx1 P nx2 H u (thN v M + 1) ((v : Int) + 1) f') (fun o => ∃ f', o = .inl (thN n M, f')) := fun f' hf' => by
          have := ih (v + 1) f' (by omega) (by omega) hf'
          rw [thN_succ h0] at this
          exact this
        rw [wp_ob]
        refine wp_of (of_ok h hvn (by decide) (by decide)) ?_
        rw [oO1 h0, wp_ob]
        refine wp_of (of_ok h hvn (by decide) (by decide)) ?_
        rw [oO2 h0, wp_ite]
        refine ⟨fun h1 => ?_, fun h1 => ?_⟩
        · rw [wp_ob]
          refine wp_of (many4_ok n M) ?_
          rw [wp_ob]
          refine wp_of (many3_ok n M) ?_
          rw [wp_og, wp_og, wp_ite]
          refine ⟨⟨by omega, by omega⟩, ⟨by omega, by omega⟩, fun h9 => absurd h9 (by omega), fun _ => ?_⟩
          rw [wp_og, wp_og, wp_ite]
          refine ⟨⟨by omega, by omega⟩, ⟨by omega, by omega⟩, fun h9 => absurd h9 (by omega), fun _ => ?_⟩
          exact sndTail h hvn h0 e0 e1 e2 (hh.1 v hvn) hP hf nx
        · rw [wp_ite]
          refine ⟨fun h2 => ?_, fun h2 => ?_⟩
          · rw [wp_ob]
            refine wp_of (many5_ok n M) ?_
            rw [wp_og, wp_ite]
            refine ⟨⟨by omega, by omega⟩, fun h9 => absurd h9 (by omega), fun _ => ?_⟩
            rw [wp_og, wp_og, wp_ite]
            refine ⟨⟨by omega, by omega⟩, ⟨by omega, by omega⟩, fun h9 => absurd h9 (by omega), fun _ => ?_⟩
            exact sndTail h hvn h0 e0 e1 e2 (hh.1 v hvn) hP hf nx
          · rw [wp_og, wp_ite]
            refine ⟨⟨by omega, by omega⟩, fun h9 => absurd h9 (by omega), fun _ => ?_⟩
            rw [wp_og, wp_ite]
            refine ⟨⟨by omega, by omega⟩, fun h9 => absurd h9 (by omega), fun _ => ?_⟩
            exact sndTail h hvn h0 e0 e1 e2 (hh.1 v hvn) hP hf nx
    · rw [wp_some]
      have : v = n := by omega
      subst this; exact ⟨f, rfl⟩
theorem nO_rng {n : Nat} {t : Option Nat} (hn : n ≤ 1000000) (h : ∀ k, t = some k → k < n) : inR (nO t) := by
  cases t with
  | none => exact ⟨by decide, by decide⟩
  | some k => have := h k rfl; exact ⟨by show _ ≤ (k : Int); omega, by show (k : Int) < _; omega⟩
theorem slots_loop {n : Nat} {M : cSt} {a : Int} {nx0 nx1 nx2 : Nat} {f0 f1 f2 : Nat → Int} (h : Inv n M) : ∀ (u v : Nat), v ≤ 4 → 4 - v < u →
    wp (g_Law_isSound_251 n M a nx0 f0 nx1 f1 nx2 f2 u (v : Int)) (fun o => o = .inl ()) := by
  intro u
  induction u with
  | zero => intro v _ h; omega
  | succ u ih =>
    intro v hv hu
    have hn := h.1.1
    show wp (s_Law_isSound_251 (g_Law_isSound_251 n M a nx0 f0 nx1 f1 nx2 f2 u) n M a nx0 f0 nx1 f1 nx2 f2 (v : Int)) _
    unfold s_Law_isSound_251
    rw [wp_og, wp_ite]
    refine ⟨⟨by omega, by omega⟩, fun hlt => ?_, fun hge => wp_some.mpr rfl⟩
    have nx : ∀ (_ : Unit), wp (g_Law_isSound_251 n M a nx0 f0 nx1 f1 nx2 f2 u ((v : Int) + 1)) (fun o => o = .inl ()) := fun _ => ih (v + 1) (by omega) (by omega)
    have hat := at_ok h (a := (v : Int)) (by omega) hlt
    rw [wp_ob]
    refine wp_of hat ?_
    rw [wp_og, wp_ite]
    refine ⟨nO_rng (n := n) (by omega) (fun k hk => (h.slN k hk).1), fun _ => nx (), fun h0 => ?_⟩
    rw [wp_ob]
    refine wp_of hat ?_
    cases hq : sl M (v : Int) with
    | none => rw [hq] at h0; exact absurd (show nO none < 0 by decide) h0
    | some q =>
      have hqT := h.slT q hq
      have hz := h.sz hqT.1
      rw [wp_ob]
      refine wp_of (of_ok h hqT.1 (by decide) (by decide)) ?_
      have ho : oO M q 0 = gT M q 3 := rfl
      rw [ho, wp_og, wp_ite]
      exact ⟨⟨by omega, by omega⟩, fun h9 => absurd h9 hqT.2, fun _ => nx ()⟩
theorem sound_ok {n nx1 nx2 : Nat} {M : cSt} {H P : Nat → Int} (h : Inv n M) (hh : HPk n M H P) (e1 : nx1 = 200) (e2 : nx2 = 200) : f_Law_isSound n M nx1 H nx2 P = some 1 := by
  have hfu : fu = 500 := rfl
  have hn := h.1.1
  refine wp_eq ?_
  unfold f_Law_isSound
  rw [wp_ob]
  refine wp_mono (snd_loop h hh rfl e2 e1 fu 0 (fun _ => 0) (Nat.zero_le _) (by rw [hfu]; omega) ⟨fun _ => (show inR 0 from ⟨by decide, by decide⟩), fun x hx => absurd (show (0 : Int) < 0 from hx) (by decide)⟩) (fun o ho => ?_)
  obtain ⟨f', e⟩ := ho
  rw [wp_os]
  refine ⟨fun y ey => ?_, fun y ey => (by rw [e] at ey; cases ey)⟩
  rw [e] at ey; cases ey
  rw [wp_ob]
  refine wp_mono (slots_loop h fu 0 (by omega) (by rw [hfu]; omega)) (fun o ho => ?_)
  rw [wp_os]
  refine ⟨fun y ey => ?_, fun y ey => (by rw [ho] at ey; cases ey)⟩
  have ht := thN_rng n M
  obtain ⟨Y, O, G, hP⟩ := h.2.2.2.1
  obtain ⟨a1, a2, a3, a4, a5, a6, a7, a8, a9, b1, b2, b3, b4, b5, b6, b7, b8, b9, b10⟩ := hP
  rw [wp_ob]
  refine wp_of (many1_ok h) ?_
  rw [wp_og, wp_og, wp_ite]
  refine ⟨⟨by show _ ≤ thN n M; omega, by show thN n M < _; omega⟩, ⟨by omega, by omega⟩, fun _ => ?_, fun h9 => absurd rfl h9⟩
  rw [wp_ob]
  refine wp_of (many5_ok n M) ?_
  rw [wp_ob]
  refine wp_of (many6_ok n M) ?_
  rw [wp_og, wp_og, wp_ite]
  refine ⟨⟨by omega, by omega⟩, ⟨by omega, by omega⟩, fun h9 => absurd h9 (by omega), fun _ => ?_⟩
  rw [wp_ob]
  refine wp_of (many6_ok n M) ?_
  rw [wp_og, wp_ite]
  refine ⟨⟨by omega, by omega⟩, fun h9 => absurd h9 (by omega), fun _ => ?_⟩
  rw [wp_ob]
  refine wp_of (many6_ok n M) ?_
  rw [wp_og, wp_ite]
  refine ⟨⟨by omega, by omega⟩, fun h9 => absurd h9 (by omega), fun _ => wp_some.mpr rfl⟩
