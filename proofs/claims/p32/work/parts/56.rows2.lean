/-! LAYER 2: a row kept in part, and one that is kept by address; words and pinned of a row. -/
def isP (M : cSt) (p : Int) (k : Nat) : Bool := decide (gT M k 3 = p)
theorem keep_loop {n r : Nat} {p : Int} (hp : inR p) : ∀ (u : Nat) (M : cSt) (l D : List Nat) (v : Nat), l.length ≤ 199 → (∀ k ∈ l, k < n) → (∀ k, k < n → 0 ≤ gT M k 3 ∧ gT M k 3 ≤ 3) → Row M r D → (∀ j, v ≤ j → j < l.length → gR M r j = l[j]?) → D.length ≤ v → v ≤ l.length → l.length - v < u →
    wp (g_Row_keepOnly_12 n r p (l.length : Int) u M (v : Int)) (fun M' => Eqx [10 + r] [] [r] M M' ∧ (∀ j k, gR M' r j = some k → gR M r j = some k ∨ k < n) ∧ Row M' r (D ++ (l.drop v).filter (isP M p))) := by
  intro u
  induction u with
  | zero => intro M l D v _ _ _ _ _ _ _ h; omega
  | succ u ih =>
    intro M l D v hl hn hpl hD hg hDv hv hu
    show wp (s_Row_keepOnly_12 (g_Row_keepOnly_12 n r p (l.length : Int) u) n r p (l.length : Int) M (v : Int)) _
    unfold s_Row_keepOnly_12
    rw [wp_og, wp_og, wp_ite]
    refine ⟨⟨by omega, by omega⟩, ⟨by omega, by omega⟩, fun hlt => ?_, fun hge => ?_⟩
    · have hvl : v < l.length := by omega
      rw [wp_ite]
      refine ⟨fun _ => ?_, fun h => by omega⟩
      rw [wp_og]
      refine ⟨⟨by omega, by omega⟩, ?_⟩
      rw [show (v : Int).toNat = v by omega, hg v (Nat.le_refl _) hvl, List.getElem?_eq_getElem hvl, wp_on]
      refine ⟨fun e => (by cases e), fun q e => ?_⟩
      have hql : l[v] = q := Option.some.inj e
      have hq : q < n := by rw [← hql]; exact hn _ (List.getElem_mem hvl)
      have hpq := hpl q hq
      have hdrop : l.drop v = q :: l.drop (v + 1) := by rw [List.drop_eq_getElem_cons hvl, hql]
      rw [wp_og, wp_og, wp_og, wp_ite]
      refine ⟨hq, ⟨by omega, by omega⟩, hp, fun hqp => ?_, fun hqp => ?_⟩
      · rw [wp_ob]
        refine wp_of (add_ok hD (by omega) hq) ?_
        have he0 : Eqx [10 + r] [] [r] M (addR M r q) := by
          unfold addR
          refine ⟨fun j hj => ?_, fun _ _ _ => rfl, fun r' j hr' => ?_, fun _ => rfl, fun _ _ => rfl, fun _ => rfl⟩
          · rw [gI_sI, if_neg (fun h9 => hj (by rw [h9]; exact List.mem_cons_self)), gI_sR]
          · rw [gR_sI, gR_sR, if_neg (fun h9 => hr' (by rw [h9.1]; exact List.mem_cons_self))]
        have hat : ∀ j, gR (addR M r q) r j = if j = D.length then some q else gR M r j := fun j => by
          unfold addR
          rw [gR_sI, gR_sR, hD.1]
          by_cases h9 : j = D.length
          · rw [if_pos ⟨rfl, by omega⟩, if_pos h9]
          · rw [if_neg (fun h8 => h9 (by omega)), if_neg h9]
        refine wp_mono (ih (addR M r q) l (D ++ [q]) (v + 1) hl hn (fun k hk => by rw [he0.2.1 k 3 List.not_mem_nil]; exact hpl k hk) (row_addR hD) (fun j hj hj2 => by rw [hat j, if_neg (by omega)]; exact hg j (by omega) hj2) (by rw [List.length_append]; simp; omega) (by omega) (by omega)) (fun M1 h => ?_)
        obtain ⟨he1, h1, h2⟩ := h
        refine ⟨he0.tr he1, fun j k hk => ?_, ?_⟩
        · rcases h1 j k hk with h | h
          · rw [hat j] at h
            by_cases h9 : j = D.length
            · rw [if_pos h9] at h; cases h; exact Or.inr hq
            · rw [if_neg h9] at h; exact Or.inl h
          · exact Or.inr h
        · have hfe : (isP (addR M r q) p) = isP M p := by funext k; unfold isP; rw [he0.2.1 k 3 List.not_mem_nil]
          rw [hdrop, List.filter_cons, if_pos (by unfold isP; exact decide_eq_true hqp)]
          rw [hfe, List.append_assoc] at h2
          exact h2
      · refine wp_mono (ih M l D (v + 1) hl hn hpl hD (fun j hj hj2 => hg j (by omega) hj2) (by omega) (by omega) (by omega)) (fun M1 h => ?_)
        obtain ⟨he1, h1, h2⟩ := h
        refine ⟨he1, h1, ?_⟩
        rw [hdrop, List.filter_cons, if_neg (by unfold isP; simp [hqp])]
        exact h2
    · rw [wp_some]
      refine ⟨Eqx.rf _ _ _ _, fun j k hk => Or.inl hk, ?_⟩
      rw [List.drop_eq_nil_of_le (by omega), List.filter_nil, List.append_nil]
      exact hD
theorem keep_ok {n r : Nat} {p : Int} {M : cSt} {l : List Nat} (hp : inR p) (hc : cRf n M) (hl : l.length ≤ 199) (hn : ∀ k ∈ l, k < n) (hpl : ∀ k, k < n → 0 ≤ gT M k 3 ∧ gT M k 3 ≤ 3) (h : Row M r l) :
    wp (f_Row_keepOnly n M r p) (fun M' => Eqx [10 + r] [] [r] M M' ∧ cRf n M' ∧ Row M' r (l.filter (isP M p))) := by
  have hfu : fu = 500 := rfl
  unfold f_Row_keepOnly
  rw [wp_ob, h.1]
  have he0 : Eqx [10 + r] [] [r] M (sI M (10 + r) 0) := ⟨fun j hj => by rw [gI_sI, if_neg (fun h9 => hj (by rw [h9]; exact List.mem_cons_self))], fun _ _ _ => rfl, fun _ _ _ => rfl, fun _ => rfl, fun _ _ => rfl, fun _ => rfl⟩
  refine wp_mono (keep_loop hp fu (sI M (10 + r) 0) l [] 0 hl hn hpl (row_nil (by rw [gI_sI, if_pos rfl])) (fun j _ hj => h.2 j hj) (Nat.le_refl _) (Nat.zero_le _) (by rw [hfu]; omega)) (fun M1 h9 => ?_)
  obtain ⟨he1, h1, h2⟩ := h9
  rw [wp_some]
  refine ⟨he0.tr he1, (he0.tr he1).rfs hc (fun r' hr' j k hk => ?_), ?_⟩
  · rw [List.mem_singleton] at hr'; subst hr'
    rcases h1 j k hk with h | h
    · exact hc.1 _ _ _ h
    · exact h
  · rw [List.drop_zero, List.nil_append] at h2; exact h2
theorem words_loop {n r : Nat} {M : cSt} {l : List Nat} (h : Row M r l) (hl : l.length ≤ 199) (hn : ∀ k ∈ l, k < n) : ∀ (u v : Nat) (a : Int), v ≤ l.length → l.length - v < u →
    wp (g_Row_words_4 n M r u a (v : Int)) (fun x => x = a + ((l.drop v).map (fun k => gT M k 5)).sum) := by
  intro u
  induction u with
  | zero => intro v a _ h; omega
  | succ u ih =>
    intro v a hv hu
    show wp (s_Row_words_4 (g_Row_words_4 n M r u) n M r a (v : Int)) _
    unfold s_Row_words_4
    rw [wp_og, wp_og, wp_ite, h.1]
    refine ⟨⟨by omega, by omega⟩, ⟨by omega, by omega⟩, fun hlt => ?_, fun hge => ?_⟩
    · have hvl : v < l.length := by omega
      rw [wp_ite]
      refine ⟨fun _ => ?_, fun h => by omega⟩
      rw [wp_og]
      refine ⟨⟨by omega, by omega⟩, ?_⟩
      rw [show (v : Int).toNat = v by omega, h.2 v hvl, List.getElem?_eq_getElem hvl, wp_on]
      refine ⟨fun e => (by cases e), fun q e => ?_⟩
      have hql : l[v] = q := Option.some.inj e
      rw [wp_og]
      refine ⟨by rw [← hql]; exact hn _ (List.getElem_mem hvl), ?_⟩
      refine wp_mono (ih (v + 1) (a + gT M q 5) (by omega) (by omega)) (fun x hx => ?_)
      rw [hx, List.drop_eq_getElem_cons hvl, hql, List.map_cons, List.sum_cons]; omega
    · rw [wp_some, List.drop_eq_nil_of_le (by omega)]
      simp
theorem words_ok {n r : Nat} {M : cSt} {l : List Nat} (h : Row M r l) (hl : l.length ≤ 199) (hn : ∀ k ∈ l, k < n) : f_Row_words n M r = some (l.map (fun k => gT M k 5)).sum := by
  have hfu : fu = 500 := rfl
  refine wp_eq ?_
  unfold f_Row_words
  rw [wp_ob]
  refine wp_mono (words_loop h hl hn fu 0 0 (Nat.zero_le _) (by rw [hfu]; omega)) (fun x hx => ?_)
  rw [wp_some, hx, List.drop_zero, Int.zero_add]
theorem sum_rng {l : List Nat} {f : Nat → Int} {c : Int} (h : ∀ k ∈ l, 0 ≤ f k ∧ f k ≤ c) : 0 ≤ (l.map f).sum ∧ (l.map f).sum ≤ c * l.length := by
  induction l with
  | nil => simp
  | cons a l ih =>
    have h1 := h a List.mem_cons_self
    have h2 := ih (fun k hk => h k (List.mem_cons_of_mem _ hk))
    rw [List.map_cons, List.sum_cons, List.length_cons]
    rw [show ((l.length + 1 : Nat) : Int) = (l.length : Int) + 1 by omega, Int.mul_add, Int.mul_one]
    omega
theorem pinned_loop {n r : Nat} {M : cSt} {l : List Nat} (h : Row M r l) (hl : l.length ≤ 199) (hn : ∀ k ∈ l, k < n) (h9 : ∀ k, k < n → gT M k 9 = 0 ∨ gT M k 9 = 1) : ∀ (u v : Nat) (a : Int), v ≤ l.length → l.length - v < u →
    wp (g_Row_pinned_4 n M r u a (v : Int)) (fun x => x = a + ((l.drop v).map (fun k => gT M k 9)).sum) := by
  intro u
  induction u with
  | zero => intro v a _ h; omega
  | succ u ih =>
    intro v a hv hu
    show wp (s_Row_pinned_4 (g_Row_pinned_4 n M r u) n M r a (v : Int)) _
    unfold s_Row_pinned_4
    rw [wp_og, wp_og, wp_ite, h.1]
    refine ⟨⟨by omega, by omega⟩, ⟨by omega, by omega⟩, fun hlt => ?_, fun hge => ?_⟩
    · have hvl : v < l.length := by omega
      rw [wp_ite]
      refine ⟨fun _ => ?_, fun h => by omega⟩
      rw [wp_og]
      refine ⟨⟨by omega, by omega⟩, ?_⟩
      rw [show (v : Int).toNat = v by omega, h.2 v hvl, List.getElem?_eq_getElem hvl, wp_on]
      refine ⟨fun e => (by cases e), fun q e => ?_⟩
      have hql : l[v] = q := Option.some.inj e
      have hq : q < n := by rw [← hql]; exact hn _ (List.getElem_mem hvl)
      have hq9 := h9 q hq
      rw [wp_og, wp_og, wp_ite]
      refine ⟨hq, by rcases hq9 with h | h <;> rw [h] <;> exact ⟨by decide, by decide⟩, fun h0 => ?_, fun h0 => ?_⟩
      · refine wp_mono (ih (v + 1) a (by omega) (by omega)) (fun x hx => ?_)
        rw [hx, List.drop_eq_getElem_cons hvl, hql, List.map_cons, List.sum_cons]; omega
      · refine wp_mono (ih (v + 1) (a + 1) (by omega) (by omega)) (fun x hx => ?_)
        rw [hx, List.drop_eq_getElem_cons hvl, hql, List.map_cons, List.sum_cons]; omega
    · rw [wp_some, List.drop_eq_nil_of_le (by omega)]
      simp
theorem pinnedR_ok {n r : Nat} {M : cSt} {l : List Nat} (h : Row M r l) (hl : l.length ≤ 199) (hn : ∀ k ∈ l, k < n) (h9 : ∀ k, k < n → gT M k 9 = 0 ∨ gT M k 9 = 1) : f_Row_pinned n M r = some (l.map (fun k => gT M k 9)).sum := by
  have hfu : fu = 500 := rfl
  refine wp_eq ?_
  unfold f_Row_pinned
  rw [wp_ob]
  refine wp_mono (pinned_loop h hl hn h9 fu 0 0 (Nat.zero_le _) (by rw [hfu]; omega)) (fun x hx => ?_)
  rw [wp_some, hx, List.drop_zero, Int.zero_add]
/-- a thing among those that stand by address -/
theorem byAddr_loop {n r k : Nat} (hk : k < n) : ∀ (u : Nat) (M : cSt) (A B : List Nat), Row M r (A ++ k :: B) → (A ++ k :: B).length ≤ 200 → (∀ x ∈ A, x < n) → (∀ x ∈ B, gT M k 4 < gT M x 4) → (∀ x, x < n → inR (gT M x 4)) → A.length < u →
    wp (g_Row_addByAddress_12 n r (some k) u M (A.length : Int)) (fun o => ∃ M' A' B', (o = .inl M' ∨ o = .inr M') ∧ A ++ B = A' ++ B' ∧ Row M' r (A' ++ k :: B') ∧ Eqx [] [] [r] M M' ∧ (∀ j q, gR M' r j = some q → gR M r j = some q ∨ q < n) ∧ (∀ x ∈ B', gT M k 4 < gT M x 4) ∧ ∀ x, A'.getLast? = some x → gT M x 4 ≤ gT M k 4) := by
  intro u
  induction u with
  | zero => intro M A B _ _ _ _ _ h; omega
  | succ u ih =>
    intro M A B hR hlen hA hB ha hu
    rw [List.length_append, List.length_cons] at hlen
    show wp (s_Row_addByAddress_12 (g_Row_addByAddress_12 n r (some k) u) n r (some k) M (A.length : Int)) _
    unfold s_Row_addByAddress_12
    rw [wp_og, wp_ite]
    refine ⟨⟨by omega, by omega⟩, fun h0 => ?_, fun h0 => ?_⟩
    · rcases List.eq_nil_or_concat A with e | ⟨A1, a, e⟩
      · subst e; simp at h0
      rw [List.concat_eq_append] at e
      subst e
      rw [List.length_append, List.length_singleton] at hlen h0 hu ⊢
      rw [wp_ite]
      refine ⟨fun _ => ?_, fun h => by omega⟩
      rw [wp_og]
      refine ⟨⟨by omega, by omega⟩, ?_⟩
      have hat : gR M r A1.length = some a := by
        rw [hR.2 A1.length (by simp), List.append_assoc, List.getElem?_append_right (Nat.le_refl _), Nat.sub_self]; rfl
      rw [show (((A1.length + 1 : Nat) : Int) - 1).toNat = A1.length by omega, hat, wp_on]
      refine ⟨fun e => (by cases e), fun q e => ?_⟩
      cases e
      have han : a < n := hA a (List.mem_append_right _ List.mem_cons_self)
      rw [wp_og, wp_on]
      refine ⟨han, fun e => (by cases e), fun q e => ?_⟩
      cases e
      rw [wp_og, wp_og, wp_og, wp_ite]
      refine ⟨hk, ha a han, ha k hk, fun hlt => ?_, fun hge => ?_⟩
      · rw [wp_og]
        refine ⟨⟨by omega, by omega⟩, ?_⟩
        rw [show ((A1.length + 1 : Nat) : Int).toNat = A1.length + 1 by omega, show ((A1.length + 1 : Nat) : Int) + -1 = (A1.length : Int) by omega]
        have hat2 : ∀ j, gR (sR (sR M r (A1.length + 1) (some a)) r A1.length (some k)) r j = if j = A1.length then some k else if j = A1.length + 1 then some a else gR M r j := fun j => by
          rw [gR_sR, gR_sR]
          by_cases h1 : j = A1.length
          · rw [if_pos ⟨rfl, h1⟩, if_pos h1]
          · rw [if_neg (fun h9 => h1 h9.2), if_neg h1]
            by_cases h2 : j = A1.length + 1
            · rw [if_pos ⟨rfl, h2⟩, if_pos h2]
            · rw [if_neg (fun h9 => h2 h9.2), if_neg h2]
        have hR1 : Row (sR (sR M r (A1.length + 1) (some a)) r A1.length (some k)) r (A1 ++ k :: (a :: B)) := by
          refine ⟨?_, fun j hj => ?_⟩
          · rw [gI_sR, gI_sR, hR.1]; simp
          · rw [hat2 j]
            rw [List.length_append, List.length_cons, List.length_cons] at hj
            rcases Nat.lt_trichotomy j A1.length with h1 | h1 | h1
            · rw [if_neg (by omega), if_neg (by omega), hR.2 j (by simp; omega), List.append_assoc, List.getElem?_append_left h1, List.getElem?_append_left h1]
            · rw [if_pos h1, h1, List.getElem?_append_right (Nat.le_refl _), Nat.sub_self]; rfl
            · rw [if_neg (by omega), List.getElem?_append_right (by omega)]
              obtain ⟨d, rfl⟩ : ∃ d, j = A1.length + 1 + d := ⟨j - A1.length - 1, by omega⟩
              rw [show A1.length + 1 + d - A1.length = d + 1 by omega, List.getElem?_cons_succ]
              cases d with
              | zero => rw [if_pos rfl]; rfl
              | succ d =>
                rw [if_neg (by omega), List.getElem?_cons_succ, hR.2 _ (by simp; omega), List.append_assoc, List.getElem?_append_right (by omega), show A1.length + 1 + (d + 1) - A1.length = d + 1 + 1 by omega]
                rw [List.singleton_append, List.getElem?_cons_succ, List.getElem?_cons_succ]
        have he0 : Eqx [] [] [r] M (sR (sR M r (A1.length + 1) (some a)) r A1.length (some k)) := ⟨fun _ _ => rfl, fun _ _ _ => rfl, fun r' j hr' => by
          rw [gR_sR, if_neg (fun h9 => hr' (by rw [h9.1]; exact List.mem_cons_self)), gR_sR, if_neg (fun h9 => hr' (by rw [h9.1]; exact List.mem_cons_self))], fun _ => rfl, fun _ _ => rfl, fun _ => rfl⟩
        refine wp_mono (ih _ A1 (a :: B) hR1 (by rw [List.length_append, List.length_cons, List.length_cons]; omega) (fun x hx => hA x (List.mem_append_left _ hx)) (fun x hx => ?_) ha (by omega)) (fun o h => ?_)
        · rcases List.mem_cons.mp hx with e | hx
          · rw [e]; exact hlt
          · exact hB x hx
        · obtain ⟨M', A', B', ho, hAB, hR2, he2, h1, h2, h3⟩ := h
          refine ⟨M', A', B', ho, by rw [← hAB, List.append_assoc]; rfl, hR2, he0.tr he2, fun j q hq => ?_, h2, h3⟩
          rcases h1 j q hq with h | h
          · rw [hat2 j] at h
            split at h
            · cases h; exact Or.inr hk
            · split at h
              · cases h; exact Or.inr han
              · exact Or.inl h
          · exact Or.inr h
      · rw [wp_some]
        exact ⟨M, A1 ++ [a], B, Or.inr rfl, rfl, hR, Eqx.rf _ _ _ _, fun _ _ h => Or.inl h, hB, fun x hx => by
          rw [List.getLast?_append, List.getLast?_singleton] at hx; cases hx; omega⟩
    · rw [wp_some]
      have e : A = [] := List.eq_nil_of_length_eq_zero (by omega)
      subst e
      exact ⟨M, [], B, Or.inl rfl, rfl, hR, Eqx.rf _ _ _ _, fun _ _ h => Or.inl h, hB, fun x hx => by cases hx⟩
theorem eqx_addR (M : cSt) (r q : Nat) : Eqx [10 + r] [] [r] M (addR M r q) := by
  unfold addR
  refine ⟨fun j hj => ?_, fun _ _ _ => rfl, fun r' j hr' => ?_, fun _ => rfl, fun _ _ => rfl, fun _ => rfl⟩
  · rw [gI_sI, if_neg (fun h9 => hj (by rw [h9]; exact List.mem_cons_self)), gI_sR]
  · rw [gR_sI, gR_sR, if_neg (fun h9 => hr' (by rw [h9.1]; exact List.mem_cons_self))]
theorem cRf_addR {n : Nat} {M : cSt} (h : cRf n M) {r q : Nat} (hq : q < n) : cRf n (addR M r q) := by
  refine ⟨fun r' j k hk => ?_, h.2⟩
  unfold addR at hk
  rw [gR_sI, gR_sR] at hk
  split at hk
  · cases hk; exact hq
  · exact h.1 _ _ _ hk
theorem byAddr_ok {n r k : Nat} {M : cSt} {l : List Nat} (hk : k < n) (hc : cRf n M) (hR : Row M r l) (hlen : l.length ≤ 199) (hl : ∀ x ∈ l, x < n) (ha : ∀ x, x < n → inR (gT M x 4)) :
    wp (f_Row_addByAddress n M r (some k)) (fun M' => Eqx [10 + r] [] [r] M M' ∧ cRf n M' ∧ ∃ A B, l = A ++ B ∧ Row M' r (A ++ k :: B) ∧ (∀ x ∈ B, gT M k 4 < gT M x 4) ∧ ∀ x, A.getLast? = some x → gT M x 4 ≤ gT M k 4) := by
  have hfu : fu = 500 := rfl
  have hR1 := row_addR (k := k) hR
  unfold f_Row_addByAddress
  rw [wp_ob]
  refine wp_of (add_ok hR (by omega) hk) ?_
  rw [wp_ob, hR1.1, show ((l ++ [k]).length : Int) - 1 = (l.length : Int) by rw [List.length_append, List.length_singleton]; omega]
  refine wp_mono (byAddr_loop hk fu (addR M r k) l [] hR1 (by rw [List.length_append, List.length_singleton]; omega) hl (fun x hx => absurd hx List.not_mem_nil) ha (by rw [hfu]; omega)) (fun o h => ?_)
  obtain ⟨M', A', B', ho, hAB, hR2, he2, h1, h2, h3⟩ := h
  rw [List.append_nil] at hAB
  have he : Eqx [10 + r] [] [r] M M' := (eqx_addR M r k).tr (he2.mono (fun _ h => absurd h List.not_mem_nil) (fun _ h => h) (fun _ h => h))
  have hfin : Eqx [10 + r] [] [r] M M' ∧ cRf n M' ∧ ∃ A B, l = A ++ B ∧ Row M' r (A ++ k :: B) ∧ (∀ x ∈ B, gT M k 4 < gT M x 4) ∧ ∀ x, A.getLast? = some x → gT M x 4 ≤ gT M k 4 := by
    refine ⟨he, he.rfs hc (fun r' hr' j q hq => ?_), A', B', hAB, hR2, h2, h3⟩
    rw [List.mem_singleton] at hr'; subst hr'
    rcases h1 j q hq with h | h
    · exact (cRf_addR hc hk).1 _ _ _ h
    · exact h
  rw [wp_os]
  refine ⟨fun y e => ?_, fun y e => ?_⟩
  · rw [wp_some]
    rcases ho with ho | ho <;> rw [ho] at e <;> cases e
    exact hfin
  · rcases ho with ho | ho <;> rw [ho] at e <;> cases e
    exact hfin
