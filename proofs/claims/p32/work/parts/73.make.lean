/-! LAYER 2: collecting; make. -/
theorem len_sumN {p : Nat → Prop} (hp : ∀ k, Decidable (p k)) : ∀ (m : Nat) (l : List Nat), l.Nodup → (∀ k, k ∈ l ↔ (k < m ∧ p k)) → (l.length : Int) = sumN (fun k => @ite Int (p k) (hp k) 1 0) m
  | 0, l, _, h => by
    cases l with
    | nil => rfl
    | cons a l => exact absurd ((h a).mp List.mem_cons_self).1 (Nat.not_lt_zero a)
  | m + 1, l, hd, h => by
    show (l.length : Int) = sumN (fun k => @ite Int (p k) (hp k) 1 0) m + @ite Int (p m) (hp m) 1 0
    by_cases hm : p m
    · have hml : m ∈ l := (h m).mpr ⟨by omega, hm⟩
      have h1 := len_sumN hp m (l.erase m) (hd.erase m) (fun k => by
        rw [hd.mem_erase_iff, h k]
        exact ⟨fun h9 => ⟨by omega, h9.2.2⟩, fun h9 => ⟨by omega, by omega, h9.2⟩⟩)
      rw [List.length_erase_of_mem hml] at h1
      have h2 : 0 < l.length := List.length_pos_of_mem hml
      rw [if_pos hm]; omega
    · have h1 := len_sumN hp m l hd (fun k => by
        rw [h k]
        exact ⟨fun h9 => ⟨by have : k ≠ m := fun e => hm (e ▸ h9.2); omega, h9.2⟩, fun h9 => ⟨by omega, h9.2⟩⟩)
      rw [if_neg hm]; omega
theorem sumN_add {f g : Nat → Int} : ∀ n, sumN (fun k => f k + g k) n = sumN f n + sumN g n
  | 0 => rfl
  | n + 1 => by
    show sumN (fun k => f k + g k) n + (f n + g n) = (sumN f n + f n) + (sumN g n + g n)
    rw [sumN_add n]; omega
/-- how many are there -/
def thN (n : Nat) (M : cSt) : Int := sumN (fun k => if gT M k 3 = 0 then 0 else 1) n
theorem thN_rng (n : Nat) (M : cSt) : 0 ≤ thN n M ∧ thN n M ≤ n := by
  have := sumN_rng (f := fun k => if gT M k 3 = 0 then 0 else 1) (c := 1) (fun k => by split <;> omega) n
  unfold thN; omega
theorem PL.many {n : Nat} {M : cSt} {Y O G : List Nat} (h : PL n M Y O G) (hp : ∀ k, k < n → 0 ≤ gT M k 3 ∧ gT M k 3 ≤ 3) : (Y.length : Int) + O.length + G.length = thN n M := by
  obtain ⟨-, -, -, a4, a5, a6, a7, a8, a9, -⟩ := h
  rw [len_sumN (p := fun k => gT M k 3 = 1) (fun k => inferInstance) n Y a4 a7, len_sumN (p := fun k => gT M k 3 = 2) (fun k => inferInstance) n O a5 a8, len_sumN (p := fun k => gT M k 3 = 3) (fun k => inferInstance) n G a6 a9, ← sumN_add, ← sumN_add]
  refine sumN_congr (fun k hk => ?_)
  have := hp k hk
  by_cases h1 : gT M k 3 = 1
  · rw [if_pos h1, if_neg (by omega), if_neg (by omega), if_neg (by omega)]; rfl
  · by_cases h2 : gT M k 3 = 2
    · rw [if_neg h1, if_pos h2, if_neg (by omega), if_neg (by omega)]; rfl
    · by_cases h3 : gT M k 3 = 3
      · rw [if_neg h1, if_neg h2, if_pos h3, if_neg (by omega)]; rfl
      · rw [if_neg h1, if_neg h2, if_neg h3, if_pos (by omega)]; rfl
theorem many1_ok {n : Nat} {M : cSt} (h : Inv n M) : f_X_many n M 1 = some (thN n M) := by
  have hB := h.1
  obtain ⟨Y, O, G, hP⟩ := h.2.2.2.1
  refine wp_eq ?_
  unfold f_X_many
  rw [wp_og, wp_ite]
  refine ⟨⟨by decide, by decide⟩, fun h9 => absurd h9 (by decide), fun _ => ?_⟩
  rw [wp_ite]
  refine ⟨fun _ => ?_, fun h9 => absurd rfl h9⟩
  rw [wp_ob]
  refine wp_of (things_ok hP) ?_
  rw [wp_some]
  exact hP.many hB.2.2.2.2.2.2.2.2.1
theorem many0_ok {n : Nat} {M : cSt} (h : Inv n M) : f_X_many n M 0 = some (n : Int) := by
  have hB := h.1
  refine wp_eq ?_
  unfold f_X_many
  rw [wp_og, wp_ite]
  refine ⟨⟨by decide, by decide⟩, fun _ => ?_, fun h9 => absurd rfl h9⟩
  rw [wp_ob]
  refine wp_of (size_ok hB.2.1) ?_
  rw [wp_some, List.length_range]
/-- what collecting leaves as it was -/
def GcP (n : Nat) (M M' : cSt) : Prop := Inv n M' ∧ (∀ k, gT M' k 8 = gT M k 8 ∧ gT M' k 9 = gT M k 9) ∧ (∀ k, k < n → gT M k 9 ≠ 0 → gT M' k 4 = gT M k 4) ∧ gI M' 0 = gI M 0 ∧ gI M' 1 = gI M 1
theorem GcP.rf {n : Nat} {M : cSt} (h : Inv n M) : GcP n M M := ⟨h, fun _ => ⟨rfl, rfl⟩, fun _ _ _ => rfl, rfl, rfl⟩
theorem GcP.tr {n : Nat} {M M' M'' : cSt} (h : GcP n M M') (h' : GcP n M' M'') : GcP n M M'' :=
  ⟨h'.1, fun k => ⟨(h'.2.1 k).1.trans (h.2.1 k).1, (h'.2.1 k).2.trans (h.2.1 k).2⟩, fun k hk h9 => (h'.2.2.1 k hk (by rw [(h.2.1 k).2]; exact h9)).trans (h.2.2.1 k hk h9), h'.2.2.2.1.trans h.2.2.2.1, h'.2.2.2.2.trans h.2.2.2.2⟩
theorem FullP.gc {n : Nat} {M : cSt} {s : Int} {x : cSt × Int} (hI : Inv n M) (h : Inv n x.1) (hf : FullP n M s x) : GcP n M x.1 ∧ x.2 = thN n M - thN n x.1 := by
  obtain ⟨f1, f2, f3, f4, f5, f6, f7, f8, f9⟩ := hf
  have hB := hI.1
  have hr := hI.2.1
  refine ⟨⟨h, f3, fun k hk h9 => f4 k hk ?_ h9, f6, f7⟩, ?_⟩
  · have h2 := h.2.2.2.2.2.2.2.1 k hk (by rw [(f3 k).2]; exact h9)
    omega
  · rw [f2]
    unfold thN
    have e : sumN (fun k => if gT M k 3 = 0 then (0 : Int) else 1) n = sumN (fun k => (if gT M k 3 = 0 then (0 : Int) else @ite Int (C2 M n s none k) (Classical.propDecidable _) 0 1) + (if gT x.1 k 3 = 0 then (0 : Int) else 1)) n := by
      refine sumN_congr (fun k hk => ?_)
      have h1 := f1 k hk
      by_cases hc : C2 M n s none k
      · have h2 := (C2.there hB hr hc).1
        have h3 := h1.mpr hc
        rw [if_neg h2, if_neg h3, if_neg h2, if_pos hc]; rfl
      · have h3 : gT x.1 k 3 = 0 := Decidable.byContradiction (fun h9 => hc (h1.mp h9))
        rw [if_pos h3]
        by_cases h2 : gT M k 3 = 0
        · rw [if_pos h2, if_pos h2]; rfl
        · rw [if_neg h2, if_neg h2, if_neg hc]; rfl
    rw [e, sumN_add]; omega
theorem xfull_ok {n : Nat} {M : cSt} (h : Inv n M) {s : Int} (hs : s = 0 ∨ s = 1) : wp (f_X_full n M s) (fun x => Inv n x.1 ∧ FullP n M s x) := by
  unfold f_X_full
  rw [wp_ob]
  refine wp_mono (full_ok h hs) (fun x hx => ?_)
  rw [wp_some]; exact hx
theorem xminor_ok {n : Nat} {M : cSt} (h : Inv n M) : wp (f_X_minor n M) (fun x => GcP n M x.1 ∧ x.2 = thN n M - thN n x.1) := by
  have hB := h.1
  have hn := hB.1
  obtain ⟨Y, O, G, hP⟩ := h.2.2.2.1
  have hN := h.2.2.2.2.1
  obtain ⟨a1, -, -, a4, -, -, a7, -, -, -, -, -, -, -, -, b7, b8, b9, b10⟩ := id hP
  have lY := nodup_le n Y a4 (fun k hk => ((a7 k).mp hk).1)
  unfold f_X_minor
  rw [wp_ob]
  refine wp_of (can_ok a1 (by omega) (fun k hk => ((a7 k).mp hk).1) hN ⟨by omega, by omega⟩) ?_
  rw [wp_og, wp_ite]
  refine ⟨by split <;> exact ⟨by decide, by decide⟩, fun h0 => ?_, fun h0 => ?_⟩
  · rw [wp_ob]
    refine wp_mono (full_ok h (Or.inr rfl)) (fun x hx => ?_)
    rw [wp_some]
    exact FullP.gc h hx.1 hx.2
  · rw [wp_ob]
    have hroom : gI M 4 + sbs M Y ≤ 100 + gI M 5 := by
      by_cases h9 : 100 + gI M 5 - gI M 4 < sbs M Y
      · rw [if_pos h9] at h0; exact absurd rfl h0
      · omega
    refine wp_mono (minor_ok h hP hroom) (fun x hx => ?_)
    obtain ⟨hI, V, m1, m2, m3, m4, m5, m6, m7, m8⟩ := hx
    rw [wp_some]
    refine ⟨⟨hI, m3, m4, m5, m6⟩, ?_⟩
    show x.2 = thN n M - thN n x.1
    rw [m2]
    unfold thN
    have e1 := len_sumN (p := fun k => k ∈ Y ∧ k ∉ V) (fun k => inferInstance) n (Y.filter (fun k => decide (k ∉ V))) (a4.filter _) (fun k => by
      rw [List.mem_filter, decide_eq_true_iff]
      exact ⟨fun h9 => ⟨((a7 k).mp h9.1).1, h9⟩, fun h9 => h9.2⟩)
    have e : sumN (fun k => if gT M k 3 = 0 then (0 : Int) else 1) n = sumN (fun k => (if k ∈ Y ∧ k ∉ V then (1 : Int) else 0) + (if gT x.1 k 3 = 0 then (0 : Int) else 1)) n := by
      refine sumN_congr (fun k hk => ?_)
      have h1 := m1 k hk
      by_cases hc : k ∈ Y ∧ k ∉ V
      · have h2 := ((a7 k).mp hc.1).2
        have h3 : gT x.1 k 3 = 0 := Decidable.byContradiction (fun h9 => (h1.mp h9).2 hc)
        rw [if_neg (by omega), if_pos hc, if_pos h3]; rfl
      · by_cases h2 : gT M k 3 = 0
        · have h3 : gT x.1 k 3 = 0 := Decidable.byContradiction (fun h9 => (h1.mp h9).1 h2)
          rw [if_pos h2, if_neg hc, if_pos h3]; rfl
        · rw [if_neg h2, if_neg hc, if_neg (h1.mpr ⟨h2, hc⟩)]; rfl
    rw [e1, e, sumN_add]; omega
/-- where a new one may lie -/
def GapP (n : Nat) (M : cSt) (a x : Int) : Prop := (a < 12 ∧ x = gI M 3 ∧ gI M 3 + (2 + a) ≤ gI M 2 + 40) ∨ (12 ≤ a ∧ 300 ≤ x ∧ x + (2 + a) ≤ 420 ∧ ∀ k, k < n → gT M k 3 = 3 → gT M k 4 + gT M k 5 ≤ x ∨ x + (2 + a) ≤ gT M k 4)
theorem gap_loop {n : Nat} {M : cSt} {G : List Nat} {a : Int} (hR : Row M 4 G) (hl : G.length ≤ 199) (hn : ∀ k ∈ G, k < n) (hch : Chn M 300 420 G) (hN : Nm n M) (ha : 0 ≤ a ∧ a ≤ 30) : ∀ (B A : List Nat) (u : Nat) (e : Int), B.length < u → G = A ++ B → (∀ x ∈ A, gT M x 4 + gT M x 5 ≤ e) → 300 ≤ e → e ≤ 420 →
    wp (g_Pl_largeGapFor_6 n M a u e (A.length : Int)) (fun o => (∃ y, o = .inr y ∧ 300 ≤ y ∧ y + a ≤ 420 ∧ ∀ x ∈ G, gT M x 4 + gT M x 5 ≤ y ∨ y + a ≤ gT M x 4) ∨ (∃ y, o = .inl y ∧ 300 ≤ y ∧ y ≤ 420 ∧ ∀ x ∈ G, gT M x 4 + gT M x 5 ≤ y)) := by
  intro B
  induction B with
  | nil =>
    intro A u e hu hG hA he1 he2
    cases u with
    | zero => exact absurd hu (Nat.not_lt_zero _)
    | succ u =>
      rw [List.append_nil] at hG
      subst hG
      show wp (s_Pl_largeGapFor_6 (g_Pl_largeGapFor_6 n M a u) n M a e (G.length : Int)) _
      unfold s_Pl_largeGapFor_6
      rw [wp_ob]
      refine wp_of (size_ok hR) ?_
      rw [wp_og, wp_og, wp_ite]
      refine ⟨⟨by omega, by omega⟩, ⟨by omega, by omega⟩, fun h => by omega, fun _ => ?_⟩
      rw [wp_some]
      exact Or.inr ⟨e, rfl, he1, he2, hA⟩
  | cons q B ih =>
    intro A u e hu hG hA he1 he2
    cases u with
    | zero => exact absurd hu (Nat.not_lt_zero _)
    | succ u =>
      have hlen : G.length = A.length + (B.length + 1) := by rw [hG, List.length_append, List.length_cons]
      have hqG : q ∈ G := by rw [hG]; exact List.mem_append_right _ List.mem_cons_self
      have hqn := hn q hqG
      have hNq := hN q hqn
      have hcq := hch.2 q hqG
      have hpw := hch.1
      rw [hG, List.pairwise_append] at hpw
      have hAq : ∀ x ∈ A, gT M x 4 + gT M x 5 ≤ gT M q 4 := fun x hx => hpw.2.2 x hx q List.mem_cons_self
      have hqB : ∀ x ∈ B, gT M q 4 + gT M q 5 ≤ gT M x 4 := fun x hx => (List.pairwise_cons.mp hpw.2.1).1 x hx
      show wp (s_Pl_largeGapFor_6 (g_Pl_largeGapFor_6 n M a u) n M a e (A.length : Int)) _
      unfold s_Pl_largeGapFor_6
      rw [wp_ob]
      refine wp_of (size_ok hR) ?_
      rw [wp_og, wp_og, wp_ite]
      refine ⟨⟨by omega, by omega⟩, ⟨by omega, by omega⟩, fun _ => ?_, fun h => by omega⟩
      rw [wp_ob]
      refine wp_of (item_ok hR (by omega) ⟨by omega, by omega⟩) ?_
      have hit : (if (0 : Int) ≤ (A.length : Int) then G[((A.length : Int)).toNat]? else none) = some q := by
        rw [if_pos (by omega), show ((A.length : Int)).toNat = A.length by omega, hG, List.getElem?_append_right (Nat.le_refl _), Nat.sub_self]; rfl
      rw [hit, wp_on]
      refine ⟨fun e => (by cases e), fun q' e' => ?_⟩
      cases e'
      rw [wp_og, wp_og, wp_og, wp_ite]
      refine ⟨hqn, ⟨by omega, by omega⟩, ⟨by omega, by omega⟩, fun hlt => ?_, fun hge => ?_⟩
      · unfold f_Th_end
        rw [wp_ob, wp_some]
        have hA' : ∀ x ∈ A ++ [q], gT M x 4 + gT M x 5 ≤ gT M q 4 + gT M q 5 := fun x hx => by
          rcases List.mem_append.mp hx with h | h
          · have := hAq x h; omega
          · rw [List.mem_singleton] at h; rw [h]; exact Int.le_refl _
        have hG' : G = (A ++ [q]) ++ B := by rw [List.append_assoc]; exact hG
        have := ih (A ++ [q]) u (gT M q 4 + gT M q 5) (by rw [List.length_cons] at hu; omega) hG' hA' (by omega) (by omega)
        rw [List.length_append, show ((A.length + [q].length : Nat) : Int) = (A.length : Int) + 1 by simp] at this
        exact this
      · rw [wp_some]
        refine Or.inl ⟨e, rfl, he1, by omega, fun x hx => ?_⟩
        rw [hG] at hx
        rcases List.mem_append.mp hx with h | h
        · exact Or.inl (hA x h)
        · rcases List.mem_cons.mp h with h | h
          · rw [h]; exact Or.inr (by omega)
          · have := hqB x h; exact Or.inr (by omega)
theorem gap_ok {n : Nat} {M : cSt} (h : Inv n M) {a : Int} (ha : 0 ≤ a ∧ a ≤ 20) : wp (f_Pl_gapFor n M a) (fun x => x = -1 ∨ (0 ≤ x ∧ x ≤ 420 ∧ GapP n M a x)) := by
  have hfu : fu = 500 := rfl
  have hn := h.1.1
  obtain ⟨Y, O, G, hP⟩ := h.2.2.2.1
  have hN := h.2.2.2.2.1
  obtain ⟨-, -, a3, -, -, a6, -, -, a9, -, -, b3, b4, b5, b6, -⟩ := hP
  have lG := nodup_le n G a6 (fun k hk => ((a9 k).mp hk).1)
  unfold f_Pl_gapFor
  rw [wp_og, wp_ite]
  refine ⟨⟨by omega, by omega⟩, fun hs => ?_, fun hl => ?_⟩
  · rw [wp_og, wp_og, wp_ite]
    refine ⟨⟨by omega, by omega⟩, ⟨by omega, by omega⟩, fun _ => ?_, fun hr => ?_⟩
    · rw [wp_some]; exact Or.inl rfl
    · rw [wp_some]; exact Or.inr ⟨by omega, by omega, Or.inl ⟨hs, rfl, by omega⟩⟩
  · unfold f_Pl_largeGapFor
    rw [wp_ob, wp_ob]
    refine wp_mono (gap_loop (a := 2 + a) a3 (by omega) (fun k hk => ((a9 k).mp hk).1) b3 hN (by omega) G [] fu 300 (by rw [hfu]; omega) rfl (fun x hx => absurd hx List.not_mem_nil) (by decide) (by decide)) (fun o h9 => ?_)
    rw [wp_os]
    refine ⟨fun y e => ?_, fun y e => ?_⟩
    · rcases h9 with ⟨y', e', -⟩ | ⟨y', e', c1, c2, c3⟩
      · rw [e] at e'; cases e'
      · rw [e] at e'; cases e'
        rw [wp_og, wp_og, wp_ite]
        refine ⟨⟨by omega, by omega⟩, ⟨by omega, by omega⟩, fun _ => ?_, fun hr => ?_⟩
        · rw [wp_some, wp_some]; exact Or.inl rfl
        · rw [wp_some, wp_some]; exact Or.inr ⟨by omega, by omega, Or.inr ⟨by omega, c1, by omega, fun k hk hk3 => Or.inl (c3 k ((a9 k).mpr ⟨hk, hk3⟩))⟩⟩
    · rcases h9 with ⟨y', e', c1, c2, c3⟩ | ⟨y', e', -⟩
      · rw [e] at e'; cases e'
        rw [wp_some]; exact Or.inr ⟨by omega, by omega, Or.inr ⟨by omega, c1, c2, fun k hk hk3 => c3 k ((a9 k).mpr ⟨hk, hk3⟩)⟩⟩
      · rw [e] at e'; cases e'
