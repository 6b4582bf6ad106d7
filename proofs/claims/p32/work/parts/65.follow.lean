/-! LAYER 2: a MINOR follows fields, drops referents, raises FINAL ones. -/
/-- fields that a MINOR looks at lead to young ones that moved -/
def FM (M : cSt) (q : Nat) (v : Int) (Y V : List Nat) : Prop := ∀ (j p : Nat), v ≤ j → j < gL M q → gF M q j = some p → p ∈ Y → p ∈ V
theorem mfields_loop {n q : Nat} {M0 : cSt} {Y O G D : List Nat} (hq : q < n) : ∀ (u : Nat) (M : cSt) (V : List Nat) (v : Int), Mv n M0 Y O G D V M → gL M q ≤ 20 → 0 ≤ v → v ≤ gL M q → (gL M q : Int) - v < u →
    wp (g_Mi_follow_54 n (some q) u M v) (fun M' => ∃ V', Mv n M0 Y O G D (V ++ V') M' ∧ MEq M M' ∧ FM M q v Y (V ++ V')) := by
  intro u
  induction u with
  | zero => intro M V v _ _ h0 h1 h2; omega
  | succ u ih =>
    intro M V v h hb h0 h1 h2
    show wp (s_Mi_follow_54 (g_Mi_follow_54 n (some q) u) n (some q) M v) _
    unfold s_Mi_follow_54
    rw [wp_on]
    refine ⟨fun e => (by cases e), fun k e => ?_⟩
    cases e
    simp only [wp_og, wp_ite]
    refine ⟨hq, by omega, ⟨by omega, by omega⟩, ⟨by omega, by omega⟩, fun hv => ⟨⟨h0, hv⟩, ?_⟩, fun hv => ?_⟩
    · rw [wp_ob]
      have hc := h.2.2.1
      refine wp_mono (move_ok h (t := gF M q v.toNat) (fun k hk => hc.2 q _ k hk)) (fun M1 h9 => ?_)
      obtain ⟨V1, hM1, he1, -, hb1⟩ := h9
      have hg : gL M1 q = gL M q := he1.2.2.2.1 q
      refine wp_mono (ih M1 (V ++ V1) (v + 1) hM1 (by rw [hg]; exact hb) (by omega) (by rw [hg]; omega) (by rw [hg]; omega)) (fun M2 h9 => ?_)
      obtain ⟨V2, hM2, he2, hf2⟩ := h9
      refine ⟨V1 ++ V2, by rw [← List.append_assoc]; exact hM2, he1.tr he2, fun j p hj hj2 hp hpY => ?_⟩
      rw [← List.append_assoc]
      by_cases hjv : (j : Int) = v
      · have e9 : v.toNat = j := by omega
        exact List.mem_append_left _ (hb1 p (by rw [e9]; exact hp) hpY)
      · exact hf2 j p (by omega) (by rw [hg]; exact hj2) (by rw [he1.2.2.2.2.1 q j]; exact hp) hpY
    · rw [wp_some]
      refine ⟨[], by rw [List.append_nil]; exact h, Eqx.rf _ _ _ _, fun j p hj hj2 => by omega⟩
def fm (k : Int) : Int := if k = 1 then 1 else 0
/-- the first c sources are followed -/
def ScM (M : cSt) (S : List Nat) (c : Nat) (Y V : List Nat) : Prop := ∀ (i q : Nat), i < c → S[i]? = some q → FM M q (fm (gT M q 2)) Y V
theorem FM.mono {M M' : cSt} {q : Nat} {v : Int} {Y V V' : List Nat} (h : FM M q v Y V) (hL : gL M' q = gL M q) (hF : ∀ j p, gF M' q j = some p → gF M q j = some p) (hV : ∀ k ∈ V, k ∈ V') : FM M' q v Y V' := fun j p hj hj2 hp hpY => hV p (h j p hj (by rw [← hL]; exact hj2) (hF j p hp) hpY)
theorem Mv.s21 {n : Nat} {M0 M : cSt} {Y O G D V : List Nat} {v : Int} (h : Mv n M0 Y O G D V M) : Mv n M0 Y O G D V (sI M 21 v) := by
  obtain ⟨a1, a2, a3, a4, a5, a6, a7, a8, a9, b1, b2, b3, b4, b5, b6, b7, b8, b9, c1, c2, c3, c4, c5, c6, c7, c8, d1, d2, d3⟩ := h
  exact ⟨a1, ⟨a2.1, a2.2⟩, a3, a4, ⟨a5.1, a5.2⟩, a6, a7, a8, a9, b1, b2, b3, b4, b5, b6, b7, ⟨b8.1, b8.2⟩, b9, c1, c2, c3, c4, c5, c6, c7, c8, d1, d2, d3⟩
abbrev MEq2 (M M' : cSt) : Prop := Eqx [4, 13, 16, 21, 23] [3, 4, 5, 7, 11] [3, 6] M M'
theorem follow_loop {n : Nat} {M0 : cSt} {Y O G D : List Nat} : ∀ (u : Nat) (M : cSt) (V : List Nat) (c : Nat), Mv n M0 Y O G D V M → (∀ k, k < n → 2 ≤ gL M k ∧ gL M k ≤ 20) → (∀ k, k < n → 0 ≤ gT M k 2 ∧ gT M k 2 ≤ 4) → gI M 21 = c → c ≤ (D ++ V).length → ScM M (D ++ V) c Y V → n - c < u →
    wp (g_Mi_follow_0 n u M) (fun M' => ∃ V', Mv n M0 Y O G D (V ++ V') M' ∧ MEq2 M M' ∧ gI M' 21 = (D ++ (V ++ V')).length ∧ ScM M' (D ++ (V ++ V')) (D ++ (V ++ V')).length Y (V ++ V')) := by
  intro u
  induction u with
  | zero => intro M V c _ _ _ _ _ _ h; omega
  | succ u ih =>
    intro M V c h hb hk hc hcl hS hu
    obtain ⟨a1, a2, a3, a4, a5, a6, a7, a8, -, -, -, b3, -⟩ := id h
    have hSn : ∀ k ∈ D ++ V, k < n := fun k hk => by
      rcases List.mem_append.mp hk with h | h
      · exact (b3 k h).1
      · exact (a8 k (a7 k h)).1
    have hlen := nodup_le n _ a6 hSn
    have hfu : fu = 500 := rfl
    show wp (s_Mi_follow_0 (g_Mi_follow_0 n u) n M) _
    unfold s_Mi_follow_0
    rw [wp_og, wp_ite, hc]
    refine ⟨⟨by omega, by omega⟩, fun _ => ?_, fun h => by omega⟩
    rw [wp_ob]
    refine wp_of (size_ok a5) ?_
    rw [wp_og, wp_ite]
    refine ⟨⟨by omega, by omega⟩, fun hlt => ?_, fun hge => ?_⟩
    · have hltn : c < (D ++ V).length := by omega
      rw [wp_ob]
      refine wp_of (item_ok a5 (by omega) ⟨by omega, by omega⟩) ?_
      rw [if_pos (by omega), show (c : Int).toNat = c by omega, List.getElem?_eq_getElem hltn, wp_on]
      refine ⟨fun e => (by cases e), fun q e => ?_⟩
      have hqe : (D ++ V)[c] = q := Option.some.inj e
      have hq : q < n := by rw [← hqe]; exact hSn _ (List.getElem_mem hltn)
      have hbq := hb q hq
      have hkq := hk q hq
      have hitem : (some (D ++ V)[c] : Option Nat) = some q := by rw [hqe]
      have go : ∀ v : Int, v = fm (gT M q 2) → wp (ob (g_Mi_follow_54 n (some (D ++ V)[c]) fu M v) (fun x => (g_Mi_follow_0 n u) (sI x 21 (gI x 21 + 1)))) (fun M' => ∃ V', Mv n M0 Y O G D (V ++ V') M' ∧ MEq2 M M' ∧ gI M' 21 = (D ++ (V ++ V')).length ∧ ScM M' (D ++ (V ++ V')) (D ++ (V ++ V')).length Y (V ++ V')) := by
        intro v hv
        rw [hitem, wp_ob]
        have hv01 : 0 ≤ v ∧ v ≤ 1 := by rw [hv]; unfold fm; split <;> omega
        refine wp_mono (mfields_loop hq fu M V v h hbq.2 hv01.1 (by omega) (by rw [hfu]; omega)) (fun M1 h9 => ?_)
        obtain ⟨V1, hM1, he1, hf1⟩ := h9
        have hc1 : gI M1 21 = c := (he1.1 21 (by decide)).trans hc
        have heI : MEq2 M (sI M1 21 (gI M1 21 + 1)) := (he1.mono (by decide) (by decide) (by decide)).tr ⟨fun j hj => by rw [gI_sI, if_neg (fun h => hj (by rw [h]; decide))], fun _ _ _ => rfl, fun _ _ _ => rfl, fun _ => rfl, fun _ _ => rfl, fun _ => rfl⟩
        have hSc : ScM (sI M1 21 (gI M1 21 + 1)) (D ++ (V ++ V1)) (c + 1) Y (V ++ V1) := by
          intro i p hi hp
          rw [← List.append_assoc] at hp
          rw [List.getElem?_append_left (by omega)] at hp
          have hk9 : gT (sI M1 21 (gI M1 21 + 1)) p 2 = gT M p 2 := heI.2.1 p 2 (by decide)
          rw [hk9]
          by_cases hic : i = c
          · subst hic
            rw [List.getElem?_eq_getElem hltn, hqe] at hp; cases hp
            rw [← hv]
            exact hf1.mono (heI.2.2.2.1 q) (fun j p hp => by rw [← heI.2.2.2.2.1 q j]; exact hp) (fun _ h => h)
          · exact (hS i p (by omega) hp).mono (heI.2.2.2.1 p) (fun j r hr => by rw [← heI.2.2.2.2.1 p j]; exact hr) (fun k hk => List.mem_append_left _ hk)
        refine wp_mono (ih (sI M1 21 (gI M1 21 + 1)) (V ++ V1) (c + 1) hM1.s21 (fun k hk9 => by rw [heI.2.2.2.1]; exact hb k hk9) (fun k hk9 => by rw [heI.2.1 k 2 (by decide)]; exact hk k hk9) (by rw [gI_sI, if_pos rfl, hc1]; omega) (by rw [← List.append_assoc, List.length_append]; omega) hSc (by omega)) (fun M2 h9 => ?_)
        obtain ⟨V2, hM2, he2, h21, hS2⟩ := h9
        refine ⟨V1 ++ V2, ?_⟩
        rw [← List.append_assoc V]
        exact ⟨hM2, heI.tr he2, h21, hS2⟩
      rw [wp_og, wp_og, wp_ite]
      refine ⟨hq, ⟨by omega, by omega⟩, fun h1 => go 1 (by unfold fm; rw [if_pos h1]), fun h1 => go 0 (by unfold fm; rw [if_neg h1])⟩
    · rw [wp_some]
      have hcl2 : c = (D ++ V).length := by omega
      refine ⟨[], ?_⟩
      rw [List.append_nil]
      exact ⟨h, Eqx.rf _ _ _ _, by rw [hc, hcl2], by rw [← hcl2]; exact hS⟩
theorem follow_ok {n : Nat} {M0 M : cSt} {Y O G D V : List Nat} {c : Nat} (h : Mv n M0 Y O G D V M) (hb : ∀ k, k < n → 2 ≤ gL M k ∧ gL M k ≤ 20) (hk : ∀ k, k < n → 0 ≤ gT M k 2 ∧ gT M k 2 ≤ 4) (hc : gI M 21 = c) (hcl : c ≤ (D ++ V).length) (hS : ScM M (D ++ V) c Y V) :
    wp (f_Mi_follow n M) (fun M' => ∃ V', Mv n M0 Y O G D (V ++ V') M' ∧ MEq2 M M' ∧ gI M' 21 = (D ++ (V ++ V')).length ∧ ScM M' (D ++ (V ++ V')) (D ++ (V ++ V')).length Y (V ++ V')) := by
  have hfu : fu = 500 := rfl
  have hn := h.1
  unfold f_Mi_follow
  rw [wp_ob]
  refine wp_mono (follow_loop fu M V c h hb hk hc hcl hS (by rw [hfu]; omega)) (fun M' h9 => ?_)
  rw [wp_some]; exact h9
/-- referents of weak ones that are left -/
def DrM (n : Nat) (M : cSt) (v k j : Nat) : Prop := v ≤ k ∧ k < n ∧ j = 0 ∧ gT M k 2 = 1 ∧ ¬ Lft M k ∧ ∃ p, gF M k 0 = some p ∧ Lft M p
def DrMP (n : Nat) (M : cSt) (v : Nat) (M' : cSt) : Prop := FEq M M' ∧ ∀ k j, (DrM n M v k j → gF M' k j = none) ∧ (¬ DrM n M v k j → gF M' k j = gF M k j)
theorem DrMP.sub {n : Nat} {M M' : cSt} {v : Nat} (h : DrMP n M v M') : ∀ k j q, gF M' k j = some q → gF M k j = some q := fun k j q hq => by
  by_cases hd : DrM n M v k j
  · rw [(h.2 k j).1 hd] at hq; cases hq
  · rw [(h.2 k j).2 hd] at hq; exact hq
theorem Mv.feq {n : Nat} {M0 M M' : cSt} {Y O G D V : List Nat} (h : Mv n M0 Y O G D V M) (he : FEq M M') (hs : ∀ k j q, gF M' k j = some q → gF M k j = some q) : Mv n M0 Y O G D V M' := by
  obtain ⟨a1, a2, a3, a4, a5, a6, a7, a8, a9, b1, b2, b3, b4, b5, b6, b7, b8, b9, c1, c2, c3, c4, c5, c6, c7, c8, d1, d2, d3⟩ := h
  have hP : ∀ p : Int, isP M' p = isP M p := fun p => by funext k; unfold isP; rw [he.2.1]
  refine ⟨a1, he.row a2, he.refs a3 hs, fun k hk => by rw [he.2.1, he.2.1, he.2.1, he.2.1]; exact a4 k hk, he.row a5, a6, a7, a8, a9, b1, b2, b3, b4, fun k hk => by rw [he.2.1]; exact b5 k hk, fun k hk => by rw [he.2.1, he.2.1, he.2.1, he.2.1]; exact b6 k hk, fun k hk => by rw [he.2.1, he.2.1, he.2.1, he.2.1]; exact b7 k hk, by rw [hP]; exact he.row b8, by rw [hP, he.1]; exact b9.eq (fun k _ => ⟨he.2.1 k 4, he.2.1 k 5⟩), by rw [hP, he.1, he.1]; exact c1.eq (fun k _ => ⟨he.2.1 k 4, he.2.1 k 5⟩), ?_⟩
  rw [he.1, he.1, he.1, he.1, he.1, sbs_eq (fun k _ => he.2.1 k 6)]
  exact ⟨c2, c3, c4, c5, c6, c7, c8, d1, d2, d3⟩
theorem dropM_loop {n : Nat} {M0 : cSt} {Y O G D V : List Nat} : ∀ (u : Nat) (M : cSt) (v : Nat), Mv n M0 Y O G D V M → (∀ k, k < n → 2 ≤ gL M k ∧ gL M k ≤ 20) → (∀ k, k < n → 0 ≤ gT M k 2 ∧ gT M k 2 ≤ 4) → v ≤ n → n - v < u → wp (g_Mi_dropReferents_2 n u M (v : Int)) (DrMP n M v) := by
  intro u
  induction u with
  | zero => intro M v _ _ _ _ h; omega
  | succ u ih =>
    intro M v h hb hk hv hu
    have hn := h.1
    have hc := h.2.2.1
    have h11 : ∀ k, k < n → gT M k 11 = 0 ∨ gT M k 11 = 1 := fun k hk => by
      have := h.2.2.2.2.2.2.2.2.2.2.2.2.2.1 k hk
      rw [this]; split; exact Or.inr rfl; exact Or.inl rfl
    have hpl := h.pl
    show wp (s_Mi_dropReferents_2 (g_Mi_dropReferents_2 n u) n M (v : Int)) _
    unfold s_Mi_dropReferents_2
    rw [wp_ob]
    refine wp_of (size_ok h.2.1) ?_
    rw [List.length_range, wp_og, wp_og, wp_ite]
    refine ⟨⟨by omega, by omega⟩, ⟨by omega, by omega⟩, fun hlt => ?_, fun hge => ?_⟩
    · rw [wp_ob]
      refine wp_of (item_ok h.2.1 (by rw [List.length_range]; omega) ⟨by omega, by omega⟩) ?_
      rw [if_pos (by omega), show (v : Int).toNat = v by omega, List.getElem?_range (by omega), wp_on]
      refine ⟨fun e => (by cases e), fun q e => ?_⟩
      cases e
      have hvn : v < n := by omega
      have hkv := hk v hvn
      have hbv := hb v hvn
      have hpv := hpl v hvn
      have go : ∀ M1, FEq M M1 → (∀ k j, (k = v ∧ DrM n M v v j → gF M1 k j = none) ∧ (¬ (k = v ∧ DrM n M v v j) → gF M1 k j = gF M k j)) → wp (g_Mi_dropReferents_2 n u M1 ((v : Int) + 1)) (DrMP n M v) := by
        intro M1 hF hG
        have hsub : ∀ k j q, gF M1 k j = some q → gF M k j = some q := fun k j q hq => by
          by_cases hd : k = v ∧ DrM n M v v j
          · rw [(hG k j).1 hd] at hq; cases hq
          · rw [(hG k j).2 hd] at hq; exact hq
        refine wp_mono (ih M1 (v + 1) (h.feq hF hsub) (fun k hk9 => by rw [hF.2.2.2.1]; exact hb k hk9) (fun k hk9 => by rw [hF.2.1]; exact hk k hk9) (by omega) (by omega)) (fun M2 h9 => ?_)
        obtain ⟨hF2, hG2⟩ := h9
        have hlf : ∀ k, Lft M1 k ↔ Lft M k := fun k => by unfold Lft; rw [hF.2.1, hF.2.1]
        have hdr : ∀ k j, k ≠ v → (DrM n M1 (v + 1) k j ↔ DrM n M v k j) := fun k j hkv9 => by
          unfold DrM
          rw [hF.2.1 k 2, (hG k 0).2 (fun h9 => hkv9 h9.1)]
          simp only [hlf]
          exact ⟨fun h9 => ⟨by omega, h9.2⟩, fun h9 => ⟨by omega, h9.2⟩⟩
        refine ⟨hF.tr hF2, fun k j => ⟨fun hd => ?_, fun hd => ?_⟩⟩
        · by_cases hkv9 : k = v
          · subst hkv9
            rw [(hG2 k j).2 (fun h9 => by have := h9.1; omega)]
            exact (hG k j).1 ⟨rfl, hd⟩
          · exact (hG2 k j).1 ((hdr k j hkv9).mpr hd)
        · by_cases hkv9 : k = v
          · subst hkv9
            rw [(hG2 k j).2 (fun h9 => by have := h9.1; omega)]
            exact (hG k j).2 (fun h9 => hd h9.2)
          · rw [(hG2 k j).2 (fun h9 => hd ((hdr k j hkv9).mp h9))]
            exact (hG k j).2 (fun h9 => hkv9 h9.1)
      have same : (∀ j, ¬ DrM n M v v j) → wp (g_Mi_dropReferents_2 n u M ((v : Int) + 1)) (DrMP n M v) := fun hno => go M (FEq.rf M) (fun k j => ⟨fun h9 => absurd h9.2 (hno j), fun _ => rfl⟩)
      rw [wp_og, wp_og, wp_ite]
      refine ⟨hvn, ⟨by omega, by omega⟩, fun h1 => ?_, fun h1 => same (fun j hd => h1 hd.2.2.2.1)⟩
      rw [wp_ob]
      refine wp_mono (isLeft_ok hvn ⟨by omega, by omega⟩ (h11 v hvn)) (fun x hx => ?_)
      obtain ⟨hx01, hxi⟩ := hx
      rw [wp_og, wp_ite]
      refine ⟨by rcases hx01 with h | h <;> rw [h] <;> exact ⟨by decide, by decide⟩, fun hx0 => ?_, fun hx0 => same (fun j hd => hd.2.2.2.2.1 (hxi.mp hx0))⟩
      have hnl : ¬ Lft M v := fun h9 => absurd hx0 (hxi.mpr h9)
      rw [wp_ob]
      refine wp_of (read_ok (by omega) (by decide) (by omega)) ?_
      rw [show (0 : Int).toNat = 0 from rfl, wp_ob]
      have hL : wp (f_Mi_isLeft n M (gF M v 0)) (fun x => (x = 0 ∨ x = 1) ∧ (x ≠ 0 ↔ ∃ p, gF M v 0 = some p ∧ Lft M p)) := by
        cases hg : gF M v 0 with
        | none => exact ⟨0, rfl, Or.inl rfl, fun h9 => absurd rfl h9, fun ⟨p, hp, _⟩ => by cases hp⟩
        | some p =>
          have hp := hc.2 v 0 p hg
          have hpp := hpl p hp
          refine wp_mono (isLeft_ok hp ⟨by omega, by omega⟩ (h11 p hp)) (fun x hx => ⟨hx.1, hx.2.trans ⟨fun h9 => ⟨p, rfl, h9⟩, fun ⟨p', e, h9⟩ => by cases e; exact h9⟩⟩)
      refine wp_mono hL (fun y hy => ?_)
      obtain ⟨hy01, hyi⟩ := hy
      rw [wp_og, wp_ite]
      refine ⟨by rcases hy01 with h | h <;> rw [h] <;> exact ⟨by decide, by decide⟩, fun hy0 => same (fun j hd => absurd hy0 (hyi.mpr hd.2.2.2.2.2)), fun hy0 => ?_⟩
      rw [wp_ob]
      refine wp_of (write_ok (by omega) (by decide) (by omega)) ?_
      refine go _ ⟨fun _ => rfl, fun _ _ => rfl, fun _ _ => rfl, fun _ => rfl, fun _ => rfl⟩ (fun k j => ⟨fun h9 => ?_, fun h9 => ?_⟩)
      · rw [gF_sF, if_pos ⟨h9.1, by rw [h9.2.2.2.1]; rfl⟩]
      · rw [gF_sF, if_neg (fun h8 => h9 ⟨h8.1, Nat.le_refl _, hvn, h8.2, h1, hnl, hyi.mp hy0⟩)]
    · rw [wp_some]
      exact ⟨FEq.rf M, fun k j => ⟨fun h9 => by have := h9.1; have := h9.2.1; omega, fun _ => rfl⟩⟩
theorem dropM_ok {n : Nat} {M0 M : cSt} {Y O G D V : List Nat} (h : Mv n M0 Y O G D V M) (hb : ∀ k, k < n → 2 ≤ gL M k ∧ gL M k ≤ 20) (hk : ∀ k, k < n → 0 ≤ gT M k 2 ∧ gT M k 2 ≤ 4) : wp (f_Mi_dropReferents n M) (fun M' => DrMP n M 0 M' ∧ Mv n M0 Y O G D V M') := by
  have hfu : fu = 500 := rfl
  have hn := h.1
  unfold f_Mi_dropReferents
  rw [wp_ob]
  refine wp_mono (dropM_loop fu M 0 h hb hk (Nat.zero_le _) (by rw [hfu]; omega)) (fun M' h9 => ?_)
  rw [wp_some]
  exact ⟨h9, h.feq h9.1 h9.sub⟩
