/-! LAYER 2: what follows from what is marked. -/
/-- a pair's value, its key marked -/
def Val (M : cSt) (q a k : Nat) : Prop := gT M q 2 = 3 ∧ gR M 9 0 ≠ some q ∧ gT M q 13 = 0 ∧ gF M q 0 = some a ∧ gF M q 1 = some k
/-- the least set over I that follows strong fields, and values of pairs whose key is in it -/
def Rch (M : cSt) (I : Nat → Prop) (k : Nat) : Prop := ∀ S : Nat → Prop, (∀ k, I k → S k) → (∀ q k, S q → Fol M q k → S k) → (∀ q a k, S q → S a → Val M q a k → S k) → S k
theorem Rch.base {M : cSt} {I : Nat → Prop} {k : Nat} (h : I k) : Rch M I k := fun _ h1 _ _ => h1 k h
theorem Rch.fol {M : cSt} {I : Nat → Prop} {q k : Nat} (h : Rch M I q) (hf : Fol M q k) : Rch M I k := fun S h1 h2 h3 => h2 q k (h S h1 h2 h3) hf
theorem Rch.val {M : cSt} {I : Nat → Prop} {q a k : Nat} (h : Rch M I q) (ha : Rch M I a) (hv : Val M q a k) : Rch M I k := fun S h1 h2 h3 => h3 q a k (h S h1 h2 h3) (ha S h1 h2 h3) hv
theorem Rch.trans {M : cSt} {I J : Nat → Prop} {k : Nat} (h : Rch M J k) (hJ : ∀ k, J k → Rch M I k) : Rch M I k :=
  h (Rch M I) hJ (fun _ _ a b => a.fol b) (fun _ _ _ a b c => a.val b c)
theorem Rch.mono {M : cSt} {I J : Nat → Prop} {k : Nat} (h : Rch M I k) (hJ : ∀ k, I k → J k) : Rch M J k := h.trans (fun k hk => Rch.base (hJ k hk))
theorem Fol.eqx {M M' : cSt} {T R : List Nat} {q k : Nat} {I : List Nat} (he : Eqx I T R M M') (h1 : 19 ∉ I) (h2 : 2 ∉ T) (h3 : 9 ∉ R) : Fol M' q k ↔ Fol M q k := by
  unfold Fol
  rw [he.2.2.1 9 0 h3, he.2.1 q 2 h2, he.1 19 h1, he.2.2.2.1 q]
  exact ⟨fun ⟨a, j, b, c, d⟩ => ⟨a, j, b, c, by rw [← he.2.2.2.2.1 q j]; exact d⟩, fun ⟨a, j, b, c, d⟩ => ⟨a, j, b, c, by rw [he.2.2.2.2.1 q j]; exact d⟩⟩
theorem Val.eqx {M M' : cSt} {T R : List Nat} {q a k : Nat} {I : List Nat} (he : Eqx I T R M M') (h2 : 2 ∉ T) (h3 : 9 ∉ R) (h4 : 13 ∉ T) : Val M' q a k ↔ Val M q a k := by
  unfold Val
  rw [he.2.2.1 9 0 h3, he.2.1 q 2 h2, he.2.1 q 13 h4, he.2.2.2.2.1 q 0, he.2.2.2.2.1 q 1]
theorem Rch.eqx {M M' : cSt} {J : Nat → Prop} {k : Nat} (he : Eqx [15, 18] [12] [5] M M') : Rch M' J k ↔ Rch M J k := by
  constructor
  · exact fun h => h _ (fun _ hk => Rch.base hk) (fun q k a b => a.fol ((Fol.eqx he (by decide) (by decide) (by decide)).mp b)) (fun q a k x y z => x.val y ((Val.eqx he (by decide) (by decide) (by decide)).mp z))
  · exact fun h => h _ (fun _ hk => Rch.base hk) (fun q k a b => a.fol ((Fol.eqx he (by decide) (by decide) (by decide)).mpr b)) (fun q a k x y z => x.val y ((Val.eqx he (by decide) (by decide) (by decide)).mpr z))
theorem e15 {M M' : cSt} (h : Eqx [15] [12] [5] M M') : Eqx [15, 18] [12] [5] M M' := h.mono (by decide) (by decide) (by decide)
theorem Mkd.s18 {n : Nat} {M : cSt} {L : List Nat} {v : Int} (h : Mkd n M L) : Mkd n (sI M 18 v) L := ⟨⟨h.1.1, h.1.2⟩, h.2⟩
theorem eqx18 (M : cSt) (v : Int) : Eqx [15, 18] [12] [5] M (sI M 18 v) :=
  ⟨fun j hj => by rw [gI_sI, if_neg (fun h9 => hj (by rw [h9]; decide))], fun _ _ _ => rfl, fun _ _ _ => rfl, fun _ => rfl, fun _ _ => rfl, fun _ => rfl⟩
theorem TC.s18 {n : Nat} {M : cSt} {v : Int} (h : TC n M) : TC n (sI M 18 v) := h.eqx (eqx18 M v) (fun j k hk => h.2.2.1.1 5 j k hk)
theorem read_ok {n q : Nat} {M : cSt} {i : Int} (hb : gL M q ≤ 20) (h0 : 0 ≤ i) (hi : i < gL M q) : f_Th_read n M q i = some (gF M q i.toNat) := by
  refine wp_eq ?_
  unfold f_Th_read
  simp only [wp_og, wp_ite, wp_some]
  exact ⟨⟨by omega, by omega⟩, fun h => by omega, fun _ => ⟨by omega, ⟨by omega, by omega⟩, fun _ => ⟨⟨h0, hi⟩, trivial⟩, fun h => by omega⟩⟩
theorem hasMarked_ok {n q : Nat} (hq : q < n) {M : cSt} {L : List Nat} (hT : TC n M) (hM : Mkd n M L) :
    wp (f_Tr_hasMarked n M (some q) 0) (fun x => (x = 0 ∨ x = 1) ∧ (x ≠ 0 ↔ ∃ a, gF M q 0 = some a ∧ a ∈ L)) := by
  have hb := hT.2.2.2.1 q hq
  unfold f_Tr_hasMarked
  rw [wp_on]
  refine ⟨fun e => (by cases e), fun q1 e => ?_⟩
  cases e
  rw [wp_og, wp_ob]
  refine ⟨hq, wp_of (read_ok (by omega) (by decide) (by omega)) ?_⟩
  rw [wp_on]
  refine ⟨fun e => ?_, fun a e => ?_⟩
  · rw [wp_some]
    refine ⟨Or.inl rfl, fun h => absurd rfl h, fun ⟨a, ha, _⟩ => ?_⟩
    rw [show (0 : Int).toNat = 0 from rfl] at e
    rw [e] at ha; cases ha
  · rw [show (0 : Int).toNat = 0 from rfl] at e
    have ha := hT.2.2.1.2 q 0 a e
    have hf := hM.2.2.2 a ha
    simp only [wp_og, wp_ite, wp_some]
    refine ⟨ha, ?_, fun h => ⟨Or.inl trivial, fun h9 => absurd rfl h9, fun ⟨b, hb1, hb2⟩ => ?_⟩, fun h => ⟨Or.inr trivial, fun _ => ⟨a, e, ?_⟩, fun _ => by decide⟩⟩
    · rw [hf]; split <;> exact ⟨by decide, by decide⟩
    · rw [e] at hb1; cases hb1; rw [if_pos hb2] at hf; omega
    · by_cases h9 : a ∈ L
      · exact h9
      · rw [if_neg h9] at hf; exact absurd hf h
/-- all fields of the first c marked things are followed -/
def Scn (M : cSt) (L : List Nat) (c : Nat) : Prop := ∀ (j q : Nat), j < c → L[j]? = some q → ∀ k, Fol M q k → k ∈ L
theorem marked_item {n : Nat} {M : cSt} {L : List Nat} (hT : TC n M) (hM : Mkd n M L) {i : Int} (h0 : 0 ≤ i) (h1 : i < L.length) : f_Row_item n M 5 i = some L[i.toNat]? := by
  have := hM.len
  have := hT.1
  rw [item_ok hM.1 (by omega) ⟨by omega, by omega⟩, if_pos h0]
theorem scan_loop {n : Nat} {v1 : Int} : ∀ (u : Nat) (M : cSt) (L : List Nat) (c : Nat), TC n M → Mkd n M L → gI M 18 = c → c ≤ L.length → Scn M L c → n - c < u →
    wp (g_Tr_spread_9 n v1 u M) (fun M' => TC n M' ∧ Eqx [15, 18] [12] [5] M M' ∧ ∃ L', Mkd n M' (L ++ L') ∧ gI M' 18 = (L ++ L').length ∧ Scn M' (L ++ L') (L ++ L').length ∧ ∀ k ∈ L', Rch M (· ∈ L) k) := by
  intro u
  induction u with
  | zero => intro M L c _ _ _ _ _ h; omega
  | succ u ih =>
    intro M L c hT hM hc hcl hS hu
    have hlen := hM.len
    have hn := hT.1
    show wp (s_Tr_spread_9 (g_Tr_spread_9 n v1 u) n v1 M) _
    unfold s_Tr_spread_9
    rw [wp_og, wp_ite, hc]
    refine ⟨⟨by omega, by omega⟩, fun _ => ?_, fun h => by omega⟩
    rw [wp_ob]
    refine wp_of (size_ok hM.1) ?_
    rw [wp_og, wp_ite]
    refine ⟨⟨by omega, by omega⟩, fun hlt => ?_, fun hge => ?_⟩
    · have hltn : c < L.length := by omega
      rw [wp_ob]
      refine wp_of (marked_item hT hM (by omega) (by omega)) ?_
      rw [show (c : Int).toNat = c by omega, List.getElem?_eq_getElem hltn, wp_ob]
      have hq : L[c] < n := hM.2.2.1 _ (List.getElem_mem hltn)
      refine wp_mono (fieldsOf_ok hq hT hM) (fun M1 h => ?_)
      obtain ⟨hT1, he1, L1, hM1, ha1, hb1⟩ := h
      have hc1 : gI M1 18 = c := (he1.1 18 (by decide)).trans hc
      have hS1 : Scn (sI M1 18 (gI M1 18 + 1)) (L ++ L1) (c + 1) := by
        intro j q hj hq9 k hk
        have hk : Fol M q k := (Fol.eqx he1 (by decide) (by decide) (by decide)).mp ((Fol.eqx (eqx18 M1 (gI M1 18 + 1)) (by decide) (by decide) (by decide)).mp hk)
        rw [List.getElem?_append_left (by omega)] at hq9
        by_cases hjc : j = c
        · subst hjc
          rw [List.getElem?_eq_getElem hltn] at hq9; cases hq9
          exact hb1 k hk
        · exact List.mem_append_left _ (hS j q (by omega) hq9 k hk)
      refine wp_mono (ih (sI M1 18 (gI M1 18 + 1)) (L ++ L1) (c + 1) hT1.s18 hM1.s18 (by rw [gI_sI, if_pos rfl, hc1]; omega) (by rw [List.length_append]; omega) hS1 (by omega)) (fun M2 h => ?_)
      obtain ⟨hT2, he2, L2, hM2, h18, hS2, hr2⟩ := h
      have he12 : Eqx [15, 18] [12] [5] M (sI M1 18 (gI M1 18 + 1)) := (e15 he1).tr (eqx18 _ _)
      refine ⟨hT2, he12.tr he2, L1 ++ L2, ?_⟩
      rw [← List.append_assoc]
      refine ⟨hM2, h18, hS2, fun k hk => ?_⟩
      have hL1 : ∀ k, k ∈ L ++ L1 → Rch M (· ∈ L) k := fun k hk => by
        rcases List.mem_append.mp hk with hk | hk
        · exact Rch.base hk
        · exact (Rch.base (List.getElem_mem hltn)).fol (ha1 k hk)
      rcases List.mem_append.mp hk with hk | hk
      · exact hL1 k (List.mem_append_right _ hk)
      · exact ((Rch.eqx he12).mp (hr2 k hk)).trans hL1
    · rw [wp_some]
      have hcl2 : c = L.length := by omega
      refine ⟨hT, Eqx.rf _ _ _ _, [], ?_⟩
      rw [List.append_nil]
      exact ⟨hM, by rw [hc, hcl2], by rw [← hcl2]; exact hS, fun k hk => absurd hk List.not_mem_nil⟩
/-- values of marked pairs -/
theorem values_loop {n N : Nat} : ∀ (u : Nat) (M : cSt) (L : List Nat) (v : Nat), TC n M → Mkd n M L → v ≤ N → N ≤ L.length → N - v < u →
    wp (g_Tr_markValues_10 n (N : Int) u M (v : Int)) (fun M' => TC n M' ∧ Eqx [15] [12] [5] M M' ∧ ∃ L', Mkd n M' (L ++ L') ∧ (∀ k ∈ L', Rch M (· ∈ L) k) ∧ (L' = [] → ∀ (j q : Nat), v ≤ j → j < N → L[j]? = some q → ∀ a k, Val M q a k → a ∈ L → k ∈ L)) := by
  intro u
  induction u with
  | zero => intro M L v _ _ _ _ h; omega
  | succ u ih =>
    intro M L v hT hM hv hN hu
    have hlen := hM.len
    have hn := hT.1
    show wp (s_Tr_markValues_10 (g_Tr_markValues_10 n (N : Int) u) n (N : Int) M (v : Int)) _
    unfold s_Tr_markValues_10
    rw [wp_og, wp_og, wp_ite]
    refine ⟨⟨by omega, by omega⟩, ⟨by omega, by omega⟩, fun hlt => ?_, fun hge => ?_⟩
    · have hvl : v < L.length := by omega
      rw [wp_ob]
      refine wp_of (marked_item hT hM (by omega) (by omega)) ?_
      rw [show (v : Int).toNat = v by omega, List.getElem?_eq_getElem hvl, wp_on]
      refine ⟨fun e => (by cases e), fun q e => ?_⟩
      have hqL : q ∈ L := by cases e; exact List.getElem_mem hvl
      have hq : q < n := hM.2.2.1 q hqL
      have hgq : L[v]? = some q := by rw [List.getElem?_eq_getElem hvl]; exact e
      have hb := hT.2.2.2.1 q hq
      have hkd := hT.2.2.2.2.1 q hq
      -- nothing to do here
      have skip : (∀ a k, Val M q a k → a ∈ L → k ∈ L) → wp (g_Tr_markValues_10 n (N : Int) u M ((v : Int) + 1)) (fun M' => TC n M' ∧ Eqx [15] [12] [5] M M' ∧ ∃ L', Mkd n M' (L ++ L') ∧ (∀ k ∈ L', Rch M (· ∈ L) k) ∧ (L' = [] → ∀ (j q : Nat), v ≤ j → j < N → L[j]? = some q → ∀ a k, Val M q a k → a ∈ L → k ∈ L)) := by
        intro hno
        refine wp_mono (ih M L (v + 1) hT hM (by omega) hN (by omega)) (fun M1 h => ?_)
        obtain ⟨hT1, he1, L1, hM1, ha1, hb1⟩ := h
        refine ⟨hT1, he1, L1, hM1, ha1, fun e9 j q9 hj hjN hq9 a k hval hain => ?_⟩
        by_cases hjv : j = v
        · subst hjv; rw [hgq] at hq9; cases hq9; exact hno a k hval hain
        · exact hb1 e9 j q9 (by omega) hjN hq9 a k hval hain
      -- a pair that is neither hollow nor cut
      have main : gR M 9 0 ≠ some q → gT M q 2 = 3 → wp (og (inR (gT M q 13)) (if gT M q 13 = 0 then ob (f_Tr_hasMarked n M (some q) 0) (fun x12 => og (inR x12) (if x12 = 0 then (g_Tr_markValues_10 n (N : Int) u) M ((v : Int) + 1) else ob (f_Th_read n M q 1) (fun x15 => ob (f_Tr_mark n M x15) (fun x16 => (g_Tr_markValues_10 n (N : Int) u) x16 ((v : Int) + 1))))) else (g_Tr_markValues_10 n (N : Int) u) M ((v : Int) + 1))) (fun M' => TC n M' ∧ Eqx [15] [12] [5] M M' ∧ ∃ L', Mkd n M' (L ++ L') ∧ (∀ k ∈ L', Rch M (· ∈ L) k) ∧ (L' = [] → ∀ (j q : Nat), v ≤ j → j < N → L[j]? = some q → ∀ a k, Val M q a k → a ∈ L → k ∈ L)) := by
        intro hnh hk3
        rw [wp_og, wp_ite]
        refine ⟨?_, fun h13 => ?_, fun h13 => skip (fun a k hval _ => absurd hval.2.2.1 h13)⟩
        · rcases hT.2.2.2.2.2.2 q hq with h | h <;> rw [h] <;> exact ⟨by decide, by decide⟩
        rw [wp_ob]
        refine wp_mono (hasMarked_ok hq hT hM) (fun x hx => ?_)
        obtain ⟨hx01, hxi⟩ := hx
        rw [wp_og, wp_ite]
        refine ⟨by rcases hx01 with h | h <;> rw [h] <;> exact ⟨by decide, by decide⟩, fun hx0 => skip (fun a k hval hain => absurd hx0 (hxi.mpr ⟨a, hval.2.2.2.1, hain⟩)), fun hx0 => ?_⟩
        obtain ⟨a0, ha0, ha0L⟩ := hxi.mp hx0
        rw [wp_ob]
        refine wp_of (read_ok (by omega) (by decide) (by omega)) ?_
        rw [show (1 : Int).toNat = 1 from rfl, wp_ob]
        refine wp_mono (mark_ok hT hM (fun k hk => hT.2.2.1.2 q 1 k hk)) (fun M1 h => ?_)
        obtain ⟨hT1, he1, L1, hM1, ha1, hb1⟩ := h
        refine wp_mono (ih M1 (L ++ L1) (v + 1) hT1 hM1 (by omega) (by rw [List.length_append]; omega) (by omega)) (fun M2 h => ?_)
        obtain ⟨hT2, he2, L2, hM2, ha2, hb2⟩ := h
        have hL1 : ∀ k, k ∈ L ++ L1 → Rch M (· ∈ L) k := fun k hk => by
          rcases List.mem_append.mp hk with hk | hk
          · exact Rch.base hk
          · exact (Rch.base hqL).val (Rch.base ha0L) ⟨hk3, hnh, h13, ha0, ha1 k hk⟩
        refine ⟨hT2, he1.tr he2, L1 ++ L2, ?_⟩
        rw [← List.append_assoc]
        refine ⟨hM2, fun k hk => ?_, fun e9 j q9 hj hjN hq9 a k hval hain => ?_⟩
        · rcases List.mem_append.mp hk with hk | hk
          · exact hL1 k (List.mem_append_right _ hk)
          · exact ((Rch.eqx (e15 he1)).mp (ha2 k hk)).trans hL1
        · obtain ⟨e1, e2⟩ := List.append_eq_nil_iff.mp e9
          subst e1; subst e2
          rw [List.append_nil] at hb1
          by_cases hjv : j = v
          · subst hjv; rw [hgq] at hq9; cases hq9
            exact hb1 k hval.2.2.2.2
          · have h7 := hb2 rfl j q9 (by omega) hjN (by rw [List.append_nil]; exact hq9) a k ((Val.eqx he1 (by decide) (by decide) (by decide)).mpr hval) (by rw [List.append_nil]; exact hain)
            rw [List.append_nil] at h7; exact h7
      simp only [wp_og]
      refine ⟨hq, ⟨by omega, by omega⟩, ?_⟩
      rw [wp_ite]
      refine ⟨fun hk3 => ?_, fun hk3 => skip (fun a k hval _ => absurd hval.1 hk3)⟩
      rw [wp_on]
      refine ⟨fun e9 => main (by rw [e9]; exact fun h => by cases h) hk3, fun q2 e9 => ?_⟩
      rw [wp_og, wp_ite]
      refine ⟨hT.2.2.1.1 9 0 q2 e9, fun h => skip (fun a k hval _ => absurd (by rw [e9, h]) hval.2.1), fun h => main (by rw [e9]; exact fun h9 => h (Option.some.inj h9).symm) hk3⟩
    · rw [wp_some]
      refine ⟨hT, Eqx.rf _ _ _ _, [], ?_⟩
      rw [List.append_nil]
      exact ⟨hM, fun k hk => absurd hk List.not_mem_nil, fun _ j q hj hjN => by omega⟩
/-- what spreading leaves: the least set over what was marked -/
def Spr (n : Nat) (M : cSt) (L : List Nat) (M' : cSt) : Prop := TC n M' ∧ Eqx [15, 18] [12] [5] M M' ∧ ∃ L', Mkd n M' (L ++ L') ∧ gI M' 18 = (L ++ L').length ∧ Scn M' (L ++ L') (L ++ L').length ∧ ∀ k, k ∈ L ++ L' ↔ Rch M (· ∈ L) k
theorem spread_loop {n : Nat} : ∀ (u : Nat) (M : cSt) (L : List Nat) (c : Nat) (v : Int), TC n M → Mkd n M L → gI M 18 = c → c ≤ L.length → Scn M L c → 0 ≤ v → v ≤ L.length → (n : Int) - v + 1 < u →
    wp (g_Tr_spread_2 n u M v) (fun o => ∃ M', o = .inr M' ∧ Spr n M L M') := by
  intro u
  induction u with
  | zero =>
    intro M L c v _ hM _ _ _ h0 hv h
    have := hM.len
    omega
  | succ u ih =>
    intro M L c v hT hM hc hcl hS h0 hv hu
    have hlen := hM.len
    have hn := hT.1
    have hfu : fu = 500 := rfl
    show wp (s_Tr_spread_2 (g_Tr_spread_2 n u) n M v) _
    unfold s_Tr_spread_2
    rw [wp_og, wp_ite]
    refine ⟨⟨by omega, by omega⟩, fun h => by omega, fun _ => ?_⟩
    rw [wp_ob]
    refine wp_mono (scan_loop fu M L c hT hM hc hcl hS (by rw [hfu]; omega)) (fun M1 h => ?_)
    obtain ⟨hT1, he1, L1, hM1, h18, hS1, hr1⟩ := h
    have hlen1 := hM1.len
    rw [wp_ob]
    have hL1 : ∀ k, k ∈ L ++ L1 → Rch M (· ∈ L) k := fun k hk => by
      rcases List.mem_append.mp hk with hk | hk
      · exact Rch.base hk
      · exact hr1 k hk
    have hv2 : wp (f_Tr_markValues n M1) (fun x => TC n x.1 ∧ Eqx [15] [12] [5] M1 x.1 ∧ ∃ L2, Mkd n x.1 ((L ++ L1) ++ L2) ∧ (∀ k ∈ L2, Rch M1 (· ∈ L ++ L1) k) ∧ ((x.2 = 0 ∧ L2 = [] ∧ ∀ (j q : Nat), j < (L ++ L1).length → (L ++ L1)[j]? = some q → ∀ a k, Val M1 q a k → a ∈ L ++ L1 → k ∈ L ++ L1) ∨ (x.2 = 1 ∧ 1 ≤ L2.length))) := by
      unfold f_Tr_markValues
      rw [wp_ob]
      refine wp_of (size_ok hM1.1) ?_
      rw [wp_ob]
      refine wp_mono (values_loop fu M1 (L ++ L1) 0 hT1 hM1 (Nat.zero_le _) (Nat.le_refl _) (by rw [hfu]; omega)) (fun M2 h => ?_)
      obtain ⟨hT2, he2, L2, hM2, hr2, hcl2⟩ := h
      have hlen2 := hM2.len
      rw [wp_ob]
      refine wp_of (size_ok hM2.1) ?_
      rw [wp_og, wp_og, wp_ite]
      refine ⟨⟨by omega, by omega⟩, ⟨by omega, by omega⟩, fun h => ?_, fun h => ?_⟩
      · rw [wp_some]
        exact ⟨hT2, he2, L2, hM2, hr2, Or.inr ⟨rfl, by rw [List.length_append (bs := L2)] at h; omega⟩⟩
      · rw [wp_some]
        have e9 : L2 = [] := by
          rw [List.length_append (bs := L2)] at h
          exact List.eq_nil_of_length_eq_zero (by omega)
        exact ⟨hT2, he2, L2, hM2, hr2, Or.inl ⟨rfl, e9, fun j q hj hq => hcl2 e9 j q (Nat.zero_le _) hj hq⟩⟩
    refine wp_mono hv2 (fun x h => ?_)
    obtain ⟨hT2, he2, L2, hM2, hr2, h⟩ := h
    have he12 : Eqx [15, 18] [12] [5] M x.1 := he1.tr (e15 he2)
    have hL2 : ∀ k, k ∈ (L ++ L1) ++ L2 → Rch M (· ∈ L) k := fun k hk => by
      rcases List.mem_append.mp hk with hk | hk
      · exact hL1 k hk
      · exact ((Rch.eqx he1).mp (hr2 k hk)).trans hL1
    rcases h with ⟨hx0, e9, hcl2⟩ | ⟨hx1, hlt⟩
    · rw [wp_og, wp_ite]
      refine ⟨by rw [hx0]; exact ⟨by decide, by decide⟩, fun _ => ?_, fun h => absurd hx0 h⟩
      rw [wp_some]
      subst e9
      rw [List.append_nil] at hM2 hL2
      refine ⟨x.1, rfl, hT2, he12, L1, hM2, (he2.1 18 (by decide)).trans h18, fun j q hj hq k hk => hS1 j q hj hq k ((Fol.eqx he2 (by decide) (by decide) (by decide)).mp hk), fun k => ⟨hL2 k, fun hr => ?_⟩⟩
      refine hr (· ∈ L ++ L1) (fun k hk => List.mem_append_left _ hk) (fun q k hq hf => ?_) (fun q a k hq ha hval => ?_)
      · obtain ⟨j, hj, hj2⟩ := List.getElem_of_mem hq
        exact hS1 j q hj (by rw [List.getElem?_eq_getElem hj, hj2]) k ((Fol.eqx he1 (by decide) (by decide) (by decide)).mpr hf)
      · obtain ⟨j, hj, hj2⟩ := List.getElem_of_mem hq
        exact hcl2 j q hj (by rw [List.getElem?_eq_getElem hj, hj2]) a k ((Val.eqx he1 (by decide) (by decide) (by decide)).mpr hval) ha
    · rw [wp_og, wp_ite]
      refine ⟨by rw [hx1]; exact ⟨by decide, by decide⟩, fun h => by omega, fun _ => ?_⟩
      have hS2 : Scn x.1 ((L ++ L1) ++ L2) (L ++ L1).length := fun j q hj hq k hk => by
        rw [List.getElem?_append_left hj] at hq
        exact List.mem_append_left _ (hS1 j q hj hq k ((Fol.eqx he2 (by decide) (by decide) (by decide)).mp hk))
      refine wp_mono (ih x.1 ((L ++ L1) ++ L2) (L ++ L1).length (v + 1) hT2 hM2 ((he2.1 18 (by decide)).trans h18) (by rw [List.length_append (bs := L2)]; omega) hS2 (by omega) (by rw [List.length_append (bs := L2), List.length_append]; omega) (by omega)) (fun o h => ?_)
      obtain ⟨M3, ho, hT3, he3, L3, hM3, h183, hS3, hr3⟩ := h
      refine ⟨M3, ho, hT3, he12.tr he3, (L1 ++ L2) ++ L3, ?_⟩
      have ea : L ++ ((L1 ++ L2) ++ L3) = ((L ++ L1) ++ L2) ++ L3 := by simp only [List.append_assoc]
      rw [ea]
      refine ⟨hM3, h183, hS3, fun k => ⟨fun hk => ((Rch.eqx he12).mp ((hr3 k).mp hk)).trans hL2, fun hk => (hr3 k).mpr (((Rch.eqx he12).mpr hk).mono (fun k hk => List.mem_append_left _ (List.mem_append_left _ hk)))⟩⟩
theorem spread_ok {n : Nat} {M : cSt} {L : List Nat} {c : Nat} (hT : TC n M) (hM : Mkd n M L) (hc : gI M 18 = c) (hcl : c ≤ L.length) (hS : Scn M L c) : wp (f_Tr_spread n M) (Spr n M L) := by
  have hfu : fu = 500 := rfl
  have hn := hT.1
  unfold f_Tr_spread
  rw [wp_ob]
  refine wp_mono (spread_loop fu M L c 0 hT hM hc hcl hS (by decide) (by omega) (by rw [hfu]; omega)) (fun o h => ?_)
  obtain ⟨M', ho, h⟩ := h
  rw [wp_os]
  refine ⟨fun y e => ?_, fun y e => ?_⟩
  · rw [ho] at e; cases e
  · rw [ho] at e; cases e; exact h
