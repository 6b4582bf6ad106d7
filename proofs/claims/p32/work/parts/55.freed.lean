/-! LAYER 2: what is reachable, and what would be freed, out of a state's lasting part. -/
def FolP (M : cSt) (s : Int) (h : Option Nat) (q k : Nat) : Prop := h ≠ some q ∧ ∃ j : Nat, fS (gT M q 2) s ≤ j ∧ j < gL M q ∧ gF M q j = some k
def ValP (M : cSt) (h : Option Nat) (C : Nat → Prop) (q a k : Nat) : Prop := gT M q 2 = 3 ∧ h ≠ some q ∧ ¬ C q ∧ gF M q 0 = some a ∧ gF M q 1 = some k
/-- the least set over I: s softness, h the hollow one, C the cut pairs -/
def RchP (M : cSt) (s : Int) (h : Option Nat) (C I : Nat → Prop) (k : Nat) : Prop := ∀ S : Nat → Prop, (∀ k, I k → S k) → (∀ q k, S q → FolP M s h q k → S k) → (∀ q a k, S q → S a → ValP M h C q a k → S k) → S k
theorem RchP.base {M : cSt} {s : Int} {h : Option Nat} {C I : Nat → Prop} {k : Nat} (hk : I k) : RchP M s h C I k := fun _ h1 _ _ => h1 k hk
theorem RchP.fol {M : cSt} {s : Int} {h : Option Nat} {C I : Nat → Prop} {q k : Nat} (hq : RchP M s h C I q) (hf : FolP M s h q k) : RchP M s h C I k := fun S h1 h2 h3 => h2 q k (hq S h1 h2 h3) hf
theorem RchP.val {M : cSt} {s : Int} {h : Option Nat} {C I : Nat → Prop} {q a k : Nat} (hq : RchP M s h C I q) (ha : RchP M s h C I a) (hv : ValP M h C q a k) : RchP M s h C I k := fun S h1 h2 h3 => h3 q a k (hq S h1 h2 h3) (ha S h1 h2 h3) hv
/-- it holds things alone -/
theorem RchP.lt {n : Nat} {M : cSt} {s : Int} {h : Option Nat} {C I : Nat → Prop} {k : Nat} (hc : cRf n M) (hI : ∀ k, I k → k < n) (hk : RchP M s h C I k) : k < n :=
  hk (· < n) hI (fun q k _ hf => by obtain ⟨-, j, -, -, h⟩ := hf; exact hc.2 q j k h) (fun q a k _ _ hv => hc.2 q 1 k hv.2.2.2.2)
/-- what it is said of -/
theorem RchP.congr {n : Nat} {M M' : cSt} {s : Int} {h : Option Nat} {C C' I I' : Nat → Prop} {k : Nat} (hc : cRf n M) (hI : ∀ k, I k → k < n) (h1 : ∀ k, I k → I' k) (h2 : ∀ q, q < n → C' q → C q) (hF : ∀ q k, q < n → FolP M s h q k → FolP M' s h q k) (hV : ∀ q, q < n → (gT M' q 2 = 3 ↔ gT M q 2 = 3)) (hG : ∀ q j, q < n → gF M' q j = gF M q j) (hk : RchP M s h C I k) : RchP M' s h C' I' k := by
  intro S a b c
  have := hk (fun k => S k ∧ k < n) (fun k hk => ⟨a k (h1 k hk), hI k hk⟩) (fun q k hq hf => ⟨b q k hq.1 (hF q k hq.2 hf), by obtain ⟨-, j, -, -, h⟩ := hf; exact hc.2 q j k h⟩) (fun q x k hq hx hv => ⟨c q x k hq.1 hx.1 ⟨(hV q hq.2).mpr hv.1, hv.2.1, fun h9 => hv.2.2.1 (h2 q hq.2 h9), (hG q 0 hq.2).trans hv.2.2.2.1, (hG q 1 hq.2).trans hv.2.2.2.2⟩, hc.2 q 1 k hv.2.2.2.2⟩)
  exact this.1
/-- the machine's set is that one -/
theorem Rch.toP {M M' : cSt} {s : Int} {h : Option Nat} {I : Nat → Prop} {k : Nat} (he : TEq M M') (h19 : gI M' 19 = s) (h9 : gR M' 9 0 = h) : Rch M' I k ↔ RchP M s h (fun q => gT M' q 13 ≠ 0) I k := by
  have hf : ∀ q k, Fol M' q k ↔ FolP M s h q k := fun q k => by
    unfold Fol FolP
    rw [h9, h19, he.2.1 q 2 (by decide), he.2.2.2.1 q]
    simp only [he.2.2.2.2.1 q]
  have hv : ∀ q a k, Val M' q a k ↔ ValP M h (fun q => gT M' q 13 ≠ 0) q a k := fun q a k => by
    unfold Val ValP
    rw [h9, he.2.1 q 2 (by decide), he.2.2.2.2.1 q 0, he.2.2.2.2.1 q 1]
    simp only [Ne, Decidable.not_not]
  constructor
  · exact fun hk S a b c => hk S a (fun q k hq h => b q k hq ((hf q k).mp h)) (fun q x k hq hx h => c q x k hq hx ((hv q x k).mp h))
  · exact fun hk S a b c => hk S a (fun q k hq h => b q k hq ((hf q k).mpr h)) (fun q x k hq hx h => c q x k hq hx ((hv q x k).mpr h))
theorem IsRt.lt {n : Nat} {M : cSt} {k : Nat} (hc : cRf n M) (h : IsRt M n k) : k < n := by
  rcases h with ⟨j, -, h⟩ | ⟨j, -, h⟩ | ⟨j, -, h⟩ | h
  · exact hc.1 _ _ _ h
  · exact hc.1 _ _ _ h
  · exact hc.1 _ _ _ h
  · exact h.1
/-- what is marked in (a) -/
def C1 (M : cSt) (n : Nat) (s : Int) (h : Option Nat) : Nat → Prop := RchP M s h (fun _ => False) (IsRt M n)
/-- pairs that (b) empties -/
def Cut (M : cSt) (n : Nat) (s : Int) (h : Option Nat) (q : Nat) : Prop := C1 M n s h q ∧ gT M q 2 = 3 ∧ ¬ ∃ a, gF M q 0 = some a ∧ C1 M n s h a
def Fin9 (M : cSt) (n k : Nat) : Prop := k < n ∧ gT M k 3 ≠ 0 ∧ gT M k 2 = 4
/-- what is marked in (a) to (c) -/
def C2 (M : cSt) (n : Nat) (s : Int) (h : Option Nat) : Nat → Prop := RchP M s h (Cut M n s h) (fun k => C1 M n s h k ∨ Fin9 M n k)
theorem C1.lt {n : Nat} {M : cSt} {s : Int} {h : Option Nat} {k : Nat} (hc : cRf n M) (hk : C1 M n s h k) : k < n := RchP.lt hc (fun _ h => IsRt.lt hc h) hk
/-- (a), and what comes behind it -/
theorem trace1 {β : Type} {n : Nat} {M : cSt} (hB : TB n M) {s : Int} {h : Option Nat} (hs : s = 0 ∨ s = 1) (hh : ∀ k, h = some k → k < n) {rest : cSt → Option β} {P : β → Prop}
    (k : ∀ (M' : cSt) (L : List Nat), TC n M' → TB n M' → TEq M M' → gI M' 19 = s → gR M' 9 0 = h → (∀ k, k < n → gT M' k 13 = 0) → Mkd n M' L → gI M' 18 = L.length → Scn M' L L.length → (∀ k, k ∈ L ↔ C1 M n s h k) → wp (rest M') P) :
    wp (ob (f_Tr_begin n M s h) (fun x1 => ob (f_Tr_markRoots n x1) (fun x2 => ob (f_Tr_spread n x2) rest))) P := by
  rw [wp_ob]
  refine wp_mono (begin_ok hB hs hh) (fun M1 h9 => ?_)
  obtain ⟨hT1, hB1, he1, hM1, h18, h19, hR9, h13⟩ := h9
  rw [wp_ob]
  refine wp_mono (markRoots_ok hT1 hB1 hM1) (fun M2 h9 => ?_)
  obtain ⟨hT2, hB2, he2, L, hM2, hL⟩ := h9
  rw [wp_ob]
  refine wp_mono (spread_ok hT2 hM2 (c := 0) ((he2.1 18 (by decide)).trans h18) (Nat.zero_le _) (fun j q hj => absurd hj (Nat.not_lt_zero j))) (fun M3 h9 => ?_)
  obtain ⟨hT3, he3, L', hM3, h183, hS3, hr3⟩ := h9
  have heT : TEq M M3 := he1.tr ((e15T he2).tr (e18T he3))
  have h193 : gI M3 19 = s := (he3.1 19 (by decide)).trans ((he2.1 19 (by decide)).trans h19)
  have hR93 : gR M3 9 0 = h := (he3.2.2.1 9 0 (by decide)).trans ((he2.2.2.1 9 0 (by decide)).trans hR9)
  have h133 : ∀ k, k < n → gT M3 k 13 = 0 := fun k hk => (he3.2.1 k 13 (by decide)).trans ((he2.2.1 k 13 (by decide)).trans (h13 k hk))
  have hc := hB.2.2.1
  refine k M3 (L ++ L') hT3 (hB.eqx heT hT3.refs) heT h193 hR93 h133 hM3 h183 hS3 (fun q => ?_)
  rw [hr3 q, ← Rch.eqx he3, Rch.toP heT h193 hR93]
  have hLR : ∀ k, k ∈ L ↔ IsRt M n k := fun k => (hL k).trans (IsRt.eqx he1)
  constructor
  · exact RchP.congr hc (fun k hk => IsRt.lt hc ((hLR k).mp hk)) (fun k hk => (hLR k).mp hk) (fun q _ h => h.elim) (fun _ _ _ h => h) (fun _ _ => Iff.rfl) (fun _ _ _ => rfl)
  · exact RchP.congr hc (fun k hk => IsRt.lt hc hk) (fun k hk => (hLR k).mpr hk) (fun q hq h => absurd (h133 q hq) h) (fun _ _ _ h => h) (fun _ _ => Iff.rfl) (fun _ _ _ => rfl)
theorem cut_loop {n : Nat} : ∀ (u : Nat) (M : cSt) (L : List Nat) (v : Nat), TC n M → Mkd n M L → v ≤ L.length → L.length - v < u →
    wp (g_Tr_cutPairs_2 n u M (v : Int)) (fun M' => TC n M' ∧ Eqx [] [13] [] M M' ∧ Mkd n M' L ∧ ∀ q, q < n → (gT M' q 13 ≠ 0 ↔ (gT M q 13 ≠ 0 ∨ ((∃ j, v ≤ j ∧ L[j]? = some q) ∧ gT M q 2 = 3 ∧ ¬ ∃ a, gF M q 0 = some a ∧ a ∈ L)))) := by
  intro u
  induction u with
  | zero => intro M L v _ _ _ h; omega
  | succ u ih =>
    intro M L v hT hM hv hu
    have hlen := hM.len
    have hn := hT.1
    show wp (s_Tr_cutPairs_2 (g_Tr_cutPairs_2 n u) n M (v : Int)) _
    unfold s_Tr_cutPairs_2
    rw [wp_ob]
    refine wp_of (size_ok hM.1) ?_
    rw [wp_og, wp_og, wp_ite]
    refine ⟨⟨by omega, by omega⟩, ⟨by omega, by omega⟩, fun hlt => ?_, fun hge => ?_⟩
    · have hvl : v < L.length := by omega
      rw [wp_ob]
      refine wp_of (marked_item hT hM (by omega) (by omega)) ?_
      rw [show (v : Int).toNat = v by omega, List.getElem?_eq_getElem hvl, wp_on]
      refine ⟨fun e => (by cases e), fun q e => ?_⟩
      have hqL : q ∈ L := by cases e; exact List.getElem_mem hvl
      have hq : q < n := hM.2.2.1 q hqL
      have hgq : L[v]? = some q := by rw [List.getElem?_eq_getElem hvl]; exact e
      have hkd := hT.2.2.2.2.1 q hq
      have skip : ¬ (gT M q 2 = 3 ∧ ¬ ∃ a, gF M q 0 = some a ∧ a ∈ L) → wp (g_Tr_cutPairs_2 n u M ((v : Int) + 1)) (fun M' => TC n M' ∧ Eqx [] [13] [] M M' ∧ Mkd n M' L ∧ ∀ q, q < n → (gT M' q 13 ≠ 0 ↔ (gT M q 13 ≠ 0 ∨ ((∃ j, v ≤ j ∧ L[j]? = some q) ∧ gT M q 2 = 3 ∧ ¬ ∃ a, gF M q 0 = some a ∧ a ∈ L)))) := by
        intro hno
        refine wp_mono (ih M L (v + 1) hT hM (by omega) (by omega)) (fun M1 h => ?_)
        obtain ⟨hT1, he1, hM1, h1⟩ := h
        refine ⟨hT1, he1, hM1, fun p hp => (h1 p hp).trans ?_⟩
        constructor
        · rintro (h | ⟨⟨j, hj, hj2⟩, h⟩)
          · exact Or.inl h
          · exact Or.inr ⟨⟨j, by omega, hj2⟩, h⟩
        · rintro (h | ⟨⟨j, hj, hj2⟩, h⟩)
          · exact Or.inl h
          · by_cases hjv : j = v
            · subst hjv; rw [hgq] at hj2; cases hj2; exact absurd h hno
            · exact Or.inr ⟨⟨j, by omega, hj2⟩, h⟩
      rw [wp_og, wp_og, wp_ite]
      refine ⟨hq, ⟨by omega, by omega⟩, fun hk3 => ?_, fun hk3 => skip (fun h => hk3 h.1)⟩
      rw [wp_ob]
      refine wp_mono (hasMarked_ok hq hT hM) (fun x hx => ?_)
      obtain ⟨hx01, hxi⟩ := hx
      rw [wp_og, wp_ite]
      refine ⟨by rcases hx01 with h | h <;> rw [h] <;> exact ⟨by decide, by decide⟩, fun hx0 => ?_, fun hx0 => skip (fun h => h.2 (hxi.mp hx0))⟩
      have he0 : Eqx [] [13] [] M (sT M q 13 1) := ⟨fun _ _ => rfl, fun k f hf => by rw [gT_sT, if_neg (fun h9 => hf (by rw [h9.2]; decide))], fun _ _ _ => rfl, fun _ => rfl, fun _ _ => rfl, fun _ => rfl⟩
      have hT0 : TC n (sT M q 13 1) := by
        obtain ⟨a, b, c, d, e, f, g⟩ := hT
        refine ⟨a, ⟨b.1, b.2⟩, c, d, fun k hk => by rw [he0.2.1 k 2 (by decide)]; exact e k hk, f, fun k hk => ?_⟩
        rw [gT_sT]; split
        · exact Or.inr rfl
        · exact g k hk
      have hM0 : Mkd n (sT M q 13 1) L := ⟨⟨hM.1.1, hM.1.2⟩, hM.2.1, hM.2.2.1, fun k hk => by rw [he0.2.1 k 12 (by decide)]; exact hM.2.2.2 k hk⟩
      refine wp_mono (ih (sT M q 13 1) L (v + 1) hT0 hM0 (by omega) (by omega)) (fun M1 h => ?_)
      obtain ⟨hT1, he1, hM1, h1⟩ := h
      refine ⟨hT1, he0.tr he1, hM1, fun p hp => (h1 p hp).trans ?_⟩
      rw [he0.2.1 p 2 (by decide), gT_sT]
      by_cases hpq : p = q
      · subst hpq
        rw [if_pos ⟨rfl, rfl⟩]
        exact ⟨fun _ => Or.inr ⟨⟨v, Nat.le_refl _, hgq⟩, hk3, fun h9 => hx0 |> fun h8 => absurd h8 (hxi.mpr h9)⟩, fun _ => Or.inl (by decide)⟩
      · rw [if_neg (fun h9 => hpq h9.1)]
        constructor
        · rintro (h | ⟨⟨j, hj, hj2⟩, h⟩)
          · exact Or.inl h
          · exact Or.inr ⟨⟨j, by omega, hj2⟩, h⟩
        · rintro (h | ⟨⟨j, hj, hj2⟩, h⟩)
          · exact Or.inl h
          · by_cases hjv : j = v
            · subst hjv; rw [hgq] at hj2; cases hj2; exact absurd rfl hpq
            · exact Or.inr ⟨⟨j, by omega, hj2⟩, h⟩
    · rw [wp_some]
      refine ⟨hT, Eqx.rf _ _ _ _, hM, fun q hq => ⟨fun h => Or.inl h, fun h => ?_⟩⟩
      rcases h with h | ⟨⟨j, hj, hj2⟩, h⟩
      · exact h
      · rw [List.getElem?_eq_none (by omega)] at hj2; cases hj2
theorem finals_loop {n : Nat} : ∀ (u : Nat) (M : cSt) (L : List Nat) (v : Nat), TC n M → TB n M → Mkd n M L → v ≤ n → n - v < u →
    wp (g_Tr_wordsFreed_20 n u M (v : Int)) (fun M' => TC n M' ∧ TB n M' ∧ Eqx [15] [12] [5] M M' ∧ ∃ L', Mkd n M' (L ++ L') ∧ (∀ k ∈ L', Fin9 M n k) ∧ ∀ k, v ≤ k → Fin9 M n k → k ∈ L ++ L') := by
  intro u
  induction u with
  | zero => intro M L v _ _ _ h h2; omega
  | succ u ih =>
    intro M L v hT hB hM hv hu
    have hn := hT.1
    show wp (s_Tr_wordsFreed_20 (g_Tr_wordsFreed_20 n u) n M (v : Int)) _
    unfold s_Tr_wordsFreed_20
    rw [wp_ob]
    refine wp_of (all_size hT) ?_
    rw [wp_og, wp_og, wp_ite]
    refine ⟨⟨by omega, by omega⟩, ⟨by omega, by omega⟩, fun hlt => ?_, fun hge => ?_⟩
    · rw [wp_ob]
      refine wp_of (all_item hT (by omega) (by omega)) ?_
      rw [show (v : Int).toNat = v by omega, wp_on]
      refine ⟨fun e => (by cases e), fun q e => ?_⟩
      cases e
      have hp := hB.2.2.2.2.2.2.2.2.1 v (by omega)
      have hk := hB.2.2.2.2.1 v (by omega)
      have skip : ¬ Fin9 M n v → wp (g_Tr_wordsFreed_20 n u M ((v : Int) + 1)) (fun M' => TC n M' ∧ TB n M' ∧ Eqx [15] [12] [5] M M' ∧ ∃ L', Mkd n M' (L ++ L') ∧ (∀ k ∈ L', Fin9 M n k) ∧ ∀ k, v ≤ k → Fin9 M n k → k ∈ L ++ L') := by
        intro hno
        refine wp_mono (ih M L (v + 1) hT hB hM (by omega) (by omega)) (fun M2 h => ?_)
        obtain ⟨hT2, hB2, he2, L2, hM2, ha2, hb2⟩ := h
        refine ⟨hT2, hB2, he2, L2, hM2, ha2, fun k hk hf => ?_⟩
        by_cases hkv : k = v
        · subst hkv; exact absurd hf hno
        · exact hb2 k (by omega) hf
      rw [wp_og, wp_og, wp_ite]
      refine ⟨by omega, ⟨by omega, by omega⟩, fun h0 => skip (fun h => h.2.1 h0), fun h0 => ?_⟩
      rw [wp_og, wp_ite]
      refine ⟨⟨by omega, by omega⟩, fun h4 => ?_, fun h4 => skip (fun h => h4 h.2.2)⟩
      rw [wp_ob]
      refine wp_mono (mark_ok hT hM (fun k hk => by cases hk; omega)) (fun M1 h => ?_)
      obtain ⟨hT1, he1, L1, hM1, ha1, hb1⟩ := h
      have hB1 := hB.eqx (e15T he1) hT1.refs
      have hfin : ∀ k, Fin9 M1 n k ↔ Fin9 M n k := fun k => by unfold Fin9; rw [he1.2.1 k 3 (by decide), he1.2.1 k 2 (by decide)]
      refine wp_mono (ih M1 (L ++ L1) (v + 1) hT1 hB1 hM1 (by omega) (by omega)) (fun M2 h => ?_)
      obtain ⟨hT2, hB2, he2, L2, hM2, ha2, hb2⟩ := h
      refine ⟨hT2, hB2, he1.tr he2, L1 ++ L2, ?_⟩
      rw [← List.append_assoc]
      refine ⟨hM2, fun k hk => ?_, fun k hk hf => ?_⟩
      · rcases List.mem_append.mp hk with hk | hk
        · have := ha1 k hk
          cases this
          exact ⟨by omega, h0, h4⟩
        · exact (hfin k).mp (ha2 k hk)
      · by_cases hkv : k = v
        · subst hkv; exact List.mem_append_left _ (hb1 k rfl)
        · exact hb2 k (by omega) ((hfin k).mpr hf)
    · rw [wp_some]
      refine ⟨hT, hB, Eqx.rf _ _ _ _, [], ?_⟩
      rw [List.append_nil]
      exact ⟨hM, fun k hk => absurd hk List.not_mem_nil, fun k hk hf => by have := hf.1; omega⟩
def sumN (f : Nat → Int) : Nat → Int
  | 0 => 0
  | n + 1 => sumN f n + f n
theorem sumN_congr {f g : Nat → Int} : ∀ {n : Nat}, (∀ k, k < n → f k = g k) → sumN f n = sumN g n
  | 0, _ => rfl
  | n + 1, h => by
    show sumN f n + f n = sumN g n + g n
    rw [sumN_congr (fun k hk => h k (by omega)), h n (by omega)]
theorem sumN_rng {f : Nat → Int} {c : Int} (hf : ∀ k, 0 ≤ f k ∧ f k ≤ c) : ∀ n : Nat, 0 ≤ sumN f n ∧ sumN f n ≤ c * n
  | 0 => by show (0 : Int) ≤ 0 ∧ (0 : Int) ≤ c * 0; omega
  | n + 1 => by
    have h1 := sumN_rng hf n
    have h2 := hf n
    show 0 ≤ sumN f n + f n ∧ sumN f n + f n ≤ c * ((n + 1 : Nat) : Int)
    rw [show ((n + 1 : Nat) : Int) = (n : Int) + 1 by omega, Int.mul_add, Int.mul_one]
    omega
/-- words of what isn't marked -/
def umk (M : cSt) (k : Nat) : Int := if gT M k 3 = 0 then 0 else if gT M k 12 = 0 then gT M k 5 else 0
theorem sum_loop {n : Nat} {M : cSt} {L : List Nat} (hT : TC n M) (hB : TB n M) (hM : Mkd n M L) : ∀ (u v : Nat) (a : Int), v ≤ n → n - v < u →
    wp (g_Tr_wordsFreed_84 n M u a (v : Int)) (fun x => x = a + (sumN (umk M) n - sumN (umk M) v)) := by
  intro u
  induction u with
  | zero => intro v a _ h; omega
  | succ u ih =>
    intro v a hv hu
    have hn := hT.1
    show wp (s_Tr_wordsFreed_84 (g_Tr_wordsFreed_84 n M u) n M a (v : Int)) _
    unfold s_Tr_wordsFreed_84
    rw [wp_ob]
    refine wp_of (all_size hT) ?_
    rw [wp_og, wp_og, wp_ite]
    refine ⟨⟨by omega, by omega⟩, ⟨by omega, by omega⟩, fun hlt => ?_, fun hge => ?_⟩
    · rw [wp_ob]
      refine wp_of (all_item hT (by omega) (by omega)) ?_
      rw [show (v : Int).toNat = v by omega, wp_on]
      refine ⟨fun e => (by cases e), fun q e => ?_⟩
      cases e
      have hp := hB.2.2.2.2.2.2.2.2.1 v (by omega)
      have hf := hM.2.2.2 v (by omega)
      have hst : sumN (umk M) (v + 1) = sumN (umk M) v + umk M v := rfl
      rw [wp_og, wp_og, wp_ite]
      refine ⟨by omega, ⟨by omega, by omega⟩, fun h0 => ?_, fun h0 => ?_⟩
      · refine wp_mono (ih (v + 1) a (by omega) (by omega)) (fun x hx => ?_)
        rw [hx, hst]; unfold umk; rw [if_pos h0]; omega
      · rw [wp_og, wp_ite]
        refine ⟨by rw [hf]; split <;> exact ⟨by decide, by decide⟩, fun h12 => ?_, fun h12 => ?_⟩
        · refine wp_mono (ih (v + 1) (a + gT M v 5) (by omega) (by omega)) (fun x hx => ?_)
          rw [hx, hst]
          have : umk M v = gT M v 5 := by unfold umk; rw [if_neg h0, if_pos h12]
          omega
        · refine wp_mono (ih (v + 1) a (by omega) (by omega)) (fun x hx => ?_)
          rw [hx, hst]
          have : umk M v = 0 := by unfold umk; rw [if_neg h0, if_neg h12]
          omega
    · rw [wp_some]
      have : v = n := by omega
      subst this; omega
/-- words that would be freed -/
noncomputable def wFr (M : cSt) (n : Nat) (s : Int) (h : Option Nat) : Int := sumN (fun k => if gT M k 3 = 0 then 0 else @ite Int (C2 M n s h k) (Classical.propDecidable _) 0 (gT M k 5)) n
theorem freed_ok {n : Nat} {M : cSt} (hB : TB n M) {s : Int} {h : Option Nat} (hs : s = 0 ∨ s = 1) (hh : ∀ k, h = some k → k < n) :
    wp (f_Tr_wordsFreed n M s h) (fun x => TB n x.1 ∧ TEq M x.1 ∧ x.2 = wFr M n s h) := by
  have hfu : fu = 500 := rfl
  have hn := hB.1
  have hc := hB.2.2.1
  unfold f_Tr_wordsFreed
  refine trace1 hB hs hh (fun M1 L hT1 hB1 he1 h19 hR9 h13 hM1 h18 hS1 hL => ?_)
  have hlen := hM1.len
  rw [wp_ob]
  have hcut : wp (f_Tr_cutPairs n M1) (fun M' => TC n M' ∧ Eqx [] [13] [] M1 M' ∧ Mkd n M' L ∧ ∀ q, q < n → (gT M' q 13 ≠ 0 ↔ Cut M n s h q)) := by
    unfold f_Tr_cutPairs
    rw [wp_ob]
    refine wp_mono (cut_loop fu M1 L 0 hT1 hM1 (Nat.zero_le _) (by rw [hfu]; omega)) (fun M2 h9 => ?_)
    obtain ⟨hT2, he2, hM2, h2⟩ := h9
    rw [wp_some]
    refine ⟨hT2, he2, hM2, fun q hq => (h2 q hq).trans ?_⟩
    unfold Cut
    rw [h13 q hq, he1.2.1 q 2 (by decide), he1.2.2.2.2.1 q 0]
    constructor
    · rintro (h9 | ⟨⟨j, -, hj⟩, h3, h4⟩)
      · exact absurd rfl h9
      · exact ⟨(hL q).mp (List.mem_of_getElem? hj), h3, fun ⟨a, ha, ha2⟩ => h4 ⟨a, ha, (hL a).mpr ha2⟩⟩
    · rintro ⟨h1, h3, h4⟩
      obtain ⟨j, hj, hj2⟩ := List.getElem_of_mem ((hL q).mpr h1)
      exact Or.inr ⟨⟨j, Nat.zero_le _, by rw [List.getElem?_eq_getElem hj, hj2]⟩, h3, fun ⟨a, ha, ha2⟩ => h4 ⟨a, ha, (hL a).mp ha2⟩⟩
  refine wp_mono hcut (fun M2 h9 => ?_)
  obtain ⟨hT2, he2, hM2, h132⟩ := h9
  have heT2 : TEq M M2 := he1.tr (he2.mono (by decide) (by decide) (by decide))
  have hB2 : TB n M2 := hB.eqx heT2 hT2.refs
  rw [wp_ob]
  refine wp_mono (finals_loop fu M2 L 0 hT2 hB2 hM2 (Nat.zero_le _) (by rw [hfu]; omega)) (fun M3 h9 => ?_)
  obtain ⟨hT3, hB3, he3, L', hM3, ha3, hb3⟩ := h9
  have heT3 : TEq M M3 := heT2.tr (e15T he3)
  have hfin : ∀ k, Fin9 M2 n k ↔ Fin9 M n k := fun k => by unfold Fin9; rw [heT2.2.1 k 3 (by decide), heT2.2.1 k 2 (by decide)]
  have hfol : ∀ q k, Fol M3 q k → Fol M1 q k := fun q k hk => by
    have hk := (Fol.eqx he3 (by decide) (by decide) (by decide)).mp hk
    exact (Fol.eqx he2 (by decide) (by decide) (by decide)).mp hk
  rw [wp_ob]
  refine wp_mono (spread_ok hT3 hM3 (c := L.length) ((he3.1 18 (by decide)).trans ((he2.1 18 (by decide)).trans h18)) (by rw [List.length_append]; omega) (fun j q hj hq k hk => by
    rw [List.getElem?_append_left hj] at hq
    exact List.mem_append_left _ (hS1 j q hj hq k (hfol q k hk)))) (fun M4 h9 => ?_)
  obtain ⟨hT4, he4, L4, hM4, -, -, hr4⟩ := h9
  have heT4 : TEq M M4 := heT3.tr (e18T he4)
  have hB4 : TB n M4 := hB.eqx heT4 hT4.refs
  rw [wp_ob]
  refine wp_mono (sum_loop hT4 hB4 hM4 fu 0 0 (Nat.zero_le _) (by rw [hfu]; omega)) (fun x hx => ?_)
  rw [wp_some]
  refine ⟨hB4, heT4, ?_⟩
  rw [hx]
  show 0 + (sumN (umk M4) n - 0) = wFr M n s h
  rw [Int.sub_zero, Int.zero_add]
  unfold wFr
  refine sumN_congr (fun k hk => ?_)
  unfold umk
  rw [heT4.2.1 k 3 (by decide), heT4.2.1 k 5 (by decide), hM4.2.2.2 k hk]
  have h193 : gI M3 19 = s := (he3.1 19 (by decide)).trans ((he2.1 19 (by decide)).trans h19)
  have hR93 : gR M3 9 0 = h := (he3.2.2.1 9 0 (by decide)).trans ((he2.2.2.1 9 0 (by decide)).trans hR9)
  have hI : ∀ k, k ∈ L ++ L' ↔ (C1 M n s h k ∨ Fin9 M n k) := fun k => by
    rw [List.mem_append]
    constructor
    · rintro (h9 | h9)
      · exact Or.inl ((hL k).mp h9)
      · exact Or.inr ((hfin k).mp (ha3 k h9))
    · rintro (h9 | h9)
      · exact Or.inl ((hL k).mpr h9)
      · exact List.mem_append.mp (hb3 k (Nat.zero_le _) ((hfin k).mpr h9))
  have hIlt : ∀ k, (C1 M n s h k ∨ Fin9 M n k) → k < n := fun k hk => by
    rcases hk with hk | hk
    · exact C1.lt hc hk
    · exact hk.1
  have hcut3 : ∀ q, q < n → (gT M3 q 13 ≠ 0 ↔ Cut M n s h q) := fun q hq => by rw [he3.2.1 q 13 (by decide)]; exact h132 q hq
  have hmem : k ∈ (L ++ L') ++ L4 ↔ C2 M n s h k := by
    rw [hr4 k, Rch.toP heT3 h193 hR93]
    unfold C2
    constructor
    · exact RchP.congr hc (fun k hk => hIlt k ((hI k).mp hk)) (fun k hk => (hI k).mp hk) (fun q hq h9 => (hcut3 q hq).mpr h9) (fun _ _ _ h => h) (fun _ _ => Iff.rfl) (fun _ _ _ => rfl)
    · exact RchP.congr hc hIlt (fun k hk => (hI k).mpr hk) (fun q hq h9 => (hcut3 q hq).mp h9) (fun _ _ _ h => h) (fun _ _ => Iff.rfl) (fun _ _ _ => rfl)
  by_cases h0 : gT M k 3 = 0
  · rw [if_pos h0, if_pos h0]
  · rw [if_neg h0, if_neg h0]
    by_cases hk2 : C2 M n s h k
    · rw [if_pos (hmem.mpr hk2), if_neg (by decide), if_pos hk2]
    · rw [if_neg (fun h9 => hk2 (hmem.mp h9)), if_pos rfl, if_neg hk2]
