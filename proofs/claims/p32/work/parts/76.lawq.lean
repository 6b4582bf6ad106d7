/-! LAYER 2: the law's small methods. -/
theorem and31 (x : Int32) : 0 ≤ (x &&& 2147483647).toInt ∧ (x &&& 2147483647).toInt < 2147483648 := by
  have e : (x &&& 2147483647).toInt = (x.toBitVec &&& 2147483647#32).toInt := rfl
  have h1 : (x.toBitVec &&& 2147483647#32).toNat ≤ 2147483647 := by
    rw [BitVec.toNat_and]
    exact Nat.le_trans Nat.and_le_right (Nat.le_refl _)
  rw [e, BitVec.toInt_eq_toNat_of_lt (by omega)]
  omega
theorem bl_rng {v m : Int} (h0 : 0 < m) (h1 : m < 2147483648) : 0 ≤ bl v m ∧ bl v m < m := by
  have hu := and31 (iI v)
  unfold bl
  generalize iI v &&& 2147483647 = u at *
  have hd : u / iI m = iI (u.toInt / m) := by
    have e := iI_div (a := u.toInt) (b := m) ⟨by omega, by omega⟩ ⟨by omega, by omega⟩ h0
    rw [← iI_of u, Int.tdiv_eq_ediv_of_nonneg hu.1] at e
    exact e
  rw [hd, iI_mul]
  have he : u = iI u.toInt := iI_of u
  have h2 := Int.emod_nonneg u.toInt (show m ≠ 0 by omega)
  have h3 := Int.emod_lt_of_pos u.toInt h0
  have h4 : u.toInt - u.toInt / m * m = u.toInt % m := by rw [Int.emod_def, Int.mul_comm]
  have h5 : u - iI (u.toInt / m * m) = iI (u.toInt - u.toInt / m * m) := by
    rw [← iI_sub, ← he]
  rw [h5, h4, iI_toInt ⟨by omega, by omega⟩]
  exact ⟨h2, h3⟩
theorem below_ok {n : Nat} {M : cSt} {v m : Int} (h0 : 0 < m) (h1 : m < 2147483648) : wp (f_Law_below n M v m) (fun x => 0 ≤ x ∧ x < m) := by
  unfold f_Law_below
  rw [wp_og, wp_some]
  exact ⟨⟨⟨by omega, h1⟩, h0⟩, bl_rng h0 h1⟩
/-- how many are PINNED -/
def pnN (M : cSt) : Nat → Int := sumN (fun k => gT M k 9)
theorem pnN_sum (M : cSt) : ∀ n, ((List.range n).map (fun k => gT M k 9)).sum = pnN M n
  | 0 => rfl
  | n + 1 => by
    rw [List.range_succ, List.map_append, List.sum_append, pnN_sum M n]
    show _ + (gT M n 9 + 0) = pnN M n + gT M n 9
    omega
theorem oO5 {n : Nat} {M : cSt} (h : Inv n M) {k : Nat} (hk : k < n) : inR (oO M k 5) ∧ (oO M k 5 = 1 → gT M k 9 = 1) ∧ (oO M k 5 ≠ 1 → gT M k 9 = 0) := by
  have h9 := h.1.2.2.2.2.2.2.2.1 k hk
  have hp := h.2.2.2.2.2.2.2.1 k hk
  unfold oO
  rw [if_neg (by decide)]
  by_cases h3 : gT M k 3 = 0
  · rw [if_pos h3]
    refine ⟨⟨by decide, by decide⟩, fun e => absurd e (by decide), fun _ => ?_⟩
    rcases h9 with e | e
    · exact e
    · have := hp (by omega); omega
  · rw [if_neg h3, if_neg (by decide), if_neg (by decide), if_neg (by decide), if_neg (by decide), if_pos rfl]
    by_cases h0 : gT M k 9 = 0
    · rw [if_pos h0]; exact ⟨⟨by decide, by decide⟩, fun e => absurd e (by decide), fun _ => h0⟩
    · rw [if_neg h0]; exact ⟨⟨by decide, by decide⟩, fun _ => by omega, fun e => absurd rfl e⟩
theorem lpin_loop {n : Nat} {M : cSt} (h : Inv n M) : ∀ (u v : Nat) (a : Int), v ≤ n → n - v < u →
    wp (g_Law_pinned_4 n M u a (v : Int)) (fun x => x = a + (pnN M n - pnN M v)) := by
  intro u
  induction u with
  | zero => intro v a _ h; omega
  | succ u ih =>
    intro v a hv hu
    have hn := h.1.1
    show wp (s_Law_pinned_4 (g_Law_pinned_4 n M u) n M a (v : Int)) _
    unfold s_Law_pinned_4
    rw [wp_ob]
    refine wp_of (many0_ok h) ?_
    rw [wp_og, wp_og, wp_ite]
    refine ⟨⟨by omega, by omega⟩, ⟨by omega, by omega⟩, fun hlt => ?_, fun hge => ?_⟩
    · have hvn : v < n := by omega
      have h5 := oO5 h hvn
      have hst : pnN M (v + 1) = pnN M v + gT M v 9 := rfl
      rw [wp_ob]
      refine wp_of (of_ok h hvn (by decide) (by decide)) ?_
      rw [wp_og, wp_ite]
      refine ⟨h5.1, fun h1 => ?_, fun h1 => ?_⟩
      · refine wp_mono (ih (v + 1) (a + 1) (by omega) (by omega)) (fun x hx => ?_)
        have := h5.2.1 h1
        rw [hx, hst]; omega
      · refine wp_mono (ih (v + 1) (a + 0) (by omega) (by omega)) (fun x hx => ?_)
        have := h5.2.2 h1
        rw [hx, hst]; omega
    · rw [wp_some]
      have : v = n := by omega
      subst this; omega
theorem lpin_ok {n : Nat} {M : cSt} (h : Inv n M) : f_Law_pinned n M = some (pnN M n) := by
  have hfu : fu = 500 := rfl
  have hn := h.1.1
  refine wp_eq ?_
  unfold f_Law_pinned
  rw [wp_ob]
  refine wp_mono (lpin_loop h fu 0 0 (Nat.zero_le _) (by rw [hfu]; omega)) (fun x hx => ?_)
  rw [wp_some, hx]
  show 0 + (pnN M n - 0) = pnN M n
  omega
theorem pnN_congr {n : Nat} {M M' : cSt} (h : ∀ k, k < n → gT M' k 9 = gT M k 9) : pnN M' n = pnN M n := sumN_congr h
/-- words of those that are GONE, out of the sizes from before -/
def gwd (M : cSt) (f : Nat → Int) (k : Nat) : Int := if 0 < f k then (if gT M k 3 = 0 then f k else 0) else 0
theorem lwords_loop {n : Nat} {M : cSt} {f : Nat → Int} (h : Inv n M) (hf : ∀ k, k < n → inR (f k)) : ∀ (u v : Nat) (a : Int), v ≤ n → n - v < u →
    wp (g_Law_words_4 n M n f u a (v : Int)) (fun x => x = a + (sumN (gwd M f) n - sumN (gwd M f) v)) := by
  intro u
  induction u with
  | zero => intro v a _ h; omega
  | succ u ih =>
    intro v a hv hu
    have hn := h.1.1
    show wp (s_Law_words_4 (g_Law_words_4 n M n f u) n M n f a (v : Int)) _
    unfold s_Law_words_4
    rw [wp_og, wp_og, wp_og, wp_ite]
    refine ⟨by omega, ⟨by omega, by omega⟩, ⟨by omega, by omega⟩, fun hlt => ?_, fun hge => ?_⟩
    · have hvn : v < n := by omega
      have hst : sumN (gwd M f) (v + 1) = sumN (gwd M f) v + gwd M f v := rfl
      have h3 := h.1.2.2.2.2.2.2.2.2.1 v hvn
      rw [wp_og, show (v : Int).toNat = v by omega, wp_og, wp_ite]
      refine ⟨⟨by omega, by omega⟩, hf v hvn, fun hp => ?_, fun hp => ?_⟩
      · rw [wp_ob]
        refine wp_of (of_ok h hvn (by decide) (by decide)) ?_
        have ho : oO M v 0 = gT M v 3 := rfl
        rw [ho, wp_og, wp_ite]
        refine ⟨⟨by omega, by omega⟩, fun h0 => ?_, fun h0 => ?_⟩
        · refine wp_mono (ih (v + 1) (a + f v) (by omega) (by omega)) (fun x hx => ?_)
          have : gwd M f v = f v := by unfold gwd; rw [if_pos hp, if_pos h0]
          rw [hx, hst]; omega
        · refine wp_mono (ih (v + 1) (a + 0) (by omega) (by omega)) (fun x hx => ?_)
          have : gwd M f v = 0 := by unfold gwd; rw [if_pos hp, if_neg h0]
          rw [hx, hst]; omega
      · refine wp_mono (ih (v + 1) (a + 0) (by omega) (by omega)) (fun x hx => ?_)
        have : gwd M f v = 0 := by unfold gwd; rw [if_neg hp]
        rw [hx, hst]; omega
    · rw [wp_some]
      have : v = n := by omega
      subst this; omega
theorem lwords_ok {n : Nat} {M : cSt} {f : Nat → Int} (h : Inv n M) (hf : ∀ k, k < n → inR (f k)) : f_Law_words n M n f = some (sumN (gwd M f) n) := by
  have hfu : fu = 500 := rfl
  have hn := h.1.1
  refine wp_eq ?_
  unfold f_Law_words
  rw [wp_ob]
  refine wp_mono (lwords_loop h hf fu 0 0 (Nat.zero_le _) (by rw [hfu]; omega)) (fun x hx => ?_)
  rw [wp_some, hx]
  show 0 + (sumN (gwd M f) n - 0) = _
  omega
/-! states that differ in scratch alone -/
theorem FolP.teq {M M' : cSt} (he : TEq M M') (s : Int) (h : Option Nat) : FolP M' s h = FolP M s h := by
  funext q k
  unfold FolP
  rw [he.2.1 q 2 (by decide), he.2.2.2.1 q]
  simp only [he.2.2.2.2.1]
theorem ValP.teq {M M' : cSt} (he : TEq M M') (h : Option Nat) (C : Nat → Prop) : ValP M' h C = ValP M h C := by
  funext q a k
  unfold ValP
  rw [he.2.1 q 2 (by decide), he.2.2.2.2.1, he.2.2.2.2.1]
theorem RchP.teq {M M' : cSt} (he : TEq M M') (s : Int) (h : Option Nat) (C I : Nat → Prop) : RchP M' s h C I = RchP M s h C I := by
  funext k
  unfold RchP
  rw [FolP.teq he, ValP.teq he]
theorem C1.teq {n : Nat} {M M' : cSt} (he : TEq M M') (s : Int) (h : Option Nat) : C1 M' n s h = C1 M n s h := by
  unfold C1
  have e : IsRt M' n = IsRt M n := by
    funext k
    exact propext (IsRt.eqx he)
  rw [RchP.teq he, e]
theorem C2.teq {n : Nat} {M M' : cSt} (he : TEq M M') (s : Int) (h : Option Nat) : C2 M' n s h = C2 M n s h := by
  have e1 : Cut M' n s h = Cut M n s h := by
    funext q
    unfold Cut
    rw [C1.teq he, he.2.1 q 2 (by decide), he.2.2.2.2.1]
  have e2 : Fin9 M' n = Fin9 M n := by
    funext k
    unfold Fin9
    rw [he.2.1 k 3 (by decide), he.2.1 k 2 (by decide)]
  unfold C2
  rw [RchP.teq he, e1, e2, C1.teq he]
theorem wFr.teq {n : Nat} {M M' : cSt} (he : TEq M M') (s : Int) (h : Option Nat) : wFr M' n s h = wFr M n s h := by
  unfold wFr
  rw [C2.teq he]
  refine sumN_congr (fun k _ => ?_)
  rw [he.2.1 k 3 (by decide), he.2.1 k 5 (by decide)]
theorem Inv.teq {n : Nat} {M M' : cSt} (h : Inv n M) (he : TEq M M') (hc : cRf n M') : Inv n M' := h.scr (he.mono (by decide) (by decide) (by decide)) hc
theorem TEq.symm {M M' : cSt} (h : TEq M M') : TEq M' M := ⟨fun j hj => (h.1 j hj).symm, fun k f hf => (h.2.1 k f hf).symm, fun r j hr => (h.2.2.1 r j hr).symm, fun k => (h.2.2.2.1 k).symm, fun k j => (h.2.2.2.2.1 k j).symm, fun j => (h.2.2.2.2.2 j).symm⟩
theorem xwould_ok {n : Nat} {M : cSt} (h : Inv n M) {s : Int} (hs : s = 0 ∨ s = 1) : wp (f_X_wouldFree n M s) (fun x => Inv n x.1 ∧ TEq M x.1 ∧ x.2 = wFr M n s none) := by
  unfold f_X_wouldFree
  rw [wp_ob]
  refine wp_mono (freed_ok h.1 hs (fun k hk => by cases hk)) (fun x hx => ?_)
  rw [wp_some]
  exact ⟨h.teq hx.2.1 hx.1.2.2.1, hx.2.1, hx.2.2⟩
noncomputable def rcN (M : cSt) (n k : Nat) : Int := @ite Int (C1 M n 1 none k) (Classical.propDecidable _) 1 0
theorem xreach_ok {n : Nat} {M : cSt} (h : Inv n M) {k : Nat} (hk : k < n) : wp (f_X_isReachable n M (k : Int)) (fun x => Inv n x.1 ∧ TEq M x.1 ∧ x.2 = rcN M n k) := by
  unfold f_X_isReachable
  rw [wp_ob]
  refine wp_of (made_ok h hk) ?_
  refine trace1 h.1 (Or.inr rfl) (fun k hk => by cases hk) (fun M' L hT hB he h19 h9 h13 hM h18 hS hL => ?_)
  rw [wp_on]
  refine ⟨fun e => (by cases e), fun q e => ?_⟩
  cases e
  have hm := hM.2.2.2 k hk
  rw [wp_og, wp_og, wp_some]
  refine ⟨hk, by rw [hm]; split; exact Or.inr rfl; exact Or.inl rfl, h.teq he hT.2.2.1, he, ?_⟩
  show gT M' k 12 = rcN M n k
  rw [hm]
  unfold rcN
  by_cases hc : C1 M n 1 none k
  · rw [if_pos hc, if_pos ((hL k).mpr hc)]
  · rw [if_neg hc, if_neg (fun h9 => hc ((hL k).mp h9))]
