/-! LAYER 2: a round of the law. -/
/-- what holds between two rounds -/
def LI (n : Nat) (M : cSt) (H P : Nat → Int) (i : Nat) (f : Int) : Prop := Inv n M ∧ HPk n M H P ∧ (∀ k, n ≤ k → k < 200 → H k = -1 ∧ P k = -1) ∧ n ≤ i ∧ 0 ≤ gI M 0 ∧ gI M 0 ≤ 2 * i ∧ gI M 1 ≤ f ∧ pnN M n ≤ 4
theorem LI.mono {n : Nat} {M : cSt} {H P : Nat → Int} {i : Nat} {f : Int} (h : LI n M H P i f) : LI n M H P (i + 1) f := by
  obtain ⟨a, b, c, d, e, g, j, k⟩ := h
  exact ⟨a, b, c, by omega, e, by omega, j, k⟩
/-- a state in which numbers, hashes, pins and addresses of the pinned are as they were -/
theorem LI.to {n : Nat} {M M' : cSt} {H P : Nat → Int} {i : Nat} {f f' : Int} (h : LI n M H P i f) (hI : Inv n M') (h8 : ∀ k, k < n → gT M' k 8 = gT M k 8) (h9 : ∀ k, k < n → gT M' k 9 = gT M k 9) (h4 : ∀ k, k < n → gT M k 9 ≠ 0 → gT M' k 4 = gT M k 4) (h0 : gI M' 0 = gI M 0) (h1 : gI M' 1 ≤ f') : LI n M' H P (i + 1) f' := by
  obtain ⟨a, b, c, d, e, g, j, k⟩ := h
  refine ⟨hI, ⟨fun k hk => by rw [h8 k hk]; exact b.1 k hk, fun k hk => ?_⟩, c, by omega, by rw [h0]; exact e, by rw [h0]; omega, h1, by rw [pnN_congr h9]; exact k⟩
  rcases b.2 k hk with e9 | e9
  · exact Or.inl e9
  · exact Or.inr ⟨by rw [h9 k hk]; exact e9.1, by rw [h4 k hk e9.1]; exact e9.2⟩
theorem LI.gc {n : Nat} {M M' : cSt} {H P : Nat → Int} {i : Nat} {f : Int} (h : LI n M H P i f) (hg : GcP n M M') : LI n M' H P (i + 1) f :=
  h.to hg.1 (fun k _ => (hg.2.1 k).1) (fun k _ => (hg.2.1 k).2) hg.2.2.1 hg.2.2.2.1 (by rw [hg.2.2.2.2]; exact h.2.2.2.2.2.2.1)
theorem LI.rest {n : Nat} {M M' : cSt} {H P : Nat → Int} {i : Nat} {f f' : Int} (h : LI n M H P i f) (hI : Inv n M') (hr : Rest M M') (h1 : gI M' 1 ≤ f') : LI n M' H P (i + 1) f' :=
  h.to hI (fun k _ => hr.1 k 8) (fun k _ => hr.1 k 9) (fun k _ _ => hr.1 k 4) hr.2.2 h1
section
variable {rec : Nat → cSt → Int → (Nat → Int) → (Nat → Int) → Option (Nat × cSt × (Nat → Int) × (Nat → Int))} {nx0 nx1 : Nat} {w : Int} {n : Nat} {M : cSt} {H P : Nat → Int} {i : Nat} {Q : Nat × cSt × (Nat → Int) × (Nat → Int) → Prop}
/-- the end of a round -/
def tl (rec : Nat → cSt → Int → (Nat → Int) → (Nat → Int) → Option (Nat × cSt × (Nat → Int) × (Nat → Int))) (nx0 nx1 : Nat) (w : Int) (n : Nat) (M : cSt) (H P : Nat → Int) : Option (Nat × cSt × (Nat → Int) × (Nat → Int)) := ob (f_Law_isSound n M nx1 H nx0 P) (fun x => og (inR x) (if x = 0 then none else rec n M w H P))
theorem tl_ok {f : Int} (h : LI n M H P (i + 1) f) (e0 : nx0 = 200) (e1 : nx1 = 200) (hr : wp (rec n M w H P) Q) : wp (tl rec nx0 nx1 w n M H P) Q := by
  unfold tl
  rw [wp_ob]
  refine wp_of (sound_ok h.1 h.2.1 e1 e0) ?_
  rw [wp_og, wp_ite]
  exact ⟨⟨by decide, by decide⟩, fun h9 => absurd h9 (by decide), fun _ => hr⟩
noncomputable def mkA (rec : Nat → cSt → Int → (Nat → Int) → (Nat → Int) → Option (Nat × cSt × (Nat → Int) × (Nat → Int))) (nx0 nx1 : Nat) (w : Int) (n : Nat) (M : cSt) (H P : Nat → Int) (s a b : Int) : Option (Nat × cSt × (Nat → Int) × (Nat → Int)) :=
  ob (f_X_make n M s a b) (fun x32 => og (inR x32.2.2) (if x32.2.2 < 0 then tl rec nx0 nx1 w x32.1 x32.2.1 H P else ob (f_X_at x32.1 x32.2.1 s) (fun x39 => og (inR x39) (if x39 = x32.2.2 then ob (f_X_ofObject x32.1 x32.2.1 x32.2.2 4) (fun x42 => og (inR x42) (if x42 = (-1) then tl rec nx0 nx1 w x32.1 x32.2.1 H P else none)) else none))))
theorem mkA_ok (h : LI n M H P i 5) (hi : i < 100) {s a b : Int} (hs : 0 ≤ s ∧ s < 4) (ha : 0 ≤ a ∧ a ≤ 4) (hb : 2 ≤ b ∧ b ≤ 20) (fin : ∀ {n' : Nat} {M' : cSt} {H' P' : Nat → Int}, LI n' M' H' P' (i + 1) 5 → wp (tl rec nx0 nx1 w n' M' H' P') Q) : wp (mkA rec nx0 nx1 w n M H P s a b) Q := by
  obtain ⟨hI, hh, hx, hn, h0, h0', h1, hp⟩ := id h
  unfold mkA
  rw [wp_ob]
  refine wp_mono (make_ok hI (by omega) hs ha hb) (fun x hx9 => ?_)
  obtain ⟨n1, M1, r⟩ := x
  rcases hx9 with ⟨e1, e2, hg⟩ | ⟨e1, e2, g1, g2, g3, g4, g5, g6, g7, g8⟩
  · have e1 : n1 = n := e1
    have e2 : r = -1 := e2
    subst e1 e2
    rw [wp_og, wp_ite]
    exact ⟨(show inR (-1) from ⟨by decide, by decide⟩), fun _ => fin (h.gc hg), fun h9 => absurd (show (-1 : Int) < 0 by decide) h9⟩
  · have e1 : n1 = n + 1 := e1
    have e2 : r = (n : Int) := e2
    subst e1 e2
    have hL : LI (n + 1) M1 H P (i + 1) 5 := by
      refine ⟨g1, ⟨fun k hk => ?_, fun k hk => ?_⟩, fun k hk hk2 => hx k (by omega) hk2, by omega, ?_, ?_, ?_, ?_⟩
      · rcases (show k = n ∨ k < n by omega) with e | e
        · rw [e, (hx n (Nat.le_refl _) (by omega)).1]; exact g4.symm
        · rw [(g3 k e).1]; exact hh.1 k e
      · rcases (show k = n ∨ k < n by omega) with e | e
        · rw [e]; exact Or.inl (hx n (Nat.le_refl _) (by omega)).2
        · rcases hh.2 k e with h9 | h9
          · exact Or.inl h9
          · exact Or.inr ⟨by rw [(g3 k e).2.1]; exact h9.1, by rw [(g3 k e).2.2 h9.1]; exact h9.2⟩
      · show 0 ≤ gI M1 0
        have e : gI M1 0 = gI M 0 := g7
        omega
      · show gI M1 0 ≤ _
        have e : gI M1 0 = gI M 0 := g7
        omega
      · show gI M1 1 ≤ _
        have e : gI M1 1 = gI M 1 := g8
        omega
      · show pnN M1 n + gT M1 n 9 ≤ 4
        have e : gT M1 n 9 = 0 := g5
        rw [pnN_congr (M := M) (fun k hk => (g3 k hk).2.1)]
        omega
    rw [wp_og, wp_ite]
    refine ⟨⟨by show _ ≤ (n : Int); omega, by show (n : Int) < _; omega⟩, fun h9 => absurd (show (n : Int) < 0 from h9) (by omega), fun _ => ?_⟩
    rw [wp_ob]
    refine wp_of (at_ok g1 hs.1 hs.2) ?_
    have e3 : nO (sl M1 s) = (n : Int) := by rw [g2]; rfl
    rw [e3, wp_og, wp_ite]
    refine ⟨⟨by omega, by omega⟩, fun _ => ?_, fun h9 => absurd rfl h9⟩
    rw [wp_ob]
    refine wp_of (of_ok g1 (show n < n + 1 by omega) (by decide) (by decide)) ?_
    have e4 : oO M1 n 4 = -1 := by rw [oO4 g6]; exact g4
    rw [e4, wp_og, wp_ite]
    exact ⟨⟨by decide, by decide⟩, fun _ => fin hL, fun h9 => absurd rfl h9⟩
noncomputable def mkB (rec : Nat → cSt → Int → (Nat → Int) → (Nat → Int) → Option (Nat × cSt × (Nat → Int) × (Nat → Int))) (nx0 nx1 : Nat) (w : Int) (n : Nat) (M : cSt) (H P : Nat → Int) (s a a6 a2 : Int) : Option (Nat × cSt × (Nat → Int) × (Nat → Int)) :=
  ob (f_X_many n M 0) (fun x22 => og (inR x22) (if x22 = 200 then tl rec nx0 nx1 w n M H P else ob (f_Law_below n M a6 8) (fun x28 => og (inR x28) (if x28 = 0 then ob (f_Law_below n M a2 9) (fun x31 => mkA rec nx0 nx1 w n M H P s a (12 + x31)) else ob (f_Law_below n M a2 4) (fun x48 => mkA rec nx0 nx1 w n M H P s a (2 + x48))))))
theorem mkB_ok (h : LI n M H P i 5) (hi : i < 100) {s a a6 a2 : Int} (hs : 0 ≤ s ∧ s < 4) (ha : 0 ≤ a ∧ a ≤ 4) (fin : ∀ {n' : Nat} {M' : cSt} {H' P' : Nat → Int}, LI n' M' H' P' (i + 1) 5 → wp (tl rec nx0 nx1 w n' M' H' P') Q) : wp (mkB rec nx0 nx1 w n M H P s a a6 a2) Q := by
  have hn := h.1.1.1
  unfold mkB
  rw [wp_ob]
  refine wp_of (many0_ok h.1) ?_
  rw [wp_og, wp_ite]
  refine ⟨⟨by omega, by omega⟩, fun _ => fin h.mono, fun _ => ?_⟩
  rw [wp_ob]
  refine wp_mono (below_ok (by decide) (by decide)) (fun x hx => ?_)
  rw [wp_og, wp_ite, wp_ob, wp_ob]
  refine ⟨⟨by omega, by omega⟩, fun _ => ?_, fun _ => ?_⟩
  · refine wp_mono (below_ok (by decide) (by decide)) (fun y hy => ?_)
    exact mkA_ok h hi hs ha ⟨by omega, by omega⟩ fin
  · refine wp_mono (below_ok (by decide) (by decide)) (fun y hy => ?_)
    exact mkA_ok h hi hs ha ⟨by omega, by omega⟩ fin
noncomputable def mkC (rec : Nat → cSt → Int → (Nat → Int) → (Nat → Int) → Option (Nat × cSt × (Nat → Int) × (Nat → Int))) (nx0 nx1 : Nat) (w : Int) (n : Nat) (M : cSt) (H P : Nat → Int) (s a7 a4 a6 a2 : Int) : Option (Nat × cSt × (Nat → Int) × (Nat → Int)) :=
  ob (f_Law_below n M a7 3) (fun x19 => og (inR x19) (if 0 < x19 then mkB rec nx0 nx1 w n M H P s 0 a6 a2 else ob (f_Law_below n M a4 5) (fun x65 => mkB rec nx0 nx1 w n M H P s x65 a6 a2)))
theorem mkC_ok (h : LI n M H P i 5) (hi : i < 100) {s a7 a4 a6 a2 : Int} (hs : 0 ≤ s ∧ s < 4) (fin : ∀ {n' : Nat} {M' : cSt} {H' P' : Nat → Int}, LI n' M' H' P' (i + 1) 5 → wp (tl rec nx0 nx1 w n' M' H' P') Q) : wp (mkC rec nx0 nx1 w n M H P s a7 a4 a6 a2) Q := by
  unfold mkC
  rw [wp_ob]
  refine wp_mono (below_ok (by decide) (by decide)) (fun x hx => ?_)
  rw [wp_og, wp_ite, wp_ob]
  refine ⟨⟨by omega, by omega⟩, fun _ => mkB_ok h hi hs ⟨by decide, by decide⟩ fin, fun _ => ?_⟩
  refine wp_mono (below_ok (by decide) (by decide)) (fun y hy => ?_)
  exact mkB_ok h hi hs ⟨by omega, by omega⟩ fin
noncomputable def setB (rec : Nat → cSt → Int → (Nat → Int) → (Nat → Int) → Option (Nat × cSt × (Nat → Int) × (Nat → Int))) (nx0 nx1 : Nat) (w : Int) (n : Nat) (M : cSt) (H P : Nat → Int) (s o x15 a7 : Int) : Option (Nat × cSt × (Nat → Int) × (Nat → Int)) :=
  og (inR x15) (if x15 < 0 then tl rec nx0 nx1 w n M H P else ob (f_Law_below n M a7 2) (fun x388 => ob (f_X_field n M x15 x388) (fun x389 => ob (f_X_set n M s x388 o) (fun x390 => og (inR x390.2) (og (inR x389) (if x390.2 = x389 then ob (f_X_field n x390.1 x15 x388) (fun x394 => ob (f_X_at n x390.1 o) (fun x395 => og (inR x394) (og (inR x395) (if x394 = x395 then tl rec nx0 nx1 w n x390.1 H P else none)))) else none))))))
theorem setB_ok (h : LI n M H P i 5) {s o x15 a7 : Int} (hs : 0 ≤ s ∧ s < 4) (ho : 0 ≤ o ∧ o < 4) (hx : x15 = nO (sl M s)) (fin : ∀ {n' : Nat} {M' : cSt} {H' P' : Nat → Int}, LI n' M' H' P' (i + 1) 5 → wp (tl rec nx0 nx1 w n' M' H' P') Q) : wp (setB rec nx0 nx1 w n M H P s o x15 a7) Q := by
  have hI := h.1
  have hn := hI.1.1
  subst hx
  unfold setB
  rw [wp_og, wp_ite]
  refine ⟨nO_rng (n := n) (by omega) (fun k hk => (hI.slN k hk).1), fun _ => fin h.mono, fun h0 => ?_⟩
  cases hq : sl M s with
  | none => rw [hq] at h0; exact absurd (show nO none < 0 by decide) h0
  | some q =>
    have hqT := hI.slT q hq
    have hfl := hI.fl hqT.1
    rw [wp_ob]
    refine wp_mono (below_ok (by decide) (by decide)) (fun x hx => ?_)
    obtain ⟨j, rfl⟩ := Int.eq_ofNat_of_zero_le hx.1
    have hj : j < gL M q := by omega
    have rN : ∀ {N : cSt} (_ : Inv n N) (t : Option Nat), (∀ k, t = some k → k < n ∧ gT N k 0 = (k : Int)) → inR (nO t) := fun _ t ht => nO_rng (n := n) (by omega) (fun k hk => (ht k hk).1)
    rw [wp_ob]
    refine wp_of (field_ok hI hqT.1 hj) ?_
    rw [wp_ob]
    refine wp_mono (set_ok hI hs.1 hs.2 ho.1 ho.2 hq hj) (fun x hx => ?_)
    obtain ⟨hI2, e2, eF, eI, eT, eR, eL⟩ := hx
    rw [wp_og, wp_og, wp_ite, e2]
    refine ⟨rN hI _ (fun k hk => hI.fN k hk), rN hI _ (fun k hk => hI.fN k hk), fun _ => ?_, fun h9 => absurd rfl h9⟩
    rw [wp_ob]
    refine wp_of (field_ok hI2 hqT.1 (by rw [eL]; exact hj)) ?_
    rw [wp_ob]
    refine wp_of (at_ok hI2 ho.1 ho.2) ?_
    have es : sl x.1 o = sl M o := by unfold sl; rw [eI, eR]
    rw [wp_og, wp_og, wp_ite, eF, es]
    refine ⟨rN hI _ (fun k hk => hI.slN k hk), rN hI _ (fun k hk => hI.slN k hk), fun _ => ?_, fun h9 => absurd rfl h9⟩
    exact fin (h.rest hI2 ⟨eT, eL, eI 0⟩ (by rw [eI]; exact h.2.2.2.2.2.2.1))
def putB (rec : Nat → cSt → Int → (Nat → Int) → (Nat → Int) → Option (Nat × cSt × (Nat → Int) × (Nat → Int))) (nx0 nx1 : Nat) (w : Int) (n : Nat) (M : cSt) (H P : Nat → Int) (s o x15 : Int) : Option (Nat × cSt × (Nat → Int) × (Nat → Int)) :=
  ob (f_X_put n M s o) (fun x446 => og (inR x446.2) (og (inR x15) (if x446.2 = x15 then tl rec nx0 nx1 w n x446.1 H P else none)))
theorem putB_ok (h : LI n M H P i 5) {s o x15 : Int} (hs : 0 ≤ s ∧ s < 4) (ho : -1 ≤ o ∧ o < 4) (hx : x15 = nO (sl M s)) (fin : ∀ {n' : Nat} {M' : cSt} {H' P' : Nat → Int}, LI n' M' H' P' (i + 1) 5 → wp (tl rec nx0 nx1 w n' M' H' P') Q) : wp (putB rec nx0 nx1 w n M H P s o x15) Q := by
  have hI := h.1
  have hn := hI.1.1
  subst hx
  have hr : inR (nO (sl M s)) := nO_rng (n := n) (by omega) (fun k hk => (hI.slN k hk).1)
  unfold putB
  rw [wp_ob]
  refine wp_mono (put_ok hI hs.1 hs.2 ho.1 ho.2) (fun x hx => ?_)
  obtain ⟨hI2, e2, e1, eR⟩ := hx
  rw [wp_og, wp_og, wp_ite, e2]
  exact ⟨hr, hr, fun _ => fin (h.rest hI2 eR (by rw [e1]; exact h.2.2.2.2.2.2.1)), fun h9 => absurd rfl h9⟩
def swapB (rec : Nat → cSt → Int → (Nat → Int) → (Nat → Int) → Option (Nat × cSt × (Nat → Int) × (Nat → Int))) (nx0 nx1 : Nat) (w : Int) (n : Nat) (M : cSt) (H P : Nat → Int) (s o : Int) : Option (Nat × cSt × (Nat → Int) × (Nat → Int)) :=
  ob (f_X_swap n M s o) (fun x461 => ob (f_X_at n x461.1 s) (fun x462 => og (inR x461.2) (og (inR x462) (if x461.2 = x462 then tl rec nx0 nx1 w n x461.1 H P else none))))
theorem swapB_ok (h : LI n M H P i 5) {s o : Int} (hs : 0 ≤ s ∧ s < 4) (ho : 0 ≤ o ∧ o < 4) (fin : ∀ {n' : Nat} {M' : cSt} {H' P' : Nat → Int}, LI n' M' H' P' (i + 1) 5 → wp (tl rec nx0 nx1 w n' M' H' P') Q) : wp (swapB rec nx0 nx1 w n M H P s o) Q := by
  have hI := h.1
  have hn := hI.1.1
  unfold swapB
  rw [wp_ob]
  refine wp_mono (swap_ok hI hs.1 hs.2 ho.1 ho.2) (fun x hx => ?_)
  obtain ⟨hI2, e2, e1, eR⟩ := hx
  have hr : inR (nO (sl x.1 s)) := nO_rng (n := n) (by omega) (fun k hk => (hI2.slN k hk).1)
  rw [wp_ob]
  refine wp_of (at_ok hI2 hs.1 hs.2) ?_
  rw [wp_og, wp_og, wp_ite, e2]
  exact ⟨hr, hr, fun _ => fin (h.rest hI2 eR (by rw [e1]; exact h.2.2.2.2.2.2.1)), fun h9 => absurd rfl h9⟩
theorem LI.hash {q : Nat} {x : cSt × Int} (h : LI n M H P i 5) (hq : q < n) (hI : Inv n x.1) (e2 : x.2 = gT x.1 q 8) (eT : ∀ k f, f ≠ 6 → f ≠ 8 → gT x.1 k f = gT M k f) (e8 : ∀ k, k ≠ q → gT x.1 k 8 = gT M k 8) (e0 : gI M 0 ≤ gI x.1 0) (e0' : gI x.1 0 ≤ gI M 0 + 1) (eI : ∀ j, j ≠ 0 → gI x.1 j = gI M j) : LI n x.1 (va_up H q x.2) P (i + 1) 5 := by
  obtain ⟨a, b, c, d, e, g, j, k⟩ := h
  have hup : ∀ k, va_up H q x.2 k = if k = q then x.2 else H k := fun _ => rfl
  refine ⟨hI, ⟨fun k hk => ?_, fun k hk => ?_⟩, fun k hk hk2 => ?_, by omega, by omega, by omega, by rw [eI 1 (by decide)]; exact j, ?_⟩
  · rw [hup]
    by_cases hkq : k = q
    · rw [if_pos hkq, hkq]; exact e2
    · rw [if_neg hkq, e8 k hkq]; exact b.1 k hk
  · rw [eT k 9 (by decide) (by decide), eT k 4 (by decide) (by decide)]; exact b.2 k hk
  · rw [hup, if_neg (by omega)]; exact c k hk hk2
  · rw [pnN_congr (M := M) (fun k _ => eT k 9 (by decide) (by decide))]; exact k
def hashB (rec : Nat → cSt → Int → (Nat → Int) → (Nat → Int) → Option (Nat × cSt × (Nat → Int) × (Nat → Int))) (nx0 nx1 : Nat) (w : Int) (n : Nat) (M : cSt) (H P : Nat → Int) (s x15 : Int) : Option (Nat × cSt × (Nat → Int) × (Nat → Int)) :=
  og (inR x15) (if x15 < 0 then tl rec nx0 nx1 w n M H P else og (nx1 < 2147483648) (og (0 ≤ x15 ∧ x15 < (nx1 : Int)) (og (inR (H (x15.toNat))) (if H (x15.toNat) < 0 then ob (f_X_hash n M s) (fun x479 => tl rec nx0 nx1 w n x479.1 (va_up H (x15.toNat) x479.2) P) else ob (f_X_hash n M s) (fun x483 => og (inR x483.2) (if x483.2 = H (x15.toNat) then ob (f_X_hash n x483.1 s) (fun x486 => tl rec nx0 nx1 w n x486.1 (va_up H (x15.toNat) x486.2) P) else none))))))
theorem hashB_ok (h : LI n M H P i 5) (hi : i < 100) (e1 : nx1 = 200) {s x15 : Int} (hs : 0 ≤ s ∧ s < 4) (hx : x15 = nO (sl M s)) (fin : ∀ {n' : Nat} {M' : cSt} {H' P' : Nat → Int}, LI n' M' H' P' (i + 1) 5 → wp (tl rec nx0 nx1 w n' M' H' P') Q) : wp (hashB rec nx0 nx1 w n M H P s x15) Q := by
  obtain ⟨hI, hh, hH, hn, h0, h0', h1, hp⟩ := id h
  subst hx
  unfold hashB
  rw [wp_og, wp_ite]
  refine ⟨nO_rng (n := n) (by omega) (fun k hk => (hI.slN k hk).1), fun _ => fin h.mono, fun h9 => ?_⟩
  cases hq : sl M s with
  | none => rw [hq] at h9; exact absurd (show nO none < 0 by decide) h9
  | some q =>
    have hqT := hI.slT q hq
    have hz := hI.sz hqT.1
    have e3 : nO (some q) = (q : Int) := rfl
    have hk := hash_ok hI hs.1 hs.2 hq ⟨by omega, by omega⟩
    rw [e3, show (q : Int).toNat = q by omega, wp_og, wp_og, wp_og, wp_ite, hh.1 q hqT.1]
    refine ⟨by omega, ⟨by omega, by omega⟩, ⟨by omega, by omega⟩, fun hneg => ?_, fun hpos => ?_⟩
    · rw [wp_ob]
      refine wp_mono hk (fun x hx => ?_)
      obtain ⟨g1, g2, g3, g4, g5, g6, g7, g8, g9, g10, g11⟩ := hx
      exact fin (h.hash hqT.1 g1 g2 g5 g6 g7 g8 g9)
    · rw [wp_ob]
      refine wp_mono hk (fun x hx => ?_)
      obtain ⟨g1, g2, g3, g4, g5, g6, g7, g8, g9, g10, g11⟩ := hx
      have e4 := g4 (by omega)
      subst e4
      rw [wp_og, wp_ite]
      refine ⟨⟨by show _ ≤ gT M q 8; omega, by show gT M q 8 < _; omega⟩, fun _ => ?_, fun h9 => absurd rfl h9⟩
      rw [wp_ob]
      refine wp_mono hk (fun x hx => ?_)
      obtain ⟨g1, g2, g3, g4, g5, g6, g7, g8, g9, g10, g11⟩ := hx
      exact fin (h.hash hqT.1 g1 g2 g5 g6 g7 g8 g9)
def pinB (rec : Nat → cSt → Int → (Nat → Int) → (Nat → Int) → Option (Nat × cSt × (Nat → Int) × (Nat → Int))) (nx0 nx1 : Nat) (w : Int) (n : Nat) (M : cSt) (H P : Nat → Int) (s x15 : Int) : Option (Nat × cSt × (Nat → Int) × (Nat → Int)) :=
  og (inR x15) (if x15 < 0 then tl rec nx0 nx1 w n M H P else ob (f_Law_pinned n M) (fun x496 => og (inR x496) (if x496 = 4 then tl rec nx0 nx1 w n M H P else ob (f_X_pin n M s) (fun x502 => og (inR x502.2) (if x502.2 = 0 then ob (f_X_ofObject n x502.1 x15 0) (fun x505 => og (inR x505) (if x505 = 1 then tl rec nx0 nx1 w n x502.1 H P else none)) else ob (f_X_ofObject n x502.1 x15 1) (fun x511 => og (nx0 < 2147483648) (og (0 ≤ x15 ∧ x15 < (nx0 : Int)) (tl rec nx0 nx1 w n x502.1 H (va_up P (x15.toNat) x511)))))))))
theorem pnN_one {n q : Nat} {M M' : cSt} (hq : q < n) (h9 : ∀ k, k < n → gT M k 9 = 0 ∨ gT M k 9 = 1) (h1 : gT M' q 9 = 1) (ho : ∀ k, k ≠ q → gT M' k 9 = gT M k 9) : pnN M' n ≤ pnN M n + 1 := by
  have key : ∀ m, m ≤ n → pnN M' m ≤ pnN M m + (if q < m then 1 else 0) := by
    intro m
    induction m with
    | zero => intro _; show (0 : Int) ≤ 0 + _; split <;> omega
    | succ m ih =>
      intro hm
      have := ih (by omega)
      show pnN M' m + gT M' m 9 ≤ pnN M m + gT M m 9 + _
      by_cases e : m = q
      · have h8 := h9 m (by omega)
        rw [if_neg (by omega)] at this
        rw [if_pos (by omega), e, h1]
        rw [e] at this h8
        omega
      · rw [ho m e]
        by_cases h5 : q < m
        · rw [if_pos h5] at this; rw [if_pos (by omega)]; omega
        · rw [if_neg h5] at this; rw [if_neg (by omega)]; omega
  have := key n (Nat.le_refl _)
  rw [if_pos hq] at this
  exact this
theorem pinB_ok (h : LI n M H P i 5) (hi : i < 100) (e0 : nx0 = 200) {s x15 : Int} (hs : 0 ≤ s ∧ s < 4) (hx : x15 = nO (sl M s)) (fin : ∀ {n' : Nat} {M' : cSt} {H' P' : Nat → Int}, LI n' M' H' P' (i + 1) 5 → wp (tl rec nx0 nx1 w n' M' H' P') Q) : wp (pinB rec nx0 nx1 w n M H P s x15) Q := by
  obtain ⟨hI, hh, hH, hn, h0, h0', h1, hp⟩ := id h
  subst hx
  unfold pinB
  rw [wp_og, wp_ite]
  refine ⟨nO_rng (n := n) (by omega) (fun k hk => (hI.slN k hk).1), fun _ => fin h.mono, fun h9 => ?_⟩
  cases hq : sl M s with
  | none => rw [hq] at h9; exact absurd (show nO none < 0 by decide) h9
  | some q =>
    have hqT := hI.slT q hq
    have hz := hI.sz hqT.1
    have e3 : nO (some q) = (q : Int) := rfl
    have hp0 : 0 ≤ pnN M n := by
      have e9 : sumN (fun k => if k < n then gT M k 9 else 0) n = pnN M n := sumN_congr (fun k hk => by rw [if_pos hk])
      rw [← e9]
      refine (sumN_rng (c := 1) (fun k => ?_) n).1
      by_cases hk : k < n
      · have := hI.1.2.2.2.2.2.2.2.1 k hk
        rw [if_pos hk]; omega
      · rw [if_neg hk]; exact ⟨by decide, by decide⟩
    rw [wp_ob]
    refine wp_of (lpin_ok hI) ?_
    rw [wp_og, wp_ite]
    refine ⟨⟨by omega, by omega⟩, fun _ => fin h.mono, fun h4 => ?_⟩
    rw [wp_ob]
    refine wp_mono (pin_ok hI hs.1 hs.2 hq (by rw [pnN_sum]; omega)) (fun x hx => ?_)
    rcases hx with ⟨e4, e5⟩ | ⟨e4, hP⟩
    · subst e4
      rw [wp_og, wp_ite]
      refine ⟨(show inR 0 from ⟨by decide, by decide⟩), fun _ => ?_, fun h9 => absurd rfl h9⟩
      rw [e3, wp_ob]
      refine wp_of (of_ok hI hqT.1 (by decide) (by decide)) ?_
      have ho : oO M q 0 = gT M q 3 := rfl
      rw [ho, e5, wp_og, wp_ite]
      exact ⟨⟨by decide, by decide⟩, fun _ => fin h.mono, fun h9 => absurd rfl h9⟩
    · obtain ⟨p1, p2, p3, p4, p5, p6, p7, p8, p9, p10⟩ := hP
      rw [wp_og, wp_ite, e4]
      refine ⟨⟨by decide, by decide⟩, fun h9 => absurd h9 (by decide), fun _ => ?_⟩
      rw [e3, wp_ob]
      refine wp_of (of_ok p1 hqT.1 (by decide) (by decide)) ?_
      rw [oO1 p3, wp_og, wp_og, show (q : Int).toNat = q by omega]
      refine ⟨by omega, ⟨by omega, by omega⟩, fin ?_⟩
      have hup : ∀ k, va_up P q (gT x.1 q 4) k = if k = q then gT x.1 q 4 else P k := fun _ => rfl
      refine ⟨p1, ⟨fun k hk => ?_, fun k hk => ?_⟩, fun k hk hk2 => ?_, by omega, by omega, by omega, by omega, ?_⟩
      · by_cases hkq : k = q
        · rw [hkq, p4]; exact hh.1 q hqT.1
        · rw [p5 k 8 hkq]; exact hh.1 k hk
      · rw [hup]
        by_cases hkq : k = q
        · rw [if_pos hkq, hkq, p2]; exact Or.inr ⟨by decide, rfl⟩
        · rw [if_neg hkq, p5 k 9 hkq, p5 k 4 hkq]; exact hh.2 k hk
      · rw [hup, if_neg (by omega)]; exact hH k hk hk2
      · have := pnN_one hqT.1 (fun k hk => hI.1.2.2.2.2.2.2.2.1 k hk) p2 (fun k hk => p5 k 9 hk)
        omega
end
