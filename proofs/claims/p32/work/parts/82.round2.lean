/-! LAYER 2: a round of the law, whole. -/
theorem anI_11 : anI 1 1 = 1 := by decide +kernel
section
variable {rec : Nat → cSt → Int → (Nat → Int) → (Nat → Int) → Option (Nat × cSt × (Nat → Int) × (Nat → Int))} {nx0 nx1 : Nat} {w : Int} {n : Nat} {M : cSt} {H P : Nat → Int} {i : Nat} {Q : Nat × cSt × (Nat → Int) × (Nat → Int) → Prop}
def popB (rec : Nat → cSt → Int → (Nat → Int) → (Nat → Int) → Option (Nat × cSt × (Nat → Int) × (Nat → Int))) (nx0 nx1 : Nat) (w : Int) (n : Nat) (M : cSt) (H P : Nat → Int) : Option (Nat × cSt × (Nat → Int) × (Nat → Int)) :=
  ob (f_X_many n M 2) (fun x587 => og (inR x587) (if 5 < x587 then ob (f_X_pop n M) (fun x590 => ob (f_X_many n x590.1 2) (fun x591 => og (inR x590.2) (og (inR x591) (if x590.2 = x591 then og (inR (anI 1 1)) (if (anI 1 1) = 0 then none else tl rec nx0 nx1 w n x590.1 H P) else og (inR (anI 1 0)) (if (anI 1 0) = 0 then none else tl rec nx0 nx1 w n x590.1 H P))))) else tl rec nx0 nx1 w n M H P))
/-- a state behind a push that may have one FRAME too many -/
theorem popB_ok (hI : Inv n M) (h6 : gI M 1 ≤ 6) (h5 : gI M 1 ≤ 5 → LI n M H P (i + 1) 5) (hp : ∀ {M' : cSt}, Inv n M' → Rest M M' → gI M' 1 ≤ 5 → LI n M' H P (i + 1) 5) (fin : ∀ {n' : Nat} {M' : cSt} {H' P' : Nat → Int}, LI n' M' H' P' (i + 1) 5 → wp (tl rec nx0 nx1 w n' M' H' P') Q) : wp (popB rec nx0 nx1 w n M H P) Q := by
  have hf := hI.fr
  unfold popB
  rw [wp_ob]
  refine wp_of (many2_ok n M) ?_
  rw [wp_og, wp_ite]
  refine ⟨⟨by omega, by omega⟩, fun hgt => ?_, fun hle => fin (h5 (by omega))⟩
  rw [wp_ob]
  refine wp_mono (pop_ok hI (by omega)) (fun x hx => ?_)
  obtain ⟨hI2, e2, e1, hr⟩ := hx
  rw [wp_ob]
  refine wp_of (many2_ok n x.1) ?_
  rw [wp_og, wp_og, wp_ite, e1, e2]
  refine ⟨⟨by omega, by omega⟩, ⟨by omega, by omega⟩, fun _ => ?_, fun h9 => absurd rfl h9⟩
  rw [wp_og, wp_ite, anI_11]
  exact ⟨⟨by decide, by decide⟩, fun h9 => absurd h9 (by decide), fun _ => fin (hp hI2 hr (by omega))⟩
def pushB (rec : Nat → cSt → Int → (Nat → Int) → (Nat → Int) → Option (Nat × cSt × (Nat → Int) × (Nat → Int))) (nx0 nx1 : Nat) (w : Int) (n : Nat) (M : cSt) (H P : Nat → Int) (a2 : Int) : Option (Nat × cSt × (Nat → Int) × (Nat → Int)) :=
  ob (f_Law_below n M a2 3) (fun x518 => og (inR x518) (if x518 = 0 then ob (f_X_push n M) (fun x521 => og (inR x521.2) (if x521.2 < 0 then popB rec nx0 nx1 w n x521.1 H P else ob (f_X_many n x521.1 2) (fun x545 => og (inR x545) (if x545 < 9 then popB rec nx0 nx1 w n x521.1 H P else ob (f_X_many n x521.1 2) (fun x569 => og (inR x569) (if 5 < x569 then ob (f_X_pop n x521.1) (fun x572 => ob (f_X_many n x572.1 2) (fun x573 => og (inR x572.2) (og (inR x573) (if x572.2 = x573 then og (inR (anI 0 1)) (if (anI 0 1) = 0 then none else tl rec nx0 nx1 w n x572.1 H P) else og (inR (anI 0 0)) (if (anI 0 0) = 0 then none else tl rec nx0 nx1 w n x572.1 H P))))) else none)))))) else popB rec nx0 nx1 w n M H P))
theorem pushB_ok (h : LI n M H P i 5) {a2 : Int} (fin : ∀ {n' : Nat} {M' : cSt} {H' P' : Nat → Int}, LI n' M' H' P' (i + 1) 5 → wp (tl rec nx0 nx1 w n' M' H' P') Q) : wp (pushB rec nx0 nx1 w n M H P a2) Q := by
  have hI := h.1
  have hf := hI.fr
  have h1 : gI M 1 ≤ 5 := h.2.2.2.2.2.2.1
  unfold pushB
  rw [wp_ob]
  refine wp_mono (below_ok (by decide) (by decide)) (fun y hy => ?_)
  rw [wp_og, wp_ite]
  refine ⟨⟨by omega, by omega⟩, fun _ => ?_, fun _ => popB_ok hI (by omega) (fun _ => h.mono) (fun hI' hr' h' => h.rest hI' hr' h') fin⟩
  rw [wp_ob]
  refine wp_mono (push_ok hI (by omega)) (fun x hx => ?_)
  obtain ⟨hI2, e2, e1, hr⟩ := hx
  rw [wp_og, wp_ite, e2]
  refine ⟨⟨by omega, by omega⟩, fun h9 => absurd h9 (by omega), fun _ => ?_⟩
  rw [wp_ob]
  refine wp_of (many2_ok n x.1) ?_
  rw [wp_og, wp_ite, e1]
  refine ⟨⟨by omega, by omega⟩, fun _ => ?_, fun h9 => absurd (show gI M 1 + 1 < 9 by omega) h9⟩
  refine popB_ok hI2 (by omega) (fun h5 => h.rest hI2 hr h5) (fun hI' hr' h' => ?_) fin
  exact h.rest hI' ⟨fun k f => (hr'.1 k f).trans (hr.1 k f), fun k => (hr'.2.1 k).trans (hr.2.1 k), hr'.2.2.trans hr.2.2⟩ h'
def minB (rec : Nat → cSt → Int → (Nat → Int) → (Nat → Int) → Option (Nat × cSt × (Nat → Int) × (Nat → Int))) (nx0 nx1 : Nat) (w : Int) (n : Nat) (M : cSt) (H P : Nat → Int) : Option (Nat × cSt × (Nat → Int) × (Nat → Int)) :=
  ob (f_X_many n M 1) (fun x609 => ob (f_X_minor n M) (fun x610 => ob (f_X_many n x610.1 1) (fun x611 => og (inR x610.2) (og (inR (x609 - x611)) (if x610.2 = (x609 - x611) then tl rec nx0 nx1 w n x610.1 H P else none)))))
theorem minB_ok (h : LI n M H P i 5) (fin : ∀ {n' : Nat} {M' : cSt} {H' P' : Nat → Int}, LI n' M' H' P' (i + 1) 5 → wp (tl rec nx0 nx1 w n' M' H' P') Q) : wp (minB rec nx0 nx1 w n M H P) Q := by
  have hI := h.1
  have hn := hI.1.1
  unfold minB
  rw [wp_ob]
  refine wp_of (many1_ok hI) ?_
  rw [wp_ob]
  refine wp_mono (xminor_ok hI) (fun x hx => ?_)
  obtain ⟨hg, e⟩ := hx
  have t1 := thN_rng n M
  have t2 := thN_rng n x.1
  rw [wp_ob]
  refine wp_of (many1_ok hg.1) ?_
  rw [wp_og, wp_og, wp_ite]
  exact ⟨⟨by omega, by omega⟩, ⟨by omega, by omega⟩, fun _ => fin (h.gc hg), fun h9 => absurd e h9⟩
noncomputable def fullB (rec : Nat → cSt → Int → (Nat → Int) → (Nat → Int) → Option (Nat × cSt × (Nat → Int) × (Nat → Int))) (nx0 nx1 : Nat) (w : Int) (n : Nat) (M : cSt) (H P : Nat → Int) (s : Int) : Option (Nat × cSt × (Nat → Int) × (Nat → Int)) :=
  ob (f_Law_isFull n M s) (fun x621 => og (inR x621.2) (if x621.2 = 0 then none else tl rec nx0 nx1 w n x621.1 H P))
theorem fullB_ok (h : LI n M H P i 5) {s : Int} (hs : s = 0 ∨ s = 1) (fin : ∀ {n' : Nat} {M' : cSt} {H' P' : Nat → Int}, LI n' M' H' P' (i + 1) 5 → wp (tl rec nx0 nx1 w n' M' H' P') Q) : wp (fullB rec nx0 nx1 w n M H P s) Q := by
  unfold fullB
  rw [wp_ob]
  refine wp_mono (isFull_ok h.1 hs) (fun x hx => ?_)
  rw [wp_og, wp_ite, hx.2]
  exact ⟨⟨by decide, by decide⟩, fun h9 => absurd h9 (by decide), fun _ => fin (h.gc hx.1)⟩
theorem step50 (h : LI n M H P i 5) (hi : i < 100) (e0 : nx0 = 200) (e1 : nx1 = 200) {cv : Int → Int} (kk : ∀ {n' : Nat} {M' : cSt} {H' P' : Nat → Int}, LI n' M' H' P' (i + 1) 5 → wp (rec n' M' ((i : Int) + 1) H' P') Q) : wp (s_Law_law_50 rec cv nx0 nx1 n M (i : Int) H P) Q := by
  have hI := h.1
  have fin : ∀ {n' : Nat} {M' : cSt} {H' P' : Nat → Int}, LI n' M' H' P' (i + 1) 5 → wp (tl rec nx0 nx1 ((i : Int) + 1) n' M' H' P') Q := fun hL => tl_ok hL e0 e1 (kk hL)
  unfold s_Law_law_50
  generalize (shI (cv ((i : Int) - Int.tdiv (i : Int) 16 * 16)) ((Int.tdiv (i : Int) 16) * 2)) + (7 * (i : Int)) = X
  rw [wp_og, wp_ite]
  refine ⟨⟨by omega, by omega⟩, fun _ => ?_, fun h9 => absurd (show (i : Int) < 100 by omega) h9⟩
  rw [wp_og]
  refine ⟨by rw [Int.tdiv_eq_ediv_of_nonneg (by omega)]; omega, ?_⟩
  rw [wp_ob]
  refine wp_mono (below_ok (by decide) (by decide)) (fun s hs => ?_)
  rw [wp_ob]
  refine wp_mono (below_ok (by decide) (by decide)) (fun o ho => ?_)
  rw [wp_ob]
  refine wp_of (at_ok hI hs.1 hs.2) ?_
  rw [wp_ob]
  refine wp_mono (below_ok (by decide) (by decide)) (fun c hc => ?_)
  rw [wp_og, wp_ite]
  refine ⟨⟨by omega, by omega⟩, fun _ => mkC_ok h hi hs fin, fun _ => ?_⟩
  rw [wp_ite]
  refine ⟨fun _ => mkC_ok h hi hs fin, fun _ => ?_⟩
  rw [wp_ite]
  refine ⟨fun _ => mkC_ok h hi hs fin, fun _ => ?_⟩
  rw [wp_ite]
  refine ⟨fun _ => mkC_ok h hi hs fin, fun _ => ?_⟩
  rw [wp_ite]
  refine ⟨fun _ => setB_ok h hs ho rfl fin, fun _ => ?_⟩
  rw [wp_ite]
  refine ⟨fun _ => setB_ok h hs ho rfl fin, fun _ => ?_⟩
  rw [wp_ite]
  refine ⟨fun _ => setB_ok h hs ho rfl fin, fun _ => ?_⟩
  rw [wp_ite]
  refine ⟨fun _ => ?_, fun _ => ?_⟩
  · rw [wp_ob]
    refine wp_mono (below_ok (by decide) (by decide)) (fun y hy => ?_)
    rw [wp_og, wp_ite]
    exact ⟨⟨by omega, by omega⟩, fun _ => putB_ok h hs ⟨by decide, by decide⟩ rfl fin, fun _ => putB_ok h hs ⟨by omega, ho.2⟩ rfl fin⟩
  rw [wp_ite]
  refine ⟨fun _ => swapB_ok h hs ho fin, fun _ => ?_⟩
  rw [wp_ite]
  refine ⟨fun _ => hashB_ok h hi e1 hs rfl fin, fun _ => ?_⟩
  rw [wp_ite]
  refine ⟨fun _ => pinB_ok h hi e0 hs rfl fin, fun _ => ?_⟩
  rw [wp_ite]
  refine ⟨fun _ => pushB_ok h fin, fun _ => ?_⟩
  rw [wp_ite]
  refine ⟨fun _ => minB_ok h fin, fun _ => ?_⟩
  rw [wp_ob]
  refine wp_mono (below_ok (by decide) (by decide)) (fun y hy => ?_)
  rw [wp_og, wp_ite]
  exact ⟨⟨by omega, by omega⟩, fun _ => fullB_ok h (Or.inr rfl) fin, fun _ => fullB_ok h (Or.inl rfl) fin⟩
end
theorem loop50 {nx0 nx1 : Nat} (e0 : nx0 = 200) (e1 : nx1 = 200) {cv : Int → Int} : ∀ (u i n : Nat) (M : cSt) (H P : Nat → Int), LI n M H P i 5 → i ≤ 100 → 100 - i < u → wp (g_Law_law_50 cv nx0 nx1 u n M (i : Int) H P) (fun x => Inv x.1 x.2.1) := by
  intro u
  induction u with
  | zero => intro i n M H P _ _ h; omega
  | succ u ih =>
    intro i n M H P h hi hu
    show wp (s_Law_law_50 (g_Law_law_50 cv nx0 nx1 u) cv nx0 nx1 n M (i : Int) H P) _
    by_cases hlt : i < 100
    · exact step50 h hlt e0 e1 (fun {n' M' H' P'} hL => ih (i + 1) n' M' H' P' hL (by omega) (by omega))
    · unfold s_Law_law_50
      rw [wp_og, wp_ite]
      refine ⟨⟨by omega, by omega⟩, fun h9 => absurd h9 (by omega), fun _ => wp_some.mpr h.1⟩
