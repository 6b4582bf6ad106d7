/-! LAYER 2: the law's isFull. -/
theorem oO.teq {M M' : cSt} (he : TEq M M') (k : Nat) (a : Int) : oO M' k a = oO M k a := by
  unfold oO
  rw [he.2.1 k 3 (by decide), he.2.1 k 4 (by decide), he.2.1 k 5 (by decide), he.2.1 k 7 (by decide), he.2.1 k 8 (by decide), he.2.1 k 9 (by decide), he.2.1 k 2 (by decide)]
theorem rcN.teq {n : Nat} {M M' : cSt} (he : TEq M M') (k : Nat) : rcN M' n k = rcN M n k := by
  unfold rcN
  rw [C1.teq he]
theorem rcN_rng (M : cSt) (n k : Nat) : (rcN M n k = 0 ∨ rcN M n k = 1) ∧ (rcN M n k = 1 → C1 M n 1 none k) := by
  unfold rcN
  by_cases hc : C1 M n 1 none k
  · rw [if_pos hc]; exact ⟨Or.inr rfl, fun _ => hc⟩
  · rw [if_neg hc]; exact ⟨Or.inl rfl, fun e => absurd e (by decide)⟩
theorem TEq.gc {n : Nat} {M M' : cSt} (h : Inv n M') (he : TEq M M') : GcP n M M' :=
  ⟨h, fun k => ⟨he.2.1 k 8 (by decide), he.2.1 k 9 (by decide)⟩, fun k _ _ => he.2.1 k 4 (by decide), he.1 0 (by decide), he.1 1 (by decide)⟩
theorem isf16_loop {n : Nat} {M0 : cSt} {a : Int} : ∀ (u v : Nat) (M : cSt) (f1 f0 : Nat → Int), Inv n M → TEq M0 M → v ≤ n → n - v < u → (∀ k, k < v → f1 k = oO M0 k 2 ∧ f0 k = rcN M0 n k) →
    wp (g_Law_isFull_16 n a n n u M (v : Int) f1 f0) (fun x => Inv n x.1 ∧ TEq M0 x.1 ∧ ∀ k, k < n → x.2.1 k = oO M0 k 2 ∧ x.2.2 k = rcN M0 n k) := by
  intro u
  induction u with
  | zero => intro v M f1 f0 _ _ _ h; omega
  | succ u ih =>
    intro v M f1 f0 h he hv hu hf
    have hn := h.1.1
    show wp (s_Law_isFull_16 (g_Law_isFull_16 n a n n u) n a n n M (v : Int) f1 f0) _
    unfold s_Law_isFull_16
    rw [wp_og, wp_og, wp_og, wp_ite]
    refine ⟨by omega, ⟨by omega, by omega⟩, ⟨by omega, by omega⟩, fun hlt => ?_, fun hge => ?_⟩
    · have hvn : v < n := by omega
      rw [wp_ob]
      refine wp_of (of_ok h hvn (by decide) (by decide)) ?_
      rw [wp_og, wp_ob]
      refine ⟨⟨by omega, by omega⟩, ?_⟩
      refine wp_mono (xreach_ok h hvn) (fun x hx => ?_)
      obtain ⟨hI, hx1, hx2⟩ := hx
      have hr := rcN_rng M n v
      rw [wp_og, wp_og, wp_og, show (v : Int).toNat = v by omega, hx2, oO.teq he, rcN.teq he]
      refine ⟨by omega, ⟨by omega, by omega⟩, (rcN_rng M0 n v).1, ?_⟩
      refine ih (v + 1) x.1 _ _ hI (he.tr hx1) (by omega) (by omega) (fun k hk => ?_)
      show (if k = v then oO M0 v 2 else f1 k) = _ ∧ (if k = v then rcN M0 n v else f0 k) = _
      by_cases hkv : k = v
      · rw [if_pos hkv, if_pos hkv, hkv]; exact ⟨rfl, rfl⟩
      · rw [if_neg hkv, if_neg hkv]; exact hf k (by omega)
    · rw [wp_some]
      have : v = n := by omega
      subst this; exact ⟨h, he, hf⟩
theorem isf103_loop {n : Nat} {M : cSt} {s : Int} {f0 f1 : Nat → Int} (h : Inv n M) (hs : s = 0 ∨ s = 1) (hf : ∀ k, k < n → (f0 k = 0 ∨ f0 k = 1) ∧ (s = 1 → f0 k = 1 → gT M k 3 ≠ 0)) : ∀ (u v : Nat), v ≤ n → n - v < u →
    wp (g_Law_isFull_103 n M s n f0 n f1 u (v : Int)) (fun o => o = .inl ()) := by
  intro u
  induction u with
  | zero => intro v _ h; omega
  | succ u ih =>
    intro v hv hu
    have hn := h.1.1
    show wp (s_Law_isFull_103 (g_Law_isFull_103 n M s n f0 n f1 u) n M s n f0 n f1 (v : Int)) _
    unfold s_Law_isFull_103
    rw [wp_og, wp_og, wp_og, wp_ite]
    refine ⟨by omega, ⟨by omega, by omega⟩, ⟨by omega, by omega⟩, fun hlt => ?_, fun hge => wp_some.mpr rfl⟩
    have hvn : v < n := by omega
    have hfv := hf v hvn
    have hz := h.sz hvn
    have nx : ∀ (_ : Unit), wp (g_Law_isFull_103 n M s n f0 n f1 u ((v : Int) + 1)) (fun o => o = .inl ()) := fun _ => ih (v + 1) (by omega) (by omega)
    rw [wp_og, wp_ite]
    refine ⟨⟨by omega, by omega⟩, fun _ => nx (), fun h1 => ?_⟩
    rw [wp_og, wp_og, wp_og, wp_ite, show (v : Int).toNat = v by omega]
    refine ⟨by omega, ⟨by omega, by omega⟩, ⟨by omega, by omega⟩, fun _ => nx (), fun h2 => ?_⟩
    rw [wp_ob]
    refine wp_of (of_ok h hvn (by decide) (by decide)) ?_
    have ho : oO M v 0 = gT M v 3 := rfl
    rw [ho, wp_og, wp_ite]
    exact ⟨⟨by omega, by omega⟩, fun h9 => absurd h9 (hfv.2 (by omega) (by omega)), fun _ => nx ()⟩
theorem wFr_rng {n : Nat} {M : cSt} (h : Inv n M) (s : Int) (t : Option Nat) : 0 ≤ wFr M n s t ∧ wFr M n s t ≤ 30 * n := by
  have e : wFr M n s t = sumN (fun k => if k < n then (if gT M k 3 = 0 then 0 else @ite Int (C2 M n s t k) (Classical.propDecidable _) 0 (gT M k 5)) else 0) n := by
    unfold wFr
    exact sumN_congr (fun k hk => by rw [if_pos hk])
  rw [e]
  refine sumN_rng (c := 30) (fun k => ?_) n
  by_cases hk : k < n
  · have hz := h.sz hk
    rw [if_pos hk]
    by_cases h0 : gT M k 3 = 0
    · rw [if_pos h0]; exact ⟨by decide, by decide⟩
    · rw [if_neg h0]
      by_cases hc : C2 M n s t k
      · rw [if_pos hc]; exact ⟨by decide, by decide⟩
      · rw [if_neg hc]; omega
  · rw [if_neg hk]; exact ⟨by decide, by decide⟩
theorem sumN_zero : ∀ n, sumN (fun _ => 0) n = 0
  | 0 => rfl
  | n + 1 => by show sumN (fun _ => 0) n + 0 = 0; rw [sumN_zero n]; rfl
theorem isFull_ok {n : Nat} {M : cSt} (h : Inv n M) {s : Int} (hs : s = 0 ∨ s = 1) : wp (f_Law_isFull n M s) (fun x => GcP n M x.1 ∧ x.2 = 1) := by
  have hfu : fu = 500 := rfl
  have hn := h.1.1
  unfold f_Law_isFull
  rw [wp_ob]
  refine wp_of (many0_ok h) ?_
  rw [wp_og, wp_og, wp_og, wp_ob, show ((n : Int).toNat : Int).toNat = n by omega, show (n : Int).toNat = n by omega]
  refine ⟨⟨by omega, by omega⟩, by omega, ⟨by omega, by omega⟩, ?_⟩
  refine wp_mono (isf16_loop (M0 := M) fu 0 M (fun _ => 0) (fun _ => 0) h (Eqx.rf _ _ _ M) (Nat.zero_le _) (by rw [hfu]; omega) (fun k hk => absurd hk (Nat.not_lt_zero k))) (fun x17 h17 => ?_)
  obtain ⟨hI1, he1, hf⟩ := h17
  rw [wp_ob]
  refine wp_mono (xwould_ok hI1 hs) (fun x18 h18 => ?_)
  obtain ⟨hI2, he2, hw⟩ := h18
  have heM2 : TEq M x18.1 := he1.tr he2
  rw [wp_ob]
  refine wp_of (many1_ok hI2) ?_
  rw [wp_ob]
  refine wp_mono (xfull_ok hI2 hs) (fun x20 h20 => ?_)
  obtain ⟨hI3, hFP⟩ := h20
  have hgc := FullP.gc hI2 hI3 hFP
  obtain ⟨p1, -, -, -, p5, -⟩ := hFP
  have t2 := thN_rng n x18.1
  have t3 := thN_rng n x20.1
  rw [wp_ob]
  refine wp_of (many1_ok hI3) ?_
  rw [wp_og, wp_og, wp_ite]
  refine ⟨⟨by omega, by omega⟩, ⟨by omega, by omega⟩, fun _ => ?_, fun h9 => absurd hgc.2 h9⟩
  have hf1 : ∀ k, k < n → inR (x17.2.1 k) := fun k hk => by
    rw [(hf k hk).1]
    have hz := h.sz hk
    by_cases h0 : gT M k 3 = 0
    · have : oO M k 2 = -1 := by unfold oO; rw [if_neg (by decide), if_pos h0]
      rw [this]; exact ⟨by decide, by decide⟩
    · rw [oO2 h0]; exact ⟨by omega, by omega⟩
  rw [wp_ob]
  refine wp_of (lwords_ok hI3 hf1) ?_
  have hC2 : C2 x18.1 n s none = C2 M n s none := C2.teq heM2 s none
  have hsum : sumN (gwd x20.1 x17.2.1) n = x18.2 := by
    rw [hw, wFr.teq he1]
    unfold wFr
    refine sumN_congr (fun k hk => ?_)
    have hz := h.sz hk
    have hp := p1 k hk
    rw [hC2] at hp
    unfold gwd
    rw [(hf k hk).1]
    by_cases h0 : gT M k 3 = 0
    · have : oO M k 2 = -1 := by unfold oO; rw [if_neg (by decide), if_pos h0]
      rw [this, if_neg (by decide), if_pos h0]
    · rw [oO2 h0, if_pos (by omega), if_neg h0]
      by_cases hc : C2 M n s none k
      · rw [if_neg (hp.mpr hc), if_pos hc]
      · rw [if_pos (Decidable.byContradiction (fun h9 => hc (hp.mp h9))), if_neg hc]
  have hwr := wFr_rng hI1 s none
  rw [wp_og, wp_og, wp_ite, hsum, hw]
  refine ⟨⟨by omega, by omega⟩, ⟨by omega, by omega⟩, fun _ => ?_, fun h9 => absurd rfl h9⟩
  rw [wp_ob]
  refine wp_mono (xwould_ok hI3 (Or.inr rfl)) (fun x29 h29 => ?_)
  obtain ⟨hI4, he4, hw4⟩ := h29
  have hz0 : x29.2 = 0 := by
    rw [hw4]
    unfold wFr
    refine (sumN_congr (g := fun _ => 0) (fun k hk => ?_)).trans (sumN_zero n)
    by_cases h0 : gT x20.1 k 3 = 0
    · rw [if_pos h0]
    · rw [if_neg h0]
      have hc : C2 x20.1 n 1 none k := RchP.base (Or.inl (p5 k ((p1 k hk).mp h0)))
      rw [if_pos hc]
  rw [wp_og, wp_ite, hz0]
  refine ⟨⟨by decide, by decide⟩, fun _ => ?_, fun h9 => absurd rfl h9⟩
  rw [wp_ob]
  refine wp_mono (isf103_loop hI4 hs (fun k hk => ?_) fu 0 (Nat.zero_le _) (by rw [hfu]; omega)) (fun o ho => ?_)
  · rw [(hf k hk).2]
    have hr := rcN_rng M n k
    refine ⟨hr.1, fun e1 e2 => ?_⟩
    rw [he4.2.1 k 3 (by decide)]
    refine (p1 k hk).mpr ?_
    rw [hC2, e1]
    exact RchP.base (Or.inl (hr.2 e2))
  · rw [wp_os]
    refine ⟨fun y _ => ?_, fun y ey => (by rw [ho] at ey; cases ey)⟩
    rw [wp_some]
    exact ⟨(TEq.gc hI2 heM2).tr (hgc.1.tr (TEq.gc hI4 he4)), rfl⟩
