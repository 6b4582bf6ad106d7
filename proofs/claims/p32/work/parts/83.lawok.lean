/-! LAYER 2: the law's function has an answer. -/
theorem C1.thereI {n : Nat} {M : cSt} (h : Inv n M) {s : Int} {t : Option Nat} {k : Nat} (hk : C1 M n s t k) : k < n ∧ gT M k 3 ≠ 0 := by
  refine hk (fun k => k < n ∧ gT M k 3 ≠ 0) (fun q hq => ⟨IsRt.lt h.1.2.2.1 hq, h.2.1.2 q hq⟩) (fun q p hq hf => ?_) (fun q a p hq _ hv => ?_)
  · obtain ⟨-, j, -, hj, hF⟩ := hf
    exact ⟨(h.fN p hF).1, (h.2.1.1 q hq.1 j p hj hF).2⟩
  · obtain ⟨-, -, -, -, hF⟩ := hv
    have hb := h.fl hq.1
    exact ⟨(h.fN p hF).1, (h.2.1.1 q hq.1 1 p (by omega) hF).2⟩
theorem loop23 {n : Nat} {M : cSt} : ∀ (u v : Nat) (f1 f0 : Nat → Int), v ≤ 200 → 200 - v < u → (∀ k, k < v → f1 k = -1 ∧ f0 k = -1) →
    wp (g_Law_law_23 n M 200 200 u (v : Int) f1 f0) (fun x => ∀ k, k < 200 → x.1 k = -1 ∧ x.2 k = -1) := by
  intro u
  induction u with
  | zero => intro v f1 f0 _ h; omega
  | succ u ih =>
    intro v f1 f0 hv hu hf
    show wp (s_Law_law_23 (g_Law_law_23 n M 200 200 u) n M 200 200 (v : Int) f1 f0) _
    unfold s_Law_law_23
    rw [wp_og, wp_ite]
    refine ⟨⟨by omega, by omega⟩, fun hlt => ?_, fun hge => ?_⟩
    · rw [wp_og, wp_og, wp_og, wp_og, show (v : Int).toNat = v by omega]
      refine ⟨by decide, ⟨by omega, by omega⟩, by decide, ⟨by omega, by omega⟩, ?_⟩
      refine ih (v + 1) _ _ (by omega) (by omega) (fun k hk => ?_)
      show (if k = v then (-1 : Int) else f1 k) = -1 ∧ (if k = v then (-1 : Int) else f0 k) = -1
      by_cases e : k = v
      · rw [if_pos e, if_pos e]; exact ⟨rfl, rfl⟩
      · rw [if_neg e, if_neg e]; exact hf k (by omega)
    · rw [wp_some]
      exact fun k hk => hf k (by omega)
theorem loop707 {n : Nat} {a : Int64} {nx0 nx1 : Nat} {f0 f1 : Nat → Int} : ∀ (u v : Nat) (M : cSt), Inv n M → v ≤ n → n - v < u →
    wp (g_Law_law_707 n a nx0 f0 nx1 f1 u M (v : Int)) (fun M' => Inv n M' ∧ TEq M M') := by
  intro u
  induction u with
  | zero => intro v M _ _ h; omega
  | succ u ih =>
    intro v M h hv hu
    have hn := h.1.1
    show wp (s_Law_law_707 (g_Law_law_707 n a nx0 f0 nx1 f1 u) n a nx0 f0 nx1 f1 M (v : Int)) _
    unfold s_Law_law_707
    rw [wp_ob]
    refine wp_of (many0_ok h) ?_
    rw [wp_og, wp_og, wp_ite]
    refine ⟨⟨by omega, by omega⟩, ⟨by omega, by omega⟩, fun hlt => ?_, fun hge => wp_some.mpr ⟨h, Eqx.rf _ _ _ M⟩⟩
    have hvn : v < n := by omega
    rw [wp_ob]
    refine wp_mono (xreach_ok h hvn) (fun x hx => ?_)
    obtain ⟨hI, he, hr⟩ := hx
    have hrr := rcN_rng M n v
    have hz := hI.sz hvn
    have nx : ∀ (_ : Unit), wp (g_Law_law_707 n a nx0 f0 nx1 f1 u x.1 ((v : Int) + 1)) (fun M' => Inv n M' ∧ TEq M M') := fun _ =>
      wp_mono (ih (v + 1) x.1 hI (by omega) (by omega)) (fun M' h9 => ⟨h9.1, he.tr h9.2⟩)
    rw [wp_og, wp_ite, hr]
    refine ⟨⟨by omega, by omega⟩, fun _ => nx (), fun h1 => ?_⟩
    have hth := (C1.thereI h (hrr.2 (by omega))).2
    rw [wp_ob]
    refine wp_of (of_ok hI hvn (by decide) (by decide)) ?_
    have ho : oO x.1 v 0 = gT x.1 v 3 := rfl
    rw [ho, wp_og, wp_ite]
    refine ⟨⟨by omega, by omega⟩, fun h9 => absurd h9 ?_, fun _ => nx ()⟩
    rw [he.2.1 v 3 (by decide)]; exact hth
theorem Inv.start : Inv 0 M0 := by
  have hn : ∀ {k : Nat} {p : Prop}, k < 0 → p := fun hk => absurd hk (Nat.not_lt_zero _)
  have hr : ∀ r j k, gR M0 r j = some k → k < 0 := fun r j k hk => by
    have e : gR M0 r j = none := rfl
    rw [e] at hk; cases hk
  have hnil : ∀ r, gI M0 (10 + r) = 0 → Row M0 r [] := fun r h => row_nil h
  refine ⟨⟨by omega, hnil 0 rfl, ⟨hr, fun k j q hq => ?_⟩, fun k hk => hn hk, fun k hk => hn hk, ⟨?_, ?_⟩, ⟨?_, ?_⟩, fun k hk => hn hk, fun k hk => hn hk, fun k hk => hn hk⟩, ⟨fun k hk => hn hk, fun k hk => ?_⟩, ⟨[], hnil 1 rfl, List.nodup_nil, fun k hk => absurd hk List.not_mem_nil⟩, ⟨[], [], [], ?_⟩, fun k hk => hn hk, ⟨fun j _ => Or.inl rfl, fun k hk => hn hk⟩, fun j k hk => hn (hr 7 j k hk), fun k hk => hn hk, fun k hk => hn hk, fun k hk => hn hk, ⟨rfl, rfl, ?_, ?_⟩, fun k hk => hn hk⟩
  · have e : gF M0 k j = none := rfl
    rw [e] at hq; cases hq
  · show (1 : Int) ≤ 1; decide
  · show (1 : Int) ≤ 8; decide
  · show (0 : Int) ≤ 0; decide
  · show (0 : Int) ≤ 200; decide
  · rcases hk with ⟨j, -, h⟩ | ⟨j, -, h⟩ | ⟨j, -, h⟩ | h
    · exact hn (hr 7 j k h)
    · exact hn (hr 8 j k h)
    · exact hn (hr 1 j k h)
    · exact hn h.1
  · have hm : ∀ (k : Nat) (p : Int), k ∈ ([] : List Nat) ↔ (k < 0 ∧ gT M0 k 3 = p) := fun k p => ⟨fun h => absurd h List.not_mem_nil, fun h => hn h.1⟩
    have hc : ∀ a b, Chn M0 a b [] := fun a b => ⟨List.Pairwise.nil, fun x hx => absurd hx List.not_mem_nil⟩
    refine ⟨hnil 2 rfl, hnil 3 rfl, hnil 4 rfl, List.nodup_nil, List.nodup_nil, List.nodup_nil, fun k => hm k 1, fun k => hm k 2, fun k => hm k 3, hc _ _, hc _ _, hc _ _, Or.inl rfl, ?_, ?_, ?_, ?_, ?_, ?_⟩
    · show (0 : Int) ≤ 0; decide
    · show (0 : Int) ≤ 0 + 40; decide
    · show (100 : Int) ≤ 100; decide
    · show (100 : Int) ≤ 100 + 60; decide
    · show (60 : Int) ≤ 60; decide
    · show (60 : Int) ≤ 180; decide
  · show (0 : Int) ≤ 0; decide
  · show (0 : Int) ≤ 100000; decide
theorem cmp_self (x : Int64) : lg_cmp x x = 0 := by
  unfold lg_cmp
  rw [if_neg (show ¬ x > x from Int64.lt_irrefl), if_pos rfl]
theorem law_ok (cv : Int → Int) : f_law cv 0 M0 = some () := by
  have hfu : fu = 500 := rfl
  refine wp_eq ?_
  unfold f_law
  rw [show ((200 : Int).toNat) = 200 from rfl, wp_ob]
  refine wp_mono (loop23 (n := 0) (M := M0) fu 0 (fun _ => 0) (fun _ => 0) (by omega) (by rw [hfu]; omega) (fun k hk => absurd hk (Nat.not_lt_zero k))) (fun x9 h9 => ?_)
  have hL : LI 0 M0 x9.1 x9.2 0 5 := by
    refine ⟨Inv.start, ⟨fun k hk => absurd hk (Nat.not_lt_zero k), fun k hk => absurd hk (Nat.not_lt_zero k)⟩, fun k _ hk => h9 k hk, Nat.le_refl _, ?_, ?_, ?_, ?_⟩
    · show (0 : Int) ≤ 0; decide
    · show (0 : Int) ≤ 2 * ((0 : Nat) : Int); decide
    · show (1 : Int) ≤ 5; decide
    · show (0 : Int) ≤ 4; decide
  rw [wp_ob]
  refine wp_mono (loop50 rfl rfl fu 0 0 M0 x9.1 x9.2 hL (by omega) (by rw [hfu]; omega)) (fun x h => ?_)
  have hn := h.1.1
  obtain ⟨M1, -, r, a1, -, a3, -, a5, -⟩ := digest_ok h h (Eqx.rf _ _ _ _)
  rw [wp_ob]
  refine wp_of a1 ?_
  rw [wp_ob]
  refine wp_mono (loop707 fu 0 M1 a3 (Nat.zero_le _) (by rw [hfu]; omega)) (fun M2 h2 => ?_)
  obtain ⟨M1', M3, r', b1, b2, -, -, -, -⟩ := digest_ok h h2.1 (a5.tr h2.2)
  have er : r = r' := by
    have := Option.some.inj (a1.symm.trans b1)
    exact congrArg Prod.snd this
  subst er
  rw [wp_ob]
  refine wp_of b2 ?_
  rw [cmp_self, wp_og, wp_ite]
  exact ⟨⟨by decide, by decide⟩, fun _ => wp_some.mpr rfl, fun h9 => absurd (by decide) h9⟩
