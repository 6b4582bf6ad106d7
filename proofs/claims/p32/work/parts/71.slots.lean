/-! LAYER 2: push, pop, put, swap, hash. -/
def Rest (M M' : cSt) : Prop := (∀ k f, gT M' k f = gT M k f) ∧ (∀ k, gL M' k = gL M k) ∧ gI M' 0 = gI M 0
theorem Rest.rf (M : cSt) : Rest M M := ⟨fun _ _ => rfl, fun _ => rfl, rfl⟩
theorem cRf_sR {n r j : Nat} {M : cSt} {t : Option Nat} (h : cRf n M) (ht : ∀ k, t = some k → k < n) : cRf n (sR M r j t) := by
  refine ⟨fun r' j' k hk => ?_, h.2⟩
  rw [gR_sR] at hk
  split at hk
  · exact ht k hk
  · exact h.1 r' j' k hk
theorem eqx_sR (M : cSt) (r j : Nat) (t : Option Nat) : Eqx [] [] [r] M (sR M r j t) := ⟨fun _ _ => rfl, fun _ _ _ => rfl, fun r' j' hr => by rw [gR_sR, if_neg (fun h9 => hr (by rw [h9.1]; exact List.mem_cons_self))], fun _ => rfl, fun _ _ => rfl, fun _ => rfl⟩
theorem Inv.sR7 {n : Nat} {M : cSt} (h : Inv n M) {i : Nat} (hi : (i : Int) < gI M 1 * 4) {t : Option Nat} (ht : ∀ k, t = some k → k < n ∧ gT M k 3 ≠ 0) : Inv n (sR M 7 i t) :=
  h.gen ((eqx_sR M 7 i t).mono (by decide) (by decide) (by decide)) (cRf_sR h.1.2.2.1 (fun k hk => (ht k hk).1)) h.fr (fun j k hk => by
    rw [gR_sR] at hk
    show (j : Int) < gI M 1 * 4 ∧ _
    split at hk
    · rename_i h9
      exact ⟨by omega, (ht k hk).2⟩
    · have := h.th7 hk; exact ⟨this.1, this.2.1⟩) (fun j k hj hk => by
    rw [gR_sR, if_neg (fun h9 => by omega)] at hk
    exact (h.th8 hj hk).1)
theorem Inv.sR8 {n : Nat} {M : cSt} (h : Inv n M) {i : Nat} {t : Option Nat} (ht : ∀ k, t = some k → k < n ∧ gT M k 3 ≠ 0) : Inv n (sR M 8 i t) :=
  h.gen ((eqx_sR M 8 i t).mono (by decide) (by decide) (by decide)) (cRf_sR h.1.2.2.1 (fun k hk => (ht k hk).1)) h.fr (fun j k hk => by
    rw [gR_sR, if_neg (fun h9 => by omega)] at hk
    have := h.th7 hk; exact ⟨this.1, this.2.1⟩) (fun j k hj hk => by
    rw [gR_sR] at hk
    split at hk
    · exact (ht k hk).2
    · exact (h.th8 hj hk).1)
theorem Inv.slT {n : Nat} {M : cSt} (h : Inv n M) {a : Int} : ∀ k, sl M a = some k → k < n ∧ gT M k 3 ≠ 0 := fun k hk => by
  have := h.th7 hk; exact ⟨this.2.2, this.2.1⟩
theorem push_ok {n : Nat} {M : cSt} (h : Inv n M) (hf : gI M 1 ≤ 7) : wp (f_X_push n M) (fun x => Inv n x.1 ∧ x.2 = gI M 1 + 1 ∧ gI x.1 1 = gI M 1 + 1 ∧ Rest M x.1) := by
  have h1 := h.fr
  unfold f_X_push f_Ro_frames f_Ro_addFrame
  simp only [wp_ob, wp_og, wp_ite, wp_some]
  have e : gI (sI M 1 (gI M 1 + 1)) 1 = gI M 1 + 1 := by rw [gI_sI, if_pos rfl]
  refine ⟨⟨by omega, by omega⟩, fun _ => ⟨⟨by omega, by omega⟩, fun _ => ⟨?_, e, e, fun _ _ => rfl, fun _ => rfl, by rw [gI_sI, if_neg (by decide)]⟩, fun h9 => by omega⟩, fun h9 => by omega⟩
  refine h.gen ⟨fun j hj => by rw [gI_sI, if_neg (fun h9 => hj (by rw [h9]; decide))], fun _ _ _ => rfl, fun _ _ _ => rfl, fun _ => rfl, fun _ _ => rfl, fun _ => rfl⟩ h.1.2.2.1 (by rw [e]; omega) (fun j k hk => ?_) (fun j k hj hk => (h.th8 hj hk).1)
  have := h.th7 (j := j) hk
  rw [e]
  exact ⟨by omega, this.2.1⟩
theorem dropF_loop {n : Nat} {f : Int} (h1 : 1 ≤ f ∧ f ≤ 8) : ∀ (u v : Nat) (M : cSt), gI M 1 = f → v ≤ 4 → 4 - v < u → wp (g_Ro_dropFrame_2 n u M (v : Int)) (fun M' => Eqx [] [] [7] M M' ∧ ∀ j : Nat, gR M' 7 j = if (f - 1) * 4 + v ≤ j ∧ (j : Int) < f * 4 then none else gR M 7 j) := by
  intro u
  induction u with
  | zero => intro v M _ _ h; omega
  | succ u ih =>
    intro v M hf hv hu
    show wp (s_Ro_dropFrame_2 (g_Ro_dropFrame_2 n u) n M (v : Int)) _
    unfold s_Ro_dropFrame_2
    rw [wp_og, wp_ite]
    refine ⟨⟨by omega, by omega⟩, fun hlt => ?_, fun hge => ?_⟩
    · rw [wp_ob]
      refine wp_of (wslot_ok (by rw [hf]; exact h1) (by omega) hlt (fun k hk => by cases hk)) ?_
      refine wp_mono (ih (v + 1) _ (by rw [gI_sR]; exact hf) (by omega) (by omega)) (fun M' h => ?_)
      obtain ⟨he, hj⟩ := h
      refine ⟨(eqx_sR _ _ _ _).tr he, fun j => ?_⟩
      rw [hj, gR_sR, hf]
      by_cases h9 : (f - 1) * 4 + (v + 1 : Nat) ≤ j ∧ (j : Int) < f * 4
      · rw [if_pos h9, if_pos ⟨by omega, h9.2⟩]
      · rw [if_neg h9]
        by_cases h8 : j = ((f - 1) * 4 + v).toNat
        · rw [if_pos ⟨rfl, h8⟩, if_pos ⟨by omega, by omega⟩]
        · rw [if_neg (fun h7 => h8 h7.2), if_neg (fun h7 => h9 ⟨by omega, h7.2⟩)]
    · rw [wp_some]
      exact ⟨Eqx.rf _ _ _ _, fun j => by rw [if_neg (fun h9 => by omega)]⟩
theorem pop_ok {n : Nat} {M : cSt} (h : Inv n M) (hf : 2 ≤ gI M 1) : wp (f_X_pop n M) (fun x => Inv n x.1 ∧ x.2 = gI M 1 - 1 ∧ gI x.1 1 = gI M 1 - 1 ∧ Rest M x.1) := by
  have h1 := h.fr
  have hfu : fu = 500 := rfl
  unfold f_X_pop f_Ro_frames f_Ro_dropFrame
  rw [wp_ob, wp_some, wp_og, wp_ite]
  refine ⟨⟨by omega, by omega⟩, fun _ => ?_, fun h9 => by omega⟩
  rw [wp_ob, wp_ob]
  refine wp_mono (dropF_loop h1 fu 0 M rfl (by omega) (by rw [hfu]; omega)) (fun M1 h9 => ?_)
  obtain ⟨he, hj⟩ := h9
  have e1 : gI M1 1 = gI M 1 := he.1 1 List.not_mem_nil
  rw [wp_og, wp_ite, e1]
  refine ⟨⟨by omega, by omega⟩, fun _ => ?_, fun h9 => by omega⟩
  rw [wp_some, wp_ob, wp_some, wp_some]
  have e : gI (sI M1 1 (gI M 1 - 1)) 1 = gI M 1 - 1 := by rw [gI_sI, if_pos rfl]
  refine ⟨?_, e, e, fun k f => he.2.1 k f List.not_mem_nil, fun k => he.2.2.2.1 k, by show gI (sI M1 1 (gI M 1 - 1)) 0 = _; rw [gI_sI, if_neg (by decide), he.1 0 List.not_mem_nil]⟩
  refine h.gen ⟨fun j hj => by rw [gI_sI, if_neg (fun h9 => hj (by rw [h9]; decide)), he.1 j List.not_mem_nil], fun k f _ => he.2.1 k f List.not_mem_nil, fun r j hr => he.2.2.1 r j (fun h9 => hr (by rw [List.mem_singleton] at h9; rw [h9]; decide)), fun k => he.2.2.2.1 k, fun k j => he.2.2.2.2.1 k j, fun j => he.2.2.2.2.2 j⟩ ⟨fun r j k hk => ?_, fun k j q hq => h.1.2.2.1.2 k j q (by rw [← he.2.2.2.2.1 k j]; exact hq)⟩ (by rw [e]; omega) (fun j k hk => ?_) (fun j k hj2 hk => ?_)
  · have hk : gR M1 r j = some k := hk
    by_cases hr : r = 7
    · subst hr
      rw [hj] at hk
      split at hk
      · cases hk
      · exact h.1.2.2.1.1 7 j k hk
    · rw [he.2.2.1 r j (by simp; exact hr)] at hk
      exact h.1.2.2.1.1 r j k hk
  · have hk : gR M1 7 j = some k := hk
    rw [hj] at hk
    rw [e]
    split at hk
    · cases hk
    · rename_i h9
      have := h.th7 hk
      exact ⟨by omega, this.2.1⟩
  · have hk : gR M1 8 j = some k := hk
    rw [he.2.2.1 8 j (by decide)] at hk
    exact (h.th8 hj2 hk).1
theorem put_ok {n : Nat} {M : cSt} (h : Inv n M) {a b : Int} (h0 : 0 ≤ a) (h4 : a < 4) (hb0 : -1 ≤ b) (hb4 : b < 4) : wp (f_X_put n M a b) (fun x => Inv n x.1 ∧ x.2 = nO (sl M a) ∧ gI x.1 1 = gI M 1 ∧ Rest M x.1) := by
  have h1 := h.fr
  have main : ∀ t, f_Ro_readSlot n M b = some t → (∀ k, t = some k → k < n ∧ gT M k 3 ≠ 0) → wp (f_X_put n M a b) (fun x => Inv n x.1 ∧ x.2 = nO (sl M a) ∧ gI x.1 1 = gI M 1 ∧ Rest M x.1) := fun t ht htT => by
    unfold f_X_put
    rw [wp_ob]
    refine wp_of (reqSlot_ok h0 h4) ?_
    rw [wp_ob]
    refine wp_of (reqSlotN_ok hb0 hb4) ?_
    rw [wp_ob]
    refine wp_of (slot_ok h1 h0 h4) ?_
    rw [wp_ob]
    refine wp_of ht ?_
    rw [wp_ob]
    refine wp_of (wslot_ok h1 h0 h4 (fun k hk => (htT k hk).1)) ?_
    rw [wp_ob]
    refine wp_of (numO_ok (fun k hk => h.slN k hk)) ?_
    rw [wp_some]
    exact ⟨h.sR7 (by omega) htT, rfl, rfl, fun _ _ => rfl, fun _ => rfl, rfl⟩
  by_cases hb : b = -1
  · subst hb; exact main none slotNone_ok (fun k hk => by cases hk)
  · exact main (sl M b) (slot_ok h1 (by omega) hb4) h.slT
theorem rglob_ok {n : Nat} {M : cSt} {a : Int} (h0 : 0 ≤ a) (h4 : a < 4) : f_Ro_readGlobal n M a = some (gR M 8 a.toNat) := by
  refine wp_eq ?_
  unfold f_Ro_readGlobal
  simp only [wp_og, wp_ite, wp_some]
  exact ⟨⟨by omega, by omega⟩, fun h => by omega, fun _ => ⟨fun _ => ⟨⟨by omega, by omega⟩, trivial⟩, fun h => by omega⟩⟩
theorem wglob_ok {n : Nat} {M : cSt} {a : Int} (h0 : 0 ≤ a) (h4 : a < 4) {t : Option Nat} (ht : ∀ k, t = some k → k < n) : f_Ro_writeGlobal n M a t = some (sR M 8 a.toNat t) := by
  refine wp_eq ?_
  unfold f_Ro_writeGlobal
  simp only [wp_ob, wp_og, wp_ite, wp_some, wp_on]
  exact ⟨⟨by omega, by omega⟩, fun h => by omega, fun _ => ⟨fun _ => ⟨fun e => ⟨⟨by omega, by omega⟩, by rw [e]⟩, fun q e => ⟨ht q e, ⟨by omega, by omega⟩, by rw [e]⟩⟩, fun h => by omega⟩⟩
theorem swap_ok {n : Nat} {M : cSt} (h : Inv n M) {a b : Int} (h0 : 0 ≤ a) (h4 : a < 4) (hb0 : 0 ≤ b) (hb4 : b < 4) : wp (f_X_swap n M a b) (fun x => Inv n x.1 ∧ x.2 = nO (sl x.1 a) ∧ gI x.1 1 = gI M 1 ∧ Rest M x.1) := by
  have h1 := h.fr
  have hg : ∀ k, gR M 8 b.toNat = some k → k < n ∧ gT M k 3 ≠ 0 := fun k hk => by
    have := h.th8 (j := b.toNat) (by omega) hk; exact ⟨this.2, this.1⟩
  unfold f_X_swap
  rw [wp_ob]
  refine wp_of (reqSlot_ok h0 h4) ?_
  rw [wp_og, wp_ite]
  refine ⟨⟨by omega, by omega⟩, fun h9 => by omega, fun _ => ?_⟩
  rw [wp_ite]
  refine ⟨fun _ => ?_, fun h9 => absurd hb4 h9⟩
  rw [wp_ob]
  refine wp_of (rglob_ok hb0 hb4) ?_
  rw [wp_ob]
  refine wp_of (slot_ok h1 h0 h4) ?_
  rw [wp_ob]
  refine wp_of (wglob_ok hb0 hb4 (fun k hk => (h.slT k hk).1)) ?_
  have hI1 : Inv n (sR M 8 b.toNat (sl M a)) := h.sR8 h.slT
  rw [wp_ob]
  refine wp_of (wslot_ok (M := sR M 8 b.toNat (sl M a)) h1 h0 h4 (fun k hk => (hg k hk).1)) ?_
  have hI2 : Inv n (sR (sR M 8 b.toNat (sl M a)) 7 ((gI (sR M 8 b.toNat (sl M a)) 1 - 1) * 4 + a).toNat (gR M 8 b.toNat)) := hI1.sR7 (by rw [gI_sR]; omega) hg
  rw [wp_ob]
  refine wp_of (numO_ok (fun k hk => ⟨(hg k hk).1, h.num (hg k hk).1⟩)) ?_
  rw [wp_some]
  refine ⟨hI2, ?_, rfl, fun _ _ => rfl, fun _ => rfl, rfl⟩
  show nO _ = nO (sl _ a)
  congr 1
  unfold sl
  rw [gR_sR, if_pos ⟨rfl, rfl⟩]
/-- hash -/
theorem hash_ok {n : Nat} {M : cSt} (h : Inv n M) {a : Int} (h0 : 0 ≤ a) (h4 : a < 4) {q : Nat} (hq : sl M a = some q) (hg : 0 ≤ gI M 0 ∧ gI M 0 ≤ 900) :
    wp (f_X_hash n M a) (fun x => Inv n x.1 ∧ x.2 = gT x.1 q 8 ∧ 0 ≤ x.2 ∧ (0 ≤ gT M q 8 → x = (M, gT M q 8)) ∧ (∀ k f, f ≠ 6 → f ≠ 8 → gT x.1 k f = gT M k f) ∧ (∀ k, k ≠ q → gT x.1 k 8 = gT M k 8) ∧ gI M 0 ≤ gI x.1 0 ∧ gI x.1 0 ≤ gI M 0 + 1 ∧ (∀ j, j ≠ 0 → gI x.1 j = gI M j) ∧ (∀ r j, gR x.1 r j = gR M r j) ∧ ∀ k, gL x.1 k = gL M k) := by
  have h1 := h.fr
  have hqn := (h.slT q hq).1
  have hB := h
  obtain ⟨-, -, -, -, hN, -, -, -, -, hSz, -⟩ := hB
  have hz := hSz q hqn
  have hb := h.fl hqn
  unfold f_X_hash
  rw [wp_ob]
  refine wp_of (reqSlot_ok h0 h4) ?_
  rw [wp_ob]
  refine wp_of (occ_ok h1 h0 h4 hq hqn) ?_
  rw [wp_on]
  refine ⟨fun e => (by cases e), fun k e => ?_⟩
  cases e
  rw [wp_og, wp_og, wp_ite]
  have h8 : -1 ≤ gT M q 8 ∧ gT M q 8 ≤ 1000 := by omega
  refine ⟨hqn, ⟨by omega, by omega⟩, fun he => ?_, fun he => ?_⟩
  · unfold f_Th_giveHash
    rw [wp_ob, wp_some, wp_some]
    have e5 : gT (sT M q 8 (gI M 0)) q 5 = gT M q 5 := by rw [gT_sT, if_neg (fun h9 => by omega)]
    rw [e5]
    have hs5 : gT M q 5 = 2 + gL M q := by omega
    generalize hF : sI (sT (sT M q 8 (gI M 0)) q 6 (gT M q 5 + 1)) 0 (gI (sT (sT M q 8 (gI M 0)) q 6 (gT M q 5 + 1)) 0 + 1) = F at *
    have hT : ∀ k f, gT F k f = if k = q ∧ f = 6 then gT M q 5 + 1 else if k = q ∧ f = 8 then gI M 0 else gT M k f := fun k f => by
      rw [← hF, gT_sI, gT_sT, gT_sT]
    have hT' : ∀ k f, f ≠ 6 → f ≠ 8 → gT F k f = gT M k f := fun k f h6 h8 => by rw [hT, if_neg (fun h9 => h6 h9.2), if_neg (fun h9 => h8 h9.2)]
    have hT8 : gT F q 8 = gI M 0 := by rw [hT, if_neg (fun h9 => by omega), if_pos ⟨rfl, rfl⟩]
    have hT6 : gT F q 6 = gT M q 5 + 1 := by rw [hT, if_pos ⟨rfl, rfl⟩]
    have hTo : ∀ k f, k ≠ q → gT F k f = gT M k f := fun k f hk => by rw [hT, if_neg (fun h9 => hk h9.1), if_neg (fun h9 => hk h9.1)]
    have hI : ∀ j, j ≠ 0 → gI F j = gI M j := fun j hj => by rw [← hF, gI_sI, if_neg hj]; rfl
    have hI0 : gI F 0 = gI M 0 + 1 := by rw [← hF, gI_sI, if_pos rfl]; rfl
    have hR : ∀ r j, gR F r j = gR M r j := fun r j => by rw [← hF]; rfl
    have hL : ∀ k, gL F k = gL M k := fun k => by rw [← hF]; rfl
    have hFF : ∀ k j, gF F k j = gF M k j := fun k j => by rw [← hF]; rfl
    have hZ : ∀ j, gZ F j = gZ M j := fun j => by rw [← hF]; rfl
    have hc : cRf n F := by rw [← hF]; exact h.1.2.2.1
    show Inv n F ∧ gT F q 8 = gT F q 8 ∧ 0 ≤ gT F q 8 ∧ _
    refine ⟨?_, rfl, by rw [hT8]; exact hg.1, fun h9 => by omega, hT', fun k hk => hTo k 8 hk, by show _ ≤ gI F 0; rw [hI0]; omega, by show gI F 0 ≤ _; rw [hI0]; omega, hI, hR, hL⟩
    obtain ⟨hB, hr, ⟨Q, hQ⟩, ⟨Y, O, G, hP⟩, hN, hCr, hSl, hPin, hNum, hSz, hFl, hAg⟩ := h
    have hEq : Eqx [0] [6, 8] [] M F := ⟨fun j hj => hI j (fun h9 => hj (by rw [h9]; decide)), fun k f hf => hT' k f (fun h9 => hf (by rw [h9]; decide)) (fun h9 => hf (by rw [h9]; decide)), fun r j _ => hR r j, hL, hFF, hZ⟩
    have hY : ∀ k, HY F k ↔ HY M k := fun k => by
      unfold HY
      simp only [hL, hFF]
      constructor
      · rintro ⟨j, p, a, b, c⟩; exact ⟨j, p, a, b, by rw [← hT' p 3 (by decide) (by decide)]; exact c⟩
      · rintro ⟨j, p, a, b, c⟩; exact ⟨j, p, a, b, by rw [hT' p 3 (by decide) (by decide)]; exact c⟩
    have hcr : ∀ k, crd F k = crd M k := fun k => by unfold crd; rw [hT' k 4 (by decide) (by decide)]
    refine ⟨?_, ⟨fun k hk j p hj hp => ?_, fun k hk => ?_⟩, ⟨Q, ?_⟩, ⟨Y, O, G, ?_⟩, fun k hk => ?_, ⟨fun j hj => by rw [hZ]; exact hCr.1 j hj, fun k hk hp hy => ?_⟩, fun j k hk => by rw [hI 1 (by decide)]; exact hSl j k (by rw [← hR]; exact hk), fun k hk h9 => ?_, fun k hk => ?_, fun k hk => ?_, ⟨?_, ?_, ?_, ?_⟩, fun k hk => ?_⟩
    · obtain ⟨a, b, c, d, e, f, g, i, j, l⟩ := hB
      exact ⟨a, hEq.row b (by decide) (by decide), hc, fun k hk => by rw [hL]; exact d k hk, fun k hk => by rw [hT' k 2 (by decide) (by decide)]; exact e k hk, by rw [hI 1 (by decide)]; exact f, by rw [hI 11 (by decide)]; exact g, fun k hk => by rw [hT' k 9 (by decide) (by decide)]; exact i k hk, fun k hk => by rw [hT' k 3 (by decide) (by decide)]; exact j k hk, fun k hk => by rw [hT' k 5 (by decide) (by decide)]; exact l k hk⟩
    · rw [hL] at hj
      rw [hFF] at hp
      rw [hT' k 3 (by decide) (by decide), hT' p 3 (by decide) (by decide)]
      exact hr.1 k hk j p hj hp
    · rw [hT' k 3 (by decide) (by decide)]
      refine hr.2 k ?_
      rcases hk with ⟨j, hj, h⟩ | ⟨j, hj, h⟩ | ⟨j, hj, h⟩ | h
      · exact Or.inl ⟨j, by rw [← hI 1 (by decide)]; exact hj, by rw [← hR]; exact h⟩
      · exact Or.inr (Or.inl ⟨j, hj, by rw [← hR]; exact h⟩)
      · exact Or.inr (Or.inr (Or.inl ⟨j, by rw [← hI 11 (by decide)]; exact hj, by rw [← hR]; exact h⟩))
      · exact Or.inr (Or.inr (Or.inr (by rw [← hT' k 9 (by decide) (by decide)]; exact h)))
    · exact ⟨hEq.row hQ.1 (by decide) (by decide), hQ.2.1, fun k hk => ⟨(hQ.2.2 k hk).1, by rw [hT' k 2 (by decide) (by decide)]; exact (hQ.2.2 k hk).2⟩⟩
    · obtain ⟨a1, a2, a3, a4, a5, a6, a7, a8, a9, b1, b2, b3, b4, b5, b6, b7, b8, b9, b10⟩ := hP
      have h45 : ∀ k, gT F k 4 = gT M k 4 ∧ gT F k 5 = gT M k 5 := fun k => ⟨hT' k 4 (by decide) (by decide), hT' k 5 (by decide) (by decide)⟩
      refine ⟨hEq.row a1 (by decide) (by decide), hEq.row a2 (by decide) (by decide), hEq.row a3 (by decide) (by decide), a4, a5, a6, fun k => by rw [hT' k 3 (by decide) (by decide)]; exact a7 k, fun k => by rw [hT' k 3 (by decide) (by decide)]; exact a8 k, fun k => by rw [hT' k 3 (by decide) (by decide)]; exact a9 k, ?_, ?_, b3.eq (fun k _ => h45 k), ?_⟩
      · rw [hI 2 (by decide), hI 3 (by decide)]; exact b1.eq (fun k _ => h45 k)
      · rw [hI 4 (by decide)]; exact b2.eq (fun k _ => h45 k)
      · rw [hI 2 (by decide), hI 3 (by decide), hI 4 (by decide), hI 5 (by decide)]
        exact ⟨b4, b5, b6, b7, b8, b9, b10⟩
    · have h9 := hN k hk
      rw [hT' k 4 (by decide) (by decide), hT' k 5 (by decide) (by decide), hT' k 9 (by decide) (by decide)]
      by_cases hkq : k = q
      · subst hkq; rw [hT6]; omega
      · rw [hTo k 6 hkq]; exact h9
    · rw [hT' k 3 (by decide) (by decide)] at hp
      rw [hZ, hcr]; exact hCr.2 k hk hp ((hY k).mp hy)
    · rw [hT' k 9 (by decide) (by decide)] at h9
      rw [hT' k 3 (by decide) (by decide)]; exact hPin k hk h9
    · rw [hT' k 0 (by decide) (by decide)]; exact hNum k hk
    · have h9 := hSz k hk
      rw [hT' k 5 (by decide) (by decide), hL]
      by_cases hkq : k = q
      · subst hkq; rw [hT6, hT8]; omega
      · rw [hTo k 6 hkq, hTo k 8 hkq]; exact h9
    · rw [hI 17 (by decide)]; exact hFl.1
    · rw [hI 20 (by decide)]; exact hFl.2.1
    · rw [hI 9 (by decide)]; exact hFl.2.2.1
    · rw [hI 9 (by decide)]; exact hFl.2.2.2
    · rw [hT' k 7 (by decide) (by decide), hT' k 3 (by decide) (by decide)]; exact hAg k hk
  · rw [wp_some]
    exact ⟨h, rfl, by show 0 ≤ gT M q 8; omega, fun _ => rfl, fun _ _ _ _ => rfl, fun _ _ => rfl, Int.le_refl _, by show gI M 0 ≤ gI M 0 + 1; omega, fun _ _ => rfl, fun _ _ => rfl, fun _ => rfl⟩
