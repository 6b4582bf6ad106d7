/-! LAYER 2: a new OBJECT keeps the invariant; make. -/
theorem Laid.inv {n : Nat} {M L : cSt} (h : Inv n M) (hn : n ≤ 198) {a b p x : Int} (ha : 0 ≤ a ∧ a ≤ 4) (hb : 2 ≤ b ∧ b ≤ 20) (hx : 0 ≤ x ∧ x ≤ 420) (hp : p = 1 ∨ p = 3) (hL : Laid n M a b p x L) : Inv (n + 1) L := by
  obtain ⟨hB, hr, ⟨Q, hQ⟩, -, hN, hCr, hSl, hPin, hNum, hSz, hFl, hAg⟩ := h
  obtain ⟨lI, lT, lR, lL, lF, lZ, l0, lc, lP⟩ := hL
  have t0 : gT L n 0 = (n : Int) := by rw [lT, if_pos rfl, if_neg (by decide), if_neg (by decide), if_pos rfl]
  have t2 : gT L n 2 = a := by rw [lT, if_pos rfl, if_neg (by decide), if_neg (by decide), if_neg (by decide), if_pos rfl]
  have t3 : gT L n 3 = p := by rw [lT, if_pos rfl, if_neg (by decide), if_pos rfl]
  have t4 : gT L n 4 = x := by rw [lT, if_pos rfl, if_pos rfl]
  have t5 : gT L n 5 = 2 + b := by rw [lT, if_pos rfl, if_neg (by decide), if_neg (by decide), if_neg (by decide), if_neg (by decide), if_pos rfl]
  have t6 : gT L n 6 = 2 + b := by rw [lT, if_pos rfl, if_neg (by decide), if_neg (by decide), if_neg (by decide), if_neg (by decide), if_neg (by decide), if_pos rfl]
  have t7 : gT L n 7 = 0 := by rw [lT, if_pos rfl, if_neg (by decide), if_neg (by decide), if_neg (by decide), if_neg (by decide), if_neg (by decide), if_neg (by decide), if_neg (by decide)]
  have t8 : gT L n 8 = -1 := by rw [lT, if_pos rfl, if_neg (by decide), if_neg (by decide), if_neg (by decide), if_neg (by decide), if_neg (by decide), if_neg (by decide), if_pos rfl]
  have t9 : gT L n 9 = 0 := by rw [lT, if_pos rfl, if_neg (by decide), if_neg (by decide), if_neg (by decide), if_neg (by decide), if_neg (by decide), if_neg (by decide), if_neg (by decide)]
  have to : ∀ k f, k < n → gT L k f = gT M k f := fun k f hk => by rw [lT, if_neg (by omega)]
  have Lo : ∀ k, k < n → gL L k = gL M k := fun k hk => by rw [lL, if_neg (by omega)]
  have Ln : gL L n = b.toNat := by rw [lL, if_pos rfl]
  have Fn : ∀ j, gF L n j = none := fun j => by rw [lF, if_pos rfl]
  have Fo : ∀ k j, k < n → gF L k j = gF M k j := fun k j hk => by rw [lF, if_neg (by omega)]
  have hcs : ∀ k, k < n + 1 → k = n ∨ k < n := fun k hk => by omega
  obtain ⟨c1, c2, c3, c4, c5, c6, c7, c8, c9, c10⟩ := hB
  refine ⟨⟨by omega, l0, lc, fun k hk => ?_, fun k hk => ?_, ?_, ?_, fun k hk => ?_, fun k hk => ?_, fun k hk => ?_⟩, ⟨fun k hk j q hj hq => ?_, fun k hk => ?_⟩, ⟨Q, ⟨?_, ?_⟩, hQ.2.1, fun k hk => ?_⟩, lP, fun k hk => ?_, ⟨fun j hj => by rw [lZ]; exact hCr.1 j hj, fun k hk hp hy => ?_⟩, fun j k hk => ?_, fun k hk h9 => ?_, fun k hk => ?_, fun k hk => ?_, ⟨?_, ?_, ?_, ?_⟩, fun k hk => ?_⟩
  · rcases hcs k hk with e | e
    · rw [e, Ln]; omega
    · rw [Lo k e]; exact c4 k e
  · rcases hcs k hk with e | e
    · rw [e, t2]; exact ha
    · rw [to k 2 e]; exact c5 k e
  · rw [lI 1 (by decide)]; exact c6
  · rw [lI 11 (by decide)]; exact c7
  · rcases hcs k hk with e | e
    · rw [e, t9]; exact Or.inl rfl
    · rw [to k 9 e]; exact c8 k e
  · rcases hcs k hk with e | e
    · rw [e, t3]; omega
    · rw [to k 3 e]; exact c9 k e
  · rcases hcs k hk with e | e
    · rw [e, t5]; omega
    · rw [to k 5 e]; exact c10 k e
  · rcases hcs k hk with e | e
    · rw [e, Fn] at hq; cases hq
    · rw [Fo k j e] at hq
      rw [Lo k e] at hj
      rw [to k 3 e, to q 3 (c3.2 k j q hq)]
      exact hr.1 k e j q hj hq
  · have h9 : IsRt M n k := by
      rcases hk with ⟨j, hj, h⟩ | ⟨j, hj, h⟩ | ⟨j, hj, h⟩ | h
      · exact Or.inl ⟨j, by rw [← lI 1 (by decide)]; exact hj, by rw [← lR 7 j (by decide)]; exact h⟩
      · exact Or.inr (Or.inl ⟨j, hj, by rw [← lR 8 j (by decide)]; exact h⟩)
      · exact Or.inr (Or.inr (Or.inl ⟨j, by rw [← lI 11 (by decide)]; exact hj, by rw [← lR 1 j (by decide)]; exact h⟩))
      · rcases hcs k h.1 with e | e
        · rw [e, t9] at h; exact absurd rfl h.2
        · exact Or.inr (Or.inr (Or.inr ⟨e, by rw [← to k 9 e]; exact h.2⟩))
    rw [to k 3 (IsRt.lt c3 h9)]
    exact hr.2 k h9
  · rw [lI 11 (by decide)]; exact hQ.1.1
  · exact fun j hj => (lR 1 j (by decide)).trans (hQ.1.2 j hj)
  · have h9 := hQ.2.2 k hk
    exact ⟨by omega, by rw [to k 2 h9.1]; exact h9.2⟩
  · rcases hcs k hk with e | e
    · rw [e, t4, t5, t6, t9]; omega
    · rw [to k 4 e, to k 5 e, to k 6 e, to k 9 e]; exact hN k e
  · obtain ⟨j, q, hj, hq, h1⟩ := hy
    rcases hcs k hk with e | e
    · rw [e, Fn] at hq; cases hq
    · rw [Fo k j e] at hq
      rw [Lo k e] at hj
      rw [to k 3 e] at hp
      rw [to q 3 (c3.2 k j q hq)] at h1
      have hcr : crd L k = crd M k := by unfold crd; rw [to k 4 e]
      rw [lZ, hcr]
      exact hCr.2 k e hp ⟨j, q, hj, hq, h1⟩
  · rw [lI 1 (by decide)]
    exact hSl j k (by rw [← lR 7 j (by decide)]; exact hk)
  · rcases hcs k hk with e | e
    · rw [e, t9] at h9; exact absurd rfl h9
    · rw [to k 9 e] at h9
      rw [to k 3 e]; exact hPin k e h9
  · rcases hcs k hk with e | e
    · rw [e, t0]
    · rw [to k 0 e]; exact hNum k e
  · rcases hcs k hk with e | e
    · rw [e, t5, t6, t8, Ln]; omega
    · rw [to k 5 e, to k 6 e, to k 8 e, Lo k e]; exact hSz k e
  · rw [lI 17 (by decide)]; exact hFl.1
  · rw [lI 20 (by decide)]; exact hFl.2.1
  · rw [lI 9 (by decide)]; exact hFl.2.2.1
  · rw [lI 9 (by decide)]; exact hFl.2.2.2
  · rcases hcs k hk with e | e
    · rw [e, t7]; omega
    · rw [to k 7 e, to k 3 e]; exact hAg k e
/-- what make does -/
def NewP (n : Nat) (M : cSt) (a : Int) (x : Nat × cSt × Int) : Prop :=
  x.1 = n + 1 ∧ x.2.2 = (n : Int) ∧ Inv (n + 1) x.2.1 ∧ sl x.2.1 a = some n ∧ (∀ k, k < n → gT x.2.1 k 8 = gT M k 8 ∧ gT x.2.1 k 9 = gT M k 9 ∧ (gT M k 9 ≠ 0 → gT x.2.1 k 4 = gT M k 4)) ∧ gT x.2.1 n 8 = -1 ∧ gT x.2.1 n 9 = 0 ∧ gT x.2.1 n 3 ≠ 0 ∧ gI x.2.1 0 = gI M 0 ∧ gI x.2.1 1 = gI M 1
def MakP (n : Nat) (M : cSt) (a : Int) (x : Nat × cSt × Int) : Prop := (x.1 = n ∧ x.2.2 = -1 ∧ GcP n M x.2.1) ∨ NewP n M a x
theorem NewP.gc {n : Nat} {M M' : cSt} {a : Int} {x : Nat × cSt × Int} (hg : GcP n M M') (h : NewP n M' a x) : NewP n M a x := by
  obtain ⟨-, g1, g2, g3, g4⟩ := hg
  obtain ⟨h1, h2, h3, h4, h5, h6, h7, h8, h9, h10⟩ := h
  refine ⟨h1, h2, h3, h4, fun k hk => ⟨(h5 k hk).1.trans (g1 k).1, (h5 k hk).2.1.trans (g1 k).2, fun hp => ?_⟩, h6, h7, h8, h9.trans g3, h10.trans g4⟩
  exact ((h5 k hk).2.2 (by rw [(g1 k).2]; exact hp)).trans (g2 k hk hp)
theorem newTail_ok {n : Nat} {M : cSt} (h : Inv n M) (hn : n ≤ 198) {s a b x : Int} (hs : 0 ≤ s ∧ s < 4) (ha : 0 ≤ a ∧ a ≤ 4) (hb : 2 ≤ b ∧ b ≤ 20) (hx : 0 ≤ x ∧ x ≤ 420) (hg : GapP n M b x) :
    wp (ob (f_Row_size n M 0) (fun x29 => oc (cRf n M) (og (0 ≤ x29 ∧ x29 ≤ 199) (og (0 ≤ b ∧ b ≤ 20) (ob (f_Row_add (n + 1) (nTh M n x29 a b) 0 (some n)) (fun x32 => ob (f_Pl_lay (n + 1) x32 (some n) x) (fun x33 => ob (f_Mk_noteMade (n + 1) x33 (some n)) (fun x34 => ob (f_Ro_writeSlot (n + 1) x34 s (some n)) (fun x35 => some ((n + 1), x35, gT x35 n 0)))))))))) (NewP n M s) := by
  rw [wp_ob]
  refine wp_of (size_ok h.1.2.1) ?_
  rw [List.length_range, wp_oc, wp_og, wp_og, wp_ob]
  refine ⟨h.1.2.2.1, ⟨by omega, by omega⟩, ⟨by omega, by omega⟩, ?_⟩
  obtain ⟨N, hN, nI, nT, nR, nL, nF, nZ, n0, nc⟩ := new_row h hn (a := a) (b := b)
  refine wp_of hN ?_
  rw [wp_ob]
  refine wp_mono (lay_ok h hn hb hx hg nI nT nR nL nF nZ n0 nc) (fun L h9 => ?_)
  obtain ⟨p, hp, hL⟩ := h9
  have hI := Laid.inv h hn ha hb hx hp hL
  obtain ⟨lI, lT, lR, lL, lF, lZ, l0, lc, lP⟩ := hL
  have h17 : gI L 17 = 0 := hI.2.2.2.2.2.2.2.2.2.2.1.1
  have hmk : f_Mk_noteMade (n + 1) L (some n) = some L := by
    unfold f_Mk_noteMade
    rw [h17, og_of ⟨by omega, by omega⟩, if_pos rfl]
  rw [wp_ob]
  refine wp_of hmk ?_
  have hfr := hI.fr
  rw [wp_ob]
  refine wp_of (wslot_ok hfr hs.1 hs.2 (fun k hk => by cases hk; omega)) ?_
  rw [wp_some]
  have t3 : gT L n 3 = p := by rw [lT, if_pos rfl, if_neg (by decide), if_pos rfl]
  have t0 : gT L n 0 = (n : Int) := by rw [lT, if_pos rfl, if_neg (by decide), if_neg (by decide), if_pos rfl]
  have t8 : gT L n 8 = -1 := by rw [lT, if_pos rfl, if_neg (by decide), if_neg (by decide), if_neg (by decide), if_neg (by decide), if_neg (by decide), if_neg (by decide), if_pos rfl]
  have t9 : gT L n 9 = 0 := by rw [lT, if_pos rfl, if_neg (by decide), if_neg (by decide), if_neg (by decide), if_neg (by decide), if_neg (by decide), if_neg (by decide), if_neg (by decide)]
  have to : ∀ k f, k < n → gT L k f = gT M k f := fun k f hk => by rw [lT, if_neg (by omega)]
  refine ⟨rfl, t0, hI.sR7 (by omega) (fun k hk => by cases hk; exact ⟨by omega, by rw [t3]; omega⟩), ?_, fun k hk => ⟨to k 8 hk, to k 9 hk, fun _ => to k 4 hk⟩, t8, t9, ?_, lI 0 (by decide), lI 1 (by decide)⟩
  · show gR (sR L 7 _ _) 7 _ = _
    rw [gR_sR, if_pos ⟨rfl, rfl⟩]
  · show gT L n 3 ≠ 0
    rw [t3]; omega
theorem FullP.gcp {n : Nat} {M : cSt} {s : Int} {x : cSt × Int} (hI : Inv n M) (h : Inv n x.1) (hf : FullP n M s x) : GcP n M x.1 := (FullP.gc hI h hf).1
theorem GapP.rng {n : Nat} {M : cSt} {a x : Int} (h : x = -1 ∨ (0 ≤ x ∧ x ≤ 420 ∧ GapP n M a x)) : inR x := by
  rcases h with h | h
  · exact ⟨by omega, by omega⟩
  · exact ⟨by omega, by omega⟩
theorem make_ok {n : Nat} {M : cSt} (h : Inv n M) (hn : n ≤ 198) {s a b : Int} (hs : 0 ≤ s ∧ s < 4) (ha : 0 ≤ a ∧ a ≤ 4) (hb : 2 ≤ b ∧ b ≤ 20) : wp (f_X_make n M s a b) (MakP n M s) := by
  have tail : ∀ {M' : cSt} {x : Int}, GcP n M M' → (x = -1 ∨ (0 ≤ x ∧ x ≤ 420 ∧ GapP n M' b x)) → ¬ x = -1 → wp (ob (f_Row_size n M' 0) (fun x29 => oc (cRf n M') (og (0 ≤ x29 ∧ x29 ≤ 199) (og (0 ≤ b ∧ b ≤ 20) (ob (f_Row_add (n + 1) (nTh M' n x29 a b) 0 (some n)) (fun x32 => ob (f_Pl_lay (n + 1) x32 (some n) x) (fun x33 => ob (f_Mk_noteMade (n + 1) x33 (some n)) (fun x34 => ob (f_Ro_writeSlot (n + 1) x34 s (some n)) (fun x35 => some ((n + 1), x35, gT x35 n 0)))))))))) (MakP n M s) := fun {M' x} hG hx hne => by
    rcases hx with hx | hx
    · exact absurd hx hne
    · exact wp_mono (newTail_ok hG.1 hn hs ha hb ⟨hx.1, hx.2.1⟩ hx.2.2) (fun y hy => Or.inr (hy.gc hG))
  have full0 : ∀ {M' : cSt}, GcP n M M' → wp (ob (f_X_full n M' 0) (fun x25 => ob (f_Pl_gapFor n x25.1 b) (fun x26 => og (inR x26) (if x26 = (-1) then some (n, x25.1, (-1)) else ob (f_Row_size n x25.1 0) (fun x29 => oc (cRf n x25.1) (og (0 ≤ x29 ∧ x29 ≤ 199) (og (0 ≤ b ∧ b ≤ 20) (ob (f_Row_add (n + 1) (nTh x25.1 n x29 a b) 0 (some n)) (fun x32 => ob (f_Pl_lay (n + 1) x32 (some n) x26) (fun x33 => ob (f_Mk_noteMade (n + 1) x33 (some n)) (fun x34 => ob (f_Ro_writeSlot (n + 1) x34 s (some n)) (fun x35 => some ((n + 1), x35, gT x35 n 0))))))))))))) (MakP n M s) := fun {M'} hG => by
    rw [wp_ob]
    refine wp_mono (xfull_ok hG.1 (Or.inl rfl)) (fun y hy => ?_)
    have hG2 := hG.tr (hy.2.gcp hG.1 hy.1)
    rw [wp_ob]
    refine wp_mono (gap_ok hG2.1 ⟨by omega, by omega⟩) (fun x hx => ?_)
    rw [wp_og, wp_ite]
    refine ⟨GapP.rng hx, fun _ => ?_, fun hne => tail hG2 hx hne⟩
    rw [wp_some]
    exact Or.inl ⟨rfl, rfl, hG2⟩
  have full1 : ∀ {M' : cSt}, GcP n M M' → wp (ob (f_X_full n M' 1) (fun x21 => ob (f_Pl_gapFor n x21.1 b) (fun x22 => og (inR x22) (if x22 = (-1) then ob (f_X_full n x21.1 0) (fun x25 => ob (f_Pl_gapFor n x25.1 b) (fun x26 => og (inR x26) (if x26 = (-1) then some (n, x25.1, (-1)) else ob (f_Row_size n x25.1 0) (fun x29 => oc (cRf n x25.1) (og (0 ≤ x29 ∧ x29 ≤ 199) (og (0 ≤ b ∧ b ≤ 20) (ob (f_Row_add (n + 1) (nTh x25.1 n x29 a b) 0 (some n)) (fun x32 => ob (f_Pl_lay (n + 1) x32 (some n) x26) (fun x33 => ob (f_Mk_noteMade (n + 1) x33 (some n)) (fun x34 => ob (f_Ro_writeSlot (n + 1) x34 s (some n)) (fun x35 => some ((n + 1), x35, gT x35 n 0)))))))))))) else ob (f_Row_size n x21.1 0) (fun x29 => oc (cRf n x21.1) (og (0 ≤ x29 ∧ x29 ≤ 199) (og (0 ≤ b ∧ b ≤ 20) (ob (f_Row_add (n + 1) (nTh x21.1 n x29 a b) 0 (some n)) (fun x32 => ob (f_Pl_lay (n + 1) x32 (some n) x22) (fun x33 => ob (f_Mk_noteMade (n + 1) x33 (some n)) (fun x34 => ob (f_Ro_writeSlot (n + 1) x34 s (some n)) (fun x35 => some ((n + 1), x35, gT x35 n 0))))))))))))) (MakP n M s) := fun {M'} hG => by
    rw [wp_ob]
    refine wp_mono (xfull_ok hG.1 (Or.inr rfl)) (fun y hy => ?_)
    have hG2 := hG.tr (hy.2.gcp hG.1 hy.1)
    rw [wp_ob]
    refine wp_mono (gap_ok hG2.1 ⟨by omega, by omega⟩) (fun x hx => ?_)
    rw [wp_og, wp_ite]
    exact ⟨GapP.rng hx, fun _ => full0 hG2, fun hne => tail hG2 hx hne⟩
  unfold f_X_make
  rw [wp_ob]
  refine wp_of (reqSlot_ok hs.1 hs.2) ?_
  rw [wp_og, wp_ite]
  refine ⟨⟨by omega, by omega⟩, fun h9 => absurd h9 (by omega), fun _ => ?_⟩
  rw [wp_ite]
  refine ⟨fun h9 => absurd h9 (by omega), fun _ => ?_⟩
  have hlf : wp (f_X_leastFields n M a) (fun y => 0 ≤ y ∧ y ≤ 2) := by
    unfold f_X_leastFields
    rw [wp_og, wp_ite, wp_ite, wp_ite, wp_some, wp_some, wp_some]
    exact ⟨⟨by omega, by omega⟩, fun _ => ⟨by decide, by decide⟩, fun _ => ⟨fun _ => ⟨by decide, by decide⟩, fun _ => ⟨fun _ => ⟨by decide, by decide⟩, fun _ => ⟨by decide, by decide⟩⟩⟩⟩
  rw [wp_ob]
  refine wp_mono hlf (fun y hy => ?_)
  rw [wp_og, wp_og, wp_ite]
  refine ⟨⟨by omega, by omega⟩, ⟨by omega, by omega⟩, fun h9 => absurd h9 (by omega), fun _ => ?_⟩
  rw [wp_ite]
  refine ⟨fun h9 => absurd h9 (by omega), fun _ => ?_⟩
  rw [wp_ob]
  refine wp_of (size_ok h.1.2.1) ?_
  rw [List.length_range, wp_og, wp_ite]
  refine ⟨⟨by omega, by omega⟩, fun _ => ?_, fun h9 => absurd h9 (by omega)⟩
  have hG0 := GcP.rf h
  rw [wp_ob]
  refine wp_mono (gap_ok h ⟨by omega, by omega⟩) (fun x hx => ?_)
  rw [wp_og, wp_ite]
  refine ⟨GapP.rng hx, fun _ => ?_, fun hne => tail hG0 hx hne⟩
  rw [wp_ite]
  refine ⟨fun _ => ?_, fun _ => full1 hG0⟩
  rw [wp_ob]
  refine wp_mono (xminor_ok h) (fun z hz => ?_)
  rw [wp_ob]
  refine wp_mono (gap_ok hz.1.1 ⟨by omega, by omega⟩) (fun x hx => ?_)
  rw [wp_og, wp_ite]
  exact ⟨GapP.rng hx, fun _ => full1 hz.1, fun hne => tail hz.1 hx hne⟩
