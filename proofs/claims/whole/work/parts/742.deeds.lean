/-! breath, words, climbing -/
theorem pt_cm (s : Sg) {o1 k1 o2 k2 : Nat} (v w : Int32) (h : ¬ (o1 = o2 ∧ k1 = k2)) : pt (pt s o1 k1 v) o2 k2 w = pt (pt s o2 k2 w) o1 k1 v := by
  funext q j
  by_cases c1 : q = o1 ∧ j = k1
  · obtain ⟨rfl, rfl⟩ := c1
    rw [pt_s, ptf _ _ _ _ _ _ (fun c => h ⟨c.1, c.2⟩), pt_s]
  · rw [ptf _ o1 k1 q j v c1]
    by_cases c2 : q = o2 ∧ j = k2
    · obtain ⟨rfl, rfl⟩ := c2
      rw [pt_s, pt_s]
    · rw [ptf _ o2 k2 q j w c2, ptf _ o2 k2 q j w c2, ptf _ o1 k1 q j v c1]
theorem not_cm {b : Sg} {x y z v : Int32} {p : Nat} (hp : p < 10) : fM_notes x y z (pt b 103 (10 + p) v) = (fM_notes x y z b).map (fun s => pt s 103 (10 + p) v) := by
  have e5 : pt b 103 (10 + p) v 102 5 = b 102 5 := pt_o _ _ _ _ (by decide)
  have e2 : pt b 103 (10 + p) v 103 2 = b 103 2 := pt_k _ _ _ (by omega)
  have e0 : pt b 103 (10 + p) v 103 0 = b 103 0 := pt_k _ _ _ (by omega)
  have e3 : ∀ (s : Sg), pt s 103 (10 + p) v 103 3 = s 103 3 := fun s => pt_k _ _ _ (by omega)
  have e2' : ∀ (s : Sg), pt s 103 (10 + p) v 103 2 = s 103 2 := fun s => pt_k _ _ _ (by omega)
  unfold fM_notes
  simp only [e5, gc0, gc2, gc3, ic0, ic2, ic3, e2, e0, bnd_x]
  by_cases c1 : b 102 5 = 0
  · rw [if_pos c1, if_pos c1]
    by_cases c2 : b 103 2 = 150
    · rw [if_pos c2, if_pos c2]; rfl
    · rw [if_neg c2, if_neg c2]
      unfold gd
      split
      · rfl
      split
      · rfl
      split
      · rfl
      split
      · rfl
      split
      · rfl
      · show some _ = some _
        congr 1
        rw [pt_cm b v (b 103 0) (by omega : ¬ (103 = 109 ∧ _)), e3, pt_cm _ v _ (by omega : ¬ (103 = 109 ∧ _)), pt_cm _ v x (by omega : ¬ (103 = 109 ∧ _)), pt_cm _ v y (by omega : ¬ (103 = 109 ∧ _)), pt_cm _ v z (by omega : ¬ (103 = 109 ∧ _)), e2', pt_cm _ v _ (by omega : ¬ (103 = 103 ∧ 10 + p = 2))]
  · rw [if_neg c1, if_neg c1]; rfl
section DEED
variable {a0 b0 a b : Sg} {o n : Nat}
theorem e_hb {p : Nat} (hp : p < 10) (v : Int32) : ∃ k, k ≤ 99 ∧ (if 0 < (if v < 99 then v else 99) then (if v < 99 then v else 99) else 0) = nI k ∧ ∀ s, fM_hasBreath (nI p) v s = some (pt s 103 (10 + p) (99 - nI k)) := by
  obtain ⟨k, hk, h1, h2⟩ := clm v (M := 99) (by decide)
  refine ⟨k, hk, h1, fun s => ?_⟩
  unfold fM_hasBreath
  rw [show fM_held v 0 99 s = _ from h2 s, bi_s, n10, gd50 _ (by omega), bnd_e, ix_n (by omega)]
theorem pi_br (hB : BF a0 b0 o n) (h : PI a0 b0 o n a b) {p : Nat} (hp : p < n) (d v : Int32) (e : 99 - b 103 (10 + p) + d = v) : W2 (fSc_changeBreath o (nI p) d a) (fM_hasBreath (nI p) v b) (PI a0 b0 o n) := by
  have ho := hB.1
  have hn := hB.2.1
  have hp10 : p < 10 := by omega
  have hpe := pi_pe hB h hp
  obtain ⟨k, hk, k1, k2⟩ := e_hb hp10 v
  unfold fSc_changeBreath
  rw [e_St3 o hp10, bi_s, ro_o ho, hpe.2.2.2.1, e_min, bi_s, e_max, bi_s, e, k1, e_Sp3 o hp10, bv_s, ro_o ho, k2]
  refine w2_s (pi_p hB h p hp (fun q j hq => ptf _ _ _ _ _ _ (by omega)) (fun q j hq => ptf _ _ _ _ _ _ (by omega)) (fun g => ?_))
  obtain ⟨r0, r1, r2, r3, r4, r5, r6, r7, c0, c1, c2, c3, c4, c5⟩ := g
  unfold gPe
  rw [pt_k _ _ _ (show p * 8 ≠ p * 8 + 3 by omega), pt_k _ _ _ (show p * 8 + 1 ≠ p * 8 + 3 by omega), pt_k _ _ _ (show p * 8 + 2 ≠ p * 8 + 3 by omega), pt_s, pt_k _ _ _ (show p * 8 + 4 ≠ p * 8 + 3 by omega), pt_k _ _ _ (show p * 8 + 5 ≠ p * 8 + 3 by omega), pt_k _ _ _ (show p * 8 + 6 ≠ p * 8 + 3 by omega), pt_k _ _ _ (show p * 8 + 7 ≠ p * 8 + 3 by omega), pt_s, pt_k _ _ _ (show 20 + p ≠ 10 + p by omega), pt_k _ _ _ (show 30 + p ≠ 10 + p by omega), pt_k _ _ _ (show 40 + p ≠ 10 + p by omega)]
  exact ⟨r0, r1, r2, (i_ss 99 (nI k)).symm, r4, r5, r6, r7, c0, c1, c2, ⟨99 - k, by omega, pk_sub (a := 99) hk⟩, c4, c5⟩
/-- a word is said: the class's part, the reference's part ahead of its note -/
theorem pi_say (hB : BF a0 b0 o n) (h : PI a0 b0 o n a b) {p x : Nat} (hp : p < n) (hx : x ≤ 19) : ∃ a' b', fSc_say o (nI p) (nI x) a = some a' ∧ (∀ k, fM_isLast (nI p) (nI x) k b = bv (fM_notes k (nI p) (nI x) b') fun s4 => some s4) ∧ PI a0 b0 o n a' b' ∧ b' 103 (10 + p) = b 103 (10 + p) ∧ b' 102 = b 102 := by
  have ho := hB.1
  have hn := hB.2.1
  have hp10 : p < 10 := by omega
  have s1 : PI a0 b0 o n (pt (pt a o 4 (nI x)) o 5 (nI p)) (pt (pt b 103 6 (nI (x + 1))) 103 7 (nI (p + 1))) := by
    refine pi_f hB h (fun q k hq => by rw [ptf _ _ _ _ _ _ (by omega), ptf _ _ _ _ _ _ (by omega)]) (fun q k hq => by rw [ptf _ _ _ _ _ _ (by omega), ptf _ _ _ _ _ _ (by omega)]) (fun g => ?_)
    obtain ⟨⟨f2, f4, f5, f6, f7, f8, f9, f10, f11, f12⟩, ⟨b1, b2, b3, b4, b5, b6, b7⟩⟩ := g
    have A : ∀ k, k ≠ 4 → k ≠ 5 → pt (pt a o 4 (nI x)) o 5 (nI p) o k = a o k := fun k h1 h2 => by rw [pt_k _ _ _ h2, pt_k _ _ _ h1]
    have B : ∀ k, k ≠ 6 → k ≠ 7 → pt (pt b 103 6 (nI (x + 1))) 103 7 (nI (p + 1)) 103 k = b 103 k := fun k h1 h2 => by rw [pt_k _ _ _ h2, pt_k _ _ _ h1]
    have A4 : pt (pt a o 4 (nI x)) o 5 (nI p) o 4 = nI x := by rw [pt_k _ _ _ (by decide), pt_s]
    have B6 : pt (pt b 103 6 (nI (x + 1))) 103 7 (nI (p + 1)) 103 6 = nI (x + 1) := by rw [pt_k _ _ _ (by decide), pt_s]
    unfold gSf
    rw [A 2 (by decide) (by decide), A 6 (by decide) (by decide), A 7 (by decide) (by decide), A 8 (by decide) (by decide), A 9 (by decide) (by decide), A 10 (by decide) (by decide), A 11 (by decide) (by decide), A 12 (by decide) (by decide), B 5 (by decide) (by decide), B 8 (by decide) (by decide), B 9 (by decide) (by decide), B 4 (by decide) (by decide), B 3 (by decide) (by decide), B 0 (by decide) (by decide), B 1 (by decide) (by decide), B 2 (by decide) (by decide), A4, B6, pt_s, pt_s, nI_pred, nI_pred]
    exact ⟨⟨f2, rfl, rfl, f6, f7, f8, f9, f10, f11, f12⟩, b1, ⟨x + 1, by omega, rfl⟩, ⟨p + 1, by omega, rfl⟩, ⟨fun q => absurd q (nI_ne0 (by omega) (by omega)), fun q => absurd q (nI_ne0 (by omega) (by omega))⟩, b5, b6, b7⟩
  have hpe := pi_pe hB s1 hp
  refine ⟨_, _, ?_, fun k => ?_, pi_p hB s1 (a' := pt (pt (pt a o 4 (nI x)) o 5 (nI p)) (o + 1) (p * 8 + 7) (pt (pt b 103 6 (nI (x + 1))) 103 7 (nI (p + 1)) 103 (40 + p) + 1)) (b' := pt (pt (pt b 103 6 (nI (x + 1))) 103 7 (nI (p + 1))) 103 (40 + p) (pt (pt b 103 6 (nI (x + 1))) 103 7 (nI (p + 1)) 103 (40 + p) + 1)) p hp (fun q j hq => ptf _ _ _ _ _ _ (by omega)) (fun q j hq => ptf _ _ _ _ _ _ (by omega)) (fun g => ?_), ?_, ?_⟩
  · unfold fSc_say
    rw [bnd_e, bnd_e, e_St7 o hp10, bi_s, ro_o ho, hpe.2.2.2.2.2.2.2.1, e_Sp7 o hp10, bv_s, ro_o ho]
  · unfold fM_isLast
    simp only [gc6, gc7, n40, gd50 _ (show 40 + p < 50 by omega), ic6, ic7, ix_n (show 40 + p < 2 ^ 31 by omega), nI_1, bnd_x]
  · obtain ⟨r0, r1, r2, r3, r4, r5, r6, r7, c0, c1, c2, c3, c4, c5⟩ := g
    unfold gPe
    rw [pt_k _ _ _ (show p * 8 ≠ p * 8 + 7 by omega), pt_k _ _ _ (show p * 8 + 1 ≠ p * 8 + 7 by omega), pt_k _ _ _ (show p * 8 + 2 ≠ p * 8 + 7 by omega), pt_k _ _ _ (show p * 8 + 3 ≠ p * 8 + 7 by omega), pt_k _ _ _ (show p * 8 + 4 ≠ p * 8 + 7 by omega), pt_k _ _ _ (show p * 8 + 5 ≠ p * 8 + 7 by omega), pt_k _ _ _ (show p * 8 + 6 ≠ p * 8 + 7 by omega), pt_s, pt_s, pt_k _ _ _ (show 20 + p ≠ 40 + p by omega), pt_k _ _ _ (show 30 + p ≠ 40 + p by omega), pt_k _ _ _ (show 10 + p ≠ 40 + p by omega)]
    exact ⟨r0, r1, r2, r3, r4, r5, r6, rfl, c0, c1, c2, c3, c4, c5⟩
  · rw [pt_k _ _ _ (by omega), pt_k _ _ _ (by omega), pt_k _ _ _ (by omega)]
  · rw [ptq _ _ _ (by decide), ptq _ _ _ (by decide), ptq _ _ _ (by decide)]
theorem pi_climb (hB : BF a0 b0 o n) (h : PI a0 b0 o n a b) {p : Nat} (hp : p < n) : W2 (fSu_climb o (nI p) a) (fM_climbsOn (nI p) b) (PI a0 b0 o n) := by
  have ho := hB.1
  have hn := hB.2.1
  have hp10 : p < 10 := by omega
  have hpe := pi_pe hB h hp
  unfold fSu_climb fM_climbsOn
  rw [e_St3 o hp10, bi_s, ro_o ho, hpe.2.2.2.1, e_brM hp10, bi_s]
  refine w2_if Iff.rfl (fun c => ?_) (fun c => ?_)
  · refine w2_bv (w2_m (pi_br hB h hp 9 9 (by rw [c]; rfl)) (fun x y hz => w2_s hz))
  refine w2_bi (w2_m (t_climbs (pi_sc2 hB h) hp) (fun x y ⟨⟨c1, hc1, ex1, ey1⟩, hx, hy⟩ => ?_))
  have h2 := pi_t hB h hx hy
  refine w2_bi (w2_m (t_tires (pi_sc2 hB h2) hp) (fun x' y' ⟨⟨c2, hc2, ex2, ey2⟩, hx', hy'⟩ => ?_))
  have h3 := pi_t hB h2 hx' hy'
  have hpe3 := pi_pe hB h3 hp
  obtain ⟨t, ht, et⟩ := hpe3.2.2.2.2.2.2.2.2.2.2.2.2.1
  rw [e_St4 o hp10, bi_s, ro_o ho, hpe3.2.2.2.2.1, ex1, ey1, ex2, ey2, n20, gd50 _ (by omega), ix_n (by omega), et, nI_add, e_min, bi_s, show (99 : Int32) = nI 99 from rfl, mn_n (by decide) (by omega), e_Sp4 o hp10, bv_s, ro_o ho, e_ls, bi_s, mn_n (by decide) (by omega), gd50 _ (by omega), bnd_e]
  have h4 : PI a0 b0 o n (pt x'.2 (o + 1) (p * 8 + 4) (nI (min 99 (t + c1)))) (pt y'.2 103 (20 + p) (nI (min 99 (t + c1)))) := by
    refine pi_p hB h3 p hp (fun q j hq => ptf _ _ _ _ _ _ (by omega)) (fun q j hq => ptf _ _ _ _ _ _ (by omega)) (fun g => ?_)
    obtain ⟨r0, r1, r2, r3, r4, r5, r6, r7, g0, g1, g2, g3, g4, g5⟩ := g
    unfold gPe
    rw [pt_k _ _ _ (show p * 8 ≠ p * 8 + 4 by omega), pt_k _ _ _ (show p * 8 + 1 ≠ p * 8 + 4 by omega), pt_k _ _ _ (show p * 8 + 2 ≠ p * 8 + 4 by omega), pt_k _ _ _ (show p * 8 + 3 ≠ p * 8 + 4 by omega), pt_s, pt_k _ _ _ (show p * 8 + 5 ≠ p * 8 + 4 by omega), pt_k _ _ _ (show p * 8 + 6 ≠ p * 8 + 4 by omega), pt_k _ _ _ (show p * 8 + 7 ≠ p * 8 + 4 by omega), pt_s, pt_k _ _ _ (show 10 + p ≠ 20 + p by omega), pt_k _ _ _ (show 30 + p ≠ 20 + p by omega), pt_k _ _ _ (show 40 + p ≠ 20 + p by omega)]
    exact ⟨r0, r1, r2, r3, rfl, r5, r6, r7, g0, g1, g2, g3, ⟨min 99 (t + c1), by omega, rfl⟩, g5⟩
  rw [e_brM hp10, bi_s]
  refine w2_bv (w2_m (pi_br hB h4 hp (-nI c2) _ (by rw [Int32.sub_eq_add_neg _ (nI c2)])) (fun x y hz => w2_s hz))
end DEED
