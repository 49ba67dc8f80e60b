/-! nightfall and the clock -/
theorem not_ck {b : Sg} {x y z v : Int32} {k : Nat} (hk : 4 ≤ k) : fM_notes x y z (pt b 103 k v) = (fM_notes x y z b).map (fun s => pt s 103 k v) := by
  have e5 : pt b 103 k v 102 5 = b 102 5 := pt_o _ _ _ _ (by decide)
  have e2 : pt b 103 k v 103 2 = b 103 2 := pt_k _ _ _ (by omega)
  have e0 : pt b 103 k v 103 0 = b 103 0 := pt_k _ _ _ (by omega)
  have e3 : ∀ (s : Sg), pt s 103 k v 103 3 = s 103 3 := fun s => pt_k _ _ _ (by omega)
  have e2' : ∀ (s : Sg), pt s 103 k v 103 2 = s 103 2 := fun s => pt_k _ _ _ (by omega)
  unfold fM_notes
  simp only [e5, gc0, gc2, gc3, ic0, ic2, ic3, e2, e0, bnd_x]
  by_cases c1 : b 102 5 = 0
  · rw [if_pos c1, if_pos c1]
    by_cases c2 : b 103 2 = 150
    · rw [if_pos c2, if_pos c2]; rfl
    · rw [if_neg c2, if_neg c2]
      unfold gd
      split
      · rfl
      split
      · rfl
      split
      · rfl
      split
      · rfl
      split
      · rfl
      · show some _ = some _
        congr 1
        rw [pt_cm b v (b 103 0) (by omega : ¬ (103 = 109 ∧ _)), e3, pt_cm _ v _ (by omega : ¬ (103 = 109 ∧ _)), pt_cm _ v x (by omega : ¬ (103 = 109 ∧ _)), pt_cm _ v y (by omega : ¬ (103 = 109 ∧ _)), pt_cm _ v z (by omega : ¬ (103 = 109 ∧ _)), e2', pt_cm _ v _ (by omega : ¬ (103 = 103 ∧ k = 2))]
  · rw [if_neg c1, if_neg c1]; rfl
def wlF : Nat → Nat → Sg → Sg
  | _, 0, s => s
  | i, k + 1, s => wlF (i + 1) k (pt (pt (pt s 103 (20 + i) 0) 103 (30 + i) 0) 103 (10 + i) 0)
theorem not_wl {x y z : Int32} : ∀ (k i : Nat) (b : Sg), fM_notes x y z (wlF i k b) = (fM_notes x y z b).map (wlF i k)
  | 0, i, b => by
    show fM_notes x y z b = _
    cases fM_notes x y z b <;> rfl
  | k + 1, i, b => by
    rw [wlF, not_wl k (i + 1), not_ck (by omega), not_ck (by omega), not_ck (by omega)]
    cases fM_notes x y z b <;> rfl
def slp (s : Sg) : Option Sg := lp FU (fun q29 (u29 : Int32) (s3 : Sg) => if (s3 102 6) ≤ u29 then (some s3) else (gd (20 + u29) 50 (bnd (pt s3 103 (ix (20 + u29)) 0) fun s4 => gd (30 + u29) 50 (bnd (pt s4 103 (ix (30 + u29)) 0) fun s5 => gd (10 + u29) 50 (bnd (pt s5 103 (ix (10 + u29)) 0) fun s6 => q29 (u29 + 1) s6))))) 0 s
theorem sl_s {i n : Nat} {s : Sg} {q : Int32 → Sg → Option Sg} (hi : i < n) (hn : n ≤ 10) : (gd (20 + nI i) 50 (bnd (pt s 103 (ix (20 + nI i)) 0) fun s4 => gd (30 + nI i) 50 (bnd (pt s4 103 (ix (30 + nI i)) 0) fun s5 => gd (10 + nI i) 50 (bnd (pt s5 103 (ix (10 + nI i)) 0) fun s6 => q (nI i + 1) s6)))) = q (nI (i + 1)) (pt (pt (pt s 103 (20 + i) 0) 103 (30 + i) 0) 103 (10 + i) 0) := by
  simp only [n20, n30, n10, gd50 _ (show 20 + i < 50 by omega), gd50 _ (show 30 + i < 50 by omega), gd50 _ (show 10 + i < 50 by omega), ix_n (show 20 + i < 2 ^ 31 by omega), ix_n (show 30 + i < 2 ^ 31 by omega), ix_n (show 10 + i < 2 ^ 31 by omega), bnd_x, nI_1]
theorem e_slp {n : Nat} {s : Sg} (hn : n ≤ 10) (h : s 102 6 = nI n) : slp s = some (wlF 0 n s) := by
  unfold slp
  refine w1_e (w1_lp (fun k u t => t 102 = s 102 ∧ ∃ i, i + k = n ∧ u = nI i ∧ wlF i k t = wlF 0 n s) ?_ FU n _ _ (FU_lt (by omega)) ⟨rfl, 0, by omega, rfl, rfl⟩)
  rintro q k u t ⟨ht, i, hi, rfl, hR⟩ hq
  rw [ht, h]
  refine w1_if (fun c => ?_) (fun c => ?_)
  · rw [nI_leI (by omega) (by omega)] at c
    rw [show k = 0 by omega, wlF] at hR
    exact w1_s hR
  · rw [nI_leI (by omega) (by omega)] at c
    obtain ⟨k, rfl⟩ : ∃ y, k = y + 1 := ⟨k - 1, by omega⟩
    rw [sl_s (show i < n by omega) hn]
    exact hq k _ _ (by omega) ⟨by rw [ptq _ _ _ (by decide), ptq _ _ _ (by decide), ptq _ _ _ (by decide)]; exact ht, i + 1, by omega, rfl, hR⟩
section NIGHT
variable {a0 b0 a b : Sg} {o n : Nat}
theorem pi_home (hB : BF a0 b0 o n) (h : PI a0 b0 o n a b) {p : Nat} (hp : p < n) : PI a0 b0 o n (pt (pt (pt (pt a (o + 1) (p * 8 + 4) 0) (o + 1) (p * 8 + 5) 0) (o + 1) (p * 8 + 6) (-1)) (o + 1) (p * 8 + 3) 99) (pt (pt (pt b 103 (20 + p) 0) 103 (30 + p) 0) 103 (10 + p) 0) := by
  refine pi_p hB h p hp (fun q j hq => by rw [ptf _ _ _ _ _ _ (by omega), ptf _ _ _ _ _ _ (by omega), ptf _ _ _ _ _ _ (by omega), ptf _ _ _ _ _ _ (by omega)]) (fun q j hq => by rw [ptf _ _ _ _ _ _ (by omega), ptf _ _ _ _ _ _ (by omega), ptf _ _ _ _ _ _ (by omega)]) (fun gp => ?_)
  obtain ⟨r0, r1, r2, r3, r4, r5, r6, r7, g0, g1, g2, g3, g4, g5⟩ := gp
  have A : ∀ k, k ≠ p * 8 + 4 → k ≠ p * 8 + 5 → k ≠ p * 8 + 6 → k ≠ p * 8 + 3 → pt (pt (pt (pt a (o + 1) (p * 8 + 4) 0) (o + 1) (p * 8 + 5) 0) (o + 1) (p * 8 + 6) (-1)) (o + 1) (p * 8 + 3) 99 (o + 1) k = a (o + 1) k := fun k h1 h2 h3 h4 => by rw [pt_k _ _ _ h4, pt_k _ _ _ h3, pt_k _ _ _ h2, pt_k _ _ _ h1]
  unfold gPe
  rw [A _ (show p * 8 ≠ p * 8 + 4 by omega) (by omega) (by omega) (by omega), A _ (show p * 8 + 1 ≠ p * 8 + 4 by omega) (by omega) (by omega) (by omega), A _ (show p * 8 + 2 ≠ p * 8 + 4 by omega) (by omega) (by omega) (by omega), A _ (show p * 8 + 7 ≠ p * 8 + 4 by omega) (by omega) (by omega) (by omega), pt_s, pt_k _ _ _ (show p * 8 + 4 ≠ p * 8 + 3 by omega), pt_k _ _ _ (show p * 8 + 4 ≠ p * 8 + 6 by omega), pt_k _ _ _ (show p * 8 + 4 ≠ p * 8 + 5 by omega), pt_s, pt_k _ _ _ (show p * 8 + 5 ≠ p * 8 + 3 by omega), pt_k _ _ _ (show p * 8 + 5 ≠ p * 8 + 6 by omega), pt_s, pt_k _ _ _ (show p * 8 + 6 ≠ p * 8 + 3 by omega), pt_s, pt_s, pt_k _ _ _ (show 20 + p ≠ 10 + p by omega), pt_k _ _ _ (show 20 + p ≠ 30 + p by omega), pt_s, pt_k _ _ _ (show 30 + p ≠ 10 + p by omega), pt_s, pt_k _ _ _ (show 40 + p ≠ 10 + p by omega), pt_k _ _ _ (show 40 + p ≠ 30 + p by omega), pt_k _ _ _ (show 40 + p ≠ 20 + p by omega)]
  exact ⟨r0, r1, r2, rfl, rfl, rfl, rfl, r7, g0, g1, g2, ⟨0, by omega, rfl⟩, ⟨0, by omega, rfl⟩, ⟨0, by omega, rfl⟩⟩
theorem pi_night (hB : BF a0 b0 o n) {rl : Int32} (hR : RFl b0 o rl) (h : PI a0 b0 o n a b) : W2 (fSu_fallNight o rl a) (fM_sunGoesDown b) (PI a0 b0 o n) := by
  have ho := hB.1
  have hn := hB.2.1
  obtain ⟨e1, ⟨⟨f2, f4, f5, f6, f7, f8, f9, f10, f11, f12⟩, ⟨b1, b2, b3, b4, b5, b6, b7⟩⟩⟩ := pi_sf hB h
  have h1 : PI a0 b0 o n (pt (pt a o 2 (a o 4)) o 3 (pt a o 2 (a o 4) o 5)) (pt b 103 5 (b 103 6)) := by
    refine pi_f hB h (fun q k hq => by rw [ptf _ _ _ _ _ _ (by omega), ptf _ _ _ _ _ _ (by omega)]) (fun q k hq => ptf _ _ _ _ _ _ (by omega)) (fun _ => ?_)
    have A : ∀ k, k ≠ 2 → k ≠ 3 → pt (pt a o 2 (a o 4)) o 3 (pt a o 2 (a o 4) o 5) o k = a o k := fun k h1 h2 => by rw [pt_k _ _ _ h2, pt_k _ _ _ h1]
    have B : ∀ k, k ≠ 5 → pt b 103 5 (b 103 6) 103 k = b 103 k := fun k h1 => pt_k _ _ _ h1
    unfold gSf
    rw [A 4 (by decide) (by decide), A 5 (by decide) (by decide), A 6 (by decide) (by decide), A 7 (by decide) (by decide), A 8 (by decide) (by decide), A 9 (by decide) (by decide), A 10 (by decide) (by decide), A 11 (by decide) (by decide), A 12 (by decide) (by decide), pt_k _ _ _ (show 2 ≠ 3 by decide), pt_s, pt_s, B 6 (by decide), B 7 (by decide), B 8 (by decide), B 9 (by decide), B 4 (by decide), B 3 (by decide), B 0 (by decide), B 1 (by decide), B 2 (by decide)]
    exact ⟨⟨f4, f4, f5, f6, f7, f8, f9, f10, f11, f12⟩, b2, b2, b3, b4, b5, b6, b7⟩
  have sd : fM_sunGoesDown b = bv (fM_notes 2 (-1) (b 103 6 - 1) (pt b 103 5 (b 103 6))) slp := by
    unfold fM_sunGoesDown
    rw [gc6, gc5, ic5, ic6, bnd_e, gc5, pt_s]
    rfl
  rw [sd]
  unfold fSu_fallNight
  rw [bnd_e, bnd_e]
  have w2 : pt (pt a o 2 (a o 4)) o 3 (pt a o 2 (a o 4) o 5) o 2 = b 103 6 - 1 := by rw [pt_k _ _ _ (by decide), pt_s]; exact f4
  generalize pt (pt a o 2 (a o 4)) o 3 (pt a o 2 (a o 4) o 5) = a1 at h1 w2 ⊢
  generalize pt b 103 5 (b 103 6) = c1 at h1 ⊢
  have c6 : c1 102 6 = nI n := by rw [h1.2.2.1 102 (by decide) (by decide) (by decide) (by decide)]; exact hB.2.2.1
  have c5 : c1 102 5 = b0 102 5 := by rw [h1.2.2.1 102 (by decide) (by decide) (by decide) (by decide)]
  have es := e_slp hn c6
  have key : W2 (lp FU (fun q18 (u18 : Int32) (s3 : Sg) => if (s3 o 1) ≤ u18 then (if rl = 0 then (some s3) else (bv (fSu_note o 2 (-1) (s3 o 2) s3) fun s4 => some s4)) else (bv (fSc_sendHome o u18 s3) fun s5 => bv (fSc_put o u18 3 99 s5) fun s6 => q18 (u18 + 1) s6)) 0 a1) (slp c1) (fun x y => ∃ y', fM_notes 2 (-1) (b 103 6 - 1) y = some y' ∧ PI a0 b0 o n x y') := by
    unfold slp
    refine w2_lp (fun k u s u' t => PI a0 b0 o n s t ∧ s o 2 = b 103 6 - 1 ∧ ∃ i, i + k = n ∧ u = nI i ∧ u' = nI i) ?_ FU FU n _ _ _ _ (FU_lt (by omega)) (FU_lt (by omega)) ⟨h1, w2, 0, by omega, rfl, rfl⟩
    rintro q q' k u s u' t ⟨hP, hw, i, hi, rfl, rfl⟩ hq
    have t6 : t 102 6 = nI n := by rw [hP.2.2.1 102 (by decide) (by decide) (by decide) (by decide)]; exact hB.2.2.1
    have t5 : t 102 5 = b0 102 5 := by rw [hP.2.2.1 102 (by decide) (by decide) (by decide) (by decide)]
    rw [(pi_sf hB hP).1, t6]
    refine w2_if Iff.rfl (fun _ => ?_) (fun c => ?_)
    · rcases hR with ⟨hr, hth, _⟩ | ⟨hr, hth⟩
      · rw [if_neg (show ¬ rl = 0 by rw [hr]; decide), hw]
        obtain ⟨x, y, z1, z2, z3⟩ := pi_note hB hth hP 2 (-1) (b 103 6 - 1)
        rw [z1, bv_s]
        exact w2_s ⟨y, z2, z3⟩
      · rw [if_pos hr]
        exact w2_s ⟨t, e_noTh (by rw [t5, hth]; decide), hP⟩
    · rw [nI_leI (by omega) (by omega)] at c
      have hi10 : i < 10 := by omega
      unfold fSc_sendHome
      rw [sl_s (show i < n by omega) hn, e_Sp4 o hi10, bv_s, e_Sp5 o hi10, bv_s, e_Sp6 o hi10, bv_s, bv_s, e_Sp3 o hi10, bv_s, ro_o ho, nI_1]
      refine hq (k - 1) _ _ _ _ (by omega) ⟨pi_home hB hP (by omega), ?_, i + 1, by omega, rfl, rfl⟩
      rw [pt_o _ _ _ _ (by omega), pt_o _ _ _ _ (by omega), pt_o _ _ _ _ (by omega), pt_o _ _ _ _ (by omega)]
      exact hw
  obtain ⟨x, y, z1, z2, y', z3, z4⟩ := key
  rw [es] at z2
  have ey := Option.some.inj z2
  rw [← ey, not_wl] at z3
  cases hnt : fM_notes 2 (-1) (b 103 6 - 1) c1 with
  | none => rw [hnt] at z3; cases z3
  | some c2 =>
    rw [hnt] at z3
    have ey' : wlF 0 n c2 = y' := Option.some.inj z3
    have f102 : c2 102 6 = nI n := by
      have := fr_M_notes 2 (-1) (b 103 6 - 1) c1 c2 hnt 102 6 (by decide) (by simp)
      exact this.trans c6
    refine ⟨x, y', z1, ?_, z4⟩
    rw [bv_s, e_slp hn f102, ey']
theorem pi_clock (hB : BF a0 b0 o n) (h : PI a0 b0 o n a b) (c : Int32) : W2 (bv (fSc_turnClock o a) fun s6 => some (c, s6)) (bnd (pt b 103 3 (b 103 3 + 1)) fun s7 => gd 3 50 (if (s7 103 (ix 3)) = 60 then (gd 3 50 (bnd (pt s7 103 (ix 3) 0) fun s8 => gd 6 50 (bnd (pt s8 103 (ix 6) 0) fun s9 => gd 7 50 (bnd (pt s9 103 (ix 7) 0) fun s10 => gd 0 50 (gd 0 50 (bnd (pt s10 103 (ix 0) ((s10 103 (ix 0)) + 1)) fun s11 => some (c, s11))))))) else (some (c, s7)))) (fun x y => x.1 = y.1 ∧ PI a0 b0 o n x.2 y.2) := by
  have ho := hB.1
  have hn := hB.2.1
  obtain ⟨e1, ⟨⟨f2, f4, f5, f6, f7, f8, f9, f10, f11, f12⟩, ⟨b1, b2, b3, b4, b5, ⟨t, ht, et⟩, b7⟩⟩⟩ := pi_sf hB h
  unfold fSc_turnClock
  simp only [gc0, gc3, gc6, gc7, ic0, ic3, ic6, ic7, bnd_x, f9, et, nI_1, pt_s]
  by_cases c1 : t = 59
  · subst c1
    rw [if_neg (by decide), bv_s, if_pos (by decide)]
    refine w2_s ⟨rfl, ?_⟩
    dsimp only
    refine pi_f hB h (fun q k hq => ?_) (fun q k hq => ?_) (fun _ => ?_)
    · rw [ptf _ _ _ _ _ _ (by omega), ptf _ _ _ _ _ _ (by omega), ptf _ _ _ _ _ _ (by omega), ptf _ _ _ _ _ _ (by omega), ptf _ _ _ _ _ _ (by omega)]
    · rw [ptf _ _ _ _ _ _ (by omega), ptf _ _ _ _ _ _ (by omega), ptf _ _ _ _ _ _ (by omega), ptf _ _ _ _ _ _ (by omega), ptf _ _ _ _ _ _ (by omega)]
    · have A : ∀ (v1 v2 v3 v4 v5 : Int32) k, k ≠ 9 → k ≠ 4 → k ≠ 5 → k ≠ 10 → pt (pt (pt (pt (pt a o 9 v1) o 9 v2) o 4 v3) o 5 v4) o 10 v5 o k = a o k := fun v1 v2 v3 v4 v5 k h1 h2 h3 h4 => by rw [pt_k _ _ _ h4, pt_k _ _ _ h3, pt_k _ _ _ h2, pt_k _ _ _ h1, pt_k _ _ _ h1]
      have B : ∀ (v1 v2 v3 v4 v5 : Int32) k, k ≠ 3 → k ≠ 6 → k ≠ 7 → k ≠ 0 → pt (pt (pt (pt (pt b 103 3 v1) 103 3 v2) 103 6 v3) 103 7 v4) 103 0 v5 103 k = b 103 k := fun v1 v2 v3 v4 v5 k h1 h2 h3 h4 => by rw [pt_k _ _ _ h4, pt_k _ _ _ h3, pt_k _ _ _ h2, pt_k _ _ _ h1, pt_k _ _ _ h1]
      unfold gSf
      rw [A _ _ _ _ _ 2 (by decide) (by decide) (by decide) (by decide), A _ _ _ _ _ 6 (by decide) (by decide) (by decide) (by decide), A _ _ _ _ _ 7 (by decide) (by decide) (by decide) (by decide), A _ _ _ _ _ 8 (by decide) (by decide) (by decide) (by decide), A _ _ _ _ _ 11 (by decide) (by decide) (by decide) (by decide), A _ _ _ _ _ 12 (by decide) (by decide) (by decide) (by decide), B _ _ _ _ _ 5 (by decide) (by decide) (by decide) (by decide), B _ _ _ _ _ 8 (by decide) (by decide) (by decide) (by decide), B _ _ _ _ _ 9 (by decide) (by decide) (by decide) (by decide), B _ _ _ _ _ 4 (by decide) (by decide) (by decide) (by decide), B _ _ _ _ _ 1 (by decide) (by decide) (by decide) (by decide), B _ _ _ _ _ 2 (by decide) (by decide) (by decide) (by decide)]
      simp only [pt_s, pt_k _ _ _ (show 4 ≠ 10 by decide), pt_k _ _ _ (show 4 ≠ 5 by decide), pt_k _ _ _ (show 5 ≠ 10 by decide), pt_k _ _ _ (show 9 ≠ 10 by decide), pt_k _ _ _ (show 9 ≠ 5 by decide), pt_k _ _ _ (show 9 ≠ 4 by decide), pt_k _ _ _ (show 10 ≠ 5 by decide), pt_k _ _ _ (show 10 ≠ 4 by decide), pt_k _ _ _ (show 10 ≠ 9 by decide), pt_k _ _ _ (show 6 ≠ 0 by decide), pt_k _ _ _ (show 6 ≠ 7 by decide), pt_k _ _ _ (show 7 ≠ 0 by decide), pt_k _ _ _ (show 3 ≠ 0 by decide), pt_k _ _ _ (show 3 ≠ 7 by decide), pt_k _ _ _ (show 3 ≠ 6 by decide), pt_k _ _ _ (show 0 ≠ 7 by decide), pt_k _ _ _ (show 0 ≠ 6 by decide), pt_k _ _ _ (show 0 ≠ 3 by decide), f10]
      exact ⟨⟨f2, by decide, by decide, f6, f7, f8, trivial, trivial, f11, f12⟩, b1, ⟨0, by omega, rfl⟩, ⟨0, by omega, rfl⟩, by simp, b5, ⟨0, by omega, rfl⟩, b7⟩
  · rw [if_pos (show nI (t + 1) ≤ 59 from nI_le (b := 59) (by omega) (by decide)), bv_s, if_neg (show ¬ nI (t + 1) = 60 from nI_ne 60 (by omega) (by omega) (by decide))]
    refine w2_s ⟨rfl, ?_⟩
    dsimp only
    refine pi_f hB h (fun q k hq => ptf _ _ _ _ _ _ (by omega)) (fun q k hq => ptf _ _ _ _ _ _ (by omega)) (fun _ => ?_)
    have A : ∀ k, k ≠ 9 → pt a o 9 (nI (t + 1)) o k = a o k := fun k h1 => pt_k _ _ _ h1
    have B : ∀ k, k ≠ 3 → pt b 103 3 (nI (t + 1)) 103 k = b 103 k := fun k h1 => pt_k _ _ _ h1
    unfold gSf
    rw [A 2 (by decide), A 4 (by decide), A 5 (by decide), A 6 (by decide), A 7 (by decide), A 8 (by decide), A 10 (by decide), A 11 (by decide), A 12 (by decide), pt_s, pt_s, B 5 (by decide), B 6 (by decide), B 7 (by decide), B 8 (by decide), B 9 (by decide), B 4 (by decide), B 0 (by decide), B 1 (by decide), B 2 (by decide)]
    exact ⟨⟨f2, f4, f5, f6, f7, f8, rfl, f10, f11, f12⟩, b1, b2, b3, b4, b5, ⟨t + 1, by omega, rfl⟩, b7⟩
end NIGHT
