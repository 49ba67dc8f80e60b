/-! a line of the book -/
section NOTE
variable {a0 b0 a b : Sg} {o n : Nat}
theorem pi_note (hB : BF a0 b0 o n) (hth : b0 102 5 = 0) (h : PI a0 b0 o n a b) (x y z : Int32) : W2 (fSu_note o x y z a) (fM_notes x y z b) (PI a0 b0 o n) := by
  have ho := hB.1
  have hn := hB.2.1
  obtain ⟨e1, ⟨⟨f2, f4, f5, f6, f7, f8, f9, f10, f11, f12⟩, ⟨b1, b2, b3, b4, b5, b6, ⟨L, hL, eL⟩⟩⟩⟩ := pi_sf hB h
  obtain ⟨h1, h2, h3, h4, h5⟩ := h
  obtain ⟨_, _, _, _, _, _, _, _, _, _, _, _, _, ⟨t0, t1⟩⟩ := hB.2.2.2.2.1
  have q63 : (63 : Nat) ≠ o := by omega
  have eo : pt a 63 3 (a o 12) o = a o := ptq _ _ _ (by omega)
  unfold fSu_note fM_notes
  rw [bnd_e, eo, f12, eL, h3 102 (by decide) (by decide) (by decide) (by decide), if_pos hth, gc2, ic2]
  by_cases c : L = 150
  · rw [e_addN (l := 150) (k := 150) (by rw [pt_k _ _ _ (by decide), h2.2]; exact t1) (by rw [pt_s, c]) (by decide) (by decide) (by decide), bi_s, if_pos rfl, eL, if_pos (show nI L = 150 by rw [c]; rfl)]
    refine w2_s ⟨fun q q1 q2 q3 q4 q5 => by rw [ptq _ _ _ q4]; exact h1 q q1 q2 q3 q4 q5, ⟨by rw [pt_k _ _ _ (by decide)]; exact h2.1, by rw [pt_k _ _ _ (by decide)]; exact h2.2⟩, h3, ?_, ?_⟩
    · rw [ptq _ _ _ (by omega), ptq _ _ _ (by omega)]; exact h4
    · rw [ptq _ _ _ (by decide)]; exact h5
  · obtain ⟨τ, x1, x2, x3, x4⟩ := e_add (s := pt a 63 3 (nI L)) (t := 63) (w := 5) (l := 150) (k := L) (a := a o 10) (b := a o 9) (c := x) (d := y) (e := z) (by rw [pt_k _ _ _ (by decide), h2.1]; exact t0) (by rw [pt_k _ _ _ (by decide), h2.2]; exact t1) (pt_s _ _ _ _) (by decide) (by decide) (show L < 150 by omega) (by decide) (by decide) (by decide)
    have x4' : ∀ q k, q ≠ 63 → (q = 64 → k < L * 5 ∨ L * 5 + 5 ≤ k) → τ q k = a q k := fun q k h6 h7 => by
      rw [x4 q k (fun e => absurd e h6) h7, pt_o _ _ _ _ h6]
    have to : ∀ k, τ o k = a o k := fun k => x4' o k (by omega) (by omega)
    rw [x1, bi_s, if_neg (nI_m1 (by omega)), bnd_e, to, f12, eL, nI_1, if_neg (show ¬ nI L = 150 from nI_ne 150 c (by omega) (by decide))]
    have e5 : ∀ k, 5 * nI L + nI k = nI (5 * L + k) := fun k => nI_5 L k
    have G : ∀ {R : Type} (f : Option R) (k : Nat), k < 5 → gd (nI (5 * L + k)) 750 f = f := fun f k hk => gd_n f (by omega) (by decide)
    simp only [gc0, gc2, gc3, ic0, ic2, ic3, bnd_x, show 5 * nI L = nI (5 * L + 0) from pk_mul 5 L, show nI (5 * L + 0) + 1 = nI (5 * L + 1) from nI_add _ 1, show nI (5 * L + 0) + 2 = nI (5 * L + 2) from nI_add _ 2, show nI (5 * L + 0) + 3 = nI (5 * L + 3) from nI_add _ 3, show nI (5 * L + 0) + 4 = nI (5 * L + 4) from nI_add _ 4, G _ 0 (by decide), G _ 1 (by decide), G _ 2 (by decide), G _ 3 (by decide), G _ 4 (by decide), ix_n (show 5 * L + 0 < 2 ^ 31 by omega), ix_n (show 5 * L + 1 < 2 ^ 31 by omega), ix_n (show 5 * L + 2 < 2 ^ 31 by omega), ix_n (show 5 * L + 3 < 2 ^ 31 by omega), ix_n (show 5 * L + 4 < 2 ^ 31 by omega)]
    refine w2_s ⟨fun q q1 q2 q3 q4 q5 => ?_, ⟨?_, ?_⟩, fun q q1 q2 q3 q4 => ?_, ?_, ?_⟩
    · rw [ptq _ _ _ q1, ← h1 q q1 q2 q3 q4 q5]
      exact funext fun k => x4' q k q4 (fun e => absurd e q5)
    · rw [pt_o _ _ _ _ q63, x4 63 0 (fun _ => by decide) (fun e => absurd e (by decide)), pt_k _ _ _ (by decide)]; exact h2.1
    · rw [pt_o _ _ _ _ q63, x4 63 1 (fun _ => by decide) (fun e => absurd e (by decide)), pt_k _ _ _ (by decide)]; exact h2.2
    · rw [ptq _ _ _ q1, ptq _ _ _ q2, ptq _ _ _ q2, ptq _ _ _ q2, ptq _ _ _ q2, ptq _ _ _ q2]; exact h3 q q1 q2 q3 q4
    · obtain ⟨n2, hn2, k1, k2, k3, k4, hpe⟩ := h4
      have e103 : ∀ k, k ≠ 2 → (pt (pt (pt (pt (pt (pt b 109 (5 * L + 0) (b 103 0)) 109 (5 * L + 1) (pt b 109 (5 * L + 0) (b 103 0) 103 3)) 109 (5 * L + 2) x) 109 (5 * L + 3) y) 109 (5 * L + 4) z) 103 2 (pt (pt (pt (pt (pt b 109 (5 * L + 0) (b 103 0)) 109 (5 * L + 1) (pt b 109 (5 * L + 0) (b 103 0) 103 3)) 109 (5 * L + 2) x) 109 (5 * L + 3) y) 109 (5 * L + 4) z 103 2 + 1)) 103 k = b 103 k := fun k hk => by
        rw [pt_k _ _ _ hk, pt_o _ _ _ _ (by decide), pt_o _ _ _ _ (by decide), pt_o _ _ _ _ (by decide), pt_o _ _ _ _ (by decide), pt_o _ _ _ _ (by decide)]
      have e1032 : (pt (pt (pt (pt (pt (pt b 109 (5 * L + 0) (b 103 0)) 109 (5 * L + 1) (pt b 109 (5 * L + 0) (b 103 0) 103 3)) 109 (5 * L + 2) x) 109 (5 * L + 3) y) 109 (5 * L + 4) z) 103 2 (pt (pt (pt (pt (pt b 109 (5 * L + 0) (b 103 0)) 109 (5 * L + 1) (pt b 109 (5 * L + 0) (b 103 0) 103 3)) 109 (5 * L + 2) x) 109 (5 * L + 3) y) 109 (5 * L + 4) z 103 2 + 1)) 103 2 = nI (L + 1) := by
        rw [pt_s, pt_o _ _ _ _ (by decide), pt_o _ _ _ _ (by decide), pt_o _ _ _ _ (by decide), pt_o _ _ _ _ (by decide), pt_o _ _ _ _ (by decide), eL, nI_1]
      have eA : ∀ k, k ≠ 12 → pt τ o 12 (nI (L + 1)) o k = a o k := fun k hk => by rw [pt_k _ _ _ hk]; exact to k
      have eR : pt τ o 12 (nI (L + 1)) (o + 1) = a (o + 1) := by
        rw [ptq _ _ _ (by omega)]
        exact funext fun k => x4' (o + 1) k (by omega) (by omega)
      rw [eR]
      refine ⟨n2, hn2, k1, by rw [eA 1 (by decide)]; exact k2, ?_, ?_, fun p hp => ?_⟩
      · rw [e1032, eA 2 (by decide), eA 4 (by decide), eA 5 (by decide), eA 6 (by decide), eA 7 (by decide), eA 8 (by decide), eA 9 (by decide), eA 10 (by decide), eA 11 (by decide), pt_s, e103 5 (by decide), e103 6 (by decide), e103 7 (by decide), e103 8 (by decide), e103 9 (by decide), e103 4 (by decide), e103 3 (by decide), e103 0 (by decide), e103 1 (by decide)]
        exact ⟨f2, f4, f5, f6, f7, f8, f9, f10, f11, rfl⟩
      · rw [e1032, e103 5 (by decide), e103 6 (by decide), e103 7 (by decide), e103 4 (by decide), e103 3 (by decide)]
        obtain ⟨y1, y2, y3, y4, y5, y6, y7⟩ := k4
        exact ⟨y1, y2, y3, y4, y5, y6, ⟨L + 1, by omega, rfl⟩⟩
      · exact gPe_c (fun _ _ => rfl) (e103 _ (by omega)) (e103 _ (by omega)) (e103 _ (by omega)) (e103 _ (by omega)) (hpe p hp)
    · intro k hk
      rw [pt_o _ _ _ _ (show (64 : Nat) ≠ o by omega), pt_o _ _ _ _ (show (109 : Nat) ≠ 103 by decide)]
      by_cases c1 : L * 5 ≤ k ∧ k < L * 5 + 5
      · obtain ⟨j, hj, rfl⟩ : ∃ j, j < 5 ∧ k = L * 5 + j := ⟨k - L * 5, by omega, by omega⟩
        have := x3 j hj
        rw [show hz_rf 63 2 = 64 from rfl] at this
        rw [this, show L * 5 + j = 5 * L + j by omega]
        have z : j = 0 ∨ j = 1 ∨ j = 2 ∨ j = 3 ∨ j = 4 := by omega
        rcases z with rfl | rfl | rfl | rfl | rfl
        · rw [pt_k _ _ _ (by omega), pt_k _ _ _ (by omega), pt_k _ _ _ (by omega), pt_k _ _ _ (by omega), pt_s]; exact f10
        · rw [pt_k _ _ _ (by omega), pt_k _ _ _ (by omega), pt_k _ _ _ (by omega), pt_s, pt_o _ _ _ _ (by decide)]; exact f9
        · rw [pt_k _ _ _ (by omega), pt_k _ _ _ (by omega), pt_s]; rfl
        · rw [pt_k _ _ _ (by omega), pt_s]; rfl
        · rw [pt_s]; rfl
      · rw [x4' 64 k (by decide) (fun _ => by omega), pt_k _ _ _ (by omega), pt_k _ _ _ (by omega), pt_k _ _ _ (by omega), pt_k _ _ _ (by omega), pt_k _ _ _ (by omega)]
        exact h5 k hk
theorem e_noTh {x y z : Int32} (h : ¬ b 102 5 = 0) : fM_notes x y z b = some b := by
  unfold fM_notes
  rw [if_neg h]
end NOTE
