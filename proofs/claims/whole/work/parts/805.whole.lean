/-! what an image is made of, copied whole (the class's side) -/
theorem te_19_74 (s : Sg) : W1 (fTe_become 19 74 s) (fun t => (t 20 3 = s 75 3 ∧ t 21 3 = s 76 3 ∧ (∀ k, k < 64 → t 22 k = s 77 k) ∧ (∀ k, k < 400 → t 23 k = s 78 k)) ∧ (t 25 3 = s 80 3 ∧ ∀ k, k < 64 → t 26 k = s 81 k) ∧ (t 27 3 = s 82 3 ∧ ∀ k, k < 32 → t 28 k = s 83 k) ∧ (t 19 4 = s 74 4 ∧ ∀ k, k < 20 → t 29 k = s 84 k)) := by
  unfold fTe_become
  rw [show FU = 4999 + 1 from rfl, lp_s, if_neg (by decide)]
  refine w1_bv (w1_m (ad0_19_74 s) (fun s1 h1 => ?_))
  rw [show (4999 : Nat) = 4998 + 1 from rfl, lp_s, if_neg (by decide), show (0 : Int32) + 1 = 1 from rfl]
  refine w1_bv (w1_m (ad1_19_74 s1) (fun s2 h2 => ?_))
  rw [show (4998 : Nat) = 4997 + 1 from rfl, lp_s, if_neg (by decide), show (1 : Int32) + 1 = 2 from rfl]
  refine w1_bv (w1_m (ad2_19_74 s2) (fun s3 h3 => ?_))
  rw [show (4997 : Nat) = 4996 + 1 from rfl, lp_s, if_neg (by decide), show (2 : Int32) + 1 = 3 from rfl]
  refine w1_bv (w1_m (ad3_19_74 s3) (fun s4 h4 => ?_))
  rw [show (4996 : Nat) = 4995 + 1 from rfl, lp_s, if_pos (by decide)]
  obtain ⟨⟨a1, a2, a3, a4⟩, fa⟩ := h1
  obtain ⟨⟨b1, b2⟩, fb⟩ := h2
  obtain ⟨⟨c1, c2⟩, fc⟩ := h3
  obtain ⟨⟨d1, d2⟩, fd⟩ := h4
  refine w1_s ⟨⟨?_, ?_, fun k hk => ?_, fun k hk => ?_⟩, ⟨?_, fun k hk => ?_⟩, ⟨?_, fun k hk => ?_⟩, ⟨?_, fun k hk => ?_⟩⟩
  · rw [fd 20 (by decide), fc 20 (by decide), fb 20 (by decide)]; exact a1
  · rw [fd 21 (by decide), fc 21 (by decide), fb 21 (by decide)]; exact a2
  · rw [fd 22 (by decide), fc 22 (by decide), fb 22 (by decide)]; exact a3 k hk
  · rw [fd 23 (by decide), fc 23 (by decide), fb 23 (by decide)]; exact a4 k hk
  · rw [fd 25 (by decide), fc 25 (by decide), b1, fa 80 (by decide)]
  · rw [fd 26 (by decide), fc 26 (by decide), b2 k hk, fa 81 (by decide)]
  · rw [fd 27 (by decide), c1, fb 82 (by decide), fa 82 (by decide)]
  · rw [fd 28 (by decide), c2 k hk, fb 83 (by decide), fa 83 (by decide)]
  · rw [d1, fc 74 (by decide), fb 74 (by decide), fa 74 (by decide)]
  · rw [d2 k hk, fc 84 (by decide), fb 84 (by decide), fa 84 (by decide)]
theorem te_74_19 (s : Sg) : W1 (fTe_become 74 19 s) (fun t => (t 75 3 = s 20 3 ∧ t 76 3 = s 21 3 ∧ (∀ k, k < 64 → t 77 k = s 22 k) ∧ (∀ k, k < 400 → t 78 k = s 23 k)) ∧ (t 80 3 = s 25 3 ∧ ∀ k, k < 64 → t 81 k = s 26 k) ∧ (t 82 3 = s 27 3 ∧ ∀ k, k < 32 → t 83 k = s 28 k) ∧ (t 74 4 = s 19 4 ∧ ∀ k, k < 20 → t 84 k = s 29 k)) := by
  unfold fTe_become
  rw [show FU = 4999 + 1 from rfl, lp_s, if_neg (by decide)]
  refine w1_bv (w1_m (ad0_74_19 s) (fun s1 h1 => ?_))
  rw [show (4999 : Nat) = 4998 + 1 from rfl, lp_s, if_neg (by decide), show (0 : Int32) + 1 = 1 from rfl]
  refine w1_bv (w1_m (ad1_74_19 s1) (fun s2 h2 => ?_))
  rw [show (4998 : Nat) = 4997 + 1 from rfl, lp_s, if_neg (by decide), show (1 : Int32) + 1 = 2 from rfl]
  refine w1_bv (w1_m (ad2_74_19 s2) (fun s3 h3 => ?_))
  rw [show (4997 : Nat) = 4996 + 1 from rfl, lp_s, if_neg (by decide), show (2 : Int32) + 1 = 3 from rfl]
  refine w1_bv (w1_m (ad3_74_19 s3) (fun s4 h4 => ?_))
  rw [show (4996 : Nat) = 4995 + 1 from rfl, lp_s, if_pos (by decide)]
  obtain ⟨⟨a1, a2, a3, a4⟩, fa⟩ := h1
  obtain ⟨⟨b1, b2⟩, fb⟩ := h2
  obtain ⟨⟨c1, c2⟩, fc⟩ := h3
  obtain ⟨⟨d1, d2⟩, fd⟩ := h4
  refine w1_s ⟨⟨?_, ?_, fun k hk => ?_, fun k hk => ?_⟩, ⟨?_, fun k hk => ?_⟩, ⟨?_, fun k hk => ?_⟩, ⟨?_, fun k hk => ?_⟩⟩
  · rw [fd 75 (by decide), fc 75 (by decide), fb 75 (by decide)]; exact a1
  · rw [fd 76 (by decide), fc 76 (by decide), fb 76 (by decide)]; exact a2
  · rw [fd 77 (by decide), fc 77 (by decide), fb 77 (by decide)]; exact a3 k hk
  · rw [fd 78 (by decide), fc 78 (by decide), fb 78 (by decide)]; exact a4 k hk
  · rw [fd 80 (by decide), fc 80 (by decide), b1, fa 25 (by decide)]
  · rw [fd 81 (by decide), fc 81 (by decide), b2 k hk, fa 26 (by decide)]
  · rw [fd 82 (by decide), c1, fb 27 (by decide), fa 27 (by decide)]
  · rw [fd 83 (by decide), c2 k hk, fb 28 (by decide), fa 28 (by decide)]
  · rw [d1, fc 19 (by decide), fb 19 (by decide), fa 19 (by decide)]
  · rw [d2 k hk, fc 29 (by decide), fb 29 (by decide), fa 29 (by decide)]
theorem tl_48_85 (s : Sg) : W1 (fTl_become 48 85 s) (fun t => (t 49 3 = s 86 3 ∧ ∀ k, k < 20 → t 50 k = s 87 k) ∧ (t 51 3 = s 88 3 ∧ ∀ k, k < 18 → t 52 k = s 89 k) ∧ (t 53 3 = s 90 3 ∧ ∀ k, k < 48 → t 54 k = s 91 k) ∧ (t 55 3 = s 92 3 ∧ ∀ k, k < 16 → t 56 k = s 93 k) ∧ (t 57 3 = s 94 3 ∧ ∀ k, k < 12 → t 58 k = s 95 k) ∧ (t 59 3 = s 96 3 ∧ ∀ k, k < 12 → t 60 k = s 97 k) ∧ (t 61 3 = s 98 3 ∧ ∀ k, k < 4 → t 62 k = s 99 k) ∧ t 48 7 = s 85 7 ∧ t 48 8 = s 85 8 ∧ t 48 9 = s 85 9) := by
  unfold fTl_become
  rw [show hz_rf 48 0 = 49 from rfl, show hz_rf 85 0 = 86 from rfl, show hz_rf 48 1 = 51 from rfl, show hz_rf 85 1 = 88 from rfl, show hz_rf 48 2 = 53 from rfl, show hz_rf 85 2 = 90 from rfl, show hz_rf 48 3 = 55 from rfl, show hz_rf 85 3 = 92 from rfl, show hz_rf 48 4 = 57 from rfl, show hz_rf 85 4 = 94 from rfl, show hz_rf 48 5 = 59 from rfl, show hz_rf 85 5 = 96 from rfl, show hz_rf 48 6 = 61 from rfl, show hz_rf 85 6 = 98 from rfl]
  refine w1_bv (w1_m (w1_fr (e_tbec (o := 49) (q := 86) (ro := 50) (rq := 87) (l := 20) rfl rfl rfl rfl (by decide) (by decide) (by decide) s) (fr_Ta_become 49 86 s)) (fun s0 h0 => ?_))
  obtain ⟨⟨x0, y0⟩, f0⟩ := h0
  refine w1_bv (w1_m (w1_fr (e_tbec (o := 51) (q := 88) (ro := 52) (rq := 89) (l := 18) rfl rfl rfl rfl (by decide) (by decide) (by decide) s0) (fr_Ta_become 51 88 s0)) (fun s1 h1 => ?_))
  obtain ⟨⟨x1, y1⟩, f1⟩ := h1
  refine w1_bv (w1_m (w1_fr (e_tbec (o := 53) (q := 90) (ro := 54) (rq := 91) (l := 48) rfl rfl rfl rfl (by decide) (by decide) (by decide) s1) (fr_Ta_become 53 90 s1)) (fun s2 h2 => ?_))
  obtain ⟨⟨x2, y2⟩, f2⟩ := h2
  refine w1_bv (w1_m (w1_fr (e_tbec (o := 55) (q := 92) (ro := 56) (rq := 93) (l := 16) rfl rfl rfl rfl (by decide) (by decide) (by decide) s2) (fr_Ta_become 55 92 s2)) (fun s3 h3 => ?_))
  obtain ⟨⟨x3, y3⟩, f3⟩ := h3
  refine w1_bv (w1_m (w1_fr (e_tbec (o := 57) (q := 94) (ro := 58) (rq := 95) (l := 12) rfl rfl rfl rfl (by decide) (by decide) (by decide) s3) (fr_Ta_become 57 94 s3)) (fun s4 h4 => ?_))
  obtain ⟨⟨x4, y4⟩, f4⟩ := h4
  refine w1_bv (w1_m (w1_fr (e_tbec (o := 59) (q := 96) (ro := 60) (rq := 97) (l := 12) rfl rfl rfl rfl (by decide) (by decide) (by decide) s4) (fr_Ta_become 59 96 s4)) (fun s5 h5 => ?_))
  obtain ⟨⟨x5, y5⟩, f5⟩ := h5
  refine w1_bv (w1_m (w1_fr (e_tbec (o := 61) (q := 98) (ro := 62) (rq := 99) (l := 4) rfl rfl rfl rfl (by decide) (by decide) (by decide) s5) (fr_Ta_become 61 98 s5)) (fun s6 h6 => ?_))
  obtain ⟨⟨x6, y6⟩, f6⟩ := h6
  simp only [bnd_e]
  refine w1_s ⟨⟨?_, fun k hk => ?_⟩, ⟨?_, fun k hk => ?_⟩, ⟨?_, fun k hk => ?_⟩, ⟨?_, fun k hk => ?_⟩, ⟨?_, fun k hk => ?_⟩, ⟨?_, fun k hk => ?_⟩, ⟨?_, fun k hk => ?_⟩, ?_, ?_, ?_⟩
  · rw [ptq _ _ _ (by decide), ptq _ _ _ (by decide), ptq _ _ _ (by decide), f6 49 (by decide) (by decide), f5 49 (by decide) (by decide), f4 49 (by decide) (by decide), f3 49 (by decide) (by decide), f2 49 (by decide) (by decide), f1 49 (by decide) (by decide), x0]
  · rw [ptq _ _ _ (by decide), ptq _ _ _ (by decide), ptq _ _ _ (by decide), f6 50 (by decide) (by decide), f5 50 (by decide) (by decide), f4 50 (by decide) (by decide), f3 50 (by decide) (by decide), f2 50 (by decide) (by decide), f1 50 (by decide) (by decide), y0 k hk]
  · rw [ptq _ _ _ (by decide), ptq _ _ _ (by decide), ptq _ _ _ (by decide), f6 51 (by decide) (by decide), f5 51 (by decide) (by decide), f4 51 (by decide) (by decide), f3 51 (by decide) (by decide), f2 51 (by decide) (by decide), x1, f0 88 (by decide) (by decide)]
  · rw [ptq _ _ _ (by decide), ptq _ _ _ (by decide), ptq _ _ _ (by decide), f6 52 (by decide) (by decide), f5 52 (by decide) (by decide), f4 52 (by decide) (by decide), f3 52 (by decide) (by decide), f2 52 (by decide) (by decide), y1 k hk, f0 89 (by decide) (by decide)]
  · rw [ptq _ _ _ (by decide), ptq _ _ _ (by decide), ptq _ _ _ (by decide), f6 53 (by decide) (by decide), f5 53 (by decide) (by decide), f4 53 (by decide) (by decide), f3 53 (by decide) (by decide), x2, f1 90 (by decide) (by decide), f0 90 (by decide) (by decide)]
  · rw [ptq _ _ _ (by decide), ptq _ _ _ (by decide), ptq _ _ _ (by decide), f6 54 (by decide) (by decide), f5 54 (by decide) (by decide), f4 54 (by decide) (by decide), f3 54 (by decide) (by decide), y2 k hk, f1 91 (by decide) (by decide), f0 91 (by decide) (by decide)]
  · rw [ptq _ _ _ (by decide), ptq _ _ _ (by decide), ptq _ _ _ (by decide), f6 55 (by decide) (by decide), f5 55 (by decide) (by decide), f4 55 (by decide) (by decide), x3, f2 92 (by decide) (by decide), f1 92 (by decide) (by decide), f0 92 (by decide) (by decide)]
  · rw [ptq _ _ _ (by decide), ptq _ _ _ (by decide), ptq _ _ _ (by decide), f6 56 (by decide) (by decide), f5 56 (by decide) (by decide), f4 56 (by decide) (by decide), y3 k hk, f2 93 (by decide) (by decide), f1 93 (by decide) (by decide), f0 93 (by decide) (by decide)]
  · rw [ptq _ _ _ (by decide), ptq _ _ _ (by decide), ptq _ _ _ (by decide), f6 57 (by decide) (by decide), f5 57 (by decide) (by decide), x4, f3 94 (by decide) (by decide), f2 94 (by decide) (by decide), f1 94 (by decide) (by decide), f0 94 (by decide) (by decide)]
  · rw [ptq _ _ _ (by decide), ptq _ _ _ (by decide), ptq _ _ _ (by decide), f6 58 (by decide) (by decide), f5 58 (by decide) (by decide), y4 k hk, f3 95 (by decide) (by decide), f2 95 (by decide) (by decide), f1 95 (by decide) (by decide), f0 95 (by decide) (by decide)]
  · rw [ptq _ _ _ (by decide), ptq _ _ _ (by decide), ptq _ _ _ (by decide), f6 59 (by decide) (by decide), x5, f4 96 (by decide) (by decide), f3 96 (by decide) (by decide), f2 96 (by decide) (by decide), f1 96 (by decide) (by decide), f0 96 (by decide) (by decide)]
  · rw [ptq _ _ _ (by decide), ptq _ _ _ (by decide), ptq _ _ _ (by decide), f6 60 (by decide) (by decide), y5 k hk, f4 97 (by decide) (by decide), f3 97 (by decide) (by decide), f2 97 (by decide) (by decide), f1 97 (by decide) (by decide), f0 97 (by decide) (by decide)]
  · rw [ptq _ _ _ (by decide), ptq _ _ _ (by decide), ptq _ _ _ (by decide), x6, f5 98 (by decide) (by decide), f4 98 (by decide) (by decide), f3 98 (by decide) (by decide), f2 98 (by decide) (by decide), f1 98 (by decide) (by decide), f0 98 (by decide) (by decide)]
  · rw [ptq _ _ _ (by decide), ptq _ _ _ (by decide), ptq _ _ _ (by decide), y6 k hk, f5 99 (by decide) (by decide), f4 99 (by decide) (by decide), f3 99 (by decide) (by decide), f2 99 (by decide) (by decide), f1 99 (by decide) (by decide), f0 99 (by decide) (by decide)]
  · rw [pt_k _ _ _ (by decide), pt_k _ _ _ (by decide), pt_s, f6 85 (by decide) (by decide), f5 85 (by decide) (by decide), f4 85 (by decide) (by decide), f3 85 (by decide) (by decide), f2 85 (by decide) (by decide), f1 85 (by decide) (by decide), f0 85 (by decide) (by decide)]
  · rw [pt_k _ _ _ (by decide), pt_s, ptq _ _ _ (show 85 ≠ 48 by decide), f6 85 (by decide) (by decide), f5 85 (by decide) (by decide), f4 85 (by decide) (by decide), f3 85 (by decide) (by decide), f2 85 (by decide) (by decide), f1 85 (by decide) (by decide), f0 85 (by decide) (by decide)]
  · rw [pt_s, ptq _ _ _ (show 85 ≠ 48 by decide), ptq _ _ _ (show 85 ≠ 48 by decide), f6 85 (by decide) (by decide), f5 85 (by decide) (by decide), f4 85 (by decide) (by decide), f3 85 (by decide) (by decide), f2 85 (by decide) (by decide), f1 85 (by decide) (by decide), f0 85 (by decide) (by decide)]
theorem tl_85_48 (s : Sg) : W1 (fTl_become 85 48 s) (fun t => (t 86 3 = s 49 3 ∧ ∀ k, k < 20 → t 87 k = s 50 k) ∧ (t 88 3 = s 51 3 ∧ ∀ k, k < 18 → t 89 k = s 52 k) ∧ (t 90 3 = s 53 3 ∧ ∀ k, k < 48 → t 91 k = s 54 k) ∧ (t 92 3 = s 55 3 ∧ ∀ k, k < 16 → t 93 k = s 56 k) ∧ (t 94 3 = s 57 3 ∧ ∀ k, k < 12 → t 95 k = s 58 k) ∧ (t 96 3 = s 59 3 ∧ ∀ k, k < 12 → t 97 k = s 60 k) ∧ (t 98 3 = s 61 3 ∧ ∀ k, k < 4 → t 99 k = s 62 k) ∧ t 85 7 = s 48 7 ∧ t 85 8 = s 48 8 ∧ t 85 9 = s 48 9) := by
  unfold fTl_become
  rw [show hz_rf 85 0 = 86 from rfl, show hz_rf 48 0 = 49 from rfl, show hz_rf 85 1 = 88 from rfl, show hz_rf 48 1 = 51 from rfl, show hz_rf 85 2 = 90 from rfl, show hz_rf 48 2 = 53 from rfl, show hz_rf 85 3 = 92 from rfl, show hz_rf 48 3 = 55 from rfl, show hz_rf 85 4 = 94 from rfl, show hz_rf 48 4 = 57 from rfl, show hz_rf 85 5 = 96 from rfl, show hz_rf 48 5 = 59 from rfl, show hz_rf 85 6 = 98 from rfl, show hz_rf 48 6 = 61 from rfl]
  refine w1_bv (w1_m (w1_fr (e_tbec (o := 86) (q := 49) (ro := 87) (rq := 50) (l := 20) rfl rfl rfl rfl (by decide) (by decide) (by decide) s) (fr_Ta_become 86 49 s)) (fun s0 h0 => ?_))
  obtain ⟨⟨x0, y0⟩, f0⟩ := h0
  refine w1_bv (w1_m (w1_fr (e_tbec (o := 88) (q := 51) (ro := 89) (rq := 52) (l := 18) rfl rfl rfl rfl (by decide) (by decide) (by decide) s0) (fr_Ta_become 88 51 s0)) (fun s1 h1 => ?_))
  obtain ⟨⟨x1, y1⟩, f1⟩ := h1
  refine w1_bv (w1_m (w1_fr (e_tbec (o := 90) (q := 53) (ro := 91) (rq := 54) (l := 48) rfl rfl rfl rfl (by decide) (by decide) (by decide) s1) (fr_Ta_become 90 53 s1)) (fun s2 h2 => ?_))
  obtain ⟨⟨x2, y2⟩, f2⟩ := h2
  refine w1_bv (w1_m (w1_fr (e_tbec (o := 92) (q := 55) (ro := 93) (rq := 56) (l := 16) rfl rfl rfl rfl (by decide) (by decide) (by decide) s2) (fr_Ta_become 92 55 s2)) (fun s3 h3 => ?_))
  obtain ⟨⟨x3, y3⟩, f3⟩ := h3
  refine w1_bv (w1_m (w1_fr (e_tbec (o := 94) (q := 57) (ro := 95) (rq := 58) (l := 12) rfl rfl rfl rfl (by decide) (by decide) (by decide) s3) (fr_Ta_become 94 57 s3)) (fun s4 h4 => ?_))
  obtain ⟨⟨x4, y4⟩, f4⟩ := h4
  refine w1_bv (w1_m (w1_fr (e_tbec (o := 96) (q := 59) (ro := 97) (rq := 60) (l := 12) rfl rfl rfl rfl (by decide) (by decide) (by decide) s4) (fr_Ta_become 96 59 s4)) (fun s5 h5 => ?_))
  obtain ⟨⟨x5, y5⟩, f5⟩ := h5
  refine w1_bv (w1_m (w1_fr (e_tbec (o := 98) (q := 61) (ro := 99) (rq := 62) (l := 4) rfl rfl rfl rfl (by decide) (by decide) (by decide) s5) (fr_Ta_become 98 61 s5)) (fun s6 h6 => ?_))
  obtain ⟨⟨x6, y6⟩, f6⟩ := h6
  simp only [bnd_e]
  refine w1_s ⟨⟨?_, fun k hk => ?_⟩, ⟨?_, fun k hk => ?_⟩, ⟨?_, fun k hk => ?_⟩, ⟨?_, fun k hk => ?_⟩, ⟨?_, fun k hk => ?_⟩, ⟨?_, fun k hk => ?_⟩, ⟨?_, fun k hk => ?_⟩, ?_, ?_, ?_⟩
  · rw [ptq _ _ _ (by decide), ptq _ _ _ (by decide), ptq _ _ _ (by decide), f6 86 (by decide) (by decide), f5 86 (by decide) (by decide), f4 86 (by decide) (by decide), f3 86 (by decide) (by decide), f2 86 (by decide) (by decide), f1 86 (by decide) (by decide), x0]
  · rw [ptq _ _ _ (by decide), ptq _ _ _ (by decide), ptq _ _ _ (by decide), f6 87 (by decide) (by decide), f5 87 (by decide) (by decide), f4 87 (by decide) (by decide), f3 87 (by decide) (by decide), f2 87 (by decide) (by decide), f1 87 (by decide) (by decide), y0 k hk]
  · rw [ptq _ _ _ (by decide), ptq _ _ _ (by decide), ptq _ _ _ (by decide), f6 88 (by decide) (by decide), f5 88 (by decide) (by decide), f4 88 (by decide) (by decide), f3 88 (by decide) (by decide), f2 88 (by decide) (by decide), x1, f0 51 (by decide) (by decide)]
  · rw [ptq _ _ _ (by decide), ptq _ _ _ (by decide), ptq _ _ _ (by decide), f6 89 (by decide) (by decide), f5 89 (by decide) (by decide), f4 89 (by decide) (by decide), f3 89 (by decide) (by decide), f2 89 (by decide) (by decide), y1 k hk, f0 52 (by decide) (by decide)]
  · rw [ptq _ _ _ (by decide), ptq _ _ _ (by decide), ptq _ _ _ (by decide), f6 90 (by decide) (by decide), f5 90 (by decide) (by decide), f4 90 (by decide) (by decide), f3 90 (by decide) (by decide), x2, f1 53 (by decide) (by decide), f0 53 (by decide) (by decide)]
  · rw [ptq _ _ _ (by decide), ptq _ _ _ (by decide), ptq _ _ _ (by decide), f6 91 (by decide) (by decide), f5 91 (by decide) (by decide), f4 91 (by decide) (by decide), f3 91 (by decide) (by decide), y2 k hk, f1 54 (by decide) (by decide), f0 54 (by decide) (by decide)]
  · rw [ptq _ _ _ (by decide), ptq _ _ _ (by decide), ptq _ _ _ (by decide), f6 92 (by decide) (by decide), f5 92 (by decide) (by decide), f4 92 (by decide) (by decide), x3, f2 55 (by decide) (by decide), f1 55 (by decide) (by decide), f0 55 (by decide) (by decide)]
  · rw [ptq _ _ _ (by decide), ptq _ _ _ (by decide), ptq _ _ _ (by decide), f6 93 (by decide) (by decide), f5 93 (by decide) (by decide), f4 93 (by decide) (by decide), y3 k hk, f2 56 (by decide) (by decide), f1 56 (by decide) (by decide), f0 56 (by decide) (by decide)]
  · rw [ptq _ _ _ (by decide), ptq _ _ _ (by decide), ptq _ _ _ (by decide), f6 94 (by decide) (by decide), f5 94 (by decide) (by decide), x4, f3 57 (by decide) (by decide), f2 57 (by decide) (by decide), f1 57 (by decide) (by decide), f0 57 (by decide) (by decide)]
  · rw [ptq _ _ _ (by decide), ptq _ _ _ (by decide), ptq _ _ _ (by decide), f6 95 (by decide) (by decide), f5 95 (by decide) (by decide), y4 k hk, f3 58 (by decide) (by decide), f2 58 (by decide) (by decide), f1 58 (by decide) (by decide), f0 58 (by decide) (by decide)]
  · rw [ptq _ _ _ (by decide), ptq _ _ _ (by decide), ptq _ _ _ (by decide), f6 96 (by decide) (by decide), x5, f4 59 (by decide) (by decide), f3 59 (by decide) (by decide), f2 59 (by decide) (by decide), f1 59 (by decide) (by decide), f0 59 (by decide) (by decide)]
  · rw [ptq _ _ _ (by decide), ptq _ _ _ (by decide), ptq _ _ _ (by decide), f6 97 (by decide) (by decide), y5 k hk, f4 60 (by decide) (by decide), f3 60 (by decide) (by decide), f2 60 (by decide) (by decide), f1 60 (by decide) (by decide), f0 60 (by decide) (by decide)]
  · rw [ptq _ _ _ (by decide), ptq _ _ _ (by decide), ptq _ _ _ (by decide), x6, f5 61 (by decide) (by decide), f4 61 (by decide) (by decide), f3 61 (by decide) (by decide), f2 61 (by decide) (by decide), f1 61 (by decide) (by decide), f0 61 (by decide) (by decide)]
  · rw [ptq _ _ _ (by decide), ptq _ _ _ (by decide), ptq _ _ _ (by decide), y6 k hk, f5 62 (by decide) (by decide), f4 62 (by decide) (by decide), f3 62 (by decide) (by decide), f2 62 (by decide) (by decide), f1 62 (by decide) (by decide), f0 62 (by decide) (by decide)]
  · rw [pt_k _ _ _ (by decide), pt_k _ _ _ (by decide), pt_s, f6 48 (by decide) (by decide), f5 48 (by decide) (by decide), f4 48 (by decide) (by decide), f3 48 (by decide) (by decide), f2 48 (by decide) (by decide), f1 48 (by decide) (by decide), f0 48 (by decide) (by decide)]
  · rw [pt_k _ _ _ (by decide), pt_s, ptq _ _ _ (show 48 ≠ 85 by decide), f6 48 (by decide) (by decide), f5 48 (by decide) (by decide), f4 48 (by decide) (by decide), f3 48 (by decide) (by decide), f2 48 (by decide) (by decide), f1 48 (by decide) (by decide), f0 48 (by decide) (by decide)]
  · rw [pt_s, ptq _ _ _ (show 48 ≠ 85 by decide), ptq _ _ _ (show 48 ≠ 85 by decide), f6 48 (by decide) (by decide), f5 48 (by decide) (by decide), f4 48 (by decide) (by decide), f3 48 (by decide) (by decide), f2 48 (by decide) (by decide), f1 48 (by decide) (by decide), f0 48 (by decide) (by decide)]
def HC (E D : Sg) : Prop := (∀ k, 1 ≤ k → k ≤ 12 → D 1 k = E 1 k) ∧ (∀ k, k < 80 → D 2 k = E 2 k) ∧ D 20 3 = E 20 3 ∧ D 21 3 = E 21 3 ∧ (∀ k, k < 64 → D 22 k = E 22 k) ∧ (∀ k, k < 400 → D 23 k = E 23 k) ∧ D 25 3 = E 25 3 ∧ (∀ k, k < 64 → D 26 k = E 26 k) ∧ D 27 3 = E 27 3 ∧ (∀ k, k < 32 → D 28 k = E 28 k) ∧ D 19 4 = E 19 4 ∧ (∀ k, k < 20 → D 29 k = E 29 k) ∧ D 49 3 = E 49 3 ∧ (∀ k, k < 20 → D 50 k = E 50 k) ∧ D 51 3 = E 51 3 ∧ (∀ k, k < 18 → D 52 k = E 52 k) ∧ D 53 3 = E 53 3 ∧ (∀ k, k < 48 → D 54 k = E 54 k) ∧ D 55 3 = E 55 3 ∧ (∀ k, k < 16 → D 56 k = E 56 k) ∧ D 57 3 = E 57 3 ∧ (∀ k, k < 12 → D 58 k = E 58 k) ∧ D 59 3 = E 59 3 ∧ (∀ k, k < 12 → D 60 k = E 60 k) ∧ D 61 3 = E 61 3 ∧ (∀ k, k < 4 → D 62 k = E 62 k) ∧ D 48 7 = E 48 7 ∧ D 48 8 = E 48 8 ∧ D 48 9 = E 48 9 ∧ D 63 3 = E 63 3 ∧ (∀ k, k < 750 → D 64 k = E 64 k)
theorem all_take (s : Sg) : W1 (fIm_take 1 19 48 63 s) (fun t => HC s (imC t) ∧ t 71 4 = 1) := by
  unfold fIm_take
  obtain ⟨s1, e1, p1, p2⟩ := e_become (o := 72) (q := 1) (ro := 73) (rq := 2) rfl rfl (by decide) (by decide) (by decide) (by decide) s
  have f1 : ∀ o, o ∉ [72, 73] → s1 o = s o := fun o ho => by
    simp only [List.mem_cons, List.not_mem_nil, or_false, not_or] at ho
    refine frO (fr_Sc_become 72 1 s s1 e1) o ?_ ?_
    · rw [show hz_rf 72 0 = 73 from rfl]
      simpa using ho.2
    · simpa using ho.1
  rw [e1, bv_s]
  refine w1_bv (w1_m (w1_fr (te_74_19 s1) (fr_Te_become 74 19 s1)) (fun s2 h2 => ?_))
  obtain ⟨⟨⟨a1, a2, a3, a4⟩, ⟨b1, b2⟩, ⟨c1, c2⟩, ⟨d1, d2⟩⟩, f2⟩ := h2
  refine w1_bv (w1_m (w1_fr (tl_85_48 s2) (fr_Tl_become 85 48 s2)) (fun s3 h3 => ?_))
  obtain ⟨⟨⟨x0, y0⟩, ⟨x1, y1⟩, ⟨x2, y2⟩, ⟨x3, y3⟩, ⟨x4, y4⟩, ⟨x5, y5⟩, ⟨x6, y6⟩, z1, z2, z3⟩, f3⟩ := h3
  refine w1_bv (w1_m (w1_fr (e_tbec (o := 100) (q := 63) (ro := 101) (rq := 64) (l := 750) rfl rfl rfl rfl (by decide) (by decide) (by decide) s3) (fr_Ta_become 100 63 s3)) (fun t h4 => ?_))
  obtain ⟨⟨v1, v2⟩, f4⟩ := h4
  rw [gb_1, bnd_e]
  refine w1_s ⟨⟨fun k h1 h2 => ?_, fun k hk => ?_, ?_, ?_, fun k hk => ?_, fun k hk => ?_, ?_, fun k hk => ?_, ?_, fun k hk => ?_, ?_, fun k hk => ?_, ?_, fun k hk => ?_, ?_, fun k hk => ?_, ?_, fun k hk => ?_, ?_, fun k hk => ?_, ?_, fun k hk => ?_, ?_, fun k hk => ?_, ?_, fun k hk => ?_, ?_, ?_, ?_, ?_, fun k hk => ?_⟩, pt_s _ _ _ _⟩
  · show pt t 71 4 1 72 k = s 1 k
    rw [ptq _ _ _ (show 72 ≠ 71 by decide), f4 72 (by decide) (by decide), f3 72 (by decide) (by decide), f2 72 (by decide) (by decide), p2 k h1 h2]
  · show pt t 71 4 1 73 k = s 2 k
    rw [ptq _ _ _ (show 73 ≠ 71 by decide), f4 73 (by decide) (by decide), f3 73 (by decide) (by decide), f2 73 (by decide) (by decide), p1 k hk]
  · show pt t 71 4 1 75 3 = s 20 3
    rw [ptq _ _ _ (show 75 ≠ 71 by decide), f4 75 (by decide) (by decide), f3 75 (by decide) (by decide), a1, f1 20 (by decide)]
  · show pt t 71 4 1 76 3 = s 21 3
    rw [ptq _ _ _ (show 76 ≠ 71 by decide), f4 76 (by decide) (by decide), f3 76 (by decide) (by decide), a2, f1 21 (by decide)]
  · show pt t 71 4 1 77 k = s 22 k
    rw [ptq _ _ _ (show 77 ≠ 71 by decide), f4 77 (by decide) (by decide), f3 77 (by decide) (by decide), a3 k hk, f1 22 (by decide)]
  · show pt t 71 4 1 78 k = s 23 k
    rw [ptq _ _ _ (show 78 ≠ 71 by decide), f4 78 (by decide) (by decide), f3 78 (by decide) (by decide), a4 k hk, f1 23 (by decide)]
  · show pt t 71 4 1 80 3 = s 25 3
    rw [ptq _ _ _ (show 80 ≠ 71 by decide), f4 80 (by decide) (by decide), f3 80 (by decide) (by decide), b1, f1 25 (by decide)]
  · show pt t 71 4 1 81 k = s 26 k
    rw [ptq _ _ _ (show 81 ≠ 71 by decide), f4 81 (by decide) (by decide), f3 81 (by decide) (by decide), b2 k hk, f1 26 (by decide)]
  · show pt t 71 4 1 82 3 = s 27 3
    rw [ptq _ _ _ (show 82 ≠ 71 by decide), f4 82 (by decide) (by decide), f3 82 (by decide) (by decide), c1, f1 27 (by decide)]
  · show pt t 71 4 1 83 k = s 28 k
    rw [ptq _ _ _ (show 83 ≠ 71 by decide), f4 83 (by decide) (by decide), f3 83 (by decide) (by decide), c2 k hk, f1 28 (by decide)]
  · show pt t 71 4 1 74 4 = s 19 4
    rw [ptq _ _ _ (show 74 ≠ 71 by decide), f4 74 (by decide) (by decide), f3 74 (by decide) (by decide), d1, f1 19 (by decide)]
  · show pt t 71 4 1 84 k = s 29 k
    rw [ptq _ _ _ (show 84 ≠ 71 by decide), f4 84 (by decide) (by decide), f3 84 (by decide) (by decide), d2 k hk, f1 29 (by decide)]
  · show pt t 71 4 1 86 3 = s 49 3
    rw [ptq _ _ _ (show 86 ≠ 71 by decide), f4 86 (by decide) (by decide), x0, f2 49 (by decide) (by decide), f1 49 (by decide)]
  · show pt t 71 4 1 87 k = s 50 k
    rw [ptq _ _ _ (show 87 ≠ 71 by decide), f4 87 (by decide) (by decide), y0 k hk, f2 50 (by decide) (by decide), f1 50 (by decide)]
  · show pt t 71 4 1 88 3 = s 51 3
    rw [ptq _ _ _ (show 88 ≠ 71 by decide), f4 88 (by decide) (by decide), x1, f2 51 (by decide) (by decide), f1 51 (by decide)]
  · show pt t 71 4 1 89 k = s 52 k
    rw [ptq _ _ _ (show 89 ≠ 71 by decide), f4 89 (by decide) (by decide), y1 k hk, f2 52 (by decide) (by decide), f1 52 (by decide)]
  · show pt t 71 4 1 90 3 = s 53 3
    rw [ptq _ _ _ (show 90 ≠ 71 by decide), f4 90 (by decide) (by decide), x2, f2 53 (by decide) (by decide), f1 53 (by decide)]
  · show pt t 71 4 1 91 k = s 54 k
    rw [ptq _ _ _ (show 91 ≠ 71 by decide), f4 91 (by decide) (by decide), y2 k hk, f2 54 (by decide) (by decide), f1 54 (by decide)]
  · show pt t 71 4 1 92 3 = s 55 3
    rw [ptq _ _ _ (show 92 ≠ 71 by decide), f4 92 (by decide) (by decide), x3, f2 55 (by decide) (by decide), f1 55 (by decide)]
  · show pt t 71 4 1 93 k = s 56 k
    rw [ptq _ _ _ (show 93 ≠ 71 by decide), f4 93 (by decide) (by decide), y3 k hk, f2 56 (by decide) (by decide), f1 56 (by decide)]
  · show pt t 71 4 1 94 3 = s 57 3
    rw [ptq _ _ _ (show 94 ≠ 71 by decide), f4 94 (by decide) (by decide), x4, f2 57 (by decide) (by decide), f1 57 (by decide)]
  · show pt t 71 4 1 95 k = s 58 k
    rw [ptq _ _ _ (show 95 ≠ 71 by decide), f4 95 (by decide) (by decide), y4 k hk, f2 58 (by decide) (by decide), f1 58 (by decide)]
  · show pt t 71 4 1 96 3 = s 59 3
    rw [ptq _ _ _ (show 96 ≠ 71 by decide), f4 96 (by decide) (by decide), x5, f2 59 (by decide) (by decide), f1 59 (by decide)]
  · show pt t 71 4 1 97 k = s 60 k
    rw [ptq _ _ _ (show 97 ≠ 71 by decide), f4 97 (by decide) (by decide), y5 k hk, f2 60 (by decide) (by decide), f1 60 (by decide)]
  · show pt t 71 4 1 98 3 = s 61 3
    rw [ptq _ _ _ (show 98 ≠ 71 by decide), f4 98 (by decide) (by decide), x6, f2 61 (by decide) (by decide), f1 61 (by decide)]
  · show pt t 71 4 1 99 k = s 62 k
    rw [ptq _ _ _ (show 99 ≠ 71 by decide), f4 99 (by decide) (by decide), y6 k hk, f2 62 (by decide) (by decide), f1 62 (by decide)]
  · show pt t 71 4 1 85 7 = s 48 7
    rw [ptq _ _ _ (show 85 ≠ 71 by decide), f4 85 (by decide) (by decide), z1, f2 48 (by decide) (by decide), f1 48 (by decide)]
  · show pt t 71 4 1 85 8 = s 48 8
    rw [ptq _ _ _ (show 85 ≠ 71 by decide), f4 85 (by decide) (by decide), z2, f2 48 (by decide) (by decide), f1 48 (by decide)]
  · show pt t 71 4 1 85 9 = s 48 9
    rw [ptq _ _ _ (show 85 ≠ 71 by decide), f4 85 (by decide) (by decide), z3, f2 48 (by decide) (by decide), f1 48 (by decide)]
  · show pt t 71 4 1 100 3 = s 63 3
    rw [ptq _ _ _ (show 100 ≠ 71 by decide), v1, f3 63 (by decide) (by decide), f2 63 (by decide) (by decide), f1 63 (by decide)]
  · show pt t 71 4 1 101 k = s 64 k
    rw [ptq _ _ _ (show 101 ≠ 71 by decide), v2 k hk, f3 64 (by decide) (by decide), f2 64 (by decide) (by decide), f1 64 (by decide)]
theorem all_give (s : Sg) : W1 (fIm_giveBack 1 19 48 63 s) (fun t => HC (imC s) t) := by
  unfold fIm_giveBack
  obtain ⟨s1, e1, p1, p2⟩ := e_become (o := 1) (q := 72) (ro := 2) (rq := 73) rfl rfl (by decide) (by decide) (by decide) (by decide) s
  have f1 : ∀ o, o ∉ [1, 2] → s1 o = s o := fun o ho => by
    simp only [List.mem_cons, List.not_mem_nil, or_false, not_or] at ho
    refine frO (fr_Sc_become 1 72 s s1 e1) o ?_ ?_
    · rw [show hz_rf 1 0 = 2 from rfl]
      simpa using ho.2
    · simpa using ho.1
  rw [e1, bv_s]
  refine w1_bv (w1_m (w1_fr (te_19_74 s1) (fr_Te_become 19 74 s1)) (fun s2 h2 => ?_))
  obtain ⟨⟨⟨a1, a2, a3, a4⟩, ⟨b1, b2⟩, ⟨c1, c2⟩, ⟨d1, d2⟩⟩, f2⟩ := h2
  refine w1_bv (w1_m (w1_fr (tl_48_85 s2) (fr_Tl_become 48 85 s2)) (fun s3 h3 => ?_))
  obtain ⟨⟨⟨x0, y0⟩, ⟨x1, y1⟩, ⟨x2, y2⟩, ⟨x3, y3⟩, ⟨x4, y4⟩, ⟨x5, y5⟩, ⟨x6, y6⟩, z1, z2, z3⟩, f3⟩ := h3
  refine w1_bv (w1_m (w1_fr (e_tbec (o := 63) (q := 100) (ro := 64) (rq := 101) (l := 750) rfl rfl rfl rfl (by decide) (by decide) (by decide) s3) (fr_Ta_become 63 100 s3)) (fun t h4 => ?_))
  obtain ⟨⟨v1, v2⟩, f4⟩ := h4
  refine w1_s ⟨fun k h1 h2 => ?_, fun k hk => ?_, ?_, ?_, fun k hk => ?_, fun k hk => ?_, ?_, fun k hk => ?_, ?_, fun k hk => ?_, ?_, fun k hk => ?_, ?_, fun k hk => ?_, ?_, fun k hk => ?_, ?_, fun k hk => ?_, ?_, fun k hk => ?_, ?_, fun k hk => ?_, ?_, fun k hk => ?_, ?_, fun k hk => ?_, ?_, ?_, ?_, ?_, fun k hk => ?_⟩
  · show t 1 k = s 72 k
    rw [f4 1 (by decide) (by decide), f3 1 (by decide) (by decide), f2 1 (by decide) (by decide), p2 k h1 h2]
  · show t 2 k = s 73 k
    rw [f4 2 (by decide) (by decide), f3 2 (by decide) (by decide), f2 2 (by decide) (by decide), p1 k hk]
  · show t 20 3 = s 75 3
    rw [f4 20 (by decide) (by decide), f3 20 (by decide) (by decide), a1, f1 75 (by decide)]
  · show t 21 3 = s 76 3
    rw [f4 21 (by decide) (by decide), f3 21 (by decide) (by decide), a2, f1 76 (by decide)]
  · show t 22 k = s 77 k
    rw [f4 22 (by decide) (by decide), f3 22 (by decide) (by decide), a3 k hk, f1 77 (by decide)]
  · show t 23 k = s 78 k
    rw [f4 23 (by decide) (by decide), f3 23 (by decide) (by decide), a4 k hk, f1 78 (by decide)]
  · show t 25 3 = s 80 3
    rw [f4 25 (by decide) (by decide), f3 25 (by decide) (by decide), b1, f1 80 (by decide)]
  · show t 26 k = s 81 k
    rw [f4 26 (by decide) (by decide), f3 26 (by decide) (by decide), b2 k hk, f1 81 (by decide)]
  · show t 27 3 = s 82 3
    rw [f4 27 (by decide) (by decide), f3 27 (by decide) (by decide), c1, f1 82 (by decide)]
  · show t 28 k = s 83 k
    rw [f4 28 (by decide) (by decide), f3 28 (by decide) (by decide), c2 k hk, f1 83 (by decide)]
  · show t 19 4 = s 74 4
    rw [f4 19 (by decide) (by decide), f3 19 (by decide) (by decide), d1, f1 74 (by decide)]
  · show t 29 k = s 84 k
    rw [f4 29 (by decide) (by decide), f3 29 (by decide) (by decide), d2 k hk, f1 84 (by decide)]
  · show t 49 3 = s 86 3
    rw [f4 49 (by decide) (by decide), x0, f2 86 (by decide) (by decide), f1 86 (by decide)]
  · show t 50 k = s 87 k
    rw [f4 50 (by decide) (by decide), y0 k hk, f2 87 (by decide) (by decide), f1 87 (by decide)]
  · show t 51 3 = s 88 3
    rw [f4 51 (by decide) (by decide), x1, f2 88 (by decide) (by decide), f1 88 (by decide)]
  · show t 52 k = s 89 k
    rw [f4 52 (by decide) (by decide), y1 k hk, f2 89 (by decide) (by decide), f1 89 (by decide)]
  · show t 53 3 = s 90 3
    rw [f4 53 (by decide) (by decide), x2, f2 90 (by decide) (by decide), f1 90 (by decide)]
  · show t 54 k = s 91 k
    rw [f4 54 (by decide) (by decide), y2 k hk, f2 91 (by decide) (by decide), f1 91 (by decide)]
  · show t 55 3 = s 92 3
    rw [f4 55 (by decide) (by decide), x3, f2 92 (by decide) (by decide), f1 92 (by decide)]
  · show t 56 k = s 93 k
    rw [f4 56 (by decide) (by decide), y3 k hk, f2 93 (by decide) (by decide), f1 93 (by decide)]
  · show t 57 3 = s 94 3
    rw [f4 57 (by decide) (by decide), x4, f2 94 (by decide) (by decide), f1 94 (by decide)]
  · show t 58 k = s 95 k
    rw [f4 58 (by decide) (by decide), y4 k hk, f2 95 (by decide) (by decide), f1 95 (by decide)]
  · show t 59 3 = s 96 3
    rw [f4 59 (by decide) (by decide), x5, f2 96 (by decide) (by decide), f1 96 (by decide)]
  · show t 60 k = s 97 k
    rw [f4 60 (by decide) (by decide), y5 k hk, f2 97 (by decide) (by decide), f1 97 (by decide)]
  · show t 61 3 = s 98 3
    rw [f4 61 (by decide) (by decide), x6, f2 98 (by decide) (by decide), f1 98 (by decide)]
  · show t 62 k = s 99 k
    rw [f4 62 (by decide) (by decide), y6 k hk, f2 99 (by decide) (by decide), f1 99 (by decide)]
  · show t 48 7 = s 85 7
    rw [f4 48 (by decide) (by decide), z1, f2 85 (by decide) (by decide), f1 85 (by decide)]
  · show t 48 8 = s 85 8
    rw [f4 48 (by decide) (by decide), z2, f2 85 (by decide) (by decide), f1 85 (by decide)]
  · show t 48 9 = s 85 9
    rw [f4 48 (by decide) (by decide), z3, f2 85 (by decide) (by decide), f1 85 (by decide)]
  · show t 63 3 = s 100 3
    rw [v1, f3 100 (by decide) (by decide), f2 100 (by decide) (by decide), f1 100 (by decide)]
  · show t 64 k = s 101 k
    rw [v2 k hk, f3 101 (by decide) (by decide), f2 101 (by decide) (by decide), f1 101 (by decide)]
