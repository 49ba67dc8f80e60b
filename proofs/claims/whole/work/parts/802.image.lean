/-! the image: the law's cells, and the whole of the reference's side -/
theorem k_law {v : Int32} {s t : Sg} (h : KM v s 1272 t) : W1 (fM_keepsLaw t) (KM v s 2137) := by
  unfold fM_keepsLaw
  refine k_g (i := 0) (L := 2) (by decide) (by decide) h vc_112 rfl (fun t h => ?_)
  refine w1_lp (fun k u t' => ∃ i, i + k = 16 ∧ u = nI i ∧ KM v s (1273 + 4 * i) t') ?_ FU 16 _ _ (FU_lt (by omega)) ⟨0, by omega, rfl, h⟩
  rintro q k u t ⟨i, hi, rfl, h⟩ hq
  refine w1_if (fun g => ?_) (fun g => ?_)
  rotate_left
  · have g : ¬ 16 ≤ i := fun z => g (nI_le (a := 16) z (by omega))
    obtain ⟨v1, v2, v3, v4⟩ := vc_16 i (by omega)
    refine k_g (by omega) (by decide) h v1 rfl (fun t h => ?_)
    refine k_g (by omega) (by decide) h v2 (show 1274 + 4 * i = _ by omega) (fun t h => ?_)
    refine k_g (by omega) (by decide) h v3 (show 1275 + 4 * i = _ by omega) (fun t h => ?_)
    refine k_g (by omega) (by decide) h v4 (show 1276 + 4 * i = _ by omega) (fun t h => ?_)
    rw [nI_1]
    exact hq (k - 1) _ _ (by omega) ⟨i + 1, by omega, rfl, by rw [show 1273 + 4 * (i + 1) = 1273 + 4 * i + 1 + 1 + 1 + 1 by omega]; exact h⟩
  have g : 16 ≤ i := (nI_leI (a := 16) (b := i) (by decide) (by omega)).mp g
  obtain rfl : i = 16 := by omega
  clear hq g hi
  refine w1_lp (fun k u t' => ∃ i, i + k = 400 ∧ u = nI i ∧ KM v s (1337 + 2 * i) t') ?_ FU 400 _ _ (FU_lt (by omega)) ⟨0, by omega, rfl, h⟩
  rintro q k u t ⟨i, hi, rfl, h⟩ hq
  refine w1_if (fun g => ?_) (fun g => ?_)
  rotate_left
  · have g : ¬ 400 ≤ i := fun z => g (nI_le (a := 400) z (by omega))
    obtain ⟨v1, v2⟩ := vc_400 i (by omega)
    refine k_g (by omega) (by decide) h v1 rfl (fun t h => ?_)
    refine k_g (by omega) (by decide) h v2 (show 1338 + 2 * i = _ by omega) (fun t h => ?_)
    rw [nI_1]
    exact hq (k - 1) _ _ (by omega) ⟨i + 1, by omega, rfl, by rw [show 1337 + 2 * (i + 1) = 1337 + 2 * i + 1 + 1 by omega]; exact h⟩
  have g : 400 ≤ i := (nI_leI (a := 400) (b := i) (by decide) (by omega)).mp g
  obtain rfl : i = 400 := by omega
  exact w1_s h
/-- the reference takes an image, or gives one back -/
theorem k_all {v : Int32} {b : Sg} (hv : v = 0 ∨ v = 1) (hc : v = 0 → ¬ b 102 67 = 0) : W1 (fM_image v b) (fun z => z.1 = 1 ∧ ∃ s t, (∀ q, q ≠ 102 → s q = b q) ∧ (∀ k, k ≠ 0 → k ≠ 66 → k ≠ 67 → k ≠ 68 → s 102 k = b 102 k) ∧ s 102 67 = 1 ∧ s 102 0 = 0 ∧ KM v s 2137 t ∧ z.2 = if v = 0 then pt t 102 3 0 else t) := by
  unfold fM_image
  have gbv : ∀ {R : Type} (f : Option R), gb v f = f := fun f => by rcases hv with rfl | rfl <;> rfl
  rw [bnd_e]
  refine w1_j (fun J => W1 (J (pt b 102 0 0)) (fun z => z.1 = 1 ∧ ∃ s t, (∀ q, q ≠ 102 → s q = b q) ∧ (∀ k, k ≠ 0 → k ≠ 66 → k ≠ 67 → k ≠ 68 → s 102 k = b 102 k) ∧ s 102 67 = 1 ∧ s 102 0 = 0 ∧ KM v s 2137 t ∧ z.2 = if v = 0 then pt t 102 3 0 else t)) ?_ (fun J hJ => ?_)
  · rw [gbv, bnd_e, gb_1, bnd_e, bnd_e]
    have h0 : KM v (pt (pt (pt (pt b 102 0 0) 102 66 v) 102 67 1) 102 68 0) 0 (pt (pt (pt (pt b 102 0 0) 102 66 v) 102 67 1) 102 68 0) := by
      refine ⟨pt_s _ _ _ _, by rw [pt_k _ _ _ (by decide), pt_k _ _ _ (by decide), pt_s], fun _ _ _ _ _ => rfl, ?_⟩
      rcases hv with rfl | rfl
      · exact Or.inr ⟨rfl, rfl, fun q k _ h => absurd h (Nat.not_lt_zero _)⟩
      · exact Or.inl ⟨rfl, fun _ _ _ => rfl, fun q k _ h => absurd h (Nat.not_lt_zero _)⟩
    have f1 : ∀ q, q ≠ 102 → pt (pt (pt (pt b 102 0 0) 102 66 v) 102 67 1) 102 68 0 q = b q := fun q hq => by rw [ptq _ _ _ hq, ptq _ _ _ hq, ptq _ _ _ hq, ptq _ _ _ hq]
    have f2 : ∀ k, k ≠ 0 → k ≠ 66 → k ≠ 67 → k ≠ 68 → pt (pt (pt (pt b 102 0 0) 102 66 v) 102 67 1) 102 68 0 102 k = b 102 k := fun k k0 k1 k2 k3 => by rw [pt_k _ _ _ k3, pt_k _ _ _ k2, pt_k _ _ _ k1, pt_k _ _ _ k0]
    have f3 : pt (pt (pt (pt b 102 0 0) 102 66 v) 102 67 1) 102 68 0 102 67 = 1 := by rw [pt_k _ _ _ (by decide), pt_s]
    have f4 : pt (pt (pt (pt b 102 0 0) 102 66 v) 102 67 1) 102 68 0 102 0 = 0 := by rw [pt_k _ _ _ (by decide), pt_k _ _ _ (by decide), pt_k _ _ _ (by decide), pt_s]
    generalize pt (pt (pt (pt b 102 0 0) 102 66 v) 102 67 1) 102 68 0 = s at h0 f1 f2 f3 f4 ⊢
    refine k_lp (N := 50) (base := 0) rfl (by decide) (by decide) (fun k hk => ⟨vc_103 k hk, (Nat.zero_add k).symm⟩) h0 (fun t h => ?_)
    refine w1_bv (w1_m (k_many h) (fun t h => ?_))
    refine w1_bv (w1_m (k_told h) (fun t h => ?_))
    refine k_lp (N := 750) (base := 522) rfl (by decide) (by decide) (fun k hk => ⟨vc_109 k hk, rfl⟩) h (fun t h => ?_)
    refine w1_bv (w1_m (k_law h) (fun t h => ?_))
    refine w1_if (fun c => ?_) (fun c => ?_)
    · exact w1_s ⟨rfl, s, t, f1, f2, f3, f4, h, by rw [if_pos c]⟩
    · exact w1_s ⟨rfl, s, t, f1, f2, f3, f4, h, by rw [if_neg c]⟩
  · refine w1_if (fun c => ?_) (fun _ => hJ)
    rw [pt_k _ _ _ (show 67 ≠ 0 by decide), if_neg (hc c)]
    exact hJ
