/-! the image: its loops -/
theorem k_lp {R : Type} {v c : Int32} {s t : Sg} {N L o base : Nat} {K : Sg → Option R} {Q : R → Prop} (hc : c = nI N) (hL : N ≤ L) (hL2 : L < 4000) (hV : ∀ k, k < N → Vc o k ∧ imP o k = base + k) (h : KM v s base t) (hK : ∀ t', KM v s (base + N) t' → W1 (K t') Q) : W1 (lp FU (fun q (u : Int32) (s1 : Sg) => if c ≤ u then K s1 else (gd u L (bi (fM_keptOf (s1 o (ix u)) s1) fun r s2 => gd u L (bnd (pt s2 o (ix u) r) fun s3 => q (u + 1) s3)))) 0 t) Q := by
  refine w1_lp (fun k u t' => ∃ i, i + k = N ∧ u = nI i ∧ KM v s (base + i) t') ?_ FU N _ _ (FU_lt (by omega)) ⟨0, by omega, rfl, h⟩
  rintro q k u t' ⟨i, hi, rfl, hM⟩ hq
  rw [hc]
  refine w1_if (fun g => ?_) (fun g => ?_)
  · rw [nI_leI (by omega) (by omega)] at g
    obtain rfl : i = N := by omega
    exact hK t' hM
  · rw [nI_leI (by omega) (by omega)] at g
    obtain ⟨hv, hm⟩ := hV i (by omega)
    rw [gd_n _ (show i < L by omega) (by omega), ix_n (by omega)]
    refine w1_bi (w1_m (k_step hM hv hm) (fun z hz => ?_))
    rw [gd_n _ (show i < L by omega) (by omega), bnd_e, nI_1]
    exact hq (k - 1) _ _ (by omega) ⟨i + 1, by omega, rfl, hz⟩
theorem k_f {R : Type} {v : Int32} {s t : Sg} {m o k : Nat} {K : Sg → Option R} {Q : R → Prop} (h : KM v s m t) (hv : Vc o k) (hm : imP o k = m) (hK : ∀ t', KM v s (m + 1) t' → W1 (K t') Q) : W1 (bi (fM_keptOf (t o k) t) fun r s1 => bnd (pt s1 o k r) K) Q :=
  w1_bi (w1_m (k_step h hv hm) (fun z hz => hK _ hz))
theorem k_many {v : Int32} {s t : Sg} (h : KM v s 50 t) : W1 (fM_keepsMany t) (KM v s 62) := by
  unfold fM_keepsMany
  refine k_f h (vc_102 _ (by decide)) rfl (fun t h => ?_)
  refine k_f h (vc_102 _ (by decide)) rfl (fun t h => ?_)
  refine k_f h (vc_102 _ (by decide)) rfl (fun t h => ?_)
  refine k_f h (vc_102 _ (by decide)) rfl (fun t h => ?_)
  refine k_f h (vc_102 _ (by decide)) rfl (fun t h => ?_)
  refine k_f h (vc_102 _ (by decide)) rfl (fun t h => ?_)
  refine k_f h (vc_102 _ (by decide)) rfl (fun t h => ?_)
  refine k_f h (vc_102 _ (by decide)) rfl (fun t h => ?_)
  refine k_f h (vc_102 _ (by decide)) rfl (fun t h => ?_)
  refine k_f h (vc_102 _ (by decide)) rfl (fun t h => ?_)
  refine k_f h (vc_102 _ (by decide)) rfl (fun t h => ?_)
  refine k_f h (vc_102 _ (by decide)) rfl (fun t h => ?_)
  exact w1_s h
theorem k_g {R : Type} {v : Int32} {s t : Sg} {m o i L : Nat} {K : Sg → Option R} {Q : R → Prop} (hi : i < L) (hL : L < 4000) (h : KM v s m t) (hv : Vc o i) (hm : imP o i = m) (hK : ∀ t', KM v s (m + 1) t' → W1 (K t') Q) : W1 (gd (nI i) L (bi (fM_keptOf (t o (ix (nI i))) t) fun r s1 => gd (nI i) L (bnd (pt s1 o (ix (nI i)) r) K))) Q := by
  rw [gd_n _ hi (by omega), ix_n (by omega)]
  refine w1_bi (w1_m (k_step h hv hm) (fun z hz => ?_))
  rw [gd_n _ hi (by omega)]
  exact hK _ hz
theorem k_told {v : Int32} {s t : Sg} (h : KM v s 62 t) : W1 (fM_keepsTold t) (KM v s 522) := by
  unfold fM_keepsTold
  refine w1_lp (fun k u t' => ∃ i, i + k = 10 ∧ u = nI i ∧ KM v s (62 + 5 * i) t') ?_ FU 10 _ _ (FU_lt (by omega)) ⟨0, by omega, rfl, h⟩
  rintro q k u t ⟨i, hi, rfl, h⟩ hq
  refine w1_if (fun g => ?_) (fun g => ?_)
  rotate_left
  · have g : ¬ 10 ≤ i := fun z => g (nI_le (a := 10) z (by omega))
    obtain ⟨v1, v2, v3, v4, v5⟩ := vc_10 i (by omega)
    refine k_g (by omega) (by decide) h v1 rfl (fun t h => ?_)
    refine k_g (by omega) (by decide) h v2 (show 63 + 5 * i = _ by omega) (fun t h => ?_)
    refine k_g (by omega) (by decide) h v3 (show 64 + 5 * i = _ by omega) (fun t h => ?_)
    refine k_g (by omega) (by decide) h v4 (show 65 + 5 * i = _ by omega) (fun t h => ?_)
    refine k_g (by omega) (by decide) h v5 (show 66 + 5 * i = _ by omega) (fun t h => ?_)
    rw [nI_1]
    exact hq (k - 1) _ _ (by omega) ⟨i + 1, by omega, rfl, by rw [show 62 + 5 * (i + 1) = 62 + 5 * i + 1 + 1 + 1 + 1 + 1 by omega]; exact h⟩
  have g : 10 ≤ i := (nI_leI (a := 10) (b := i) (by decide) (by omega)).mp g
  obtain rfl : i = 10 := by omega
  clear hq g hi
  refine w1_lp (fun k u t' => ∃ i, i + k = 9 ∧ u = nI i ∧ KM v s (112 + 2 * i) t') ?_ FU 9 _ _ (FU_lt (by omega)) ⟨0, by omega, rfl, h⟩
  rintro q k u t ⟨i, hi, rfl, h⟩ hq
  refine w1_if (fun g => ?_) (fun g => ?_)
  rotate_left
  · have g : ¬ 9 ≤ i := fun z => g (nI_le (a := 9) z (by omega))
    obtain ⟨v1, v2⟩ := vc_9 i (by omega)
    refine k_g (by omega) (by decide) h v1 rfl (fun t h => ?_)
    refine k_g (by omega) (by decide) h v2 (show 113 + 2 * i = _ by omega) (fun t h => ?_)
    rw [nI_1]
    exact hq (k - 1) _ _ (by omega) ⟨i + 1, by omega, rfl, by rw [show 112 + 2 * (i + 1) = 112 + 2 * i + 1 + 1 by omega]; exact h⟩
  have g : 9 ≤ i := (nI_leI (a := 9) (b := i) (by decide) (by omega)).mp g
  obtain rfl : i = 9 := by omega
  clear hq g hi
  refine k_lp (N := 200) (base := 130) rfl (by decide) (by decide) (fun k hk => ⟨vc_130 k hk, rfl⟩) h (fun t h => ?_)
  refine k_lp (N := 8) (base := 330) rfl (by decide) (by decide) (fun k hk => ⟨vc_131 k hk, rfl⟩) h (fun t h => ?_)
  refine k_lp (N := 40) (base := 338) rfl (by decide) (by decide) (fun k hk => ⟨vc_132 k hk, rfl⟩) h (fun t h => ?_)
  refine w1_lp (fun k u t' => ∃ i, i + k = 6 ∧ u = nI i ∧ KM v s (378 + 2 * i) t') ?_ FU 6 _ _ (FU_lt (by omega)) ⟨0, by omega, rfl, h⟩
  rintro q k u t ⟨i, hi, rfl, h⟩ hq
  refine w1_if (fun g => ?_) (fun g => ?_)
  rotate_left
  · have g : ¬ 6 ≤ i := fun z => g (nI_le (a := 6) z (by omega))
    obtain ⟨v1, v2⟩ := vc_6 i (by omega)
    refine k_g (by omega) (by decide) h v1 rfl (fun t h => ?_)
    refine k_g (by omega) (by decide) h v2 (show 379 + 2 * i = _ by omega) (fun t h => ?_)
    rw [nI_1]
    exact hq (k - 1) _ _ (by omega) ⟨i + 1, by omega, rfl, by rw [show 378 + 2 * (i + 1) = 378 + 2 * i + 1 + 1 by omega]; exact h⟩
  have g : 6 ≤ i := (nI_leI (a := 6) (b := i) (by decide) (by omega)).mp g
  obtain rfl : i = 6 := by omega
  clear hq g hi
  refine k_lp (N := 12) (base := 390) rfl (by decide) (by decide) (fun k hk => ⟨vc_138 k hk, rfl⟩) h (fun t h => ?_)
  refine k_lp (N := 4) (base := 402) rfl (by decide) (by decide) (fun k hk => ⟨vc_139 k hk, rfl⟩) h (fun t h => ?_)
  refine k_lp (N := 20) (base := 406) rfl (by decide) (by decide) (fun k hk => ⟨vc_122 k hk, rfl⟩) h (fun t h => ?_)
  refine k_lp (N := 64) (base := 426) rfl (by decide) (by decide) (fun k hk => ⟨vc_120 k hk, rfl⟩) h (fun t h => ?_)
  refine k_lp (N := 32) (base := 490) rfl (by decide) (by decide) (fun k hk => ⟨vc_121 k hk, rfl⟩) h (fun t h => ?_)
  exact w1_s h
