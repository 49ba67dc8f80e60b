/-! guard -/
theorem watches {a b : Sg} {n : Nat} {f t : Nat → Nat} (hn : n ≤ 9) (e1 : a 51 3 = nI n) (e2 : b 102 46 = nI n) (t0 : a 51 0 = nI 2) (t1 : a 51 1 = nI 9) (hf : ∀ i, i < 9 → a 52 (i * 2) = nI (f i) ∧ a 52 (i * 2 + 1) = nI (t i) ∧ f i ≤ t i ∧ t i ≤ 59) (hg : ∀ i, i < 9 → b 128 i = nI (f i) ∧ b 129 i = nI (t i) ∧ f i ≤ t i ∧ t i ≤ 59) {x : Nat} (hx : x ≤ 59) : W2 (fMu_fewestWatches (nI x) a) (fM_fewestWatches (nI x) b) (RQ a b) := by
  unfold fMu_fewestWatches fM_fewestWatches
  simp only [bnd_e]
  refine w2_lp (fun k v s w u => s = a ∧ u = b ∧ ∃ m c, v = (nI m, nI c) ∧ w = (nI m, nI c) ∧ m ≤ 60 ∧ 60 - m = k ∧ c ≤ sm (fun i => if t i < m then 1 else 0) 0 n) ?_ FU FU (60 - x) _ _ _ _ (FU_lt (by omega)) (FU_lt (by omega)) ⟨rfl, rfl, x, 0, rfl, rfl, by omega, rfl, by omega⟩
  rintro p q k v s w u ⟨rfl, rfl, m, c, rfl, rfl, hm, hk, hc⟩ hp
  dsimp only
  have hc9 : c ≤ n := by
    have := sm_le (f := fun i => if t i < m then 1 else 0) (g := fun _ => 1) n 0 (fun i _ _ => by split <;> omega)
    rw [sm_cst] at this
    omega
  have i1 : (59 : Int32) < nI m ↔ 59 < m := nI_ltI (a := 59) (b := m) (by decide) (by omega)
  have i2 : (60 : Int32) ≤ nI m ↔ 60 ≤ m := nI_leI (a := 60) (b := m) (by decide) (by omega)
  have i3 : nI m ≤ (59 : Int32) ↔ m ≤ 59 := nI_leI (a := m) (b := 59) (by omega) (by decide)
  have i4 : (9 : Int32) ≤ nI c ↔ 9 ≤ c := nI_leI (a := 9) (b := c) (by decide) (by omega)
  by_cases h1 : 59 < m
  · rw [if_pos (i1.mpr h1), if_neg (fun q => by have := i3.mp q; omega), if_pos (i2.mpr (by omega))]
    exact w2_s ⟨rfl, rfl, rfl⟩
  rw [if_neg (fun q => h1 (i1.mp q)), if_neg (show ¬ (60 : Int32) ≤ nI m from fun q => by have := i2.mp q; omega), if_pos (i3.mpr (by omega))]
  have hgl : gW f t m n 0 0 ≤ 60 := gW_lt f t m (fun j hj => (hf j (by omega)).2.2.2)
  have hh := gh_W f t m n 0 0 0 (by simp)
  rw [e_far hn e1 t0 t1 hf (by omega), bi_s, show nI c + 1 = nI (c + 1) from nI_1 c]
  have fin : ∀ (Q : (Int32 × Sg) → Prop), W1 (if nI (hW f t m n 0 0) - 1 = -1 then some (-1, u) else q (nI (hW f t m n 0 0) - 1 + 1, nI (c + 1)) u) Q → W1 (lp FU (fun q16 (u16 : Int32 × Int32) (s2 : Sg) => if (s2 102 46) ≤ u16.2 then (if u16.1 = (-1) then (some ((-1), s2)) else (q ((u16.1 + 1), nI (c + 1)) s2)) else (gd u16.2 9 (gd u16.2 9 (bi (fM_isIn (nI m) (s2 128 (ix u16.2)) (s2 129 (ix u16.2)) s2) fun r4 s3 => if r4 = 0 then (q16 (u16.1, (u16.2 + 1)) s3) else (gd u16.2 9 (bi (fM_greater u16.1 (s3 129 (ix u16.2)) s3) fun r7 s6 => q16 (r7, (u16.2 + 1)) s6)))))) ((-1), 0) u) Q := by
    intro Q hQ
    refine wat_in hn e2 hg (show m < 100 by omega) (K := fun v s2 => if v = (-1) then (some ((-1), s2)) else (q ((v + 1), nI (c + 1)) s2)) ?_
    exact hQ
  by_cases h2 : m < gW f t m n 0 0
  · rw [if_pos h2] at hh
    obtain ⟨g, eg⟩ : ∃ g, gW f t m n 0 0 = g + 1 := ⟨gW f t m n 0 0 - 1, by omega⟩
    have hj : ∃ j, 0 ≤ j ∧ j < 0 + n ∧ gW f t m n 0 0 = t j + 1 := by
      rcases gW_mem f t m n 0 0 with h | h
      · omega
      · exact h
    obtain ⟨j, _, hj2, hj3⟩ := hj
    have hcn : c + 1 ≤ sm (fun i => if t i < g + 1 then 1 else 0) 0 n := by
      refine Nat.lt_of_le_of_lt hc (sm_lt (j := j) n 0 (fun i _ _ => ?_) (by omega) hj2 ?_)
      · skip
        split
        · rw [if_pos (by omega)]; exact Nat.le_refl _
        · exact Nat.zero_le _
      · skip
        rw [if_neg (by omega), if_pos (by omega)]
        omega
    have hc8 : ¬ 9 ≤ c := by
      have := sm_le (f := fun i => if t i < g + 1 then 1 else 0) (g := fun _ => 1) n 0 (fun i _ _ => by split <;> omega)
      rw [sm_cst] at this
      omega
    rw [if_neg (fun q => hc8 (i4.mp q)), eg, nI_pred, if_pos (show nI m ≤ nI g from nI_le (by omega) (by omega)), show nI g + 1 = nI (g + 1) from nI_1 g]
    obtain ⟨x1, y1, f1, f2, f3⟩ := hp (60 - (g + 1)) (nI (g + 1), nI (c + 1)) s (nI (g + 1), nI (c + 1)) u (by omega) ⟨rfl, rfl, g + 1, c + 1, rfl, rfl, by omega, rfl, hcn⟩
    obtain ⟨y2, g1, g2⟩ := fin (RQ s u x1) (by
      rw [hh, eg, nI_pred, if_neg (nI_m1 (by omega)), nI_1]
      exact ⟨y1, f2, f3⟩)
    exact ⟨x1, y2, f1, g1, g2⟩
  · rw [if_neg h2] at hh
    have hcls : W1 (if (9 : Int32) ≤ nI c then some ((-1 : Int32), s) else if nI m ≤ nI (gW f t m n 0 0) - 1 then p (nI (gW f t m n 0 0) - 1 + 1, nI (c + 1)) s else some (-1, s)) (fun z => z = (-1, s)) := by
      refine w1_if (fun _ => w1_s rfl) (fun _ => ?_)
      rw [if_neg]
      · exact w1_s rfl
      · cases hgv : gW f t m n 0 0 with
        | zero => exact nle_m1 (by omega)
        | succ g => rw [nI_pred]; exact nI_ge (by omega) (by omega)
    rw [w1_e hcls]
    obtain ⟨y2, g1, g2⟩ := fin (RQ s u (-1, s)) (by
      rw [hh, if_pos (by decide)]
      exact w1_s ⟨rfl, rfl, rfl⟩)
    exact ⟨_, y2, rfl, g1, g2⟩
theorem sim_guard (v w : Int32) : Sim (fH_guard v w) (fM_guard v w) := by
  refine sim_r (fun _ => rfl) (fr_H_guard v w) (fr_M_guard v w) (by decide) (by decide) (fun a b hI => ?_)
  obtain ⟨⟨n, hn, e1, e2⟩, hc⟩ : gWa (a 51) (a 52) (b 102 46) (b 128) (b 129) := hI 6
  obtain ⟨_, _, _, _, _, _, _, ⟨t0, t1⟩, _⟩ : gKc a := hI 18
  obtain ⟨f, t, hf, hg⟩ : ∃ f t : Nat → Nat, (∀ i, i < 9 → a 52 (i * 2) = nI (f i) ∧ a 52 (i * 2 + 1) = nI (t i) ∧ f i ≤ t i ∧ t i ≤ 59) ∧ (∀ i, i < 9 → b 128 i = nI (f i) ∧ b 129 i = nI (t i) ∧ f i ≤ t i ∧ t i ≤ 59) := by
    refine ⟨fun i => ix (b 128 i), fun i => ix (b 129 i), fun i hi => ?_, fun i hi => ?_⟩
    · obtain ⟨h1, h2, x, y, hx, hy, ex, ey⟩ := hc i hi
      dsimp only
      rw [h1, h2, ex, ey, ix_n (by omega), ix_n (by omega)]
      exact ⟨rfl, rfl, hx, hy⟩
    · obtain ⟨h1, h2, x, y, hx, hy, ex, ey⟩ := hc i hi
      dsimp only
      rw [ex, ey, ix_n (by omega), ix_n (by omega)]
      exact ⟨rfl, rfl, hx, hy⟩
  unfold fH_guard
  simp only [e_within, e_isIn, bi_s, bnd_e]
  by_cases h1 : wi v 0 59 = 0
  · simp only [if_pos h1]
    exact w2_s rfl
  by_cases h2 : wi w (-1) 9 = 0
  · simp only [if_neg h1, if_pos h2]
    exact w2_s rfl
  simp only [if_neg h1, if_neg h2]
  obtain ⟨x, _, hx, rfl⟩ := wi_1 (a := 0) (b := 59) (by decide) (by decide) h1
  refine w2_rq (watches hn e1 e2 t0 t1 hf hg hx) (fun r _ _ => ?_)
  refine w2_if Iff.rfl (fun _ => w2_s rfl) (fun _ => ?_)
  refine w2_if Iff.rfl (fun _ => w2_s rfl) (fun _ => ?_)
  exact w2_if Iff.rfl (fun _ => w2_s rfl) (fun _ => w2_s rfl)
