/-! of -/
theorem sc2_of {a b : Sg} (hI : Inv a b) : ∃ n, Sc2 a b 1 n ∧ a 1 1 = nI n := by
  have h0 : gSc (a 1) (a 2) (b 102 6) (b 103) (b 106) (b 107) (b 108) := hI 0
  have h0' := h0
  obtain ⟨n, hn, k1, k2, _⟩ := h0'
  rw [k1] at h0
  obtain ⟨⟨t0, t1⟩, _⟩ : gKc a := hI 18
  exact ⟨n, ⟨Or.inl rfl, hn, k1, h0, hI 4, t0, t1⟩, k2⟩
def tlQ (a b : Sg) (M : Nat) (x y : Int32 × Sg) : Prop := (∃ k, k ≤ M ∧ x.1 = nI k ∧ y.1 = nI k) ∧ (∀ q, q ≠ 24 → x.2 q = a q) ∧ ∀ q, q ≠ 123 → q ≠ 124 → y.2 q = b q
theorem sc_pe {a b : Sg} {o n p : Nat} (h : Sc2 a b o n) (hp : p < n) : gPe (a (hz_rf o 0)) (b 103) (b 106 p) (b 107 p) (b 108 p) p := by
  obtain ⟨_, hn, _, ⟨n', hn', k1, _, _, _, hpe⟩, _⟩ := h
  have e := nI_inj (by omega) (by omega) k1
  subst e
  exact hpe p hp
theorem t_climbs {a b : Sg} {o n p : Nat} (h : Sc2 a b o n) (hp : p < n) : W2 (fLa_tells 20 0 o (nI p) a) (fM_climbsOf (nI p) b) (tlQ a b 99) := by
  have ho24 : o ≠ 24 ∧ hz_rf o 0 ≠ 24 := by rcases h.1 with rfl | rfl <;> decide
  have hn := h.2.1
  obtain ⟨_, r1, _, _, _, _, _, _, _, ⟨x, hx, ex⟩, _⟩ := sc_pe h hp
  have T := tells (kd := 0) (w0 := 3 + x) h hp (by decide) (show 3 + x ≤ 99 by omega) (fun s hs => by
    unfold fLa_untold
    rw [if_pos (show nI 0 = 0 from rfl), e_St1 o (by omega), bi_s, hs _ ho24.2, r1, ex, show 3 + nI x = nI (3 + x) from nI_add 3 x])
  unfold fM_climbsOf
  rw [gd_n _ (show p < 10 by omega) (by decide), ix_n (by omega), ex, show 3 + nI x = nI (3 + x) from nI_add 3 x]
  exact w2_bk (w2_m T (fun x y hz => w1_s hz))
theorem t_tires {a b : Sg} {o n p : Nat} (h : Sc2 a b o n) (hp : p < n) : W2 (fLa_tells 20 1 o (nI p) a) (fM_tiresOf (nI p) b) (tlQ a b 99) := by
  have T := tells (kd := 1) (w0 := 2) h hp (by decide) (show 2 ≤ 99 by omega) (fun s hs => by
    unfold fLa_untold
    rw [if_neg (by decide), if_pos (show nI 1 = 1 from rfl)]
    rfl)
  unfold fM_tiresOf
  exact w2_bk (w2_m T (fun x y hz => w1_s hz))
theorem t_says {a b : Sg} {o n p : Nat} (h : Sc2 a b o n) (hp : p < n) : W2 (fLa_tells 20 2 o (nI p) a) (fM_saysOf (nI p) b) (tlQ a b 1000) := by
  have ho24 : o ≠ 24 ∧ hz_rf o 0 ≠ 24 := by rcases h.1 with rfl | rfl <;> decide
  have hn := h.2.1
  obtain ⟨r0, _, _, r3, _, _, _, _, ⟨x, hx, ex⟩, _, _, ⟨y, hy, ey⟩, _⟩ := sc_pe h hp
  have e99 : 99 - nI y = nI (99 - y) := pk_sub (a := 99) hy
  have e50 : 300 + 50 * nI x + nI (99 - y) = nI (300 + 50 * x + (99 - y)) := by rw [show (300 : Int32) = nI 300 from rfl, show (50 : Int32) = nI 50 from rfl, pk_mul, nI_add, nI_add]
  have T := tells (kd := 2) (w0 := 300 + 50 * x + (99 - y)) h hp (by decide) (show 300 + 50 * x + (99 - y) ≤ 1000 by omega) (fun s hs => by
    unfold fLa_untold
    rw [if_neg (by decide), if_neg (by decide), e_St0 o (by omega), bi_s, e_St3 o (by omega), bi_s, hs _ ho24.2, show p * 8 + 0 = p * 8 from rfl, r0, r3, ex, ey, e99, e50])
  unfold fM_saysOf
  rw [gd_n _ (show p < 10 by omega) (by decide), e_brM (by omega), bi_s, ix_n (by omega), ex, ey, e99, e50]
  exact w2_bk (w2_m T (fun x y hz => w1_s hz))
theorem sim_of2 (v w : Int32) : Sim (fH_of v w) (fM_of v w) := by
  refine sim_r (fun _ => rfl) (fr_H_of v w) (fr_M_of v w) (by decide) (by decide) (fun a b hI => ?_)
  obtain ⟨n, h, k2⟩ := sc2_of hI
  have hn := h.2.1
  have k1 := h.2.2.1
  unfold fH_of
  simp only [e_has, e_isPerson, e_within, bi_x, k1, k2]
  by_cases c1 : hsI v (nI n) = 0
  · rw [if_pos c1, if_pos c1]
    exact w2_s rfl
  rw [if_neg c1, if_neg c1]
  obtain ⟨p, hp, rfl⟩ := hs_1 (by omega) c1
  by_cases c2 : wi w 0 10 = 0
  · have ne : ∀ k : Nat, k ≤ 10 → ¬ w = nI k := fun k hk e => by
      rw [e, show wi (nI k) 0 10 = 1 from w_in (a := 0) (b := 10) (by omega) hk (by decide)] at c2
      exact absurd c2 (by decide)
    rw [if_pos c2, if_neg (show ¬ w = 0 from ne 0 (by omega)), if_neg (show ¬ w = 1 from ne 1 (by omega)), if_neg (show ¬ w = 2 from ne 2 (by omega)), if_neg (show ¬ w = 3 from ne 3 (by omega)), if_neg (show ¬ w = 4 from ne 4 (by omega)), if_neg (show ¬ w = 5 from ne 5 (by omega)), if_neg (show ¬ w = 6 from ne 6 (by omega)), if_neg (show ¬ w = 7 from ne 7 (by omega)), if_neg (show ¬ w = 8 from ne 8 (by omega)), if_neg (show ¬ w = 9 from ne 9 (by omega)), if_neg (show ¬ w = 10 from ne 10 (by omega))]
    exact w2_s rfl
  rw [if_neg c2]
  obtain ⟨j, _, hj, rfl⟩ := wi_1 (a := 0) (b := 10) (by decide) (by decide) c2
  obtain ⟨r0, r1, r2, r3, r4, r5, r6, r7, c0, c1', c2', c3, c4, ⟨g, hg, eg⟩⟩ := sc_pe h hp
  rw [hz1] at r0 r1 r2 r3 r4 r5 r6 r7
  have z : j = 0 ∨ j = 1 ∨ j = 2 ∨ j = 3 ∨ j = 4 ∨ j = 5 ∨ j = 6 ∨ j = 7 ∨ j = 8 ∨ j = 9 ∨ j = 10 := by omega
  have hp10 : p < 10 := by omega
  rcases z with rfl | rfl | rfl | rfl | rfl | rfl | rfl | rfl | rfl | rfl | rfl
  · rw [if_neg (by decide), if_pos (by decide), show fSc_tell 1 (nI p) (nI 0) a = _ from e_Stell 1 hp10 (show 0 < 8 by decide) a, bi_s, hz1, gd_n _ hp10 (by decide), ix_n (by omega)]
    exact w2_s r0
  · rw [if_neg (by decide), if_neg (by decide), if_pos (by decide), show fSc_tell 1 (nI p) (nI 1) a = _ from e_Stell 1 hp10 (show 1 < 8 by decide) a, bi_s, hz1, gd_n _ hp10 (by decide), ix_n (by omega)]
    exact w2_s r1
  · rw [if_neg (by decide), if_neg (by decide), if_neg (by decide), if_pos (by decide), show fSc_tell 1 (nI p) (nI 2) a = _ from e_Stell 1 hp10 (show 2 < 8 by decide) a, bi_s, hz1, gd_n _ hp10 (by decide), ix_n (by omega)]
    exact w2_s r2
  · rw [if_neg (by decide), if_neg (by decide), if_neg (by decide), if_neg (by decide), if_pos (by decide), show fSc_tell 1 (nI p) (nI 3) a = _ from e_Stell 1 hp10 (show 3 < 8 by decide) a, bi_s, hz1, e_brM hp10, bi_s]
    exact w2_s r3
  · rw [if_neg (by decide), if_neg (by decide), if_neg (by decide), if_neg (by decide), if_neg (by decide), if_pos (by decide), show fSc_tell 1 (nI p) (nI 4) a = _ from e_Stell 1 hp10 (show 4 < 8 by decide) a, bi_s, hz1, n20, gd50 _ (by omega), ix_n (by omega)]
    exact w2_s r4
  · rw [if_neg (by decide), if_neg (by decide), if_neg (by decide), if_neg (by decide), if_neg (by decide), if_neg (by decide), if_pos (by decide), show fSc_tell 1 (nI p) (nI 5) a = _ from e_Stell 1 hp10 (show 5 < 8 by decide) a, bi_s, hz1]
    unfold fM_isGoing
    rw [n30, gd50 _ (by omega), ix_n (by omega), r5, eg]
    by_cases e : g = 0
    · subst e
      rw [if_pos (by decide), if_pos (by decide)]
      exact w2_s rfl
    · rw [if_neg (show ¬ nI g = 0 from nI_ne 0 e (by omega) (by decide)), if_neg (nI_nle (by omega) (by omega))]
      exact w2_s rfl
  · rw [if_neg (by decide), if_neg (by decide), if_neg (by decide), if_neg (by decide), if_neg (by decide), if_neg (by decide), if_neg (by decide), if_pos (by decide), show fSc_tell 1 (nI p) (nI 6) a = _ from e_Stell 1 hp10 (show 6 < 8 by decide) a, bi_s, hz1, n30, gd50 _ (by omega), ix_n (by omega)]
    exact w2_s r6
  · rw [if_neg (by decide), if_neg (by decide), if_neg (by decide), if_neg (by decide), if_neg (by decide), if_neg (by decide), if_neg (by decide), if_neg (by decide), if_pos (by decide), show fSc_tell 1 (nI p) (nI 7) a = _ from e_Stell 1 hp10 (show 7 < 8 by decide) a, bi_s, hz1, n40, gd50 _ (by omega), ix_n (by omega)]
    exact w2_s r7
  · rw [if_pos (by decide), if_neg (by decide), if_neg (by decide), if_neg (by decide), if_neg (by decide), if_neg (by decide), if_neg (by decide), if_neg (by decide), if_neg (by decide), if_pos (by decide), show nI 8 - 8 = 0 from rfl]
    exact w2_bi (w2_m (t_climbs h hp) (fun x y ⟨⟨k, _, e1, e2⟩, _⟩ => w2_s (by rw [e1, e2])))
  · rw [if_pos (by decide), if_neg (by decide), if_neg (by decide), if_neg (by decide), if_neg (by decide), if_neg (by decide), if_neg (by decide), if_neg (by decide), if_neg (by decide), if_neg (by decide), if_pos (by decide), show nI 9 - 8 = 1 from rfl]
    exact w2_bi (w2_m (t_tires h hp) (fun x y ⟨⟨k, _, e1, e2⟩, _⟩ => w2_s (by rw [e1, e2])))
  · rw [if_pos (by decide), if_neg (by decide), if_neg (by decide), if_neg (by decide), if_neg (by decide), if_neg (by decide), if_neg (by decide), if_neg (by decide), if_neg (by decide), if_neg (by decide), if_neg (by decide), if_pos (by decide), show nI 10 - 8 = 2 from rfl]
    exact w2_bi (w2_m (t_says h hp) (fun x y ⟨⟨k, _, e1, e2⟩, _⟩ => w2_s (by rw [e1, e2])))
