/-! goes -/
def aBr (m : Nat → Int32) (i k : Nat) (c : Int32) : Int32 := fld (fun p (x : Int32) => x + (99 - m (10 + p))) i k c
theorem e_aBr {o n : Nat} {s : Sg} {m vo le pa : Nat → Int32} (hn : n ≤ 10) (h1 : s o 1 = nI n) (hp : ∀ p, p < n → gPe (s (hz_rf o 0)) m (vo p) (le p) (pa p) p) : fSc_allBreath o s = some (aBr m 0 n 0, s) := by
  unfold fSc_allBreath
  refine w1_e (w1_lp (fun k u t => t = s ∧ ∃ (i : Nat) (c : Int32), i + k = n ∧ u = (c, nI i) ∧ aBr m i k c = aBr m 0 n 0) ?_ FU n _ _ (FU_lt (by omega)) ⟨rfl, 0, 0, by omega, rfl, rfl⟩)
  rintro q k u t ⟨rfl, i, c, hi, rfl, hR⟩ hq
  dsimp only
  rw [h1]
  refine w1_if (fun g => ?_) (fun g => ?_)
  · rw [nI_leI (by omega) (by omega)] at g
    obtain rfl : k = 0 := by omega
    rw [← hR]
    exact w1_s rfl
  · rw [nI_leI (by omega) (by omega)] at g
    obtain ⟨k, rfl⟩ : ∃ y, k = y + 1 := ⟨k - 1, by omega⟩
    rw [e_St3 o (show i < 10 by omega), bi_s, (hp i (by omega)).2.2.2.1, nI_1]
    exact hq k _ _ (by omega) ⟨rfl, i + 1, _, by omega, rfl, hR⟩
theorem w2_rr {R S : Type} {x : R} {g : Option S} {Z : R → S → Prop} (h : W1 g (fun y => Z x y)) : W2 (some x) g Z := by
  obtain ⟨y, e, hz⟩ := h
  exact ⟨x, y, rfl, e, hz⟩
theorem sim_goes (v w : Int32) : Sim (fH_goes v w) (fM_goes v w) := by
  refine sim_i (fun _ => rfl) (fun a b hI => ?_)
  obtain ⟨n, a1, b1, x1, y1, hB, hP, hR, k1, k2, aq, y3, y4, y5⟩ := th_beg hI
  have hn := hB.2.1
  unfold fH_goes
  simp only [e_within, e_isIn, bi_x]
  by_cases c0 : wi v 1 60 = 0
  · rw [if_pos c0, if_pos c0]
    exact w2_s ⟨rfl, hI⟩
  by_cases c1 : wi w 0 3 = 0
  · rw [if_neg c0, if_neg c0, if_pos c1, if_pos c1]
    exact w2_s ⟨rfl, hI⟩
  rw [if_neg c0, if_neg c0, if_neg c1, if_neg c1, x1, bv_s, y1, bv_s]
  obtain ⟨m, _, hm, rfl⟩ := wi_1 (a := 1) (b := 60) (by decide) (by decide) c0
  obtain ⟨w, _, hw, rfl⟩ := wi_1 (a := 0) (b := 3) (by decide) (by decide) c1
  refine w2_lp (fun k u s u' t => PI a1 b1 3 n s t ∧ ∃ i, i + k = m ∧ u = nI i ∧ u' = nI i) ?_ FU FU m _ _ _ _ (FU_lt (by omega)) (FU_lt (by omega)) ⟨hP, 0, by omega, rfl, rfl⟩
  rintro q q' k u s u' t ⟨hQ, i, hi, rfl, rfl⟩ hq
  refine w2_if Iff.rfl (fun c2 => ?_) (fun c2 => ?_)
  · obtain ⟨e1, ⟨⟨f2, f4, f5, f6, f7, f8, f9, f10, f11, f12⟩, hb⟩⟩ := pi_sf hB hQ
    have hpe := fun p (hp : p < n) => pi_pe hB hQ hp
    have t6 : t 102 6 = nI n := by rw [hQ.2.2.1 102 (by decide) (by decide) (by decide) (by decide)]; exact hB.2.2.1
    rw [e_many hn e1 hpe, e_aBr hn e1 hpe, bi_s, bi_s, f2, f4]
    have fin : ∀ r : Int32, W1 (bv (fM_endsThought t) fun s9 => some (r, s9)) (fun y => r = y.1 ∧ Inv s y.2) := fun r => w1_bv (w1_m (th_end hI aq y3 y4 y5 hQ) (fun b3 h3 => w1_s ⟨rfl, h3⟩))
    have eL : ∀ p q r u : Int32, (if nI w = 0 then some (p, s) else if nI w = 1 then some (q, s) else if nI w = 2 then some (r, s) else some (u, s)) = some ((if nI w = 0 then p else if nI w = 1 then q else if nI w = 2 then r else u), s) := fun p q r u => by
      repeat' split
      all_goals rfl
    rw [eL]
    refine w2_rr (w1_lp (fun k u t' => t' = t ∧ ∃ (i c : Nat) (d : Int32), i + k = n ∧ u = (nI c, d, nI i) ∧ c + sm (fun q => if t 103 (20 + q) = 99 then 1 else 0) i k = cUp (t 103) n ∧ aBr (t 103) i k d = aBr (t 103) 0 n 0) ?_ FU n _ _ (FU_lt (by omega)) ⟨rfl, 0, 0, 0, by omega, rfl, by rw [Nat.zero_add]; rfl, rfl⟩)
    rintro q k u t' ⟨rfl, i, c, d, hi, rfl, h1, h2⟩ hq
    simp only [bnd_x, t6]
    refine w1_if (fun g => ?_) (fun g => ?_)
    · rw [nI_leI (by omega) (by omega)] at g
      obtain rfl : k = 0 := by omega
      rw [sm, Nat.add_zero] at h1
      rw [← h1, ← h2, gc5, gc6, ic5, ic6]
      repeat' split
      all_goals exact fin _
    · rw [nI_leI (by omega) (by omega)] at g
      obtain ⟨k, rfl⟩ : ∃ y, k = y + 1 := ⟨k - 1, by omega⟩
      have hi10 : i < 10 := by omega
      rw [sm] at h1
      rw [e_isUpM hi10, bi_s, show fM_breathOf (nI i) t' = some (99 - t' 103 (10 + i), t') from by unfold fM_breathOf; rw [n10, gd50 _ (by omega), ix_n (by omega)], bi_s, nI_1, nI_1]
      by_cases c5 : t' 103 (20 + i) = 99
      · rw [if_pos c5] at h1
        rw [if_pos c5, if_neg n10z]
        exact hq k _ _ (by omega) ⟨rfl, i + 1, c + 1, _, by omega, rfl, by omega, h2⟩
      · rw [if_neg c5] at h1
        rw [if_neg c5, if_pos rfl]
        exact hq k _ _ (by omega) ⟨rfl, i + 1, c, _, by omega, rfl, by omega, h2⟩
  · rw [nI_leI (by omega) (by omega)] at c2
    refine w2_bi (w2_m (pi_pass hB hR hQ) (fun x y ⟨ex, hx⟩ => ?_))
    rw [nI_1]
    exact hq (k - 1) _ _ _ _ (by omega) ⟨hx, i + 1, by omega, rfl, rfl⟩
