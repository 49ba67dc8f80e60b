theorem add2 {L : Nat} {P : Int32 → Int32 → Prop} {s τ : Sg} {t c n : Nat} {x y : Int32} {q r : Nat → Int32} (hc : hz_rf t 2 = c) (h : ∀ i, i < L → s c (i * 2) = q i ∧ s c (i * 2 + 1) = r i ∧ P (q i) (r i)) (hv : ∀ j, j < 2 → τ (hz_rf t 2) (n * 2 + j) = [x, y, 0, 0, 0].getD j 0) (hf : ∀ o k, (o = t → k ≠ 3) → (o = hz_rf t 2 → k < n * 2 ∨ n * 2 + 2 ≤ k) → τ o k = s o k) (hct : c ≠ t) (hP : P x y) : ∀ i, i < L → τ c (i * 2) = upd q n x i ∧ τ c (i * 2 + 1) = upd r n y i ∧ P (upd q n x i) (upd r n y i) := by
  subst hc
  intro i hi
  by_cases e : i = n
  · subst e
    rw [pk_us, pk_us]
    exact ⟨hv 0 (by decide), hv 1 (by decide), hP⟩
  · rw [pk_un e, pk_un e, hf _ _ (fun h => absurd h hct) (fun _ => by omega), hf _ _ (fun h => absurd h hct) (fun _ => by omega)]
    exact h i hi
theorem add1 {L : Nat} {P : Int32 → Prop} {s τ : Sg} {t c n : Nat} {x : Int32} {q : Nat → Int32} (hc : hz_rf t 2 = c) (h : ∀ i, i < L → s c i = q i ∧ P (q i)) (hv : ∀ j, j < 1 → τ (hz_rf t 2) (n * 1 + j) = [x, 0, 0, 0, 0].getD j 0) (hf : ∀ o k, (o = t → k ≠ 3) → (o = hz_rf t 2 → k < n * 1 ∨ n * 1 + 1 ≤ k) → τ o k = s o k) (hct : c ≠ t) (hP : P x) : ∀ i, i < L → τ c i = upd q n x i ∧ P (upd q n x i) := by
  subst hc
  intro i hi
  by_cases e : i = n
  · subst e
    rw [pk_us]
    have := hv 0 (by decide)
    rw [Nat.mul_one] at this
    exact ⟨this, hP⟩
  · rw [pk_un e, hf _ _ (fun h => absurd h hct) (fun _ => by omega)]
    exact h i hi
theorem nI_ne {k : Nat} (n : Nat) (h : k ≠ n) (hk : k < 2 ^ 31) (hn : n < 2 ^ 31) : ¬ nI k = nI n := fun e => h (nI_inj hk hn e)

theorem sim_price (v : Int32) : Sim (fH_price v) (fM_price v) := by
  refine sim_on [11] (fun _ => rfl) (fr_H_price v) (fr_M_price v) (by decide) (by decide) (fun a b hI => ?_)
  obtain ⟨⟨n, hn, e1, e2⟩, hc⟩ : gSh (a 59) (a 60) (b 102 62) (b 138) := hI 11
  obtain ⟨_, _, _, _, _, _, _, _, _, _, _, ⟨t0, t1⟩, _⟩ : gKc a := hI 18
  unfold fH_price
  simp only [e_isIn, e_within, e_empty, bi_s, bnd_e]
  by_cases h1 : v = -1
  · simp only [if_pos h1]
    refine ⟨_, _, _, rfl, rfl, al1 ⟨⟨0, by omega, pt_s _ _ _ _, pt_s _ _ _ _⟩, ?_⟩⟩
    simpa [pt] using hc
  simp only [if_neg h1]
  by_cases h2 : wi v 0 999 = 0
  · simp only [if_pos h2]
    exact ⟨_, a, b, rfl, rfl, al1 (hI 11)⟩
  simp only [if_neg h2]
  obtain ⟨x, _, hx, rfl⟩ := wi_1 (a := 0) (b := 999) (by decide) (by decide) h2
  by_cases h3 : n = 12
  · subst h3
    rw [e_addN t1 e1 (by decide) (by decide) (by decide), bi_s, if_pos (show b 102 62 = 12 from e2)]
    exact ⟨_, a, b, rfl, rfl, al1 (hI 11)⟩
  · obtain ⟨τ, x1, x2, x3, x4⟩ := e_add (a := nI x) (b := 0) (c := 0) (d := 0) (e := 0) t0 t1 e1 (by decide) (by decide) (show n < 12 by omega) (by decide) (by decide) (by decide)
    rw [x1, bi_s, e2, if_neg (show ¬ nI n = 12 from nI_ne 12 h3 (by omega) (by decide)), gd_n _ (show n < 12 by omega) (by decide), ix_n (by omega)]
    refine ⟨_, τ, pt (pt b 138 n (nI x)) 102 62 (nI (n + 1)), rfl, ?_, al1 ⟨⟨n + 1, by omega, x2, pt_s _ _ _ _⟩, ?_⟩⟩
    · rw [show (pt b 138 n (nI x)) 102 62 = nI n from e2, nI_1, pt_s]
    · rw [ptq _ _ _ (show (138 : Nat) ≠ 102 by decide), ptu]
      exact add1 (L := 12) (P := fun y => bd y 999) rfl hc x3 x4 (by decide) ⟨x, hx, rfl⟩
theorem sim_answer (v w : Int32) : Sim (fH_answer v w) (fM_answer v w) := by
  refine sim_on [5] (fun _ => rfl) (fr_H_answer v w) (fr_M_answer v w) (by decide) (by decide) (fun a b hI => ?_)
  obtain ⟨⟨n, hn, e1, e2⟩, hc⟩ : gAn (a 49) (a 50) (b 102 43) (b 126) (b 127) := hI 5
  obtain ⟨_, _, _, _, _, _, ⟨t0, t1⟩, _⟩ : gKc a := hI 18
  unfold fH_answer
  simp only [e_isIn, e_isQuestion, e_empty, bi_s, bnd_e]
  by_cases h1 : v = -1
  · simp only [if_pos h1]
    refine ⟨_, _, _, rfl, rfl, al1 ⟨⟨0, by omega, pt_s _ _ _ _, pt_s _ _ _ _⟩, ?_⟩⟩
    simpa [pt] using hc
  simp only [if_neg h1]
  by_cases h2 : wi v 0 9 = 0
  · simp only [if_pos h2]
    exact ⟨_, a, b, rfl, rfl, al1 (hI 5)⟩
  simp only [if_neg h2]
  obtain ⟨x, _, hx, rfl⟩ := wi_1 (a := 0) (b := 9) (by decide) (by decide) h2
  by_cases h3 : n = 10
  · subst h3
    rw [e_addN t1 e1 (by decide) (by decide) (by decide), e_addN t1 e1 (by decide) (by decide) (by decide), bi_s, if_pos (show b 102 43 = 10 from e2), ite_self]
    exact ⟨_, a, b, rfl, rfl, al1 (hI 5)⟩
  by_cases hw : w = 0
  · simp only [if_pos hw]
    obtain ⟨τ, x1, x2, x3, x4⟩ := e_add (a := nI x) (b := 0) (c := 0) (d := 0) (e := 0) t0 t1 e1 (by decide) (by decide) (show n < 10 by omega) (by decide) (by decide) (by decide)
    rw [x1, bi_s, e2, if_neg (show ¬ nI n = 10 from nI_ne 10 h3 (by omega) (by decide)), gd_n _ (show n < 10 by omega) (by decide), ix_n (by omega)]
    refine ⟨_, τ, pt (pt (pt b 126 n (nI x)) 127 n 0) 102 43 (nI (n + 1)), rfl, ?_, al1 ⟨⟨n + 1, by omega, x2, pt_s _ _ _ _⟩, ?_⟩⟩
    · rw [show (pt b 126 n (nI x)) 102 43 = nI n from e2, gd_n _ (show n < 10 by omega) (by decide), ix_n (by omega), show (pt (pt b 126 n (nI x)) 127 n 0) 102 43 = nI n from e2, nI_1, pt_s]
    · rw [ptq _ _ _ (show (126 : Nat) ≠ 102 by decide), ptq _ _ _ (show (126 : Nat) ≠ 127 by decide), ptu, ptq _ _ _ (show (127 : Nat) ≠ 102 by decide), ptu, ptq _ _ _ (show (127 : Nat) ≠ 126 by decide)]
      exact add2 (L := 10) (P := fun y z => bd y 9 ∧ bd z 1) rfl (fun i hi => (hc i hi)) x3 x4 (by decide) ⟨⟨x, hx, rfl⟩, ⟨0, by decide, rfl⟩⟩
  · simp only [if_neg hw]
    obtain ⟨τ, x1, x2, x3, x4⟩ := e_add (a := nI x) (b := 1) (c := 0) (d := 0) (e := 0) t0 t1 e1 (by decide) (by decide) (show n < 10 by omega) (by decide) (by decide) (by decide)
    rw [x1, bi_s, e2, if_neg (show ¬ nI n = 10 from nI_ne 10 h3 (by omega) (by decide)), gd_n _ (show n < 10 by omega) (by decide), ix_n (by omega)]
    refine ⟨_, τ, pt (pt (pt b 126 n (nI x)) 127 n 1) 102 43 (nI (n + 1)), rfl, ?_, al1 ⟨⟨n + 1, by omega, x2, pt_s _ _ _ _⟩, ?_⟩⟩
    · rw [show (pt b 126 n (nI x)) 102 43 = nI n from e2, gd_n _ (show n < 10 by omega) (by decide), ix_n (by omega), show (pt (pt b 126 n (nI x)) 127 n 1) 102 43 = nI n from e2, nI_1, pt_s]
    · rw [ptq _ _ _ (show (126 : Nat) ≠ 102 by decide), ptq _ _ _ (show (126 : Nat) ≠ 127 by decide), ptu, ptq _ _ _ (show (127 : Nat) ≠ 102 by decide), ptu, ptq _ _ _ (show (127 : Nat) ≠ 126 by decide)]
      exact add2 (L := 10) (P := fun y z => bd y 9 ∧ bd z 1) rfl (fun i hi => (hc i hi)) x3 x4 (by decide) ⟨⟨x, hx, rfl⟩, ⟨1, by decide, rfl⟩⟩
theorem sim_speaker (v w : Int32) : Sim (fH_speaker v w) (fM_speaker v w) := by
  refine sim_on [9] (fun _ => rfl) (fr_H_speaker v w) (fr_M_speaker v w) (by decide) (by decide) (fun a b hI => ?_)
  obtain ⟨⟨n, hn, e1, e2⟩, hc⟩ : gSk (a 57) (a 58) (b 102 53) (b 133) (b 134) := hI 9
  obtain ⟨_, _, _, _, _, _, _, _, _, _, ⟨t0, t1⟩, _⟩ : gKc a := hI 18
  unfold fH_speaker
  simp only [e_isIn, e_within, e_empty, bi_s, bnd_e]
  by_cases h1 : v = -1
  · simp only [if_pos h1]
    refine ⟨_, _, _, rfl, rfl, al1 ⟨⟨0, by omega, pt_s _ _ _ _, pt_s _ _ _ _⟩, ?_⟩⟩
    simpa [pt] using hc
  simp only [if_neg h1, if_true]
  by_cases h2 : wi v 1 30 = 0
  · simp only [if_pos h2]
    exact ⟨_, a, b, rfl, rfl, al1 (hI 9)⟩
  simp only [if_neg h2]
  by_cases h4 : wi w 0 99 = 0
  · simp only [if_pos h4]
    exact ⟨_, a, b, rfl, rfl, al1 (hI 9)⟩
  simp only [if_neg h4, show ¬ ((1 : Int32) = 0) by decide, if_false]
  obtain ⟨x, _, hx, rfl⟩ := wi_1 (a := 1) (b := 30) (by decide) (by decide) h2
  obtain ⟨y, _, hy, rfl⟩ := wi_1 (a := 0) (b := 99) (by decide) (by decide) h4
  by_cases h3 : n = 6
  · subst h3
    rw [e_addN t1 e1 (by decide) (by decide) (by decide), bi_s, if_pos (show b 102 53 = 6 from e2)]
    exact ⟨_, a, b, rfl, rfl, al1 (hI 9)⟩
  · obtain ⟨τ, x1, x2, x3, x4⟩ := e_add (a := nI x) (b := nI y) (c := 0) (d := 0) (e := 0) t0 t1 e1 (by decide) (by decide) (show n < 6 by omega) (by decide) (by decide) (by decide)
    rw [x1, bi_s, e2, if_neg (show ¬ nI n = 6 from nI_ne 6 h3 (by omega) (by decide)), gd_n _ (show n < 6 by omega) (by decide), ix_n (by omega)]
    refine ⟨_, τ, pt (pt (pt b 133 n (nI x)) 134 n (nI y)) 102 53 (nI (n + 1)), rfl, ?_, al1 ⟨⟨n + 1, by omega, x2, pt_s _ _ _ _⟩, ?_⟩⟩
    · rw [show (pt b 133 n (nI x)) 102 53 = nI n from e2, gd_n _ (show n < 6 by omega) (by decide), ix_n (by omega), show (pt (pt b 133 n (nI x)) 134 n (nI y)) 102 53 = nI n from e2, nI_1, pt_s]
    · rw [ptq _ _ _ (show (133 : Nat) ≠ 102 by decide), ptq _ _ _ (show (133 : Nat) ≠ 134 by decide), ptu, ptq _ _ _ (show (134 : Nat) ≠ 102 by decide), ptu, ptq _ _ _ (show (134 : Nat) ≠ 133 by decide)]
      exact add2 (L := 6) (P := fun y z => bd y 30 ∧ bd z 99) rfl hc x3 x4 (by decide) ⟨⟨x, hx, rfl⟩, ⟨y, hy, rfl⟩⟩
theorem sim_watch (v w : Int32) : Sim (fH_watch v w) (fM_watch v w) := by
  refine sim_on [6] (fun _ => rfl) (fr_H_watch v w) (fr_M_watch v w) (by decide) (by decide) (fun a b hI => ?_)
  obtain ⟨⟨n, hn, e1, e2⟩, hc⟩ : gWa (a 51) (a 52) (b 102 46) (b 128) (b 129) := hI 6
  obtain ⟨_, _, _, _, _, _, _, ⟨t0, t1⟩, _⟩ : gKc a := hI 18
  unfold fH_watch
  simp only [e_isIn, e_within, e_empty, bi_s, bnd_e]
  by_cases h1 : v = -1
  · simp only [if_pos h1]
    refine ⟨_, _, _, rfl, rfl, al1 ⟨⟨0, by omega, pt_s _ _ _ _, pt_s _ _ _ _⟩, ?_⟩⟩
    simpa [pt] using hc
  simp only [if_neg h1, if_true]
  by_cases h2 : wi v 0 59 = 0
  · simp only [if_pos h2]
    refine ⟨-1, a, b, rfl, ?_, al1 (hI 6)⟩
    by_cases g1 : wi v 0 w = 0
    · rw [if_pos g1]
    · rw [if_neg g1, if_pos]
      unfold wi at h2 g1 ⊢
      split at g1
      · exact absurd rfl g1
      · rename_i g2
        rw [if_neg g2] at h2
        split at h2
        · rename_i g3
          split at g1
          · exact absurd rfl g1
          · rename_i g4
            rw [Int32.not_lt] at g4
            split
            · rfl
            · exact if_pos (Int32.lt_of_lt_of_le g3 g4)
        · exact absurd h2 (by decide)
  simp only [if_neg h2]
  obtain ⟨x, _, hx, rfl⟩ := wi_1 (a := 0) (b := 59) (by decide) (by decide) h2
  have hw : wi (nI x) 0 w = 0 ∨ wi w 0 59 = 0 ↔ wi w (nI x) 59 = 0 := by
    by_cases g : w < 0
    · have : w < nI x := Int32.lt_of_lt_of_le g (nI_pos' (by omega))
      simp [wi, g, this]
    · obtain ⟨y, hy, rfl⟩ := nI_of g
      rw [show (0 : Int32) = nI 0 from rfl, show (59 : Int32) = nI 59 from rfl, wi_n (by omega) (by decide) hy, wi_n hy (by decide) (by decide), wi_n hy (by omega) (by decide)]
      by_cases g1 : x ≤ y
      · by_cases g2 : y ≤ 59
        · simp [g1, g2, nI_0]
        · simp [g1, g2, nI_0]
      · simp [g1, nI_0]
  by_cases h4 : wi w (nI x) 59 = 0
  · simp only [if_pos h4]
    refine ⟨-1, a, b, rfl, ?_, al1 (hI 6)⟩
    rcases hw.mpr h4 with g | g
    · rw [if_pos g]
    · by_cases g1 : wi (nI x) 0 w = 0
      · rw [if_pos g1]
      · rw [if_neg g1, if_pos g]
  have g1 : ¬ wi (nI x) 0 w = 0 := fun g => h4 (hw.mp (Or.inl g))
  have g2 : ¬ wi w 0 59 = 0 := fun g => h4 (hw.mp (Or.inr g))
  simp only [if_neg h4, if_neg g1, if_neg g2, show ¬ ((1 : Int32) = 0) by decide, if_false]
  obtain ⟨y, hxy, hy, rfl⟩ := wi_1 (a := x) (b := 59) (by omega) (by decide) h4
  by_cases h3 : n = 9
  · subst h3
    rw [e_addN t1 e1 (by decide) (by decide) (by decide), bi_s, if_pos (show b 102 46 = 9 from e2)]
    exact ⟨_, a, b, rfl, rfl, al1 (hI 6)⟩
  · obtain ⟨τ, x1, x2, x3, x4⟩ := e_add (a := nI x) (b := nI y) (c := 0) (d := 0) (e := 0) t0 t1 e1 (by decide) (by decide) (show n < 9 by omega) (by decide) (by decide) (by decide)
    rw [x1, bi_s, e2, if_neg (show ¬ nI n = 9 from nI_ne 9 h3 (by omega) (by decide)), gd_n _ (show n < 9 by omega) (by decide), ix_n (by omega)]
    refine ⟨_, τ, pt (pt (pt b 128 n (nI x)) 129 n (nI y)) 102 46 (nI (n + 1)), rfl, ?_, al1 ⟨⟨n + 1, by omega, x2, pt_s _ _ _ _⟩, ?_⟩⟩
    · rw [show (pt b 128 n (nI x)) 102 46 = nI n from e2, gd_n _ (show n < 9 by omega) (by decide), ix_n (by omega), show (pt (pt b 128 n (nI x)) 129 n (nI y)) 102 46 = nI n from e2, nI_1, pt_s]
    · rw [ptq _ _ _ (show (128 : Nat) ≠ 102 by decide), ptq _ _ _ (show (128 : Nat) ≠ 129 by decide), ptu, ptq _ _ _ (show (129 : Nat) ≠ 102 by decide), ptu, ptq _ _ _ (show (129 : Nat) ≠ 128 by decide)]
      exact add2 (L := 9) (P := fun y z => ∃ u v, u ≤ v ∧ v ≤ 59 ∧ y = nI u ∧ z = nI v) rfl hc x3 x4 (by decide) ⟨x, y, hxy, hy, rfl, rfl⟩
theorem sim_worth (v w : Int32) : Sim (fH_worth v w) (fM_worth v w) := by
  refine sim_on [12] (fun _ => rfl) (fr_H_worth v w) (fr_M_worth v w) (by decide) (by decide) (fun a b hI => ?_)
  have hc : gWo (a 62) (b 139) := hI 12
  obtain ⟨_, _, _, _, _, _, _, _, _, _, _, _, ⟨t0, t1⟩, _⟩ : gKc a := hI 18
  unfold fH_worth
  simp only [e_isIn, e_within, bi_s, bnd_e, gb_0, gb_1]
  by_cases h1 : wi v 0 3 = 0
  · simp only [if_pos h1]
    exact ⟨_, a, b, rfl, rfl, al1 (hI 12)⟩
  by_cases h2 : wi w 0 99 = 0
  · simp only [if_neg h1, if_pos h2]
    exact ⟨_, a, b, rfl, rfl, al1 (hI 12)⟩
  simp only [if_neg h1, if_neg h2]
  obtain ⟨x, _, hx, rfl⟩ := wi_1 (a := 0) (b := 3) (by decide) (by decide) h1
  obtain ⟨y, _, hy, rfl⟩ := wi_1 (a := 0) (b := 99) (by decide) (by decide) h2
  rw [show fTa_put 61 (nI x) 0 (nI y) a = some _ from e_put (j := 0) t0 t1 (by decide) (by decide) (show x < 4 by omega) (by decide) (by decide) (by decide), bv_s, gd_n _ (show x < 4 by omega) (by decide), ix_n (by omega)]
  refine ⟨_, _, _, rfl, rfl, al1 ?_⟩
  show gWo _ _
  rw [ptu, show hz_rf 61 2 = 62 from rfl, ptu, show x * 1 + 0 = x by omega]
  intro i hi
  by_cases e : i = x
  · subst e
    rw [pk_us, pk_us]
    exact ⟨rfl, y, hy, rfl⟩
  · rw [pk_un e, pk_un e]
    exact hc i hi
