/-! thing -/
theorem w2_2 {R S : Type} {f : Option R} {g : Option S} {Z : R → S → Prop} (h : W1 g (fun y => W1 f (fun x => Z x y))) : W2 f g Z := by
  obtain ⟨y, e2, x, e1, hz⟩ := h
  exact ⟨x, y, e1, e2, hz⟩
theorem sim_thing (v w : Int32) : Sim (fH_thing v w) (fM_thing v w) := by
  refine sim_r (fun _ => rfl) (fr_H_thing v w) (fr_M_thing v w) (by decide) (by decide) (fun a b hI => ?_)
  obtain ⟨g7, g8, g9, ⟨A, hA, e7⟩, ⟨B, hB, e8⟩, ⟨M, h1, hM, e9⟩⟩ : gRu (a 48) (b 102 58) (b 102 59) (b 102 60) := hI 10
  have m7 : b 102 58 + 1 = nI A := by rw [← g7, e7]
  have m8 : b 102 59 = nI B := by rw [← g8, e8]
  have m9 : 1000 - b 102 60 = nI M := by rw [← g9, e9]
  unfold fH_thing
  simp only [e_within, e_isIn, bi_x, bnd_x]
  by_cases c1 : wi v 0 999 = 0
  · simp only [if_pos c1]
    exact w2_s rfl
  by_cases c2 : wi w 0 1 = 0
  · simp only [if_neg c1, if_pos c2]
    exact w2_s rfl
  simp only [if_neg c1, if_neg c2]
  obtain ⟨x, _, hx, rfl⟩ := wi_1 (a := 0) (b := 999) (by decide) (by decide) c1
  obtain ⟨z, _, hz, rfl⟩ := wi_1 (a := 0) (b := 1) (by decide) (by decide) c2
  have cls : ∀ n u, rho A B M x n u → W1 (bi (fMu_roundOf (nI x) a) fun r6 s5 => if nI z = 0 then some (r6, s5) else bi (fMu_aheadOfRound (nI x) r6 s5) fun r8 s7 => some (r8, s7)) (fun y => y.1 = if nI z = 0 then nI (n - u) else nI u) := by
    intro n u hr
    rw [e_round e7 e8 e9 hA hB h1 hM (by omega) hr, bi_s]
    by_cases c : nI z = 0
    · rw [if_pos c, if_pos c]
      exact w1_s rfl
    · rw [if_neg c, if_neg c, e_ahead e7 e8 e9 hA hB h1 hM (by omega) hr, bi_s]
      exact w1_s rfl
  refine w2_2 ?_
  rw [m9]
  refine w1_lp (fun k v s => ∃ i, i + k = 1000 ∧ v = nI i ∧ s 102 = b 102 ∧ ∀ j, j < i → s 137 j = -1) ?_ FU 1000 _ _ (FU_lt (by omega)) ⟨0, by omega, rfl, rfl, fun j hj => by omega⟩
  rintro p k v s ⟨i, hi, rfl, hs, hb⟩ hp
  refine w1_if (fun h => ?_) (fun h => ?_)
  · have h := (nI_leI (a := 1000) (b := i) (by decide) (by omega)).mp h
    rw [gz_n _ (nI_ne0 (by omega) (by omega)), pk_rem (by omega) (by omega) (by omega)]
    refine w1_lp (fun k v s => ∃ n, n + k = M ∧ v = (nI (sq A B M x n), nI n) ∧ s 102 = b 102 ∧ (∀ i j, i < j → j < n → sq A B M x i ≠ sq A B M x j) ∧ ∀ y, y < 1000 → (s 137 y = -1 ∧ ∀ i, i < n → sq A B M x i ≠ y) ∨ (∃ i, i < n ∧ s 137 y = nI i ∧ sq A B M x i = y)) ?_ FU M _ _ (FU_lt (by omega)) ⟨0, by omega, rfl, hs, fun i j _ hj => by omega, fun y hy => Or.inl ⟨hb y (by omega), fun i hi => by omega⟩⟩
    rintro p2 k2 v2 s2 ⟨n, hn, rfl, hs2, hd, hbe⟩ hp2
    dsimp only
    have lt := sq_lt (A := A) (B := B) (M := M) (x := x) h1 n
    rw [gd_n _ (show sq A B M x n < 1000 by omega) (by decide), ix_n (by omega)]
    refine w1_if (fun g => ?_) (fun g => ?_)
    · have hnew : ∀ i, i < n → sq A B M x i ≠ sq A B M x n := by
        rcases hbe _ (show sq A B M x n < 1000 by omega) with q | ⟨i, q1, q2, q3⟩
        · exact q.2
        · rw [q2] at g
          exact absurd g (nI_m1 (by omega))
      have hd' : ∀ i j, i < j → j < n + 1 → sq A B M x i ≠ sq A B M x j := by
        intro i j hij hj
        by_cases e : j = n
        · subst e; exact hnew i hij
        · exact hd i j hij (by omega)
      have hle := fb_holes M (n + 1) (sq A B M x) (fun i _ => sq_lt h1 i) hd'
      rw [gd_n _ (show sq A B M x n < 1000 by omega) (by decide), gz_n _ (nI_ne0 (by omega) (by omega))]
      have c58 : (pt s2 137 (sq A B M x n) (nI n)) 102 58 = b 102 58 := by rw [pt_o _ _ _ _ (by decide), hs2]
      have c59 : (pt s2 137 (sq A B M x n) (nI n)) 102 59 = b 102 59 := by rw [pt_o _ _ _ _ (by decide), hs2]
      rw [c58, c59, m7, m8, pk_mul, nI_add, pk_rem (ab_lt hA hB lt hM) (by omega) (by omega), nI_1]
      refine hp2 (k2 - 1) _ _ (by omega) ⟨n + 1, by omega, rfl, by rw [ptq _ _ _ (by decide)]; exact hs2, hd', fun y hy => ?_⟩
      by_cases e : y = sq A B M x n
      · subst e
        exact Or.inr ⟨n, by omega, pt_s _ _ _ _, rfl⟩
      · rw [pt_k _ _ _ e]
        rcases hbe y hy with ⟨q1, q2⟩ | ⟨i, q1, q2, q3⟩
        · refine Or.inl ⟨q1, fun i hi => ?_⟩
          by_cases e2 : i = n
          · subst e2; exact Ne.symm e
          · exact q2 i (by omega)
        · exact Or.inr ⟨i, by omega, q2, q3⟩
    · rcases hbe _ (show sq A B M x n < 1000 by omega) with q | ⟨i, q1, q2, q3⟩
      · exact absurd q.1 g
      · have hr : rho A B M x n i := ⟨q1, by omega, q3.symm, hd⟩
        rw [gd_n _ (show sq A B M x n < 1000 by omega) (by decide), q2, pk_sub (by omega)]
        have hcl := cls n i hr
        by_cases c : nI z = 0
        · rw [if_pos c] at hcl
          rw [if_pos c]
          exact w1_s hcl
        · rw [if_neg c] at hcl
          rw [if_neg c, gd_n _ (show sq A B M x n < 1000 by omega) (by decide)]
          exact w1_s hcl
  · have h : ¬ 1000 ≤ i := fun q => h ((nI_leI (a := 1000) (b := i) (by decide) (by omega)).mpr q)
    rw [gd_n _ (show i < 1000 by omega) (by decide), ix_n (by omega), nI_1]
    refine hp (k - 1) _ _ (by omega) ⟨i + 1, by omega, rfl, by rw [ptq _ _ _ (by decide)]; exact hs, fun j hj => ?_⟩
    by_cases e : j = i
    · subst e; rw [pt_s]
    · rw [pt_k _ _ _ e]; exact hb j (by omega)
