/-! tables that are copied, of the class -/
theorem e_tbec {o q ro rq l : Nat} (h1 : hz_rf o 2 = ro) (h2 : hz_rf q 2 = rq) (l1 : hz_ln ro = l) (l2 : hz_ln rq = l) (hl : l < 2 ^ 31) (d1 : ro ≠ o) (d2 : rq ≠ o) (s : Sg) : W1 (fTa_become o q s) (fun t => t o 3 = s q 3 ∧ ∀ k, k < l → t ro k = s rq k) := by
  unfold fTa_become
  rw [bnd_e, h1, h2, l1, l2, e_min, bi_s, ite_self, e_cpy (Nat.le_refl l) hl, bv_s]
  refine w1_s ⟨?_, fun k hk => ?_⟩
  · simp only [rs, if_neg (Ne.symm d1)]
    exact pt_s _ _ _ _
  · simp only [rs, if_true, if_pos hk]
    rw [ptq _ _ _ d2]
