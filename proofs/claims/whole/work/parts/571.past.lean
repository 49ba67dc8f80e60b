/-! scenes that are copied -/
theorem gSc_cp {f f' g g' : Nat → Int32} {np : Int32} {m m' vo le pa : Nat → Int32} (h : gSc f g np m vo le pa) (hf : ∀ k, 1 ≤ k → k ≤ 12 → f' k = f k) (hg : ∀ k, k < 80 → g' k = g k) (hm : ∀ k, k < 50 → m' k = m k) : gSc f' g' np m' vo le pa := by
  obtain ⟨n, hn, k1, k2, x1, x2, hp⟩ := h
  refine ⟨n, hn, k1, by rw [hf 1 (by decide) (by decide)]; exact k2, ?_, ?_, fun p hpn => ?_⟩
  · rw [hm 5 (by decide), hm 6 (by decide), hm 7 (by decide), hm 8 (by decide), hm 9 (by decide), hm 4 (by decide), hm 3 (by decide), hm 0 (by decide), hm 1 (by decide), hm 2 (by decide), hf 2 (by decide) (by decide), hf 4 (by decide) (by decide), hf 5 (by decide) (by decide), hf 6 (by decide) (by decide), hf 7 (by decide) (by decide), hf 8 (by decide) (by decide), hf 9 (by decide) (by decide), hf 10 (by decide) (by decide), hf 11 (by decide) (by decide), hf 12 (by decide) (by decide)]
    exact x1
  · rw [hm 5 (by decide), hm 6 (by decide), hm 7 (by decide), hm 4 (by decide), hm 3 (by decide), hm 2 (by decide)]
    exact x2
  · exact gPe_c (fun j hj => hg _ (by omega)) (hm _ (by omega)) (hm _ (by omega)) (hm _ (by omega)) (hm _ (by omega)) (hp p hpn)
theorem e_cpy {s : Sg} {src dst l : Nat} {n : Nat} (hn : n ≤ l) (hl : l < 2 ^ 31) : cpy s src l 0 dst l 0 (nI n) = some (rs s dst (fun k => if k < n then s src k else s dst k)) := by
  unfold cpy
  rw [if_neg]
  · congr 1
    congr 1
    funext k
    rw [nI_clamp (by omega)]
    by_cases h : k < n
    · rw [if_pos h]
      exact pk_cpy_in (Nat.zero_le k) (by simpa using h) |>.trans (by simp)
    · rw [if_neg h]
      exact pk_cpy_out (Or.inr (by simpa using h))
  · rw [nI_clamp (by omega)]
    have : ¬ nI n < 0 := nI_pos (by omega)
    simp [this]
    omega
theorem e_become {o q ro rq : Nat} (h1 : hz_rf o 0 = ro) (h2 : hz_rf q 0 = rq) (d1 : o ≠ q) (d2 : ro ≠ o) (d3 : ro ≠ q) (d5 : rq ≠ ro) (s : Sg) : ∃ τ, fSc_become o q s = some τ ∧ (∀ k, k < 80 → τ ro k = s rq k) ∧ ∀ k, 1 ≤ k → k ≤ 12 → τ o k = s q k := by
  unfold fSc_become
  rw [h1, h2, show cpy s rq 80 0 ro 80 0 80 = _ from e_cpy (n := 80) (l := 80) (by decide) (by decide), bv_s]
  refine ⟨itr (fun i s => pt s o (0 + i) (s q (0 + i))) 1 12 (rs s ro (fun k => if k < 80 then s rq k else s ro k)), rfl, fun k hk => ?_, fun k hk1 hk2 => ?_⟩
  · rw [itr_copy o 0 q 0 (Or.inl (Ne.symm d1)), if_neg (fun e => d2 e.1)]
    simp only [rs, if_pos hk, if_true]
  · rw [itr_copy o 0 q 0 (Or.inl (Ne.symm d1)), if_pos (by omega), show 0 + (k - 0) = k by omega]
    simp only [rs, if_neg (Ne.symm d3)]
