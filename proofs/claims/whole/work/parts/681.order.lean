/-! the next order -/
def oAt (s : Sg) (n : Nat) (o : Nat → Nat) : Prop := s 102 53 = nI n ∧ ∀ k, k < n → s 135 k = nI (o k)
theorem oAt_swp {s : Sg} {n x y : Nat} {o : Nat → Nat} (h : oAt s n o) (hx : x < n) (hy : y < n) : oAt (pt (pt s 135 x (s 135 y)) 135 y (s 135 x)) n (swp o x y) := by
  refine ⟨by rw [pt_o _ _ _ _ (by decide), pt_o _ _ _ _ (by decide)]; exact h.1, fun k hk => ?_⟩
  unfold swp
  by_cases e : k = y
  · subst e
    rw [pt_s]
    by_cases e2 : k = x
    · subst e2; rw [if_pos rfl]; exact h.2 k hk
    · rw [if_neg e2, if_pos rfl]; exact h.2 x hx
  · rw [pt_k _ _ _ e, if_neg e]
    by_cases e2 : k = x
    · subst e2; rw [pt_s, if_pos rfl]; exact h.2 y hy
    · rw [pt_k _ _ _ e2, if_neg e2]; exact h.2 k hk
theorem swp_lt {o : Nat → Nat} {n x y : Nat} (h : ∀ k, k < n → o k < 6) (hx : x < n) (hy : y < n) : ∀ k, k < n → swp o x y k < 6 := fun k hk => by
  unfold swp
  split
  · exact h y hy
  · split
    · exact h x hx
    · exact h k hk
theorem nx_ok {s : Sg} {n : Nat} {o : Nat → Nat} (hn : n ≤ 6) (h : oAt s n o) (hl : ∀ k, k < n → o k < 6) : W1 (fM_goesToNextOrder s) (fun z => match nxF n o with | none => z.1 = 0 | some g => z.1 = 1 ∧ oAt z.2 n g) := by
  unfold fM_goesToNextOrder
  simp only [bnd_x]
  rw [h.1]
  by_cases h0 : n = 0
  · subst h0
    rw [show FU = 4999 + 1 from rfl, lp_s, if_pos (by decide), if_neg (by decide), gb_0]
    exact w1_s rfl
  have e0 : nI n - 2 = nI (n - 1) - 1 := by
    rw [show nI (n - 1) - 1 = nI (n - 1) - nI 1 from rfl, show (2 : Int32) = nI 2 from rfl]
    by_cases h1 : n = 1
    · subst h1; rfl
    · rw [pk_sub (by omega), pk_sub (by omega), show n - 1 - 1 = n - 2 by omega]
  rw [e0]
  refine w1_lp (fun k v t => t = s ∧ v = nI k - 1 ∧ k ≤ n - 1 ∧ f1o o k = f1o o (n - 1)) ?_ FU (n - 1) _ _ (FU_lt (by omega)) ⟨rfl, rfl, Nat.le_refl _, rfl⟩
  rintro p k v t ⟨rfl, rfl, hk, hf⟩ hp
  cases k with
  | zero =>
    rw [if_pos (by decide), if_neg (by decide), gb_0]
    refine w1_s ?_
    have : nxF n o = none := by
      unfold nxF
      rw [← hf, f1o, if_pos rfl]
    rw [this]
  | succ j =>
    have hj1 := h.2 j (by omega)
    have hj2 := h.2 (j + 1) (by omega)
    have l1 := hl j (by omega)
    have l2 := hl (j + 1) (by omega)
    rw [nI_pred, if_neg (nI_pos (by omega)), gd_n _ (show j < 6 by omega) (by decide), nI_1, gd_n _ (show j + 1 < 6 by omega) (by decide), ix_n (by omega), ix_n (by omega), hj1, hj2]
    rw [f1o] at hf
    refine w1_if (fun c => ?_) (fun c => ?_)
    · rw [nI_leI (by omega) (by omega)] at c
      rw [if_pos c] at hf
      rw [if_pos (nI_pos' (by omega)), h.1, show nI n - 1 = nI (n - 1) by rw [show (1 : Int32) = nI 1 from rfl, pk_sub (by omega)]]
      have nx : nxF n o = some (rvo n j 6 (j + 1) (swp o j (f3o o (o j) (n - 1)))) := by
        unfold nxF
        rw [← hf, if_neg (by omega), Nat.add_sub_cancel]
      refine w1_lp (fun k v u => u = t ∧ v = nI k ∧ j + 1 ≤ k ∧ k ≤ n - 1 ∧ f3o o (o j) k = f3o o (o j) (n - 1)) ?_ FU (n - 1) _ _ (FU_lt (by omega)) ⟨rfl, rfl, by omega, Nat.le_refl _, rfl⟩
      rintro p2 k v2 u ⟨rfl, rfl, g1, g2, g3⟩ hp2
      obtain ⟨k, rfl⟩ : ∃ y, k = y + 1 := ⟨k - 1, by omega⟩
      have lk := hl (k + 1) (by omega)
      rw [gd_n _ (show k + 1 < 6 by omega) (by decide), gd_n _ (show j < 6 by omega) (by decide), ix_n (show k + 1 < 2 ^ 31 by omega), hj1, h.2 (k + 1) (by omega)]
      rw [f3o] at g3
      refine w1_if (fun c2 => ?_) (fun c2 => ?_)
      · rw [nI_leI (by omega) (by omega)] at c2
        rw [if_pos c2] at g3
        rw [gd_n _ (show j < 6 by omega) (by decide), gd_n _ (show k + 1 < 6 by omega) (by decide), gd_n _ (show j < 6 by omega) (by decide), gd_n _ (show k + 1 < 6 by omega) (by decide)]
        have h2 := oAt_swp h (show j < n by omega) (show k + 1 < n by omega)
        have hl2 := swp_lt hl (show j < n by omega) (show k + 1 < n by omega)
        rw [h.2 j (by omega), h.2 (k + 1) (by omega)] at h2
        rw [nx, ← g3]
        refine w1_lp (fun f v w => ∃ a o', v = nI a ∧ j < a ∧ a + f = j + 1 + 6 ∧ oAt w n o' ∧ (∀ k, k < n → o' k < 6) ∧ rvo n j f a o' = rvo n j 6 (j + 1) (swp o j (k + 1)) ∧ a ≤ n) ?_ FU 6 _ _ (FU_lt (by omega)) ⟨j + 1, _, rfl, by omega, by omega, h2, hl2, rfl, by omega⟩
        rintro p3 f v3 w ⟨a, o', rfl, a1, a2, a3, a4, a5, a6⟩ hp3
        have ex : ((nI n - 1) - ((nI a - nI j) - 1)) = nI (n + j - a) := by
          rw [show (1 : Int32) = nI 1 from rfl, pk_sub (show j ≤ a by omega), pk_sub (show 1 ≤ a - j by omega), pk_sub (show 1 ≤ n by omega), pk_sub (show a - j - 1 ≤ n - 1 by omega), show n - 1 - (a - j - 1) = n + j - a by omega]
        rw [a3.1, ex, gb_1]
        refine w1_if (fun c3 => ?_) (fun c3 => ?_)
        · rw [nI_leI (by omega) (by omega)] at c3
          have : rvo n j f a o' = o' := by
            cases f with
            | zero => rfl
            | succ f => rw [rvo, if_pos c3]
          rw [← a5, this]
          exact w1_s ⟨rfl, a3⟩
        · rw [nI_leI (by omega) (by omega)] at c3
          obtain ⟨f, rfl⟩ : ∃ y, f = y + 1 := ⟨f - 1, by omega⟩
          rw [rvo, if_neg c3] at a5
          rw [gd_n _ (show a < 6 by omega) (by decide), gd_n _ (show n + j - a < 6 by omega) (by decide), gd_n _ (show a < 6 by omega) (by decide), gd_n _ (show n + j - a < 6 by omega) (by decide), ix_n (by omega), ix_n (by omega), nI_1]
          exact hp3 f _ _ (by omega) ⟨a + 1, _, rfl, by omega, by omega, oAt_swp a3 (by omega) (by omega), swp_lt a4 (by omega) (by omega), a5, by omega⟩
      · rw [nI_leI (by omega) (by omega)] at c2
        rw [if_neg c2] at g3
        rw [show nI (k + 1) - 1 = nI k from nI_pred k]
        refine hp2 k _ _ (by omega) ⟨rfl, rfl, ?_, by omega, g3⟩
        refine Nat.lt_of_le_of_ne (by omega) (fun e => c2 ?_)
        rw [← e]
        exact c
    · rw [nI_leI (by omega) (by omega)] at c
      rw [if_neg c] at hf
      exact hp j _ _ (by omega) ⟨rfl, rfl, by omega, hf⟩
