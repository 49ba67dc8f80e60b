/-! guard -/
def gW (f t : Nat → Nat) (m : Nat) : Nat → Nat → Nat → Nat
  | 0, _, G => G
  | k + 1, i, G => gW f t m k (i + 1) (if f i ≤ m then max G (t i + 1) else G)
def hW (f t : Nat → Nat) (m : Nat) : Nat → Nat → Nat → Nat
  | 0, _, G => G
  | k + 1, i, G => hW f t m k (i + 1) (if f i ≤ m ∧ m ≤ t i then max G (t i + 1) else G)
theorem gh_s {m f t G H : Nat} (h : H = if m < G then G else 0) : (if f ≤ m ∧ m ≤ t then max H (t + 1) else H) = if m < (if f ≤ m then max G (t + 1) else G) then (if f ≤ m then max G (t + 1) else G) else 0 := by
  by_cases h1 : f ≤ m
  · simp only [if_pos h1]
    by_cases h2 : m ≤ t
    · rw [if_pos ⟨h1, h2⟩, if_pos (show m < max G (t + 1) from Nat.lt_of_lt_of_le (Nat.lt_succ_of_le h2) (Nat.le_max_right _ _)), h]
      by_cases h3 : m < G
      · rw [if_pos h3]
      · rw [if_neg h3, Nat.max_eq_right (Nat.zero_le _), Nat.max_eq_right (by omega)]
    · rw [if_neg (fun q => h2 q.2), h]
      by_cases h3 : m < G
      · rw [if_pos h3, Nat.max_eq_left (show t + 1 ≤ G by omega), if_pos h3]
      · rw [if_neg h3, if_neg (fun q => by
          rcases Nat.lt_or_ge (t + 1) G with c | c
          · rw [Nat.max_eq_left (by omega)] at q; exact h3 q
          · rw [Nat.max_eq_right c] at q; omega)]
  · simp only [if_neg h1]
    rw [if_neg (fun q => h1 q.1)]
    exact h
theorem gh_W (f t : Nat → Nat) (m : Nat) : ∀ (k i G H : Nat), H = (if m < G then G else 0) → hW f t m k i H = if m < gW f t m k i G then gW f t m k i G else 0 := by
  intro k
  induction k with
  | zero => intro i G H h; exact h
  | succ k ih => intro i G H h; exact ih (i + 1) _ _ (gh_s h)
theorem gW_mem (f t : Nat → Nat) (m : Nat) : ∀ (k i G : Nat), gW f t m k i G = G ∨ ∃ j, i ≤ j ∧ j < i + k ∧ gW f t m k i G = t j + 1
  | 0, _, _ => Or.inl rfl
  | k + 1, i, G => by
    rw [gW]
    rcases gW_mem f t m k (i + 1) (if f i ≤ m then max G (t i + 1) else G) with h | ⟨j, h1, h2, h3⟩
    · rw [h]
      split
      · by_cases q : t i + 1 ≤ G
        · exact Or.inl (Nat.max_eq_left q)
        · exact Or.inr ⟨i, by omega, by omega, Nat.max_eq_right (by omega)⟩
      · exact Or.inl rfl
    · exact Or.inr ⟨j, by omega, by omega, h3⟩
theorem gW_lt (f t : Nat → Nat) (m : Nat) {k i : Nat} (ht : ∀ j, j < i + k → t j ≤ 59) : gW f t m k i 0 ≤ 60 := by
  rcases gW_mem f t m k i 0 with h | ⟨j, _, h2, h3⟩
  · omega
  · have := ht j h2
    omega
theorem sm_lt {f g : Nat → Nat} {j : Nat} : ∀ (k x : Nat), (∀ i, x ≤ i → i < x + k → f i ≤ g i) → x ≤ j → j < x + k → f j < g j → sm f x k < sm g x k
  | 0, _, _, h1, h2, _ => by omega
  | k + 1, x, h, h1, h2, h3 => by
    rw [sm, sm]
    by_cases e : j = x
    · subst e
      have := sm_le k (j + 1) (fun i a b => h i (by omega) (by omega))
      omega
    · have := sm_lt k (x + 1) (fun i a b => h i (by omega) (by omega)) (by omega) (by omega) h3
      have := h x (by omega) (by omega)
      omega
theorem sm_cst : ∀ (k x : Nat), sm (fun _ => 1) x k = k
  | 0, _ => rfl
  | k + 1, x => by rw [sm, sm_cst k (x + 1)]; omega
/-- the furthest watch: how far, one up (0: none) -/
theorem e_far {a : Sg} {n : Nat} {f t : Nat → Nat} (hn : n ≤ 9) (e1 : a 51 3 = nI n) (t0 : a 51 0 = nI 2) (t1 : a 51 1 = nI 9) (hf : ∀ i, i < 9 → a 52 (i * 2) = nI (f i) ∧ a 52 (i * 2 + 1) = nI (t i) ∧ f i ≤ t i ∧ t i ≤ 59) {m : Nat} (hm : m < 100) : fMu_furthest (nI m) a = some (nI (gW f t m n 0 0) - 1, a) := by
  unfold fMu_furthest
  simp only [bnd_e]
  refine w1_e (w1_lp (fun k v s => s = a ∧ ∃ i G, i + k = n ∧ v = (nI G - 1, nI i) ∧ G ≤ 60 ∧ gW f t m k i G = gW f t m n 0 0) ?_ FU n _ _ (FU_lt (by omega)) ⟨rfl, 0, 0, by omega, rfl, by omega, rfl⟩)
  rintro p k v s ⟨rfl, i, G, hi, rfl, hG, hA⟩ hp
  dsimp only
  rw [e1]
  refine w1_if (fun h => ?_) (fun h => ?_)
  · rw [nI_leI (by omega) (by omega)] at h
    have : k = 0 := by omega
    subst this
    rw [gW] at hA
    rw [← hA]
    exact w1_s rfl
  · rw [nI_leI (by omega) (by omega)] at h
    obtain ⟨k, rfl⟩ : ∃ x, k = x + 1 := ⟨k - 1, by omega⟩
    obtain ⟨h1, h2, h3, h4⟩ := hf i (by omega)
    have T1 : fTa_tell 51 (nI i) 1 s = some (nI (t i), s) := by
      rw [← h2]; exact e_tell (j := 1) t0 t1 (by decide) (by decide) (show i < 9 by omega) (by decide) (by decide) (by decide)
    have T0 : fTa_tell 51 (nI i) 0 s = some (nI (f i), s) := by
      rw [← h1]; exact e_tell (j := 0) t0 t1 (by decide) (by decide) (show i < 9 by omega) (by decide) (by decide) (by decide)
    rw [gW] at hA
    rw [T0, bi_s, T1, bi_s, e_max, bi_s, mx_p (by omega) (by omega), nI_1]
    refine w1_if (fun g => ?_) (fun g => ?_)
    · rw [nI_ltI (by omega) (by omega)] at g
      rw [if_neg (by omega)] at hA
      exact hp k _ _ (by omega) ⟨rfl, i + 1, G, by omega, rfl, hG, hA⟩
    · rw [nI_ltI (by omega) (by omega)] at g
      rw [if_pos (by omega)] at hA
      exact hp k _ _ (by omega) ⟨rfl, i + 1, _, by omega, rfl, by omega, hA⟩
theorem wat_in {R : Type} {b : Sg} {n : Nat} {f t : Nat → Nat} (hn : n ≤ 9) (e2 : b 102 46 = nI n) (hf : ∀ i, i < 9 → b 128 i = nI (f i) ∧ b 129 i = nI (t i) ∧ f i ≤ t i ∧ t i ≤ 59) {m : Nat} (hm : m < 100) {K : Int32 → Sg → Option R} {Q : R → Prop} (hK : W1 (K (nI (hW f t m n 0 0) - 1) b) Q) : W1 (lp FU (fun q16 (u16 : Int32 × Int32) (s2 : Sg) => if (s2 102 46) ≤ u16.2 then K u16.1 s2 else (gd u16.2 9 (gd u16.2 9 (bi (fM_isIn (nI m) (s2 128 (ix u16.2)) (s2 129 (ix u16.2)) s2) fun r4 s3 => if r4 = 0 then (q16 (u16.1, (u16.2 + 1)) s3) else (gd u16.2 9 (bi (fM_greater u16.1 (s3 129 (ix u16.2)) s3) fun r7 s6 => q16 (r7, (u16.2 + 1)) s6)))))) ((-1), 0) b) Q := by
  refine w1_lp (fun k v s => s = b ∧ ∃ i G, i + k = n ∧ v = (nI G - 1, nI i) ∧ G ≤ 60 ∧ hW f t m k i G = hW f t m n 0 0) ?_ FU n _ _ (FU_lt (by omega)) ⟨rfl, 0, 0, by omega, rfl, by omega, rfl⟩
  rintro p k v s ⟨rfl, i, G, hi, rfl, hG, hA⟩ hp
  dsimp only
  rw [e2]
  refine w1_if (fun h => ?_) (fun h => ?_)
  · rw [nI_leI (by omega) (by omega)] at h
    have : k = 0 := by omega
    subst this
    rw [hW] at hA
    rw [hA]
    exact hK
  · rw [nI_leI (by omega) (by omega)] at h
    obtain ⟨k, rfl⟩ : ∃ x, k = x + 1 := ⟨k - 1, by omega⟩
    obtain ⟨h1, h2, h3, h4⟩ := hf i (by omega)
    rw [hW] at hA
    rw [gd_n _ (show i < 9 by omega) (by decide), gd_n _ (show i < 9 by omega) (by decide), ix_n (by omega), h1, h2, e_isIn, bi_s, gd_n _ (show i < 9 by omega) (by decide), h2, e_gr, bi_s, mx_p (by omega) (by omega), nI_1, wi_n (by omega) (by omega) (by omega)]
    by_cases g : f i ≤ m ∧ m ≤ t i
    · rw [if_pos g, if_neg n10z]
      rw [if_pos g] at hA
      exact hp k _ _ (by omega) ⟨rfl, i + 1, _, by omega, rfl, by omega, hA⟩
    · rw [if_neg g, if_pos rfl]
      rw [if_neg g] at hA
      exact hp k _ _ (by omega) ⟨rfl, i + 1, G, by omega, rfl, hG, hA⟩
