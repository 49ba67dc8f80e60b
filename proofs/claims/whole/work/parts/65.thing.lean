/-! thing -/
theorem fb_holes : ∀ (m n : Nat) (f : Nat → Nat), (∀ i, i < n → f i < m) → (∀ i j, i < j → j < n → f i ≠ f j) → n ≤ m := by
  intro m
  induction m with
  | zero =>
    intro n f h1 _
    rcases Nat.eq_zero_or_pos n with h | h
    · omega
    · exact absurd (h1 0 h) (Nat.not_lt_zero _)
  | succ m ih =>
    intro n f h1 h2
    by_cases hx : ∃ i, i < n ∧ f i = m
    · obtain ⟨a, ha, hfa⟩ := hx
      have hg := ih (n - 1) (fun i => if i < a then f i else f (i + 1)) (by
        intro i hi
        by_cases q : i < a
        · simp only [if_pos q]
          have b1 := h1 i (by omega)
          have b2 := h2 i a q ha
          omega
        · simp only [if_neg q]
          have b1 := h1 (i + 1) (by omega)
          have b2 := h2 a (i + 1) (by omega) (by omega)
          omega) (by
        intro i j hij hj
        by_cases q : i < a
        · by_cases r : j < a
          · simp only [if_pos q, if_pos r]
            exact h2 i j hij (by omega)
          · simp only [if_pos q, if_neg r]
            exact h2 i (j + 1) (by omega) (by omega)
        · have r : ¬ j < a := by omega
          simp only [if_neg q, if_neg r]
          exact h2 (i + 1) (j + 1) (by omega) (by omega))
      omega
    · have hg := ih n f (fun i hi => by
        have b1 := h1 i hi
        have b2 : f i ≠ m := fun e => hx ⟨i, hi, e⟩
        omega) h2
      omega
def sq (A B M x : Nat) : Nat → Nat
  | 0 => x % M
  | i + 1 => (A * sq A B M x i + B) % M
theorem sq_lt {A B M x : Nat} (hM : 1 ≤ M) : ∀ i, sq A B M x i < M
  | 0 => Nat.mod_lt _ (by omega)
  | i + 1 => Nat.mod_lt _ (by omega)
theorem sq_p {A B M x u v : Nat} (h : sq A B M x u = sq A B M x v) : ∀ j, sq A B M x (u + j) = sq A B M x (v + j)
  | 0 => h
  | j + 1 => by
    show (A * sq A B M x (u + j) + B) % M = (A * sq A B M x (v + j) + B) % M
    rw [sq_p h j]
theorem sq_q {A B M x u l : Nat} (h : sq A B M x (u + l) = sq A B M x u) : ∀ q t, sq A B M x (u + t + q * l) = sq A B M x (u + t)
  | 0, t => by rw [Nat.zero_mul, Nat.add_zero]
  | q + 1, t => by
    rw [show u + t + (q + 1) * l = u + l + (t + q * l) by rw [Nat.add_mul]; omega, sq_p h, show u + (t + q * l) = u + t + q * l by omega]
    exact sq_q h q t
/-- the first number again: u at n, none twice ahead of it -/
def rho (A B M x n u : Nat) : Prop := u < n ∧ n ≤ M ∧ sq A B M x n = sq A B M x u ∧ ∀ i j, i < j → j < n → sq A B M x i ≠ sq A B M x j
theorem rho_1 {A B M x n u : Nat} (h : rho A B M x n u) : sq A B M x (M + (n - u)) = sq A B M x M := by
  obtain ⟨h1, h2, h3, _⟩ := h
  have := sq_p (u := n) (v := u) h3 (M - u)
  rw [show u + (M - u) = M by omega] at this
  rw [← this, show n + (M - u) = M + (n - u) by omega]
theorem rho_2 {A B M x n u r : Nat} (h : rho A B M x n u) (h0 : 0 < r) (hr : r < n - u) : sq A B M x (M + r) ≠ sq A B M x M := by
  obtain ⟨h1, h2, h3, h4⟩ := h
  have hp : sq A B M x (u + (n - u)) = sq A B M x u := by rw [show u + (n - u) = n by omega]; exact h3
  have hd := Nat.div_add_mod (M - u) (n - u)
  have ht := Nat.mod_lt (M - u) (show 0 < n - u by omega)
  generalize (M - u) / (n - u) = q at hd
  generalize (M - u) % (n - u) = t at hd ht
  rw [Nat.mul_comm] at hd
  have e1 : sq A B M x M = sq A B M x (u + t) := by
    rw [← sq_q hp q t, show u + t + q * (n - u) = M by omega]
  by_cases c : t + r < n - u
  · have e2 : sq A B M x (M + r) = sq A B M x (u + (t + r)) := by
      rw [← sq_q hp q (t + r), show u + (t + r) + q * (n - u) = M + r by omega]
    rw [e1, e2]
    exact Ne.symm (h4 (u + t) (u + (t + r)) (by omega) (by omega))
  · have e2 : sq A B M x (M + r) = sq A B M x (u + (t + r - (n - u))) := by
      rw [← sq_q hp (q + 1) (t + r - (n - u)), show u + (t + r - (n - u)) + (q + 1) * (n - u) = M + r by rw [Nat.add_mul]; omega]
    rw [e1, e2]
    exact h4 (u + (t + r - (n - u))) (u + t) (by omega) (by omega)
theorem rho_3 {A B M x n u i : Nat} (h : rho A B M x n u) (hi : i < u) : sq A B M x i ≠ sq A B M x (i + (n - u)) := by
  obtain ⟨h1, h2, h3, h4⟩ := h
  exact h4 i (i + (n - u)) (by omega) (by omega)
theorem rho_4 {A B M x n u : Nat} (h : rho A B M x n u) : sq A B M x u = sq A B M x (u + (n - u)) := by
  obtain ⟨h1, h2, h3, h4⟩ := h
  rw [show u + (n - u) = n by omega, h3]
theorem e_fm {x M : Nat} (hx : x < 2 ^ 31) (h0 : 0 < M) (hM : M < 2 ^ 31) (s : Sg) : fJ9_floorMod_7cf53 (nI x) (nI M) s = some (nI (x % M), s) := by
  unfold fJ9_floorMod_7cf53
  rw [gz_n _ (nI_ne0 h0 hM), nx_xor, if_pos (nI_pos' (Nat.xor_lt_two_pow hx hM)), pk_rem hx h0 hM]
theorem ab_lt {A B M y : Nat} (hA : A ≤ 999) (hB : B ≤ 999) (hy : y < M) (hM : M ≤ 1000) : A * y + B < 2 ^ 31 := by
  have : A * y ≤ 999 * 1000 := Nat.mul_le_mul hA (by omega)
  omega
theorem e_follow {a : Sg} {A B M y : Nat} (e7 : a 48 7 = nI A) (e8 : a 48 8 = nI B) (e9 : a 48 9 = nI M) (hA : A ≤ 999) (hB : B ≤ 999) (h1 : 1 ≤ M) (hM : M ≤ 1000) (hy : y < M) : fMu_follow (nI y) a = some (nI ((A * y + B) % M), a) := by
  unfold fMu_follow
  rw [e_max, bi_s, e7, e8, e9, show (1 : Int32) = nI 1 from rfl, mx_n (by decide) (by omega), Nat.max_eq_right h1, pk_mul, nI_add, e_fm (ab_lt hA hB hy hM) (by omega) (by omega), bi_s]
theorem e_first {a : Sg} {M x : Nat} (e9 : a 48 9 = nI M) (h1 : 1 ≤ M) (hM : M ≤ 1000) (hx : x < 2 ^ 31) : fMu_first (nI x) a = some (nI (x % M), a) := by
  unfold fMu_first
  rw [e_max, bi_s, e9, show (1 : Int32) = nI 1 from rfl, mx_n (by decide) (by omega), Nat.max_eq_right h1, e_fm hx (by omega) (by omega), bi_s]
theorem e_round {a : Sg} {A B M x n u : Nat} (e7 : a 48 7 = nI A) (e8 : a 48 8 = nI B) (e9 : a 48 9 = nI M) (hA : A ≤ 999) (hB : B ≤ 999) (h1 : 1 ≤ M) (hM : M ≤ 1000) (hx : x < 2 ^ 31) (hr : rho A B M x n u) : fMu_roundOf (nI x) a = some (nI (n - u), a) := by
  have F : ∀ i, fMu_follow (nI (sq A B M x i)) a = some (nI (sq A B M x (i + 1)), a) := fun i => e_follow e7 e8 e9 hA hB h1 hM (sq_lt h1 i)
  have L : ∀ i, sq A B M x i < 1000 := fun i => Nat.lt_of_lt_of_le (sq_lt h1 i) hM
  have hr' := hr
  obtain ⟨r1, r2, _, _⟩ := hr'
  unfold fMu_roundOf
  rw [e_first e9 h1 hM hx, bi_s]
  refine w1_e (w1_lp (fun k v s => s = a ∧ ∃ i, i + k = M ∧ v = (nI (sq A B M x i), nI i)) ?_ FU M _ _ (FU_lt (by omega)) ⟨rfl, 0, by omega, rfl⟩)
  rintro p k v s ⟨rfl, i, hi, rfl⟩ hp
  dsimp only
  rw [e9]
  refine w1_if (fun h => ?_) (fun h => ?_)
  · rw [nI_leI (by omega) (by omega)] at h
    rw [show i = M by omega, F M, bi_s]
    refine w1_lp (fun k v t => t = s ∧ ∃ r, r + k = n - u ∧ 1 ≤ r ∧ v = (nI r, nI (sq A B M x (M + r)))) ?_ FU (n - u - 1) _ _ (FU_lt (by omega)) ⟨rfl, 1, by omega, by omega, rfl⟩
    rintro p2 k2 v2 t ⟨rfl, r, hr2, hr1, rfl⟩ hp2
    dsimp only
    have l1 := L (M + r)
    have l2 := L M
    refine w1_if (fun g => ?_) (fun g => ?_)
    · have g := nI_inj (by omega) (by omega) g
      have : r = n - u := by
        refine Classical.byContradiction fun hne => ?_
        exact rho_2 hr (r := r) (by omega) (by omega) g
      rw [this]
      exact w1_s rfl
    · have hne : r ≠ n - u := fun e => g (by rw [e, rho_1 hr])
      rw [e9]
      refine w1_if (fun g2 => ?_) (fun g2 => ?_)
      · rw [nI_leI (by omega) (by omega)] at g2
        omega
      · rw [F (M + r), bi_s, nI_1]
        exact hp2 (k2 - 1) _ _ (by omega) ⟨rfl, r + 1, by omega, by omega, rfl⟩
  · rw [nI_leI (by omega) (by omega)] at h
    rw [F i, bi_s, nI_1]
    exact hp (k - 1) _ _ (by omega) ⟨rfl, i + 1, by omega, rfl⟩
theorem e_ahead {a : Sg} {A B M x n u : Nat} (e7 : a 48 7 = nI A) (e8 : a 48 8 = nI B) (e9 : a 48 9 = nI M) (hA : A ≤ 999) (hB : B ≤ 999) (h1 : 1 ≤ M) (hM : M ≤ 1000) (hx : x < 2 ^ 31) (hr : rho A B M x n u) : fMu_aheadOfRound (nI x) (nI (n - u)) a = some (nI u, a) := by
  have F : ∀ i, fMu_follow (nI (sq A B M x i)) a = some (nI (sq A B M x (i + 1)), a) := fun i => e_follow e7 e8 e9 hA hB h1 hM (sq_lt h1 i)
  have L : ∀ i, sq A B M x i < 1000 := fun i => Nat.lt_of_lt_of_le (sq_lt h1 i) hM
  have hr' := hr
  obtain ⟨r1, r2, _, _⟩ := hr'
  unfold fMu_aheadOfRound
  rw [e_first e9 h1 hM hx, bi_s]
  refine w1_e (w1_lp (fun k v s => s = a ∧ ∃ i, i + k = n - u ∧ v = (nI (sq A B M x i), nI i)) ?_ FU (n - u) _ _ (FU_lt (by omega)) ⟨rfl, 0, by omega, rfl⟩)
  rintro p k v s ⟨rfl, i, hi, rfl⟩ hp
  dsimp only
  refine w1_if (fun h => ?_) (fun h => ?_)
  · rw [nI_leI (by omega) (by omega)] at h
    rw [show i = n - u by omega]
    refine w1_lp (fun k v t => t = s ∧ ∃ j, j + k = u ∧ v = (nI (sq A B M x j), nI (sq A B M x (j + (n - u))), nI j)) ?_ FU u _ _ (FU_lt (by omega)) ⟨rfl, 0, by omega, by rw [Nat.zero_add]; rfl⟩
    rintro p2 k2 v2 t ⟨rfl, j, hj, rfl⟩ hp2
    dsimp only
    have l1 := L j
    have l2 := L (j + (n - u))
    refine w1_if (fun g => ?_) (fun g => ?_)
    · have g := nI_inj (by omega) (by omega) g
      have : j = u := by
        refine Classical.byContradiction fun hne => ?_
        exact rho_3 hr (i := j) (by omega) g
      rw [this]
      exact w1_s rfl
    · have hne : j ≠ u := fun e => g (by rw [e, ← rho_4 hr])
      rw [e9]
      refine w1_if (fun g2 => ?_) (fun g2 => ?_)
      · rw [nI_leI (by omega) (by omega)] at g2
        omega
      · rw [F j, bi_s, F (j + (n - u)), bi_s, nI_1]
        exact hp2 (k2 - 1) _ _ (by omega) ⟨rfl, j + 1, by omega, by rw [show j + (n - u) + 1 = j + 1 + (n - u) by omega]⟩
  · rw [nI_leI (by omega) (by omega)] at h
    rw [F i, bi_s, nI_1]
    exact hp (k - 1) _ _ (by omega) ⟨rfl, i + 1, by omega, rfl⟩
