/-! worths -/
theorem e_isUpM {p : Nat} (hp : p < 10) (s : Sg) : fM_isUp (nI p) s = some (if s 103 (20 + p) = 99 then 1 else 0, s) := by
  unfold fM_isUp
  rw [n20, gd50 _ (by omega), ix_n (by omega)]
  split <;> rfl
theorem e_isUpC (o : Nat) {p : Nat} (hp : p < 10) (s : Sg) : fSc_isUp o (nI p) s = some (if s (hz_rf o 0) (p * 8 + 4) < 99 then 0 else 1, s) := by
  unfold fSc_isUp
  rw [e_St4 o hp, bi_s]
  split <;> rfl
theorem lt99 {x : Int32} (h : bd x 99) : x < 99 ↔ ¬ x = 99 := by
  obtain ⟨k, hk, rfl⟩ := h
  rw [show (99 : Int32) = nI 99 from rfl, nI_ltI (by omega) (by decide), nI_eq (by omega) (by decide)]
  omega
def upS (b : Sg) (i t : Nat) : Prop := ∃ p, p < i ∧ b 103 (20 + p) = 99 ∧ b 108 p = nI t
theorem upS_s (b : Sg) (i t : Nat) : upS b (i + 1) t ↔ upS b i t ∨ (b 103 (20 + i) = 99 ∧ b 108 i = nI t) := by
  constructor
  · rintro ⟨p, hp, h1, h2⟩
    by_cases e : p = i
    · subst e; exact Or.inr ⟨h1, h2⟩
    · exact Or.inl ⟨p, by omega, h1, h2⟩
  · rintro (⟨p, hp, h1, h2⟩ | ⟨h1, h2⟩)
    · exact ⟨p, by omega, h1, h2⟩
    · exact ⟨i, by omega, h1, h2⟩
def pw (w : Nat → Nat) (m x y : Nat) : Nat := if m.testBit x = true ∧ m.testBit y = true then w x + w y + 1 else 0
theorem pw_c (w : Nat → Nat) (m x y : Nat) : pw w m x y = pw w m y x := by
  unfold pw
  rw [Nat.add_comm (w x)]
  by_cases h : m.testBit x = true ∧ m.testBit y = true
  · rw [if_pos h, if_pos ⟨h.2, h.1⟩]
  · rw [if_neg h, if_neg (fun q => h ⟨q.2, q.1⟩)]
def wIn (w : Nat → Nat) (m x : Nat) : Nat → Nat → Nat → Nat
  | 0, _, G => G
  | k + 1, y, G => wIn w m x k (y + 1) (max G (pw w m x y))
def wOut (w : Nat → Nat) (m : Nat) : Nat → Nat → Nat → Nat
  | 0, _, G => G
  | k + 1, x, G => wOut w m k (x + 1) (wIn w m x k (x + 1) G)
def vOut (w : Nat → Nat) (m : Nat) : Nat → Nat → Nat → Nat
  | 0, _, G => G
  | k + 1, x, G => vOut w m k (x + 1) (wIn w m x x 0 G)
theorem wv_eq (w : Nat → Nat) (m : Nat) : wOut w m 4 0 0 = vOut w m 4 0 0 := by
  simp only [wOut, vOut, wIn, Nat.zero_add, Nat.reduceAdd]
  rw [pw_c w m 1 0, pw_c w m 2 0, pw_c w m 2 1, pw_c w m 3 0, pw_c w m 3 1, pw_c w m 3 2]
  omega
theorem mx_p {G P : Nat} (hG : G < 2 ^ 30) (hP : P < 2 ^ 30) : (if nI G - 1 < nI P then nI P else nI G - 1) = nI (max G (P + 1)) - 1 := by
  cases G with
  | zero =>
    rw [if_pos (show nI 0 - 1 < nI P from m1_lt (by omega)), Nat.max_eq_right (by omega), nI_pred]
  | succ G =>
    rw [nI_pred]
    by_cases h : G < P
    · rw [if_pos (nI_lt h (by omega)), Nat.max_eq_right (by omega), nI_pred]
    · rw [if_neg (nI_nlt (by omega) (by omega)), Nat.max_eq_left (by omega), nI_pred]
theorem e_there {b : Sg} {n m t : Nat} (e : b 102 6 = nI n) (hn : n ≤ 10) (ht : t < 4) (hm : m.testBit t = true ↔ upS b n t) : fM_isThere (nI t) b = some (if m.testBit t = true then 1 else 0, b) := by
  unfold fM_isThere
  simp only [bnd_e]
  refine w1_e (w1_lp (fun k v s => s = b ∧ ∃ i, i + k = n ∧ v = nI i ∧ ¬ upS b i t) ?_ FU n _ _ (FU_lt (by omega)) ⟨rfl, 0, by omega, rfl, fun ⟨p, hp, _⟩ => by omega⟩)
  rintro q k v s ⟨rfl, i, hi, rfl, hu⟩ hq
  rw [e]
  refine w1_if (fun h => ?_) (fun h => ?_)
  · rw [nI_leI (by omega) (by omega)] at h
    rw [show i = n by omega] at hu
    rw [gb_0, if_neg (fun q => hu (hm.mp q))]
    exact w1_s rfl
  · rw [nI_leI (by omega) (by omega)] at h
    rw [gd_n _ (show i < 10 by omega) (by decide), ix_n (by omega), e_isUpM (by omega), bi_s, nI_1]
    refine w1_if (fun h1 => ?_) (fun h1 => ?_)
    · by_cases h2 : s 103 (20 + i) = 99
      · rw [if_pos h2, if_neg n10z, gb_1, if_pos (hm.mpr ⟨i, by omega, h2, h1⟩)]
        exact w1_s rfl
      · rw [if_neg h2, if_pos rfl]
        refine hq (k - 1) _ _ (by omega) ⟨rfl, i + 1, by omega, rfl, fun q => ?_⟩
        rcases (upS_s _ _ _).mp q with q | q
        · exact hu q
        · exact h2 q.1
    · refine hq (k - 1) _ _ (by omega) ⟨rfl, i + 1, by omega, rfl, fun q => ?_⟩
      rcases (upS_s _ _ _).mp q with q | q
      · exact hu q
      · exact h1 q.2
theorem worths_c {a b : Sg} (hI : Inv a b) {n : Nat} (k1 : b 102 6 = nI n) (k2 : a 1 1 = nI n) (hn : n ≤ 10) (hp : ∀ p, p < n → gPe (a 2) (b 103) (b 106 p) (b 107 p) (b 108 p) p) (w : Nat → Nat) (hw : ∀ i, i < 4 → a 62 i = nI (w i) ∧ b 139 i = nI (w i) ∧ w i ≤ 99) : W1 (fMu_worthOfTwo 1 a) (fun z => ∃ m, m < 16 ∧ (∀ t, t < 4 → (m.testBit t = true ↔ upS b n t)) ∧ z.1 = nI (wOut w m 4 0 0) - 1) := by
  obtain ⟨_, _, _, _, _, _, _, _, _, _, _, _, ⟨t0, t1⟩, _⟩ : gKc a := hI 18
  have T : ∀ y, y < 4 → fTa_tell 61 (nI y) 0 a = some (nI (w y), a) := fun y hy => by
    have := e_tell (s := a) (t := 61) (i := y) (j := 0) (w := 1) (l := 4) t0 t1 (by decide) (by decide) hy (by decide) (by decide) (by decide)
    rw [show y * 1 + 0 = y by omega, show hz_rf 61 2 = 62 from rfl, (hw y hy).1] at this
    exact this
  unfold fMu_worthOfTwo
  simp only [bnd_e]
  refine w1_lp (fun k v s => s = a ∧ ∃ i m, i + k = n ∧ v = (nI m, nI i) ∧ m < 16 ∧ ∀ t, t < 4 → (m.testBit t = true ↔ upS b i t)) ?_ FU n _ _ (FU_lt (by omega)) ⟨rfl, 0, 0, by omega, rfl, by decide, fun t _ => ⟨fun h => absurd h (by simp), fun ⟨p, hp, _⟩ => by omega⟩⟩
  rintro q k v s ⟨rfl, i, m, hi, rfl, hm, ht⟩ hq
  dsimp only
  rw [k2]
  refine w1_if (fun h => ?_) (fun h => ?_)
  · rw [nI_leI (by omega) (by omega)] at h
    rw [show i = n by omega] at ht
    have hbt : ∀ x, x < 4 → (((nI m >>> (nI x &&& 31)) &&& 1) = 1 ↔ m.testBit x = true) := fun x hx => bt_t (by omega) (by omega)
    refine w1_lp (fun k v t => t = s ∧ ∃ x G, x + k = 4 ∧ v = (nI G - 1, nI x) ∧ G ≤ 200 ∧ wOut w m k x G = wOut w m 4 0 0) ?_ FU 4 _ _ (FU_lt (by omega)) ⟨rfl, 0, 0, by omega, rfl, by omega, rfl⟩
    rintro q2 k v t ⟨rfl, x, G, hx, rfl, hG, hR⟩ hq2
    dsimp only
    refine w1_if (fun h => ?_) (fun h => ?_)
    · have hk : k = 0 := by
        have := (nI_leI (a := 4) (b := x) (by decide) (by omega)).mp h
        omega
      subst hk
      exact w1_s ⟨m, hm, ht, by rw [← hR]; rfl⟩
    · have hk : ¬ 4 ≤ x := fun q => h ((nI_leI (a := 4) (b := x) (by decide) (by omega)).mpr q)
      obtain ⟨k, rfl⟩ : ∃ j, k = j + 1 := ⟨k - 1, by omega⟩
      rw [nI_1]
      refine w1_lp (fun j v u => u = t ∧ ∃ y G, y + j = 4 ∧ x < y ∧ v = (nI G - 1, nI y) ∧ G ≤ 200 ∧ wOut w m k (x + 1) (wIn w m x j y G) = wOut w m 4 0 0) ?_ FU k _ _ (FU_lt (by omega)) ⟨rfl, x + 1, G, by omega, by omega, rfl, hG, hR⟩
      rintro q3 j v u ⟨rfl, y, G, hy, hxy, rfl, hG, hR⟩ hq3
      dsimp only
      refine w1_if (fun h => ?_) (fun h => ?_)
      · have hj : j = 0 := by
          have := (nI_leI (a := 4) (b := y) (by decide) (by omega)).mp h
          omega
        subst hj
        exact hq2 k _ _ (by omega) ⟨rfl, x + 1, G, by omega, rfl, hG, hR⟩
      · have hj : ¬ 4 ≤ y := fun q => h ((nI_leI (a := 4) (b := y) (by decide) (by omega)).mpr q)
        obtain ⟨j, rfl⟩ : ∃ i, j = i + 1 := ⟨j - 1, by omega⟩
        have wx := (hw x (by omega)).2.2
        have wy := (hw y (by omega)).2.2
        rw [nI_1, T x (by omega), bi_s, T y (by omega), bi_s, nI_add, e_max, bi_s, mx_p (by omega) (by omega)]
        have go : ∀ G', G' ≤ 200 → G' = max G (pw w m x y) → W1 (q3 (nI G' - 1, nI (y + 1)) u) (fun z => ∃ m, m < 16 ∧ (∀ t, t < 4 → (m.testBit t = true ↔ upS b n t)) ∧ z.1 = nI (wOut w m 4 0 0) - 1) := fun G' h1 h2 => hq3 j _ _ (by omega) ⟨rfl, y + 1, G', by omega, by omega, rfl, h1, by rw [h2]; exact hR⟩
        refine w1_if (fun h1 => ?_) (fun h1 => ?_)
        · rw [hbt x (by omega)] at h1
          refine w1_if (fun h2 => ?_) (fun h2 => ?_)
          · rw [hbt y (by omega)] at h2
            exact go _ (by omega) (by rw [pw, if_pos ⟨h1, h2⟩])
          · rw [hbt y (by omega)] at h2
            exact go _ hG (by rw [pw, if_neg (fun q => h2 q.2), Nat.max_eq_left (by omega)])
        · rw [hbt x (by omega)] at h1
          exact go _ hG (by rw [pw, if_neg (fun q => h1 q.1), Nat.max_eq_left (by omega)])
  · rw [nI_leI (by omega) (by omega)] at h
    obtain ⟨_, _, r2, _, r4, _, _, _, _, _, ⟨z, hz, et⟩, _, c4, _⟩ := hp i (by omega)
    rw [e_isUpC 1 (by omega), bi_s, hz1, r4, e_St2 1 (by omega), bi_s, hz1, r2, et, sh1 z (by omega), nx_or, nI_1]
    by_cases h1 : b 103 (20 + i) = 99
    · rw [if_neg (fun q => (lt99 c4).mp q h1), if_neg n10z]
      refine hq (k - 1) _ _ (by omega) ⟨rfl, i + 1, m ||| 2 ^ z, by omega, rfl, Nat.or_lt_two_pow (n := 4) hm (Nat.pow_lt_pow_right (by decide) (by omega)), fun t htt => ?_⟩
      rw [tb_or, upS_s, Bool.or_eq_true, decide_eq_true_iff, ht t htt, et, nI_eq (by omega) (by omega)]
      constructor
      · rintro (q | q)
        · exact Or.inl q
        · exact Or.inr ⟨h1, q.symm⟩
      · rintro (q | q)
        · exact Or.inl q
        · exact Or.inr q.2.symm
    · rw [if_pos ((lt99 c4).mpr h1), if_pos rfl]
      refine hq (k - 1) _ _ (by omega) ⟨rfl, i + 1, m, by omega, rfl, hm, fun t htt => ?_⟩
      rw [upS_s, ht t htt]
      constructor
      · exact Or.inl
      · rintro (q | q)
        · exact q
        · exact absurd q.1 h1
theorem sim_worths : Sim fH_worths fM_worths := by
  refine sim_r (fun _ => rfl) fr_H_worths fr_M_worths (by decide) (by decide) (fun a b hI => ?_)
  have h0 : gSc (a 1) (a 2) (b 102 6) (b 103) (b 106) (b 107) (b 108) := hI 0
  obtain ⟨n, hn, k1, k2, _, _, hp⟩ := h0
  have hc : gWo (a 62) (b 139) := hI 12
  obtain ⟨w, hw⟩ : ∃ w : Nat → Nat, ∀ i, i < 4 → a 62 i = nI (w i) ∧ b 139 i = nI (w i) ∧ w i ≤ 99 := by
    refine ⟨fun i => ix (b 139 i), fun i hi => ?_⟩
    obtain ⟨h1, k, hk, e⟩ := hc i hi
    dsimp only
    rw [h1, e, ix_n (by omega)]
    exact ⟨rfl, rfl, hk⟩
  unfold fH_worths
  simp only [bnd_e]
  refine w2_1 (w1_bi (w1_m (worths_c hI k1 k2 hn hp w hw) (fun z hz => w1_s ?_)))
  obtain ⟨m, hm, ht, ez⟩ := hz
  rw [ez, wv_eq]
  have E : ∀ t, t < 4 → fM_isThere (nI t) b = some (if m.testBit t = true then 1 else 0, b) := fun t h => e_there k1 hn h (ht t h)
  refine w1_lp (fun k v t => t = b ∧ ∃ x G, x + k = 4 ∧ v = (nI G - 1, nI x) ∧ G ≤ 200 ∧ vOut w m k x G = vOut w m 4 0 0) ?_ FU 4 _ _ (FU_lt (by omega)) ⟨rfl, 0, 0, by omega, rfl, by omega, rfl⟩
  rintro q2 k v t ⟨rfl, x, G, hx, rfl, hG, hR⟩ hq2
  dsimp only
  refine w1_if (fun h => ?_) (fun h => ?_)
  · have hk : k = 0 := by
      have := (nI_leI (a := 4) (b := x) (by decide) (by omega)).mp h
      omega
    subst hk
    exact w1_s (by rw [← hR]; rfl)
  · have hk : ¬ 4 ≤ x := fun q => h ((nI_leI (a := 4) (b := x) (by decide) (by omega)).mpr q)
    obtain ⟨k, rfl⟩ : ∃ j, k = j + 1 := ⟨k - 1, by omega⟩
    refine w1_lp (fun j v u => u = t ∧ ∃ y G, y + j = x ∧ v = (nI G - 1, nI y) ∧ G ≤ 200 ∧ vOut w m k (x + 1) (wIn w m x j y G) = vOut w m 4 0 0) ?_ FU x _ _ (FU_lt (by omega)) ⟨rfl, 0, G, by omega, rfl, hG, hR⟩
    rintro q3 j v u ⟨rfl, y, G, hy, rfl, hG, hR⟩ hq3
    dsimp only
    refine w1_if (fun h => ?_) (fun h => ?_)
    · have hj : j = 0 := by
        rw [nI_leI (by omega) (by omega)] at h
        omega
      subst hj
      rw [nI_1]
      exact hq2 k _ _ (by omega) ⟨rfl, x + 1, G, by omega, rfl, hG, hR⟩
    · rw [nI_leI (by omega) (by omega)] at h
      obtain ⟨j, rfl⟩ : ∃ i, j = i + 1 := ⟨j - 1, by omega⟩
      have wx := (hw x (by omega)).2
      have wy := (hw y (by omega)).2
      rw [nI_1, E x (by omega), bi_s, E y (by omega), bi_s, gd_n _ (show x < 4 by omega) (by decide), gd_n _ (show y < 4 by omega) (by decide), ix_n (by omega), ix_n (by omega), wx.1, wy.1, nI_add, e_gr, bi_s, mx_p (by omega) (by omega)]
      have go : ∀ G', G' ≤ 200 → G' = max G (pw w m x y) → W1 (q3 (nI G' - 1, nI (y + 1)) u) (fun z' => nI (vOut w m 4 0 0) - 1 = z'.1) := fun G' h1 h2 => hq3 j _ _ (by omega) ⟨rfl, y + 1, G', by omega, rfl, h1, by rw [h2]; exact hR⟩
      by_cases h1 : m.testBit x = true
      · rw [if_pos h1, if_neg n10z]
        by_cases h2 : m.testBit y = true
        · rw [if_pos h2, if_neg n10z]
          exact go _ (by omega) (by rw [pw, if_pos ⟨h1, h2⟩])
        · rw [if_neg h2, if_pos rfl]
          exact go _ hG (by rw [pw, if_neg (fun q => h2 q.2), Nat.max_eq_left (by omega)])
      · rw [if_neg h1, if_pos rfl]
        exact go _ hG (by rw [pw, if_neg (fun q => h1 q.1), Nat.max_eq_left (by omega)])
