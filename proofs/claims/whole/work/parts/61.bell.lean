/-! bell -/
def chI (v0 : Int32) (k : Nat) : Int32 := fld (fun i (w : Int32) => w * ((v0 - nI i) + 1) / nI i) 1 k 1
theorem e_cho (v0 : Int32) {k : Nat} (hk : k < 4000) (s : Sg) : fMu_choices v0 (nI k) s = some (chI v0 k, s) := by
  unfold fMu_choices
  simp only [bnd_e]
  refine w1_e (w1_lp (fun j v t => t = s ∧ ∃ i w, i + j = k + 1 ∧ 1 ≤ i ∧ v = (w, nI i) ∧ fld (fun i (w : Int32) => w * ((v0 - nI i) + 1) / nI i) i j w = chI v0 k) ?_ FU k _ _ (FU_lt (by omega)) ⟨rfl, 1, 1, by omega, by omega, rfl, rfl⟩)
  rintro q j v t ⟨rfl, i, w, hi, h1, rfl, hR⟩ hq
  dsimp only
  refine w1_if (fun h => ?_) (fun h => ?_)
  · rw [nI_ltI (by omega) (by omega)] at h
    have : j = 0 := by omega
    subst this
    exact w1_s (by rw [← hR]; rfl)
  · rw [nI_ltI (by omega) (by omega)] at h
    obtain ⟨j, rfl⟩ : ∃ x, j = x + 1 := ⟨j - 1, by omega⟩
    rw [gz_n _ (nI_ne0 (by omega) (by omega)), nI_1]
    exact hq j _ _ (by omega) ⟨rfl, i + 1, _, by omega, by omega, rfl, hR⟩
def wsI (g k : Nat) : Int32 := fld (fun t (c : Int32) => c + chI (nI g) t * chI (nI g - nI t) (k - 2 * t)) 0 (min g (k / 2) + 1) 0
theorem e_ways {g k : Nat} (hg : g < 100) (hk : k < 100) (s : Sg) : fMu_waysToSound (nI g) (nI k) s = some (wsI g k, s) := by
  unfold fMu_waysToSound
  refine w1_e (w1_lp (fun j v t => t = s ∧ ∃ i w, i + j = min g (k / 2) + 1 ∧ v = (w, nI i) ∧ fld (fun t (c : Int32) => c + chI (nI g) t * chI (nI g - nI t) (k - 2 * t)) i j w = wsI g k) ?_ FU (min g (k / 2) + 1) _ _ (FU_lt (by omega)) ⟨rfl, 0, 0, by omega, rfl, rfl⟩)
  rintro q j v t ⟨rfl, i, w, hi, rfl, hR⟩ hq
  dsimp only
  rw [show 2 * nI i = nI (2 * i) from pk_mul 2 i]
  refine w1_if (fun h => ?_) (fun h => ?_)
  · rw [nI_ltI (by omega) (by omega)] at h
    have : j = 0 := by omega
    subst this
    exact w1_s (by rw [← hR]; rfl)
  · rw [nI_ltI (by omega) (by omega)] at h
    refine w1_if (fun h2 => ?_) (fun h2 => ?_)
    · rw [nI_ltI (by omega) (by omega)] at h2
      have : j = 0 := by omega
      subst this
      exact w1_s (by rw [← hR]; rfl)
    · rw [nI_ltI (by omega) (by omega)] at h2
      obtain ⟨j, rfl⟩ : ∃ x, j = x + 1 := ⟨j - 1, by omega⟩
      rw [e_cho _ (show i < 4000 by omega), bi_s, show nI k - nI (2 * i) = nI (k - 2 * i) from pk_sub (by omega), e_cho _ (show k - 2 * i < 4000 by omega), bi_s, nI_1]
      exact hq j _ _ (by omega) ⟨rfl, i + 1, _, by omega, rfl, hR⟩
def sm (f : Nat → Nat) : Nat → Nat → Nat
  | _, 0 => 0
  | x, j + 1 => f x + sm f (x + 1) j
theorem sm_add (f : Nat → Nat) : ∀ (i j x : Nat), sm f x (i + j) = sm f x i + sm f (x + i) j
  | 0, j, x => by rw [Nat.zero_add, Nat.add_zero, sm, Nat.zero_add]
  | i + 1, j, x => by
    rw [show i + 1 + j = i + j + 1 by omega, sm, sm, sm_add f i j (x + 1), show x + 1 + i = x + (i + 1) by omega, Nat.add_assoc]
def bsum (f : Nat → Nat) : Nat → Nat → Nat
  | 0, lo => f lo
  | k + 1, lo => bsum f k lo + bsum f k (lo + 2 ^ k)
theorem bsum_e (f : Nat → Nat) : ∀ (k lo : Nat), bsum f k lo = sm f lo (2 ^ k)
  | 0, lo => by rw [bsum, Nat.pow_zero, sm, sm, Nat.add_zero]
  | k + 1, lo => by rw [bsum, bsum_e f k lo, bsum_e f k (lo + 2 ^ k), Nat.pow_succ, Nat.mul_two, sm_add]
def pcF : Nat → Nat → Nat
  | 0, _ => 0
  | k + 1, n => n % 2 + pcF k (n / 2)
theorem pcF_e : ∀ (k n : Nat), n < 2 ^ k → pcF k n = pc n
  | 0, n, h => by
    rw [Nat.pow_zero] at h
    rw [show n = 0 by omega, pc_0, pcF]
  | k + 1, n, h => by
    rw [Nat.pow_succ] at h
    rw [pcF, pc_s n, pcF_e k (n / 2) (by omega)]
def fB (k x : Nat) : Nat := if pcF 12 x = k ∧ (x &&& x / 2) &&& x / 4 = 0 then 1 else 0
theorem bell_ok : ∀ n, n < 13 → ∀ k, k < 13 → 1 ≤ n → k ≤ n → nI (bsum (fB k) n 0) = wsI (n - k + 1) k := by decide +kernel
theorem p12 {n : Nat} (h : n ≤ 12) : 2 ^ n ≤ 4096 := Nat.pow_le_pow_right (n := 2) (by decide) h
theorem sim_bell (v w : Int32) : Sim (fH_bell v w) (fM_bell v w) := by
  refine sim_r (fun _ => rfl) (fr_H_bell v w) (fr_M_bell v w) (by decide) (by decide) (fun a b hI => ?_)
  unfold fH_bell
  simp only [e_within, e_isIn, bi_s, bnd_e]
  by_cases h1 : wi v 1 12 = 0
  · simp only [if_pos h1]
    exact w2_s rfl
  obtain ⟨n, hn1, hn, rfl⟩ := wi_1 (a := 1) (b := 12) (by decide) (by decide) h1
  by_cases h2 : wi w 0 (nI n) = 0
  · simp only [if_neg h1, if_pos h2]
    exact w2_s rfl
  simp only [if_neg h1, if_neg h2]
  obtain ⟨k, _, hk, rfl⟩ := wi_1 (a := 0) (b := n) (by decide) (by omega) h2
  rw [pk_sub hk, nI_1, e_ways (by omega) (by omega), bi_s, sh1 n (by omega)]
  have h12 := p12 hn
  refine w2_1 (w1_s ?_)
  rw [← bell_ok n (by omega) k (by omega) hn1 hk, bsum_e]
  refine w1_lp (fun j v t => t = b ∧ ∃ x c, x + j = 2 ^ n ∧ v = (nI c, nI x) ∧ c + sm (fB k) x j = sm (fB k) 0 (2 ^ n)) ?_ FU (2 ^ n) _ _ (FU_lt (by omega)) ⟨rfl, 0, 0, by omega, rfl, by omega⟩
  rintro q j v t ⟨rfl, x, c, hx, rfl, hR⟩ hq
  dsimp only
  refine w1_if (fun h => ?_) (fun h => ?_)
  · rw [nI_leI (by omega) (by omega)] at h
    have : j = 0 := by omega
    subst this
    rw [sm] at hR
    exact w1_s (by rw [← hR]; rfl)
  · rw [nI_leI (by omega) (by omega)] at h
    obtain ⟨j, rfl⟩ : ∃ x, j = x + 1 := ⟨j - 1, by omega⟩
    have hx4 : x < 2 ^ 12 := by
      have : (2 : Nat) ^ 12 = 4096 := rfl
      omega
    rw [sm] at hR
    have hle : pc x ≤ 12 := pc_le 12 x hx4
    have s1 : nI x >>> (1 &&& 31) = nI (x / 2) := shr_n (i := 1) (by omega) (by decide)
    have s2 : nI x >>> (2 &&& 31) = nI (x / 4) := shr_n (i := 2) (by omega) (by decide)
    rw [e_ones (by omega), bi_s, s1, s2, nx_and, nx_and, nI_1, nI_1]
    have hsm : (x &&& x / 2) &&& x / 4 < 2 ^ 31 := Nat.lt_of_le_of_lt Nat.and_le_left (Nat.lt_of_le_of_lt Nat.and_le_left (by omega))
    refine w1_if (fun g1 => ?_) (fun g1 => ?_)
    · rw [nI_eq (by omega) (by omega)] at g1
      refine w1_if (fun g2 => ?_) (fun g2 => ?_)
      · have g2 : (x &&& x / 2) &&& x / 4 = 0 := nI_inj hsm (by decide) g2
        rw [fB, if_pos ⟨by rw [pcF_e 12 x hx4]; exact g1, g2⟩] at hR
        exact hq j _ _ (by omega) ⟨rfl, x + 1, c + 1, by omega, rfl, by omega⟩
      · rw [fB, if_neg (fun q => g2 (by rw [q.2]; rfl))] at hR
        exact hq j _ _ (by omega) ⟨rfl, x + 1, c, by omega, rfl, by omega⟩
    · rw [nI_eq (by omega) (by omega)] at g1
      rw [fB, if_neg (fun q => g1 (by rw [← pcF_e 12 x hx4]; exact q.1))] at hR
      exact hq j _ _ (by omega) ⟨rfl, x + 1, c, by omega, rfl, by omega⟩
