/-! could -/
theorem e_suits {a : Sg} {S : Nat → Nat} (hS : ∀ w, w < 20 → a 29 w = nI (S w)) (hB : ∀ w, S w < 1024) (h20 : S 20 = 0) {w q : Nat} (hw : w ≤ 20) (hq : q ≤ 9) : fTe_suits 19 (nI w) (nI q) a = some (if (S w).testBit q = true then 1 else 0, a) := by
  unfold fTe_suits fTe_answered
  have hb := hB w
  rw [e_isQuestion, bi_s, show wi (nI q) 0 9 = 1 by rw [show (0 : Int32) = nI 0 from rfl, show (9 : Int32) = nI 9 from rfl, wi_n (by omega) (by decide) (by decide), if_pos (by omega)], if_neg n10z, if_neg (nI_pos (by omega))]
  have key : ∀ m, m < 1024 → m = S w → (bi (some (nI m, a)) fun r4 s3 => if ((r4 >>> (nI q &&& 31)) &&& 1) = 1 then (gb 1 (some ((1 : Int32), s3))) else (gb 0 (some (0, s3)))) = some (if (S w).testBit q = true then 1 else 0, a) := by
    intro m hm e
    subst e
    rw [bi_s, bt_n (by omega) (by omega)]
    cases (S w).testBit q
    · rfl
    · rfl
  by_cases e : w = 20
  · rw [if_pos (show (20 : Int32) ≤ nI w by rw [e]; decide)]
    exact key 0 (by omega) (by rw [e, h20])
  · rw [if_neg (show ¬ (20 : Int32) ≤ nI w from nI_ge (b := 20) (by omega) (by decide)), gd_n _ (show w < 20 by omega) (by decide), ix_n (by omega), show hz_rf 19 3 = 29 from rfl, hS w (by omega)]
    exact key (S w) hb rfl
def agB (S q r : Nat → Nat) (w : Nat) : Nat → Nat → Bool
  | _, 0 => true
  | i, k + 1 => ((S w).testBit (q i) == decide (r i = 1)) && agB S q r w (i + 1) k
theorem sm_sh (f : Nat → Nat) : ∀ (k x : Nat), sm f (x + 1) k = sm (fun i => f (i + 1)) x k
  | 0, _ => rfl
  | k + 1, x => by rw [sm, sm, sm_sh f k (x + 1)]
theorem sm_le {f g : Nat → Nat} : ∀ (k x : Nat), (∀ i, x ≤ i → i < x + k → f i ≤ g i) → sm f x k ≤ sm g x k
  | 0, _, _ => Nat.le_refl _
  | k + 1, x, h => by
    rw [sm, sm]
    have := h x (by omega) (by omega)
    have := sm_le k (x + 1) (fun i h1 h2 => h i (by omega) (by omega))
    omega
theorem sm_eq {f g : Nat → Nat} (k x : Nat) (h : ∀ i, x ≤ i → i < x + k → f i = g i) : sm f x k = sm g x k :=
  Nat.le_antisymm (sm_le k x (fun i h1 h2 => Nat.le_of_eq (h i h1 h2))) (sm_le k x (fun i h1 h2 => Nat.le_of_eq (h i h1 h2).symm))
theorem pc_sm : ∀ (k m : Nat), m < 2 ^ k → sm (fun i => if m.testBit i = true then 1 else 0) 0 k = pc m
  | 0, m, h => by
    rw [Nat.pow_zero] at h
    rw [show m = 0 by omega, pc_0, sm]
  | k + 1, m, h => by
    rw [Nat.pow_succ] at h
    rw [sm, sm_sh, pc_s m, ← pc_sm k (m / 2) (by omega)]
    congr 1
    · rw [Nat.testBit_eq_decide_div_mod_eq, Nat.pow_zero, Nat.div_one]
      rcases Nat.mod_two_eq_zero_or_one m with e | e <;> rw [e] <;> rfl
    · refine sm_eq k 0 (fun i _ _ => ?_)
      rw [Nat.testBit_succ]
def mrF (S : Nat → Nat) (m q : Nat) : Nat := sm (fun w => if m.testBit w = true ∧ (S w).testBit q = true then 1 else 0) 0 20
theorem mr_le (S : Nat → Nat) {m : Nat} (q : Nat) (hm : m < 2 ^ 21) : mrF S m q ≤ pc m := by
  rw [← pc_sm 21 m hm, mrF, show (21 : Nat) = 20 + 1 from rfl, sm_add]
  refine Nat.le_trans (sm_le (g := fun i => if m.testBit i = true then 1 else 0) 20 0 (fun i _ _ => ?_)) (Nat.le_add_right _ _)
  split
  · rename_i h
    rw [if_pos h.1]
    exact Nat.le_refl _
  · exact Nat.zero_le _
theorem could_set {a b : Sg} {n : Nat} {S q r : Nat → Nat} (hn : n ≤ 10) (e1 : a 49 3 = nI n) (e2 : b 102 43 = nI n) (t0 : a 49 0 = nI 2) (t1 : a 49 1 = nI 10) (hqr : ∀ i, i < 10 → a 50 (i * 2) = nI (q i) ∧ a 50 (i * 2 + 1) = nI (r i) ∧ b 126 i = nI (q i) ∧ b 127 i = nI (r i) ∧ q i ≤ 9 ∧ r i ≤ 1)
    (hS : ∀ w, w < 20 → a 29 w = nI (S w)) (hM : ∀ w, w < 20 → b 122 w = nI (S w)) (hB : ∀ w, S w < 1024) (h20 : S 20 = 0) : W2 (fMu_wordsThatCould a) (fM_couldSet b) (fun x y => x.2 = a ∧ y.2 = b ∧ ∃ m, m < 2 ^ 21 ∧ x.1 = nI m ∧ y.1 = nI m) := by
  have ag : ∀ w, w ≤ 20 → fMu_agrees (nI w) a = some (if agB S q r w 0 n = true then 1 else 0, a) := by
    intro w hw
    unfold fMu_agrees
    simp only [bnd_e]
    refine w1_e (w1_lp (fun k v s => s = a ∧ ∃ i, i + k = n ∧ v = nI i ∧ agB S q r w i k = agB S q r w 0 n) ?_ FU n _ _ (FU_lt (by omega)) ⟨rfl, 0, by omega, rfl, rfl⟩)
    rintro p k v s ⟨rfl, i, hi, rfl, hA⟩ hp
    rw [e1]
    refine w1_if (fun h => ?_) (fun h => ?_)
    · rw [nI_leI (by omega) (by omega)] at h
      have : k = 0 := by omega
      subst this
      rw [← hA, agB, gb_1, if_pos rfl]
      exact w1_s rfl
    · rw [nI_leI (by omega) (by omega)] at h
      obtain ⟨k, rfl⟩ : ∃ x, k = x + 1 := ⟨k - 1, by omega⟩
      obtain ⟨h1, h2, _, _, h5, h6⟩ := hqr i (by omega)
      have T1 : fTa_tell 49 (nI i) 1 s = some (nI (r i), s) := by
        rw [← h2]; exact e_tell (j := 1) t0 t1 (by decide) (by decide) (show i < 10 by omega) (by decide) (by decide) (by decide)
      have T0 : fTa_tell 49 (nI i) 0 s = some (nI (q i), s) := by
        rw [← h1]; exact e_tell (j := 0) t0 t1 (by decide) (by decide) (show i < 10 by omega) (by decide) (by decide) (by decide)
      simp only [T1, bi_s, T0, e_suits hS hB h20 hw h5, nI_1, gb_0]
      rw [agB] at hA
      have h6' : r i = 0 ∨ r i = 1 := by omega
      have fin : ∀ c : Int32, (c = if r i = 1 then 1 else 0) → W1 (if (if (S w).testBit (q i) = true then (1 : Int32) else 0) = c then p (nI (i + 1)) s else some (0, s)) (fun z => z = (if agB S q r w 0 n = true then (1 : Int32) else 0, s)) := by
        intro c hc
        by_cases g : (S w).testBit (q i) = true
        · rcases h6' with g2 | g2
          · rw [g2, if_neg (by decide)] at hc
            rw [if_pos g, hc, if_neg n10z]
            rw [g, g2] at hA
            rw [← hA]
            exact w1_s rfl
          · rw [g2, if_pos rfl] at hc
            rw [if_pos g, hc, if_pos rfl]
            rw [g, g2] at hA
            exact hp k _ _ (by omega) ⟨rfl, i + 1, by omega, rfl, hA⟩
        · have g' : (S w).testBit (q i) = false := by simpa using g
          rcases h6' with g2 | g2
          · rw [g2, if_neg (by decide)] at hc
            rw [if_neg g, hc, if_pos rfl]
            rw [g', g2] at hA
            exact hp k _ _ (by omega) ⟨rfl, i + 1, by omega, rfl, hA⟩
          · rw [g2, if_pos rfl] at hc
            rw [if_neg g, hc, if_neg (by decide)]
            rw [g', g2] at hA
            rw [← hA]
            exact w1_s rfl
      rcases h6' with g2 | g2
      · rw [if_neg (show ¬ nI (r i) = 1 by rw [g2]; decide)]
        exact fin 0 (by rw [g2, if_neg (by decide)])
      · rw [if_pos (show nI (r i) = 1 by rw [g2]; rfl)]
        exact fin 1 (by rw [g2, if_pos rfl])
  unfold fMu_wordsThatCould fM_couldSet
  simp only [bnd_e]
  refine w2_lp (fun j v s w t => s = a ∧ t = b ∧ ∃ i m, i + j = 21 ∧ v = (nI m, nI i) ∧ w = (nI m, nI i) ∧ m < 2 ^ 21) ?_ FU FU 21 _ _ _ _ (FU_lt (by omega)) (FU_lt (by omega)) ⟨rfl, rfl, 0, 0, by omega, rfl, rfl, by decide⟩
  rintro p p' j v s w t ⟨rfl, rfl, i, m, hi, rfl, rfl, hm⟩ hp
  dsimp only
  refine w2_if Iff.rfl (fun h => ?_) (fun h => ?_)
  · exact w2_s ⟨rfl, rfl, m, hm, rfl, rfl⟩
  have h : ¬ 20 < i := fun q => h ((nI_ltI (a := 20) (b := i) (by decide) (by omega)).mpr q)
  rw [ag i (by omega), bi_s, nI_1]
  have hsh : (1 : Int32) <<< (nI i &&& 31) = nI (2 ^ i) := sh1 i (by omega)
  rw [hsh, nx_or]
  have hm2 : m ||| 2 ^ i < 2 ^ 21 := Nat.or_lt_two_pow hm (Nat.pow_lt_pow_right (by decide) (by omega))
  -- the reference's inner loop
  have inner : ∀ (K : Int32 × Int32 → Sg → Option (Int32 × Sg)) (Q : Int32 × Sg → Prop), W1 (K (if agB S q r i 0 n = true then 1 else 0, nI n) t) Q → W1 (lp FU (fun q15 (u15 : Int32 × Int32) (s2 : Sg) => if (s2 102 43) ≤ u15.2 then K u15 s2 else (bi (fM_suitOf (nI i) s2) fun r6 s5 => gd u15.2 10 (gd u15.2 10 (if ((r6 >>> ((s5 126 (ix u15.2)) &&& 31)) &&& 1) = (s5 127 (ix u15.2)) then (q15 (u15.1, (u15.2 + 1)) s5) else (q15 (0, (u15.2 + 1)) s5))))) (1, 0) t) Q := by
    intro K Q hK
    have su : fM_suitOf (nI i) t = some (nI (S i), t) := by
      unfold fM_suitOf
      by_cases e : i = 20
      · rw [if_pos (show nI i = 20 by rw [e]; rfl), e, h20]; rfl
      · rw [if_neg (show ¬ nI i = 20 from nI_ne 20 e (by omega) (by decide)), gd_n _ (show i < 40 by omega) (by decide), ix_n (by omega), hM i (by omega)]
    refine w1_lp (fun k v u => u = t ∧ ∃ (x : Nat) (c : Bool), x + k = n ∧ v = (if c = true then 1 else 0, nI x) ∧ (c && agB S q r i x k) = agB S q r i 0 n) ?_ FU n _ _ (FU_lt (by omega)) ⟨rfl, 0, true, by omega, rfl, by simp⟩
    rintro p k v u ⟨rfl, x, c, hx, rfl, hA⟩ hp
    dsimp only
    rw [e2]
    refine w1_if (fun h => ?_) (fun h => ?_)
    · rw [nI_leI (by omega) (by omega)] at h
      have : k = 0 := by omega
      subst this
      rw [agB, Bool.and_true] at hA
      rw [show x = n by omega, hA]
      exact hK
    · rw [nI_leI (by omega) (by omega)] at h
      obtain ⟨k, rfl⟩ : ∃ x, k = x + 1 := ⟨k - 1, by omega⟩
      obtain ⟨_, _, h3, h4, h5, h6⟩ := hqr x (by omega)
      have hbi := hB i
      rw [su, bi_s, gd_n _ (show x < 10 by omega) (by decide), gd_n _ (show x < 10 by omega) (by decide), ix_n (by omega), h3, h4, bt_n (by omega) (by omega), nI_1]
      rw [agB] at hA
      have h6' : r x = 0 ∨ r x = 1 := by omega
      by_cases g : (S i).testBit (q x) = true
      · rw [if_pos g]
        rw [g] at hA
        rcases h6' with g2 | g2
        · rw [g2, if_neg (by decide)]
          rw [g2] at hA
          exact hp k _ _ (by omega) ⟨rfl, x + 1, false, by omega, rfl, by simpa using hA⟩
        · rw [g2, if_pos (show (1 : Int32) = nI 1 from rfl)]
          rw [g2] at hA
          exact hp k _ _ (by omega) ⟨rfl, x + 1, c, by omega, rfl, by simpa using hA⟩
      · have g' : (S i).testBit (q x) = false := by simpa using g
        rw [if_neg g]
        rw [g'] at hA
        rcases h6' with g2 | g2
        · rw [g2, if_pos (show (0 : Int32) = nI 0 from rfl)]
          rw [g2] at hA
          exact hp k _ _ (by omega) ⟨rfl, x + 1, c, by omega, rfl, by simpa using hA⟩
        · rw [g2, if_neg (by decide)]
          rw [g2] at hA
          exact hp k _ _ (by omega) ⟨rfl, x + 1, false, by omega, rfl, by simpa using hA⟩
  by_cases g : agB S q r i 0 n = true
  · rw [if_pos g, if_neg n10z]
    obtain ⟨x, y, f1, f2, f3⟩ := hp (j - 1) (nI (m ||| 2 ^ i), nI (i + 1)) s (nI (m ||| 2 ^ i), nI (i + 1)) t (by omega) ⟨rfl, rfl, i + 1, _, by omega, rfl, rfl, hm2⟩
    refine ⟨x, ?_⟩
    obtain ⟨y', g1, g2⟩ := inner (fun u15 s2 => if u15.1 = 0 then (p' (nI m, nI (i + 1)) s2) else (p' (nI (m ||| 2 ^ i), nI (i + 1)) s2)) (fun y => x.2 = s ∧ y.2 = t ∧ ∃ m, m < 2 ^ 21 ∧ x.1 = nI m ∧ y.1 = nI m) (by
      dsimp only
      rw [if_pos g, if_neg n10z]
      exact ⟨y, f2, f3⟩)
    exact ⟨y', f1, g1, g2⟩
  · rw [if_neg g, if_pos rfl]
    obtain ⟨x, y, f1, f2, f3⟩ := hp (j - 1) (nI m, nI (i + 1)) s (nI m, nI (i + 1)) t (by omega) ⟨rfl, rfl, i + 1, _, by omega, rfl, rfl, hm⟩
    refine ⟨x, ?_⟩
    obtain ⟨y', g1, g2⟩ := inner (fun u15 s2 => if u15.1 = 0 then (p' (nI m, nI (i + 1)) s2) else (p' (nI (m ||| 2 ^ i), nI (i + 1)) s2)) (fun y => x.2 = s ∧ y.2 = t ∧ ∃ m, m < 2 ^ 21 ∧ x.1 = nI m ∧ y.1 = nI m) (by
      dsimp only
      rw [if_neg g, if_pos rfl]
      exact ⟨y, f2, f3⟩)
    exact ⟨y', f1, g1, g2⟩
theorem e_mr {a : Sg} {S : Nat → Nat} (hS : ∀ w, w < 20 → a 29 w = nI (S w)) (hB : ∀ w, S w < 1024) (h20 : S 20 = 0) {m q : Nat} (hm : m < 2 ^ 21) (hq : q ≤ 9) : fMu_manyRight (nI m) (nI q) a = some (nI (mrF S m q), a) := by
  unfold fMu_manyRight
  simp only [bnd_e]
  refine w1_e (w1_lp (fun k v s => s = a ∧ ∃ i c, i + k = 20 ∧ v = (nI c, nI i) ∧ c + sm (fun w => if m.testBit w = true ∧ (S w).testBit q = true then 1 else 0) i k = mrF S m q) ?_ FU 20 _ _ (FU_lt (by omega)) ⟨rfl, 0, 0, by omega, rfl, by rw [Nat.zero_add, mrF]⟩)
  rintro p k v s ⟨rfl, i, c, hi, rfl, hA⟩ hp
  dsimp only
  refine w1_if (fun h => ?_) (fun h => ?_)
  · have h := (nI_leI (a := 20) (b := i) (by decide) (by omega)).mp h
    have : k = 0 := by omega
    subst this
    rw [sm] at hA
    rw [← hA]
    exact w1_s rfl
  · have h : ¬ 20 ≤ i := fun q => h ((nI_leI (a := 20) (b := i) (by decide) (by omega)).mpr q)
    obtain ⟨k, rfl⟩ : ∃ x, k = x + 1 := ⟨k - 1, by omega⟩
    rw [sm] at hA
    rw [e_suits hS hB h20 (by omega) hq, bi_s, nI_1, nI_1, bt_n (by omega) (by omega)]
    by_cases g : m.testBit i = true
    · rw [if_pos g, if_pos rfl]
      by_cases g2 : (S i).testBit q = true
      · rw [if_pos g2, if_neg n10z]
        rw [if_pos ⟨g, g2⟩] at hA
        exact hp k _ _ (by omega) ⟨rfl, i + 1, c + 1, by omega, rfl, by omega⟩
      · rw [if_neg g2, if_pos rfl]
        rw [if_neg (fun h => g2 h.2)] at hA
        exact hp k _ _ (by omega) ⟨rfl, i + 1, c, by omega, rfl, by omega⟩
    · rw [if_neg g, if_neg (by decide)]
      rw [if_neg (fun h => g h.1)] at hA
      exact hp k _ _ (by omega) ⟨rfl, i + 1, c, by omega, rfl, by omega⟩
theorem mr_in {R : Type} {b : Sg} {S : Nat → Nat} (hM : ∀ w, w < 20 → b 122 w = nI (S w)) (hB : ∀ w, S w < 1024) {m q : Nat} (hm : m < 2 ^ 21) (hq : q ≤ 9) {K : Int32 → Sg → Option R} {Q : R → Prop} (hK : W1 (K (nI (mrF S m q)) b) Q) : W1 (lp FU (fun q65 (u65 : Int32 × Int32) (s9 : Sg) => if 20 ≤ u65.2 then K u65.1 s9 else (bi (fM_has (nI m) u65.2 s9) fun r16 s15 => if r16 = 0 then (q65 (u65.1, (u65.2 + 1)) s15) else (gd u65.2 40 (bi (fM_has (s15 122 (ix u65.2)) (nI q) s15) fun r19 s18 => if r19 = 0 then (q65 (u65.1, (u65.2 + 1)) s18) else (q65 (u65.1 + 1, (u65.2 + 1)) s18))))) (0, 0) b) Q := by
  refine w1_lp (fun k v s => s = b ∧ ∃ i c, i + k = 20 ∧ v = (nI c, nI i) ∧ c + sm (fun w => if m.testBit w = true ∧ (S w).testBit q = true then 1 else 0) i k = mrF S m q) ?_ FU 20 _ _ (FU_lt (by omega)) ⟨rfl, 0, 0, by omega, rfl, by rw [Nat.zero_add, mrF]⟩
  rintro p k v s ⟨rfl, i, c, hi, rfl, hA⟩ hp
  dsimp only
  refine w1_if (fun h => ?_) (fun h => ?_)
  · have h := (nI_leI (a := 20) (b := i) (by decide) (by omega)).mp h
    have : k = 0 := by omega
    subst this
    rw [sm] at hA
    rw [show c = mrF S m q from hA]
    exact hK
  · have h : ¬ 20 ≤ i := fun q => h ((nI_leI (a := 20) (b := i) (by decide) (by omega)).mpr q)
    obtain ⟨k, rfl⟩ : ∃ x, k = x + 1 := ⟨k - 1, by omega⟩
    have hbi := hB i
    rw [sm] at hA
    rw [e_hasN (by omega) (by omega), bi_s, gd_n _ (show i < 40 by omega) (by decide), ix_n (by omega), hM i (by omega), e_hasN (by omega) (by omega), bi_s, nI_1, nI_1]
    by_cases g : m.testBit i = true
    · rw [if_pos g, if_neg n10z]
      by_cases g2 : (S i).testBit q = true
      · rw [if_pos g2, if_neg n10z]
        rw [if_pos ⟨g, g2⟩] at hA
        exact hp k _ _ (by omega) ⟨rfl, i + 1, c + 1, by omega, rfl, by omega⟩
      · rw [if_neg g2, if_pos rfl]
        rw [if_neg (fun h => g2 h.2)] at hA
        exact hp k _ _ (by omega) ⟨rfl, i + 1, c, by omega, rfl, by omega⟩
    · rw [if_neg g, if_pos rfl]
      rw [if_neg (fun h => g h.1)] at hA
      exact hp k _ _ (by omega) ⟨rfl, i + 1, c, by omega, rfl, by omega⟩
theorem st_S {a b : Sg} (hI : Inv a b) : ∃ S : Nat → Nat, (∀ w, w < 20 → a 29 w = nI (S w)) ∧ (∀ w, w < 20 → b 122 w = nI (S w)) ∧ (∀ w, S w < 1024) ∧ S 20 = 0 := by
  obtain ⟨_, h⟩ : gSt (a 29) (b 122) (a 19 4) (b 102 38) := hI 3
  refine ⟨fun w => if w < 20 then ix (b 122 w) else 0, fun w hw => ?_, fun w hw => ?_, fun w => ?_, rfl⟩
  · obtain ⟨h1, k, hk, e⟩ := h w hw
    dsimp only
    rw [if_pos hw, h1, e, ix_n (by omega)]
  · obtain ⟨h1, k, hk, e⟩ := h w hw
    dsimp only
    rw [if_pos hw, e, ix_n (by omega)]
  · dsimp only
    split
    · rename_i hw
      obtain ⟨h1, k, hk, e⟩ := h w hw
      rw [e, ix_n (by omega)]
      omega
    · omega
theorem sim_could (v : Int32) : Sim (fH_could v) (fM_could v) := by
  refine sim_r (fun _ => rfl) (fr_H_could v) (fr_M_could v) (by decide) (by decide) (fun a b hI => ?_)
  obtain ⟨⟨n, hn, e1, e2⟩, hc⟩ : gAn (a 49) (a 50) (b 102 43) (b 126) (b 127) := hI 5
  obtain ⟨_, _, _, _, _, _, ⟨t0, t1⟩, _⟩ : gKc a := hI 18
  obtain ⟨S, hS, hM, hB, h20⟩ := st_S hI
  obtain ⟨q, r, hqr⟩ : ∃ q r : Nat → Nat, ∀ i, i < 10 → a 50 (i * 2) = nI (q i) ∧ a 50 (i * 2 + 1) = nI (r i) ∧ b 126 i = nI (q i) ∧ b 127 i = nI (r i) ∧ q i ≤ 9 ∧ r i ≤ 1 := by
    refine ⟨fun i => ix (b 126 i), fun i => ix (b 127 i), fun i hi => ?_⟩
    obtain ⟨h1, h2, ⟨x, hx, ex⟩, ⟨y, hy, ey⟩⟩ := hc i hi
    dsimp only
    rw [h1, h2, ex, ey, ix_n (by omega), ix_n (by omega)]
    exact ⟨rfl, rfl, rfl, rfl, hx, hy⟩
  have cs := could_set hn e1 e2 t0 t1 hqr hS hM hB h20
  unfold fH_could
  simp only [e_isIn, bi_s, bnd_e]
  by_cases h0 : v = 0
  · subst h0
    rw [if_pos rfl, if_neg (show ¬ wi 0 0 1 = 0 by decide)]
    refine w2_bi (w2_m cs (fun x y h => ?_))
    obtain ⟨_, _, m, _, x1, y1⟩ := h
    rw [if_pos rfl]
    exact w2_s (by rw [x1, y1])
  by_cases h1 : v = 1
  · subst h1
    rw [if_neg n10z, if_pos rfl, if_neg (show ¬ wi 1 0 1 = 0 by decide)]
    unfold fMu_nextQuestion
    simp only [bnd_e]
    obtain ⟨⟨x1, x2⟩, ⟨y1, y2⟩, ex, ey, h⟩ := cs
    dsimp only at h
    obtain ⟨rfl, rfl, m, hm, rfl, rfl⟩ := h
    have hp21 := pc_le 21 m hm
    rw [ex, ey, bi_s, bi_s, e_bc (by omega), bi_s, if_neg n10z, e_ones (by omega), bi_s]
    by_cases g : 2 ≤ pc m
    · rw [if_pos (show (2 : Int32) ≤ nI (pc m) from nI_le g (by omega))]
      have key : W2 (lp FU (fun q20 (u20 : Int32 × Int32 × Int32) (s5 : Sg) => if 10 ≤ u20.2.2 then (some (u20.1, s5)) else (if nI (pc m) < 2 then (some (u20.1, s5)) else (bi (fMu_manyRight (nI m) u20.2.2 s5) fun r7 s6 => bi (fJ9_max_7cf53 r7 (nI (pc m) - r7) s6) fun r9 s8 => if u20.2.1 ≤ r9 then (q20 (u20.1, u20.2.1, (u20.2.2 + 1)) s8) else (q20 (u20.2.2, r9, (u20.2.2 + 1)) s8)))) ((-1), (nI (pc m) + 1), 0) x2) (lp FU (fun q52 (u52 : Int32 × Int32 × Int32) (s8 : Sg) => if 10 ≤ u52.2.2 then (some (u52.1, s8)) else (lp FU (fun q65 (u65 : Int32 × Int32) (s9 : Sg) => if 20 ≤ u65.2 then (bi (fM_greater u65.1 (nI (pc m) - u65.1) s9) fun r11 s10 => if u52.2.1 ≤ r11 then (bi (fM_lesser u52.2.1 r11 s10) fun r14 s13 => q52 (u52.1, r14, (u52.2.2 + 1)) s13) else (bi (fM_lesser u52.2.1 r11 s10) fun r14 s13 => q52 (u52.2.2, r14, (u52.2.2 + 1)) s13)) else (bi (fM_has (nI m) u65.2 s9) fun r16 s15 => if r16 = 0 then (q65 (u65.1, (u65.2 + 1)) s15) else (gd u65.2 40 (bi (fM_has (s15 122 (ix u65.2)) u52.2.2 s15) fun r19 s18 => if r19 = 0 then (q65 (u65.1, (u65.2 + 1)) s18) else (q65 (u65.1 + 1, (u65.2 + 1)) s18))))) (0, 0) s8)) ((-1), 100000000, 0) y2) (fun x y => x.1 = y.1) := by
        refine w2_lp (fun j v s w t => s = x2 ∧ t = y2 ∧ ∃ i L L' c, i + j = 10 ∧ v = (c, nI L, nI i) ∧ w = (c, nI L', nI i) ∧ ((L = pc m + 1 ∧ L' = 100000000) ∨ (L = L' ∧ L ≤ 21))) ?_ FU FU 10 _ _ _ _ (FU_lt (by omega)) (FU_lt (by omega)) ⟨rfl, rfl, 0, pc m + 1, 100000000, -1, by omega, by rw [nI_1]; rfl, rfl, Or.inl ⟨rfl, rfl⟩⟩
        rintro p p' j v s w t ⟨rfl, rfl, i, L, L', c, hi, rfl, rfl, hL⟩ hp
        dsimp only
        refine w2_if Iff.rfl (fun _ => w2_s rfl) (fun h => ?_)
        have h : ¬ 10 ≤ i := fun q => h ((nI_leI (a := 10) (b := i) (by decide) (by omega)).mpr q)
        have hmr := mr_le S i hm
        rw [if_neg (show ¬ nI (pc m) < 2 from nI_nlt (b := 2) (by omega) (by omega)), e_mr hS hB h20 hm (by omega), bi_s, pk_sub hmr, e_max, bi_s, mx_n (by omega) (by omega)]
        generalize hP : max (mrF S m i) (pc m - mrF S m i) = P
        refine w2_1 ?_
        have goal2 : ∀ (c' : Int32) (N N' : Nat), ((N = pc m + 1 ∧ N' = 100000000) ∨ (N = N' ∧ N ≤ 21)) → W1 (p (c', nI N, nI (i + 1)) s) (fun x => W1 (p' (c', nI N', nI (i + 1)) t) (fun y => x.1 = y.1)) := by
          intro c' N N' hN
          obtain ⟨x, y, f1, f2, f3⟩ := hp (j - 1) (c', nI N, nI (i + 1)) s (c', nI N', nI (i + 1)) t (by omega) ⟨rfl, rfl, i + 1, N, N', c', by omega, rfl, rfl, hN⟩
          exact ⟨x, f1, y, f2, f3⟩
        have LB : L < 2 ^ 31 := by omega
        have LB' : L' < 2 ^ 31 := by omega
        have PB : P ≤ pc m := by omega
        refine w1_m (P := fun x => W1 (if nI L' ≤ nI P then p' (c, nI (min L' P), nI (i + 1)) t else p' (nI i, nI (min L' P), nI (i + 1)) t) (fun y => x.1 = y.1)) ?_ (fun x hx => ?_)
        · rw [nI_1]
          by_cases hc : L ≤ P
          · rw [if_pos (nI_le hc (by omega))]
            have hc' : L' ≤ P := by omega
            rw [if_pos (nI_le hc' (by omega)), Nat.min_eq_left hc']
            exact goal2 _ _ _ hL
          · rw [if_neg (nI_ge (by omega) (by omega))]
            have hc' : ¬ L' ≤ P := by omega
            rw [if_neg (nI_ge (by omega) (by omega)), Nat.min_eq_right (by omega)]
            exact goal2 _ _ _ (Or.inr ⟨rfl, by omega⟩)
        · refine mr_in hM hB hm (show i ≤ 9 by omega) (K := fun u s9 => bi (fM_greater u (nI (pc m) - u) s9) fun r11 s10 => if nI L' ≤ r11 then (bi (fM_lesser (nI L') r11 s10) fun r14 s13 => p' (c, r14, (nI i + 1)) s13) else (bi (fM_lesser (nI L') r11 s10) fun r14 s13 => p' (nI i, r14, (nI i + 1)) s13)) ?_
          rw [pk_sub hmr, e_gr, bi_s, mx_n (by omega) (by omega), hP, e_ls, bi_s, mn_n (by omega) (by omega), nI_1]
          exact hx
      obtain ⟨x, y, z1, z2, z3⟩ := key
      exact ⟨x, y, by rw [z1]; rfl, z2, z3⟩
    · rw [if_neg (show ¬ (2 : Int32) ≤ nI (pc m) from nI_ge (b := 2) (by omega) (by decide))]
      refine w2_1 (w1_bi (w1_q (z := (-1, x2)) ?_ (w1_s (w1_s rfl))))
      rw [show FU = 4999 + 1 from rfl, lp_s, if_neg (show ¬ (10 : Int32) ≤ 0 by decide), if_pos (show nI (pc m) < 2 from nI_lt (b := 2) (by omega) (by decide))]
  · rw [if_neg h0, if_neg h1]
    rw [if_pos]
    · exact w2_s rfl
    · by_cases h : wi v 0 1 = 0
      · exact h
      · obtain ⟨z, _, hz, rfl⟩ := wi_1 (a := 0) (b := 1) (by decide) (by decide) h
        have : z = 0 ∨ z = 1 := by omega
        rcases this with rfl | rfl
        · exact absurd rfl h0
        · exact absurd rfl h1
