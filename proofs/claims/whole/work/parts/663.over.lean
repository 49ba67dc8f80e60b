/-! over -/
theorem sm_last (f : Nat → Nat) (n x : Nat) : sm f x (n + 1) = sm f x n + f (x + n) := by
  rw [sm_add f n 1 x, sm, sm, Nat.add_zero]
theorem sm_rev (f : Nat → Nat) : ∀ n, sm (fun k => f (n - 1 - k)) 0 n = sm f 0 n
  | 0 => rfl
  | n + 1 => by
    rw [sm_last f n 0, sm, sm_sh, Nat.zero_add, ← sm_rev f n, Nat.add_comm]
    congr 1
    refine sm_eq n 0 (fun i _ hi => ?_)
    rw [show n + 1 - 1 - (i + 1) = n - 1 - i by omega]
/-- two words that differ at one place -/
def oA (nl vl : Nat → Nat) (q p : Nat) : Prop := nl q = nl p ∧ sm (fun i => if vl q / 10 ^ i % 10 = vl p / 10 ^ i % 10 then 0 else 1) 0 (nl q) = 1
theorem dd (v i : Nat) : v / 10 ^ i / 10 = v / 10 ^ (i + 1) := by rw [Nat.div_div_eq_div_mul, Nat.pow_succ]
theorem e_one {a : Sg} {nl vl : Nat → Nat} (t0 : a 55 0 = nI 2) (t1 : a 55 1 = nI 8) (h : ∀ w, w < 8 → a 56 (w * 2) = nI (nl w) ∧ a 56 (w * 2 + 1) = nI (vl w) ∧ nl w ≤ 5 ∧ vl w < 100000) {q p : Nat} (hq : q < 8) (hp : p < 8) : ∃ r : Int32, fMu_oneApart (nI q) (nI p) a = some (r, a) ∧ (r = 0 ∨ r = 1) ∧ (r = 1 ↔ oA nl vl q p) := by
  have T0 : ∀ w, w < 8 → fTa_tell 55 (nI w) 0 a = some (nI (nl w), a) := fun w hw => by
    rw [← (h w hw).1]; exact e_tell (j := 0) t0 t1 (by decide) (by decide) hw (by decide) (by decide) (by decide)
  have T1 : ∀ w, w < 8 → fTa_tell 55 (nI w) 1 a = some (nI (vl w), a) := fun w hw => by
    rw [← (h w hw).2.1]; exact e_tell (j := 1) t0 t1 (by decide) (by decide) hw (by decide) (by decide) (by decide)
  obtain ⟨_, _, nq, vq⟩ := h q hq
  obtain ⟨_, _, np, vp⟩ := h p hp
  unfold fMu_oneApart
  simp only [T0 q hq, T0 p hp, T1 q hq, T1 p hp, bi_x, bnd_x, gb_0, gb_1]
  by_cases c : nI (nl q) = nI (nl p)
  · rw [if_pos c]
    have c := nI_inj (by omega) (by omega) c
    have key : W1 (lp FU (fun q65 (u65 : Int32 × Int32 × Int32 × Int32) (s9 : Sg) => if nI (nl q) ≤ u65.2.2.2 then (if u65.2.2.1 = 1 then (some ((1 : Int32), s9)) else (some (0, s9))) else (gz 10 (gz 10 (if (u65.1 - u65.1 / 10 * 10) = (u65.2.1 - u65.2.1 / 10 * 10) then (gz 10 (gz 10 (q65 ((u65.1 / 10), (u65.2.1 / 10), u65.2.2.1, (u65.2.2.2 + 1)) s9))) else (gz 10 (gz 10 (q65 ((u65.1 / 10), (u65.2.1 / 10), u65.2.2.1 + 1, (u65.2.2.2 + 1)) s9))))))) (nI (vl q), nI (vl p), 0, 0) a) (fun z => z.2 = a ∧ (z.1 = 0 ∨ z.1 = 1) ∧ (z.1 = 1 ↔ oA nl vl q p)) := by
      refine w1_lp (fun k u s => s = a ∧ ∃ i d, i + k = nl q ∧ d ≤ i ∧ u = (nI (vl q / 10 ^ i), nI (vl p / 10 ^ i), nI d, nI i) ∧ d + sm (fun i => if vl q / 10 ^ i % 10 = vl p / 10 ^ i % 10 then 0 else 1) i k = sm (fun i => if vl q / 10 ^ i % 10 = vl p / 10 ^ i % 10 then 0 else 1) 0 (nl q)) ?_ FU (nl q) _ _ (FU_lt (by omega)) ⟨rfl, 0, 0, by omega, by omega, by rw [Nat.pow_zero, Nat.div_one, Nat.div_one]; rfl, by omega⟩
      rintro p2 k u s ⟨rfl, i, d, hi, hd, rfl, hR⟩ hp2
      dsimp only
      have l1 : vl q / 10 ^ i ≤ vl q := Nat.div_le_self _ _
      have l2 : vl p / 10 ^ i ≤ vl p := Nat.div_le_self _ _
      refine w1_if (fun c2 => ?_) (fun c2 => ?_)
      · rw [nI_leI (by omega) (by omega)] at c2
        rw [show k = 0 by omega, sm] at hR
        refine w1_if (fun c3 => ?_) (fun c3 => ?_)
        · have c3 : d = 1 := nI_inj (b := 1) (by omega) (by decide) c3
          exact w1_s ⟨rfl, Or.inr rfl, fun _ => ⟨c, by omega⟩, fun _ => rfl⟩
        · have c3 : d ≠ 1 := fun e => c3 (by rw [e]; rfl)
          exact w1_s ⟨rfl, Or.inl rfl, fun e => absurd e (show ¬ (0 : Int32) = 1 by decide), fun e => absurd (hR.trans e.2) (by omega)⟩
      · rw [nI_leI (by omega) (by omega)] at c2
        obtain ⟨k, rfl⟩ : ∃ y, k = y + 1 := ⟨k - 1, by omega⟩
        rw [sm] at hR
        rw [gz_n _ (by decide), gz_n _ (by decide), show (10 : Int32) = nI 10 from rfl, pk_rem (by omega) (by decide) (by decide), pk_rem (by omega) (by decide) (by decide), pk_div (by omega) (by decide) (by decide), pk_div (by omega) (by decide) (by decide), dd, dd, nI_1, nI_1]
        simp only [gz_n _ (show nI 10 ≠ 0 by decide)]
        refine w1_if (fun c3 => ?_) (fun c3 => ?_)
        · have c3 := nI_inj (by omega) (by omega) c3
          rw [if_pos c3] at hR
          exact hp2 k _ _ (by omega) ⟨rfl, i + 1, d, by omega, by omega, rfl, by omega⟩
        · have c3 : ¬ vl q / 10 ^ i % 10 = vl p / 10 ^ i % 10 := fun e => c3 (by rw [e])
          rw [if_neg c3] at hR
          exact hp2 k _ _ (by omega) ⟨rfl, i + 1, d + 1, by omega, by omega, rfl, by omega⟩
    obtain ⟨⟨r, s⟩, e, h1, h2, h3⟩ := key
    dsimp only at h1 h2 h3
    subst h1
    exact ⟨r, e, h2, h3⟩
  · rw [if_neg c]
    exact ⟨0, rfl, Or.inl rfl, fun e => absurd e (by decide), fun e => absurd (congrArg nI e.1) c⟩
theorem e_goO {b : Sg} {nl vl : Nat → Nat} (h : ∀ w, w < 8 → b 131 w = nI (nl w) ∧ nl w ≤ 5 ∧ ∀ k, k < nl w → b 132 (5 * w + k) = nI (vl w / 10 ^ (nl w - 1 - k) % 10)) {q p : Nat} (hq : q < 8) (hp : p < 8) : ∃ r : Int32, fM_goOver (nI q) (nI p) b = some (r, b) ∧ (r = 0 ∨ r = 1) ∧ (r = 1 ↔ oA nl vl q p) := by
  obtain ⟨mq, nq, lq⟩ := h q hq
  obtain ⟨mp, np, lp'⟩ := h p hp
  unfold fM_goOver
  rw [gd_n _ hq (by decide), gd_n _ hp (by decide), ix_n (by omega), ix_n (by omega), mq, mp]
  by_cases c : nI (nl q) = nI (nl p)
  · rw [if_pos c]
    have c := nI_inj (by omega) (by omega) c
    have key : W1 (lp FU (fun q22 (u22 : Int32 × Int32) (s1 : Sg) => gd (nI q) 8 (if (s1 131 q) ≤ u22.2 then (if u22.1 = 1 then (gb 1 (some ((1 : Int32), s1))) else (gb 0 (some (0, s1)))) else (gd ((5 * nI q) + u22.2) 40 (gd ((5 * nI p) + u22.2) 40 (bnd (fun (a62_3 : Int32) (s2 : Sg) => q22 (a62_3, (u22.2 + 1)) s2) fun j62 => if (s1 132 (ix ((5 * nI q) + u22.2))) = (s1 132 (ix ((5 * nI p) + u22.2))) then (j62 u22.1 s1) else (j62 (u22.1 + 1) s1)))))) (0, 0) b) (fun z => z.2 = b ∧ (z.1 = 0 ∨ z.1 = 1) ∧ (z.1 = 1 ↔ oA nl vl q p)) := by
      refine w1_lp (fun k u s => s = b ∧ ∃ i d, i + k = nl q ∧ d ≤ i ∧ u = (nI d, nI i) ∧ d + sm (fun k => if vl q / 10 ^ (nl q - 1 - k) % 10 = vl p / 10 ^ (nl q - 1 - k) % 10 then 0 else 1) i k = sm (fun k => if vl q / 10 ^ (nl q - 1 - k) % 10 = vl p / 10 ^ (nl q - 1 - k) % 10 then 0 else 1) 0 (nl q)) ?_ FU (nl q) _ _ (FU_lt (by omega)) ⟨rfl, 0, 0, by omega, by omega, rfl, by omega⟩
      have rev := sm_rev (fun i => if vl q / 10 ^ i % 10 = vl p / 10 ^ i % 10 then 0 else 1) (nl q)
      rintro p2 k u s ⟨rfl, i, d, hi, hd, rfl, hR⟩ hp2
      dsimp only
      rw [gd_n _ hq (by decide), mq]
      refine w1_if (fun c2 => ?_) (fun c2 => ?_)
      · rw [nI_leI (by omega) (by omega)] at c2
        rw [show k = 0 by omega, sm, rev] at hR
        refine w1_if (fun c3 => ?_) (fun c3 => ?_)
        · have c3 : d = 1 := nI_inj (b := 1) (by omega) (by decide) c3
          exact w1_s ⟨rfl, Or.inr rfl, fun _ => ⟨c, by omega⟩, fun _ => rfl⟩
        · have c3 : d ≠ 1 := fun e => c3 (by rw [e]; rfl)
          exact w1_s ⟨rfl, Or.inl rfl, fun e => absurd e (show ¬ (0 : Int32) = 1 by decide), fun e => absurd (hR.trans e.2) (by omega)⟩
      · rw [nI_leI (by omega) (by omega)] at c2
        obtain ⟨k, rfl⟩ : ∃ y, k = y + 1 := ⟨k - 1, by omega⟩
        rw [sm] at hR
        rw [nI_5, nI_5, gd_n _ (show 5 * q + i < 40 by omega) (by decide), gd_n _ (show 5 * p + i < 40 by omega) (by decide), bnd_e, ix_n (by omega), ix_n (by omega), lq i (by omega), lp' i (by omega), nI_1, nI_1, ← c]
        refine w1_if (fun c3 => ?_) (fun c3 => ?_)
        · have c3 := nI_inj (by omega) (by omega) c3
          rw [if_pos c3] at hR
          exact hp2 k _ _ (by omega) ⟨rfl, i + 1, d, by omega, by omega, rfl, by omega⟩
        · have c3 : ¬ vl q / 10 ^ (nl q - 1 - i) % 10 = vl p / 10 ^ (nl q - 1 - i) % 10 := fun e => c3 (by rw [e])
          rw [if_neg c3] at hR
          exact hp2 k _ _ (by omega) ⟨rfl, i + 1, d + 1, by omega, by omega, rfl, by omega⟩
    obtain ⟨⟨r, s⟩, e, h1, h2, h3⟩ := key
    dsimp only at h1 h2 h3
    subst h1
    exact ⟨r, e, h2, h3⟩
  · rw [if_neg c]
    exact ⟨0, rfl, Or.inl rfl, fun e => absurd e (by decide), fun e => absurd (congrArg nI e.1) c⟩
def Eo (nl vl : Nat → Nat) (q p : Nat) : Prop := q < 8 ∧ p < 8 ∧ oA nl vl q p
theorem over_c {a : Sg} {nl vl : Nat → Nat} (t0 : a 55 0 = nI 2) (t1 : a 55 1 = nI 8) (h : ∀ w, w < 8 → a 56 (w * 2) = nI (nl w) ∧ a 56 (w * 2 + 1) = nI (vl w) ∧ nl w ≤ 5 ∧ vl w < 100000) {x : Nat} (hx : x < 8) : W1 (fMu_goOverFrom (nI x) a) (fun s => FarR (Eo nl vl) x 8 8 (s 67)) := by
  unfold fMu_goOverFrom
  obtain ⟨s1, es, hs⟩ := e_start (show x < 10 by omega) a
  have fs : ∀ o k, o ≠ 67 → s1 o k = a o k := fun o k h => fr_Mu_startAt (nI x) a s1 es o k (by simpa using h) (by simp)
  rw [es, bv_s]
  refine w1_lp (fun k v s => ∃ i, i + k = 8 ∧ v = nI i ∧ s 55 = a 55 ∧ s 56 = a 56 ∧ FarR (Eo nl vl) x 8 i (s 67)) ?_ FU 8 _ _ (FU_lt (by omega)) ⟨0, by omega, rfl, funext fun k => fs 55 k (by decide), funext fun k => fs 56 k (by decide), far_i (fun p hp => hs p (by omega))⟩
  rintro p k v s ⟨i, hi, rfl, h55, h56, hf⟩ hp
  refine w1_if (fun c => ?_) (fun c => ?_)
  · have c := (nI_leI (a := 8) (b := i) (by decide) (by omega)).mp c
    rw [show i = 8 by omega] at hf
    exact w1_s hf
  have c : ¬ 8 ≤ i := fun q => c ((nI_leI (a := 8) (b := i) (by decide) (by omega)).mpr q)
  refine w1_lp (fun j v t => ∃ q, q + j = 8 ∧ v = nI q ∧ t 55 = a 55 ∧ t 56 = a 56 ∧ FarP (Eo nl vl) x 8 i (fun q' _ => q' < q) (t 67)) ?_ FU 8 _ _ (FU_lt (by omega)) ⟨0, by omega, rfl, h55, h56, far_d (far_0 hf) (fun q p h => by omega)⟩
  rintro p2 j v t ⟨q, hq, rfl, u55, u56, hP⟩ hp2
  refine w1_if (fun c2 => ?_) (fun c2 => ?_)
  · have c2 := (nI_leI (a := 8) (b := q) (by decide) (by omega)).mp c2
    rw [nI_1]
    exact hp (k - 1) _ _ (by omega) ⟨i + 1, by omega, rfl, u55, u56, far_e hP (fun q' p' _ hE => by have := hE.1; omega)⟩
  have c2 : ¬ 8 ≤ q := fun q' => c2 ((nI_leI (a := 8) (b := q) (by decide) (by omega)).mpr q')
  rw [e_farOf (by omega), bi_s, bnd_e, nI_1, nI_1]
  refine w1_if (fun c3 => ?_) (fun c3 => ?_)
  · have hF := (far_f hP (show q < 8 by omega) (by omega)).mp c3
    unfold fMu_reachLikes
    refine w1_bv (w1_lp (fun l v u => ∃ z, z + l = 8 ∧ v = nI z ∧ u 55 = a 55 ∧ u 56 = a 56 ∧ FarP (Eo nl vl) x 8 i (fun q' p' => q' < q ∨ (q' = q ∧ p' < z)) (u 67)) ?_ FU 8 _ _ (FU_lt (by omega)) ⟨0, by omega, rfl, u55, u56, far_d hP (fun q' p' h _ _ => by omega)⟩)
    rintro p3 l v u ⟨z, hz, rfl, w55, w56, hP2⟩ hp3
    refine w1_if (fun c4 => ?_) (fun c4 => ?_)
    · have c4 := (nI_leI (a := 8) (b := z) (by decide) (by omega)).mp c4
      refine w1_s ?_
      refine hp2 (j - 1) _ _ (by omega) ⟨q + 1, by omega, rfl, w55, w56, far_d hP2 (fun q' p' h _ hE => ?_)⟩
      have := hE.2.1
      by_cases e : q' = q
      · exact Or.inr ⟨e, by omega⟩
      · exact Or.inl (by omega)
    have c4 : ¬ 8 ≤ z := fun q' => c4 ((nI_leI (a := 8) (b := z) (by decide) (by omega)).mpr q')
    obtain ⟨r, er, h01, hr⟩ := e_one (a := u) (nl := nl) (vl := vl) (by rw [w55]; exact t0) (by rw [w55]; exact t1) (fun w hw => by rw [w56]; exact h w hw) (show q < 8 by omega) (show z < 8 by omega)
    rw [er, bi_s, bnd_e, nI_1, e_reach (by omega), bv_s]
    have nx : ∀ q' p', (q' < q ∨ (q' = q ∧ p' < z + 1)) → (q' < q ∨ (q' = q ∧ p' < z)) ∨ (q' = q ∧ p' = z) := fun q' p' h => by omega
    rcases h01 with h0 | h1
    · rw [if_pos h0]
      refine hp3 (l - 1) _ _ (by omega) ⟨z + 1, by omega, rfl, w55, w56, far_d hP2 (fun q' p' h' _ hE => ?_)⟩
      rcases nx q' p' h' with h' | ⟨e1, e2⟩
      · exact h'
      · subst e1; subst e2
        exact absurd (hr.mpr hE.2.2) (by rw [h0]; decide)
    · rw [if_neg (show ¬ r = 0 by rw [h1]; decide)]
      have hE : Eo nl vl q z := ⟨by omega, by omega, hr.mp h1⟩
      refine hp3 (l - 1) _ _ (by omega) ⟨z + 1, by omega, rfl, ?_, ?_, far_c (far_d (far_s (by omega) hP2 hF hE) (fun q' p' h' _ _ => nx q' p' h')) (fun k hk => ?_)⟩
      · split
        · rw [ptq _ _ _ (by decide)]; exact w55
        · exact w55
      · split
        · rw [ptq _ _ _ (by decide)]; exact w56
        · exact w56
      · by_cases c5 : u 67 z = -1
        · rw [if_pos c5]
          by_cases e : k = z
          · subst e; rw [pt_s, if_pos ⟨rfl, c5⟩]
          · rw [pt_k _ _ _ e, if_neg (fun h => e h.1)]
        · rw [if_neg c5, if_neg (fun h => c5 h.2)]
  · refine hp2 (j - 1) _ _ (by omega) ⟨q + 1, by omega, rfl, u55, u56, far_d hP (fun q' p' h hF hE => ?_)⟩
    by_cases e : q' = q
    · subst e
      exact absurd ((far_f hP (by omega) (by omega)).mpr hF) c3
    · omega
theorem over_m {b : Sg} {nl vl : Nat → Nat} (h : ∀ w, w < 8 → b 131 w = nI (nl w) ∧ nl w ≤ 5 ∧ ∀ k, k < nl w → b 132 (5 * w + k) = nI (vl w / 10 ^ (nl w - 1 - k) % 10)) {x i m : Nat} (hm : mkR (Eo nl vl) x 8 i m) : W1 (fM_overFrom (nI m) b) (fun z => z.2 = b ∧ ∃ r, z.1 = nI r ∧ mkR (Eo nl vl) x 8 (i + 1) r) := by
  unfold fM_overFrom
  simp only [bnd_x]
  have hm1 := hm.1
  refine w1_lp (fun k u s => s = b ∧ ∃ q r, q + k = 8 ∧ u = (nI r, nI q) ∧ r < 2 ^ 8 ∧ ∀ p, p < 8 → (r.testBit p = true ↔ (m.testBit p = true ∨ ∃ q', q' < q ∧ m.testBit q' = true ∧ Eo nl vl q' p))) ?_ FU 8 _ _ (FU_lt (by omega)) ⟨rfl, 0, m, by omega, rfl, hm1, fun p _ => ⟨Or.inl, fun h => h.elim id (fun ⟨q, h, _⟩ => by omega)⟩⟩
  rintro p k u s ⟨rfl, q, r, hq, rfl, hr, hR⟩ hp
  dsimp only
  refine w1_if (fun c1 => ?_) (fun c1 => ?_)
  · have c1 := (nI_leI (a := 8) (b := q) (by decide) (by omega)).mp c1
    refine w1_s ⟨rfl, r, rfl, hr, fun p hp => ?_⟩
    rw [hR p hp, hm.2 p hp]
    constructor
    · rintro (h | ⟨q', h1, h2, h3⟩)
      · exact Or.inl h
      · exact Or.inr ⟨q', (hm.2 q' h3.1).mp h2, h3⟩
    · rintro (h | ⟨q', h2, h3⟩)
      · exact Or.inl h
      · have := h3.1
        exact Or.inr ⟨q', by omega, (hm.2 q' h3.1).mpr h2, h3⟩
  have c1 : ¬ 8 ≤ q := fun q' => c1 ((nI_leI (a := 8) (b := q) (by decide) (by omega)).mpr q')
  refine w1_lp (fun j u t => t = s ∧ ∃ z r, z + j = 8 ∧ u = (nI r, nI z) ∧ r < 2 ^ 8 ∧ ∀ p, p < 8 → (r.testBit p = true ↔ ((m.testBit p = true ∨ ∃ q', q' < q ∧ m.testBit q' = true ∧ Eo nl vl q' p) ∨ (m.testBit q = true ∧ p < z ∧ Eo nl vl q p)))) ?_ FU 8 _ _ (FU_lt (by omega)) ⟨rfl, 0, r, by omega, rfl, hr, fun p hp => by rw [hR p hp]; exact ⟨Or.inl, fun h => h.elim id (fun ⟨_, h, _⟩ => by omega)⟩⟩
  rintro p2 j u t ⟨rfl, z, r', hz, rfl, hr', hR'⟩ hp2
  dsimp only
  refine w1_if (fun c2 => ?_) (fun c2 => ?_)
  · have c2 := (nI_leI (a := 8) (b := z) (by decide) (by omega)).mp c2
    rw [nI_1]
    refine hp (k - 1) _ _ (by omega) ⟨rfl, q + 1, r', by omega, rfl, hr', fun p hp => ?_⟩
    rw [hR' p hp]
    constructor
    · rintro ((h | ⟨q', h1, h2⟩) | ⟨h1, h2, h3⟩)
      · exact Or.inl h
      · exact Or.inr ⟨q', by omega, h2⟩
      · exact Or.inr ⟨q, by omega, h1, h3⟩
    · rintro (h | ⟨q', h1, h2, h3⟩)
      · exact Or.inl (Or.inl h)
      · by_cases e : q' = q
        · subst e; exact Or.inr ⟨h2, by omega, h3⟩
        · exact Or.inl (Or.inr ⟨q', by omega, h2, h3⟩)
  have c2 : ¬ 8 ≤ z := fun q' => c2 ((nI_leI (a := 8) (b := z) (by decide) (by omega)).mpr q')
  obtain ⟨g, eg, h01, hg⟩ := e_goO (b := t) (nl := nl) (vl := vl) h (show q < 8 by omega) (show z < 8 by omega)
  rw [e_hasN (by omega) (by omega), bi_s, eg, bi_s, nI_1, sh1 z (by omega), nx_or]
  have nxt : ∀ r2, r2 < 2 ^ 8 → (∀ p, p < 8 → (r2.testBit p = true ↔ (r'.testBit p = true ∨ (m.testBit q = true ∧ oA nl vl q z ∧ p = z)))) → W1 (p2 (nI r2, nI (z + 1)) t) (fun z => z.2 = t ∧ ∃ r, z.1 = nI r ∧ mkR (Eo nl vl) x 8 (i + 1) r) := by
    intro r2 h1 h2
    refine hp2 (j - 1) _ _ (by omega) ⟨rfl, z + 1, r2, by omega, rfl, h1, fun p hp => ?_⟩
    rw [h2 p hp, hR' p hp]
    constructor
    · rintro ((h | ⟨h3, h4, h5⟩) | ⟨h3, h4, h5⟩)
      · exact Or.inl h
      · exact Or.inr ⟨h3, by omega, h5⟩
      · subst h5; exact Or.inr ⟨h3, by omega, by omega, hp, h4⟩
    · rintro (h | ⟨h3, h4, h5⟩)
      · exact Or.inl (Or.inl h)
      · by_cases e : p = z
        · subst e; exact Or.inr ⟨h3, h5.2.2, rfl⟩
        · exact Or.inl (Or.inr ⟨h3, by omega, h5⟩)
  by_cases c3 : m.testBit q = true
  · rw [if_pos c3, if_neg n10z]
    rcases h01 with h0 | h1
    · rw [if_pos h0]
      exact nxt r' hr' (fun p hp => ⟨Or.inl, fun h => h.elim id (fun ⟨_, h, _⟩ => absurd (hg.mpr h) (by rw [h0]; decide))⟩)
    · rw [if_neg (show ¬ g = 0 by rw [h1]; decide)]
      refine nxt _ (Nat.or_lt_two_pow hr' (Nat.pow_lt_pow_right (by decide) (by omega))) (fun p hp => ?_)
      rw [tb_or, Bool.or_eq_true, decide_eq_true_iff]
      constructor
      · rintro (h | h)
        · exact Or.inl h
        · exact Or.inr ⟨c3, hg.mp h1, h⟩
      · rintro (h | ⟨_, _, h⟩)
        · exact Or.inl h
        · exact Or.inr h
  · rw [if_neg c3, if_pos rfl]
    exact nxt r' hr' (fun p hp => ⟨Or.inl, fun h => h.elim id (fun ⟨h, _⟩ => absurd h c3)⟩)
theorem sm_ad (f g : Nat → Nat) : ∀ (k x : Nat), sm (fun i => f i + g i) x k = sm f x k + sm g x k
  | 0, _ => rfl
  | k + 1, x => by rw [sm, sm, sm, sm_ad f g k (x + 1)]; omega
theorem sm_at (a : Nat) : ∀ (k x : Nat), sm (fun i => if i = a then 1 else 0) x k = if x ≤ a ∧ a < x + k then 1 else 0
  | 0, x => by rw [sm, if_neg (by omega)]
  | k + 1, x => by
    rw [sm, sm_at a k (x + 1)]
    by_cases e : x = a
    · rw [if_pos e, if_neg (by omega), if_pos (by omega)]
    · rw [if_neg e]
      by_cases h : x + 1 ≤ a ∧ a < x + 1 + k
      · rw [if_pos h, if_pos (by omega)]
      · rw [if_neg h, if_neg (by omega)]
theorem sim_over (u v : Int32) : Sim (fH_over u v) (fM_over u v) := by
  refine sim_r (fun _ => rfl) (fr_H_over u v) (fr_M_over u v) (by decide) (by decide) (fun a b hI => ?_)
  have hS : gSl (a 56) (b 131) (b 132) := hI 8
  obtain ⟨_, _, _, _, _, _, _, _, _, ⟨t0, t1⟩, _⟩ : gKc a := hI 18
  obtain ⟨nl, vl, hA, hB⟩ : ∃ nl vl : Nat → Nat, (∀ w, w < 8 → a 56 (w * 2) = nI (nl w) ∧ a 56 (w * 2 + 1) = nI (vl w) ∧ nl w ≤ 5 ∧ vl w < 100000) ∧ (∀ w, w < 8 → b 131 w = nI (nl w) ∧ nl w ≤ 5 ∧ ∀ k, k < nl w → b 132 (5 * w + k) = nI (vl w / 10 ^ (nl w - 1 - k) % 10)) := by
    have hx : ∀ w, w < 8 → a 56 (w * 2) = nI (ix (a 56 (w * 2))) ∧ a 56 (w * 2 + 1) = nI (ix (a 56 (w * 2 + 1))) ∧ ix (a 56 (w * 2)) ≤ 5 ∧ ix (a 56 (w * 2 + 1)) < 100000 ∧ b 131 w = nI (ix (a 56 (w * 2))) ∧ ∀ k, k < ix (a 56 (w * 2)) → b 132 (5 * w + k) = nI (ix (a 56 (w * 2 + 1)) / 10 ^ (ix (a 56 (w * 2)) - 1 - k) % 10) := fun w hw => by
      obtain ⟨n, v, hn, hv, h1, h2, h3, h4⟩ := hS w hw
      have := p10 n hn
      rw [h1, h3, ix_n (by omega), ix_n (by omega)]
      exact ⟨rfl, rfl, hn, by omega, h2, h4⟩
    exact ⟨fun w => ix (a 56 (w * 2)), fun w => ix (a 56 (w * 2 + 1)), fun w hw => ⟨(hx w hw).1, (hx w hw).2.1, (hx w hw).2.2.1, (hx w hw).2.2.2.1⟩, fun w hw => ⟨(hx w hw).2.2.2.2.1, (hx w hw).2.2.1, (hx w hw).2.2.2.2.2⟩⟩
  have elt : ∀ q p, Eo nl vl q p → p < 8 := fun _ _ h => h.2.1
  unfold fH_over
  simp only [e_within, e_isIn, bi_x, bnd_x]
  by_cases g1 : wi u 0 7 = 0
  · simp only [if_pos g1]
    exact w2_s rfl
  by_cases g2 : wi v (-1) 7 = 0
  · simp only [if_neg g1, if_pos g2]
    exact w2_s rfl
  simp only [if_neg g1, if_neg g2]
  obtain ⟨x, _, hx, rfl⟩ := wi_1 (a := 0) (b := 7) (by decide) (by decide) g1
  rw [sh1 x (by omega)]
  obtain ⟨s1, es, hf⟩ := over_c t0 t1 hA (show x < 8 by omega)
  by_cases g3 : v = -1
  · subst g3
    rw [if_pos rfl]
    refine w2_2 ?_
    refine w1_lp (fun k u s => s = b ∧ ∃ i m, i + k = 8 ∧ u = (nI m, nI i) ∧ mkR (Eo nl vl) x 8 i m) ?_ FU 8 _ _ (FU_lt (by omega)) ⟨rfl, 0, 2 ^ x, by omega, rfl, mk_0 (by omega)⟩
    rintro p k u s ⟨rfl, i, m, hi, rfl, hm⟩ hp
    dsimp only
    refine w1_if (fun c => ?_) (fun c => ?_)
    · have c := (nI_leI (a := 8) (b := i) (by decide) (by omega)).mp c
      have hi8 : i = 8 := by omega
      subst hi8
      have hm1 := hm.1
      rw [if_pos rfl, e_ones (by omega), bi_s]
      refine w1_s ?_
      unfold fMu_reachedFrom
      rw [es, bv_s]
      have fx : ∀ p, p < 8 → ((s1 67 p ≤ 0 ∧ (m.testBit p = true → p = x) ∧ (p = x → m.testBit p = true)) ∨ (¬ s1 67 p ≤ 0 ∧ m.testBit p = true ∧ p ≠ x)) := by
        intro p hp
        rcases hf p hp with ⟨j, h1, h2, h3⟩ | ⟨h1, h2⟩
        · rw [h2]
          have ht := (hm.2 p hp).mpr (rch_m h3.1 h1)
          cases j with
          | zero => exact Or.inl ⟨by decide, fun _ => h3.1, fun _ => ht⟩
          | succ j => exact Or.inr ⟨nI_nle (by omega) (by omega), ht, fun e => h3.2 0 (by omega) e⟩
        · rw [h1]
          refine Or.inl ⟨by decide, fun q => absurd ((hm.2 p hp).mp q) h2, fun e => absurd (rch_m (n := 0) (m := 8) e (by omega)) h2⟩
      have hpc : pc m = sm (fun p => if s1 67 p ≤ 0 then 0 else 1) 0 8 + 1 := by
        rw [← pc_sm 8 m hm1]
        have e1 : sm (fun i => if m.testBit i = true then 1 else 0) 0 8 = sm (fun i => (if s1 67 i ≤ 0 then 0 else 1) + (if i = x then 1 else 0)) 0 8 := by
          refine sm_eq 8 0 (fun p _ hp => ?_)
          rcases fx p (by omega) with ⟨h1, h2, h3⟩ | ⟨h1, h2, h3⟩
          · rw [if_pos h1]
            by_cases e : p = x
            · rw [if_pos e, if_pos (h3 e)]
            · rw [if_neg e, if_neg (fun q => e (h2 q))]
          · rw [if_neg h1, if_pos h2, if_neg h3]
        rw [e1, sm_ad, sm_at, if_pos (by omega)]
      rw [hpc, nI_pred]
      refine w1_bi (w1_lp (fun k u s => s = s1 ∧ ∃ i d, i + k = 8 ∧ u = (nI d, nI i) ∧ d + sm (fun p => if s1 67 p ≤ 0 then 0 else 1) i k = sm (fun p => if s1 67 p ≤ 0 then 0 else 1) 0 8) ?_ FU 8 _ _ (FU_lt (by omega)) ⟨rfl, 0, 0, by omega, rfl, by omega⟩)
      rintro p2 k2 u2 t2 ⟨rfl, j, d, hj, rfl, hR⟩ hp2
      dsimp only
      refine w1_if (fun c => ?_) (fun c => ?_)
      · have c := (nI_leI (a := 8) (b := j) (by decide) (by omega)).mp c
        rw [show k2 = 0 by omega, sm] at hR
        refine w1_s (w1_s ?_)
        show nI d = _
        rw [← hR]; rfl
      have c : ¬ 8 ≤ j := fun q' => c ((nI_leI (a := 8) (b := j) (by decide) (by omega)).mpr q')
      obtain ⟨k2, rfl⟩ : ∃ y, k2 = y + 1 := ⟨k2 - 1, by omega⟩
      rw [sm] at hR
      rw [e_farOf (by omega), bi_s, bnd_e, nI_1, nI_1]
      refine w1_if (fun c2 => ?_) (fun c2 => ?_)
      · rw [if_pos c2] at hR
        exact hp2 k2 _ _ (by omega) ⟨rfl, j + 1, d, by omega, rfl, by omega⟩
      · rw [if_neg c2] at hR
        exact hp2 k2 _ _ (by omega) ⟨rfl, j + 1, d + 1, by omega, rfl, by omega⟩
    · have c : ¬ 8 ≤ i := fun q' => c ((nI_leI (a := 8) (b := i) (by decide) (by omega)).mpr q')
      rw [if_pos rfl]
      refine w1_bi (w1_m (over_m hB hm) (fun z hz => ?_))
      obtain ⟨h1, r, h2, h3⟩ := hz
      rw [h1, h2, nI_1]
      exact hp (k - 1) _ _ (by omega) ⟨rfl, i + 1, r, by omega, rfl, h3⟩
  rw [if_neg g3]
  obtain ⟨y, hy, rfl⟩ : ∃ y, y < 8 ∧ v = nI y := by
    have q := g2
    unfold wi at q
    by_cases z1 : v < -1
    · rw [if_pos z1] at q; exact absurd rfl q
    · rw [if_neg z1] at q
      by_cases z2 : v < 0
      · rw [Int32.lt_iff_toInt_lt] at z1 z2
        have y1 : (-1 : Int32).toInt = -1 := by decide
        have y0 : (0 : Int32).toInt = 0 := by decide
        exact absurd (Int32.toInt_inj.mp (by omega)) g3
      · obtain ⟨y, hy, rfl⟩ := nI_of z2
        refine ⟨y, ?_, rfl⟩
        by_cases z3 : (7 : Int32) < nI y
        · rw [if_pos z3] at q; exact absurd rfl q
        · have := fun h => z3 ((nI_ltI (a := 7) (b := y) (by decide) hy).mpr h)
          exact Nat.lt_of_not_le this
  unfold fMu_stepsOver
  rw [es, bv_s, e_farOf (by omega), bi_s, bi_s]
  refine w2_1 (w1_s ?_)
  refine w1_lp (fun k u s => s = b ∧ ∃ i m, i + k = 8 ∧ u = (nI m, nI i) ∧ mkR (Eo nl vl) x 8 i m ∧ ∀ j, j < i → ¬ Rch (Eo nl vl) x j y) ?_ FU 8 _ _ (FU_lt (by omega)) ⟨rfl, 0, 2 ^ x, by omega, rfl, mk_0 (by omega), fun j hj => by omega⟩
  rintro p k u s ⟨rfl, i, m, hi, rfl, hm, hj⟩ hp
  dsimp only
  refine w1_if (fun c => ?_) (fun c => ?_)
  · have c := (nI_leI (a := 8) (b := i) (by decide) (by omega)).mp c
    rw [if_neg g3]
    refine w1_s ?_
    show s1 67 y = -1
    rcases hf y hy with ⟨j, h1, h2, h3⟩ | h
    · have := fst_lt (show x < 8 by omega) elt h3
      exact absurd h3.1 (hj j (by omega))
    · exact h.1
  have c : ¬ 8 ≤ i := fun q' => c ((nI_leI (a := 8) (b := i) (by decide) (by omega)).mpr q')
  have hm1 := hm.1
  rw [if_neg g3, e_hasN (by omega) (by omega), bi_s]
  by_cases c2 : m.testBit y = true
  · rw [if_pos c2, if_neg n10z]
    refine w1_s ?_
    show s1 67 y = nI i
    have hF : Fst (Eo nl vl) x i y := ⟨(hm.2 y hy).mp c2, hj⟩
    rcases hf y hy with ⟨j, h1, h2, h3⟩ | h
    · rw [h2, fst_1 h3 hF]
    · exact absurd (rch_m hF.1 (by omega)) h.2
  · rw [if_neg c2, if_pos rfl]
    refine w1_bi (w1_m (over_m hB hm) (fun z hz => ?_))
    obtain ⟨h1, r, h2, h3⟩ := hz
    rw [h1, h2, nI_1]
    refine hp (k - 1) _ _ (by omega) ⟨rfl, i + 1, r, by omega, rfl, h3, fun j hj2 => ?_⟩
    by_cases e : j = i
    · subst e; exact fun q => c2 ((hm.2 y hy).mpr q)
    · exact hj j (by omega)
