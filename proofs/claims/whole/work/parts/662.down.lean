/-! down: the reference; by one word -/
def mkR (E : Nat → Nat → Prop) (x N n m : Nat) : Prop := m < 2 ^ N ∧ ∀ p, p < N → (m.testBit p = true ↔ Rch E x n p)
theorem e_led {b : Sg} {c : Nat → Int32} {n m : Nat} {v : Int32} (hb : ∀ q k, q < 10 → k < 20 → b 130 (20 * q + k) = ledU c q k 0 n) (hc : ∀ q k, bd (ledU c q k 0 n) 10) (hm : m < 2 ^ 10) : W1 (fM_ledFrom (nI m) v b) (fun z => z.2 = b ∧ ∃ r, r < 2 ^ 10 ∧ z.1 = nI r ∧ ∀ p, p < 10 → (r.testBit p = true ↔ ∃ q, m.testBit q = true ∧ Ev c n v q p)) := by
  unfold fM_ledFrom
  simp only [bnd_x]
  refine w1_lp (fun k u s => s = b ∧ ∃ i r, i + k = 10 ∧ u = (nI r, nI i) ∧ r < 2 ^ 10 ∧ ∀ p, p < 10 → (r.testBit p = true ↔ ∃ q, q < i ∧ m.testBit q = true ∧ Ev c n v q p)) ?_ FU 10 _ _ (FU_lt (by omega)) ⟨rfl, 0, 0, by omega, rfl, by decide, fun p _ => ⟨fun h => absurd h (by simp), fun ⟨q, h, _⟩ => by omega⟩⟩
  rintro p k u s ⟨rfl, i, r, hi, rfl, hr, hR⟩ hp
  dsimp only
  refine w1_if (fun c1 => ?_) (fun c1 => ?_)
  · have c1 := (nI_leI (a := 10) (b := i) (by decide) (by omega)).mp c1
    refine w1_s ⟨rfl, r, hr, rfl, fun p hp => ?_⟩
    rw [hR p hp]
    constructor
    · rintro ⟨q, _, h⟩; exact ⟨q, h⟩
    · rintro ⟨q, h1, h2⟩
      have := h2.1
      exact ⟨q, by omega, h1, h2⟩
  have c1 : ¬ 10 ≤ i := fun q => c1 ((nI_leI (a := 10) (b := i) (by decide) (by omega)).mpr q)
  refine w1_lp (fun j u t => t = s ∧ ∃ k' r, k' + j = 20 ∧ u = (nI r, nI k') ∧ r < 2 ^ 10 ∧ ∀ p, p < 10 → (r.testBit p = true ↔ ((∃ q, q < i ∧ m.testBit q = true ∧ Ev c n v q p) ∨ (m.testBit i = true ∧ ∃ k, k < k' ∧ (v = -1 ∨ v = nI k) ∧ ledU c i k 0 n = nI (p + 1))))) ?_ FU 20 _ _ (FU_lt (by omega)) ⟨rfl, 0, r, by omega, rfl, hr, fun p hp => by rw [hR p hp]; exact ⟨Or.inl, fun h => h.elim id (fun ⟨_, k, h, _⟩ => by omega)⟩⟩
  rintro p2 j u t ⟨rfl, k', r', hk', rfl, hr', hR'⟩ hp2
  dsimp only
  refine w1_if (fun c2 => ?_) (fun c2 => ?_)
  · have c2 := (nI_leI (a := 20) (b := k') (by decide) (by omega)).mp c2
    rw [nI_1]
    refine hp (k - 1) _ _ (by omega) ⟨rfl, i + 1, r', by omega, rfl, hr', fun p hp => ?_⟩
    rw [hR' p hp]
    constructor
    · rintro (⟨q, h1, h2⟩ | ⟨h1, k2, h2, h3, h4⟩)
      · exact ⟨q, by omega, h2⟩
      · exact ⟨i, by omega, h1, by omega, hp, k2, by omega, h3, h4⟩
    · rintro ⟨q, h1, h2, h3⟩
      by_cases e : q = i
      · subst e
        obtain ⟨_, _, k2, h4, h5, h6⟩ := h3
        exact Or.inr ⟨h2, k2, by omega, h5, h6⟩
      · exact Or.inl ⟨q, by omega, h2, h3⟩
  have c2 : ¬ 20 ≤ k' := fun q => c2 ((nI_leI (a := 20) (b := k') (by decide) (by omega)).mpr q)
  obtain ⟨x, hx, ex⟩ := hc i k'
  have nxt : ∀ r2, r2 < 2 ^ 10 → (∀ p, p < 10 → (r2.testBit p = true ↔ (r'.testBit p = true ∨ (m.testBit i = true ∧ (v = -1 ∨ v = nI k') ∧ x = p + 1)))) → W1 (p2 (nI r2, nI (k' + 1)) t) (fun z => z.2 = t ∧ ∃ r, r < 2 ^ 10 ∧ z.1 = nI r ∧ ∀ p, p < 10 → (r.testBit p = true ↔ ∃ q, m.testBit q = true ∧ Ev c n v q p)) := by
    intro r2 h1 h2
    refine hp2 (j - 1) _ _ (by omega) ⟨rfl, k' + 1, r2, by omega, rfl, h1, fun p hp => ?_⟩
    rw [h2 p hp, hR' p hp]
    constructor
    · rintro ((h | ⟨h3, k2, h4, h5⟩) | ⟨h3, h4, h5⟩)
      · exact Or.inl h
      · exact Or.inr ⟨h3, k2, by omega, h5⟩
      · exact Or.inr ⟨h3, k', by omega, h4, by rw [ex, h5]⟩
    · rintro (h | ⟨h3, k2, h4, h5, h6⟩)
      · exact Or.inl (Or.inl h)
      · by_cases e : k2 = k'
        · subst e
          rw [ex] at h6
          exact Or.inr ⟨h3, h5, nI_inj (by omega) (by omega) h6⟩
        · exact Or.inl (Or.inr ⟨h3, k2, by omega, h5, h6⟩)
  rw [e_hasN (by omega) (by omega), bi_s]
  simp only [nI_20, gd_n _ (show 20 * i + k' < 200 by omega) (show 200 < 2 ^ 31 by decide), ix_n (show 20 * i + k' < 2 ^ 31 by omega), hb i k' (by omega) (by omega), ex, nI_1]
  by_cases c3 : m.testBit i = true
  · rw [if_pos c3, if_neg n10z]
    have mid : W1 (if nI x ≤ 0 then p2 (nI r', nI (k' + 1)) t else p2 (nI r' ||| 1 <<< ((nI x - 1) &&& 31), nI (k' + 1)) t) (fun z => z.2 = t ∧ ∃ r, r < 2 ^ 10 ∧ z.1 = nI r ∧ ∀ p, p < 10 → (r.testBit p = true ↔ ∃ q, m.testBit q = true ∧ Ev c n v q p)) ∨ ¬ (v = -1 ∨ v = nI k') := by
      by_cases cv : v = -1 ∨ v = nI k'
      · refine Or.inl ?_
        refine w1_if (fun c4 => ?_) (fun c4 => ?_)
        · have hx0 : x = 0 := Nat.eq_zero_of_not_pos fun q => nI_nle q (by omega) c4
          refine nxt r' hr' (fun p hp => ⟨Or.inl, fun h => h.elim id (fun ⟨_, _, h⟩ => by omega)⟩)
        · obtain ⟨x, rfl⟩ : ∃ y, x = y + 1 := ⟨x - 1, by
            have : x ≠ 0 := fun e => c4 (by rw [e]; decide)
            omega⟩
          rw [nI_pred, sh1 x (by omega), nx_or]
          refine nxt _ (Nat.or_lt_two_pow hr' (Nat.pow_lt_pow_right (by decide) (by omega))) (fun p hp => ?_)
          rw [tb_or, Bool.or_eq_true, decide_eq_true_iff]
          constructor
          · rintro (h | h)
            · exact Or.inl h
            · exact Or.inr ⟨c3, cv, by omega⟩
          · rintro (h | ⟨_, _, h⟩)
            · exact Or.inl h
            · exact Or.inr (by omega)
      · exact Or.inr cv
    refine w1_if (fun cv => ?_) (fun cv => ?_)
    · exact mid.elim id (fun h => absurd (Or.inl cv) h)
    · refine w1_if (fun cw => ?_) (fun cw => ?_)
      · exact mid.elim id (fun h => absurd (Or.inr cw) h)
      · exact nxt r' hr' (fun p hp => ⟨Or.inl, fun h => h.elim id (fun ⟨_, h, _⟩ => h.elim (fun h => absurd h cv) (fun h => absurd h cw))⟩)
  · rw [if_neg c3, if_pos rfl]
    exact nxt r' hr' (fun p hp => ⟨Or.inl, fun h => h.elim id (fun ⟨h, _⟩ => absurd h c3)⟩)
theorem ev_lt {c : Nat → Int32} {n : Nat} {v : Int32} : ∀ q p, Ev c n v q p → p < 10 := fun _ _ h => h.2.1
/-- one go of the reference's search -/
theorem mk_s {c : Nat → Int32} {n x i m r : Nat} {v : Int32} (h : mkR (Ev c n v) x 10 i m) (hr : r < 2 ^ 10) (hR : ∀ p, p < 10 → (r.testBit p = true ↔ ∃ q, m.testBit q = true ∧ Ev c n v q p)) : mkR (Ev c n v) x 10 (i + 1) (m ||| r) := by
  refine ⟨Nat.or_lt_two_pow h.1 hr, fun p hp => ?_⟩
  rw [Nat.testBit_or, Bool.or_eq_true, h.2 p hp, hR p hp]
  constructor
  · rintro (q | ⟨q, h1, h2⟩)
    · exact Or.inl q
    · exact Or.inr ⟨q, (h.2 q h2.1).mp h1, h2⟩
  · rintro (q | ⟨q, h1, h2⟩)
    · exact Or.inl q
    · exact Or.inr ⟨q, (h.2 q h2.1).mpr h1, h2⟩
theorem mk_0 {E : Nat → Nat → Prop} {x N : Nat} (hx : x < N) : mkR E x N 0 (2 ^ x) := by
  refine ⟨Nat.pow_lt_pow_right (by decide) hx, fun p hp => ?_⟩
  rw [Nat.testBit_two_pow, decide_eq_true_iff]
  exact ⟨fun h => h.symm, fun h => h.symm⟩
/-- the way by one word -/
def pth (c : Nat → Int32) (n w x : Nat) : Nat → Option Nat
  | 0 => some x
  | i + 1 => (pth c n w x i).bind fun q => if ledU c q w 0 n = 0 then none else some (ix (ledU c q w 0 n) - 1)
theorem led_o {c : Nat → Int32} {n w : Nat} (hc : ∀ q k, bd (ledU c q k 0 n) 10) (q p : Nat) (hp : p < 10) : ((if ledU c q w 0 n = 0 then none else some (ix (ledU c q w 0 n) - 1)) = some p) ↔ ledU c q w 0 n = nI (p + 1) := by
  obtain ⟨x, hx, e⟩ := hc q w
  rw [e]
  by_cases h : x = 0
  · subst h
    rw [if_pos (show nI 0 = 0 from rfl)]
    refine ⟨fun h => ?_, fun h => ?_⟩
    · exact absurd h (by simp)
    · exact absurd h.symm (nI_ne0 (by omega) (by omega))
  · rw [if_neg (nI_ne0 (by omega) (by omega)), ix_n (by omega), nI_eq (by omega) (by omega)]
    constructor
    · intro h
      have := Option.some.inj h
      omega
    · intro h
      rw [h]; rfl
theorem pth_lt {c : Nat → Int32} {n w x : Nat} (hc : ∀ q k, bd (ledU c q k 0 n) 10) (hx : x < 10) : ∀ i p, pth c n w x i = some p → p < 10
  | 0, p, h => by rw [← Option.some.inj h]; exact hx
  | i + 1, p, h => by
    rw [pth] at h
    obtain ⟨q, hq, h2⟩ := Option.bind_eq_some_iff.mp h
    obtain ⟨y, hy, e⟩ := hc q w
    rw [e] at h2
    split at h2
    · cases h2
    · rw [ix_n (by omega)] at h2
      have := Option.some.inj h2
      omega
theorem pth_r {c : Nat → Int32} {n w x : Nat} (hc : ∀ q k, bd (ledU c q k 0 n) 10) (hx : x < 10) (hw : w < 20) : ∀ i p, Rch (Ev c n (nI w)) x i p ↔ ∃ j, j ≤ i ∧ pth c n w x j = some p
  | 0, p => by
    constructor
    · intro h; exact ⟨0, Nat.le_refl _, by rw [show p = x from h]; rfl⟩
    · rintro ⟨j, hj, h⟩
      rw [show j = 0 by omega] at h
      exact (Option.some.inj h).symm
  | i + 1, p => by
    constructor
    · rintro (h | ⟨q, h1, h2⟩)
      · obtain ⟨j, hj, h⟩ := (pth_r hc hx hw i p).mp h
        exact ⟨j, by omega, h⟩
      · obtain ⟨j, hj, h⟩ := (pth_r hc hx hw i q).mp h1
        refine ⟨j + 1, by omega, ?_⟩
        obtain ⟨_, hp, k, hk, h3, h4⟩ := h2
        have hkw : k = w := by
          rcases h3 with h3 | h3
          · exact absurd h3 (nI_m1 (by omega))
          · exact (nI_inj (by omega) (by omega) h3).symm
        subst hkw
        rw [pth, h]
        exact (led_o hc q p hp).mpr h4
    · rintro ⟨j, hj, h⟩
      cases j with
      | zero => exact rch_m (n := 0) (Option.some.inj h).symm (by omega)
      | succ j =>
        rw [pth] at h
        obtain ⟨q, hq, h2⟩ := Option.bind_eq_some_iff.mp h
        have hp := pth_lt hc hx (j + 1) p (by rw [pth]; exact h)
        refine rch_m (n := j + 1) (Or.inr ⟨q, (pth_r hc hx hw j q).mpr ⟨j, Nat.le_refl _, hq⟩, pth_lt hc hx j q hq, hp, w, hw, Or.inr rfl, (led_o hc q p hp).mp h2⟩) (by omega)
theorem sim_down (u v w : Int32) : Sim (fH_down u v w) (fM_down u v w) := by
  refine sim_r (fun _ => rfl) (fr_H_down u v w) (fr_M_down u v w) (by decide) (by decide) (fun a b hI => ?_)
  obtain ⟨n, hn, e1, e2, hr, hup⟩ : gSp (a 53) (a 54) (b 102 49) (b 130) := hI 7
  obtain ⟨_, _, _, _, _, _, _, _, ⟨t0, t1⟩, _⟩ : gKc a := hI 18
  have hb : ∀ q k, q < 10 → k < 20 → b 130 (20 * q + k) = ledU (a 54) q k 0 n := fun q k h1 h2 => hup q k h1 h2
  have hc : ∀ q k, bd (ledU (a 54) q k 0 n) 10 := fun q k => led_b n 0 (fun r _ h => (hr r (by omega)).2.2)
  unfold fH_down
  simp only [e_within, e_isIn, bi_x, bnd_x]
  by_cases g1 : wi u 0 9 = 0
  · simp only [if_pos g1]
    exact w2_s rfl
  by_cases g2 : wi v 0 9 = 0
  · simp only [if_neg g1, if_pos g2]
    exact w2_s rfl
  simp only [if_neg g1, if_neg g2]
  obtain ⟨x, _, hx, rfl⟩ := wi_1 (a := 0) (b := 9) (by decide) (by decide) g1
  obtain ⟨y, _, hy, rfl⟩ := wi_1 (a := 0) (b := 9) (by decide) (by decide) g2
  have step : ∀ i m, mkR (Ev (a 54) n w) x 10 i m → W1 (fM_ledFrom (nI m) w b) (fun z => z.2 = b ∧ ∃ r, z.1 = nI r ∧ mkR (Ev (a 54) n w) x 10 (i + 1) (m ||| r)) := fun i m h => w1_m (e_led hb hc h.1) (fun z ⟨h1, r, h2, h3, h4⟩ => ⟨h1, r, h3, mk_s h h2 h4⟩)
  rw [sh1 x (by omega)]
  by_cases g5 : wi w (-1) 19 = 0
  · have g3 : ¬ w = -1 := fun q => by rw [q] at g5; exact absurd g5 (by decide)
    have g4 : wi w 0 19 = 0 := by
      refine Classical.byContradiction fun q => ?_
      obtain ⟨k0, _, hk0, rfl⟩ := wi_1 (a := 0) (b := 19) (by decide) (by decide) q
      have : wi (nI k0) (-1) 19 = 1 := by
        unfold wi
        rw [if_neg (nlt_m1 (by omega)), if_neg (show ¬ (19 : Int32) < nI k0 from nI_nlt (b := k0) (a := 19) (by omega) (by decide))]
      rw [this] at g5
      exact absurd g5 (by decide)
    rw [if_neg g3, e_isWord, bi_s, if_pos g4, if_pos g5]
    exact w2_s rfl
  rw [if_neg g5]
  refine w2_1 (w1_m (P := fun z => (∃ j, j < 10 ∧ Fst (Ev (a 54) n w) x j y ∧ z.1 = nI j) ∨ ((∀ j, j < 10 → ¬ Rch (Ev (a 54) n w) x j y) ∧ z.1 = -1)) ?_ (fun z hz => ?_))
  · by_cases g3 : w = -1
    · subst g3
      rw [if_pos rfl]
      refine w1_bi (w1_m (down_any hn e1 t0 t1 hr (show x < 10 by omega) (show y < 10 by omega)) (fun z hz => w1_s ?_))
      obtain ⟨far, hf, ez⟩ := hz
      dsimp only
      rw [ez]
      rcases hf y (by omega) with ⟨j, h1, h2, h3⟩ | ⟨h1, h2⟩
      · exact Or.inl ⟨j, fst_lt (show x < 10 by omega) ev_lt h3, h3, h2⟩
      · exact Or.inr ⟨fun j hj hr => h2 (rch_m hr (by omega)), h1⟩
    · rw [if_neg g3, e_isWord, bi_s]
      have g4 : ¬ wi w 0 19 = 0 := fun q => by
        have q' := g5
        unfold wi at q q'
        by_cases z1 : w < -1
        · rw [if_pos z1] at q'; exact q' rfl
        · rw [if_neg z1] at q'
          by_cases z2 : w < 0
          · rw [Int32.lt_iff_toInt_lt] at z1 z2
            have y1 : (-1 : Int32).toInt = -1 := by decide
            have y0 : (0 : Int32).toInt = 0 := by decide
            exact g3 (Int32.toInt_inj.mp (by omega))
          · rw [if_neg z2] at q
            exact q' q
      rw [if_neg g4]
      obtain ⟨k0, _, hk0, rfl⟩ := wi_1 (a := 0) (b := 19) (by decide) (by decide) g4
      have L : ∀ q, fMu_leadsTo (nI q) (nI k0) a = some (ledU (a 54) q k0 0 n - 1, a) := fun q => e_leads hn e1 t0 t1
      have PR := fun i p => pth_r (c := a 54) (n := n) (w := k0) (x := x) hc (by omega) (by omega) i p
      have PL := fun i p => pth_lt (c := a 54) (n := n) (w := k0) (x := x) hc (by omega) i p
      unfold fMu_stepsBy
      refine w1_bi (w1_lp (fun k u s => s = a ∧ ∃ i, i + k = 10 ∧ (∀ j, j < i → pth (a 54) n k0 x j ≠ some y) ∧ ((∃ q, u = (nI q, nI i) ∧ pth (a 54) n k0 x i = some q) ∨ (u = (-1, nI i) ∧ pth (a 54) n k0 x i = none))) ?_ FU 10 _ _ (FU_lt (by omega)) ⟨rfl, 0, by omega, fun j hj => by omega, Or.inl ⟨x, rfl, rfl⟩⟩)
      have dead : ∀ i, pth (a 54) n k0 x i = none → ∀ j, i ≤ j → pth (a 54) n k0 x j = none := fun i h j hj => by
        induction j with
        | zero => rw [show i = 0 by omega] at h; exact h
        | succ j ih =>
          by_cases e : i = j + 1
          · rw [← e]; exact h
          · rw [pth, ih (by omega)]; rfl
      have no : ∀ i, (∀ j, j < i → pth (a 54) n k0 x j ≠ some y) → (10 ≤ i ∨ pth (a 54) n k0 x i = none) → ∀ j, j < 10 → ¬ Rch (Ev (a 54) n (nI k0)) x j y := fun i h1 h2 j hj hr => by
        obtain ⟨l, hl, h3⟩ := (PR j y).mp hr
        rcases h2 with h2 | h2
        · exact h1 l (by omega) h3
        · by_cases e : l < i
          · exact h1 l e h3
          · rw [dead i h2 l (by omega)] at h3; cases h3
      rintro p k u s ⟨rfl, i, hi, hj, hu⟩ hp
      rcases hu with ⟨q, rfl, hq⟩ | ⟨rfl, hq⟩
      · dsimp only
        have hq10 := PL i q hq
        refine w1_if (fun c => ?_) (fun c => ?_)
        · have c := (nI_leI (a := 10) (b := i) (by decide) (by omega)).mp c
          exact w1_s (w1_s (Or.inr ⟨no i hj (Or.inl c), rfl⟩))
        have c : ¬ 10 ≤ i := fun q => c ((nI_leI (a := 10) (b := i) (by decide) (by omega)).mpr q)
        rw [if_neg (nI_m1 (show q < 2 ^ 31 by omega))]
        refine w1_if (fun c2 => ?_) (fun c2 => ?_)
        · have c2 := nI_inj (by omega) (by omega) c2
          subst c2
          refine w1_s (w1_s (Or.inl ⟨i, by omega, ⟨(PR i q).mpr ⟨i, Nat.le_refl _, hq⟩, fun l hl hr => ?_⟩, rfl⟩))
          obtain ⟨l', h1, h2⟩ := (PR l q).mp hr
          exact hj l' (by omega) h2
        · rw [L q, bi_s, nI_1]
          have hj' : ∀ j, j < i + 1 → pth (s 54) n k0 x j ≠ some y := fun j hj2 => by
            by_cases e : j = i
            · subst e; rw [hq]; exact fun h => c2 (by rw [Option.some.inj h])
            · exact hj j (by omega)
          refine hp (k - 1) _ _ (by omega) ⟨rfl, i + 1, by omega, hj', ?_⟩
          obtain ⟨l, hl, el⟩ := hc q k0
          rw [el]
          cases l with
          | zero => exact Or.inr ⟨rfl, by rw [pth, hq]; show (if ledU (s 54) q k0 0 n = 0 then none else _) = none; rw [el]; rfl⟩
          | succ l =>
            refine Or.inl ⟨l, by rw [nI_pred], ?_⟩
            rw [pth, hq]
            show (if ledU (s 54) q k0 0 n = 0 then none else some (ix (ledU (s 54) q k0 0 n) - 1)) = some l
            rw [el, if_neg (nI_ne0 (by omega) (by omega)), ix_n (by omega)]
            rfl
      · dsimp only
        refine w1_if (fun c => ?_) (fun c => ?_)
        · have c := (nI_leI (a := 10) (b := i) (by decide) (by omega)).mp c
          exact w1_s (w1_s (Or.inr ⟨no i hj (Or.inl c), rfl⟩))
        · rw [if_pos rfl]
          exact w1_s (w1_s (Or.inr ⟨no i hj (Or.inr hq), rfl⟩))
  · refine w1_lp (fun k u s => s = b ∧ ∃ i m, i + k = 10 ∧ u = (nI m, nI i) ∧ mkR (Ev (a 54) n w) x 10 i m ∧ ∀ j, j < i → ¬ Rch (Ev (a 54) n w) x j y) ?_ FU 10 _ _ (FU_lt (by omega)) ⟨rfl, 0, 2 ^ x, by omega, rfl, mk_0 (by omega), fun j hj => by omega⟩
    rintro p k u s ⟨rfl, i, m, hi, rfl, hm, hj⟩ hp
    dsimp only
    refine w1_if (fun c => ?_) (fun c => ?_)
    · have c := (nI_leI (a := 10) (b := i) (by decide) (by omega)).mp c
      refine w1_s ?_
      rcases hz with ⟨j, h1, h2, h3⟩ | ⟨h1, h2⟩
      · exact absurd h2.1 (hj j (by omega))
      · exact h2
    have c : ¬ 10 ≤ i := fun q => c ((nI_leI (a := 10) (b := i) (by decide) (by omega)).mpr q)
    have hm1 := hm.1
    rw [e_hasN (by omega) (by omega), bi_s]
    by_cases c2 : m.testBit y = true
    · rw [if_pos c2, if_neg n10z]
      refine w1_s ?_
      have hF : Fst (Ev (a 54) n w) x i y := ⟨(hm.2 y (by omega)).mp c2, hj⟩
      rcases hz with ⟨j, h1, h2, h3⟩ | ⟨h1, h2⟩
      · rw [fst_1 h2 hF] at h3
        exact h3
      · exact absurd hF.1 (h1 i (by omega))
    · rw [if_neg c2, if_pos rfl]
      refine w1_bi (w1_m (step i m hm) (fun z' hz' => ?_))
      obtain ⟨h1, r, h2, h3⟩ := hz'
      rw [h1, h2, nx_or, nI_1]
      refine hp (k - 1) _ _ (by omega) ⟨rfl, i + 1, m ||| r, by omega, rfl, h3, fun j hj2 => ?_⟩
      by_cases e : j = i
      · subst e; exact fun q => c2 ((hm.2 y (by omega)).mpr q)
      · exact hj j (by omega)
