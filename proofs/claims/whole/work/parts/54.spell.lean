/-! spell -/
theorem i_m1 (x : Int32) : x + (-1) = x - 1 := (Int32.sub_eq_add_neg x 1).symm
def dg (w : Nat) : Nat → Nat → Sg → Sg
  | 0, _, s => s
  | k + 1, x, s => dg w k (x / 10) (pt s 132 (5 * w + k) (nI (x % 10)))
theorem dg_r (w : Nat) : ∀ (k x : Nat) (s : Sg), (∀ j, j < k → dg w k x s 132 (5 * w + j) = nI (x / 10 ^ (k - 1 - j) % 10)) ∧ ∀ q j, ¬ (q = 132 ∧ 5 * w ≤ j ∧ j < 5 * w + k) → dg w k x s q j = s q j
  | 0, x, s => ⟨fun j hj => by omega, fun _ _ _ => rfl⟩
  | k + 1, x, s => by
    obtain ⟨h1, h2⟩ := dg_r w k (x / 10) (pt s 132 (5 * w + k) (nI (x % 10)))
    refine ⟨fun j hj => ?_, fun q j hq => ?_⟩
    · by_cases e : j = k
      · subst e
        show dg w j (x / 10) _ 132 _ = _
        rw [h2 _ _ (by omega), pt_s, show j + 1 - 1 - j = 0 by omega, Nat.pow_zero, Nat.div_one]
      · show dg w k (x / 10) _ 132 _ = _
        rw [h1 j (by omega), Nat.div_div_eq_div_mul, ← Nat.pow_succ', show (k - 1 - j).succ = k + 1 - 1 - j by omega]
    · show dg w k (x / 10) _ q j = _
      rw [h2 q j (by omega), ptf _ _ _ _ _ _ (by omega)]
theorem p10 (n : Nat) (h : n ≤ 5) : 1 ≤ 10 ^ n ∧ 10 ^ n ≤ 100000 := by
  have : n = 0 ∨ n = 1 ∨ n = 2 ∨ n = 3 ∨ n = 4 ∨ n = 5 := by omega
  rcases this with rfl | rfl | rfl | rfl | rfl | rfl <;> decide
theorem fld_10 : ∀ (k i : Nat), fld (fun _ (a : Int32) => a * 10) i k (nI (10 ^ i)) = nI (10 ^ (i + k))
  | 0, i => rfl
  | k + 1, i => by
    show fld _ (i + 1) k (nI (10 ^ i) * 10) = _
    rw [show (10 : Int32) = nI 10 from rfl, pk_mul, ← Nat.pow_succ, ← show i + 1 + k = i + (k + 1) by omega]
    exact fld_10 k (i + 1)
theorem sim_spell (u v w : Int32) : Sim (fH_spell u v w) (fM_spell u v w) := by
  refine sim_on [8] (fun _ => rfl) (fr_H_spell u v w) (fr_M_spell u v w) (by decide) (by decide) (fun a b hI => ?_)
  have hS : gSl (a 56) (b 131) (b 132) := hI 8
  obtain ⟨_, _, _, _, _, _, _, _, _, ⟨t0, t1⟩, _⟩ : gKc a := hI 18
  unfold fH_spell
  simp only [e_isIn, e_within, bi_s, gb_0, gb_1]
  by_cases g1 : wi u 0 7 = 0
  · simp only [if_pos g1]
    exact ⟨_, a, b, rfl, rfl, al1 (hI 8)⟩
  by_cases g2 : wi v 0 5 = 0
  · simp only [if_neg g1, if_pos g2]
    exact ⟨_, a, b, rfl, rfl, al1 (hI 8)⟩
  simp only [if_neg g1, if_neg g2]
  obtain ⟨x, _, hx, rfl⟩ := wi_1 (a := 0) (b := 7) (by decide) (by decide) g1
  obtain ⟨n, _, hn, rfl⟩ := wi_1 (a := 0) (b := 5) (by decide) (by decide) g2
  obtain ⟨hp1, hp2⟩ := p10 n hn
  have L1 := lp_fold (s := a) (b := fun q27 (u27 : Int32 × Int32) (s5 : Sg) => if nI n ≤ u27.2 then (if wi w 0 (u27.1 - 1) = 0 then (some ((0 : Int32), s5)) else (bv (fTa_put 55 (nI x) 0 (nI n) s5) fun s8 => bv (fTa_put 55 (nI x) 1 w s8) fun s9 => (some (1, s9)))) else (q27 ((u27.1 * 10), (u27.2 + 1)) s5)) n (fun i (p : Int32) => (p, nI i)) (fun _ p => p * 10) (fun p => if wi w 0 (p - 1) = 0 then (some ((0 : Int32), a)) else (bv (fTa_put 55 (nI x) 0 (nI n) a) fun s8 => bv (fTa_put 55 (nI x) 1 w s8) fun s9 => (some (1, s9)))) (fun _ _ => True)
    (fun q p _ => if_pos (nI_le (Nat.le_refl n) (by omega))) (fun q i p hi _ => ⟨by rw [if_neg (nI_ge hi (by omega)), nI_1], trivial⟩) n 0 FU (nI (10 ^ 0)) (by omega) (FU_lt (by omega)) trivial
  rw [fld_10 n 0, Nat.zero_add] at L1
  rw [show lp FU _ ((1 : Int32), (0 : Int32)) a = _ from L1.1]
  have L2 := lp_fold (s := b) (b := fun q34 (u34 : Int32 × Int32) (s6 : Sg) => if nI n ≤ u34.2 then (if wi w 0 (u34.1 - 1) = 0 then (some ((0 : Int32), s6)) else (gd (nI x) 8 (bnd (pt s6 131 (ix (nI x)) (nI n)) fun s9 => lp FU (fun q83 (u83 : Int32 × Int32) (s10 : Sg) => if u83.2 < 0 then ((some (1, s10))) else (gz 10 (gd ((5 * nI x) + u83.2) 40 (bnd (pt s10 132 (ix ((5 * nI x) + u83.2)) (u83.1 - u83.1 / 10 * 10)) fun s11 => gz 10 (q83 ((u83.1 / 10), (u83.2 + (-1))) s11))))) (w, (nI n - 1)) s9))) else (q34 ((u34.1 * 10), (u34.2 + 1)) s6)) n (fun i (p : Int32) => (p, nI i)) (fun _ p => p * 10) (fun p => if wi w 0 (p - 1) = 0 then (some ((0 : Int32), b)) else (gd (nI x) 8 (bnd (pt b 131 (ix (nI x)) (nI n)) fun s9 => lp FU (fun q83 (u83 : Int32 × Int32) (s10 : Sg) => if u83.2 < 0 then ((some (1, s10))) else (gz 10 (gd ((5 * nI x) + u83.2) 40 (bnd (pt s10 132 (ix ((5 * nI x) + u83.2)) (u83.1 - u83.1 / 10 * 10)) fun s11 => gz 10 (q83 ((u83.1 / 10), (u83.2 + (-1))) s11))))) (w, (nI n - 1)) s9))) (fun _ _ => True)
    (fun q p _ => if_pos (nI_le (Nat.le_refl n) (by omega))) (fun q i p hi _ => ⟨by rw [if_neg (nI_ge hi (by omega)), nI_1], trivial⟩) n 0 FU (nI (10 ^ 0)) (by omega) (FU_lt (by omega)) trivial
  rw [fld_10 n 0, Nat.zero_add] at L2
  rw [show lp FU _ ((1 : Int32), (0 : Int32)) b = _ from L2.1]
  rw [show (1 : Int32) = nI 1 from rfl, pk_sub hp1]
  by_cases g3 : wi w 0 (nI (10 ^ n - 1)) = 0
  · simp only [if_pos g3]
    exact ⟨_, a, b, rfl, rfl, al1 (hI 8)⟩
  simp only [if_neg g3]
  obtain ⟨y, _, hy, rfl⟩ := wi_1 (a := 0) (b := 10 ^ n - 1) (by decide) (by omega) g3
  rw [show fTa_put 55 (nI x) 0 (nI n) a = some _ from e_put (j := 0) t0 t1 (by decide) (by decide) (show x < 8 by omega) (by decide) (by decide) (by decide), bv_s,
    show fTa_put 55 (nI x) (nI 1) (nI y) (pt a (hz_rf 55 2) (x * 2 + 0) (nI n)) = some _ from e_put (s := pt a (hz_rf 55 2) (x * 2 + 0) (nI n)) (j := 1) t0 t1 (by decide) (by decide) (show x < 8 by omega) (by decide) (by decide) (by decide), bv_s, gd_n _ (show x < 8 by omega) (by decide), ix_n (by omega), bnd_e]
  have L3 := lp_rel (R := Int32 × Sg) (b := fun q83 (u83 : Int32 × Int32) (s10 : Sg) => if u83.2 < 0 then ((some (nI 1, s10))) else (gz 10 (gd ((5 * nI x) + u83.2) 40 (bnd (pt s10 132 (ix ((5 * nI x) + u83.2)) (u83.1 - u83.1 / 10 * 10)) fun s11 => gz 10 (q83 ((u83.1 / 10), (u83.2 + (-nI 1))) s11)))))
    (fun k v s r => ∃ z, z < 100000 ∧ k ≤ 5 ∧ v = (nI z, nI k - nI 1) ∧ r = some (nI 1, dg x k z s)) (fun q v s r h => by
      obtain ⟨z, _, _, rfl, rfl⟩ := h
      exact if_pos (show nI 0 - nI 1 < 0 by decide)) (fun q k v s r h => by
      obtain ⟨z, hz, hk, rfl, rfl⟩ := h
      refine Or.inr ⟨(nI (z / 10), nI k - nI 1), pt s 132 (5 * x + k) (nI (z % 10)), ?_, z / 10, by omega, by omega, rfl, rfl⟩
      have e1 : nI (k + 1) - nI 1 = nI k := nI_pred k
      rw [e1, if_neg (nI_pos (by omega)), gz_n _ (by decide), nI_5, gd_n _ (show 5 * x + k < 40 by omega) (by decide), ix_n (by omega), bnd_e, gz_n _ (by decide), show (10 : Int32) = nI 10 from rfl, pk_rem (by omega) (by decide) (by decide), pk_div (by omega) (by decide) (by decide), ← Int32.sub_eq_add_neg (nI k) (nI 1)]) n FU (nI y, nI n - nI 1) (pt b 131 x (nI n)) _ (FU_lt (by omega)) ⟨y, by omega, hn, rfl, rfl⟩
  refine ⟨nI 1, _, _, rfl, L3, al1 ?_⟩
  obtain ⟨d1, d2⟩ := dg_r x n y (pt b 131 x (nI n))
  show gSl _ _ _
  intro q hq
  by_cases e : q = x
  · subst e
    refine ⟨n, y, hn, by omega, ?_, ?_, ?_, fun k hk => d1 k hk⟩
    · rw [show hz_rf 55 2 = 56 from rfl, pt_k _ _ _ (by omega), Nat.add_zero, pt_s]
    · rw [d2 _ _ (by omega), pt_s]
    · rw [show hz_rf 55 2 = 56 from rfl, pt_s]
  · obtain ⟨m, z, hm, hz, r1, r2, r3, r4⟩ := hS q hq
    refine ⟨m, z, hm, hz, ?_, ?_, ?_, fun k hk => ?_⟩
    · rw [show hz_rf 55 2 = 56 from rfl, pt_k _ _ _ (by omega), pt_k _ _ _ (by omega)]; exact r1
    · rw [d2 _ _ (by omega), pt_k _ _ _ e]; exact r2
    · rw [show hz_rf 55 2 = 56 from rfl, pt_k _ _ _ (by omega), pt_k _ _ _ (by omega)]; exact r3
    · rw [d2 _ _ (by omega), pt_o _ _ _ _ (by decide)]; exact r4 k hk
