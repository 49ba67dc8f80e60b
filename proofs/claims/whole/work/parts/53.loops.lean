/-! loops -/
theorem lp_rel {α R : Type} {b : (α → Sg → Option R) → α → Sg → Option R} (I : Nat → α → Sg → Option R → Prop) (h0 : ∀ q v s r, I 0 v s r → b q v s = r)
    (h1 : ∀ q k v s r, I (k + 1) v s r → b q v s = r ∨ ∃ v' s', b q v s = q v' s' ∧ I k v' s' r) : ∀ (k fuel : Nat) (v : α) (s : Sg) (r : Option R), k < fuel → I k v s r → lp fuel b v s = r
  | 0, 0, _, _, _, h, _ => absurd h (Nat.lt_irrefl 0)
  | 0, n + 1, v, s, r, _, hI => h0 (lp n b) v s r hI
  | k + 1, 0, _, _, _, h, _ => absurd h (Nat.not_lt_zero _)
  | k + 1, n + 1, v, s, r, h, hI => by
    rcases h1 (lp n b) k v s r hI with e | ⟨v', s', e, hI'⟩
    · exact e
    · rw [lp_s, e]
      exact lp_rel I h0 h1 k n v' s' r (by omega) hI'
def fld {α : Type} (F : Nat → α → α) : Nat → Nat → α → α
  | _, 0, a => a
  | i, k + 1, a => fld F (i + 1) k (F i a)
/-- a counting loop that leaves the state as it is -/
theorem lp_fold {α β R : Type} {b : (β → Sg → Option R) → β → Sg → Option R} {s : Sg} (N : Nat) (mk : Nat → α → β) (F : Nat → α → α) (K : α → Option R) (P : Nat → α → Prop) (he : ∀ q a, P N a → b q (mk N a) s = K a)
    (hs : ∀ q i a, i < N → P i a → b q (mk i a) s = q (mk (i + 1) (F i a)) s ∧ P (i + 1) (F i a)) : ∀ (k i fuel : Nat) (a : α), i + k = N → k < fuel → P i a → lp fuel b (mk i a) s = K (fld F i k a) ∧ P N (fld F i k a)
  | 0, i, 0, _, _, h, _ => absurd h (Nat.lt_irrefl 0)
  | 0, i, n + 1, a, e, _, hI => by
    have : i = N := by omega
    subst this
    exact ⟨he (lp n b) a hI, hI⟩
  | k + 1, i, 0, _, _, h, _ => absurd h (Nat.not_lt_zero _)
  | k + 1, i, n + 1, a, e, h, hI => by
    obtain ⟨e1, e2⟩ := hs (lp n b) i a (by omega) hI
    rw [lp_s, e1]
    exact lp_fold N mk F K P he hs k (i + 1) n (F i a) (by omega) (by omega) e2
/-- a row filled with known numbers -/
theorem itr_fill (o : Nat) (g : Nat → Int32) : ∀ (k i : Nat) (s : Sg) (q j : Nat), itr (fun i s => pt s o i (g i)) i k s q j = if q = o ∧ i ≤ j ∧ j < i + k then g j else s q j
  | 0, i, s, q, j => by rw [if_neg (by omega)]; rfl
  | k + 1, i, s, q, j => by
    show itr _ (i + 1) k (pt s o i (g i)) q j = _
    rw [itr_fill o g k (i + 1)]
    by_cases h : q = o ∧ i + 1 ≤ j ∧ j < i + 1 + k
    · rw [if_pos h, if_pos (by omega)]
    · rw [if_neg h]
      by_cases e : q = o ∧ j = i
      · obtain ⟨e1, e2⟩ := e
        subst e1; subst e2
        rw [pt_s, if_pos (by omega)]
      · rw [ptf _ _ _ _ _ _ e, if_neg (by omega)]
/-- a row copied from another one, in order, or from further on in the same -/
theorem itr_copy (o d p e : Nat) (hd : p ≠ o ∨ d ≤ e) : ∀ (k i : Nat) (s : Sg) (q j : Nat), itr (fun i s => pt s o (d + i) (s p (e + i))) i k s q j = if q = o ∧ d + i ≤ j ∧ j < d + i + k then s p (e + (j - d)) else s q j
  | 0, i, s, q, j => by rw [if_neg (by omega)]; rfl
  | k + 1, i, s, q, j => by
    show itr _ (i + 1) k (pt s o (d + i) (s p (e + i))) q j = _
    rw [itr_copy o d p e hd k (i + 1)]
    by_cases h : q = o ∧ d + (i + 1) ≤ j ∧ j < d + (i + 1) + k
    · rw [if_pos h, if_pos (by omega), ptf _ _ _ _ _ _ (by omega)]
    · rw [if_neg h]
      by_cases e' : q = o ∧ j = d + i
      · obtain ⟨e1, e2⟩ := e'
        subst e1; subst e2
        rw [pt_s, if_pos (by omega), show d + i - d = i by omega]
      · rw [ptf _ _ _ _ _ _ e', if_neg (by omega)]
theorem nI_20 (x y : Nat) : 20 * nI x + nI y = nI (20 * x + y) := by rw [show (20 : Int32) = nI 20 from rfl, pk_mul, nI_add]
theorem nI_5 (x y : Nat) : 5 * nI x + nI y = nI (5 * x + y) := by rw [show (5 : Int32) = nI 5 from rfl, pk_mul, nI_add]
/-! steps -/
theorem ledU_c {c c' : Nat → Int32} {a w : Nat} : ∀ (k i : Nat), (∀ r, i ≤ r → r < i + k → c' (r * 3) = c (r * 3) ∧ c' (r * 3 + 1) = c (r * 3 + 1) ∧ c' (r * 3 + 2) = c (r * 3 + 2)) → ledU c' a w i k = ledU c a w i k
  | 0, _, _ => rfl
  | k + 1, i, h => by
    obtain ⟨h1, h2, h3⟩ := h i (by omega) (by omega)
    unfold ledU
    rw [h1, h2, h3, ledU_c k (i + 1) (fun r r1 r2 => h r (by omega) (by omega))]
theorem ledU_s {c : Nat → Int32} {a w : Nat} : ∀ (k i : Nat), (∀ r, i ≤ r → r < i + k → bd (c (r * 3 + 2)) 9) → ledU c a w i (k + 1) = if ledU c a w i k = 0 then (if c ((i + k) * 3) = nI a ∧ c ((i + k) * 3 + 1) = nI w then c ((i + k) * 3 + 2) + 1 else 0) else ledU c a w i k
  | 0, i, _ => by rw [show ledU c a w i 0 = 0 from rfl, if_pos rfl]; rfl
  | k + 1, i, h => by
    have ih := ledU_s (a := a) (w := w) k (i + 1) (fun r r1 r2 => h r (by omega) (by omega))
    have e1 : ledU c a w i (k + 1) = if c (i * 3) = nI a ∧ c (i * 3 + 1) = nI w then c (i * 3 + 2) + 1 else ledU c a w (i + 1) k := rfl
    show (if c (i * 3) = nI a ∧ c (i * 3 + 1) = nI w then c (i * 3 + 2) + 1 else ledU c a w (i + 1) (k + 1)) = _
    rw [e1]
    by_cases hm : c (i * 3) = nI a ∧ c (i * 3 + 1) = nI w
    · obtain ⟨b, hb, e⟩ := h i (by omega) (by omega)
      rw [if_pos hm, if_pos hm, e, nI_1, if_neg (nI_ne0 (by omega) (by omega))]
    · rw [if_neg hm, if_neg hm, ih, show i + 1 + k = i + (k + 1) by omega]
theorem sim_step (u v w : Int32) : Sim (fH_step u v w) (fM_step u v w) := by
  refine sim_on [7] (fun _ => rfl) (fr_H_step u v w) (fr_M_step u v w) (by decide) (by decide) (fun a b hI => ?_)
  obtain ⟨n, hn, e1, e2, h1, h2⟩ : gSp (a 53) (a 54) (b 102 49) (b 130) := hI 7
  obtain ⟨_, _, _, _, _, _, _, _, ⟨t0, t1⟩, _⟩ : gKc a := hI 18
  unfold fH_step
  simp only [e_isIn, e_within, e_isWord, e_empty, bi_s]
  by_cases h3 : u = -1
  · simp only [if_pos h3, bnd_e]
    have key := lp_up (R := Int32 × Sg) (b := fun q18 (u18 : Int32) (s12 : Sg) => if 200 ≤ u18 then (some (0, s12)) else (gd u18 200 (bnd (pt s12 130 (ix u18) 0) fun s13 => q18 (u18 + 1) s13))) (K := fun s => some (0, s)) 200 (fun i s => pt s 130 i 0) (fun _ _ => True)
      (fun q s _ => if_pos (by decide)) (fun q i s hi _ => ⟨by rw [if_neg (show ¬ (200 : Int32) ≤ nI i from fun h => by have := (nI_leI (a := 200) (b := i) (by decide) (by omega)).mp h; omega), gd_n _ hi (by decide), ix_n (by omega), bnd_e, nI_1], trivial⟩) 200 0 FU (pt b 102 49 0) rfl (by decide) trivial
    refine ⟨0, pt a 53 3 0, _, rfl, key.1, al1 ⟨0, by omega, pt_s _ _ _ _, ?_, fun i hi => by omega, fun x y hx hy => ?_⟩⟩
    · rw [itr_fill 130 (fun _ => 0), if_neg (by omega)]; rfl
    · rw [itr_fill 130 (fun _ => 0), if_pos (by omega)]; rfl
  simp only [if_neg h3, bnd_e, if_true]
  by_cases g1 : wi u 0 9 = 0
  · simp only [if_pos g1]
    exact ⟨_, a, b, rfl, rfl, al1 (hI 7)⟩
  by_cases g2 : wi v 0 19 = 0
  · simp only [if_neg g1, if_pos g2]
    exact ⟨_, a, b, rfl, rfl, al1 (hI 7)⟩
  by_cases g3 : wi w 0 9 = 0
  · simp only [if_neg g1, if_neg g2, if_pos g3]
    exact ⟨_, a, b, rfl, rfl, al1 (hI 7)⟩
  simp only [if_neg g1, if_neg g2, if_neg g3, show ¬ ((1 : Int32) = 0) by decide, if_false]
  obtain ⟨x, _, hx, rfl⟩ := wi_1 (a := 0) (b := 9) (by decide) (by decide) g1
  obtain ⟨y, _, hy, rfl⟩ := wi_1 (a := 0) (b := 19) (by decide) (by decide) g2
  obtain ⟨z, _, hz, rfl⟩ := wi_1 (a := 0) (b := 9) (by decide) (by decide) g3
  by_cases g4 : n = 16
  · subst g4
    rw [e_addN t1 e1 (by decide) (by decide) (by decide), bi_s, if_pos (show b 102 49 = 16 from e2)]
    exact ⟨_, a, b, rfl, rfl, al1 (hI 7)⟩
  obtain ⟨τ, x1, x2, x3, x4⟩ := e_add (a := nI x) (b := nI y) (c := nI z) (d := 0) (e := 0) t0 t1 e1 (by decide) (by decide) (show n < 16 by omega) (by decide) (by decide) (by decide)
  have c0 : τ 54 (n * 3) = nI x := x3 0 (by decide)
  have c1 : τ 54 (n * 3 + 1) = nI y := x3 1 (by decide)
  have c2 : τ 54 (n * 3 + 2) = nI z := x3 2 (by decide)
  have cf : ∀ r, 0 ≤ r → r < 0 + n → τ 54 (r * 3) = a 54 (r * 3) ∧ τ 54 (r * 3 + 1) = a 54 (r * 3 + 1) ∧ τ 54 (r * 3 + 2) = a 54 (r * 3 + 2) := fun r _ hr => ⟨x4 54 _ (fun e => absurd e (by decide)) (fun _ => by omega), x4 54 _ (fun e => absurd e (by decide)) (fun _ => by omega), x4 54 _ (fun e => absurd e (by decide)) (fun _ => by omega)⟩
  have hrow : ∀ i, i < n + 1 → bd (τ 54 (i * 3)) 9 ∧ bd (τ 54 (i * 3 + 1)) 19 ∧ bd (τ 54 (i * 3 + 2)) 9 := by
    intro i hi
    by_cases e : i = n
    · subst e
      rw [c0, c1, c2]
      exact ⟨⟨x, hx, rfl⟩, ⟨y, hy, rfl⟩, ⟨z, hz, rfl⟩⟩
    · obtain ⟨r1, r2, r3⟩ := cf i (by omega) (by omega)
      rw [r1, r2, r3]
      exact h1 i (by omega)
  have hled : ∀ p q, p < 10 → q < 20 → ledU (τ 54) p q 0 (n + 1) = if b 130 (20 * p + q) = 0 then (if p = x ∧ q = y then nI (z + 1) else 0) else b 130 (20 * p + q) := by
    intro p q hp hq
    rw [ledU_s n 0 (fun r _ hr => (hrow r (by omega)).2.2), ledU_c n 0 cf, ← h2 p q hp hq, Nat.zero_add, c0, c1, c2, nI_1]
    have : (nI x = nI p ∧ nI y = nI q) ↔ (p = x ∧ q = y) := by rw [nI_eq (by omega) (by omega), nI_eq (by omega) (by omega)]; constructor <;> (rintro ⟨rfl, rfl⟩; exact ⟨rfl, rfl⟩)
    simp only [this]
  rw [x1, bi_s, e2, if_neg (show ¬ nI n = 16 from nI_ne 16 g4 (by omega) (by decide)), nI_20, gd_n _ (show 20 * x + y < 200 by omega) (by decide), ix_n (by omega)]
  by_cases g5 : b 130 (20 * x + y) = 0
  · rw [if_pos g5, gd_n _ (show 20 * x + y < 200 by omega) (by decide), nI_1]
    refine ⟨nI (n + 1), τ, pt (pt b 130 (20 * x + y) (nI (z + 1))) 102 49 (nI (n + 1)), rfl, ?_, al1 ⟨n + 1, by omega, x2, pt_s _ _ _ _, hrow, fun p q hp hq => ?_⟩⟩
    · rw [show pt b 130 (20 * x + y) (nI (z + 1)) 102 49 = nI n from e2, nI_1, pt_s]
    · rw [show pt (pt b 130 (20 * x + y) (nI (z + 1))) 102 49 (nI (n + 1)) 130 (20 * p + q) = pt b 130 (20 * x + y) (nI (z + 1)) 130 (20 * p + q) from pt_o _ _ _ _ (by decide), hled p q hp hq]
      by_cases e : p = x ∧ q = y
      · obtain ⟨rfl, rfl⟩ := e
        rw [pt_s, if_pos g5, if_pos ⟨rfl, rfl⟩]
      · rw [pt_k _ _ _ (by omega), if_neg e]
        split
        · assumption
        · rfl
  · rw [if_neg g5]
    refine ⟨nI (n + 1), τ, pt b 102 49 (nI (n + 1)), rfl, ?_, al1 ⟨n + 1, by omega, x2, pt_s _ _ _ _, hrow, fun p q hp hq => ?_⟩⟩
    · rw [nI_1, pt_s]
    · rw [show pt b 102 49 (nI (n + 1)) 130 (20 * p + q) = b 130 (20 * p + q) from pt_o _ _ _ _ (by decide), hled p q hp hq]
      by_cases e : p = x ∧ q = y
      · obtain ⟨rfl, rfl⟩ := e
        rw [if_neg g5]
      · rw [if_neg e]
        split
        · assumption
        · rfl
