/-! a scene with one person changed; with its own numbers changed -/
theorem gSc_p {f g g' : Nat → Int32} {np : Int32} {m m' vo vo' le le' pa pa' : Nat → Int32} (p : Nat) (h : gSc f g np m vo le pa) (hm : ∀ k, k < 10 → m' k = m k)
    (hq : ∀ q, q < 10 → q ≠ p → (∀ j, j < 8 → g' (q * 8 + j) = g (q * 8 + j)) ∧ (m' (10 + q) = m (10 + q) ∧ m' (20 + q) = m (20 + q) ∧ m' (30 + q) = m (30 + q) ∧ m' (40 + q) = m (40 + q)) ∧ vo' q = vo q ∧ le' q = le q ∧ pa' q = pa q)
    (hpe : gPe g m (vo p) (le p) (pa p) p → gPe g' m' (vo' p) (le' p) (pa' p) p) : gSc f g' np m' vo' le' pa' := by
  obtain ⟨n, hn, k1, k2, hf, hb, hp⟩ := h
  refine ⟨n, hn, k1, k2, ?_, ?_, fun q hqn => ?_⟩
  · rw [hm 5 (by decide), hm 6 (by decide), hm 7 (by decide), hm 8 (by decide), hm 9 (by decide), hm 4 (by decide), hm 3 (by decide), hm 0 (by decide), hm 1 (by decide), hm 2 (by decide)]
    exact hf
  · rw [hm 5 (by decide), hm 6 (by decide), hm 7 (by decide), hm 4 (by decide), hm 3 (by decide), hm 2 (by decide)]
    exact hb
  · by_cases e : q = p
    · subst e
      exact hpe (hp q hqn)
    · obtain ⟨q1, ⟨q2, q3, q4, q5⟩, q6, q7, q8⟩ := hq q (by omega) e
      rw [q6, q7, q8]
      exact gPe_c q1 q2 q3 q4 q5 (hp q hqn)
/-- the numbers of a scene itself -/
def gSf (n : Nat) (f m : Nat → Int32) : Prop := (f 2 = m 5 - 1 ∧ f 4 = m 6 - 1 ∧ f 5 = m 7 - 1 ∧ f 6 = m 8 ∧ f 7 = m 9 ∧ f 8 = m 4 + 40 ∧ f 9 = m 3 ∧ f 10 = m 0 ∧ f 11 = m 1 ∧ f 12 = m 2) ∧ (bd (m 5) 20 ∧ bd (m 6) 20 ∧ bd (m 7) n ∧ (m 7 = 0 ↔ m 6 = 0) ∧ (∃ k, 10 ≤ k ∧ k ≤ 59 ∧ m 4 + 40 = nI k) ∧ bd (m 3) 59 ∧ bd (m 2) 150)
theorem gSc_f {f f' g : Nat → Int32} {np : Int32} {m m' vo le pa : Nat → Int32} (h : gSc f g np m vo le pa) (h1 : f' 1 = f 1) (hm : ∀ k, 10 ≤ k → m' k = m k) (hs : ∀ n, np = nI n → gSf n f m → gSf n f' m') : gSc f' g np m' vo le pa := by
  obtain ⟨n, hn, k1, k2, hf, hb, hp⟩ := h
  obtain ⟨x1, x2⟩ := hs n k1 ⟨hf, hb⟩
  refine ⟨n, hn, k1, by rw [h1]; exact k2, x1, x2, fun q hqn => ?_⟩
  exact gPe_c (fun _ _ => rfl) (hm _ (by omega)) (hm _ (by omega)) (hm _ (by omega)) (hm _ (by omega)) (hp q hqn)
theorem held_in {v : Int32} (h : ¬ wi v 0 99 = 0) (s : Sg) : fM_held v 0 99 s = some (v, s) := by
  unfold wi at h
  unfold fM_held
  split at h
  · exact absurd rfl h
  · rename_i h1
    split at h
    · exact absurd rfl h
    · rename_i h2
      rw [if_pos (Int32.not_lt.mp h1), if_pos (Int32.not_lt.mp h2)]
theorem i_as (x y : Int32) : x + y - y = x := Int32.add_sub_cancel x y
theorem i_sa (x y : Int32) : x - y + y = x := Int32.sub_add_cancel x y
theorem upd_o {f : Nat → Int32} {k j : Nat} {x : Int32} (h : j ≠ k) : upd f k x j = f j := pk_un h
theorem e_canSet5 (v w : Int32) (s : Sg) : fM_canSet 5 v w s = some (wi w 10 59, s) := by
  unfold fM_canSet
  rw [if_pos rfl, e_isIn, bi_s, gb_wi]
theorem e_canSet6 (v w : Int32) (s : Sg) : fM_canSet 6 v w s = some (wi w (-1) 19, s) := by
  unfold fM_canSet
  rw [if_neg (by decide), if_pos rfl, e_isIn, bi_s, gb_wi]
theorem e_canSetN {u : Int32} (h5 : ¬ u = 5) (h6 : ¬ u = 6) (h : wi u 0 4 = 0) (v w : Int32) (s : Sg) : fM_canSet u v w s = some (0, s) := by
  unfold fM_canSet
  rw [if_neg h5, if_neg h6, e_isIn, bi_s, if_pos h]; rfl
theorem e_canSetP {k : Nat} (hk : k ≤ 4) (v w : Int32) (s : Sg) : fM_canSet (nI k) v w s = if hsI v (s 102 6) = 0 then some (0, s) else some (wi w (loV.getD k 0) (hiV.getD k 0), s) := by
  have : k = 0 ∨ k = 1 ∨ k = 2 ∨ k = 3 ∨ k = 4 := by omega
  unfold fM_canSet
  simp only [e_isIn, e_isPerson, bi_s, gb_wi, bnd_e, gb_0]
  rcases this with rfl | rfl | rfl | rfl | rfl <;> rfl
theorem w61 {w : Int32} (h : ¬ wi w (-1) 19 = 0) : w = -1 ∨ ¬ wi w 0 19 = 0 := by
  unfold wi at h ⊢
  by_cases h0 : w < 0
  · left
    split at h
    · exact absurd rfl h
    · rename_i h1
      rw [Int32.lt_iff_toInt_lt] at h0 h1
      apply Int32.toInt_inj.mp
      have e1 : (-1 : Int32).toInt = -1 := by decide
      have e0 : (0 : Int32).toInt = 0 := by decide
      rw [e1] at h1 ⊢
      rw [e0] at h0
      omega
  · right
    rw [if_neg h0]
    split at h
    · exact absurd rfl h
    · exact h
theorem w62 {w : Int32} (h : wi w (-1) 19 = 0) : ¬ w = -1 ∧ wi w 0 19 = 0 := by
  refine ⟨fun e => ?_, ?_⟩
  · subst e
    exact absurd h (by decide)
  · unfold wi at h ⊢
    by_cases h0 : w < 0
    · rw [if_pos h0]
    · rw [if_neg h0]
      split at h
      · rename_i h1
        exfalso
        apply h0
        rw [Int32.lt_iff_toInt_lt] at h1 ⊢
        have e1 : (-1 : Int32).toInt = -1 := by decide
        have e0 : (0 : Int32).toInt = 0 := by decide
        rw [e1] at h1
        rw [e0]
        omega
      · exact h
theorem sim_set (u v w : Int32) : Sim (fH_set u v w) (fM_set u v w) := by
  refine sim_on [0, 15] (fun _ => rfl) (fr_H_set u v w) (fr_M_set u v w) (by decide) (by decide) (fun a b hI => ?_)
  have h0 : gSc (a 1) (a 2) (b 102 6) (b 103) (b 106) (b 107) (b 108) := hI 0
  have h15 := hI 15
  obtain ⟨n, hn, k1, k2, _, _, _⟩ := id h0
  unfold fH_set
  by_cases g5 : u = 5
  · subst g5
    simp only [if_true, e_within, e_canSet5, bi_s, bnd_e]
    by_cases g : wi w 10 59 = 0
    · rw [if_pos g, if_pos g, if_neg (by decide), e_alN (by decide), bi_s, if_pos rfl]
      exact ⟨_, a, b, rfl, rfl, al2 (hI 0) (hI 15)⟩
    · rw [if_neg g, if_neg g]
      obtain ⟨y, hy1, hy, rfl⟩ := wi_1 (a := 10) (b := 59) (by decide) (by decide) g
      refine ⟨1, pt (pt a 1 8 (nI y)) 5 2 0, pt (pt b 103 4 (nI y - 40)) 102 3 0, rfl, rfl, al2 ?_ (ps_no h15 rfl rfl rfl)⟩
      show gSc (pt (pt a 1 8 (nI y)) 5 2 0 1) (a 2) (b 102 6) (pt (pt b 103 4 (nI y - 40)) 102 3 0 103) (b 106) (b 107) (b 108)
      rw [ptq _ _ _ (show (1 : Nat) ≠ 5 by decide), ptq _ _ _ (show (103 : Nat) ≠ 102 by decide), ptu, ptu]
      refine gSc_f h0 (upd_o (by decide)) (fun k hk => upd_o (by omega)) (fun n _ h => ?_)
      obtain ⟨⟨f2, f4, f5, f6, f7, f8, f9, f10, f11, f12⟩, ⟨b1, b2, b3, b4, b5, b6, b7⟩⟩ := h
      unfold gSf
      simp only [upd_o (show (1 : Nat) ≠ 8 by decide), upd_o (show (2 : Nat) ≠ 8 by decide), upd_o (show (4 : Nat) ≠ 8 by decide), upd_o (show (5 : Nat) ≠ 8 by decide), upd_o (show (6 : Nat) ≠ 8 by decide), upd_o (show (7 : Nat) ≠ 8 by decide), upd_o (show (9 : Nat) ≠ 8 by decide), upd_o (show (10 : Nat) ≠ 8 by decide), upd_o (show (11 : Nat) ≠ 8 by decide), upd_o (show (12 : Nat) ≠ 8 by decide), upd_o (show (5 : Nat) ≠ 4 by decide), upd_o (show (6 : Nat) ≠ 4 by decide), upd_o (show (7 : Nat) ≠ 4 by decide), upd_o (show (8 : Nat) ≠ 4 by decide), upd_o (show (9 : Nat) ≠ 4 by decide), upd_o (show (3 : Nat) ≠ 4 by decide), upd_o (show (0 : Nat) ≠ 4 by decide), upd_o (show (1 : Nat) ≠ 4 by decide), upd_o (show (2 : Nat) ≠ 4 by decide), pk_us, i_sa]
      exact ⟨⟨f2, f4, f5, f6, f7, trivial, f9, f10, f11, f12⟩, ⟨b1, b2, b3, b4, ⟨y, hy1, hy, rfl⟩, b6, b7⟩⟩
  simp only [if_neg g5]
  by_cases g6 : u = 6
  · subst g6
    simp only [if_true, e_isWord, e_canSet6, bi_s, bnd_e, e_forget, bv_s]
    by_cases g : wi w (-1) 19 = 0
    · rw [if_pos g, if_neg (w62 g).1, if_pos (w62 g).2, e_alN (by decide), bi_s, if_pos rfl]
      exact ⟨_, a, b, rfl, rfl, al2 (hI 0) (hI 15)⟩
    · rw [if_neg g]
      have hb5 : bd (w + 1) 20 := by
        rcases w61 g with e | e
        · subst e
          exact ⟨0, by decide, by decide⟩
        · obtain ⟨y, _, hy, rfl⟩ := wi_1 (a := 0) (b := 19) (by decide) (by decide) e
          exact ⟨y + 1, by omega, nI_1 y⟩
      refine ⟨1, pt (pt a 1 2 w) 5 2 0, pt (pt b 103 5 (w + 1)) 102 3 0, ?_, rfl, al2 ?_ (ps_no h15 rfl rfl rfl)⟩
      · rcases w61 g with e | e
        · rw [if_pos e]; rfl
        · by_cases e' : w = -1
          · rw [if_pos e']; rfl
          · rw [if_neg e', if_neg e]; rfl
      show gSc (pt (pt a 1 2 w) 5 2 0 1) (a 2) (b 102 6) (pt (pt b 103 5 (w + 1)) 102 3 0 103) (b 106) (b 107) (b 108)
      rw [ptq _ _ _ (show (1 : Nat) ≠ 5 by decide), ptq _ _ _ (show (103 : Nat) ≠ 102 by decide), ptu, ptu]
      refine gSc_f h0 (upd_o (by decide)) (fun k hk => upd_o (by omega)) (fun n _ h => ?_)
      obtain ⟨⟨f2, f4, f5, f6, f7, f8, f9, f10, f11, f12⟩, ⟨b1, b2, b3, b4, b5, b6, b7⟩⟩ := h
      unfold gSf
      simp only [upd_o (show (4 : Nat) ≠ 2 by decide), upd_o (show (5 : Nat) ≠ 2 by decide), upd_o (show (6 : Nat) ≠ 2 by decide), upd_o (show (7 : Nat) ≠ 2 by decide), upd_o (show (8 : Nat) ≠ 2 by decide), upd_o (show (9 : Nat) ≠ 2 by decide), upd_o (show (10 : Nat) ≠ 2 by decide), upd_o (show (11 : Nat) ≠ 2 by decide), upd_o (show (12 : Nat) ≠ 2 by decide), upd_o (show (4 : Nat) ≠ 5 by decide), upd_o (show (6 : Nat) ≠ 5 by decide), upd_o (show (7 : Nat) ≠ 5 by decide), upd_o (show (8 : Nat) ≠ 5 by decide), upd_o (show (9 : Nat) ≠ 5 by decide), upd_o (show (3 : Nat) ≠ 5 by decide), upd_o (show (0 : Nat) ≠ 5 by decide), upd_o (show (1 : Nat) ≠ 5 by decide), upd_o (show (2 : Nat) ≠ 5 by decide), pk_us, i_as]
      exact ⟨⟨trivial, f4, f5, f6, f7, f8, f9, f10, f11, f12⟩, ⟨hb5, b2, b3, b4, b5, b6, b7⟩⟩
  simp only [if_neg g6]
  by_cases g7 : wi u 0 4 = 0
  · simp only [e_canSetN g5 g6 g7, e_alN g7, bi_s, bnd_e, if_true]
    exact ⟨_, a, b, rfl, rfl, al2 (hI 0) (hI 15)⟩
  obtain ⟨k, _, hk, rfl⟩ := wi_1 (a := 0) (b := 4) (by decide) (by decide) g7
  simp only [e_canSetP hk, e_allowed hk, e_has, bi_s, bnd_e, k1, k2, e_forget, bv_s]
  by_cases g8 : wi w (loV.getD k 0) (hiV.getD k 0) = 0
  · rw [if_pos g8]
    refine ⟨0, a, b, rfl, ?_, al2 (hI 0) (hI 15)⟩
    by_cases g9 : hsI v (nI n) = 0
    · rw [if_pos g9, bi_s, if_pos rfl]; rfl
    · rw [if_neg g9, g8, bi_s, if_pos rfl]; rfl
  rw [if_neg g8]
  by_cases g9 : hsI v (nI n) = 0
  · rw [if_pos g9, if_pos g9, bi_s]
    exact ⟨0, a, b, rfl, rfl, al2 (hI 0) (hI 15)⟩
  rw [if_neg g9, if_neg g9, bi_s, if_neg g8]
  obtain ⟨p, hp, rfl⟩ := hs_1 (by omega) g9
  have hp10 : p < 10 := by omega
  rw [e_Sput 1 hp10 (show k < 8 by omega), bv_s, hz1]
  rw [if_neg (show ¬ ((1 : Int32) = 0) by decide)]
  have : k = 0 ∨ k = 1 ∨ k = 2 ∨ k = 3 ∨ k = 4 := by omega
  rcases this with rfl | rfl | rfl | rfl | rfl

  · obtain ⟨y, hy1, hy, rfl⟩ := wi_1 (a := 0) (b := 9) (by decide) (by decide) g8
    refine ⟨1, pt (pt a 2 (p * 8 + 0) (nI y)) 5 2 0, pt (pt b 106 p (nI y)) 102 3 0, rfl, ?_, al2 ?_ (ps_no h15 rfl rfl rfl)⟩
    · simp only [if_pos (show nI 0 = 0 from rfl), if_neg (show ¬ nI 0 = 1 by decide), if_neg (show ¬ nI 0 = 2 by decide), if_neg (show ¬ nI 0 = 3 by decide), if_neg (show ¬ nI 0 = 4 by decide), if_neg (show ¬ nI 0 = 5 by decide), if_neg (show ¬ nI 0 = 6 by decide), gd_n _ hp10 (show (10 : Nat) < 2 ^ 31 by decide), ix_n (show p < 2 ^ 31 by omega), gb_1]
    show gSc (a 1) (pt (pt a 2 (p * 8 + 0) (nI y)) 5 2 0 2) (b 102 6) (b 103) (pt (pt b 106 p (nI y)) 102 3 0 106) (b 107) (b 108)
    rw [ptq _ _ _ (show (2 : Nat) ≠ 5 by decide), ptu, ptq _ _ _ (show (106 : Nat) ≠ 102 by decide), ptu]
    refine gSc_p p h0 (fun k hk => rfl) (fun q hq e => ⟨fun j hj => upd_o (by omega), ⟨rfl, rfl, rfl, rfl⟩, upd_o (by omega), rfl, rfl⟩) (fun h => ?_)
    obtain ⟨r0, r1, r2, r3, r4, r5, r6, r7, c0, c1, c2, c3, c4, c5⟩ := h
    unfold gPe
    simp only [upd_o (show p * 8 + 1 ≠ p * 8 by omega), upd_o (show p * 8 + 2 ≠ p * 8 by omega), upd_o (show p * 8 + 3 ≠ p * 8 by omega), upd_o (show p * 8 + 4 ≠ p * 8 by omega), upd_o (show p * 8 + 5 ≠ p * 8 by omega), upd_o (show p * 8 + 6 ≠ p * 8 by omega), upd_o (show p * 8 + 7 ≠ p * 8 by omega), Nat.add_zero, pk_us]
    exact ⟨trivial, r1, r2, r3, r4, r5, r6, r7, ⟨y, hy, rfl⟩, c1, c2, c3, c4, c5⟩
  · obtain ⟨y, hy1, hy, rfl⟩ := wi_1 (a := 1) (b := 9) (by decide) (by decide) g8
    refine ⟨1, pt (pt a 2 (p * 8 + 1) (nI y)) 5 2 0, pt (pt b 107 p (nI y)) 102 3 0, rfl, ?_, al2 ?_ (ps_no h15 rfl rfl rfl)⟩
    · simp only [if_neg (show ¬ nI 1 = 0 by decide), if_pos (show nI 1 = 1 from rfl), if_neg (show ¬ nI 1 = 2 by decide), if_neg (show ¬ nI 1 = 3 by decide), if_neg (show ¬ nI 1 = 4 by decide), if_neg (show ¬ nI 1 = 5 by decide), if_neg (show ¬ nI 1 = 6 by decide), gd_n _ hp10 (show (10 : Nat) < 2 ^ 31 by decide), ix_n (show p < 2 ^ 31 by omega), gb_1]
    show gSc (a 1) (pt (pt a 2 (p * 8 + 1) (nI y)) 5 2 0 2) (b 102 6) (b 103) (b 106) (pt (pt b 107 p (nI y)) 102 3 0 107) (b 108)
    rw [ptq _ _ _ (show (2 : Nat) ≠ 5 by decide), ptu, ptq _ _ _ (show (107 : Nat) ≠ 102 by decide), ptu]
    refine gSc_p p h0 (fun k hk => rfl) (fun q hq e => ⟨fun j hj => upd_o (by omega), ⟨rfl, rfl, rfl, rfl⟩, rfl, upd_o (by omega), rfl⟩) (fun h => ?_)
    obtain ⟨r0, r1, r2, r3, r4, r5, r6, r7, c0, c1, c2, c3, c4, c5⟩ := h
    unfold gPe
    simp only [upd_o (show p * 8 ≠ p * 8 + 1 by omega), upd_o (show p * 8 + 2 ≠ p * 8 + 1 by omega), upd_o (show p * 8 + 3 ≠ p * 8 + 1 by omega), upd_o (show p * 8 + 4 ≠ p * 8 + 1 by omega), upd_o (show p * 8 + 5 ≠ p * 8 + 1 by omega), upd_o (show p * 8 + 6 ≠ p * 8 + 1 by omega), upd_o (show p * 8 + 7 ≠ p * 8 + 1 by omega), pk_us]
    exact ⟨r0, trivial, r2, r3, r4, r5, r6, r7, c0, ⟨y, hy, rfl⟩, c2, c3, c4, c5⟩
  · obtain ⟨y, hy1, hy, rfl⟩ := wi_1 (a := 0) (b := 3) (by decide) (by decide) g8
    refine ⟨1, pt (pt a 2 (p * 8 + 2) (nI y)) 5 2 0, pt (pt b 108 p (nI y)) 102 3 0, rfl, ?_, al2 ?_ (ps_no h15 rfl rfl rfl)⟩
    · simp only [if_neg (show ¬ nI 2 = 0 by decide), if_neg (show ¬ nI 2 = 1 by decide), if_pos (show nI 2 = 2 from rfl), if_neg (show ¬ nI 2 = 3 by decide), if_neg (show ¬ nI 2 = 4 by decide), if_neg (show ¬ nI 2 = 5 by decide), if_neg (show ¬ nI 2 = 6 by decide), gd_n _ hp10 (show (10 : Nat) < 2 ^ 31 by decide), ix_n (show p < 2 ^ 31 by omega), gb_1]
    show gSc (a 1) (pt (pt a 2 (p * 8 + 2) (nI y)) 5 2 0 2) (b 102 6) (b 103) (b 106) (b 107) (pt (pt b 108 p (nI y)) 102 3 0 108)
    rw [ptq _ _ _ (show (2 : Nat) ≠ 5 by decide), ptu, ptq _ _ _ (show (108 : Nat) ≠ 102 by decide), ptu]
    refine gSc_p p h0 (fun k hk => rfl) (fun q hq e => ⟨fun j hj => upd_o (by omega), ⟨rfl, rfl, rfl, rfl⟩, rfl, rfl, upd_o (by omega)⟩) (fun h => ?_)
    obtain ⟨r0, r1, r2, r3, r4, r5, r6, r7, c0, c1, c2, c3, c4, c5⟩ := h
    unfold gPe
    simp only [upd_o (show p * 8 ≠ p * 8 + 2 by omega), upd_o (show p * 8 + 1 ≠ p * 8 + 2 by omega), upd_o (show p * 8 + 3 ≠ p * 8 + 2 by omega), upd_o (show p * 8 + 4 ≠ p * 8 + 2 by omega), upd_o (show p * 8 + 5 ≠ p * 8 + 2 by omega), upd_o (show p * 8 + 6 ≠ p * 8 + 2 by omega), upd_o (show p * 8 + 7 ≠ p * 8 + 2 by omega), pk_us]
    exact ⟨r0, r1, trivial, r3, r4, r5, r6, r7, c0, c1, ⟨y, hy, rfl⟩, c3, c4, c5⟩
  · obtain ⟨y, hy1, hy, rfl⟩ := wi_1 (a := 0) (b := 99) (by decide) (by decide) g8
    refine ⟨1, pt (pt a 2 (p * 8 + 3) (nI y)) 5 2 0, pt (pt b 103 (10 + p) (99 - nI y)) 102 3 0, rfl, ?_, al2 ?_ (ps_no h15 rfl rfl rfl)⟩
    · simp only [if_neg (show ¬ nI 3 = 0 by decide), if_neg (show ¬ nI 3 = 1 by decide), if_neg (show ¬ nI 3 = 2 by decide), if_pos (show nI 3 = 3 from rfl), if_neg (show ¬ nI 3 = 4 by decide), if_neg (show ¬ nI 3 = 5 by decide), if_neg (show ¬ nI 3 = 6 by decide), fM_hasBreath, held_in g8, bi_s, n10, gd50 _ (show 10 + p < 50 by omega), ix_n (show 10 + p < 2 ^ 31 by omega), bnd_e, bv_s, gb_1]
    show gSc (a 1) (pt (pt a 2 (p * 8 + 3) (nI y)) 5 2 0 2) (b 102 6) (pt (pt b 103 (10 + p) (99 - nI y)) 102 3 0 103) (b 106) (b 107) (b 108)
    rw [ptq _ _ _ (show (2 : Nat) ≠ 5 by decide), ptu, ptq _ _ _ (show (103 : Nat) ≠ 102 by decide), ptu]
    refine gSc_p p h0 (fun k hk => upd_o (by omega)) (fun q hq e => ⟨fun j hj => upd_o (by omega), ⟨upd_o (by omega), upd_o (by omega), upd_o (by omega), upd_o (by omega)⟩, rfl, rfl, rfl⟩) (fun h => ?_)
    obtain ⟨r0, r1, r2, r3, r4, r5, r6, r7, c0, c1, c2, c3, c4, c5⟩ := h
    unfold gPe
    simp only [upd_o (show p * 8 ≠ p * 8 + 3 by omega), upd_o (show p * 8 + 1 ≠ p * 8 + 3 by omega), upd_o (show p * 8 + 2 ≠ p * 8 + 3 by omega), upd_o (show p * 8 + 4 ≠ p * 8 + 3 by omega), upd_o (show p * 8 + 5 ≠ p * 8 + 3 by omega), upd_o (show p * 8 + 6 ≠ p * 8 + 3 by omega), upd_o (show p * 8 + 7 ≠ p * 8 + 3 by omega), pk_us, upd_o (show 20 + p ≠ 10 + p by omega), upd_o (show 30 + p ≠ 10 + p by omega), upd_o (show 40 + p ≠ 10 + p by omega), i_ss]
    exact ⟨r0, r1, r2, trivial, r4, r5, r6, r7, c0, c1, c2, ⟨99 - y, by omega, pk_sub hy⟩, c4, c5⟩
  · obtain ⟨y, hy1, hy, rfl⟩ := wi_1 (a := 0) (b := 99) (by decide) (by decide) g8
    refine ⟨1, pt (pt a 2 (p * 8 + 4) (nI y)) 5 2 0, pt (pt b 103 (20 + p) (nI y)) 102 3 0, rfl, ?_, al2 ?_ (ps_no h15 rfl rfl rfl)⟩
    · simp only [if_neg (show ¬ nI 4 = 0 by decide), if_neg (show ¬ nI 4 = 1 by decide), if_neg (show ¬ nI 4 = 2 by decide), if_neg (show ¬ nI 4 = 3 by decide), if_pos (show nI 4 = 4 from rfl), if_neg (show ¬ nI 4 = 5 by decide), if_neg (show ¬ nI 4 = 6 by decide), n20, gd50 _ (show 20 + p < 50 by omega), ix_n (show 20 + p < 2 ^ 31 by omega), gb_1]
    show gSc (a 1) (pt (pt a 2 (p * 8 + 4) (nI y)) 5 2 0 2) (b 102 6) (pt (pt b 103 (20 + p) (nI y)) 102 3 0 103) (b 106) (b 107) (b 108)
    rw [ptq _ _ _ (show (2 : Nat) ≠ 5 by decide), ptu, ptq _ _ _ (show (103 : Nat) ≠ 102 by decide), ptu]
    refine gSc_p p h0 (fun k hk => upd_o (by omega)) (fun q hq e => ⟨fun j hj => upd_o (by omega), ⟨upd_o (by omega), upd_o (by omega), upd_o (by omega), upd_o (by omega)⟩, rfl, rfl, rfl⟩) (fun h => ?_)
    obtain ⟨r0, r1, r2, r3, r4, r5, r6, r7, c0, c1, c2, c3, c4, c5⟩ := h
    unfold gPe
    simp only [upd_o (show p * 8 ≠ p * 8 + 4 by omega), upd_o (show p * 8 + 1 ≠ p * 8 + 4 by omega), upd_o (show p * 8 + 2 ≠ p * 8 + 4 by omega), upd_o (show p * 8 + 3 ≠ p * 8 + 4 by omega), upd_o (show p * 8 + 5 ≠ p * 8 + 4 by omega), upd_o (show p * 8 + 6 ≠ p * 8 + 4 by omega), upd_o (show p * 8 + 7 ≠ p * 8 + 4 by omega), pk_us, upd_o (show 10 + p ≠ 20 + p by omega), upd_o (show 30 + p ≠ 20 + p by omega), upd_o (show 40 + p ≠ 20 + p by omega)]
    exact ⟨r0, r1, r2, r3, trivial, r5, r6, r7, c0, c1, c2, c3, ⟨y, hy, rfl⟩, c5⟩
