/-! book, feed, prices, worths -/
theorem gc0 {R : Type} (f : Option R) : gd 0 50 f = f := gdl _ (by decide)
theorem gc1 {R : Type} (f : Option R) : gd 1 50 f = f := gdl _ (by decide)
theorem gc2 {R : Type} (f : Option R) : gd 2 50 f = f := gdl _ (by decide)
theorem gc3 {R : Type} (f : Option R) : gd 3 50 f = f := gdl _ (by decide)
theorem gc4 {R : Type} (f : Option R) : gd 4 50 f = f := gdl _ (by decide)
theorem gc5 {R : Type} (f : Option R) : gd 5 50 f = f := gdl _ (by decide)
theorem gc6 {R : Type} (f : Option R) : gd 6 50 f = f := gdl _ (by decide)
theorem gc7 {R : Type} (f : Option R) : gd 7 50 f = f := gdl _ (by decide)
theorem gc8 {R : Type} (f : Option R) : gd 8 50 f = f := gdl _ (by decide)
theorem gc9 {R : Type} (f : Option R) : gd 9 50 f = f := gdl _ (by decide)
theorem ic0 : ix 0 = 0 := by decide
theorem ic1 : ix 1 = 1 := by decide
theorem ic2 : ix 2 = 2 := by decide
theorem ic3 : ix 3 = 3 := by decide
theorem ic4 : ix 4 = 4 := by decide
theorem ic5 : ix 5 = 5 := by decide
theorem ic6 : ix 6 = 6 := by decide
theorem ic7 : ix 7 = 7 := by decide
theorem ic8 : ix 8 = 8 := by decide
theorem ic9 : ix 9 = 9 := by decide
theorem n10z : ¬ ((1 : Int32) = 0) := by decide
theorem wi_L {v : Int32} {L : Nat} (hL : L < 2 ^ 31) (h : ¬ wi v 0 (nI L - 1) = 0) : ∃ i, i < L ∧ v = nI i := by
  cases L with
  | zero =>
    exfalso
    unfold wi at h
    split at h
    · exact h rfl
    · rename_i h1
      obtain ⟨i, hi, rfl⟩ := nI_of h1
      rw [if_pos (show nI 0 - 1 < nI i from m1_lt hi)] at h
      exact h rfl
  | succ L =>
    rw [nI_pred] at h
    obtain ⟨i, _, hi, rfl⟩ := wi_1 (a := 0) (b := L) (by decide) (by omega) h
    exact ⟨i, by omega, rfl⟩
theorem sim_book (v w : Int32) : Sim (fH_book v w) (fM_book v w) := by
  refine sim_r (fun _ => rfl) (fr_H_book v w) (fr_M_book v w) (by decide) (by decide) (fun a b hI => ?_)
  have h0 : gSc (a 1) (a 2) (b 102 6) (b 103) (b 106) (b 107) (b 108) := hI 0
  obtain ⟨n, hn, k1, k2, ⟨_, _, _, _, _, _, _, _, _, f12⟩, ⟨_, _, _, _, _, _, ⟨L, hL, eL⟩⟩, hp⟩ := h0
  have hb : gBk (a 64) (b 109) := hI 13
  obtain ⟨_, _, _, _, _, _, _, _, _, _, _, _, _, ⟨t0, t1⟩⟩ : gKc a := hI 18
  unfold fH_book
  simp only [e_within, e_isIn, bi_s, bnd_e, gc2, ic2, f12, eL]
  by_cases h1 : wi v 0 (nI L - 1) = 0
  · simp only [if_pos h1, if_true]
    exact w2_s rfl
  by_cases h2 : wi w 0 4 = 0
  · simp only [if_neg h1, if_pos h2, if_true]
    exact w2_s rfl
  simp only [if_neg h1, if_neg h2, n10z, if_false]
  obtain ⟨i, hi, rfl⟩ := wi_L (by omega) h1
  obtain ⟨j, _, hj, rfl⟩ := wi_1 (a := 0) (b := 4) (by decide) (by decide) h2
  rw [e_tell (w := 5) (l := 150) t0 t1 (by decide) (by decide) (show i < 150 by omega) (show j < 5 by omega) (by decide) (by decide), bi_s, nI_5, gd_n _ (show 5 * i + j < 750 by omega) (by decide), ix_n (by omega)]
  refine w2_s ?_
  show a 64 (i * 5 + j) = b 109 (5 * i + j)
  rw [hb _ (by omega), Nat.mul_comm]
/-! feed -/
def bt (x : Int32) (i : Nat) : Bool := x.toBitVec.getLsbD i
theorem b_ext {x y : Int32} (h : ∀ i, i < 32 → bt x i = bt y i) : x = y := Int32.toBitVec_inj.mp (BitVec.eq_of_getLsbD_eq (fun i hi => h i hi))
theorem b_and (x y : Int32) (i : Nat) : bt (x &&& y) i = (bt x i && bt y i) := by unfold bt; rw [Int32.toBitVec_and, BitVec.getLsbD_and]
theorem b_255 : ∀ i, i < 32 → bt 255 i = decide (i < 8) := by decide +kernel
theorem b_ushr (n : Nat) (hn : n < 32) (x : Int32) (i : Nat) : bt ((x.toUInt32 >>> ((nI n).toUInt32 &&& Int32.toUInt32 31)).toInt32) i = bt x (n + i) := by
  show (x.toUInt32 >>> ((nI n).toUInt32 &&& Int32.toUInt32 31)).toBitVec.getLsbD i = x.toUInt32.toBitVec.getLsbD (n + i)
  rw [UInt32.toBitVec_shiftRight]
  show (x.toUInt32.toBitVec >>> (((nI n).toUInt32 &&& Int32.toUInt32 31).toBitVec % 32).toNat).getLsbD i = _
  rw [s_u n hn, BitVec.getLsbD_ushiftRight]
theorem b_sshr (n : Nat) (hn : n < 32) (x : Int32) {i : Nat} (hi : i < 32) : bt (x >>> (nI n &&& 31)) i = if n + i < 32 then bt x (n + i) else bt x 31 := by
  unfold bt
  rw [Int32.toBitVec_shiftRight]
  show (x.toBitVec.sshiftRight ((nI n &&& 31).toBitVec.smod 32).toNat).getLsbD i = _
  rw [s_l n hn, BitVec.getLsbD_sshiftRight, BitVec.msb_eq_getLsbD_last]
  simp [hi]
theorem by_sh (v : Int32) (n : Nat) (hn : n ≤ 24) : usr v (nI n) &&& 255 = (v >>> (nI n &&& 31)) &&& 255 := by
  refine b_ext (fun i hi => ?_)
  rw [b_and, b_and, b_255 i hi]
  by_cases h : i < 8
  · rw [show bt (usr v (nI n)) i = bt v (n + i) from b_ushr n (by omega) v i, b_sshr n (by omega) v hi, if_pos (by omega)]
  · simp [h]
theorem by_0 (v : Int32) : v &&& 255 = (v >>> ((0 : Int32) &&& 31)) &&& 255 := by
  refine b_ext (fun i hi => ?_)
  rw [b_and, b_and, show bt (v >>> ((0 : Int32) &&& 31)) i = _ from b_sshr 0 (by omega) v hi, if_pos (by omega), Nat.zero_add]
def TPq (t : Nat) (a b : Sg) : Prop := a 31 4 = nI t ∧ b 102 12 = nI t ∧ ∀ k, k < 400 → a 32 k = b 110 k ∧ bd (a 32 k) 255
def tyA (s : Sg) (t : Nat) (x : Int32) : Sg := pt (pt s 32 t x) 31 4 (nI (t + 1))
def tyB (s : Sg) (t : Nat) (x : Int32) : Sg := pt (pt s 110 t x) 102 12 (nI (t + 1))
theorem tp_1 {t : Nat} {a b : Sg} (h : TPq t a b) (v w : Int32) (e : v &&& 255 = w &&& 255) : TPq (t + 1) (tyA a t (v &&& 255)) (tyB b t (w &&& 255)) := by
  obtain ⟨h1, h2, h3⟩ := h
  refine ⟨pt_s _ _ _ _, pt_s _ _ _ _, fun k hk => ?_⟩
  unfold tyA tyB
  rw [pt_o _ _ _ _ (show (32 : Nat) ≠ 31 by decide), pt_o _ _ _ _ (show (110 : Nat) ≠ 102 by decide)]
  by_cases e' : k = t
  · subst e'
    rw [pt_s, pt_s, e]
    refine ⟨rfl, ?_⟩
    obtain ⟨j, hj, ej⟩ := pk_andE w (m := 255) 8 (by decide)
    exact ⟨j, by omega, ej⟩
  · rw [pt_k _ _ _ e', pt_k _ _ _ e']
    exact h3 k hk
theorem e_addB {s : Sg} {t : Nat} (v : Int32) (h : s 31 4 = nI t) (ht : t < 400) : fTo_addByte v s = some (tyA s t (v &&& 255)) := by
  unfold fTo_addByte tyA
  rw [h, if_neg (nI_pos (by omega)), if_neg (show ¬ (400 : Int32) ≤ nI t from nI_ge ht (by decide)), gd_n _ ht (by decide), ix_n (by omega), bnd_e, bnd_e, show (pt s 32 t (v &&& 255)) 31 4 = nI t from h, nI_1]
theorem e_types {s : Sg} {t : Nat} (v : Int32) (h : s 102 12 = nI t) (ht : t + 4 ≤ 400) : fM_types v s = some (tyB (tyB (tyB (tyB s t ((v >>> (24 &&& 31)) &&& 255)) (t + 1) ((v >>> (16 &&& 31)) &&& 255)) (t + 1 + 1) ((v >>> (8 &&& 31)) &&& 255)) (t + 1 + 1 + 1) ((v >>> (0 &&& 31)) &&& 255)) := by
  unfold fM_types
  have q1 : ∀ (s : Sg) (t : Nat) (x : Int32), tyB s t x 102 12 = nI (t + 1) := fun s t x => pt_s _ _ _ _
  have q2 : ∀ (s : Sg) (t : Nat) (x : Int32), pt s 110 t x 102 12 = s 102 12 := fun s t x => pt_o _ _ _ _ (by decide)
  have q3 : ∀ (s : Sg) (t : Nat) (x : Int32), pt (pt s 110 t x) 102 12 (nI (t + 1)) = tyB s t x := fun _ _ _ => rfl
  rw [show FU = 4995 + 1 + 1 + 1 + 1 + 1 from rfl, lp_s, if_neg (by decide), h, gd_n _ (show t < 400 by omega) (by decide), ix_n (by omega), bnd_e, bnd_e, q2, h, nI_1, q3, show (24 : Int32) + -8 = 16 from rfl]
  rw [lp_s, if_neg (by decide), q1, gd_n _ (show t + 1 < 400 by omega) (by decide), ix_n (by omega), bnd_e, bnd_e, q2, q1, nI_1, q3, show (16 : Int32) + -8 = 8 from rfl]
  rw [lp_s, if_neg (by decide), q1, gd_n _ (show t + 1 + 1 < 400 by omega) (by decide), ix_n (by omega), bnd_e, bnd_e, q2, q1, nI_1, q3, show (8 : Int32) + -8 = 0 from rfl]
  rw [lp_s, if_neg (by decide), q1, gd_n _ (show t + 1 + 1 + 1 < 400 by omega) (by decide), ix_n (by omega), bnd_e, bnd_e, q2, q1, nI_1, q3, show (0 : Int32) + -8 = -8 from rfl]
  rw [lp_s, if_pos (by decide)]
theorem feed_1 {t : Nat} {a b : Sg} (h : TPq t a b) (ht : t + 4 ≤ 400) (v : Int32) : W2 (fTo_addNumber v a) (fM_types v b) (TPq (t + 4)) := by
  have h1 := tp_1 h (usr v 24) (v >>> (24 &&& 31)) (by_sh v 24 (by decide))
  have h2 := tp_1 h1 (usr v 16) (v >>> (16 &&& 31)) (by_sh v 16 (by decide))
  have h3 := tp_1 h2 (usr v 8) (v >>> (8 &&& 31)) (by_sh v 8 (by decide))
  have h4 := tp_1 h3 v (v >>> (0 &&& 31)) (by_0 v)
  refine w2_q (x := tyA (tyA (tyA (tyA a t (usr v 24 &&& 255)) (t + 1) (usr v 16 &&& 255)) (t + 1 + 1) (usr v 8 &&& 255)) (t + 1 + 1 + 1) (v &&& 255)) ?_ (e_types v h.2.1 ht) h4
  unfold fTo_addNumber
  rw [e_addB _ h.1 (by omega), bv_s, e_addB _ h1.1 (by omega), bv_s, e_addB _ h2.1 (by omega), bv_s, e_addB _ h3.1 (by omega), bv_s]
theorem sim_feed (v1 v2 v3 v4 v5 : Int32) : Sim (fH_feed v1 v2 v3 v4 v5) (fM_feed v1 v2 v3 v4 v5) := by
  refine sim_w [16] (fun _ => rfl) (fr_H_feed v1 v2 v3 v4 v5) (fr_M_feed v1 v2 v3 v4 v5) (by decide) (by decide) (fun a b hI => ?_)
  have h0 : gTp a b := hI 16
  obtain ⟨⟨t, ht, e1, e2⟩, h3⟩ := h0
  unfold fH_feed
  rw [e1, show nI t + 20 = nI (t + 20) from nI_add t 20]
  refine w2_if ?_ (fun h => ?_) (fun h => w2_s ⟨rfl, al1 (hI 16)⟩)
  · rw [e2, show (400 : Int32) = nI 400 from rfl, show (380 : Int32) = nI 380 from rfl, nI_leI (by omega) (by decide), nI_leI (by omega) (by decide)]
    omega
  · rw [show (400 : Int32) = nI 400 from rfl, nI_leI (by omega) (by decide)] at h
    refine w2_bv (w2_m (feed_1 (t := t) ⟨e1, e2, h3⟩ (by omega) v1) (fun a b q1 => ?_))
    refine w2_bv (w2_m (feed_1 q1 (by omega) v2) (fun a b q2 => ?_))
    refine w2_bv (w2_m (feed_1 q2 (by omega) v3) (fun a b q3 => ?_))
    refine w2_bv (w2_m (feed_1 q3 (by omega) v4) (fun a b q4 => ?_))
    refine w2_bv (w2_m (feed_1 q4 (by omega) v5) (fun a b q5 => ?_))
    refine w2_s ⟨?_, al1 ⟨⟨t + 20, by omega, q5.1, q5.2.1⟩, q5.2.2⟩⟩
    show a 31 4 = b 102 12
    rw [q5.1, q5.2.1]
/-! prices -/
theorem hd_1 {a b : Sg} (hI : Inv a b) {n i k : Nat} (e1 : a 59 3 = nI n) (e2 : b 102 62 = nI n) (hn : n ≤ 12) (hi : i < n) (hk : k ≤ 5) : W2 (fMu_isHeard (nI i) (nI k) a) (fM_isHeard (nI i) (nI k) b) (RQ a b) := by
  obtain ⟨_, hc⟩ : gSh (a 59) (a 60) (b 102 62) (b 138) := hI 11
  obtain ⟨_, _, _, _, _, _, _, _, _, _, _, ⟨t0, t1⟩, _⟩ : gKc a := hI 18
  unfold fMu_isHeard fM_isHeard
  rw [e_max, e_gr, bi_s, bi_s, mx_0 (by omega) (by omega)]
  refine w2_lp (fun j v s w t => s = a ∧ t = b ∧ ∃ x, x + j = i ∧ v = nI x ∧ w = nI x) ?_ FU FU (i - (i - k)) _ _ _ _ (FU_lt (by omega)) (FU_lt (by omega)) ⟨rfl, rfl, i - k, by omega, rfl, rfl⟩
  rintro p q j v s w t ⟨rfl, rfl, x, hx, rfl, rfl⟩ hq
  refine w2_if Iff.rfl (fun h => w2_s ⟨rfl, rfl, rfl⟩) (fun h => ?_)
  rw [nI_leI (by omega) (by omega)] at h
  have T : ∀ y, y < 12 → fTa_tell 59 (nI y) 0 s = some (s 60 y, s) := fun y hy => by
    have := e_tell (s := s) (t := 59) (i := y) (j := 0) (w := 1) (l := 12) t0 t1 (by decide) (by decide) hy (by decide) (by decide) (by decide)
    rw [show y * 1 + 0 = y by omega] at this
    exact this
  rw [T x (by omega), bi_s, T i (by omega), bi_s, gd_n _ (show x < 12 by omega) (by decide), gd_n _ (show i < 12 by omega) (by decide), ix_n (by omega), ix_n (by omega), (hc x (by omega)).1, (hc i (by omega)).1]
  refine w2_if Iff.rfl (fun _ => ?_) (fun _ => w2_s ⟨rfl, rfl, rfl⟩)
  rw [nI_1]
  exact hq (j - 1) _ _ _ _ (by omega) ⟨rfl, rfl, x + 1, by omega, rfl, rfl⟩
theorem sim_prices (v w : Int32) : Sim (fH_prices v w) (fM_prices v w) := by
  refine sim_r (fun _ => rfl) (fr_H_prices v w) (fr_M_prices v w) (by decide) (by decide) (fun a b hI => ?_)
  obtain ⟨⟨n, hn, e1, e2⟩, hc⟩ : gSh (a 59) (a 60) (b 102 62) (b 138) := hI 11
  obtain ⟨_, _, _, _, _, _, _, _, _, _, _, ⟨t0, t1⟩, _⟩ : gKc a := hI 18
  unfold fH_prices
  simp only [e_within, e_isIn, bi_s, bnd_e]
  by_cases h1 : wi v 1 5 = 0
  · simp only [if_pos h1]
    exact w2_s rfl
  by_cases h2 : wi w 0 1 = 0
  · simp only [if_neg h1, if_pos h2]
    exact w2_s rfl
  simp only [if_neg h1, if_neg h2]
  obtain ⟨k, _, hk, rfl⟩ := wi_1 (a := 1) (b := 5) (by decide) (by decide) h1
  obtain ⟨z, _, hz, rfl⟩ := wi_1 (a := 0) (b := 1) (by decide) (by decide) h2
  have main : ∀ c : Int32, (c = 0 ↔ nI z = 0) → W2 (bi (fMu_heardPrices (nI k) c a) fun r7 s6 => some (r7, s6)) (lp FU (fun q32 (u32 : Int32 × Int32) (s6 : Sg) => if (s6 102 62) ≤ u32.2 then (some (u32.1, s6)) else (bi (fM_isHeard u32.2 (nI k) s6) fun r8 s7 => if r8 = 0 then (q32 (u32.1, (u32.2 + 1)) s7) else (if nI z = 0 then (q32 (u32.1 + 1, (u32.2 + 1)) s7) else (gd u32.2 12 (q32 (u32.1 + s7 138 (ix u32.2), (u32.2 + 1)) s7))))) (0, 0) b) (fun x y => x.1 = y.1) := by
    intro c hcz
    unfold fMu_heardPrices
    simp only [bnd_e]
    have key : W2 (lp FU (fun q5 (u5 : Int32 × Int32) (s1 : Sg) => if (s1 59 3) ≤ u5.2 then (some (u5.1, s1)) else (bi (fMu_isHeard u5.2 (nI k) s1) fun r3 s2 => if r3 = 0 then (q5 (u5.1, (u5.2 + 1)) s2) else (if c = 0 then (q5 (u5.1 + 1, (u5.2 + 1)) s2) else (bi (fTa_tell 59 u5.2 0 s2) fun r7 s6 => q5 (u5.1 + r7, (u5.2 + 1)) s6)))) (0, 0) a) (lp FU (fun q32 (u32 : Int32 × Int32) (s6 : Sg) => if (s6 102 62) ≤ u32.2 then (some (u32.1, s6)) else (bi (fM_isHeard u32.2 (nI k) s6) fun r8 s7 => if r8 = 0 then (q32 (u32.1, (u32.2 + 1)) s7) else (if nI z = 0 then (q32 (u32.1 + 1, (u32.2 + 1)) s7) else (gd u32.2 12 (q32 (u32.1 + s7 138 (ix u32.2), (u32.2 + 1)) s7))))) (0, 0) b) (RQ a b) := by
      refine w2_lp (fun j v s w t => s = a ∧ t = b ∧ ∃ (x : Nat) (y : Int32), x + j = n ∧ v = (y, nI x) ∧ w = (y, nI x)) ?_ FU FU n _ _ _ _ (FU_lt (by omega)) (FU_lt (by omega)) ⟨rfl, rfl, 0, 0, by omega, rfl, rfl⟩
      rintro p q j v s w t ⟨rfl, rfl, x, y, hx, rfl, rfl⟩ hq
      dsimp only
      rw [e1, e2]
      refine w2_if Iff.rfl (fun h => w2_s ⟨rfl, rfl, rfl⟩) (fun h => ?_)
      rw [nI_leI (by omega) (by omega)] at h
      refine w2_rq (hd_1 hI e1 e2 hn (show x < n by omega) hk) (fun r _ _ => ?_)
      rw [nI_1]
      refine w2_if Iff.rfl (fun _ => ?_) (fun _ => ?_)
      · exact hq (j - 1) _ _ _ _ (by omega) ⟨rfl, rfl, x + 1, _, by omega, rfl, rfl⟩
      refine w2_if hcz (fun _ => ?_) (fun _ => ?_)
      · exact hq (j - 1) _ _ _ _ (by omega) ⟨rfl, rfl, x + 1, _, by omega, rfl, rfl⟩
      · have T := e_tell (s := s) (t := 59) (i := x) (j := 0) (w := 1) (l := 12) t0 t1 (by decide) (by decide) (show x < 12 by omega) (by decide) (by decide) (by decide)
        rw [show fTa_tell 59 (nI x) 0 s = _ from T, bi_s, gd_n _ (show x < 12 by omega) (by decide), ix_n (by omega), show x * 1 + 0 = x by omega, show hz_rf 59 2 = 60 from rfl, (hc x (by omega)).1]
        exact hq (j - 1) _ _ _ _ (by omega) ⟨rfl, rfl, x + 1, _, by omega, rfl, rfl⟩
    obtain ⟨x, y, q1, q2, q3, q4, q5⟩ := key
    refine ⟨x, y, ?_, q2, q3⟩
    rw [q1]
    rfl
  by_cases g : nI z = 1
  · rw [if_pos g]
    exact main 1 ⟨fun h => absurd h (by decide), fun h => absurd (g.symm.trans h) (by decide)⟩
  · rw [if_neg g]
    refine main 0 ⟨fun _ => ?_, fun _ => rfl⟩
    have : z = 0 ∨ z = 1 := by omega
    rcases this with rfl | rfl
    · rfl
    · exact absurd rfl g
