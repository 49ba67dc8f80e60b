/-! THE PURE HALF: words for reasoning about the functions -/
theorem bnd_e {α R : Type} (e : α) (k : α → Option R) : bnd e k = k e := rfl
theorem bi_s {R : Type} (r : Int32) (s : Sg) (k : Int32 → Sg → Option R) : bi (some (r, s)) k = k r s := rfl
theorem bv_s {R : Type} (s : Sg) (k : Sg → Option R) : bv (some s) k = k s := rfl
theorem br_s {R : Type} (r : Nat) (s : Sg) (k : Nat → Sg → Option R) : br (some (r, s)) k = k r s := rfl
theorem gb_0 {R : Type} (f : Option R) : gb 0 f = f := rfl
theorem gb_1 {R : Type} (f : Option R) : gb 1 f = f := rfl
theorem gd_n {R : Type} {k n : Nat} (f : Option R) (h : k < n) (hn : n < 2 ^ 31) : gd (nI k) n f = f := if_neg (nI_in h hn)
theorem gd_i {R : Type} {i : Int32} {k n : Nat} (f : Option R) (e : i = nI k) (h : k < n) (hn : n < 2 ^ 31) : gd i n f = f := by rw [e]; exact gd_n f h hn
theorem gd_l {R : Type} (i : Int32) (n : Nat) (f : Option R) (h : ¬ (i < 0 ∨ n ≤ i.toNatClampNeg)) : gd i n f = f := if_neg h
theorem gz_n {R : Type} {i : Int32} (f : Option R) (h : i ≠ 0) : gz i f = f := if_neg h
theorem ix_n {k : Nat} (h : k < 2 ^ 31) : ix (nI k) = k := nI_clamp h
theorem lp_s {α R : Type} (n : Nat) (b : (α → Sg → Option R) → α → Sg → Option R) (v : α) (s : Sg) : lp (n + 1) b v s = b (lp n b) v s := rfl
/-- a loop, by what is left of it: k more goes at most, then (or before) it answers as rf says -/
theorem lp_out {α R : Type} {b : (α → Sg → Option R) → α → Sg → Option R} (I : Nat → α → Sg → Prop) (rf : Nat → α → Sg → Option R) (h0 : ∀ q v s, I 0 v s → b q v s = rf 0 v s)
    (h1 : ∀ q k v s, I (k + 1) v s → b q v s = rf (k + 1) v s ∨ ∃ v' s', b q v s = q v' s' ∧ I k v' s' ∧ rf (k + 1) v s = rf k v' s') : ∀ (k fuel : Nat) (v : α) (s : Sg), k < fuel → I k v s → lp fuel b v s = rf k v s
  | 0, 0, _, _, h, _ => absurd h (Nat.lt_irrefl 0)
  | 0, n + 1, v, s, _, hI => h0 (lp n b) v s hI
  | k + 1, 0, _, _, h, _ => absurd h (Nat.not_lt_zero _)
  | k + 1, n + 1, v, s, h, hI => by
    rcases h1 (lp n b) k v s hI with e | ⟨v', s', e, hI', er⟩
    · exact e
    · rw [lp_s, e, er]
      exact lp_out I rf h0 h1 k n v' s' (by omega) hI'
/-- what a counting loop does: F i, F (i + 1), .. , k of them -/
def itr (F : Nat → Sg → Sg) : Nat → Nat → Sg → Sg
  | _, 0, s => s
  | i, k + 1, s => itr F (i + 1) k (F i s)
theorem lp_up {R : Type} {b : (Int32 → Sg → Option R) → Int32 → Sg → Option R} {K : Sg → Option R} (N : Nat) (F : Nat → Sg → Sg) (I : Nat → Sg → Prop) (he : ∀ q s, I N s → b q (nI N) s = K s)
    (hs : ∀ q i s, i < N → I i s → b q (nI i) s = q (nI (i + 1)) (F i s) ∧ I (i + 1) (F i s)) : ∀ (k i fuel : Nat) (s : Sg), i + k = N → k < fuel → I i s → lp fuel b (nI i) s = K (itr F i k s) ∧ I N (itr F i k s)
  | 0, i, 0, _, _, h, _ => absurd h (Nat.lt_irrefl 0)
  | 0, i, n + 1, s, e, _, hI => by
    have : i = N := by omega
    subst this
    exact ⟨he (lp n b) s hI, hI⟩
  | k + 1, i, 0, _, _, h, _ => absurd h (Nat.not_lt_zero _)
  | k + 1, i, n + 1, s, e, h, hI => by
    obtain ⟨e1, e2⟩ := hs (lp n b) i s (by omega) hI
    rw [lp_s, e1]
    exact lp_up N F I he hs k (i + 1) n (F i s) (by omega) (by omega) e2
theorem FU_lt {k : Nat} (h : k < 5000) : k < FU := h
theorem itr_inv (P : Nat → Sg → Prop) (F : Nat → Sg → Sg) (hs : ∀ i s, P i s → P (i + 1) (F i s)) : ∀ (k i : Nat) (s : Sg), P i s → P (i + k) (itr F i k s)
  | 0, i, s, h => h
  | k + 1, i, s, h => by
    have := itr_inv P F hs k (i + 1) (F i s) (hs i s h)
    rw [show i + 1 + k = i + (k + 1) by omega] at this
    exact this
/-! numbers -/
theorem pt_s (s : Sg) (o k : Nat) (v : Int32) : pt s o k v o k = v := by simp [pt]
theorem pt_o (s : Sg) {o q : Nat} (k j : Nat) (v : Int32) (h : q ≠ o) : pt s o k v q j = s q j := by simp [pt, h]
theorem pt_k (s : Sg) (o : Nat) {k j : Nat} (v : Int32) (h : j ≠ k) : pt s o k v o j = s o j := by simp [pt, h]
theorem n_lit (n : Nat) : (OfNat.ofNat n : Int32) = nI n := rfl
theorem nI_inj {a b : Nat} (ha : a < 2 ^ 31) (hb : b < 2 ^ 31) (h : nI a = nI b) : a = b := (nI_eq ha hb).mp h
/-- a number between two small ones -/
theorem in_nat {v : Int32} {a b : Nat} (ha : a < 2 ^ 31) (hb : b < 2 ^ 31) (h1 : ¬ v < nI a) (h2 : ¬ nI b < v) : ∃ k, a ≤ k ∧ k ≤ b ∧ v = nI k := by
  have h0 : ¬ v < 0 := by
    intro h
    apply h1
    rw [Int32.lt_iff_toInt_lt] at h ⊢
    rw [nI_toInt ha]
    rw [Int32.toInt_zero] at h
    omega
  obtain ⟨k, hk, rfl⟩ := nI_of h0
  refine ⟨k, ?_, ?_, rfl⟩
  · rw [nI_ltI hk ha] at h1
    omega
  · rw [nI_ltI hb hk] at h2
    omega
/-! the small methods of both sides -/
/-- v from a to b: 1 or 0 -/
def wi (v a b : Int32) : Int32 := if v < a then 0 else if b < v then 0 else 1
theorem wi_01 (v a b : Int32) : wi v a b = 0 ∨ wi v a b = 1 := by
  unfold wi
  split
  · exact Or.inl rfl
  · split
    · exact Or.inl rfl
    · exact Or.inr rfl
theorem e_within (v a b : Int32) (s : Sg) : fH_within v a b s = some (wi v a b, s) := by
  unfold fH_within wi
  split
  · rfl
  · split <;> rfl
theorem e_isIn (v a b : Int32) (s : Sg) : fM_isIn v a b s = some (wi v a b, s) := by
  unfold fM_isIn wi
  split
  · rfl
  · split <;> rfl
theorem gb_wi {R : Type} (v a b : Int32) (f : Option R) : gb (wi v a b) f = f := if_pos (wi_01 v a b)
theorem e_isWord (v : Int32) (s : Sg) : fH_isWord v s = some (wi v 0 19, s) := by
  unfold fH_isWord
  rw [e_within, bi_s, gb_wi]
theorem e_isQuestion (v : Int32) (s : Sg) : fH_isQuestion v s = some (wi v 0 9, s) := by
  unfold fH_isQuestion
  rw [e_within, bi_s, gb_wi]
theorem wi_1 {v : Int32} {a b : Nat} (ha : a < 2 ^ 31) (hb : b < 2 ^ 31) (h : ¬ wi v (nI a) (nI b) = 0) : ∃ k, a ≤ k ∧ k ≤ b ∧ v = nI k := by
  unfold wi at h
  split at h
  · exact absurd rfl h
  · split at h
    · exact absurd rfl h
    · exact in_nat ha hb (by assumption) (by assumption)
theorem wi_n {k a b : Nat} (hk : k < 2 ^ 31) (ha : a < 2 ^ 31) (hb : b < 2 ^ 31) : wi (nI k) (nI a) (nI b) = if a ≤ k ∧ k ≤ b then 1 else 0 := by
  unfold wi
  simp only [nI_ltI hk ha, nI_ltI hb hk]
  by_cases h1 : k < a
  · rw [if_pos h1, if_neg (by omega)]
  · rw [if_neg h1]
    by_cases h2 : b < k
    · rw [if_pos h2, if_neg (by omega)]
    · rw [if_neg h2, if_pos (by omega)]
