/-! runs: W1 of one side, W2 of both sides -/
def W1 {R : Type} (f : Option R) (Q : R → Prop) : Prop := ∃ z, f = some z ∧ Q z
def W2 {R S : Type} (f : Option R) (g : Option S) (Z : R → S → Prop) : Prop := ∃ x y, f = some x ∧ g = some y ∧ Z x y
section WRU
variable {R S : Type} {Q : R → Prop} {Z : R → S → Prop} {f f' : Option R} {g g' : Option S}
theorem w1_s {z : R} (h : Q z) : W1 (some z) Q := ⟨z, rfl, h⟩
theorem w1_m {P : R → Prop} (h : W1 f P) (hq : ∀ z, P z → Q z) : W1 f Q := by
  obtain ⟨z, e, hz⟩ := h
  exact ⟨z, e, hq z hz⟩
theorem w1_e {z : R} (h : W1 f (fun y => y = z)) : f = some z := by
  obtain ⟨y, e, hy⟩ := h
  rw [e, hy]
theorem w1_q {z : R} (e : f = some z) (h : Q z) : W1 f Q := ⟨z, e, h⟩
theorem w1_bi {fy : Option (Int32 × Sg)} {k : Int32 → Sg → Option R} (h : W1 fy (fun z => W1 (k z.1 z.2) Q)) : W1 (bi fy k) Q := by
  obtain ⟨z, e, h⟩ := h
  rw [e]
  exact h
theorem w1_bv {fy : Option Sg} {k : Sg → Option R} (h : W1 fy (fun z => W1 (k z) Q)) : W1 (bv fy k) Q := by
  obtain ⟨z, e, h⟩ := h
  rw [e]
  exact h
theorem w1_if {c : Prop} {hc : Decidable c} (h1 : c → W1 f Q) (h2 : ¬ c → W1 f' Q) : W1 (@ite _ c hc f f') Q := by
  by_cases h : c
  · rw [if_pos h]; exact h1 h
  · rw [if_neg h]; exact h2 h
theorem w1_lp {α : Type} {b : (α → Sg → Option R) → α → Sg → Option R} (I : Nat → α → Sg → Prop) (h : ∀ q k v s, I k v s → (∀ j v' s', j < k → I j v' s' → W1 (q v' s') Q) → W1 (b q v s) Q) : ∀ (fuel k : Nat) (v : α) (s : Sg), k < fuel → I k v s → W1 (lp fuel b v s) Q
  | 0, _, _, _, hk, _ => absurd hk (Nat.not_lt_zero _)
  | n + 1, k, v, s, hk, hI => h (lp n b) k v s hI (fun j v' s' hj hI' => w1_lp I h n j v' s' (by omega) hI')
theorem w1_j {α : Type} {e : α} {k : α → Option R} (P : α → Prop) (h1 : P e) (h2 : ∀ j, P j → W1 (k j) Q) : W1 (bnd e k) Q := h2 e h1
theorem w2_jl {α : Type} {e : α} {k : α → Option R} (P : α → Prop) (h1 : P e) (h2 : ∀ j, P j → W2 (k j) g Z) : W2 (bnd e k) g Z := h2 e h1
theorem w2_jr {α : Type} {e : α} {k : α → Option S} (P : α → Prop) (h1 : P e) (h2 : ∀ j, P j → W2 f (k j) Z) : W2 f (bnd e k) Z := h2 e h1
theorem w2_jj {α β : Type} {e : α} {k : α → Option R} {e' : β} {k' : β → Option S} (P : α → β → Prop) (h1 : P e e') (h2 : ∀ j j', P j j' → W2 (k j) (k' j') Z) : W2 (bnd e k) (bnd e' k') Z := h2 e e' h1
theorem w2_s {x : R} {y : S} (h : Z x y) : W2 (some x) (some y) Z := ⟨x, y, rfl, rfl, h⟩
theorem w2_m {Y : R → S → Prop} (h : W2 f g Y) (hq : ∀ x y, Y x y → Z x y) : W2 f g Z := by
  obtain ⟨x, y, e1, e2, hz⟩ := h
  exact ⟨x, y, e1, e2, hq x y hz⟩
theorem w2_1 (h : W1 f (fun x => W1 g (Z x))) : W2 f g Z := by
  obtain ⟨x, e1, y, e2, hz⟩ := h
  exact ⟨x, y, e1, e2, hz⟩
theorem w2_q {x : R} {y : S} (e1 : f = some x) (e2 : g = some y) (h : Z x y) : W2 f g Z := ⟨x, y, e1, e2, h⟩
theorem w2_bi {fy gy : Option (Int32 × Sg)} {k : Int32 → Sg → Option R} {l : Int32 → Sg → Option S} (h : W2 fy gy (fun x y => W2 (k x.1 x.2) (l y.1 y.2) Z)) : W2 (bi fy k) (bi gy l) Z := by
  obtain ⟨x, y, e1, e2, h⟩ := h
  rw [e1, e2]
  exact h
theorem w2_bil {fy : Option (Int32 × Sg)} {k : Int32 → Sg → Option R} (h : W1 fy (fun x => W2 (k x.1 x.2) g Z)) : W2 (bi fy k) g Z := by
  obtain ⟨x, e1, h⟩ := h
  rw [e1]
  exact h
theorem w2_bir {gy : Option (Int32 × Sg)} {l : Int32 → Sg → Option S} (h : W1 gy (fun y => W2 f (l y.1 y.2) Z)) : W2 f (bi gy l) Z := by
  obtain ⟨x, e1, h⟩ := h
  rw [e1]
  exact h
theorem w2_bv {fy gy : Option Sg} {k : Sg → Option R} {l : Sg → Option S} (h : W2 fy gy (fun x y => W2 (k x) (l y) Z)) : W2 (bv fy k) (bv gy l) Z := by
  obtain ⟨x, y, e1, e2, h⟩ := h
  rw [e1, e2]
  exact h
theorem w2_bvl {fy : Option Sg} {k : Sg → Option R} (h : W1 fy (fun x => W2 (k x) g Z)) : W2 (bv fy k) g Z := by
  obtain ⟨x, e1, h⟩ := h
  rw [e1]
  exact h
theorem w2_bvr {gy : Option Sg} {l : Sg → Option S} (h : W1 gy (fun y => W2 f (l y) Z)) : W2 f (bv gy l) Z := by
  obtain ⟨x, e1, h⟩ := h
  rw [e1]
  exact h
theorem w2_if {c d : Prop} {hc : Decidable c} {hd : Decidable d} (e : c ↔ d) (h1 : c → W2 f g Z) (h2 : ¬ c → W2 f' g' Z) : W2 (@ite _ c hc f f') (@ite _ d hd g g') Z := by
  by_cases h : c
  · rw [if_pos h, if_pos (e.mp h)]; exact h1 h
  · rw [if_neg h, if_neg (fun q => h (e.mpr q))]; exact h2 h
theorem w2_il {c : Prop} {hc : Decidable c} (h1 : c → W2 f g Z) (h2 : ¬ c → W2 f' g Z) : W2 (@ite _ c hc f f') g Z := by
  by_cases h : c
  · rw [if_pos h]; exact h1 h
  · rw [if_neg h]; exact h2 h
theorem w2_ir {c : Prop} {hc : Decidable c} (h1 : c → W2 f g Z) (h2 : ¬ c → W2 f g' Z) : W2 f (@ite _ c hc g g') Z := by
  by_cases h : c
  · rw [if_pos h]; exact h1 h
  · rw [if_neg h]; exact h2 h
theorem w2_lp {α β : Type} {b : (α → Sg → Option R) → α → Sg → Option R} {c : (β → Sg → Option S) → β → Sg → Option S} (I : Nat → α → Sg → β → Sg → Prop) (h : ∀ p q k v s w t, I k v s w t → (∀ j v' s' w' t', j < k → I j v' s' w' t' → W2 (p v' s') (q w' t') Z) → W2 (b p v s) (c q w t) Z) : ∀ (n m k : Nat) (v : α) (s : Sg) (w : β) (t : Sg), k < n → k < m → I k v s w t → W2 (lp n b v s) (lp m c w t) Z
  | 0, _, _, _, _, _, _, hk, _, _ => absurd hk (Nat.not_lt_zero _)
  | _ + 1, 0, _, _, _, _, _, _, hk, _ => absurd hk (Nat.not_lt_zero _)
  | n + 1, m + 1, k, v, s, w, t, hk, hm, hI => h (lp n b) (lp m c) k v s w t hI (fun j v' s' w' t' hj hI' => w2_lp I h n m j v' s' w' t' (by omega) (by omega) hI')
/-- the same answer, both states as they were -/
def RQ (a b : Sg) (x y : Int32 × Sg) : Prop := x.1 = y.1 ∧ x.2 = a ∧ y.2 = b
theorem w2_rq {a b : Sg} {fy gy : Option (Int32 × Sg)} {k : Int32 → Sg → Option R} {l : Int32 → Sg → Option S} (h : W2 fy gy (RQ a b)) (hk : ∀ r, fy = some (r, a) → gy = some (r, b) → W2 (k r a) (l r b) Z) : W2 (bi fy k) (bi gy l) Z := by
  obtain ⟨⟨r, s⟩, ⟨r', t⟩, e1, e2, h1, h2, h3⟩ := h
  dsimp only at h1 h2 h3
  subst h1; subst h2; subst h3
  rw [e1, e2]
  exact hk r e1 e2
end WRU
theorem sim_w (ch : List Nat) {fh fm : Sg → Option (Int32 × Sg)} {F : Sg → Option (Int32 × Sg)} {MoA MoB : List Nat} {MfA MfB : List (Nat × Nat)} (hF : ∀ s, fm s = bnd (pt s 102 0 0) F) (frh : ∀ s, fP prI MoA MfA s (fh s)) (frm : ∀ s, fP prI MoB MfB s (fm s)) (kA : frK ch rC rF MoA MfA = true) (kB : frK ch rM rG MoB MfB = true)
    (h : ∀ a b, Inv a b → W2 (fh a) (F b) (fun x y => x.1 = y.1 ∧ ∀ i ∈ ch, Grp i x.2 y.2)) : Sim fh fm :=
  sim_on ch hF frh frm kA kB (fun a b hI => by
    obtain ⟨⟨r, a'⟩, ⟨r', b'⟩, e1, e2, e3, h3⟩ := h a b hI
    dsimp only at e3 h3
    subst e3
    exact ⟨r, a', b', e1, e2, h3⟩)
theorem sim_r {fh fm : Sg → Option (Int32 × Sg)} {F : Sg → Option (Int32 × Sg)} {MoA MoB : List Nat} {MfA MfB : List (Nat × Nat)} (hF : ∀ s, fm s = bnd (pt s 102 0 0) F) (frh : ∀ s, fP prI MoA MfA s (fh s)) (frm : ∀ s, fP prI MoB MfB s (fm s)) (kA : frK [] rC rF MoA MfA = true) (kB : frK [] rM rG MoB MfB = true)
    (h : ∀ a b, Inv a b → W2 (fh a) (F b) (fun x y => x.1 = y.1)) : Sim fh fm :=
  sim_w [] hF frh frm kA kB (fun a b hI => w2_m (h a b hI) (fun _ _ e => ⟨e, al0⟩))
/-! numbers -/
theorem nI_m1 {k : Nat} (h : k < 2 ^ 31) : ¬ nI k = -1 := fun e => by
  have := nI_toInt h
  rw [e] at this
  have h2 : (-1 : Int32).toInt = -1 := by decide
  rw [h2] at this
  omega
theorem m1_nI {k : Nat} (h : k < 2 ^ 31) : ¬ (-1 : Int32) = nI k := fun e => nI_m1 h e.symm
theorem m1_lt {k : Nat} (h : k < 2 ^ 31) : (-1 : Int32) < nI k := by
  rw [Int32.lt_iff_toInt_lt, nI_toInt h]
  have h2 : (-1 : Int32).toInt = -1 := by decide
  omega
theorem m1_le {k : Nat} (h : k < 2 ^ 31) : (-1 : Int32) ≤ nI k := by
  rw [Int32.le_iff_toInt_le, nI_toInt h]
  have h2 : (-1 : Int32).toInt = -1 := by decide
  omega
theorem nle_m1 {k : Nat} (h : k < 2 ^ 31) : ¬ nI k ≤ -1 := by
  rw [Int32.le_iff_toInt_le, nI_toInt h]
  have h2 : (-1 : Int32).toInt = -1 := by decide
  omega
theorem nlt_m1 {k : Nat} (h : k < 2 ^ 31) : ¬ nI k < -1 := by
  rw [Int32.lt_iff_toInt_lt, nI_toInt h]
  have h2 : (-1 : Int32).toInt = -1 := by decide
  omega
theorem e_max (x y : Int32) (s : Sg) : fJ9_max_7cf53 x y s = some (if x < y then y else x, s) := by
  unfold fJ9_max_7cf53
  split <;> rfl
theorem e_min (x y : Int32) (s : Sg) : fJ9_min_7cf53 x y s = some (if y < x then y else x, s) := by
  unfold fJ9_min_7cf53
  split <;> rfl
theorem e_gr (x y : Int32) (s : Sg) : fM_greater x y s = some (if x < y then y else x, s) := by
  unfold fM_greater
  by_cases h : x < y
  · rw [if_pos (Int32.le_of_lt h), if_pos h]
  · rw [if_neg h]
    by_cases h2 : x ≤ y
    · rw [if_pos h2, Int32.le_antisymm (Int32.not_lt.mp h) h2]
    · rw [if_neg h2]
theorem e_ls (x y : Int32) (s : Sg) : fM_lesser x y s = some (if y < x then y else x, s) := by
  unfold fM_lesser
  by_cases h : y < x
  · rw [if_pos (Int32.le_of_lt h), if_pos h]
  · rw [if_neg h]
    by_cases h2 : y ≤ x
    · rw [if_pos h2, Int32.le_antisymm (Int32.not_lt.mp h) h2]
    · rw [if_neg h2]
theorem mx_n {a b : Nat} (ha : a < 2 ^ 31) (hb : b < 2 ^ 31) : (if nI a < nI b then nI b else nI a) = nI (max a b) := by
  by_cases h : a < b
  · rw [if_pos (nI_lt h hb), Nat.max_eq_right (by omega)]
  · rw [if_neg (nI_nlt (by omega) ha), Nat.max_eq_left (by omega)]
theorem mn_n {a b : Nat} (ha : a < 2 ^ 31) (hb : b < 2 ^ 31) : (if nI b < nI a then nI b else nI a) = nI (min a b) := by
  by_cases h : b < a
  · rw [if_pos (nI_lt h ha), Nat.min_eq_right (by omega)]
  · rw [if_neg (nI_nlt (by omega) hb), Nat.min_eq_left (by omega)]
theorem mx_0 {a b : Nat} (ha : a < 2 ^ 30) (hb : b < 2 ^ 30) : (if (0 : Int32) < nI a - nI b then nI a - nI b else 0) = nI (a - b) := by
  by_cases h : b ≤ a
  · rw [pk_sub h]
    by_cases h2 : a - b = 0
    · rw [h2]; rfl
    · rw [if_pos (show (0 : Int32) < nI (a - b) from nI_lt (a := 0) (by omega) (by omega))]
  · rw [if_neg (fun q => by
      have := pk_sneg hb (show a < b by omega)
      exact Int32.lt_irrefl (Int32.lt_trans q this)), show a - b = 0 by omega]
    rfl
/-! bits -/
theorem nx_and (a b : Nat) : nI a &&& nI b = nI (a &&& b) := by
  apply Int32.toBitVec_inj.1
  show BitVec.ofNat 32 a &&& BitVec.ofNat 32 b = BitVec.ofNat 32 (a &&& b)
  apply BitVec.eq_of_getLsbD_eq
  intro i hi
  simp [hi]
theorem nx_or (a b : Nat) : nI a ||| nI b = nI (a ||| b) := by
  apply Int32.toBitVec_inj.1
  show BitVec.ofNat 32 a ||| BitVec.ofNat 32 b = BitVec.ofNat 32 (a ||| b)
  apply BitVec.eq_of_getLsbD_eq
  intro i hi
  simp [hi]
theorem nx_xor (a b : Nat) : nI a ^^^ nI b = nI (a ^^^ b) := by
  apply Int32.toBitVec_inj.1
  show BitVec.ofNat 32 a ^^^ BitVec.ofNat 32 b = BitVec.ofNat 32 (a ^^^ b)
  apply BitVec.eq_of_getLsbD_eq
  intro i hi
  simp [hi]
theorem s_l : ∀ n, n < 32 → ((nI n &&& 31).toBitVec.smod 32).toNat = n := by decide +kernel
theorem s_u : ∀ n, n < 32 → (((nI n).toUInt32 &&& Int32.toUInt32 31).toBitVec % 32).toNat = n := by decide +kernel
theorem sh1 : ∀ i, i < 31 → (1 : Int32) <<< (nI i &&& 31) = nI (2 ^ i) := by decide +kernel
theorem shr_n {m i : Nat} (hm : m < 2 ^ 31) (hi : i < 32) : nI m >>> (nI i &&& 31) = nI (m / 2 ^ i) := pk_shrN hm _ i (s_l i hi)
theorem and1 {m : Nat} (hm : m < 2 ^ 31) : nI m &&& 1 = nI (m % 2) := pk_andN (by omega) (m := 1) 1 (by decide)
theorem bt_n {m i : Nat} (hm : m < 2 ^ 31) (hi : i < 32) : ((nI m >>> (nI i &&& 31)) &&& 1) = if m.testBit i then 1 else 0 := by
  have h : m / 2 ^ i < 2 ^ 31 := Nat.lt_of_le_of_lt (Nat.div_le_self _ _) hm
  rw [shr_n hm hi, and1 h, Nat.testBit_eq_decide_div_mod_eq]
  have : m / 2 ^ i % 2 = 0 ∨ m / 2 ^ i % 2 = 1 := by omega
  rcases this with e | e
  · rw [e]; rfl
  · rw [e]; rfl
theorem bt_t {m i : Nat} (hm : m < 2 ^ 31) (hi : i < 32) : ((nI m >>> (nI i &&& 31)) &&& 1) = 1 ↔ m.testBit i = true := by
  rw [bt_n hm hi]
  cases m.testBit i
  · exact ⟨fun h => absurd h (by decide), fun h => absurd h (by decide)⟩
  · exact ⟨fun _ => rfl, fun _ => rfl⟩
theorem e_hasN {m i : Nat} (hm : m < 2 ^ 31) (hi : i < 32) (s : Sg) : fM_has (nI m) (nI i) s = some (if m.testBit i then 1 else 0, s) := by
  unfold fM_has
  rw [bt_n hm hi]
  cases m.testBit i
  · rw [if_neg (by decide)]; rfl
  · rw [if_pos (by decide)]; rfl
theorem tb_or (n j i : Nat) : (n ||| 2 ^ j).testBit i = (n.testBit i || decide (i = j)) := by
  rw [Nat.testBit_or]
  by_cases h : j = i
  · subst h; simp
  · have h2 : ¬ i = j := fun e => h e.symm
    rw [Nat.testBit_two_pow_of_ne h]
    simp [h2]
theorem or_lt31 {m i : Nat} (hm : m < 2 ^ 31) (hi : i < 31) : m ||| 2 ^ i < 2 ^ 31 := Nat.or_lt_two_pow hm (Nat.pow_lt_pow_right (by decide) hi)
/-- how many bits are set -/
def pc : Nat → Nat
  | 0 => 0
  | n + 1 => (n + 1) % 2 + pc ((n + 1) / 2)
theorem pc_s (n : Nat) : pc n = n % 2 + pc (n / 2) := by
  cases n with
  | zero =>
    show pc 0 = 0 + pc 0
    omega
  | succ n => rw [pc]
theorem pc_0 : pc 0 = 0 := by rw [pc]
theorem pc_low : ∀ (n : Nat), n ≠ 0 → pc (n &&& (n - 1)) + 1 = pc n := by
  intro n
  induction n using Nat.strongRecOn with
  | _ n ih =>
    intro h
    rw [pc_s n, pc_s (n &&& (n - 1)), Nat.and_div_two]
    have hm : (n &&& (n - 1)) % 2 = (n % 2) &&& ((n - 1) % 2) := Nat.and_mod_two_pow (n := 1)
    rcases Nat.mod_two_eq_zero_or_one n with e | e
    · have h2 : n / 2 ≠ 0 := by omega
      have := ih (n / 2) (by omega) h2
      rw [show (n - 1) / 2 = n / 2 - 1 by omega, hm, e, Nat.zero_and]
      omega
    · rw [show (n - 1) / 2 = n / 2 by omega, Nat.and_self, hm, e, show (n - 1) % 2 = 0 by omega, Nat.and_zero]
      omega
theorem pc_le : ∀ (k n : Nat), n < 2 ^ k → pc n ≤ k
  | 0, n, h => by
    have : n = 0 := by rw [Nat.pow_zero] at h; omega
    rw [this, pc_0]
    exact Nat.le_refl 0
  | k + 1, n, h => by
    have := pc_le k (n / 2) (by rw [Nat.pow_succ] at h; omega)
    rw [pc_s]
    omega
theorem pc_cut (r q : Nat) : ∀ (k : Nat), r < 2 ^ k → pc (2 ^ k * q + r) = pc q + pc r := by
  intro k
  induction k generalizing r with
  | zero =>
    intro h
    rw [Nat.pow_zero] at h
    rw [show r = 0 by omega, pc_0, Nat.pow_zero]
    simp
  | succ k ih =>
    intro h
    have h2 : r / 2 < 2 ^ k := by rw [Nat.pow_succ] at h; omega
    rw [pc_s (2 ^ (k + 1) * q + r), pc_s r]
    have e1 : 2 ^ (k + 1) * q = 2 * (2 ^ k * q) := by rw [Nat.pow_succ]; ac_rfl
    rw [e1, show (2 * (2 ^ k * q) + r) / 2 = 2 ^ k * q + r / 2 by omega, ih _ h2]
    omega
theorem pc_pos (n : Nat) : pc n = 0 ↔ n = 0 := by
  constructor
  · intro h
    refine Classical.byContradiction fun hn => ?_
    have := pc_low n hn
    omega
  · intro h
    rw [h, pc_0]
theorem e_ones {m : Nat} (hm : m < 2 ^ 31) (s : Sg) : fM_onesOf (nI m) s = some (nI (pc m), s) := by
  unfold fM_onesOf
  refine w1_e (w1_lp (Q := fun z => z = (nI (pc m), s)) (fun k v t => t = s ∧ ∃ c n, n < 2 ^ 31 ∧ pc n = k ∧ c + pc n = pc m ∧ v = (nI c, nI n)) ?_ FU (pc m) _ s ?_ ⟨rfl, 0, m, hm, rfl, by omega, rfl⟩)
  · rintro q k v t ⟨rfl, c, n, hn, hk, hc, rfl⟩ hq
    refine w1_if (fun h => ?_) (fun h => ?_)
    · have : n = 0 := nI_inj hn (by decide) h
      subst this
      rw [pc_0] at hc
      refine w1_s ?_
      dsimp only
      rw [show c = pc m by omega]
    · have hn0 : n ≠ 0 := fun e => h (by rw [e]; rfl)
      have hp := pc_low n hn0
      refine hq (pc (n &&& (n - 1))) _ _ (by omega) ⟨rfl, c + 1, n &&& (n - 1), Nat.lt_of_le_of_lt Nat.and_le_left hn, rfl, by omega, ?_⟩
      dsimp only
      rw [nI_1, show (1 : Int32) = nI 1 from rfl, pk_sub (by omega), nx_and]
  · have := pc_le 31 m hm
    exact FU_lt (by omega)
/-! the class's way of counting bits, byte by byte -/
theorem by_55 : ∀ a, a < 256 → ∀ t, t < 2 → ((a / 2 + 128 * t) &&& 85 = (a / 2) &&& 85) := by decide +kernel
theorem by_A : ∀ a, a < 256 → ((a / 2) &&& 85) ≤ a := by decide +kernel
theorem by_33 : ∀ a, a < 256 → ∀ t, t < 4 → ((a / 4 + 64 * t) &&& 51 = (a / 4) &&& 51) := by decide +kernel
theorem by_B : ∀ a, a < 256 → (((a - ((a / 2) &&& 85)) &&& 51) + (((a - ((a / 2) &&& 85)) / 4) &&& 51)) % 16 ≤ 4 ∧ (((a - ((a / 2) &&& 85)) &&& 51) + (((a - ((a / 2) &&& 85)) / 4) &&& 51)) / 16 ≤ 4 := by decide +kernel
theorem by_C : ∀ a, a < 69 → ∀ t, t < 5 → ((a + a / 16 + 16 * t) &&& 15 = (a + a / 16) &&& 15) := by decide +kernel
theorem by_P : ∀ a, a < 256 → ((((a - ((a / 2) &&& 85)) &&& 51) + (((a - ((a / 2) &&& 85)) / 4) &&& 51)) + (((a - ((a / 2) &&& 85)) &&& 51) + (((a - ((a / 2) &&& 85)) / 4) &&& 51)) / 16) &&& 15 = pc a := by
  have h : ∀ a, a < 256 → ((((a - ((a / 2) &&& 85)) &&& 51) + (((a - ((a / 2) &&& 85)) / 4) &&& 51)) + (((a - ((a / 2) &&& 85)) &&& 51) + (((a - ((a / 2) &&& 85)) / 4) &&& 51)) / 16) &&& 15 = a % 2 + a / 2 % 2 + a / 4 % 2 + a / 8 % 2 + a / 16 % 2 + a / 32 % 2 + a / 64 % 2 + a / 128 % 2 := by decide +kernel
  intro a ha
  rw [h a ha, pc_s a, pc_s (a / 2), pc_s (a / 2 / 2), pc_s (a / 2 / 2 / 2), pc_s (a / 2 / 2 / 2 / 2), pc_s (a / 2 / 2 / 2 / 2 / 2), pc_s (a / 2 / 2 / 2 / 2 / 2 / 2), pc_s (a / 2 / 2 / 2 / 2 / 2 / 2 / 2), show a / 2 / 2 / 2 / 2 / 2 / 2 / 2 / 2 = 0 by omega, pc_0]
  omega
theorem an_sp (x m : Nat) : x &&& m = (x % 256 &&& m % 256) + 256 * (x / 256 &&& m / 256) := by
  have h1 : (x &&& m) % 256 = x % 256 &&& m % 256 := Nat.and_mod_two_pow (n := 8)
  have h2 : (x &&& m) / 256 = x / 256 &&& m / 256 := Nat.and_div_two_pow (n := 8)
  rw [← h1, ← h2]
  omega
/-- three bytes and a mask of three like bytes -/
theorem an_3 {x : Nat} (m : Nat) (hx : x < 2 ^ 24) {A B C k : Nat} (hk : m % 256 = k ∧ m / 256 % 256 = k ∧ m / 65536 % 256 = k) (h1 : x % 256 &&& k = A) (h2 : x / 256 % 256 &&& k = B) (h3 : x / 65536 &&& k = C) : x &&& m = A + 256 * B + 65536 * C := by
  rw [an_sp x m, an_sp (x / 256) (m / 256), an_sp (x / 256 / 256) (m / 256 / 256), show x / 256 / 256 / 256 = 0 by omega, Nat.zero_and, hk.1, hk.2.1, show m / 256 / 256 = m / 65536 by omega, hk.2.2, show x / 256 / 256 % 256 = x / 65536 by omega, h1, h2, h3]
  omega
theorem by_S {X Y Z : Nat} (hX : X % 16 ≤ 4 ∧ X / 16 ≤ 4) (hY : Y % 16 ≤ 4 ∧ Y / 16 ≤ 4) (hZ : Z % 16 ≤ 4 ∧ Z / 16 ≤ 4) : (X + 256 * Y + 65536 * Z + (X + 256 * Y + 65536 * Z) / 16) % 256 = X + X / 16 + 16 * (Y % 16) ∧ (X + 256 * Y + 65536 * Z + (X + 256 * Y + 65536 * Z) / 16) / 256 % 256 = Y + Y / 16 + 16 * (Z % 16) ∧ (X + 256 * Y + 65536 * Z + (X + 256 * Y + 65536 * Z) / 16) / 65536 = Z + Z / 16 ∧ X + 256 * Y + 65536 * Z + (X + 256 * Y + 65536 * Z) / 16 < 2 ^ 24 := by
  have e1 : (X + 256 * Y + 65536 * Z) / 16 = X / 16 + 16 * Y + 4096 * Z := by omega
  have e2 : X + 256 * Y + 65536 * Z + (X / 16 + 16 * Y + 4096 * Z) = (X + X / 16 + 16 * (Y % 16)) + 256 * (Y + Y / 16 + 16 * (Z % 16)) + 65536 * (Z + Z / 16) := by omega
  have b1 : X + X / 16 + 16 * (Y % 16) < 256 := by omega
  have b2 : Y + Y / 16 + 16 * (Z % 16) < 256 := by omega
  have b3 : Z + Z / 16 < 256 := by omega
  rw [e1, e2]
  generalize X + X / 16 + 16 * (Y % 16) = P at *
  generalize Y + Y / 16 + 16 * (Z % 16) = Q at *
  generalize Z + Z / 16 = R at *
  clear e2 e1
  refine ⟨by omega, by omega, by omega, by omega⟩
theorem by_T {p q r : Nat} (hp : p ≤ 8) (hq : q ≤ 8) (hr : r ≤ 8) : (p + 256 * q + 65536 * r + (p + 256 * q + 65536 * r) / 256 + (p + 256 * q + 65536 * r + (p + 256 * q + 65536 * r) / 256) / 65536) % 64 = p + q + r := by
  have d1 : (p + 256 * q + 65536 * r) / 256 = q + 256 * r := by omega
  rw [d1]
  have d2 : (p + 256 * q + 65536 * r + (q + 256 * r)) / 65536 = r := by omega
  rw [d2]
  omega
theorem usr_n {m i : Nat} (hm : m < 2 ^ 32) (hi : i < 32) : usr (nI m) (nI i) = nI (m / 2 ^ i) := pk_ushrN hm _ i (s_u i hi)
theorem e_bc {m : Nat} (hm : m < 2 ^ 24) (s : Sg) : fJ6_bitCount_0f7a4 (nI m) s = some (nI (pc m), s) := by
  obtain ⟨a, ha, b, hb, c, hc, rfl⟩ : ∃ a, a < 256 ∧ ∃ b, b < 256 ∧ ∃ c, c < 256 ∧ m = a + 256 * b + 65536 * c := ⟨m % 256, by omega, m / 256 % 256, by omega, m / 65536, by omega, by omega⟩
  have A1 := by_A a ha
  have B1 := by_A b hb
  have C1 := by_A c hc
  have s1 : (a + 256 * b + 65536 * c) / 2 &&& 1431655765 = (a / 2 &&& 85) + 256 * (b / 2 &&& 85) + 65536 * (c / 2 &&& 85) := by
    refine an_3 (k := 85) 1431655765 (by omega) (by decide) ?_ ?_ ?_
    · rw [show (a + 256 * b + 65536 * c) / 2 % 256 = a / 2 + 128 * (b % 2) by omega]
      exact by_55 a ha _ (by omega)
    · rw [show (a + 256 * b + 65536 * c) / 2 / 256 % 256 = b / 2 + 128 * (c % 2) by omega]
      exact by_55 b hb _ (by omega)
    · rw [show (a + 256 * b + 65536 * c) / 2 / 65536 = c / 2 by omega]
  generalize eA : a / 2 &&& 85 = x at A1 s1
  generalize eB : b / 2 &&& 85 = y at B1 s1
  generalize eC : c / 2 &&& 85 = z at C1 s1
  have A2 := by_B a ha
  have B2 := by_B b hb
  have C2 := by_B c hc
  have A3 := by_P a ha
  have B3 := by_P b hb
  have C3 := by_P c hc
  rw [eA] at A2 A3
  rw [eB] at B2 B3
  rw [eC] at C2 C3
  have s2 : (a + 256 * b + 65536 * c) - (x + 256 * y + 65536 * z) = (a - x) + 256 * (b - y) + 65536 * (c - z) := by omega
  have s3 : (a - x) + 256 * (b - y) + 65536 * (c - z) &&& 858993459 = (a - x &&& 51) + 256 * (b - y &&& 51) + 65536 * (c - z &&& 51) := by
    refine an_3 (k := 51) 858993459 (by omega) (by decide) ?_ ?_ ?_
    · rw [show ((a - x) + 256 * (b - y) + 65536 * (c - z)) % 256 = a - x by omega]
    · rw [show ((a - x) + 256 * (b - y) + 65536 * (c - z)) / 256 % 256 = b - y by omega]
    · rw [show ((a - x) + 256 * (b - y) + 65536 * (c - z)) / 65536 = c - z by omega]
  have s4 : ((a - x) + 256 * (b - y) + 65536 * (c - z)) / 4 &&& 858993459 = ((a - x) / 4 &&& 51) + 256 * ((b - y) / 4 &&& 51) + 65536 * ((c - z) / 4 &&& 51) := by
    refine an_3 (k := 51) 858993459 (by omega) (by decide) ?_ ?_ ?_
    · rw [show ((a - x) + 256 * (b - y) + 65536 * (c - z)) / 4 % 256 = (a - x) / 4 + 64 * ((b - y) % 4) by omega]
      exact by_33 _ (by omega) _ (by omega)
    · rw [show ((a - x) + 256 * (b - y) + 65536 * (c - z)) / 4 / 256 % 256 = (b - y) / 4 + 64 * ((c - z) % 4) by omega]
      exact by_33 _ (by omega) _ (by omega)
    · rw [show ((a - x) + 256 * (b - y) + 65536 * (c - z)) / 4 / 65536 = (c - z) / 4 by omega]
  generalize eA4 : (a - x &&& 51) = x1 at *
  generalize eB4 : (b - y &&& 51) = y1 at *
  generalize eC4 : (c - z &&& 51) = z1 at *
  generalize eA5 : ((a - x) / 4 &&& 51) = x2 at *
  generalize eB5 : ((b - y) / 4 &&& 51) = y2 at *
  generalize eC5 : ((c - z) / 4 &&& 51) = z2 at *
  have s5 : (x1 + 256 * y1 + 65536 * z1) + (x2 + 256 * y2 + 65536 * z2) = (x1 + x2) + 256 * (y1 + y2) + 65536 * (z1 + z2) := by omega
  have s6 : ((x1 + x2) + 256 * (y1 + y2) + 65536 * (z1 + z2)) + ((x1 + x2) + 256 * (y1 + y2) + 65536 * (z1 + z2)) / 16 &&& 252645135 = pc a + 256 * pc b + 65536 * pc c := by
    obtain ⟨w1, w2, w3, w4⟩ := by_S A2 B2 C2
    refine an_3 (k := 15) 252645135 w4 (by decide) ?_ ?_ ?_
    · rw [w1, by_C _ (by omega) _ (by omega)]
      exact A3
    · rw [w2, by_C _ (by omega) _ (by omega)]
      exact B3
    · rw [w3]
      exact C3
  have P1 := pc_le 8 a ha
  have P2 := pc_le 8 b hb
  have P3 := pc_le 8 c hc
  have hp : pc (a + 256 * b + 65536 * c) = pc a + pc b + pc c := by
    rw [show a + 256 * b + 65536 * c = 2 ^ 8 * (2 ^ 8 * c + b) + a by omega, pc_cut a _ 8 ha, pc_cut b c 8 hb]
    omega
  have u1 : usr (nI (a + 256 * b + 65536 * c)) 1 = nI ((a + 256 * b + 65536 * c) / 2) := usr_n (i := 1) (by omega) (by decide)
  have u2 : nI ((a + 256 * b + 65536 * c) / 2) &&& 1431655765 = nI (x + 256 * y + 65536 * z) := (nx_and _ 1431655765).trans (by rw [s1])
  have u3 : nI (a + 256 * b + 65536 * c) - nI (x + 256 * y + 65536 * z) = nI ((a - x) + 256 * (b - y) + 65536 * (c - z)) := by rw [pk_sub (by omega), s2]
  have u4 : nI ((a - x) + 256 * (b - y) + 65536 * (c - z)) &&& 858993459 = nI (x1 + 256 * y1 + 65536 * z1) := (nx_and _ 858993459).trans (by rw [s3])
  have u5 : usr (nI ((a - x) + 256 * (b - y) + 65536 * (c - z))) 2 = nI (((a - x) + 256 * (b - y) + 65536 * (c - z)) / 4) := usr_n (i := 2) (by omega) (by decide)
  have u6 : nI (((a - x) + 256 * (b - y) + 65536 * (c - z)) / 4) &&& 858993459 = nI (x2 + 256 * y2 + 65536 * z2) := (nx_and _ 858993459).trans (by rw [s4])
  have u7 : usr (nI ((x1 + x2) + 256 * (y1 + y2) + 65536 * (z1 + z2))) 4 = nI (((x1 + x2) + 256 * (y1 + y2) + 65536 * (z1 + z2)) / 16) := usr_n (i := 4) (by omega) (by decide)
  have u8 : nI (((x1 + x2) + 256 * (y1 + y2) + 65536 * (z1 + z2)) + ((x1 + x2) + 256 * (y1 + y2) + 65536 * (z1 + z2)) / 16) &&& 252645135 = nI (pc a + 256 * pc b + 65536 * pc c) := (nx_and _ 252645135).trans (by rw [s6])
  have u9 : usr (nI (pc a + 256 * pc b + 65536 * pc c)) 8 = nI ((pc a + 256 * pc b + 65536 * pc c) / 256) := usr_n (i := 8) (by omega) (by decide)
  have u10 : usr (nI (pc a + 256 * pc b + 65536 * pc c + (pc a + 256 * pc b + 65536 * pc c) / 256)) 16 = nI ((pc a + 256 * pc b + 65536 * pc c + (pc a + 256 * pc b + 65536 * pc c) / 256) / 65536) := usr_n (i := 16) (by omega) (by decide)
  have u11 : nI (pc a + 256 * pc b + 65536 * pc c + (pc a + 256 * pc b + 65536 * pc c) / 256 + (pc a + 256 * pc b + 65536 * pc c + (pc a + 256 * pc b + 65536 * pc c) / 256) / 65536) &&& 63 = nI (pc a + pc b + pc c) := (pk_andN (by omega) (m := 63) 6 (by decide)).trans (by rw [show (2 : Nat) ^ 6 = 64 from rfl, by_T P1 P2 P3])
  unfold fJ6_bitCount_0f7a4
  simp only [bnd_e]
  rw [u1, u2, u3, u4, u5, u6, nI_add, s5, u7, nI_add, u8, u9, nI_add, u10, nI_add, u11, hp]
