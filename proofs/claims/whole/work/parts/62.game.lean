/-! game -/
def nmL : List Nat := [0, 1, 0, 1, 2, 0, 1, 0, 1, 2, 0, 1, 0, 1, 2, 0, 1, 0, 1, 2, 0, 1, 0, 1, 2, 3, 2, 3, 4, 5, 3, 2, 3, 4, 0, 1, 2, 3, 2, 0, 1, 2, 3, 2, 0, 1, 2, 3, 2, 3, 4, 5, 0, 1, 3, 4, 5, 0, 1, 3, 4, 5, 0, 1, 3, 0, 1, 0, 1, 2, 4, 3, 0, 1, 5, 6, 2, 3, 4, 5, 6, 2, 3, 4, 5, 0, 1, 6, 3, 2, 4, 2, 6, 4, 5, 0, 1, 6, 4, 2]
def nm (i : Nat) : Nat := nmL.getD i 0
def snR (b : Nat) : Nat → Nat → Nat → Nat
  | 0, _, m => m
  | k + 1, r, m => if b < r * r then m else snR b k (r + 1) (m ||| 2 ^ nm (b - r * r))
def snN (b : Nat) : Nat := snR b 9 1 0
def ntz4 (x n : Int32) : Int32 := n + usr x 1
def ntz3 (x n : Int32) : Int32 := if x ≤ 4 then ntz4 x n else ntz4 (usr x 2) (n + 2)
def ntz2 (x n : Int32) : Int32 := if x ≤ 16 then ntz3 x n else ntz3 (usr x 4) (n + 4)
def ntz1 (x n : Int32) : Int32 := if x ≤ 256 then ntz2 x n else ntz2 (usr x 8) (n + 8)
def ntz (v : Int32) : Int32 := if 0 < (v ^^^ (-1)) &&& (v - 1) then (if (v ^^^ (-1)) &&& (v - 1) ≤ 65536 then ntz1 ((v ^^^ (-1)) &&& (v - 1)) 1 else ntz1 (usr ((v ^^^ (-1)) &&& (v - 1)) 16) (1 + 16)) else ((v ^^^ (-1)) &&& (v - 1)) &&& 32
theorem it_s {c : Prop} {hc : Decidable c} (x y : Int32) (s : Sg) : (@ite _ c hc (some (x, s)) (some (y, s))) = some (@ite _ c hc x y, s) := by
  split <;> rfl
theorem e_ntz (v : Int32) (s : Sg) : fJ6_numberOfTrailingZeros_0f7a4 v s = some (ntz v, s) := by
  unfold fJ6_numberOfTrailingZeros_0f7a4
  simp only [bnd_e, it_s]
  rfl
theorem nm_ok : ∀ b, b < 100 → ntz (nI (snN b) ^^^ (-1)) = nI (nm b) ∧ snN b < 128 ∧ nm b < 7 ∧ (snN b).testBit (nm b) = false ∧ ∀ x, x < nm b → (snN b).testBit x = true := by decide +kernel
theorem nm_ne : ∀ b, b < 100 → ∀ r, r < 10 → 1 ≤ r → r * r ≤ b → nm (b - r * r) ≠ nm b := by decide +kernel
theorem rr {r : Nat} (h : r ≤ 10) : r * r ≤ 100 := Nat.mul_le_mul h h
theorem rr2 {r b : Nat} (h : r * r ≤ b) (hb : b < 100) : r < 10 := Nat.lt_of_not_le fun q => by
  have : 10 * 10 ≤ r * r := Nat.mul_le_mul q q
  omega
theorem nm_lt (b : Nat) (h : b < 100) : nm b < 7 := (nm_ok b h).2.2.1
theorem p7 {x : Nat} (h : x < 7) : 2 ^ x < 128 := Nat.pow_lt_pow_right (m := x) (n := 7) (by decide) h
/-- the inner loop, of either side: the numbers that a take leads to -/
theorem nim_in {R : Type} (o : Nat) {s : Sg} {b : Nat} (hb : b < 100) (hs : ∀ j, j < b → s o j = nI (nm j)) {K : Int32 → Sg → Option R} {Q : R → Prop} (hK : W1 (K (nI (snN b)) s) Q) : W1 (lp FU (fun q12 (u12 : Int32 × Int32) (s2 : Sg) => if nI b < (u12.2 * u12.2) then K u12.1 s2 else (gd (nI b - (u12.2 * u12.2)) 100 (q12 (u12.1 ||| (1 <<< ((s2 o (ix (nI b - (u12.2 * u12.2)))) &&& 31)), (u12.2 + 1)) s2))) (0, 1) s) Q := by
  refine w1_lp (fun k v t => t = s ∧ ∃ r m, r + k = 10 ∧ 1 ≤ r ∧ v = (nI m, nI r) ∧ m < 128 ∧ snR b k r m = snN b) ?_ FU 9 _ _ (FU_lt (by omega)) ⟨rfl, 1, 0, by omega, by omega, rfl, by omega, rfl⟩
  rintro q k v t ⟨rfl, r, m, hr, h1, rfl, hm, hR⟩ hq
  have h3 := rr (r := r) (by omega)
  dsimp only
  rw [pk_mul, nI_1]
  refine w1_if (fun h => ?_) (fun h => ?_)
  · rw [nI_ltI (by omega) (by omega)] at h
    have : m = snN b := by
      rw [← hR]
      cases k with
      | zero => rfl
      | succ k => rw [snR, if_pos h]
    rw [this]
    exact hK
  · rw [nI_ltI (by omega) (by omega)] at h
    obtain ⟨k, rfl⟩ : ∃ x, k = x + 1 := by
      refine ⟨k - 1, ?_⟩
      have := rr2 (r := r) (b := b) (by omega) hb
      omega
    have hpos : 1 ≤ r * r := Nat.mul_le_mul h1 h1
    have hn := nm_lt (b - r * r) (by omega)
    rw [pk_sub (by omega), gd_n _ (show b - r * r < 100 by omega) (by decide), ix_n (by omega), hs _ (by omega), sh1 _ (by omega), nx_or]
    rw [snR, if_neg h] at hR
    exact hq k _ _ (by omega) ⟨rfl, r + 1, _, by omega, by omega, rfl, Nat.or_lt_two_pow (n := 7) hm (p7 hn), hR⟩
theorem nim_c (s : Sg) : W1 (fMu_fillNim s) (fun t => ∀ j, j < 100 → t 70 j = nI (nm j)) := by
  unfold fMu_fillNim
  simp only [bnd_e, e_ntz, bi_s]
  refine w1_lp (fun k v t => ∃ i, i + k = 100 ∧ v = nI i ∧ ∀ j, j < i → t 70 j = nI (nm j)) ?_ FU 100 _ _ (FU_lt (by omega)) ⟨0, by omega, rfl, fun j hj => by omega⟩
  rintro q k v t ⟨i, hi, rfl, ht⟩ hq
  refine w1_if (fun h => ?_) (fun h => ?_)
  · have h := (nI_ltI (a := 99) (b := i) (by decide) (by omega)).mp h
    exact w1_s (fun j hj => ht j (by omega))
  · have h : ¬ 99 < i := fun q => h ((nI_ltI (a := 99) (b := i) (by decide) (by omega)).mpr q)
    obtain ⟨n1, n2, n3, _⟩ := nm_ok i (by omega)
    refine nim_in 70 (b := i) (by omega) ht (K := fun u s2 => gd (nI i) 100 (q (nI i + 1) (pt s2 70 (ix (nI i)) (ntz (u ^^^ -1))))) ?_
    rw [gd_n _ (show i < 100 by omega) (by decide), nI_1, ix_n (by omega), n1]
    refine hq (k - 1) _ _ (by omega) ⟨i + 1, by omega, rfl, fun j hj => ?_⟩
    by_cases e : j = i
    · subst e; rw [pt_s]
    · rw [pt_k _ _ _ e]; exact ht j (by omega)
theorem nim_m (s : Sg) : W1 (fM_findsNimbers s) (fun t => ∀ j, j < 100 → t 140 j = nI (nm j)) := by
  unfold fM_findsNimbers
  simp only [bnd_e]
  refine w1_lp (fun k v t => ∃ i, i + k = 100 ∧ v = nI i ∧ ∀ j, j < i → t 140 j = nI (nm j)) ?_ FU 100 _ _ (FU_lt (by omega)) ⟨0, by omega, rfl, fun j hj => by omega⟩
  rintro q k v t ⟨i, hi, rfl, ht⟩ hq
  refine w1_if (fun h => ?_) (fun h => ?_)
  · have h := (nI_ltI (a := 99) (b := i) (by decide) (by omega)).mp h
    exact w1_s (fun j hj => ht j (by omega))
  · have h : ¬ 99 < i := fun q => h ((nI_ltI (a := 99) (b := i) (by decide) (by omega)).mpr q)
    obtain ⟨_, n2, n3, n4, n5⟩ := nm_ok i (by omega)
    refine nim_in 140 (b := i) (by omega) ht (K := fun u s2 => lp FU (fun q42 (u42 : Int32) (s3 : Sg) => bi (fM_has u u42 s3) fun r5 s4 => if r5 = 0 then (gd (nI i) 100 (q (nI i + 1) (pt s4 140 (ix (nI i)) u42))) else (q42 (u42 + 1) s4)) 0 s2) ?_
    refine w1_lp (fun k v u => u = t ∧ ∃ x, x + k = nm i ∧ v = nI x) ?_ FU (nm i) _ _ (FU_lt (by omega)) ⟨rfl, 0, by omega, rfl⟩
    rintro q2 k2 v u ⟨rfl, x, hx, rfl⟩ hq2
    rw [e_hasN (by omega) (by omega), bi_s, nI_1, nI_1]
    by_cases e : x = nm i
    · rw [e, n4, if_pos (show (if false = true then (1 : Int32) else 0) = 0 from rfl), gd_n _ (show i < 100 by omega) (by decide), ix_n (by omega)]
      refine hq (k - 1) _ _ (by omega) ⟨i + 1, by omega, rfl, fun j hj => ?_⟩
      by_cases e : j = i
      · subst e; rw [pt_s]
      · rw [pt_k _ _ _ e]; exact ht j (by omega)
    · rw [n5 x (by omega), if_pos rfl, if_neg n10z]
      exact hq2 (k2 - 1) _ _ (by omega) ⟨rfl, x + 1, by omega, rfl⟩
theorem e_nimOf {s : Sg} {x : Nat} (hs : ∀ j, j < 100 → s 70 j = nI (nm j)) (hx : x < 100) : fMu_nimOf (nI x) s = some (nI (nm x), s) := by
  unfold fMu_nimOf
  rw [e_within, bi_s, show wi (nI x) 0 99 = 1 by rw [show (0 : Int32) = nI 0 from rfl, show (99 : Int32) = nI 99 from rfl, wi_n (by omega) (by decide) (by decide), if_pos (by omega)], if_neg n10z, gd_n _ hx (by decide), ix_n (by omega), hs x hx]
theorem e_brM {s : Sg} {p : Nat} (hp : p < 10) : fM_breathOf (nI p) s = some (99 - s 103 (10 + p), s) := by
  unfold fM_breathOf
  rw [n10, gd50 _ (by omega), ix_n (by omega)]
theorem sim_game (v : Int32) : Sim (fH_game v) (fM_game v) := by
  refine sim_r (fun _ => rfl) (fr_H_game v) (fr_M_game v) (by decide) (by decide) (fun a b hI => ?_)
  have h0 : gSc (a 1) (a 2) (b 102 6) (b 103) (b 106) (b 107) (b 108) := hI 0
  obtain ⟨n, hn, k1, k2, _, _, hp⟩ := h0
  obtain ⟨br, hbr⟩ : ∃ br : Nat → Nat, ∀ p, p < n → a 2 (p * 8 + 3) = nI (br p) ∧ 99 - b 103 (10 + p) = nI (br p) ∧ br p < 100 := by
    refine ⟨fun p => ix (a 2 (p * 8 + 3)), fun p h => ?_⟩
    obtain ⟨_, _, _, r3, _, _, _, _, _, _, _, ⟨k, hk, ek⟩, _⟩ := hp p h
    dsimp only
    rw [r3, ek, show (99 : Int32) = nI 99 from rfl, pk_sub (by omega), ix_n (by omega)]
    exact ⟨rfl, rfl, by omega⟩
  unfold fH_game
  simp only [e_within, e_isIn, bi_s, bnd_e]
  by_cases h1 : wi v 0 1 = 0
  · simp only [if_pos h1]
    exact w2_s rfl
  simp only [if_neg h1]
  obtain ⟨z, _, hz, rfl⟩ := wi_1 (a := 0) (b := 1) (by decide) (by decide) h1
  have main : ∀ c : Int32, (c = 0 ↔ nI z = 0) → W2 (bi (fMu_openingMove 1 c a) fun r5 s4 => some (r5, s4)) (bv (fM_findsNimbers b) fun s4 => lp FU (fun q25 (u25 : Int32 × Int32) (s5 : Sg) => if (s5 102 6) ≤ u25.2 then (lp FU (fun q54 (u54 : Int32) (s6 : Sg) => if (s6 102 6) ≤ u54 then (some ((-1), s6)) else (bi (fM_breathOf u54 s6) fun r8 s7 => gd r8 100 (lp FU (fun q83 (u83 : Int32) (s10 : Sg) => if r8 < (u83 * u83) then (q54 (u54 + 1) s10) else (gd (r8 - (u83 * u83)) 100 (if (s10 140 (ix (r8 - (u83 * u83)))) = u25.1 ^^^ (s7 140 (ix r8)) then (if nI z = 0 then (some (u54, s10)) else (some ((u83 * u83), s10))) else (q83 (u83 + 1) s10)))) 1 s7))) 0 s5) else (bi (fM_breathOf u25.2 s5) fun r12 s11 => gd r12 100 (q25 (u25.1 ^^^ (s11 140 (ix r12)), (u25.2 + 1)) s11))) (0, 0) s4) (fun x y => x.1 = y.1) := by
    intro c hcz
    unfold fMu_openingMove
    refine w2_bil ?_
    obtain ⟨s1, es, hs⟩ := nim_c a
    obtain ⟨t1, et, ht⟩ := nim_m b
    have fs : ∀ o k, o ≠ 70 → s1 o k = a o k := fun o k h => fr_Mu_fillNim a s1 es o k (by simpa using h) (by simp)
    have ft : ∀ o k, o ≠ 140 → t1 o k = b o k := fun o k h => fr_M_findsNimbers b t1 et o k (by simpa using h) (by simp)
    have q1 : s1 1 1 = nI n := by rw [fs 1 1 (by decide)]; exact k2
    have q2 : ∀ p, p < n → fSc_tell 1 (nI p) 3 s1 = some (nI (br p), s1) := fun p h => by
      rw [e_St3 1 (by omega), hz1, fs 2 _ (by decide), (hbr p h).1]
    have q3 : t1 102 6 = nI n := by rw [ft 102 6 (by decide)]; exact k1
    have q4 : ∀ p, p < n → fM_breathOf (nI p) t1 = some (nI (br p), t1) := fun p h => by
      rw [e_brM (by omega), ft 103 _ (by decide), (hbr p h).2.1]
    rw [es, bv_s, et, bv_s]
    have key : W2 (lp FU (fun q9 (u9 : Int32 × Int32) (s2 : Sg) => if (s2 1 1) ≤ u9.2 then (lp FU (fun q41 (u41 : Int32) (s3 : Sg) => if (s3 1 1) ≤ u41 then (some ((-1), s3)) else (if u9.1 = 0 then (some ((-1), s3)) else (bi (fSc_tell 1 u41 3 s3) fun r5 s4 => lp FU (fun q66 (u66 : Int32) (s6 : Sg) => if r5 < (u66 * u66) then (q41 (u41 + 1) s6) else (bi (fMu_nimOf (r5 - (u66 * u66)) s6) fun r8 s7 => bi (fMu_nimOf r5 s7) fun r10 s9 => if r8 = (u9.1 ^^^ r10) then (if c = 0 then (some (u41, s9)) else (some ((u66 * u66), s9))) else (q66 (u66 + 1) s9))) 1 s4))) 0 s2) else (bi (fSc_tell 1 u9.2 3 s2) fun r12 s11 => bi (fMu_nimOf r12 s11) fun r14 s13 => q9 ((u9.1 ^^^ r14), (u9.2 + 1)) s13)) (0, 0) s1) (lp FU (fun q25 (u25 : Int32 × Int32) (s5 : Sg) => if (s5 102 6) ≤ u25.2 then (lp FU (fun q54 (u54 : Int32) (s6 : Sg) => if (s6 102 6) ≤ u54 then (some ((-1), s6)) else (bi (fM_breathOf u54 s6) fun r8 s7 => gd r8 100 (lp FU (fun q83 (u83 : Int32) (s10 : Sg) => if r8 < (u83 * u83) then (q54 (u54 + 1) s10) else (gd (r8 - (u83 * u83)) 100 (if (s10 140 (ix (r8 - (u83 * u83)))) = u25.1 ^^^ (s7 140 (ix r8)) then (if nI z = 0 then (some (u54, s10)) else (some ((u83 * u83), s10))) else (q83 (u83 + 1) s10)))) 1 s7))) 0 s5) else (bi (fM_breathOf u25.2 s5) fun r12 s11 => gd r12 100 (q25 (u25.1 ^^^ (s11 140 (ix r12)), (u25.2 + 1)) s11))) (0, 0) t1) (fun x y => x.1 = y.1) := by
      refine w2_lp (fun j v s w t => s = s1 ∧ t = t1 ∧ ∃ i x, i + j = n ∧ v = (nI x, nI i) ∧ w = (nI x, nI i) ∧ x < 8) ?_ FU FU n _ _ _ _ (FU_lt (by omega)) (FU_lt (by omega)) ⟨rfl, rfl, 0, 0, by omega, rfl, rfl, by omega⟩
      rintro p q j v s w t ⟨rfl, rfl, i, x, hi, rfl, rfl, hx⟩ hq
      dsimp only
      rw [q1, q3]
      refine w2_if Iff.rfl (fun h => ?_) (fun h => ?_)
      · by_cases hx0 : x = 0
        · subst hx0
          refine w2_1 ?_
          have e1 : lp FU (fun q41 (u41 : Int32) (s3 : Sg) => if (s3 1 1) ≤ u41 then (some ((-1 : Int32), s3)) else (if nI 0 = 0 then (some ((-1), s3)) else (bi (fSc_tell 1 u41 3 s3) fun r5 s4 => lp FU (fun q66 (u66 : Int32) (s6 : Sg) => if r5 < (u66 * u66) then (q41 (u41 + 1) s6) else (bi (fMu_nimOf (r5 - (u66 * u66)) s6) fun r8 s7 => bi (fMu_nimOf r5 s7) fun r10 s9 => if r8 = (nI 0 ^^^ r10) then (if c = 0 then (some (u41, s9)) else (some ((u66 * u66), s9))) else (q66 (u66 + 1) s9))) 1 s4))) 0 s = some (-1, s) := by
            rw [show FU = 4999 + 1 from rfl, lp_s, if_pos (show nI 0 = 0 from rfl), ite_self]
          refine w1_q e1 ?_
          refine w1_lp (fun k v u => u = t ∧ ∃ i, i + k = n ∧ v = nI i) ?_ FU n _ _ (FU_lt (by omega)) ⟨rfl, 0, by omega, rfl⟩
          rintro q5 k5 v5 u5 ⟨rfl, i5, hi5, rfl⟩ hq5
          dsimp only
          rw [q3]
          refine w1_if (fun _ => w1_s rfl) (fun h => ?_)
          rw [nI_leI (by omega) (by omega)] at h
          have hb5 := (hbr i5 (by omega)).2.2
          rw [q4 i5 (by omega), bi_s, gd_n _ hb5 (by decide), ix_n (by omega), ht _ hb5, nx_xor, Nat.zero_xor]
          refine w1_lp (fun k v u => u = u5 ∧ ∃ r, r + k = 10 ∧ 1 ≤ r ∧ v = nI r) ?_ FU 9 _ _ (FU_lt (by omega)) ⟨rfl, 1, by omega, by omega, rfl⟩
          rintro q6 k6 v6 u6 ⟨rfl, r, hr, hr1, rfl⟩ hq6
          have h3 := rr (r := r) (by omega)
          rw [pk_mul, nI_1, nI_1]
          refine w1_if (fun _ => hq5 (k5 - 1) _ _ (by omega) ⟨rfl, i5 + 1, by omega, rfl⟩) (fun h => ?_)
          rw [nI_ltI (by omega) (by omega)] at h
          have h10 := rr2 (r := r) (b := br i5) (by omega) hb5
          rw [pk_sub (by omega), gd_n _ (show br i5 - r * r < 100 by omega) (by decide), ix_n (by omega), ht _ (by omega)]
          refine w1_if (fun e => ?_) (fun _ => hq6 (k6 - 1) _ _ (by omega) ⟨rfl, r + 1, by omega, by omega, rfl⟩)
          have l1 := nm_lt (br i5 - r * r) (by omega)
          have l2 := nm_lt (br i5) (by omega)
          exact absurd (nI_inj (by omega) (by omega) e) (nm_ne _ hb5 r h10 hr1 (by omega))
        · refine w2_lp (fun j v s' w t' => s' = s ∧ t' = t ∧ ∃ i, i + j = n ∧ v = nI i ∧ w = nI i) ?_ FU FU n _ _ _ _ (FU_lt (by omega)) (FU_lt (by omega)) ⟨rfl, rfl, 0, by omega, rfl, rfl⟩
          rintro p5 q5 k5 v5 s5 w5 t5 ⟨rfl, rfl, i5, hi5, rfl, rfl⟩ hq5
          rw [q1, q3]
          refine w2_if Iff.rfl (fun _ => w2_s rfl) (fun h => ?_)
          rw [nI_leI (by omega) (by omega)] at h
          have hb5 := (hbr i5 (by omega)).2.2
          rw [if_neg (show ¬ nI x = 0 from nI_ne0 (by omega) (by omega)), q2 i5 (by omega), bi_s, q4 i5 (by omega), bi_s, gd_n _ hb5 (by decide), ix_n (by omega), ht _ hb5]
          refine w2_lp (fun j v s' w t' => s' = s5 ∧ t' = t5 ∧ ∃ r, r + j = 10 ∧ 1 ≤ r ∧ v = nI r ∧ w = nI r) ?_ FU FU 9 _ _ _ _ (FU_lt (by omega)) (FU_lt (by omega)) ⟨rfl, rfl, 1, by omega, by omega, rfl, rfl⟩
          rintro p6 q6 k6 v6 s6 w6 t6 ⟨rfl, rfl, r, hr, hr1, rfl, rfl⟩ hq6
          have h3 := rr (r := r) (by omega)
          rw [pk_mul, nI_1, nI_1]
          refine w2_if Iff.rfl (fun _ => hq5 (k5 - 1) _ _ _ _ (by omega) ⟨rfl, rfl, i5 + 1, by omega, rfl, rfl⟩) (fun h => ?_)
          rw [nI_ltI (by omega) (by omega)] at h
          have h10 := rr2 (r := r) (b := br i5) (by omega) hb5
          rw [pk_sub (by omega), e_nimOf hs (show br i5 - r * r < 100 by omega), bi_s, e_nimOf hs hb5, bi_s, gd_n _ (show br i5 - r * r < 100 by omega) (by decide), ix_n (by omega), ht _ (by omega)]
          refine w2_if Iff.rfl (fun e => ?_) (fun _ => hq6 (k6 - 1) _ _ _ _ (by omega) ⟨rfl, rfl, r + 1, by omega, by omega, rfl, rfl⟩)
          exact w2_if hcz (fun _ => w2_s rfl) (fun _ => w2_s rfl)
      · rw [nI_leI (by omega) (by omega)] at h
        have hb5 := (hbr i (by omega)).2.2
        have l2 := nm_lt (br i) hb5
        rw [q2 i (by omega), bi_s, q4 i (by omega), bi_s, e_nimOf hs hb5, bi_s, gd_n _ hb5 (by decide), ix_n (by omega), ht _ hb5, nx_xor, nI_1]
        exact hq (j - 1) _ _ _ _ (by omega) ⟨rfl, rfl, i + 1, _, by omega, rfl, rfl, Nat.xor_lt_two_pow (n := 3) hx (by omega)⟩
    obtain ⟨x, y, z1, z2, z3⟩ := key
    exact ⟨x, z1, w2_q rfl z2 z3⟩
  by_cases g : nI z = 1
  · rw [if_pos g]
    exact main 1 ⟨fun h => absurd h (by decide), fun h => absurd (g.symm.trans h) (by decide)⟩
  · rw [if_neg g]
    refine main 0 ⟨fun _ => ?_, fun _ => rfl⟩
    have : z = 0 ∨ z = 1 := by omega
    rcases this with rfl | rfl
    · rfl
    · exact absurd rfl g
