/-! what a name in the law means -/
def cUp (m : Nat → Int32) (n : Nat) : Nat := sm (fun q => if m (20 + q) = 99 then 1 else 0) 0 n
def oUp (m : Nat → Int32) (p n : Nat) : Nat := sm (fun q => if q = p then 0 else if m (20 + q) = 99 then 1 else 0) 0 n
def mx0 (x : Int32) : Int32 := if 0 < x then x else 0
def envN (m vo le pa : Nat → Int32) (n p : Nat) : Nat → Int32
  | 0 => vo p
  | 1 => le p
  | 2 => pa p
  | 3 => 99 - m (10 + p)
  | 4 => m (20 + p)
  | 5 => mx0 (m (30 + p) - 1)
  | 6 => mx0 (m 4 + 40 - m 3)
  | 7 => nI (oUp m p n)
  | _ => m 0
theorem cUp_le (m : Nat → Int32) (n : Nat) : cUp m n ≤ n := by
  have := sm_le (f := fun q => if m (20 + q) = 99 then 1 else 0) (g := fun _ => 1) n 0 (fun i _ _ => by split <;> omega)
  rw [sm_cst] at this
  exact this
theorem cUp_o {m : Nat → Int32} {n p : Nat} (hp : p < n) : cUp m n = oUp m p n + if m (20 + p) = 99 then 1 else 0 := by
  unfold cUp oUp
  by_cases h : m (20 + p) = 99
  · rw [if_pos h]
    have e : sm (fun q => if m (20 + q) = 99 then 1 else 0) 0 n = sm (fun q => (if q = p then 0 else if m (20 + q) = 99 then 1 else 0) + (if q = p then 1 else 0)) 0 n := sm_eq n 0 (fun i _ _ => by
      by_cases e : i = p
      · subst e; rw [if_pos h, if_pos rfl, if_pos rfl]
      · rw [if_neg e, if_neg e, Nat.add_zero])
    rw [e, sm_ad, sm_at, if_pos (by omega)]
  · rw [if_neg h, Nat.add_zero]
    exact sm_eq n 0 (fun i _ _ => by
      by_cases e : i = p
      · subst e; rw [if_neg h, if_pos rfl]
      · rw [if_neg e])
theorem e_many {o n : Nat} {s : Sg} {m vo le pa : Nat → Int32} (hn : n ≤ 10) (h1 : s o 1 = nI n) (hp : ∀ p, p < n → gPe (s (hz_rf o 0)) m (vo p) (le p) (pa p) p) : fSc_manyUp o s = some (nI (cUp m n), s) := by
  unfold fSc_manyUp
  simp only [bnd_x]
  refine w1_e (w1_lp (fun k u t => t = s ∧ ∃ i c, i + k = n ∧ u = (nI c, nI (8 * i + 4)) ∧ c + sm (fun q => if m (20 + q) = 99 then 1 else 0) i k = cUp m n) ?_ FU n _ _ (FU_lt (by omega)) ⟨rfl, 0, 0, by omega, rfl, by rw [Nat.zero_add]; rfl⟩)
  rintro q k u t ⟨rfl, i, c, hi, rfl, hR⟩ hq
  dsimp only
  rw [h1, show nI n * 8 = nI (n * 8) from pk_mul n 8]
  refine w1_if (fun g => ?_) (fun g => ?_)
  · rw [nI_leI (by omega) (by omega)] at g
    rw [show k = 0 by omega, sm, Nat.add_zero] at hR
    rw [← hR]
    exact w1_s rfl
  · rw [nI_leI (by omega) (by omega)] at g
    obtain ⟨k, rfl⟩ : ∃ y, k = y + 1 := ⟨k - 1, by omega⟩
    rw [sm] at hR
    obtain ⟨_, _, _, _, r4, _, _, _, _, _, _, _, c4, _⟩ := hp i (by omega)
    rw [if_neg (show ¬ nI 80 ≤ nI (8 * i + 4) from nI_ge (by omega) (by decide)), gd_n _ (show 8 * i + 4 < 80 by omega) (by decide), ix_n (by omega), show 8 * i + 4 = i * 8 + 4 by omega, r4, show nI (i * 8 + 4) + 8 = nI (8 * (i + 1) + 4) from by rw [show (8 : Int32) = nI 8 from rfl, nI_add]; congr 1; omega, nI_1]
    refine w1_if (fun g2 => ?_) (fun g2 => ?_)
    · rw [if_neg ((lt99 c4).mp g2)] at hR
      exact hq k _ _ (by omega) ⟨rfl, i + 1, c, by omega, rfl, by omega⟩
    · have g2 : m (20 + i) = 99 := Classical.byContradiction fun q => g2 ((lt99 c4).mpr q)
      rw [if_pos g2] at hR
      exact hq k _ _ (by omega) ⟨rfl, i + 1, c + 1, by omega, rfl, by omega⟩
theorem e_mean {o n p j : Nat} {s : Sg} {m vo le pa : Nat → Int32} (h : gSc (s o) (s (hz_rf o 0)) (nI n) m vo le pa) (hn : n ≤ 10) (hp : p < n) (hj : j < 9) : fSc_meaning o (nI j) (nI p) s = some (envN m vo le pa n p j, s) := by
  obtain ⟨n', hn', k1, k2, ⟨f2, f4, f5, f6, f7, f8, f9, f10, f11, f12⟩, hb, hpe⟩ := h
  have e := nI_inj (by omega) (by omega) k1
  subst e
  obtain ⟨r0, r1, r2, r3, r4, r5, r6, r7, c0, c1, c2, c3, c4, c5⟩ := hpe p hp
  have hp10 : p < 10 := by omega
  unfold fSc_meaning
  have z : j = 0 ∨ j = 1 ∨ j = 2 ∨ j = 3 ∨ j = 4 ∨ j = 5 ∨ j = 6 ∨ j = 7 ∨ j = 8 := by omega
  have nn : ∀ x y : Nat, x ≠ y → x < 100 → y < 100 → ¬ nI x = nI y := fun x y h hx hy => nI_ne y h (by omega) (by omega)
  rcases z with rfl | rfl | rfl | rfl | rfl | rfl | rfl | rfl | rfl
  · rw [if_neg (by decide), if_neg (by decide), if_neg (by decide), if_neg (by decide), show fSc_tell o (nI p) (nI 0) s = _ from e_Stell o hp10 (show 0 < 8 by decide) s, bi_s, show p * 8 + 0 = p * 8 from rfl, r0]
    rfl
  · rw [if_neg (by decide), if_neg (by decide), if_neg (by decide), if_neg (by decide), show fSc_tell o (nI p) (nI 1) s = _ from e_Stell o hp10 (show 1 < 8 by decide) s, bi_s, r1]
    rfl
  · rw [if_neg (by decide), if_neg (by decide), if_neg (by decide), if_neg (by decide), show fSc_tell o (nI p) (nI 2) s = _ from e_Stell o hp10 (show 2 < 8 by decide) s, bi_s, r2]
    rfl
  · rw [if_neg (by decide), if_neg (by decide), if_neg (by decide), if_neg (by decide), show fSc_tell o (nI p) (nI 3) s = _ from e_Stell o hp10 (show 3 < 8 by decide) s, bi_s, r3]
    rfl
  · rw [if_neg (by decide), if_neg (by decide), if_neg (by decide), if_neg (by decide), show fSc_tell o (nI p) (nI 4) s = _ from e_Stell o hp10 (show 4 < 8 by decide) s, bi_s, r4]
    rfl
  · rw [if_pos (by decide), e_St6 o hp10, bi_s, e_max, bi_s, r6]
    rfl
  · rw [if_neg (by decide), if_pos (by decide), e_max, bi_s, f8, f9]
    rfl
  · rw [if_neg (by decide), if_neg (by decide), if_pos (by decide), e_St4 o hp10, bi_s, r4, e_many hn k2 hpe, bi_s, bi_s]
    have hu := cUp_o (m := m) hp
    by_cases g : m (20 + p) = 99
    · rw [if_neg (fun q => (lt99 c4).mp q g)]
      rw [if_pos g] at hu
      rw [hu, nI_pred]
      rfl
    · rw [if_pos ((lt99 c4).mpr g)]
      rw [if_neg g] at hu
      rw [hu]
      rfl
  · rw [if_neg (by decide), if_neg (by decide), if_neg (by decide), if_pos (by decide), f10]
    rfl
theorem e_oth {b : Sg} {n p : Nat} (hn : n ≤ 10) (e : b 102 6 = nI n) : fM_othersUp (nI p) b = some (nI (oUp (b 103) p n), b) ∨ 10 ≤ p := by
  by_cases hp : p < 10
  · refine Or.inl ?_
    unfold fM_othersUp
    simp only [bnd_x]
    refine w1_e (w1_lp (fun k u t => t = b ∧ ∃ i c, i + k = n ∧ u = (nI c, nI i) ∧ c + sm (fun q => if q = p then 0 else if b 103 (20 + q) = 99 then 1 else 0) i k = oUp (b 103) p n) ?_ FU n _ _ (FU_lt (by omega)) ⟨rfl, 0, 0, by omega, rfl, by rw [Nat.zero_add]; rfl⟩)
    rintro q k u t ⟨rfl, i, c, hi, rfl, hR⟩ hq
    dsimp only
    rw [e]
    refine w1_if (fun g => ?_) (fun g => ?_)
    · rw [nI_leI (by omega) (by omega)] at g
      rw [show k = 0 by omega, sm, Nat.add_zero] at hR
      rw [← hR]
      exact w1_s rfl
    · rw [nI_leI (by omega) (by omega)] at g
      obtain ⟨k, rfl⟩ : ∃ y, k = y + 1 := ⟨k - 1, by omega⟩
      rw [sm] at hR
      rw [e_isUpM (by omega), bi_s, nI_1, nI_1]
      refine w1_if (fun g2 => ?_) (fun g2 => ?_)
      · have g2 := nI_inj (by omega) (by omega) g2
        rw [if_pos g2] at hR
        exact hq k _ _ (by omega) ⟨rfl, i + 1, c, by omega, rfl, by omega⟩
      · have g2 : ¬ i = p := fun q => g2 (by rw [q])
        rw [if_neg g2] at hR
        by_cases g3 : t 103 (20 + i) = 99
        · rw [if_pos g3, if_neg n10z]
          rw [if_pos g3] at hR
          exact hq k _ _ (by omega) ⟨rfl, i + 1, c + 1, by omega, rfl, by omega⟩
        · rw [if_neg g3, if_pos rfl]
          rw [if_neg g3] at hR
          exact hq k _ _ (by omega) ⟨rfl, i + 1, c, by omega, rfl, by omega⟩
  · exact Or.inr (by omega)
def AsP (b : Sg) (n p k : Nat) (t : Sg) : Prop := (∀ o, o ≠ 123 → t o = b o) ∧ ∀ j, j < k → t 123 j = envN (b 103) (b 106) (b 107) (b 108) n p j
theorem as_s {b : Sg} {n p k : Nat} {t : Sg} {v : Int32} (h : AsP b n p k t) (e : v = envN (b 103) (b 106) (b 107) (b 108) n p k) : AsP b n p (k + 1) (pt t 123 k v) := by
  refine ⟨fun o ho => by rw [ptq _ _ _ ho]; exact h.1 o ho, fun j hj => ?_⟩
  by_cases q : j = k
  · subst q; rw [pt_s]; exact e
  · rw [pt_k _ _ _ q]; exact h.2 j (by omega)
theorem e_asks {b : Sg} {n p : Nat} (hn : n ≤ 10) (e : b 102 6 = nI n) (hp : p < n) : W1 (fM_asks (nI p) b) (AsP b n p 9) := by
  have g10 : ∀ {R : Type} (f : Option R), gd (nI p) 10 f = f := fun f => gd_n f (by omega) (by decide)
  have G0 : ∀ {R : Type} (f : Option R), gd (0 : Int32) 9 f = f := fun f => gdl _ (by decide)
  have G1 : ∀ {R : Type} (f : Option R), gd (1 : Int32) 9 f = f := fun f => gdl _ (by decide)
  have G2 : ∀ {R : Type} (f : Option R), gd (2 : Int32) 9 f = f := fun f => gdl _ (by decide)
  have G3 : ∀ {R : Type} (f : Option R), gd (3 : Int32) 9 f = f := fun f => gdl _ (by decide)
  have G4 : ∀ {R : Type} (f : Option R), gd (4 : Int32) 9 f = f := fun f => gdl _ (by decide)
  have G5 : ∀ {R : Type} (f : Option R), gd (5 : Int32) 9 f = f := fun f => gdl _ (by decide)
  have G6 : ∀ {R : Type} (f : Option R), gd (6 : Int32) 9 f = f := fun f => gdl _ (by decide)
  have G7 : ∀ {R : Type} (f : Option R), gd (7 : Int32) 9 f = f := fun f => gdl _ (by decide)
  have G8 : ∀ {R : Type} (f : Option R), gd (8 : Int32) 9 f = f := fun f => gdl _ (by decide)
  unfold fM_asks
  simp only [g10, G0, G1, G2, G3, G4, G5, G6, G7, G8, ix_n (show p < 2 ^ 31 by omega), n20, n30, gd50 _ (show 20 + p < 50 by omega), gd50 _ (show 30 + p < 50 by omega), ix_n (show 20 + p < 2 ^ 31 by omega), ix_n (show 30 + p < 2 ^ 31 by omega), gc0, gc3, ic0, ic1, ic2, ic3, ic4, ic5, ic6, ic7, ic8]
  have A0 : AsP b n p 0 b := ⟨fun _ _ => rfl, fun j hj => by omega⟩
  rw [bnd_e]
  have A1 := as_s (v := b 106 p) A0 rfl
  generalize pt b 123 0 (b 106 p) = t1 at A1 ⊢
  rw [bnd_e]
  have A2 := as_s (v := t1 107 p) A1 (by rw [A1.1 107 (by decide)]; rfl)
  generalize pt t1 123 1 (t1 107 p) = t2 at A2 ⊢
  rw [bnd_e]
  have A3 := as_s (v := t2 108 p) A2 (by rw [A2.1 108 (by decide)]; rfl)
  generalize pt t2 123 2 (t2 108 p) = t3 at A3 ⊢
  rw [e_brM (by omega), bi_s, bnd_e]
  have A4 := as_s (v := 99 - t3 103 (10 + p)) A3 (by rw [A3.1 103 (by decide)]; rfl)
  generalize pt t3 123 3 (99 - t3 103 (10 + p)) = t4 at A4 ⊢
  rw [bnd_e]
  have A5 := as_s (v := t4 103 (20 + p)) A4 (by rw [A4.1 103 (by decide)]; rfl)
  generalize pt t4 123 4 (t4 103 (20 + p)) = t5 at A5 ⊢
  rw [e_gr, bi_s, bnd_e]
  have A6 := as_s (v := if 0 < t5 103 (30 + p) - 1 then t5 103 (30 + p) - 1 else 0) A5 (by rw [A5.1 103 (by decide)]; rfl)
  generalize pt t5 123 5 (if 0 < t5 103 (30 + p) - 1 then t5 103 (30 + p) - 1 else 0) = t6 at A6 ⊢
  rw [show fM_sunset t6 = some (t6 103 4 + 40, t6) from by unfold fM_sunset; rw [gc4, ic4], bi_s, e_gr, bi_s, bnd_e]
  have A7 := as_s (v := if 0 < t6 103 4 + 40 - t6 103 3 then t6 103 4 + 40 - t6 103 3 else 0) A6 (by rw [A6.1 103 (by decide)]; rfl)
  generalize pt t6 123 6 (if 0 < t6 103 4 + 40 - t6 103 3 then t6 103 4 + 40 - t6 103 3 else 0) = t7 at A7 ⊢
  have eo : fM_othersUp (nI p) t7 = some (nI (oUp (b 103) p n), t7) := by
    rcases e_oth (b := t7) (p := p) hn (by rw [A7.1 102 (by decide)]; exact e) with h | h
    · rw [h, A7.1 103 (by decide)]
    · omega
  rw [eo, bi_s, bnd_e]
  have A8 := as_s (v := nI (oUp (b 103) p n)) A7 rfl
  generalize pt t7 123 7 (nI (oUp (b 103) p n)) = t8 at A8 ⊢
  rw [bnd_e]
  exact w1_s (as_s A8 (by rw [A8.1 103 (by decide)]; rfl))
