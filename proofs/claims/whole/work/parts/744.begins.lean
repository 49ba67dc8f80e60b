/-! the beginning of a minute -/
section BEG
variable {a0 b0 a b : Sg} {o n : Nat}
theorem w2_bvk {R S T : Type} {f : Option Sg} {g : Option S} {k : Sg → Option R} {Z : R → S → Prop} (h : W2 f g (fun x y => W1 (k x) (fun z => Z z y))) : W2 (bv f k) g Z := by
  obtain ⟨x, y, e1, e2, z, e3, hz⟩ := h
  exact ⟨z, y, by rw [e1]; exact e3, e2, hz⟩
/-- each of those who climb by the text is let go -/
theorem pi_lets (hB : BF a0 b0 o n) (h : PI a0 b0 o n a b) : W2 (fSu_letClimbersGo o a) (lp FU (fun q62 (u62 : Int32) (s3 : Sg) => if (4 * (s3 102 34)) ≤ u62 then (some s3) else (gd u62 128 (gd 0 50 (bnd (fun (s4 : Sg) => q62 (u62 + 4) s4) fun j145 => if (s3 120 (ix u62)) = (s3 103 (ix 0)) then (gd (u62 + 3) 128 (gd 3 50 (if (s3 120 (ix (u62 + 3))) = (s3 103 (ix 3)) then (gd (u62 + 1) 128 (bi (fM_isGoing (s3 120 (ix (u62 + 1))) s3) fun r6 s5 => if r6 = 0 then (gd (u62 + 1) 128 (gd (u62 + 2) 128 (gd (30 + (s5 120 (ix (u62 + 1)))) 50 (bnd (pt s5 103 (ix (30 + (s5 120 (ix (u62 + 1))))) ((s5 120 (ix (u62 + 2))) + 1)) fun s7 => j145 s7)))) else (j145 s5))) else (j145 s3)))) else (j145 s3))))) 0 b) (PI a0 b0 o n) := by
  have hB' := hB
  have ho := hB.1
  have hn := hB.2.1
  obtain ⟨_, _, e6, _, hK, ⟨N, N', hN, hN', e25, e34, e6', hrow⟩, _⟩ := hB
  have hNn : N' = n := nI_inj (by omega) (by omega) (e6'.symm.trans e6)
  subst hNn
  obtain ⟨_, ⟨t0, t1⟩, _⟩ := hK
  unfold fSu_letClimbersGo
  refine w2_lp (fun k u s u' t => PI a0 b0 o N' s t ∧ ∃ i, i + k = N ∧ u = nI i ∧ u' = nI (i * 4)) ?_ FU FU N _ _ _ _ (FU_lt (by omega)) (FU_lt (by omega)) ⟨h, 0, by omega, rfl, rfl⟩
  rintro q q' k u s u' t ⟨hP, i, hi, rfl, rfl⟩ hq
  have s25 : s 25 = a0 25 := hP.1 25 (by omega) (by omega) (by omega) (by omega) (by omega)
  have s26 : s 26 = a0 26 := hP.1 26 (by omega) (by omega) (by omega) (by omega) (by omega)
  have t102 : t 102 = b0 102 := hP.2.2.1 102 (by decide) (by decide) (by decide) (by decide)
  have t120 : t 120 = b0 120 := hP.2.2.1 120 (by decide) (by decide) (by decide) (by decide)
  rw [s25, e25, t102, e34, show 4 * nI N = nI (4 * N) from pk_mul 4 N]
  refine w2_if (by rw [nI_leI (by omega) (by omega), nI_leI (by omega) (by omega)]; omega) (fun _ => w2_s hP) (fun c => ?_)
  rw [nI_leI (by omega) (by omega)] at c
  obtain ⟨r1, ⟨w, hw, ew⟩, ⟨x, hx, ex⟩⟩ := hrow i (by omega)
  have T : ∀ j, j < 4 → fTa_tell 25 (nI i) (nI j) s = some (b0 120 (i * 4 + j), s) := fun j hj => by
    have := e_tell (s := s) (t := 25) (i := i) (j := j) (w := 4) (l := 16) (by rw [s25]; exact t0) (by rw [s25]; exact t1) (by decide) (by decide) (show i < 16 by omega) hj (by decide) (by decide)
    rw [show hz_rf 25 2 = 26 from rfl, s26, r1 j hj] at this
    exact this
  have G : ∀ {R : Type} (f : Option R) (j : Nat), j < 4 → gd (nI (i * 4 + j)) 128 f = f := fun f j hj => gd_n f (by omega) (by decide)
  have hw10 : w < 10 := by omega
  have T0 : fTa_tell 25 (nI i) 0 s = some (b0 120 (i * 4 + 0), s) := T 0 (by decide)
  have T1 : fTa_tell 25 (nI i) 1 s = some (nI w, s) := by rw [← ew]; exact T 1 (by decide)
  have T2 : fTa_tell 25 (nI i) 2 s = some (nI x, s) := by rw [← ex]; exact T 2 (by decide)
  have T3 : fTa_tell 25 (nI i) 3 s = some (b0 120 (i * 4 + 3), s) := T 3 (by decide)
  obtain ⟨e1, ⟨⟨f2, f4, f5, f6, f7, f8, f9, f10, f11, f12⟩, hb⟩⟩ := pi_sf hB' hP
  have hpe := pi_pe hB' hP hw
  obtain ⟨g, hg, eg⟩ := hpe.2.2.2.2.2.2.2.2.2.2.2.2.2
  have e1' : nI (i * 4) + 1 = nI (i * 4 + 1) := nI_add _ 1
  have e2' : nI (i * 4) + 2 = nI (i * 4 + 2) := nI_add _ 2
  have e3' : nI (i * 4) + 3 = nI (i * 4 + 3) := nI_add _ 3
  have e4' : nI (i * 4) + 4 = nI ((i + 1) * 4) := by rw [show (4 : Int32) = nI 4 from rfl, nI_add]; congr 1; omega
  have nx : ∀ s' t', PI a0 b0 o N' s' t' → W2 (q (nI (i + 1)) s') (q' (nI ((i + 1) * 4)) t') (PI a0 b0 o N') := fun s' t' hs => hq (k - 1) _ _ _ _ (by omega) ⟨hs, i + 1, by omega, rfl, rfl⟩
  simp only [T0, T1, T3, bi_x, bnd_x, e1', e2', e3', e4', nI_1, if_true, n10z, if_false, gc0, gc3, ic0, ic3, gd_n _ (show i * 4 < 128 by omega) (show 128 < 2 ^ 31 by decide), G _ 1 (by decide), G _ 2 (by decide), G _ 3 (by decide), ix_n (show i * 4 < 2 ^ 31 by omega), ix_n (show i * 4 + 1 < 2 ^ 31 by omega), ix_n (show i * 4 + 2 < 2 ^ 31 by omega), ix_n (show i * 4 + 3 < 2 ^ 31 by omega), t120, f10, f9, Nat.add_zero]
  refine w2_if Iff.rfl (fun _ => ?_) (fun _ => nx s t hP)
  refine w2_if Iff.rfl (fun _ => ?_) (fun _ => nx s t hP)
  rw [e_St5 o hw10, bi_s, ro_o ho, hpe.2.2.2.2.2.1, ew]
  unfold fM_isGoing
  rw [n30, gd50 _ (by omega), ix_n (by omega), eg]
  by_cases c2 : g = 0
  · subst c2
    rw [if_pos (show (if nI 0 = 0 then (0 : Int32) else 1) = 0 from rfl), if_pos (by decide), gb_0, bi_s, if_pos rfl, T2, bi_s, t120, ew, ex, n30, gd50 _ (by omega), ix_n (by omega), nI_1]
    unfold fSc_letGo
    rw [e_Sp5 o hw10, bv_s, e_Sp6 o hw10, bv_s, bv_s, ro_o ho]
    refine nx _ _ (pi_p hB' hP w hw (fun q j hq => by rw [ptf _ _ _ _ _ _ (by omega), ptf _ _ _ _ _ _ (by omega)]) (fun q j hq => ptf _ _ _ _ _ _ (by omega)) (fun gp => ?_))
    obtain ⟨r0, r1, r2, r3, r4, r5, r6, r7, g0, g1, g2, g3, g4, g5⟩ := gp
    have A : ∀ k, k ≠ w * 8 + 5 → k ≠ w * 8 + 6 → pt (pt s (o + 1) (w * 8 + 5) 1) (o + 1) (w * 8 + 6) (nI x) (o + 1) k = s (o + 1) k := fun k h1 h2 => by rw [pt_k _ _ _ h2, pt_k _ _ _ h1]
    unfold gPe
    rw [A _ (show w * 8 ≠ w * 8 + 5 by omega) (by omega), A _ (show w * 8 + 1 ≠ w * 8 + 5 by omega) (by omega), A _ (show w * 8 + 2 ≠ w * 8 + 5 by omega) (by omega), A _ (show w * 8 + 3 ≠ w * 8 + 5 by omega) (by omega), A _ (show w * 8 + 4 ≠ w * 8 + 5 by omega) (by omega), A _ (show w * 8 + 7 ≠ w * 8 + 5 by omega) (by omega), pt_s, pt_k _ _ _ (show w * 8 + 5 ≠ w * 8 + 6 by omega), pt_s, pt_s, pt_k _ _ _ (show 10 + w ≠ 30 + w by omega), pt_k _ _ _ (show 20 + w ≠ 30 + w by omega), pt_k _ _ _ (show 40 + w ≠ 30 + w by omega), if_neg (nI_ne0 (show 0 < x + 1 by omega) (by omega)), nI_pred]
    exact ⟨r0, r1, r2, r3, r4, rfl, rfl, r7, g0, g1, g2, g3, g4, ⟨x + 1, by omega, rfl⟩⟩
  · rw [if_neg (show ¬ (if nI g = 0 then (0 : Int32) else 1) = 0 by rw [if_neg (nI_ne0 (by omega) (by omega))]; decide), if_neg (nI_nle (by omega) (by omega)), gb_1, bi_s, if_neg n10z]
    exact nx s t hP
/-- the sunset by the text, then those who climb by the text -/
theorem pi_beg (hB : BF a0 b0 o n) (h : PI a0 b0 o n a b) : W2 (if a o 9 = 0 then bv (fSu_putSunset o a) (fun s16 => fSu_letClimbersGo o s16) else fSu_letClimbersGo o a) (fM_begins b) (PI a0 b0 o n) := by
  have hB' := hB
  have ho := hB.1
  have hn := hB.2.1
  obtain ⟨_, _, e6, _, hK, _, ⟨N, hN, e27, e36, hrow⟩⟩ := hB
  obtain ⟨_, _, ⟨t0, t1⟩, _⟩ := hK
  have e9 : a o 9 = b 103 3 := (pi_sf hB' h).2.1.2.2.2.2.2.2.1
  unfold fM_begins
  by_cases c0 : b 103 3 = 0
  · rw [e9, if_pos c0]
    refine w2_bvk (T := Nat) ?_
    unfold fSu_putSunset
    refine w2_lp (fun k u s u' t => PI a0 b0 o n s t ∧ t 103 3 = 0 ∧ ∃ i, i + k = N ∧ u = nI i ∧ u' = nI (i * 2)) ?_ FU FU N _ _ _ _ (FU_lt (by omega)) (FU_lt (by omega)) ⟨h, c0, 0, by omega, rfl, rfl⟩
    rintro q q' k u s u' t ⟨hP, ht3, i, hi, rfl, rfl⟩ hq
    have s27 : s 27 = a0 27 := hP.1 27 (by omega) (by omega) (by omega) (by omega) (by omega)
    have s28 : s 28 = a0 28 := hP.1 28 (by omega) (by omega) (by omega) (by omega) (by omega)
    have t102 : t 102 = b0 102 := hP.2.2.1 102 (by decide) (by decide) (by decide) (by decide)
    have t121 : t 121 = b0 121 := hP.2.2.1 121 (by decide) (by decide) (by decide) (by decide)
    have lets := pi_lets hB' hP
    refine w2_jr (fun J => W2 (fSu_letClimbersGo o s) (J t) (PI a0 b0 o n)) lets ?_
    intro J hJ
    rw [s27, e27, t102, e36, show 2 * nI N = nI (2 * N) from pk_mul 2 N]
    refine w2_if (by rw [nI_leI (by omega) (by omega), nI_leI (by omega) (by omega)]; omega) (fun _ => ?_) (fun c => ?_)
    · obtain ⟨x, y, z1, z2, z3⟩ := hJ
      exact w2_q rfl z2 (w1_q z1 z3)
    rw [nI_leI (by omega) (by omega)] at c
    obtain ⟨r0, r1, m, hm1, hm2, em⟩ := hrow i (by omega)
    have T0 : fTa_tell 27 (nI i) 0 s = some (b0 121 (i * 2), s) := by
      have := e_tell (s := s) (t := 27) (i := i) (j := 0) (w := 2) (l := 16) (by rw [s27]; exact t0) (by rw [s27]; exact t1) (by decide) (by decide) (show i < 16 by omega) (by decide) (by decide) (by decide)
      rw [show hz_rf 27 2 = 28 from rfl, s28, show i * 2 + 0 = i * 2 from rfl, r0] at this
      exact this
    have T1 : fTa_tell 27 (nI i) 1 s = some (nI m, s) := by
      have := e_tell (s := s) (t := 27) (i := i) (j := 1) (w := 2) (l := 16) (by rw [s27]; exact t0) (by rw [s27]; exact t1) (by decide) (by decide) (show i < 16 by omega) (by decide) (by decide) (by decide)
      rw [show hz_rf 27 2 = 28 from rfl, s28, r1, em] at this
      exact this
    obtain ⟨e1, ⟨⟨f2, f4, f5, f6, f7, f8, f9, f10, f11, f12⟩, ⟨b1, b2, b3, b4, b5, b6, b7⟩⟩⟩ := pi_sf hB' hP
    have e1' : nI (i * 2) + 1 = nI (i * 2 + 1) := nI_add _ 1
    have e2' : nI (i * 2) + 2 = nI ((i + 1) * 2) := by rw [show (2 : Int32) = nI 2 from rfl, nI_add]; congr 1; omega
    simp only [T0, T1, bi_x, bnd_x, gc0, gc3, gc4, ic0, ic3, ic4, if_pos ht3, e1', e2', nI_1, gd_n _ (show i * 2 < 64 by omega) (show 64 < 2 ^ 31 by decide), gd_n _ (show i * 2 + 1 < 64 by omega) (show 64 < 2 ^ 31 by decide), ix_n (show i * 2 < 2 ^ 31 by omega), ix_n (show i * 2 + 1 < 2 ^ 31 by omega), t121, em, f10]
    refine w2_if Iff.rfl (fun _ => ?_) (fun _ => hq (k - 1) _ _ _ _ (by omega) ⟨hP, ht3, i + 1, by omega, rfl, rfl⟩)
    refine hq (k - 1) _ _ _ _ (by omega) ⟨pi_f hB' hP (fun q k hq => ptf _ _ _ _ _ _ (by omega)) (fun q k hq => ptf _ _ _ _ _ _ (by omega)) (fun _ => ?_), by rw [pt_k _ _ _ (by decide)]; exact ht3, i + 1, by omega, rfl, rfl⟩
    have A : ∀ k, k ≠ 8 → pt s o 8 (nI m) o k = s o k := fun k h1 => pt_k _ _ _ h1
    have B : ∀ k, k ≠ 4 → pt t 103 4 (nI m - 40) 103 k = t 103 k := fun k h1 => pt_k _ _ _ h1
    unfold gSf
    rw [A 2 (by decide), A 4 (by decide), A 5 (by decide), A 6 (by decide), A 7 (by decide), A 11 (by decide), A 9 (by decide), A 10 (by decide), A 12 (by decide), pt_s, pt_s, B 5 (by decide), B 6 (by decide), B 7 (by decide), B 8 (by decide), B 9 (by decide), B 1 (by decide), B 3 (by decide), B 0 (by decide), B 2 (by decide), Int32.sub_add_cancel]
    exact ⟨⟨f2, f4, f5, f6, f7, rfl, f9, f10, f11, f12⟩, b1, b2, b3, b4, ⟨m, hm1, hm2, rfl⟩, b6, b7⟩
  · rw [e9, if_neg c0, show FU = 4999 + 1 from rfl, lp_s]
    refine w2_jr (fun J => W2 (fSu_letClimbersGo o a) (J b) (PI a0 b0 o n)) (pi_lets hB' h) ?_
    intro J hJ
    rw [gc3, ic3, if_neg c0, ite_self]
    exact hJ
end BEG
