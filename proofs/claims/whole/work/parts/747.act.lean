/-! deeds by hand -/
theorem pk_pi1 : ∀ i, i < 20 → (i = 0 ∨ i = 13 ∨ ∀ o ∈ rC i, o ≠ 1 ∧ o ≠ 2 ∧ o ≠ 24 ∧ o ≠ 63 ∧ o ≠ 64) := by decide
theorem pk_pi2 : ∀ i, i < 20 → (i = 0 ∨ i = 13 ∨ ∀ x ∈ rF i, x.1 ≠ 1 ∧ x.1 ≠ 2 ∧ x.1 ≠ 24 ∧ x.1 ≠ 64 ∧ (x.1 ≠ 63 ∨ x = (63, 0) ∨ x = (63, 1))) := by decide
theorem pk_pi3 : ∀ i, i < 20 → (i = 0 ∨ i = 13 ∨ ∀ o ∈ rM i, o ≠ 103 ∧ o ≠ 109 ∧ o ≠ 123 ∧ o ≠ 124) := by decide
theorem pk_pi4 : ∀ i, i < 20 → (i = 0 ∨ i = 13 ∨ ∀ x ∈ rG i, x.1 ≠ 103 ∧ x.1 ≠ 109 ∧ x.1 ≠ 123 ∧ x.1 ≠ 124) := by decide
theorem inv_pi {a b a' b' : Sg} {n : Nat} (hI : Inv a b) (hB : BF a b 1 n) (h : PI a b 1 n a' b') : Inv a' b' := by
  intro i
  by_cases hi : i < 20
  · by_cases i0 : i = 0
    · subst i0
      show gSc _ _ _ _ _ _ _
      rw [h.2.2.1 102 (by decide) (by decide) (by decide) (by decide), h.2.2.1 106 (by decide) (by decide) (by decide) (by decide), h.2.2.1 107 (by decide) (by decide) (by decide) (by decide), h.2.2.1 108 (by decide) (by decide) (by decide) (by decide), hB.2.2.1]
      exact h.2.2.2.1
    · by_cases i13 : i = 13
      · subst i13
        exact h.2.2.2.2
      · have p1 := ((pk_pi1 i hi).resolve_left i0).resolve_left i13
        have p2 := ((pk_pi2 i hi).resolve_left i0).resolve_left i13
        have p3 := ((pk_pi3 i hi).resolve_left i0).resolve_left i13
        have p4 := ((pk_pi4 i hi).resolve_left i0).resolve_left i13
        refine Grp_keep i (hI i) (fun o ho => h.1 o (p1 o ho).1 (p1 o ho).2.1 (p1 o ho).2.2.1 (p1 o ho).2.2.2.1 (p1 o ho).2.2.2.2) (fun x hx => ?_) (fun o ho => h.2.2.1 o (p3 o ho).1 (p3 o ho).2.1 (p3 o ho).2.2.1 (p3 o ho).2.2.2) (fun x hx => by rw [h.2.2.1 x.1 (p4 x hx).1 (p4 x hx).2.1 (p4 x hx).2.2.1 (p4 x hx).2.2.2])
        obtain ⟨q1, q2, q3, q4, q5⟩ := p2 x hx
        rcases q5 with q5 | q5 | q5
        · rw [h.1 x.1 q1 q2 q3 q5 q4]
        · subst q5; exact h.2.1.1
        · subst q5; exact h.2.1.2
  · exact Grp_big i (by omega)
section GO
variable {a0 b0 a b : Sg} {o n : Nat}
theorem pi_go (hB : BF a0 b0 o n) (h : PI a0 b0 o n a b) {w x : Nat} (hw : w < n) (hx : x ≤ 19) : PI a0 b0 o n (pt (pt a (o + 1) (w * 8 + 5) 1) (o + 1) (w * 8 + 6) (nI x)) (pt b 103 (30 + w) (nI (x + 1))) := by
  refine pi_p hB h w hw (fun q j hq => by rw [ptf _ _ _ _ _ _ (by omega), ptf _ _ _ _ _ _ (by omega)]) (fun q j hq => ptf _ _ _ _ _ _ (by omega)) (fun gp => ?_)
  obtain ⟨r0, r1, r2, r3, r4, r5, r6, r7, g0, g1, g2, g3, g4, g5⟩ := gp
  have A : ∀ k, k ≠ w * 8 + 5 → k ≠ w * 8 + 6 → pt (pt a (o + 1) (w * 8 + 5) 1) (o + 1) (w * 8 + 6) (nI x) (o + 1) k = a (o + 1) k := fun k h1 h2 => by rw [pt_k _ _ _ h2, pt_k _ _ _ h1]
  unfold gPe
  rw [A _ (show w * 8 ≠ w * 8 + 5 by omega) (by omega), A _ (show w * 8 + 1 ≠ w * 8 + 5 by omega) (by omega), A _ (show w * 8 + 2 ≠ w * 8 + 5 by omega) (by omega), A _ (show w * 8 + 3 ≠ w * 8 + 5 by omega) (by omega), A _ (show w * 8 + 4 ≠ w * 8 + 5 by omega) (by omega), A _ (show w * 8 + 7 ≠ w * 8 + 5 by omega) (by omega), pt_s, pt_k _ _ _ (show w * 8 + 5 ≠ w * 8 + 6 by omega), pt_s, pt_s, pt_k _ _ _ (show 10 + w ≠ 30 + w by omega), pt_k _ _ _ (show 20 + w ≠ 30 + w by omega), pt_k _ _ _ (show 40 + w ≠ 30 + w by omega), if_neg (nI_ne0 (show 0 < x + 1 by omega) (by omega)), nI_pred]
  exact ⟨r0, r1, r2, r3, r4, rfl, rfl, r7, g0, g1, g2, g3, g4, ⟨x + 1, by omega, rfl⟩⟩
theorem pi_call (hB : BF a0 b0 o n) (h : PI a0 b0 o n a b) {p : Nat} (hp : p < n) : PI a0 b0 o n (pt (pt (pt a (o + 1) (p * 8 + 4) 0) (o + 1) (p * 8 + 5) 0) (o + 1) (p * 8 + 6) (-1)) (pt (pt b 103 (30 + p) 0) 103 (20 + p) 0) := by
  refine pi_p hB h p hp (fun q j hq => by rw [ptf _ _ _ _ _ _ (by omega), ptf _ _ _ _ _ _ (by omega), ptf _ _ _ _ _ _ (by omega)]) (fun q j hq => by rw [ptf _ _ _ _ _ _ (by omega), ptf _ _ _ _ _ _ (by omega)]) (fun gp => ?_)
  obtain ⟨r0, r1, r2, r3, r4, r5, r6, r7, g0, g1, g2, g3, g4, g5⟩ := gp
  have A : ∀ k, k ≠ p * 8 + 4 → k ≠ p * 8 + 5 → k ≠ p * 8 + 6 → pt (pt (pt a (o + 1) (p * 8 + 4) 0) (o + 1) (p * 8 + 5) 0) (o + 1) (p * 8 + 6) (-1) (o + 1) k = a (o + 1) k := fun k h1 h2 h3 => by rw [pt_k _ _ _ h3, pt_k _ _ _ h2, pt_k _ _ _ h1]
  unfold gPe
  rw [A _ (show p * 8 ≠ p * 8 + 4 by omega) (by omega) (by omega), A _ (show p * 8 + 1 ≠ p * 8 + 4 by omega) (by omega) (by omega), A _ (show p * 8 + 2 ≠ p * 8 + 4 by omega) (by omega) (by omega), A _ (show p * 8 + 3 ≠ p * 8 + 4 by omega) (by omega) (by omega), A _ (show p * 8 + 7 ≠ p * 8 + 4 by omega) (by omega) (by omega), pt_s, pt_k _ _ _ (show p * 8 + 4 ≠ p * 8 + 6 by omega), pt_k _ _ _ (show p * 8 + 4 ≠ p * 8 + 5 by omega), pt_s, pt_k _ _ _ (show p * 8 + 5 ≠ p * 8 + 6 by omega), pt_s, pt_s, pt_k _ _ _ (show 30 + p ≠ 20 + p by omega), pt_s, pt_k _ _ _ (show 10 + p ≠ 20 + p by omega), pt_k _ _ _ (show 10 + p ≠ 30 + p by omega), pt_k _ _ _ (show 40 + p ≠ 20 + p by omega), pt_k _ _ _ (show 40 + p ≠ 30 + p by omega)]
  exact ⟨r0, r1, r2, r3, rfl, rfl, rfl, r7, g0, g1, g2, g3, ⟨0, by omega, rfl⟩, ⟨0, by omega, rfl⟩⟩
end GO
theorem sim_i {fh fm : Sg → Option (Int32 × Sg)} {F : Sg → Option (Int32 × Sg)} (hF : ∀ s, fm s = bnd (pt s 102 0 0) F) (h : ∀ a b, Inv a b → W2 (fh a) (F b) (fun x y => x.1 = y.1 ∧ Inv x.2 y.2)) : Sim fh fm := by
  intro a b hI
  obtain ⟨⟨r, s⟩, ⟨r', t⟩, e1, e2, e3, e4⟩ := h a _ (Inv_told hI)
  dsimp only at e3 e4
  subst e3
  exact ⟨r, s, t, e1, by rw [hF]; exact e2, e4⟩
theorem e_goM {s : Sg} {p : Nat} (hp : p < 10) (h : bd (s 103 (30 + p)) 20) : fM_isGoing (nI p) s = some (if s 103 (30 + p) = 0 then 0 else 1, s) := by
  obtain ⟨g, hg, eg⟩ := h
  unfold fM_isGoing
  rw [n30, gd50 _ (by omega), ix_n (by omega), eg]
  by_cases c : g = 0
  · subst c; rfl
  · rw [if_neg (nI_nle (by omega) (by omega)), if_neg (nI_ne0 (by omega) (by omega))]; rfl
theorem z01 : ¬ ((0 : Int32) = 1) := by decide
theorem z02 : ¬ ((0 : Int32) = 2) := by decide
theorem z12 : ¬ ((1 : Int32) = 2) := by decide
theorem z20 : ¬ ((2 : Int32) = 0) := by decide
theorem z21 : ¬ ((2 : Int32) = 1) := by decide
theorem e_sun (s : Sg) : fM_sunset s = some (s 103 4 + 40, s) := by unfold fM_sunset; rw [gc4, ic4]
theorem sim_act (u v w : Int32) : Sim (fH_act u v w) (fM_act u v w) := by
  refine sim_i (fun _ => rfl) (fun a b hI => ?_)
  obtain ⟨n, hB, hP, h5⟩ := inv_bf hI
  have hn := hB.2.1
  obtain ⟨e1, ⟨⟨f2, f4, f5, f6, f7, f8, f9, f10, f11, f12⟩, hb⟩⟩ := pi_sf hB hP
  have k1 := hB.2.2.1
  unfold fH_act fM_canAct
  by_cases c0 : hsI v (nI n) = 0
  · simp only [e_has, e_isPerson, e1, k1, bi_x, if_pos c0, gb_0, if_true]
    exact w2_s ⟨rfl, hI⟩
  obtain ⟨p, hp, rfl⟩ := hs_1 (by omega) c0
  have hp10 : p < 10 := by omega
  have hpe := pi_pe hB hP hp
  have c4 := hpe.2.2.2.2.2.2.2.2.2.2.2.2.1
  have c5 := hpe.2.2.2.2.2.2.2.2.2.2.2.2.2
  obtain ⟨a', b', ka, kb, hI2⟩ := sim_keep hI
  obtain ⟨n2, hB2, hP2, h52⟩ := inv_bf hI2
  have hnn : n2 = n := by
    have q1 := fr_Pa_keep 1 a a' ka 1 1 (by decide) (by decide)
    have q2 := (pi_sf hB2 hP2).1
    have hn2 := hB2.2.1
    exact nI_inj (by omega) (by omega) (q2.symm.trans (q1.trans e1))
  subst hnn
  by_cases u0 : u = 0
  · subst u0
    by_cases g1 : wi w 0 19 = 0
    · simp only [e_has, e_isPerson, e1, k1, bi_x, if_neg c0, e_St5 1 hp10, bnd_x, e_isWord, e_isIn, if_pos g1, z01, z02, if_false, if_true, gb_0, ite_self]
      exact w2_s ⟨rfl, hI⟩
    obtain ⟨x, _, hx, rfl⟩ := wi_1 (a := 0) (b := 19) (by decide) (by decide) g1
    by_cases g2 : b 103 (20 + p) = 99
    · have g2' : ¬ a 2 (p * 8 + 4) < 99 := by rw [show a 2 (p * 8 + 4) = b 103 (20 + p) from hpe.2.2.2.2.1]; exact fun q => (lt99 c4).mp q g2
      have up : fSc_isUp 1 (nI p) a = some (1, a) := by rw [e_isUpC 1 hp10, hz1, if_neg g2']
      by_cases g3 : b 103 4 + 40 < b 103 3
      · simp only [e_has, e_isPerson, e1, k1, bi_x, if_neg c0, e_St5 1 hp10, bnd_x, e_isWord, e_isIn, if_neg g1, up, e_isUpM hp10, if_pos g2, n10z, f8, f9, if_pos g3, gc3, ic3, e_sun, z01, z02, if_false, if_true, gb_0, ite_self]
        exact w2_s ⟨rfl, hI⟩
      · simp only [e_has, e_isPerson, e1, k1, bi_x, if_neg c0, e_St5 1 hp10, bnd_x, e_isWord, e_isIn, if_neg g1, up, e_isUpM hp10, if_pos g2, n10z, f8, f9, if_neg g3, gc3, ic3, e_sun, z01, z02, if_false, if_true, gb_1, ite_self]
        obtain ⟨a3, b3, q1, q2, q3, q4, q5⟩ := pi_say hB2 hP2 (p := p) (x := x) hp hx
        obtain ⟨a4, b4, r1, r2, r3⟩ := pi_note hB2 h52 q3 1 (nI p) (nI x)
        rw [ka, bv_s, kb, bv_s, q1, bv_s, r1, bv_s, q2 1, r2, bv_s, bv_s]
        exact w2_s ⟨rfl, inv_pi hI2 hB2 r3⟩
    · have g2' : a 2 (p * 8 + 4) < 99 := by rw [show a 2 (p * 8 + 4) = b 103 (20 + p) from hpe.2.2.2.2.1]; exact (lt99 c4).mpr g2
      have up : fSc_isUp 1 (nI p) a = some (0, a) := by rw [e_isUpC 1 hp10, hz1, if_pos g2']
      simp only [e_has, e_isPerson, e1, k1, bi_x, if_neg c0, e_St5 1 hp10, bnd_x, e_isWord, e_isIn, if_neg g1, up, e_isUpM hp10, if_neg g2, n10z, z01, z02, if_false, if_true, gb_0, ite_self]
      exact w2_s ⟨rfl, hI⟩
  by_cases u1 : u = 1
  · subst u1
    by_cases g1 : wi w 0 19 = 0
    · simp only [e_has, e_isPerson, e1, k1, bi_x, if_neg c0, e_St5 1 hp10, bnd_x, e_isWord, e_isIn, if_pos g1, n10z, z12, if_false, if_true, gb_0, ite_self]
      exact w2_s ⟨rfl, hI⟩
    obtain ⟨x, _, hx, rfl⟩ := wi_1 (a := 0) (b := 19) (by decide) (by decide) g1
    by_cases g2 : b 103 (30 + p) = 0
    · have g2' : a 2 (p * 8 + 5) = 0 := by rw [show a 2 (p * 8 + 5) = _ from hpe.2.2.2.2.2.1, if_pos g2]
      simp only [e_has, e_isPerson, e1, k1, bi_x, if_neg c0, e_St5 1 hp10, hz1, g2', bnd_x, e_isWord, e_isIn, if_neg g1, e_goM hp10 c5, if_pos g2, n10z, z01, z12, if_false, if_true, gb_1]
      unfold fSc_letGo
      rw [ka, bv_s, kb, bv_s, e_Sp5 1 hp10, bv_s, e_Sp6 1 hp10, bv_s, bv_s, n30, gd50 _ (by omega), ix_n (by omega), nI_1]
      exact w2_s ⟨rfl, inv_pi hI2 hB2 (pi_go hB2 hP2 hp hx)⟩
    · have g2' : a 2 (p * 8 + 5) = 1 := by rw [show a 2 (p * 8 + 5) = _ from hpe.2.2.2.2.2.1, if_neg g2]
      simp only [e_has, e_isPerson, e1, k1, bi_x, if_neg c0, e_St5 1 hp10, hz1, g2', bnd_x, e_isWord, e_isIn, if_neg g1, e_goM hp10 c5, if_neg g2, n10z, z01, z12, if_false, if_true, gb_0]
      exact w2_s ⟨rfl, hI⟩
  by_cases u2 : u = 2
  · subst u2
    by_cases g2 : b 103 (30 + p) = 0
    · have g2' : a 2 (p * 8 + 5) = 0 := by rw [show a 2 (p * 8 + 5) = _ from hpe.2.2.2.2.2.1, if_pos g2]
      simp only [e_has, e_isPerson, e1, k1, bi_x, if_neg c0, e_St5 1 hp10, hz1, g2', bnd_x, e_goM hp10 c5, if_pos g2, z01, z20, z21, if_false, if_true, gb_0]
      exact w2_s ⟨rfl, hI⟩
    · have g2' : a 2 (p * 8 + 5) = 1 := by rw [show a 2 (p * 8 + 5) = _ from hpe.2.2.2.2.2.1, if_neg g2]
      simp only [e_has, e_isPerson, e1, k1, bi_x, if_neg c0, e_St5 1 hp10, hz1, g2', bnd_x, e_goM hp10 c5, if_neg g2, n10z, z20, z21, if_false, if_true, gb_1]
      unfold fSc_sendHome
      rw [ka, bv_s, kb, bv_s, e_Sp4 1 hp10, bv_s, e_Sp5 1 hp10, bv_s, e_Sp6 1 hp10, bv_s, bv_s, n30, gd50 _ (by omega), ix_n (by omega), n20, gd50 _ (by omega), ix_n (by omega)]
      exact w2_s ⟨rfl, inv_pi hI2 hB2 (pi_call hB2 hP2 hp)⟩
  · simp only [e_has, e_isPerson, e1, k1, bi_x, if_neg c0, e_St5 1 hp10, bnd_x, if_neg u0, if_neg u1, if_neg u2, if_true, gb_0, ite_self]
    exact w2_s ⟨rfl, hI⟩
theorem sim_ask (v : Int32) : Sim (fH_ask v) (fM_ask v) := by
  refine sim_i (fun _ => rfl) (fun a b hI => ?_)
  unfold fH_ask
  simp only [e_isQuestion, e_isIn, bi_x]
  by_cases c0 : wi v 0 9 = 0
  · rw [if_pos c0, if_pos c0]
    exact w2_s ⟨rfl, hI⟩
  rw [if_neg c0, if_neg c0]
  obtain ⟨q, _, hq, rfl⟩ := wi_1 (a := 0) (b := 9) (by decide) (by decide) c0
  obtain ⟨a', b', ka, kb, hI2⟩ := sim_keep hI
  obtain ⟨n, hB, hP, h5⟩ := inv_bf hI2
  have hn := hB.2.1
  obtain ⟨S, hS, hM, hSB, h20⟩ := st_S hI2
  obtain ⟨e1, ⟨⟨f2, f4, f5, f6, f7, f8, f9, f10, f11, f12⟩, ⟨⟨m, hm, em⟩, b2, b3, b4, b5, b6, b7⟩⟩⟩ := pi_sf hB hP
  rw [ka, bv_s, kb, bv_s, gc5, ic5, f2, em]
  -- the answer
  have suit : ∃ r : Int32, (r = 0 ∨ r = 1) ∧ fTe_suits 19 (nI m - 1) (nI q) a' = some (r, a') ∧ ∀ (J55 : Int32 → Sg → Option (Int32 × Sg)), (if nI m - 1 = -1 then J55 0 b' else gd (nI m - 1) 40 (bi (fM_has (b' 122 (ix (nI m - 1))) (nI q) b') fun r13 s12 => if r13 = 0 then J55 0 s12 else J55 1 s12)) = J55 r b' := by
    cases m with
    | zero =>
      refine ⟨0, Or.inl rfl, ?_, fun J => by rw [if_pos (by decide)]⟩
      unfold fTe_suits fTe_answered
      rw [e_isQuestion, bi_s, show wi (nI q) 0 9 = 1 from w_in (a := 0) (b := 9) (by omega) (by omega) (by decide), if_neg n10z, if_pos (by decide), bi_s, show ((0 : Int32) >>> (nI q &&& 31)) &&& 1 = if (0 : Nat).testBit q then 1 else 0 from bt_n (m := 0) (by decide) (by omega), Nat.zero_testBit, if_neg (by decide)]
      rfl
    | succ m =>
      have := hSB m
      rw [nI_pred]
      refine ⟨if (S m).testBit q = true then 1 else 0, ?_, e_suits hS hSB h20 (by omega) hq, fun J => ?_⟩
      · split
        · exact Or.inr rfl
        · exact Or.inl rfl
      · rw [if_neg (nI_m1 (by omega)), gd_n _ (show m < 40 by omega) (by decide), ix_n (by omega), hM m (by omega), e_hasN (by omega) (by omega), bi_s]
        by_cases c : (S m).testBit q = true
        · rw [if_pos c, if_neg n10z]
        · rw [if_neg c, if_pos rfl]
  obtain ⟨r, hr, es, eJ⟩ := suit
  rw [es, bi_s]
  have P1 : PI a' b' 1 n (pt a' 1 6 (b' 103 8 + 1)) (pt b' 103 8 (b' 103 8 + 1)) := by
    refine pi_f hB hP (fun q k hq => ptf _ _ _ _ _ _ (by omega)) (fun q k hq => ptf _ _ _ _ _ _ (by omega)) (fun _ => ?_)
    have A : ∀ k, k ≠ 6 → pt a' 1 6 (b' 103 8 + 1) 1 k = a' 1 k := fun k h1 => pt_k _ _ _ h1
    have B : ∀ k, k ≠ 8 → pt b' 103 8 (b' 103 8 + 1) 103 k = b' 103 k := fun k h1 => pt_k _ _ _ h1
    unfold gSf
    rw [A 2 (by decide), A 4 (by decide), A 5 (by decide), A 7 (by decide), A 8 (by decide), A 9 (by decide), A 10 (by decide), A 11 (by decide), A 12 (by decide), pt_s, pt_s, B 5 (by decide), B 6 (by decide), B 7 (by decide), B 9 (by decide), B 4 (by decide), B 3 (by decide), B 0 (by decide), B 1 (by decide), B 2 (by decide)]
    exact ⟨⟨f2, f4, f5, rfl, f7, f8, f9, f10, f11, f12⟩, ⟨m, hm, em⟩, b2, b3, b4, b5, b6, b7⟩
  have w1 : pt a' 1 6 (b' 103 8 + 1) 1 2 = nI m - 1 := by rw [pt_k _ _ _ (by decide), f2, em]
  have P2 : PI a' b' 1 n (pt (pt a' 1 6 (b' 103 8 + 1)) 1 7 (pt b' 103 8 (b' 103 8 + 1) 103 9 + 1)) (pt (pt b' 103 8 (b' 103 8 + 1)) 103 9 (pt b' 103 8 (b' 103 8 + 1) 103 9 + 1)) := by
    obtain ⟨_, ⟨⟨g2, g4, g5, g6, g7, g8, g9, g10, g11, g12⟩, gb⟩⟩ := pi_sf hB P1
    refine pi_f hB P1 (fun q k hq => ptf _ _ _ _ _ _ (by omega)) (fun q k hq => ptf _ _ _ _ _ _ (by omega)) (fun _ => ?_)
    generalize pt a' 1 6 (b' 103 8 + 1) = a2 at g2 g4 g5 g6 g7 g8 g9 g10 g11 g12 ⊢
    generalize pt b' 103 8 (b' 103 8 + 1) = b2 at g2 g4 g5 g6 g7 g8 g9 g10 g11 g12 gb ⊢
    have A : ∀ k, k ≠ 7 → pt a2 1 7 (b2 103 9 + 1) 1 k = a2 1 k := fun k h1 => pt_k _ _ _ h1
    have B : ∀ k, k ≠ 9 → pt b2 103 9 (b2 103 9 + 1) 103 k = b2 103 k := fun k h1 => pt_k _ _ _ h1
    unfold gSf
    rw [A 2 (by decide), A 4 (by decide), A 5 (by decide), A 6 (by decide), A 8 (by decide), A 9 (by decide), A 10 (by decide), A 11 (by decide), A 12 (by decide), pt_s, pt_s, B 5 (by decide), B 6 (by decide), B 7 (by decide), B 8 (by decide), B 4 (by decide), B 3 (by decide), B 0 (by decide), B 1 (by decide), B 2 (by decide)]
    exact ⟨⟨g2, g4, g5, g6, rfl, g8, g9, g10, g11, g12⟩, gb⟩
  have g7 : pt a' 1 6 (b' 103 8 + 1) 1 7 = pt b' 103 8 (b' 103 8 + 1) 103 9 := (pi_sf hB P1).2.1.2.2.2.2.1
  have w2' : pt (pt a' 1 6 (b' 103 8 + 1)) 1 7 (pt b' 103 8 (b' 103 8 + 1) 103 9 + 1) 1 2 = nI m - 1 := by rw [pt_k _ _ _ (by decide)]; exact w1
  rw [bnd_e, f6]
  refine w2_jr (fun J => W2 (bnd (fun (s7 : Sg) => bnd (fun (b83_0 : Int32) (s8 : Sg) => bv (fSu_note 1 b83_0 (nI q) (s8 1 2) s8) fun s9 => if r = 0 then (some ((0 : Int32), s9)) else (some (1, s9))) fun j83 => if r = 0 then (j83 4 s7) else (j83 3 s7)) fun j66 => if r = 0 then (j66 (pt a' 1 6 (b' 103 8 + 1))) else (bnd (pt (pt a' 1 6 (b' 103 8 + 1)) 1 7 ((pt a' 1 6 (b' 103 8 + 1) 1 7) + 1)) fun s10 => j66 s10)) (J r b') (fun x y => x.1 = y.1 ∧ Inv x.2 y.2)) ?_ (fun J hJ => Eq.mpr (congrArg (fun f => W2 _ f _) (eJ J)) hJ)
  rcases hr with rfl | rfl
  · simp only [bnd_x, if_true, gc8, ic8, em]
    obtain ⟨x, y, z1, z2, z3⟩ := pi_note hB h5 P1 4 (nI q) (nI m - 1)
    rw [w1, z1, bv_s, z2, bv_s]
    exact w2_s ⟨rfl, inv_pi hI2 hB z3⟩
  · simp only [bnd_x, n10z, if_false, gc8, ic8, gc9, ic9, em, g7]
    obtain ⟨x, y, z1, z2, z3⟩ := pi_note hB h5 P2 3 (nI q) (nI m - 1)
    rw [w2', z1, bv_s, z2, bv_s]
    exact w2_s ⟨rfl, inv_pi hI2 hB z3⟩
