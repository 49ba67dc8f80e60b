/-! a minute -/
theorem bv_as {R : Type} (f : Option Sg) (g : Sg → Option Sg) (k : Sg → Option R) : bv (bv f g) k = bv f (fun s => bv (g s) k) := by cases f <;> rfl
section MIN
variable {a0 b0 a b : Sg} {o n : Nat}
theorem pi_pass (hB : BF a0 b0 o n) {rl : Int32} (hR : RFl b0 o rl) (h : PI a0 b0 o n a b) : W2 (fSu_pass o rl a) (fM_goesBy b) (fun x y => x.1 = y.1 ∧ PI a0 b0 o n x.2 y.2) := by
  have ho := hB.1
  have hn := hB.2.1
  unfold fSu_pass fM_goesBy
  rw [bnd_e]
  have conv : ∀ K : Sg → Option (Int32 × Sg), (if a o 9 = 0 then (bv (fSu_putSunset o a) fun s16 => bv (fSu_letClimbersGo o s16) K) else bv (fSu_letClimbersGo o a) K) = bv (if a o 9 = 0 then bv (fSu_putSunset o a) (fun s16 => fSu_letClimbersGo o s16) else fSu_letClimbersGo o a) K := fun K => by
    by_cases c : a o 9 = 0
    · rw [if_pos c, if_pos c, bv_as]
    · rw [if_neg c, if_neg c]
  refine Eq.mpr (congrArg (fun f => W2 f _ _) (conv _)) ?_
  refine w2_bv (w2_m (pi_beg hB h) (fun s2 t2 h2 => ?_))
  refine w2_lp (fun k u s u' t => PI a0 b0 o n s t ∧ ∃ (i : Nat) (c : Int32), i + k = n ∧ u = (c, nI i) ∧ u' = (c, nI i)) ?_ FU FU n _ _ _ _ (FU_lt (by omega)) (FU_lt (by omega)) ⟨h2, 0, 0, by omega, rfl, rfl⟩
  rintro q q' k u s u' t ⟨hP, i, c, hi, rfl, rfl⟩ hq
  refine w2_jj (fun J J' => ∀ s t, PI a0 b0 o n s t → W2 (J s) (J' t) (fun x y => x.1 = y.1 ∧ PI a0 b0 o n x.2 y.2)) ?_ ?_
  · intro s t hs
    obtain ⟨e1, ⟨⟨f2, f4, f5, f6, f7, f8, f9, f10, f11, f12⟩, hb⟩⟩ := pi_sf hB hs
    dsimp only
    rw [gc3, ic3, show fM_sunset t = some (t 103 4 + 40, t) from by unfold fM_sunset; rw [gc4, ic4], bi_s]
    refine w2_jj (fun J J' => ∀ s t, PI a0 b0 o n s t → W2 (J s) (J' t) (fun x y => x.1 = y.1 ∧ PI a0 b0 o n x.2 y.2)) ?_ ?_
    · intro s t hs
      rw [gc3, gc3]
      have z := pi_clock hB hs c
      rw [ic3] at z
      exact z
    · intro J J' hJ
      refine w2_if (by rw [f9, f8]) (fun _ => ?_) (fun _ => hJ s t hs)
      exact w2_bv (w2_m (pi_night hB hR hs) (fun x y hz => hJ x y hz))
  · intro J J' hJ
    obtain ⟨e1, ⟨⟨f2, f4, f5, f6, f7, f8, f9, f10, f11, f12⟩, hb⟩⟩ := pi_sf hB hP
    have t6 : t 102 6 = nI n := by rw [hP.2.2.1 102 (by decide) (by decide) (by decide) (by decide)]; exact hB.2.2.1
    dsimp only
    rw [f8, f9, e1, t6, gc3, ic3, show fM_sunset t = some (t 103 4 + 40, t) from by unfold fM_sunset; rw [gc4, ic4], bi_s]
    by_cases c1 : t 103 4 + 40 ≤ t 103 3
    · rw [if_pos c1, if_pos c1, ite_self]
      exact hJ s t hP
    rw [if_neg c1, if_neg c1]
    refine w2_if Iff.rfl (fun _ => hJ s t hP) (fun c2 => ?_)
    rw [nI_leI (by omega) (by omega)] at c2
    have hi10 : i < 10 := by omega
    have hpe := pi_pe hB hP (show i < n by omega)
    obtain ⟨g, hg, eg⟩ := hpe.2.2.2.2.2.2.2.2.2.2.2.2.2
    have c4 := hpe.2.2.2.2.2.2.2.2.2.2.2.2.1
    have nx : ∀ (d : Int32) s' t', PI a0 b0 o n s' t' → W2 (q (d, nI i + 1) s') (q' (d, nI i + 1) t') (fun x y => x.1 = y.1 ∧ PI a0 b0 o n x.2 y.2) := fun d s' t' hs => by
      rw [nI_1]
      exact hq (k - 1) _ _ _ _ (by omega) ⟨hs, i + 1, d, by omega, rfl, rfl⟩
    unfold fM_isGoing
    rw [e_St5 o hi10, bi_s, ro_o ho, hpe.2.2.2.2.2.1, n30, gd50 _ (by omega), ix_n (by omega), bnd_e, eg]
    by_cases c3 : g = 0
    · subst c3
      rw [if_neg (show ¬ (if nI 0 = 0 then (0 : Int32) else 1) = 1 by decide), if_pos (by decide), gb_0, bi_s, bnd_e, if_pos rfl]
      exact nx c s t hP
    · rw [if_pos (show (if nI g = 0 then (0 : Int32) else 1) = 1 from if_neg (nI_ne0 (by omega) (by omega))), if_neg (nI_nle (by omega) (by omega)), gb_1, bi_s, bnd_e, if_neg n10z, e_isUpC o hi10, bi_s, ro_o ho, hpe.2.2.2.2.1, e_isUpM hi10, bi_s]
      by_cases c5 : t 103 (20 + i) = 99
      · rw [if_neg (fun q => (lt99 c4).mp q c5), if_neg n10z, if_pos c5, if_neg n10z]
        refine w2_bi (w2_m (pi_speaks hB hR hP (show i < n by omega) (by rw [eg]; exact nI_ne0 (by omega) (by omega))) (fun x y ⟨ex, hx⟩ => ?_))
        rw [ex]
        exact w2_if Iff.rfl (fun _ => nx c _ _ hx) (fun _ => nx _ _ _ hx)
      · rw [if_pos ((lt99 c4).mpr c5), if_pos rfl, if_neg c5, if_pos rfl]
        exact w2_bv (w2_m (pi_climb hB hP (show i < n by omega)) (fun x y hx => nx c _ _ hx))
end MIN
theorem inv_bf {a b : Sg} (hI : Inv a b) : ∃ n, BF a b 1 n ∧ PI a b 1 n a b ∧ b 102 5 = 0 := by
  have h0 : gSc (a 1) (a 2) (b 102 6) (b 103) (b 106) (b 107) (b 108) := hI 0
  have h0' := h0
  obtain ⟨n, hn, k1, k2, _⟩ := h0'
  rw [k1] at h0
  have h19 : b 102 5 = 0 ∧ ∀ k, k < 122 → b 111 k = nI (wdL.getD k 0) := hI 19
  exact ⟨n, ⟨Or.inl rfl, hn, k1, hI 4, hI 18, hI 1, hI 2⟩, ⟨fun _ _ _ _ _ _ => rfl, ⟨rfl, rfl⟩, fun _ _ _ _ _ => rfl, h0, hI 13⟩, h19.1⟩
/-- one minute, in truth, of the whole -/
theorem inv_pass {a b : Sg} (hI : Inv a b) : W2 (fSu_pass 1 1 a) (fM_goesBy b) (fun x y => x.1 = y.1 ∧ Inv x.2 y.2) := by
  obtain ⟨n, hB, hP, h5⟩ := inv_bf hI
  obtain ⟨x, y, e1, e2, e3, hP2⟩ := pi_pass hB (Or.inl ⟨rfl, h5, rfl⟩) hP
  refine ⟨x, y, e1, e2, e3, ?_⟩
  refine Inv_step [0, 13] hI (fr_Su_pass 1 1 a x e1) (fr_M_goesBy b y e2) (by decide) (by decide) (al2 ?_ hP2.2.2.2.2)
  show gSc _ _ _ _ _ _ _
  rw [hP2.2.2.1 102 (by decide) (by decide) (by decide) (by decide), hP2.2.2.1 106 (by decide) (by decide) (by decide) (by decide), hP2.2.2.1 107 (by decide) (by decide) (by decide) (by decide), hP2.2.2.1 108 (by decide) (by decide) (by decide) (by decide), hB.2.2.1]
  exact hP2.2.2.2.1
theorem sim_minutes (v : Int32) : Sim (fH_minutes v) (fM_minutes v) := by
  intro a b hI
  unfold fH_minutes fM_minutes
  rw [bnd_e]
  have hI' := Inv_told hI
  have h0 : gSc (a 1) (a 2) (pt b 102 0 0 102 6) (pt b 102 0 0 103) (pt b 102 0 0 106) (pt b 102 0 0 107) (pt b 102 0 0 108) := hI' 0
  obtain ⟨n, hn, k1, k2, ⟨_, _, _, _, _, _, _, f10, _, _⟩, _⟩ := h0
  generalize pt b 102 0 0 = b' at hI' f10 ⊢
  rw [e_within, bi_s, e_isIn, bi_s]
  by_cases c1 : wi v 1 60 = 0
  · rw [if_pos c1, if_pos c1]
    exact ⟨_, _, _, rfl, rfl, hI'⟩
  rw [if_neg c1, if_neg c1, gc0, ic0, f10]
  by_cases c2 : b' 103 0 + 1 ≤ 9998
  · rw [if_pos c2, if_pos c2]
    obtain ⟨m, _, hm, rfl⟩ := wi_1 (a := 1) (b := 60) (by decide) (by decide) c1
    have key : W2 (lp FU (fun q31 (u31 : Int32 × Int32) (s3 : Sg) => if nI m ≤ u31.2 then (some (u31.1, s3)) else (bv (fPa_keep 1 s3) fun s4 => bi (fSu_pass 1 1 s4) fun r6 s5 => q31 ((u31.1 + r6), (u31.2 + 1)) s5)) (0, 0) a) (lp FU (fun q36 (u36 : Int32 × Int32) (s4 : Sg) => if nI m ≤ u36.2 then (some (u36.1, s4)) else (bv (fM_keepsAhead s4) fun s5 => bi (fM_goesBy s5) fun r7 s6 => q36 ((u36.1 + r7), (u36.2 + 1)) s6)) (0, 0) b') (fun x y => x.1 = y.1 ∧ Inv x.2 y.2) := by
      refine w2_lp (fun k u s u' t => Inv s t ∧ ∃ (i : Nat) (c : Int32), i + k = m ∧ u = (c, nI i) ∧ u' = (c, nI i)) ?_ FU FU m _ _ _ _ (FU_lt (by omega)) (FU_lt (by omega)) ⟨hI', 0, 0, by omega, rfl, rfl⟩
      rintro q q' k u s u' t ⟨hP, i, c, hi, rfl, rfl⟩ hq
      dsimp only
      refine w2_if Iff.rfl (fun _ => w2_s ⟨rfl, hP⟩) (fun c3 => ?_)
      rw [nI_leI (by omega) (by omega)] at c3
      obtain ⟨a', b'', e1, e2, hI2⟩ := sim_keep hP
      rw [e1, bv_s, e2, bv_s]
      refine w2_bi (w2_m (inv_pass hI2) (fun x y ⟨ex, hx⟩ => ?_))
      rw [ex, nI_1]
      exact hq (k - 1) _ _ _ _ (by omega) ⟨hx, i + 1, _, by omega, rfl, rfl⟩
    obtain ⟨⟨r, s⟩, ⟨r', t⟩, e1, e2, e3, e4⟩ := key
    dsimp only at e3 e4
    subst e3
    exact ⟨r, s, t, e1, e2, e4⟩
  · rw [if_neg c2, if_neg c2]
    exact ⟨_, _, _, rfl, rfl, hI'⟩
