/-! fits: the class's search -/
def PSt (S : Nat → Nat) (V : Nat) (s : Sg) : Prop := (s 66 7 = -1 ∧ s 66 8 = -1) ∨ (∃ T, T < 2 ^ 20 ∧ Cv S V T ∧ s 66 7 = nI (pc T) ∧ s 66 8 = nI T)
def GTo (S : Nat → Nat) (V : Nat) (s : Sg) (T' : Nat) : Prop := ∃ T, T < 2 ^ 20 ∧ Cv S V T ∧ s 66 7 = nI (pc T) ∧ s 66 8 = nI T ∧ (pc T < pc T' ∨ (pc T = pc T' ∧ T ≤ T'))
def MnC (S : Nat → Nat) (V T' : Nat) : Prop := T' < 2 ^ 20 ∧ Cv S V T' ∧ ∀ T, T < 2 ^ 20 → Cv S V T → pc T' ≤ pc T
def CRP (S : Nat → Nat) (V : Nat) (s : Sg) (M : Nat → Prop) (s' : Sg) : Prop := PSt S V s' ∧ s' 29 = s 29 ∧ (∀ T', GTo S V s T' → GTo S V s' T') ∧ ∀ T', M T' → GTo S V s' T'
theorem e_take {S : Nat → Nat} {V tk : Nat} {s : Sg} (ht : tk < 2 ^ 20) (hc : Cv S V tk) (hP : PSt S V s) : W1 (fMu_takeCover (nI tk) (nI (pc tk)) s) (CRP S V s (fun T' => T' = tk)) := by
  have hp := pc_le 20 tk ht
  have put : (∀ T', GTo S V s T' → pc tk < pc T' ∨ (pc tk = pc T' ∧ tk ≤ T')) → CRP S V s (fun T' => T' = tk) (pt (pt s 66 7 (nI (pc tk))) 66 8 (nI tk)) := by
    intro h
    have q7 : pt (pt s 66 7 (nI (pc tk))) 66 8 (nI tk) 66 7 = nI (pc tk) := by rw [pt_k _ _ _ (by decide), pt_s]
    have q8 : pt (pt s 66 7 (nI (pc tk))) 66 8 (nI tk) 66 8 = nI tk := pt_s _ _ _ _
    exact ⟨Or.inr ⟨tk, ht, hc, q7, q8⟩, by rw [ptq _ _ _ (by decide), ptq _ _ _ (by decide)], fun T' hT => ⟨tk, ht, hc, q7, q8, h T' hT⟩, fun T' e => ⟨tk, ht, hc, q7, q8, by rw [e]; exact Or.inr ⟨rfl, Nat.le_refl _⟩⟩⟩
  unfold fMu_takeCover
  simp only [bnd_x]
  rcases hP with ⟨f1, f2⟩ | ⟨T, hT, hcT, f1, f2⟩
  · rw [f1, if_pos rfl]
    refine w1_s (put (fun T' h => ?_))
    obtain ⟨T, h1, _, h3, _⟩ := h
    rw [f1] at h3
    have := pc_le 20 T h1
    exact absurd h3 (m1_nI (by omega))
  · have hpT := pc_le 20 T hT
    have same : ∀ T', GTo S V s T' → pc T < pc T' ∨ (pc T = pc T' ∧ T ≤ T') := fun T' h => by
      obtain ⟨T2, h1, _, h3, h4, h5⟩ := h
      rw [f2] at h4
      rw [nI_inj (by omega) (by omega) h4]
      exact h5
    have keep : (pc T < pc tk ∨ (pc T = pc tk ∧ T ≤ tk)) → CRP S V s (fun T' => T' = tk) s := fun h => ⟨Or.inr ⟨T, hT, hcT, f1, f2⟩, rfl, fun _ h => h, fun T' e => ⟨T, hT, hcT, f1, f2, by rw [e]; exact h⟩⟩
    rw [f1, f2, if_neg (nI_m1 (by omega))]
    refine w1_if (fun c => ?_) (fun c => ?_)
    · rw [nI_ltI (by omega) (by omega)] at c
      exact w1_s (put (fun T' h => by rcases same T' h with q | q <;> omega))
    · rw [nI_ltI (by omega) (by omega)] at c
      refine w1_if (fun c2 => ?_) (fun c2 => ?_)
      · have c2 := nI_inj (by omega) (by omega) c2
        refine w1_if (fun c3 => ?_) (fun c3 => ?_)
        · rw [nI_leI (by omega) (by omega)] at c3
          exact w1_s (keep (Or.inr ⟨c2.symm, c3⟩))
        · rw [nI_leI (by omega) (by omega)] at c3
          exact w1_s (put (fun T' h => by rcases same T' h with q | q <;> omega))
      · have c2 : ¬ pc tk = pc T := fun e => c2 (by rw [e])
        exact w1_s (keep (Or.inl (by omega)))
def lbN (r : Nat) : Nat := if r.testBit 0 then 0 else if r.testBit 1 then 1 else if r.testBit 2 then 2 else if r.testBit 3 then 3 else if r.testBit 4 then 4 else if r.testBit 5 then 5 else if r.testBit 6 then 6 else if r.testBit 7 then 7 else if r.testBit 8 then 8 else 9
theorem lb_ok : ∀ r, r < 1024 → r ≠ 0 → (nI r &&& (-nI r) = nI (2 ^ lbN r) ∧ lbN r < 10 ∧ r.testBit (lbN r) = true) := by decide +kernel
theorem e_ans {s : Sg} {S : Nat → Nat} (hS : ∀ w, w < 20 → s 29 w = nI (S w)) {w : Nat} (hw : w < 20) : fTe_answered 19 (nI w) s = some (nI (S w), s) := by
  unfold fTe_answered
  rw [if_neg (nI_pos (by omega)), if_neg (show ¬ (20 : Int32) ≤ nI w from nI_ge (b := 20) (by omega) (by decide)), gd_n _ hw (by decide), ix_n (by omega), show hz_rf 19 3 = 29 from rfl, hS w hw]
theorem cov_r {S : Nat → Nat} {V : Nat} (hV : V < 1024) (hB : ∀ w, S w < 1024) : ∀ (fuel rest tk : Nat) (s : Sg), pc rest < fuel → rest < 1024 → tk < 2 ^ 20 → pc tk + pc rest ≤ 10 → (∀ q, rest.testBit q = true ↔ (V.testBit q = true ∧ ∀ w, tk.testBit w = true → (S w).testBit q = false)) → PSt S V s → (∀ w, w < 20 → s 29 w = nI (S w)) → W1 (fMu_coverRest fuel (nI rest) (nI tk) (nI (pc tk)) s) (CRP S V s (fun T' => MnC S V T' ∧ ∀ i, tk.testBit i = true → T'.testBit i = true))
  | 0, _, _, _, h, _, _, _, _, _, _ => absurd h (Nat.not_lt_zero _)
  | fuel + 1, rest, tk, s, hfu, hr, ht, h10, hre, hP, hS => by
    have IH := cov_r (S := S) (V := V) hV hB fuel
    show W1 (fMu_coverRestB (fMu_coverRest fuel) (nI rest) (nI tk) (nI (pc tk)) s) _
    unfold fMu_coverRestB
    generalize fMu_coverRest fuel = rec at IH
    simp only [bnd_x]
    refine w1_if (fun c => ?_) (fun c => ?_)
    · have c : rest = 0 := nI_inj (by omega) (by decide) c
      have hcv : Cv S V tk := fun q hq => by
        refine Classical.byContradiction fun h => ?_
        have : rest.testBit q = true := (hre q).mpr ⟨hq, fun w hw => by
          cases e : (S w).testBit q
          · rfl
          · exact absurd ⟨w, hw, e⟩ h⟩
        rw [c, Nat.zero_testBit] at this
        cases this
      refine w1_bv (w1_m (e_take ht hcv hP) (fun s' h => w1_s ⟨h.1, h.2.1, h.2.2.1, fun T' hT => h.2.2.2 T' ?_⟩))
      obtain ⟨⟨m1, m2, m3⟩, m4⟩ := hT
      exact ((pc_sub ht m1 m4).2 (m3 tk ht hcv)).symm
    have c : rest ≠ 0 := fun e => c (by rw [e]; rfl)
    obtain ⟨lb1, lb2, lb3⟩ := lb_ok rest hr c
    have hpr : pc rest ≠ 0 := fun e => c ((pc_pos rest).mp e)
    rw [if_neg (show ¬ (10 : Int32) ≤ nI (pc tk) from nI_ge (b := 10) (by omega) (by decide)), lb1]
    have hq0 := (hre (lbN rest)).mp lb3
    have loop : W1 (lp FU (fun q43 (u43 : Int32) (s2 : Sg) => if 20 ≤ u43 then (some s2) else (bi (fTe_answered 19 u43 s2) fun r4 s3 => if (r4 &&& nI (2 ^ lbN rest)) = 0 then (q43 (u43 + 1) s3) else (bv (rec (nI rest &&& (r4 ^^^ (-1))) (nI tk ||| (1 <<< (u43 &&& 31))) (nI (pc tk) + 1) s3) fun s6 => q43 (u43 + 1) s6))) 0 s) (CRP S V s (fun T' => MnC S V T' ∧ ∀ i, tk.testBit i = true → T'.testBit i = true)) := by
      refine w1_lp (fun k v t => ∃ i, i + k = 20 ∧ v = nI i ∧ CRP S V s (fun T' => (MnC S V T' ∧ ∀ i, tk.testBit i = true → T'.testBit i = true) ∧ ∃ w, w < i ∧ T'.testBit w = true ∧ (S w).testBit (lbN rest) = true) t) ?_ FU 20 _ _ (FU_lt (by omega)) ⟨0, by omega, rfl, hP, rfl, fun _ h => h, fun T' ⟨_, w, h, _⟩ => by omega⟩
      rintro p k v t ⟨i, hi, rfl, g1, g2, g3, g4⟩ hp
      refine w1_if (fun c2 => ?_) (fun c2 => ?_)
      · have c2 := (nI_leI (a := 20) (b := i) (by decide) (by omega)).mp c2
        refine w1_s ⟨g1, g2, g3, fun T' hT => g4 T' ⟨hT, ?_⟩⟩
        obtain ⟨x, x1, x2⟩ := hT.1.2.1 (lbN rest) hq0.1
        have := tb_lt hT.1.1 x1
        exact ⟨x, by omega, x1, x2⟩
      have c2 : ¬ 20 ≤ i := fun q => c2 ((nI_leI (a := 20) (b := i) (by decide) (by omega)).mpr q)
      have hSt : ∀ w, w < 20 → t 29 w = nI (S w) := fun w hw => by rw [g2]; exact hS w hw
      have hbi := hB i
      rw [e_ans hSt (show i < 20 by omega), bi_s, nx_and, nI_1, nI_1, sbn_n hr hbi, sh1 i (by omega), nx_or]
      have and_lt : S i &&& 2 ^ lbN rest < 2 ^ 31 := Nat.lt_of_le_of_lt Nat.and_le_left (by omega)
      refine w1_if (fun c3 => ?_) (fun c3 => ?_)
      · have c3 := (an_p (S i) (lbN rest)).mp (nI_inj (b := 0) and_lt (by decide) c3)
        refine hp (k - 1) _ _ (by omega) ⟨i + 1, by omega, rfl, g1, g2, g3, fun T' ⟨h1, w, h2, h3, h4⟩ => g4 T' ⟨h1, w, ?_, h3, h4⟩⟩
        refine Nat.lt_of_le_of_ne (by omega) (fun e => ?_)
        rw [e, c3] at h4
        cases h4
      · have c3 : (S i).testBit (lbN rest) = true := by
          cases e : (S i).testBit (lbN rest)
          · exact absurd (by rw [(an_p (S i) (lbN rest)).mpr e]; rfl) c3
          · rfl
        have hti : tk.testBit i = false := by
          cases e : tk.testBit i
          · rfl
          · rw [hq0.2 i e] at c3; cases c3
        have p1 := pc_or ht (show i < 20 by omega) hti
        have sl := sbn_le rest (S i)
        have p2 : pc (sbn rest (S i)) < pc rest := pc_lt (k := 10) (show sbn rest (S i) < 2 ^ 10 by omega) (show rest < 2 ^ 10 from hr) (fun j hj => by rw [sbn_b hr, Bool.and_eq_true] at hj; exact hj.1) lb3 (by rw [sbn_b hr, c3, lb3]; rfl)
        have step := IH (sbn rest (S i)) (tk ||| 2 ^ i) t (by omega) (by omega) (Nat.or_lt_two_pow ht (Nat.pow_lt_pow_right (by decide) (by omega))) (by omega) (fun q => by
          rw [sbn_b hr, Bool.and_eq_true, hre q]
          constructor
          · rintro ⟨⟨h1, h2⟩, h3⟩
            refine ⟨h1, fun w hw => ?_⟩
            rw [tb_or, Bool.or_eq_true, decide_eq_true_iff] at hw
            rcases hw with hw | hw
            · exact h2 w hw
            · rw [hw]; simpa using h3
          · rintro ⟨h1, h2⟩
            refine ⟨⟨h1, fun w hw => h2 w (by rw [tb_or, hw]; rfl)⟩, ?_⟩
            rw [h2 i (by rw [tb_or]; simp)]; rfl) g1 hSt
        rw [p1] at step
        refine w1_bv (w1_m step (fun s' h => ?_))
        obtain ⟨e1, e2, e3, e4⟩ := h
        refine hp (k - 1) _ _ (by omega) ⟨i + 1, by omega, rfl, e1, by rw [e2, g2], fun T' h => e3 T' (g3 T' h), fun T' ⟨h1, w, h2, h3, h4⟩ => ?_⟩
        by_cases e : w = i
        · subst e
          refine e4 T' ⟨h1.1, fun j hj => ?_⟩
          rw [tb_or, Bool.or_eq_true, decide_eq_true_iff] at hj
          rcases hj with hj | hj
          · exact h1.2 j hj
          · rw [hj]; exact h3
        · exact e3 T' (g4 T' ⟨h1, w, by omega, h3, h4⟩)
    rcases hP with ⟨f1, f2⟩ | ⟨T, hT, hcT, f1, f2⟩
    · rw [f1, if_pos rfl]
      exact loop
    · have hpT := pc_le 20 T hT
      rw [f1, if_neg (nI_m1 (by omega))]
      refine w1_if (fun _ => loop) (fun c4 => ?_)
      rw [nI_ltI (by omega) (by omega)] at c4
      refine w1_s ⟨Or.inr ⟨T, hT, hcT, f1, f2⟩, rfl, fun _ h => h, fun T' hT' => ?_⟩
      exfalso
      obtain ⟨⟨m1, m2, m3⟩, m4⟩ := hT'
      have h1 := m3 T hT hcT
      have h2 := pc_sub ht m1 m4
      have e := h2.2 (by omega)
      obtain ⟨x, x1, x2⟩ := m2 (lbN rest) hq0.1
      rw [← e] at x1
      rw [hq0.2 x x1] at x2
      cases x2
theorem e_cov {a : Sg} {S : Nat → Nat} {V : Nat} (hV : V < 1024) (hB : ∀ w, S w < 1024) (hS : ∀ w, w < 20 → a 29 w = nI (S w)) : W1 (fMu_cover (nI V) a) (fun s => (∃ T, Bs2 S V T ∧ s 66 7 = nI (pc T) ∧ s 66 8 = nI T) ∨ ((∀ T, T < 2 ^ 20 → ¬ Cv S V T) ∧ s 66 7 = -1 ∧ s 66 8 = -1)) := by
  unfold fMu_cover
  simp only [bnd_x]
  have hp := pc_le 10 V hV
  have h := cov_r (S := S) (V := V) hV hB 12 V 0 (pt (pt a 66 7 (-1)) 66 8 (-1)) (by omega) hV (by decide) (by rw [pc_0]; omega) (fun q => ⟨fun h => ⟨h, fun w hw => by rw [Nat.zero_testBit] at hw; cases hw⟩, fun h => h.1⟩) (Or.inl ⟨by rw [pt_k _ _ _ (by decide), pt_s], pt_s _ _ _ _⟩) (fun w hw => by rw [pt_o _ _ _ _ (by decide), pt_o _ _ _ _ (by decide)]; exact hS w hw)
  rw [pc_0] at h
  refine w1_bv (w1_m h (fun s' hs => w1_s ?_))
  obtain ⟨h1, h2, h3, h4⟩ := hs
  by_cases ex : ∃ T, T < 2 ^ 20 ∧ Cv S V T
  · obtain ⟨k, ⟨T0, t1, t2, t3⟩, hk⟩ := pk_least (fun k => ∃ T, T < 2 ^ 20 ∧ Cv S V T ∧ pc T = k) (by obtain ⟨T, e1, e2⟩ := ex; exact ⟨pc T, T, e1, e2, rfl⟩)
    have mn : ∀ T, T < 2 ^ 20 → Cv S V T → k ≤ pc T := fun T e1 e2 => Nat.le_of_not_lt fun q => hk (pc T) q ⟨T, e1, e2, rfl⟩
    have m0 : MnC S V T0 := ⟨t1, t2, fun T e1 e2 => by rw [t3]; exact mn T e1 e2⟩
    obtain ⟨T, g1, g2, g3, g4, g5⟩ := h4 T0 ⟨m0, fun i hi => by rw [Nat.zero_testBit] at hi; cases hi⟩
    refine Or.inl ⟨T, ⟨g1, g2, fun T' e1 e2 => ?_⟩, g3, g4⟩
    have := mn T' e1 e2
    have := mn T g1 g2
    have hT := pc_le 20 T g1
    by_cases e : pc T = pc T'
    · refine Or.inr ⟨e, ?_⟩
      obtain ⟨T2, _, _, _, q4, q5⟩ := h4 T' ⟨⟨e1, e2, fun T3 e3 e4 => by have := mn T3 e3 e4; omega⟩, fun i hi => by rw [Nat.zero_testBit] at hi; cases hi⟩
      rw [g4] at q4
      have e5 := nI_inj (by omega) (by omega) q4
      rw [← e5] at q5
      omega
    · exact Or.inl (by omega)
  · refine Or.inr ⟨fun T e1 e2 => ex ⟨T, e1, e2⟩, ?_⟩
    rcases h1 with h1 | ⟨T, e1, e2, _⟩
    · exact h1
    · exact absurd ⟨T, e1, e2⟩ ex
theorem sim_fits (v w : Int32) : Sim (fH_fits v w) (fM_fits v w) := by
  refine sim_r (fun _ => rfl) (fr_H_fits v w) (fr_M_fits v w) (by decide) (by decide) (fun a b hI => ?_)
  obtain ⟨S, hS, hM, hB, h20⟩ := st_S hI
  unfold fH_fits
  simp only [e_within, e_isIn, e_isWord, bi_x]
  by_cases c0 : w = 0
  · rw [if_pos c0, if_pos c0]
    by_cases g1 : wi v 0 19 = 0
    · rw [if_pos g1, if_pos g1]
      exact w2_s rfl
    · rw [if_neg g1, if_neg g1]
      obtain ⟨x, _, hx, rfl⟩ := wi_1 (a := 0) (b := 19) (by decide) (by decide) g1
      rw [e_ans hS (by omega), bi_s, gd_n _ (show x < 40 by omega) (by decide), ix_n (by omega), hM x (by omega)]
      exact w2_s rfl
  rw [if_neg c0, if_neg c0]
  by_cases g1 : wi v 0 1023 = 0
  · rw [if_pos g1, if_pos g1]
    exact w2_s rfl
  rw [if_neg g1, if_neg g1]
  by_cases g2 : wi w 1 3 = 0
  · rw [if_pos g2, if_pos g2]
    exact w2_s rfl
  rw [if_neg g2, if_neg g2]
  obtain ⟨V, _, hV, rfl⟩ := wi_1 (a := 0) (b := 1023) (by decide) (by decide) g1
  by_cases c1 : w = 1
  · rw [if_pos c1, if_pos c1]
    have M1 : ∀ x, x < 20 → fMu_matches (nI x) (nI V) a = some (nI (pc (S x &&& V)), a) := fun x hx => by
      unfold fMu_matches
      have := hB x
      rw [e_ans hS hx, bi_s, nx_and, e_bc (Nat.lt_of_le_of_lt Nat.and_le_left (by omega)), bi_s]
    have M2 : ∀ x, x < 20 → fM_onesOf (nI (S x) &&& nI V) b = some (nI (pc (S x &&& V)), b) := fun x hx => by
      have := hB x
      rw [nx_and, e_ones (Nat.lt_of_le_of_lt Nat.and_le_left (by omega))]
    unfold fMu_bestWord fM_bestFor
    refine w2_bi ?_
    refine w2_lp (fun k u s u' t => s = a ∧ t = b ∧ ∃ i c, i + k = 20 ∧ u = (nI c, nI i) ∧ u' = (nI c, nI i) ∧ c < 20) ?_ FU FU 19 _ _ _ _ (FU_lt (by omega)) (FU_lt (by omega)) ⟨rfl, rfl, 1, 0, by omega, rfl, rfl, by omega⟩
    rintro p p' k u s u' t ⟨rfl, rfl, i, c, hi, rfl, rfl, hc⟩ hp
    dsimp only
    refine w2_if Iff.rfl (fun _ => w2_s (w2_s rfl)) (fun h => ?_)
    have h : ¬ 20 ≤ i := fun q => h ((nI_leI (a := 20) (b := i) (by decide) (by omega)).mpr q)
    rw [M1 i (by omega), bi_s, M1 c hc, bi_s, gd_n _ (show i < 40 by omega) (by decide), ix_n (by omega), hM i (by omega), M2 i (by omega), bi_s, gd_n _ (show c < 40 by omega) (by decide), ix_n (by omega), hM c hc, M2 c hc, bi_s, bnd_e, bnd_e, nI_1]
    refine w2_if Iff.rfl (fun _ => ?_) (fun _ => ?_)
    · exact hp (k - 1) _ _ _ _ (by omega) ⟨rfl, rfl, i + 1, c, by omega, rfl, rfl, hc⟩
    · exact hp (k - 1) _ _ _ _ (by omega) ⟨rfl, rfl, i + 1, i, by omega, rfl, rfl, by omega⟩
  rw [if_neg c1, if_neg c1]
  obtain ⟨s1, es, hs⟩ := e_cov (a := a) (S := S) (V := V) (by omega) hB hS
  obtain ⟨t1, et, ht, hk⟩ := e_ff hM hB
  have kle := kF_le S 20 V
  unfold FA at kle
  have e0 : 20480 + nI V = nI (20480 + V) := nI_add 20480 V
  rw [es, bv_s, et, bv_s, e0, gd_n _ (show 20480 + V < 21504 by omega) (by decide), bnd_e, ix_n (by omega), show 20480 + V = 1024 * 20 + V by omega, hk 20 V (by omega) (by omega)]
  have iF : nI (kF S 20 V) < 100000000 ↔ kF S 20 V < FA := nI_ltI (b := 100000000) (by omega) (by decide)
  rcases hs with ⟨T, hb, h7, h8⟩ | ⟨hno, h7, h8⟩
  · have hlt := kF_no (S := S) (V := V) (by omega) hb.1 hb.2.1
    obtain ⟨b1, b2⟩ := cO_bs (S := S) (V := V) (by omega) hlt
    have eT := bs_1 hb b1
    rw [if_pos (iF.mpr hlt), h7, h8, e_co (fun w hw => by rw [ht]; exact hM w hw) hB hk (by omega) hlt, bi_s]
    refine w2_if Iff.rfl (fun _ => w2_s ?_) (fun _ => w2_s ?_)
    · show nI (pc T) = nI (kF S 20 V)
      rw [← b2, ← eT]
    · show nI T = nI (cO S 20 V (kF S 20 V))
      rw [← eT]
  · have hge : ¬ kF S 20 V < FA := fun q => by
      obtain ⟨b1, _⟩ := cO_bs (S := S) (V := V) (by omega) q
      exact hno _ b1.1 b1.2.1
    rw [if_neg (fun q => hge (iF.mp q)), h7, h8, ite_self]
    exact w2_s rfl
