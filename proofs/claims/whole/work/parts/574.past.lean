/-! keep and undo -/
theorem n50 (c k : Nat) : 50 * nI c + nI k = nI (50 * c + k) := by rw [show (50 : Int32) = nI 50 from rfl, pk_mul, nI_add]
def kpQ (b : Sg) (c : Nat) (b' : Sg) : Prop := ∃ d c', ((c < 6 ∧ d = 0 ∧ c' = c + 1) ∨ (c = 6 ∧ d = 1 ∧ c' = 6)) ∧ b' 102 3 = nI c' ∧ (∀ k, k < 50 → b' 104 (50 * (c' - 1) + k) = b 103 k) ∧ ∀ j k, j < c' - 1 → k < 50 → b' 104 (50 * j + k) = b 104 (50 * (j + d) + k)
theorem keep_m {b : Sg} {c : Nat} (hc : c ≤ 6) (e : b 102 3 = nI c) : W1 (fM_keepsAhead b) (kpQ b c) := by
  unfold fM_keepsAhead
  refine w1_j (fun J => ∀ x d s, x < 6 → ((c < 6 ∧ d = 0 ∧ x = c) ∨ (c = 6 ∧ d = 1 ∧ x = 5)) → s 102 3 = nI x → s 103 = b 103 → (∀ j k, j < x → k < 50 → s 104 (50 * j + k) = b 104 (50 * (j + d) + k)) → W1 (J s) (kpQ b c)) ?_ ?_
  · intro x d s hx hd h1 h2 h3
    refine w1_lp (fun k v t => ∃ i, i + k = 50 ∧ v = nI i ∧ t 102 3 = nI x ∧ t 103 = b 103 ∧ (∀ j k, j < x → k < 50 → t 104 (50 * j + k) = b 104 (50 * (j + d) + k)) ∧ ∀ k, k < i → t 104 (50 * x + k) = b 103 k) ?_ FU 50 _ _ (FU_lt (by omega)) ⟨0, by omega, rfl, h1, h2, h3, fun k hk => by omega⟩
    rintro q k v t ⟨i, hi, rfl, t1, t2, t3, t4⟩ hq
    simp only [bnd_e]
    refine w1_if (fun h => ?_) (fun h => ?_)
    · have h := (nI_leI (a := 50) (b := i) (by decide) (by omega)).mp h
      refine w1_s ⟨d, x + 1, by omega, ?_, ?_, ?_⟩
      · rw [t1, nI_1]
        exact pt_s _ _ _ _
      · intro k hk
        rw [pt_o _ _ _ _ (by decide), show x + 1 - 1 = x by omega]
        exact t4 k (by omega)
      · intro j k hj hk
        rw [pt_o _ _ _ _ (by decide)]
        exact t3 j k (by omega) hk
    · have h : ¬ 50 ≤ i := fun q => h ((nI_leI (a := 50) (b := i) (by decide) (by omega)).mpr q)
      rw [t1, n50, gd_n _ (show i < 50 by omega) (by decide), gd_n _ (show 50 * x + i < 300 by omega) (by decide), ix_n (by omega), ix_n (by omega), nI_1]
      refine hq (k - 1) _ _ (by omega) ⟨i + 1, by omega, rfl, by rw [pt_o _ _ _ _ (by decide)]; exact t1, by rw [ptq _ _ _ (by decide)]; exact t2, fun j k' hj hk => ?_, fun k' hk => ?_⟩
      · rw [pt_k _ _ _ (by omega)]
        exact t3 j k' hj hk
      · by_cases e : k' = i
        · subst e
          rw [pt_s, t2]
        · rw [pt_k _ _ _ (by omega)]
          exact t4 k' (by omega)
  · intro J hJ
    refine w1_if (fun h => ?_) (fun h => ?_)
    · have h6 : c = 6 := nI_inj (by omega) (by decide) (e.symm.trans h)
      subst h6
      rw [bnd_e, e, show nI 6 - 1 = nI 5 from rfl]
      refine w1_lp (fun k v t => ∃ i, i + k = 250 ∧ v = nI i ∧ t 102 3 = nI 5 ∧ t 103 = b 103 ∧ (∀ j, j < i → t 104 j = b 104 (j + 50)) ∧ ∀ j, i ≤ j → t 104 j = b 104 j) ?_ FU 250 _ _ (FU_lt (by omega)) ⟨0, by omega, rfl, pt_s _ _ _ _, ptq _ _ _ (by decide), fun j hj => by omega, fun j _ => pt_o _ _ _ _ (by decide)⟩
      rintro q k v t ⟨i, hi, rfl, t1, t2, t3, t4⟩ hq
      simp only [bnd_e]
      rw [t1, show 50 * nI 5 = nI 250 from rfl]
      refine w1_if (fun h => ?_) (fun h => ?_)
      · rw [nI_leI (by decide) (by omega)] at h
        refine hJ 5 1 t (by omega) (Or.inr ⟨rfl, rfl, rfl⟩) t1 t2 (fun j k hj hk => ?_)
        rw [t3 _ (by omega), show 50 * (j + 1) + k = 50 * j + k + 50 by omega]
      · rw [nI_leI (by decide) (by omega)] at h
        rw [show nI i + 50 = nI (i + 50) from nI_add i 50, gd_n _ (show i + 50 < 300 by omega) (by decide), gd_n _ (show i < 300 by omega) (by decide), ix_n (by omega), ix_n (by omega), nI_1]
        refine hq (k - 1) _ _ (by omega) ⟨i + 1, by omega, rfl, by rw [pt_o _ _ _ _ (by decide)]; exact t1, by rw [ptq _ _ _ (by decide)]; exact t2, fun j hj => ?_, fun j hj => ?_⟩
        · by_cases e : j = i
          · subst e
            rw [pt_s]
            exact t4 _ (by omega)
          · rw [pt_k _ _ _ e]
            exact t3 j (by omega)
        · rw [pt_k _ _ _ (by omega)]
          exact t4 j (by omega)
    · have h6 : c ≠ 6 := fun q => h (by rw [e, q]; rfl)
      exact hJ c 0 b (by omega) (Or.inl ⟨by omega, rfl, rfl⟩) e rfl (fun j k _ _ => rfl)
theorem md_6 {f c j : Nat} (hf : f < 6) (hj : j < c - 1) (hc : c ≤ 6) : (f + j) % 6 ≠ (f + c - 1) % 6 := by omega
theorem sim_keep {a b : Sg} (hI : Inv a b) : ∃ a' b', fPa_keep 1 a = some a' ∧ fM_keepsAhead b = some b' ∧ Inv a' b' := by
  obtain ⟨f, c, hf, hc, e1, e2, e3, hs⟩ : gPs a b := hI 15
  have h0 : gSc (a 1) (a 2) (b 102 6) (b 103) (b 106) (b 107) (b 108) := hI 0
  obtain ⟨a', f', c1, x1, x2, x3, x4, x5, x6, x7⟩ := keep_c hf hc e1 e2
  obtain ⟨b', y1, d, c2, y2, y3, y4, y5⟩ := keep_m hc e3
  have hcc : c1 = c2 := by omega
  subst hcc
  have hf' : f' < 6 := by
    rcases x2 with ⟨_, rfl, _⟩ | ⟨_, rfl, _⟩
    · exact hf
    · exact Nat.mod_lt _ (by decide)
  have hfd : ∀ j, (f + (j + d)) % 6 = (f' + j) % 6 := by
    intro j
    rcases x2 with ⟨q1, rfl, q2⟩ | ⟨q1, rfl, q2⟩
    · rcases y2 with ⟨r1, rfl, r2⟩ | ⟨r1, rfl, r2⟩
      · rfl
      · omega
    · rcases y2 with ⟨r1, rfl, r2⟩ | ⟨r1, rfl, r2⟩
      · omega
      · rw [Nat.mod_add_mod]
        congr 1
        omega
  have hcd : ∀ j, j < c1 - 1 → j + d < c := by
    intro j hj
    omega
  have fb := fr_M_keepsAhead b b' y1
  refine ⟨a', b', x1, y1, Inv_step [15] hI (fr_Pa_keep 1 a a' x1) fb (by decide) (by decide) (al1 ⟨f', c1, hf', by omega, x3, x4, y3, fun j hj => ?_⟩)⟩
  rw [show b' 102 6 = b 102 6 from fb 102 6 (by decide) (by decide), show b' 106 = b 106 from frO fb 106 (by decide) (by decide), show b' 107 = b 107 from frO fb 107 (by decide) (by decide), show b' 108 = b 108 from frO fb 108 (by decide) (by decide)]
  by_cases hj1 : j = c1 - 1
  · subst hj1
    rw [show f' + (c1 - 1) = f' + c1 - 1 by omega]
    exact gSc_cp h0 x6 x5 y4
  · have hne := md_6 (f := f') (c := c1) (j := j) hf' (by omega) (by omega)
    obtain ⟨z1, z2⟩ := x7 ((f' + j) % 6) (Nat.mod_lt _ (by decide)) hne
    rw [z1, z2]
    have hh := hs (j + d) (hcd j (by omega))
    rw [hfd j] at hh
    exact gSc_cp hh (fun _ _ _ => rfl) (fun _ _ => rfl) (fun k hk => y5 j k (by omega) hk)
theorem sim_undo : Sim fH_undo fM_undo := by
  refine sim_w [0, 15] (fun _ => rfl) fr_H_undo fr_M_undo (by decide) (by decide) (fun a b hI => ?_)
  obtain ⟨f, c, hf, hc, e1, e2, e3, hs⟩ : gPs a b := hI 15
  unfold fH_undo fPa_goBack
  rw [e2]
  by_cases h : c = 0
  · subst h
    rw [if_neg (by decide), if_pos (show b 102 3 = 0 from e3)]
    exact w2_s ⟨rfl, al2 (hI 0) (hI 15)⟩
  rw [if_pos (show (1 : Int32) ≤ nI c from nI_le (a := 1) (by omega) (by omega)), if_neg (show ¬ b 102 3 = 0 by rw [e3]; exact nI_ne0 (by omega) (by omega)), e_newest hf hc (by omega) e1 e2, br_s]
  have hm : (f + c - 1) % 6 < 6 := Nat.mod_lt _ (by decide)
  obtain ⟨p1, p2⟩ := pk_rw _ hm
  obtain ⟨τ, x1, x2, x3⟩ := e_become (o := 1) (q := 7 + 2 * ((f + c - 1) % 6)) (show hz_rf 1 0 = 2 from rfl) p1 (by omega) (by omega) (by omega) (by omega) a
  have fr := fr_Sc_become 1 (7 + 2 * ((f + c - 1) % 6)) a τ x1
  have t5 : ∀ k, τ 5 k = a 5 k := fun k => fr 5 k (by decide) (by simp)
  have hw : ∀ x, 7 ≤ x → τ x = a x := fun x hx => funext fun k => fr x k (by simp [hz1]; omega) (by simp; omega)
  obtain ⟨c, rfl⟩ : ∃ y, c = y + 1 := ⟨c - 1, by omega⟩
  rw [gk, if_pos p2, x1, bv_s, bnd_e, gb_1, bi_s, gb_1, bnd_e, t5, e2, e3, nI_pred]
  refine w2_1 (w1_s ?_)
  refine w1_lp (fun k v t => ∃ i, i + k = 50 ∧ v = nI i ∧ t 102 3 = nI c ∧ t 102 6 = b 102 6 ∧ t 104 = b 104 ∧ t 106 = b 106 ∧ t 107 = b 107 ∧ t 108 = b 108 ∧ ∀ j, j < i → t 103 j = b 104 (50 * c + j)) ?_ FU 50 _ _ (FU_lt (by omega)) ⟨0, by omega, rfl, pt_s _ _ _ _, ptf _ _ _ _ _ _ (by decide), ptq _ _ _ (by decide), ptq _ _ _ (by decide), ptq _ _ _ (by decide), ptq _ _ _ (by decide), fun j hj => by omega⟩
  rintro q k v t ⟨i, hi, rfl, t3, t6, t104, t106, t107, t108, t9⟩ hq
  simp only [bnd_e]
  refine w1_if (fun h => ?_) (fun h => ?_)
  · have h := (nI_leI (a := 50) (b := i) (by decide) (by omega)).mp h
    rw [gb_1]
    refine w1_s ⟨rfl, al2 ?_ ?_⟩
    · show gSc _ _ _ _ _ _ _
      dsimp only
      rw [t106, t107, t108, t6, ptq _ _ _ (show (1 : Nat) ≠ 5 by decide), ptq _ _ _ (show (2 : Nat) ≠ 5 by decide)]
      have hh := hs c (by omega)
      exact gSc_cp hh x3 x2 (fun k hk => t9 k (by omega))
    · refine ⟨f, c, hf, by omega, ?_, pt_s _ _ _ _, t3, fun j hj => ?_⟩
      · rw [pt_k _ _ _ (by decide), t5]; exact e1
      · show gSc (pt τ 5 2 (nI c) _) (pt τ 5 2 (nI c) _) _ _ _ _ _
        dsimp only
        rw [ptq _ _ _ (by omega), ptq _ _ _ (by omega), hw _ (by omega), hw _ (by omega), t6, t106, t107, t108]
        have := hs j (by omega)
        rw [← t104] at this
        exact this
  · have h : ¬ 50 ≤ i := fun q => h ((nI_leI (a := 50) (b := i) (by decide) (by omega)).mpr q)
    rw [t3, n50, gd_n _ (show 50 * c + i < 300 by omega) (by decide), gd_n _ (show i < 50 by omega) (by decide), ix_n (by omega), ix_n (by omega), nI_1]
    refine hq (k - 1) _ _ (by omega) ⟨i + 1, by omega, rfl, by rw [pt_o _ _ _ _ (by decide)]; exact t3, by rw [pt_o _ _ _ _ (by decide)]; exact t6, by rw [ptq _ _ _ (by decide)]; exact t104, by rw [ptq _ _ _ (by decide)]; exact t106, by rw [ptq _ _ _ (by decide)]; exact t107, by rw [ptq _ _ _ (by decide)]; exact t108, fun j hj => ?_⟩
    by_cases e : j = i
    · subst e
      rw [pt_s, t104]
    · rw [pt_k _ _ _ e]
      exact t9 j (by omega)
