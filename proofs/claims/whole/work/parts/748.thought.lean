/-! in thought -/
theorem e_thinks (b : Sg) : W1 (fM_thinks b) (fun t => t 102 5 = 1 ∧ (∀ k, k < 50 → t 105 k = b 103 k) ∧ (∀ q, q ≠ 102 → q ≠ 105 → t q = b q) ∧ ∀ k, k ≠ 5 → t 102 k = b 102 k) := by
  unfold fM_thinks
  refine w1_lp (fun k u t => (∀ q, q ≠ 105 → t q = b q) ∧ ∃ i, i + k = 50 ∧ u = nI i ∧ ∀ j, j < i → t 105 j = b 103 j) ?_ FU 50 _ _ (FU_lt (by omega)) ⟨fun _ _ => rfl, 0, by omega, rfl, fun j hj => by omega⟩
  rintro q k u t ⟨ht, i, hi, rfl, h⟩ hq
  simp only [bnd_x, gb_1]
  refine w1_if (fun c => ?_) (fun c => ?_)
  · have c := (nI_leI (a := 50) (b := i) (by decide) (by omega)).mp c
    refine w1_s ⟨pt_s _ _ _ _, fun k hk => ?_, fun q q1 q2 => ?_, fun k hk => ?_⟩
    · rw [pt_o _ _ _ _ (by decide)]; exact h k (by omega)
    · rw [ptq _ _ _ q1]; exact ht q q2
    · rw [pt_k _ _ _ hk, ht 102 (by decide)]
  · have c : ¬ 50 ≤ i := fun q => c ((nI_leI (a := 50) (b := i) (by decide) (by omega)).mpr q)
    rw [gd_n _ (show i < 50 by omega) (by decide), gd_n _ (show i < 50 by omega) (by decide), ix_n (by omega), nI_1]
    refine hq (k - 1) _ _ (by omega) ⟨fun q q1 => by rw [ptq _ _ _ q1]; exact ht q q1, i + 1, by omega, rfl, fun j hj => ?_⟩
    by_cases e : j = i
    · subst e; rw [pt_s, ht 103 (by decide)]
    · rw [pt_k _ _ _ e]; exact h j (by omega)
theorem e_ends (b : Sg) : W1 (fM_endsThought b) (fun t => t 102 5 = 0 ∧ (∀ k, k < 50 → t 103 k = b 105 k) ∧ (∀ q, q ≠ 102 → q ≠ 103 → t q = b q) ∧ ∀ k, k ≠ 5 → t 102 k = b 102 k) := by
  unfold fM_endsThought
  refine w1_lp (fun k u t => (∀ q, q ≠ 103 → t q = b q) ∧ ∃ i, i + k = 50 ∧ u = nI i ∧ ∀ j, j < i → t 103 j = b 105 j) ?_ FU 50 _ _ (FU_lt (by omega)) ⟨fun _ _ => rfl, 0, by omega, rfl, fun j hj => by omega⟩
  rintro q k u t ⟨ht, i, hi, rfl, h⟩ hq
  simp only [bnd_x, gb_0]
  refine w1_if (fun c => ?_) (fun c => ?_)
  · have c := (nI_leI (a := 50) (b := i) (by decide) (by omega)).mp c
    refine w1_s ⟨pt_s _ _ _ _, fun k hk => ?_, fun q q1 q2 => ?_, fun k hk => ?_⟩
    · rw [pt_o _ _ _ _ (by decide)]; exact h k (by omega)
    · rw [ptq _ _ _ q1]; exact ht q q2
    · rw [pt_k _ _ _ hk, ht 102 (by decide)]
  · have c : ¬ 50 ≤ i := fun q => c ((nI_leI (a := 50) (b := i) (by decide) (by omega)).mpr q)
    rw [gd_n _ (show i < 50 by omega) (by decide), gd_n _ (show i < 50 by omega) (by decide), ix_n (by omega), nI_1]
    refine hq (k - 1) _ _ (by omega) ⟨fun q q1 => by rw [ptq _ _ _ q1]; exact ht q q1, i + 1, by omega, rfl, fun j hj => ?_⟩
    by_cases e : j = i
    · subst e; rw [pt_s, ht 105 (by decide)]
    · rw [pt_k _ _ _ e]; exact h j (by omega)
/-- the thought begins: the scene in thought is the scene as it is -/
theorem th_beg {a b : Sg} (hI : Inv a b) : ∃ n a1 b1, fSc_become 3 1 a = some a1 ∧ fM_thinks b = some b1 ∧ BF a1 b1 3 n ∧ PI a1 b1 3 n a1 b1 ∧ RFl b1 3 0 ∧ a 1 1 = nI n ∧ b 102 6 = nI n ∧ (∀ q, q ≠ 3 → q ≠ 4 → a1 q = a q) ∧ (∀ k, k < 50 → b1 105 k = b 103 k) ∧ (∀ q, q ≠ 102 → q ≠ 105 → b1 q = b q) ∧ (∀ k, k ≠ 5 → b1 102 k = b 102 k) := by
  obtain ⟨n, hB, hP, h5⟩ := inv_bf hI
  obtain ⟨a1, x1, x2, x3⟩ := e_become (o := 3) (q := 1) (show hz_rf 3 0 = 4 from rfl) (show hz_rf 1 0 = 2 from rfl) (by decide) (by decide) (by decide) (by decide) a
  obtain ⟨b1, y1, y2, y3, y4, y5⟩ := e_thinks b
  have fr := fr_Sc_become 3 1 a a1 x1
  have aq : ∀ q, q ≠ 3 → q ≠ 4 → a1 q = a q := fun q q1 q2 => funext fun k => fr q k (by simp [show hz_rf 3 0 = 4 from rfl]; exact q2) (by simp; omega)
  obtain ⟨_, hn, k1, hL, hK, hC, hS⟩ := hB
  refine ⟨n, a1, b1, x1, y1, ⟨Or.inr rfl, hn, by rw [y5 6 (by decide)]; exact k1, ?_, ?_, ?_, ?_⟩, ⟨fun _ _ _ _ _ _ => rfl, ⟨rfl, rfl⟩, fun _ _ _ _ _ => rfl, ?_, ?_⟩, Or.inr ⟨rfl, y2⟩, (pi_sf ⟨Or.inl rfl, hn, k1, hL, hK, hC, hS⟩ hP).1, k1, aq, y3, y4, y5⟩
  · rw [aq 20 (by decide) (by decide), aq 21 (by decide) (by decide), aq 22 (by decide) (by decide), aq 23 (by decide) (by decide), y4 112 (by decide) (by decide), y4 113 (by decide) (by decide), y4 114 (by decide) (by decide), y4 115 (by decide) (by decide), y4 116 (by decide) (by decide), y4 117 (by decide) (by decide), y4 118 (by decide) (by decide)]
    exact hL
  · exact (Grp_keep (b := b) (b' := b) 18 (show Grp 18 a b from hK) (fun o ho => by cases ho) (fun x hx => by rw [aq x.1 (by revert hx; revert x; decide) (by revert hx; revert x; decide)]) (fun o ho => by cases ho) (fun x hx => by cases hx) : Grp 18 a1 b)
  · rw [aq 25 (by decide) (by decide), aq 26 (by decide) (by decide), y5 34 (by decide), y4 120 (by decide) (by decide), y5 6 (by decide)]
    exact hC
  · rw [aq 27 (by decide) (by decide), aq 28 (by decide) (by decide), y5 36 (by decide), y4 121 (by decide) (by decide)]
    exact hS
  · rw [y4 103 (by decide) (by decide), y4 106 (by decide) (by decide), y4 107 (by decide) (by decide), y4 108 (by decide) (by decide)]
    exact gSc_cp hP.2.2.2.1 x3 x2 (fun _ _ => rfl)
  · rw [aq 64 (by decide) (by decide), y4 109 (by decide) (by decide)]
    exact hP.2.2.2.2
theorem pk_th1 : ∀ i, i < 20 → i ∈ [0, 13, 18, 19] ∨ ∀ o ∈ rC i, o ∉ [3, 4, 24, 63, 64] := by decide
theorem pk_th1' : ∀ i, i < 20 → i ∈ [0, 13, 18, 19] ∨ ∀ x ∈ rF i, x.1 ∉ [3, 4, 24, 63, 64] := by decide
theorem pk_th2 : ∀ i, i < 20 → i ∈ [0, 13, 18, 19] ∨ ∀ o ∈ rM i, o ∉ [102, 103, 105, 109, 123, 124] := by decide
theorem pk_th2' : ∀ i, i < 20 → i ∈ [0, 13, 18, 19] ∨ ∀ x ∈ rG i, x.1 ∉ [103, 105, 109, 123, 124] ∧ x ≠ (102, 5) := by decide
theorem pk_th3 : ∀ x ∈ rF 18, x.1 ≠ 3 ∧ x.1 ≠ 4 ∧ x.1 ≠ 24 ∧ x.1 ≠ 64 ∧ (x.1 ≠ 63 ∨ x = (63, 0) ∨ x = (63, 1)) := by decide
/-- the thought ends: all is as it was -/
theorem th_end {a b a1 b1 a2 b2 : Sg} {n : Nat} (hI : Inv a b) (aq : ∀ q, q ≠ 3 → q ≠ 4 → a1 q = a q) (y3 : ∀ k, k < 50 → b1 105 k = b 103 k) (y4 : ∀ q, q ≠ 102 → q ≠ 105 → b1 q = b q) (y5 : ∀ k, k ≠ 5 → b1 102 k = b 102 k) (h : PI a1 b1 3 n a2 b2) : W1 (fM_endsThought b2) (fun b3 => Inv a2 b3) := by
  refine w1_m (e_ends b2) (fun b3 ⟨z2, z3, z4, z5⟩ => ?_)
  obtain ⟨h1, h2, h3, _, h5⟩ := h
  have A : ∀ q, q ≠ 3 → q ≠ 4 → q ≠ 24 → q ≠ 63 → q ≠ 64 → a2 q = a q := fun q q1 q2 q3 q4 q5 => by rw [h1 q q1 q2 q3 q4 q5, aq q q1 q2]
  have B : ∀ q, q ≠ 102 → q ≠ 103 → q ≠ 105 → q ≠ 109 → q ≠ 123 → q ≠ 124 → b3 q = b q := fun q q1 q2 q3 q4 q5 q6 => by rw [z4 q q1 q2, h3 q q2 q4 q5 q6, y4 q q1 q3]
  have B2 : ∀ k, k ≠ 5 → b3 102 k = b 102 k := fun k hk => by rw [z5 k hk, h3 102 (by decide) (by decide) (by decide) (by decide), y5 k hk]
  have B3 : ∀ k, k < 50 → b3 103 k = b 103 k := fun k hk => by rw [z3 k hk, h3 105 (by decide) (by decide) (by decide) (by decide), y3 k hk]
  intro i
  by_cases hi : i < 20
  · by_cases i0 : i = 0
    · subst i0
      have h0 : gSc (a 1) (a 2) (b 102 6) (b 103) (b 106) (b 107) (b 108) := hI 0
      show gSc _ _ _ _ _ _ _
      rw [A 1 (by decide) (by decide) (by decide) (by decide) (by decide), A 2 (by decide) (by decide) (by decide) (by decide) (by decide), B2 6 (by decide), B 106 (by decide) (by decide) (by decide) (by decide) (by decide) (by decide), B 107 (by decide) (by decide) (by decide) (by decide) (by decide) (by decide), B 108 (by decide) (by decide) (by decide) (by decide) (by decide) (by decide)]
      exact gSc_cp h0 (fun _ _ _ => rfl) (fun _ _ => rfl) B3
    by_cases i13 : i = 13
    · subst i13
      show gBk _ _
      rw [z4 109 (by decide) (by decide)]
      exact h5
    by_cases i18 : i = 18
    · subst i18
      refine Grp_keep 18 (hI 18) (fun o ho => by cases ho) (fun x hx => ?_) (fun o ho => by cases ho) (fun x hx => by cases hx)
      obtain ⟨q1, q2, q3, q4, q5⟩ := pk_th3 x hx
      rcases q5 with q5 | q5 | q5
      · rw [A x.1 q1 q2 q3 q5 q4]
      · subst q5; exact h2.1.trans (by rw [aq 63 (by decide) (by decide)])
      · subst q5; exact h2.2.trans (by rw [aq 63 (by decide) (by decide)])
    by_cases i19 : i = 19
    · subst i19
      have h19 : b 102 5 = 0 ∧ ∀ k, k < 122 → b 111 k = nI (wdL.getD k 0) := hI 19
      refine ⟨z2, fun k hk => ?_⟩
      rw [B 111 (by decide) (by decide) (by decide) (by decide) (by decide) (by decide)]
      exact h19.2 k hk
    · have ni : i ∉ [0, 13, 18, 19] := by simp [i0, i13, i18, i19]
      have p1 := (pk_th1 i hi).resolve_left ni
      have p2 := (pk_th1' i hi).resolve_left ni
      have p3 := (pk_th2 i hi).resolve_left ni
      have p4 := (pk_th2' i hi).resolve_left ni
      have A' : ∀ q, q ∉ [3, 4, 24, 63, 64] → a2 q = a q := fun q hq => by
        simp only [List.mem_cons, List.not_mem_nil, or_false, not_or] at hq
        exact A q hq.1 hq.2.1 hq.2.2.1 hq.2.2.2.1 hq.2.2.2.2
      have B' : ∀ q, q ≠ 102 → q ∉ [103, 105, 109, 123, 124] → b3 q = b q := fun q h6 hq => by
        simp only [List.mem_cons, List.not_mem_nil, or_false, not_or] at hq
        exact B q h6 hq.1 hq.2.1 hq.2.2.1 hq.2.2.2.1 hq.2.2.2.2
      refine Grp_keep i (hI i) (fun o ho => A' o (p1 o ho)) (fun x hx => by rw [A' x.1 (p2 x hx)]) (fun o ho => ?_) (fun x hx => ?_)
      · have := p3 o ho
        rw [List.mem_cons, not_or] at this
        exact B' o this.1 this.2
      · obtain ⟨x1, x2⟩ := x
        obtain ⟨q1, q2⟩ := p4 (x1, x2) hx
        by_cases e : x1 = 102
        · subst e
          exact B2 x2 (fun h => q2 (by rw [h]))
        · show b3 x1 x2 = b x1 x2
          rw [B' x1 e q1]
  · exact Grp_big i (by omega)
theorem sim_earliest (v : Int32) : Sim (fH_earliest v) (fM_earliest v) := by
  refine sim_i (fun _ => rfl) (fun a b hI => ?_)
  obtain ⟨n, a1, b1, x1, y1, hB, hP, hR, k1, k2, aq, y3, y4, y5⟩ := th_beg hI
  have hn := hB.2.1
  unfold fH_earliest
  simp only [e_has, e_isPerson, k1, k2, bi_x]
  by_cases c0 : hsI v (nI n) = 0
  · rw [if_pos c0, if_pos c0]
    exact w2_s ⟨rfl, hI⟩
  rw [if_neg c0, if_neg c0, x1, bv_s, y1, bv_s]
  obtain ⟨p, hp, rfl⟩ := hs_1 (by omega) c0
  have hp10 : p < 10 := by omega
  refine w2_lp (fun k u s u' t => PI a1 b1 3 n s t ∧ ∃ i, i + k = 201 ∧ u = nI i ∧ u' = nI i) ?_ FU FU 201 _ _ _ _ (FU_lt (by omega)) (FU_lt (by omega)) ⟨hP, 0, by omega, rfl, rfl⟩
  rintro q q' k u s u' t ⟨hQ, i, hi, rfl, rfl⟩ hq
  have hpe := pi_pe hB hQ hp
  have c4 := hpe.2.2.2.2.2.2.2.2.2.2.2.2.1
  have fin : ∀ r : Int32, W2 (some (r, s)) (bv (fM_endsThought t) fun s9 => some (r, s9)) (fun x y => x.1 = y.1 ∧ Inv x.2 y.2) := fun r => w2_bvr (w1_m (th_end hI aq y3 y4 y5 hQ) (fun b3 h3 => w2_s ⟨rfl, h3⟩))
  rw [e_isUpC 3 hp10, bi_s, show hz_rf 3 0 = 3 + 1 from rfl, hpe.2.2.2.2.1, e_isUpM hp10, bi_s]
  simp only [bnd_x]
  by_cases c1 : 200 < i
  · have hi201 : i = 201 := by omega
    subst hi201
    simp only [if_neg (show ¬ nI 201 ≤ 200 by decide), if_pos (show (200 : Int32) < nI 201 by decide), ite_self]
    exact fin (-1)
  · simp only [if_neg (show ¬ (200 : Int32) < nI i from nI_nlt (b := i) (a := 200) (by omega) (by decide)), if_pos (show nI i ≤ 200 from nI_le (b := 200) (by omega) (by decide))]
    by_cases c5 : t 103 (20 + p) = 99
    · rw [if_neg (fun q => (lt99 c4).mp q c5), if_neg n10z, if_pos c5, if_neg n10z]
      exact fin (nI i)
    · rw [if_pos ((lt99 c4).mpr c5), if_pos rfl, if_neg c5, if_pos rfl, nI_1]
      exact w2_bv (w2_m (pi_climb hB hQ hp) (fun x y hx => hq (k - 1) _ _ _ _ (by omega) ⟨hx, i + 1, by omega, rfl, rfl⟩))
