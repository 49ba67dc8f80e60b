/-! scenes -/
theorem e_Stell (o : Nat) {p j : Nat} (hp : p < 10) (hj : j < 8) (s : Sg) : fSc_tell o (nI p) (nI j) s = some (s (hz_rf o 0) (p * 8 + j), s) := by
  unfold fSc_tell
  rw [if_neg (nI_pos (by omega)), if_neg (show ¬ (10 : Int32) ≤ nI p from nI_ge hp (by decide)), if_neg (nI_pos (by omega)), if_pos (show nI j < 8 from nI_lt hj (by decide)), show (8 : Int32) = nI 8 from rfl, pk_mul, nI_add, gd_n _ (show p * 8 + j < 80 by omega) (by decide), ix_n (by omega)]
theorem e_Sput (o : Nat) {p j : Nat} (hp : p < 10) (hj : j < 8) (v : Int32) (s : Sg) : fSc_put o (nI p) (nI j) v s = some (pt s (hz_rf o 0) (p * 8 + j) v) := by
  unfold fSc_put
  rw [if_neg (nI_pos (by omega)), if_neg (show ¬ (10 : Int32) ≤ nI p from nI_ge hp (by decide)), if_neg (nI_pos (by omega)), if_neg (show ¬ (8 : Int32) ≤ nI j from nI_ge hj (by decide)), show (8 : Int32) = nI 8 from rfl, pk_mul, nI_add, gd_n _ (show p * 8 + j < 80 by omega) (by decide), ix_n (by omega), bnd_e]
theorem e_St0 (o : Nat) {p : Nat} (hp : p < 10) (s : Sg) : fSc_tell o (nI p) 0 s = some (s (hz_rf o 0) (p * 8 + 0), s) := e_Stell o hp (show 0 < 8 by decide) s
theorem e_Sp0 (o : Nat) {p : Nat} (hp : p < 10) (v : Int32) (s : Sg) : fSc_put o (nI p) 0 v s = some (pt s (hz_rf o 0) (p * 8 + 0) v) := e_Sput o hp (show 0 < 8 by decide) v s
theorem e_St1 (o : Nat) {p : Nat} (hp : p < 10) (s : Sg) : fSc_tell o (nI p) 1 s = some (s (hz_rf o 0) (p * 8 + 1), s) := e_Stell o hp (show 1 < 8 by decide) s
theorem e_Sp1 (o : Nat) {p : Nat} (hp : p < 10) (v : Int32) (s : Sg) : fSc_put o (nI p) 1 v s = some (pt s (hz_rf o 0) (p * 8 + 1) v) := e_Sput o hp (show 1 < 8 by decide) v s
theorem e_St2 (o : Nat) {p : Nat} (hp : p < 10) (s : Sg) : fSc_tell o (nI p) 2 s = some (s (hz_rf o 0) (p * 8 + 2), s) := e_Stell o hp (show 2 < 8 by decide) s
theorem e_Sp2 (o : Nat) {p : Nat} (hp : p < 10) (v : Int32) (s : Sg) : fSc_put o (nI p) 2 v s = some (pt s (hz_rf o 0) (p * 8 + 2) v) := e_Sput o hp (show 2 < 8 by decide) v s
theorem e_St3 (o : Nat) {p : Nat} (hp : p < 10) (s : Sg) : fSc_tell o (nI p) 3 s = some (s (hz_rf o 0) (p * 8 + 3), s) := e_Stell o hp (show 3 < 8 by decide) s
theorem e_Sp3 (o : Nat) {p : Nat} (hp : p < 10) (v : Int32) (s : Sg) : fSc_put o (nI p) 3 v s = some (pt s (hz_rf o 0) (p * 8 + 3) v) := e_Sput o hp (show 3 < 8 by decide) v s
theorem e_St4 (o : Nat) {p : Nat} (hp : p < 10) (s : Sg) : fSc_tell o (nI p) 4 s = some (s (hz_rf o 0) (p * 8 + 4), s) := e_Stell o hp (show 4 < 8 by decide) s
theorem e_Sp4 (o : Nat) {p : Nat} (hp : p < 10) (v : Int32) (s : Sg) : fSc_put o (nI p) 4 v s = some (pt s (hz_rf o 0) (p * 8 + 4) v) := e_Sput o hp (show 4 < 8 by decide) v s
theorem e_St5 (o : Nat) {p : Nat} (hp : p < 10) (s : Sg) : fSc_tell o (nI p) 5 s = some (s (hz_rf o 0) (p * 8 + 5), s) := e_Stell o hp (show 5 < 8 by decide) s
theorem e_Sp5 (o : Nat) {p : Nat} (hp : p < 10) (v : Int32) (s : Sg) : fSc_put o (nI p) 5 v s = some (pt s (hz_rf o 0) (p * 8 + 5) v) := e_Sput o hp (show 5 < 8 by decide) v s
theorem e_St6 (o : Nat) {p : Nat} (hp : p < 10) (s : Sg) : fSc_tell o (nI p) 6 s = some (s (hz_rf o 0) (p * 8 + 6), s) := e_Stell o hp (show 6 < 8 by decide) s
theorem e_Sp6 (o : Nat) {p : Nat} (hp : p < 10) (v : Int32) (s : Sg) : fSc_put o (nI p) 6 v s = some (pt s (hz_rf o 0) (p * 8 + 6) v) := e_Sput o hp (show 6 < 8 by decide) v s
theorem e_St7 (o : Nat) {p : Nat} (hp : p < 10) (s : Sg) : fSc_tell o (nI p) 7 s = some (s (hz_rf o 0) (p * 8 + 7), s) := e_Stell o hp (show 7 < 8 by decide) s
theorem e_Sp7 (o : Nat) {p : Nat} (hp : p < 10) (v : Int32) (s : Sg) : fSc_put o (nI p) 7 v s = some (pt s (hz_rf o 0) (p * 8 + 7) v) := e_Sput o hp (show 7 < 8 by decide) v s
/-- is there such a person -/
def hsI (v N : Int32) : Int32 := if v < 0 then 0 else if N ≤ v then 0 else 1
theorem e_has (o : Nat) (v : Int32) (s : Sg) : fSc_has o v s = some (hsI v (s o 1), s) := by
  unfold fSc_has hsI
  split
  · rfl
  · split <;> rfl
theorem e_isPerson (v : Int32) (s : Sg) : fM_isPerson v s = some (hsI v (s 102 6), s) := by
  unfold fM_isPerson hsI
  split
  · rfl
  · split <;> rfl
theorem hs_1 {v : Int32} {n : Nat} (hn : n < 2 ^ 31) (h : ¬ hsI v (nI n) = 0) : ∃ p, p < n ∧ v = nI p := by
  unfold hsI at h
  split at h
  · exact absurd rfl h
  · rename_i h0
    obtain ⟨p, hp, rfl⟩ := nI_of h0
    split at h
    · exact absurd rfl h
    · rename_i h1
      rw [nI_leI hn hp] at h1
      exact ⟨p, by omega, rfl⟩
theorem hs_p {p n : Nat} (h : p < n) (hn : n < 2 ^ 31) : hsI (nI p) (nI n) = 1 := by
  unfold hsI
  rw [if_neg (nI_pos (by omega)), if_neg (nI_ge h hn)]
theorem e_allowed {k : Nat} (hk : k ≤ 4) (v : Int32) (s : Sg) : fH_allowed (nI k) v s = some (wi v (loV.getD k 0) (hiV.getD k 0), s) := by
  unfold fH_allowed
  rw [e_within, bi_s, if_neg (show ¬ wi (nI k) 0 4 = 0 from fun h => by rw [show (0 : Int32) = nI 0 from rfl, show (4 : Int32) = nI 4 from rfl, wi_n (by omega) (by decide) (by decide), if_pos (by omega)] at h; exact absurd h (by decide)), gd_n _ (show k < 5 by omega) (by decide), gd_n _ (show k < 5 by omega) (by decide), ix_n (by omega), e_within, bi_s]
  rcases wi_01 v (loV.getD k 0) (hiV.getD k 0) with h | h
  · rw [h]; rfl
  · rw [h]; rfl
theorem e_al0 (v : Int32) (s : Sg) : fH_allowed 0 v s = some (wi v 0 9, s) := e_allowed (k := 0) (by decide) v s
theorem e_al1 (v : Int32) (s : Sg) : fH_allowed 1 v s = some (wi v 1 9, s) := e_allowed (k := 1) (by decide) v s
theorem e_al2 (v : Int32) (s : Sg) : fH_allowed 2 v s = some (wi v 0 3, s) := e_allowed (k := 2) (by decide) v s
theorem e_al3 (v : Int32) (s : Sg) : fH_allowed 3 v s = some (wi v 0 99, s) := e_allowed (k := 3) (by decide) v s
theorem e_al4 (v : Int32) (s : Sg) : fH_allowed 4 v s = some (wi v 0 99, s) := e_allowed (k := 4) (by decide) v s
theorem e_alN {u : Int32} (h : wi u 0 4 = 0) (v : Int32) (s : Sg) : fH_allowed u v s = some (0, s) := by
  unfold fH_allowed
  rw [e_within, bi_s, if_pos h]; rfl
theorem gPe_c {g g' m m' : Nat → Int32} {vo le pa : Int32} {p : Nat} (h1 : ∀ j, j < 8 → g' (p * 8 + j) = g (p * 8 + j)) (h2 : m' (10 + p) = m (10 + p)) (h3 : m' (20 + p) = m (20 + p)) (h4 : m' (30 + p) = m (30 + p)) (h5 : m' (40 + p) = m (40 + p)) (h : gPe g m vo le pa p) : gPe g' m' vo le pa p := by
  unfold gPe at h ⊢
  rw [h2, h3, h4, h5, show g' (p * 8) = g (p * 8) from h1 0 (by decide), h1 1 (by decide), h1 2 (by decide), h1 3 (by decide), h1 4 (by decide), h1 5 (by decide), h1 6 (by decide), h1 7 (by decide)]
  exact h
theorem hz1 : hz_rf 1 0 = 2 := rfl
theorem n10 (p : Nat) : 10 + nI p = nI (10 + p) := nI_add 10 p
theorem n20 (p : Nat) : 20 + nI p = nI (20 + p) := nI_add 20 p
theorem n30 (p : Nat) : 30 + nI p = nI (30 + p) := nI_add 30 p
theorem n40 (p : Nat) : 40 + nI p = nI (40 + p) := nI_add 40 p
theorem gd50 {R : Type} (f : Option R) {k : Nat} (h : k < 50) : gd (nI k) 50 f = f := gd_n f h (by decide)
theorem nI_lt10 {n : Nat} (h : n < 10) : nI n < 10 := nI_lt h (by decide)
theorem sim_person (x y z : Int32) : Sim (fH_person x y z) (fM_person x y z) := by
  refine sim_on [0, 1, 15] (fun _ => rfl) (fr_H_person x y z) (fr_M_person x y z) (by decide) (by decide) (fun a b hI => ?_)
  have h0 : gSc (a 1) (a 2) (b 102 6) (b 103) (b 106) (b 107) (b 108) := hI 0
  obtain ⟨n, hn, k1, k2, ⟨f2, f4, f5, f6, f7, f8, f9, f10, f11, f12⟩, ⟨b1, b2, b3, b4, b5, b6, b7⟩, hp⟩ := h0
  obtain ⟨cn, N, hc1, hc2, hc3, hc4, hc5, hc6⟩ : gCl (a 25) (a 26) (b 102 34) (b 120) (b 102 6) := hI 1
  unfold fH_person
  simp only [e_al0, e_al1, e_al2, e_isIn, bi_s, bnd_e, if_true]
  by_cases g1 : wi x 0 9 = 0
  · simp only [if_pos g1]
    exact ⟨_, a, b, rfl, rfl, al3 (hI 0) (hI 1) (hI 15)⟩
  by_cases g2 : wi y 1 9 = 0
  · simp only [if_neg g1, if_pos g2]
    exact ⟨_, a, b, rfl, rfl, al3 (hI 0) (hI 1) (hI 15)⟩
  by_cases g3 : wi z 0 3 = 0
  · simp only [if_neg g1, if_neg g2, if_pos g3]
    exact ⟨_, a, b, rfl, rfl, al3 (hI 0) (hI 1) (hI 15)⟩
  simp only [if_neg g1, if_neg g2, if_neg g3, show ¬ ((1 : Int32) = 0) by decide, if_false, k2]
  by_cases g4 : n = 10
  · subst g4
    rw [if_neg (by decide), if_pos (show b 102 6 = 10 from k1)]
    exact ⟨_, a, b, rfl, rfl, al3 (hI 0) (hI 1) (hI 15)⟩
  have hn' : n < 10 := by omega
  rw [if_pos (nI_lt10 hn'), if_neg (show ¬ b 102 6 = 10 from by rw [k1]; exact nI_ne 10 g4 (by omega) (by decide))]
  simp only [e_Sp0 1 hn', e_Sp1 1 hn', e_Sp2 1 hn', e_Sp3 1 hn', e_Sp7 1 hn', fSc_sendHome, e_Sp4 1 hn', e_Sp5 1 hn', e_Sp6 1 hn', bv_s, e_forget, hz1]
  have q6 : ∀ (s : Sg) (o k : Nat) (v : Int32), o ≠ 102 → pt s o k v 102 6 = s 102 6 := fun s o k v h => pt_o s k 6 v (Ne.symm h)
  simp only [q6 _ _ _ _ (show (106 : Nat) ≠ 102 by decide), q6 _ _ _ _ (show (107 : Nat) ≠ 102 by decide), q6 _ _ _ _ (show (108 : Nat) ≠ 102 by decide), q6 _ _ _ _ (show (103 : Nat) ≠ 102 by decide), k1, gd_n _ hn' (show (10 : Nat) < 2 ^ 31 by decide), n10, n20, n30, n40, gd50 _ (show 10 + n < 50 by omega), gd50 _ (show 20 + n < 50 by omega), gd50 _ (show 30 + n < 50 by omega), gd50 _ (show 40 + n < 50 by omega), ix_n (show n < 2 ^ 31 by omega), ix_n (show 10 + n < 2 ^ 31 by omega), ix_n (show 20 + n < 2 ^ 31 by omega), ix_n (show 30 + n < 2 ^ 31 by omega), ix_n (show 40 + n < 2 ^ 31 by omega), nI_1]
  rw [ptf _ 102 3 102 6 _ (by decide), pt_s, nI_pred]
  refine ⟨_, _, _, rfl, rfl, al3 ?_ ?_ ?_⟩
  · obtain ⟨x', _, hx, rfl⟩ := wi_1 (a := 0) (b := 9) (by decide) (by decide) g1
    obtain ⟨y', _, hy, rfl⟩ := wi_1 (a := 1) (b := 9) (by decide) (by decide) g2
    obtain ⟨z', _, hz, rfl⟩ := wi_1 (a := 0) (b := 3) (by decide) (by decide) g3
    have hm : ∀ k, k < 10 → (pt (pt (pt (pt (pt (pt (pt (pt (pt b 106 n (nI x')) 107 n (nI y')) 108 n (nI z')) 103 (10 + n) 0) 103 (20 + n) 0) 103 (30 + n) 0) 103 (40 + n) 0) 102 6 (nI (n + 1))) 102 3 0) 103 k = b 103 k := by
      intro k hk
      rw [pt_o _ _ _ _ (by decide), pt_o _ _ _ _ (by decide), pt_k _ _ _ (by omega), pt_k _ _ _ (by omega), pt_k _ _ _ (by omega), pt_k _ _ _ (by omega), pt_o _ _ _ _ (by decide), pt_o _ _ _ _ (by decide), pt_o _ _ _ _ (by decide)]
    refine ⟨n + 1, by omega, ?_, ?_, ?_, ?_, fun p hpn => ?_⟩
    · rw [ptf _ _ _ _ _ _ (by decide), pt_s]
    · show pt a 1 1 (nI (n + 1)) 1 1 = _
      rw [pt_s]
    · rw [hm 5 (by decide), hm 6 (by decide), hm 7 (by decide), hm 8 (by decide), hm 9 (by decide), hm 4 (by decide), hm 3 (by decide), hm 0 (by decide), hm 1 (by decide), hm 2 (by decide)]
      exact ⟨f2, f4, f5, f6, f7, f8, f9, f10, f11, f12⟩
    · rw [hm 5 (by decide), hm 6 (by decide), hm 7 (by decide), hm 4 (by decide), hm 3 (by decide), hm 2 (by decide)]
      exact ⟨b1, b2, (by obtain ⟨k, hk, e⟩ := b3; exact ⟨k, by omega, e⟩), b4, b5, b6, b7⟩
    · by_cases e : p = n
      · subst e
        unfold gPe
        have w10 : ¬ (10 + p = 20 + p) ∧ ¬ (10 + p = 30 + p) ∧ ¬ (10 + p = 40 + p) ∧ ¬ (20 + p = 30 + p) ∧ ¬ (20 + p = 40 + p) ∧ ¬ (30 + p = 40 + p) := by omega
        simp [pt, w10]
        exact ⟨⟨x', hx, rfl⟩, ⟨y', hy, rfl⟩, ⟨z', hz, rfl⟩, ⟨0, by omega, rfl⟩, ⟨0, by omega, rfl⟩⟩
      · have hlt : p < n := by omega
        rw [show ∀ (s : Sg), pt (pt s 102 6 (nI (n + 1))) 102 3 0 106 = s 106 from fun s => by rw [ptq _ _ _ (by decide), ptq _ _ _ (by decide)]]
        have hv : ∀ q : Nat, q = 106 ∨ q = 107 ∨ q = 108 → (pt (pt (pt (pt (pt (pt (pt (pt (pt b 106 n (nI x')) 107 n (nI y')) 108 n (nI z')) 103 (10 + n) 0) 103 (20 + n) 0) 103 (30 + n) 0) 103 (40 + n) 0) 102 6 (nI (n + 1))) 102 3 0) q p = b q p := by
          intro q hq
          rw [pt_o _ _ _ _ (by omega), pt_o _ _ _ _ (by omega), pt_o _ _ _ _ (by omega), pt_o _ _ _ _ (by omega), pt_o _ _ _ _ (by omega), pt_o _ _ _ _ (by omega), ptf _ _ _ _ _ _ (by omega), ptf _ _ _ _ _ _ (by omega), ptf _ _ _ _ _ _ (by omega)]
        have hv6 := hv 106 (by omega)
        rw [pt_o _ _ _ _ (by decide), pt_o _ _ _ _ (by decide)] at hv6
        rw [hv6, hv 107 (by omega), hv 108 (by omega)]
        refine gPe_c (fun j hj => ?_) ?_ ?_ ?_ ?_ (hp p hlt)
        · rw [pt_o _ _ _ _ (by decide), pt_k _ _ _ (by omega), pt_k _ _ _ (by omega), pt_k _ _ _ (by omega), pt_k _ _ _ (by omega), pt_k _ _ _ (by omega), pt_k _ _ _ (by omega), pt_k _ _ _ (by omega), pt_k _ _ _ (by omega), pt_o _ _ _ _ (by decide)]
        all_goals rw [pt_o _ _ _ _ (by decide), pt_o _ _ _ _ (by decide), pt_k _ _ _ (by omega), pt_k _ _ _ (by omega), pt_k _ _ _ (by omega), pt_k _ _ _ (by omega), pt_o _ _ _ _ (by decide), pt_o _ _ _ _ (by decide), pt_o _ _ _ _ (by decide)]
  · refine ⟨cn, N + 1, hc1, ?_, hc3, hc4, ?_, fun i hi => ?_⟩
    · have := hc5.symm.trans k1
      have := nI_inj (by omega) (by omega) this
      omega
    · rw [ptf _ _ _ _ _ _ (by decide), pt_s]
      have := hc5.symm.trans k1
      rw [nI_inj (by omega) (by omega) this]
    · obtain ⟨u1, ⟨w, hw, u2⟩, u3⟩ := hc6 i hi
      exact ⟨u1, ⟨w, by omega, u2⟩, u3⟩
  · exact ps_no (hI 15) rfl (pt_s _ _ _ _) (pt_s _ _ _ _)
