/-! scenes that are copied; what undo goes back to -/
theorem gSc_cp {f f' g g' : Nat → Int32} {np : Int32} {m m' vo le pa : Nat → Int32} (h : gSc f g np m vo le pa) (hf : ∀ k, 1 ≤ k → k ≤ 12 → f' k = f k) (hg : ∀ k, k < 80 → g' k = g k) (hm : ∀ k, k < 50 → m' k = m k) : gSc f' g' np m' vo le pa := by
  obtain ⟨n, hn, k1, k2, x1, x2, hp⟩ := h
  refine ⟨n, hn, k1, by rw [hf 1 (by decide) (by decide)]; exact k2, ?_, ?_, fun p hpn => ?_⟩
  · rw [hm 5 (by decide), hm 6 (by decide), hm 7 (by decide), hm 8 (by decide), hm 9 (by decide), hm 4 (by decide), hm 3 (by decide), hm 0 (by decide), hm 1 (by decide), hm 2 (by decide), hf 2 (by decide) (by decide), hf 4 (by decide) (by decide), hf 5 (by decide) (by decide), hf 6 (by decide) (by decide), hf 7 (by decide) (by decide), hf 8 (by decide) (by decide), hf 9 (by decide) (by decide), hf 10 (by decide) (by decide), hf 11 (by decide) (by decide), hf 12 (by decide) (by decide)]
    exact x1
  · rw [hm 5 (by decide), hm 6 (by decide), hm 7 (by decide), hm 4 (by decide), hm 3 (by decide), hm 2 (by decide)]
    exact x2
  · exact gPe_c (fun j hj => hg _ (by omega)) (hm _ (by omega)) (hm _ (by omega)) (hm _ (by omega)) (hm _ (by omega)) (hp p hpn)
theorem e_cpy {s : Sg} {src dst l : Nat} {n : Nat} (hn : n ≤ l) (hl : l < 2 ^ 31) : cpy s src l 0 dst l 0 (nI n) = some (rs s dst (fun k => if k < n then s src k else s dst k)) := by
  unfold cpy
  rw [if_neg]
  · congr 1
    congr 1
    funext k
    rw [nI_clamp (by omega)]
    by_cases h : k < n
    · rw [if_pos h]
      exact pk_cpy_in (Nat.zero_le k) (by simpa using h) |>.trans (by simp)
    · rw [if_neg h]
      exact pk_cpy_out (Or.inr (by simpa using h))
  · rw [nI_clamp (by omega)]
    have : ¬ nI n < 0 := nI_pos (by omega)
    simp [this]
    omega
theorem e_become {o q ro rq : Nat} (h1 : hz_rf o 0 = ro) (h2 : hz_rf q 0 = rq) (d1 : o ≠ q) (d2 : ro ≠ o) (d3 : ro ≠ q) (d5 : rq ≠ ro) (s : Sg) : ∃ τ, fSc_become o q s = some τ ∧ (∀ k, k < 80 → τ ro k = s rq k) ∧ ∀ k, 1 ≤ k → k ≤ 12 → τ o k = s q k := by
  unfold fSc_become
  rw [h1, h2, show cpy s rq 80 0 ro 80 0 80 = _ from e_cpy (n := 80) (l := 80) (by decide) (by decide), bv_s]
  refine ⟨_, rfl, fun k hk => ?_, fun k hk1 hk2 => ?_⟩
  · simp [bnd_e, pt, rs, d2, hk]
  · have : k = 1 ∨ k = 2 ∨ k = 3 ∨ k = 4 ∨ k = 5 ∨ k = 6 ∨ k = 7 ∨ k = 8 ∨ k = 9 ∨ k = 10 ∨ k = 11 ∨ k = 12 := by omega
    rcases this with rfl | rfl | rfl | rfl | rfl | rfl | rfl | rfl | rfl | rfl | rfl | rfl <;> simp [pt, rs, Ne.symm d1, Ne.symm d3]
theorem pk_fm : ∀ x, x < 12 → 0 ≤ (nI x ^^^ 6) := by decide
theorem e_newest {a : Sg} {f c : Nat} (hf : f < 6) (hc : c ≤ 6) (h1 : 1 ≤ c) (e1 : a 5 1 = nI f) (e2 : a 5 2 = nI c) : fPa_newest a = some (7 + 2 * ((f + c - 1) % 6), a) := by
  unfold fPa_newest fJ9_floorMod_7cf53
  have e3 : nI f + nI c - 1 = nI (f + c - 1) := by
    rw [nI_add, show f + c = f + c - 1 + 1 by omega, nI_pred, Nat.add_sub_cancel]
  rw [e1, e2, e3, gz_n _ (by decide), if_pos (pk_fm _ (by omega)), bi_s, show (6 : Int32) = nI 6 from rfl, pk_rem (by omega) (by decide) (by decide)]
  have hm : (f + c - 1) % 6 < 6 := Nat.mod_lt _ (by decide)
  rw [gd_n _ hm (by decide), ix_n (by omega)]
  have : ∀ k, k < 6 → hz_rf 6 k = 7 + 2 * k := by decide
  rw [this _ hm]
theorem pk_rw : ∀ k, k < 6 → hz_rf (7 + 2 * k) 0 = 8 + 2 * k ∧ hz_kd (7 + 2 * k) = 5 := by decide
theorem keep_c {a : Sg} {f c : Nat} (hf : f < 6) (hc : c ≤ 6) (e1 : a 5 1 = nI f) (e2 : a 5 2 = nI c) : ∃ a' f' c', fPa_keep 1 a = some a' ∧ ((c < 6 ∧ f' = f ∧ c' = c + 1) ∨ (c = 6 ∧ f' = (f + 1) % 6 ∧ c' = 6)) ∧ a' 5 1 = nI f' ∧ a' 5 2 = nI c' ∧ (∀ k, k < 80 → a' (8 + 2 * ((f' + c' - 1) % 6)) k = a 2 k) ∧ (∀ k, 1 ≤ k → k ≤ 12 → a' (7 + 2 * ((f' + c' - 1) % 6)) k = a 1 k) ∧ ∀ x, x < 6 → x ≠ (f' + c' - 1) % 6 → a' (7 + 2 * x) = a (7 + 2 * x) ∧ a' (8 + 2 * x) = a (8 + 2 * x) := by
  have main : ∀ (s : Sg) (f' c' : Nat), f' < 6 → c' ≤ 6 → 1 ≤ c' → s 5 1 = nI f' → s 5 2 = nI c' → s 1 = a 1 → s 2 = a 2 → (∀ x, 7 ≤ x → s x = a x) → ∃ a', (br (fPa_newest s) fun r3 s2 => gk r3 5 (bv (fSc_become r3 1 s2) fun s5 => some s5)) = some a' ∧ a' 5 1 = nI f' ∧ a' 5 2 = nI c' ∧ (∀ k, k < 80 → a' (8 + 2 * ((f' + c' - 1) % 6)) k = a 2 k) ∧ (∀ k, 1 ≤ k → k ≤ 12 → a' (7 + 2 * ((f' + c' - 1) % 6)) k = a 1 k) ∧ ∀ x, x < 6 → x ≠ (f' + c' - 1) % 6 → a' (7 + 2 * x) = a (7 + 2 * x) ∧ a' (8 + 2 * x) = a (8 + 2 * x) := by
    intro s f' c' hf' hc' hc1 q1 q2 q3 q4 q5
    have hm : (f' + c' - 1) % 6 < 6 := Nat.mod_lt _ (by decide)
    obtain ⟨p1, p2⟩ := pk_rw _ hm
    obtain ⟨τ, x1, x2, x3⟩ := e_become (o := 7 + 2 * ((f' + c' - 1) % 6)) (q := 1) p1 (show hz_rf 1 0 = 2 from rfl) (by omega) (by omega) (by omega) (by omega) s
    rw [e_newest hf' hc' hc1 q1 q2, br_s, gk, if_pos p2, x1, bv_s]
    have fr := fr_Sc_become (7 + 2 * ((f' + c' - 1) % 6)) 1 s τ x1
    rw [p1] at fr
    have frn : ∀ o k, o ≠ 7 + 2 * ((f' + c' - 1) % 6) → o ≠ 8 + 2 * ((f' + c' - 1) % 6) → τ o k = s o k := fun o k n1 n2 => fr o k (by simpa using n2) (by simp [n1])
    refine ⟨τ, rfl, ?_, ?_, ?_, ?_, ?_⟩
    · rw [frn 5 1 (by omega) (by omega)]; exact q1
    · rw [frn 5 2 (by omega) (by omega)]; exact q2
    · intro k hk; rw [x2 k hk, q4]
    · intro k h1 h2; rw [x3 k h1 h2, q3]
    · intro x hx hne
      refine ⟨funext fun k => ?_, funext fun k => ?_⟩
      · rw [frn _ k (by omega) (by omega), q5 _ (by omega)]
      · rw [frn _ k (by omega) (by omega), q5 _ (by omega)]
  unfold fPa_keep
  simp only [bnd_e, e1, e2]
  by_cases h : c = 6
  · subst h
    rw [if_pos (by decide), gz_n _ (by decide), nI_1, show (6 : Int32) = nI 6 from rfl, pk_rem (by omega) (by decide) (by decide)]
    have hm : (f + 1) % 6 < 6 := Nat.mod_lt _ (by decide)
    obtain ⟨a', y1, y2, y3, y4, y5, y6⟩ := main (pt a 5 1 (nI ((f + 1) % 6))) ((f + 1) % 6) 6 hm (by omega) (by omega) (pt_s _ _ _ _) (by rw [pt_k _ _ _ (by decide)]; exact e2) (ptq _ _ _ (by decide)) (ptq _ _ _ (by decide)) (fun x hx => ptq _ _ _ (by omega))
    exact ⟨a', _, 6, y1, Or.inr ⟨rfl, rfl, rfl⟩, y2, y3, y4, y5, y6⟩
  · rw [if_neg (show ¬ (6 : Int32) ≤ nI c from nI_ge (b := 6) (by omega) (by decide)), nI_1]
    obtain ⟨a', y1, y2, y3, y4, y5, y6⟩ := main (pt a 5 2 (nI (c + 1))) f (c + 1) hf (by omega) (by omega) (by rw [pt_k _ _ _ (by decide)]; exact e1) (pt_s _ _ _ _) (ptq _ _ _ (by decide)) (ptq _ _ _ (by decide)) (fun x hx => ptq _ _ _ (by omega))
    exact ⟨a', f, c + 1, y1, Or.inl ⟨by omega, rfl, rfl⟩, y2, y3, y4, y5, y6⟩
theorem n50 (c k : Nat) : 50 * nI c + nI k = nI (50 * c + k) := by rw [show (50 : Int32) = nI 50 from rfl, pk_mul, nI_add]
/-- the reference's row behind the last one -/
theorem keep_w {b : Sg} {c : Nat} (hc : c < 6) (e : b 102 3 = nI c) : ∃ b', lp FU (fun q55 (u55 : Int32) (s2 : Sg) => if 50 ≤ u55 then (bnd (pt s2 102 3 ((s2 102 3) + 1)) fun s3 => some s3) else (gd u55 50 (gd ((50 * (s2 102 3)) + u55) 300 (bnd (pt s2 104 (ix ((50 * (s2 102 3)) + u55)) (s2 103 (ix u55))) fun s4 => q55 (u55 + 1) s4)))) 0 b = some b' ∧ b' 102 3 = nI (c + 1) ∧ (∀ k, k < 50 → b' 104 (50 * c + k) = b 103 k) ∧ ∀ k, k < 50 * c → b' 104 k = b 104 k := by
  have key := lp_up (R := Sg) (b := fun q55 (u55 : Int32) (s2 : Sg) => if 50 ≤ u55 then (bnd (pt s2 102 3 ((s2 102 3) + 1)) fun s3 => some s3) else (gd u55 50 (gd ((50 * (s2 102 3)) + u55) 300 (bnd (pt s2 104 (ix ((50 * (s2 102 3)) + u55)) (s2 103 (ix u55))) fun s4 => q55 (u55 + 1) s4)))) (K := fun s => some (pt s 102 3 (nI (c + 1)))) 50 (fun i s => pt s 104 (50 * c + i) (s 103 (0 + i))) (fun _ s => s 102 3 = nI c)
    (fun q s h => by rw [if_pos (show (50 : Int32) ≤ nI 50 by decide), h, nI_1]; rfl)
    (fun q i s hi h => ⟨by rw [if_neg (show ¬ (50 : Int32) ≤ nI i from nI_ge hi (by decide)), gd_n _ hi (by decide), h, n50, gd_n _ (show 50 * c + i < 300 by omega) (by decide), ix_n (by omega), ix_n (by omega), bnd_e, nI_1, Nat.zero_add], h⟩) 50 0 FU b rfl (by decide) e
  refine ⟨_, key.1, pt_s _ _ _ _, fun k hk => ?_, fun k hk => ?_⟩
  · rw [pt_o _ _ _ _ (by decide), itr_copy 104 (50 * c) 103 0 (Or.inl (by decide)), if_pos (by omega), Nat.zero_add, Nat.add_sub_cancel_left]
  · rw [pt_o _ _ _ _ (by decide), itr_copy 104 (50 * c) 103 0 (Or.inl (by decide)), if_neg (by omega)]
theorem keep_m {b : Sg} {c : Nat} (hc : c ≤ 6) (e : b 102 3 = nI c) : ∃ b' d c', fM_keepsAhead b = some b' ∧ ((c < 6 ∧ d = 0 ∧ c' = c + 1) ∨ (c = 6 ∧ d = 1 ∧ c' = 6)) ∧ b' 102 3 = nI c' ∧ (∀ k, k < 50 → b' 104 (50 * (c' - 1) + k) = b 103 k) ∧ ∀ j k, j < c' - 1 → k < 50 → b' 104 (50 * j + k) = b 104 (50 * (j + d) + k) := by
  unfold fM_keepsAhead
  simp only [bnd_e]
  by_cases h : c = 6
  · subst h
    rw [if_pos (show b 102 3 = 6 from e), e, show nI 6 - 1 = nI 5 from rfl]
    have key := lp_up (R := Sg) (b := fun q21 (u21 : Int32) (s6 : Sg) => if (50 * (s6 102 3)) ≤ u21 then (lp FU (fun q55 (u55 : Int32) (s2 : Sg) => if 50 ≤ u55 then (some (pt s2 102 3 ((s2 102 3) + 1))) else (gd u55 50 (gd ((50 * (s2 102 3)) + u55) 300 (q55 (u55 + 1) (pt s2 104 (ix ((50 * (s2 102 3)) + u55)) (s2 103 (ix u55))))))) 0 s6) else (gd (u21 + 50) 300 (gd u21 300 (q21 (u21 + 1) (pt s6 104 (ix u21) (s6 104 (ix (u21 + 50)))))))) (K := fun s6 => lp FU (fun q55 (u55 : Int32) (s2 : Sg) => if 50 ≤ u55 then (some (pt s2 102 3 ((s2 102 3) + 1))) else (gd u55 50 (gd ((50 * (s2 102 3)) + u55) 300 (q55 (u55 + 1) (pt s2 104 (ix ((50 * (s2 102 3)) + u55)) (s2 103 (ix u55))))))) 0 s6) 250 (fun i s => pt s 104 (0 + i) (s 104 (50 + i))) (fun _ s => s 102 3 = nI 5)
      (fun q s h => by rw [h, show 50 * nI 5 = nI 250 from rfl, if_pos (show nI 250 ≤ nI 250 by decide)])
      (fun q i s hi h => ⟨by rw [h, show 50 * nI 5 = nI 250 from rfl, if_neg (nI_ge hi (by decide)), show nI i + 50 = nI (i + 50) from nI_add i 50, gd_n _ (show i + 50 < 300 by omega) (by decide), gd_n _ (show i < 300 by omega) (by decide), ix_n (by omega), ix_n (by omega), nI_1, Nat.zero_add, Nat.add_comm i 50], h⟩) 250 0 FU (pt b 102 3 (nI 5)) rfl (by decide) (pt_s _ _ _ _)
    obtain ⟨b', x1, x2, x3, x4⟩ := keep_w (c := 5) (by decide) key.2
    refine ⟨b', 1, 6, key.1.trans x1, Or.inr ⟨rfl, rfl, rfl⟩, x2, fun k hk => ?_, fun j k hj hk => ?_⟩
    · rw [x3 k hk, itr_copy 104 0 104 50 (Or.inr (by decide)), if_neg (by omega), pt_o _ _ _ _ (by decide)]
    · rw [x4 _ (by omega), itr_copy 104 0 104 50 (Or.inr (by decide)), if_pos (by omega), pt_o _ _ _ _ (by decide), show 50 + (50 * j + k - 0) = 50 * (j + 1) + k by omega]
  · rw [if_neg (show ¬ b 102 3 = 6 by rw [e]; exact nI_ne 6 h (by omega) (by decide))]
    obtain ⟨b', x1, x2, x3, x4⟩ := keep_w (c := c) (by omega) e
    refine ⟨b', 0, c + 1, x1, Or.inl ⟨by omega, rfl, rfl⟩, x2, fun k hk => ?_, fun j k hj hk => ?_⟩
    · rw [show c + 1 - 1 = c by omega, x3 k hk]
    · rw [x4 _ (by omega), Nat.add_zero]
theorem sim_keep {a b : Sg} (hI : Inv a b) : ∃ a' b', fPa_keep 1 a = some a' ∧ fM_keepsAhead b = some b' ∧ Inv a' b' := by
  obtain ⟨f, c, hf, hc, e1, e2, e3, hs⟩ : gPs a b := hI 15
  have h0 : gSc (a 1) (a 2) (b 102 6) (b 103) (b 106) (b 107) (b 108) := hI 0
  obtain ⟨a', f', c1, x1, x2, x3, x4, x5, x6, x7⟩ := keep_c hf hc e1 e2
  obtain ⟨b', d, c2, y1, y2, y3, y4, y5⟩ := keep_m hc e3
  have hcc : c1 = c2 := by omega
  subst hcc
  have fb := fr_M_keepsAhead b b' y1
  refine ⟨a', b', x1, y1, Inv_step [15] hI (fr_Pa_keep 1 a a' x1) fb (by decide) (by decide) (al1 ⟨f', c1, ?_, by omega, x3, x4, y3, fun j hj => ?_⟩)⟩
  · rcases x2 with ⟨_, rfl, _⟩ | ⟨_, rfl, _⟩
    · exact hf
    · exact Nat.mod_lt _ (by decide)
  · rw [show b' 102 6 = b 102 6 from fb 102 6 (by decide) (by decide), show b' 106 = b 106 from frO fb 106 (by decide) (by decide), show b' 107 = b 107 from frO fb 107 (by decide) (by decide), show b' 108 = b 108 from frO fb 108 (by decide) (by decide)]
    by_cases hj1 : j = c1 - 1
    · subst hj1
      rw [show f' + (c1 - 1) = f' + c1 - 1 by omega]
      exact gSc_cp h0 x6 x5 y4
    · have hne : (f' + j) % 6 ≠ (f' + c1 - 1) % 6 := by omega
      obtain ⟨z1, z2⟩ := x7 ((f' + j) % 6) (Nat.mod_lt _ (by decide)) hne
      rw [z1, z2]
      have hh := hs (j + d) (by omega)
      rw [show (f + (j + d)) % 6 = (f' + j) % 6 by omega] at hh
      exact gSc_cp hh (fun _ _ _ => rfl) (fun _ _ => rfl) (fun k hk => y5 j k (by omega) hk)
theorem sim_undo : Sim fH_undo fM_undo := by
  refine sim_on [0, 15] (fun _ => rfl) fr_H_undo fr_M_undo (by decide) (by decide) (fun a b hI => ?_)
  obtain ⟨f, c, hf, hc, e1, e2, e3, hs⟩ : gPs a b := hI 15
  unfold fH_undo fPa_goBack
  rw [e2]
  by_cases h : c = 0
  · subst h
    rw [if_neg (by decide), if_pos (show b 102 3 = 0 from e3)]
    exact ⟨0, a, b, rfl, rfl, al2 (hI 0) (hI 15)⟩
  rw [if_pos (show (1 : Int32) ≤ nI c from nI_le (a := 1) (by omega) (by omega)), if_neg (show ¬ b 102 3 = 0 by rw [e3]; exact nI_ne0 (by omega) (by omega)), e_newest hf hc (by omega) e1 e2, br_s]
  have hm : (f + c - 1) % 6 < 6 := Nat.mod_lt _ (by decide)
  obtain ⟨p1, p2⟩ := pk_rw _ hm
  obtain ⟨τ, x1, x2, x3⟩ := e_become (o := 1) (q := 7 + 2 * ((f + c - 1) % 6)) (show hz_rf 1 0 = 2 from rfl) p1 (by omega) (by omega) (by omega) (by omega) a
  have fr := fr_Sc_become 1 (7 + 2 * ((f + c - 1) % 6)) a τ x1
  have t5 : ∀ k, τ 5 k = a 5 k := fun k => fr 5 k (by decide) (by simp)
  rw [gk, if_pos p2, x1, bv_s, bnd_e, gb_1, bi_s, gb_1, bnd_e, t5, e2, e3, show c = c - 1 + 1 by omega, nI_pred]
  have key := lp_up (R := Int32 × Sg) (b := fun q26 (u26 : Int32) (s3 : Sg) => if 50 ≤ u26 then (gb 1 (some (1, s3))) else (gd ((50 * (s3 102 3)) + u26) 300 (gd u26 50 (bnd (pt s3 103 (ix u26) (s3 104 (ix ((50 * (s3 102 3)) + u26)))) fun s4 => q26 (u26 + 1) s4)))) (K := fun s => some (1, s)) 50 (fun i s => pt s 103 (0 + i) (s 104 (50 * (c - 1) + i))) (fun _ s => s 102 3 = nI (c - 1))
      (fun q s h => by rw [if_pos (show (50 : Int32) ≤ nI 50 by decide), gb_1])
      (fun q i s hi h => ⟨by rw [if_neg (show ¬ (50 : Int32) ≤ nI i from nI_ge hi (by decide)), h, n50, gd_n _ (show 50 * (c - 1) + i < 300 by omega) (by decide), gd_n _ hi (by decide), ix_n (by omega), ix_n (by omega), bnd_e, nI_1, Nat.zero_add], h⟩) 50 0 FU (pt b 102 3 (nI (c - 1))) rfl (by decide) (pt_s _ _ _ _)
  refine ⟨1, _, _, rfl, key.1, al2 ?_ ?_⟩
  · have rd : ∀ q j, (q ≠ 103 ∨ 50 ≤ j) → itr (fun i s => pt s 103 (0 + i) (s 104 (50 * (c - 1) + i))) 0 50 (pt b 102 3 (nI (c - 1))) q j = pt b 102 3 (nI (c - 1)) q j := fun q j h => by rw [itr_copy 103 0 104 (50 * (c - 1)) (Or.inl (by decide)), if_neg (by omega)]
    have r6 : ∀ q, q ≠ 103 → q ≠ 102 → itr (fun i s => pt s 103 (0 + i) (s 104 (50 * (c - 1) + i))) 0 50 (pt b 102 3 (nI (c - 1))) q = b q := fun q h1 h2 => funext fun j => by rw [rd q j (Or.inl h1), pt_o _ _ _ _ h2]
    show gSc _ _ _ _ _ _ _
    rw [r6 106 (by decide) (by decide), r6 107 (by decide) (by decide), r6 108 (by decide) (by decide), rd 102 6 (Or.inl (by decide)), ptf _ _ _ _ _ _ (by decide), ptq _ _ _ (show (1 : Nat) ≠ 5 by decide), ptq _ _ _ (show (2 : Nat) ≠ 5 by decide)]
    have hh := hs (c - 1) (by omega)
    rw [show f + (c - 1) = f + c - 1 by omega] at hh
    exact gSc_cp hh x3 x2 (fun k hk => by rw [itr_copy 103 0 104 (50 * (c - 1)) (Or.inl (by decide)), if_pos (by omega), pt_o _ _ _ _ (by decide), Nat.sub_zero])
  · have rd : ∀ q j, (q ≠ 103 ∨ 50 ≤ j) → itr (fun i s => pt s 103 (0 + i) (s 104 (50 * (c - 1) + i))) 0 50 (pt b 102 3 (nI (c - 1))) q j = pt b 102 3 (nI (c - 1)) q j := fun q j h => by rw [itr_copy 103 0 104 (50 * (c - 1)) (Or.inl (by decide)), if_neg (by omega)]
    have r6 : ∀ q, q ≠ 103 → q ≠ 102 → itr (fun i s => pt s 103 (0 + i) (s 104 (50 * (c - 1) + i))) 0 50 (pt b 102 3 (nI (c - 1))) q = b q := fun q h1 h2 => funext fun j => by rw [rd q j (Or.inl h1), pt_o _ _ _ _ h2]
    refine ⟨f, c - 1, hf, by omega, ?_, pt_s _ _ _ _, ?_, fun j hj => ?_⟩
    · rw [pt_k _ _ _ (by decide), t5]; exact e1
    · rw [rd 102 3 (Or.inl (by decide)), pt_s]
    · have hw : ∀ x, 7 ≤ x → pt τ 5 2 (nI (c - 1)) x = a x := fun x hx => by rw [ptq _ _ _ (by omega)]; exact funext fun k => fr x k (by simp [hz1]; omega) (by simp; omega)
      rw [hw _ (by omega), hw _ (by omega), rd 102 6 (Or.inl (by decide)), ptf _ _ _ _ _ _ (by decide), r6 106 (by decide) (by decide), r6 107 (by decide) (by decide), r6 108 (by decide) (by decide), r6 104 (by decide) (by decide)]
      exact hs j (by omega)
