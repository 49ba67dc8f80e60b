/-! what the law tells of a person -/
theorem w2_bk {R S : Type} {f : Option R} {gy : Option (Int32 × Sg)} {K : Int32 → Sg → Option S} {Z : R → S → Prop} (h : W2 f gy (fun x y => W1 (K y.1 y.2) (Z x))) : W2 f (bi gy K) Z := by
  obtain ⟨x, y, e1, e2, z, e3, hz⟩ := h
  refine ⟨x, z, e1, ?_, hz⟩
  rw [e2]
  exact e3
theorem clm (v : Int32) {M : Nat} (hM : M < 2 ^ 31) : ∃ k, k ≤ M ∧ (if 0 < (if v < nI M then v else nI M) then (if v < nI M then v else nI M) else 0) = nI k ∧ ∀ s, fM_held v 0 (nI M) s = some (nI k, s) := by
  unfold fM_held
  by_cases h : v < 0
  · refine ⟨0, Nat.zero_le _, ?_, fun s => ?_⟩
    · have h1 : v < nI M := Int32.lt_of_lt_of_le h (nI_pos' hM)
      rw [if_pos h1, if_neg (fun q => Int32.lt_irrefl (Int32.lt_trans q h))]
      rfl
    · rw [if_neg (fun q => Int32.lt_irrefl (Int32.lt_of_le_of_lt q h))]
      rfl
  · obtain ⟨x, hx, rfl⟩ := nI_of h
    refine ⟨min x M, Nat.min_le_right _ _, ?_, fun s => ?_⟩
    · have e : (if nI x < nI M then nI x else nI M) = nI (min x M) := by
        by_cases c : x < M
        · rw [if_pos (nI_lt c hM), Nat.min_eq_left (by omega)]
        · rw [if_neg (nI_nlt (by omega) hx), Nat.min_eq_right (by omega)]
      rw [e]
      by_cases c : min x M = 0
      · rw [c]; rfl
      · rw [if_pos (show (0 : Int32) < nI (min x M) from nI_lt (a := 0) (by omega) (by omega))]
    · rw [if_pos (nI_pos' hx)]
      by_cases c : x ≤ M
      · rw [if_pos (nI_le c hM), Nat.min_eq_left c]
      · rw [if_neg (nI_ge (by omega) hx), Nat.min_eq_right (by omega)]
/-- both sides at one scene: o is the class's -/
def Sc2 (a b : Sg) (o n : Nat) : Prop := (o = 1 ∨ o = 3) ∧ n ≤ 10 ∧ b 102 6 = nI n ∧ gSc (a o) (a (hz_rf o 0)) (nI n) (b 103) (b 106) (b 107) (b 108) ∧ gLw (a 21) (a 22) (a 20 3) (a 23) (b 112 0) (b 113) (b 114) (b 115) (b 116) (b 117) (b 118) ∧ a 21 0 = nI 4 ∧ a 21 1 = nI 16
def mst (kd : Nat) : Nat := if kd = 2 then 1000 else 99
theorem tells {a b : Sg} {o n p kd w0 : Nat} (h : Sc2 a b o n) (hp : p < n) (hk : kd < 3) (hw : w0 ≤ mst kd) (hu : ∀ s, (∀ q, q ≠ 24 → s q = a q) → fLa_untold (nI kd) o (nI p) s = some (nI w0, s)) : W2 (fLa_tells 20 (nI kd) o (nI p) a) (fM_lawTells (nI p) (nI kd) (nI w0) (nI (mst kd)) b) (fun x y => (∃ k, k ≤ mst kd ∧ x.1 = nI k ∧ y.1 = nI k) ∧ (∀ q, q ≠ 24 → x.2 q = a q) ∧ ∀ q, q ≠ 123 → q ≠ 124 → y.2 q = b q) := by
  obtain ⟨ho, hn, e6, hS, ⟨N, z, hN, hz4, e21, e112, e20, hl⟩, t0, t1⟩ := h
  have ho24 : o ≠ 24 ∧ hz_rf o 0 ≠ 24 := by rcases ho with rfl | rfl <;> decide
  have mM : mst kd ≤ 1000 := by unfold mst; split <;> omega
  unfold fLa_tells fM_lawTells
  obtain ⟨s1, es, hA⟩ := e_asks hn e6 hp
  rw [es, bv_s]
  have eb : (if nI kd = 2 then (1000 : Int32) else 99) = nI (mst kd) := by
    unfold mst
    by_cases c : kd = 2
    · rw [if_pos c, if_pos (by rw [c]; rfl)]; rfl
    · rw [if_neg c, if_neg (show ¬ nI kd = 2 from nI_ne 2 c (by omega) (by decide))]; rfl
  refine w2_bk ?_
  have key : ∀ M, M = nI (mst kd) → W2 (lp FU (fun q18 (u18 : Int32) (s2 : Sg) => if (s2 (hz_rf 20 0) 3) ≤ u18 then (bi (fLa_untold (nI kd) o (nI p) s2) fun r4 s3 => some (r4, s3)) else (bi (fTa_tell (hz_rf 20 0) u18 2 s2) fun r6 s5 => bi (fTa_tell (hz_rf 20 0) u18 3 s5) fun r8 s7 => bi (fTa_tell (hz_rf 20 0) u18 0 s7) fun r10 s9 => bnd (fun (s11 : Sg) => q18 (u18 + 1) s11) fun j116 => if r10 = nI kd then (bnd (fun (s12 : Sg) => bi (fTa_tell (hz_rf 20 0) u18 1 s12) fun r14 s13 => bi (fLa_value 20 r14 r6 o (nI p) s13) fun r16 s15 => bi (fJ9_min_7cf53 M r16 s15) fun r18 s17 => bi (fJ9_max_7cf53 0 r18 s17) fun r20 s19 => some (r20, s19)) fun j88 => if r6 = r8 then (j88 s9) else (bi (fLa_value 20 r6 r8 o (nI p) s9) fun r22 s21 => if r22 = 0 then (j116 s21) else (j88 s21))) else (j116 s9))) 0 a) (fM_lineOf (nI kd) s1) (fun x y => W1 (bnd (fun (b42_0 : Int32) (s4 : Sg) => bi (fM_held b42_0 0 (nI (mst kd)) s4) fun r6 s5 => some (r6, s5)) fun j42 => if y.1 = (-1) then (j42 (nI w0) y.2) else (gd y.1 48 (gd y.1 48 (bi (fM_runs 0 (y.2 114 (ix y.1)) (y.2 115 (ix y.1)) y.2) fun r8 s7 => j42 r8 s7)))) (fun y => (∃ k, k ≤ mst kd ∧ x.1 = nI k ∧ y.1 = nI k) ∧ (∀ q, q ≠ 24 → x.2 q = a q) ∧ ∀ q, q ≠ 123 → q ≠ 124 → y.2 q = b q)) := by
    intro M hM
    subst hM
    unfold fM_lineOf
    refine w2_lp (fun k u s u' t => (∀ q, q ≠ 24 → s q = a q) ∧ (∀ q, q ≠ 124 → t q = s1 q) ∧ ∃ l, l + k = N ∧ u = nI l ∧ u' = nI l) ?_ FU FU N _ _ _ _ (FU_lt (by omega)) (FU_lt (by omega)) ⟨fun _ _ => rfl, fun _ _ => rfl, 0, by omega, rfl, rfl⟩
    rintro q q' k u s u' t ⟨hs, ht, l, hlk, rfl, rfl⟩ hq
    have hb : ∀ q, q ≠ 123 → q ≠ 124 → t q = b q := fun q h1 h2 => by rw [ht q h2, hA.1 q h1]
    rw [show hz_rf 20 0 = 21 from rfl, show ∀ {R : Type} (f : Option R), gd (0 : Int32) 2 f = f from fun f => gdl _ (by decide), ic0, hs 21 (by decide), hb 112 (by decide) (by decide), e21, e112]
    refine w2_if Iff.rfl (fun c => ?_) (fun c => ?_)
    · rw [hu s hs, bi_s]
      refine w2_s ?_
      dsimp only
      rw [bnd_e, if_pos rfl]
      obtain ⟨k', hk', hk1, hk2⟩ := clm (nI w0) (M := mst kd) (by omega)
      dsimp only
      rw [hk2, bi_s]
      refine w1_s ⟨⟨w0, hw, rfl, ?_⟩, hs, fun q h1 h2 => hb q h1 h2⟩
      have : min w0 (mst kd) = w0 := Nat.min_eq_left hw
      have h2 := hk2 t
      unfold fM_held at h2
      rw [if_pos (nI_pos' (by omega)), if_pos (nI_le hw (by omega))] at h2
      exact (congrArg Prod.fst (Option.some.inj h2)).symm
    rw [nI_leI (by omega) (by omega)] at c
    obtain ⟨P, Q, i, i', g1, g2, g3, g4, g5, g6, g7, g8, g9, g10, g11, g12, g13, g14, g15⟩ := hl l (by omega)
    have mP := mln_le P
    have mQ := mln_le Q
    have T : ∀ (x : Sg) j, (∀ q, q ≠ 24 → x q = a q) → j < 4 → fTa_tell 21 (nI l) (nI j) x = some (a 22 (l * 4 + j), x) := fun x j hx hj => by
      have := e_tell (s := x) (t := 21) (i := l) (j := j) (w := 4) (l := 16) (by rw [hx 21 (by decide)]; exact t0) (by rw [hx 21 (by decide)]; exact t1) (by decide) (by decide) (show l < 16 by omega) hj (by decide) (by decide)
      rw [show hz_rf 21 2 = 22 from rfl, hx 22 (by decide)] at this
      exact this
    rw [show fTa_tell 21 (nI l) 2 s = _ from T s 2 hs (by decide), bi_s, show fTa_tell 21 (nI l) 3 s = _ from T s 3 hs (by decide), bi_s, show fTa_tell 21 (nI l) 0 s = _ from T s 0 hs (by decide), bi_s, show l * 4 + 0 = l * 4 from rfl, g3, g5, g6]
    simp only [gd_n _ (show l < 48 by omega) (show 48 < 2 ^ 31 by decide), ix_n (show l < 2 ^ 31 by omega)]
    rw [hb 113 (by decide) (by decide), hb 115 (by decide) (by decide), hb 116 (by decide) (by decide)]
    have nxt : ∀ s' t', (∀ q, q ≠ 24 → s' q = a q) → (∀ q, q ≠ 124 → t' q = s1 q) → W2 (q (nI l + 1) s') (q' (nI l + 1) t') (fun x y => W1 (bnd (fun (b42_0 : Int32) (s4 : Sg) => bi (fM_held b42_0 0 (nI (mst kd)) s4) fun r6 s5 => some (r6, s5)) fun j42 => if y.1 = (-1) then (j42 (nI w0) y.2) else (gd y.1 48 (gd y.1 48 (bi (fM_runs 0 (y.2 114 (ix y.1)) (y.2 115 (ix y.1)) y.2) fun r8 s7 => j42 r8 s7)))) (fun y => (∃ k, k ≤ mst kd ∧ x.1 = nI k ∧ y.1 = nI k) ∧ (∀ q, q ≠ 24 → x.2 q = a q) ∧ ∀ q, q ≠ 123 → q ≠ 124 → y.2 q = b q)) := fun s' t' h1 h2 => by
      rw [nI_1]
      exact hq (k - 1) _ _ _ _ (by omega) ⟨h1, h2, l + 1, by omega, rfl, rfl⟩
    have hit : ∀ s' t', (∀ q, q ≠ 24 → s' q = a q) → (∀ q, q ≠ 124 → t' q = s1 q) → W2 (bi (fTa_tell 21 (nI l) 1 s') fun r14 s13 => bi (fLa_value 20 r14 (nI (i + P.length)) o (nI p) s13) fun r16 s15 => bi (fJ9_min_7cf53 (nI (mst kd)) r16 s15) fun r18 s17 => bi (fJ9_max_7cf53 0 r18 s17) fun r20 s19 => some (r20, s19)) (some (nI l, t')) (fun x y => W1 (bnd (fun (b42_0 : Int32) (s4 : Sg) => bi (fM_held b42_0 0 (nI (mst kd)) s4) fun r6 s5 => some (r6, s5)) fun j42 => if y.1 = (-1) then (j42 (nI w0) y.2) else (gd y.1 48 (gd y.1 48 (bi (fM_runs 0 (y.2 114 (ix y.1)) (y.2 115 (ix y.1)) y.2) fun r8 s7 => j42 r8 s7)))) (fun y => (∃ k, k ≤ mst kd ∧ x.1 = nI k ∧ y.1 = nI k) ∧ (∀ q, q ≠ 24 → x.2 q = a q) ∧ ∀ q, q ≠ 123 → q ≠ 124 → y.2 q = b q)) := fun s' t' h1 h2 => by
      have hb' : ∀ q, q ≠ 123 → q ≠ 124 → t' q = b q := fun q h3 h4 => by rw [h2 q h4, hA.1 q h3]
      obtain ⟨v, hv⟩ := g14.2 (envN (b 103) (b 106) (b 107) (b 108) n p)
      have V := val_c (s0 := s') (o := o) (n := n) (p := p) (z := z) (f := i) (e := i + P.length) (v := v) ho24.1 ho24.2 (by rw [h1 o ho24.1, h1 _ ho24.2]; exact hS) hn hp (by rw [h1 20 (by decide)]; exact e20) hz4 rfl (by omega) (by rw [h1 23 (by decide)]; exact g10) g14.1 hv
      have Rr := run_m (b0 := t') (f := i') (e := i' + mln P) (env := envN (b 103) (b 106) (b 107) (b 108) n p) (v := v) (fun j hj => by rw [h2 123 (by decide)]; exact hA.2 j hj) rfl (by omega) (by rw [hb' 117 (by decide) (by decide), hb' 118 (by decide) (by decide)]; exact g12) g14.1 hv
      rw [show fTa_tell 21 (nI l) 1 s' = _ from T s' 1 h1 (by decide), bi_s, g4]
      obtain ⟨y1, ey1, hy1, hy2⟩ := V
      obtain ⟨y2, ey2, hy3, hy4⟩ := Rr
      obtain ⟨k', hk', hk1, hk2⟩ := clm v (M := mst kd) (by omega)
      refine w2_1 ?_
      refine w1_bi (w1_q ey1 ?_)
      rw [e_min, bi_s, e_max, bi_s, hy1, hk1]
      refine w1_s (w1_s ?_)
      dsimp only
      rw [bnd_e, if_neg (nI_m1 (by omega)), gd_n _ (show l < 48 by omega) (by decide), gd_n _ (show l < 48 by omega) (by decide), ix_n (by omega), hb' 114 (by decide) (by decide), hb' 115 (by decide) (by decide), g7, g8]
      refine w1_bi (w1_q ey2 ?_)
      rw [hy3]
      dsimp only
      rw [hk2, bi_s]
      exact w1_s ⟨⟨k', hk', rfl, rfl⟩, fun q hq => by rw [hy2 q hq]; exact h1 q hq, fun q h3 h4 => by rw [hy4 q h4]; exact hb' q h3 h4⟩
    simp only [bnd_x] at hit nxt ⊢
    refine w2_if Iff.rfl (fun c1 => ?_) (fun _ => nxt s t hs ht)
    rw [g8, g9]
    by_cases cq : Q = []
    · subst cq
      rw [if_pos (by rw [List.length_nil, Nat.add_zero]), if_pos (by rw [mln, Nat.add_zero])]
      exact hit s t hs ht
    · have hql : 1 ≤ Q.length := by
        cases Q with
        | nil => exact absurd rfl cq
        | cons x t => rw [List.length_cons]; omega
      rw [if_neg (nI_ne _ (by omega) (by omega) (by omega)), if_neg (nI_ne _ (by omega) (by omega) (by omega))]
      have wq : wfP Q := g15.elim (fun h => absurd h cq) id
      obtain ⟨v, hv⟩ := wq.2 (envN (b 103) (b 106) (b 107) (b 108) n p)
      have V := val_c (s0 := s) (o := o) (n := n) (p := p) (z := z) (f := i + P.length) (e := i + P.length + Q.length) (v := v) ho24.1 ho24.2 (by rw [hs o ho24.1, hs _ ho24.2]; exact hS) hn hp (by rw [hs 20 (by decide)]; exact e20) hz4 rfl (by omega) (by rw [hs 23 (by decide)]; exact g11) wq.1 hv
      have Rr := run_m (b0 := t) (f := i' + mln P) (e := i' + mln P + mln Q) (env := envN (b 103) (b 106) (b 107) (b 108) n p) (v := v) (fun j hj => by rw [ht 123 (by decide)]; exact hA.2 j hj) rfl (by omega) (by rw [hb 117 (by decide) (by decide), hb 118 (by decide) (by decide)]; exact g13) wq.1 hv
      obtain ⟨y1, ey1, hy1, hy2⟩ := V
      obtain ⟨y2, ey2, hy3, hy4⟩ := Rr
      rw [ey1, ey2]
      show W2 (if y1.1 = 0 then _ else _) (if y2.1 = 0 then _ else _) _
      have hs' : ∀ q, q ≠ 24 → y1.2 q = a q := fun q hq => by rw [hy2 q hq]; exact hs q hq
      have ht' : ∀ q, q ≠ 124 → y2.2 q = s1 q := fun q hq => by rw [hy4 q hq]; exact ht q hq
      refine w2_if (by rw [hy1, hy3]) (fun _ => nxt _ _ hs' ht') (fun _ => hit _ _ hs' ht')
  by_cases c : nI kd = 2
  · rw [bnd_e, if_pos c]
    rw [if_pos c] at eb
    exact key 1000 eb
  · rw [bnd_e, if_neg c]
    rw [if_neg c] at eb
    exact key 99 eb
