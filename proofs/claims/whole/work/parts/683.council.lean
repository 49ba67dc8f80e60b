/-! council: both -/
theorem chk_t {n : Nat} {o : List Nat} {t : List (List Nat)} (h : chk n (o :: t) = true) : (∀ k, k < n → oFn o k < 6) ∧ (t = [] → nxF n (oFn o) = none) ∧ (∀ o' t', t = o' :: t' → ∃ g, nxF n (oFn o) = some g ∧ ∀ k, k < n → g k = oFn o' k) ∧ chk n t = true := by
  rw [chk.eq_def] at h
  dsimp only at h
  rw [Bool.and_eq_true, Bool.and_eq_true, List.all_eq_true] at h
  obtain ⟨⟨h1, h2⟩, h3⟩ := h
  refine ⟨fun k hk => of_decide_eq_true (h1 k (List.mem_range.mpr hk)), fun e => ?_, fun o' t' e => ?_, h3⟩
  · subst e
    dsimp only at h2
    exact Option.isNone_iff_eq_none.mp h2
  · subst e
    dsimp only at h2
    cases hx : nxF n (oFn o) with
    | none => rw [hx] at h2; cases h2
    | some g =>
      rw [hx] at h2
      dsimp only at h2
      rw [List.all_eq_true] at h2
      exact ⟨g, rfl, fun k hk => eq_of_beq (h2 k (List.mem_range.mpr hk))⟩
theorem sim_council (v : Int32) : Sim (fH_council v) (fM_council v) := by
  refine sim_r (fun _ => rfl) (fr_H_council v) (fr_M_council v) (by decide) (by decide) (fun a b hI => ?_)
  obtain ⟨⟨n, hn, e1, e2⟩, hc⟩ : gSk (a 57) (a 58) (b 102 53) (b 133) (b 134) := hI 9
  obtain ⟨_, _, _, _, _, _, _, _, _, _, ⟨t0, t1⟩, _⟩ : gKc a := hI 18
  obtain ⟨m, p, hA, hB, hC, hm, hp⟩ : ∃ m p : Nat → Nat, (∀ i, i < 6 → a 58 (i * 2) = nI (m i) ∧ a 58 (i * 2 + 1) = nI (p i)) ∧ (∀ i, i < 6 → b 133 i = nI (m i)) ∧ (∀ i, i < 6 → b 134 i = nI (p i)) ∧ (∀ i, m i ≤ 30) ∧ (∀ i, p i ≤ 99) := by
    refine ⟨fun i => if i < 6 then ix (b 133 i) else 0, fun i => if i < 6 then ix (b 134 i) else 0, fun i hi => ?_, fun i hi => ?_, fun i hi => ?_, fun i => ?_, fun i => ?_⟩
    · obtain ⟨h1, h2, ⟨x, hx, ex⟩, ⟨y, hy, ey⟩⟩ := hc i hi
      dsimp only
      rw [if_pos hi, if_pos hi, h1, h2, ex, ey, ix_n (by omega), ix_n (by omega)]
      exact ⟨rfl, rfl⟩
    · obtain ⟨h1, h2, ⟨x, hx, ex⟩, ⟨y, hy, ey⟩⟩ := hc i hi
      dsimp only
      rw [if_pos hi, ex, ix_n (by omega)]
    · obtain ⟨h1, h2, ⟨x, hx, ex⟩, ⟨y, hy, ey⟩⟩ := hc i hi
      dsimp only
      rw [if_pos hi, ey, ix_n (by omega)]
    · dsimp only
      split
      · rename_i hi
        obtain ⟨h1, h2, ⟨x, hx, ex⟩, ⟨y, hy, ey⟩⟩ := hc i hi
        rw [ex, ix_n (by omega)]
        exact hx
      · omega
    · dsimp only
      split
      · rename_i hi
        obtain ⟨h1, h2, ⟨x, hx, ex⟩, ⟨y, hy, ey⟩⟩ := hc i hi
        rw [ey, ix_n (by omega)]
        exact hy
      · omega
  obtain ⟨ck, cl, ch⟩ := chk_ok n (by omega)
  have X1 : ((pmL n n []).foldl (ub m p) (0, [])).1 ≠ 0 := by
    cases hL : pmL n n [] with
    | nil => rw [hL] at ch; cases ch
    | cons o t =>
      have mono : ∀ (L : List (List Nat)) (x : Nat × List Nat), x.1 ≤ (L.foldl (ub m p) x).1 := fun L => by
        induction L with
        | nil => intro x; exact Nat.le_refl _
        | cons o' t' ih =>
          intro x
          rw [List.foldl_cons]
          refine Nat.le_trans ?_ (ih _)
          unfold ub
          split
          · dsimp only; omega
          · exact Nat.le_refl _
      rw [List.foldl_cons]
      have h1 := mono t (ub m p (0, []) o)
      have h2 : (ub m p (0, []) o).1 ≠ 0 := by
        unfold ub
        rw [if_pos (by dsimp only; omega)]
        dsimp only
        omega
      omega
  -- the class
  have cls : W1 (fMu_mostSpeakers a) (fun z => z.1 = nI ((pmL n n []).foldl (ub m p) (0, [])).1 - 1 ∧ ∀ k, k < n → z.2 69 k = nI (oFn ((pmL n n []).foldl (ub m p) (0, [])).2 k)) := by
    unfold fMu_mostSpeakers
    rw [bnd_e]
    have := seat_ok (n := n) (m := m) (p := p) hn hm hp n 8 [] 0 (pt a 66 6 (-1)) (0, []) (by omega) (by rw [List.length_nil]; omega) (by decide) (fun i _ => ⟨fun h => absurd h (by simp), fun h => by cases h⟩) (by rw [ptq _ _ _ (by decide)]; exact ⟨t0, t1, e1⟩) (fun i hi => by rw [ptq _ _ _ (by decide)]; exact hA i hi) ⟨pt_s _ _ _ _, by decide, fun h => absurd rfl h⟩ (fun j hj => by cases hj)
    refine w1_bv (w1_m this (fun s' hs => w1_s ⟨hs.1.1, hs.1.2.2 X1⟩))
  have ref : ∀ (Q : Int32 × Sg → Prop), (∀ t, (∀ k, k < n → t 136 k = nI (oFn ((pmL n n []).foldl (ub m p) (0, [])).2 k)) → W1 (if v = 0 then some (nI ((pmL n n []).foldl (ub m p) (0, [])).1 - 1, t) else gd (v - 10) 6 (some (t 136 (ix (v - 10)), t))) Q) → W1 (lp FU (fun q30 (u30 : Int32) (s3 : Sg) => if (s3 102 53) ≤ u30 then (lp FU (fun q55 (u55 : Int32 × Int32) (s4 : Sg) => if u55.2 = 0 then (if v = 0 then (some (u55.1, s4)) else (gd (v - 10) 6 (some ((s4 136 (ix (v - 10))), s4)))) else (bi (fM_spokenBy s4) fun r6 s5 => lp FU (fun q68 (u68 : Int32) (s7 : Sg) => bnd (fun (s8 : Sg) => bi (fM_greater u55.1 r6 s8) fun r10 s9 => bi (fM_goesToNextOrder s9) fun r12 s11 => q55 (r10, r12) s11) fun j103 => if (s7 102 53) ≤ u68 then (j103 s7) else (if r6 ≤ u55.1 then (j103 s7) else (gd u68 6 (gd u68 6 (bnd (pt s7 136 (ix u68) (s7 135 (ix u68))) fun s13 => q68 (u68 + 1) s13))))) 0 s5)) ((-1), 1) s3) else (gd u30 6 (bnd (pt s3 135 (ix u30) u30) fun s14 => q30 (u30 + 1) s14))) 0 b) Q := by
    intro Q hQ
    refine w1_lp (fun k u s => ∃ i, i + k = n ∧ u = nI i ∧ s 102 = b 102 ∧ s 133 = b 133 ∧ s 134 = b 134 ∧ ∀ j, j < i → s 135 j = nI j) ?_ FU n _ _ (FU_lt (by omega)) ⟨0, by omega, rfl, rfl, rfl, rfl, fun j hj => by omega⟩
    rintro q k u s ⟨i, hi, rfl, s2, s3, s4, s5⟩ hq
    rw [s2, e2]
    refine w1_if (fun c => ?_) (fun c => ?_)
    · rw [nI_leI (by omega) (by omega)] at c
      have hin : i = n := by omega
      subst hin
      have main : ∀ (L : List (List Nat)) (X : Nat × List Nat) (o : List Nat) (t : Sg) (k : Nat) (mv : Int32), True → True := fun _ _ _ _ _ _ _ => trivial
      refine w1_lp (fun k u t => t 102 = b 102 ∧ t 133 = b 133 ∧ t 134 = b 134 ∧ ∃ (L : List (List Nat)) (X : Nat × List Nat), k = L.length ∧ bAt 136 i u.1 t X ∧ L.foldl (ub m p) X = (pmL i i []).foldl (ub m p) (0, []) ∧ ((L = [] ∧ u.2 = 0) ∨ (u.2 = 1 ∧ chk i L = true ∧ (∀ o ∈ L, o.length = i) ∧ ∃ o t', L = o :: t' ∧ oAt t i (oFn o)))) ?_ FU (pmL i i []).length _ _ (FU_lt (by omega)) ⟨s2, s3, s4, pmL i i [], (0, []), rfl, ⟨rfl, by decide, fun h => absurd rfl h⟩, rfl, Or.inr ⟨rfl, ck, fun o ho => by rw [pm_len i [] o ho]; simp, ?_⟩⟩
      · rintro q2 k2 ⟨mv, more⟩ t ⟨t2, t3, t4, L, X, hk, hb, hf, hcase⟩ hq2
        dsimp only at hb hcase ⊢
        rcases hcase with ⟨hL, hm0⟩ | ⟨hm1, hck, hlen, o, t', hL, ho⟩
        · rw [if_pos hm0]
          subst hL
          rw [List.foldl_nil] at hf
          subst hf
          have := hQ t (hb.2.2 X1)
          rw [hb.1]
          exact this
        · rw [if_neg (show ¬ more = 0 by rw [hm1]; decide)]
          subst hL
          obtain ⟨k1, k2', k3, k4⟩ := chk_t hck
          have sp := e_spo (m := m) (p := p) hn ho k1 (hlen o (List.mem_cons_self ..)) hm hp (fun i hi => by rw [t3]; exact hB i hi) (fun i hi => by rw [t4]; exact hC i hi)
          have vb := vl_b (m := m) (p := p) o
          rw [hlen o (List.mem_cons_self ..)] at vb
          have hX7 := hb.2.1
          rw [sp, bi_s, hb.1]
          -- behind the copy
          have fin : ∀ u, u 102 = b 102 → u 133 = b 133 → u 134 = b 134 → oAt u i (oFn o) → bAt 136 i (nI (ub m p X o).1 - 1) u (ub m p X o) → W1 (bi (fM_greater (nI X.1 - 1) (nI (vl m p o)) u) fun r10 s9 => bi (fM_goesToNextOrder s9) fun r12 s11 => q2 (r10, r12) s11) Q := by
            intro u u2 u3 u4 uo ub'
            have eg : (if nI X.1 - 1 < nI (vl m p o) then nI (vl m p o) else nI X.1 - 1) = nI (ub m p X o).1 - 1 := by
              rw [mx_p (by omega) (by omega)]
              unfold ub
              by_cases c5 : X.1 < vl m p o + 1
              · rw [if_pos c5, Nat.max_eq_right (by omega)]
              · rw [if_neg c5, Nat.max_eq_left (by omega)]
            rw [e_gr, bi_s, eg]
            obtain ⟨z, ez, hz⟩ := nx_ok hn uo k1
            have fz : ∀ o k, o ≠ 135 → z.2 o k = u o k := fun o k h => fr_M_goesToNextOrder u z ez o k (by simpa using h) (by simp)
            rw [ez]
            show W1 (q2 (_, z.1) z.2) Q
            rw [List.foldl_cons] at hf
            have zb : bAt 136 i (nI (ub m p X o).1 - 1) z.2 (ub m p X o) := ⟨rfl, ub'.2.1, fun h0 k hk => by rw [fz 136 k (by decide)]; exact ub'.2.2 h0 k hk⟩
            have z2 : z.2 102 = b 102 := by rw [← u2]; exact funext fun k => fz 102 k (by decide)
            have z3 : z.2 133 = b 133 := by rw [← u3]; exact funext fun k => fz 133 k (by decide)
            have z4 : z.2 134 = b 134 := by rw [← u4]; exact funext fun k => fz 134 k (by decide)
            refine hq2 t'.length _ _ (by rw [hk, List.length_cons]; omega) ⟨z2, z3, z4, t', ub m p X o, rfl, zb, hf, ?_⟩
            cases t' with
            | nil =>
              rw [k2' rfl] at hz
              exact Or.inl ⟨rfl, hz⟩
            | cons o' t'' =>
              obtain ⟨g, eg2, hg⟩ := k3 o' t'' rfl
              rw [eg2] at hz
              exact Or.inr ⟨hz.1, k4, fun x hx => hlen x (List.mem_cons_of_mem _ hx), o', t'', rfl, hz.2.1, fun k hk => by rw [hz.2.2 k hk, hg k hk]⟩
          by_cases c5 : X.1 < vl m p o + 1
          · have eu : ub m p X o = (vl m p o + 1, o) := if_pos c5
            refine w1_lp (fun k v' u => ∃ x, x + k = i ∧ v' = nI x ∧ u 102 = b 102 ∧ u 133 = b 133 ∧ u 134 = b 134 ∧ oAt u i (oFn o) ∧ ∀ j, j < x → u 136 j = nI (oFn o j)) ?_ FU i _ _ (FU_lt (by omega)) ⟨0, by omega, rfl, t2, t3, t4, ho, fun j hj => by omega⟩
            rintro q3 k3' v3 u ⟨x, hx, rfl, u2, u3, u4, uo, u6⟩ hq3
            simp only [bnd_x]
            rw [u2, e2, if_neg (show ¬ nI (vl m p o) ≤ nI X.1 - 1 from fun h => by
              have := (m1lt (M := X.1) (X := vl m p o) (by omega) (by omega)).mpr (by omega)
              exact Int32.lt_irrefl (Int32.lt_of_le_of_lt h this))]
            refine w1_if (fun c6 => ?_) (fun c6 => ?_)
            · rw [nI_leI (by omega) (by omega)] at c6
              exact fin u u2 u3 u4 uo ⟨rfl, by rw [eu]; dsimp only; omega, fun _ k hk => by rw [eu]; exact u6 k (by omega)⟩
            · rw [nI_leI (by omega) (by omega)] at c6
              rw [gd_n _ (show x < 6 by omega) (by decide), gd_n _ (show x < 6 by omega) (by decide), ix_n (by omega), nI_1]
              refine hq3 (k3' - 1) _ _ (by omega) ⟨x + 1, by omega, rfl, by rw [ptq _ _ _ (by decide)]; exact u2, by rw [ptq _ _ _ (by decide)]; exact u3, by rw [ptq _ _ _ (by decide)]; exact u4, ⟨by rw [pt_o _ _ _ _ (by decide)]; exact uo.1, fun k hk => by rw [pt_o _ _ _ _ (by decide)]; exact uo.2 k hk⟩, fun j hj => ?_⟩
              by_cases e : j = x
              · subst e; rw [pt_s]; exact uo.2 j (by omega)
              · rw [pt_k _ _ _ e]; exact u6 j (by omega)
          · have eu : ub m p X o = X := if_neg c5
            have hle : nI (vl m p o) ≤ nI X.1 - 1 := by
              have := fun h => c5 (by have := (m1lt (M := X.1) (X := vl m p o) (by omega) (by omega)).mp h; omega)
              exact Int32.not_lt.mp this
            rw [show FU = 4999 + 1 from rfl, lp_s]
            simp only [bnd_x]
            rw [if_pos hle, ite_self]
            exact fin t t2 t3 t4 ho (by rw [eu]; exact ⟨rfl, hX7, hb.2.2⟩)
      · cases hL : pmL i i [] with
        | nil => rw [hL] at ch; cases ch
        | cons o t =>
          rw [hL] at ch
          dsimp only at ch
          rw [List.all_eq_true] at ch
          exact ⟨o, t, rfl, by rw [s2]; exact e2, fun k hk => by rw [s5 k hk]; exact congrArg nI (eq_of_beq (ch k (List.mem_range.mpr hk))).symm⟩
    · rw [nI_leI (by omega) (by omega)] at c
      rw [gd_n _ (show i < 6 by omega) (by decide), bnd_e, ix_n (by omega), nI_1]
      refine hq (k - 1) _ _ (by omega) ⟨i + 1, by omega, rfl, by rw [ptq _ _ _ (by decide)]; exact s2, by rw [ptq _ _ _ (by decide)]; exact s3, by rw [ptq _ _ _ (by decide)]; exact s4, fun j hj => ?_⟩
      by_cases e : j = i
      · subst e; rw [pt_s]
      · rw [pt_k _ _ _ e]; exact s5 j (by omega)
  obtain ⟨z, ez, hz1, hz2⟩ := cls
  refine w2_jr (fun J => ∀ (Q : Int32 × Sg → Prop), (∀ t, (∀ k, k < n → t 136 k = nI (oFn ((pmL n n []).foldl (ub m p) (0, [])).2 k)) → W1 (if v = 0 then some (nI ((pmL n n []).foldl (ub m p) (0, [])).1 - 1, t) else gd (v - 10) 6 (some (t 136 (ix (v - 10)), t))) Q) → W1 (J b) Q) ref ?_
  intro J hJ
  by_cases c0 : v = 0
  · subst c0
    have hc0 : fH_council 0 a = some z := by
      unfold fH_council
      simp only [bnd_x, if_true, show (0 : Int32) < 10 from by decide]
      rw [ez]
      rfl
    rw [hc0, if_pos rfl]
    refine w2_1 (w1_s (hJ _ (fun t ht => ?_)))
    rw [if_pos rfl]
    exact w1_s hz1
  rw [if_neg c0, e_isIn, bi_s, e2, show 9 + nI n = nI (9 + n) from nI_add 9 n]
  have hcN : fH_council v a = if v < 10 then some (-1, a) else if nI n ≤ v - 10 then some (-1, a) else bi (fMu_speakerAt (v - 10) a) fun r4 s3 => some (r4, s3) := by
    unfold fH_council
    simp only [bnd_x, if_neg c0, if_true, n10z, if_false, e1]
  rw [hcN]
  by_cases c1 : wi v 10 (nI (9 + n)) = 0
  · rw [if_pos c1]
    by_cases c2 : v < 10
    · rw [if_pos c2]
      exact w2_s rfl
    · rw [if_neg c2]
      have c3 : ¬ v < 0 := fun q => c2 (Int32.lt_trans q (by decide))
      obtain ⟨x, hx, rfl⟩ := nI_of c3
      have hx10 : ¬ x < 10 := fun q => c2 (nI_lt (b := 10) q (by decide))
      rw [show (10 : Int32) = nI 10 from rfl, wi_n hx (by decide) (by omega)] at c1
      have hx9 : 9 + n < x := by
        refine Nat.lt_of_not_le fun q => ?_
        rw [if_pos ⟨by omega, q⟩] at c1
        exact absurd c1 (by decide)
      rw [show (10 : Int32) = nI 10 from rfl, pk_sub (by omega), if_pos (nI_le (by omega) (by omega))]
      exact w2_s rfl
  · rw [if_neg c1]
    obtain ⟨x, hx1, hx2, rfl⟩ := wi_1 (a := 10) (b := 9 + n) (by decide) (by omega) c1
    have ex : nI x - 10 = nI (x - 10) := by rw [show (10 : Int32) = nI 10 from rfl, pk_sub hx1]
    rw [if_neg (show ¬ nI x < 10 from nI_nlt (b := 10) (by omega) (by omega)), ex, if_neg (nI_ge (by omega) (by omega))]
    unfold fMu_speakerAt
    rw [ez]
    refine w2_1 (w1_bi (w1_bi (w1_s ?_)))
    rw [e_within, bi_s, show wi (nI (x - 10)) 0 5 = 1 from w_in (a := 0) (b := 5) (by omega) (by omega) (by decide), if_neg n10z, gd_n _ (show x - 10 < 6 by omega) (by decide), ix_n (by omega)]
    refine w1_s (w1_s (hJ _ (fun t ht => ?_)))
    rw [if_neg c0, ex, gd_n _ (show x - 10 < 6 by omega) (by decide), ix_n (by omega), ht _ (by omega)]
    refine w1_s ?_
    dsimp only
    exact hz2 _ (by omega)
