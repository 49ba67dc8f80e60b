/-! TEXT: the law, of the reference -/
def L16 (b s : Sg) : Prop := ∀ k, k < 32 → s 113 k = b 113 k ∧ s 114 k = b 114 k ∧ s 115 k = b 115 k ∧ s 116 k = b 116 k
def A4 (t s : Sg) (m : Nat) : Prop := ∀ k, k ≠ 32 + m → s 113 k = t 113 k ∧ s 114 k = t 114 k ∧ s 115 k = t 115 k ∧ s 116 k = t 116 k
theorem A4_c {t s s' : Sg} {m : Nat} (h : A4 t s m) (h1 : s' 113 = s 113) (h2 : s' 114 = s 114) (h3 : s' 115 = s 115) (h4 : s' 116 = s 116) : A4 t s' m := fun k hk => by rw [h1, h2, h3, h4]; exact h k hk
theorem A4_p {t s : Sg} {m o : Nat} {v : Int32} (h : A4 t s m) : A4 t (pt s o (32 + m) v) m := fun k hk => by
  have e : ∀ q, pt s o (32 + m) v q k = s q k := fun q => ptf2 _ _ _ _ (fun c => hk (congrArg Prod.snd c))
  rw [e, e, e, e]
  exact h k hk
theorem rk_line {t : Tk} {tok val : Int32} (h : rkM 0 t tok val) (hb : t.1 < 256 ∨ t.1 - 256 < (kW 0).length) : (256 ≤ t.1 → tok = 2 ∧ val = nI (t.1 - 256)) ∧ (tok = 2 → ¬ 256 ≤ t.1 → wi val 0 2 = 0) := by
  have h16 : (kW 0).length = 16 := rfl
  rw [h16] at hb
  unfold rkM at h
  by_cases h0 : t.1 = 0
  · rw [if_pos h0] at h
    exact ⟨fun x => by omega, fun x => by rw [x] at h; exact absurd h (by decide)⟩
  rw [if_neg h0] at h
  by_cases h1 : t.1 = 1
  · rw [if_pos h1] at h
    exact ⟨fun x => by omega, fun x => by rw [x] at h; exact absurd h.1 (by decide)⟩
  rw [if_neg h1] at h
  by_cases h2 : t.1 = 2
  · rw [if_pos h2] at h
    refine ⟨fun x => by omega, fun x _ => ?_⟩
    rcases h with h | ⟨_, w, hw, hn, hv⟩
    · rw [x] at h
      exact absurd h (by decide)
    · rw [hv]
      have : 16 ≤ w := by
        by_cases g : w < 16
        · exact absurd (kj_0 w g) (hn w (by rw [h16]; exact g))
        · omega
      have hh : ∀ w, w < 23 → 16 ≤ w → wi (nI w) 0 2 = 0 := by decide
      exact hh w hw this
  rw [if_neg h2] at h
  by_cases h3 : t.1 < 256
  · rw [if_pos h3] at h
    exact ⟨fun x => by omega, fun x => by rw [x] at h; exact absurd h.1 (by decide)⟩
  rw [if_neg h3, kj_0 _ (by omega)] at h
  exact ⟨fun _ => h, fun _ hn => by omega⟩
theorem e_line {T : Nat → Nat} {n : Nat} {s : Sg} {t : Tk} {r : List Tk} (h : MT T n 0 s (t :: r)) (ht : tkl 0 (t :: r)) : fM_isLineWord s = some (if 256 ≤ t.1 ∧ t.1 ≤ 258 then 1 else 0, s) ∧ (256 ≤ t.1 → s 102 16 = nI (t.1 - 256)) := by
  obtain ⟨a1, a2⟩ := rk_line h.2.2.1 ht.1
  have hx := (tkl_b (o := 0) (by decide) ht).1
  refine ⟨?_, fun h => (a1 h).2⟩
  unfold fM_isLineWord
  by_cases g : s 102 15 = 2
  · rw [if_pos g, e_isIn, bi_s]
    by_cases g2 : 256 ≤ t.1
    · rw [(a1 g2).2, show (0 : Int32) = nI 0 from rfl, show (2 : Int32) = nI 2 from rfl, wi_n (by omega) (by decide) (by decide)]
      by_cases g3 : t.1 ≤ 258
      · rw [if_pos (show 0 ≤ t.1 - 256 ∧ t.1 - 256 ≤ 2 by omega), if_neg (by decide), gb_1, if_pos ⟨g2, g3⟩]
      · rw [if_neg (show ¬ (0 ≤ t.1 - 256 ∧ t.1 - 256 ≤ 2) by omega), if_pos (show (0 : Int32) = nI 0 from rfl), if_neg (show ¬ (256 ≤ t.1 ∧ t.1 ≤ 258) from fun c => g3 c.2)]
        rfl
    · rw [a2 g g2, if_pos rfl, gb_0, if_neg (fun c => g2 c.1)]
  · rw [if_neg g, gb_0, if_neg (fun c => g (a1 c.1).1)]
def RL (b : Sg) (G : Except (Nat × Nat) (List Lin)) (z : Int32 × Sg) : Prop :=
  LW b z.2 ∧ L16 b z.2 ∧ match G with
    | .error e => z.1 = -1 ∧ FM z.2 e
    | .ok X => z.1 = nI X.length ∧ MC b z.2 (fl X) ∧ lnM z.2 X 0 0
theorem m_law {T : Nat → Nat} {n : Nat} {s : Sg} {L0 : List Tk} (hT0 : MT T n 0 s L0) (h26 : s 102 26 = 0) (h27 : s 102 27 = 0) (ht0 : tkl 0 L0) (hL0 : L0.length ≤ 401) : W1 (fM_readLaw s) (RL s (txtL 258 linP 401 [] L0)) := by
  generalize hG0 : txtL 258 linP 401 [] L0 = G
  generalize hb : s = b at hT0 h26 h27 ⊢
  have hb : b = b := rfl
  unfold fM_readLaw
  refine w1_lp (fun k v t => ∃ X L kk, v = nI X.length ∧ MT T n 0 t L ∧ MC b t (fl X) ∧ lnM t X 0 0 ∧ t 102 27 = 0 ∧ L16 b t ∧ tkl 0 L ∧ mln (fl X) + L.length ≤ 401 ∧ X.length ≤ 16 ∧ txtL 258 linP kk X L = G ∧ L.length ≤ kk ∧ L.length ≤ k) ?_ FU 401 _ _ (FU_lt (by omega)) ⟨[], L0, 401, rfl, hT0, ⟨h26, True.intro, fun _ _ => ⟨rfl, rfl⟩⟩, True.intro, h27, fun _ _ => ⟨rfl, rfl, rfl, rfl⟩, ht0, by show 0 + L0.length ≤ 401; omega, Nat.zero_le _, hG0, hL0, hL0⟩
  clear hT0 h26 h27 ht0 hL0 hG0
  rintro q2 k v t ⟨X, L, kk, rfl, hT, hC, hM, h27, h16, hL, hbd, hX, hG, hkk, hk⟩ hq
  match L, hL with
  | x :: r, hL =>
  obtain ⟨el, ev⟩ := e_line hT hL
  obtain ⟨k1, k2, k3⟩ := rk_tok hT.2.2.1
  rw [List.length_cons] at hbd hkk hk
  obtain ⟨kk, rfl⟩ : ∃ j, kk = j + 1 := ⟨kk - 1, by omega⟩
  rw [txtL] at hG
  have errs : ∀ (f : Nat) (t' : Sg) (y : Tk) (ys : List Tk), MT T n 0 t' (y :: ys) → LW b t' → L16 b t' → G = .error (f, y.2.1) → W1 (bi (fM_errs (nI f) t') fun r5 s4 => some (r5, s4)) (RL b G) := by
    intro f t' y ys a1 a2 a3 a4
    refine w1_bi (w1_m (m_errs f a1) (fun z hz => w1_s ?_))
    refine ⟨LW_c a2 (frO hz.2.2 117 (by decide) (by decide)) (frO hz.2.2 118 (by decide) (by decide)), fun k hk => ?_, ?_⟩
    · dsimp only
      rw [frO hz.2.2 113 (by decide) (by decide), frO hz.2.2 114 (by decide) (by decide), frO hz.2.2 115 (by decide) (by decide), frO hz.2.2 116 (by decide) (by decide)]
      exact a3 k hk
    · rw [a4]
      exact ⟨hz.1, hz.2.1⟩
  rw [el, bi_s]
  by_cases g : 256 ≤ x.1 ∧ x.1 ≤ 258
  rotate_left
  · rw [if_neg g] at hG ⊢
    rw [if_pos rfl]
    refine w1_if (fun g2 => ?_) (fun g2 => ?_)
    · rw [if_pos (k2.mp g2)] at hG
      exact w1_s ⟨hC.2.2, h16, by rw [← hG]; exact ⟨rfl, hC, hM⟩⟩
    · rw [if_neg (fun e => g2 (k2.mpr e))] at hG
      exact errs 1 t x r hT hC.2.2 h16 hG.symm
  rw [if_pos g] at hG ⊢
  rw [if_neg n10z, show (16 : Int32) = nI 16 from rfl]
  by_cases g16 : X.length = 16
  · rw [if_pos g16] at hG
    rw [if_pos (show nI X.length = nI 16 by rw [g16])]
    exact errs 3 t x r hT hC.2.2 h16 hG.symm
  rw [if_neg g16] at hG
  rw [if_neg (show ¬ nI X.length = nI 16 from fun e => g16 (nI_inj (by omega) (by decide) e)), show (32 : Int32) = nI 32 from rfl, nI_add, gd_n _ (show 32 + X.length < 48 by omega) (by decide), ix_n (by omega), bnd_e, ev g.1]
  obtain ⟨hLr, u, r', rfl⟩ := tkl_t hL (by omega)
  have hlin := fun l L' (h : linP (x :: u :: r') = .ok (l, L')) => linP_w h hL
  -- after its word was written
  generalize hs6 : pt t 113 (32 + X.length) (nI (x.1 - 256)) = s6
  have hA6 : A4 t s6 X.length := by rw [← hs6]; exact A4_p (fun _ _ => ⟨rfl, rfl, rfl, rfl⟩)
  have c6 : s6 113 (32 + X.length) = nI (x.1 - 256) := by rw [← hs6, pt_s]
  have q6 : ∀ o, o ≠ 113 → s6 o = t o := fun o h => by rw [← hs6, ptq _ _ _ h]
  have hT6 : MT T n 0 s6 (x :: u :: r') := MT_c hT (by rw [q6 102 (by decide)]) (by rw [q6 102 (by decide)]) (by rw [q6 102 (by decide)]) (by rw [q6 102 (by decide)]) (by rw [q6 102 (by decide)]) (q6 110 (by decide)) (q6 111 (by decide))
  refine w1_bv (w1_m (m_adv (by decide) hT6) (fun s7 h7 => ?_))
  obtain ⟨hT7, f7⟩ := h7
  have hA7 : A4 t s7 X.length := A4_c hA6 (frO f7 113 (by decide) (by decide)) (frO f7 114 (by decide) (by decide)) (frO f7 115 (by decide) (by decide)) (frO f7 116 (by decide) (by decide))
  have e26 : s7 102 26 = nI (mln (fl X)) := (f7 102 26 (by decide) (by decide)).trans ((congrFun (q6 102 (by decide)) 26).trans hC.1)
  rw [gd_n _ (show 32 + X.length < 48 by omega) (by decide), bnd_e, e26]
  generalize hs8 : pt s7 114 (32 + X.length) (nI (mln (fl X))) = s8
  have q8 : ∀ o, o ≠ 114 → s8 o = s7 o := fun o h => by rw [← hs8, ptq _ _ _ h]
  have hA8 : A4 t s8 X.length := by rw [← hs8]; exact A4_p hA7
  have c8a : s8 113 (32 + X.length) = nI (x.1 - 256) := by rw [q8 113 (by decide), frO f7 113 (by decide) (by decide)]; exact c6
  have c8b : s8 114 (32 + X.length) = nI (mln (fl X)) := by rw [← hs8, pt_s]
  have hT8 : MT T n 0 s8 (u :: r') := MT_c hT7 (by rw [q8 102 (by decide)]) (by rw [q8 102 (by decide)]) (by rw [q8 102 (by decide)]) (by rw [q8 102 (by decide)]) (by rw [q8 102 (by decide)]) (q8 110 (by decide)) (q8 111 (by decide))
  have hC8 : MC b s8 (fl X ++ []) := by
    rw [List.append_nil]
    refine MC_c hC ?_ ?_ ?_
    · rw [q8 102 (by decide), f7 102 26 (by decide) (by decide), q6 102 (by decide)]
    · rw [q8 117 (by decide), frO f7 117 (by decide) (by decide), q6 117 (by decide)]
    · rw [q8 118 (by decide), frO f7 118 (by decide) (by decide), q6 118 (by decide)]
  have h27' : s8 102 27 = 0 := by rw [q8 102 (by decide), f7 102 27 (by decide) (by decide), q6 102 (by decide)]; exact h27
  have low : ∀ s', A4 t s' X.length → L16 b s' := fun s' h k hk => by
    obtain ⟨y1, y2, y3, y4⟩ := h k (by omega)
    rw [y1, y2, y3, y4]
    exact h16 k hk
  rw [List.length_cons] at hbd hkk hk
  refine w1_bi (w1_m (w1_f2 (m_sum hT8 hC8 hLr (by rw [List.append_nil, List.length_cons]; omega)) (fr_M_readSum s8)) (fun z hz => ?_))
  obtain ⟨z1, s9⟩ := z
  obtain ⟨hz, f9⟩ := hz
  have hA9 : A4 t s9 X.length := A4_c hA8 (frO f9 113 (by decide) (by decide)) (frO f9 114 (by decide) (by decide)) (frO f9 115 (by decide) (by decide)) (frO f9 116 (by decide) (by decide))
  dsimp only
  rw [show linP (x :: u :: r') = (match sumP (u :: r') [] with | .error e => .error e | .ok (_, []) => .error (0, 0) | .ok (p, w :: r1) => if w.1 = 259 then (match cnd 401 true [] [] r1 with | .error e => .error e | .ok (q, L2) => .ok ((x.1 - 256, p, q), L2)) else .ok ((x.1 - 256, p, []), w :: r1)) from rfl] at hG hlin
  cases hs : sumP (u :: r') [] with
  | error e =>
    rw [hs] at hz hG
    obtain ⟨y1, y2, y3⟩ := hz
    dsimp only at y1 y2 y3 hG
    rw [y1, if_pos rfl]
    exact w1_s ⟨y3, low s9 hA9, by rw [← hG]; exact ⟨rfl, y2⟩⟩
  | ok y =>
  obtain ⟨p, L1⟩ := y
  rw [hs] at hz hG hlin
  obtain ⟨y1, y2, y3⟩ := hz
  obtain ⟨b1, b2, b3⟩ := sumP_b (o := 0) (by decide) hs hLr
  match L1, b2 with
  | w :: r1, b2 =>
  dsimp only at y1 y2 y3 hG hlin
  have e0 : mln ([] : Pg) = 0 := rfl
  rw [List.length_cons, List.length_cons, e0] at b1
  rw [List.length_cons, List.length_cons] at b3
  rw [y1, if_neg (by decide), gd_n _ (show 32 + X.length < 48 by omega) (by decide), bnd_e, y3.1]
  generalize hs11 : pt s9 115 (32 + X.length) (nI (mln (fl X ++ p))) = s11
  have q11 : ∀ o, o ≠ 115 → s11 o = s9 o := fun o h => by rw [← hs11, ptq _ _ _ h]
  have hA11 : A4 t s11 X.length := by rw [← hs11]; exact A4_p hA9
  have d11 : s11 113 (32 + X.length) = nI (x.1 - 256) ∧ s11 114 (32 + X.length) = nI (mln (fl X)) ∧ s11 115 (32 + X.length) = nI (mln (fl X) + mln p) := by
    refine ⟨?_, ?_, ?_⟩
    · rw [q11 113 (by decide), show s9 113 = _ from frO f9 113 (by decide) (by decide)]; exact c8a
    · rw [q11 114 (by decide), show s9 114 = _ from frO f9 114 (by decide) (by decide)]; exact c8b
    · rw [← hs11, pt_s, mln_app]
  have hT11 : MT T n 0 s11 (w :: r1) := MT_c y2 (by rw [q11 102 (by decide)]) (by rw [q11 102 (by decide)]) (by rw [q11 102 (by decide)]) (by rw [q11 102 (by decide)]) (by rw [q11 102 (by decide)]) (q11 110 (by decide)) (q11 111 (by decide))
  have hC11 : MC b s11 (fl X ++ p) := MC_c y3 (by rw [q11 102 (by decide)]) (q11 117 (by decide)) (q11 118 (by decide))
  have h27'' : s11 102 27 = 0 := by rw [q11 102 (by decide)]; exact (f9 102 27 (by decide) (by decide)).trans h27'
  rw [show (3 : Int32) = nI (kj 0 3) from rfl, e_wd (by decide) hT11 b2 (by decide), bi_s]
  refine w1_j (fun (J : Sg → Option (Int32 × Sg)) => ∀ s14 q L', MT T n 0 s14 L' → MC b s14 (fl X ++ (p ++ q)) → A4 t s14 X.length → (s14 113 (32 + X.length) = nI (x.1 - 256) ∧ s14 114 (32 + X.length) = nI (mln (fl X)) ∧ s14 115 (32 + X.length) = nI (mln (fl X) + mln p)) → s14 102 27 = 0 → tkl 0 L' → mln p + mln q + L'.length + 1 ≤ r'.length + 1 + 1 → L'.length + 2 ≤ r'.length + 1 + 1 → (∀ v r2, L' = v :: r2 → (if v.1 = 59 then txtL 258 linP kk (X ++ [(x.1 - 256, p, q)]) r2 else .error (1, v.2.1)) = G) → W1 (J s14) (RL b G)) ?_ (fun j92 h92 => ?_)
  · intro s14 q L' m1 m2 m3 m4 m5 m6 m7 m8 m9
    match L', m6 with
    | v :: r2, m6 =>
    have m9 := m9 v r2 rfl
    rw [List.length_cons] at m7 m8
    rw [gd_n _ (show 32 + X.length < 48 by omega) (by decide), bnd_e, m2.1]
    generalize hs15 : pt s14 116 (32 + X.length) (nI (mln (fl X ++ (p ++ q)))) = s15
    have q15 : ∀ o, o ≠ 116 → s15 o = s14 o := fun o h => by rw [← hs15, ptq _ _ _ h]
    have hA15 : A4 t s15 X.length := by rw [← hs15]; exact A4_p m3
    have hT15 : MT T n 0 s15 (v :: r2) := MT_c m1 (by rw [q15 102 (by decide)]) (by rw [q15 102 (by decide)]) (by rw [q15 102 (by decide)]) (by rw [q15 102 (by decide)]) (by rw [q15 102 (by decide)]) (q15 110 (by decide)) (q15 111 (by decide))
    have hC15 : MC b s15 (fl (X ++ [(x.1 - 256, p, q)])) := by
      rw [fl_s]
      exact MC_c m2 (by rw [q15 102 (by decide)]) (q15 117 (by decide)) (q15 118 (by decide))
    have hM15 : lnM s15 (X ++ [(x.1 - 256, p, q)]) 0 0 := by
      refine lnM_s X 0 0 hM (fun k hk => hA15 k (by omega)) ?_
      rw [Nat.zero_add, Nat.zero_add, q15 113 (by decide), q15 114 (by decide), q15 115 (by decide)]
      refine ⟨m4.1, m4.2.1, m4.2.2, ?_⟩
      rw [← hs15, pt_s, mln_app, mln_app, Nat.add_assoc]
    rw [show (59 : Int32) = nI 59 from rfl, e_sg hT15 (by decide), bi_s]
    by_cases g59 : v.1 = 59
    · rw [if_pos g59] at m9 ⊢
      rw [if_neg n10z]
      obtain ⟨ht2, v2, r3, rfl⟩ := tkl_t m6 (by omega)
      refine w1_bv (w1_m (m_adv (by decide) hT15) (fun s18 h18 => ?_))
      obtain ⟨hT18, f18⟩ := h18
      rw [nI_1]
      rw [List.length_cons] at m7 m8
      refine hq (k - 1) _ _ (by omega) ⟨X ++ [(x.1 - 256, p, q)], v2 :: r3, kk, by rw [List.length_append]; rfl, hT18, MC_c hC15 (f18 102 26 (by decide) (by decide)) (frO f18 117 (by decide) (by decide)) (frO f18 118 (by decide) (by decide)), lnM_c (frO f18 113 (by decide) (by decide)) (frO f18 114 (by decide) (by decide)) (frO f18 115 (by decide) (by decide)) (frO f18 116 (by decide) (by decide)) _ _ _ hM15, ?_, low _ (A4_c hA15 (frO f18 113 (by decide) (by decide)) (frO f18 114 (by decide) (by decide)) (frO f18 115 (by decide) (by decide)) (frO f18 116 (by decide) (by decide))), ht2, ?_, by rw [List.length_append]; show X.length + 1 ≤ 16; omega, m9, by rw [List.length_cons]; omega, by rw [List.length_cons]; omega⟩
      · rw [f18 102 27 (by decide) (by decide), q15 102 (by decide)]; exact m5
      · rw [fl_s, mln_app, mln_app, List.length_cons]
        dsimp only
        omega
    · rw [if_neg g59] at m9 ⊢
      rw [if_pos rfl]
      exact errs 1 s15 v r2 hT15 hC15.2.2 (low _ hA15) m9.symm
  by_cases g3 : w.1 = 259
  · rw [if_pos (show w.1 = 256 + 3 from g3), if_neg n10z]
    rw [if_pos g3] at hG
    simp only [if_pos g3] at hlin
    obtain ⟨htr1, u1, r2, rfl⟩ := tkl_t b2 (by omega)
    rw [List.length_cons] at b1 b3
    refine w1_bv (w1_m (m_adv (by decide) hT11) (fun s21 h21 => ?_))
    obtain ⟨hT21, f21⟩ := h21
    have hC21 : MC b s21 (fl X ++ p) := MC_c hC11 (f21 102 26 (by decide) (by decide)) (frO f21 117 (by decide) (by decide)) (frO f21 118 (by decide) (by decide))
    refine w1_bi (w1_m (w1_f2 (m_cond hT21 hC21 ((f21 102 27 (by decide) (by decide)).trans h27'') htr1 (by rw [mln_app, List.length_cons]; omega)) (fr_M_readAny s21)) (fun z hz => ?_))
    obtain ⟨z1, s22⟩ := z
    obtain ⟨⟨hz, hz27⟩, f22⟩ := hz
    have f4 : ∀ o, o ∈ [113, 114, 115, 116] → s22 o = s11 o := by
      intro o ho
      refine (frO f22 o ?_ ?_).trans (frO f21 o ?_ ?_)
      · intro h; revert ho h; revert o; decide
      · intro h; revert ho h; revert o; decide
      · intro h; revert ho h; revert o; decide
      · intro h; revert ho h; revert o; decide
    have hA22 : A4 t s22 X.length := A4_c hA11 (f4 113 (by decide)) (f4 114 (by decide)) (f4 115 (by decide)) (f4 116 (by decide))
    dsimp only
    cases hs2 : cnd 401 true [] [] (u1 :: r2) with
    | error e =>
      rw [hs2] at hz hG
      obtain ⟨v1, v2, v3⟩ := hz
      dsimp only at v1 v2 v3 hG
      rw [v1, if_pos rfl]
      exact w1_s ⟨v3, low _ hA22, by rw [← hG]; exact ⟨rfl, v2⟩⟩
    | ok yy =>
      obtain ⟨q, L2⟩ := yy
      rw [hs2] at hz hG hlin
      obtain ⟨v1, v2, v3⟩ := hz
      dsimp only at v1 v2 v3 hG hlin hz27
      rw [v1, if_neg (by decide)]
      obtain ⟨a1, a2, a3, a4⟩ := hlin _ _ rfl
      rw [List.length_cons, List.length_cons] at a3 a4
      exact h92 s22 q L2 v2 (by rw [← List.append_assoc]; exact v3) hA22 (by rw [f4 113 (by decide), f4 114 (by decide), f4 115 (by decide)]; exact d11) (hz27 v1) a2 a3 a4 (fun v r2 e => by subst e; exact hG)
  · rw [if_neg (show ¬ w.1 = 256 + 3 from g3), if_pos rfl]
    rw [if_neg g3] at hG
    simp only [if_neg g3] at hlin
    obtain ⟨a1, a2, a3, a4⟩ := hlin _ _ rfl
    rw [List.length_cons (a := x), List.length_cons (a := u)] at a3 a4
    exact h92 s11 [] (w :: r1) hT11 (by rw [List.append_nil]; exact hC11) hA11 d11 h27'' b2 a3 a4 (fun v r2 e => by cases e; exact hG)
