/-! TEXT: sunsets and suits, of the reference -/
theorem m_suns {T : Nat → Nat} {n : Nat} {s : Sg} {L0 : List Tk} (hT0 : MT T n 2 s L0) (ht0 : tkl 2 L0) (hL0 : L0.length ≤ 401) : W1 (fM_readSuns s) (RX s 121 32 snM (txtL 256 snP 401 [] L0)) := by
  generalize hG0 : txtL 256 snP 401 [] L0 = G
  unfold fM_readSuns
  refine w1_lp (fun k v t => ∃ X L kk, v = nI X.length ∧ MT T n 2 t L ∧ tkl 2 L ∧ (∀ k, k < 32 → t 121 k = s 121 k) ∧ rwP (snM t) X 0 ∧ X.length ≤ 16 ∧ txtL 256 snP kk X L = G ∧ L.length ≤ kk ∧ L.length ≤ k) ?_ FU 401 _ _ (FU_lt (by omega)) ⟨[], L0, 401, rfl, hT0, ht0, fun _ _ => rfl, True.intro, Nat.zero_le _, hG0, hL0, hL0⟩
  clear hT0 ht0 hL0 hG0
  rintro q2 k v t ⟨X, L, kk, rfl, hT, hL, hlo, hr, hX, hG, hkk, hk⟩ hq
  match L, hL with
  | x :: r, hL =>
  obtain ⟨k1, k2, k3⟩ := rk_tok hT.2.2.1
  have hx := (tkl_b (o := 2) (by decide) hL).1
  rw [List.length_cons] at hkk hk
  obtain ⟨kk, rfl⟩ : ∃ j, kk = j + 1 := ⟨kk - 1, by omega⟩
  rw [txtL] at hG
  have errs : ∀ f : Nat, G = .error (f, x.2.1) → W1 (bi (fM_errs (nI f) t) fun r5 s4 => some (r5, s4)) (RX s 121 32 snM G) := by
    intro f hGe
    refine w1_bi (w1_m (m_errs f hT) (fun z hz => w1_s ⟨fun k hk => ?_, ?_⟩))
    · dsimp only
      rw [frO hz.2.2 121 (by decide) (by decide)]
      exact hlo k hk
    · rw [hGe]
      exact ⟨hz.1, hz.2.1⟩
  rw [show (20 : Int32) = nI (kj 2 0) from rfl, show (21 : Int32) = nI (kj 2 1) from rfl, e_wd (by decide) hT hL (by decide), bi_s]
  by_cases g : x.1 = 256
  rotate_left
  · rw [if_neg (show ¬ (256 ≤ x.1 ∧ x.1 ≤ 256) by omega)] at hG
    rw [if_neg (show ¬ x.1 = 256 + 0 from g), if_pos rfl]
    refine w1_if (fun g2 => ?_) (fun g2 => ?_)
    · rw [if_pos (k2.mp g2)] at hG
      exact w1_s ⟨hlo, by rw [← hG]; exact ⟨rfl, hr⟩⟩
    · rw [if_neg (fun e => g2 (k2.mpr e))] at hG
      exact errs 1 hG.symm
  rw [if_pos (show 256 ≤ x.1 ∧ x.1 ≤ 256 by omega)] at hG
  rw [if_pos (show x.1 = 256 + 0 from g), if_neg n10z]
  by_cases g16 : X.length = 16
  · rw [if_pos g16] at hG
    rw [if_pos (show nI X.length = 16 by rw [g16]; rfl)]
    exact errs 3 hG.symm
  rw [if_neg g16] at hG
  rw [if_neg (show ¬ nI X.length = 16 from fun e => g16 (nI_inj (b := 16) (by omega) (by decide) e))]
  have a0 : (32 : Int32) + 2 * nI X.length = nI (32 + 2 * X.length) := by rw [show (2 : Int32) = nI 2 from rfl, pk_mul, show (32 : Int32) = nI 32 from rfl, nI_add]
  have a1 : (33 : Int32) + 2 * nI X.length = nI (33 + 2 * X.length) := by rw [show (2 : Int32) = nI 2 from rfl, pk_mul, show (33 : Int32) = nI 33 from rfl, nI_add]
  rw [a0, a1]
  refine w1_bi (w1_m (m_told (o := 2) (key := 0) (by decide) (by decide) hT hL) (fun z hz => ?_))
  obtain ⟨z1, s1⟩ := z
  obtain ⟨hz, f1⟩ := hz
  have e1 : s1 121 = t 121 := frO f1 121 (by decide) (by decide)
  dsimp only
  rw [gd_n _ (show 32 + 2 * X.length < 64 by omega) (by decide), ix_n (by omega), bnd_e, gd_n _ (show 32 + 2 * X.length < 64 by omega) (by decide), pt_s]
  cases h1 : toldP 0 0 999 (x :: r) with
  | error e =>
    rw [h1] at hz
    rw [show snP (x :: r) = .error e by unfold snP; rw [h1]] at hG
    dsimp only at hG
    rw [if_pos hz.1]
    exact w1_s ⟨fun k hk => by dsimp only; rw [pt_k _ _ _ (by omega), e1]; exact hlo k hk, by rw [← hG]; exact ⟨rfl, FM_p hz.2 (by decide)⟩⟩
  | ok x1 =>
  obtain ⟨a, L1⟩ := x1
  rw [h1] at hz
  obtain ⟨t1, l1, b1, _⟩ := toldP_b (o := 2) (by decide) h1 hL
  obtain ⟨y1, y2⟩ := hz
  dsimp only at y1 y2
  rw [if_neg (by rw [y1]; exact nI_m1 (by omega)), y1]
  generalize hg3 : pt s1 121 (32 + 2 * X.length) (nI a) = s3
  have q3 : ∀ k, k ≠ 32 + 2 * X.length → s3 121 k = t 121 k := fun k hk => by rw [← hg3, pt_k _ _ _ hk, e1]
  have c3 : s3 121 (32 + 2 * X.length) = nI a := by rw [← hg3, pt_s]
  have m3 : MT T n 2 s3 L1 := by rw [← hg3]; exact MT_p y2 (by decide)
  refine w1_bi (w1_m (m_told (o := 2) (key := 1) (by decide) (by decide) m3 t1) (fun z hz => ?_))
  obtain ⟨z1, s4⟩ := z
  obtain ⟨hz, f4⟩ := hz
  have e4 : s4 121 = s3 121 := frO f4 121 (by decide) (by decide)
  dsimp only
  rw [gd_n _ (show 33 + 2 * X.length < 64 by omega) (by decide), ix_n (by omega), bnd_e, gd_n _ (show 33 + 2 * X.length < 64 by omega) (by decide), pt_s]
  cases h2 : toldP 1 10 59 L1 with
  | error e =>
    rw [h2] at hz
    rw [show snP (x :: r) = .error e by unfold snP; rw [h1]; dsimp only; rw [h2]] at hG
    dsimp only at hG
    rw [if_pos hz.1]
    exact w1_s ⟨fun k hk => by dsimp only; rw [pt_k _ _ _ (by omega), e4, q3 k (by omega)]; exact hlo k hk, by rw [← hG]; exact ⟨rfl, FM_p hz.2 (by decide)⟩⟩
  | ok x2 =>
  obtain ⟨b, L2⟩ := x2
  rw [h2] at hz
  have hsn : snP (x :: r) = .ok ((a, b), L2) := by unfold snP; rw [h1]; dsimp only; rw [h2]
  rw [hsn] at hG
  obtain ⟨t2, l2, b2, _⟩ := toldP_b (o := 2) (by decide) h2 t1
  obtain ⟨y1, y2⟩ := hz
  dsimp only at y1 y2
  rw [if_neg (by rw [y1]; exact nI_m1 (by omega)), y1]
  generalize hg6 : pt s4 121 (33 + 2 * X.length) (nI b) = s6
  have q6 : ∀ k, k ≠ 33 + 2 * X.length → s6 121 k = s3 121 k := fun k hk => by rw [← hg6, pt_k _ _ _ hk, e4]
  have c6 : s6 121 (33 + 2 * X.length) = nI b := by rw [← hg6, pt_s]
  have m6 : MT T n 2 s6 L2 := by rw [← hg6]; exact MT_p y2 (by decide)
  match L2, t2 with
  | u :: r2, t2 =>
  dsimp only at hG
  refine w1_bi (w1_m (m_mark (by decide) m6 t2) (fun z hz => ?_))
  obtain ⟨z1, t7⟩ := z
  obtain ⟨hz, f7⟩ := hz
  have e7 : t7 121 = s6 121 := frO f7 121 (by decide) (by decide)
  have lo7 : ∀ k, k < 32 + 2 * X.length → t7 121 k = t 121 k := fun k hk => by rw [e7, q6 k (by omega), q3 k (by omega)]
  dsimp only at hz ⊢
  simp only [List.length_cons] at l1 l2
  by_cases g59 : u.1 = 59
  · rw [if_pos g59] at hz hG
    rw [hz.1, if_neg (by decide), nI_1]
    refine hq (k - 1) _ _ (by omega) ⟨X ++ [(a, b)], r2, kk, by rw [List.length_append]; rfl, hz.2, (tkl_t t2 (by omega)).1, fun k hk => by rw [lo7 k (by omega)]; exact hlo k hk, rwP_s X 0 (rwP_m X 0 hr (fun c j _ hj hp => ?_)) ?_, by rw [List.length_append]; show X.length + 1 ≤ 16; omega, hG, by omega, by omega⟩
    · unfold snM at hp ⊢
      rw [lo7 _ (by omega), lo7 _ (by omega)]
      exact hp
    · rw [Nat.zero_add]
      unfold snM
      rw [e7, c6, q6 _ (by omega), c3]
      exact ⟨rfl, rfl⟩
  · rw [if_neg g59] at hz hG
    rw [hz.1, if_pos rfl]
    exact w1_s ⟨fun k hk => by dsimp only; rw [lo7 k (by omega)]; exact hlo k hk, by rw [← hG]; exact ⟨rfl, hz.2⟩⟩
def RU (b : Sg) (G : Except (Nat × Nat) (List (Nat × Nat))) (z : Int32 × Sg) : Prop :=
  (∀ k, k < 20 → z.2 122 k = b 122 k) ∧ match G with
    | .error e => z.1 = -1 ∧ FM z.2 e
    | .ok X => z.1 = nI X.length ∧ ∀ w, w < 20 → z.2 122 (20 + w) = nI (msk X w)
/-- a line of suits and its mark -/
theorem m_suit {T : Nat → Nat} {n : Nat} {s : Sg} {X : List (Nat × Nat)} {L : List Tk} (hT : MT T n 3 s L) (ht : tkl 3 L) (hL : L.length ≤ 401) (h : ∀ w, w < 20 → s 122 (20 + w) = nI (msk X w)) : W1 (fM_readSuit s) (fun z => MkP T n 3 (fun t a => ∀ w, w < 20 → t 122 (20 + w) = nI (msk (X ++ [a]) w)) (suP L) z ∧ ∀ k, k < 20 → z.2 122 k = s 122 k) := by
  have hb := fun a L' (h : suP L = .ok (a, L')) => suP_b (o := 3) (by decide) h ht
  unfold fM_readSuit suP
  unfold suP at hb
  rw [show (12 : Int32) = nI (kj 3 0) from rfl, show (22 : Int32) = nI (kj 3 1) from rfl]
  refine w1_bi (w1_m (m_told (o := 3) (key := 0) (by decide) (by decide) hT ht) (fun z hz => ?_))
  obtain ⟨z1, s1⟩ := z
  obtain ⟨hz, f1⟩ := hz
  have e1 : s1 122 = s 122 := frO f1 122 (by decide) (by decide)
  dsimp only
  cases h1 : toldP 0 0 19 L with
  | error e =>
    rw [h1] at hz
    rw [if_pos hz.1]
    exact w1_s ⟨⟨rfl, hz.2⟩, fun k hk => by dsimp only; rw [e1]⟩
  | ok x1 =>
  obtain ⟨w, L1⟩ := x1
  rw [h1] at hz hb
  obtain ⟨t1, l1, bw, ww⟩ := toldP_b (o := 3) (by decide) h1 ht
  obtain ⟨_, hw19⟩ := wi_le (a := 0) (b := 19) bw (by decide) (by decide) ww
  obtain ⟨y1, y2⟩ := hz
  dsimp only at y1 y2 hb ⊢
  rw [if_neg (by rw [y1]; exact nI_m1 (by omega)), y1]
  match L1, t1 with
  | x :: r1, t1 =>
  rw [e_wd (by decide) y2 t1 (by decide), bi_s]
  unfold toldP at hb ⊢
  dsimp only at hb ⊢
  by_cases g : x.1 = 256 + 1
  rotate_left
  · simp only [if_neg g, if_true]
    refine w1_bi (w1_m (m_errs 1 y2) (fun z hz => w1_s ⟨⟨hz.1, hz.2.1⟩, fun k hk => ?_⟩))
    dsimp only
    rw [frO hz.2.2 122 (by decide) (by decide), e1]
  simp only [if_pos g] at hb ⊢
  rw [if_neg n10z]
  obtain ⟨t1', u, r2, rfl⟩ := tkl_t t1 (by omega)
  dsimp only at hb ⊢
  refine w1_bv (w1_m (m_adv (by decide) y2) (fun s5 h5 => ?_))
  obtain ⟨hT5, f5⟩ := h5
  have e5 : s5 122 = s 122 := (frO f5 122 (by decide) (by decide)).trans e1
  refine w1_bi (w1_m (w1_f2 (m_num (lo := 0) (hi := 9) (by decide) hT5 t1') (fr_M_readNumber 0 9 s5)) (fun z hz => ?_))
  obtain ⟨z1, s6⟩ := z
  obtain ⟨hz, f6⟩ := hz
  have e6 : s6 122 = s 122 := (frO f6 122 (by decide) (by decide)).trans e5
  have neg : ∀ (e : Nat × Nat) (t : Sg) (q : Int32 → Sg → Option (Int32 × Sg)) (z1 : Int32), z1 = -1 → FM t e → (∀ k, k < 20 → t 122 k = s 122 k) → W1 (some ((-1 : Int32), t)) (fun z => MkP T n 3 (fun t a => ∀ w, w < 20 → t 122 (20 + w) = nI (msk (X ++ [a]) w)) (.error e) z ∧ ∀ k, k < 20 → z.2 122 k = s 122 k) := fun e t _ _ _ h1 h2 => w1_s ⟨⟨rfl, h1⟩, h2⟩
  dsimp only
  by_cases g1 : u.1 = 1
  rotate_left
  · simp only [if_neg g1] at hz hb ⊢
    obtain ⟨v1, v2⟩ := hz
    dsimp only at v1 v2
    rw [v1, show FU = 4999 + 1 from rfl, lp_s, if_pos rfl]
    exact w1_s ⟨⟨rfl, v2⟩, fun k hk => by dsimp only; rw [e6]⟩
  simp only [if_pos g1] at hz hb ⊢
  by_cases g2 : wi (nI u.2.2) 0 9 = 0
  · simp only [if_pos g2] at hz hb ⊢
    obtain ⟨v1, v2⟩ := hz
    dsimp only at v1 v2
    rw [v1, show FU = 4999 + 1 from rfl, lp_s, if_pos rfl]
    exact w1_s ⟨⟨rfl, v2⟩, fun k hk => by dsimp only; rw [e6]⟩
  simp only [if_neg g2] at hz hb ⊢
  obtain ⟨v1, v2⟩ := hz
  dsimp only at v1 v2 hb ⊢
  have bu := (tkl_b (o := 3) (by decide) t1').2.2
  obtain ⟨_, hu9⟩ := wi_le (a := 0) (b := 9) bu (by decide) (by decide) g2
  rw [v1]
  generalize hG : qsL r2 (2 ^ u.2.2) = G2 at hb ⊢
  simp only [List.length_cons] at l1
  have a20 : (20 : Int32) + nI w = nI (20 + w) := nI_add 20 w
  rw [a20]
  refine w1_lp (fun k v t => (∃ m q L, v = nI q ∧ q ≤ 9 ∧ MT T n 3 t L ∧ tkl 3 L ∧ t 122 (20 + w) = nI (msk X w ||| m) ∧ (∀ j, j < 40 → j ≠ 20 + w → t 122 j = s 122 j) ∧ qsL L (m ||| 2 ^ q) = G2 ∧ L.length ≤ k) ∨ (∃ e, v = -1 ∧ G2 = .error e ∧ FM t e ∧ ∀ j, j < 20 → t 122 j = s 122 j)) ?_ FU 401 _ _ (FU_lt (by omega)) (Or.inl ⟨0, u.2.2, r2, rfl, hu9, v2, (tkl_t t1' (by omega)).1, by rw [e6, h w (by omega), Nat.or_zero], fun j _ _ => by rw [e6], by rw [Nat.zero_or]; exact hG, by omega⟩)
  clear hG v1 v2
  rintro q44 k v t hI hq
  rcases hI with ⟨m, q, L', rfl, hq9, kT, kt, k1, k2, kG, kk⟩ | ⟨e, rfl, kG, kF, k2⟩
  rotate_left
  · rw [if_pos rfl, kG]
    exact w1_s ⟨⟨rfl, kF⟩, k2⟩
  rw [if_neg (nI_m1 (by omega)), gd_n _ (show 20 + w < 40 by omega) (by decide), gd_n _ (show 20 + w < 40 by omega) (by decide), ix_n (by omega), k1, sh1 q (by omega), nx_or, bnd_e, Nat.or_assoc]
  generalize hg9 : pt t 122 (20 + w) (nI (msk X w ||| (m ||| 2 ^ q))) = s9
  have q9 : ∀ j, j < 40 → j ≠ 20 + w → s9 122 j = s 122 j := fun j hj hne => by rw [← hg9, pt_k _ _ _ hne]; exact k2 j hj hne
  have c9 : s9 122 (20 + w) = nI (msk X w ||| (m ||| 2 ^ q)) := by rw [← hg9, pt_s]
  have m9 : MT T n 3 s9 L' := by rw [← hg9]; exact MT_p kT (by decide)
  match L', kt with
  | y :: r3, kt =>
  rw [List.length_cons] at kk
  obtain ⟨j1, j2, j3⟩ := rk_tok m9.2.2.1
  rw [qsL] at kG
  refine w1_if (fun g3 => ?_) (fun g3 => ?_)
  · have g3 : y.1 = 1 := j1.mp g3
    rw [if_pos g3] at kG
    refine w1_bi (w1_m (w1_f2 (m_num (lo := 0) (hi := 9) (by decide) m9 kt) (fr_M_readNumber 0 9 s9)) (fun z hz => ?_))
    obtain ⟨z1, s10⟩ := z
    obtain ⟨hz, f10⟩ := hz
    have e10 : s10 122 = s9 122 := frO f10 122 (by decide) (by decide)
    dsimp only
    rw [if_pos g3] at hz
    by_cases g4 : wi (nI y.2.2) 0 9 = 0
    · rw [if_pos g4] at hz kG
      exact hq (k - 1) _ _ (by omega) (Or.inr ⟨_, hz.1, kG.symm, hz.2, fun j hj => by rw [e10]; exact q9 j (by omega) (by omega)⟩)
    · rw [if_neg g4] at hz kG
      obtain ⟨_, hy9⟩ := wi_le (a := 0) (b := 9) (tkl_b (o := 3) (by decide) kt).2.2 (by decide) (by decide) g4
      exact hq (k - 1) _ _ (by omega) (Or.inl ⟨m ||| 2 ^ q, y.2.2, r3, hz.1, hy9, hz.2, (tkl_t kt (by omega)).1, by rw [e10]; exact c9, fun j hj hne => by rw [e10]; exact q9 j hj hne, kG, by omega⟩)
  · have g3 : y.1 ≠ 1 := fun e => g3 (j1.mpr e)
    rw [if_neg g3] at kG
    subst kG
    refine w1_bi (w1_m (m_mark (by decide) m9 kt) (fun z hz => w1_s ?_))
    obtain ⟨hz, f12⟩ := hz
    have e12 : z.2 122 = s9 122 := frO f12 122 (by decide) (by decide)
    refine ⟨⟨y, r3, rfl, ?_⟩, fun k hk => by dsimp only; rw [e12]; exact q9 k (by omega) (by omega)⟩
    by_cases g59 : y.1 = 59
    · rw [if_pos g59] at hz ⊢
      refine ⟨hz.1, hz.2, fun w' hw' => ?_⟩
      dsimp only
      rw [e12, msk_s]
      by_cases e : w = w'
      · rw [if_pos e, ← e]; exact c9
      · rw [if_neg e, q9 _ (by omega) (by omega)]
        exact h w' hw'
    · rw [if_neg g59] at hz ⊢
      exact hz
theorem m_suits {T : Nat → Nat} {n : Nat} {s : Sg} {L0 : List Tk} (hT0 : MT T n 3 s L0) (ht0 : tkl 3 L0) (hL0 : L0.length ≤ 401) : W1 (fM_readSuits s) (RU s (txtL 256 suP 401 [] L0)) := by
  generalize hG0 : txtL 256 suP 401 [] L0 = G
  unfold fM_readSuits
  refine w1_lp (fun k v t => ∃ i, i + k = 20 ∧ v = nI i ∧ MT T n 3 t L0 ∧ (∀ j, j < 20 → t 122 j = s 122 j) ∧ ∀ j, j < i → t 122 (20 + j) = 0) ?_ FU 20 _ _ (FU_lt (by omega)) ⟨0, rfl, rfl, hT0, fun _ _ => rfl, fun j hj => by omega⟩
  rintro q0 k v t ⟨i, hi, rfl, hT, hlo, hz0⟩ hq
  refine w1_if (fun g => ?_) (fun g => ?_)
  rotate_left
  · rw [show (20 : Int32) = nI 20 from rfl, nI_leI (by decide) (by omega)] at g
    rw [show (20 : Int32) = nI 20 from rfl, nI_add, gd_n _ (show 20 + i < 40 by omega) (by decide), ix_n (by omega), bnd_e, nI_1]
    refine hq (k - 1) _ _ (by omega) ⟨i + 1, by omega, rfl, MT_p hT (by decide), fun j hj => by rw [pt_k _ _ _ (by omega)]; exact hlo j hj, fun j hj => ?_⟩
    by_cases e : j = i
    · rw [e, pt_s]
    · rw [pt_k _ _ _ (by omega)]
      exact hz0 j (by omega)
  rw [show (20 : Int32) = nI 20 from rfl, nI_leI (by decide) (by omega)] at g
  clear hq hT0
  refine w1_lp (fun k v t => ∃ X L kk, v = nI X.length ∧ MT T n 3 t L ∧ tkl 3 L ∧ (∀ k, k < 20 → t 122 k = s 122 k) ∧ (∀ w, w < 20 → t 122 (20 + w) = nI (msk X w)) ∧ X.length ≤ 16 ∧ txtL 256 suP kk X L = G ∧ L.length ≤ kk ∧ L.length ≤ 401 ∧ L.length ≤ k) ?_ FU 401 _ _ (FU_lt (by omega)) ⟨[], L0, 401, rfl, hT, ht0, hlo, fun w hw => by rw [hz0 w (by omega)]; rfl, Nat.zero_le _, hG0, hL0, hL0, hL0⟩
  clear hT ht0 hL0 hG0 hlo hz0
  rintro q2 k v t ⟨X, L, kk, rfl, hT, hL, hlo, hr, hX, hG, hkk, hL4, hk⟩ hq
  match L, hL with
  | x :: r, hL =>
  obtain ⟨k1, k2, k3⟩ := rk_tok hT.2.2.1
  have hx := (tkl_b (o := 3) (by decide) hL).1
  rw [List.length_cons] at hkk hk
  obtain ⟨kk, rfl⟩ : ∃ j, kk = j + 1 := ⟨kk - 1, by omega⟩
  rw [txtL] at hG
  have errs : ∀ f : Nat, G = .error (f, x.2.1) → W1 (bi (fM_errs (nI f) t) fun r5 s4 => some (r5, s4)) (RU s G) := by
    intro f hGe
    refine w1_bi (w1_m (m_errs f hT) (fun z hz => w1_s ⟨fun k hk => ?_, ?_⟩))
    · dsimp only
      rw [frO hz.2.2 122 (by decide) (by decide)]
      exact hlo k hk
    · rw [hGe]
      exact ⟨hz.1, hz.2.1⟩
  rw [show (12 : Int32) = nI (kj 3 0) from rfl, e_wd (by decide) hT hL (by decide), bi_s]
  by_cases g : x.1 = 256
  rotate_left
  · rw [if_neg (show ¬ (256 ≤ x.1 ∧ x.1 ≤ 256) by omega)] at hG
    rw [if_neg (show ¬ x.1 = 256 + 0 from g), if_pos rfl]
    refine w1_if (fun g2 => ?_) (fun g2 => ?_)
    · rw [if_pos (k2.mp g2)] at hG
      exact w1_s ⟨hlo, by rw [← hG]; exact ⟨rfl, hr⟩⟩
    · rw [if_neg (fun e => g2 (k2.mpr e))] at hG
      exact errs 1 hG.symm
  rw [if_pos (show 256 ≤ x.1 ∧ x.1 ≤ 256 by omega)] at hG
  rw [if_pos (show x.1 = 256 + 0 from g), if_neg n10z]
  by_cases g16 : X.length = 16
  · rw [if_pos g16] at hG
    rw [if_pos (show nI X.length = 16 by rw [g16]; rfl)]
    exact errs 3 hG.symm
  rw [if_neg g16] at hG
  rw [if_neg (show ¬ nI X.length = 16 from fun e => g16 (nI_inj (b := 16) (by omega) (by decide) e))]
  refine w1_bi (w1_m (m_suit hT hL hL4 hr) (fun z hz => ?_))
  obtain ⟨z1, t1⟩ := z
  obtain ⟨hz, hlo1⟩ := hz
  dsimp only at hlo1 ⊢
  have lo' : ∀ k, k < 20 → t1 122 k = s 122 k := fun k hk => by rw [hlo1 k hk]; exact hlo k hk
  cases hc : suP (x :: r) with
  | error e =>
    rw [hc] at hz hG
    obtain ⟨y1, y2⟩ := hz
    dsimp only at y1 y2 hG
    rw [y1, if_pos rfl]
    exact w1_s ⟨lo', by rw [← hG]; exact ⟨rfl, y2⟩⟩
  | ok y =>
    obtain ⟨a, L'⟩ := y
    rw [hc] at hz hG
    obtain ⟨b1, b2, b3⟩ := suP_b (o := 3) (by decide) hc hL
    obtain ⟨u, r', hu, hz⟩ := hz
    dsimp only at hu
    subst hu
    dsimp only at hz hG
    rw [List.length_cons] at hL4
    rw [List.length_cons, List.length_cons] at b2
    by_cases g59 : u.1 = 59
    · rw [if_pos g59] at hz hG
      rw [hz.1, if_neg (by decide), nI_1]
      exact hq (k - 1) _ _ (by omega) ⟨X ++ [a], r', kk, by rw [List.length_append]; rfl, hz.2.1, (tkl_t b1 (by omega)).1, lo', hz.2.2, by rw [List.length_append]; show X.length + 1 ≤ 16; omega, hG, by omega, by omega, by omega⟩
    · rw [if_neg g59] at hz hG
      rw [hz.1, if_pos rfl]
      exact w1_s ⟨lo', by rw [← hG]; exact ⟨rfl, hz.2⟩⟩
