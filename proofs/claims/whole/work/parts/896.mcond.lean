/-! TEXT: a whole condition, of the reference -/
def cmpP (L : List Tk) (p : Pg) : Rs :=
  match sumP L p with
  | .error e => .error e
  | .ok (_, []) => .error (0, 0)
  | .ok (p1, c :: r1) => if 60 ≤ c.1 ∧ c.1 ≤ 62 then (match sumP r1 p1 with | .error e => .error e | .ok (p2, L2) => .ok (p2 ++ [(3, c.1)], L2)) else .error (1, c.2.1)
theorem cnd_c {k : Nat} {W : List Nat} {p : Pg} {t : Tk} {r : List Tk} (h : ¬ (t.1 = 262 ∨ t.1 = 40)) : cnd (k + 1) true W p (t :: r) = match cmpP (t :: r) p with | .error e => .error e | .ok (p2, L2) => cnd k false (rlW 3 W) (p2 ++ rlE 3 W) L2 := by
  rw [cnd, if_neg h]
  unfold cmpP
  cases sumP (t :: r) p with
  | error e => rfl
  | ok y =>
    obtain ⟨p1, L1⟩ := y
    match L1 with
    | [] => rfl
    | c :: r1 =>
      dsimp only
      by_cases g : 60 ≤ c.1 ∧ c.1 ≤ 62
      · rw [if_pos g, if_pos g]
        cases sumP r1 p1 with
        | error e => rfl
        | ok y => rfl
      · rw [if_neg g, if_neg g]
theorem cmpP_b {o : Nat} (ho : o < 4) {L L' : List Tk} {p p' : Pg} (h : cmpP L p = .ok (p', L')) (ht : tkl o L) : mln p' + L'.length ≤ mln p + L.length ∧ tkl o L' ∧ L'.length + 3 ≤ L.length := by
  unfold cmpP at h
  cases hs : sumP L p with
  | error e => rw [hs] at h; cases h
  | ok y =>
    obtain ⟨p1, L1⟩ := y
    rw [hs] at h
    obtain ⟨a1, a2, a3⟩ := sumP_b ho hs ht
    match L1, a2 with
    | c :: r1, a2 =>
    dsimp only at h
    rw [List.length_cons] at a1 a3
    by_cases g : 60 ≤ c.1 ∧ c.1 ≤ 62
    · rw [if_pos g] at h
      cases hs2 : sumP r1 p1 with
      | error e => rw [hs2] at h; cases h
      | ok y2 =>
        obtain ⟨p2, L2⟩ := y2
        rw [hs2] at h
        simp only [Except.ok.injEq, Prod.mk.injEq] at h
        obtain ⟨rfl, rfl⟩ := h
        obtain ⟨b1, b2, b3⟩ := sumP_b ho hs2 (tkl_t a2 (by omega)).1
        rw [mln_app]
        exact ⟨by rw [show mln [(3, c.1)] = 1 from rfl]; omega, b2, by omega⟩
    · rw [if_neg g] at h; cases h
theorem m_cmpd {T : Nat → Nat} {n : Nat} {b s : Sg} {B p : Pg} {L : List Tk} (h : MT T n 0 s L) (hc : MC b s (B ++ p)) (ht : tkl 0 L) (hb : mln (B ++ p) + L.length ≤ 401) : W1 (fM_readCompared s) (fun z => RM T n b B z (cmpP L p)) := by
  unfold fM_readCompared cmpP
  refine w1_bi (w1_m (m_sum h hc ht hb) (fun z hz => ?_))
  obtain ⟨z1, s1⟩ := z
  cases hs : sumP L p with
  | error e =>
    rw [hs] at hz
    obtain ⟨y1, y2⟩ := hz
    dsimp only at y1 y2 ⊢
    rw [y1, if_pos rfl]
    exact w1_s ⟨rfl, y2⟩
  | ok y =>
  obtain ⟨p1, L1⟩ := y
  rw [hs] at hz
  obtain ⟨y1, y2, y3⟩ := hz
  obtain ⟨a1, a2, a3⟩ := sumP_b (by decide) hs ht
  match L1, a2 with
  | c :: r1, a2 =>
  dsimp only at y1 y2 y3 ⊢
  rw [List.length_cons] at a1 a3
  rw [mln_app] at hb
  have hmB1 : mln (B ++ p1) = mln B + mln p1 := mln_app _ _
  rw [y1, if_neg (by decide), show (60 : Int32) = nI 60 from rfl, show (61 : Int32) = nI 61 from rfl, show (62 : Int32) = nI 62 from rfl, e_sg y2 (by decide), bi_s]
  refine w1_j (fun (J : Sg → Option (Int32 × Sg)) => (60 ≤ c.1 ∧ c.1 ≤ 62) → W1 (J s1) (fun z => RM T n b B z (if 60 ≤ c.1 ∧ c.1 ≤ 62 then (match sumP r1 p1 with | .error e => .error e | .ok (p2, L2) => .ok (p2 ++ [(3, c.1)], L2)) else .error (1, c.2.1)))) ?_ (fun j43 h43 => ?_)
  · intro g
    simp only [if_pos g]
    obtain ⟨htr, u, r2, rfl⟩ := tkl_t a2 (by omega)
    rw [List.length_cons] at a1 a3
    refine w1_j (fun (J : Int32 → Sg → Option (Int32 × Sg)) => W1 (J (nI (opS c.1)) s1) (fun z => RM T n b B z (match sumP (u :: r2) p1 with | .error e => .error e | .ok (p2, L2) => .ok (p2 ++ [(3, c.1)], L2)))) ?_ (fun j73 h73 => ?_)
    · refine w1_bv (w1_m (m_adv (by decide) y2) (fun t1 h1 => ?_))
      have hC1 : MC b t1 (B ++ p1) := MC_c y3 (h1.2 102 26 (by decide) (by decide)) (frO h1.2 117 (by decide) (by decide)) (frO h1.2 118 (by decide) (by decide))
      refine w1_bi (w1_m (m_sum h1.1 hC1 htr (by rw [List.length_cons]; omega)) (fun z hz => ?_))
      obtain ⟨z1, t2⟩ := z
      cases hs2 : sumP (u :: r2) p1 with
      | error e =>
        rw [hs2] at hz
        obtain ⟨w1, w2⟩ := hz
        dsimp only at w1 w2 ⊢
        rw [w1, if_pos rfl]
        exact w1_s ⟨rfl, w2⟩
      | ok yy =>
        obtain ⟨p2, L2⟩ := yy
        rw [hs2] at hz
        obtain ⟨w1, w2, w3⟩ := hz
        obtain ⟨b1, b2, b3⟩ := sumP_b (by decide) hs2 htr
        have := tkl_1 b2
        rw [List.length_cons] at b1 b3
        have hmB2 : mln (B ++ p2) = mln B + mln p2 := mln_app _ _
        dsimp only at w1 w2 w3 ⊢
        rw [w1, if_neg (by decide)]
        refine w1_bv (w1_m (m_emit (3, c.1) w3 (by omega) (Or.inr ⟨rfl, rfl⟩)) (fun t3 h3 => w1_s ⟨rfl, ?_, ?_⟩))
        · exact MT_c w2 (h3.2 102 12 (by decide) (by decide)) (h3.2 102 13 (by decide) (by decide)) (h3.2 102 14 (by decide) (by decide)) (h3.2 102 15 (by decide) (by decide)) (h3.2 102 16 (by decide) (by decide)) (frO h3.2 110 (by decide) (by decide)) (frO h3.2 111 (by decide) (by decide))
        · show MC b t3 (B ++ (p2 ++ [(3, c.1)]))
          rw [← List.append_assoc]
          exact h3.1
    · have hv := ((rk_sign (c := c.1) y2.2.2.1 (by omega)).mpr rfl).2
      rw [hv]
      have : c.1 = 60 ∨ c.1 = 61 ∨ c.1 = 62 := by omega
      rcases this with e | e | e
      · rw [e] at h73 ⊢
        rw [if_pos rfl]
        exact h73
      · rw [e] at h73 ⊢
        rw [if_neg (by decide), if_pos rfl]
        exact h73
      · rw [e] at h73 ⊢
        rw [if_neg (by decide), if_neg (by decide)]
        exact h73
  · by_cases g60 : c.1 = 60
    · rw [if_pos g60, if_neg n10z]
      exact h43 (by omega)
    rw [if_neg g60, if_pos rfl, e_sg y2 (by decide), bi_s]
    by_cases g61 : c.1 = 61
    · rw [if_pos g61, if_neg n10z]
      exact h43 (by omega)
    rw [if_neg g61, if_pos rfl, e_sg y2 (by decide), bi_s]
    by_cases g62 : c.1 = 62
    · rw [if_pos g62, if_neg n10z]
      exact h43 (by omega)
    rw [if_neg g62, if_pos rfl]
    refine w1_bi (w1_m (m_errs 1 y2) (fun z hz => w1_s ?_))
    rw [if_neg (by omega)]
    exact ⟨hz.1, hz.2.1, LW_c y3.2.2 (frO hz.2.2 117 (by decide) (by decide)) (frO hz.2.2 118 (by decide) (by decide))⟩
theorem e_wd {T : Nat → Nat} {n o j : Nat} {s : Sg} {t : Tk} {r : List Tk} (ho : o < 4) (h : MT T n o s (t :: r)) (ht : tkl o (t :: r)) (hj : j < (kW o).length) : fM_isWord (nI (kj o j)) s = some (if t.1 = 256 + j then 1 else 0, s) := by
  have := rk_word ho h.2.2.1 hj ht.1
  rw [e_isW]
  by_cases g : t.1 = 256 + j
  · rw [if_pos g, if_pos (this.mpr g)]
  · rw [if_neg g, if_neg (fun x => g (this.mp x))]
theorem m_cond {T : Nat → Nat} {n : Nat} {b s : Sg} {B : Pg} {L0 : List Tk} (hT0 : MT T n 0 s L0) (hC0 : MC b s B) (hO0 : s 102 27 = 0) (ht0 : tkl 0 L0) (hb0 : mln B + L0.length ≤ 401) : W1 (fM_readAny s) (fun z => RM T n b B z (cnd 401 true [] [] L0) ∧ (z.1 = 0 → z.2 102 27 = 0)) := by
  generalize hG0 : cnd 401 true [] [] L0 = G
  unfold fM_readAny
  rw [bnd_e]
  refine w1_lp (fun k v t => ∃ due W p L kk, v = (nI (brk W), if due = true then 1 else 0) ∧ MQ2 t W ∧ t 102 27 = nI (opn W) ∧ MC b t (B ++ p) ∧ MT T n 0 t L ∧ Wok W ∧ (due = false → rlW 3 W = W) ∧ tkl 0 L ∧ mln (B ++ p) + W.length + L.length ≤ 401 ∧ cnd kk due W p L = G ∧ L.length ≤ kk ∧ L.length ≤ k) ?_ FU 401 _ _ (FU_lt (by omega)) ⟨true, [], [], L0, 401, rfl, ⟨by rw [pt_s]; rfl, True.intro⟩, by rw [pt_k _ _ _ (by decide)]; exact hO0, by rw [List.append_nil]; exact MC_c hC0 (pt_k _ _ _ (by decide)) (ptq _ _ _ (by decide)) (ptq _ _ _ (by decide)), MT_c hT0 (pt_k _ _ _ (by decide)) (pt_k _ _ _ (by decide)) (pt_k _ _ _ (by decide)) (pt_k _ _ _ (by decide)) (pt_k _ _ _ (by decide)) (ptq _ _ _ (by decide)) (ptq _ _ _ (by decide)), ⟨True.intro, (fun y hy => by cases hy), by decide⟩, (fun h => by cases h), ht0, by rw [List.append_nil]; simp only [List.length_nil]; omega, hG0, by omega, by omega⟩
  clear hT0 hC0 hO0 ht0 hb0 hG0
  rintro q9 k v t ⟨due, W, p, L, kk, rfl, hW, hO, hC, hT, hok, h3, hL, hb, hG, hkk, hk⟩ hq
  match L, hL with
  | x :: r, hL =>
  have hx := (tkl_b (by decide) hL).1
  have h26 := W_26 hok.1 hok.2.1 hok.2.2
  have hbl := brk_len W
  rw [List.length_cons] at hb hkk hk
  obtain ⟨kk, rfl⟩ : ∃ j, kk = j + 1 := ⟨kk - 1, by omega⟩
  have errs : ∀ (f : Nat) (t' : Sg), MT T n 0 t' (x :: r) → LW b t' → G = .error (f, x.2.1) → W1 (bi (fM_errs (nI f) t') fun r33 s32 => some (r33, s32)) (fun z => RM T n b B z G ∧ (z.1 = 0 → z.2 102 27 = 0)) := by
    intro f t' hT' hLW hGe
    refine w1_bi (w1_m (m_errs f hT') (fun z hz => w1_s ?_))
    rw [hGe]
    exact ⟨⟨hz.1, hz.2.1, LW_c hLW (frO hz.2.2 117 (by decide) (by decide)) (frO hz.2.2 118 (by decide) (by decide))⟩, fun e => by rw [show z.1 = -1 from hz.1] at e; exact absurd e (by decide)⟩
  have mt : ∀ t' : Sg, (∀ o k, o ∉ [117, 118] → (o, k) ∉ [(102, 26), (102, 27), (102, 29)] → t' o k = t o k) → MT T n 0 t' (x :: r) := fun t' hf => MT_c hT (hf 102 12 (by decide) (by decide)) (hf 102 13 (by decide) (by decide)) (hf 102 14 (by decide) (by decide)) (hf 102 15 (by decide) (by decide)) (hf 102 16 (by decide) (by decide)) (frO hf 110 (by decide) (by decide)) (frO hf 111 (by decide) (by decide))
  -- push, and read on
  have push : ∀ (g : Nat) (t' : Sg) (W' : List Nat) (p' : Pg) (br : Int32), MQ2 t' W' → t' 102 27 = nI (opn (g :: W')) → MC b t' (B ++ p') → MT T n 0 t' (x :: r) → Wok (g :: W') → mln (B ++ p') + W'.length + r.length + 1 ≤ 401 → cnd kk true (g :: W') p' r = G → br = nI (brk (g :: W')) → x.1 ≠ 0 → W1 (bv (fM_waits (nI (enc g)) t') fun s30 => bv (fM_reads s30) fun s31 => q9 (br, 1) s31) (fun z => RM T n b B z G ∧ (z.1 = 0 → z.2 102 27 = 0)) := by
    intro g t' W' p' br k1 k2 k3 k4 k5 k6 k7 k8 k9
    have h26' := W_26 k5.1 k5.2.1 k5.2.2
    rw [List.length_cons] at h26'
    obtain ⟨hLr, u, r2, rfl⟩ := tkl_t hL k9
    refine w1_bv (w1_m (m_wait (x := g) k1 (by omega)) (fun t1 h1 => ?_))
    have hT1 : MT T n 0 t1 (x :: u :: r2) := MT_c k4 (h1.2 102 12 (by decide) (by decide)) (h1.2 102 13 (by decide) (by decide)) (h1.2 102 14 (by decide) (by decide)) (h1.2 102 15 (by decide) (by decide)) (h1.2 102 16 (by decide) (by decide)) (frO h1.2 110 (by decide) (by decide)) (frO h1.2 111 (by decide) (by decide))
    refine w1_bv (w1_m (m_adv (by decide) hT1) (fun t2 h2 => ?_))
    rw [k8]
    refine hq (k - 1) _ _ (by omega) ⟨true, g :: W', p', u :: r2, kk, rfl, MQ2_c h1.1 (h2.2 102 29 (by decide) (by decide)) (frO h2.2 119 (by decide) (by decide)), (h2.2 102 27 (by decide) (by decide)).trans ((h1.2 102 27 (by decide) (by decide)).trans k2), MC_c k3 ((h2.2 102 26 (by decide) (by decide)).trans (h1.2 102 26 (by decide) (by decide))) ((frO h2.2 117 (by decide) (by decide)).trans (frO h1.2 117 (by decide) (by decide))) ((frO h2.2 118 (by decide) (by decide)).trans (frO h1.2 118 (by decide) (by decide))), h2.1, k5, (fun h => by cases h), hLr, by rw [List.length_cons (a := g)]; omega, k7, by omega, by omega⟩
  cases due with
  | false =>
    have h3 := h3 rfl
    obtain ⟨s2a, s2b⟩ := st_2 hok h3
    obtain ⟨s1a, s1b⟩ := st_1 hok h3
    have hl1 := len_rl 1 W
    have hl2 := len_rl 2 W
    rw [cnd] at hG
    dsimp only
    rw [if_pos (show (if false = true then (1 : Int32) else 0) = 0 from rfl), show (5 : Int32) = nI (kj 0 5) from rfl, show (4 : Int32) = nI (kj 0 4) from rfl, e_wd (by decide) hT hL (by decide), bi_s]
    by_cases g : x.1 = 261
    · -- and
      rw [if_pos g] at hG
      rw [if_pos (show x.1 = 256 + 5 from g), if_neg n10z, show (10 : Int32) = nI (opS 261) from rfl]
      refine w1_bv (w1_m (m_settle (g := 261) (by decide) hW hO hC hok.2.1 (by omega) (by omega)) (fun t1 h1 => ?_))
      obtain ⟨⟨a1, a2, a3⟩, a4⟩ := h1
      rw [s2a] at a1 a2
      rw [s2b] at a3
      have hml : mln (B ++ (p ++ rlE 2 W)) = mln (B ++ p) + (rlE 2 W).length := by rw [← List.append_assoc, mln_app, mln_rl]
      refine push 261 t1 (rlW 2 W) (p ++ rlE 2 W) _ a1 (by rw [a2]; show _ = nI (0 + opn (rlW 2 W)); rw [Nat.zero_add]) (by rw [← List.append_assoc]; exact a3) (mt t1 a4) (Wok_and hok) (by omega) hG ?_ (by omega)
      show nI (brk W) = nI (0 + brk (rlW 2 W))
      rw [brk_rl (by decide), Nat.zero_add]
    rw [if_neg g] at hG
    rw [if_neg (show ¬ x.1 = 256 + 5 from g), if_pos rfl, e_wd (by decide) hT hL (by decide), bi_s]
    have two : W1 (fM_settles 10 t) (fun t1 => W1 (fM_settles 11 t1) (fun t2 => (MQ2 t2 (rlW 1 W) ∧ t2 102 27 = nI (opn (rlW 1 W)) ∧ MC b t2 (B ++ (p ++ rlE 1 W))) ∧ ∀ o k, o ∉ [117, 118] → (o, k) ∉ [(102, 26), (102, 27), (102, 29)] → t2 o k = t o k)) := by
      rw [show (10 : Int32) = nI (opS 261) from rfl, show (11 : Int32) = nI (opS 260) from rfl]
      refine w1_m (m_settle (g := 261) (by decide) hW hO hC hok.2.1 (by omega) (by omega)) (fun t1 h1 => ?_)
      obtain ⟨⟨a1, a2, a3⟩, a4⟩ := h1
      have hm : mln (B ++ p ++ stE 261 W) = mln (B ++ p) + (stE 261 W).length := by rw [mln_app, st_mln]
      have hsl := st_len 261 W
      have hwel : wel (stW 261 W) := by
        rw [s2a]
        exact (Wok_rl 2 hok).2.1
      refine w1_m (m_settle (g := 260) (by decide) a1 a2 a3 hwel (by omega) (by omega)) (fun t2 h2 => ?_)
      obtain ⟨⟨b1, b2, b3⟩, b4⟩ := h2
      rw [s1a] at b1 b2
      rw [List.append_assoc, s1b, List.append_assoc] at b3
      exact ⟨⟨b1, b2, b3⟩, fun o k n1 n2 => (b4 o k n1 n2).trans (a4 o k n1 n2)⟩
    have hml : mln (B ++ (p ++ rlE 1 W)) = mln (B ++ p) + (rlE 1 W).length := by rw [← List.append_assoc, mln_app, mln_rl]
    by_cases g2 : x.1 = 260
    · -- or
      rw [if_pos g2] at hG
      rw [if_pos (show x.1 = 256 + 4 from g2), if_neg n10z]
      refine w1_bv (w1_m two (fun t1 h1 => w1_bv (w1_m h1 (fun t2 h2 => ?_))))
      obtain ⟨⟨a1, a2, a3⟩, a4⟩ := h2
      refine push 260 t2 (rlW 1 W) (p ++ rlE 1 W) _ a1 (by rw [a2]; show _ = nI (0 + opn (rlW 1 W)); rw [Nat.zero_add]) a3 (mt t2 a4) (Wok_or hok) (by omega) hG ?_ (by omega)
      show nI (brk W) = nI (0 + brk (rlW 1 W))
      rw [brk_rl (by decide), Nat.zero_add]
    rw [if_neg g2] at hG
    rw [if_neg (show ¬ x.1 = 256 + 4 from g2), if_pos rfl]
    refine w1_bv (w1_m two (fun t1 h1 => w1_bv (w1_m h1 (fun t2 h2 => ?_))))
    obtain ⟨⟨a1, a2, a3⟩, a4⟩ := h2
    have hT2 := mt t2 a4
    have hbr := brk_rl (c := 1) (by decide) W
    cases hr : rlW 1 W with
    | nil =>
      rw [hr] at hG hbr a2
      dsimp only at hG
      rw [if_pos (show nI (brk W) = 0 by rw [← hbr]; rfl), ← hG]
      exact w1_s ⟨⟨rfl, hT2, a3⟩, fun _ => a2⟩
    | cons y W2 =>
      have hy := rl_40 hok.2.1 hr
      subst hy
      rw [hr] at hG hbr a1 a2 hl1
      rw [List.length_cons] at hl1
      have hbr : brk W = brk W2 + 1 := by rw [← hbr]; exact Nat.add_comm _ _
      dsimp only at hG
      rw [if_neg (show ¬ nI (brk W) = 0 from nI_ne0 (by omega) (by omega)), show (41 : Int32) = nI 41 from rfl, e_sg hT2 (by decide), bi_s]
      by_cases g3 : x.1 = 41
      · rw [if_pos g3] at hG
        rw [if_pos g3, if_neg n10z, bnd_e, bnd_e, pt_k _ _ _ (show (27 : Nat) ≠ 29 by decide), a1.1, a2, List.length_cons, nI_pred, show opn (40 :: W2) = opn W2 + 1 from Nat.add_comm _ _, nI_pred, hbr, nI_pred]
        have hok2 : Wok W2 := by
          have := Wok_rl 1 hok
          rw [hr] at this
          exact Wok_t this
        obtain ⟨s3a, s3b⟩ := st_3 W2 hok2.2.1
        obtain ⟨hLr, u, r2, rfl⟩ := tkl_t hL (by omega)
        rw [show (9 : Int32) = nI (opS 262) from rfl]
        refine w1_bv (w1_m (m_settle (b := b) (W0 := W2) (P0 := B ++ (p ++ rlE 1 W)) (g := 262) (by decide) ⟨by rw [pt_k _ _ _ (by decide), pt_s], by rw [ptq _ _ _ (by decide), ptq _ _ _ (by decide)]; exact a1.2.2⟩ (pt_s _ _ _ _) (MC_c a3 (by rw [pt_k _ _ _ (by decide), pt_k _ _ _ (by decide)]) (by rw [ptq _ _ _ (by decide), ptq _ _ _ (by decide)]) (by rw [ptq _ _ _ (by decide), ptq _ _ _ (by decide)])) hok2.2.1 (by omega) (by omega)) (fun t3 h3' => ?_))
        obtain ⟨⟨c1, c2, c3⟩, c4⟩ := h3'
        rw [s3a] at c1 c2
        rw [s3b] at c3
        have e102 : ∀ k, k ≠ 27 → k ≠ 29 → pt (pt t2 102 29 (nI W2.length)) 102 27 (nI (opn W2)) 102 k = t2 102 k := fun k k1 k2 => by rw [pt_k _ _ _ k1, pt_k _ _ _ k2]
        have eo : ∀ o, o ≠ 102 → pt (pt t2 102 29 (nI W2.length)) 102 27 (nI (opn W2)) o = t2 o := fun o h => by rw [ptq _ _ _ h, ptq _ _ _ h]
        have hT3 : MT T n 0 t3 (x :: u :: r2) := MT_c hT2 ((c4 102 12 (by decide) (by decide)).trans (e102 12 (by decide) (by decide))) ((c4 102 13 (by decide) (by decide)).trans (e102 13 (by decide) (by decide))) ((c4 102 14 (by decide) (by decide)).trans (e102 14 (by decide) (by decide))) ((c4 102 15 (by decide) (by decide)).trans (e102 15 (by decide) (by decide))) ((c4 102 16 (by decide) (by decide)).trans (e102 16 (by decide) (by decide))) ((frO c4 110 (by decide) (by decide)).trans (eo 110 (by decide))) ((frO c4 111 (by decide) (by decide)).trans (eo 111 (by decide)))
        refine w1_bv (w1_m (m_adv (by decide) hT3) (fun t4 h4 => ?_))
        have hl3 := len_rl 3 W2
        have hml3 : mln (B ++ (p ++ rlE 1 W ++ rlE 3 W2)) = mln (B ++ p) + (rlE 1 W).length + (rlE 3 W2).length := by
          rw [show B ++ (p ++ rlE 1 W ++ rlE 3 W2) = B ++ (p ++ rlE 1 W) ++ rlE 3 W2 by simp, mln_app, hml, mln_rl]
        rw [List.length_cons] at hb hkk hk
        refine hq (k - 1) _ _ (by omega) ⟨false, rlW 3 W2, p ++ rlE 1 W ++ rlE 3 W2, u :: r2, kk, ?_, MQ2_c c1 (h4.2 102 29 (by decide) (by decide)) (frO h4.2 119 (by decide) (by decide)), (h4.2 102 27 (by decide) (by decide)).trans c2, ?_, h4.1, Wok_rl 3 hok2, fun _ => rl3_i W2, hLr, by rw [hml3, List.length_cons]; omega, hG, by rw [List.length_cons]; omega, by rw [List.length_cons]; omega⟩
        · rw [brk_rl (by decide)]
        · rw [show B ++ (p ++ rlE 1 W ++ rlE 3 W2) = B ++ (p ++ rlE 1 W) ++ rlE 3 W2 by simp]
          exact MC_c c3 (h4.2 102 26 (by decide) (by decide)) (frO h4.2 117 (by decide) (by decide)) (frO h4.2 118 (by decide) (by decide))
      · rw [if_neg g3] at hG
        rw [if_neg g3, if_pos rfl]
        exact errs 1 t2 hT2 a3.2.2 hG.symm
  | true =>
    dsimp only
    rw [if_neg (show ¬ (if true = true then (1 : Int32) else 0) = 0 by decide), show (6 : Int32) = nI (kj 0 6) from rfl, e_wd (by decide) hT hL (by decide), bi_s]
    have ho8 := hok.2.2
    have opens : ∀ (nt : Int32), (x.1 = 262 ∧ nt = 1) ∨ (x.1 = 40 ∧ nt = 0) → W1 (if (t 102 27) = 8 then (bi (fM_errs 3 t) fun r33 s32 => some (r33, s32)) else (bnd (pt t 102 27 ((t 102 27) + 1)) fun s27 => bnd (fun (a66_1 : Int32) (s28 : Sg) => bnd (fun (b78_0 : Int32) (s29 : Sg) => bv (fM_waits b78_0 s29) fun s30 => bv (fM_reads s30) fun s31 => q9 (a66_1, if true = true then 1 else 0) s31) fun j78 => if nt = 0 then (j78 12 s28) else (j78 9 s28)) fun j66 => if nt = 0 then (j66 (nI (brk W) + 1) s27) else (j66 (nI (brk W)) s27))) (fun z => RM T n b B z G ∧ (z.1 = 0 → z.2 102 27 = 0)) := by
      intro nt hnt
      have hx2 : x.1 = 262 ∨ x.1 = 40 := by
        rcases hnt with h | h
        · exact Or.inl h.1
        · exact Or.inr h.1
      rw [cnd, if_pos hx2] at hG
      rw [hO]
      refine w1_if (fun g => ?_) (fun g => ?_)
      · have g : opn W = 8 := nI_inj (by omega) (by decide) g
        rw [if_pos g] at hG
        exact errs 3 t hT hC.2.2 hG.symm
      · have g : opn W ≠ 8 := fun e => g (by rw [e]; rfl)
        rw [if_neg g] at hG
        rw [bnd_e, show nI (opn W) + 1 = nI (opn W + 1) from nI_1 _]
        have go : ∀ br, br = nI (brk (x.1 :: W)) → W1 (bv (fM_waits (nI (enc x.1)) (pt t 102 27 (nI (opn W + 1)))) fun s30 => bv (fM_reads s30) fun s31 => q9 (br, 1) s31) (fun z => RM T n b B z G ∧ (z.1 = 0 → z.2 102 27 = 0)) := by
          intro br hbr
          refine push x.1 _ W p br (MQ2_c hW (pt_k _ _ _ (by decide)) (ptq _ _ _ (by decide))) ?_ (MC_c hC (pt_k _ _ _ (by decide)) (ptq _ _ _ (by decide)) (ptq _ _ _ (by decide))) (MT_c hT (pt_k _ _ _ (by decide)) (pt_k _ _ _ (by decide)) (pt_k _ _ _ (by decide)) (pt_k _ _ _ (by decide)) (pt_k _ _ _ (by decide)) (ptq _ _ _ (by decide)) (ptq _ _ _ (by decide))) (Wok_open hok hx2 g) (by omega) hG hbr (by omega)
          rw [pt_s]
          simp only [opn, if_pos hx2]
          exact congrArg nI (Nat.add_comm _ _)
        rcases hnt with ⟨e, rfl⟩ | ⟨e, rfl⟩
        · refine w1_j (fun (J : Int32 → Sg → Option (Int32 × Sg)) => W1 (J (nI (brk W)) (pt t 102 27 (nI (opn W + 1)))) (fun z => RM T n b B z G ∧ (z.1 = 0 → z.2 102 27 = 0))) ?_ (fun j66 h66 => ?_)
          · refine w1_j (fun (J : Int32 → Sg → Option (Int32 × Sg)) => W1 (J 9 (pt t 102 27 (nI (opn W + 1)))) (fun z => RM T n b B z G ∧ (z.1 = 0 → z.2 102 27 = 0))) ?_ (fun j78 h78 => ?_)
            · have := go (nI (brk W)) (by rw [e]; show nI (brk W) = nI (0 + brk W); rw [Nat.zero_add])
              rw [e] at this
              exact this
            · rw [if_neg n10z]; exact h78
          · rw [if_neg n10z]; exact h66
        · refine w1_j (fun (J : Int32 → Sg → Option (Int32 × Sg)) => W1 (J (nI (brk W) + 1) (pt t 102 27 (nI (opn W + 1)))) (fun z => RM T n b B z G ∧ (z.1 = 0 → z.2 102 27 = 0))) ?_ (fun j66 h66 => ?_)
          · refine w1_j (fun (J : Int32 → Sg → Option (Int32 × Sg)) => W1 (J 12 (pt t 102 27 (nI (opn W + 1)))) (fun z => RM T n b B z G ∧ (z.1 = 0 → z.2 102 27 = 0))) ?_ (fun j78 h78 => ?_)
            · have := go (nI (brk W) + 1) (by rw [e, nI_1]; exact congrArg nI (Nat.add_comm _ _))
              rw [e] at this
              exact this
            · rw [if_pos rfl]; exact h78
          · rw [if_pos rfl]; exact h66
    by_cases g : x.1 = 262
    · have := opens 1 (Or.inl ⟨g, rfl⟩)
      simp only [if_pos (show x.1 = 256 + 6 from g)]
      refine w1_j (fun (J : Sg → Option (Int32 × Sg)) => W1 (J t) (fun z => RM T n b B z G ∧ (z.1 = 0 → z.2 102 27 = 0))) this (fun j33 h33 => ?_)
      rw [if_neg n10z]
      exact h33
    · simp only [if_neg (show ¬ x.1 = 256 + 6 from g)]
      refine w1_j (fun (J : Sg → Option (Int32 × Sg)) => x.1 = 40 → W1 (J t) (fun z => RM T n b B z G ∧ (z.1 = 0 → z.2 102 27 = 0))) (fun e => opens 0 (Or.inr ⟨e, rfl⟩)) (fun j33 h33 => ?_)
      rw [if_pos trivial, show (40 : Int32) = nI 40 from rfl, e_sg hT (by decide), bi_s]
      by_cases g2 : x.1 = 40
      · rw [if_pos g2, if_neg n10z]
        exact h33 g2
      · rw [if_neg g2, if_pos rfl]
        rw [cnd_c (fun c => c.elim g g2)] at hG
        refine w1_bi (w1_m (w1_f2 (m_cmpd hT hC hL (by rw [List.length_cons]; omega)) (fr_M_readCompared t)) (fun z hz => ?_))
        obtain ⟨z1, t1⟩ := z
        obtain ⟨hz, f1⟩ := hz
        cases hs : cmpP (x :: r) p with
        | error e =>
          rw [hs] at hz hG
          obtain ⟨y1, y2⟩ := hz
          dsimp only at y1 y2 hG ⊢
          rw [y1, if_pos rfl, ← hG]
          exact w1_s ⟨⟨rfl, y2⟩, fun e => absurd (show (-1 : Int32) = 0 from e) (by decide)⟩
        | ok y =>
          obtain ⟨p2, L2⟩ := y
          rw [hs] at hz hG
          obtain ⟨y1, y2, y3⟩ := hz
          dsimp only at y1 y2 y3 hG ⊢
          rw [y1, if_neg (by decide), show (9 : Int32) = nI (opS 262) from rfl]
          obtain ⟨d1, d2, d3⟩ := cmpP_b (by decide) hs hL
          rw [List.length_cons] at d1 d3
          have hmB : mln (B ++ p) = mln B + mln p := mln_app _ _
          have hmB2 : mln (B ++ p2) = mln B + mln p2 := mln_app _ _
          have hd := tkl_1 d2
          obtain ⟨s3a, s3b⟩ := st_3 W hok.2.1
          refine w1_bv (w1_m (m_settle (g := 262) (by decide) (MQ2_c hW (f1 102 29 (by decide) (by decide)) (frO f1 119 (by decide) (by decide))) ((f1 102 27 (by decide) (by decide)).trans hO) y3 hok.2.1 (by omega) (by omega)) (fun t2 h2 => ?_))
          obtain ⟨⟨c1, c2, c3⟩, c4⟩ := h2
          rw [s3a] at c1 c2
          rw [s3b] at c3
          have hl3 := len_rl 3 W
          have hml3 : mln (B ++ (p2 ++ rlE 3 W)) = mln (B ++ p2) + (rlE 3 W).length := by rw [← List.append_assoc, mln_app, mln_rl]
          refine hq (k - 1) _ _ (by omega) ⟨false, rlW 3 W, p2 ++ rlE 3 W, L2, kk, by rw [brk_rl (by decide)]; rfl, c1, c2, by rw [← List.append_assoc]; exact c3, ?_, Wok_rl 3 hok, fun _ => rl3_i W, d2, by omega, hG, by omega, by omega⟩
          exact MT_c y2 (c4 102 12 (by decide) (by decide)) (c4 102 13 (by decide) (by decide)) (c4 102 14 (by decide) (by decide)) (c4 102 15 (by decide) (by decide)) (c4 102 16 (by decide) (by decide)) (frO c4 110 (by decide) (by decide)) (frO c4 111 (by decide) (by decide))
