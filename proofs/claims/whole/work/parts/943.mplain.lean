/-! TEXT: climbs and sunsets, of the reference -/
theorem MT_p {T : Nat → Nat} {n o q k : Nat} {v : Int32} {s : Sg} {L : List Tk} (h : MT T n o s L) (hq : q ≠ 102 ∧ q ≠ 110 ∧ q ≠ 111) : MT T n o (pt s q k v) L := by
  have e : ∀ p, p ≠ q → pt s q k v p = s p := fun p hp => ptq _ _ _ hp
  exact MT_c h (by rw [e 102 (Ne.symm hq.1)]) (by rw [e 102 (Ne.symm hq.1)]) (by rw [e 102 (Ne.symm hq.1)]) (by rw [e 102 (Ne.symm hq.1)]) (by rw [e 102 (Ne.symm hq.1)]) (e 110 (Ne.symm hq.2.1)) (e 111 (Ne.symm hq.2.2))
theorem FM_p {q k : Nat} {v : Int32} {s : Sg} {e : Nat × Nat} (h : FM s e) (hq : q ≠ 102) : FM (pt s q k v) e := by
  unfold FM
  rw [ptq _ _ _ (Ne.symm hq)]
  exact h
theorem m_mark {T : Nat → Nat} {n o : Nat} {s : Sg} {u : Tk} {r : List Tk} (ho : o < 4) (hT : MT T n o s (u :: r)) (ht : tkl o (u :: r)) : W1 (fM_readMark 59 s) (fun z => (if u.1 = 59 then z.1 = 0 ∧ MT T n o z.2 r else z.1 = -1 ∧ FM z.2 (1, u.2.1)) ∧ ∀ o k, o ∉ [] → (o, k) ∉ [(102, 13), (102, 14), (102, 15), (102, 16), (102, 30), (102, 31)] → z.2 o k = s o k) := by
  refine w1_f2 (pr := prI) ?_ (fr_M_readMark 59 s)
  unfold fM_readMark
  rw [show (59 : Int32) = nI 59 from rfl, e_sg hT (by decide), bi_s]
  by_cases g : u.1 = 59
  · simp only [if_pos g]
    rw [if_neg n10z]
    obtain ⟨_, v, r', rfl⟩ := tkl_t ht (by omega)
    exact w1_bv (w1_m (m_adv ho hT) (fun s3 h3 => w1_s ⟨rfl, h3.1⟩))
  · simp only [if_neg g, if_true]
    exact w1_bi (w1_m (m_errs 1 hT) (fun z hz => w1_s ⟨hz.1, hz.2.1⟩))
def cbM (s : Sg) (a : Cb) (i : Nat) : Prop := s 120 (64 + 4 * i) = nI a.1 ∧ s 120 (64 + 4 * i + 1) = nI a.2.1 ∧ s 120 (64 + 4 * i + 2) = nI a.2.2.1 ∧ s 120 (64 + 4 * i + 3) = nI a.2.2.2
def snM (s : Sg) (a : Nat × Nat) (i : Nat) : Prop := s 121 (32 + 2 * i) = nI a.1 ∧ s 121 (33 + 2 * i) = nI a.2
/-- a line and its mark -/
def MkP {A : Type} (T : Nat → Nat) (n o : Nat) (P : Sg → A → Prop) (G : Except (Nat × Nat) (A × List Tk)) (z : Int32 × Sg) : Prop :=
  match G with
  | .error e => z.1 = -1 ∧ FM z.2 e
  | .ok x => ∃ u r, x.2 = u :: r ∧ (if u.1 = 59 then z.1 = 0 ∧ MT T n o z.2 r ∧ P z.2 x.1 else z.1 = -1 ∧ FM z.2 (1, u.2.1))
theorem m_cl {T : Nat → Nat} {n m : Nat} {np : Int32} {s : Sg} {L : List Tk} (hT : MT T n 1 s L) (ht : tkl 1 L) (hm : m < 16) (h6 : s 102 6 = np) : W1 (fM_readClimb (nI (64 + 4 * m)) s) (fun z => MkP T n 1 (fun t a => cbM t a m) (clP np L) z ∧ ∀ k, k < 64 + 4 * m → z.2 120 k = s 120 k) := by
  have hb := fun a L' (h : clP np L = .ok (a, L')) => clP_b (o := 1) (by decide) h ht
  have a1 : nI (64 + 4 * m) + 1 = nI (64 + 4 * m + 1) := nI_1 _
  have a2 : nI (64 + 4 * m) + 2 = nI (64 + 4 * m + 2) := nI_add _ 2
  have a3 : nI (64 + 4 * m) + 3 = nI (64 + 4 * m + 3) := nI_add _ 3
  unfold fM_readClimb clP
  unfold clP at hb
  rw [a1, a2, a3]
  refine w1_bi (w1_m (m_told (o := 1) (key := 0) (by decide) (by decide) hT ht) (fun z hz => ?_))
  obtain ⟨z1, s1⟩ := z
  obtain ⟨hz, f1⟩ := hz
  have e1 : s1 120 = s 120 := frO f1 120 (by decide) (by decide)
  have n1 : s1 102 6 = np := (f1 102 6 (by decide) (by decide)).trans h6
  dsimp only
  rw [gd_n _ (show 64 + 4 * m < 128 by omega) (by decide), ix_n (by omega), bnd_e, gd_n _ (show 64 + 4 * m < 128 by omega) (by decide), pt_s]
  cases h1 : toldP 0 0 999 L with
  | error e =>
    rw [h1] at hz
    rw [if_pos hz.1]
    exact w1_s ⟨⟨rfl, FM_p hz.2 (by decide)⟩, fun k hk => by dsimp only; rw [pt_k _ _ _ (by omega), e1]⟩
  | ok x1 =>
  obtain ⟨a, L1⟩ := x1
  rw [h1] at hz hb
  obtain ⟨t1, l1, b1, _⟩ := toldP_b (o := 1) (by decide) h1 ht
  obtain ⟨y1, y2⟩ := hz
  dsimp only at y1 y2 hb ⊢
  rw [if_neg (by rw [y1]; exact nI_m1 (by omega)), y1]
  generalize hg3 : pt s1 120 (64 + 4 * m) (nI a) = s3
  have q3 : ∀ k, k ≠ 64 + 4 * m → s3 120 k = s 120 k := fun k hk => by rw [← hg3, pt_k _ _ _ hk, e1]
  have c3 : s3 120 (64 + 4 * m) = nI a := by rw [← hg3, pt_s]
  have n3 : s3 102 6 = np := by rw [← hg3, ptq _ _ _ (by decide)]; exact n1
  have m3 : MT T n 1 s3 L1 := by rw [← hg3]; exact MT_p y2 (by decide)
  rw [n3]
  refine w1_bi (w1_m (m_told (o := 1) (key := 1) (lo := 0) (hi := np - 1) (by decide) (by decide) m3 t1) (fun z hz => ?_))
  obtain ⟨z1, s4⟩ := z
  obtain ⟨hz, f4⟩ := hz
  have e4 : s4 120 = s3 120 := frO f4 120 (by decide) (by decide)
  dsimp only
  rw [gd_n _ (show 64 + 4 * m + 1 < 128 by omega) (by decide), ix_n (by omega), bnd_e, gd_n _ (show 64 + 4 * m + 1 < 128 by omega) (by decide), pt_s]
  cases h2 : toldP 1 0 (np - 1) L1 with
  | error e =>
    rw [h2] at hz
    rw [if_pos hz.1]
    exact w1_s ⟨⟨rfl, FM_p hz.2 (by decide)⟩, fun k hk => by dsimp only; rw [pt_k _ _ _ (by omega), e4, q3 k (by omega)]⟩
  | ok x2 =>
  obtain ⟨b, L2⟩ := x2
  rw [h2] at hz hb
  obtain ⟨t2, l2, b2, _⟩ := toldP_b (o := 1) (by decide) h2 t1
  obtain ⟨y1, y2⟩ := hz
  dsimp only at y1 y2 hb ⊢
  rw [if_neg (by rw [y1]; exact nI_m1 (by omega)), y1]
  generalize hg6 : pt s4 120 (64 + 4 * m + 1) (nI b) = s6
  have q6 : ∀ k, k ≠ 64 + 4 * m + 1 → s6 120 k = s3 120 k := fun k hk => by rw [← hg6, pt_k _ _ _ hk, e4]
  have c6 : s6 120 (64 + 4 * m + 1) = nI b := by rw [← hg6, pt_s]
  have m6 : MT T n 1 s6 L2 := by rw [← hg6]; exact MT_p y2 (by decide)
  refine w1_bi (w1_m (m_told (o := 1) (key := 2) (by decide) (by decide) m6 t2) (fun z hz => ?_))
  obtain ⟨z1, s7⟩ := z
  obtain ⟨hz, f7⟩ := hz
  have e7 : s7 120 = s6 120 := frO f7 120 (by decide) (by decide)
  dsimp only
  rw [gd_n _ (show 64 + 4 * m + 2 < 128 by omega) (by decide), ix_n (by omega), bnd_e, gd_n _ (show 64 + 4 * m + 2 < 128 by omega) (by decide), pt_s]
  cases h3 : toldP 2 0 19 L2 with
  | error e =>
    rw [h3] at hz
    rw [if_pos hz.1]
    exact w1_s ⟨⟨rfl, FM_p hz.2 (by decide)⟩, fun k hk => by dsimp only; rw [pt_k _ _ _ (by omega), e7, q6 k (by omega), q3 k (by omega)]⟩
  | ok x3 =>
  obtain ⟨c, L3⟩ := x3
  rw [h3] at hz hb
  obtain ⟨t3, l3, b3, _⟩ := toldP_b (o := 1) (by decide) h3 t2
  obtain ⟨y1, y2⟩ := hz
  dsimp only at y1 y2 hb ⊢
  rw [if_neg (by rw [y1]; exact nI_m1 (by omega)), y1]
  generalize hg9 : pt s7 120 (64 + 4 * m + 2) (nI c) = s9
  have q9 : ∀ k, k ≠ 64 + 4 * m + 2 → s9 120 k = s6 120 k := fun k hk => by rw [← hg9, pt_k _ _ _ hk, e7]
  have c9 : s9 120 (64 + 4 * m + 2) = nI c := by rw [← hg9, pt_s]
  have m9 : MT T n 1 s9 L3 := by rw [← hg9]; exact MT_p y2 (by decide)
  refine w1_bi (w1_m (m_told (o := 1) (key := 3) (by decide) (by decide) m9 t3) (fun z hz => ?_))
  obtain ⟨z1, s10⟩ := z
  obtain ⟨hz, f10⟩ := hz
  have e10 : s10 120 = s9 120 := frO f10 120 (by decide) (by decide)
  dsimp only
  rw [gd_n _ (show 64 + 4 * m + 3 < 128 by omega) (by decide), ix_n (by omega), bnd_e, gd_n _ (show 64 + 4 * m + 3 < 128 by omega) (by decide), pt_s]
  cases h4 : toldP 3 0 59 L3 with
  | error e =>
    rw [h4] at hz
    rw [if_pos hz.1]
    exact w1_s ⟨⟨rfl, FM_p hz.2 (by decide)⟩, fun k hk => by dsimp only; rw [pt_k _ _ _ (by omega), e10, q9 k (by omega), q6 k (by omega), q3 k (by omega)]⟩
  | ok x4 =>
  obtain ⟨d, L4⟩ := x4
  rw [h4] at hz hb
  obtain ⟨t4, l4, b4, _⟩ := toldP_b (o := 1) (by decide) h4 t3
  obtain ⟨y1, y2⟩ := hz
  dsimp only at y1 y2 hb ⊢
  rw [if_neg (by rw [y1]; exact nI_m1 (by omega)), y1]
  generalize hg12 : pt s10 120 (64 + 4 * m + 3) (nI d) = s12
  have q12 : ∀ k, k ≠ 64 + 4 * m + 3 → s12 120 k = s9 120 k := fun k hk => by rw [← hg12, pt_k _ _ _ hk, e10]
  have c12 : s12 120 (64 + 4 * m + 3) = nI d := by rw [← hg12, pt_s]
  have m12 : MT T n 1 s12 L4 := by rw [← hg12]; exact MT_p y2 (by decide)
  match L4, t4 with
  | u :: r, t4 =>
  refine w1_bi (w1_m (m_mark (by decide) m12 t4) (fun z hz => w1_s ?_))
  obtain ⟨hz, f13⟩ := hz
  have e13 : z.2 120 = s12 120 := frO f13 120 (by decide) (by decide)
  refine ⟨⟨u, r, rfl, ?_⟩, fun k hk => ?_⟩
  · by_cases g : u.1 = 59
    · rw [if_pos g] at hz ⊢
      refine ⟨hz.1, hz.2, ?_⟩
      unfold cbM
      dsimp only
      rw [e13, c12, q12 _ (by omega), q12 _ (by omega), q12 _ (by omega), c9, q9 _ (by omega), q9 _ (by omega), c6, q6 _ (by omega), c3]
      exact ⟨rfl, rfl, rfl, rfl⟩
    · rw [if_neg g] at hz ⊢
      exact hz
  · dsimp only
    rw [e13, q12 k (by omega), q9 k (by omega), q6 k (by omega), q3 k (by omega)]
def RX {A : Type} (b : Sg) (o lo : Nat) (P : Sg → A → Nat → Prop) (G : Except (Nat × Nat) (List A)) (z : Int32 × Sg) : Prop :=
  (∀ k, k < lo → z.2 o k = b o k) ∧ match G with
    | .error e => z.1 = -1 ∧ FM z.2 e
    | .ok X => z.1 = nI X.length ∧ rwP (P z.2) X 0
theorem m_climbs {T : Nat → Nat} {n : Nat} {np : Int32} {s : Sg} {L0 : List Tk} (hT0 : MT T n 1 s L0) (ht0 : tkl 1 L0) (hL0 : L0.length ≤ 401) (h60 : s 102 6 = np) : W1 (fM_readClimbs s) (RX s 120 64 cbM (txtL 256 (clP np) 401 [] L0)) := by
  generalize hG0 : txtL 256 (clP np) 401 [] L0 = G
  unfold fM_readClimbs
  refine w1_lp (fun k v t => ∃ X L kk, v = nI X.length ∧ MT T n 1 t L ∧ tkl 1 L ∧ t 102 6 = np ∧ (∀ k, k < 64 → t 120 k = s 120 k) ∧ rwP (cbM t) X 0 ∧ X.length ≤ 16 ∧ txtL 256 (clP np) kk X L = G ∧ L.length ≤ kk ∧ L.length ≤ k) ?_ FU 401 _ _ (FU_lt (by omega)) ⟨[], L0, 401, rfl, hT0, ht0, h60, fun _ _ => rfl, True.intro, Nat.zero_le _, hG0, hL0, hL0⟩
  clear hT0 ht0 hL0 hG0
  rintro q2 k v t ⟨X, L, kk, rfl, hT, hL, h6, hlo, hr, hX, hG, hkk, hk⟩ hq
  match L, hL with
  | x :: r, hL =>
  obtain ⟨k1, k2, k3⟩ := rk_tok hT.2.2.1
  have hx := (tkl_b (o := 1) (by decide) hL).1
  rw [List.length_cons] at hkk hk
  obtain ⟨kk, rfl⟩ : ∃ j, kk = j + 1 := ⟨kk - 1, by omega⟩
  rw [txtL] at hG
  have errs : ∀ f : Nat, G = .error (f, x.2.1) → W1 (bi (fM_errs (nI f) t) fun r5 s4 => some (r5, s4)) (RX s 120 64 cbM G) := by
    intro f hGe
    refine w1_bi (w1_m (m_errs f hT) (fun z hz => w1_s ⟨fun k hk => ?_, ?_⟩))
    · dsimp only
      rw [frO hz.2.2 120 (by decide) (by decide)]
      exact hlo k hk
    · rw [hGe]
      exact ⟨hz.1, hz.2.1⟩
  rw [show (16 : Int32) = nI (kj 1 0) from rfl, e_wd (by decide) hT hL (by decide), bi_s]
  by_cases g : x.1 = 256
  rotate_left
  · rw [if_neg (show ¬ (256 ≤ x.1 ∧ x.1 ≤ 256) by omega)] at hG
    rw [if_neg (show ¬ x.1 = 256 + 0 from g), if_pos rfl]
    refine w1_if (fun g2 => ?_) (fun g2 => ?_)
    · rw [if_pos (k2.mp g2)] at hG
      exact w1_s ⟨hlo, by rw [← hG]; exact ⟨rfl, hr⟩⟩
    · rw [if_neg (fun e => g2 (k2.mpr e))] at hG
      exact errs 1 hG.symm
  rw [if_pos (show 256 ≤ x.1 ∧ x.1 ≤ 256 by omega)] at hG
  rw [if_pos (show x.1 = 256 + 0 from g), if_neg n10z, show nI (kj 1 0) = nI 16 from rfl]
  by_cases g16 : X.length = 16
  · rw [if_pos g16] at hG
    rw [if_pos (show nI X.length = nI 16 by rw [g16])]
    exact errs 3 hG.symm
  rw [if_neg g16] at hG
  rw [if_neg (show ¬ nI X.length = nI 16 from fun e => g16 (nI_inj (by omega) (by decide) e)), show (4 : Int32) = nI 4 from rfl, pk_mul, show (64 : Int32) = nI 64 from rfl, nI_add]
  refine w1_bi (w1_m (w1_f2 (m_cl hT hL (show X.length < 16 by omega) h6) (fr_M_readClimb _ t)) (fun z hz => ?_))
  obtain ⟨z1, t1⟩ := z
  obtain ⟨⟨hz, hlo1⟩, f1⟩ := hz
  dsimp only at hlo1 ⊢
  have lo' : ∀ k, k < 64 → t1 120 k = s 120 k := fun k hk => by rw [hlo1 k (by omega)]; exact hlo k hk
  cases hc : clP np (x :: r) with
  | error e =>
    rw [hc] at hz hG
    obtain ⟨y1, y2⟩ := hz
    dsimp only at y1 y2 hG
    rw [y1, if_pos rfl]
    exact w1_s ⟨lo', by rw [← hG]; exact ⟨rfl, y2⟩⟩
  | ok y =>
    obtain ⟨a, L'⟩ := y
    rw [hc] at hz hG
    obtain ⟨b1, b2, b3⟩ := clP_b (o := 1) (by decide) hc hL
    obtain ⟨u, r', hu, hz⟩ := hz
    dsimp only at hu
    subst hu
    dsimp only at hz hG
    rw [List.length_cons, List.length_cons] at b2
    by_cases g59 : u.1 = 59
    · rw [if_pos g59] at hz hG
      rw [hz.1, if_neg (by decide), nI_1]
      refine hq (k - 1) _ _ (by omega) ⟨X ++ [a], r', kk, by rw [List.length_append]; rfl, hz.2.1, (tkl_t b1 (by omega)).1, (f1 102 6 (by decide) (by decide)).trans h6, lo', rwP_s X 0 (rwP_m X 0 hr (fun c j _ hj hp => ?_)) (by rw [Nat.zero_add]; exact hz.2.2), by rw [List.length_append]; show X.length + 1 ≤ 16; omega, hG, by omega, by omega⟩
      unfold cbM at hp ⊢
      rw [hlo1 _ (by omega), hlo1 _ (by omega), hlo1 _ (by omega), hlo1 _ (by omega)]
      exact hp
    · rw [if_neg g59] at hz hG
      rw [hz.1, if_pos rfl]
      exact w1_s ⟨lo', by rw [← hG]; exact ⟨rfl, hz.2⟩⟩
