/-! TEXT: climbs and sunsets, of the class -/
theorem k1_init {s : Sg} {np : Int32} (h : tc (s 42) 4 16) : W1 (fTe_clear 36 (nI 1) (pt (pt s 30 3 0) 30 4 (-1))) (fun t => ∀ t2 L, L.length ≤ 401 → (∀ o k, o ∉ [33, 34, 35] → (o, k) ∉ [(31, 5), (31, 6), (31, 7), (31, 8), (31, 9)] → t2 o k = t o k) → SXc np t2 [] L) := by
  unfold fTe_clear fTa_empty
  rw [if_neg (by decide), if_pos (show nI 1 = 1 from rfl), show hz_rf 36 1 = 42 from rfl, bnd_e, bi_s]
  refine w1_s (fun t2 L hL hf => ⟨?_, ⟨?_, ?_⟩, True.intro, (fun l hl => by cases hl)⟩)
  · refine (hf 42 3 (by decide) (by decide)).trans ?_
    rw [pt_s]; rfl
  · refine (hf 42 0 (by decide) (by decide)).trans ?_
    rw [pt_k _ _ _ (by decide), ptq _ _ _ (by decide), ptq _ _ _ (by decide)]
    exact h.1
  · refine (hf 42 1 (by decide) (by decide)).trans ?_
    rw [pt_k _ _ _ (by decide), ptq _ _ _ (by decide), ptq _ _ _ (by decide)]
    exact h.2
theorem k2_init {s : Sg} (h : tc (s 44) 2 16) : W1 (fTe_clear 36 (nI 2) (pt (pt s 30 3 0) 30 4 (-1))) (fun t => ∀ t2 L, L.length ≤ 401 → (∀ o k, o ∉ [33, 34, 35] → (o, k) ∉ [(31, 5), (31, 6), (31, 7), (31, 8), (31, 9)] → t2 o k = t o k) → SXs t2 [] L) := by
  unfold fTe_clear fTa_empty
  rw [if_neg (by decide), if_neg (by decide), if_pos (show nI 2 = 2 from rfl), show hz_rf 36 2 = 44 from rfl, bnd_e, bi_s]
  refine w1_s (fun t2 L hL hf => ⟨?_, ⟨?_, ?_⟩, True.intro, (fun l hl => by cases hl)⟩)
  · refine (hf 44 3 (by decide) (by decide)).trans ?_
    rw [pt_s]; rfl
  · refine (hf 44 0 (by decide) (by decide)).trans ?_
    rw [pt_k _ _ _ (by decide), ptq _ _ _ (by decide), ptq _ _ _ (by decide)]
    exact h.1
  · refine (hf 44 1 (by decide) (by decide)).trans ?_
    rw [pt_k _ _ _ (by decide), ptq _ _ _ (by decide), ptq _ _ _ (by decide)]
    exact h.2
theorem k1_line {s : Sg} {np : Int32} {X : List Cb} {L : List Tk} (hT : CT s L) (hS : SXc np s X L) (ht : tkl 1 L) (hX : X.length < 16) : W1 (fRe_readPlainLine (nI 1) np s) (LnX (SXc np) X (clP np L)) := by
  obtain ⟨h3, htc, hr, hok⟩ := hS
  have hb := fun a L' (h : clP np L = .ok (a, L')) => clP_b (o := 1) (by decide) h ht
  unfold fRe_readPlainLine
  rw [if_pos (show nI 1 = 1 from rfl)]
  have main : W1 (fRe_readClimb np s) (LnX (SXc np) X (clP np L)) := by
    unfold fRe_readClimb clP
    unfold clP at hb
    refine w1_bi (w1_m (c_told (key := 0) (by decide) (by decide) hT ht) (fun z hz => ?_))
    obtain ⟨z1, s1⟩ := z
    obtain ⟨hz, f1⟩ := hz
    dsimp only at f1 ⊢
    cases h1 : toldP 0 0 999 L with
    | error e =>
      rw [h1] at hz
      rw [show z1 = 0 from hz.1, if_pos rfl, gb_0]
      exact w1_s ⟨rfl, hz.2⟩
    | ok x1 =>
    obtain ⟨a, L1⟩ := x1
    rw [h1] at hz hb
    obtain ⟨t1, l1, _, _⟩ := toldP_b (o := 1) (by decide) h1 ht
    obtain ⟨y1, y2, y3⟩ := hz
    dsimp only at y1 y2 y3 hb ⊢
    rw [y1, if_neg n10z]
    refine w1_bi (w1_m (c_told (key := 1) (lo := 0) (hi := np - 1) (by decide) (by decide) y2 t1) (fun z hz => ?_))
    obtain ⟨z1, s3⟩ := z
    obtain ⟨hz, f3⟩ := hz
    dsimp only at f3 ⊢
    cases h2 : toldP 1 0 (np - 1) L1 with
    | error e =>
      rw [h2] at hz
      rw [show z1 = 0 from hz.1, if_pos rfl, gb_0]
      exact w1_s ⟨rfl, hz.2⟩
    | ok x2 =>
    obtain ⟨b, L2⟩ := x2
    rw [h2] at hz hb
    obtain ⟨t2, l2, _, _⟩ := toldP_b (o := 1) (by decide) h2 t1
    obtain ⟨v1, v2, v3⟩ := hz
    dsimp only at v1 v2 v3 hb ⊢
    rw [v1, if_neg n10z]
    refine w1_bi (w1_m (c_told (key := 2) (by decide) (by decide) v2 t2) (fun z hz => ?_))
    obtain ⟨z1, s5⟩ := z
    obtain ⟨hz, f5⟩ := hz
    dsimp only at f5 ⊢
    cases h5 : toldP 2 0 19 L2 with
    | error e =>
      rw [h5] at hz
      rw [show z1 = 0 from hz.1, if_pos rfl, gb_0]
      exact w1_s ⟨rfl, hz.2⟩
    | ok x3 =>
    obtain ⟨c, L3⟩ := x3
    rw [h5] at hz hb
    obtain ⟨t3, l3, _, _⟩ := toldP_b (o := 1) (by decide) h5 t2
    obtain ⟨u1, u2, u3⟩ := hz
    dsimp only at u1 u2 u3 hb ⊢
    rw [u1, if_neg n10z]
    refine w1_bi (w1_m (c_told (key := 3) (by decide) (by decide) u2 t3) (fun z hz => ?_))
    obtain ⟨z1, s7⟩ := z
    obtain ⟨hz, f7⟩ := hz
    dsimp only at f7 ⊢
    cases h7 : toldP 3 0 59 L3 with
    | error e =>
      rw [h7] at hz
      rw [show z1 = 0 from hz.1, if_pos rfl, gb_0]
      exact w1_s ⟨rfl, hz.2⟩
    | ok x4 =>
    obtain ⟨d, L4⟩ := x4
    rw [h7] at hz hb
    obtain ⟨w1, w2, w3⟩ := hz
    dsimp only at w1 w2 w3 hb ⊢
    rw [w1, if_neg n10z]
    obtain ⟨g1, g2, g3⟩ := hb _ _ rfl
    have e42 : s7 42 = s 42 := (frO f7 42 (by decide) (by decide)).trans ((frO f5 42 (by decide) (by decide)).trans ((frO f3 42 (by decide) (by decide)).trans (frO f1 42 (by decide) (by decide))))
    have e43 : s7 43 = s 43 := (frO f7 43 (by decide) (by decide)).trans ((frO f5 43 (by decide) (by decide)).trans ((frO f3 43 (by decide) (by decide)).trans (frO f1 43 (by decide) (by decide))))
    obtain ⟨τ, e1, e2, e3, e4⟩ := e_add (s := s7) (t := 42) (w := 4) (l := 16) (k := X.length) (a := s1 30 5) (b := s3 30 5) (c := s5 30 5) (d := s7 30 5) (e := 0) (by rw [e42]; exact htc.1) (by rw [e42]; exact htc.2) (by rw [e42]; exact h3) rfl (by decide) hX (by decide) (by decide) (by decide)
    rw [e1, bi_s, gb_1]
    rw [show hz_rf 42 2 = 43 from rfl] at e3 e4
    have g : ∀ o, o ≠ 42 → o ≠ 43 → τ o = s7 o := fun o n1 n2 => funext fun k => e4 o k (fun h => absurd h n1) (fun h => absurd h n2)
    refine w1_s ⟨rfl, CT_c w2 (g 31 (by decide) (by decide)) (g 33 (by decide) (by decide)) (g 34 (by decide) (by decide)) (g 35 (by decide) (by decide)) ⟨congrFun (g 30 (by decide) (by decide)) 3, congrFun (g 30 (by decide) (by decide)) 4⟩, ?_, ⟨?_, ?_⟩, rwP_s X 0 (rwP_m X 0 hr (fun x j _ hj hp => ?_)) ?_, ?_⟩
    · dsimp only
      rw [e2, List.length_append]; rfl
    · refine (e4 42 0 (fun _ => by decide) (fun h => absurd h (by decide))).trans ?_
      rw [e42]; exact htc.1
    · refine (e4 42 1 (fun _ => by decide) (fun h => absurd h (by decide))).trans ?_
      rw [e42]; exact htc.2
    · have q : ∀ k, k < X.length * 4 → τ 43 k = s 43 k := fun k hk => by
        rw [e4 43 k (fun h => absurd h (by decide)) (fun _ => Or.inl hk), e43]
      unfold cbC at hp ⊢
      dsimp only
      rw [q _ (by omega), q _ (by omega), q _ (by omega), q _ (by omega)]
      exact hp
    · rw [Nat.zero_add]
      exact ⟨(e3 0 (by decide)).trans y3, (e3 1 (by decide)).trans v3, (e3 2 (by decide)).trans u3, (e3 3 (by decide)).trans w3⟩
    · intro x hx
      rcases List.mem_append.mp hx with h | h
      · exact hok x h
      · rw [List.mem_singleton] at h
        rw [h]
        exact g3
  refine w1_bi (w1_m main (fun z hz => ?_))
  have hz2 := hz
  unfold LnX at hz2
  have : z.1 = 0 ∨ z.1 = 1 := by
    cases hc : clP np L with
    | error e => rw [hc] at hz2; exact Or.inl hz2.1
    | ok x => rw [hc] at hz2; exact Or.inr hz2.1
  rw [gb, if_pos this]
  exact w1_s hz
theorem k2_line {s : Sg} {np : Int32} {X : List (Nat × Nat)} {L : List Tk} (hT : CT s L) (hS : SXs s X L) (ht : tkl 2 L) (hX : X.length < 16) : W1 (fRe_readPlainLine (nI 2) np s) (LnX SXs X (snP L)) := by
  obtain ⟨h3, htc, hr, hok⟩ := hS
  have hb := fun a L' (h : snP L = .ok (a, L')) => snP_b (o := 2) (by decide) h ht
  unfold fRe_readPlainLine
  rw [if_neg (show ¬ nI 2 = 1 by decide), if_pos (show nI 2 = 2 from rfl)]
  have main : W1 (fRe_readSun s) (LnX SXs X (snP L)) := by
    unfold fRe_readSun snP
    unfold snP at hb
    refine w1_bi (w1_m (c_told (key := 0) (by decide) (by decide) hT ht) (fun z hz => ?_))
    obtain ⟨z1, s1⟩ := z
    obtain ⟨hz, f1⟩ := hz
    dsimp only at f1 ⊢
    cases h1 : toldP 0 0 999 L with
    | error e =>
      rw [h1] at hz
      rw [show z1 = 0 from hz.1, if_pos rfl, gb_0]
      exact w1_s ⟨rfl, hz.2⟩
    | ok x1 =>
    obtain ⟨a, L1⟩ := x1
    rw [h1] at hz hb
    obtain ⟨t1, l1, _, _⟩ := toldP_b (o := 2) (by decide) h1 ht
    obtain ⟨y1, y2, y3⟩ := hz
    dsimp only at y1 y2 y3 hb ⊢
    rw [y1, if_neg n10z]
    refine w1_bi (w1_m (c_told (key := 1) (by decide) (by decide) y2 t1) (fun z hz => ?_))
    obtain ⟨z1, s3⟩ := z
    obtain ⟨hz, f3⟩ := hz
    dsimp only at f3 ⊢
    cases h2 : toldP 1 10 59 L1 with
    | error e =>
      rw [h2] at hz
      rw [show z1 = 0 from hz.1, if_pos rfl, gb_0]
      exact w1_s ⟨rfl, hz.2⟩
    | ok x2 =>
    obtain ⟨b, L2⟩ := x2
    rw [h2] at hz hb
    obtain ⟨v1, v2, v3⟩ := hz
    dsimp only at v1 v2 v3 hb ⊢
    rw [v1, if_neg n10z]
    obtain ⟨g1, g2, g3⟩ := hb _ _ rfl
    have e44 : s3 44 = s 44 := (frO f3 44 (by decide) (by decide)).trans (frO f1 44 (by decide) (by decide))
    have e45 : s3 45 = s 45 := (frO f3 45 (by decide) (by decide)).trans (frO f1 45 (by decide) (by decide))
    obtain ⟨τ, e1, e2, e3, e4⟩ := e_add (s := s3) (t := 44) (w := 2) (l := 16) (k := X.length) (a := s1 30 5) (b := s3 30 5) (c := 0) (d := 0) (e := 0) (by rw [e44]; exact htc.1) (by rw [e44]; exact htc.2) (by rw [e44]; exact h3) rfl (by decide) hX (by decide) (by decide) (by decide)
    rw [e1, bi_s, gb_1]
    rw [show hz_rf 44 2 = 45 from rfl] at e3 e4
    have g : ∀ o, o ≠ 44 → o ≠ 45 → τ o = s3 o := fun o n1 n2 => funext fun k => e4 o k (fun h => absurd h n1) (fun h => absurd h n2)
    refine w1_s ⟨rfl, CT_c v2 (g 31 (by decide) (by decide)) (g 33 (by decide) (by decide)) (g 34 (by decide) (by decide)) (g 35 (by decide) (by decide)) ⟨congrFun (g 30 (by decide) (by decide)) 3, congrFun (g 30 (by decide) (by decide)) 4⟩, ?_, ⟨?_, ?_⟩, rwP_s X 0 (rwP_m X 0 hr (fun x j _ hj hp => ?_)) ?_, ?_⟩
    · dsimp only
      rw [e2, List.length_append]; rfl
    · refine (e4 44 0 (fun _ => by decide) (fun h => absurd h (by decide))).trans ?_
      rw [e44]; exact htc.1
    · refine (e4 44 1 (fun _ => by decide) (fun h => absurd h (by decide))).trans ?_
      rw [e44]; exact htc.2
    · have q : ∀ k, k < X.length * 2 → τ 45 k = s 45 k := fun k hk => by
        rw [e4 45 k (fun h => absurd h (by decide)) (fun _ => Or.inl hk), e45]
      unfold snC at hp ⊢
      dsimp only
      rw [q _ (by omega), q _ (by omega)]
      exact hp
    · rw [Nat.zero_add]
      exact ⟨(e3 0 (by decide)).trans y3, (e3 1 (by decide)).trans v3⟩
    · intro x hx
      rcases List.mem_append.mp hx with h | h
      · exact hok x h
      · rw [List.mem_singleton] at h
        rw [h]
        exact g3
  refine w1_bi (w1_m main (fun z hz => ?_))
  have hz2 := hz
  unfold LnX at hz2
  have : z.1 = 0 ∨ z.1 = 1 := by
    cases hc : snP L with
    | error e => rw [hc] at hz2; exact Or.inl hz2.1
    | ok x => rw [hc] at hz2; exact Or.inr hz2.1
  rw [gb, if_pos this]
  exact w1_s hz
theorem k1_take {s : Sg} {T : Nat → Nat} {n : Nat} {np : Int32} (hT : CTp s T) (hn : n ≤ 400) (h4 : s 31 4 = nI n) (h : tc (s 42) 4 16) : W1 (fRe_take (nI 1) np s) (fun z => ∃ L, chn T n 1 L 0 ∧ L.length ≤ 401 ∧ TX (SXc np) (txtL 256 (clP np) 401 [] L) z) :=
  c_take (by decide) rfl hT hn h4 (k1_init h) (fun s X t r h1 h2 h3 h4 _ _ => by
    rw [if_neg (by decide)]
    exact k1_line h1 h2 h3 h4) (fun L a L' h1 h2 => ⟨(clP_b (by decide) h1 h2).1, by have := (clP_b (o := 1) (by decide) h1 h2).2.1; omega⟩) (fun s s' X u r h hf => by
    obtain ⟨a1, a2, a3, a4⟩ := h
    have e42 : s' 42 = s 42 := frO hf 42 (by decide) (by decide)
    have e43 : s' 43 = s 43 := frO hf 43 (by decide) (by decide)
    exact ⟨by rw [e42]; exact a1, by rw [e42]; exact a2, rwP_m X 0 a3 (fun x j _ _ hp => by unfold cbC at hp ⊢; rw [e43]; exact hp), a4⟩)
theorem k2_take {s : Sg} {T : Nat → Nat} {n : Nat} {np : Int32} (hT : CTp s T) (hn : n ≤ 400) (h4 : s 31 4 = nI n) (h : tc (s 44) 2 16) : W1 (fRe_take (nI 2) np s) (fun z => ∃ L, chn T n 2 L 0 ∧ L.length ≤ 401 ∧ TX SXs (txtL 256 snP 401 [] L) z) :=
  c_take (by decide) rfl hT hn h4 (k2_init h) (fun s X t r h1 h2 h3 h4 _ _ => by
    rw [if_neg (by decide)]
    exact k2_line h1 h2 h3 h4) (fun L a L' h1 h2 => ⟨(snP_b (by decide) h1 h2).1, by have := (snP_b (o := 2) (by decide) h1 h2).2.1; omega⟩) (fun s s' X u r h hf => by
    obtain ⟨a1, a2, a3, a4⟩ := h
    have e44 : s' 44 = s 44 := frO hf 44 (by decide) (by decide)
    have e45 : s' 45 = s 45 := frO hf 45 (by decide) (by decide)
    exact ⟨by rw [e44]; exact a1, by rw [e44]; exact a2, rwP_m X 0 a3 (fun x j _ _ hp => by unfold snC at hp ⊢; rw [e45]; exact hp), a4⟩)
