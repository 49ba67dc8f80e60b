/-! TEXT: the law, of the class -/
def SXl (s : Sg) (X : List Lin) (L : List Tk) : Prop := CC s (fl X) ∧ lnC s X 0 0 ∧ s 38 3 = nI X.length ∧ tc (s 38) 4 16 ∧ (∀ l ∈ X, wln l) ∧ mln (fl X) + L.length ≤ 401
theorem l_init {s : Sg} (h : tc (s 38) 4 16) : W1 (fTe_clear 36 (nI 0) (pt (pt s 30 3 0) 30 4 (-1))) (fun t => ∀ t2 L, L.length ≤ 401 → (∀ o k, o ∉ [33, 34, 35] → (o, k) ∉ [(31, 5), (31, 6), (31, 7), (31, 8), (31, 9)] → t2 o k = t o k) → SXl t2 [] L) := by
  unfold fTe_clear fLa_clear fTa_empty
  rw [if_pos (show nI 0 = 0 from rfl), show hz_rf 36 0 = 37 from rfl, show hz_rf 37 0 = 38 from rfl, bnd_e, bi_s, bnd_e, bv_s]
  refine w1_s (fun t2 L hL hf => ⟨⟨?_, True.intro⟩, True.intro, ?_, ⟨?_, ?_⟩, (fun l hl => by cases hl), ?_⟩)
  · refine (hf 37 3 (by decide) (by decide)).trans ?_
    rw [pt_s]; rfl
  · refine (hf 38 3 (by decide) (by decide)).trans ?_
    rw [ptq _ _ _ (by decide), pt_s]; rfl
  · refine (hf 38 0 (by decide) (by decide)).trans ?_
    rw [ptq _ _ _ (by decide), pt_k _ _ _ (by decide), ptq _ _ _ (by decide), ptq _ _ _ (by decide)]
    exact h.1
  · refine (hf 38 1 (by decide) (by decide)).trans ?_
    rw [ptq _ _ _ (by decide), pt_k _ _ _ (by decide), ptq _ _ _ (by decide), ptq _ _ _ (by decide)]
    exact h.2
  · show mln [] + L.length ≤ 401
    rw [show mln [] = 0 from rfl]
    omega
theorem l_line {s : Sg} {X : List Lin} {t : Tk} {r : List Tk} (hT : CT s (t :: r)) (hS : SXl s X (t :: r)) (ht : tkl 0 (t :: r)) (hX : X.length < 16) (hk : 256 ≤ t.1) : W1 (fRe_readLawLine s) (LnX SXl X (linP (t :: r))) := by
  obtain ⟨hC, hl, h3, htc, hw, hb⟩ := hS
  obtain ⟨h7, h8, h9⟩ := CT_h hT
  have hx := (tkl_b (by decide) ht).1
  obtain ⟨htr, u, r', rfl⟩ := tkl_t ht (by omega)
  rw [List.length_cons] at hb
  have hlin := fun l L' (h : linP (t :: u :: r') = .ok (l, L')) => linP_w h ht
  unfold fRe_readLawLine
  refine w1_bv (w1_m (w1_f2 (c_adv hT) (fr_To_advance s)) (fun s1 h1 => ?_))
  obtain ⟨hT1, f1⟩ := h1
  have hC1 : CC s1 (fl X ++ []) := by
    rw [List.append_nil]
    exact CC_c hC (f1 37 3 (by decide) (by decide)) (frO f1 40 (by decide) (by decide))
  refine w1_bi (w1_m (w1_f2 (c_sum (by decide) hT1 hC1 htr (by rw [List.append_nil]; omega)) (fr_Re_readSum s1)) (fun z hz => ?_))
  obtain ⟨z1, s2⟩ := z
  obtain ⟨hz, f2⟩ := hz
  dsimp only
  unfold linP at hlin ⊢
  dsimp only at hlin ⊢
  cases hs : sumP (u :: r') [] with
  | error e =>
    rw [hs] at hz
    obtain ⟨y1, y2⟩ := hz
    dsimp only at y1 y2 ⊢
    rw [y1, if_pos rfl, gb_0]
    exact w1_s ⟨rfl, y2⟩
  | ok y =>
  obtain ⟨p, L1⟩ := y
  rw [hs] at hz hlin
  obtain ⟨y1, y2, y3⟩ := hz
  obtain ⟨b1, b2, b3⟩ := sumP_b (o := 0) (by decide) hs htr
  match L1, b2 with
  | w :: r1, b2 =>
  dsimp only at y1 y2 y3 hlin ⊢
  rw [y1, if_neg n10z]
  have e0 : mln ([] : Pg) = 0 := rfl
  rw [List.length_cons, e0] at b1
  rw [List.length_cons] at b1 b3
  -- the line is written down
  refine w1_j (fun (J : Sg → Option (Int32 × Sg)) => ∀ s4 q L', CT s4 L' → CC s4 (fl X ++ (p ++ q)) → s4 39 = s 39 → (∀ k, k ≠ 3 → s4 38 k = s 38 k) → s4 38 3 = s 38 3 → wln (t.1 - 256, p, q) → mln p + mln q + L'.length + 1 ≤ r'.length + 1 + 1 → W1 (J s4) (fun z => z.1 = 1 ∧ CT z.2 L' ∧ SXl z.2 (X ++ [(t.1 - 256, p, q)]) L')) ?_ (fun j79 h79 => ?_)
  · intro s4 q L' k1 k2 k3 k4 k5 k6 k7
    obtain ⟨τ, e1, e2, e3, e4⟩ := e_add (s := s4) (t := 38) (w := 4) (l := 16) (k := X.length) (a := (s 31 7) - 256) (b := s 37 3) (c := s2 37 3) (d := s4 37 3) (e := 0) (by rw [k4 0 (by decide)]; exact htc.1) (by rw [k4 1 (by decide)]; exact htc.2) (by rw [k5]; exact h3) rfl (by decide) hX (by decide) (by decide) (by decide)
    rw [e1, bi_s, gb_1]
    rw [show hz_rf 38 2 = 39 from rfl] at e3 e4
    have g : ∀ o, o ≠ 38 → o ≠ 39 → τ o = s4 o := fun o n1 n2 => funext fun k => e4 o k (fun h => absurd h n1) (fun h => absurd h n2)
    have x0 := e3 0 (by decide)
    have x1 := e3 1 (by decide)
    have x2 := e3 2 (by decide)
    have x3 := e3 3 (by decide)
    have z2 : (s2 37 3) = nI ((fl X).length + p.length) := by rw [y3.1, List.length_append]
    have z3 : (s4 37 3) = nI ((fl X).length + p.length + q.length) := by rw [k2.1, List.length_append, List.length_append, Nat.add_assoc]
    refine w1_s ⟨rfl, CT_c k1 (g 31 (by decide) (by decide)) (g 33 (by decide) (by decide)) (g 34 (by decide) (by decide)) (g 35 (by decide) (by decide)) ⟨congrFun (g 30 (by decide) (by decide)) 3, congrFun (g 30 (by decide) (by decide)) 4⟩, ?_, ?_, ?_, ⟨?_, ?_⟩, ?_, ?_⟩
    · rw [fl_s]
      exact CC_c k2 (by dsimp only; rw [g 37 (by decide) (by decide)]) (g 40 (by decide) (by decide))
    · refine lnC_s X 0 0 hl (fun k hk => ?_) ?_
      · rw [← k3]
        exact e4 39 k (fun h => absurd h (by decide)) (fun _ => Or.inl (by omega))
      · rw [Nat.zero_add, Nat.zero_add]
        refine ⟨x0.trans ?_, x1.trans hC.1, x2.trans z2, x3.trans z3⟩
        show (s 31 7) - 256 = nI (t.1 - 256)
        rw [h7, show (256 : Int32) = nI 256 from rfl, pk_sub hk]
    · dsimp only
      rw [e2, List.length_append]
      rfl
    · refine (e4 38 0 (fun _ => by decide) (fun h => absurd h (by decide))).trans ?_
      rw [k4 0 (by decide)]
      exact htc.1
    · refine (e4 38 1 (fun _ => by decide) (fun h => absurd h (by decide))).trans ?_
      rw [k4 1 (by decide)]
      exact htc.2
    · intro l hl
      rcases List.mem_append.mp hl with h | h
      · exact hw l h
      · rw [List.mem_singleton] at h
        rw [h]
        exact k6
    · rw [fl_s, mln_app, mln_app]
      rw [List.length_cons] at hb
      dsimp only
      omega
  have hw1 := (tkl_b (by decide) b2).1
  have f39 : s2 39 = s 39 := (frO f2 39 (by decide) (by decide)).trans (frO f1 39 (by decide) (by decide))
  have f38 : s2 38 = s 38 := (frO f2 38 (by decide) (by decide)).trans (frO f1 38 (by decide) (by decide))
  by_cases g : w.1 = 259
  · simp only [if_pos g] at hlin ⊢
    rw [if_pos (show s2 31 7 = 259 by rw [(CT_h y2).1, g]; rfl)]
    obtain ⟨htr1, u1, r2, rfl⟩ := tkl_t b2 (by omega)
    rw [List.length_cons] at b1 b3
    refine w1_bv (w1_m (w1_f2 (c_adv y2) (fr_To_advance s2)) (fun s7 h7 => ?_))
    obtain ⟨hT7, f7⟩ := h7
    have hC7 : CC s7 (fl X ++ p) := CC_c y3 (f7 37 3 (by decide) (by decide)) (frO f7 40 (by decide) (by decide))
    refine w1_bi (w1_m (w1_f2 (c_cond (by decide) hT7 hC7 htr1 (by rw [mln_app, List.length_cons]; rw [List.length_cons] at hb; omega)) (fr_Re_readCondition s7)) (fun z hz => ?_))
    obtain ⟨z1, s8⟩ := z
    obtain ⟨hz, f8⟩ := hz
    dsimp only
    cases hs2 : cnd 401 true [] [] (u1 :: r2) with
    | error e =>
      rw [hs2] at hz
      obtain ⟨v1, v2⟩ := hz
      dsimp only at v1 v2 ⊢
      rw [v1, if_pos rfl, gb_0]
      exact w1_s ⟨rfl, v2⟩
    | ok yy =>
      obtain ⟨q, L2⟩ := yy
      rw [hs2] at hz hlin
      obtain ⟨v1, v2, v3⟩ := hz
      dsimp only at v1 v2 v3 hlin ⊢
      rw [v1, if_neg n10z]
      obtain ⟨a1, a2, a3, a4⟩ := hlin _ _ rfl
      have f38' : s8 38 = s 38 := (frO f8 38 (by decide) (by decide)).trans ((frO f7 38 (by decide) (by decide)).trans f38)
      refine h79 s8 q L2 v2 (by rw [← List.append_assoc]; exact v3) ((frO f8 39 (by decide) (by decide)).trans ((frO f7 39 (by decide) (by decide)).trans f39)) (fun k _ => by rw [f38']) (by rw [f38']) a1 (by rw [List.length_cons, List.length_cons] at a3; exact a3)
  · simp only [if_neg g] at hlin ⊢
    rw [if_neg (show ¬ s2 31 7 = 259 from fun e => g (nI_inj (b := 259) (by omega) (by decide) ((CT_h y2).1.symm.trans e)))]
    obtain ⟨a1, a2, a3, a4⟩ := hlin _ _ rfl
    exact h79 s2 [] (w :: r1) y2 (by rw [List.append_nil]; exact y3) f39 (fun k _ => by rw [f38]) (by rw [f38]) a1 (by rw [List.length_cons (a := t), List.length_cons (a := u)] at a3; exact a3)
theorem l_adv {s s' : Sg} {X : List Lin} {u : Tk} {r : List Tk} (h : SXl s X (u :: r)) (hf : ∀ o k, o ∉ [] → (o, k) ∉ [(30, 3), (30, 4), (31, 6), (31, 7), (31, 8), (31, 9)] → s' o k = s o k) : SXl s' X r := by
  obtain ⟨hC, hl, h3, htc, hw, hb⟩ := h
  have f38 : s' 38 = s 38 := frO hf 38 (by decide) (by decide)
  rw [List.length_cons] at hb
  exact ⟨CC_c hC (hf 37 3 (by decide) (by decide)) (frO hf 40 (by decide) (by decide)), lnC_c (frO hf 39 (by decide) (by decide)) X 0 0 hl, by rw [f38]; exact h3, by rw [f38]; exact htc, hw, by omega⟩
theorem l_take {s : Sg} {T : Nat → Nat} {n : Nat} {np : Int32} (hT : CTp s T) (hn : n ≤ 400) (h4 : s 31 4 = nI n) (h : tc (s 38) 4 16) : W1 (fRe_take (nI 0) np s) (fun z => ∃ L, chn T n 0 L 0 ∧ L.length ≤ 401 ∧ TX SXl (txtL 258 linP 401 [] L) z) :=
  c_take (by decide) rfl hT hn h4 (l_init h) (fun s X t r h1 h2 h3 h4 h5 _ => by
    rw [if_pos rfl]
    exact l_line h1 h2 h3 h4 h5) (fun L a L' h1 h2 => ⟨(linP_w h1 h2).2.1, by have := (linP_w h1 h2).2.2.2; omega⟩) (fun s s' X u r h1 h2 => l_adv h1 h2)
