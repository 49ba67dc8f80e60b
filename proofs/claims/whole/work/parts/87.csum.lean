/-! TEXT: sums, of the class -/
theorem cAt_app {code : Nat → Int32} : ∀ (p q : Pg) (f : Nat), cAt code f p → cAt code (f + p.length) q → cAt code f (p ++ q)
  | [], q, f, _, h => h
  | x :: p, q, f, h, h2 => ⟨h.1, cAt_app p q (f + 1) h.2 (by rw [show f + 1 + p.length = f + (x :: p).length by rw [List.length_cons]; omega]; exact h2)⟩
theorem cAt_l {code : Nat → Int32} : ∀ (p q : Pg) (f : Nat), cAt code f (p ++ q) → cAt code f p ∧ cAt code (f + p.length) q
  | [], q, f, h => ⟨True.intro, h⟩
  | x :: p, q, f, h => by
    obtain ⟨h1, h2⟩ := cAt_l p q (f + 1) h.2
    refine ⟨⟨h.1, h1⟩, ?_⟩
    rw [show f + (x :: p).length = f + 1 + p.length by rw [List.length_cons]; omega]
    exact h2
/-- the class's draft holds this code -/
def CC (s : Sg) (P : Pg) : Prop := s 37 3 = nI P.length ∧ cAt (s 40) 0 P
def FC (s : Sg) (e : Nat × Nat) : Prop := s 30 3 = nI e.1 ∧ s 30 4 = nI e.2
theorem CC_c {s t : Sg} {P : Pg} (h : CC s P) (h1 : t 37 3 = s 37 3) (h2 : t 40 = s 40) : CC t P := by
  unfold CC
  rw [h1, h2]
  exact h
theorem CT_c {s t : Sg} {L : List Tk} (h : CT s L) (h1 : t 31 = s 31) (h2 : t 33 = s 33) (h3 : t 34 = s 34) (h4 : t 35 = s 35) (h5 : t 30 3 = s 30 3 ∧ t 30 4 = s 30 4) : CT t L := by
  obtain ⟨⟨i, x1, x2, x3, x4, x5⟩, y1, y2⟩ := h
  refine ⟨⟨i, rws_c h2 h3 h4 L i x1, x2, by rw [h1]; exact x3, by rw [h1]; exact x4, ?_⟩, h5.1.trans y1, h5.2.trans y2⟩
  match L, x5 with
  | u :: r, x5 =>
    show t 31 7 = _ ∧ t 31 8 = _ ∧ t 31 9 = _
    rw [h1]
    exact x5
theorem CT_h {s : Sg} {t : Tk} {r : List Tk} (h : CT s (t :: r)) : s 31 7 = nI t.1 ∧ s 31 8 = nI t.2.1 ∧ s 31 9 = nI t.2.2 := by
  obtain ⟨⟨i, x1, x2, x3, x4, x5⟩, _⟩ := h
  exact x5
theorem c_code {s : Sg} {P : Pg} {v : Int32} (x : Nat × Nat) (h : CC s P) (hl : P.length < 400) (hv : v = nI (x.1 * 10000 + x.2)) : W1 (fLa_addCode 37 v s) (fun t => CC t (P ++ [x]) ∧ ∀ o k, o ∉ [40] → (o, k) ∉ [(37, 3)] → t o k = s o k) := by
  obtain ⟨h1, h2⟩ := h
  refine w1_f2 (pr := prV) ?_ (fr_La_addCode 37 v s)
  unfold fLa_addCode
  rw [h1, if_neg (show ¬ nI 400 ≤ nI P.length by rw [nI_leI (by decide) (by omega)]; omega), gd_n _ hl (by decide), ix_n (by omega), bnd_e, bnd_e, ptq _ _ _ (show (37 : Nat) ≠ hz_rf 37 1 by decide), h1, nI_1, show hz_rf 37 1 = 40 from rfl]
  refine w1_s ⟨?_, ?_⟩
  · rw [pt_s, List.length_append]
    rfl
  · rw [ptq _ _ _ (show (40 : Nat) ≠ 37 by decide)]
    refine cAt_app P [x] 0 (cAt_cp P 0 h2 (fun k _ hk => pt_k _ _ _ (by omega))) ⟨?_, True.intro⟩
    rw [Nat.zero_add, pt_s]
    exact hv
theorem c_code0 {s : Sg} {k : Nat} (v : Int32) (h : s 37 3 = nI k) (hk : k ≤ 400) : W1 (fLa_addCode 37 v s) (fun t => (∃ k', k' ≤ 400 ∧ t 37 3 = nI k') ∧ ∀ o k, o ∉ [40] → (o, k) ∉ [(37, 3)] → t o k = s o k) := by
  refine w1_f2 (pr := prV) ?_ (fr_La_addCode 37 v s)
  unfold fLa_addCode
  rw [h]
  refine w1_if (fun g => w1_s ⟨k, hk, h⟩) (fun g => ?_)
  rw [nI_leI (by decide) (by omega)] at g
  rw [gd_n _ (show k < 400 by omega) (by decide), bnd_e, bnd_e, ptq _ _ _ (show (37 : Nat) ≠ hz_rf 37 1 by decide), h, nI_1]
  exact w1_s ⟨k + 1, by omega, pt_s _ _ _ _⟩
theorem c_wrong {s : Sg} {t : Tk} {r : List Tk} (f : Nat) (h : CT s (t :: r)) : W1 (fRe_wrong (nI f) s) (fun z => z.1 = 0 ∧ FC z.2 (f, t.2.1) ∧ ∀ o k, o ∉ [] → (o, k) ∉ [(30, 3), (30, 4)] → z.2 o k = s o k) := by
  refine w1_m (w1_f2 (Q := fun z => z.1 = 0 ∧ FC z.2 (f, t.2.1)) ?_ (fr_Re_wrong (nI f) s)) (fun z hz => ⟨hz.1.1, hz.1.2, hz.2⟩)
  unfold fRe_wrong
  rw [bnd_e, bnd_e, ptq _ _ _ (show (31 : Nat) ≠ 30 by decide), gb_0, (CT_h h).2.1]
  refine w1_s ⟨rfl, ?_, ?_⟩
  · dsimp only
    rw [pt_k _ _ _ (by decide), pt_s]
  · dsimp only
    rw [pt_s]
theorem nI_e {a b : Nat} (ha : a < 2 ^ 31) (hb : b < 2 ^ 31) : nI a = nI b ↔ a = b := ⟨nI_inj ha hb, fun e => by rw [e]⟩
theorem c_unit {o : Nat} {s : Sg} {P : Pg} {t : Tk} {r : List Tk} (ho : o < 4) (h : CT s (t :: r)) (hc : CC s P) (ht : tkl o (t :: r)) (hl : ∀ x, uP t = some x → P.length < 400) : W1 (fRe_readUnit s) (fun z => match uP t with | some x => z.1 = 1 ∧ CT z.2 r ∧ CC z.2 (P ++ [x]) | none => z.1 = 0 ∧ FC z.2 (1, t.2.1) ∧ z.2 37 3 = nI P.length) := by
  obtain ⟨h7, h8, h9⟩ := CT_h h
  obtain ⟨b1, b2, b3⟩ := tkl_b ho ht
  unfold fRe_readUnit
  refine w1_j (fun (J : Sg → Option (Int32 × Sg)) => ∀ s' x, uP t = some x → CT s' (t :: r) → CC s' (P ++ [x]) → W1 (J s') (fun z => match uP t with | some x => z.1 = 1 ∧ CT z.2 r ∧ CC z.2 (P ++ [x]) | none => z.1 = 0 ∧ FC z.2 (1, t.2.1) ∧ z.2 37 3 = nI P.length)) ?_ (fun j84 h84 => ?_)
  · intro s' x hx hs hcc
    obtain ⟨_, u, r', rfl⟩ := tkl_t ht (uP_s ho hx ht).2.2
    refine w1_bv (w1_m (w1_f2 (c_adv hs) (fr_To_advance s')) (fun s2 h2 => ?_))
    rw [gb_1]
    refine w1_s ?_
    rw [hx]
    exact ⟨rfl, h2.1, CC_c hcc (h2.2 37 3 (by decide) (by decide)) (frO h2.2 40 (by decide) (by decide))⟩
  · have keep : ∀ s', (∀ o k, o ∉ [40] → (o, k) ∉ [(37, 3)] → s' o k = s o k) → CT s' (t :: r) := fun s' hf => CT_c h (frO hf 31 (by decide) (by decide)) (frO hf 33 (by decide) (by decide)) (frO hf 34 (by decide) (by decide)) (frO hf 35 (by decide) (by decide)) ⟨hf 30 3 (by decide) (by decide), hf 30 4 (by decide) (by decide)⟩
    rw [h7, h9, show (1 : Int32) = nI 1 from rfl]
    refine w1_if (fun g => ?_) (fun g => ?_)
    · have g : t.1 = 1 := nI_inj (by omega) (by decide) g
      have hx : uP t = some (0, t.2.2) := by unfold uP; rw [if_pos g]
      refine w1_bv (w1_m (c_code (0, t.2.2) hc (hl _ hx) (congrArg nI (show t.2.2 = 0 * 10000 + t.2.2 by omega))) (fun s' hs => h84 s' _ hx (keep s' hs.2) hs.1))
    · have g : t.1 ≠ 1 := fun e => g (by rw [e])
      rw [e_within, bi_s, show (263 : Int32) = nI 263 from rfl, show (271 : Int32) = nI 271 from rfl, wi_n (by omega) (by decide) (by decide)]
      by_cases g2 : 263 ≤ t.1 ∧ t.1 ≤ 271
      · have hx : uP t = some (1, t.1 - 263) := by unfold uP; rw [if_neg g, if_pos g2]
        rw [if_pos g2, if_neg n10z, h7, show (10000 : Int32) = nI 10000 from rfl, nI_add, pk_sub (by omega)]
        refine w1_bv (w1_m (c_code (1, t.1 - 263) hc (hl _ hx) (congrArg nI (show 10000 + t.1 - 263 = 1 * 10000 + (t.1 - 263) by omega))) (fun s' hs => h84 s' _ hx (keep s' hs.2) hs.1))
      · have hx : uP t = none := by unfold uP; rw [if_neg g, if_neg g2]
        rw [if_neg g2, if_pos rfl]
        refine w1_bi (w1_m (c_wrong 1 h) (fun z hz => ?_))
        rw [hz.1, gb_0]
        refine w1_s ?_
        rw [hx]
        exact ⟨rfl, hz.2.1, by rw [hz.2.2 37 3 (by decide) (by decide)]; exact hc.1⟩
/-- a number between two bounds is read -/
theorem c_number {o : Nat} {s : Sg} {t : Tk} {r : List Tk} (lo hi : Int32) (ho : o < 4) (h : CT s (t :: r)) (ht : tkl o (t :: r)) : W1 (fRe_number lo hi s) (fun z => (if t.1 = 1 then (if wi (nI t.2.2) lo hi = 0 then z.1 = 0 ∧ FC z.2 (2, t.2.1) else z.1 = 1 ∧ CT z.2 r ∧ z.2 30 5 = nI t.2.2) else z.1 = 0 ∧ FC z.2 (1, t.2.1)) ∧ ∀ o k, o ∉ [] → (o, k) ∉ [(30, 3), (30, 4), (30, 5), (31, 6), (31, 7), (31, 8), (31, 9)] → z.2 o k = s o k) := by
  obtain ⟨h7, h8, h9⟩ := CT_h h
  obtain ⟨b1, b2, b3⟩ := tkl_b ho ht
  refine w1_f2 (pr := prI) ?_ (fr_Re_number lo hi s)
  unfold fRe_number
  rw [h7, h9]
  by_cases g : t.1 = 1
  · simp only [if_pos g]
    rw [if_pos (show nI t.1 = 1 by rw [g]; rfl), e_within, bi_s]
    by_cases g2 : wi (nI t.2.2) lo hi = 0
    · simp only [if_pos g2]
      refine w1_bi (w1_m (c_wrong 2 h) (fun z hz => ?_))
      rw [hz.1, gb_0]
      exact w1_s ⟨rfl, hz.2.1⟩
    · simp only [if_neg g2]
      rw [bnd_e, h9]
      obtain ⟨_, u, r', rfl⟩ := tkl_t ht (by omega)
      have h' : CT (pt s 30 5 (nI t.2.2)) (t :: u :: r') := CT_c h (ptq _ _ _ (by decide)) (ptq _ _ _ (by decide)) (ptq _ _ _ (by decide)) (ptq _ _ _ (by decide)) ⟨pt_k _ _ _ (by decide), pt_k _ _ _ (by decide)⟩
      refine w1_bv (w1_m (w1_f2 (c_adv h') (fr_To_advance _)) (fun s2 h2 => ?_))
      rw [gb_1]
      exact w1_s ⟨rfl, h2.1, (h2.2 30 5 (by decide) (by decide)).trans (pt_s _ _ _ _)⟩
  · simp only [if_neg g]
    rw [if_neg (show ¬ nI t.1 = 1 from fun e => g (nI_inj (by omega) (by decide) e))]
    refine w1_bi (w1_m (c_wrong 1 h) (fun z hz => ?_))
    rw [hz.1, gb_0]
    exact w1_s ⟨rfl, hz.2.1⟩
theorem c_addSum {s : Sg} {P : Pg} {sg : Nat} (hs : sg = 0 ∨ sg = 43 ∨ sg = 45) (h : CC s P) (hl : P.length + (pd sg).length ≤ 400) : W1 (fRe_addSum (nI sg) s) (fun t => CC t (P ++ pd sg) ∧ ∀ o k, o ∉ [40] → (o, k) ∉ [(37, 3)] → t o k = s o k) := by
  unfold fRe_addSum
  by_cases h0 : sg = 0
  · subst h0
    rw [if_pos (show nI 0 = 0 from rfl), pd_0, List.append_nil]
    exact w1_s ⟨h, fun _ _ _ _ => rfl⟩
  · rw [if_neg (nI_ne0 (by omega) (by omega))]
    unfold pd at hl ⊢
    rw [if_neg h0] at hl ⊢
    refine w1_bv (w1_m (c_code (3, sg) h (by simp only [List.length_cons, List.length_nil] at hl; omega) (by rw [show (30000 : Int32) = nI 30000 from rfl, nI_add]; exact congrArg nI (show 30000 + sg = 3 * 10000 + sg by omega))) (fun t ht => w1_s ht))
theorem c_addSum0 {s : Sg} {k sg : Nat} (h : s 37 3 = nI k) (hk : k ≤ 400) : W1 (fRe_addSum (nI sg) s) (fun t => ∀ o k, o ∉ [40] → (o, k) ∉ [(37, 3)] → t o k = s o k) := by
  unfold fRe_addSum
  refine w1_if (fun _ => w1_s (fun _ _ _ _ => rfl)) (fun _ => ?_)
  exact w1_bv (w1_m (c_code0 _ h hk) (fun t ht => w1_s ht.2))
