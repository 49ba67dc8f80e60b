/-! TEXT: the plain texts: what is told -/
def toldP (key : Nat) (lo hi : Int32) : List Tk → Except (Nat × Nat) (Nat × List Tk)
  | [] => .error (0, 0)
  | t :: r => if t.1 = 256 + key then (match r with
      | [] => .error (0, 0)
      | u :: r' => if u.1 = 1 then (if wi (nI u.2.2) lo hi = 0 then .error (2, u.2.1) else .ok (u.2.2, r')) else .error (1, u.2.1)) else .error (1, t.2.1)
theorem toldP_b {o key : Nat} {lo hi : Int32} {L L' : List Tk} {v : Nat} (ho : o < 4) (h : toldP key lo hi L = .ok (v, L')) (ht : tkl o L) : tkl o L' ∧ L'.length + 2 ≤ L.length ∧ v < 10000 ∧ ¬ wi (nI v) lo hi = 0 := by
  match L, ht with
  | t :: r, ht =>
  unfold toldP at h
  dsimp only at h
  by_cases g : t.1 = 256 + key
  · rw [if_pos g] at h
    obtain ⟨htr, u, r', rfl⟩ := tkl_t ht (by omega)
    dsimp only at h
    by_cases g1 : u.1 = 1
    · rw [if_pos g1] at h
      by_cases g2 : wi (nI u.2.2) lo hi = 0
      · rw [if_pos g2] at h; cases h
      · rw [if_neg g2] at h
        simp only [Except.ok.injEq, Prod.mk.injEq] at h
        obtain ⟨rfl, rfl⟩ := h
        exact ⟨(tkl_t htr (by omega)).1, by simp only [List.length_cons]; omega, (tkl_b ho htr).2.2, g2⟩
    · rw [if_neg g1] at h; cases h
  · rw [if_neg g] at h; cases h
def TC (G : Except (Nat × Nat) (Nat × List Tk)) (z : Int32 × Sg) : Prop :=
  match G with
  | .error e => z.1 = 0 ∧ FC z.2 e
  | .ok x => z.1 = 1 ∧ CT z.2 x.2 ∧ z.2 30 5 = nI x.1
def TM (T : Nat → Nat) (n o : Nat) (G : Except (Nat × Nat) (Nat × List Tk)) (z : Int32 × Sg) : Prop :=
  match G with
  | .error e => z.1 = -1 ∧ FM z.2 e
  | .ok x => z.1 = nI x.1 ∧ MT T n o z.2 x.2
theorem c_told {o key : Nat} {lo hi : Int32} {s : Sg} {L : List Tk} (ho : o < 4) (hk : key < 16) (hT : CT s L) (ht : tkl o L) : W1 (fRe_keyNumber (nI key) lo hi s) (fun z => TC (toldP key lo hi L) z ∧ ∀ o k, o ∉ [] → (o, k) ∉ [(30, 3), (30, 4), (30, 5), (31, 6), (31, 7), (31, 8), (31, 9)] → z.2 o k = s o k) := by
  refine w1_f2 (pr := prI) ?_ (fr_Re_keyNumber (nI key) lo hi s)
  match L, ht with
  | t :: r, ht =>
  unfold fRe_keyNumber toldP
  rw [show (256 : Int32) = nI 256 from rfl, nI_add]
  refine w1_bi (w1_m (c_skip ho (by omega) (by omega) hT ht) (fun z hz => ?_))
  obtain ⟨z1, s1⟩ := z
  obtain ⟨hz, _⟩ := hz
  dsimp only at hz ⊢
  by_cases g : t.1 = 256 + key
  · rw [if_pos g] at hz
    simp only [if_pos g]
    rw [hz.1, if_neg n10z]
    obtain ⟨htr, u, r', rfl⟩ := tkl_t ht (by omega)
    refine w1_bi (w1_m (c_number lo hi ho hz.2 htr) (fun z hz => ?_))
    obtain ⟨z1, s3⟩ := z
    obtain ⟨hz, _⟩ := hz
    dsimp only at hz ⊢
    by_cases g1 : u.1 = 1
    · simp only [if_pos g1] at hz ⊢
      by_cases g2 : wi (nI u.2.2) lo hi = 0
      · simp only [if_pos g2] at hz ⊢
        rw [hz.1, if_pos rfl, gb_0]
        exact w1_s ⟨rfl, hz.2⟩
      · simp only [if_neg g2] at hz ⊢
        rw [hz.1, if_neg n10z, gb_1]
        exact w1_s ⟨rfl, hz.2⟩
    · simp only [if_neg g1] at hz ⊢
      rw [hz.1, if_pos rfl, gb_0]
      exact w1_s ⟨rfl, hz.2⟩
  · rw [if_neg g] at hz
    simp only [if_neg g]
    rw [hz.1, if_pos rfl, gb_0]
    exact w1_s ⟨rfl, hz.2⟩
theorem m_num {T : Nat → Nat} {n o : Nat} {lo hi : Int32} {s : Sg} {u : Tk} {r : List Tk} (ho : o < 4) (hT : MT T n o s (u :: r)) (ht : tkl o (u :: r)) : W1 (fM_readNumber lo hi s) (TM T n o (if u.1 = 1 then (if wi (nI u.2.2) lo hi = 0 then .error (2, u.2.1) else .ok (u.2.2, r)) else .error (1, u.2.1))) := by
  obtain ⟨k1, k2, k3⟩ := rk_tok hT.2.2.1
  unfold fM_readNumber
  by_cases g1 : u.1 = 1
  · rw [if_pos g1, if_pos (k1.mpr g1), e_isIn, bi_s, k3 g1]
    by_cases g2 : wi (nI u.2.2) lo hi = 0
    · rw [if_pos g2, if_pos g2]
      exact w1_bi (w1_m (m_errs 2 hT) (fun z hz => w1_s ⟨hz.1, hz.2.1⟩))
    · rw [if_neg g2, if_neg g2]
      obtain ⟨_, v, r', rfl⟩ := tkl_t ht (by omega)
      exact w1_bv (w1_m (m_adv ho hT) (fun s3 h3 => w1_s ⟨rfl, h3.1⟩))
  · rw [if_neg g1, if_neg (fun e => g1 (k1.mp e))]
    exact w1_bi (w1_m (m_errs 1 hT) (fun z hz => w1_s ⟨hz.1, hz.2.1⟩))
theorem m_told {T : Nat → Nat} {n o key : Nat} {lo hi : Int32} {s : Sg} {L : List Tk} (ho : o < 4) (hk : key < (kW o).length) (hT : MT T n o s L) (ht : tkl o L) : W1 (fM_readTold (nI (kj o key)) lo hi s) (fun z => TM T n o (toldP key lo hi L) z ∧ ∀ o k, o ∉ [] → (o, k) ∉ [(102, 13), (102, 14), (102, 15), (102, 16), (102, 30), (102, 31)] → z.2 o k = s o k) := by
  refine w1_f2 (pr := prI) ?_ (fr_M_readTold _ lo hi s)
  match L, ht with
  | t :: r, ht =>
  unfold fM_readTold toldP
  rw [e_wd ho hT ht hk, bi_s]
  by_cases g : t.1 = 256 + key
  · simp only [if_pos g]
    rw [if_neg n10z]
    obtain ⟨htr, u, r', rfl⟩ := tkl_t ht (by omega)
    refine w1_bv (w1_m (m_adv ho hT) (fun s3 h3 => ?_))
    exact w1_bi (w1_m (m_num ho h3.1 htr) (fun z hz => w1_s hz))
  · simp only [if_neg g, if_true]
    exact w1_bi (w1_m (m_errs 1 hT) (fun z hz => w1_s ⟨hz.1, hz.2.1⟩))
/-! rows -/
def rwP {A : Type} (P : A → Nat → Prop) : List A → Nat → Prop
  | [], _ => True
  | a :: r, i => P a i ∧ rwP P r (i + 1)
theorem rwP_m {A : Type} {P Q : A → Nat → Prop} : ∀ (X : List A) (i : Nat), rwP P X i → (∀ a j, i ≤ j → j < i + X.length → P a j → Q a j) → rwP Q X i
  | [], _, _, _ => True.intro
  | a :: r, i, h, hk => by
    rw [List.length_cons] at hk
    exact ⟨hk a i (Nat.le_refl i) (by omega) h.1, rwP_m r (i + 1) h.2 (fun b j h1 h2 => hk b j (by omega) (by omega))⟩
theorem rwP_s {A : Type} {P : A → Nat → Prop} {a : A} : ∀ (X : List A) (i : Nat), rwP P X i → P a (i + X.length) → rwP P (X ++ [a]) i
  | [], i, _, h => ⟨h, True.intro⟩
  | b :: r, i, h, ha => ⟨h.1, rwP_s r (i + 1) h.2 (by rw [List.length_cons] at ha; rw [show i + 1 + r.length = i + (r.length + 1) by omega]; exact ha)⟩
theorem rwP_g {A : Type} {P Q : A → Nat → Prop} : ∀ (X : List A) (i : Nat), rwP P X i → rwP Q X i → ∀ j, j < X.length → ∃ a ∈ X, P a (i + j) ∧ Q a (i + j)
  | [], i, _, _, j, hj => by
    rw [List.length_nil] at hj
    omega
  | a :: r, i, hP, hQ, j, hj => by
    match j, hj with
    | 0, _ => exact ⟨a, List.mem_cons_self, hP.1, hQ.1⟩
    | j + 1, hj =>
      rw [List.length_cons] at hj
      obtain ⟨b, hb, x1, x2⟩ := rwP_g r (i + 1) hP.2 hQ.2 j (by omega)
      rw [show i + 1 + j = i + (j + 1) by omega] at x1 x2
      exact ⟨b, List.mem_cons_of_mem _ hb, x1, x2⟩
/-! climbs -/
abbrev Cb : Type := Nat × Nat × Nat × Nat
def clP (np : Int32) (L : List Tk) : Except (Nat × Nat) (Cb × List Tk) :=
  match toldP 0 0 999 L with
  | .error e => .error e
  | .ok (a, L1) => match toldP 1 0 (np - 1) L1 with
    | .error e => .error e
    | .ok (b, L2) => match toldP 2 0 19 L2 with
      | .error e => .error e
      | .ok (c, L3) => match toldP 3 0 59 L3 with
        | .error e => .error e
        | .ok (d, L4) => .ok ((a, b, c, d), L4)
def snP (L : List Tk) : Except (Nat × Nat) ((Nat × Nat) × List Tk) :=
  match toldP 0 0 999 L with
  | .error e => .error e
  | .ok (a, L1) => match toldP 1 10 59 L1 with
    | .error e => .error e
    | .ok (b, L2) => .ok ((a, b), L2)
def cbC (s : Sg) (a : Cb) (i : Nat) : Prop := s 43 (i * 4) = nI a.1 ∧ s 43 (i * 4 + 1) = nI a.2.1 ∧ s 43 (i * 4 + 2) = nI a.2.2.1 ∧ s 43 (i * 4 + 3) = nI a.2.2.2
def snC (s : Sg) (a : Nat × Nat) (i : Nat) : Prop := s 45 (i * 2) = nI a.1 ∧ s 45 (i * 2 + 1) = nI a.2
def okCb (np : Int32) (a : Cb) : Prop := ¬ wi (nI a.2.1) 0 (np - 1) = 0 ∧ ¬ wi (nI a.2.2.1) 0 19 = 0 ∧ a.2.1 < 10000 ∧ a.2.2.1 < 10000
def okSn (a : Nat × Nat) : Prop := ¬ wi (nI a.2) 10 59 = 0 ∧ a.2 < 10000
def SXc (np : Int32) (s : Sg) (X : List Cb) (_ : List Tk) : Prop := s 42 3 = nI X.length ∧ tc (s 42) 4 16 ∧ rwP (cbC s) X 0 ∧ ∀ a ∈ X, okCb np a
def SXs (s : Sg) (X : List (Nat × Nat)) (_ : List Tk) : Prop := s 44 3 = nI X.length ∧ tc (s 44) 2 16 ∧ rwP (snC s) X 0 ∧ ∀ a ∈ X, okSn a
theorem clP_b {o : Nat} {np : Int32} {L L' : List Tk} {a : Cb} (ho : o < 4) (h : clP np L = .ok (a, L')) (ht : tkl o L) : tkl o L' ∧ L'.length + 8 ≤ L.length ∧ okCb np a := by
  unfold clP at h
  cases h1 : toldP 0 0 999 L with
  | error e => rw [h1] at h; cases h
  | ok x1 =>
  rw [h1] at h
  dsimp only at h
  obtain ⟨t1, l1, _, _⟩ := toldP_b ho h1 ht
  cases h2 : toldP 1 0 (np - 1) x1.2 with
  | error e => rw [h2] at h; cases h
  | ok x2 =>
  rw [h2] at h
  dsimp only at h
  obtain ⟨t2, l2, b2, w2⟩ := toldP_b ho h2 t1
  cases h3 : toldP 2 0 19 x2.2 with
  | error e => rw [h3] at h; cases h
  | ok x3 =>
  rw [h3] at h
  dsimp only at h
  obtain ⟨t3, l3, b3, w3⟩ := toldP_b ho h3 t2
  cases h4 : toldP 3 0 59 x3.2 with
  | error e => rw [h4] at h; cases h
  | ok x4 =>
  rw [h4] at h
  simp only [Except.ok.injEq, Prod.mk.injEq] at h
  obtain ⟨rfl, rfl⟩ := h
  obtain ⟨t4, l4, _, _⟩ := toldP_b ho h4 t3
  exact ⟨t4, by omega, w2, w3, b2, b3⟩
theorem snP_b {o : Nat} {L L' : List Tk} {a : Nat × Nat} (ho : o < 4) (h : snP L = .ok (a, L')) (ht : tkl o L) : tkl o L' ∧ L'.length + 4 ≤ L.length ∧ okSn a := by
  unfold snP at h
  cases h1 : toldP 0 0 999 L with
  | error e => rw [h1] at h; cases h
  | ok x1 =>
  rw [h1] at h
  dsimp only at h
  obtain ⟨t1, l1, _, _⟩ := toldP_b ho h1 ht
  cases h2 : toldP 1 10 59 x1.2 with
  | error e => rw [h2] at h; cases h
  | ok x2 =>
  rw [h2] at h
  simp only [Except.ok.injEq, Prod.mk.injEq] at h
  obtain ⟨rfl, rfl⟩ := h
  obtain ⟨t2, l2, b2, w2⟩ := toldP_b ho h2 t1
  exact ⟨t2, by omega, w2, b2⟩
