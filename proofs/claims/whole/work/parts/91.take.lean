/-! TEXT: a whole text, of the class -/
def txtL {A : Type} (hi : Nat) (F : List Tk → Except (Nat × Nat) (A × List Tk)) : Nat → List A → List Tk → Except (Nat × Nat) (List A)
  | 0, _, _ => .error (0, 0)
  | _ + 1, _, [] => .error (0, 0)
  | k + 1, X, t :: r =>
    if 256 ≤ t.1 ∧ t.1 ≤ hi then (if X.length = 16 then .error (3, t.2.1) else match F (t :: r) with
      | .error e => .error e
      | .ok (_, []) => .error (0, 0)
      | .ok (a, u :: r') => if u.1 = 59 then txtL hi F k (X ++ [a]) r' else .error (1, u.2.1))
    else if t.1 = 0 then .ok X else .error (1, t.2.1)
theorem c_skip {o : Nat} {s : Sg} {t : Tk} {r : List Tk} {kd : Nat} (ho : o < 4) (hk : kd < 300) (hk0 : kd ≠ 0) (h : CT s (t :: r)) (ht : tkl o (t :: r)) : W1 (fRe_skip (nI kd) s) (fun z => (if t.1 = kd then z.1 = 1 ∧ CT z.2 r else z.1 = 0 ∧ FC z.2 (1, t.2.1)) ∧ ∀ o k, o ∉ [] → (o, k) ∉ [(30, 3), (30, 4), (31, 6), (31, 7), (31, 8), (31, 9)] → z.2 o k = s o k) := by
  refine w1_f2 (pr := prI) ?_ (fr_Re_skip (nI kd) s)
  obtain ⟨h7, h8, h9⟩ := CT_h h
  have hx := (tkl_b ho ht).1
  unfold fRe_skip
  rw [h7]
  by_cases g : t.1 = kd
  · simp only [if_pos g]
    rw [if_pos (show nI t.1 = nI kd by rw [g])]
    obtain ⟨_, u, r', rfl⟩ := tkl_t ht (by omega)
    refine w1_bv (w1_m (c_adv h) (fun s2 h2 => ?_))
    rw [gb_1]
    exact w1_s ⟨rfl, h2⟩
  · simp only [if_neg g]
    rw [if_neg (show ¬ nI t.1 = nI kd from fun e => g (nI_inj (by omega) (by omega) e))]
    refine w1_bi (w1_m (c_wrong 1 h) (fun z hz => ?_))
    rw [hz.1, gb_0]
    exact w1_s ⟨rfl, hz.2.1⟩
theorem c_start {o : Nat} {s : Sg} {t : Tk} {r : List Tk} {m hi : Nat} (ho : o < 4) (hhi : hi = if o = 0 then 258 else 256) (hm : m ≤ 16) (h : CT s (t :: r)) (ht : tkl o (t :: r)) : W1 (fRe_startsLine (nI o) (nI m) s) (fun z => if 256 ≤ t.1 ∧ t.1 ≤ hi then (if m = 16 then z.1 = 0 ∧ FC z.2 (3, t.2.1) else z.1 = 1 ∧ z.2 = s) else z.1 = 0 ∧ FC z.2 (1, t.2.1)) := by
  obtain ⟨h7, h8, h9⟩ := CT_h h
  have hx := (tkl_b ho ht).1
  unfold fRe_startsLine
  refine w1_j (fun (J : Int32 → Sg → Option (Int32 × Sg)) => W1 (J (nI hi) s) (fun z => if 256 ≤ t.1 ∧ t.1 ≤ hi then (if m = 16 then z.1 = 0 ∧ FC z.2 (3, t.2.1) else z.1 = 1 ∧ z.2 = s) else z.1 = 0 ∧ FC z.2 (1, t.2.1))) ?_ (fun j13 h13 => ?_)
  · have hh : hi < 300 := by
      rw [hhi]
      split <;> decide
    rw [e_within, bi_s, h7, show (256 : Int32) = nI 256 from rfl, wi_n (by omega) (by decide) (by omega)]
    by_cases g : 256 ≤ t.1 ∧ t.1 ≤ hi
    · simp only [if_pos g]
      rw [if_neg n10z]
      refine w1_j (fun (J : Sg → Option (Int32 × Sg)) => m ≠ 16 → W1 (J s) (fun z => if m = 16 then z.1 = 0 ∧ FC z.2 (3, t.2.1) else z.1 = 1 ∧ z.2 = s)) ?_ (fun j51 h51 => ?_)
      · intro hm2
        rw [gb_1]
        simp only [if_neg hm2]
        exact w1_s ⟨rfl, rfl⟩
      · rw [show (16 : Int32) = nI 16 from rfl]
        refine w1_if (fun g2 => ?_) (fun g2 => ?_)
        · rw [nI_ltI (by omega) (by decide)] at g2
          exact h51 (by omega)
        · rw [nI_ltI (by omega) (by decide)] at g2
          simp only [if_pos (show m = 16 by omega)]
          refine w1_bi (w1_m (c_wrong 3 h) (fun z hz => ?_))
          rw [hz.1, if_pos rfl, gb_0]
          exact w1_s ⟨rfl, hz.2.1⟩
    · simp only [if_neg g, if_true]
      refine w1_bi (w1_m (c_wrong 1 h) (fun z hz => ?_))
      rw [hz.1, gb_0]
      exact w1_s ⟨rfl, hz.2.1⟩
  · by_cases h0 : o = 0
    · subst h0
      rw [if_pos rfl] at hhi
      subst hhi
      rw [if_pos (show nI 0 = 0 from rfl)]
      exact h13
    · rw [if_neg h0] at hhi
      subst hhi
      rw [if_neg (nI_ne0 (by omega) (by omega))]
      exact h13
theorem e_kwO {o : Nat} (ho : o < 4) (s : Sg) : fRe_keywordsOf (nI o) s = some (o, s) := by
  have : o = 0 ∨ o = 1 ∨ o = 2 ∨ o = 3 := by omega
  rcases this with rfl | rfl | rfl | rfl <;> rfl
def TX {A : Type} (SX : Sg → List A → List Tk → Prop) (G : Except (Nat × Nat) (List A)) (z : Int32 × Sg) : Prop :=
  z.2 31 4 = 0 ∧ match G with
    | .error e => z.1 = -1 ∧ FC z.2 e
    | .ok X => z.1 = nI X.length ∧ X.length ≤ 16 ∧ z.2 30 3 = 0 ∧ z.2 30 4 = -1 ∧ ∃ s L, SX s X L ∧ 1 ≤ L.length ∧ z.2 = pt s 31 4 0
def LnX {A : Type} (SX : Sg → List A → List Tk → Prop) (X : List A) (G : Except (Nat × Nat) (A × List Tk)) (z : Int32 × Sg) : Prop :=
  match G with
  | .error e => z.1 = 0 ∧ FC z.2 e
  | .ok x => z.1 = 1 ∧ CT z.2 x.2 ∧ SX z.2 (X ++ [x.1]) x.2
theorem c_take {A : Type} {o hi n : Nat} {T : Nat → Nat} {s : Sg} {np : Int32} {F : List Tk → Except (Nat × Nat) (A × List Tk)} {SX : Sg → List A → List Tk → Prop} (ho : o < 4) (hhi : hi = if o = 0 then 258 else 256) (hT : CTp s T) (hn : n ≤ 400) (h4 : s 31 4 = nI n)
    (hinit : W1 (fTe_clear 36 (nI o) (pt (pt s 30 3 0) 30 4 (-1))) (fun t => ∀ t2 L, L.length ≤ 401 → (∀ o k, o ∉ [33, 34, 35] → (o, k) ∉ [(31, 5), (31, 6), (31, 7), (31, 8), (31, 9)] → t2 o k = t o k) → SX t2 [] L))
    (hline : ∀ s X t r, CT s (t :: r) → SX s X (t :: r) → tkl o (t :: r) → X.length < 16 → 256 ≤ t.1 → t.1 ≤ hi → W1 (if o = 0 then fRe_readLawLine s else fRe_readPlainLine (nI o) np s) (LnX SX X (F (t :: r))))
    (hF : ∀ L a L', F L = .ok (a, L') → tkl o L → tkl o L' ∧ L'.length + 1 ≤ L.length)
    (hadv : ∀ s s' X u r, SX s X (u :: r) → (∀ o k, o ∉ [] → (o, k) ∉ [(30, 3), (30, 4), (31, 6), (31, 7), (31, 8), (31, 9)] → s' o k = s o k) → SX s' X r) : W1 (fRe_take (nI o) np s) (fun z => ∃ L, chn T n o L 0 ∧ L.length ≤ 401 ∧ TX SX (txtL hi F 401 [] L) z) := by
  unfold fRe_take
  rw [bnd_e, bnd_e, e_within, bi_s, show wi (nI o) 0 3 = 1 from (by
    have : o = 0 ∨ o = 1 ∨ o = 2 ∨ o = 3 := by omega
    rcases this with rfl | rfl | rfl | rfl <;> rfl)]
  refine w1_j (fun (J : Sg → Option (Int32 × Sg)) => ∀ t L, CT t L → SX t [] L → chn T n o L 0 → L.length ≤ 401 → W1 (J t) (fun z => ∃ L, chn T n o L 0 ∧ L.length ≤ 401 ∧ TX SX (txtL hi F 401 [] L) z)) ?_ (fun j40 h40 => ?_)
  · intro t L0 hT0 hS0 hch hL0
    refine w1_m (Q := fun z => ∃ L, chn T n o L 0 ∧ L.length ≤ 401 ∧ TX SX (txtL hi F 401 [] L) z) (P := fun z => TX SX (txtL hi F 401 [] L0) z) ?_ (fun z hz => ⟨L0, hch, hL0, hz⟩)
    generalize hG0 : txtL hi F 401 [] L0 = G
    have ht0 := chn_tkl ho hn L0 0 hch
    refine w1_lp (fun k v t => (∃ X L kk, v = (1, nI X.length) ∧ CT t L ∧ SX t X L ∧ tkl o L ∧ txtL hi F kk X L = G ∧ L.length ≤ kk ∧ X.length ≤ 16 ∧ L.length ≤ k) ∨ (∃ m e, v = (0, nI m) ∧ m ≤ 17 ∧ FC t e ∧ G = .error e)) ?_ FU 401 _ _ (FU_lt (by omega)) (Or.inl ⟨[], L0, 401, rfl, hT0, hS0, ht0, hG0, hL0, Nat.zero_le _, hL0⟩)
    clear hT0 hS0 hch hL0 hG0 ht0
    rintro q43 k v t hI hq
    rcases hI with ⟨X, L, kk, rfl, hT, hS, hL, hG, hkk, hX, hk⟩ | ⟨m, e, rfl, hm, hF1, hGe⟩
    rotate_left
    · refine w1_j (fun (J : Sg → Option (Int32 × Sg)) => W1 (J t) (TX SX G)) ?_ (fun j118 h118 => ?_)
      · dsimp only
        rw [bnd_e, if_pos rfl, hGe]
        exact w1_s ⟨pt_s t 31 4 0, rfl, FC_c hF1 (ptq t 4 0 (show (30 : Nat) ≠ 31 by decide))⟩
      · dsimp only
        rw [if_pos rfl]
        exact h118
    match L, hL with
    | x :: r, hL =>
    obtain ⟨h7, h8, h9⟩ := CT_h hT
    have hx := (tkl_b ho hL).1
    rw [List.length_cons] at hkk hk
    obtain ⟨kk, rfl⟩ : ∃ j, kk = j + 1 := ⟨kk - 1, by omega⟩
    rw [txtL] at hG
    refine w1_j (fun (J : Sg → Option (Int32 × Sg)) => x.1 = 0 → W1 (J t) (TX SX G)) ?_ (fun j118 h118 => ?_)
    · intro hx0
      rw [if_neg (by omega), if_pos hx0] at hG
      dsimp only
      rw [bnd_e, if_neg n10z, ← hG]
      exact w1_s ⟨pt_s t 31 4 0, rfl, hX, (ptf2 t 31 4 0 (by decide)).trans hT.2.1, (ptf2 t 31 4 0 (by decide)).trans hT.2.2, t, x :: r, hS, by rw [List.length_cons]; omega, rfl⟩
    dsimp only
    rw [if_neg n10z, if_neg (show ¬ (16 : Int32) < nI X.length from nI_nlt (a := 16) hX (by decide)), h7]
    refine w1_if (fun g => h118 (nI_inj (b := 0) (by omega) (by decide) g)) (fun g => ?_)
    have hx0 : x.1 ≠ 0 := fun e => g (by rw [e]; rfl)
    rw [if_neg hx0] at hG
    refine w1_bi (w1_m (c_start ho hhi hX hT hL) (fun z hz => ?_))
    obtain ⟨z1, s9⟩ := z
    refine w1_j (fun (J : Int32 → Sg → Option (Int32 × Sg)) => ∀ b t, J b t = q43 (b, nI (X.length + 1)) t) (fun b t => by rw [nI_1]) (fun j111 h111 => ?_)
    refine w1_j (fun (J : Sg → Option (Int32 × Sg)) => ∀ t e, FC t e → G = .error e → W1 (J t) (TX SX G)) ?_ (fun j110 h110 => ?_)
    · intro t e hFe hGe
      rw [h111]
      exact hq (k - 1) _ _ (by omega) (Or.inr ⟨X.length + 1, e, rfl, by omega, hFe, hGe⟩)
    dsimp only at hz ⊢
    by_cases gr : 256 ≤ x.1 ∧ x.1 ≤ hi
    rotate_left
    · rw [if_neg gr] at hz hG
      rw [hz.1, if_pos rfl]
      exact h110 _ _ hz.2 hG.symm
    rw [if_pos gr] at hz hG
    by_cases g16 : X.length = 16
    · rw [if_pos g16] at hz hG
      rw [hz.1, if_pos rfl]
      exact h110 _ _ hz.2 hG.symm
    rw [if_neg g16] at hz hG
    obtain ⟨e1, e2⟩ := hz
    subst e2
    rw [e1, if_neg n10z]
    -- behind a line stands its mark
    refine w1_j (fun (J : Sg → Option (Int32 × Sg)) => ∀ t' a L', F (x :: r) = .ok (a, L') → CT t' L' → SX t' (X ++ [a]) L' → W1 (J t') (TX SX G)) ?_ (fun j97 h97 => ?_)
    · intro t' a L' hFx hT' hS'
      obtain ⟨hL', hl'⟩ := hF _ _ _ hFx hL
      rw [hFx] at hG
      match L', hL' with
      | u :: r', hL' =>
      dsimp only at hG
      rw [List.length_cons, List.length_cons] at hl'
      rw [show (59 : Int32) = nI 59 from rfl]
      refine w1_bi (w1_m (c_skip ho (by decide) (by decide) hT' hL') (fun z hz => ?_))
      obtain ⟨z1, t2⟩ := z
      obtain ⟨hz, f2⟩ := hz
      dsimp only at hz f2 ⊢
      by_cases g59 : u.1 = 59
      · rw [if_pos g59] at hz hG
        rw [hz.1, if_neg n10z, h111]
        refine hq (k - 1) _ _ (by omega) (Or.inl ⟨X ++ [a], r', kk, by rw [List.length_append]; rfl, hz.2, hadv t' t2 _ u r' hS' f2, (tkl_t hL' (by omega)).1, hG, by omega, by rw [List.length_append]; show X.length + 1 ≤ 16; omega, by omega⟩)
      · rw [if_neg g59] at hz hG
        rw [hz.1, if_pos rfl]
        exact h110 _ _ hz.2 hG.symm
    have hl := hline s9 X x r hT hS hL (by omega) gr.1 gr.2
    have after : ∀ z : Int32 × Sg, LnX SX X (F (x :: r)) z → W1 (if z.1 = 0 then j110 z.2 else j97 z.2) (TX SX G) := by
      intro z hz
      cases hFx : F (x :: r) with
      | error e =>
        rw [hFx] at hz hG
        dsimp only [LnX] at hz hG
        rw [hz.1, if_pos rfl]
        exact h110 _ _ hz.2 hG.symm
      | ok y =>
        rw [hFx] at hz
        dsimp only [LnX] at hz
        rw [hz.1, if_neg n10z]
        exact h97 z.2 y.1 y.2 hFx hz.2.1 hz.2.2
    by_cases h0 : o = 0
    · subst h0
      rw [if_pos rfl] at hl
      rw [if_pos (show nI 0 = 0 from rfl)]
      exact w1_bi (w1_m hl after)
    · rw [if_neg h0] at hl
      rw [if_neg (show ¬ nI o = 0 from nI_ne0 (by omega) (by omega))]
      exact w1_bi (w1_m hl after)
  · rw [if_neg n10z]
    refine w1_bv (w1_m (w1_f2 hinit (fr_Te_clear 36 (nI o) _)) (fun t1 h1 => ?_))
    obtain ⟨h1, f1⟩ := h1
    rw [e_kwO ho, br_s, gs, if_pos (show o < nJS from (by show o < 5; omega))]
    have f32 : t1 32 = s 32 := (frO f1 32 (by decide) (by decide)).trans (by rw [ptq _ _ _ (by decide), ptq _ _ _ (by decide)])
    have f314 : t1 31 4 = s 31 4 := (f1 31 4 (by decide) (by decide)).trans (by rw [ptq _ _ _ (by decide), ptq _ _ _ (by decide)])
    refine w1_bv (w1_m (w1_f2 (c_scan (s := t1) (T := T) (n := n) (o := o) (fun k hk => by rw [f32]; exact hT k hk) hn (by rw [f314]; exact h4) ho) (fr_To_scan o t1)) (fun t2 h2 => ?_))
    obtain ⟨⟨L, hch, hct⟩, f2⟩ := h2
    have hL : L.length ≤ 401 := by
      obtain ⟨i, _, hi, _⟩ := hct
      omega
    refine h40 t2 L ⟨hct, ?_, ?_⟩ (h1 t2 L hL f2) hch hL
    · refine (f2 30 3 (by decide) (by decide)).trans ((f1 30 3 (by decide) (by decide)).trans ?_)
      rw [pt_k _ _ _ (by decide), pt_s]
    · refine (f2 30 4 (by decide) (by decide)).trans ((f1 30 4 (by decide) (by decide)).trans ?_)
      rw [pt_s]
