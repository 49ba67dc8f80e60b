/-! TEXT: which word answers which question -/
def qsL : List Tk → Nat → Except (Nat × Nat) (Nat × List Tk)
  | [], _ => .error (0, 0)
  | t :: r, m => if t.1 = 1 then (if wi (nI t.2.2) 0 9 = 0 then .error (2, t.2.1) else qsL r (m ||| 2 ^ t.2.2)) else .ok (m, t :: r)
def wrU (w : Nat) (G : Except (Nat × Nat) (Nat × List Tk)) : Except (Nat × Nat) ((Nat × Nat) × List Tk) :=
  match G with
  | .error e => .error e
  | .ok x => .ok ((w, x.1), x.2)
def suP (L : List Tk) : Except (Nat × Nat) ((Nat × Nat) × List Tk) :=
  match toldP 0 0 19 L with
  | .error e => .error e
  | .ok (w, L1) => match toldP 1 0 9 L1 with
    | .error e => .error e
    | .ok (q, L2) => wrU w (qsL L2 (2 ^ q))
theorem wi_le {v a b : Nat} (hv : v < 10000) (ha : a < 10000) (hb : b < 10000) (h : ¬ wi (nI v) (nI a) (nI b) = 0) : a ≤ v ∧ v ≤ b := by
  rw [wi_n (by omega) (by omega) (by omega)] at h
  by_cases g : a ≤ v ∧ v ≤ b
  · exact g
  · rw [if_neg g] at h
    exact absurd rfl h
theorem p2_lt {q : Nat} (h : q ≤ 9) : 2 ^ q < 1024 := by
  have : 2 ^ q ≤ 2 ^ 9 := Nat.pow_le_pow_right (by decide) h
  omega
theorem or_1024 {a b : Nat} (ha : a < 1024) (hb : b < 1024) : a ||| b < 1024 := Nat.or_lt_two_pow (n := 10) ha hb
theorem qsL_b {o : Nat} (ho : o < 4) : ∀ (L : List Tk) (m m' : Nat) (L' : List Tk), qsL L m = .ok (m', L') → tkl o L → m < 1024 → tkl o L' ∧ L'.length ≤ L.length ∧ m' < 1024
  | [], m, m', L', h, ht, _ => ht.elim
  | t :: r, m, m', L', h, ht, hm => by
    rw [qsL] at h
    by_cases g : t.1 = 1
    · rw [if_pos g] at h
      by_cases g2 : wi (nI t.2.2) 0 9 = 0
      · rw [if_pos g2] at h; cases h
      · rw [if_neg g2] at h
        obtain ⟨_, l2⟩ := wi_le (a := 0) (b := 9) (tkl_b ho ht).2.2 (by decide) (by decide) g2
        obtain ⟨x1, x2, x3⟩ := qsL_b ho r _ m' L' h (tkl_t ht (by omega)).1 (or_1024 hm (p2_lt l2))
        exact ⟨x1, by rw [List.length_cons]; omega, x3⟩
    · rw [if_neg g] at h
      simp only [Except.ok.injEq, Prod.mk.injEq] at h
      obtain ⟨rfl, rfl⟩ := h
      exact ⟨ht, Nat.le_refl _, hm⟩
theorem suP_b {o : Nat} {L L' : List Tk} {a : Nat × Nat} (ho : o < 4) (h : suP L = .ok (a, L')) (ht : tkl o L) : tkl o L' ∧ L'.length + 4 ≤ L.length ∧ a.2 < 1024 := by
  unfold suP at h
  cases h1 : toldP 0 0 19 L with
  | error e => rw [h1] at h; cases h
  | ok x1 =>
  rw [h1] at h
  dsimp only at h
  obtain ⟨t1, l1, _, _⟩ := toldP_b ho h1 ht
  cases h2 : toldP 1 0 9 x1.2 with
  | error e => rw [h2] at h; cases h
  | ok x2 =>
  rw [h2] at h
  dsimp only at h
  obtain ⟨t2, l2, b2, w2⟩ := toldP_b ho h2 t1
  obtain ⟨_, c2⟩ := wi_le (a := 0) (b := 9) b2 (by decide) (by decide) w2
  cases h3 : qsL x2.2 (2 ^ x2.1) with
  | error e => rw [h3] at h; simp [wrU] at h
  | ok x3 =>
  rw [h3] at h
  simp only [wrU, Except.ok.injEq, Prod.mk.injEq] at h
  obtain ⟨rfl, rfl⟩ := h
  obtain ⟨t3, l3, b3⟩ := qsL_b ho _ _ _ _ h3 t2 (p2_lt c2)
  exact ⟨t3, by omega, b3⟩
def msk (X : List (Nat × Nat)) (w : Nat) : Nat := X.foldl (fun m a => if a.1 = w then m ||| a.2 else m) 0
theorem msk_s (X : List (Nat × Nat)) (a : Nat × Nat) (w : Nat) : msk (X ++ [a]) w = if a.1 = w then msk X w ||| a.2 else msk X w := by
  unfold msk
  rw [List.foldl_append]
  rfl
theorem msk_lt' : ∀ (X : List (Nat × Nat)) (w m : Nat), m < 1024 → (∀ a ∈ X, a.2 < 1024) → X.foldl (fun m a => if a.1 = w then m ||| a.2 else m) m < 1024
  | [], _, _, h, _ => h
  | a :: X, w, m, h, hX => by
    rw [List.foldl_cons]
    refine msk_lt' X w _ ?_ (fun b hb => hX b (List.mem_cons_of_mem _ hb))
    split
    · exact or_1024 h (hX a List.mem_cons_self)
    · exact h
theorem msk_lt {X : List (Nat × Nat)} {w : Nat} (h : ∀ a ∈ X, a.2 < 1024) : msk X w < 1024 := msk_lt' X w 0 (by decide) h
def SXu (s : Sg) (X : List (Nat × Nat)) (_ : List Tk) : Prop := s 36 4 = nI X.length ∧ (∀ w, w < 20 → s 46 w = nI (msk X w)) ∧ ∀ a ∈ X, a.2 < 1024
theorem c_addS {s : Sg} {w q M : Nat} (hw : w < 20) (hq : q ≤ 9) (h : s 46 w = nI M) : fTe_addSuit 36 (nI w) (nI q) s = some (pt s 46 w (nI (M ||| 2 ^ q))) := by
  unfold fTe_addSuit
  have h1 : wi (nI w) 0 19 = 1 := by
    have := wi_n (k := w) (a := 0) (b := 19) (by omega) (by decide) (by decide)
    rw [if_pos (by omega)] at this
    exact this
  have h2 : wi (nI q) 0 9 = 1 := by
    have := wi_n (k := q) (a := 0) (b := 9) (by omega) (by decide) (by decide)
    rw [if_pos (by omega)] at this
    exact this
  rw [e_isWord, bi_s, h1, if_neg n10z, e_isQuestion, bi_s, h2, if_neg n10z, gd_n _ hw (by decide), gd_n _ hw (by decide), ix_n (by omega), show hz_rf 36 3 = 46 from rfl, h, sh1 q (by omega), nx_or, bnd_e]
theorem k3_init {s : Sg} : W1 (fTe_clear 36 (nI 3) (pt (pt s 30 3 0) 30 4 (-1))) (fun t => ∀ t2 L, L.length ≤ 401 → (∀ o k, o ∉ [33, 34, 35] → (o, k) ∉ [(31, 5), (31, 6), (31, 7), (31, 8), (31, 9)] → t2 o k = t o k) → SXu t2 [] L) := by
  unfold fTe_clear
  rw [if_neg (by decide), if_neg (by decide), if_neg (by decide), if_pos (show nI 3 = 3 from rfl), show hz_rf 36 3 = 46 from rfl]
  generalize pt (pt s 30 3 0) 30 4 (-1) = s0
  have fill : W1 (fJ7_fill_53178 46 0 s0) (fun t => ∀ k, k < 20 → t 46 k = 0) := by
    unfold fJ7_fill_53178
    rw [show hz_ln 46 = 20 from rfl]
    refine w1_lp (fun k v t => ∃ i, i + k = 20 ∧ v = nI i ∧ ∀ j, j < i → t 46 j = 0) ?_ FU 20 _ _ (FU_lt (by omega)) ⟨0, rfl, rfl, fun j hj => by omega⟩
    rintro q k v t ⟨i, hi, rfl, hj⟩ hq
    refine w1_if (fun g => ?_) (fun g => ?_)
    · rw [nI_leI (by decide) (by omega)] at g
      exact w1_s (fun k hk => hj k (by omega))
    · rw [nI_leI (by decide) (by omega)] at g
      rw [gd_n _ (show i < 20 by omega) (by decide), ix_n (by omega), bnd_e, nI_1]
      refine hq (k - 1) _ _ (by omega) ⟨i + 1, by omega, rfl, fun j hj2 => ?_⟩
      by_cases e : j = i
      · rw [e, pt_s]
      · rw [pt_k _ _ _ e]
        exact hj j (by omega)
  refine w1_bv (w1_m fill (fun t h => ?_))
  rw [bnd_e]
  refine w1_s (fun t2 L hL hf => ⟨?_, fun w hw => ?_, (fun l hl => by cases hl)⟩)
  · refine (hf 36 4 (by decide) (by decide)).trans ?_
    rw [pt_s]; rfl
  · rw [show t2 46 = _ from frO hf 46 (by decide) (by decide), ptq _ _ _ (by decide), h w hw]
    rfl
theorem k3_line {s : Sg} {np : Int32} {X : List (Nat × Nat)} {L : List Tk} (hT : CT s L) (hS : SXu s X L) (ht : tkl 3 L) (hL : L.length ≤ 401) : W1 (fRe_readPlainLine (nI 3) np s) (LnX SXu X (suP L)) := by
  obtain ⟨h4, h46, hok⟩ := hS
  have hb := fun a L' (h : suP L = .ok (a, L')) => suP_b (o := 3) (by decide) h ht
  unfold fRe_readPlainLine
  rw [if_neg (show ¬ nI 3 = 1 by decide), if_neg (show ¬ nI 3 = 2 by decide)]
  have main : W1 (fRe_readSuit s) (LnX SXu X (suP L)) := by
    unfold fRe_readSuit suP
    unfold suP at hb
    refine w1_bi (w1_m (c_told (key := 0) (by decide) (by decide) hT ht) (fun z hz => ?_))
    obtain ⟨z1, s1⟩ := z
    obtain ⟨hz, f1⟩ := hz
    dsimp only at f1 ⊢
    cases h1 : toldP 0 0 19 L with
    | error e =>
      rw [h1] at hz
      rw [show z1 = 0 from hz.1, if_pos rfl, gb_0]
      exact w1_s ⟨rfl, hz.2⟩
    | ok x1 =>
    obtain ⟨w, L1⟩ := x1
    rw [h1] at hz hb
    obtain ⟨t1, l1, bw, ww⟩ := toldP_b (o := 3) (by decide) h1 ht
    obtain ⟨_, hw19⟩ := wi_le (a := 0) (b := 19) bw (by decide) (by decide) ww
    obtain ⟨y1, y2, y3⟩ := hz
    dsimp only at y1 y2 y3 hb ⊢
    rw [y1, if_neg n10z]
    refine w1_bi (w1_m (c_told (key := 1) (by decide) (by decide) y2 t1) (fun z hz => ?_))
    obtain ⟨z1, s3⟩ := z
    obtain ⟨hz, f3⟩ := hz
    dsimp only at f3 ⊢
    cases h2 : toldP 1 0 9 L1 with
    | error e =>
      rw [h2] at hz
      rw [show z1 = 0 from hz.1, if_pos rfl, gb_0]
      exact w1_s ⟨rfl, hz.2⟩
    | ok x2 =>
    obtain ⟨q, L2⟩ := x2
    rw [h2] at hz hb
    obtain ⟨t2, l2, bq, wq⟩ := toldP_b (o := 3) (by decide) h2 t1
    obtain ⟨_, hq9⟩ := wi_le (a := 0) (b := 9) bq (by decide) (by decide) wq
    obtain ⟨v1, v2, v3⟩ := hz
    dsimp only at v1 v2 v3 hb ⊢
    have e46 : s3 46 = s 46 := (frO f3 46 (by decide) (by decide)).trans (frO f1 46 (by decide) (by decide))
    have e36 : s3 36 4 = s 36 4 := (f3 36 4 (by decide) (by decide)).trans (f1 36 4 (by decide) (by decide))
    rw [v1, if_neg n10z, y3, v3, c_addS (M := msk X w) (by omega) hq9 (by rw [e46]; exact h46 w (by omega)), bv_s]
    generalize hG : qsL L2 (2 ^ q) = G2 at hb ⊢
    refine w1_lp (fun k v t => ∃ m L i, v = nI i ∧ CT t L ∧ tkl 3 L ∧ t 46 w = nI (msk X w ||| m) ∧ (∀ w', w' < 20 → w' ≠ w → t 46 w' = nI (msk X w')) ∧ t 36 4 = nI X.length ∧ qsL L m = G2 ∧ i + L.length ≤ 400 ∧ L.length ≤ k) ?_ FU 401 _ _ (FU_lt (by omega)) ⟨2 ^ q, L2, 0, rfl, CT_c v2 (ptq _ _ _ (by decide)) (ptq _ _ _ (by decide)) (ptq _ _ _ (by decide)) (ptq _ _ _ (by decide)) ⟨by rw [ptq _ _ _ (by decide)], by rw [ptq _ _ _ (by decide)]⟩, t2, pt_s _ _ _ _, fun w' hw' hne => by rw [pt_k _ _ _ hne, e46]; exact h46 w' hw', by rw [ptq _ _ _ (by decide), e36]; exact h4, hG, by omega, by omega⟩
    clear hG
    rintro q45 k v t ⟨m, L', i, rfl, kT, kt, k46, k46', k36, kG, ki, kk⟩ hq
    match L', kt with
    | x :: r, kt =>
    obtain ⟨h7, h8, h9⟩ := CT_h kT
    have hx := (tkl_b (o := 3) (by decide) kt).1
    rw [List.length_cons] at ki kk
    rw [qsL] at kG
    refine w1_j (fun (J : Sg → Option (Int32 × Sg)) => x.1 ≠ 1 → W1 (J t) (LnX SXu X (wrU w G2))) ?_ (fun j93 h93 => ?_)
    · intro hx1
      rw [if_neg hx1] at kG
      rw [← kG] at hb ⊢
      dsimp only [wrU] at hb ⊢
      obtain ⟨b1, b2, b3⟩ := hb _ _ rfl
      rw [bnd_e, k36, nI_1, gb_1]
      have hp : ∀ o, o ≠ 36 → pt t 36 4 (nI (X.length + 1)) o = t o := fun o h => ptq _ _ _ h
      refine w1_s ⟨rfl, CT_c kT (hp 31 (by decide)) (hp 33 (by decide)) (hp 34 (by decide)) (hp 35 (by decide)) ⟨congrFun (hp 30 (by decide)) 3, congrFun (hp 30 (by decide)) 4⟩, ?_, fun w' hw' => ?_, ?_⟩
      · dsimp only
        rw [pt_s, List.length_append]; rfl
      · dsimp only
        rw [ptq _ _ _ (by decide), msk_s]
        by_cases e : w = w'
        · rw [if_pos e, ← e]; exact k46
        · rw [if_neg e]; exact k46' w' hw' (fun c => e c.symm)
      · intro a ha
        rcases List.mem_append.mp ha with h | h
        · exact hok a h
        · rw [List.mem_singleton] at h
          rw [h]
          exact b3
    · rw [if_neg (show ¬ (400 : Int32) ≤ nI i by rw [show (400 : Int32) = nI 400 from rfl, nI_leI (by decide) (by omega)]; omega), h7]
      refine w1_if (fun g => ?_) (fun g => h93 (fun e => g (by rw [e]; rfl)))
      have g : x.1 = 1 := nI_inj (b := 1) (by omega) (by decide) g
      rw [if_pos g] at kG
      refine w1_bi (w1_m (c_number 0 9 (by decide) kT kt) (fun z hz => ?_))
      obtain ⟨z1, t3⟩ := z
      obtain ⟨hz, f3'⟩ := hz
      dsimp only at hz f3' ⊢
      rw [if_pos g] at hz
      by_cases g2 : wi (nI x.2.2) 0 9 = 0
      · rw [if_pos g2] at hz kG
        rw [hz.1, if_pos rfl, gb_0, ← kG]
        exact w1_s ⟨rfl, hz.2⟩
      · rw [if_neg g2] at hz kG
        obtain ⟨_, hx9⟩ := wi_le (a := 0) (b := 9) (tkl_b (o := 3) (by decide) kt).2.2 (by decide) (by decide) g2
        obtain ⟨r1, r2, r3⟩ := hz
        have e46' : t3 46 = t 46 := frO f3' 46 (by decide) (by decide)
        rw [r1, if_neg n10z, r3, c_addS (M := msk X w ||| m) (by omega) hx9 (by rw [e46']; exact k46), bv_s, nI_1]
        refine hq (k - 1) _ _ (by omega) ⟨m ||| 2 ^ x.2.2, r, i + 1, rfl, CT_c r2 (ptq _ _ _ (by decide)) (ptq _ _ _ (by decide)) (ptq _ _ _ (by decide)) (ptq _ _ _ (by decide)) ⟨by rw [ptq _ _ _ (by decide)], by rw [ptq _ _ _ (by decide)]⟩, (tkl_t kt (by omega)).1, by rw [pt_s, Nat.or_assoc], fun w' hw' hne => by rw [pt_k _ _ _ hne, e46']; exact k46' w' hw' hne, ?_, kG, by omega, by omega⟩
        rw [ptq _ _ _ (by decide), f3' 36 4 (by decide) (by decide)]
        exact k36
  refine w1_bi (w1_m main (fun z hz => ?_))
  have hz2 := hz
  unfold LnX at hz2
  have : z.1 = 0 ∨ z.1 = 1 := by
    cases hc : suP L with
    | error e => rw [hc] at hz2; exact Or.inl hz2.1
    | ok x => rw [hc] at hz2; exact Or.inr hz2.1
  rw [gb, if_pos this]
  exact w1_s hz
theorem k3_take {s : Sg} {T : Nat → Nat} {n : Nat} {np : Int32} (hT : CTp s T) (hn : n ≤ 400) (h4 : s 31 4 = nI n) : W1 (fRe_take (nI 3) np s) (fun z => ∃ L, chn T n 3 L 0 ∧ L.length ≤ 401 ∧ TX SXu (txtL 256 suP 401 [] L) z) :=
  c_take (by decide) rfl hT hn h4 k3_init (fun s X t r h1 h2 h3 h4 _ _ => by
    rw [if_neg (by decide)]
    refine k3_line h1 h2 h3 ?_
    obtain ⟨⟨i, _, hi, _⟩, _⟩ := h1
    omega) (fun L a L' h1 h2 => ⟨(suP_b (by decide) h1 h2).1, by have := (suP_b (o := 3) (by decide) h1 h2).2.1; omega⟩) (fun s s' X u r h hf => by
    obtain ⟨a1, a2, a3⟩ := h
    exact ⟨(hf 36 4 (by decide) (by decide)).trans a1, fun w hw => by rw [frO hf 46 (by decide) (by decide)]; exact a2 w hw, a3⟩)
