/-! TEXT: the tokens, and the class's scan -/
def dv (T : Nat → Nat) (p : Nat) : Nat → Nat
  | 0 => 0
  | m + 1 => 10 * dv T p m + (T (p + m) - 48)
theorem dv_lt {T : Nat → Nat} {p : Nat} : ∀ (m : Nat), (∀ j, j < m → isD (T (p + j))) → dv T p m < 10 ^ m
  | 0, _ => by
    show 0 < 10 ^ 0
    decide
  | m + 1, h => by
    have h1 := dv_lt m (fun j hj => h j (by omega))
    have h2 := h m (by omega)
    rw [Nat.pow_succ]
    show 10 * dv T p m + (T (p + m) - 48) < _
    omega
def rn (P : Nat → Prop) (T : Nat → Nat) (n p q : Nat) : Prop := p < q ∧ q ≤ n ∧ (∀ j, p ≤ j → j < q → P (T j)) ∧ (q < n → ¬ P (T q))
def tkAt (T : Nat → Nat) (n o p k v q : Nat) : Prop :=
  (isL (T p) ∧ rn isL T n p q ∧ v = 0 ∧ kwd T o p q k) ∨ (isD (T p) ∧ rn isD T n p q ∧ v = dv T p (min 4 (q - p)) ∧ k = if q - p ≤ 4 then 1 else 2) ∨ (¬ isL (T p) ∧ ¬ isD (T p) ∧ ¬ isB (T p) ∧ q = p + 1 ∧ v = 0 ∧ k = if isS (T p) then T p else 2)
/-- these are the tokens from q on -/
def chn (T : Nat → Nat) (n o : Nat) : List Tk → Nat → Prop
  | [], _ => False
  | t :: r, q => (r = [] ∧ t = (0, n, 0) ∧ q ≤ n ∧ ∀ j, q ≤ j → j < n → isB (T j)) ∨ (r ≠ [] ∧ ∃ q', q ≤ t.2.1 ∧ t.2.1 < n ∧ (∀ j, q ≤ j → j < t.2.1 → isB (T j)) ∧ tkAt T n o t.2.1 t.1 t.2.2 q' ∧ chn T n o r q')
theorem chn_B {T : Nat → Nat} {n o : Nat} {R : List Tk} {u : Nat} (hu : u < n) (hB : isB (T u)) (h : chn T n o R (u + 1)) : chn T n o R u := by
  match R, h with
  | t :: r, h =>
    rcases h with ⟨h1, h2, h3, h4⟩ | ⟨h1, q', h2, h3, h4, h5⟩
    · exact Or.inl ⟨h1, h2, by omega, fun j hj hj2 => by
        by_cases e : j = u
        · rw [e]; exact hB
        · exact h4 j (by omega) hj2⟩
    · exact Or.inr ⟨h1, q', by omega, h3, fun j hj hj2 => by
        by_cases e : j = u
        · rw [e]; exact hB
        · exact h4 j (by omega) hj2, h5⟩
theorem chn_T {T : Nat → Nat} {n o : Nat} {R : List Tk} {u k v q' : Nat} (hu : u < n) (ht : tkAt T n o u k v q') (h : chn T n o R q') : chn T n o ((k, u, v) :: R) u :=
  Or.inr ⟨fun e => by rw [e] at h; exact h, q', Nat.le_refl u, hu, fun j h1 h2 => absurd h1 (Nat.not_le.mpr h2), ht, h⟩
def rws (s : Sg) : List Tk → Nat → Prop
  | [], _ => True
  | t :: r, i => (s 33 i = nI t.1 ∧ s 34 i = nI t.2.1 ∧ s 35 i = nI t.2.2) ∧ rws s r (i + 1)
theorem rws_snoc {s s' : Sg} {t : Tk} : ∀ (L : List Tk) (i : Nat), rws s L i → (∀ k, k < i + L.length → s' 33 k = s 33 k ∧ s' 34 k = s 34 k ∧ s' 35 k = s 35 k) → (s' 33 (i + L.length) = nI t.1 ∧ s' 34 (i + L.length) = nI t.2.1 ∧ s' 35 (i + L.length) = nI t.2.2) → rws s' (L ++ [t]) i
  | [], i, _, _, h => ⟨h, True.intro⟩
  | x :: L, i, h, hk, hc => by
    rw [List.length_cons] at hk hc
    obtain ⟨e1, e2, e3⟩ := hk i (by omega)
    refine ⟨by rw [e1, e2, e3]; exact h.1, rws_snoc L (i + 1) h.2 (fun k h => hk k (by omega)) ?_⟩
    rw [show i + 1 + L.length = i + (L.length + 1) by omega]
    exact hc
theorem rws_c {s s' : Sg} (h1 : s' 33 = s 33) (h2 : s' 34 = s 34) (h3 : s' 35 = s 35) : ∀ (L : List Tk) (i : Nat), rws s L i → rws s' L i
  | [], _, _ => True.intro
  | x :: L, i, h => ⟨by rw [h1, h2, h3]; exact h.1, rws_c h1 h2 h3 L (i + 1) h.2⟩
def hdT (s : Sg) : List Tk → Prop
  | [] => False
  | u :: _ => s 31 7 = nI u.1 ∧ s 31 8 = nI u.2.1 ∧ s 31 9 = nI u.2.2
/-- the class stands at the first of these tokens -/
def CT0 (s : Sg) (L : List Tk) : Prop := ∃ i, rws s L i ∧ i + L.length ≤ 401 ∧ s 31 5 = nI (i + L.length) ∧ s 31 6 = nI i ∧ hdT s L
def CT (s : Sg) (L : List Tk) : Prop := CT0 s L ∧ s 30 3 = 0 ∧ s 30 4 = -1
theorem c_adv0 {t : Sg} {i : Nat} (hi : i ≤ 400) (h6 : t 31 6 + 1 = nI i) (hlt : ¬ (t 31 5 - 1 ≤ t 31 6)) : W1 (fTo_advance t) (fun t' => t' 31 6 = nI i ∧ t' 31 7 = t 33 i ∧ t' 31 8 = t 34 i ∧ t' 31 9 = t 35 i) := by
  unfold fTo_advance
  rw [bnd_e, if_neg hlt, bnd_e, h6]
  dsimp only
  rw [pt_s, if_neg (nI_pos (by omega)), if_neg (show ¬ (400 : Int32) < nI i from nI_nlt (a := 400) hi (by decide)), gd_n _ (show i < 401 by omega) (by decide), ix_n (by omega), bnd_e, pt_k _ _ _ (show (6 : Nat) ≠ 7 by decide), pt_s, gd_n _ (show i < 401 by omega) (by decide), ix_n (by omega), bnd_e, pt_k _ _ _ (show (6 : Nat) ≠ 8 by decide), pt_k _ _ _ (show (6 : Nat) ≠ 7 by decide), pt_s, gd_n _ (show i < 401 by omega) (by decide), ix_n (by omega), bnd_e]
  refine w1_s ⟨?_, ?_, ?_, ?_⟩
  · rw [pt_k _ _ _ (by decide), pt_k _ _ _ (by decide), pt_k _ _ _ (by decide), pt_s]
  · rw [pt_k _ _ _ (by decide), pt_k _ _ _ (by decide), pt_s, ptq _ _ _ (by decide)]
  · rw [pt_k _ _ _ (by decide), pt_s, ptq _ _ _ (by decide), ptq _ _ _ (by decide)]
  · rw [pt_s, ptq _ _ _ (by decide), ptq _ _ _ (by decide), ptq _ _ _ (by decide)]
theorem w1_f2 {R : Type} {pr : R → Sg} {f : Option R} {Q : R → Prop} {Mo : List Nat} {Mf : List (Nat × Nat)} {s : Sg} (h : W1 f Q) (fr : fP pr Mo Mf s f) : W1 f (fun z => Q z ∧ ∀ o k, o ∉ Mo → (o, k) ∉ Mf → pr z o k = s o k) := by
  obtain ⟨z, e, hz⟩ := h
  exact ⟨z, e, hz, fr z e⟩
theorem c_adv {t : Sg} {a b : Tk} {r : List Tk} (h : CT t (a :: b :: r)) : W1 (fTo_advance t) (fun t' => CT t' (b :: r)) := by
  obtain ⟨⟨i, h1, h2, h3, h4, h5⟩, hf1, hf2⟩ := h
  rw [List.length_cons, List.length_cons] at h2 h3
  refine w1_m (w1_f2 (c_adv0 (i := i + 1) (by omega) (by rw [h4, nI_1]) ?_) (fr_To_advance t)) (fun t' h => ?_)
  · rw [h3, h4, show i + (r.length + 1 + 1) = i + r.length + 1 + 1 by omega, nI_pred, nI_leI (by omega) (by omega)]
    omega
  · obtain ⟨⟨x1, x2, x3, x4⟩, x5⟩ := h
    have hr := rws_c (frO x5 33 (by decide) (by decide)) (frO x5 34 (by decide) (by decide)) (frO x5 35 (by decide) (by decide)) _ _ h1.2
    obtain ⟨c1, c2, c3⟩ := h1.2.1
    refine ⟨⟨i + 1, hr, by rw [List.length_cons]; omega, ?_, x1, ?_⟩, (x5 30 3 (by decide) (by decide)).trans hf1, (x5 30 4 (by decide) (by decide)).trans hf2⟩
    · rw [show t' 31 5 = t 31 5 from x5 31 5 (by decide) (by decide), h3, List.length_cons]
      congr 1
      omega
    · exact ⟨x2.trans c1, x3.trans c2, x4.trans c3⟩
theorem c_add {t : Sg} {c : Nat} (k p v : Int32) (hc : c ≤ 400) (h5 : t 31 5 = nI c) : W1 (fTo_addToken k p v t) (fun t' => t' 31 5 = nI (c + 1) ∧ (t' 33 c = k ∧ t' 34 c = p ∧ t' 35 c = v) ∧ ∀ j, j < c → t' 33 j = t 33 j ∧ t' 34 j = t 34 j ∧ t' 35 j = t 35 j) := by
  unfold fTo_addToken
  rw [h5, if_neg (nI_pos (by omega)), if_neg (show ¬ (400 : Int32) < nI c from nI_nlt (a := 400) hc (by decide)), gd_n _ (show c < 401 by omega) (by decide), ix_n (by omega), bnd_e, ptq _ _ _ (show (31 : Nat) ≠ 33 by decide), h5, gd_n _ (show c < 401 by omega) (by decide), ix_n (by omega), bnd_e, ptq _ _ _ (show (31 : Nat) ≠ 34 by decide), ptq _ _ _ (show (31 : Nat) ≠ 33 by decide), h5, gd_n _ (show c < 401 by omega) (by decide), ix_n (by omega), bnd_e, bnd_e, ptq _ _ _ (show (31 : Nat) ≠ 35 by decide), ptq _ _ _ (show (31 : Nat) ≠ 34 by decide), ptq _ _ _ (show (31 : Nat) ≠ 33 by decide), h5, nI_1]
  refine w1_s ⟨pt_s _ _ _ _, ⟨?_, ?_, ?_⟩, fun j hj => ⟨?_, ?_, ?_⟩⟩
  · rw [ptq _ _ _ (show (33 : Nat) ≠ 31 by decide), ptq _ _ _ (show (33 : Nat) ≠ 35 by decide), ptq _ _ _ (show (33 : Nat) ≠ 34 by decide), pt_s]
  · rw [ptq _ _ _ (show (34 : Nat) ≠ 31 by decide), ptq _ _ _ (show (34 : Nat) ≠ 35 by decide), pt_s]
  · rw [ptq _ _ _ (show (35 : Nat) ≠ 31 by decide), pt_s]
  · rw [ptq _ _ _ (show (33 : Nat) ≠ 31 by decide), ptq _ _ _ (show (33 : Nat) ≠ 35 by decide), ptq _ _ _ (show (33 : Nat) ≠ 34 by decide), pt_k _ _ _ (by omega)]
  · rw [ptq _ _ _ (show (34 : Nat) ≠ 31 by decide), ptq _ _ _ (show (34 : Nat) ≠ 35 by decide), pt_k _ _ _ (by omega), ptq _ _ _ (show (34 : Nat) ≠ 33 by decide)]
  · rw [ptq _ _ _ (show (35 : Nat) ≠ 31 by decide), pt_k _ _ _ (by omega), ptq _ _ _ (show (35 : Nat) ≠ 34 by decide), ptq _ _ _ (show (35 : Nat) ≠ 33 by decide)]
theorem c_behL {s : Sg} {T : Nat → Nat} {n p : Nat} (hT : CTp s T) (hn : n ≤ 400) (h4 : s 31 4 = nI n) (hp : p < n) (hL : isL (T p)) : W1 (fTo_behindLetters (nI p) s) (fun z => z.2 = s ∧ ∃ q, z.1 = nI q ∧ rn isL T n p q) := by
  unfold fTo_behindLetters
  rw [nI_1]
  refine w1_lp (fun k v t => t = s ∧ ∃ i, i + k = n ∧ v = nI i ∧ p < i ∧ ∀ j, p ≤ j → j < i → isL (T j)) ?_ FU (n - (p + 1)) _ _ (FU_lt (by omega)) ⟨rfl, p + 1, by omega, rfl, by omega, fun j h1 h2 => by rw [show j = p by omega]; exact hL⟩
  rintro q k v t ⟨rfl, i, hi, rfl, hpi, hj⟩ hq
  rw [h4]
  refine w1_if (fun g => ?_) (fun g => ?_)
  · rw [nI_leI (by omega) (by omega)] at g
    exact w1_s ⟨rfl, i, rfl, hpi, by omega, hj, fun h => by omega⟩
  · rw [nI_leI (by omega) (by omega)] at g
    rw [c_sign hT (by omega), bi_s, e_toL (by have := (hT i (by omega)).2; omega), bi_s]
    by_cases hl : isL (T i)
    · rw [if_pos hl, if_neg n10z, nI_1]
      refine hq (k - 1) _ _ (by omega) ⟨rfl, i + 1, by omega, rfl, by omega, fun j h1 h2 => ?_⟩
      by_cases e : j = i
      · rw [e]; exact hl
      · exact hj j h1 (by omega)
    · rw [if_neg hl, if_pos rfl]
      exact w1_s ⟨rfl, i, rfl, hpi, by omega, hj, fun _ => hl⟩
theorem c_behD {s : Sg} {T : Nat → Nat} {n p : Nat} (hT : CTp s T) (hn : n ≤ 400) (h4 : s 31 4 = nI n) (hp : p < n) (hL : isD (T p)) : W1 (fTo_behindDigits (nI p) s) (fun z => z.2 = s ∧ ∃ q, z.1 = nI q ∧ rn isD T n p q) := by
  unfold fTo_behindDigits
  rw [nI_1]
  refine w1_lp (fun k v t => t = s ∧ ∃ i, i + k = n ∧ v = nI i ∧ p < i ∧ ∀ j, p ≤ j → j < i → isD (T j)) ?_ FU (n - (p + 1)) _ _ (FU_lt (by omega)) ⟨rfl, p + 1, by omega, rfl, by omega, fun j h1 h2 => by rw [show j = p by omega]; exact hL⟩
  rintro q k v t ⟨rfl, i, hi, rfl, hpi, hj⟩ hq
  rw [h4]
  refine w1_if (fun g => ?_) (fun g => ?_)
  · rw [nI_leI (by omega) (by omega)] at g
    exact w1_s ⟨rfl, i, rfl, hpi, by omega, hj, fun h => by omega⟩
  · rw [nI_leI (by omega) (by omega)] at g
    rw [c_sign hT (by omega), bi_s, e_toD (by have := (hT i (by omega)).2; omega), bi_s]
    by_cases hl : isD (T i)
    · rw [if_pos hl, if_neg n10z, nI_1]
      refine hq (k - 1) _ _ (by omega) ⟨rfl, i + 1, by omega, rfl, by omega, fun j h1 h2 => ?_⟩
      by_cases e : j = i
      · rw [e]; exact hl
      · exact hj j h1 (by omega)
    · rw [if_neg hl, if_pos rfl]
      exact w1_s ⟨rfl, i, rfl, hpi, by omega, hj, fun _ => hl⟩
theorem dv_s {T : Nat → Nat} {p m : Nat} (h : isD (T (p + m))) : 10 * nI (dv T p m) + nI (T (p + m)) - 48 = nI (dv T p (m + 1)) := by
  rw [show (10 : Int32) = nI 10 from rfl, pk_mul, nI_add, show (48 : Int32) = nI 48 from rfl, pk_sub (by omega)]
  congr 1
  show _ = 10 * dv T p m + (T (p + m) - 48)
  omega
theorem c_num {s : Sg} {T : Nat → Nat} {n p q : Nat} (hT : CTp s T) (hn : n ≤ 400) (hr : rn isD T n p q) : W1 (fTo_numberAt (nI p) (nI q) s) (fun z => z.2 = s ∧ z.1 = nI (dv T p (min 4 (q - p)))) := by
  obtain ⟨r1, r2, r3, _⟩ := hr
  unfold fTo_numberAt
  rw [show (4 : Int32) = nI 4 from rfl, nI_add]
  refine w1_lp (fun k v t => t = s ∧ ∃ m, m + k = min 4 (q - p) ∧ v = (nI (dv T p m), nI (p + m))) ?_ FU (min 4 (q - p)) _ _ (FU_lt (by omega)) ⟨rfl, 0, by omega, rfl⟩
  rintro q2 k v t ⟨rfl, m, hm, rfl⟩ hq
  dsimp only
  refine w1_if (fun g => ?_) (fun g => ?_)
  · rw [nI_leI (by omega) (by omega)] at g
    exact w1_s ⟨rfl, by rw [show m = min 4 (q - p) by omega]⟩
  · rw [nI_leI (by omega) (by omega)] at g
    refine w1_if (fun g2 => ?_) (fun g2 => ?_)
    · rw [nI_leI (by omega) (by omega)] at g2
      exact w1_s ⟨rfl, by rw [show m = min 4 (q - p) by omega]⟩
    · rw [nI_leI (by omega) (by omega)] at g2
      rw [c_sign hT (by omega), bi_s, bnd_e, dv_s (r3 _ (by omega) (by omega)), nI_1]
      exact hq (k - 1) _ _ (by omega) ⟨rfl, m + 1, by omega, by rw [Nat.add_assoc]⟩
/-- the class finds all tokens, and stands at the first -/
theorem c_scan {s : Sg} {T : Nat → Nat} {n o : Nat} (hT : CTp s T) (hn : n ≤ 400) (h4 : s 31 4 = nI n) (ho : o < 4) : W1 (fTo_scan o s) (fun t => ∃ L, chn T n o L 0 ∧ CT0 t L) := by
  unfold fTo_scan
  rw [bnd_e]
  refine w1_lp (fun k v t => ∃ u L0, u + k = n ∧ v = nI u ∧ t 32 = s 32 ∧ t 31 4 = nI n ∧ t 31 5 = nI L0.length ∧ L0.length ≤ u ∧ rws t L0 0 ∧ ∀ R, chn T n o R u → chn T n o (L0 ++ R) 0) ?_ FU n _ _ (FU_lt (by omega)) ⟨0, [], by omega, rfl, ptq _ _ _ (by decide), by rw [pt_k _ _ _ (by decide)]; exact h4, pt_s _ _ _ _, by decide, True.intro, fun R h => h⟩
  rintro q k v t ⟨u, L0, hu, rfl, t32, t4, t5, hlen, hrw, hch⟩ hq
  have hT : CTp t T := fun k hk => by rw [t32]; exact hT k hk
  rw [t4]
  refine w1_if (fun g => ?_) (fun g => ?_)
  · rw [nI_leI (by omega) (by omega)] at g
    obtain rfl : u = n := by omega
    refine w1_bv (w1_m (w1_f2 (c_add 0 (nI u) 0 (by omega) t5) (fr_To_addToken _ _ _ t)) (fun t2 h2 => ?_))
    obtain ⟨⟨x1, x2, x3⟩, _⟩ := h2
    rw [bnd_e]
    have hrw2 : rws t2 (L0 ++ [(0, u, 0)]) 0 := rws_snoc L0 0 hrw (fun k hk => x3 k (by omega)) (by rw [Nat.zero_add]; exact x2)
    refine w1_bv (w1_m (w1_f2 (c_adv0 (i := 0) (by decide) (by rw [pt_s]; rfl) ?_) (fr_To_advance _)) (fun t3 h3 => ?_))
    · rw [pt_s, pt_k _ _ _ (by decide), x1, nI_pred]
      exact nle_m1 (by omega)
    · obtain ⟨⟨y1, y2, y3, y4⟩, y5⟩ := h3
      refine w1_s ⟨L0 ++ [(0, u, 0)], hch _ (Or.inl ⟨rfl, rfl, Nat.le_refl u, fun j h1 h2 => by omega⟩), 0, ?_, ?_, ?_, y1, ?_⟩
      · refine rws_c ?_ ?_ ?_ _ _ hrw2
        · rw [show t3 33 = _ from frO y5 33 (by decide) (by decide), ptq _ _ _ (by decide)]
        · rw [show t3 34 = _ from frO y5 34 (by decide) (by decide), ptq _ _ _ (by decide)]
        · rw [show t3 35 = _ from frO y5 35 (by decide) (by decide), ptq _ _ _ (by decide)]
      · rw [List.length_append]
        show 0 + (L0.length + 1) ≤ 401
        omega
      · rw [show t3 31 5 = _ from y5 31 5 (by decide) (by decide), pt_k _ _ _ (by decide), x1, List.length_append]
        congr 1
        show L0.length + 1 = 0 + (L0.length + 1)
        omega
      · rw [ptq _ _ _ (by decide)] at y2 y3 y4
        match L0, hrw2 with
        | [], h => exact ⟨y2.trans h.1.1, y3.trans h.1.2.1, y4.trans h.1.2.2⟩
        | x :: L1, h => exact ⟨y2.trans h.1.1, y3.trans h.1.2.1, y4.trans h.1.2.2⟩
  · rw [nI_leI (by omega) (by omega)] at g
    have hc := (hT u (by omega)).2
    -- a token is added, and the scan goes on behind it
    have step : ∀ (kd vl q' : Nat), tkAt T n o u kd vl q' → u < q' → q' ≤ n → W1 (fTo_addToken (nI kd) (nI u) (nI vl) t) (fun t2 => W1 (q (nI q') t2) (fun t => ∃ L, chn T n o L 0 ∧ CT0 t L)) := by
      intro kd vl q' htk hq1 hq2
      refine w1_m (w1_f2 (c_add _ _ _ (show L0.length ≤ 400 by omega) t5) (fr_To_addToken _ _ _ t)) (fun t2 h2 => ?_)
      obtain ⟨⟨x1, x2, x3⟩, x4⟩ := h2
      refine hq (n - q') _ _ (by omega) ⟨q', L0 ++ [(kd, u, vl)], by omega, rfl, ?_, ?_, ?_, ?_, rws_snoc L0 0 hrw (fun k hk => x3 k (by omega)) (by rw [Nat.zero_add]; exact x2), fun R hR => ?_⟩
      · rw [show t2 32 = t 32 from frO x4 32 (by decide) (by decide)]; exact t32
      · rw [show t2 31 4 = t 31 4 from x4 31 4 (by decide) (by decide)]; exact t4
      · rw [x1, List.length_append]; rfl
      · rw [List.length_append]
        show L0.length + 1 ≤ q'
        omega
      · rw [List.append_assoc]
        exact hch _ (chn_T (by omega) htk hR)
    rw [c_sign hT (by omega), bi_s, e_toL (by omega), bi_s, bnd_e]
    by_cases hl : isL (T u)
    · rw [if_pos hl, if_neg n10z]
      refine w1_bi (w1_m (c_behL hT hn t4 (by omega) hl) (fun z hz => ?_))
      obtain ⟨r, t2⟩ := z
      obtain ⟨e1, q', e2, e3⟩ := hz
      dsimp only at e1 e2 ⊢
      subst e1; subst e2
      refine w1_bi (w1_m (c_key hT ho (show q' ≤ 400 by have := e3.2.1; omega) e3.1) (fun z hz => ?_))
      obtain ⟨r, t3⟩ := z
      obtain ⟨e1, kd, e2, e4⟩ := hz
      dsimp only at e1 e2 ⊢
      subst e1; subst e2
      exact w1_bv (step kd 0 q' (Or.inl ⟨hl, e3, rfl, e4⟩) e3.1 e3.2.1)
    · rw [if_neg hl, if_pos rfl, e_toD (by omega), bi_s]
      by_cases hd : isD (T u)
      · rw [if_pos hd, if_neg n10z]
        refine w1_bi (w1_m (c_behD hT hn t4 (by omega) hd) (fun z hz => ?_))
        obtain ⟨r, t2⟩ := z
        obtain ⟨e1, q', e2, e3⟩ := hz
        dsimp only at e1 e2 ⊢
        subst e1; subst e2
        have hq1 := e3.1
        have hq2 := e3.2.1
        refine w1_j (fun (J : Int32 → Sg → Option Sg) => ∀ kd, kd = (if q' - u ≤ 4 then 1 else 2) → W1 (J (nI kd) t2) (fun t => ∃ L, chn T n o L 0 ∧ CT0 t L)) ?_ (fun j85 h85 => ?_)
        · intro kd hk
          refine w1_bi (w1_m (c_num hT hn e3) (fun z hz => ?_))
          obtain ⟨r, t3⟩ := z
          obtain ⟨e1, e2⟩ := hz
          dsimp only at e1 e2 ⊢
          subst e1; subst e2
          exact w1_bv (step kd _ q' (Or.inr (Or.inl ⟨hd, e3, rfl, hk⟩)) e3.1 e3.2.1)
        · rw [pk_sub (by omega), show (4 : Int32) = nI 4 from rfl]
          refine w1_if (fun g2 => ?_) (fun g2 => ?_)
          · rw [nI_leI (by omega) (by omega)] at g2
            exact h85 1 (by rw [if_pos g2])
          · rw [nI_leI (by omega) (by omega)] at g2
            exact h85 2 (by rw [if_neg g2])
      · rw [if_neg hd, if_pos rfl, e_toB (by omega), bi_s]
        by_cases hb : isB (T u)
        · rw [if_pos hb, if_neg n10z, nI_1]
          exact hq (k - 1) _ _ (by omega) ⟨u + 1, L0, by omega, rfl, t32, t4, t5, by omega, hrw, fun R hR => hch R (chn_B (by omega) hb hR)⟩
        · rw [if_neg hb, if_pos rfl, nI_1]
          obtain ⟨r, er, hr⟩ := e_ixOf hc t
          rw [er, bi_s]
          refine w1_j (fun (J : Int32 → Sg → Option Sg) => ∀ kd, kd = (if isS (T u) then T u else 2) → W1 (J (nI kd) t) (fun t => ∃ L, chn T n o L 0 ∧ CT0 t L)) ?_ (fun j122 h122 => ?_)
          · intro kd hk
            exact w1_bv (step kd 0 (u + 1) (Or.inr (Or.inr ⟨hl, hd, hb, rfl, rfl, hk⟩)) (by omega) (by omega))
          · refine w1_if (fun g2 => ?_) (fun g2 => ?_)
            · exact h122 2 (by rw [if_neg (hr.mp g2)])
            · have : isS (T u) := Classical.byContradiction fun hn => g2 (hr.mpr hn)
              exact h122 (T u) (by rw [if_pos this])
