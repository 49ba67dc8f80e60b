/-! down -/
theorem w_in {k a b : Nat} (h1 : a ≤ k) (h2 : k ≤ b) (hb : b < 2 ^ 31) : wi (nI k) (nI a) (nI b) = 1 := by rw [wi_n (by omega) (by omega) hb, if_pos ⟨h1, h2⟩]
theorem e_farOf {p : Nat} (hp : p < 10) (s : Sg) : fMu_farOf (nI p) s = some (s 67 p, s) := by
  unfold fMu_farOf
  rw [e_within, bi_s, show wi (nI p) 0 9 = 1 from w_in (a := 0) (b := 9) (by omega) (by omega) (by decide), if_neg n10z, gd_n _ hp (by decide), ix_n (by omega)]
theorem e_reach {p : Nat} (hp : p < 10) (v : Int32) (s : Sg) : fMu_reach (nI p) v s = some (if s 67 p = -1 then pt s 67 p v else s) := by
  unfold fMu_reach
  rw [e_within, bi_s, show wi (nI p) 0 9 = 1 from w_in (a := 0) (b := 9) (by omega) (by omega) (by decide), if_neg n10z, gd_n _ hp (by decide), ix_n (by omega), gd_n _ hp (by decide), bnd_e]
  split <;> rfl
theorem e_start {x : Nat} (hx : x < 10) (s : Sg) : W1 (fMu_startAt (nI x) s) (fun t => ∀ p, p < 10 → t 67 p = if p = x then 0 else -1) := by
  unfold fMu_startAt fJ7_fill_53178
  refine w1_bv (w1_lp (fun k v t => ∃ i, i + k = 10 ∧ v = nI i ∧ ∀ p, p < i → t 67 p = -1) ?_ FU 10 _ _ (FU_lt (by omega)) ⟨0, by omega, rfl, fun p hp => by omega⟩)
  rintro q k v t ⟨i, hi, rfl, h⟩ hq
  rw [show hz_ln 67 = 10 from rfl]
  refine w1_if (fun c => ?_) (fun c => ?_)
  · rw [nI_leI (by decide) (by omega)] at c
    refine w1_s ?_
    rw [e_reach hx, bv_s, h x (by omega), if_pos rfl]
    refine w1_s (fun p hp => ?_)
    by_cases e : p = x
    · subst e; rw [pt_s, if_pos rfl]
    · rw [pt_k _ _ _ e, if_neg e]; exact h p (by omega)
  · rw [nI_leI (by decide) (by omega)] at c
    rw [gd_n _ (show i < 10 by omega) (by decide), bnd_e, ix_n (by omega), nI_1]
    refine hq (k - 1) _ _ (by omega) ⟨i + 1, by omega, rfl, fun p hp => ?_⟩
    by_cases e : p = i
    · subst e; rw [pt_s]
    · rw [pt_k _ _ _ e]; exact h p (by omega)
theorem far_i {E : Nat → Nat → Prop} {x N : Nat} {far : Nat → Int32} (h : ∀ p, p < N → far p = if p = x then 0 else -1) : FarR E x N 0 far := fun p hp => by
  rw [h p hp]
  by_cases e : p = x
  · rw [if_pos e]
    exact Or.inl ⟨0, Nat.le_refl _, rfl, e, fun i hi => by omega⟩
  · rw [if_neg e]
    exact Or.inr ⟨rfl, e⟩
theorem far_c {E : Nat → Nat → Prop} {x N n : Nat} {D : Nat → Nat → Prop} {far far' : Nat → Int32} (h : FarP E x N n D far) (hc : ∀ p, p < N → far' p = far p) : FarP E x N n D far' := fun p hp => by
  rw [hc p hp]
  exact h p hp
theorem e_leads {s : Sg} {n q w : Nat} (hn : n ≤ 16) (e1 : s 53 3 = nI n) (t0 : s 53 0 = nI 3) (t1 : s 53 1 = nI 16) : fMu_leadsTo (nI q) (nI w) s = some (ledU (s 54) q w 0 n - 1, s) := by
  unfold fMu_leadsTo
  refine w1_e (w1_lp (fun k v t => t = s ∧ ∃ i, i + k = n ∧ v = nI i ∧ ledU (s 54) q w i k = ledU (s 54) q w 0 n) ?_ FU n _ _ (FU_lt (by omega)) ⟨rfl, 0, by omega, rfl, rfl⟩)
  rintro p k v t ⟨rfl, i, hi, rfl, h⟩ hp
  rw [e1]
  refine w1_if (fun c => ?_) (fun c => ?_)
  · rw [nI_leI (by omega) (by omega)] at c
    rw [← h, show k = 0 by omega]
    exact w1_s rfl
  · rw [nI_leI (by omega) (by omega)] at c
    obtain ⟨k, rfl⟩ : ∃ y, k = y + 1 := ⟨k - 1, by omega⟩
    have T0 : fTa_tell 53 (nI i) 0 t = some (t 54 (i * 3), t) := e_tell (j := 0) t0 t1 (by decide) (by decide) (show i < 16 by omega) (by decide) (by decide) (by decide)
    have T1 : fTa_tell 53 (nI i) 1 t = some (t 54 (i * 3 + 1), t) := e_tell (j := 1) t0 t1 (by decide) (by decide) (show i < 16 by omega) (by decide) (by decide) (by decide)
    have T2 : fTa_tell 53 (nI i) 2 t = some (t 54 (i * 3 + 2), t) := e_tell (j := 2) t0 t1 (by decide) (by decide) (show i < 16 by omega) (by decide) (by decide) (by decide)
    simp only [bnd_x, T0, T1, T2, bi_x]
    rw [ledU] at h
    refine w1_if (fun c1 => ?_) (fun c1 => ?_)
    · refine w1_if (fun c2 => ?_) (fun c2 => ?_)
      · rw [if_pos ⟨c1, c2⟩] at h
        rw [← h, Int32.add_sub_cancel]
        exact w1_s rfl
      · rw [if_neg (fun q => c2 q.2)] at h
        rw [nI_1]
        exact hp k _ _ (by omega) ⟨rfl, i + 1, by omega, rfl, h⟩
    · rw [if_neg (fun q => c1 q.1)] at h
      rw [nI_1]
      exact hp k _ _ (by omega) ⟨rfl, i + 1, by omega, rfl, h⟩
theorem led_m {c : Nat → Int32} {q w : Nat} {x : Int32} : ∀ (k i : Nat), ledU c q w i k = x → x ≠ 0 → ∃ r, i ≤ r ∧ r < i + k ∧ c (r * 3) = nI q ∧ c (r * 3 + 1) = nI w
  | 0, i, h, h0 => absurd h.symm h0
  | k + 1, i, h, h0 => by
    rw [ledU] at h
    by_cases c1 : c (i * 3) = nI q ∧ c (i * 3 + 1) = nI w
    · exact ⟨i, by omega, by omega, c1⟩
    · rw [if_neg c1] at h
      obtain ⟨r, h1, h2, h3⟩ := led_m k (i + 1) h h0
      exact ⟨r, by omega, by omega, h3⟩
theorem led_s {c : Nat → Int32} {q w r : Nat} : ∀ (k i : Nat), (∀ r, i ≤ r → r < i + k → bd (c (r * 3 + 2)) 9) → i ≤ r → r < i + k → c (r * 3) = nI q → c (r * 3 + 1) = nI w → ∃ p, p ≤ 9 ∧ ledU c q w i k = nI (p + 1)
  | 0, i, _, h1, h2, _, _ => by omega
  | k + 1, i, hb, h1, h2, h3, h4 => by
    rw [ledU]
    by_cases c1 : c (i * 3) = nI q ∧ c (i * 3 + 1) = nI w
    · rw [if_pos c1]
      obtain ⟨p, hp, e⟩ := hb i (by omega) (by omega)
      exact ⟨p, hp, by rw [e, nI_1]⟩
    · rw [if_neg c1]
      refine led_s k (i + 1) (fun r a b => hb r (by omega) (by omega)) ?_ (by omega) h3 h4
      refine Nat.lt_of_le_of_ne h1 (fun e => c1 ?_)
      rw [e]
      exact ⟨h3, h4⟩
theorem led_b {c : Nat → Int32} {q w : Nat} : ∀ (k i : Nat), (∀ r, i ≤ r → r < i + k → bd (c (r * 3 + 2)) 9) → bd (ledU c q w i k) 10
  | 0, i, _ => ⟨0, by omega, rfl⟩
  | k + 1, i, hb => by
    rw [ledU]
    split
    · obtain ⟨p, hp, e⟩ := hb i (by omega) (by omega)
      exact ⟨p + 1, by omega, by rw [e, nI_1]⟩
    · exact led_b k (i + 1) (fun r a b => hb r (by omega) (by omega))
/-- a step by the word v (-1: by any) -/
def Ev (c : Nat → Int32) (n : Nat) (v : Int32) (q p : Nat) : Prop := q < 10 ∧ p < 10 ∧ ∃ k, k < 20 ∧ (v = -1 ∨ v = nI k) ∧ ledU c q k 0 n = nI (p + 1)
theorem down_any {a : Sg} {n x y : Nat} (hn : n ≤ 16) (e1 : a 53 3 = nI n) (t0 : a 53 0 = nI 3) (t1 : a 53 1 = nI 16) (hr : ∀ i, i < n → bd (a 54 (i * 3)) 9 ∧ bd (a 54 (i * 3 + 1)) 19 ∧ bd (a 54 (i * 3 + 2)) 9) (hx : x < 10) (hy : y < 10) : W1 (fMu_stepsByAny (nI x) (nI y) a) (fun z => ∃ far, FarR (Ev (a 54) n (-1)) x 10 10 far ∧ z.1 = far y) := by
  unfold fMu_stepsByAny
  obtain ⟨s1, es, hs⟩ := e_start hx a
  have fs : ∀ o k, o ≠ 67 → s1 o k = a o k := fun o k h => fr_Mu_startAt (nI x) a s1 es o k (by simpa using h) (by simp)
  rw [es, bv_s]
  refine w1_lp (fun k v s => ∃ i, i + k = 10 ∧ v = nI i ∧ s 53 = a 53 ∧ s 54 = a 54 ∧ FarR (Ev (a 54) n (-1)) x 10 i (s 67)) ?_ FU 10 _ _ (FU_lt (by omega)) ⟨0, by omega, rfl, funext fun k => fs 53 k (by decide), funext fun k => fs 54 k (by decide), far_i hs⟩
  rintro p k v s ⟨i, hi, rfl, h53, h54, hf⟩ hp
  refine w1_if (fun c => ?_) (fun c => ?_)
  · have c := (nI_leI (a := 10) (b := i) (by decide) (by omega)).mp c
    rw [e_farOf hy, bi_s]
    rw [show i = 10 by omega] at hf
    exact w1_s ⟨s 67, hf, rfl⟩
  have c : ¬ 10 ≤ i := fun q => c ((nI_leI (a := 10) (b := i) (by decide) (by omega)).mpr q)
  refine w1_lp (fun j v t => ∃ r, r + j = n ∧ v = nI r ∧ t 53 = a 53 ∧ t 54 = a 54 ∧ FarP (Ev (a 54) n (-1)) x 10 i (fun q p => ∃ r', r' < r ∧ a 54 (r' * 3) = nI q ∧ ∃ w, w < 20 ∧ a 54 (r' * 3 + 1) = nI w ∧ ledU (a 54) q w 0 n = nI (p + 1)) (t 67)) ?_ FU n _ _ (FU_lt (by omega)) ⟨0, by omega, rfl, h53, h54, far_d (far_0 hf) (fun q p h => by obtain ⟨r', h, _⟩ := h; omega)⟩
  rintro p2 j v t ⟨r, hr2, rfl, u53, u54, hP⟩ hp2
  rw [u53, e1]
  refine w1_if (fun c2 => ?_) (fun c2 => ?_)
  · rw [nI_leI (by omega) (by omega)] at c2
    rw [nI_1]
    refine hp (k - 1) _ _ (by omega) ⟨i + 1, by omega, rfl, u53, u54, far_e hP (fun q p _ hE => ?_)⟩
    obtain ⟨h1, h2, w, h3, _, h4⟩ := hE
    obtain ⟨r', h5, h6, h7, h8⟩ := led_m n 0 h4 (nI_ne0 (by omega) (by omega))
    exact ⟨r', by omega, h7, w, h3, h8, h4⟩
  · rw [nI_leI (by omega) (by omega)] at c2
    obtain ⟨⟨q, hq, eq⟩, ⟨w, hw, ew⟩, _⟩ := hr r (by omega)
    have v0 : t 53 0 = nI 3 := by rw [u53]; exact t0
    have v1 : t 53 1 = nI 16 := by rw [u53]; exact t1
    have v3 : t 53 3 = nI n := by rw [u53]; exact e1
    have T0 : fTa_tell 53 (nI r) 0 t = some (nI q, t) := by
      have := e_tell (s := t) (t := 53) (i := r) (j := 0) (w := 3) (l := 16) v0 v1 (by decide) (by decide) (show r < 16 by omega) (by decide) (by decide) (by decide)
      rw [show hz_rf 53 2 = 54 from rfl, u54, show r * 3 + 0 = r * 3 from rfl, eq] at this
      exact this
    have T1 : fTa_tell 53 (nI r) 1 t = some (nI w, t) := by
      have := e_tell (s := t) (t := 53) (i := r) (j := 1) (w := 3) (l := 16) v0 v1 (by decide) (by decide) (show r < 16 by omega) (by decide) (by decide) (by decide)
      rw [show hz_rf 53 2 = 54 from rfl, u54, ew] at this
      exact this
    obtain ⟨p, hp9, el⟩ := led_s (c := a 54) (q := q) (w := w) (r := r) n 0 (fun r' _ h => (hr r' (by omega)).2.2) (by omega) (by omega) eq ew
    have L : fMu_leadsTo (nI q) (nI w) t = some (nI p, t) := by
      rw [e_leads hn v3 v0 v1, u54, el, nI_pred]
    simp only [bnd_x, T0, T1, bi_x, e_farOf (show q < 10 by omega), L, e_reach (show p < 10 by omega), bv_x, nI_1]
    have hE : Ev (a 54) n (-1) q p := ⟨by omega, by omega, w, by omega, Or.inl rfl, el⟩
    refine w1_if (fun c3 => ?_) (fun c3 => ?_)
    · have hF := (far_f hP (show q < 10 by omega) (by omega)).mp c3
      have hS := far_d (D' := fun q p => ∃ r', r' < r + 1 ∧ a 54 (r' * 3) = nI q ∧ ∃ w, w < 20 ∧ a 54 (r' * 3 + 1) = nI w ∧ ledU (a 54) q w 0 n = nI (p + 1)) (far_s (by omega) hP hF hE) (fun q' p' h _ hE' => by
        obtain ⟨r', h1, h2, w', h3, h4, h5⟩ := h
        by_cases e : r' = r
        · subst e
          rw [eq] at h2
          rw [ew] at h4
          have hq1 := hE'.1
          have e1 := nI_inj (by omega) (by omega) h2
          have e2 := nI_inj (by omega) (by omega) h4
          subst e1; subst e2
          rw [el] at h5
          have hp1 := hE'.2.1
          have e3 := nI_inj (by omega) (by omega) h5
          exact Or.inr ⟨rfl, by omega⟩
        · exact Or.inl ⟨r', by omega, h2, w', h3, h4, h5⟩)
      refine hp2 (j - 1) _ _ (by omega) ⟨r + 1, by omega, rfl, ?_, ?_, far_c hS (fun k hk => ?_)⟩
      · split
        · rw [ptq _ _ _ (by decide)]; exact u53
        · exact u53
      · split
        · rw [ptq _ _ _ (by decide)]; exact u54
        · exact u54
      · by_cases c4 : t 67 p = -1
        · rw [if_pos c4]
          by_cases e : k = p
          · subst e; rw [pt_s, if_pos ⟨rfl, c4⟩]
          · rw [pt_k _ _ _ e, if_neg (fun h => e h.1)]
        · rw [if_neg c4, if_neg (fun h => c4 h.2)]
    · refine hp2 (j - 1) _ _ (by omega) ⟨r + 1, by omega, rfl, u53, u54, far_d hP (fun q' p' h hF hE' => ?_)⟩
      obtain ⟨r', h1, h2, w', h3, h4, h5⟩ := h
      by_cases e : r' = r
      · subst e
        rw [eq] at h2
        have hq1 := hE'.1
        have e1 := nI_inj (by omega) (by omega) h2
        subst e1
        exact absurd ((far_f hP (show q < 10 by omega) (by omega)).mpr hF) c3
      · exact ⟨r', by omega, h2, w', h3, h4, h5⟩
