/-! TEXT: the reference reads a token -/
def rkM (o : Nat) (t : Tk) (tok val : Int32) : Prop :=
  if t.1 = 0 then tok = 0 else if t.1 = 1 then tok = 3 ∧ val = nI t.2.2 else if t.1 = 2 then (tok = 1 ∨ (tok = 2 ∧ ∃ w, w < 23 ∧ (∀ i, i < (kW o).length → kj o i ≠ w) ∧ val = nI w)) else if t.1 < 256 then tok = 4 ∧ val = nI t.1 else tok = 2 ∧ val = nI (kj o (t.1 - 256))
/-- the reference stands at the first of these tokens -/
def MT (T : Nat → Nat) (n o : Nat) (s : Sg) : List Tk → Prop
  | [] => False
  | t :: r => TP s T n ∧ s 102 14 = nI t.2.1 ∧ rkM o t (s 102 15) (s 102 16) ∧ (r = [] ∨ ∃ q, s 102 13 = nI q ∧ chn T n o r q)
theorem TP_f {s : Sg} {T : Nat → Nat} {n k : Nat} {v : Int32} (hk : 12 ≠ k) (h : TP s T n) : TP (pt s 102 k v) T n := by
  obtain ⟨h1, h2, h3, h4⟩ := h
  exact ⟨h1, by rw [pt_k _ _ _ hk]; exact h2, by rw [ptq _ _ _ (by decide)]; exact h3, by rw [ptq _ _ _ (by decide)]; exact h4⟩
theorem TP_c {s s' : Sg} {T : Nat → Nat} {n : Nat} (h : TP s T n) (h1 : s' 102 12 = s 102 12) (h2 : s' 110 = s 110) (h3 : s' 111 = s 111) : TP s' T n := by
  unfold TP
  rw [h1, h2, h3]
  exact h
theorem m_raw {s : Sg} {T : Nat → Nat} {n k : Nat} (h : TP s T n) (hk : k ≤ 400) : fM_raw (nI k) s = some (if k < n then nI (T k) else -1, s) := by
  obtain ⟨h1, h2, h3, h4⟩ := h
  unfold fM_raw
  rw [h2]
  by_cases g : k < n
  · rw [if_neg (by rw [nI_leI (by omega) (by omega)]; omega), gd_n _ (by omega) (by decide), ix_n (by omega), (h3 k (by omega)).1, if_pos g]
  · rw [if_pos (by rw [nI_leI (by omega) (by omega)]; omega), if_neg g]
theorem chn_B2 {T : Nat → Nat} {n o : Nat} {R : List Tk} {u : Nat} (hu : u < n) (hB : isB (T u)) (h : chn T n o R u) : chn T n o R (u + 1) := by
  match R, h with
  | t :: r, h =>
    rcases h with ⟨h1, h2, h3, h4⟩ | ⟨h1, q', h2, h3, h4, h5, h6⟩
    · exact Or.inl ⟨h1, h2, by omega, fun j hj hj2 => h4 j (by omega) hj2⟩
    · have : u ≠ t.2.1 := by
        intro e
        rw [← e] at h5
        rcases h5 with ⟨x, _⟩ | ⟨x, _⟩ | ⟨_, _, x, _⟩
        · unfold isB isL at *; omega
        · unfold isB isD at *; omega
        · exact x hB
      exact Or.inr ⟨h1, q', by omega, h3, fun j hj hj2 => h4 j (by omega) hj2, h5, h6⟩
theorem eqw_u {T : Nat → Nat} {p q : Nat} {w w' : List Nat} (h : eqw T p q w) (h' : eqw T p q w') : w = w' := by
  have hl : w.length = w'.length := by
    have := h.1
    have := h'.1
    omega
  refine List.ext_getElem hl (fun i h1 h2 => ?_)
  have a := h.2 i h1
  have b := h'.2 i h2
  rw [a] at b
  simpa [List.getD, h1, h2] using b
theorem wd_inj : ∀ i, i < 23 → ∀ j, j < 23 → wd i = wd j → i = j := by decide +kernel
theorem sg_rg {c : Nat} (h : isS c) : 3 ≤ c ∧ c < 256 := by
  have : ∀ x ∈ [59, 43, 45, 42, 47, 40, 41, 60, 61, 62], 3 ≤ x ∧ x < 256 := by decide
  exact this c h
theorem m_reads {s : Sg} {T : Nat → Nat} {n o q0 : Nat} {L : List Tk} (ho : o < 4) (hT : TP s T n) (h13 : s 102 13 = nI q0) (hch : chn T n o L q0) (hq0 : q0 ≤ n) : W1 (fM_reads s) (fun t => MT T n o t L) := by
  have hn := hT.1
  unfold fM_reads
  refine w1_lp (fun k v t => ∃ q, q + k = n ∧ TP t T n ∧ t 102 13 = nI q ∧ chn T n o L q) ?_ FU (n - q0) _ _ (FU_lt (by omega)) ⟨q0, by omega, hT, h13, hch⟩
  clear hch h13 hT hq0
  rintro q k v t ⟨p, hp, hT, h13, hch⟩ hq
  rw [h13, m_raw hT (by omega), bi_s]
  refine w1_j (fun (J : Sg → Option Sg) => p < n → isB (T p) → W1 (J t) (fun t => MT T n o t L)) ?_ (fun j26 h26 => ?_)
  · intro hpn hB
    rw [bnd_e, h13, nI_1]
    exact hq (k - 1) _ _ (by omega) ⟨p + 1, by omega, TP_f (by decide) hT, pt_s _ _ _ _, chn_B2 hpn hB hch⟩
  by_cases hpn : p < n
  rotate_left
  · -- the end
    obtain rfl : p = n := by omega
    rw [if_neg hpn, if_neg (by decide), h13, m_raw hT (by omega), bi_s, if_neg hpn, if_neg (by decide), bnd_e, bnd_e, pt_k _ _ _ (show (13 : Nat) ≠ 15 by decide), pt_k _ _ _ (show (13 : Nat) ≠ 14 by decide), h13, m_raw (TP_f (by decide) (TP_f (by decide) hT)) (by omega), bi_s, if_neg hpn, if_pos rfl, bnd_e]
    match L, hch with
    | x :: r, h =>
      rcases h with ⟨h1, h2, h3, h4⟩ | ⟨h1, q', h2, h3, _⟩
      · subst h2
        exact w1_s ⟨TP_f (by decide) (TP_f (by decide) (TP_f (by decide) hT)), by rw [pt_k _ _ _ (by decide), pt_k _ _ _ (by decide), pt_s], by rw [pt_s]; exact rfl, Or.inl h1⟩
      · omega
  have hc := (hT.2.2.1 p (by omega)).2
  rw [if_pos hpn]
  by_cases hB : isB (T p)
  · rcases hB with e | e
    · rw [if_pos (by rw [e]; rfl)]
      exact h26 hpn (Or.inl e)
    · rw [if_neg (by rw [e]; decide), h13, m_raw hT (by omega), bi_s, if_pos hpn, if_pos (by rw [e]; rfl)]
      exact h26 hpn (Or.inr e)
  rw [if_neg (show ¬ nI (T p) = 32 from fun e => hB (Or.inl (nI_inj (by omega) (by decide) e))), h13, m_raw hT (by omega), bi_s, if_pos hpn, if_neg (show ¬ nI (T p) = 10 from fun e => hB (Or.inr (nI_inj (by omega) (by decide) e))), bnd_e, bnd_e, pt_k _ _ _ (show (13 : Nat) ≠ 15 by decide), pt_k _ _ _ (show (13 : Nat) ≠ 14 by decide), h13, m_raw (TP_f (by decide) (TP_f (by decide) hT)) (by omega), bi_s, if_pos hpn, if_neg (nI_m1 (by omega)), bnd_e, bnd_e]
  -- the token at p
  obtain ⟨x, r, q', rfl, hx, htk, hcr⟩ : ∃ x r q', L = x :: r ∧ x.2.1 = p ∧ tkAt T n o p x.1 x.2.2 q' ∧ chn T n o r q' := by
    match L, hch with
    | x :: r, h =>
      rcases h with ⟨h1, h2, h3, h4⟩ | ⟨h1, q', h2, h3, h4, h5, h6⟩
      · exact absurd (h4 p (by omega) hpn) hB
      · have e : x.2.1 = p := by
          by_cases e : x.2.1 = p
          · exact e
          · exact absurd (h4 p (by omega) (by omega)) hB
        rw [e] at h5
        exact ⟨x, r, q', rfl, e, h5, h6⟩
  have e13 : ∀ (u : Sg) (a b : Int32), pt (pt (pt t 102 14 a) 102 15 b) 102 13 (nI (p + 1)) 102 13 = nI (p + 1) := fun _ _ _ => pt_s _ _ _ _
  generalize hs0 : pt (pt (pt (pt t 102 14 (nI p)) 102 15 1) 102 13 (pt (pt t 102 14 (nI p)) 102 15 1 102 13 + 1)) 102 16 (nI (T p)) = s0
  have f13 : s0 102 13 = nI (p + 1) := by rw [← hs0, pt_k _ _ _ (by decide), pt_s, pt_k _ _ _ (by decide), pt_k _ _ _ (by decide), h13, nI_1]
  have f14 : s0 102 14 = nI p := by rw [← hs0, pt_k _ _ _ (by decide), pt_k _ _ _ (by decide), pt_k _ _ _ (by decide), pt_s]
  have f15 : s0 102 15 = 1 := by rw [← hs0, pt_k _ _ _ (by decide), pt_k _ _ _ (by decide), pt_s]
  have f16 : s0 102 16 = nI (T p) := by rw [← hs0, pt_s]
  have fT : TP s0 T n := by rw [← hs0]; exact TP_f (by decide) (TP_f (by decide) (TP_f (by decide) (TP_f (by decide) hT)))
  clear hs0 e13
  rw [e_mL (by omega), bi_s]
  rcases htk with ⟨hl, hr, hv, hk⟩ | ⟨hd, hr, hv, hk⟩ | ⟨hl, hd, _, rfl, hv, hk⟩
  · -- a word
    rw [if_pos hl, if_neg n10z]
    obtain ⟨r1, r2, r3, r4⟩ := hr
    refine w1_lp (fun k v t => ∃ i, i + k = q' ∧ p < i ∧ TP t T n ∧ t 102 13 = nI i ∧ t 102 14 = nI p ∧ t 102 15 = 1) ?_ FU (q' - (p + 1)) _ _ (FU_lt (by omega)) ⟨p + 1, by omega, by omega, fT, f13, f14, f15⟩
    rintro q2 k2 v t2 ⟨i, hi, hpi, g1, g2, g3, g4⟩ hq2
    rw [g2, m_raw g1 (by omega), bi_s]
    by_cases hiq : i < q'
    · rw [if_pos (by omega), e_mL (by have := (g1.2.2.1 i (by omega)).2; omega), bi_s, if_pos (r3 i (by omega) hiq), if_neg n10z, bnd_e, g2, nI_1]
      exact hq2 (k2 - 1) _ _ (by omega) ⟨i + 1, by omega, by omega, TP_f (by decide) g1, pt_s _ _ _ _, by rw [pt_k _ _ _ (by decide)]; exact g3, by rw [pt_k _ _ _ (by decide)]; exact g4⟩
    · obtain rfl : i = q' := by omega
      have hend : W1 (bi (fM_wordAt (t2 102 14) (t2 102 13) t2) fun r39 s38 => bnd (pt s38 102 16 r39) fun s40 => if (s40 102 16) = (-1) then (some s40) else (bnd (pt s40 102 15 2) fun s41 => some s41)) (fun t => MT T n o t (x :: r)) := by
        rw [g2, g3]
        refine w1_bi (w1_m (m_word g1 (by omega) r3 r1) (fun z hz => ?_))
        obtain ⟨w, t3⟩ := z
        obtain ⟨e1, e2⟩ := hz
        dsimp only at e1 e2 ⊢
        subst e1
        rw [bnd_e, pt_s]
        rcases e2 with ⟨j, hj, rfl, hje⟩ | ⟨rfl, hno⟩
        · rw [if_neg (nI_m1 (by omega)), bnd_e]
          refine w1_s ⟨TP_f (by decide) (TP_f (by decide) g1), by rw [pt_k _ _ _ (by decide), pt_k _ _ _ (by decide), hx]; exact g3, ?_, Or.inr ⟨i, by rw [pt_k _ _ _ (by decide), pt_k _ _ _ (by decide)]; exact g2, hcr⟩⟩
          rw [pt_s, pt_k _ _ _ (by decide), pt_s]
          unfold rkM
          rcases hk with ⟨j0, h0, h1, h2⟩ | ⟨h1, h2⟩
          · have : j = kj o j0 := wd_inj j hj _ ((kw_ok o ho j0 h0).1) (eqw_u hje h1)
            rw [if_neg (by omega), if_neg (by omega), if_neg (by omega), if_neg (by omega), h2, Nat.add_sub_cancel_left]
            exact ⟨rfl, by rw [this]⟩
          · rw [if_neg (by omega), if_neg (by omega), if_pos h1]
            exact Or.inr ⟨rfl, j, hj, fun i hi e => h2 i hi (by rw [e]; exact hje), rfl⟩
        · rw [if_pos rfl]
          refine w1_s ⟨TP_f (by decide) g1, by rw [pt_k _ _ _ (by decide), hx]; exact g3, ?_, Or.inr ⟨i, by rw [pt_k _ _ _ (by decide)]; exact g2, hcr⟩⟩
          rw [pt_s, pt_k _ _ _ (by decide), g4]
          unfold rkM
          rcases hk with ⟨j0, h0, h1, h2⟩ | ⟨h1, h2⟩
          · exact absurd h1 (hno _ (kw_ok o ho j0 h0).1)
          · rw [if_neg (by omega), if_neg (by omega), if_pos h1]
            exact Or.inl rfl
      by_cases hin : i < n
      · rw [if_pos hin, e_mL (by have := (g1.2.2.1 i (by omega)).2; omega), bi_s, if_neg (r4 hin), if_pos rfl]
        exact hend
      · rw [if_neg hin, e_mLn, bi_s, if_pos rfl]
        exact hend
  · -- a number
    have hl : ¬ isL (T p) := by unfold isL isD at *; omega
    rw [if_neg hl, if_pos rfl, e_mD (by omega), bi_s, if_pos hd, if_neg n10z, bnd_e]
    obtain ⟨r1, r2, r3, r4⟩ := hr
    have e0 : nI (T p) - 48 = nI (dv T p 1) := by
      rw [show (48 : Int32) = nI 48 from rfl, pk_sub (by unfold isD at hd; omega)]
      congr 1
      show _ = 10 * 0 + (T (p + 0) - 48)
      simp
    refine w1_lp (fun k v t => ∃ i, i + k = q' ∧ p < i ∧ TP t T n ∧ t 102 13 = nI i ∧ t 102 14 = nI p ∧ t 102 15 = 1 ∧ (i - p ≤ 4 → t 102 16 = nI (dv T p (i - p)))) ?_ FU (q' - (p + 1)) _ _ (FU_lt (by omega)) ⟨p + 1, by omega, by omega, TP_f (by decide) fT, by rw [pt_k _ _ _ (by decide)]; exact f13, by rw [pt_k _ _ _ (by decide)]; exact f14, by rw [pt_k _ _ _ (by decide)]; exact f15, fun _ => by rw [pt_s, e0, Nat.add_sub_cancel_left]⟩
    rintro q2 k2 v t2 ⟨i, hi, hpi, g1, g2, g3, g4, g5⟩ hq2
    rw [g2, m_raw g1 (by omega), bi_s]
    by_cases hiq : i < q'
    · have hdi := r3 i (by omega) hiq
      have hle := (g1.2.2.1 i (by omega)).2
      rw [if_pos (by omega), e_mD (by omega), bi_s, if_pos hdi, if_neg n10z]
      refine w1_j (fun (J : Int32 → Sg → Option Sg) => ∀ y, (i + 1 - p ≤ 4 → y = nI (dv T p (i + 1 - p))) → W1 (J y t2) (fun t => MT T n o t (x :: r))) ?_ (fun j223 h223 => ?_)
      · intro y hy
        rw [bnd_e, bnd_e, pt_k _ _ _ (show (13 : Nat) ≠ 16 by decide), g2, nI_1]
        exact hq2 (k2 - 1) _ _ (by omega) ⟨i + 1, by omega, by omega, TP_f (by decide) (TP_f (by decide) g1), pt_s _ _ _ _, by rw [pt_k _ _ _ (by decide), pt_k _ _ _ (by decide)]; exact g3, by rw [pt_k _ _ _ (by decide), pt_k _ _ _ (by decide)]; exact g4, fun h => by rw [pt_k _ _ _ (by decide), pt_s]; exact hy h⟩
      · refine w1_if (fun g => ?_) (fun g => ?_)
        · refine h223 _ (fun h => ?_)
          have hlt := dv_lt (T := T) (p := p) (i - p) (fun j hj => r3 _ (by omega) (by omega))
          have h3 : 10 ^ (i - p) ≤ 10 ^ 3 := Nat.pow_le_pow_right (by decide) (by omega)
          rw [g5 (by omega), show (10000 : Int32) = nI 10000 from rfl, nI_leI (by decide) (by omega)] at g
          omega
        · rw [g2, m_raw g1 (by omega), bi_s, if_pos (by omega)]
          refine h223 _ (fun h => ?_)
          have := dv_s (T := T) (p := p) (m := i - p) (by rw [show p + (i - p) = i by omega]; exact hdi)
          rw [show p + (i - p) = i by omega, show i - p + 1 = i + 1 - p by omega] at this
          rw [g5 (by omega), this]
    · obtain rfl : i = q' := by omega
      have hend : W1 (if 5 ≤ ((t2 102 13) - (t2 102 14)) then (some t2) else (bnd (pt t2 102 15 3) fun s27 => some s27)) (fun t => MT T n o t (x :: r)) := by
        rw [g2, g3, pk_sub (by omega), show (5 : Int32) = nI 5 from rfl]
        refine w1_if (fun g => ?_) (fun g => ?_)
        · rw [nI_leI (by decide) (by omega)] at g
          refine w1_s ⟨g1, by rw [hx]; exact g3, ?_, Or.inr ⟨i, g2, hcr⟩⟩
          rw [if_neg (by omega)] at hk
          unfold rkM
          rw [if_neg (by omega), if_neg (by omega), if_pos hk]
          exact Or.inl g4
        · rw [nI_leI (by decide) (by omega)] at g
          rw [bnd_e]
          refine w1_s ⟨TP_f (by decide) g1, by rw [pt_k _ _ _ (by decide), hx]; exact g3, ?_, Or.inr ⟨i, by rw [pt_k _ _ _ (by decide)]; exact g2, hcr⟩⟩
          rw [if_pos (by omega)] at hk
          rw [pt_s, pt_k _ _ _ (by decide)]
          unfold rkM
          rw [if_neg (by omega), if_pos hk]
          exact ⟨rfl, by rw [g5 (by omega), hv, Nat.min_eq_right (by omega)]⟩
      by_cases hin : i < n
      · rw [if_pos hin, e_mD (by have := (g1.2.2.1 i (by omega)).2; omega), bi_s, if_neg (r4 hin), if_pos rfl]
        exact hend
      · rw [if_neg hin, e_mDn, bi_s, if_pos rfl]
        exact hend
  · -- a sign, or nothing
    rw [if_neg hl, if_pos rfl, e_mD (by omega), bi_s, if_neg hd, if_pos rfl, e_mS hc, bi_s]
    by_cases hS : isS (T p)
    · rw [if_pos hS, if_neg n10z, bnd_e]
      rw [if_pos hS] at hk
      have := sg_rg hS
      refine w1_s ⟨TP_f (by decide) fT, by rw [pt_k _ _ _ (by decide), hx]; exact f14, ?_, Or.inr ⟨p + 1, by rw [pt_k _ _ _ (by decide)]; exact f13, hcr⟩⟩
      rw [pt_s, pt_k _ _ _ (by decide)]
      unfold rkM
      rw [if_neg (by omega), if_neg (by omega), if_neg (by omega), if_pos (by omega), hk]
      exact ⟨rfl, f16⟩
    · rw [if_neg hS, if_pos rfl]
      rw [if_neg hS] at hk
      refine w1_s ⟨fT, by rw [hx]; exact f14, ?_, Or.inr ⟨p + 1, f13, hcr⟩⟩
      unfold rkM
      rw [if_neg (by omega), if_neg (by omega), if_pos hk]
      exact Or.inl f15
