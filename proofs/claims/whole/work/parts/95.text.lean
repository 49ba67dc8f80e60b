/-! TEXT: what is taken over -/
theorem g1_c {a b a' b' : Sg} (h : Bg 1 a b) (c1 : a' 25 3 = a 25 3) (c2 : ∀ k, k < 64 → a' 26 k = a 26 k) (m1 : b' 102 34 = b 102 34) (m2 : b' 102 6 = b 102 6) (m3 : ∀ k, k < 64 → b' 120 k = b 120 k) : Grp 1 a' b' := by
  obtain ⟨n, N, h1, h2, h3, h4, h5, h6⟩ := h
  refine ⟨n, N, h1, h2, by rw [c1]; exact h3, by rw [m1]; exact h4, by rw [m2]; exact h5, fun i hi => ?_⟩
  obtain ⟨y1, y2, y3⟩ := h6 i hi
  refine ⟨fun j hj => ?_, ?_, ?_⟩
  · rw [c2 _ (by omega), m3 _ (by omega)]; exact y1 j hj
  · rw [m3 _ (by omega)]; exact y2
  · rw [m3 _ (by omega)]; exact y3
theorem g2_c {a b a' b' : Sg} (h : Bg 2 a b) (c1 : a' 27 3 = a 27 3) (c2 : ∀ k, k < 32 → a' 28 k = a 28 k) (m1 : b' 102 36 = b 102 36) (m3 : ∀ k, k < 32 → b' 121 k = b 121 k) : Grp 2 a' b' := by
  obtain ⟨n, h1, h2, h3, h4⟩ := h
  refine ⟨n, h1, by rw [c1]; exact h2, by rw [m1]; exact h3, fun i hi => ?_⟩
  rw [c2 (i * 2) (by omega), c2 (i * 2 + 1) (by omega), m3 (i * 2) (by omega), m3 (i * 2 + 1) (by omega)]
  exact h4 i hi
theorem g3_c {a b a' b' : Sg} (h : Bg 3 a b) (c1 : a' 19 4 = a 19 4) (c2 : ∀ k, k < 20 → a' 29 k = a 29 k) (m1 : b' 102 38 = b 102 38) (m3 : ∀ k, k < 20 → b' 122 k = b 122 k) : Grp 3 a' b' := by
  obtain ⟨h1, h2⟩ := h
  refine ⟨by rw [c1, m1]; exact h1, fun w hw => ?_⟩
  rw [c2 w hw, m3 w hw]
  exact h2 w hw
theorem g4_c {a b a' b' : Sg} (h : Bg 4 a b) (c1 : a' 21 3 = a 21 3) (c2 : a' 22 = a 22) (c3 : a' 20 3 = a 20 3) (c4 : a' 23 = a 23) (m1 : b' 112 0 = b 112 0) (m2 : L16 b b') (m3 : LW b b') : Grp 4 a' b' := by
  obtain ⟨n, z, h1, h2, h3, h4, h5, h6⟩ := h
  refine ⟨n, z, h1, h2, by rw [c1]; exact h3, by rw [m1]; exact h4, by rw [c3]; exact h5, fun l hl => ?_⟩
  obtain ⟨v1, v2, v3, v4⟩ := m2 l (by omega)
  rw [c2, v1, v2, v3, v4]
  exact gLn_cp h2 (fun k _ => by rw [c4]) m3 (h6 l hl)
theorem m_takesLaw {s : Sg} {m c : Nat} (hm : m ≤ 16) (hc : c ≤ 400) (h25 : s 102 25 = 0) (h26 : s 102 26 = nI c) : W1 (fM_takesLaw (nI m) s) (fun t => t 112 0 = nI m ∧ (∀ l, l < m → t 113 l = s 113 (32 + l) ∧ t 114 l = s 114 (32 + l) ∧ t 115 l = s 115 (32 + l) ∧ t 116 l = s 116 (32 + l)) ∧ ∀ k, k < c → t 117 k = s 117 (800 + k) ∧ t 118 k = s 118 (800 + k)) := by
  have e16 : ∀ x : Int32, 16 * 0 + x = x := fun x => by rw [show (16 : Int32) * 0 = 0 from rfl, Int32.zero_add]
  have e400 : ∀ x : Int32, 400 * 0 + x = x := fun x => by rw [show (400 : Int32) * 0 = 0 from rfl, Int32.zero_add]
  unfold fM_takesLaw
  refine w1_lp (fun k v t => ∃ i, i + k = m ∧ v = nI i ∧ t 102 = s 102 ∧ t 117 = s 117 ∧ t 118 = s 118 ∧ (∀ l, 32 ≤ l → t 113 l = s 113 l ∧ t 114 l = s 114 l ∧ t 115 l = s 115 l ∧ t 116 l = s 116 l) ∧ ∀ l, l < i → t 113 l = s 113 (32 + l) ∧ t 114 l = s 114 (32 + l) ∧ t 115 l = s 115 (32 + l) ∧ t 116 l = s 116 (32 + l)) ?_ FU m _ _ (FU_lt (by omega)) ⟨0, by omega, rfl, rfl, rfl, rfl, fun _ _ => ⟨rfl, rfl, rfl, rfl⟩, fun l hl => by omega⟩
  rintro q k v t ⟨i, hi, rfl, t102, t117, t118, tu, tl⟩ hq
  refine w1_if (fun g => ?_) (fun g => ?_)
  rotate_left
  · rw [nI_leI (by omega) (by omega)] at g
    rw [show (32 : Int32) = nI 32 from rfl, nI_add, t102, h25, e16, gd_n _ (show 32 + i < 48 by omega) (by decide), gd_n _ (show i < 48 by omega) (by decide), ix_n (show 32 + i < 2 ^ 31 by omega), ix_n (show i < 2 ^ 31 by omega), bnd_e]
    obtain ⟨u1, u2, u3, u4⟩ := tu (32 + i) (by omega)
    have q6 : ∀ o, o ≠ 113 → pt t 113 i (t 113 (32 + i)) o = t o := fun o h => ptq _ _ _ h
    rw [q6 102 (by decide), t102, h25, e16, gd_n _ (show 32 + i < 48 by omega) (by decide), gd_n _ (show i < 48 by omega) (by decide), ix_n (show i < 2 ^ 31 by omega), bnd_e]
    generalize hg6 : pt t 113 i (t 113 (32 + i)) = s6 at q6 ⊢
    have q7 : ∀ o, o ≠ 114 → pt s6 114 i (s6 114 (32 + i)) o = s6 o := fun o h => ptq _ _ _ h
    rw [q7 102 (by decide), q6 102 (by decide), t102, h25, e16, gd_n _ (show 32 + i < 48 by omega) (by decide), gd_n _ (show i < 48 by omega) (by decide), ix_n (show i < 2 ^ 31 by omega), bnd_e]
    generalize hg7 : pt s6 114 i (s6 114 (32 + i)) = s7 at q7 ⊢
    have q8 : ∀ o, o ≠ 115 → pt s7 115 i (s7 115 (32 + i)) o = s7 o := fun o h => ptq _ _ _ h
    rw [q8 102 (by decide), q7 102 (by decide), q6 102 (by decide), t102, h25, e16, gd_n _ (show 32 + i < 48 by omega) (by decide), gd_n _ (show i < 48 by omega) (by decide), ix_n (show i < 2 ^ 31 by omega), bnd_e]
    generalize hg8 : pt s7 115 i (s7 115 (32 + i)) = s8 at q8 ⊢
    have q9 : ∀ o, o ≠ 116 → pt s8 116 i (s8 116 (32 + i)) o = s8 o := fun o h => ptq _ _ _ h
    generalize hg9 : pt s8 116 i (s8 116 (32 + i)) = s9 at q9 ⊢
    have z113 : ∀ l, s9 113 l = if l = i then t 113 (32 + i) else t 113 l := fun l => by
      rw [q9 113 (by decide), q8 113 (by decide), q7 113 (by decide), ← hg6]
      by_cases e : l = i
      · rw [if_pos e, e, pt_s]
      · rw [if_neg e, pt_k _ _ _ e]
    have z114 : ∀ l, s9 114 l = if l = i then t 114 (32 + i) else t 114 l := fun l => by
      rw [q9 114 (by decide), q8 114 (by decide), ← hg7]
      by_cases e : l = i
      · rw [if_pos e, e, pt_s, q6 114 (by decide)]
      · rw [if_neg e, pt_k _ _ _ e, q6 114 (by decide)]
    have z115 : ∀ l, s9 115 l = if l = i then t 115 (32 + i) else t 115 l := fun l => by
      rw [q9 115 (by decide), ← hg8]
      by_cases e : l = i
      · rw [if_pos e, e, pt_s, q7 115 (by decide), q6 115 (by decide)]
      · rw [if_neg e, pt_k _ _ _ e, q7 115 (by decide), q6 115 (by decide)]
    have z116 : ∀ l, s9 116 l = if l = i then t 116 (32 + i) else t 116 l := fun l => by
      rw [← hg9]
      by_cases e : l = i
      · rw [if_pos e, e, pt_s, q8 116 (by decide), q7 116 (by decide), q6 116 (by decide)]
      · rw [if_neg e, pt_k _ _ _ e, q8 116 (by decide), q7 116 (by decide), q6 116 (by decide)]
    rw [nI_1]
    refine hq (k - 1) _ _ (by omega) ⟨i + 1, by omega, rfl, ?_, ?_, ?_, fun l hl => ?_, fun l hl => ?_⟩
    · rw [q9 102 (by decide), q8 102 (by decide), q7 102 (by decide), q6 102 (by decide)]; exact t102
    · rw [q9 117 (by decide), q8 117 (by decide), q7 117 (by decide), q6 117 (by decide)]; exact t117
    · rw [q9 118 (by decide), q8 118 (by decide), q7 118 (by decide), q6 118 (by decide)]; exact t118
    · rw [z113, z114, z115, z116, if_neg (by omega), if_neg (by omega), if_neg (by omega), if_neg (by omega)]
      exact tu l hl
    · rw [z113, z114, z115, z116]
      by_cases e : l = i
      · subst e
        rw [if_pos rfl, if_pos rfl, if_pos rfl, if_pos rfl]
        exact ⟨u1, u2, u3, u4⟩
      · rw [if_neg e, if_neg e, if_neg e, if_neg e]
        exact tl l (by omega)
  rw [nI_leI (by omega) (by omega)] at g
  clear hq
  refine w1_lp (fun k v t' => ∃ j, j + k = c ∧ v = nI j ∧ t' 102 = s 102 ∧ (∀ o, o ∈ [113, 114, 115, 116] → t' o = t o) ∧ (∀ l, 800 ≤ l → t' 117 l = s 117 l ∧ t' 118 l = s 118 l) ∧ ∀ l, l < j → t' 117 l = s 117 (800 + l) ∧ t' 118 l = s 118 (800 + l)) ?_ FU c _ _ (FU_lt (by omega)) ⟨0, by omega, rfl, t102, fun _ _ => rfl, fun l _ => by rw [t117, t118]; exact ⟨rfl, rfl⟩, fun l hl => by omega⟩
  rintro q k' v t' ⟨j, hj, rfl, r102, r4, ru, rl⟩ hq
  rw [r102, h26, h25]
  refine w1_if (fun g2 => ?_) (fun g2 => ?_)
  · rw [nI_leI (by omega) (by omega)] at g2
    rw [show (0 : Int32) = nI 0 from rfl, gd_n _ (show 0 < 2 by decide) (by decide), ix_n (by decide), bnd_e]
    refine w1_s ⟨pt_s _ _ _ _, fun l hl => ?_, fun l hl => ?_⟩
    · rw [ptq _ _ _ (by decide), ptq _ _ _ (by decide), ptq _ _ _ (by decide), ptq _ _ _ (by decide), r4 113 (by decide), r4 114 (by decide), r4 115 (by decide), r4 116 (by decide)]
      exact tl l (by omega)
    · rw [ptq _ _ _ (by decide), ptq _ _ _ (by decide)]
      exact rl l (by omega)
  · rw [nI_leI (by omega) (by omega)] at g2
    rw [show (800 : Int32) = nI 800 from rfl, nI_add, e400, gd_n _ (show 800 + j < 1200 by omega) (by decide), gd_n _ (show j < 1200 by omega) (by decide), ix_n (show 800 + j < 2 ^ 31 by omega), ix_n (show j < 2 ^ 31 by omega), bnd_e]
    have q4 : ∀ o, o ≠ 117 → pt t' 117 j (t' 117 (800 + j)) o = t' o := fun o h => ptq _ _ _ h
    rw [q4 102 (by decide), r102, h25, e400, gd_n _ (show 800 + j < 1200 by omega) (by decide), gd_n _ (show j < 1200 by omega) (by decide), ix_n (show j < 2 ^ 31 by omega), bnd_e]
    generalize hg4 : pt t' 117 j (t' 117 (800 + j)) = s4 at q4 ⊢
    have q5 : ∀ o, o ≠ 118 → pt s4 118 j (s4 118 (800 + j)) o = s4 o := fun o h => ptq _ _ _ h
    generalize hg5 : pt s4 118 j (s4 118 (800 + j)) = s5 at q5 ⊢
    have z117 : ∀ l, s5 117 l = if l = j then t' 117 (800 + j) else t' 117 l := fun l => by
      rw [q5 117 (by decide), ← hg4]
      by_cases e : l = j
      · rw [if_pos e, e, pt_s]
      · rw [if_neg e, pt_k _ _ _ e]
    have z118 : ∀ l, s5 118 l = if l = j then t' 118 (800 + j) else t' 118 l := fun l => by
      rw [← hg5]
      by_cases e : l = j
      · rw [if_pos e, e, pt_s, q4 118 (by decide)]
      · rw [if_neg e, pt_k _ _ _ e, q4 118 (by decide)]
    rw [nI_1]
    obtain ⟨u1, u2⟩ := ru (800 + j) (by omega)
    refine hq (k' - 1) _ _ (by omega) ⟨j + 1, by omega, rfl, by rw [q5 102 (by decide), q4 102 (by decide)]; exact r102, fun o ho => ?_, fun l hl => ?_, fun l hl => ?_⟩
    · have : o ≠ 117 ∧ o ≠ 118 := by
        have : ∀ x ∈ [113, 114, 115, 116], x ≠ 117 ∧ x ≠ 118 := by decide
        exact this o ho
      rw [q5 o this.2, q4 o this.1]
      exact r4 o ho
    · rw [z117, z118, if_neg (by omega), if_neg (by omega)]
      exact ru l hl
    · rw [z117, z118]
      by_cases e : l = j
      · subst e
        rw [if_pos rfl, if_pos rfl]
        exact ⟨u1, u2⟩
      · rw [if_neg e, if_neg e]
        exact rl l (by omega)
theorem m_copy {R : Type} {s : Sg} {o lo c N : Nat} {lim loI : Int32} {K : Sg → Option R} {Q : R → Prop} (hl : lim = nI c) (hlo : loI = nI lo) (hc : c ≤ lo) (hN : lo + c ≤ N) (hN2 : N ≤ 2000) (hK : ∀ t, (∀ k, k < c → t o k = s o (lo + k)) → (∀ q, q ≠ o → t q = s q) → W1 (K t) Q) : W1 (lp FU (fun q (u : Int32) (s6 : Sg) => if lim ≤ u then K s6 else (gd (loI + u) N (gd u N (bnd (pt s6 o (ix u) (s6 o (ix (loI + u)))) fun s8 => q (u + 1) s8)))) 0 s) Q := by
  refine w1_lp (fun k v t => ∃ i, i + k = c ∧ v = nI i ∧ (∀ q, q ≠ o → t q = s q) ∧ (∀ k, lo ≤ k → t o k = s o k) ∧ ∀ k, k < i → t o k = s o (lo + k)) ?_ FU c _ _ (FU_lt (by omega)) ⟨0, by omega, rfl, fun _ _ => rfl, fun _ _ => rfl, fun k hk => by omega⟩
  rintro q k v t ⟨i, hi, rfl, t1, t2, t3⟩ hq
  rw [hl, hlo]
  refine w1_if (fun g => ?_) (fun g => ?_)
  · rw [nI_leI (by omega) (by omega)] at g
    exact hK t (fun k hk => t3 k (by omega)) t1
  · rw [nI_leI (by omega) (by omega)] at g
    rw [nI_add, gd_n _ (show lo + i < N by omega) (by omega), gd_n _ (show i < N by omega) (by omega), ix_n (show i < 2 ^ 31 by omega), ix_n (show lo + i < 2 ^ 31 by omega), bnd_e, nI_1]
    refine hq (k - 1) _ _ (by omega) ⟨i + 1, by omega, rfl, fun q hq => by rw [ptq _ _ _ hq]; exact t1 q hq, fun k hk => by rw [pt_k _ _ _ (by omega)]; exact t2 k hk, fun k hk => ?_⟩
    by_cases e : k = i
    · rw [e, pt_s]
      exact t2 _ (by omega)
    · rw [pt_k _ _ _ e]
      exact t3 k (by omega)
theorem m_takes1 {s : Sg} {m : Nat} (hm : m ≤ 16) : W1 (fM_takesOther (nI 1) (nI m) s) (fun t => t 102 34 = nI m ∧ t 102 3 = 0 ∧ (∀ k, k < 4 * m → t 120 k = s 120 (64 + k)) ∧ (∀ k, k ≠ 34 → k ≠ 3 → t 102 k = s 102 k) ∧ ∀ q, q ≠ 120 → q ≠ 102 → t q = s q) := by
  unfold fM_takesOther
  rw [if_neg (show ¬ nI 1 = 3 by decide)]
  refine w1_j (fun (J : Sg → Option Sg) => ∀ t, J t = some (pt t 102 3 0)) (fun t => rfl) (fun j118 h118 => ?_)
  rw [if_pos (show nI 1 = 1 from rfl)]
  refine m_copy (c := 4 * m) (lo := 64) (by rw [show (4 : Int32) = nI 4 from rfl, pk_mul]) rfl (by omega) (by omega) (by decide) (fun t h1 h2 => ?_)
  rw [bnd_e, h118]
  refine w1_s ⟨?_, pt_s _ _ _ _, fun k hk => ?_, fun k k1 k2 => ?_, fun q q1 q2 => ?_⟩
  · rw [pt_k _ _ _ (by decide), pt_s]
  · rw [ptq _ _ _ (by decide), ptq _ _ _ (by decide)]; exact h1 k hk
  · rw [pt_k _ _ _ k2, pt_k _ _ _ k1, h2 102 (by decide)]
  · rw [ptq _ _ _ q2, ptq _ _ _ q2]; exact h2 q q1
theorem m_takes2 {s : Sg} {m : Nat} (hm : m ≤ 16) : W1 (fM_takesOther (nI 2) (nI m) s) (fun t => t 102 36 = nI m ∧ t 102 3 = 0 ∧ (∀ k, k < 2 * m → t 121 k = s 121 (32 + k)) ∧ (∀ k, k ≠ 36 → k ≠ 3 → t 102 k = s 102 k) ∧ ∀ q, q ≠ 121 → q ≠ 102 → t q = s q) := by
  unfold fM_takesOther
  rw [if_neg (show ¬ nI 2 = 3 by decide)]
  refine w1_j (fun (J : Sg → Option Sg) => ∀ t, J t = some (pt t 102 3 0)) (fun t => rfl) (fun j118 h118 => ?_)
  rw [if_neg (show ¬ nI 2 = 1 by decide)]
  refine m_copy (c := 2 * m) (lo := 32) (by rw [show (2 : Int32) = nI 2 from rfl, pk_mul]) rfl (by omega) (by omega) (by decide) (fun t h1 h2 => ?_)
  rw [bnd_e, h118]
  refine w1_s ⟨?_, pt_s _ _ _ _, fun k hk => ?_, fun k k1 k2 => ?_, fun q q1 q2 => ?_⟩
  · rw [pt_k _ _ _ (by decide), pt_s]
  · rw [ptq _ _ _ (by decide), ptq _ _ _ (by decide)]; exact h1 k hk
  · rw [pt_k _ _ _ k2, pt_k _ _ _ k1, h2 102 (by decide)]
  · rw [ptq _ _ _ q2, ptq _ _ _ q2]; exact h2 q q1
theorem m_takes3 {s : Sg} {m : Nat} (hm : m ≤ 16) : W1 (fM_takesOther (nI 3) (nI m) s) (fun t => t 102 38 = nI m ∧ (∀ k, k < 20 → t 122 k = s 122 (20 + k)) ∧ (∀ k, k ≠ 38 → t 102 k = s 102 k) ∧ ∀ q, q ≠ 122 → q ≠ 102 → t q = s q) := by
  unfold fM_takesOther
  rw [if_pos (show nI 3 = 3 from rfl)]
  refine m_copy (c := 20) (lo := 20) rfl rfl (by omega) (by omega) (by decide) (fun t h1 h2 => ?_)
  rw [bnd_e]
  refine w1_s ⟨pt_s _ _ _ _, fun k hk => ?_, fun k k1 => ?_, fun q q1 q2 => ?_⟩
  · rw [ptq _ _ _ (by decide)]; exact h1 k hk
  · rw [pt_k _ _ _ k1, h2 102 (by decide)]
  · rw [ptq _ _ _ q2]; exact h2 q q1
