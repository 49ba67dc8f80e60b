/-! TEXT: sums, of the reference -/
theorem mAt_app {op arg : Nat → Int32} : ∀ (p q : Pg) (f : Nat), mAt op arg f p → mAt op arg (f + mln p) q → mAt op arg f (p ++ q)
  | [], q, f, _, h => h
  | x :: p, q, f, h, h2 => by
    refine ⟨h.1, mAt_app p q _ h.2 ?_⟩
    have : mln (x :: p) = (if x.1 = 2 then 2 else 1) + mln p := rfl
    rw [this, ← Nat.add_assoc] at h2
    exact h2
theorem mAt_l {op arg : Nat → Int32} : ∀ (p q : Pg) (f : Nat), mAt op arg f (p ++ q) → mAt op arg f p ∧ mAt op arg (f + mln p) q
  | [], q, f, h => ⟨True.intro, h⟩
  | x :: p, q, f, h => by
    obtain ⟨h1, h2⟩ := mAt_l p q _ h.2
    refine ⟨⟨h.1, h1⟩, ?_⟩
    have : mln (x :: p) = (if x.1 = 2 then 2 else 1) + mln p := rfl
    rw [this, ← Nat.add_assoc]
    exact h2
def LW (b s : Sg) : Prop := ∀ k, k < 400 → s 117 k = b 117 k ∧ s 118 k = b 118 k
def MC (b s : Sg) (P : Pg) : Prop := s 102 26 = nI (mln P) ∧ mAt (fun k => s 117 (800 + k)) (fun k => s 118 (800 + k)) 0 P ∧ LW b s
def FM (s : Sg) (e : Nat × Nat) : Prop := s 102 30 = nI e.1 ∧ s 102 31 = nI e.2
theorem LW_c {b s t : Sg} (h : LW b s) (h1 : t 117 = s 117) (h2 : t 118 = s 118) : LW b t := fun k hk => by rw [h1, h2]; exact h k hk
theorem MC_c {b s t : Sg} {P : Pg} (h : MC b s P) (h0 : t 102 26 = s 102 26) (h1 : t 117 = s 117) (h2 : t 118 = s 118) : MC b t P := by
  obtain ⟨x1, x2, x3⟩ := h
  exact ⟨by rw [h0]; exact x1, by rw [h1, h2]; exact x2, LW_c x3 h1 h2⟩
theorem MT_c {T : Nat → Nat} {n o : Nat} {s t : Sg} {L : List Tk} (h : MT T n o s L) (h12 : t 102 12 = s 102 12) (h13 : t 102 13 = s 102 13) (h14 : t 102 14 = s 102 14) (h15 : t 102 15 = s 102 15) (h16 : t 102 16 = s 102 16) (h1 : t 110 = s 110) (h2 : t 111 = s 111) : MT T n o t L := by
  match L, h with
  | x :: r, ⟨x1, x2, x3, x4⟩ =>
    refine ⟨TP_c x1 h12 h1 h2, by rw [h14]; exact x2, by rw [h15, h16]; exact x3, ?_⟩
    rw [h13]
    exact x4
theorem chn_le {T : Nat → Nat} {n o q : Nat} {L : List Tk} (h : chn T n o L q) : q ≤ n := by
  match L, h with
  | x :: r, h =>
    rcases h with ⟨_, _, h, _⟩ | ⟨_, q', h1, h2, _⟩
    · exact h
    · omega
theorem m_adv {T : Nat → Nat} {n o : Nat} {s : Sg} {t u : Tk} {r : List Tk} (ho : o < 4) (h : MT T n o s (t :: u :: r)) : W1 (fM_reads s) (fun s' => MT T n o s' (u :: r) ∧ ∀ o k, o ∉ [] → (o, k) ∉ [(102, 13), (102, 14), (102, 15), (102, 16)] → s' o k = s o k) := by
  obtain ⟨h1, h2, h3, h4⟩ := h
  obtain ⟨q, hq, hc⟩ := h4.resolve_left (fun e => by cases e)
  exact w1_f2 (pr := prV) (m_reads ho h1 hq hc (chn_le hc)) (fr_M_reads s)
theorem m_errs {T : Nat → Nat} {n o : Nat} {s : Sg} {t : Tk} {r : List Tk} (f : Nat) (h : MT T n o s (t :: r)) : W1 (fM_errs (nI f) s) (fun z => z.1 = -1 ∧ FM z.2 (f, t.2.1) ∧ ∀ o k, o ∉ [] → (o, k) ∉ [(102, 30), (102, 31)] → z.2 o k = s o k) := by
  refine w1_m (w1_f2 (Q := fun z => z.1 = -1 ∧ FM z.2 (f, t.2.1)) ?_ (fr_M_errs (nI f) s)) (fun z hz => ⟨hz.1.1, hz.1.2, hz.2⟩)
  unfold fM_errs
  rw [bnd_e, bnd_e, pt_k _ _ _ (show (14 : Nat) ≠ 30 by decide), h.2.1]
  refine w1_s ⟨rfl, ?_, ?_⟩
  · dsimp only
    rw [pt_k _ _ _ (by decide), pt_s]
  · dsimp only
    rw [pt_s]
theorem m_emit0 {s : Sg} {c : Nat} (a v : Int32) (hc : c < 400) (h : s 102 26 = nI c) : W1 (fM_emits a v s) (fun t => (t 102 26 = nI (c + 1) ∧ t 117 (800 + c) = a ∧ t 118 (800 + c) = v ∧ ∀ k, k ≠ 800 + c → t 117 k = s 117 k ∧ t 118 k = s 118 k) ∧ ∀ o k, o ∉ [117, 118] → (o, k) ∉ [(102, 26)] → t o k = s o k) := by
  refine w1_f2 (pr := prV) ?_ (fr_M_emits a v s)
  unfold fM_emits
  rw [h, show (800 : Int32) = nI 800 from rfl, nI_add, gd_n _ (show 800 + c < 1200 by omega) (by decide), ix_n (by omega), bnd_e, ptq _ _ _ (show (102 : Nat) ≠ 117 by decide), h, nI_add, gd_n _ (show 800 + c < 1200 by omega) (by decide), ix_n (by omega), bnd_e, bnd_e, ptq _ _ _ (show (102 : Nat) ≠ 118 by decide), ptq _ _ _ (show (102 : Nat) ≠ 117 by decide), h, nI_1]
  refine w1_s ⟨pt_s _ _ _ _, ?_, ?_, fun k hk => ⟨?_, ?_⟩⟩
  · rw [ptq _ _ _ (show (117 : Nat) ≠ 102 by decide), ptq _ _ _ (show (117 : Nat) ≠ 118 by decide), pt_s]
  · rw [ptq _ _ _ (show (118 : Nat) ≠ 102 by decide), pt_s]
  · rw [ptq _ _ _ (show (117 : Nat) ≠ 102 by decide), ptq _ _ _ (show (117 : Nat) ≠ 118 by decide), pt_k _ _ _ hk]
  · rw [ptq _ _ _ (show (118 : Nat) ≠ 102 by decide), pt_k _ _ _ hk, ptq _ _ _ (show (118 : Nat) ≠ 117 by decide)]
theorem m_emit {b s : Sg} {P : Pg} {a v : Int32} (x : Nat × Nat) (h : MC b s P) (hl : mln P < 400) (hx : ((x.1 = 0 ∨ x.1 = 1) ∧ a = nI x.1 ∧ v = nI x.2) ∨ (x.1 = 3 ∧ a = nI (opS x.2))) : W1 (fM_emits a v s) (fun t => MC b t (P ++ [x]) ∧ ∀ o k, o ∉ [117, 118] → (o, k) ∉ [(102, 26)] → t o k = s o k) := by
  obtain ⟨x1, x2, x3⟩ := h
  refine w1_m (m_emit0 a v hl x1) (fun t ht => ⟨⟨?_, ?_, fun k hk => ?_⟩, ht.2⟩)
  · rw [ht.1.1, mln_app, mln_1 (by omega)]
  · refine mAt_app P [x] 0 (mAt_cp P 0 x2 (fun k _ hk => ht.1.2.2.2 _ (by omega))) ⟨?_, True.intro⟩
    rw [Nat.zero_add]
    rcases hx with ⟨k1, k2, k3⟩ | ⟨k1, k2⟩
    · rw [if_neg (by omega), if_neg (by omega)]
      exact ⟨ht.1.2.1.trans k2, ht.1.2.2.1.trans k3⟩
    · rw [if_neg (by omega), if_pos k1]
      exact ht.1.2.1.trans k2
  · obtain ⟨y1, y2⟩ := ht.1.2.2.2 k (by omega)
    rw [y1, y2]
    exact x3 k hk
theorem m_part {b s : Sg} {P : Pg} {d : Nat} (h : MC b s (P ++ [(0, d)])) (hl : mln (P ++ [(0, d)]) < 400) : W1 (fM_emits 5 0 s) (fun t => MC b t (P ++ [(2, d)]) ∧ ∀ o k, o ∉ [117, 118] → (o, k) ∉ [(102, 26)] → t o k = s o k) := by
  obtain ⟨x1, x2, x3⟩ := h
  have hm : mln (P ++ [(0, d)]) = mln P + 1 := by rw [mln_app]; rfl
  rw [hm] at x1 hl
  obtain ⟨y1, y2⟩ := mAt_l P _ 0 x2
  refine w1_m (m_emit0 5 0 hl x1) (fun t ht => ⟨⟨?_, ?_, fun k hk => ?_⟩, ht.2⟩)
  · rw [ht.1.1, mln_app]
    rfl
  · refine mAt_app P [(2, d)] 0 (mAt_cp P 0 y1 (fun k _ hk => ht.1.2.2.2 _ (by omega))) ⟨?_, True.intro⟩
    rw [Nat.zero_add] at y2 ⊢
    obtain ⟨z1, _⟩ := y2
    rw [if_neg (show ¬ (0 : Nat) = 2 by decide), if_neg (show ¬ (0 : Nat) = 3 by decide)] at z1
    rw [if_pos rfl]
    obtain ⟨w1, w2⟩ := ht.1.2.2.2 (800 + mln P) (by omega)
    exact ⟨w1.trans z1.1, w2.trans z1.2, ht.1.2.1⟩
  · obtain ⟨y1, y2⟩ := ht.1.2.2.2 k (by omega)
    rw [y1, y2]
    exact x3 k hk
theorem kj_0 : ∀ j, j < 16 → kj 0 j = j := by decide
theorem rk_ask {t : Tk} {tok val : Int32} (h : rkM 0 t tok val) (hb : t.1 < 256 ∨ t.1 - 256 < (kW 0).length) : (263 ≤ t.1 ∧ t.1 ≤ 271 → tok = 2 ∧ val = nI (t.1 - 256)) ∧ (tok = 2 → ¬ (263 ≤ t.1 ∧ t.1 ≤ 271) → wi val 7 15 = 0) := by
  have h16 : (kW 0).length = 16 := rfl
  rw [h16] at hb
  unfold rkM at h
  by_cases h0 : t.1 = 0
  · rw [if_pos h0] at h
    exact ⟨fun x => by omega, fun x => by rw [x] at h; exact absurd h (by decide)⟩
  rw [if_neg h0] at h
  by_cases h1 : t.1 = 1
  · rw [if_pos h1] at h
    exact ⟨fun x => by omega, fun x => by rw [x] at h; exact absurd h.1 (by decide)⟩
  rw [if_neg h1] at h
  have hwi : ∀ w, w < 23 → ¬ (7 ≤ w ∧ w ≤ 15) → wi (nI w) 7 15 = 0 := by decide
  by_cases h2 : t.1 = 2
  · rw [if_pos h2] at h
    refine ⟨fun x => by omega, fun x _ => ?_⟩
    rcases h with h | ⟨_, w, hw, hn, hv⟩
    · rw [x] at h
      exact absurd h (by decide)
    · rw [hv]
      refine hwi w hw (fun c => hn w (by rw [h16]; omega) (kj_0 w (by omega)))
  rw [if_neg h2] at h
  by_cases h3 : t.1 < 256
  · rw [if_pos h3] at h
    exact ⟨fun x => by omega, fun x => by rw [x] at h; exact absurd h.1 (by decide)⟩
  rw [if_neg h3, kj_0 _ (by omega)] at h
  exact ⟨fun _ => h, fun _ hn => by rw [h.2]; exact hwi _ (by omega) (by omega)⟩
theorem wi_ask {w : Nat} (h : 7 ≤ w ∧ w ≤ 15) : wi (nI w) 7 15 = 1 := by
  have : ∀ w, w < 16 → 7 ≤ w → wi (nI w) 7 15 = 1 := by decide
  exact this w (by omega) h.1
def UM (T : Nat → Nat) (n : Nat) (b : Sg) (P : Pg) (t : Tk) (r : List Tk) (z : Int32 × Sg) : Prop :=
  match uP t with
  | some x => z.1 = 0 ∧ MT T n 0 z.2 r ∧ MC b z.2 (P ++ [x])
  | none => z.1 = -1 ∧ FM z.2 (1, t.2.1) ∧ LW b z.2
theorem m_unit {T : Nat → Nat} {n : Nat} {b s : Sg} {P : Pg} {t : Tk} {r : List Tk} (h : MT T n 0 s (t :: r)) (hc : MC b s P) (ht : tkl 0 (t :: r)) (hl : ∀ x, uP t = some x → mln P < 400) : W1 (fM_readUnit s) (UM T n b P t r) := by
  obtain ⟨g1, g2, g3, g4⟩ := h
  have h : MT T n 0 s (t :: r) := ⟨g1, g2, g3, g4⟩
  obtain ⟨k1, k2, k3⟩ := rk_tok g3
  obtain ⟨a1, a2⟩ := rk_ask g3 ht.1
  unfold fM_readUnit
  refine w1_j (fun (J : Int32 → Sg → Option (Int32 × Sg)) => (263 ≤ t.1 ∧ t.1 ≤ 271 → W1 (J 1 s) (UM T n b P t r)) ∧ (¬ (263 ≤ t.1 ∧ t.1 ≤ 271) → W1 (J 0 s) (UM T n b P t r))) ?_ (fun j24 h24 => ?_)
  · have emit : ∀ x (a v : Int32), uP t = some x → (x.1 = 0 ∨ x.1 = 1) ∧ a = nI x.1 ∧ v = nI x.2 → W1 (bv (fM_emits a v s) fun s5 => bv (fM_reads s5) fun s6 => some (0, s6)) (UM T n b P t r) := by
      intro x a v hx hav
      obtain ⟨_, u, r', rfl⟩ := tkl_t ht (uP_s (by decide) hx ht).2.2
      refine w1_bv (w1_m (m_emit x hc (hl x hx) (Or.inl hav)) (fun s1 h1 => ?_))
      have hM1 : MT T n 0 s1 (t :: u :: r') := MT_c h (h1.2 102 12 (by decide) (by decide)) (h1.2 102 13 (by decide) (by decide)) (h1.2 102 14 (by decide) (by decide)) (h1.2 102 15 (by decide) (by decide)) (h1.2 102 16 (by decide) (by decide)) (frO h1.2 110 (by decide) (by decide)) (frO h1.2 111 (by decide) (by decide))
      refine w1_bv (w1_m (m_adv (by decide) hM1) (fun s2 h2 => w1_s ?_))
      unfold UM
      rw [hx]
      exact ⟨rfl, h2.1, MC_c h1.1 (h2.2 102 26 (by decide) (by decide)) (frO h2.2 117 (by decide) (by decide)) (frO h2.2 118 (by decide) (by decide))⟩
    refine ⟨fun hA => ?_, fun hA => ?_⟩
    · refine w1_j (fun (J : Sg → Option (Int32 × Sg)) => W1 (J s) (UM T n b P t r)) ?_ (fun j43 h43 => ?_)
      · refine w1_j (fun (J : Int32 → Sg → Option (Int32 × Sg)) => W1 (J 1 s) (UM T n b P t r)) ?_ (fun j53 h53 => ?_)
        · refine w1_j (fun (J : Int32 → Sg → Option (Int32 × Sg)) => W1 (J (s 102 16 - 7) s) (UM T n b P t r)) ?_ (fun j71 h71 => ?_)
          · refine emit (1, t.1 - 263) _ _ (by unfold uP; rw [if_neg (by omega), if_pos hA]) ⟨Or.inr rfl, rfl, ?_⟩
            rw [(a1 hA).2, show (7 : Int32) = nI 7 from rfl, pk_sub (by omega)]
            exact congrArg nI (show t.1 - 256 - 7 = t.1 - 263 by omega)
          · rw [if_neg n10z]; exact h71
        · rw [if_neg n10z]; exact h53
      · rw [if_neg n10z]; exact h43
    · refine w1_j (fun (J : Sg → Option (Int32 × Sg)) => t.1 = 1 → W1 (J s) (UM T n b P t r)) ?_ (fun j43 h43 => ?_)
      · intro ht1
        refine w1_j (fun (J : Int32 → Sg → Option (Int32 × Sg)) => W1 (J 0 s) (UM T n b P t r)) ?_ (fun j53 h53 => ?_)
        · refine w1_j (fun (J : Int32 → Sg → Option (Int32 × Sg)) => W1 (J (s 102 16) s) (UM T n b P t r)) ?_ (fun j71 h71 => ?_)
          · exact emit (0, t.2.2) _ _ (by unfold uP; rw [if_pos ht1]) ⟨Or.inl rfl, rfl, k3 ht1⟩
          · rw [if_pos rfl]; exact h71
        · rw [if_pos rfl]; exact h53
      · rw [if_pos rfl]
        refine w1_if (fun g => h43 (k1.mp g)) (fun g => ?_)
        refine w1_bi (w1_m (m_errs 1 h) (fun z hz => w1_s ?_))
        unfold UM uP
        rw [if_neg (fun e => g (k1.mpr e)), if_neg hA]
        exact ⟨hz.1, hz.2.1, LW_c hc.2.2 (frO hz.2.2 117 (by decide) (by decide)) (frO hz.2.2 118 (by decide) (by decide))⟩
  · refine w1_j (fun (J : Sg → Option (Int32 × Sg)) => ¬ (263 ≤ t.1 ∧ t.1 ≤ 271) → W1 (J s) (UM T n b P t r)) h24.2 (fun j23 h23 => ?_)
    refine w1_if (fun g => ?_) (fun g => h23 (fun hA => g (a1 hA).1))
    unfold fM_canAsk
    rw [e_isIn, bi_s, gb_wi, bi_s]
    by_cases hA : 263 ≤ t.1 ∧ t.1 ≤ 271
    · rw [(a1 hA).2, wi_ask (by omega), if_neg n10z]
      exact h24.1 hA
    · rw [a2 g hA, if_pos rfl]
      exact h23 hA
