/-! TEXT: conditions, of the reference: what waits -/
def enc (x : Nat) : Nat := if x = 40 then 12 else opS x
def MQ2 (s : Sg) (W : List Nat) : Prop := s 102 29 = nI W.length ∧ wAt enc (s 119) W
theorem MQ2_c {s t : Sg} {W : List Nat} (h : MQ2 s W) (h1 : t 102 29 = s 102 29) (h2 : t 119 = s 119) : MQ2 t W := by
  unfold MQ2
  rw [h1, h2]
  exact h
def stW (g : Nat) : List Nat → List Nat
  | [] => []
  | x :: w => if x = g then stW g w else x :: w
def stE (g : Nat) : List Nat → Pg
  | [] => []
  | x :: w => if x = g then (3, x) :: stE g w else []
theorem enc_e {x g : Nat} (hx : x = 260 ∨ x = 261 ∨ x = 262 ∨ x = 40) (hg : g = 260 ∨ g = 261 ∨ g = 262) : (nI (enc x) = nI (opS g) ↔ x = g) ∧ enc x < 100 := by
  rcases hx with rfl | rfl | rfl | rfl <;> rcases hg with rfl | rfl | rfl <;> decide
theorem st_len (g : Nat) : ∀ (W : List Nat), (stW g W).length + (stE g W).length = W.length
  | [] => rfl
  | x :: w => by
    have := st_len g w
    simp only [stW, stE]
    by_cases e : x = g
    · rw [if_pos e, if_pos e]
      simp only [List.length_cons]
      omega
    · rw [if_neg e, if_neg e]
      simp
theorem st_mln (g : Nat) : ∀ (W : List Nat), mln (stE g W) = (stE g W).length
  | [] => rfl
  | x :: w => by
    have := st_mln g w
    simp only [stE]
    by_cases e : x = g
    · rw [if_pos e]
      show 1 + mln (stE g w) = (stE g w).length + 1
      omega
    · rw [if_neg e]; rfl
theorem m_settle {b s : Sg} {W0 : List Nat} {P0 : Pg} {g : Nat} (hg : g = 260 ∨ g = 261 ∨ g = 262) (hW : MQ2 s W0) (hO : s 102 27 = nI (opn W0)) (hC : MC b s P0) (hw : wel W0) (hl : W0.length ≤ 40) (hb : mln P0 + W0.length ≤ 400) : W1 (fM_settles (nI (opS g)) s) (fun t => (MQ2 t (stW g W0) ∧ t 102 27 = nI (opn (stW g W0)) ∧ MC b t (P0 ++ stE g W0)) ∧ ∀ o k, o ∉ [117, 118] → (o, k) ∉ [(102, 26), (102, 27), (102, 29)] → t o k = s o k) := by
  refine w1_f2 (pr := prV) ?_ (fr_M_settles _ s)
  unfold fM_settles
  refine w1_lp (fun k v t => ∃ W P, MQ2 t W ∧ t 102 27 = nI (opn W) ∧ MC b t P ∧ wel W ∧ W.length ≤ 40 ∧ mln P + W.length ≤ 400 ∧ stW g W = stW g W0 ∧ P ++ stE g W = P0 ++ stE g W0 ∧ W.length ≤ k) ?_ FU 40 _ _ (FU_lt (by omega)) ⟨W0, P0, hW, hO, hC, hw, hl, hb, rfl, rfl, hl⟩
  clear hW hO hC hw hl hb
  rintro q k v t ⟨W, P, hW, hO, hC, hw, hl, hb, e1, e2, hk⟩ hq
  have done : stW g W = W → stE g W = [] → MQ2 t (stW g W0) ∧ t 102 27 = nI (opn (stW g W0)) ∧ MC b t (P0 ++ stE g W0) := by
    intro x1 x2
    rw [← e1, ← e2, x1, x2, List.append_nil]
    exact ⟨hW, hO, hC⟩
  rw [hW.1]
  match W, hW, hw with
  | [], hW, hw => exact w1_if (fun _ => w1_s (done rfl rfl)) (fun g => absurd (by decide) g)
  | x :: w, hW, hw =>
  rw [List.length_cons] at hl hb hk ⊢
  have hx := hw x List.mem_cons_self
  obtain ⟨c1, c2⟩ := enc_e hx hg
  rw [if_neg (show ¬ nI (w.length + 1) ≤ 0 by rw [show (0 : Int32) = nI 0 from rfl, nI_leI (by omega) (by decide)]; omega), nI_pred, gd_n _ (show w.length < 40 by omega) (by decide), ix_n (by omega), hW.2.1]
  refine w1_if (fun gx => ?_) (fun gx => ?_)
  · have gx : x = g := c1.mp gx
    rw [bnd_e]
    have hC' : MC b (pt t 102 29 (nI w.length)) P := MC_c hC (pt_k _ _ _ (by decide)) (ptq _ _ _ (by decide)) (ptq _ _ _ (by decide))
    refine w1_bv (w1_m (m_emit (3, x) hC' (by omega) (Or.inr ⟨rfl, by rw [gx]⟩)) (fun t2 h2 => ?_))
    have hW2 : MQ2 t2 w := ⟨(h2.2 102 29 (by decide) (by decide)).trans (pt_s _ _ _ _), by rw [show t2 119 = _ from frO h2.2 119 (by decide) (by decide), ptq _ _ _ (by decide)]; exact hW.2.2⟩
    have h27 : t2 102 27 = nI (opn (x :: w)) := (h2.2 102 27 (by decide) (by decide)).trans ((pt_k _ _ _ (by decide)).trans hO)
    have hst1 : stW g w = stW g W0 := by rw [← e1]; simp only [stW, if_pos gx]
    have hst2 : (P ++ [(3, x)]) ++ stE g w = P0 ++ stE g W0 := by rw [← e2]; simp only [stE, if_pos gx, List.append_assoc, List.singleton_append]
    have hm2 : mln (P ++ [(3, x)]) = mln P + 1 := by rw [mln_app]; rfl
    refine w1_if (fun g9 => ?_) (fun g9 => ?_)
    · have hx2 : x = 262 := by
        rw [gx]
        rcases hg with rfl | rfl | rfl
        · exact absurd g9 (by decide)
        · exact absurd g9 (by decide)
        · rfl
      rw [bnd_e, h27, show opn (x :: w) = opn w + 1 by simp only [opn]; rw [if_pos (Or.inl hx2)]; omega, nI_pred]
      exact hq (k - 1) _ _ (by omega) ⟨w, P ++ [(3, x)], MQ2_c hW2 (pt_k _ _ _ (by decide)) (ptq _ _ _ (by decide)), pt_s _ _ _ _, MC_c h2.1 (pt_k _ _ _ (by decide)) (ptq _ _ _ (by decide)) (ptq _ _ _ (by decide)), wel_t hw, by omega, by omega, hst1, hst2, by omega⟩
    · have hx2 : x = 260 ∨ x = 261 := by
        rw [gx]
        rcases hg with rfl | rfl | rfl
        · exact Or.inl rfl
        · exact Or.inr rfl
        · exact absurd rfl g9
      exact hq (k - 1) _ _ (by omega) ⟨w, P ++ [(3, x)], hW2, by rw [h27]; simp only [opn]; rw [if_neg (by omega), Nat.zero_add], h2.1, wel_t hw, by omega, by omega, hst1, hst2, by omega⟩
  · have gx : x ≠ g := fun e => gx (c1.mpr e)
    exact w1_s (done (by simp only [stW, if_neg gx]) (by simp only [stE, if_neg gx]))
theorem m_wait {s : Sg} {W : List Nat} {x : Nat} (hW : MQ2 s W) (hl : W.length < 40) : W1 (fM_waits (nI (enc x)) s) (fun t => MQ2 t (x :: W) ∧ ∀ o k, o ∉ [119] → (o, k) ∉ [(102, 29)] → t o k = s o k) := by
  refine w1_f2 (pr := prV) ?_ (fr_M_waits _ s)
  unfold fM_waits
  rw [hW.1, gd_n _ hl (by decide), ix_n (by omega), bnd_e, bnd_e, ptq _ _ _ (show (102 : Nat) ≠ 119 by decide), hW.1, nI_1]
  refine w1_s ⟨by rw [pt_s]; rfl, ?_, ?_⟩
  · rw [ptq _ _ _ (by decide), pt_s]
  · rw [ptq _ _ _ (show (119 : Nat) ≠ 102 by decide)]
    exact wAt_c W hW.2 (fun k hk => pt_k _ _ _ (by omega))
/-! the two ways of putting -/
theorem st_3 : ∀ (W : List Nat), wel W → stW 262 W = rlW 3 W ∧ stE 262 W = rlE 3 W
  | [], _ => ⟨rfl, rfl⟩
  | x :: w, hw => by
    obtain ⟨i1, i2⟩ := st_3 w (wel_t hw)
    obtain ⟨c1, c2, c3, c4⟩ := cl_v (hw x List.mem_cons_self)
    simp only [stW, stE, rlW, rlE]
    by_cases e : x = 262
    · have : ¬ cl x < 3 := by rw [c3 e]; decide
      rw [if_pos e, if_pos e, if_neg this, if_neg this, i1, i2]
      exact ⟨rfl, rfl⟩
    · have : cl x < 3 := by
        rcases hw x List.mem_cons_self with h | h | h | h
        · rw [c1 h]; decide
        · rw [c2 h]; decide
        · exact absurd h e
        · rw [c4 h]; decide
      rw [if_neg e, if_neg e, if_pos this, if_pos this]
      exact ⟨rfl, rfl⟩
theorem st_s {g : Nat} {W : List Nat} (h : ∀ x w, W = x :: w → x ≠ g) : stW g W = W ∧ stE g W = [] := by
  match W, h with
  | [], _ => exact ⟨rfl, rfl⟩
  | x :: w, h =>
    have := h x w rfl
    simp only [stW, stE, if_neg this]
    exact ⟨trivial, trivial⟩
theorem rl_s {c : Nat} {W : List Nat} (h : ∀ x w, W = x :: w → cl x < c) : rlW c W = W ∧ rlE c W = [] := by
  match W, h with
  | [], _ => exact ⟨rfl, rfl⟩
  | x :: w, h =>
    have := h x w rfl
    simp only [rlW, rlE, if_pos this]
    exact ⟨trivial, trivial⟩
/-- under a waiting "and" lies no "and", no "not"; under an "or" only a bracket -/
theorem wf_2 {w : List Nat} (h : wfW (261 :: w)) : ∀ x v, w = x :: v → x = 260 ∨ x = 40 := by
  intro x v e
  subst e
  exact h.1 rfl
theorem wf_1 {w : List Nat} (h : wfW (260 :: w)) : ∀ x v, w = x :: v → x = 40 := by
  intro x v e
  subst e
  exact h.2.1 rfl
theorem st_2 {W : List Nat} (h : Wok W) (h3 : rlW 3 W = W) : stW 261 W = rlW 2 W ∧ stE 261 W = rlE 2 W := by
  match W, h, h3 with
  | [], _, _ => exact ⟨rfl, rfl⟩
  | x :: w, h, h3 =>
    obtain ⟨c1, c2, c3, c4⟩ := cl_v (h.2.1 x List.mem_cons_self)
    have hc := rl_top 3 _ x w h3
    by_cases e : x = 261
    · subst e
      have hu := wf_2 h.1
      obtain ⟨a1, a2⟩ := st_s (g := 261) (W := w) (fun y v e => by have := hu y v e; omega)
      obtain ⟨b1, b2⟩ := rl_s (c := 2) (W := w) (fun y v e => by
        rcases hu y v e with rfl | rfl <;> decide)
      simp only [stW, stE, rlW, rlE, if_true, if_neg (show ¬ cl 261 < 2 by decide), a1, a2, b1, b2]
      exact ⟨trivial, trivial⟩
    · have hx : cl x < 2 := by
        rcases h.2.1 x List.mem_cons_self with h | h | h | h
        · rw [c1 h]; decide
        · exact absurd h e
        · rw [c3 h] at hc; exact absurd hc (by decide)
        · rw [c4 h]; decide
      simp only [stW, stE, rlW, rlE, if_neg e, if_pos hx]
      exact ⟨trivial, trivial⟩
theorem st_1 {W : List Nat} (h : Wok W) (h3 : rlW 3 W = W) : stW 260 (stW 261 W) = rlW 1 W ∧ stE 261 W ++ stE 260 (stW 261 W) = rlE 1 W := by
  obtain ⟨a1, a2⟩ := st_2 h h3
  obtain ⟨e1, e2⟩ := rl_comp (c := 1) (d := 2) (by decide) W
  rw [a1, a2, e1, e2]
  have hok := Wok_rl 2 h
  have htop := rl_top 2 W
  generalize rlW 2 W = V at *
  match V, hok with
  | [], _ => exact ⟨rfl, rfl⟩
  | x :: w, hok =>
    have hc := htop x w rfl
    obtain ⟨c1, c2, c3, c4⟩ := cl_v (hok.2.1 x List.mem_cons_self)
    by_cases e : x = 260
    · subst e
      have hu := wf_1 hok.1
      obtain ⟨a1, a2⟩ := st_s (g := 260) (W := w) (fun y v e => by have := hu y v e; omega)
      obtain ⟨b1, b2⟩ := rl_s (c := 1) (W := w) (fun y v e => by
        rw [hu y v e]; decide)
      simp only [stW, stE, rlW, rlE, if_true, if_neg (show ¬ cl 260 < 1 by decide), a1, a2, b1, b2]
      exact ⟨trivial, trivial⟩
    · have hx : cl x < 1 := by
        rcases hok.2.1 x List.mem_cons_self with h | h | h | h
        · exact absurd h e
        · rw [c2 h] at hc; exact absurd hc (by decide)
        · rw [c3 h] at hc; exact absurd hc (by decide)
        · rw [c4 h]; decide
      simp only [stW, stE, rlW, rlE, if_neg e, if_pos hx]
      exact ⟨trivial, trivial⟩
theorem brk_rl {c : Nat} (hc : 1 ≤ c) : ∀ (W : List Nat), brk (rlW c W) = brk W
  | [] => rfl
  | x :: w => by
    have := brk_rl hc w
    simp only [rlW]
    by_cases g : cl x < c
    · rw [if_pos g]
    · rw [if_neg g, this]
      simp only [brk]
      rw [if_neg (fun e => g (by rw [e]; show 0 < c; omega))]
      omega
theorem brk_len : ∀ (W : List Nat), brk W ≤ W.length
  | [] => Nat.le_refl _
  | x :: w => by
    have := brk_len w
    simp only [brk, List.length_cons]
    split <;> omega
theorem rl3_i (W : List Nat) : rlW 3 (rlW 3 W) = rlW 3 W := ((rl_comp (c := 3) (d := 3) (Nat.le_refl _) W).2).symm
