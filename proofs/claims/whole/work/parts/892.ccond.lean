/-! TEXT: conditions, of the class: what waits -/
def wAt (f : Nat → Nat) (arr : Nat → Int32) : List Nat → Prop
  | [] => True
  | x :: w => arr w.length = nI (f x) ∧ wAt f arr w
theorem wAt_c {f : Nat → Nat} {arr arr' : Nat → Int32} : ∀ (W : List Nat), wAt f arr W → (∀ k, k < W.length → arr' k = arr k) → wAt f arr' W
  | [], _, _ => True.intro
  | x :: w, h, hk => by
    rw [List.length_cons] at hk
    exact ⟨by rw [hk _ (by omega)]; exact h.1, wAt_c w h.2 (fun k h => hk k (by omega))⟩
def CW (s : Sg) (W : List Nat) : Prop := s 30 6 = nI W.length ∧ wAt (fun x => x) (s 47) W
theorem CW_c {s t : Sg} {W : List Nat} (h : CW s W) (h1 : t 30 6 = s 30 6) (h2 : t 47 = s 47) : CW t W := by
  unfold CW
  rw [h1, h2]
  exact h
def wl2 (W : List Nat) : Prop := ∀ x ∈ W, (60 ≤ x ∧ x ≤ 62) ∨ x = 260 ∨ x = 261 ∨ x = 262 ∨ x = 40
theorem wl2_t {x : Nat} {w : List Nat} (h : wl2 (x :: w)) : wl2 w := fun y hy => h y (List.mem_cons_of_mem _ hy)
theorem wl2_w {W : List Nat} (h : wel W) : wl2 W := fun x hx => Or.inr (h x hx)
theorem wl2_c {x : Nat} {w : List Nat} (hx : 60 ≤ x ∧ x ≤ 62) (h : wel w) : wl2 (x :: w) := fun y hy => (List.mem_cons.mp hy).elim (fun e => by rw [e]; exact Or.inl hx) (fun hy => Or.inr (h y hy))
theorem c_last {s : Sg} {W : List Nat} (h : CW s W) (hl : W.length ≤ 27) : fRe_waitingLast s = some (nI (W.headD 0), s) := by
  obtain ⟨h1, h2⟩ := h
  unfold fRe_waitingLast
  rw [h1]
  match W, h2 with
  | [], _ => rw [if_pos (by decide)]; rfl
  | x :: w, h2 =>
    rw [List.length_cons] at hl ⊢
    rw [if_neg (show ¬ nI (w.length + 1) ≤ 0 by rw [show (0 : Int32) = nI 0 from rfl, nI_leI (by omega) (by decide)]; omega), if_neg (show ¬ (27 : Int32) < nI (w.length + 1) from nI_nlt (a := 27) hl (by decide)), nI_pred, gd_n _ (by omega) (by decide), ix_n (by omega), h2.1]
    rfl
theorem c_clo {x : Nat} (hx : x < 300) (s : Sg) : fRe_closeness (nI x) s = some (nI (cl x), s) := by
  have e : ∀ y, y < 300 → (nI x = nI y ↔ x = y) := fun y hy => nI_e (by omega) (by omega)
  unfold fRe_closeness cl
  rw [show (60 : Int32) = nI 60 from rfl, show (61 : Int32) = nI 61 from rfl, show (62 : Int32) = nI 62 from rfl, show (260 : Int32) = nI 260 from rfl, show (261 : Int32) = nI 261 from rfl, show (262 : Int32) = nI 262 from rfl]
  simp only [e 60 (by decide), e 61 (by decide), e 62 (by decide), e 260 (by decide), e 261 (by decide), e 262 (by decide)]
  by_cases h1 : x = 60
  · subst h1; rfl
  by_cases h2 : x = 61
  · subst h2; rfl
  by_cases h3 : x = 62
  · subst h3; rfl
  by_cases h4 : x = 260
  · subst h4; rfl
  by_cases h5 : x = 261
  · subst h5; rfl
  by_cases h6 : x = 262
  · subst h6; rfl
  rw [if_neg h1, if_neg h2, if_neg h3, if_neg h4, if_neg h5, if_neg h6, if_neg (by omega), if_neg h4, if_neg h5, if_neg h6]
  rfl
theorem cl_4 (x : Nat) : cl x ≤ 4 := by
  unfold cl
  split
  · decide
  · split
    · decide
    · split
      · decide
      · split <;> decide
theorem hd_lt {W : List Nat} (h : wl2 W) : W.headD 0 < 300 := by
  match W, h with
  | [], _ => decide
  | x :: w, h =>
    have := h x List.mem_cons_self
    show x < 300
    omega
theorem c_rel {s : Sg} {W0 : List Nat} {P0 : Pg} {c sg : Nat} (hsg : sg < 300) (hcl : cl sg = c) (hc : 1 ≤ c) (hW : CW s W0) (hO : s 30 7 = nI (opn W0)) (hC : CC s P0) (hw : wl2 W0) (hl : W0.length ≤ 27) (hb : P0.length + W0.length ≤ 400) : W1 (fRe_release (nI sg) s) (fun t => (CW t (rlW c W0) ∧ t 30 7 = nI (opn (rlW c W0)) ∧ CC t (P0 ++ rlE c W0)) ∧ ∀ o k, o ∉ [40] → (o, k) ∉ [(30, 6), (30, 7), (37, 3)] → t o k = s o k) := by
  refine w1_f2 (pr := prV) ?_ (fr_Re_release (nI sg) s)
  unfold fRe_release
  rw [c_last hW hl, bi_s]
  refine w1_lp (fun k v t => ∃ W P i, v = (nI (W.headD 0), nI i) ∧ CW t W ∧ t 30 7 = nI (opn W) ∧ CC t P ∧ wl2 W ∧ i + W.length ≤ 27 ∧ P.length + W.length ≤ 400 ∧ rlW c W = rlW c W0 ∧ P ++ rlE c W = P0 ++ rlE c W0 ∧ W.length ≤ k) ?_ FU 27 _ _ (FU_lt (by omega)) ⟨W0, P0, 0, rfl, hW, hO, hC, hw, by omega, hb, rfl, rfl, hl⟩
  clear hW hO hC hw hl hb
  rintro q k v t ⟨W, P, i, rfl, hW, hO, hC, hw, hl, hb, e1, e2, hk⟩ hq
  dsimp only
  have done : rlW c W = W → rlE c W = [] → CW t (rlW c W0) ∧ t 30 7 = nI (opn (rlW c W0)) ∧ CC t (P0 ++ rlE c W0) := by
    intro x1 x2
    rw [← e1, ← e2, x1, x2, List.append_nil]
    exact ⟨hW, hO, hC⟩
  refine w1_if (fun g => ?_) (fun g => ?_)
  · rw [show (27 : Int32) = nI 27 from rfl, nI_leI (by decide) (by omega)] at g
    have : W = [] := List.eq_nil_of_length_eq_zero (by omega)
    subst this
    exact w1_s (done rfl rfl)
  rw [c_clo (hd_lt hw), bi_s, c_clo hsg, bi_s, hcl]
  have hcx : ∀ y, (nI (cl y) < nI c ↔ cl y < c) := fun y => nI_ltI (by have := cl_4 y; omega) (by have := cl_4 sg; omega)
  match W, hW, hw with
  | [], hW, hw => exact w1_if (fun _ => w1_s (done rfl rfl)) (fun g => absurd ((hcx 0).mpr (show 0 < c by omega)) g)
  | x :: w, hW, hw =>
  refine w1_if (fun gx => ?_) (fun gx => ?_)
  · have gx : cl x < c := (hcx x).mp gx
    exact w1_s (done (by simp only [rlW, if_pos gx]) (by simp only [rlE, if_pos gx]))
  have gx : ¬ cl x < c := fun e => gx ((hcx x).mpr e)
  have hx := hw x List.mem_cons_self
  rw [List.length_cons] at hl hb hk
  have hx40 : x ≠ 40 := by
    intro e
    subst e
    exact gx (show 0 < c by omega)
  refine w1_j (fun (J : Sg → Option Sg) => ∀ s8, CW s8 (x :: w) → s8 30 7 = nI (opn w) → CC s8 P → W1 (J s8) (fun t => CW t (rlW c W0) ∧ t 30 7 = nI (opn (rlW c W0)) ∧ CC t (P0 ++ rlE c W0))) ?_ (fun j41 h41 => ?_)
  · intro s8 k1 k2 k3
    rw [bnd_e, k1.1, List.length_cons, nI_pred]
    have hC' : CC (pt s8 30 6 (nI w.length)) P := CC_c k3 (ptf2 _ _ _ _ (by decide)) (ptq _ _ _ (by decide))
    refine w1_bv (w1_m (c_code (3, x) hC' (by omega) (by show 30000 + nI x = _; rw [show (30000 : Int32) = nI 30000 from rfl, nI_add]; exact congrArg nI (show 30000 + x = 3 * 10000 + x by omega))) (fun t2 h2 => ?_))
    have hW2 : CW t2 w := by
      refine ⟨?_, ?_⟩
      · rw [h2.2 30 6 (by decide) (by decide), pt_s]
      · rw [frO h2.2 47 (by decide) (by decide), ptq _ _ _ (by decide)]
        exact k1.2.2
    rw [c_last hW2 (by omega), bi_s, nI_1]
    refine hq (k - 1) _ _ (by omega) ⟨w, P ++ [(3, x)], i + 1, rfl, hW2, ?_, h2.1, wl2_t hw, by omega, by rw [List.length_append]; show P.length + 1 + w.length ≤ 400; omega, ?_, ?_, by omega⟩
    · rw [h2.2 30 7 (by decide) (by decide), pt_k _ _ _ (by decide)]
      exact k2
    · rw [← e1]
      simp only [rlW, if_neg gx]
    · rw [← e2]
      simp only [rlE, if_neg gx, List.append_assoc, List.singleton_append]
  · have ho : opn (x :: w) = (if x = 262 then 1 else 0) + opn w := by
      simp only [opn]
      by_cases e : x = 262
      · rw [if_pos (Or.inl e), if_pos e]
      · rw [if_neg (by omega), if_neg e]
    rw [show (262 : Int32) = nI 262 from rfl]
    show W1 (if nI x = nI 262 then _ else _) _
    refine w1_if (fun e => ?_) (fun e => ?_)
    · have e : x = 262 := nI_inj (by omega) (by decide) e
      rw [bnd_e, hO, ho, if_pos e, Nat.add_comm 1, nI_pred]
      exact h41 _ (CW_c hW (pt_k _ _ _ (by decide)) (ptq _ _ _ (by decide))) (pt_s _ _ _ _) (CC_c hC (ptf2 _ _ _ _ (by decide)) (ptq _ _ _ (by decide)))
    · have e : x ≠ 262 := fun c => e (by rw [c])
      refine h41 _ hW ?_ hC
      rw [hO, ho, if_neg e, Nat.zero_add]
theorem c_await {s : Sg} {W : List Nat} {x : Nat} {t u : Tk} {r : List Tk} (hW : CW s W) (hl : W.length < 27) (hT : CT s (t :: u :: r)) : W1 (fRe_await (nI x) s) (fun s' => (CW s' (x :: W) ∧ CT s' (u :: r)) ∧ ∀ o k, o ∉ [47] → (o, k) ∉ [(30, 6), (31, 6), (31, 7), (31, 8), (31, 9)] → s' o k = s o k) := by
  refine w1_f2 (pr := prV) ?_ (fr_Re_await (nI x) s)
  obtain ⟨h1, h2⟩ := hW
  unfold fRe_await
  refine w1_j (fun (J : Sg → Option Sg) => ∀ s1, CW s1 (x :: W) → CT s1 (t :: u :: r) → W1 (J s1) (fun s' => CW s' (x :: W) ∧ CT s' (u :: r))) ?_ (fun j36 h36 => ?_)
  · intro s1 k1 k2
    refine w1_bv (w1_m (w1_f2 (c_adv k2) (fr_To_advance s1)) (fun s2 h2 => w1_s ⟨?_, h2.1⟩))
    exact CW_c k1 (h2.2 30 6 (by decide) (by decide)) (frO h2.2 47 (by decide) (by decide))
  · rw [h1, if_neg (nI_pos (by omega)), if_neg (show ¬ (27 : Int32) ≤ nI W.length by rw [show (27 : Int32) = nI 27 from rfl, nI_leI (by decide) (by omega)]; omega), gd_n _ hl (by decide), ix_n (by omega), bnd_e, bnd_e, ptq _ _ _ (show (30 : Nat) ≠ 47 by decide), h1, nI_1]
    refine h36 _ ⟨by rw [pt_s]; rfl, ?_, ?_⟩ (CT_c hT (by rw [ptq _ _ _ (by decide), ptq _ _ _ (by decide)]) (by rw [ptq _ _ _ (by decide), ptq _ _ _ (by decide)]) (by rw [ptq _ _ _ (by decide), ptq _ _ _ (by decide)]) (by rw [ptq _ _ _ (by decide), ptq _ _ _ (by decide)]) ⟨by rw [pt_k _ _ _ (by decide), ptq _ _ _ (by decide)], by rw [pt_k _ _ _ (by decide), ptq _ _ _ (by decide)]⟩)
    · rw [ptq _ _ _ (by decide), pt_s]
    · rw [ptq _ _ _ (show (47 : Nat) ≠ 30 by decide)]
      exact wAt_c W h2 (fun k hk => pt_k _ _ _ (by omega))
theorem rl_no : ∀ (W : List Nat), wl2 W → opn W = 0 → rlW 1 W = []
  | [], _, _ => rfl
  | x :: w, hw, ho => by
    simp only [opn] at ho
    have hx := hw x List.mem_cons_self
    have h40 : ¬ (x = 262 ∨ x = 40) := by
      intro e
      rw [if_pos e] at ho
      omega
    have : ¬ cl x < 1 := by
      have : x = 60 ∨ x = 61 ∨ x = 62 ∨ x = 260 ∨ x = 261 := by omega
      rcases this with rfl | rfl | rfl | rfl | rfl <;> decide
    simp only [rlW, if_neg this]
    exact rl_no w (wl2_t hw) (by omega)
theorem rl2_40 : ∀ (W : List Nat), wl2 W → ∀ x w, rlW 1 W = x :: w → x = 40
  | [], _, x, w, h => by cases h
  | y :: v, hw, x, w, h => by
    simp only [rlW] at h
    have hy := hw y List.mem_cons_self
    by_cases g : cl y < 1
    · rw [if_pos g] at h
      have h1 : y = x := by injection h
      subst h1
      have : y = 60 ∨ y = 61 ∨ y = 62 ∨ y = 260 ∨ y = 261 ∨ y = 262 ∨ y = 40 := by omega
      rcases this with rfl | rfl | rfl | rfl | rfl | rfl | rfl
      · exact absurd g (by decide)
      · exact absurd g (by decide)
      · exact absurd g (by decide)
      · exact absurd g (by decide)
      · exact absurd g (by decide)
      · exact absurd g (by decide)
      · rfl
    · rw [if_neg g] at h
      exact rl2_40 v (wl2_t hw) x w h
