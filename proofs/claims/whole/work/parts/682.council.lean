/-! council -/
theorem pm_len {n : Nat} : ∀ (k : Nat) (pre o : List Nat), o ∈ pmL n k pre → o.length = pre.length + k
  | 0, pre, o, h => by
    rw [pmL, List.mem_singleton] at h
    rw [h]; rfl
  | k + 1, pre, o, h => by
    rw [pmL, List.mem_flatMap] at h
    obtain ⟨i, _, h2⟩ := h
    split at h2
    · cases h2
    · rw [pm_len k (pre ++ [i]) o h2, List.length_append, List.length_singleton]
      omega
def vlf (m p g : Nat → Nat) : Nat → Nat → Nat × Nat → Nat × Nat
  | 0, _, x => x
  | k + 1, i, x => vlf m p g k (i + 1) (vf m p x (g i))
theorem vlf_e {m p g : Nat → Nat} : ∀ (t : List Nat) (i : Nat) (x : Nat × Nat), (∀ j, j < t.length → g (i + j) = t.getD j 0) → vlf m p g t.length i x = t.foldl (vf m p) x
  | [], _, _, _ => rfl
  | a :: t, i, x, h => by
    rw [List.length_cons, vlf, List.foldl_cons, show g i = a from h 0 (by rw [List.length_cons]; omega)]
    refine vlf_e t (i + 1) _ (fun j hj => ?_)
    have := h (j + 1) (by rw [List.length_cons]; omega)
    rw [show i + 1 + j = i + (j + 1) by omega, this]
    rfl
theorem m1lt {M X : Nat} (hM : M < 2 ^ 30) (hX : X < 2 ^ 30) : nI M - 1 < nI X ↔ M ≤ X := by
  cases M with
  | zero => exact ⟨fun _ => Nat.zero_le _, fun _ => m1_lt (by omega)⟩
  | succ M => rw [nI_pred, nI_ltI (by omega) (by omega)]; omega
theorem vf_b {m p : Nat → Nat} (hm : ∀ i, m i ≤ 30) (x : Nat × Nat) (i : Nat) : (vf m p x i).1 ≤ x.1 + 30 := by
  unfold vf
  split
  · omega
  · have := hm i
    dsimp only
    omega
theorem vlf_b {m p g : Nat → Nat} (hm : ∀ i, m i ≤ 30) : ∀ (k i : Nat) (x : Nat × Nat), (vlf m p g k i x).1 ≤ x.1 + 30 * k ∧ (vlf m p g k i x).2 ≤ x.2 + k
  | 0, _, x => ⟨Nat.le_refl _, Nat.le_refl _⟩
  | k + 1, i, x => by
    have h1 := vlf_b (p := p) (g := g) hm k (i + 1) (vf m p x (g i))
    have h2 := vf_b (p := p) hm x (g i)
    have h3 := vf_le m p [g i] x
    rw [List.foldl_cons, List.foldl_nil, List.length_singleton] at h3
    rw [vlf]
    omega
theorem e_spo {s : Sg} {n : Nat} {m p : Nat → Nat} {o : List Nat} (hn : n ≤ 6) (h : oAt s n (oFn o)) (hl : ∀ k, k < n → oFn o k < 6) (hlen : o.length = n) (hm : ∀ i, m i ≤ 30) (hp : ∀ i, p i ≤ 99) (h133 : ∀ i, i < 6 → s 133 i = nI (m i)) (h134 : ∀ i, i < 6 → s 134 i = nI (p i)) : fM_spokenBy s = some (nI (vl m p o), s) := by
  unfold fM_spokenBy
  simp only [bnd_x]
  have ev : vl m p o = (vlf m p (oFn o) n 0 (0, 0)).2 := by
    rw [← hlen, vlf_e o 0 (0, 0) (fun j _ => by rw [Nat.zero_add]; rfl)]
    rfl
  rw [ev]
  refine w1_e (w1_lp (fun k u t => t = s ∧ ∃ i x y, i + k = n ∧ u = (nI x, nI y, nI i) ∧ x ≤ 30 * i ∧ y ≤ i ∧ vlf m p (oFn o) k i (x, y) = vlf m p (oFn o) n 0 (0, 0)) ?_ FU n _ _ (FU_lt (by omega)) ⟨rfl, 0, 0, 0, by omega, rfl, by omega, by omega, rfl⟩)
  rintro q k u t ⟨rfl, i, x, y, hi, rfl, hx, hy, hR⟩ hq
  dsimp only
  rw [h.1]
  refine w1_if (fun c => ?_) (fun c => ?_)
  · rw [nI_leI (by omega) (by omega)] at c
    rw [show k = 0 by omega, vlf] at hR
    rw [← hR]
    exact w1_s rfl
  · rw [nI_leI (by omega) (by omega)] at c
    obtain ⟨k, rfl⟩ : ∃ z, k = z + 1 := ⟨k - 1, by omega⟩
    rw [vlf] at hR
    have li := hl i (by omega)
    have pm := hp (oFn o i)
    have mm := hm (oFn o i)
    rw [gd_n _ (show i < 6 by omega) (by decide), ix_n (by omega), h.2 i (by omega), gd_n _ li (by decide), ix_n (by omega), h134 _ li, h133 _ li, gd_n _ (show i < 6 by omega) (by decide), gd_n _ li (by decide), nI_add, nI_1, nI_1]
    refine w1_if (fun c2 => ?_) (fun c2 => ?_)
    · rw [nI_leI (by omega) (by omega)] at c2
      have : vf m p (x, y) (oFn o i) = (x + m (oFn o i), y + 1) := by
        unfold vf
        rw [if_neg (by dsimp only; omega)]
      rw [this] at hR
      exact hq k _ _ (by omega) ⟨rfl, i + 1, _, _, by omega, rfl, by omega, by omega, hR⟩
    · rw [nI_leI (by omega) (by omega)] at c2
      have : vf m p (x, y) (oFn o i) = (x, y) := by
        unfold vf
        rw [if_pos (by dsimp only; omega)]
      rw [this] at hR
      exact hq k _ _ (by omega) ⟨rfl, i + 1, _, _, by omega, rfl, by omega, by omega, hR⟩
/-- the best so far -/
def bAt (o : Nat) (n : Nat) (mv : Int32) (s : Sg) (X : Nat × List Nat) : Prop := mv = nI X.1 - 1 ∧ X.1 ≤ 7 ∧ (X.1 ≠ 0 → ∀ k, k < n → s o k = nI (oFn X.2 k))
theorem oFn_app {pre : List Nat} {i j : Nat} : oFn (pre ++ [i]) j = if j < pre.length then oFn pre j else if j = pre.length then i else 0 := by
  unfold oFn
  by_cases h : j < pre.length
  · rw [if_pos h, List.getD_eq_getElem?_getD, List.getD_eq_getElem?_getD, List.getElem?_append_left h]
  · rw [if_neg h]
    by_cases e : j = pre.length
    · subst e
      rw [if_pos rfl, List.getD_eq_getElem?_getD, List.getElem?_append_right (Nat.le_refl _), Nat.sub_self]
      rfl
    · rw [if_neg e, List.getD_eq_getElem?_getD, List.getElem?_eq_none (by rw [List.length_append, List.length_singleton]; omega)]
      rfl
theorem vl_b {m p : Nat → Nat} (o : List Nat) : vl m p o ≤ o.length := by
  have := vf_le m p o (0, 0)
  unfold vl
  omega
theorem tm_b {m p : Nat → Nat} (hm : ∀ i, m i ≤ 30) : ∀ (o : List Nat) (x : Nat × Nat), (o.foldl (vf m p) x).1 ≤ x.1 + 30 * o.length
  | [], x => Nat.le_refl _
  | a :: t, x => by
    rw [List.foldl_cons, List.length_cons]
    have h1 := tm_b (p := p) hm t (vf m p x a)
    have h2 := vf_b (p := p) hm x a
    omega
theorem seat_ok {n : Nat} {m p : Nat → Nat} (hn : n ≤ 6) (hm : ∀ i, m i ≤ 30) (hp : ∀ i, p i ≤ 99) : ∀ (k fuel : Nat) (pre : List Nat) (mask : Nat) (s : Sg) (X : Nat × List Nat), k < fuel → pre.length + k = n → mask < 64 → (∀ i, i < n → (mask.testBit i = true ↔ i ∈ pre)) → (s 57 0 = nI 2 ∧ s 57 1 = nI 6 ∧ s 57 3 = nI n) → (∀ i, i < 6 → s 58 (i * 2) = nI (m i) ∧ s 58 (i * 2 + 1) = nI (p i)) → bAt 69 n (s 66 6) s X → (∀ j, j < pre.length → s 68 j = nI (oFn pre j)) →
    W1 (fMu_seat fuel (nI mask) (nI pre.length) (nI (pre.foldl (vf m p) (0, 0)).1) (nI (vl m p pre)) s) (fun s' => bAt 69 n (s' 66 6) s' ((pmL n k pre).foldl (ub m p) X) ∧ (∀ j, j < pre.length → s' 68 j = s 68 j) ∧ s' 57 = s 57 ∧ s' 58 = s 58) := by
  intro k
  induction k with
  | zero =>
    intro fuel pre mask s X hfu hlen hmk hmb ht hc hb ho
    obtain ⟨fuel, rfl⟩ : ∃ y, fuel = y + 1 := ⟨fuel - 1, by omega⟩
    show W1 (fMu_seatB (fMu_seat fuel) _ _ _ _ s) _
    unfold fMu_seatB
    generalize fMu_seat fuel = rec
    simp only [bnd_x]
    have vb := vl_b (m := m) (p := p) pre
    have hX := hb.2.1
    rw [hb.1, ht.2.2, nI_add, pk_sub (by omega), show vl m p pre + n - pre.length = vl m p pre by omega]
    rw [pmL, List.foldl_cons, List.foldl_nil]
    refine w1_if (fun c => ?_) (fun c => ?_)
    · rw [m1lt (by omega) (by omega)] at c
      rw [if_pos (show nI n ≤ nI pre.length from nI_le (by omega) (by omega)), show cpy (pt s 66 6 (nI (vl m p pre))) 68 6 0 69 6 0 6 = _ from e_cpy (n := 6) (l := 6) (by decide) (by decide), bv_s]
      have eu : ub m p X pre = (vl m p pre + 1, pre) := by
        unfold ub
        rw [if_pos (by omega)]
      rw [eu]
      refine w1_s ⟨⟨?_, by dsimp only; omega, fun _ k hk => ?_⟩, fun j hj => ?_, ?_, ?_⟩
      · dsimp only
        rw [nI_pred]
        simp only [rs, if_neg (show ¬ 66 = 69 by decide)]
        exact pt_s _ _ _ _
      · simp only [rs, if_true]
        rw [if_pos (by omega), pt_o _ _ _ _ (by decide)]
        exact ho k (by omega)
      · simp only [rs, if_neg (show ¬ 68 = 69 by decide)]
        exact pt_o _ _ _ _ (by decide)
      · simp only [rs, if_neg (show ¬ 57 = 69 by decide)]
        exact ptq _ _ _ (by decide)
      · simp only [rs, if_neg (show ¬ 58 = 69 by decide)]
        exact ptq _ _ _ (by decide)
    · rw [m1lt (by omega) (by omega)] at c
      have eu : ub m p X pre = X := by
        unfold ub
        rw [if_neg (by omega)]
      rw [eu]
      exact w1_s ⟨hb, fun _ _ => rfl, rfl, rfl⟩
  | succ k ih =>
    intro fuel pre mask s X hfu hlen hmk hmb ht hc hb ho
    obtain ⟨fuel, rfl⟩ : ∃ y, fuel = y + 1 := ⟨fuel - 1, by omega⟩
    have IH := fun pre mask s X => ih fuel pre mask s X (by omega)
    show W1 (fMu_seatB (fMu_seat fuel) _ _ _ _ s) _
    unfold fMu_seatB
    generalize fMu_seat fuel = rec at IH
    simp only [bnd_x]
    have vb := vl_b (m := m) (p := p) pre
    have tb := tm_b (p := p) hm pre (0, 0)
    have hX := hb.2.1
    rw [hb.1, ht.2.2, nI_add, pk_sub (by omega), show vl m p pre + n - pre.length = vl m p pre + (k + 1) by omega]
    refine w1_if (fun c => ?_) (fun c => ?_)
    · rw [if_neg (show ¬ nI n ≤ nI pre.length from nI_ge (by omega) (by omega)), if_neg (nI_pos (by omega)), if_pos (show nI pre.length < 6 from nI_lt (b := 6) (by omega) (by decide))]
      have eP : pmL n (k + 1) pre = (List.range n).flatMap fun i => if i ∈ pre then [] else pmL n k (pre ++ [i]) := rfl
      rw [eP]
      refine w1_lp (fun j v t => ∃ i, i + j = n ∧ v = nI i ∧ bAt 69 n (t 66 6) t (((List.range i).flatMap fun i => if i ∈ pre then [] else pmL n k (pre ++ [i])).foldl (ub m p) X) ∧ (∀ j, j < pre.length → t 68 j = s 68 j) ∧ t 57 = s 57 ∧ t 58 = s 58) ?_ FU n _ _ (FU_lt (by omega)) ⟨0, by omega, rfl, hb, fun _ _ => rfl, rfl, rfl⟩
      rintro q j v t ⟨i, hi, rfl, g1, g2, g3, g4⟩ hq
      rw [g3, ht.2.2]
      refine w1_if (fun c2 => ?_) (fun c2 => ?_)
      · rw [nI_leI (by omega) (by omega)] at c2
        rw [show i = n by omega] at g1
        exact w1_s ⟨g1, g2, g3, g4⟩
      rw [nI_leI (by omega) (by omega)] at c2
      have e1 : ((List.range (i + 1)).flatMap fun i => if i ∈ pre then [] else pmL n k (pre ++ [i])).foldl (ub m p) X = (if i ∈ pre then [] else pmL n k (pre ++ [i])).foldl (ub m p) (((List.range i).flatMap fun i => if i ∈ pre then [] else pmL n k (pre ++ [i])).foldl (ub m p) X) := by
        rw [List.range_succ, List.flatMap_append, List.foldl_append, List.flatMap_cons, List.flatMap_nil, List.append_nil]
      rw [nI_1]
      refine w1_if (fun c3 => ?_) (fun c3 => ?_)
      · rw [bt_t (by omega) (by omega), hmb i (by omega)] at c3
        refine hq (j - 1) _ _ (by omega) ⟨i + 1, by omega, rfl, ?_, g2, g3, g4⟩
        rw [e1, if_pos c3]
        exact g1
      · rw [bt_t (by omega) (by omega), hmb i (by omega)] at c3
        have T0 : fTa_tell 57 (nI i) 0 (pt t 68 pre.length (nI i)) = some (nI (m i), pt t 68 pre.length (nI i)) := by
          have := e_tell (s := pt t 68 pre.length (nI i)) (t := 57) (i := i) (j := 0) (w := 2) (l := 6) (by rw [pt_o _ _ _ _ (by decide), g3]; exact ht.1) (by rw [pt_o _ _ _ _ (by decide), g3]; exact ht.2.1) (by decide) (by decide) (show i < 6 by omega) (by decide) (by decide) (by decide)
          rw [show hz_rf 57 2 = 58 from rfl, pt_o _ _ _ _ (by decide), g4, show i * 2 + 0 = i * 2 from rfl, (hc i (by omega)).1] at this
          exact this
        have T1 : fTa_tell 57 (nI i) 1 (pt t 68 pre.length (nI i)) = some (nI (p i), pt t 68 pre.length (nI i)) := by
          have := e_tell (s := pt t 68 pre.length (nI i)) (t := 57) (i := i) (j := 1) (w := 2) (l := 6) (by rw [pt_o _ _ _ _ (by decide), g3]; exact ht.1) (by rw [pt_o _ _ _ _ (by decide), g3]; exact ht.2.1) (by decide) (by decide) (show i < 6 by omega) (by decide) (by decide) (by decide)
          rw [show hz_rf 57 2 = 58 from rfl, pt_o _ _ _ _ (by decide), g4, (hc i (by omega)).2] at this
          exact this
        have hpi := hp i
        have hmi := hm i
        rw [gd_n _ (show pre.length < 6 by omega) (by decide), ix_n (by omega), T1, bi_s, T0, bi_s, sh1 i (by omega), nx_or, nI_add, nI_1, nI_1]
        have len1 : (pre ++ [i]).length = pre.length + 1 := by rw [List.length_append, List.length_singleton]
        have st := IH (pre ++ [i]) (mask ||| 2 ^ i) (pt t 68 pre.length (nI i)) (((List.range i).flatMap fun i => if i ∈ pre then [] else pmL n k (pre ++ [i])).foldl (ub m p) X) (by rw [len1]; omega) (Nat.or_lt_two_pow (n := 6) hmk (Nat.pow_lt_pow_right (by decide) (by omega))) (fun x hx => by
          rw [tb_or, Bool.or_eq_true, decide_eq_true_iff, hmb x hx, List.mem_append, List.mem_singleton]) (by rw [ptq _ _ _ (by decide), g3]; exact ht) (fun x hx => by rw [ptq _ _ _ (by decide), g4]; exact hc x hx) ⟨by rw [pt_o _ _ _ _ (by decide)]; exact g1.1, g1.2.1, fun h0 x hx => by rw [pt_o _ _ _ _ (by decide)]; exact g1.2.2 h0 x hx⟩ (fun x hx => by
          rw [oFn_app]
          rw [len1] at hx
          by_cases e : x = pre.length
          · subst e; rw [pt_s, if_neg (by omega), if_pos rfl]
          · rw [pt_k _ _ _ e, if_pos (by omega), g2 x (by omega)]; exact ho x (by omega))
        rw [len1] at st
        have post : ∀ f : Option Sg, W1 f (fun s' => bAt 69 n (s' 66 6) s' ((pmL n k (pre ++ [i])).foldl (ub m p) (((List.range i).flatMap fun i => if i ∈ pre then [] else pmL n k (pre ++ [i])).foldl (ub m p) X)) ∧ (∀ j, j < pre.length + 1 → s' 68 j = pt t 68 pre.length (nI i) 68 j) ∧ s' 57 = pt t 68 pre.length (nI i) 57 ∧ s' 58 = pt t 68 pre.length (nI i) 58) → W1 (bv f fun s11 => q (nI (i + 1)) s11) (fun s' => bAt 69 n (s' 66 6) s' (((List.range n).flatMap fun i => if i ∈ pre then [] else pmL n k (pre ++ [i])).foldl (ub m p) X) ∧ (∀ j, j < pre.length → s' 68 j = s 68 j) ∧ s' 57 = s 57 ∧ s' 58 = s 58) := by
          intro f hf
          refine w1_bv (w1_m hf (fun s' hs => ?_))
          obtain ⟨h1, h2, h3, h4⟩ := hs
          refine hq (j - 1) _ _ (by omega) ⟨i + 1, by omega, rfl, ?_, fun x hx => ?_, ?_, ?_⟩
          · rw [e1, if_neg c3]; exact h1
          · rw [h2 x (by omega), pt_k _ _ _ (by omega), g2 x hx]
          · rw [h3, ptq _ _ _ (by decide), g3]
          · rw [h4, ptq _ _ _ (by decide), g4]
        have ev : (pre ++ [i]).foldl (vf m p) (0, 0) = vf m p (pre.foldl (vf m p) (0, 0)) i := by rw [List.foldl_append]; rfl
        refine w1_if (fun c4 => ?_) (fun c4 => ?_)
        · rw [nI_leI (by omega) (by omega)] at c4
          have e2 : vf m p (pre.foldl (vf m p) (0, 0)) i = ((pre.foldl (vf m p) (0, 0)).1 + m i, vl m p pre + 1) := if_neg (show ¬ p i < (pre.foldl (vf m p) (0, 0)).1 by omega)
          have e3 : vl m p (pre ++ [i]) = vl m p pre + 1 := by
            unfold vl at e2 ⊢
            rw [ev, e2]
          rw [ev, e2, e3] at st
          exact post _ st
        · rw [nI_leI (by omega) (by omega)] at c4
          have e2 : vf m p (pre.foldl (vf m p) (0, 0)) i = pre.foldl (vf m p) (0, 0) := if_pos (show p i < (pre.foldl (vf m p) (0, 0)).1 by omega)
          have e3 : vl m p (pre ++ [i]) = vl m p pre := by
            unfold vl
            rw [ev, e2]
          rw [ev, e2, e3] at st
          exact post _ st
    · rw [m1lt (by omega) (by omega)] at c
      rw [ub_no _ X (fun o ho => by
        have := pm_val (m := m) (p := p) (k + 1) pre o ho
        omega)]
      exact w1_s ⟨hb, fun _ _ => rfl, rfl, rfl⟩
