/-! TEXT: a whole sum, of the reference -/
def RM (T : Nat → Nat) (n : Nat) (b : Sg) (B : Pg) (z : Int32 × Sg) (G : Rs) : Prop :=
  match G with
  | .error e => z.1 = -1 ∧ FM z.2 e ∧ LW b z.2
  | .ok x => z.1 = 0 ∧ MT T n 0 z.2 x.2 ∧ MC b z.2 (B ++ x.1)
theorem prodL_b (o : Nat) (ho : o < 4) : ∀ (L : List Tk) (p p' : Pg) (L' : List Tk), prodL L p = .ok (p', L') → tkl o L → mln p' + L'.length ≤ mln p + L.length ∧ tkl o L' ∧ L'.length ≤ L.length
  | [], p, p', L', h, ht => ht.elim
  | [t], p, p', L', h, ht => by
    simp only [prodL, Except.ok.injEq, Prod.mk.injEq] at h
    obtain ⟨rfl, rfl⟩ := h
    exact ⟨Nat.le_refl _, ht, Nat.le_refl _⟩
  | t :: u :: r, p, p', L', h, ht => by
    rw [prodL] at h
    by_cases h1 : t.1 = 42
    · rw [if_pos h1] at h
      have htu := (tkl_t ht (by omega)).1
      cases hu : uP u with
      | none => rw [hu] at h; cases h
      | some x =>
        rw [hu] at h
        obtain ⟨ox, kx, nu⟩ := uP_s ho hu htu
        obtain ⟨x1, x2, x3⟩ := prodL_b o ho r _ p' L' h (tkl_t htu nu).1
        have hm : mln [x, (3, 42)] = 2 := by
          show (if x.1 = 2 then 2 else 1) + 1 = 2
          rw [if_neg (by omega)]
        rw [mln_app, hm] at x1
        exact ⟨by rw [List.length_cons, List.length_cons]; omega, x2, by rw [List.length_cons, List.length_cons]; omega⟩
    · rw [if_neg h1] at h
      by_cases h2 : t.1 = 47
      · rw [if_pos h2] at h
        have htu := (tkl_t ht (by omega)).1
        by_cases h3 : u.1 = 1
        · rw [if_pos h3] at h
          by_cases h4 : u.2.2 = 0
          · rw [if_pos h4] at h; cases h
          · rw [if_neg h4] at h
            obtain ⟨x1, x2, x3⟩ := prodL_b o ho r _ p' L' h (tkl_t htu (by omega)).1
            have hm : mln [(2, u.2.2)] = 2 := rfl
            rw [mln_app, hm] at x1
            exact ⟨by rw [List.length_cons, List.length_cons]; omega, x2, by rw [List.length_cons, List.length_cons]; omega⟩
        · rw [if_neg h3] at h; cases h
      · rw [if_neg h2] at h
        simp only [Except.ok.injEq, Prod.mk.injEq] at h
        obtain ⟨rfl, rfl⟩ := h
        exact ⟨Nat.le_refl _, ht, Nat.le_refl _⟩
theorem tkl_1 {o : Nat} {L : List Tk} (h : tkl o L) : 1 ≤ L.length := by
  match L, h with
  | _ :: _, _ => rw [List.length_cons]; omega
theorem e_sg {T : Nat → Nat} {n o c : Nat} {s : Sg} {t : Tk} {r : List Tk} (h : MT T n o s (t :: r)) (hc : 3 ≤ c ∧ c < 256) : fM_isSign (nI c) s = some (if t.1 = c then 1 else 0, s) := by
  have := rk_sign h.2.2.1 hc
  rw [e_isSg]
  by_cases g : t.1 = c
  · rw [if_pos g, if_pos (this.mpr g)]
  · rw [if_neg g, if_neg (fun x => g (this.mp x))]
theorem m_prod {T : Nat → Nat} {n : Nat} {b s : Sg} {B p : Pg} {L : List Tk} (h : MT T n 0 s L) (hc : MC b s (B ++ p)) (ht : tkl 0 L) (hb : mln (B ++ p) + L.length ≤ 401) : W1 (fM_readProduct s) (fun z => RM T n b B z (prodP L p)) := by
  match L, ht with
  | u :: r, ht =>
  rw [List.length_cons] at hb
  unfold fM_readProduct
  refine w1_bi (w1_m (m_unit h hc ht (fun x hx => ?_)) (fun z hz => ?_))
  · have := tkl_1 (tkl_t ht (uP_s (by decide) hx ht).2.2).1
    omega
  obtain ⟨z1, z2⟩ := z
  dsimp only
  generalize hG : prodP (u :: r) p = G
  unfold prodP at hG
  dsimp only at hG
  unfold UM at hz
  cases hu : uP u with
  | none =>
    rw [hu] at hz hG
    dsimp only at hz hG
    rw [hz.1, if_pos rfl, ← hG]
    exact w1_s ⟨rfl, hz.2⟩
  | some x0 =>
  rw [hu] at hz hG
  obtain ⟨_, kx0, nu0⟩ := uP_s (by decide) hu ht
  dsimp only at hz hG
  rw [hz.1, if_neg (by decide)]
  have hml : mln (B ++ (p ++ [x0])) = mln (B ++ p) + 1 := by rw [← List.append_assoc, mln_app, mln_1 (by omega)]
  refine w1_lp (fun k v t => ∃ q L, MT T n 0 t L ∧ MC b t (B ++ q) ∧ tkl 0 L ∧ mln (B ++ q) + L.length ≤ 401 ∧ prodL L q = G ∧ L.length ≤ k) ?_ FU 401 _ _ (FU_lt (by omega)) ⟨p ++ [x0], r, hz.2.1, by rw [← List.append_assoc]; exact hz.2.2, (tkl_t ht nu0).1, by omega, hG, by omega⟩
  clear hz hG hml
  rintro q9 k v t ⟨q, L, hT, hC, hL, hm, hG, hk⟩ hq
  match L, hL with
  | x :: r, hL =>
  rw [List.length_cons] at hm hk
  rw [show (42 : Int32) = nI 42 from rfl, show (47 : Int32) = nI 47 from rfl, e_sg hT (by decide), bi_s]
  refine w1_j (fun (J : Sg → Option (Int32 × Sg)) => (x.1 = 42 ∨ x.1 = 47) → W1 (J t) (fun z => RM T n b B z G)) ?_ (fun j28 h28 => ?_)
  rotate_left
  · have fin : x.1 ≠ 42 → x.1 ≠ 47 → prodL (x :: r) q = .ok (q, x :: r) := by
      intro e1 e2
      match r with
      | [] => rfl
      | y :: r' => rw [prodL, if_neg e1, if_neg e2]
    by_cases g : x.1 = 42
    · rw [if_pos g, if_neg n10z]
      exact h28 (Or.inl g)
    · rw [if_neg g, if_pos rfl, e_sg hT (by decide), bi_s]
      by_cases g2 : x.1 = 47
      · rw [if_pos g2, if_neg n10z]
        exact h28 (Or.inr g2)
      · rw [if_neg g2, if_pos rfl, ← hG, fin g g2]
        exact w1_s ⟨rfl, hT, hC⟩
  · intro g
    obtain ⟨hLr, y, r', rfl⟩ := tkl_t hL (by omega)
    rw [List.length_cons] at hm hk
    rw [e_sg hT (by decide), bi_s]
    refine w1_bv (w1_m (m_adv (by decide) hT) (fun t1 h1 => ?_))
    have hC1 : MC b t1 (B ++ q) := MC_c hC (h1.2 102 26 (by decide) (by decide)) (frO h1.2 117 (by decide) (by decide)) (frO h1.2 118 (by decide) (by decide))
    obtain ⟨k1, k2, k3⟩ := rk_tok h1.1.2.2.1
    rw [prodL] at hG
    have err : ∀ f : Nat, G = .error (f, y.2.1) → W1 (bi (fM_errs (nI f) t1) fun r19 s18 => some (r19, s18)) (fun z => RM T n b B z G) := by
      intro f hGe
      refine w1_bi (w1_m (m_errs f h1.1) (fun z hz => w1_s ?_))
      rw [hGe]
      exact ⟨hz.1, hz.2.1, LW_c hC1.2.2 (frO hz.2.2 117 (by decide) (by decide)) (frO hz.2.2 118 (by decide) (by decide))⟩
    -- the unit behind it, then its sign
    have go : ∀ J : Int32 → Sg → Option (Int32 × Sg), True → True := fun _ h => h
    by_cases g1 : x.1 = 42
    · rw [if_pos g1] at hG
      simp only [if_pos g1, if_neg n10z]
      refine w1_j (fun (J : Sg → Option (Int32 × Sg)) => W1 (J t1) (fun z => RM T n b B z G)) ?_ (fun j57 h57 => h57)
      refine w1_j (fun (J : Sg → Option (Int32 × Sg)) => W1 (J t1) (fun z => RM T n b B z G)) ?_ (fun j74 h74 => h74)
      refine w1_bi (w1_m (m_unit h1.1 hC1 hLr (fun w hw => by omega)) (fun z hz => ?_))
      obtain ⟨z1, z2⟩ := z
      unfold UM at hz
      cases hu : uP y with
      | none =>
        rw [hu] at hz hG
        dsimp only at hz hG ⊢
        rw [hz.1, if_pos rfl, ← hG]
        exact w1_s ⟨rfl, hz.2⟩
      | some w =>
        rw [hu] at hz hG
        obtain ⟨_, kw, nu⟩ := uP_s (by decide) hu hLr
        have hLr' := (tkl_t hLr nu).1
        have hr1 := tkl_1 hLr'
        dsimp only at hz hG ⊢
        rw [hz.1, if_neg (by decide)]
        have hml : mln (B ++ q ++ [w]) = mln (B ++ q) + 1 := by rw [mln_app, mln_1 (by omega)]
        refine w1_j (fun (J : Int32 → Sg → Option (Int32 × Sg)) => W1 (J 4 z2) (fun z => RM T n b B z G)) ?_ (fun j94 h94 => h94)
        refine w1_bv (w1_m (m_emit (3, 42) hz.2.2 (by omega) (Or.inr ⟨rfl, rfl⟩)) (fun t2 h2 => ?_))
        have eq : B ++ q ++ [w] ++ [(3, 42)] = B ++ (q ++ [w, (3, 42)]) := by simp
        have hm2 : mln (B ++ (q ++ [w, (3, 42)])) = mln (B ++ q) + 2 := by rw [← eq, mln_app, hml]; rfl
        exact hq (k - 1) _ _ (by omega) ⟨q ++ [w, (3, 42)], r', MT_c hz.2.1 (h2.2 102 12 (by decide) (by decide)) (h2.2 102 13 (by decide) (by decide)) (h2.2 102 14 (by decide) (by decide)) (h2.2 102 15 (by decide) (by decide)) (h2.2 102 16 (by decide) (by decide)) (frO h2.2 110 (by decide) (by decide)) (frO h2.2 111 (by decide) (by decide)), by rw [← eq]; exact h2.1, hLr', by omega, hG, by omega⟩
    · have g2 : x.1 = 47 := g.resolve_left g1
      rw [if_neg g1, if_pos g2] at hG
      simp only [if_neg g1, if_true]
      refine w1_j (fun (J : Sg → Option (Int32 × Sg)) => y.1 = 1 → W1 (J t1) (fun z => RM T n b B z G)) ?_ (fun j57 h57 => ?_)
      rotate_left
      · refine w1_if (fun g3 => h57 (k1.mp g3)) (fun g3 => ?_)
        rw [if_neg (fun e => g3 (k1.mpr e))] at hG
        exact err 1 hG.symm
      · intro hy1
        rw [if_pos hy1] at hG
        refine w1_j (fun (J : Sg → Option (Int32 × Sg)) => y.2.2 ≠ 0 → W1 (J t1) (fun z => RM T n b B z G)) ?_ (fun j74 h74 => ?_)
        rotate_left
        · rw [k3 hy1]
          have hy3 := (tkl_b (by decide) hLr).2.2
          refine w1_if (fun g4 => ?_) (fun g4 => h74 (fun e => g4 (by rw [e]; rfl)))
          have g4 : y.2.2 = 0 := nI_inj (by omega) (by decide) g4
          rw [if_pos g4] at hG
          exact err 2 hG.symm
        · intro hy0
          rw [if_neg hy0] at hG
          refine w1_bi (w1_m (m_unit h1.1 hC1 hLr (fun w hw => by omega)) (fun z hz => ?_))
          obtain ⟨z1, z2⟩ := z
          have hu : uP y = some (0, y.2.2) := by unfold uP; rw [if_pos hy1]
          unfold UM at hz
          rw [hu] at hz
          have hLr' := (tkl_t hLr (by omega)).1
          have hr1 := tkl_1 hLr'
          dsimp only at hz hG ⊢
          rw [hz.1, if_neg (by decide)]
          have hml : mln (B ++ q ++ [(0, y.2.2)]) = mln (B ++ q) + 1 := by rw [mln_app]; rfl
          refine w1_j (fun (J : Int32 → Sg → Option (Int32 × Sg)) => W1 (J 5 z2) (fun z => RM T n b B z G)) ?_ (fun j94 h94 => h94)
          refine w1_bv (w1_m (m_part hz.2.2 (by omega)) (fun t2 h2 => ?_))
          have eq : B ++ q ++ [(2, y.2.2)] = B ++ (q ++ [(2, y.2.2)]) := List.append_assoc _ _ _
          have hm2 : mln (B ++ (q ++ [(2, y.2.2)])) = mln (B ++ q) + 2 := by rw [← eq, mln_app]; rfl
          exact hq (k - 1) _ _ (by omega) ⟨q ++ [(2, y.2.2)], r', MT_c hz.2.1 (h2.2 102 12 (by decide) (by decide)) (h2.2 102 13 (by decide) (by decide)) (h2.2 102 14 (by decide) (by decide)) (h2.2 102 15 (by decide) (by decide)) (h2.2 102 16 (by decide) (by decide)) (frO h2.2 110 (by decide) (by decide)) (frO h2.2 111 (by decide) (by decide)), by rw [← eq]; exact h2.1, hLr', by omega, hG, by omega⟩
theorem m_sum {T : Nat → Nat} {n : Nat} {b s : Sg} {B p : Pg} {L : List Tk} (h : MT T n 0 s L) (hc : MC b s (B ++ p)) (ht : tkl 0 L) (hb : mln (B ++ p) + L.length ≤ 401) : W1 (fM_readSum s) (fun z => RM T n b B z (sumP L p)) := by
  unfold fM_readSum
  refine w1_bi (w1_m (m_prod h hc ht hb) (fun z hz => ?_))
  obtain ⟨z1, z2⟩ := z
  dsimp only
  generalize hG : sumP L p = G
  have hp : G = match prodP L p with | .error e => .error e | .ok (q, r) => sumL r 0 q := by
    rw [← hG]
    match L, ht with
    | u :: r, ht =>
    unfold sumP prodP
    dsimp only
    cases hu : uP u with
    | none => rfl
    | some x =>
      dsimp only
      rw [sum_prod]
      cases hpr : prodL r (p ++ [x]) with
      | error e => rfl
      | ok y =>
        dsimp only
        rw [pd_0, List.append_nil]
  cases hP : prodP L p with
  | error e =>
    rw [hP] at hz hp
    dsimp only at hp
    obtain ⟨e1, e2⟩ := hz
    dsimp only at e1 e2
    rw [e1, if_pos rfl, hp]
    exact w1_s ⟨rfl, e2⟩
  | ok y =>
  obtain ⟨p1, L1⟩ := y
  rw [hP] at hz hp
  obtain ⟨e1, e2, e3⟩ := hz
  dsimp only at e1 e2 e3 hp
  rw [e1, if_neg (by decide)]
  have hpb : mln (B ++ p1) + L1.length ≤ 401 ∧ tkl 0 L1 ∧ L1.length ≤ L.length ∧ ∀ t u r, L1 = t :: u :: r → t.1 ≠ 42 ∧ t.1 ≠ 47 := by
    match L, ht with
    | u :: r, ht =>
    unfold prodP at hP
    dsimp only at hP
    cases hu : uP u with
    | none => rw [hu] at hP; cases hP
    | some x =>
      rw [hu] at hP
      obtain ⟨_, kx, nu⟩ := uP_s (by decide) hu ht
      obtain ⟨y1, y2, y3⟩ := prodL_b 0 (by decide) r _ p1 L1 hP (tkl_t ht nu).1
      rw [mln_app, mln_1 (by omega)] at y1
      rw [mln_app] at hb ⊢
      rw [List.length_cons] at hb ⊢
      exact ⟨by omega, y2, by omega, prod_end r _ p1 L1 hP⟩
  obtain ⟨hb1, ht1, hl1, hn1⟩ := hpb
  have hLb : L.length ≤ 401 := by omega
  refine w1_lp (fun k v t => ∃ q L, MT T n 0 t L ∧ MC b t (B ++ q) ∧ tkl 0 L ∧ mln (B ++ q) + L.length ≤ 401 ∧ (∀ t u r, L = t :: u :: r → t.1 ≠ 42 ∧ t.1 ≠ 47) ∧ sumL L 0 q = G ∧ L.length ≤ k) ?_ FU 401 _ _ (FU_lt (by omega)) ⟨p1, L1, e2, e3, ht1, hb1, hn1, hp.symm, by omega⟩
  clear hp hP hG e1 e2 e3 hb1 ht1 hl1 hn1 h hc ht hb hLb
  rintro q9 k v t ⟨q, L, hT, hC, hL, hm, hn, hG, hk⟩ hq
  match L, hL with
  | x :: r, hL =>
  rw [List.length_cons] at hm hk
  rw [show (43 : Int32) = nI 43 from rfl, show (45 : Int32) = nI 45 from rfl, e_sg hT (by decide), bi_s]
  refine w1_j (fun (J : Sg → Option (Int32 × Sg)) => (x.1 = 43 ∨ x.1 = 45) → W1 (J t) (fun z => RM T n b B z G)) ?_ (fun j28 h28 => ?_)
  rotate_left
  · by_cases g : x.1 = 43
    · rw [if_pos g, if_neg n10z]
      exact h28 (Or.inl g)
    · rw [if_neg g, if_pos rfl, e_sg hT (by decide), bi_s]
      by_cases g2 : x.1 = 45
      · rw [if_pos g2, if_neg n10z]
        exact h28 (Or.inr g2)
      · have fin : sumL (x :: r) 0 q = .ok (q, x :: r) := by
          match r with
          | [] => simp [sumL, pd_0]
          | y :: r' => rw [sumL, if_neg (hn x y r' rfl).1, if_neg (hn x y r' rfl).2, if_neg (fun c => c.elim g g2), pd_0, List.append_nil]
        rw [if_neg g2, if_pos rfl, ← hG, fin]
        exact w1_s ⟨rfl, hT, hC⟩
  · intro g
    obtain ⟨hLr, y, r', rfl⟩ := tkl_t hL (by omega)
    rw [List.length_cons] at hm hk
    rw [sumL, if_neg (by omega), if_neg (by omega), if_pos g, pd_0, List.append_nil] at hG
    have go : ∀ a : Int32, a = nI (opS x.1) → W1 (bv (fM_reads t) fun s8 => bi (fM_readProduct s8) fun r10 s9 => if r10 = (-1) then (some ((-1), s9)) else (bv (fM_emits a 0 s9) fun s11 => q9 () s11)) (fun z => RM T n b B z G) := by
      intro a ha
      refine w1_bv (w1_m (m_adv (by decide) hT) (fun t1 h1 => ?_))
      have hC1 : MC b t1 (B ++ q) := MC_c hC (h1.2 102 26 (by decide) (by decide)) (frO h1.2 117 (by decide) (by decide)) (frO h1.2 118 (by decide) (by decide))
      refine w1_bi (w1_m (m_prod h1.1 hC1 hLr (by rw [List.length_cons]; omega)) (fun z hz => ?_))
      obtain ⟨z1, z2⟩ := z
      dsimp only
      cases hP : prodP (y :: r') q with
      | error e =>
        rw [hP] at hz
        obtain ⟨e1, e2⟩ := hz
        dsimp only at e1 e2
        rw [e1, if_pos rfl]
        have : G = .error e := by
          rw [← hG]
          unfold prodP at hP
          dsimp only at hP
          cases hu : uP y with
          | none => rw [hu] at hP; exact hP
          | some w =>
            rw [hu] at hP
            dsimp only at hP ⊢
            rw [sum_prod, hP]
        rw [this]
        exact w1_s ⟨rfl, e2⟩
      | ok yy =>
        obtain ⟨p2, L2⟩ := yy
        rw [hP] at hz
        obtain ⟨e1, e2, e3⟩ := hz
        dsimp only at e1 e2 e3
        rw [e1, if_neg (by decide)]
        unfold prodP at hP
        dsimp only at hP
        cases hu : uP y with
        | none => rw [hu] at hP; cases hP
        | some w =>
          rw [hu] at hP hG
          dsimp only at hP hG
          obtain ⟨_, kw, nu⟩ := uP_s (by decide) hu hLr
          obtain ⟨y1, y2, y3⟩ := prodL_b 0 (by decide) r' _ p2 L2 hP (tkl_t hLr nu).1
          have y4 := prod_end r' _ p2 L2 hP
          have y5 := tkl_1 y2
          rw [mln_app, mln_1 (by omega)] at y1
          rw [mln_app] at hm
          have hm2 : mln (B ++ p2) = mln B + mln p2 := mln_app _ _
          rw [sum_prod, hP] at hG
          dsimp only at hG
          have hpd : pd x.1 = [(3, x.1)] := by unfold pd; rw [if_neg (by omega)]
          rw [hpd] at hG
          refine w1_bv (w1_m (m_emit (3, x.1) e3 (by omega) (Or.inr ⟨rfl, ha⟩)) (fun t2 h2 => ?_))
          have eq : B ++ p2 ++ [(3, x.1)] = B ++ (p2 ++ [(3, x.1)]) := List.append_assoc _ _ _
          have hm3 : mln (B ++ (p2 ++ [(3, x.1)])) = mln (B ++ p2) + 1 := by rw [← eq, mln_app]; rfl
          exact hq (k - 1) _ _ (by omega) ⟨p2 ++ [(3, x.1)], L2, MT_c e2 (h2.2 102 12 (by decide) (by decide)) (h2.2 102 13 (by decide) (by decide)) (h2.2 102 14 (by decide) (by decide)) (h2.2 102 15 (by decide) (by decide)) (h2.2 102 16 (by decide) (by decide)) (frO h2.2 110 (by decide) (by decide)) (frO h2.2 111 (by decide) (by decide)), by rw [← eq]; exact h2.1, y2, by omega, y4, hG, by omega⟩
    have hv := rk_sign (c := x.1) hT.2.2.1 (by omega)
    have hv := (hv.mpr rfl).2
    refine w1_j (fun (J : Int32 → Sg → Option (Int32 × Sg)) => ∀ a, a = nI (opS x.1) → W1 (J a t) (fun z => RM T n b B z G)) go (fun j42 h42 => ?_)
    rw [hv]
    rcases g with g | g
    · rw [g]
      rw [g] at h42
      rw [if_pos rfl]
      exact h42 2 rfl
    · rw [g]
      rw [g] at h42
      rw [if_neg (by decide)]
      exact h42 3 rfl
