/-! TEXT: a whole condition, of the class -/
theorem sumL_b (o : Nat) (ho : o < 4) : ∀ (L : List Tk) (s : Nat) (p p' : Pg) (L' : List Tk), sumL L s p = .ok (p', L') → tkl o L → mln p' + L'.length ≤ mln p + (pd s).length + L.length ∧ tkl o L' ∧ L'.length ≤ L.length
  | [], s, p, p', L', h, ht => ht.elim
  | [t], s, p, p', L', h, ht => by
    simp only [sumL, Except.ok.injEq, Prod.mk.injEq] at h
    obtain ⟨rfl, rfl⟩ := h
    exact ⟨by rw [mln_app, mln_pd]; exact Nat.le_refl _, ht, Nat.le_refl _⟩
  | t :: u :: r, s, p, p', L', h, ht => by
    rw [sumL] at h
    by_cases h1 : t.1 = 42
    · rw [if_pos h1] at h
      have htu := (tkl_t ht (by omega)).1
      cases hu : uP u with
      | none => rw [hu] at h; cases h
      | some x =>
        rw [hu] at h
        obtain ⟨ox, kx, nu⟩ := uP_s ho hu htu
        obtain ⟨x1, x2, x3⟩ := sumL_b o ho r s _ p' L' h (tkl_t htu nu).1
        have hm : mln [x, (3, 42)] = 2 := by
          show (if x.1 = 2 then 2 else 1) + 1 = 2
          rw [if_neg (by omega)]
        rw [mln_app, hm] at x1
        exact ⟨by rw [List.length_cons, List.length_cons]; omega, x2, by rw [List.length_cons, List.length_cons]; omega⟩
    · rw [if_neg h1] at h
      by_cases h2 : t.1 = 47
      · rw [if_pos h2] at h
        have htu := (tkl_t ht (by omega)).1
        by_cases h3 : u.1 = 1
        · rw [if_pos h3] at h
          by_cases h4 : u.2.2 = 0
          · rw [if_pos h4] at h; cases h
          · rw [if_neg h4] at h
            obtain ⟨x1, x2, x3⟩ := sumL_b o ho r s _ p' L' h (tkl_t htu (by omega)).1
            have hm : mln [(2, u.2.2)] = 2 := rfl
            rw [mln_app, hm] at x1
            exact ⟨by rw [List.length_cons, List.length_cons]; omega, x2, by rw [List.length_cons, List.length_cons]; omega⟩
        · rw [if_neg h3] at h; cases h
      · rw [if_neg h2] at h
        by_cases h3 : t.1 = 43 ∨ t.1 = 45
        · rw [if_pos h3] at h
          have htu := (tkl_t ht (by omega)).1
          cases hu : uP u with
          | none => rw [hu] at h; cases h
          | some x =>
            rw [hu] at h
            obtain ⟨ox, kx, nu⟩ := uP_s ho hu htu
            obtain ⟨x1, x2, x3⟩ := sumL_b o ho r t.1 _ p' L' h (tkl_t htu nu).1
            have hq : (pd t.1).length = 1 := by
              unfold pd
              rw [if_neg (by omega)]
              rfl
            rw [mln_app, mln_app, mln_pd, mln_1 (by omega), hq] at x1
            exact ⟨by rw [List.length_cons, List.length_cons]; omega, x2, by rw [List.length_cons, List.length_cons]; omega⟩
        · rw [if_neg h3] at h
          simp only [Except.ok.injEq, Prod.mk.injEq] at h
          obtain ⟨rfl, rfl⟩ := h
          exact ⟨by rw [mln_app, mln_pd]; exact Nat.le_refl _, ht, Nat.le_refl _⟩
theorem sumP_b {o : Nat} (ho : o < 4) {L L' : List Tk} {p p' : Pg} (h : sumP L p = .ok (p', L')) (ht : tkl o L) : mln p' + L'.length ≤ mln p + L.length ∧ tkl o L' ∧ L'.length + 1 ≤ L.length := by
  match L, ht with
  | u :: r, ht =>
    unfold sumP at h
    dsimp only at h
    cases hu : uP u with
    | none => rw [hu] at h; cases h
    | some x =>
      rw [hu] at h
      obtain ⟨ox, kx, nu⟩ := uP_s ho hu ht
      obtain ⟨x1, x2, x3⟩ := sumL_b o ho r 0 _ p' L' h (tkl_t ht nu).1
      rw [mln_app, mln_1 (by omega), pd_0] at x1
      simp only [List.length_nil] at x1
      exact ⟨by rw [List.length_cons]; omega, x2, by rw [List.length_cons]; omega⟩
theorem c_cmp {o : Nat} {s : Sg} {W : List Nat} {x : Tk} {r : List Tk} (ho : o < 4) (hT : CT s (x :: r)) (hW : CW s W) (hl : W.length < 27) (ht : tkl o (x :: r)) : W1 (fRe_readComparison s) (fun z => (if 60 ≤ x.1 ∧ x.1 ≤ 62 then z.1 = 1 ∧ CW z.2 (x.1 :: W) ∧ CT z.2 r else z.1 = 0 ∧ FC z.2 (1, x.2.1)) ∧ ∀ o k, o ∉ [47] → (o, k) ∉ [(30, 3), (30, 4), (30, 6), (31, 6), (31, 7), (31, 8), (31, 9)] → z.2 o k = s o k) := by
  refine w1_f2 (pr := prI) ?_ (fr_Re_readComparison s)
  obtain ⟨h7, h8, h9⟩ := CT_h hT
  have hx := (tkl_b ho ht).1
  unfold fRe_readComparison
  rw [h7, e_within, bi_s, h7, show (60 : Int32) = nI 60 from rfl, show (62 : Int32) = nI 62 from rfl, wi_n (by omega) (by decide) (by decide)]
  by_cases g : 60 ≤ x.1 ∧ x.1 ≤ 62
  · simp only [if_pos g]
    rw [if_neg n10z]
    obtain ⟨_, u, r', rfl⟩ := tkl_t ht (by omega)
    refine w1_bv (w1_m (c_await (x := x.1) hW hl hT) (fun t h => ?_))
    rw [gb_1]
    exact w1_s ⟨rfl, h.1.1, h.1.2⟩
  · simp only [if_neg g, if_true]
    refine w1_bi (w1_m (c_wrong 1 hT) (fun z hz => ?_))
    rw [hz.1, gb_0]
    exact w1_s ⟨rfl, hz.2.1⟩
theorem rl3_c {x : Nat} (hx : 60 ≤ x ∧ x ≤ 62) (W : List Nat) : rlW 3 (x :: W) = rlW 3 W ∧ rlE 3 (x :: W) = (3, x) :: rlE 3 W := by
  have : ¬ cl x < 3 := by
    have : x = 60 ∨ x = 61 ∨ x = 62 := by omega
    rcases this with rfl | rfl | rfl <;> decide
  simp only [rlW, rlE, if_neg this]
  exact ⟨trivial, trivial⟩
/-- the class is about to read what a condition is made of -/
def CD (o : Nat) (B : Pg) (G : Rs) (s : Sg) (W : List Nat) (p : Pg) (L : List Tk) : Prop := CS B s W p L ∧ Wok W ∧ tkl o L ∧ mln (B ++ p) + W.length + L.length ≤ 401 ∧ ∃ k, L.length ≤ k ∧ cnd k true W p L = G
theorem c_cond {o : Nat} {s : Sg} {B : Pg} {L0 : List Tk} (ho : o < 4) (hT0 : CT s L0) (hC0 : CC s B) (ht0 : tkl o L0) (hb0 : mln B + L0.length ≤ 401) : W1 (fRe_readCondition s) (fun z => RC B z (cnd 401 true [] [] L0)) := by
  generalize hG0 : cnd 401 true [] [] L0 = G
  unfold fRe_readCondition
  rw [bnd_e, bnd_e]
  have hD0 : CD o B G (pt (pt s 30 6 0) 30 7 0) [] [] L0 := ⟨⟨⟨by rw [pt_k _ _ _ (by decide), pt_s]; rfl, True.intro⟩, by rw [pt_s]; rfl, by rw [List.append_nil]; exact CC_c hC0 (by rw [ptq _ _ _ (by decide), ptq _ _ _ (by decide)]) (by rw [ptq _ _ _ (by decide), ptq _ _ _ (by decide)]), CT_c hT0 (by rw [ptq _ _ _ (by decide), ptq _ _ _ (by decide)]) (by rw [ptq _ _ _ (by decide), ptq _ _ _ (by decide)]) (by rw [ptq _ _ _ (by decide), ptq _ _ _ (by decide)]) (by rw [ptq _ _ _ (by decide), ptq _ _ _ (by decide)]) ⟨by rw [pt_k _ _ _ (by decide), pt_k _ _ _ (by decide)], by rw [pt_k _ _ _ (by decide), pt_k _ _ _ (by decide)]⟩⟩, ⟨True.intro, (fun y hy => by cases hy), by decide⟩, ht0, by rw [List.append_nil]; simp only [List.length_nil]; omega, 401, by omega, hG0⟩
  generalize pt (pt s 30 6 0) 30 7 0 = s0 at hD0 ⊢
  refine w1_lp (fun k v t => (∃ W p L i, v = (1, nI i) ∧ CD o B G t W p L ∧ 2 * i + L.length ≤ 401 ∧ L.length ≤ k) ∨ (∃ W p L i, v = (0, nI i) ∧ CA o B G t W p L ∧ hK L ≠ 261 ∧ hK L ≠ 260 ∧ (hK L ≠ 41 ∨ rlW 1 W = []))) ?_ FU 401 _ _ (FU_lt (by omega)) (Or.inl ⟨[], [], L0, 0, rfl, hD0, by omega, by omega⟩)
  clear hD0 hG0 hT0 hC0 ht0 hb0
  rintro q14 k v s3 hI hq
  refine w1_j (fun (J : Sg → Option (Int32 × Sg)) => ∀ t W p L, CA o B G t W p L → hK L ≠ 261 → hK L ≠ 260 → (hK L ≠ 41 ∨ rlW 1 W = []) → W1 (J t) (fun z => RC B z G)) ?_ (fun j180 h180 => ?_)
  · -- the end of a condition
    intro t W p L hA n1 n2 n3
    obtain ⟨⟨hW, hO, hC, hT⟩, hw, hl, hok, hL, hb, kk, hkk, hG⟩ := hA
    have hge := mln_ge (B ++ p)
    match L, hL with
    | x :: r, hL =>
    rw [List.length_cons] at hb hkk
    rw [show (260 : Int32) = nI 260 from rfl]
    refine w1_bv (w1_m (c_rel (by decide) (show cl 260 = 1 from rfl) (by decide) hW hO hC hw hl (by omega)) (fun t1 h1 => ?_))
    obtain ⟨⟨a1, a2, a3⟩, a4⟩ := h1
    have hT1 : CT t1 (x :: r) := CT_c hT (frO a4 31 (by decide) (by decide)) (frO a4 33 (by decide) (by decide)) (frO a4 34 (by decide) (by decide)) (frO a4 35 (by decide) (by decide)) ⟨a4 30 3 (by decide) (by decide), a4 30 4 (by decide) (by decide)⟩
    obtain ⟨e1, e2⟩ := rl_comp (c := 1) (d := 3) (by decide) W
    obtain ⟨kk, rfl⟩ : ∃ j, kk = j + 1 := ⟨kk - 1, by omega⟩
    rw [cnd, if_neg (show ¬ x.1 = 261 from n1), if_neg (show ¬ x.1 = 260 from n2), ← e2] at hG
    have hlr := len_rl 1 W
    refine w1_j (fun (J : Sg → Option (Int32 × Sg)) => rlW 1 W = [] → W1 (J t1) (fun z => RC B z G)) ?_ (fun j202 h202 => ?_)
    · intro hr
      rw [hr] at hG
      rw [gb_1, ← hG]
      refine w1_s ⟨rfl, hT1, ?_⟩
      show CC t1 (B ++ (p ++ rlE 3 W ++ rlE 1 (rlW 3 W)))
      rw [List.append_assoc p, ← e1, ← List.append_assoc]
      exact a3
    · rw [a1.1]
      cases hr : rlW 1 W with
      | nil => exact w1_if (fun _ => h202 hr) (fun e => absurd rfl e)
      | cons y W2 =>
        rw [hr] at hG hlr
        rw [List.length_cons] at hlr
        dsimp only at hG
        rw [if_neg (show ¬ x.1 = 41 from fun e => n3.elim (fun n => n e) (fun n => by rw [hr] at n; cases n))] at hG
        rw [if_neg (show ¬ nI (y :: W2).length = 0 from nI_ne0 (by rw [List.length_cons]; omega) (by rw [List.length_cons]; omega))]
        refine w1_bi (w1_m (c_wrong 1 hT1) (fun z hz => ?_))
        rw [hz.1, if_pos rfl, gb_0, ← hG]
        exact w1_s ⟨rfl, hz.2.1⟩
  rcases hI with ⟨W, p, L, i, rfl, hD, hi, hk⟩ | ⟨W, p, L, i, rfl, hA, n1, n2, n3⟩
  rotate_left
  · refine w1_if (fun _ => h180 _ W p L hA n1 n2 n3) (fun _ => ?_)
    dsimp only
    rw [if_pos rfl]
    exact h180 _ W p L hA n1 n2 n3
  dsimp only
  have hLk : L.length ≤ 401 := by omega
  have hi2 : i ≤ 200 := by
    have := tkl_1 hD.2.2.1
    omega
  rw [if_neg (show ¬ (400 : Int32) ≤ nI i by rw [show (400 : Int32) = nI 400 from rfl, nI_leI (by decide) (by omega)]; omega), if_neg n10z]
  refine w1_lp (fun j v t => ∃ W p L, CD o B G t W p L ∧ 2 * i + L.length ≤ 401 ∧ L.length ≤ k ∧ L.length ≤ j) ?_ FU 401 _ _ (FU_lt (by omega)) ⟨W, p, L, hD, hi, hk, hLk⟩
  clear hD hi hk hLk
  rintro q25 j v s9 ⟨W, p, L, hD, hi, hk, hj⟩ hq25
  obtain ⟨⟨hW, hO, hC, hT⟩, hok, hL, hb, kk, hkk, hG⟩ := hD
  match L, hL with
  | x :: r, hL =>
  obtain ⟨h7, h8, h9⟩ := CT_h hT
  have hx := (tkl_b ho hL).1
  have h26 := W_26 hok.1 hok.2.1 hok.2.2
  have hge := mln_ge (B ++ p)
  rw [List.length_cons] at hb hkk hi hk hj
  obtain ⟨kk, rfl⟩ : ∃ j, kk = j + 1 := ⟨kk - 1, by omega⟩
  rw [cnd] at hG
  refine w1_j (fun (J : Sg → Option (Int32 × Sg)) => (x.1 = 262 ∨ x.1 = 40) → W1 (J s9) (fun z => RC B z G)) ?_ (fun j50 h50 => ?_)
  · -- not, or a bracket
    intro g
    rw [if_pos g] at hG
    have ho8 := hok.2.2
    rw [hO]
    refine w1_if (fun g2 => ?_) (fun g2 => ?_)
    · rw [show (8 : Int32) = nI 8 from rfl, nI_ltI (by omega) (by decide)] at g2
      rw [if_neg (by omega)] at hG
      rw [bnd_e, nI_1, ptq _ _ _ (show (31 : Nat) ≠ 30 by decide), h7]
      obtain ⟨hLr, u, r', rfl⟩ := tkl_t hL (by omega)
      refine w1_bv (w1_m (c_await (W := W) (x := x.1) (CW_c hW (pt_k _ _ _ (by decide)) (ptq _ _ _ (by decide))) (by omega) (CT_c hT (ptq _ _ _ (by decide)) (ptq _ _ _ (by decide)) (ptq _ _ _ (by decide)) (ptq _ _ _ (by decide)) ⟨pt_k _ _ _ (by decide), pt_k _ _ _ (by decide)⟩)) (fun t1 h1 => ?_))
      refine hq25 (j - 1) _ _ (by omega) ⟨x.1 :: W, p, u :: r', ⟨⟨h1.1.1, ?_, CC_c hC ((h1.2 37 3 (by decide) (by decide)).trans (ptf2 _ _ _ _ (by decide))) ((frO h1.2 40 (by decide) (by decide)).trans (ptq _ _ _ (by decide))), h1.1.2⟩, Wok_open hok g (by omega), hLr, by rw [List.length_cons]; omega, kk, by omega, hG⟩, by omega, by omega, by omega⟩
      refine (h1.2 30 7 (by decide) (by decide)).trans ?_
      rw [pt_s]
      simp only [opn, if_pos g]
      exact congrArg nI (Nat.add_comm _ _)
    · rw [show (8 : Int32) = nI 8 from rfl, nI_ltI (by omega) (by decide)] at g2
      rw [if_pos (by omega)] at hG
      refine w1_bi (w1_m (c_wrong 3 hT) (fun z hz => ?_))
      rw [hz.1, gb_0, ← hG]
      exact w1_s ⟨rfl, hz.2.1⟩
  · rw [h7]
    refine w1_if (fun g => h50 (Or.inl (nI_inj (b := 262) (by omega) (by decide) g))) (fun g => ?_)
    refine w1_if (fun g2 => h50 (Or.inr (nI_inj (b := 40) (by omega) (by decide) g2))) (fun g2 => ?_)
    rw [if_neg (fun c => c.elim (fun c => g (by rw [c]; rfl)) (fun c => g2 (by rw [c]; rfl)))] at hG
    refine w1_bi (w1_m (w1_f2 (c_sum ho hT hC hL (by rw [List.length_cons]; omega)) (fr_Re_readSum s9)) (fun z hz => ?_))
    obtain ⟨z1, s15⟩ := z
    obtain ⟨hz, f1⟩ := hz
    cases hs : sumP (x :: r) p with
    | error e =>
      rw [hs] at hz hG
      dsimp only at hG ⊢
      obtain ⟨y1, y2⟩ := hz
      dsimp only at y1 y2
      rw [y1, if_pos rfl, gb_0, ← hG]
      exact w1_s ⟨rfl, y2⟩
    | ok y =>
    obtain ⟨p1, L1⟩ := y
    rw [hs] at hz hG
    obtain ⟨y1, y2, y3⟩ := hz
    dsimp only at y1 y2 y3 ⊢
    rw [y1, if_neg n10z]
    obtain ⟨b1, b2, b3⟩ := sumP_b ho hs hL
    rw [List.length_cons] at b1 b3
    match L1, b2 with
    | c :: r1, b2 =>
    dsimp only at hG
    rw [List.length_cons] at b1 b3
    have hW1 : CW s15 W := CW_c hW (f1 30 6 (by decide) (by decide)) (frO f1 47 (by decide) (by decide))
    refine w1_bi (w1_m (c_cmp ho y2 hW1 (by omega) b2) (fun z hz => ?_))
    obtain ⟨z1, s17⟩ := z
    obtain ⟨hz, f2⟩ := hz
    dsimp only at hz ⊢
    by_cases gc : 60 ≤ c.1 ∧ c.1 ≤ 62
    rotate_left
    · rw [if_neg gc] at hz hG
      rw [hz.1, if_pos rfl, gb_0, ← hG]
      exact w1_s ⟨rfl, hz.2⟩
    rw [if_pos gc] at hz hG
    obtain ⟨x1, x2, x3⟩ := hz
    rw [x1, if_neg n10z]
    have htr1 := (tkl_t b2 (by omega)).1
    have hC2 : CC s17 (B ++ p1) := CC_c y3 (f2 37 3 (by decide) (by decide)) (frO f2 40 (by decide) (by decide))
    have hmB : mln (B ++ p) = mln B + mln p := mln_app _ _
    have hmB1 : mln (B ++ p1) = mln B + mln p1 := mln_app _ _
    refine w1_bi (w1_m (w1_f2 (c_sum ho x3 hC2 htr1 (by omega)) (fr_Re_readSum s17)) (fun z hz => ?_))
    obtain ⟨z1, s19⟩ := z
    obtain ⟨hz, f3⟩ := hz
    cases hs2 : sumP r1 p1 with
    | error e =>
      rw [hs2] at hz hG
      dsimp only at hG ⊢
      obtain ⟨w1, w2⟩ := hz
      dsimp only at w1 w2
      rw [w1, if_pos rfl, gb_0, ← hG]
      exact w1_s ⟨rfl, w2⟩
    | ok yy =>
    obtain ⟨p2, L2⟩ := yy
    rw [hs2] at hz hG
    obtain ⟨w1, w2, w3⟩ := hz
    dsimp only at w1 w2 w3 hG ⊢
    rw [w1, if_neg n10z]
    obtain ⟨d1, d2, d3⟩ := sumP_b ho hs2 htr1
    have hmB2 : mln (B ++ p2) = mln B + mln p2 := mln_app _ _
    obtain ⟨r3a, r3b⟩ := rl3_c gc W
    have hA : CA o B G s19 (c.1 :: W) p2 L2 := by
      refine ⟨⟨CW_c x2 (f3 30 6 (by decide) (by decide)) (frO f3 47 (by decide) (by decide)), ?_, w3, w2⟩, wl2_c gc hok.2.1, by rw [List.length_cons]; omega, by rw [r3a]; exact Wok_rl 3 hok, d2, by rw [List.length_cons]; omega, kk, by omega, ?_⟩
      · refine (f3 30 7 (by decide) (by decide)).trans ((f2 30 7 (by decide) (by decide)).trans ((f1 30 7 (by decide) (by decide)).trans ?_))
        show s9 30 7 = nI (opn (c.1 :: W))
        simp only [opn]
        rw [if_neg (by omega), Nat.zero_add]
        exact hO
      · rw [r3a, r3b, ← hG]
        simp only [List.append_assoc, List.singleton_append]
    refine w1_bv (w1_m (c_close ho hA) (fun s21 h21 => ?_))
    obtain ⟨W', p', L', hA', hn', hl'⟩ := h21
    clear hA hG
    obtain ⟨⟨hW', hO', hC', hT'⟩, hw', hlw', hok', hL', hb', k', hk', hG'⟩ := hA'
    have hA' : CA o B G s21 W' p' L' := ⟨⟨hW', hO', hC', hT'⟩, hw', hlw', hok', hL', hb', k', hk', hG'⟩
    match L', hL' with
    | x' :: r', hL' =>
    obtain ⟨h7', h8', h9'⟩ := CT_h hT'
    have hx' := (tkl_b ho hL').1
    have hge' := mln_ge (B ++ p')
    rw [List.length_cons] at hb' hk' hl'
    obtain ⟨k', rfl⟩ : ∃ j, k' = j + 1 := ⟨k' - 1, by omega⟩
    rw [cnd] at hG'
    refine w1_j (fun (J : Int32 → Sg → Option (Int32 × Sg)) => (x'.1 = 261 ∨ x'.1 = 260 → W1 (J 1 s21) (fun z => RC B z G)) ∧ (x'.1 ≠ 261 → x'.1 ≠ 260 → W1 (J 0 s21) (fun z => RC B z G))) ?_ (fun j147 h147 => ?_)
    · refine ⟨fun g => ?_, fun g3 g4 => ?_⟩
      · refine w1_j (fun (J : Sg → Option (Int32 × Sg)) => ∀ t, J t = q14 (1, nI (i + 1)) t) (fun t => by rw [nI_1]) (fun j174 h174 => ?_)
        rw [if_neg n10z, h7']
        obtain ⟨hLr, u, r2, rfl⟩ := tkl_t hL' (by omega)
        rw [List.length_cons] at hb' hk' hl'
        have fin : ∀ c, 1 ≤ c → c ≤ 3 → cl x'.1 = c → Wok (x'.1 :: rlW c (rlW 3 W')) → cnd k' true (x'.1 :: rlW c (rlW 3 W')) (p' ++ rlE 3 W' ++ rlE c (rlW 3 W')) (u :: r2) = G → W1 (bv (fRe_release (nI x'.1) s21) fun s24 => bv (fRe_await (s24 31 7) s24) fun s25 => j174 s25) (fun z => RC B z G) := by
          intro c hc hc3 hcl hok2 hG2
          obtain ⟨e1, e2⟩ := rl_comp hc3 W'
          rw [List.append_assoc, ← e1, ← e2] at hG2
          rw [← e2] at hok2
          have hlr := len_rl c W'
          have h26' := W_26 hok2.1 hok2.2.1 hok2.2.2
          rw [List.length_cons] at h26'
          refine w1_bv (w1_m (c_rel (by omega) hcl hc hW' hO' hC' hw' hlw' (by omega)) (fun t1 h1 => ?_))
          obtain ⟨⟨a1, a2, a3⟩, a4⟩ := h1
          have hT1 : CT t1 (x' :: u :: r2) := CT_c hT' (frO a4 31 (by decide) (by decide)) (frO a4 33 (by decide) (by decide)) (frO a4 34 (by decide) (by decide)) (frO a4 35 (by decide) (by decide)) ⟨a4 30 3 (by decide) (by decide), a4 30 4 (by decide) (by decide)⟩
          rw [(CT_h hT1).1]
          refine w1_bv (w1_m (c_await (x := x'.1) a1 (by omega) hT1) (fun t2 h2 => ?_))
          rw [h174]
          have hml : mln (B ++ (p' ++ rlE c W')) = mln (B ++ p') + (rlE c W').length := by rw [← List.append_assoc, mln_app, mln_rl]
          refine hq (r2.length + 1) _ _ (by omega) (Or.inl ⟨x'.1 :: rlW c W', p' ++ rlE c W', u :: r2, i + 1, rfl, ⟨⟨h2.1.1, ?_, ?_, h2.1.2⟩, hok2, hLr, by rw [hml, List.length_cons, List.length_cons]; omega, k', by rw [List.length_cons]; omega, hG2⟩, by rw [List.length_cons]; omega, by rw [List.length_cons]; omega⟩)
          · refine (h2.2 30 7 (by decide) (by decide)).trans (a2.trans ?_)
            simp only [opn]
            rw [if_neg (by omega), Nat.zero_add]
          · rw [← List.append_assoc]
            exact CC_c a3 (h2.2 37 3 (by decide) (by decide)) (frO h2.2 40 (by decide) (by decide))
        by_cases g1 : x'.1 = 261
        · rw [if_pos g1] at hG'
          refine fin 2 (by decide) (by decide) (by rw [g1]; rfl) ?_ ?_
          · rw [g1]; exact Wok_and hok'
          · rw [g1]; exact hG'
        · have g4 : x'.1 = 260 := g.resolve_left g1
          rw [if_neg g1, if_pos g4] at hG'
          refine fin 1 (by decide) (by decide) (by rw [g4]; rfl) ?_ ?_
          · rw [g4]; exact Wok_or hok'
          · rw [g4]; exact hG'
      · refine w1_j (fun (J : Sg → Option (Int32 × Sg)) => ∀ t, J t = q14 (0, nI (i + 1)) t) (fun t => by rw [nI_1]) (fun j174 h174 => ?_)
        rw [if_pos rfl, h174]
        exact hq (k - 1) _ _ (by omega) (Or.inr ⟨W', p', x' :: r', i + 1, rfl, hA', g3, g4, hn'⟩)
    · refine w1_j (fun (J : Sg → Option (Int32 × Sg)) => (x'.1 = 261 ∨ x'.1 = 260) → W1 (J s21) (fun z => RC B z G)) h147.1 (fun j142 h142 => ?_)
      rw [h7']
      refine w1_if (fun g => h142 (Or.inl (nI_inj (b := 261) (by omega) (by decide) g))) (fun g => ?_)
      refine w1_if (fun g2 => h142 (Or.inr (nI_inj (b := 260) (by omega) (by decide) g2))) (fun g2 => ?_)
      exact h147.2 (fun e => g (by rw [e]; rfl)) (fun e => g2 (by rw [e]; rfl))
