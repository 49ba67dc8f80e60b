/-! TEXT: a whole sum, of the class -/
def RC (B : Pg) (z : Int32 × Sg) (G : Rs) : Prop :=
  match G with
  | .error e => z.1 = 0 ∧ FC z.2 e
  | .ok x => z.1 = 1 ∧ CT z.2 x.2 ∧ CC z.2 (B ++ x.1)
theorem FC_c {s t : Sg} {e : Nat × Nat} (h : FC s e) (h1 : t 30 = s 30) : FC t e := by
  unfold FC
  rw [h1]
  exact h
theorem c_sum {o : Nat} {s : Sg} {B p : Pg} {L : List Tk} (ho : o < 4) (h : CT s L) (hc : CC s (B ++ p)) (ht : tkl o L) (hb : mln (B ++ p) + L.length ≤ 401) : W1 (fRe_readSum s) (fun z => RC B z (sumP L p)) := by
  match L, ht with
  | u :: r, ht =>
  have hge := mln_ge (B ++ p)
  rw [List.length_cons] at hb
  unfold fRe_readSum
  refine w1_bi (w1_m (c_unit ho h hc ht (fun x hx => ?_)) (fun z hz => ?_))
  · obtain ⟨_, v, r', rfl⟩ := tkl_t ht (uP_s ho hx ht).2.2
    rw [List.length_cons] at hb
    omega
  obtain ⟨z1, z2⟩ := z
  dsimp only at hz ⊢
  generalize hG : sumP (u :: r) p = G
  refine w1_lp (fun k v t => (∃ sg q L i, v = (nI sg, 1, nI i) ∧ (sg = 0 ∨ sg = 43 ∨ sg = 45) ∧ CT t L ∧ CC t (B ++ q) ∧ tkl o L ∧ i + L.length ≤ 401 ∧ mln (B ++ q) + (pd sg).length + L.length ≤ 401 ∧ sumL L sg q = G ∧ L.length ≤ k) ∨ (∃ e sg i m, v = (nI sg, 0, nI i) ∧ G = .error e ∧ FC t e ∧ m ≤ 400 ∧ t 37 3 = nI m)) ?_ FU 401 _ _ (FU_lt (by omega)) ?_
  · clear hG hz
    rintro q9 k v t hI hq
    rcases hI with ⟨sg, q, L, i, rfl, hsg, hT, hC, hL, hi, hm, hG, hk⟩ | ⟨e, sg, i, m, rfl, hG, hF, hm, h37⟩
    rotate_left
    · -- a fault was found
      dsimp only
      have fin : W1 (bv (fRe_addSum (nI sg) t) fun s5 => gb 0 (some (0, s5))) (fun z => RC B z G) := by
        refine w1_bv (w1_m (c_addSum0 h37 hm) (fun t' h' => ?_))
        rw [gb_0, hG]
        exact w1_s ⟨rfl, FC_c hF (frO h' 30 (by decide) (by decide))⟩
      refine w1_j (fun (J : Sg → Option (Int32 × Sg)) => W1 (J t) (fun z => RC B z G)) fin (fun j151 h151 => ?_)
      refine w1_if (fun _ => h151) (fun _ => ?_)
      rw [if_pos rfl]
      exact h151
    have hge := mln_ge (B ++ q)
    dsimp only
    refine w1_j (fun (J : Sg → Option (Int32 × Sg)) => sumL L sg q = .ok (q ++ pd sg, L) → W1 (J t) (fun z => RC B z G)) ?_ (fun j151 h151 => ?_)
    · intro he
      have h1 : 1 ≤ L.length := by
        match L, hL with
        | x :: _, _ => rw [List.length_cons]; omega
      refine w1_bv (w1_m (c_addSum hsg hC (by omega)) (fun t' h' => ?_))
      rw [gb_1, ← hG, he]
      refine w1_s ⟨rfl, CT_c hT (frO h'.2 31 (by decide) (by decide)) (frO h'.2 33 (by decide) (by decide)) (frO h'.2 34 (by decide) (by decide)) (frO h'.2 35 (by decide) (by decide)) ⟨h'.2 30 3 (by decide) (by decide), h'.2 30 4 (by decide) (by decide)⟩, ?_⟩
      show CC t' (B ++ (q ++ pd sg))
      rw [← List.append_assoc]
      exact h'.1
    match L, hL with
    | x :: r, hL =>
    obtain ⟨h7, h8, h9⟩ := CT_h hT
    obtain ⟨b1, b2, b3⟩ := tkl_b ho hL
    rw [List.length_cons] at hi hm hk
    by_cases hx0 : x.1 = 0
    · -- the end
      have hr : r = [] := by
        rcases hL.2.2.2 with ⟨_, hr⟩ | ⟨hr, _⟩
        · exact hr
        · exact absurd hx0 hr
      subst hr
      have hend : sumL [x] sg q = .ok (q ++ pd sg, [x]) := rfl
      refine w1_if (fun _ => h151 hend) (fun _ => ?_)
      rw [if_neg n10z]
      refine w1_j (fun (_ : Int32 → Int32 → Sg → Option (Int32 × Sg)) => True) True.intro (fun j145 _ => ?_)
      rw [h7, hx0, if_neg (by decide), if_neg (by decide)]
      refine w1_j (fun (_ : Sg → Option (Int32 × Sg)) => True) True.intro (fun j125 _ => ?_)
      rw [if_neg (by decide), if_neg (by decide)]
      exact h151 hend
    obtain ⟨hLr, y, r', rfl⟩ := tkl_t hL hx0
    rw [List.length_cons] at hi hm hk
    rw [show (400 : Int32) = nI 400 from rfl, if_neg (show ¬ nI 400 ≤ nI i by rw [nI_leI (by decide) (by omega)]; omega), if_neg n10z, nI_1]
    refine w1_j (fun (J : Int32 → Int32 → Sg → Option (Int32 × Sg)) => ∀ a b t, J a b t = q9 (a, b, nI (i + 1)) t) (fun _ _ _ => rfl) (fun j145 h145 => ?_)
    have hx42 : nI x.1 = 42 ↔ x.1 = 42 := nI_e (b := 42) (by omega) (by decide)
    have hx47 : nI x.1 = 47 ↔ x.1 = 47 := nI_e (b := 47) (by omega) (by decide)
    have hx43 : nI x.1 = 43 ↔ x.1 = 43 := nI_e (b := 43) (by omega) (by decide)
    have hx45 : nI x.1 = 45 ↔ x.1 = 45 := nI_e (b := 45) (by omega) (by decide)
    rw [sumL] at hG h151
    rw [h7]
    refine w1_if (fun g => ?_) (fun g => ?_)
    · -- times
      have g : x.1 = 42 := hx42.mp g
      rw [if_pos g] at hG
      refine w1_bv (w1_m (w1_f2 (c_adv hT) (fr_To_advance t)) (fun t1 h1 => ?_))
      have hC1 : CC t1 (B ++ q) := CC_c hC (h1.2 37 3 (by decide) (by decide)) (frO h1.2 40 (by decide) (by decide))
      refine w1_bi (w1_m (c_unit ho h1.1 hC1 hLr (fun w hw => ?_)) (fun z hz => ?_))
      · omega
      obtain ⟨z1, z2⟩ := z
      cases hu : uP y with
      | none =>
        rw [hu] at hz hG
        dsimp only at hz hG ⊢
        refine w1_bv (w1_m (c_code0 _ hz.2.2 (by omega)) (fun t2 h2 => ?_))
        rw [h145, hz.1]
        obtain ⟨⟨m2, hm2, e2⟩, h2⟩ := h2
        exact hq (k - 1) _ _ (by omega) (Or.inr ⟨_, sg, i + 1, m2, rfl, hG.symm, FC_c hz.2.1 (frO h2 30 (by decide) (by decide)), hm2, e2⟩)
      | some w =>
        rw [hu] at hz hG
        obtain ⟨_, kw, nu⟩ := uP_s ho hu hLr
        obtain ⟨hLr', _⟩ := tkl_t hLr nu
        have hr1 : 1 ≤ r'.length := by
          match r', hLr' with
          | _ :: _, _ => rw [List.length_cons]; omega
        dsimp only at hz hG ⊢
        have hlen : ((B ++ q) ++ [w]).length = (B ++ q).length + 1 := by rw [List.length_append]; rfl
        refine w1_bv (w1_m (c_code (3, 42) hz.2.2 (by omega) (by rw [g]; rfl)) (fun t2 h2 => ?_))
        rw [h145, hz.1]
        have eq : (B ++ q) ++ [w] ++ [(3, 42)] = B ++ (q ++ [w, (3, 42)]) := by simp
        have hml : mln (B ++ (q ++ [w, (3, 42)])) = mln (B ++ q) + 2 := by
          rw [← eq, mln_app, mln_app, mln_1 (by omega), mln_1 (by decide)]
        refine hq (k - 1) _ _ (by omega) (Or.inl ⟨sg, q ++ [w, (3, 42)], r', i + 1, rfl, hsg, CT_c hz.2.1 (frO h2.2 31 (by decide) (by decide)) (frO h2.2 33 (by decide) (by decide)) (frO h2.2 34 (by decide) (by decide)) (frO h2.2 35 (by decide) (by decide)) ⟨h2.2 30 3 (by decide) (by decide), h2.2 30 4 (by decide) (by decide)⟩, by rw [← eq]; exact h2.1, hLr', by omega, by omega, hG, by omega⟩)
    have g : x.1 ≠ 42 := fun e => g (hx42.mpr e)
    rw [if_neg g] at hG h151
    refine w1_if (fun g2 => ?_) (fun g2 => ?_)
    · -- a part
      have g2 : x.1 = 47 := hx47.mp g2
      rw [if_pos g2] at hG
      refine w1_bv (w1_m (w1_f2 (c_adv hT) (fr_To_advance t)) (fun t1 h1 => ?_))
      have hC1 : CC t1 (B ++ q) := CC_c hC (h1.2 37 3 (by decide) (by decide)) (frO h1.2 40 (by decide) (by decide))
      refine w1_bi (w1_m (c_number 1 9999 ho h1.1 hLr) (fun z hz => ?_))
      obtain ⟨z1, z2⟩ := z
      obtain ⟨hz, hf⟩ := hz
      have hC2 : CC z2 (B ++ q) := CC_c hC1 (hf 37 3 (by decide) (by decide)) (frO hf 40 (by decide) (by decide))
      obtain ⟨c1, c2, c3⟩ := tkl_b ho hLr
      have hw : wi (nI y.2.2) 1 9999 = if 1 ≤ y.2.2 ∧ y.2.2 ≤ 9999 then 1 else 0 := wi_n (a := 1) (b := 9999) (by omega) (by decide) (by decide)
      have bad : ∀ e, FC z2 e → z1 = 0 → G = .error e → W1 (bv (fLa_addCode 37 (20000 + (z2 30 5)) z2) fun s15 => j145 (nI sg) z1 s15) (fun z => RC B z G) := by
        intro e he h0 hGe
        refine w1_bv (w1_m (c_code0 _ hC2.1 (by omega)) (fun t2 h2 => ?_))
        rw [h145, h0]
        obtain ⟨⟨m2, hm2, e2⟩, h2⟩ := h2
        exact hq (k - 1) _ _ (by omega) (Or.inr ⟨_, sg, i + 1, m2, rfl, hGe, FC_c he (frO h2 30 (by decide) (by decide)), hm2, e2⟩)
      dsimp only at hz ⊢
      by_cases g3 : y.1 = 1
      · rw [if_pos g3] at hz hG
        by_cases g4 : y.2.2 = 0
        · rw [if_pos g4] at hG
          rw [hw, if_neg (show ¬ (1 ≤ y.2.2 ∧ y.2.2 ≤ 9999) by omega), if_pos rfl] at hz
          exact bad _ hz.2 hz.1 hG.symm
        · rw [if_neg g4] at hG
          rw [hw, if_pos (show 1 ≤ y.2.2 ∧ y.2.2 ≤ 9999 by omega), if_neg n10z] at hz
          obtain ⟨hLr', _⟩ := tkl_t hLr (by omega)
          have hr1 : 1 ≤ r'.length := by
            match r', hLr' with
            | _ :: _, _ => rw [List.length_cons]; omega
          refine w1_bv (w1_m (c_code (2, y.2.2) hC2 (by omega) (by rw [hz.2.2, show (20000 : Int32) = nI 20000 from rfl, nI_add]; exact congrArg nI (show 20000 + y.2.2 = 2 * 10000 + y.2.2 by omega))) (fun t2 h2 => ?_))
          rw [h145, hz.1]
          have eq : (B ++ q) ++ [(2, y.2.2)] = B ++ (q ++ [(2, y.2.2)]) := List.append_assoc _ _ _
          have hml : mln (B ++ (q ++ [(2, y.2.2)])) = mln (B ++ q) + 2 := by
            rw [← eq, mln_app]
            rfl
          refine hq (k - 1) _ _ (by omega) (Or.inl ⟨sg, q ++ [(2, y.2.2)], r', i + 1, rfl, hsg, CT_c hz.2.1 (frO h2.2 31 (by decide) (by decide)) (frO h2.2 33 (by decide) (by decide)) (frO h2.2 34 (by decide) (by decide)) (frO h2.2 35 (by decide) (by decide)) ⟨h2.2 30 3 (by decide) (by decide), h2.2 30 4 (by decide) (by decide)⟩, by rw [← eq]; exact h2.1, hLr', by omega, by omega, hG, by omega⟩)
      · rw [if_neg g3] at hz hG
        exact bad _ hz.2 hz.1 hG.symm
    have g2 : x.1 ≠ 47 := fun e => g2 (hx47.mpr e)
    rw [if_neg g2] at hG h151
    refine w1_j (fun (J : Sg → Option (Int32 × Sg)) => (x.1 = 43 ∨ x.1 = 45) → W1 (J t) (fun z => RC B z G)) ?_ (fun j125 h125 => ?_)
    · intro g3
      rw [if_pos g3] at hG
      refine w1_bv (w1_m (c_addSum hsg hC (by omega)) (fun t1 h1 => ?_))
      have hT1 : CT t1 (x :: y :: r') := CT_c hT (frO h1.2 31 (by decide) (by decide)) (frO h1.2 33 (by decide) (by decide)) (frO h1.2 34 (by decide) (by decide)) (frO h1.2 35 (by decide) (by decide)) ⟨h1.2 30 3 (by decide) (by decide), h1.2 30 4 (by decide) (by decide)⟩
      refine w1_bv (w1_m (w1_f2 (c_adv hT1) (fr_To_advance t1)) (fun t2 h2 => ?_))
      have hC2 : CC t2 (B ++ q ++ pd sg) := CC_c h1.1 (h2.2 37 3 (by decide) (by decide)) (frO h2.2 40 (by decide) (by decide))
      have hge2 := mln_ge (B ++ q ++ pd sg)
      have hml0 : mln (B ++ q ++ pd sg) = mln (B ++ q) + (pd sg).length := by rw [mln_app, mln_pd]
      refine w1_bi (w1_m (c_unit ho h2.1 hC2 hLr (fun w hw => ?_)) (fun z hz => ?_))
      · omega
      obtain ⟨z1, z2⟩ := z
      rw [h145]
      cases hu : uP y with
      | none =>
        rw [hu] at hz hG
        dsimp only at hz hG ⊢
        rw [hz.1]
        exact hq (k - 1) _ _ (by omega) (Or.inr ⟨_, x.1, i + 1, _, rfl, hG.symm, hz.2.1, by omega, hz.2.2⟩)
      | some w =>
        rw [hu] at hz hG
        obtain ⟨_, kw, nu⟩ := uP_s ho hu hLr
        obtain ⟨hLr', _⟩ := tkl_t hLr nu
        dsimp only at hz hG ⊢
        rw [hz.1]
        have eq : B ++ q ++ pd sg ++ [w] = B ++ (q ++ pd sg ++ [w]) := by simp
        have hml : mln (B ++ (q ++ pd sg ++ [w])) = mln (B ++ q) + (pd sg).length + 1 := by
          rw [← eq, mln_app, hml0, mln_1 (by omega)]
        have hq1 : (pd x.1).length = 1 := by
          unfold pd
          rw [if_neg (by omega)]
          rfl
        refine hq (k - 1) _ _ (by omega) (Or.inl ⟨x.1, q ++ pd sg ++ [w], r', i + 1, rfl, by omega, hz.2.1, by rw [← eq]; exact hz.2.2, hLr', by omega, by omega, hG, by omega⟩)
    · refine w1_if (fun g3 => h125 (Or.inl (hx43.mp g3))) (fun g3 => ?_)
      refine w1_if (fun g4 => h125 (Or.inr (hx45.mp g4))) (fun g4 => ?_)
      exact h151 (by rw [if_neg (fun c => c.elim (fun c => g3 (hx43.mpr c)) (fun c => g4 (hx45.mpr c)))])
  · unfold sumP at hG
    dsimp only at hG
    cases hu : uP u with
    | none =>
      rw [hu] at hz hG
      dsimp only at hz hG
      rw [hz.1]
      exact Or.inr ⟨_, 0, 0, _, rfl, hG.symm, hz.2.1, by omega, hz.2.2⟩
    | some x =>
      rw [hu] at hz hG
      dsimp only at hz hG
      rw [hz.1]
      obtain ⟨_, kx, nu⟩ := uP_s ho hu ht
      have hml : mln (B ++ (p ++ [x])) = mln (B ++ p) + 1 := by
        rw [← List.append_assoc, mln_app, mln_1 (by omega)]
      exact Or.inl ⟨0, p ++ [x], r, 0, rfl, Or.inl rfl, hz.2.1, by rw [← List.append_assoc]; exact hz.2.2, (tkl_t ht nu).1, by omega, by rw [hml, pd_0]; simp only [List.length_nil]; omega, hG, by omega⟩
