/-! the same, of the reference -/
theorem mln_le : ∀ (P : List (Nat × Nat)), P.length ≤ mln P ∧ mln P ≤ 2 * P.length
  | [] => ⟨Nat.le_refl _, Nat.le_refl _⟩
  | x :: P => by
    have := mln_le P
    rw [mln, List.length_cons]
    split <;> omega
theorem run_m {b0 : Sg} {f e : Nat} {env : Nat → Int32} {P : List (Nat × Nat)} {v : Int32} (henv : ∀ j, j < 9 → b0 123 j = env j) (hfe : f + mln P = e) (he4 : e ≤ 400) (hm : mAt (b0 117) (b0 118) f P) (hok : ∀ x ∈ P, okP x) (hev : evP env P [] = some [v]) : W1 (fM_runs 0 (nI f) (nI e) b0) (fun y => y.1 = v ∧ ∀ q, q ≠ 124 → y.2 q = b0 q) := by
  have z0 : ∀ x, (400 : Int32) * 0 + nI x = nI x := fun x => by rw [show (400 : Int32) * 0 = nI 0 from rfl, nI_add, Nat.zero_add]
  unfold fM_runs
  rw [z0 f, z0 e]
  simp only [bnd_x]
  refine w1_lp (fun k u s => (∀ q, q ≠ 124 → s q = b0 q) ∧ ((∃ (Q : List (Nat × Nat)) (st : List Int32) (i : Nat), k = mln Q ∧ u = (nI st.length, nI i) ∧ skA (s 124) st ∧ mAt (b0 117) (b0 118) i Q ∧ (∀ x ∈ Q, okP x) ∧ evP env Q st = some [v] ∧ i + mln Q = e ∧ st.length ≤ 60) ∨ (∃ (Q : List (Nat × Nat)) (a : Int32) (t : List Int32) (d i : Nat), k = mln Q + 1 ∧ u = (nI (t.length + 2), nI i) ∧ skA (s 124) (nI d :: a :: t) ∧ b0 117 i = 5 ∧ 1 ≤ d ∧ d < 10000 ∧ mAt (b0 117) (b0 118) (i + 1) Q ∧ (∀ x ∈ Q, okP x) ∧ evP env Q (a / nI d :: t) = some [v] ∧ i + 1 + mln Q = e ∧ t.length + 1 ≤ 60))) ?_ FU (mln P) _ _ (FU_lt (by omega)) ⟨fun _ _ => rfl, Or.inl ⟨P, [], f, rfl, rfl, True.intro, hm, hok, hev, hfe, by rw [List.length_nil]; omega⟩⟩
  rintro q k u s ⟨hs, hI⟩ hq
  have fr : ∀ k x, ∀ q, q ≠ 124 → pt s 124 k x q = b0 q := fun k x q hq => by rw [ptq _ _ _ hq]; exact hs q hq
  rcases hI with ⟨Q, st, i, rfl, rfl, hsk, hma, hoq, he, hie, hst⟩ | ⟨Q, a, t, d, i, rfl, rfl, hsk, h5, hd1, hd2, hma, hoq, he, hie, hst⟩
  · dsimp only
    cases Q with
    | nil =>
      rw [mln, Nat.add_zero] at hie
      rw [evP] at he
      have hst1 := Option.some.inj he
      subst hst1
      rw [if_pos (nI_le (by omega) (by omega)), show ∀ {R : Type} (f : Option R), gd (0 : Int32) 420 f = f from fun f => gdl _ (by decide), ic0]
      exact w1_s ⟨hsk.1, hs⟩
    | cons x Q =>
      have hml : mln (x :: Q) = (if x.1 = 2 then 2 else 1) + mln Q := rfl
      have hpos : 1 ≤ mln (x :: Q) := by rw [hml]; split <;> omega
      obtain ⟨hm1, hm2⟩ := hma
      rw [evP] at he
      obtain ⟨st1, he1, he2⟩ := Option.bind_eq_some_iff.mp he
      have hl1 := ev_len he1 hst
      rw [if_neg (nI_ge (by omega) (by omega)), gd_n _ (show i < 1200 by omega) (by decide), ix_n (by omega), hs 117 (by decide), hs 118 (by decide), hs 123 (by decide)]
      simp only [gd_n _ (show i < 1200 by omega) (show 1200 < 2 ^ 31 by decide), nI_1]
      have nx : x.1 ≠ 2 → ∀ s', (∀ q, q ≠ 124 → s' q = b0 q) → skA (s' 124) st1 → W1 (q (nI st1.length, nI (i + 1)) s') (fun y => y.1 = v ∧ ∀ q, q ≠ 124 → y.2 q = b0 q) := fun hx s' h1 h2 => by
        rw [if_neg hx] at hml hm2
        exact hq (mln Q) _ _ (by omega) ⟨h1, Or.inl ⟨Q, st1, i + 1, rfl, rfl, h2, hm2, fun y hy => hoq y (List.mem_cons_of_mem _ hy), he2, by omega, hl1⟩⟩
      rcases hoq x (List.mem_cons_self ..) with ⟨x1, x2⟩ | ⟨x1, x2⟩ | ⟨x1, x2, x3⟩ | ⟨x1, x2⟩
      · unfold ev1 at he1
        rw [if_pos x1] at he1
        rw [if_neg (by omega), if_neg (by omega), x1] at hm1
        split at he1
        · rename_i hl
          have he1 := Option.some.inj he1
          subst he1
          rw [hm1.1, hm1.2, if_pos (by decide), if_pos (by decide), gd_n _ (show st.length < 420 by omega) (by decide), ix_n (by omega)]
          exact nx (by omega) _ (fr _ _) (sk_p hsk)
        · cases he1
      · unfold ev1 at he1
        rw [if_neg (by omega), if_pos x1] at he1
        rw [if_neg (by omega), if_neg (by omega), x1] at hm1
        split at he1
        · rename_i hl
          have he1 := Option.some.inj he1
          subst he1
          rw [hm1.1, hm1.2, if_neg (by decide), if_pos (by decide), if_neg (by decide), gd_n _ x2 (by decide), ix_n (show x.2 < 2 ^ 31 by omega), henv _ x2, gd_n _ (show st.length < 420 by omega) (by decide), ix_n (by omega)]
          exact nx (by omega) _ (fr _ _) (sk_p hsk)
        · cases he1
      · unfold ev1 at he1
        rw [if_neg (by omega), if_neg (by omega)] at he1
        rw [if_pos x1] at hm1 hm2 hml
        cases st with
        | nil => cases he1
        | cons y t =>
          dsimp only at he1
          rw [if_pos x1] at he1
          have he1 := Option.some.inj he1
          subst he1
          rw [List.length_cons] at hst
          rw [hm1.1, hm1.2.1, if_pos (by decide), if_pos (by decide), gd_n _ (show (y :: t).length < 420 by rw [List.length_cons]; omega) (by decide), ix_n (show (y :: t).length < 2 ^ 31 by rw [List.length_cons]; omega)]
          exact hq (mln Q + 1) _ _ (by omega) ⟨fr _ _, Or.inr ⟨Q, y, t, x.2, i + 1, rfl, by rw [List.length_cons], sk_p hsk, hm1.2.2, x2, x3, hm2, fun y hy => hoq y (List.mem_cons_of_mem _ hy), he2, by omega, hst⟩⟩
      · unfold ev1 at he1
        rw [if_neg (by omega), if_neg (by omega)] at he1
        rw [if_neg (by omega), if_pos x1] at hm1
        cases st with
        | nil => cases he1
        | cons y t =>
          dsimp only at he1
          rw [if_neg (by omega)] at he1
          rw [List.length_cons] at hst
          rw [hm1]
          by_cases h262 : x.2 = 262
          · rw [if_pos h262] at he1
            have he1 := Option.some.inj he1
            subst he1
            rw [h262, if_neg (by decide), if_neg (by decide), if_pos (by decide), List.length_cons, nI_pred, gd_n _ (show t.length < 420 by omega) (by decide), gd_n _ (show t.length < 420 by omega) (by decide), ix_n (by omega), hsk.1]
            exact nx (by omega) _ (fr _ _) (sk_p hsk.2)
          · rw [if_neg h262] at he1
            have ho9 : opS x.2 ≠ 0 ∧ opS x.2 ≠ 1 ∧ opS x.2 ≠ 9 ∧ opS x.2 < 20 := by
              rcases x2 with h | h | h | h | h | h | h | h | h
              · rw [h]; decide
              · rw [h]; decide
              · rw [h]; decide
              · rw [h]; decide
              · rw [h]; decide
              · rw [h]; decide
              · exact absurd h h262
              · rw [h]; decide
              · rw [h]; decide
            rw [if_neg (show ¬ nI (opS x.2) = 0 from nI_ne 0 ho9.1 (by omega) (by decide)), if_neg (show ¬ nI (opS x.2) = 1 from nI_ne 1 ho9.2.1 (by omega) (by decide)), if_neg (show ¬ nI (opS x.2) = 9 from nI_ne 9 ho9.2.2.1 (by omega) (by decide))]
            cases t with
            | nil => cases he1
            | cons w t =>
              dsimp only at he1
              cases hj : jnS x.2 w y with
              | none => rw [hj] at he1; cases he1
              | some r =>
                rw [hj] at he1
                have he1 := Option.some.inj he1
                subst he1
                rw [List.length_cons] at hst
                rw [List.length_cons, List.length_cons, nI_pred, nI_pred, gd_n _ (show t.length < 420 by omega) (by decide), gd_n _ (show t.length + 1 < 420 by omega) (by decide), ix_n (by omega), ix_n (by omega), show s 124 (t.length + 1) = y from hsk.1, show s 124 t.length = w from hsk.2.1, jn_m x2 h262 hj, bi_s, gd_n _ (show t.length < 420 by omega) (by decide)]
                exact nx (by omega) _ (fr _ _) (sk_p hsk.2.2)
  · dsimp only
    rw [if_neg (nI_ge (by omega) (by omega)), gd_n _ (show i < 1200 by omega) (by decide), ix_n (by omega), hs 117 (by decide), h5]
    simp only [gd_n _ (show i < 1200 by omega) (show 1200 < 2 ^ 31 by decide), nI_1]
    rw [if_neg (by decide), if_neg (by decide), if_neg (by decide), show t.length + 2 = t.length + 1 + 1 from rfl, nI_pred, nI_pred, gd_n _ (show t.length < 420 by omega) (by decide), gd_n _ (show t.length + 1 < 420 by omega) (by decide), ix_n (by omega), ix_n (by omega), show s 124 (t.length + 1) = nI d from hsk.1, show s 124 t.length = a from hsk.2.1]
    have tw : fM_twoOf 5 a (nI d) s = some (a / nI d, s) := by
      unfold fM_twoOf
      rw [if_neg (by decide), if_neg (by decide), if_neg (by decide), if_pos (by decide), gz_n _ (nI_ne0 (by omega) (by omega))]
    rw [tw, bi_s, gd_n _ (show t.length < 420 by omega) (by decide)]
    exact hq (mln Q) _ _ (by omega) ⟨fr _ _, Or.inl ⟨Q, a / nI d :: t, i + 1, rfl, by rw [List.length_cons], sk_p hsk.2.2, hma, hoq, he, by omega, by rw [List.length_cons]; omega⟩⟩
