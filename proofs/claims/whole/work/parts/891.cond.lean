/-! TEXT: what a condition's code does -/
theorem len1 {st : List Int32} (h : st.length = 1) : ∃ v, st = [v] := by
  match st, h with
  | [v], _ => exact ⟨v, rfl⟩
theorem cnd_wf {o : Nat} (ho : o < 4) : ∀ (k : Nat) (due : Bool) (W : List Nat) (p : Pg) (L : List Tk) (p' : Pg) (L' : List Tk), cnd k due W p L = .ok (p', L') → tkl o L → Wok W → (∀ x ∈ p, okP x) → (∀ x ∈ p', okP x) ∧ tkl o L' ∧ mln p' + L'.length ≤ mln p + W.length + L.length ∧ L'.length ≤ L.length ∧ ∀ env, EC due W env p → ∃ v, evP env p' [] = some [v]
  | 0, due, W, p, L, p', L', h, _, _, _ => by cases h
  | k + 1, due, W, p, [], p', L', h, ht, _, _ => ht.elim
  | k + 1, true, W, p, t :: r, p', L', h, ht, hW, hp => by
    rw [cnd] at h
    by_cases g : t.1 = 262 ∨ t.1 = 40
    · rw [if_pos g] at h
      by_cases g2 : opn W = 8
      · rw [if_pos g2] at h; cases h
      · rw [if_neg g2] at h
        obtain ⟨x1, x2, x3, x4, x5⟩ := cnd_wf ho k true (t.1 :: W) p r p' L' h (tkl_t ht (by omega)).1 (Wok_open hW g g2) hp
        simp only [List.length_cons] at x3 x4 ⊢
        refine ⟨x1, x2, by omega, by omega, fun env he => x5 env ?_⟩
        obtain ⟨st, y1, y2, y3⟩ := he
        refine ⟨st, y1, ?_, y3⟩
        rw [y2]
        simp only [bin]
        rw [if_neg (show ¬ (t.1 = 260 ∨ t.1 = 261) by omega)]
        omega
    · rw [if_neg g] at h
      cases hs : sumP (t :: r) p with
      | error e => rw [hs] at h; cases h
      | ok y =>
        obtain ⟨p1, L1⟩ := y
        rw [hs] at h
        obtain ⟨a1, a2, a3, a4, a5⟩ := sumP_wf ho hs ht hp
        match L1, a2 with
        | c :: r1, a2 =>
        dsimp only at h
        by_cases g2 : 60 ≤ c.1 ∧ c.1 ≤ 62
        · rw [if_pos g2] at h
          have htr1 := (tkl_t a2 (by omega)).1
          cases hs2 : sumP r1 p1 with
          | error e => rw [hs2] at h; cases h
          | ok y2 =>
            obtain ⟨p2, L2⟩ := y2
            rw [hs2] at h
            dsimp only at h
            obtain ⟨b1, b2, b3, b4, b5⟩ := sumP_wf ho hs2 htr1 a1
            have okc : ∀ x ∈ [(3, c.1)], okP x := by
              intro x hx
              rw [List.mem_singleton] at hx
              subst hx
              refine Or.inr (Or.inr (Or.inr ⟨rfl, ?_⟩))
              show okS c.1
              unfold okS
              omega
            obtain ⟨x1, x2, x3, x4, x5⟩ := cnd_wf ho k false (rlW 3 W) _ L2 p' L' h b2 (Wok_rl 3 hW) (ok_app (ok_app b1 okc) (rl_ok W (by decide) hW.2.1))
            have hl := len_rl 3 W
            rw [mln_app, mln_app, mln_rl, show mln [(3, c.1)] = 1 from rfl] at x3
            simp only [List.length_cons] at a3 a4 ⊢
            refine ⟨x1, x2, by omega, by omega, fun env he => x5 env (EC_rl (by decide) hW.2.1 ?_)⟩
            obtain ⟨st, y1, y2, y3⟩ := he
            have hb := bin_le W
            have h26 := W_26 hW.1 hW.2.1 hW.2.2
            simp only [if_true] at y2
            obtain ⟨v1, e1⟩ := a5 env [] st (by omega) y1
            obtain ⟨v2, e2⟩ := b5 env [] (v1 :: st) (by rw [List.length_cons]; omega) e1
            obtain ⟨v, hv, e3⟩ := ev_cmp (env := env) (g := c.1) (a := v2) (d := v1) (w := st) g2
            exact ⟨v :: st, evP_2 e2 e3, by rw [List.length_cons, y2]; rfl, b01_c hv y3⟩
        · rw [if_neg g2] at h; cases h
  | k + 1, false, W, p, t :: r, p', L', h, ht, hW, hp => by
    rw [cnd] at h
    have hl1 := len_rl 1 W
    have hl2 := len_rl 2 W
    by_cases g : t.1 = 261
    · rw [if_pos g] at h
      obtain ⟨x1, x2, x3, x4, x5⟩ := cnd_wf ho k true _ _ r p' L' h (tkl_t ht (by omega)).1 (Wok_and hW) (ok_app hp (rl_ok W (by decide) hW.2.1))
      rw [mln_app, mln_rl] at x3
      simp only [List.length_cons] at x3 x4 ⊢
      refine ⟨x1, x2, by omega, by omega, fun env he => x5 env ?_⟩
      obtain ⟨st, y1, y2, y3⟩ := EC_rl (c := 2) (by decide) hW.2.1 he
      refine ⟨st, y1, ?_, y3⟩
      rw [y2]
      show bin (rlW 2 W) + 1 = 1 + bin (rlW 2 W) + 0
      omega
    · rw [if_neg g] at h
      by_cases g2 : t.1 = 260
      · rw [if_pos g2] at h
        obtain ⟨x1, x2, x3, x4, x5⟩ := cnd_wf ho k true _ _ r p' L' h (tkl_t ht (by omega)).1 (Wok_or hW) (ok_app hp (rl_ok W (by decide) hW.2.1))
        rw [mln_app, mln_rl] at x3
        simp only [List.length_cons] at x3 x4 ⊢
        refine ⟨x1, x2, by omega, by omega, fun env he => x5 env ?_⟩
        obtain ⟨st, y1, y2, y3⟩ := EC_rl (c := 1) (by decide) hW.2.1 he
        refine ⟨st, y1, ?_, y3⟩
        rw [y2]
        show bin (rlW 1 W) + 1 = 1 + bin (rlW 1 W) + 0
        omega
      · rw [if_neg g2] at h
        cases hr : rlW 1 W with
        | nil =>
          rw [hr] at h
          simp only [Except.ok.injEq, Prod.mk.injEq] at h
          obtain ⟨rfl, rfl⟩ := h
          refine ⟨ok_app hp (rl_ok W (by decide) hW.2.1), ht, by rw [mln_app, mln_rl]; omega, Nat.le_refl _, fun env he => ?_⟩
          obtain ⟨st, y1, y2, y3⟩ := EC_rl (c := 1) (by decide) hW.2.1 he
          rw [hr] at y2
          obtain ⟨v, rfl⟩ := len1 y2
          exact ⟨v, y1⟩
        | cons x W2 =>
          have hx := rl_40 hW.2.1 hr
          subst hx
          rw [hr] at h
          dsimp only at h
          by_cases g3 : t.1 = 41
          · rw [if_pos g3] at h
            have hW1 := Wok_rl 1 hW
            rw [hr] at hW1
            have hW2 := Wok_t hW1
            obtain ⟨x1, x2, x3, x4, x5⟩ := cnd_wf ho k false _ _ r p' L' h (tkl_t ht (by omega)).1 (Wok_rl 3 hW2) (ok_app (ok_app hp (rl_ok W (by decide) hW.2.1)) (rl_ok W2 (by decide) hW2.2.1))
            have hl3 := len_rl 3 W2
            rw [hr, List.length_cons] at hl1
            rw [mln_app, mln_app, mln_rl, mln_rl] at x3
            simp only [List.length_cons] at x3 x4 ⊢
            refine ⟨x1, x2, by omega, by omega, fun env he => x5 env (EC_rl (by decide) hW2.2.1 ?_)⟩
            obtain ⟨st, y1, y2, y3⟩ := EC_rl (c := 1) (by decide) hW.2.1 he
            refine ⟨st, y1, ?_, y3⟩
            rw [y2, hr]
            show 0 + bin W2 + 1 = bin W2 + 1
            omega
          · rw [if_neg g3] at h; cases h
