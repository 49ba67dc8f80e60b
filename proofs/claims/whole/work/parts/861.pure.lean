/-! TEXT: what a sum's code does -/
theorem evP_app (env : Nat → Int32) : ∀ (p q : Pg) (st : List Int32), evP env (p ++ q) st = (evP env p st).bind (evP env q)
  | [], q, st => rfl
  | x :: p, q, st => by
    show (ev1 env x st).bind (evP env (p ++ q)) = ((ev1 env x st).bind (evP env p)).bind (evP env q)
    cases ev1 env x st with
    | none => rfl
    | some st' => exact evP_app env p q st'
theorem mln_app : ∀ (p q : Pg), mln (p ++ q) = mln p + mln q
  | [], q => by
    show mln q = 0 + mln q
    omega
  | x :: p, q => by
    have h1 : mln ((x :: p) ++ q) = (if x.1 = 2 then 2 else 1) + mln (p ++ q) := rfl
    have h2 : mln (x :: p) = (if x.1 = 2 then 2 else 1) + mln p := rfl
    rw [h1, h2, mln_app p q]
    omega
theorem mln_ge : ∀ (p : Pg), p.length ≤ mln p
  | [] => Nat.le_refl 0
  | x :: p => by
    have h2 : mln (x :: p) = (if x.1 = 2 then 2 else 1) + mln p := rfl
    have := mln_ge p
    rw [List.length_cons, h2]
    split <;> omega
theorem mln_1 {x : Nat × Nat} (h : x.1 ≠ 2) : mln [x] = 1 := by
  show (if x.1 = 2 then 2 else 1) + 0 = 1
  rw [if_neg h]
theorem uP_s {o : Nat} (ho : o < 4) {t : Tk} {r : List Tk} {x : Nat × Nat} (h : uP t = some x) (ht : tkl o (t :: r)) : okP x ∧ (x.1 = 0 ∨ x.1 = 1) ∧ t.1 ≠ 0 := by
  have hb := tkl_b ho ht
  unfold uP at h
  by_cases h1 : t.1 = 1
  · rw [if_pos h1] at h
    cases h
    exact ⟨Or.inl ⟨rfl, hb.2.2⟩, Or.inl rfl, by omega⟩
  · rw [if_neg h1] at h
    by_cases h2 : 263 ≤ t.1 ∧ t.1 ≤ 271
    · rw [if_pos h2] at h
      cases h
      exact ⟨Or.inr (Or.inl ⟨rfl, (by omega : t.1 - 263 < 9)⟩), Or.inr rfl, by omega⟩
    · rw [if_neg h2] at h
      cases h
theorem ev_push {env : Nat → Int32} {x : Nat × Nat} {st : List Int32} (hx : x.1 = 0 ∨ x.1 = 1) (h : st.length < 60) : ∃ v, ev1 env x st = some (v :: st) := by
  unfold ev1
  rcases hx with e | e
  · rw [if_pos e, if_pos h]
    exact ⟨_, rfl⟩
  · rw [if_neg (by omega), if_pos e, if_pos h]
    exact ⟨_, rfl⟩
theorem ev_join {env : Nat → Int32} {g : Nat} {a b : Int32} {w : List Int32} (hg : g = 43 ∨ g = 45 ∨ g = 42) : ∃ c, ev1 env (3, g) (a :: b :: w) = some (c :: w) := by
  rcases hg with rfl | rfl | rfl
  · exact ⟨_, rfl⟩
  · exact ⟨_, rfl⟩
  · exact ⟨_, rfl⟩
theorem ev_part {env : Nat → Int32} {d : Nat} {a : Int32} {w : List Int32} : ∃ c, ev1 env (2, d) (a :: w) = some (c :: w) := ⟨_, rfl⟩
theorem evP_1 (env : Nat → Int32) (x : Nat × Nat) (st : List Int32) : evP env [x] st = ev1 env x st := by
  show (ev1 env x st).bind (evP env []) = _
  cases ev1 env x st <;> rfl
theorem evP_2 {env : Nat → Int32} {p : Pg} {x : Nat × Nat} {st0 st st' : List Int32} (h : evP env p st0 = some st) (h2 : ev1 env x st = some st') : evP env (p ++ [x]) st0 = some st' := by
  rw [evP_app, h]
  show evP env [x] st = _
  rw [evP_1, h2]
/-- a sum under way: s waits -/
def EV (s : Nat) (env : Nat → Int32) (p : Pg) (st0 st : List Int32) : Prop := (s = 0 ∧ ∃ a, evP env p st0 = some (a :: st)) ∨ (s ≠ 0 ∧ ∃ a b, evP env p st0 = some (a :: b :: st))
theorem EV_pd {s : Nat} {env : Nat → Int32} {p : Pg} {st0 st : List Int32} (hs : s = 0 ∨ s = 43 ∨ s = 45) (h : EV s env p st0 st) : ∃ v, evP env (p ++ pd s) st0 = some (v :: st) := by
  rcases h with ⟨rfl, a, h⟩ | ⟨h0, a, b, h⟩
  · rw [pd_0, List.append_nil]
    exact ⟨a, h⟩
  · unfold pd
    rw [if_neg h0]
    obtain ⟨c, hc⟩ := ev_join (env := env) (g := s) (a := a) (b := b) (w := st) (by omega)
    exact ⟨c, evP_2 h hc⟩
theorem EV_top {s : Nat} {env : Nat → Int32} {p q : Pg} {st0 st : List Int32} (h : EV s env p st0 st) (hq : ∀ a w, w.length ≤ st.length + 1 → ∃ c, evP env q (a :: w) = some (c :: w)) : EV s env (p ++ q) st0 st := by
  rcases h with ⟨h0, a, h⟩ | ⟨h0, a, b, h⟩
  · obtain ⟨c, hc⟩ := hq a st (by omega)
    exact Or.inl ⟨h0, c, by rw [evP_app, h]; exact hc⟩
  · obtain ⟨c, hc⟩ := hq a (b :: st) (by rw [List.length_cons]; omega)
    exact Or.inr ⟨h0, c, b, by rw [evP_app, h]; exact hc⟩
theorem pd_ok {s : Nat} (hs : s = 0 ∨ s = 43 ∨ s = 45) : ∀ x ∈ pd s, okP x := by
  intro x hx
  rcases hs with rfl | rfl | rfl
  · cases hx
  · rw [show pd 43 = [(3, 43)] from rfl, List.mem_singleton] at hx
    subst hx
    exact Or.inr (Or.inr (Or.inr ⟨rfl, Or.inl rfl⟩))
  · rw [show pd 45 = [(3, 45)] from rfl, List.mem_singleton] at hx
    subst hx
    exact Or.inr (Or.inr (Or.inr ⟨rfl, Or.inr (Or.inl rfl)⟩))
theorem mln_pd {s : Nat} : mln (pd s) = (pd s).length := by
  unfold pd
  split <;> rfl
theorem ok_app {p q : Pg} (hp : ∀ x ∈ p, okP x) (hq : ∀ x ∈ q, okP x) : ∀ x ∈ p ++ q, okP x := fun x hx => (List.mem_append.mp hx).elim (hp x) (hq x)
theorem sumL_wf (o : Nat) (ho : o < 4) : ∀ (L : List Tk) (s : Nat) (p p' : Pg) (L' : List Tk), sumL L s p = .ok (p', L') → tkl o L → (s = 0 ∨ s = 43 ∨ s = 45) → (∀ x ∈ p, okP x) → (∀ x ∈ p', okP x) ∧ tkl o L' ∧ mln p' + L'.length ≤ mln p + (pd s).length + L.length ∧ L'.length ≤ L.length ∧ ∀ env st0 st, st.length + 4 ≤ 60 → EV s env p st0 st → ∃ v, evP env p' st0 = some (v :: st)
  | [], s, p, p', L', h, ht, hs, hp => ht.elim
  | [t], s, p, p', L', h, ht, hs, hp => by
    simp only [sumL, Except.ok.injEq, Prod.mk.injEq] at h
    obtain ⟨rfl, rfl⟩ := h
    exact ⟨ok_app hp (pd_ok hs), ht, by rw [mln_app, mln_pd]; exact Nat.le_refl _, Nat.le_refl _, fun env st0 st _ h => EV_pd hs h⟩
  | t :: u :: r, s, p, p', L', h, ht, hs, hp => by
    rw [sumL] at h
    by_cases h1 : t.1 = 42
    · rw [if_pos h1] at h
      have htu := (tkl_t ht (by omega)).1
      cases hu : uP u with
      | none => rw [hu] at h; cases h
      | some x =>
        rw [hu] at h
        obtain ⟨ox, kx, nu⟩ := uP_s ho hu htu
        have htr := (tkl_t htu nu).1
        have op : ∀ y ∈ [x, (3, 42)], okP y := by
          intro y hy
          rcases List.mem_cons.mp hy with rfl | hy
          · exact ox
          · rw [List.mem_singleton] at hy
            subst hy
            exact Or.inr (Or.inr (Or.inr ⟨rfl, Or.inr (Or.inr (Or.inl rfl))⟩))
        obtain ⟨x1, x2, x3, x4, x5⟩ := sumL_wf o ho r s _ p' L' h htr hs (ok_app hp op)
        have hm : mln [x, (3, 42)] = 2 := by
          show (if x.1 = 2 then 2 else 1) + 1 = 2
          rw [if_neg (by omega)]
        rw [mln_app, hm] at x3
        refine ⟨x1, x2, by rw [List.length_cons, List.length_cons]; omega, by rw [List.length_cons, List.length_cons]; omega, fun env st0 st hl he => x5 env st0 st hl (EV_top he (fun a w hw => ?_))⟩
        obtain ⟨v, hv⟩ := ev_push (env := env) (x := x) (st := a :: w) kx (by rw [List.length_cons]; omega)
        obtain ⟨c, hc⟩ := ev_join (env := env) (g := 42) (a := v) (b := a) (w := w) (by omega)
        refine ⟨c, ?_⟩
        show (ev1 env x (a :: w)).bind (evP env [(3, 42)]) = _
        rw [hv]
        show evP env [(3, 42)] (v :: a :: w) = _
        rw [evP_1, hc]
    · rw [if_neg h1] at h
      by_cases h2 : t.1 = 47
      · rw [if_pos h2] at h
        have htu := (tkl_t ht (by omega)).1
        by_cases h3 : u.1 = 1
        · rw [if_pos h3] at h
          have htr := (tkl_t htu (by omega)).1
          by_cases h4 : u.2.2 = 0
          · rw [if_pos h4] at h; cases h
          · rw [if_neg h4] at h
            have hb := (tkl_b ho htu).2.2
            have op : ∀ y ∈ [(2, u.2.2)], okP y := by
              intro y hy
              rw [List.mem_singleton] at hy
              subst hy
              exact Or.inr (Or.inr (Or.inl ⟨rfl, (by omega : 1 ≤ u.2.2), hb⟩))
            obtain ⟨x1, x2, x3, x4, x5⟩ := sumL_wf o ho r s _ p' L' h htr hs (ok_app hp op)
            have hm : mln [(2, u.2.2)] = 2 := rfl
            rw [mln_app, hm] at x3
            refine ⟨x1, x2, by rw [List.length_cons, List.length_cons]; omega, by rw [List.length_cons, List.length_cons]; omega, fun env st0 st hl he => x5 env st0 st hl (EV_top he (fun a w hw => ?_))⟩
            obtain ⟨c, hc⟩ := ev_part (env := env) (d := u.2.2) (a := a) (w := w)
            exact ⟨c, by rw [evP_1, hc]⟩
        · rw [if_neg h3] at h; cases h
      · rw [if_neg h2] at h
        by_cases h3 : t.1 = 43 ∨ t.1 = 45
        · rw [if_pos h3] at h
          have htu := (tkl_t ht (by omega)).1
          cases hu : uP u with
          | none => rw [hu] at h; cases h
          | some x =>
            rw [hu] at h
            obtain ⟨ox, kx, nu⟩ := uP_s ho hu htu
            have htr := (tkl_t htu nu).1
            have op : ∀ y ∈ [x], okP y := by
              intro y hy
              rw [List.mem_singleton] at hy
              subst hy
              exact ox
            obtain ⟨x1, x2, x3, x4, x5⟩ := sumL_wf o ho r t.1 _ p' L' h htr (by omega) (ok_app (ok_app hp (pd_ok hs)) op)
            have hq : (pd t.1).length = 1 := by
              unfold pd
              rw [if_neg (by omega)]
              rfl
            rw [mln_app, mln_app, mln_pd, mln_1 (by omega), hq] at x3
            refine ⟨x1, x2, by rw [List.length_cons, List.length_cons]; omega, by rw [List.length_cons, List.length_cons]; omega, fun env st0 st hl he => x5 env st0 st hl ?_⟩
            obtain ⟨v, hv⟩ := EV_pd hs he
            obtain ⟨w, hw⟩ := ev_push (env := env) (x := x) (st := v :: st) kx (by rw [List.length_cons]; omega)
            exact Or.inr ⟨by omega, w, v, evP_2 hv hw⟩
        · rw [if_neg h3] at h
          simp only [Except.ok.injEq, Prod.mk.injEq] at h
          obtain ⟨rfl, rfl⟩ := h
          exact ⟨ok_app hp (pd_ok hs), ht, by rw [mln_app, mln_pd]; exact Nat.le_refl _, Nat.le_refl _, fun env st0 st _ h => EV_pd hs h⟩
/-- a sum's code puts one number on what lay there -/
theorem sumP_wf {o : Nat} (ho : o < 4) {L L' : List Tk} {p p' : Pg} (h : sumP L p = .ok (p', L')) (ht : tkl o L) (hp : ∀ x ∈ p, okP x) : (∀ x ∈ p', okP x) ∧ tkl o L' ∧ mln p' + L'.length ≤ mln p + L.length ∧ L'.length + 1 ≤ L.length ∧ ∀ env st0 st, st.length + 4 ≤ 60 → evP env p st0 = some st → ∃ v, evP env p' st0 = some (v :: st) := by
  match L, ht with
  | u :: r, ht =>
    unfold sumP at h
    dsimp only at h
    cases hu : uP u with
    | none => rw [hu] at h; cases h
    | some x =>
      rw [hu] at h
      obtain ⟨ox, kx, nu⟩ := uP_s ho hu ht
      have op : ∀ y ∈ [x], okP y := by
        intro y hy
        rw [List.mem_singleton] at hy
        subst hy
        exact ox
      obtain ⟨x1, x2, x3, x4, x5⟩ := sumL_wf o ho r 0 _ p' L' h (tkl_t ht nu).1 (Or.inl rfl) (ok_app hp op)
      rw [mln_app, mln_1 (by omega), pd_0] at x3
      refine ⟨x1, x2, by rw [List.length_cons]; simp only [List.length_nil] at x3; omega, by rw [List.length_cons]; omega, fun env st0 st hl he => x5 env st0 st hl ?_⟩
      obtain ⟨v, hv⟩ := ev_push (env := env) (x := x) (st := st) kx (by omega)
      exact Or.inl ⟨rfl, v, evP_2 he hv⟩
