/-! TEXT: the law's grammar over tokens, pure -/
def tkl (o : Nat) : List Tk → Prop
  | [] => False
  | t :: r => (t.1 < 256 ∨ t.1 - 256 < (kW o).length) ∧ t.2.1 ≤ 400 ∧ t.2.2 < 10000 ∧ ((t.1 = 0 ∧ r = []) ∨ (t.1 ≠ 0 ∧ tkl o r))
theorem chn_tkl {T : Nat → Nat} {n o : Nat} (ho : o < 4) (hn : n ≤ 400) : ∀ (L : List Tk) (q : Nat), chn T n o L q → tkl o L
  | [], _, h => h
  | t :: r, q, h => by
    rcases h with ⟨h1, h2, h3, h4⟩ | ⟨h1, q', h2, h3, h4, h5, h6⟩
    · subst h2
      exact ⟨Or.inl (by decide : (0 : Nat) < 256), hn, (by decide : (0 : Nat) < 10000), Or.inl ⟨rfl, h1⟩⟩
    · have hr := chn_tkl ho hn r q' h6
      rcases h5 with ⟨_, _, hv, hk⟩ | ⟨_, hr2, hv, hk⟩ | ⟨_, _, _, _, hv, hk⟩
      · rcases hk with ⟨j, hj, _, hk⟩ | ⟨hk, _⟩
        · exact ⟨Or.inr (by omega), by omega, by omega, Or.inr ⟨by omega, hr⟩⟩
        · exact ⟨Or.inl (by omega), by omega, by omega, Or.inr ⟨by omega, hr⟩⟩
      · have h1 := dv_lt (T := T) (p := t.2.1) (min 4 (q' - t.2.1)) (fun j hj => hr2.2.2.1 _ (by omega) (by omega))
        have h2 : 10 ^ (min 4 (q' - t.2.1)) ≤ 10 ^ 4 := Nat.pow_le_pow_right (by decide) (by omega)
        have h3 : t.1 = 1 ∨ t.1 = 2 := by
          rw [hk]
          split
          · exact Or.inl rfl
          · exact Or.inr rfl
        exact ⟨Or.inl (by omega), by omega, by omega, Or.inr ⟨by omega, hr⟩⟩
      · have h3 : 2 ≤ t.1 ∧ t.1 < 256 := by
          rw [hk]
          split
          · rename_i hs
            have := sg_rg hs
            omega
          · decide
        exact ⟨Or.inl (by omega), by omega, by omega, Or.inr ⟨by omega, hr⟩⟩
theorem kW_le : ∀ o, o < 4 → (kW o).length ≤ 16 := by decide
theorem tkl_b {o : Nat} {t : Tk} {r : List Tk} (ho : o < 4) (h : tkl o (t :: r)) : t.1 < 272 ∧ t.2.1 ≤ 400 ∧ t.2.2 < 10000 := by
  have := kW_le o ho
  exact ⟨by have := h.1; omega, h.2.1, h.2.2.1⟩
theorem tkl_t {o : Nat} {t : Tk} {r : List Tk} (h : tkl o (t :: r)) (h0 : t.1 ≠ 0) : tkl o r ∧ ∃ u r', r = u :: r' := by
  rcases h.2.2.2 with ⟨h1, _⟩ | ⟨_, h2⟩
  · exact absurd h1 h0
  · refine ⟨h2, ?_⟩
    match r, h2 with
    | u :: r', _ => exact ⟨u, r', rfl⟩
/-! what a reference's token tells -/
theorem kj_inj : ∀ o, o < 4 → ∀ i, i < (kW o).length → ∀ j, j < (kW o).length → kj o i = kj o j → i = j := by decide +kernel
theorem rk_word {o j : Nat} {t : Tk} {tok val : Int32} (ho : o < 4) (h : rkM o t tok val) (hj : j < (kW o).length) (hb : t.1 < 256 ∨ t.1 - 256 < (kW o).length) : (tok = 2 ∧ val = nI (kj o j)) ↔ t.1 = 256 + j := by
  unfold rkM at h
  have hl : ∀ i, i < (kW o).length → kj o i < 23 := fun i hi => (kw_a o ho i hi).1
  by_cases h0 : t.1 = 0
  · rw [if_pos h0] at h
    subst h
    exact ⟨fun x => absurd x.1 (by decide), fun x => by omega⟩
  rw [if_neg h0] at h
  by_cases h1 : t.1 = 1
  · rw [if_pos h1] at h
    rw [h.1]
    exact ⟨fun x => absurd x.1 (by decide), fun x => by omega⟩
  rw [if_neg h1] at h
  by_cases h2 : t.1 = 2
  · rw [if_pos h2] at h
    refine ⟨fun x => ?_, fun x => by omega⟩
    rcases h with h | ⟨_, w, hw, hn, hv⟩
    · rw [h] at x
      exact absurd x.1 (by decide)
    · rw [hv] at x
      exact absurd (nI_inj (by omega) (by have := hl j hj; omega) x.2).symm (hn j hj)
  rw [if_neg h2] at h
  by_cases h3 : t.1 < 256
  · rw [if_pos h3] at h
    rw [h.1]
    exact ⟨fun x => absurd x.1 (by decide), fun x => by omega⟩
  rw [if_neg h3] at h
  rw [h.1, h.2]
  have hb : t.1 - 256 < (kW o).length := hb.resolve_left h3
  constructor
  · rintro ⟨_, x⟩
    have := kj_inj o ho _ hb j hj (nI_inj (by have := hl _ hb; omega) (by have := hl j hj; omega) x)
    omega
  · intro x
    exact ⟨rfl, by rw [x, Nat.add_sub_cancel_left]⟩
theorem rk_sign {o c : Nat} {t : Tk} {tok val : Int32} (h : rkM o t tok val) (hc : 3 ≤ c ∧ c < 256) : (tok = 4 ∧ val = nI c) ↔ t.1 = c := by
  unfold rkM at h
  by_cases h0 : t.1 = 0
  · rw [if_pos h0] at h
    subst h
    exact ⟨fun x => absurd x.1 (by decide), fun x => by omega⟩
  rw [if_neg h0] at h
  by_cases h1 : t.1 = 1
  · rw [if_pos h1] at h
    rw [h.1]
    exact ⟨fun x => absurd x.1 (by decide), fun x => by omega⟩
  rw [if_neg h1] at h
  by_cases h2 : t.1 = 2
  · rw [if_pos h2] at h
    refine ⟨fun x => ?_, fun x => by omega⟩
    rcases h with h | ⟨h, _⟩
    · rw [h] at x
      exact absurd x.1 (by decide)
    · rw [h] at x
      exact absurd x.1 (by decide)
  rw [if_neg h2] at h
  by_cases h3 : t.1 < 256
  · rw [if_pos h3] at h
    rw [h.1, h.2]
    exact ⟨fun x => nI_inj (by omega) (by omega) x.2, fun x => ⟨rfl, by rw [x]⟩⟩
  rw [if_neg h3] at h
  rw [h.1]
  exact ⟨fun x => absurd x.1 (by decide), fun x => by omega⟩
theorem rk_tok {o : Nat} {t : Tk} {tok val : Int32} (h : rkM o t tok val) : (tok = 3 ↔ t.1 = 1) ∧ (tok = 0 ↔ t.1 = 0) ∧ (t.1 = 1 → val = nI t.2.2) := by
  unfold rkM at h
  by_cases h0 : t.1 = 0
  · rw [if_pos h0] at h
    subst h
    exact ⟨⟨fun x => absurd x (by decide), fun x => by omega⟩, ⟨fun _ => h0, fun _ => rfl⟩, fun x => by omega⟩
  rw [if_neg h0] at h
  by_cases h1 : t.1 = 1
  · rw [if_pos h1] at h
    rw [h.1]
    exact ⟨⟨fun _ => h1, fun _ => rfl⟩, ⟨fun x => absurd x (by decide), fun x => absurd x h0⟩, fun _ => h.2⟩
  rw [if_neg h1] at h
  have h3 : tok = 1 ∨ tok = 2 ∨ tok = 4 := by
    by_cases h2 : t.1 = 2
    · rw [if_pos h2] at h
      exact h.elim Or.inl (fun x => Or.inr (Or.inl x.1))
    · rw [if_neg h2] at h
      split at h
      · exact Or.inr (Or.inr h.1)
      · exact Or.inr (Or.inl h.1)
  refine ⟨⟨fun x => ?_, fun x => absurd x h1⟩, ⟨fun x => ?_, fun x => absurd x h0⟩, fun x => absurd x h1⟩
  · rw [x] at h3
    exact absurd h3 (by decide)
  · rw [x] at h3
    exact absurd h3 (by decide)
theorem e_isW (v : Int32) (s : Sg) : fM_isWord v s = some (if s 102 15 = 2 ∧ s 102 16 = v then 1 else 0, s) := by
  unfold fM_isWord
  by_cases h1 : s 102 15 = 2
  · rw [if_pos h1]
    by_cases h2 : s 102 16 = v
    · rw [if_pos h2, gb_1, if_pos ⟨h1, h2⟩]
    · rw [if_neg h2, gb_0, if_neg (fun h => h2 h.2)]
  · rw [if_neg h1, gb_0, if_neg (fun h => h1 h.1)]
theorem e_isSg (v : Int32) (s : Sg) : fM_isSign v s = some (if s 102 15 = 4 ∧ s 102 16 = v then 1 else 0, s) := by
  unfold fM_isSign
  by_cases h1 : s 102 15 = 4
  · rw [if_pos h1]
    by_cases h2 : s 102 16 = v
    · rw [if_pos h2, gb_1, if_pos ⟨h1, h2⟩]
    · rw [if_neg h2, gb_0, if_neg (fun h => h2 h.2)]
  · rw [if_neg h1, gb_0, if_neg (fun h => h1 h.1)]
/-! units, products, sums -/
abbrev Pg : Type := List (Nat × Nat)
abbrev Rs : Type := Except (Nat × Nat) (Pg × List Tk)
def uP (t : Tk) : Option (Nat × Nat) := if t.1 = 1 then some (0, t.2.2) else if 263 ≤ t.1 ∧ t.1 ≤ 271 then some (1, t.1 - 263) else none
def pd (s : Nat) : Pg := if s = 0 then [] else [(3, s)]
def sumL : List Tk → Nat → Pg → Rs
  | t :: u :: r, s, p =>
    if t.1 = 42 then (match uP u with | some x => sumL r s (p ++ [x, (3, 42)]) | none => .error (1, u.2.1))
    else if t.1 = 47 then (if u.1 = 1 then (if u.2.2 = 0 then .error (2, u.2.1) else sumL r s (p ++ [(2, u.2.2)])) else .error (1, u.2.1))
    else if t.1 = 43 ∨ t.1 = 45 then (match uP u with | some x => sumL r t.1 (p ++ pd s ++ [x]) | none => .error (1, u.2.1))
    else .ok (p ++ pd s, t :: u :: r)
  | l, s, p => .ok (p ++ pd s, l)
def prodL : List Tk → Pg → Rs
  | t :: u :: r, p =>
    if t.1 = 42 then (match uP u with | some x => prodL r (p ++ [x, (3, 42)]) | none => .error (1, u.2.1))
    else if t.1 = 47 then (if u.1 = 1 then (if u.2.2 = 0 then .error (2, u.2.1) else prodL r (p ++ [(2, u.2.2)])) else .error (1, u.2.1))
    else .ok (p, t :: u :: r)
  | l, p => .ok (p, l)
def sumP (L : List Tk) (p : Pg) : Rs :=
  match L with
  | [] => .error (0, 0)
  | u :: r => match uP u with | some x => sumL r 0 (p ++ [x]) | none => .error (1, u.2.1)
def prodP (L : List Tk) (p : Pg) : Rs :=
  match L with
  | [] => .error (0, 0)
  | u :: r => match uP u with | some x => prodL r (p ++ [x]) | none => .error (1, u.2.1)
theorem pd_0 : pd 0 = [] := rfl
theorem sum_prod : ∀ (L : List Tk) (s : Nat) (p : Pg), sumL L s p = match prodL L p with | .error e => .error e | .ok (q, r) => sumL r 0 (q ++ pd s)
  | [], s, p => by simp [sumL, prodL, pd_0]
  | [t], s, p => by simp [sumL, prodL, pd_0]
  | t :: u :: r, s, p => by
    rw [sumL, prodL]
    by_cases h1 : t.1 = 42
    · rw [if_pos h1, if_pos h1]
      cases uP u with
      | none => rfl
      | some x => exact sum_prod r s _
    · rw [if_neg h1, if_neg h1]
      by_cases h2 : t.1 = 47
      · rw [if_pos h2, if_pos h2]
        by_cases h3 : u.1 = 1
        · rw [if_pos h3, if_pos h3]
          by_cases h4 : u.2.2 = 0
          · rw [if_pos h4, if_pos h4]
          · rw [if_neg h4, if_neg h4]
            exact sum_prod r s _
        · rw [if_neg h3, if_neg h3]
      · rw [if_neg h2, if_neg h2]
        show _ = sumL (t :: u :: r) 0 (p ++ pd s)
        rw [sumL, if_neg h1, if_neg h2, pd_0, List.append_nil]
/-- where a product ends -/
theorem prod_end : ∀ (L : List Tk) (p q : Pg) (R : List Tk), prodL L p = .ok (q, R) → ∀ t u r, R = t :: u :: r → t.1 ≠ 42 ∧ t.1 ≠ 47
  | [], p, q, R, h, t, u, r, e => by
    simp only [prodL, Except.ok.injEq, Prod.mk.injEq] at h
    rw [← h.2] at e
    cases e
  | [x], p, q, R, h, t, u, r, e => by
    simp only [prodL, Except.ok.injEq, Prod.mk.injEq] at h
    rw [← h.2] at e
    cases e
  | x :: y :: z, p, q, R, h, t, u, r, e => by
    rw [prodL] at h
    by_cases h1 : x.1 = 42
    · rw [if_pos h1] at h
      cases hu : uP y with
      | none => rw [hu] at h; cases h
      | some w => rw [hu] at h; exact prod_end z _ q R h t u r e
    · rw [if_neg h1] at h
      by_cases h2 : x.1 = 47
      · rw [if_pos h2] at h
        by_cases h3 : y.1 = 1
        · rw [if_pos h3] at h
          by_cases h4 : y.2.2 = 0
          · rw [if_pos h4] at h; cases h
          · rw [if_neg h4] at h
            exact prod_end z _ q R h t u r e
        · rw [if_neg h3] at h; cases h
      · rw [if_neg h2] at h
        simp only [Except.ok.injEq, Prod.mk.injEq] at h
        rw [← h.2] at e
        cases e
        exact ⟨h1, h2⟩
