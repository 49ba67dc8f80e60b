/-! what is reached in steps -/
def Rch (E : Nat → Nat → Prop) (a : Nat) : Nat → Nat → Prop
  | 0, p => p = a
  | n + 1, p => Rch E a n p ∨ ∃ q, Rch E a n q ∧ E q p
def Fst (E : Nat → Nat → Prop) (a n p : Nat) : Prop := Rch E a n p ∧ ∀ i, i < n → ¬ Rch E a i p
section RCH
variable {E : Nat → Nat → Prop} {a : Nat}
theorem rch_m {n m p : Nat} (h : Rch E a n p) (hm : n ≤ m) : Rch E a m p := by
  induction m with
  | zero => rw [show n = 0 by omega] at h; exact h
  | succ m ih =>
    by_cases e : n = m + 1
    · rw [← e]; exact h
    · exact Or.inl (ih (by omega))
theorem rch_f {n p : Nat} (h : Rch E a n p) : ∃ j, j ≤ n ∧ Fst E a j p := by
  obtain ⟨j, h1, h2⟩ := pk_least (fun j => Rch E a j p) ⟨n, h⟩
  refine ⟨j, ?_, h1, h2⟩
  refine Nat.le_of_not_lt fun q => h2 n q h
theorem fst_1 {i j p : Nat} (h1 : Fst E a i p) (h2 : Fst E a j p) : i = j := by
  rcases Nat.lt_trichotomy i j with h | h | h
  · exact absurd h1.1 (h2.2 i h)
  · exact h
  · exact absurd h2.1 (h1.2 j h)
theorem fst_p {n x : Nat} (h : Fst E a (n + 1) x) : ∃ q, Fst E a n q ∧ E q x := by
  obtain ⟨h1, h2⟩ := h
  rcases h1 with h1 | ⟨q, h3, h4⟩
  · exact absurd h1 (h2 n (by omega))
  · refine ⟨q, ⟨h3, fun i hi hr => ?_⟩, h4⟩
    exact h2 n (by omega) (rch_m (n := i + 1) (Or.inr ⟨q, hr, h4⟩) (by omega))
theorem fst_all : ∀ (n x : Nat), Fst E a n x → ∃ f : Nat → Nat, ∀ j, j ≤ n → Fst E a j (f j)
  | 0, x, h => ⟨fun _ => x, fun j hj => by rw [show j = 0 by omega]; exact h⟩
  | n + 1, x, h => by
    obtain ⟨q, hq, _⟩ := fst_p h
    obtain ⟨f, hf⟩ := fst_all n q hq
    refine ⟨fun j => if j = n + 1 then x else f j, fun j hj => ?_⟩
    by_cases e : j = n + 1
    · simp only [if_pos e]; rw [e]; exact h
    · simp only [if_neg e]; exact hf j (by omega)
theorem rch_lt {N : Nat} (ha : a < N) (hE : ∀ q p, E q p → p < N) : ∀ (n p : Nat), Rch E a n p → p < N
  | 0, p, h => by rw [show p = a from h]; exact ha
  | n + 1, p, h => by
    rcases h with h | ⟨q, _, h⟩
    · exact rch_lt ha hE n p h
    · exact hE q p h
theorem fst_lt {N : Nat} (ha : a < N) (hE : ∀ q p, E q p → p < N) {n x : Nat} (h : Fst E a n x) : n < N := by
  obtain ⟨f, hf⟩ := fst_all n x h
  exact fb_holes N (n + 1) f (fun i hi => rch_lt ha hE i _ (hf i (by omega)).1) (fun i j hij hj e => by
    have h1 := hf i (by omega)
    have h2 := hf j (by omega)
    rw [e] at h1
    have := fst_1 h1 h2
    omega)
/-- how far each is, at the beginning of phase n -/
def FarR (E : Nat → Nat → Prop) (a N n : Nat) (far : Nat → Int32) : Prop := ∀ p, p < N → (∃ j, j ≤ n ∧ far p = nI j ∧ Fst E a j p) ∨ (far p = -1 ∧ ¬ Rch E a n p)
/-- in phase n, when the edges D have been looked at -/
def FarP (E : Nat → Nat → Prop) (a N n : Nat) (D : Nat → Nat → Prop) (far : Nat → Int32) : Prop := ∀ p, p < N → (∃ j, j ≤ n ∧ far p = nI j ∧ Fst E a j p) ∨ (far p = nI (n + 1) ∧ Fst E a (n + 1) p) ∨ (far p = -1 ∧ ¬ Rch E a n p ∧ ∀ q, D q p → Fst E a n q → ¬ E q p)
theorem far_0 {N n : Nat} {far : Nat → Int32} (h : FarR E a N n far) : FarP E a N n (fun _ _ => False) far := fun p hp => by
  rcases h p hp with h | h
  · exact Or.inl h
  · exact Or.inr (Or.inr ⟨h.1, h.2, fun _ q => q.elim⟩)
theorem far_e {N n : Nat} {D : Nat → Nat → Prop} {far : Nat → Int32} (h : FarP E a N n D far) (hD : ∀ q p, Fst E a n q → E q p → D q p) : FarR E a N (n + 1) far := fun p hp => by
  rcases h p hp with ⟨j, h1, h2, h3⟩ | ⟨h1, h2⟩ | ⟨h1, h2, h3⟩
  · exact Or.inl ⟨j, by omega, h2, h3⟩
  · exact Or.inl ⟨n + 1, Nat.le_refl _, h1, h2⟩
  · refine Or.inr ⟨h1, fun hr => ?_⟩
    obtain ⟨j, hj, hf⟩ := rch_f hr
    by_cases e : j = n + 1
    · subst e
      obtain ⟨q, hq, hE⟩ := fst_p hf
      exact h3 q (hD q p hq hE) hq hE
    · exact h2 (rch_m hf.1 (by omega))
theorem far_f {N n : Nat} {D : Nat → Nat → Prop} {far : Nat → Int32} (h : FarP E a N n D far) {q : Nat} (hq : q < N) (hn : n < 1000) : far q = nI n ↔ Fst E a n q := by
  rcases h q hq with ⟨j, h1, h2, h3⟩ | ⟨h1, h2⟩ | ⟨h1, h2, h3⟩
  · rw [h2]
    constructor
    · intro e
      rw [← nI_inj (by omega) (by omega) e]; exact h3
    · intro e
      rw [fst_1 h3 e]
  · rw [h1]
    constructor
    · intro e
      have := nI_inj (by omega) (by omega) e
      omega
    · intro e
      have := fst_1 h2 e
      omega
  · rw [h1]
    constructor
    · intro e
      exact absurd e (m1_nI (by omega))
    · intro e
      exact absurd e.1 h2
theorem far_d {N n : Nat} {D D' : Nat → Nat → Prop} {far : Nat → Int32} (h : FarP E a N n D far) (hD : ∀ q p, D' q p → Fst E a n q → E q p → D q p) : FarP E a N n D' far := fun p hp => by
  rcases h p hp with h | h | ⟨h1, h2, h3⟩
  · exact Or.inl h
  · exact Or.inr (Or.inl h)
  · exact Or.inr (Or.inr ⟨h1, h2, fun q hq hf hE => h3 q (hD q p hq hf hE) hf hE⟩)
theorem far_s {N n : Nat} {D : Nat → Nat → Prop} {far : Nat → Int32} (hn : n < 1000) (h : FarP E a N n D far) {q p : Nat} (hq : Fst E a n q) (hE : E q p) : FarP E a N n (fun x y => D x y ∨ (x = q ∧ y = p)) (fun k => if k = p ∧ far p = -1 then nI (n + 1) else far k) := fun k hk => by
  by_cases e : k = p
  · subst e
    rcases h k hk with ⟨j, h1, h2, h3⟩ | ⟨h1, h2⟩ | ⟨h1, h2, h3⟩
    · refine Or.inl ⟨j, h1, ?_, h3⟩
      dsimp only
      rw [if_neg (fun c => by
        have := c.2
        rw [h2] at this
        exact nI_m1 (by omega) this)]
      exact h2
    · refine Or.inr (Or.inl ⟨?_, h2⟩)
      dsimp only
      split
      · rfl
      · exact h1
    · refine Or.inr (Or.inl ⟨?_, Or.inr ⟨q, hq.1, hE⟩, fun i hi hr => h2 (rch_m hr (by omega))⟩)
      dsimp only
      rw [if_pos ⟨rfl, h1⟩]
  · have e1 : (fun k => if k = p ∧ far p = -1 then nI (n + 1) else far k) k = far k := by
      dsimp only
      rw [if_neg (fun c => e c.1)]
    rw [e1]
    rcases h k hk with h | h | ⟨h1, h2, h3⟩
    · exact Or.inl h
    · exact Or.inr (Or.inl h)
    · refine Or.inr (Or.inr ⟨h1, h2, fun x hx hf hE' => ?_⟩)
      rcases hx with hx | ⟨_, hx⟩
      · exact h3 x hx hf hE'
      · exact e hx
end RCH
