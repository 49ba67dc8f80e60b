/-! minutes: what stays, step by step -/
def BF (a0 b0 : Sg) (o n : Nat) : Prop := (o = 1 ∨ o = 3) ∧ n ≤ 10 ∧ b0 102 6 = nI n ∧ gLw (a0 21) (a0 22) (a0 20 3) (a0 23) (b0 112 0) (b0 113) (b0 114) (b0 115) (b0 116) (b0 117) (b0 118) ∧ gKc a0 ∧ gCl (a0 25) (a0 26) (b0 102 34) (b0 120) (b0 102 6) ∧ gSu (a0 27) (a0 28) (b0 102 36) (b0 121)
def PI (a0 b0 : Sg) (o n : Nat) (a b : Sg) : Prop :=
  (∀ q, q ≠ o → q ≠ o + 1 → q ≠ 24 → q ≠ 63 → q ≠ 64 → a q = a0 q) ∧ (a 63 0 = a0 63 0 ∧ a 63 1 = a0 63 1) ∧ (∀ q, q ≠ 103 → q ≠ 109 → q ≠ 123 → q ≠ 124 → b q = b0 q) ∧ gSc (a o) (a (o + 1)) (nI n) (b 103) (b0 106) (b0 107) (b0 108) ∧ gBk (a 64) (b 109)
theorem ro_o {o : Nat} (h : o = 1 ∨ o = 3) : hz_rf o 0 = o + 1 := by rcases h with rfl | rfl <;> rfl
section PASS
variable {a0 b0 a b : Sg} {o n : Nat}
theorem pi_sc2 (hB : BF a0 b0 o n) (h : PI a0 b0 o n a b) : Sc2 a b o n := by
  obtain ⟨ho, hn, e6, hL, hK, _⟩ := hB
  obtain ⟨h1, _, h3, h4, _⟩ := h
  refine ⟨ho, hn, by rw [h3 102 (by decide) (by decide) (by decide) (by decide)]; exact e6, ?_, ?_, ?_, ?_⟩
  · rw [ro_o ho, h3 106 (by decide) (by decide) (by decide) (by decide), h3 107 (by decide) (by decide) (by decide) (by decide), h3 108 (by decide) (by decide) (by decide) (by decide)]
    exact h4
  · have z : ∀ q, q = 20 ∨ q = 21 ∨ q = 22 ∨ q = 23 → a q = a0 q := fun q hq => h1 q (by omega) (by omega) (by omega) (by omega) (by omega)
    have y : ∀ q, 112 ≤ q → q ≤ 118 → b q = b0 q := fun q h1 h2 => h3 q (by omega) (by omega) (by omega) (by omega)
    rw [z 20 (by omega), z 21 (by omega), z 22 (by omega), z 23 (by omega), y 112 (by omega) (by omega), y 113 (by omega) (by omega), y 114 (by omega) (by omega), y 115 (by omega) (by omega), y 116 (by omega) (by omega), y 117 (by omega) (by omega), y 118 (by omega) (by omega)]
    exact hL
  · rw [h1 21 (by omega) (by omega) (by omega) (by omega) (by omega)]; exact hK.1.1
  · rw [h1 21 (by omega) (by omega) (by omega) (by omega) (by omega)]; exact hK.1.2
/-- the stacks and what is asked may change -/
theorem pi_t (hB : BF a0 b0 o n) (h : PI a0 b0 o n a b) {a' b' : Sg} (ha : ∀ q, q ≠ 24 → a' q = a q) (hb : ∀ q, q ≠ 123 → q ≠ 124 → b' q = b q) : PI a0 b0 o n a' b' := by
  have ho := hB.1
  obtain ⟨h1, h2, h3, h4, h5⟩ := h
  refine ⟨fun q q1 q2 q3 q4 q5 => by rw [ha q q3]; exact h1 q q1 q2 q3 q4 q5, by rw [ha 63 (by decide)]; exact h2, fun q q1 q2 q3 q4 => by rw [hb q q3 q4]; exact h3 q q1 q2 q3 q4, ?_, ?_⟩
  · rw [ha o (by omega), ha (o + 1) (by omega), hb 103 (by decide) (by decide)]; exact h4
  · rw [ha 64 (by decide), hb 109 (by decide) (by decide)]; exact h5
theorem pi_p (hB : BF a0 b0 o n) (h : PI a0 b0 o n a b) {a' b' : Sg} (p : Nat) (hp : p < n) (ha : ∀ q k, ¬ (q = o + 1 ∧ p * 8 ≤ k ∧ k < p * 8 + 8) → a' q k = a q k) (hb : ∀ q k, ¬ (q = 103 ∧ (k = 10 + p ∨ k = 20 + p ∨ k = 30 + p ∨ k = 40 + p)) → b' q k = b q k)
    (hpe : gPe (a (o + 1)) (b 103) (b0 106 p) (b0 107 p) (b0 108 p) p → gPe (a' (o + 1)) (b' 103) (b0 106 p) (b0 107 p) (b0 108 p) p) : PI a0 b0 o n a' b' := by
  have ho := hB.1
  have hn := hB.2.1
  have aq : ∀ q, q ≠ o + 1 → a' q = a q := fun q hq => funext fun k => ha q k (fun c => hq c.1)
  have bq : ∀ q, q ≠ 103 → b' q = b q := fun q hq => funext fun k => hb q k (fun c => hq c.1)
  obtain ⟨h1, h2, h3, h4, h5⟩ := h
  refine ⟨fun q q1 q2 q3 q4 q5 => by rw [aq q q2]; exact h1 q q1 q2 q3 q4 q5, by rw [aq 63 (by omega)]; exact h2, fun q q1 q2 q3 q4 => by rw [bq q q1]; exact h3 q q1 q2 q3 q4, ?_, ?_⟩
  · rw [aq o (by omega)]
    exact gSc_p p h4 (fun k hk => hb 103 k (by omega)) (fun q hq hne => ⟨fun j hj => ha _ _ (by omega), ⟨hb _ _ (by omega), hb _ _ (by omega), hb _ _ (by omega), hb _ _ (by omega)⟩, rfl, rfl, rfl⟩) hpe
  · rw [aq 64 (by omega), bq 109 (by decide)]; exact h5
theorem pi_f (hB : BF a0 b0 o n) (h : PI a0 b0 o n a b) {a' b' : Sg} (ha : ∀ q k, ¬ (q = o ∧ 2 ≤ k ∧ k ≤ 12) → a' q k = a q k) (hb : ∀ q k, ¬ (q = 103 ∧ k < 10) → b' q k = b q k) (hf : gSf n (a o) (b 103) → gSf n (a' o) (b' 103)) : PI a0 b0 o n a' b' := by
  have ho := hB.1
  have hn := hB.2.1
  have aq : ∀ q, q ≠ o → a' q = a q := fun q hq => funext fun k => ha q k (fun c => hq c.1)
  have bq : ∀ q, q ≠ 103 → b' q = b q := fun q hq => funext fun k => hb q k (fun c => hq c.1)
  obtain ⟨h1, h2, h3, h4, h5⟩ := h
  refine ⟨fun q q1 q2 q3 q4 q5 => by rw [aq q q1]; exact h1 q q1 q2 q3 q4 q5, by rw [aq 63 (by omega)]; exact h2, fun q q1 q2 q3 q4 => by rw [bq q q1]; exact h3 q q1 q2 q3 q4, ?_, ?_⟩
  · rw [aq (o + 1) (by omega)]
    obtain ⟨n2, hn2, k1, k2, k3, k4, hpe⟩ := h4
    have e2 := nI_inj (by omega) (by omega) k1
    subst e2
    obtain ⟨x1, x2⟩ := hf ⟨k3, k4⟩
    refine ⟨n, hn, rfl, by rw [ha _ _ (by omega)]; exact k2, x1, x2, fun q hq => ?_⟩
    exact gPe_c (fun _ _ => rfl) (hb _ _ (by omega)) (hb _ _ (by omega)) (hb _ _ (by omega)) (hb _ _ (by omega)) (hpe q hq)
  · rw [aq 64 (by omega), bq 109 (by decide)]; exact h5
theorem pi_sf (hB : BF a0 b0 o n) (h : PI a0 b0 o n a b) : a o 1 = nI n ∧ gSf n (a o) (b 103) := by
  obtain ⟨n2, hn2, k1, k2, k3, k4, _⟩ := h.2.2.2.1
  have hn := hB.2.1
  have e2 := nI_inj (by omega) (by omega) k1
  subst e2
  exact ⟨k2, k3, k4⟩
theorem pi_pe (hB : BF a0 b0 o n) (h : PI a0 b0 o n a b) {p : Nat} (hp : p < n) : gPe (a (o + 1)) (b 103) (b0 106 p) (b0 107 p) (b0 108 p) p := by
  obtain ⟨n2, hn2, k1, _, _, _, hpe⟩ := h.2.2.2.1
  have hn := hB.2.1
  have e2 := nI_inj (by omega) (by omega) k1
  subst e2
  exact hpe p hp
end PASS
