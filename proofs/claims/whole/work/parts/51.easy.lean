theorem i_ss (x q : Int32) : x - (x - q) = q := by
  first
  | (rw [Int32.sub_eq_add_neg, Int32.neg_sub, Int32.add_comm, Int32.sub_add_cancel]; done)
  | grind
theorem al0 {P : Nat → Prop} : ∀ i ∈ ([] : List Nat), P i := fun _ h => by cases h
theorem sim_end (v : Int32) : Sim (fH_end v) (fM_end v) := by
  refine sim_on [16] (fun _ => rfl) (fr_H_end v) (fr_M_end v) (by decide) (by decide) (fun a b hI => ?_)
  have h0 : gTp a b := hI 16
  obtain ⟨⟨t, ht, e1, e2⟩, h3⟩ := h0
  unfold fH_end
  simp only [e_isIn, bi_s, e1, e2, wi, bnd_e, gb_0, gb_1]
  by_cases h : v < 0
  · simp only [if_pos h, if_true]
    exact ⟨0, a, b, rfl, rfl, al1 (hI 16)⟩
  · obtain ⟨j, hj, rfl⟩ := nI_of h
    simp only [if_neg h, nI_leI hj (show t < 2 ^ 31 by omega), nI_ltI (show t < 2 ^ 31 by omega) hj]
    by_cases h4 : j ≤ t
    · simp only [if_pos h4, if_neg (show ¬ t < j by omega)]
      refine ⟨1, _, _, rfl, rfl, al1 ⟨⟨j, by omega, pt_s _ _ _ _, pt_s _ _ _ _⟩, ?_⟩⟩
      simpa [pt] using h3
    · simp only [if_neg h4, if_pos (show t < j by omega)]
      exact ⟨0, a, b, rfl, rfl, al1 (hI 16)⟩
theorem sim_fault (v : Int32) : Sim (fH_fault v) (fM_fault v) := by
  refine sim_on [] (fun _ => rfl) (fr_H_fault v) (fr_M_fault v) (by decide) (by decide) (fun a b hI => ?_)
  obtain ⟨e1, e2⟩ : gFt a b := hI 17
  unfold fH_fault
  by_cases h0 : v = 0
  · simp only [if_pos h0]
    exact ⟨_, a, b, rfl, by rw [e1], al0⟩
  · by_cases h1 : v = 1
    · simp only [if_neg h0, if_pos h1]
      exact ⟨_, a, b, rfl, by rw [e2], al0⟩
    · simp only [if_neg h0, if_neg h1]
      exact ⟨_, a, b, rfl, rfl, al0⟩
theorem sim_rule (u v w : Int32) : Sim (fH_rule u v w) (fM_rule u v w) := by
  refine sim_on [10] (fun _ => rfl) (fr_H_rule u v w) (fr_M_rule u v w) (by decide) (by decide) (fun a b hI => ?_)
  unfold fH_rule
  simp only [e_isIn, e_within, bi_s, bnd_e, gb_0, gb_1]
  by_cases h1 : wi u 0 999 = 0
  · simp only [if_pos h1]
    exact ⟨_, a, b, rfl, rfl, al1 (hI 10)⟩
  by_cases h2 : wi v 0 999 = 0
  · simp only [if_neg h1, if_pos h2]
    exact ⟨_, a, b, rfl, rfl, al1 (hI 10)⟩
  by_cases h3 : wi w 1 1000 = 0
  · simp only [if_neg h1, if_neg h2, if_pos h3]
    exact ⟨_, a, b, rfl, rfl, al1 (hI 10)⟩
  simp only [if_neg h1, if_neg h2, if_neg h3]
  refine ⟨_, _, _, rfl, rfl, al1 ?_⟩
  obtain ⟨x, _, hx, rfl⟩ := wi_1 (a := 0) (b := 999) (by decide) (by decide) h1
  obtain ⟨y, _, hy, rfl⟩ := wi_1 (a := 0) (b := 999) (by decide) (by decide) h2
  obtain ⟨z, hz1, hz, rfl⟩ := wi_1 (a := 1) (b := 1000) (by decide) (by decide) h3
  show gRu _ _ _ _
  unfold gRu
  have c1 : ∀ q : Int32, q - 1 + 1 = q := fun q => Int32.sub_add_cancel q 1
  have c2 : ∀ q : Int32, 1000 - (1000 - q) = q := fun q => i_ss 1000 q
  simp only [pt]
  simp [c1, c2]
  exact ⟨⟨x, hx, rfl⟩, ⟨y, hy, rfl⟩, ⟨z, hz1, hz, rfl⟩⟩

theorem sim_look (v : Int32) : Sim (fH_look v) (fM_look v) := by
  refine sim_on [] (fun _ => rfl) (fr_H_look v) (fr_M_look v) (by decide) (by decide) (fun a b hI => ?_)
  have h0 : gSc (a 1) (a 2) (b 102 6) (b 103) (b 106) (b 107) (b 108) := hI 0
  obtain ⟨n, hn, k1, k2, ⟨f2, f4, f5, f6, f7, f8, f9, f10, f11, f12⟩, hb, hp⟩ := h0
  have k0 : a 1 1 = b 102 6 := by rw [k1, k2]
  have l1 : a 21 3 = b 112 0 := by obtain ⟨n, z, _, _, e1, e2, _⟩ : gLw (a 21) (a 22) (a 20 3) (a 23) (b 112 0) (b 113) (b 114) (b 115) (b 116) (b 117) (b 118) := hI 4; rw [e1, e2]
  have l2 : a 25 3 = b 102 34 := by obtain ⟨n, N, _, _, e1, e2, _⟩ : gCl (a 25) (a 26) (b 102 34) (b 120) (b 102 6) := hI 1; rw [e1, e2]
  have l3 : a 27 3 = b 102 36 := by obtain ⟨n, _, e1, e2, _⟩ : gSu (a 27) (a 28) (b 102 36) (b 121) := hI 2; rw [e1, e2]
  have l4 : a 19 4 = b 102 38 := by obtain ⟨e, _⟩ : gSt (a 29) (b 122) (a 19 4) (b 102 38) := hI 3; exact e
  have l5 : a 5 2 = b 102 3 := by obtain ⟨f, c, _, _, _, e1, e2, _⟩ : gPs a b := hI 15; rw [e1, e2]
  by_cases q0 : v = 0
  · subst q0
    exact ⟨a 1 1, a, b, rfl, by rw [k0]; rfl, al0⟩
  by_cases q1 : v = 1
  · subst q1
    exact ⟨a 1 2, a, b, rfl, by rw [f2]; rfl, al0⟩
  by_cases q2 : v = 2
  · subst q2
    exact ⟨a 1 4, a, b, rfl, by rw [f4]; rfl, al0⟩
  by_cases q3 : v = 3
  · subst q3
    exact ⟨a 1 6, a, b, rfl, by rw [f6]; rfl, al0⟩
  by_cases q4 : v = 4
  · subst q4
    exact ⟨a 1 7, a, b, rfl, by rw [f7]; rfl, al0⟩
  by_cases q5 : v = 5
  · subst q5
    exact ⟨a 1 8, a, b, rfl, by rw [f8]; rfl, al0⟩
  by_cases q6 : v = 6
  · subst q6
    exact ⟨a 1 9, a, b, rfl, by rw [f9]; rfl, al0⟩
  by_cases q7 : v = 7
  · subst q7
    exact ⟨a 1 10, a, b, rfl, by rw [f10]; rfl, al0⟩
  by_cases q8 : v = 8
  · subst q8
    exact ⟨a 1 12, a, b, rfl, by rw [f12]; rfl, al0⟩
  by_cases q9 : v = 9
  · subst q9
    exact ⟨a 1 11, a, b, rfl, by rw [f11]; rfl, al0⟩
  by_cases q10 : v = 10
  · subst q10
    exact ⟨a 21 3, a, b, rfl, by rw [l1]; rfl, al0⟩
  by_cases q11 : v = 11
  · subst q11
    exact ⟨a 25 3, a, b, rfl, by rw [l2]; rfl, al0⟩
  by_cases q12 : v = 12
  · subst q12
    exact ⟨a 27 3, a, b, rfl, by rw [l3]; rfl, al0⟩
  by_cases q13 : v = 13
  · subst q13
    exact ⟨a 19 4, a, b, rfl, by rw [l4]; rfl, al0⟩
  by_cases q14 : v = 14
  · subst q14
    exact ⟨a 5 2, a, b, rfl, by rw [l5]; rfl, al0⟩
  refine ⟨-2, a, b, ?_, ?_, al0⟩
  · unfold fH_look
    rw [if_neg q0, if_neg q1, if_neg q2, if_neg q3, if_neg q4, if_neg q5, if_neg q6, if_neg q7, if_neg q8, if_neg q9, if_neg q10, if_neg q11, if_neg q12, if_neg q13, if_neg q14, e_within, bi_s]
    rw [if_pos]
    by_cases h : wi v 10 13 = 0
    · exact h
    · obtain ⟨k, h1, h2, rfl⟩ := wi_1 (a := 10) (b := 13) (by decide) (by decide) h
      have : k = 10 ∨ k = 11 ∨ k = 12 ∨ k = 13 := by omega
      rcases this with rfl | rfl | rfl | rfl
      · exact absurd rfl q10
      · exact absurd rfl q11
      · exact absurd rfl q12
      · exact absurd rfl q13
  · simp only [if_neg q0, if_neg q1, if_neg q2, if_neg q3, if_neg q4, if_neg q5, if_neg q6, if_neg q7, if_neg q8, if_neg q9, if_neg q10, if_neg q11, if_neg q12, if_neg q13, if_neg q14]
