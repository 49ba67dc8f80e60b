/-! keeps -/
def muN (m S : Nat) : Nat := if m = 0 then 60 else if m ≤ S then S - m + 1 else 120 - m
theorem x_m1 {x : Int32} : x - 1 = -1 ↔ x = 0 := ⟨fun h => by have := congrArg (· + 1) h; simpa using this, fun h => by subst h; rfl⟩
theorem sim_keeps (v : Int32) : Sim (fH_keeps v) (fM_keeps v) := by
  refine sim_i (fun _ => rfl) (fun a b hI => ?_)
  obtain ⟨n, a1, b1, x1, y1, hB, hP, hR, k1, k2, aq, y3, y4, y5⟩ := th_beg hI
  have hn := hB.2.1
  unfold fH_keeps
  simp only [e_within, e_isIn, bi_x]
  by_cases c0 : wi v 0 1 = 0
  · rw [if_pos c0, if_pos c0]
    exact w2_s ⟨rfl, hI⟩
  rw [if_neg c0, if_neg c0, x1, bv_s, y1, bv_s]
  obtain ⟨n2, n3, hn3⟩ : ∃ (n2 : Nat) (n3 : Nat), ClK b1 n2 ∧ n3 ≤ 16 ∧ b1 102 36 = nI n3 := by
    obtain ⟨_, _, e6, _, _, ⟨N, N', hN, hN', e25, e34, e6', hrow⟩, ⟨M, hM, _, e36, _⟩⟩ := hB
    exact ⟨N, M, ⟨hN, e34, fun i hi => ⟨by obtain ⟨w, hw, e⟩ := (hrow i hi).2.1; exact ⟨w, by omega, e⟩, (hrow i hi).2.2⟩⟩, hM, e36⟩
  obtain ⟨hCK, hM, e36⟩ := hn3
  have st : ∀ {s t : Sg}, PI a1 b1 3 n s t → ∃ m S, m ≤ 59 ∧ 10 ≤ S ∧ S ≤ 59 ∧ s 3 9 = nI m ∧ s 3 8 = nI S := fun {s t} hQ => by
    obtain ⟨e1, ⟨⟨f2, f4, f5, f6, f7, f8, f9, f10, f11, f12⟩, ⟨g1, g2, g3, g4, ⟨S, hS1, hS2, eS⟩, ⟨m, hm, em⟩, g7⟩⟩⟩ := pi_sf hB hQ
    exact ⟨m, S, hm, hS1, hS2, by rw [f9, em], by rw [f8, eS]⟩
  obtain ⟨m0, S0, hm0, hS0, hS0', em0, eS0⟩ := st hP
  have mu0 : muN m0 S0 ≤ 110 := by unfold muN; split <;> (try split) <;> omega
  refine w2_lp (fun k u s u' t => PI a1 b1 3 n s t ∧ ∃ (i : Nat) (by' : Int32), u.2 = nI i ∧ u'.2.2 = nI i ∧ u'.2.1 = by' ∧ i ≤ 119 ∧ ((u.1 = 0 ∧ u'.1 = 0 ∧ ∃ m S, m ≤ 59 ∧ 10 ≤ S ∧ S ≤ 59 ∧ s 3 9 = nI m ∧ s 3 8 = nI S ∧ k = muN m S ∧ i + k ≤ 110) ∨ (u.1 = 1 ∧ u'.1 = 1 ∧ s 3 3 = by' ∧ (s 3 2 = -1 ↔ by' = -1) ∧ (by' = -1 ∨ ∃ p, p < n ∧ by' = nI p)))) ?_ FU FU (muN m0 S0) _ _ _ _ (FU_lt (by omega)) (FU_lt (by omega)) ⟨hP, 0, -1, rfl, rfl, rfl, by omega, Or.inl ⟨rfl, rfl, m0, S0, hm0, hS0, hS0', em0, eS0, rfl, by omega⟩⟩
  rintro q q' k ⟨u1, u2⟩ s ⟨w1, w2, w3⟩ t ⟨hQ, i, by', e2, e3, e4, hi, hcase⟩ hq
  dsimp only at e2 e3 e4 hcase
  subst e2 e3 e4
  have fin : ∀ r : Int32, W2 (some (r, s)) (bv (fM_endsThought t) fun s9 => some (r, s9)) (fun x y => x.1 = y.1 ∧ Inv x.2 y.2) := fun r => w2_bvr (w1_m (th_end hI aq y3 y4 y5 hQ) (fun b3 h3 => w2_s ⟨rfl, h3⟩))
  obtain ⟨e1, ⟨⟨f2, f4, f5, f6, f7, f8, f9, f10, f11, f12⟩, ⟨g1, g2, ⟨p7, hp7, ep7⟩, g4, g5, g6, g7⟩⟩⟩ := pi_sf hB hQ
  simp only [bnd_x]
  rcases hcase with ⟨h1, h2, m, S, hm, hS1, hS2, em, eS, hk, hik⟩ | ⟨h1, h2, h3, h4, h5⟩
  · subst h1 h2
    rw [if_neg (show ¬ (120 : Int32) ≤ nI i from nI_ge (b := 120) (by omega) (by decide)), if_neg (show ¬ (180 : Int32) ≤ nI i from nI_ge (b := 180) (by omega) (by decide)), if_pos rfl, if_pos rfl]
    obtain ⟨c, t1, ec, et, hP1⟩ := pi_beg hB hQ
    obtain ⟨x, y, ex, ey, exy, hP2⟩ := pi_pass hB hR hQ
    obtain ⟨c', ec', x8, x9, x3⟩ := p1_pass s x ex
    obtain rfl : c = c' := Option.some.inj (ec.symm.trans ec')
    have hCt : ClK t n2 := by
      unfold ClK
      rw [hQ.2.2.1 102 (by decide) (by decide) (by decide) (by decide), hQ.2.2.1 120 (by decide) (by decide) (by decide) (by decide)]
      exact hCK
    obtain ⟨t1', et', i2, t13, t17⟩ := beg_2 hCt hM (show t 102 36 = nI n3 by rw [hQ.2.2.1 102 (by decide) (by decide) (by decide) (by decide)]; exact e36)
    obtain rfl : t1 = t1' := Option.some.inj (et.symm.trans et')
    have eg : fM_goesBy t1 = some y := by
      rw [← ey]; unfold fM_goesBy; rw [i2, et]
    have c8 : c 3 8 = t1 103 4 + 40 := (pi_sf hB hP1).2.1.2.2.2.2.2.1
    rw [ex, bi_s, et, bv_s, gc3, ic3, show fM_sunset t1 = some (t1 103 4 + 40, t1) from by unfold fM_sunset; rw [gc4, ic4], bi_s]
    simp only [gc7, ic7, eg, bi_x, t13, ← c8, x8, ← f9]
    obtain ⟨m', S', hm', hS1', hS2', em', eS'⟩ := st hP2
    refine w2_if Iff.rfl (fun d => ?_) (fun d => ?_)
    · obtain ⟨x33, x32⟩ := x3 d
      rw [nI_1]
      refine hq 0 _ _ _ _ ?_ ⟨hP2, i + 1, _, rfl, rfl, rfl, by omega, Or.inr ⟨rfl, rfl, ?_, ?_, ?_⟩⟩
      · rw [hk]; unfold muN; split <;> (try split) <;> omega
      · rw [x33, f5, t17]
      · rw [x32, f4, t17, x_m1, x_m1, g4]
      · rw [t17, ep7]
        by_cases z : p7 = 0
        · subst z; exact Or.inl rfl
        · exact Or.inr ⟨p7 - 1, by omega, by obtain ⟨p, rfl⟩ : ∃ y, p7 = y + 1 := ⟨p7 - 1, by omega⟩; rw [nI_pred]; rfl⟩
    · rw [nI_1]
      have dm : muN m' S' < muN m S := by
        rw [em, ← x8, eS'] at d
        have d : m ≠ S' := fun e => d (by rw [e])
        have hS : m ≠ 0 → S' = S := fun hm0 => by
          rw [em, if_neg (nI_ne0 (by omega) (by omega))] at ec
          have z : c 3 8 = s 3 8 := fr_Su_letClimbersGo 3 s c ec 3 8 (by decide) (by decide)
          rw [← x8, eS', eS] at z
          exact nI_inj (by omega) (by omega) z
        rw [em', em, nI_1] at x9
        by_cases e : m + 1 ≤ 59
        · rw [if_pos (show nI (m + 1) ≤ 59 from nI_le (b := 59) (by omega) (by decide))] at x9
          have := nI_inj (by omega) (by omega) x9
          subst this
          unfold muN
          by_cases z : m = 0
          · subst z
            rw [if_neg (show ¬ (0 + 1 = 0) by omega), if_pos (show 0 + 1 ≤ S' by omega), if_pos rfl]
            omega
          · have := hS z
            subst this
            rw [if_neg (by omega), if_neg z]
            split <;> split <;> omega
        · rw [if_neg (show ¬ nI (m + 1) ≤ 59 from fun q => e ((nI_leI (a := m + 1) (b := 59) (by omega) (by decide)).mp q))] at x9
          have : m' = 0 := nI_inj (by omega) (by decide) x9
          subst this
          have := hS (by omega)
          subst this
          unfold muN
          rw [if_pos rfl, if_neg (by omega), if_neg (by omega)]
          omega
      exact hq (muN m' S') _ _ _ _ (by omega) ⟨hP2, i + 1, _, rfl, rfl, rfl, by omega, Or.inl ⟨rfl, rfl, m', S', hm', hS1', hS2', em', eS', rfl, by omega⟩⟩
  · subst h1 h2
    rw [if_neg n10z, if_neg n10z, ite_self, ite_self]
    rw [gc5, ic5]
    refine w2_if Iff.rfl (fun _ => ?_) (fun _ => ?_)
    · rw [f2]; exact fin _
    refine w2_if h4 (fun z => ?_) (fun z => ?_)
    · rw [z]; exact fin _
    · rcases h5 with h5 | ⟨p, hp, ep⟩
      · exact absurd (h4.mpr h5) z
      · rw [h3, ep, e_St2 3 (show p < 10 by omega), bi_s, gd_n _ (show p < 10 by omega) (by decide), ix_n (by omega), hQ.2.2.1 108 (by decide) (by decide) (by decide) (by decide), show hz_rf 3 0 = 3 + 1 from rfl, (pi_pe hB hQ hp).2.2.1]
        exact fin _
