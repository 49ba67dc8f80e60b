/-! getting a word out -/
theorem pt_id (s : Sg) (o k : Nat) : pt s o k (s o k) = s := by
  funext q j
  by_cases c : q = o ∧ j = k
  · obtain ⟨rfl, rfl⟩ := c; rw [pt_s]
  · rw [ptf _ _ _ _ _ _ c]
section SPK
variable {a0 b0 a b : Sg} {o n : Nat}
def RFl (b0 : Sg) (o : Nat) (rl : Int32) : Prop := (rl = 1 ∧ b0 102 5 = 0 ∧ o = 1) ∨ (rl = 0 ∧ b0 102 5 = 1)
theorem pi_speaks (hB : BF a0 b0 o n) {rl : Int32} (hR : RFl b0 o rl) (h : PI a0 b0 o n a b) {p : Nat} (hp : p < n) (hg : ¬ b 103 (30 + p) = 0) : W2 (fSu_speaks o (nI p) rl a) (fM_doesSay (nI p) b) (fun x y => x.1 = y.1 ∧ PI a0 b0 o n x.2 y.2) := by
  have ho := hB.1
  have hn := hB.2.1
  have hp10 : p < 10 := by omega
  unfold fSu_speaks fM_doesSay
  refine w2_bi (w2_m (t_says (pi_sc2 hB h) hp) (fun x y ⟨⟨c1, hc1, ex1, ey1⟩, hx, hy⟩ => ?_))
  have h2 := pi_t hB h hx hy
  refine w2_bi (w2_m (t_tires (pi_sc2 hB h2) hp) (fun x' y' ⟨⟨c2, hc2, ex2, ey2⟩, hx', hy'⟩ => ?_))
  have h3 := pi_t hB h2 hx' hy'
  have hg3 : ¬ y'.2 103 (30 + p) = 0 := by rw [hy' 103 (by decide) (by decide), hy 103 (by decide) (by decide)]; exact hg
  rw [ex1, ey1, ex2, ey2]
  refine w2_jj (fun J J' => ∀ c s t, (c = 0 ∨ c = 1) → PI a0 b0 o n s t → ¬ t 103 (30 + p) = 0 → W2 (J c s) (J' c t) (fun x y => x.1 = y.1 ∧ PI a0 b0 o n x.2 y.2)) ?_ ?_
  · intro c s t hc hs hgt
    simp only [bnd_x]
    rcases hc with rfl | rfl
    · simp only [if_true]
      rw [e_brM hp10, bi_s]
      exact w2_bv (w2_m (pi_br hB hs hp 1 _ rfl) (fun x y hz => w2_s ⟨rfl, hz⟩))
    · simp only [n10z, if_false]
      have hpe := pi_pe hB hs hp
      obtain ⟨g, hg20, eg⟩ := hpe.2.2.2.2.2.2.2.2.2.2.2.2.2
      obtain ⟨g, rfl⟩ : ∃ z, g = z + 1 := ⟨g - 1, by
        have : g ≠ 0 := fun e => hgt (by rw [eg, e]; rfl)
        omega⟩
      obtain ⟨a3, b3, q1, q2, q3, q4, q5⟩ := pi_say hB hs (p := p) (x := g) hp (by omega)
      rw [e_St6 o hp10, bi_s, ro_o ho, hpe.2.2.2.2.2.2.1, eg, nI_pred, q1, bv_s, n30, gd50 _ (by omega), ix_n (by omega), eg, nI_pred, q2 0]
      obtain ⟨kk, hkk, kk1, kk2⟩ := e_hb hp10 (99 - b3 103 (10 + p) - nI c2)
      obtain ⟨a4, b4, r1, r2, r3⟩ := pi_br hB q3 hp (-nI c2) (99 - b3 103 (10 + p) - nI c2) (Int32.sub_eq_add_neg _ _).symm
      have r2' := kk2 b3
      rw [r2] at r2'
      have eb4 := Option.some.inj r2'
      rw [r1, bv_s]
      have b35 : b3 102 5 = b0 102 5 := by rw [q3.2.2.1 102 (by decide) (by decide) (by decide) (by decide)]
      rcases hR with ⟨hr, hth, _⟩ | ⟨hr, hth⟩
      · rw [if_neg (show ¬ rl = 0 by rw [hr]; decide)]
        obtain ⟨a5, b5, u1, u2, u3⟩ := pi_note hB hth r3 0 (nI p) (nI g)
        rw [eb4, not_cm hp10] at u2
        cases hnt : fM_notes 0 (nI p) (nI g) b3 with
        | none => rw [hnt] at u2; cases u2
        | some b6 =>
          rw [hnt] at u2
          have eb5 : pt b6 103 (10 + p) (99 - nI kk) = b5 := Option.some.inj u2
          rw [u1, bv_s, bv_s, bv_s]
          have fn : b6 103 (10 + p) = b3 103 (10 + p) := by
            have q := not_cm (b := b3) (x := 0) (y := nI p) (z := nI g) (v := b3 103 (10 + p)) hp10
            rw [pt_id, hnt] at q
            have q2 : b6 = pt b6 103 (10 + p) (b3 103 (10 + p)) := Option.some.inj q
            rw [q2, pt_s]
          rw [e_brM hp10, bi_s, fn, kk2 b6, bv_s]
          refine w2_s ⟨rfl, ?_⟩
          dsimp only
          rw [eb5]
          exact u3
      · rw [if_pos hr, e_noTh (show ¬ b3 102 5 = 0 by rw [b35, hth]; decide), bv_s, bv_s, e_brM hp10, bi_s, kk2 b3, bv_s]
        refine w2_s ⟨rfl, ?_⟩
        dsimp only
        rw [← eb4]
        exact r3
  · intro J J' hJ
    have e5 : y'.2 102 5 = b0 102 5 := by rw [h3.2.2.1 102 (by decide) (by decide) (by decide) (by decide)]
    rw [e5]
    rcases hR with ⟨hr, hth, _⟩ | ⟨hr, hth⟩
    · rw [if_neg (show ¬ rl = 0 by rw [hr]; decide), if_pos hth]
      unfold fSc_draw fM_draw
      obtain ⟨e1, ⟨⟨f2, f4, f5, f6, f7, f8, f9, f10, f11, f12⟩, hb⟩⟩ := pi_sf hB h3
      rw [gc1, gc1, ic1, bnd_e, bnd_e, f11, if_neg (by decide), gc1, gz_n _ (by decide), gz_n _ (by decide), bi_s, bi_s, pt_s, pt_s]
      have h4 : PI a0 b0 o n (pt x'.2 o 11 (1664525 * y'.2 103 1 + 1013904223)) (pt y'.2 103 1 (1664525 * y'.2 103 1 + 1013904223)) := by
        refine pi_f hB h3 (fun q k hq => ptf _ _ _ _ _ _ (by omega)) (fun q k hq => ptf _ _ _ _ _ _ (by omega)) (fun g => ?_)
        have A : ∀ k, k ≠ 11 → pt x'.2 o 11 (1664525 * y'.2 103 1 + 1013904223) o k = x'.2 o k := fun k h1 => pt_k _ _ _ h1
        have B : ∀ k, k ≠ 1 → pt y'.2 103 1 (1664525 * y'.2 103 1 + 1013904223) 103 k = y'.2 103 k := fun k h1 => pt_k _ _ _ h1
        unfold gSf
        rw [A 2 (by decide), A 4 (by decide), A 5 (by decide), A 6 (by decide), A 7 (by decide), A 8 (by decide), A 9 (by decide), A 10 (by decide), A 12 (by decide), pt_s, pt_s, B 5 (by decide), B 6 (by decide), B 7 (by decide), B 8 (by decide), B 9 (by decide), B 4 (by decide), B 3 (by decide), B 0 (by decide), B 2 (by decide)]
        exact ⟨⟨f2, f4, f5, f6, f7, f8, f9, f10, rfl, f12⟩, hb⟩
      have hg4 : ¬ pt y'.2 103 1 (1664525 * y'.2 103 1 + 1013904223) 103 (30 + p) = 0 := by rw [pt_k _ _ _ (by omega)]; exact hg3
      exact w2_if Iff.rfl (fun _ => hJ 0 _ _ (Or.inl rfl) h4 hg4) (fun _ => hJ 1 _ _ (Or.inr rfl) h4 hg4)
    · rw [if_pos hr, if_neg (show ¬ b0 102 5 = 0 by rw [hth]; decide)]
      refine w2_if ?_ (fun _ => hJ 0 _ _ (Or.inl rfl) h3 hg3) (fun _ => hJ 1 _ _ (Or.inr rfl) h3 hg3)
      rw [show 2 * nI c1 = nI (2 * c1) from pk_mul 2 c1, show (500 : Int32) = nI 500 from rfl, show (1000 : Int32) = nI 1000 from rfl, nI_ltI (by omega) (by decide), nI_ltI (by omega) (by decide)]
      omega
end SPK
