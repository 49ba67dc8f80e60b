/-! tables -/
theorem lt0 {k : Nat} (h : k < 2 ^ 31) : ¬ nI k < 0 := nI_pos h
theorem e_holds {s : Sg} {t w l i j : Nat} (h0 : s t 0 = nI w) (h1 : s t 1 = nI l) (hi : i < 2 ^ 31) (hj : j < 2 ^ 31) (hw : w < 2 ^ 31) (hl : l < 2 ^ 31) : fTa_holds t (nI i) (nI j) s = some (if i < l ∧ j < w then 1 else 0, s) := by
  unfold fTa_holds
  rw [if_neg (lt0 hi), h1, h0]
  by_cases a : i < l
  · rw [if_neg (by rw [nI_leI hl hi]; omega), if_neg (lt0 hj)]
    by_cases b : j < w
    · rw [if_neg (by rw [nI_leI hw hj]; omega), if_pos ⟨a, b⟩]
      rfl
    · rw [if_pos (by rw [nI_leI hw hj]; omega), if_neg (by omega)]
      rfl
  · rw [if_pos (by rw [nI_leI hl hi]; omega), if_neg (by omega)]
    rfl
theorem cell_lt {w l i j : Nat} (hi : i < l) (hj : j < w) : i * w + j < w * l := by
  have h1 : (i + 1) * w ≤ l * w := Nat.mul_le_mul_right w hi
  rw [Nat.add_mul, Nat.one_mul] at h1
  rw [Nat.mul_comm w l]
  omega
theorem e_tell {s : Sg} {t w l i j : Nat} (h0 : s t 0 = nI w) (h1 : s t 1 = nI l) (hn : hz_ln (hz_rf t 2) = w * l) (hb : w * l < 2 ^ 31) (hi : i < l) (hj : j < w) (hw : w < 2 ^ 31) (hl : l < 2 ^ 31) : fTa_tell t (nI i) (nI j) s = some (s (hz_rf t 2) (i * w + j), s) := by
  have hc := cell_lt hi hj
  unfold fTa_tell
  rw [e_holds h0 h1 (by omega) (by omega) hw hl, if_pos ⟨hi, hj⟩, bi_s, if_neg (by decide), h0, pk_mul, nI_add, hn, gd_n _ hc hb, ix_n (by omega)]
theorem e_put {s : Sg} {t w l i j : Nat} {v : Int32} (h0 : s t 0 = nI w) (h1 : s t 1 = nI l) (hn : hz_ln (hz_rf t 2) = w * l) (hb : w * l < 2 ^ 31) (hi : i < l) (hj : j < w) (hw : w < 2 ^ 31) (hl : l < 2 ^ 31) : fTa_put t (nI i) (nI j) v s = some (pt s (hz_rf t 2) (i * w + j) v) := by
  have hc := cell_lt hi hj
  unfold fTa_put
  rw [e_holds h0 h1 (by omega) (by omega) hw hl, if_pos ⟨hi, hj⟩, bi_s, if_neg (by decide), h0, pk_mul, nI_add, hn, gd_n _ hc hb, ix_n (by omega)]
  rfl
theorem e_putN {s : Sg} {t w l i j : Nat} {v : Int32} (h0 : s t 0 = nI w) (h1 : s t 1 = nI l) (hi : i < 2 ^ 31) (hj : j < 2 ^ 31) (hjw : ¬ j < w) (hw : w < 2 ^ 31) (hl : l < 2 ^ 31) : fTa_put t (nI i) (nI j) v s = some s := by
  unfold fTa_put
  rw [e_holds h0 h1 hi hj hw hl, if_neg (by omega), bi_s, if_pos rfl]
/-- a put, whether the column is there or not -/
theorem e_putS {s : Sg} {t w l i j : Nat} {v : Int32} (h0 : s t 0 = nI w) (h1 : s t 1 = nI l) (hn : hz_ln (hz_rf t 2) = w * l) (hb : w * l < 2 ^ 31) (hi : i < l) (hj : j < 2 ^ 31) (hw : w < 2 ^ 31) (hl : l < 2 ^ 31) (ht : hz_rf t 2 ≠ t) : ∃ τ, fTa_put t (nI i) (nI j) v s = some τ ∧ τ t = s t ∧ (j < w → τ (hz_rf t 2) (i * w + j) = v) ∧ ∀ o q, (o = hz_rf t 2 → q ≠ i * w + j) → τ o q = s o q := by
  by_cases h : j < w
  · refine ⟨_, e_put h0 h1 hn hb hi h hw hl, ?_, fun _ => pt_s _ _ _ _, fun o q hq => ?_⟩
    · funext q
      exact pt_o s _ q v (Ne.symm ht)
    · by_cases ho : o = hz_rf t 2
      · subst ho
        exact pt_k s _ v (hq rfl)
      · exact pt_o s _ q v ho
  · exact ⟨s, e_putN h0 h1 (by omega) hj h hw hl, rfl, fun q => absurd q h, fun _ _ _ => rfl⟩
/-- a new row: its number, its cells, all else as it was -/
theorem e_add {s : Sg} {t w l k : Nat} {a b c d e : Int32} (h0 : s t 0 = nI w) (h1 : s t 1 = nI l) (h3 : s t 3 = nI k) (hn : hz_ln (hz_rf t 2) = w * l) (hb : w * l < 2 ^ 31) (hk : k < l) (hw : w ≤ 5) (hl : l < 2 ^ 30) (ht : hz_rf t 2 ≠ t) : ∃ τ, fTa_add t a b c d e s = some (nI (k + 1), τ) ∧ τ t 3 = nI (k + 1) ∧ (∀ j, j < w → τ (hz_rf t 2) (k * w + j) = [a, b, c, d, e].getD j 0) ∧ ∀ o q, (o = t → q ≠ 3) → (o = hz_rf t 2 → q < k * w ∨ k * w + w ≤ q) → τ o q = s o q := by
  unfold fTa_add
  rw [if_pos (by rw [h3, h1, nI_ltI (by omega) (by omega)]; exact hk)]
  obtain ⟨s1, e1, t1, c1, f1⟩ := e_putS (j := 0) (v := a) h0 h1 hn hb hk (by decide) (by omega) (by omega) ht
  obtain ⟨s2, e2, t2, c2, f2⟩ := e_putS (s := s1) (j := 1) (v := b) (by rw [t1]; exact h0) (by rw [t1]; exact h1) hn hb hk (by decide) (by omega) (by omega) ht
  obtain ⟨s3, e3, t3, c3, f3⟩ := e_putS (s := s2) (j := 2) (v := c) (by rw [t2, t1]; exact h0) (by rw [t2, t1]; exact h1) hn hb hk (by decide) (by omega) (by omega) ht
  obtain ⟨s4, e4, t4, c4, f4⟩ := e_putS (s := s3) (j := 3) (v := d) (by rw [t3, t2, t1]; exact h0) (by rw [t3, t2, t1]; exact h1) hn hb hk (by decide) (by omega) (by omega) ht
  obtain ⟨s5, e5, t5, c5, f5⟩ := e_putS (s := s4) (j := 4) (v := e) (by rw [t4, t3, t2, t1]; exact h0) (by rw [t4, t3, t2, t1]; exact h1) hn hb hk (by decide) (by omega) (by omega) ht
  have z0 : (0 : Int32) = nI 0 := rfl
  have z1 : (1 : Int32) = nI 1 := rfl
  have z2 : (2 : Int32) = nI 2 := rfl
  have z3 : (3 : Int32) = nI 3 := rfl
  have z4 : (4 : Int32) = nI 4 := rfl
  have g1 : s1 t 3 = nI k := by rw [t1]; exact h3
  have g2 : s2 t 3 = nI k := by rw [t2]; exact g1
  have g3 : s3 t 3 = nI k := by rw [t3]; exact g2
  have g4 : s4 t 3 = nI k := by rw [t4]; exact g3
  have g5 : s5 t 3 = nI k := by rw [t5]; exact g4
  refine ⟨pt s5 t 3 (nI (k + 1)), ?_, pt_s _ _ _ _, fun j hj => ?_, fun o q ho hc => ?_⟩
  · rw [h3, show fTa_put t (nI k) 0 a s = some s1 from e1, bv_s, g1, show fTa_put t (nI k) 1 b s1 = some s2 from e2, bv_s, g2, show fTa_put t (nI k) 2 c s2 = some s3 from e3, bv_s, g3, show fTa_put t (nI k) 3 d s3 = some s4 from e4, bv_s, g4, show fTa_put t (nI k) 4 e s4 = some s5 from e5, bv_s, bnd_e, g5, nI_1, pt_s]
  · rw [pt_o _ _ _ _ ht]
    have ne : ∀ x y : Nat, x ≠ y → k * w + x ≠ k * w + y := fun x y h => by omega
    match j, hj with
    | 0, hj => rw [f5 _ _ (fun _ => ne _ _ (by decide)), f4 _ _ (fun _ => ne _ _ (by decide)), f3 _ _ (fun _ => ne _ _ (by decide)), f2 _ _ (fun _ => ne _ _ (by decide)), c1 hj]; rfl
    | 1, hj => rw [f5 _ _ (fun _ => ne _ _ (by decide)), f4 _ _ (fun _ => ne _ _ (by decide)), f3 _ _ (fun _ => ne _ _ (by decide)), c2 hj]; rfl
    | 2, hj => rw [f5 _ _ (fun _ => ne _ _ (by decide)), f4 _ _ (fun _ => ne _ _ (by decide)), c3 hj]; rfl
    | 3, hj => rw [f5 _ _ (fun _ => ne _ _ (by decide)), c4 hj]; rfl
    | 4, hj => rw [c5 hj]; rfl
    | j + 5, hj => omega
  · have h6 : pt s5 t 3 (nI (k + 1)) o q = s5 o q := by
      by_cases hot : o = t
      · subst hot
        exact pt_k _ _ _ (ho rfl)
      · exact pt_o _ _ _ _ hot
    rw [h6]
    have step : ∀ (σ τ : Sg) (j : Nat), (∀ o q, (o = hz_rf t 2 → q ≠ k * w + j) → τ o q = σ o q) → (j < w ∨ τ = σ) → τ o q = σ o q := by
      intro σ τ j hf hjw
      rcases hjw with hj | hj
      · refine hf o q (fun e he => ?_)
        rcases hc e with h | h <;> omega
      · rw [hj]
    have same : ∀ (σ τ : Sg) (j : Nat) (v : Int32), fTa_put t (nI k) (nI j) v σ = some τ → σ t 0 = nI w → σ t 1 = nI l → j < 5 → (j < w ∨ τ = σ) := by
      intro σ τ j v he a0 a1 hj5
      by_cases hj : j < w
      · exact Or.inl hj
      · rw [e_putN a0 a1 (by omega) (by omega) hj (by omega) (by omega)] at he
        exact Or.inr (Option.some.inj he).symm
    rw [step s4 s5 4 f5 (same _ _ _ _ e5 (by rw [t4, t3, t2, t1]; exact h0) (by rw [t4, t3, t2, t1]; exact h1) (by decide)), step s3 s4 3 f4 (same _ _ _ _ e4 (by rw [t3, t2, t1]; exact h0) (by rw [t3, t2, t1]; exact h1) (by decide)), step s2 s3 2 f3 (same _ _ _ _ e3 (by rw [t2, t1]; exact h0) (by rw [t2, t1]; exact h1) (by decide)), step s1 s2 1 f2 (same _ _ _ _ e2 (by rw [t1]; exact h0) (by rw [t1]; exact h1) (by decide)), step s s1 0 f1 (same _ _ _ _ e1 h0 h1 (by decide))]
theorem e_addN {s : Sg} {t l k : Nat} {a b c d e : Int32} (h1 : s t 1 = nI l) (h3 : s t 3 = nI k) (hk : ¬ k < l) (hl : l < 2 ^ 31) (hk2 : k < 2 ^ 31) : fTa_add t a b c d e s = some (-1, s) := by
  unfold fTa_add
  rw [if_neg (by rw [h3, h1, nI_ltI hk2 hl]; exact hk)]
theorem e_empty (t : Nat) (s : Sg) : fTa_empty t s = some (0, pt s t 3 0) := by
  unfold fTa_empty
  rw [bnd_e, pt_s]
