/-! THE PURE CLAIM: all calls together -/
theorem stp_w {fh fm : Sg → Option (Int32 × Sg)} {s : Sg} {J : Sg → Option (Int32 × Sg)} {Q : Int32 × Sg → Prop} (h : ∃ r s1 s2, fh s = some (r, s1) ∧ fm s1 = some (r, s2) ∧ Inv s2 s2) (hJ : ∀ s2, Inv s2 s2 → W1 (J s2) Q) : W1 (bi (fh s) fun r2 s1 => bi (fm s1) fun r4 s3 => if r2 = r4 then J s3 else some (0, s3)) Q := by
  obtain ⟨r, s1, s2, e1, e2, h⟩ := h
  rw [e1, bi_s, e2, bi_s, if_pos rfl]
  exact hJ s2 h
def gdo (n : Nat) (u : Int32) : Prop := (∀ {R : Type} (f : Option R), gd (u + 1) n f = f) ∧ (∀ {R : Type} (f : Option R), gd (u + 2) n f = f) ∧ (∀ {R : Type} (f : Option R), gd (u + 3) n f = f) ∧ (∀ {R : Type} (f : Option R), gd (u + 4) n f = f) ∧ (∀ {R : Type} (f : Option R), gd (u + 5) n f = f)
theorem law_0 {J : Sg → Option (Int32 × Sg)} {xs : Nat → Int32} {n : Nat} {u : Int32} {s : Sg} {Q : Int32 × Sg → Prop} (hg : gdo n u) (hs : Inv s s) (hJ : ∀ s2, Inv s2 s2 → W1 (J s2) Q) : W1 (fL_0 J xs n u s) Q := by
  obtain ⟨g1, g2, g3, g4, g5⟩ := hg
  unfold fL_0
  simp only [g1, g2, g3, g4, g5]
  exact stp_w (stp_of (sim_state _) (fr_H_state _) (fr_M_state _) (by decide) (by decide) (by decide) (by decide) s hs) hJ
theorem law_1 {J : Sg → Option (Int32 × Sg)} {xs : Nat → Int32} {n : Nat} {u : Int32} {s : Sg} {Q : Int32 × Sg → Prop} (hg : gdo n u) (hs : Inv s s) (hJ : ∀ s2, Inv s2 s2 → W1 (J s2) Q) : W1 (fL_1 J xs n u s) Q := by
  obtain ⟨g1, g2, g3, g4, g5⟩ := hg
  unfold fL_1
  simp only [g1, g2, g3, g4, g5]
  exact stp_w (stp_of (sim_person _ _ _) (fr_H_person _ _ _) (fr_M_person _ _ _) (by decide) (by decide) (by decide) (by decide) s hs) hJ
theorem law_2 {J : Sg → Option (Int32 × Sg)} {xs : Nat → Int32} {n : Nat} {u : Int32} {s : Sg} {Q : Int32 × Sg → Prop} (hg : gdo n u) (hs : Inv s s) (hJ : ∀ s2, Inv s2 s2 → W1 (J s2) Q) : W1 (fL_2 J xs n u s) Q := by
  obtain ⟨g1, g2, g3, g4, g5⟩ := hg
  unfold fL_2
  simp only [g1, g2, g3, g4, g5]
  exact stp_w (stp_of (sim_set _ _ _) (fr_H_set _ _ _) (fr_M_set _ _ _) (by decide) (by decide) (by decide) (by decide) s hs) hJ
theorem law_3 {J : Sg → Option (Int32 × Sg)} {xs : Nat → Int32} {n : Nat} {u : Int32} {s : Sg} {Q : Int32 × Sg → Prop} (hg : gdo n u) (hs : Inv s s) (hJ : ∀ s2, Inv s2 s2 → W1 (J s2) Q) : W1 (fL_3 J xs n u s) Q := by
  obtain ⟨g1, g2, g3, g4, g5⟩ := hg
  unfold fL_3
  simp only [g1, g2, g3, g4, g5]
  exact stp_w (stp_of (sim_act _ _ _) (fr_H_act _ _ _) (fr_M_act _ _ _) (by decide) (by decide) (by decide) (by decide) s hs) hJ
theorem law_4 {J : Sg → Option (Int32 × Sg)} {xs : Nat → Int32} {n : Nat} {u : Int32} {s : Sg} {Q : Int32 × Sg → Prop} (hg : gdo n u) (hs : Inv s s) (hJ : ∀ s2, Inv s2 s2 → W1 (J s2) Q) : W1 (fL_4 J xs n u s) Q := by
  obtain ⟨g1, g2, g3, g4, g5⟩ := hg
  unfold fL_4
  simp only [g1, g2, g3, g4, g5]
  exact stp_w (stp_of (sim_ask _) (fr_H_ask _) (fr_M_ask _) (by decide) (by decide) (by decide) (by decide) s hs) hJ
theorem law_5 {J : Sg → Option (Int32 × Sg)} {xs : Nat → Int32} {n : Nat} {u : Int32} {s : Sg} {Q : Int32 × Sg → Prop} (hg : gdo n u) (hs : Inv s s) (hJ : ∀ s2, Inv s2 s2 → W1 (J s2) Q) : W1 (fL_5 J xs n u s) Q := by
  obtain ⟨g1, g2, g3, g4, g5⟩ := hg
  unfold fL_5
  simp only [g1, g2, g3, g4, g5]
  exact stp_w (stp_of (sim_minutes _) (fr_H_minutes _) (fr_M_minutes _) (by decide) (by decide) (by decide) (by decide) s hs) hJ
theorem law_6 {J : Sg → Option (Int32 × Sg)} {xs : Nat → Int32} {n : Nat} {u : Int32} {s : Sg} {Q : Int32 × Sg → Prop} (hg : gdo n u) (hs : Inv s s) (hJ : ∀ s2, Inv s2 s2 → W1 (J s2) Q) : W1 (fL_6 J xs n u s) Q := by
  obtain ⟨g1, g2, g3, g4, g5⟩ := hg
  unfold fL_6
  simp only [g1, g2, g3, g4, g5]
  exact stp_w (stp_of (sim_feed _ _ _ _ _) (fr_H_feed _ _ _ _ _) (fr_M_feed _ _ _ _ _) (by decide) (by decide) (by decide) (by decide) s hs) hJ
theorem law_7 {J : Sg → Option (Int32 × Sg)} {xs : Nat → Int32} {n : Nat} {u : Int32} {s : Sg} {Q : Int32 × Sg → Prop} (hg : gdo n u) (hs : Inv s s) (hJ : ∀ s2, Inv s2 s2 → W1 (J s2) Q) : W1 (fL_7 J xs n u s) Q := by
  obtain ⟨g1, g2, g3, g4, g5⟩ := hg
  unfold fL_7
  simp only [g1, g2, g3, g4, g5]
  exact stp_w (stp_of (sim_end _) (fr_H_end _) (fr_M_end _) (by decide) (by decide) (by decide) (by decide) s hs) hJ
theorem law_8 {J : Sg → Option (Int32 × Sg)} {xs : Nat → Int32} {n : Nat} {u : Int32} {s : Sg} {Q : Int32 × Sg → Prop} (hg : gdo n u) (hs : Inv s s) (hJ : ∀ s2, Inv s2 s2 → W1 (J s2) Q) : W1 (fL_8 J xs n u s) Q := by
  obtain ⟨g1, g2, g3, g4, g5⟩ := hg
  unfold fL_8
  simp only [g1, g2, g3, g4, g5]
  exact stp_w (stp_of (sim_text _) (fr_H_text _) (fr_M_text _) (by decide) (by decide) (by decide) (by decide) s hs) hJ
theorem law_9 {J : Sg → Option (Int32 × Sg)} {xs : Nat → Int32} {n : Nat} {u : Int32} {s : Sg} {Q : Int32 × Sg → Prop} (hg : gdo n u) (hs : Inv s s) (hJ : ∀ s2, Inv s2 s2 → W1 (J s2) Q) : W1 (fL_9 J xs n u s) Q := by
  obtain ⟨g1, g2, g3, g4, g5⟩ := hg
  unfold fL_9
  simp only [g1, g2, g3, g4, g5]
  exact stp_w (stp_of (sim_fault _) (fr_H_fault _) (fr_M_fault _) (by decide) (by decide) (by decide) (by decide) s hs) hJ
theorem law_10 {J : Sg → Option (Int32 × Sg)} {xs : Nat → Int32} {n : Nat} {u : Int32} {s : Sg} {Q : Int32 × Sg → Prop} (hg : gdo n u) (hs : Inv s s) (hJ : ∀ s2, Inv s2 s2 → W1 (J s2) Q) : W1 (fL_10 J xs n u s) Q := by
  obtain ⟨g1, g2, g3, g4, g5⟩ := hg
  unfold fL_10
  simp only [g1, g2, g3, g4, g5]
  exact stp_w (stp_of (sim_of2 _ _) (fr_H_of _ _) (fr_M_of _ _) (by decide) (by decide) (by decide) (by decide) s hs) hJ
theorem law_11 {J : Sg → Option (Int32 × Sg)} {xs : Nat → Int32} {n : Nat} {u : Int32} {s : Sg} {Q : Int32 × Sg → Prop} (hg : gdo n u) (hs : Inv s s) (hJ : ∀ s2, Inv s2 s2 → W1 (J s2) Q) : W1 (fL_11 J xs n u s) Q := by
  obtain ⟨g1, g2, g3, g4, g5⟩ := hg
  unfold fL_11
  simp only [g1, g2, g3, g4, g5]
  exact stp_w (stp_of (sim_book _ _) (fr_H_book _ _) (fr_M_book _ _) (by decide) (by decide) (by decide) (by decide) s hs) hJ
theorem law_12 {J : Sg → Option (Int32 × Sg)} {xs : Nat → Int32} {n : Nat} {u : Int32} {s : Sg} {Q : Int32 × Sg → Prop} (hg : gdo n u) (hs : Inv s s) (hJ : ∀ s2, Inv s2 s2 → W1 (J s2) Q) : W1 (fL_12 J xs n u s) Q := by
  obtain ⟨g1, g2, g3, g4, g5⟩ := hg
  unfold fL_12
  simp only [g1, g2, g3, g4, g5]
  exact stp_w (stp_of (sim_goes _ _) (fr_H_goes _ _) (fr_M_goes _ _) (by decide) (by decide) (by decide) (by decide) s hs) hJ
theorem law_13 {J : Sg → Option (Int32 × Sg)} {xs : Nat → Int32} {n : Nat} {u : Int32} {s : Sg} {Q : Int32 × Sg → Prop} (hg : gdo n u) (hs : Inv s s) (hJ : ∀ s2, Inv s2 s2 → W1 (J s2) Q) : W1 (fL_13 J xs n u s) Q := by
  obtain ⟨g1, g2, g3, g4, g5⟩ := hg
  unfold fL_13
  simp only [g1, g2, g3, g4, g5]
  exact stp_w (stp_of (sim_keeps _) (fr_H_keeps _) (fr_M_keeps _) (by decide) (by decide) (by decide) (by decide) s hs) hJ
theorem law_14 {J : Sg → Option (Int32 × Sg)} {xs : Nat → Int32} {n : Nat} {u : Int32} {s : Sg} {Q : Int32 × Sg → Prop} (hg : gdo n u) (hs : Inv s s) (hJ : ∀ s2, Inv s2 s2 → W1 (J s2) Q) : W1 (fL_14 J xs n u s) Q := by
  obtain ⟨g1, g2, g3, g4, g5⟩ := hg
  unfold fL_14
  simp only [g1, g2, g3, g4, g5]
  exact stp_w (stp_of (sim_earliest _) (fr_H_earliest _) (fr_M_earliest _) (by decide) (by decide) (by decide) (by decide) s hs) hJ
theorem law_15 {J : Sg → Option (Int32 × Sg)} {xs : Nat → Int32} {n : Nat} {u : Int32} {s : Sg} {Q : Int32 × Sg → Prop} (hg : gdo n u) (hs : Inv s s) (hJ : ∀ s2, Inv s2 s2 → W1 (J s2) Q) : W1 (fL_15 J xs n u s) Q := by
  obtain ⟨g1, g2, g3, g4, g5⟩ := hg
  unfold fL_15
  simp only [g1, g2, g3, g4, g5]
  exact stp_w (stp_of (sim_fits _ _) (fr_H_fits _ _) (fr_M_fits _ _) (by decide) (by decide) (by decide) (by decide) s hs) hJ
theorem law_16 {J : Sg → Option (Int32 × Sg)} {xs : Nat → Int32} {n : Nat} {u : Int32} {s : Sg} {Q : Int32 × Sg → Prop} (hg : gdo n u) (hs : Inv s s) (hJ : ∀ s2, Inv s2 s2 → W1 (J s2) Q) : W1 (fL_16 J xs n u s) Q := by
  obtain ⟨g1, g2, g3, g4, g5⟩ := hg
  unfold fL_16
  simp only [g1, g2, g3, g4, g5, bnd_e]
  by_cases h : xs (ix (u + 2)) = 0
  · simp only [if_pos h]
    exact stp_w (stp_of (sim_answer _ 0) (fr_H_answer _ 0) (fr_M_answer _ 0) (by decide) (by decide) (by decide) (by decide) s hs) hJ
  · simp only [if_neg h]
    exact stp_w (stp_of (sim_answer _ 1) (fr_H_answer _ 1) (fr_M_answer _ 1) (by decide) (by decide) (by decide) (by decide) s hs) hJ
theorem law_17 {J : Sg → Option (Int32 × Sg)} {xs : Nat → Int32} {n : Nat} {u : Int32} {s : Sg} {Q : Int32 × Sg → Prop} (hg : gdo n u) (hs : Inv s s) (hJ : ∀ s2, Inv s2 s2 → W1 (J s2) Q) : W1 (fL_17 J xs n u s) Q := by
  obtain ⟨g1, g2, g3, g4, g5⟩ := hg
  unfold fL_17
  simp only [g1, g2, g3, g4, g5]
  exact stp_w (stp_of (sim_could _) (fr_H_could _) (fr_M_could _) (by decide) (by decide) (by decide) (by decide) s hs) hJ
theorem law_18 {J : Sg → Option (Int32 × Sg)} {xs : Nat → Int32} {n : Nat} {u : Int32} {s : Sg} {Q : Int32 × Sg → Prop} (hg : gdo n u) (hs : Inv s s) (hJ : ∀ s2, Inv s2 s2 → W1 (J s2) Q) : W1 (fL_18 J xs n u s) Q := by
  obtain ⟨g1, g2, g3, g4, g5⟩ := hg
  unfold fL_18
  simp only [g1, g2, g3, g4, g5]
  exact stp_w (stp_of (sim_watch _ _) (fr_H_watch _ _) (fr_M_watch _ _) (by decide) (by decide) (by decide) (by decide) s hs) hJ
theorem law_19 {J : Sg → Option (Int32 × Sg)} {xs : Nat → Int32} {n : Nat} {u : Int32} {s : Sg} {Q : Int32 × Sg → Prop} (hg : gdo n u) (hs : Inv s s) (hJ : ∀ s2, Inv s2 s2 → W1 (J s2) Q) : W1 (fL_19 J xs n u s) Q := by
  obtain ⟨g1, g2, g3, g4, g5⟩ := hg
  unfold fL_19
  simp only [g1, g2, g3, g4, g5]
  exact stp_w (stp_of (sim_guard _ _) (fr_H_guard _ _) (fr_M_guard _ _) (by decide) (by decide) (by decide) (by decide) s hs) hJ
theorem law_20 {J : Sg → Option (Int32 × Sg)} {xs : Nat → Int32} {n : Nat} {u : Int32} {s : Sg} {Q : Int32 × Sg → Prop} (hg : gdo n u) (hs : Inv s s) (hJ : ∀ s2, Inv s2 s2 → W1 (J s2) Q) : W1 (fL_20 J xs n u s) Q := by
  obtain ⟨g1, g2, g3, g4, g5⟩ := hg
  unfold fL_20
  simp only [g1, g2, g3, g4, g5]
  exact stp_w (stp_of (sim_step _ _ _) (fr_H_step _ _ _) (fr_M_step _ _ _) (by decide) (by decide) (by decide) (by decide) s hs) hJ
theorem law_21 {J : Sg → Option (Int32 × Sg)} {xs : Nat → Int32} {n : Nat} {u : Int32} {s : Sg} {Q : Int32 × Sg → Prop} (hg : gdo n u) (hs : Inv s s) (hJ : ∀ s2, Inv s2 s2 → W1 (J s2) Q) : W1 (fL_21 J xs n u s) Q := by
  obtain ⟨g1, g2, g3, g4, g5⟩ := hg
  unfold fL_21
  simp only [g1, g2, g3, g4, g5]
  exact stp_w (stp_of (sim_down _ _ _) (fr_H_down _ _ _) (fr_M_down _ _ _) (by decide) (by decide) (by decide) (by decide) s hs) hJ
theorem law_22 {J : Sg → Option (Int32 × Sg)} {xs : Nat → Int32} {n : Nat} {u : Int32} {s : Sg} {Q : Int32 × Sg → Prop} (hg : gdo n u) (hs : Inv s s) (hJ : ∀ s2, Inv s2 s2 → W1 (J s2) Q) : W1 (fL_22 J xs n u s) Q := by
  obtain ⟨g1, g2, g3, g4, g5⟩ := hg
  unfold fL_22
  simp only [g1, g2, g3, g4, g5]
  exact stp_w (stp_of (sim_spell _ _ _) (fr_H_spell _ _ _) (fr_M_spell _ _ _) (by decide) (by decide) (by decide) (by decide) s hs) hJ
theorem law_23 {J : Sg → Option (Int32 × Sg)} {xs : Nat → Int32} {n : Nat} {u : Int32} {s : Sg} {Q : Int32 × Sg → Prop} (hg : gdo n u) (hs : Inv s s) (hJ : ∀ s2, Inv s2 s2 → W1 (J s2) Q) : W1 (fL_23 J xs n u s) Q := by
  obtain ⟨g1, g2, g3, g4, g5⟩ := hg
  unfold fL_23
  simp only [g1, g2, g3, g4, g5]
  exact stp_w (stp_of (sim_over _ _) (fr_H_over _ _) (fr_M_over _ _) (by decide) (by decide) (by decide) (by decide) s hs) hJ
theorem law_24 {J : Sg → Option (Int32 × Sg)} {xs : Nat → Int32} {n : Nat} {u : Int32} {s : Sg} {Q : Int32 × Sg → Prop} (hg : gdo n u) (hs : Inv s s) (hJ : ∀ s2, Inv s2 s2 → W1 (J s2) Q) : W1 (fL_24 J xs n u s) Q := by
  obtain ⟨g1, g2, g3, g4, g5⟩ := hg
  unfold fL_24
  simp only [g1, g2, g3, g4, g5]
  exact stp_w (stp_of (sim_speaker _ _) (fr_H_speaker _ _) (fr_M_speaker _ _) (by decide) (by decide) (by decide) (by decide) s hs) hJ
theorem law_25 {J : Sg → Option (Int32 × Sg)} {xs : Nat → Int32} {n : Nat} {u : Int32} {s : Sg} {Q : Int32 × Sg → Prop} (hg : gdo n u) (hs : Inv s s) (hJ : ∀ s2, Inv s2 s2 → W1 (J s2) Q) : W1 (fL_25 J xs n u s) Q := by
  obtain ⟨g1, g2, g3, g4, g5⟩ := hg
  unfold fL_25
  simp only [g1, g2, g3, g4, g5]
  exact stp_w (stp_of (sim_council _) (fr_H_council _) (fr_M_council _) (by decide) (by decide) (by decide) (by decide) s hs) hJ
theorem law_26 {J : Sg → Option (Int32 × Sg)} {xs : Nat → Int32} {n : Nat} {u : Int32} {s : Sg} {Q : Int32 × Sg → Prop} (hg : gdo n u) (hs : Inv s s) (hJ : ∀ s2, Inv s2 s2 → W1 (J s2) Q) : W1 (fL_26 J xs n u s) Q := by
  obtain ⟨g1, g2, g3, g4, g5⟩ := hg
  unfold fL_26
  simp only [g1, g2, g3, g4, g5]
  exact stp_w (stp_of (sim_rule _ _ _) (fr_H_rule _ _ _) (fr_M_rule _ _ _) (by decide) (by decide) (by decide) (by decide) s hs) hJ
theorem law_27 {J : Sg → Option (Int32 × Sg)} {xs : Nat → Int32} {n : Nat} {u : Int32} {s : Sg} {Q : Int32 × Sg → Prop} (hg : gdo n u) (hs : Inv s s) (hJ : ∀ s2, Inv s2 s2 → W1 (J s2) Q) : W1 (fL_27 J xs n u s) Q := by
  obtain ⟨g1, g2, g3, g4, g5⟩ := hg
  unfold fL_27
  simp only [g1, g2, g3, g4, g5]
  exact stp_w (stp_of (sim_thing _ _) (fr_H_thing _ _) (fr_M_thing _ _) (by decide) (by decide) (by decide) (by decide) s hs) hJ
theorem law_28 {J : Sg → Option (Int32 × Sg)} {xs : Nat → Int32} {n : Nat} {u : Int32} {s : Sg} {Q : Int32 × Sg → Prop} (hg : gdo n u) (hs : Inv s s) (hJ : ∀ s2, Inv s2 s2 → W1 (J s2) Q) : W1 (fL_28 J xs n u s) Q := by
  obtain ⟨g1, g2, g3, g4, g5⟩ := hg
  unfold fL_28
  simp only [g1, g2, g3, g4, g5]
  exact stp_w (stp_of (sim_price _) (fr_H_price _) (fr_M_price _) (by decide) (by decide) (by decide) (by decide) s hs) hJ
theorem law_29 {J : Sg → Option (Int32 × Sg)} {xs : Nat → Int32} {n : Nat} {u : Int32} {s : Sg} {Q : Int32 × Sg → Prop} (hg : gdo n u) (hs : Inv s s) (hJ : ∀ s2, Inv s2 s2 → W1 (J s2) Q) : W1 (fL_29 J xs n u s) Q := by
  obtain ⟨g1, g2, g3, g4, g5⟩ := hg
  unfold fL_29
  simp only [g1, g2, g3, g4, g5]
  exact stp_w (stp_of (sim_prices _ _) (fr_H_prices _ _) (fr_M_prices _ _) (by decide) (by decide) (by decide) (by decide) s hs) hJ
theorem law_30 {J : Sg → Option (Int32 × Sg)} {xs : Nat → Int32} {n : Nat} {u : Int32} {s : Sg} {Q : Int32 × Sg → Prop} (hg : gdo n u) (hs : Inv s s) (hJ : ∀ s2, Inv s2 s2 → W1 (J s2) Q) : W1 (fL_30 J xs n u s) Q := by
  obtain ⟨g1, g2, g3, g4, g5⟩ := hg
  unfold fL_30
  simp only [g1, g2, g3, g4, g5]
  exact stp_w (stp_of (sim_bell _ _) (fr_H_bell _ _) (fr_M_bell _ _) (by decide) (by decide) (by decide) (by decide) s hs) hJ
theorem law_31 {J : Sg → Option (Int32 × Sg)} {xs : Nat → Int32} {n : Nat} {u : Int32} {s : Sg} {Q : Int32 × Sg → Prop} (hg : gdo n u) (hs : Inv s s) (hJ : ∀ s2, Inv s2 s2 → W1 (J s2) Q) : W1 (fL_31 J xs n u s) Q := by
  obtain ⟨g1, g2, g3, g4, g5⟩ := hg
  unfold fL_31
  simp only [g1, g2, g3, g4, g5]
  exact stp_w (stp_of (sim_worth _ _) (fr_H_worth _ _) (fr_M_worth _ _) (by decide) (by decide) (by decide) (by decide) s hs) hJ
theorem law_32 {J : Sg → Option (Int32 × Sg)} {xs : Nat → Int32} {n : Nat} {u : Int32} {s : Sg} {Q : Int32 × Sg → Prop} (hg : gdo n u) (hs : Inv s s) (hJ : ∀ s2, Inv s2 s2 → W1 (J s2) Q) : W1 (fL_32 J xs n u s) Q := by
  obtain ⟨g1, g2, g3, g4, g5⟩ := hg
  unfold fL_32
  exact stp_w (stp_of (sim_worths) (fr_H_worths) (fr_M_worths) (by decide) (by decide) (by decide) (by decide) s hs) hJ
theorem law_33 {J : Sg → Option (Int32 × Sg)} {xs : Nat → Int32} {n : Nat} {u : Int32} {s : Sg} {Q : Int32 × Sg → Prop} (hg : gdo n u) (hs : Inv s s) (hJ : ∀ s2, Inv s2 s2 → W1 (J s2) Q) : W1 (fL_33 J xs n u s) Q := by
  obtain ⟨g1, g2, g3, g4, g5⟩ := hg
  unfold fL_33
  simp only [g1, g2, g3, g4, g5]
  exact stp_w (stp_of (sim_game _) (fr_H_game _) (fr_M_game _) (by decide) (by decide) (by decide) (by decide) s hs) hJ
theorem law_34 {J : Sg → Option (Int32 × Sg)} {xs : Nat → Int32} {n : Nat} {u : Int32} {s : Sg} {Q : Int32 × Sg → Prop} (hg : gdo n u) (hs : Inv s s) (hJ : ∀ s2, Inv s2 s2 → W1 (J s2) Q) : W1 (fL_34 J xs n u s) Q := by
  obtain ⟨g1, g2, g3, g4, g5⟩ := hg
  unfold fL_34
  exact stp_w (stp_of (sim_undo) (fr_H_undo) (fr_M_undo) (by decide) (by decide) (by decide) (by decide) s hs) hJ
theorem law_35 {J : Sg → Option (Int32 × Sg)} {xs : Nat → Int32} {n : Nat} {u : Int32} {s : Sg} {Q : Int32 × Sg → Prop} (hg : gdo n u) (hs : Inv s s) (hJ : ∀ s2, Inv s2 s2 → W1 (J s2) Q) : W1 (fL_35 J xs n u s) Q := by
  obtain ⟨g1, g2, g3, g4, g5⟩ := hg
  unfold fL_35
  simp only [g1, g2, g3, g4, g5, bnd_e]
  by_cases h : xs (ix (u + 1)) = 0
  · simp only [if_pos h]
    exact stp_w (stp_of (sim_image 0 (Or.inl rfl)) (fr_H_image 0) (fr_M_image 0) (by decide) (by decide) (by decide) (by decide) s hs) hJ
  · simp only [if_neg h]
    exact stp_w (stp_of (sim_image 1 (Or.inr rfl)) (fr_H_image 1) (fr_M_image 1) (by decide) (by decide) (by decide) (by decide) s hs) hJ
theorem law_36 {J : Sg → Option (Int32 × Sg)} {xs : Nat → Int32} {n : Nat} {u : Int32} {s : Sg} {Q : Int32 × Sg → Prop} (hg : gdo n u) (hs : Inv s s) (hJ : ∀ s2, Inv s2 s2 → W1 (J s2) Q) : W1 (fL_36 J xs n u s) Q := by
  obtain ⟨g1, g2, g3, g4, g5⟩ := hg
  unfold fL_36
  simp only [g1, g2, g3, g4, g5]
  exact stp_w (stp_of (sim_look _) (fr_H_look _) (fr_M_look _) (by decide) (by decide) (by decide) (by decide) s hs) hJ
theorem gdo_of {n j : Nat} (h : 6 * j + 6 ≤ n) (hn : n ≤ 3072) : gdo n (nI (6 * j)) := by
  have g : ∀ i, i < 6 → ∀ {R : Type} (f : Option R), gd (nI (6 * j) + nI i) n f = f := fun i hi R f => by
    rw [nI_add]
    exact gd_n _ (by omega) (by omega)
  exact ⟨g 1 (by decide), g 2 (by decide), g 3 (by decide), g 4 (by decide), g 5 (by decide)⟩
theorem law_one {J : Sg → Option (Int32 × Sg)} {xs : Nat → Int32} {n : Nat} {u : Int32} {s : Sg} {Q : Int32 × Sg → Prop} (c : Int32) (hg : gdo n u) (hs : Inv s s) (hJ : ∀ s2, Inv s2 s2 → W1 (J s2) Q) : W1 (if c = 0 then (fL_0 J xs n u s) else (if c = 1 then (fL_1 J xs n u s) else (if c = 2 then (fL_2 J xs n u s) else (if c = 3 then (fL_3 J xs n u s) else (if c = 4 then (fL_4 J xs n u s) else (if c = 5 then (fL_5 J xs n u s) else (if c = 6 then (fL_6 J xs n u s) else (if c = 7 then (fL_7 J xs n u s) else (if c = 8 then (fL_8 J xs n u s) else (if c = 9 then (fL_9 J xs n u s) else (if c = 10 then (fL_10 J xs n u s) else (if c = 11 then (fL_11 J xs n u s) else (if c = 12 then (fL_12 J xs n u s) else (if c = 13 then (fL_13 J xs n u s) else (if c = 14 then (fL_14 J xs n u s) else (if c = 15 then (fL_15 J xs n u s) else (if c = 16 then (fL_16 J xs n u s) else (if c = 17 then (fL_17 J xs n u s) else (if c = 18 then (fL_18 J xs n u s) else (if c = 19 then (fL_19 J xs n u s) else (if c = 20 then (fL_20 J xs n u s) else (if c = 21 then (fL_21 J xs n u s) else (if c = 22 then (fL_22 J xs n u s) else (if c = 23 then (fL_23 J xs n u s) else (if c = 24 then (fL_24 J xs n u s) else (if c = 25 then (fL_25 J xs n u s) else (if c = 26 then (fL_26 J xs n u s) else (if c = 27 then (fL_27 J xs n u s) else (if c = 28 then (fL_28 J xs n u s) else (if c = 29 then (fL_29 J xs n u s) else (if c = 30 then (fL_30 J xs n u s) else (if c = 31 then (fL_31 J xs n u s) else (if c = 32 then (fL_32 J xs n u s) else (if c = 33 then (fL_33 J xs n u s) else (if c = 34 then (fL_34 J xs n u s) else (if c = 35 then (fL_35 J xs n u s) else (if c = 36 then (fL_36 J xs n u s) else (J s)))))))))))))))))))))))))))))))))))))) Q := by
  refine w1_if (fun _ => law_0 hg hs hJ) (fun _ => ?_)
  refine w1_if (fun _ => law_1 hg hs hJ) (fun _ => ?_)
  refine w1_if (fun _ => law_2 hg hs hJ) (fun _ => ?_)
  refine w1_if (fun _ => law_3 hg hs hJ) (fun _ => ?_)
  refine w1_if (fun _ => law_4 hg hs hJ) (fun _ => ?_)
  refine w1_if (fun _ => law_5 hg hs hJ) (fun _ => ?_)
  refine w1_if (fun _ => law_6 hg hs hJ) (fun _ => ?_)
  refine w1_if (fun _ => law_7 hg hs hJ) (fun _ => ?_)
  refine w1_if (fun _ => law_8 hg hs hJ) (fun _ => ?_)
  refine w1_if (fun _ => law_9 hg hs hJ) (fun _ => ?_)
  refine w1_if (fun _ => law_10 hg hs hJ) (fun _ => ?_)
  refine w1_if (fun _ => law_11 hg hs hJ) (fun _ => ?_)
  refine w1_if (fun _ => law_12 hg hs hJ) (fun _ => ?_)
  refine w1_if (fun _ => law_13 hg hs hJ) (fun _ => ?_)
  refine w1_if (fun _ => law_14 hg hs hJ) (fun _ => ?_)
  refine w1_if (fun _ => law_15 hg hs hJ) (fun _ => ?_)
  refine w1_if (fun _ => law_16 hg hs hJ) (fun _ => ?_)
  refine w1_if (fun _ => law_17 hg hs hJ) (fun _ => ?_)
  refine w1_if (fun _ => law_18 hg hs hJ) (fun _ => ?_)
  refine w1_if (fun _ => law_19 hg hs hJ) (fun _ => ?_)
  refine w1_if (fun _ => law_20 hg hs hJ) (fun _ => ?_)
  refine w1_if (fun _ => law_21 hg hs hJ) (fun _ => ?_)
  refine w1_if (fun _ => law_22 hg hs hJ) (fun _ => ?_)
  refine w1_if (fun _ => law_23 hg hs hJ) (fun _ => ?_)
  refine w1_if (fun _ => law_24 hg hs hJ) (fun _ => ?_)
  refine w1_if (fun _ => law_25 hg hs hJ) (fun _ => ?_)
  refine w1_if (fun _ => law_26 hg hs hJ) (fun _ => ?_)
  refine w1_if (fun _ => law_27 hg hs hJ) (fun _ => ?_)
  refine w1_if (fun _ => law_28 hg hs hJ) (fun _ => ?_)
  refine w1_if (fun _ => law_29 hg hs hJ) (fun _ => ?_)
  refine w1_if (fun _ => law_30 hg hs hJ) (fun _ => ?_)
  refine w1_if (fun _ => law_31 hg hs hJ) (fun _ => ?_)
  refine w1_if (fun _ => law_32 hg hs hJ) (fun _ => ?_)
  refine w1_if (fun _ => law_33 hg hs hJ) (fun _ => ?_)
  refine w1_if (fun _ => law_34 hg hs hJ) (fun _ => ?_)
  refine w1_if (fun _ => law_35 hg hs hJ) (fun _ => ?_)
  refine w1_if (fun _ => law_36 hg hs hJ) (fun _ => ?_)
  exact hJ s hs
theorem law_all (hs0 : Inv sI sI) : PureClaim := by
  intro xs n hn
  have main : W1 (fL_law xs n sI) (fun z => z.1 = 1) := by
    unfold fL_law
    refine w1_lp (fun k v s => ∃ j, v = nI (6 * j) ∧ j + k = 600 ∧ 6 * j ≤ n + 6 ∧ Inv s s) ?_ FU 600 _ _ (FU_lt (by omega)) ⟨0, rfl, by omega, by omega, hs0⟩
    rintro q k v s ⟨j, rfl, hj, hjn, hs⟩ hq
    refine w1_if (fun _ => w1_s rfl) (fun g => ?_)
    have h6 : 6 * j + 6 ≤ n := by
      by_cases hn6 : 6 ≤ n
      · rw [show (6 : Int32) = nI 6 from rfl, pk_sub hn6, nI_ltI (by omega) (by omega)] at g
        omega
      · exfalso
        apply g
        have h1 : nI n - nI 6 < 0 := pk_sneg (by decide) (by omega)
        have h2 : (0 : Int32) ≤ nI (6 * j) := nI_le (a := 0) (by omega) (by omega)
        exact Int32.lt_of_lt_of_le h1 h2
    rw [gd_n _ (show 6 * j < n by omega) (by omega)]
    refine w1_j (fun (J : Sg → Option (Int32 × Sg)) => ∀ s2, Inv s2 s2 → W1 (J s2) (fun z => z.1 = 1)) (fun s2 hs2 => ?_) (fun J hJ => ?_)
    · rw [show (6 : Int32) = nI 6 from rfl, nI_add]
      exact hq (k - 1) _ _ (by omega) ⟨j + 1, by rw [Nat.mul_add], by omega, by omega, hs2⟩
    · exact law_one _ (gdo_of h6 hn) hs hJ
  obtain ⟨⟨r, τ⟩, e, h⟩ := main
  dsimp only at h
  subst h
  exact ⟨τ, e⟩
