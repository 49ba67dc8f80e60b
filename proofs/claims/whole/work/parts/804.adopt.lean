/-! texts that are adopted, of the class -/
theorem w1_fr {f : Option Sg} {Q : Sg → Prop} {Mo : List Nat} {Mf : List (Nat × Nat)} {s : Sg} (h : W1 f Q) (fr : fP prV Mo Mf s f) : W1 f (fun t => Q t ∧ ∀ o, o ∉ Mo → o ∉ Mf.map Prod.fst → t o = s o) := by
  obtain ⟨z, e, hz⟩ := h
  exact ⟨z, e, hz, fun o h1 h2 => frO (fr z e) o h1 h2⟩
theorem ad0_19_74 (s : Sg) : W1 (fTe_adopt 19 0 74 s) (fun t => (t 20 3 = s 75 3 ∧ t 21 3 = s 76 3 ∧ (∀ k, k < 64 → t 22 k = s 77 k) ∧ ∀ k, k < 400 → t 23 k = s 78 k) ∧ ∀ x, x ∉ [20, 21, 22, 23] → t x = s x) := by
  unfold fTe_adopt fLa_become
  rw [if_pos rfl, show hz_rf 19 0 = 20 from rfl, show hz_rf 74 0 = 75 from rfl, show hz_rf 20 0 = 21 from rfl, show hz_rf 75 0 = 76 from rfl, show hz_rf 20 1 = 23 from rfl, show hz_rf 75 1 = 78 from rfl]
  refine w1_bv (w1_bv (w1_m (w1_fr (e_tbec (o := 21) (q := 76) (ro := 22) (rq := 77) (l := 64) rfl rfl rfl rfl (by decide) (by decide) (by decide) s) (fr_Ta_become 21 76 s)) (fun s1 h1 => ?_)))
  obtain ⟨⟨x1, x2⟩, x3⟩ := h1
  have y1 : s1 78 = s 78 := x3 _ (by decide) (by decide)
  have y2 : s1 75 = s 75 := x3 _ (by decide) (by decide)
  rw [show cpy s1 78 400 0 23 400 0 400 = _ from e_cpy (n := 400) (l := 400) (by decide) (by decide), bv_s, bnd_e]
  refine w1_s (w1_s ⟨⟨?_, ?_, fun k hk => ?_, fun k hk => ?_⟩, fun x hx => ?_⟩)
  · rw [pt_s]
    simp only [rs, if_neg (show ¬ 75 = 23 by decide)]
    rw [y2]
  · rw [ptq _ _ _ (by decide)]
    simp only [rs, if_neg (show ¬ 21 = 23 by decide)]
    exact x1
  · rw [ptq _ _ _ (by decide)]
    simp only [rs, if_neg (show ¬ 22 = 23 by decide)]
    exact x2 k hk
  · rw [ptq _ _ _ (by decide)]
    simp only [rs, if_true, if_pos hk]
    rw [y1]
  · simp only [List.mem_cons, List.not_mem_nil, or_false, not_or] at hx
    rw [ptq _ _ _ hx.1]
    simp only [rs, if_neg hx.2.2.2]
    refine x3 x ?_ ?_
    · rw [show hz_rf 21 2 = 22 from rfl]
      simpa using hx.2.2.1
    · simpa using hx.2.1
theorem ad1_19_74 (s : Sg) : W1 (fTe_adopt 19 1 74 s) (fun t => (t 25 3 = s 80 3 ∧ ∀ k, k < 64 → t 26 k = s 81 k) ∧ ∀ x, x ∉ [25, 26] → t x = s x) := by
  unfold fTe_adopt
  rw [if_neg (by decide), if_pos rfl, show hz_rf 19 1 = 25 from rfl, show hz_rf 74 1 = 80 from rfl]
  refine w1_bv (w1_m (w1_fr (e_tbec (o := 25) (q := 80) (ro := 26) (rq := 81) (l := 64) rfl rfl rfl rfl (by decide) (by decide) (by decide) s) (fr_Ta_become 25 80 s)) (fun s1 h1 => w1_s ⟨h1.1, fun x hx => ?_⟩))
  simp only [List.mem_cons, List.not_mem_nil, or_false, not_or] at hx
  refine h1.2 x ?_ ?_
  · rw [show hz_rf 25 2 = 26 from rfl]
    simpa using hx.2
  · simpa using hx.1
theorem ad2_19_74 (s : Sg) : W1 (fTe_adopt 19 2 74 s) (fun t => (t 27 3 = s 82 3 ∧ ∀ k, k < 32 → t 28 k = s 83 k) ∧ ∀ x, x ∉ [27, 28] → t x = s x) := by
  unfold fTe_adopt
  rw [if_neg (by decide), if_neg (by decide), if_pos rfl, show hz_rf 19 2 = 27 from rfl, show hz_rf 74 2 = 82 from rfl]
  refine w1_bv (w1_m (w1_fr (e_tbec (o := 27) (q := 82) (ro := 28) (rq := 83) (l := 32) rfl rfl rfl rfl (by decide) (by decide) (by decide) s) (fr_Ta_become 27 82 s)) (fun s1 h1 => w1_s ⟨h1.1, fun x hx => ?_⟩))
  simp only [List.mem_cons, List.not_mem_nil, or_false, not_or] at hx
  refine h1.2 x ?_ ?_
  · rw [show hz_rf 27 2 = 28 from rfl]
    simpa using hx.2
  · simpa using hx.1
theorem ad3_19_74 (s : Sg) : W1 (fTe_adopt 19 3 74 s) (fun t => (t 19 4 = s 74 4 ∧ ∀ k, k < 20 → t 29 k = s 84 k) ∧ ∀ x, x ∉ [19, 29] → t x = s x) := by
  unfold fTe_adopt
  rw [if_neg (by decide), if_neg (by decide), if_neg (by decide), if_pos rfl, show hz_rf 19 3 = 29 from rfl, show hz_rf 74 3 = 84 from rfl, show cpy s 84 20 0 29 20 0 20 = _ from e_cpy (n := 20) (l := 20) (by decide) (by decide), bv_s, bnd_e]
  refine w1_s ⟨⟨?_, fun k hk => ?_⟩, fun x hx => ?_⟩
  · rw [pt_s]
    simp only [rs, if_neg (show ¬ 74 = 29 by decide)]
  · rw [ptq _ _ _ (by decide)]
    simp only [rs, if_true, if_pos hk]
  · simp only [List.mem_cons, List.not_mem_nil, or_false, not_or] at hx
    rw [ptq _ _ _ hx.1]
    simp only [rs, if_neg hx.2]
theorem ad0_74_19 (s : Sg) : W1 (fTe_adopt 74 0 19 s) (fun t => (t 75 3 = s 20 3 ∧ t 76 3 = s 21 3 ∧ (∀ k, k < 64 → t 77 k = s 22 k) ∧ ∀ k, k < 400 → t 78 k = s 23 k) ∧ ∀ x, x ∉ [75, 76, 77, 78] → t x = s x) := by
  unfold fTe_adopt fLa_become
  rw [if_pos rfl, show hz_rf 74 0 = 75 from rfl, show hz_rf 19 0 = 20 from rfl, show hz_rf 75 0 = 76 from rfl, show hz_rf 20 0 = 21 from rfl, show hz_rf 75 1 = 78 from rfl, show hz_rf 20 1 = 23 from rfl]
  refine w1_bv (w1_bv (w1_m (w1_fr (e_tbec (o := 76) (q := 21) (ro := 77) (rq := 22) (l := 64) rfl rfl rfl rfl (by decide) (by decide) (by decide) s) (fr_Ta_become 76 21 s)) (fun s1 h1 => ?_)))
  obtain ⟨⟨x1, x2⟩, x3⟩ := h1
  have y1 : s1 23 = s 23 := x3 _ (by decide) (by decide)
  have y2 : s1 20 = s 20 := x3 _ (by decide) (by decide)
  rw [show cpy s1 23 400 0 78 400 0 400 = _ from e_cpy (n := 400) (l := 400) (by decide) (by decide), bv_s, bnd_e]
  refine w1_s (w1_s ⟨⟨?_, ?_, fun k hk => ?_, fun k hk => ?_⟩, fun x hx => ?_⟩)
  · rw [pt_s]
    simp only [rs, if_neg (show ¬ 20 = 78 by decide)]
    rw [y2]
  · rw [ptq _ _ _ (by decide)]
    simp only [rs, if_neg (show ¬ 76 = 78 by decide)]
    exact x1
  · rw [ptq _ _ _ (by decide)]
    simp only [rs, if_neg (show ¬ 77 = 78 by decide)]
    exact x2 k hk
  · rw [ptq _ _ _ (by decide)]
    simp only [rs, if_true, if_pos hk]
    rw [y1]
  · simp only [List.mem_cons, List.not_mem_nil, or_false, not_or] at hx
    rw [ptq _ _ _ hx.1]
    simp only [rs, if_neg hx.2.2.2]
    refine x3 x ?_ ?_
    · rw [show hz_rf 76 2 = 77 from rfl]
      simpa using hx.2.2.1
    · simpa using hx.2.1
theorem ad1_74_19 (s : Sg) : W1 (fTe_adopt 74 1 19 s) (fun t => (t 80 3 = s 25 3 ∧ ∀ k, k < 64 → t 81 k = s 26 k) ∧ ∀ x, x ∉ [80, 81] → t x = s x) := by
  unfold fTe_adopt
  rw [if_neg (by decide), if_pos rfl, show hz_rf 74 1 = 80 from rfl, show hz_rf 19 1 = 25 from rfl]
  refine w1_bv (w1_m (w1_fr (e_tbec (o := 80) (q := 25) (ro := 81) (rq := 26) (l := 64) rfl rfl rfl rfl (by decide) (by decide) (by decide) s) (fr_Ta_become 80 25 s)) (fun s1 h1 => w1_s ⟨h1.1, fun x hx => ?_⟩))
  simp only [List.mem_cons, List.not_mem_nil, or_false, not_or] at hx
  refine h1.2 x ?_ ?_
  · rw [show hz_rf 80 2 = 81 from rfl]
    simpa using hx.2
  · simpa using hx.1
theorem ad2_74_19 (s : Sg) : W1 (fTe_adopt 74 2 19 s) (fun t => (t 82 3 = s 27 3 ∧ ∀ k, k < 32 → t 83 k = s 28 k) ∧ ∀ x, x ∉ [82, 83] → t x = s x) := by
  unfold fTe_adopt
  rw [if_neg (by decide), if_neg (by decide), if_pos rfl, show hz_rf 74 2 = 82 from rfl, show hz_rf 19 2 = 27 from rfl]
  refine w1_bv (w1_m (w1_fr (e_tbec (o := 82) (q := 27) (ro := 83) (rq := 28) (l := 32) rfl rfl rfl rfl (by decide) (by decide) (by decide) s) (fr_Ta_become 82 27 s)) (fun s1 h1 => w1_s ⟨h1.1, fun x hx => ?_⟩))
  simp only [List.mem_cons, List.not_mem_nil, or_false, not_or] at hx
  refine h1.2 x ?_ ?_
  · rw [show hz_rf 82 2 = 83 from rfl]
    simpa using hx.2
  · simpa using hx.1
theorem ad3_74_19 (s : Sg) : W1 (fTe_adopt 74 3 19 s) (fun t => (t 74 4 = s 19 4 ∧ ∀ k, k < 20 → t 84 k = s 29 k) ∧ ∀ x, x ∉ [74, 84] → t x = s x) := by
  unfold fTe_adopt
  rw [if_neg (by decide), if_neg (by decide), if_neg (by decide), if_pos rfl, show hz_rf 74 3 = 84 from rfl, show hz_rf 19 3 = 29 from rfl, show cpy s 29 20 0 84 20 0 20 = _ from e_cpy (n := 20) (l := 20) (by decide) (by decide), bv_s, bnd_e]
  refine w1_s ⟨⟨?_, fun k hk => ?_⟩, fun x hx => ?_⟩
  · rw [pt_s]
    simp only [rs, if_neg (show ¬ 19 = 84 by decide)]
  · rw [ptq _ _ _ (by decide)]
    simp only [rs, if_true, if_pos hk]
  · simp only [List.mem_cons, List.not_mem_nil, or_false, not_or] at hx
    rw [ptq _ _ _ hx.1]
    simp only [rs, if_neg hx.2]
theorem ad0_19_36 (s : Sg) : W1 (fTe_adopt 19 0 36 s) (fun t => (t 20 3 = s 37 3 ∧ t 21 3 = s 38 3 ∧ (∀ k, k < 64 → t 22 k = s 39 k) ∧ ∀ k, k < 400 → t 23 k = s 40 k) ∧ ∀ x, x ∉ [20, 21, 22, 23] → t x = s x) := by
  unfold fTe_adopt fLa_become
  rw [if_pos rfl, show hz_rf 19 0 = 20 from rfl, show hz_rf 36 0 = 37 from rfl, show hz_rf 20 0 = 21 from rfl, show hz_rf 37 0 = 38 from rfl, show hz_rf 20 1 = 23 from rfl, show hz_rf 37 1 = 40 from rfl]
  refine w1_bv (w1_bv (w1_m (w1_fr (e_tbec (o := 21) (q := 38) (ro := 22) (rq := 39) (l := 64) rfl rfl rfl rfl (by decide) (by decide) (by decide) s) (fr_Ta_become 21 38 s)) (fun s1 h1 => ?_)))
  obtain ⟨⟨x1, x2⟩, x3⟩ := h1
  have y1 : s1 40 = s 40 := x3 _ (by decide) (by decide)
  have y2 : s1 37 = s 37 := x3 _ (by decide) (by decide)
  rw [show cpy s1 40 400 0 23 400 0 400 = _ from e_cpy (n := 400) (l := 400) (by decide) (by decide), bv_s, bnd_e]
  refine w1_s (w1_s ⟨⟨?_, ?_, fun k hk => ?_, fun k hk => ?_⟩, fun x hx => ?_⟩)
  · rw [pt_s]
    simp only [rs, if_neg (show ¬ 37 = 23 by decide)]
    rw [y2]
  · rw [ptq _ _ _ (by decide)]
    simp only [rs, if_neg (show ¬ 21 = 23 by decide)]
    exact x1
  · rw [ptq _ _ _ (by decide)]
    simp only [rs, if_neg (show ¬ 22 = 23 by decide)]
    exact x2 k hk
  · rw [ptq _ _ _ (by decide)]
    simp only [rs, if_true, if_pos hk]
    rw [y1]
  · simp only [List.mem_cons, List.not_mem_nil, or_false, not_or] at hx
    rw [ptq _ _ _ hx.1]
    simp only [rs, if_neg hx.2.2.2]
    refine x3 x ?_ ?_
    · rw [show hz_rf 21 2 = 22 from rfl]
      simpa using hx.2.2.1
    · simpa using hx.2.1
theorem ad1_19_36 (s : Sg) : W1 (fTe_adopt 19 1 36 s) (fun t => (t 25 3 = s 42 3 ∧ ∀ k, k < 64 → t 26 k = s 43 k) ∧ ∀ x, x ∉ [25, 26] → t x = s x) := by
  unfold fTe_adopt
  rw [if_neg (by decide), if_pos rfl, show hz_rf 19 1 = 25 from rfl, show hz_rf 36 1 = 42 from rfl]
  refine w1_bv (w1_m (w1_fr (e_tbec (o := 25) (q := 42) (ro := 26) (rq := 43) (l := 64) rfl rfl rfl rfl (by decide) (by decide) (by decide) s) (fr_Ta_become 25 42 s)) (fun s1 h1 => w1_s ⟨h1.1, fun x hx => ?_⟩))
  simp only [List.mem_cons, List.not_mem_nil, or_false, not_or] at hx
  refine h1.2 x ?_ ?_
  · rw [show hz_rf 25 2 = 26 from rfl]
    simpa using hx.2
  · simpa using hx.1
theorem ad2_19_36 (s : Sg) : W1 (fTe_adopt 19 2 36 s) (fun t => (t 27 3 = s 44 3 ∧ ∀ k, k < 32 → t 28 k = s 45 k) ∧ ∀ x, x ∉ [27, 28] → t x = s x) := by
  unfold fTe_adopt
  rw [if_neg (by decide), if_neg (by decide), if_pos rfl, show hz_rf 19 2 = 27 from rfl, show hz_rf 36 2 = 44 from rfl]
  refine w1_bv (w1_m (w1_fr (e_tbec (o := 27) (q := 44) (ro := 28) (rq := 45) (l := 32) rfl rfl rfl rfl (by decide) (by decide) (by decide) s) (fr_Ta_become 27 44 s)) (fun s1 h1 => w1_s ⟨h1.1, fun x hx => ?_⟩))
  simp only [List.mem_cons, List.not_mem_nil, or_false, not_or] at hx
  refine h1.2 x ?_ ?_
  · rw [show hz_rf 27 2 = 28 from rfl]
    simpa using hx.2
  · simpa using hx.1
theorem ad3_19_36 (s : Sg) : W1 (fTe_adopt 19 3 36 s) (fun t => (t 19 4 = s 36 4 ∧ ∀ k, k < 20 → t 29 k = s 46 k) ∧ ∀ x, x ∉ [19, 29] → t x = s x) := by
  unfold fTe_adopt
  rw [if_neg (by decide), if_neg (by decide), if_neg (by decide), if_pos rfl, show hz_rf 19 3 = 29 from rfl, show hz_rf 36 3 = 46 from rfl, show cpy s 46 20 0 29 20 0 20 = _ from e_cpy (n := 20) (l := 20) (by decide) (by decide), bv_s, bnd_e]
  refine w1_s ⟨⟨?_, fun k hk => ?_⟩, fun x hx => ?_⟩
  · rw [pt_s]
    simp only [rs, if_neg (show ¬ 36 = 29 by decide)]
  · rw [ptq _ _ _ (by decide)]
    simp only [rs, if_true, if_pos hk]
  · simp only [List.mem_cons, List.not_mem_nil, or_false, not_or] at hx
    rw [ptq _ _ _ hx.1]
    simp only [rs, if_neg hx.2]
