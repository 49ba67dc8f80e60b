/-! TEXT: signs, words, tokens -/
abbrev Tk : Type := Nat × Nat × Nat
abbrev isL (c : Nat) : Prop := (97 ≤ c ∧ c ≤ 122) ∨ (65 ≤ c ∧ c ≤ 90)
abbrev isD (c : Nat) : Prop := 48 ≤ c ∧ c ≤ 57
abbrev isB (c : Nat) : Prop := c = 32 ∨ c = 10
abbrev isS (c : Nat) : Prop := c ∈ [59, 43, 45, 42, 47, 40, 41, 60, 61, 62]
theorem e_toL {c : Nat} (h : c < 2 ^ 31) (s : Sg) : fTo_isLetter (nI c) s = some (if isL c then 1 else 0, s) := by
  unfold fTo_isLetter
  rw [e_within, bi_s, bnd_e, show (97 : Int32) = nI 97 from rfl, show (122 : Int32) = nI 122 from rfl, wi_n h (by decide) (by decide)]
  by_cases h1 : 97 ≤ c ∧ c ≤ 122
  · rw [if_pos h1, if_neg (by decide)]
    dsimp only
    rw [gb_1, if_pos (Or.inl h1)]
  · rw [if_neg h1, if_pos rfl, e_within, bi_s, show (65 : Int32) = nI 65 from rfl, show (90 : Int32) = nI 90 from rfl, wi_n h (by decide) (by decide)]
    by_cases h2 : 65 ≤ c ∧ c ≤ 90
    · rw [if_pos h2, if_neg (by decide)]
      dsimp only
      rw [gb_1, if_pos (Or.inr h2)]
    · rw [if_neg h2, if_pos rfl, gb_0, if_neg (fun h => h.elim h1 h2)]
theorem e_mL {c : Nat} (h : c < 2 ^ 31) (s : Sg) : fM_isLetter (nI c) s = some (if isL c then 1 else 0, s) := by
  unfold fM_isLetter
  rw [e_isIn, bi_s, bnd_e, show (97 : Int32) = nI 97 from rfl, show (122 : Int32) = nI 122 from rfl, wi_n h (by decide) (by decide)]
  by_cases h1 : 97 ≤ c ∧ c ≤ 122
  · rw [if_pos h1, if_neg (by decide)]
    dsimp only
    rw [gb_1, if_pos (Or.inl h1)]
  · rw [if_neg h1, if_pos rfl, e_isIn, bi_s, show (65 : Int32) = nI 65 from rfl, show (90 : Int32) = nI 90 from rfl, wi_n h (by decide) (by decide)]
    by_cases h2 : 65 ≤ c ∧ c ≤ 90
    · rw [if_pos h2, if_neg (by decide)]
      dsimp only
      rw [gb_1, if_pos (Or.inr h2)]
    · rw [if_neg h2, if_pos rfl, gb_0, if_neg (fun h => h.elim h1 h2)]
theorem e_mLn (s : Sg) : fM_isLetter (-1) s = some (0, s) := by
  unfold fM_isLetter
  rw [e_isIn, bi_s, bnd_e, show wi (-1) 97 122 = 0 by decide, if_pos rfl, e_isIn, bi_s, show wi (-1) 65 90 = 0 by decide, if_pos rfl, gb_0]
theorem e_toD {c : Nat} (h : c < 2 ^ 31) (s : Sg) : fTo_isDigit (nI c) s = some (if isD c then 1 else 0, s) := by
  unfold fTo_isDigit
  rw [e_within, bi_s, gb_wi, show (48 : Int32) = nI 48 from rfl, show (57 : Int32) = nI 57 from rfl, wi_n h (by decide) (by decide)]
theorem e_mD {c : Nat} (h : c < 2 ^ 31) (s : Sg) : fM_isDigit (nI c) s = some (if isD c then 1 else 0, s) := by
  unfold fM_isDigit
  rw [e_isIn, bi_s, gb_wi, show (48 : Int32) = nI 48 from rfl, show (57 : Int32) = nI 57 from rfl, wi_n h (by decide) (by decide)]
theorem e_mDn (s : Sg) : fM_isDigit (-1) s = some (0, s) := by
  unfold fM_isDigit
  rw [e_isIn, bi_s, gb_wi, show wi (-1) 48 57 = 0 by decide]
theorem e_toB {c : Nat} (h : c < 2 ^ 31) (s : Sg) : fTo_isBlank (nI c) s = some (if isB c then 1 else 0, s) := by
  unfold fTo_isBlank
  rw [bnd_e, show (32 : Int32) = nI 32 from rfl, show (10 : Int32) = nI 10 from rfl]
  by_cases h1 : c = 32
  · rw [if_pos (by rw [h1])]
    dsimp only
    rw [gb_1, if_pos (Or.inl h1)]
  · rw [if_neg (fun e => h1 (nI_inj h (by decide) e))]
    by_cases h2 : c = 10
    · rw [if_pos (by rw [h2])]
      dsimp only
      rw [gb_1, if_pos (Or.inr h2)]
    · rw [if_neg (fun e => h2 (nI_inj h (by decide) e)), gb_0, if_neg (fun h => h.elim h1 h2)]
theorem e_mS {c : Nat} (h : c ≤ 255) (s : Sg) : fM_isMarkSign (nI c) s = some (if isS c then 1 else 0, s) := by
  have hh : ∀ c, c ≤ 255 → (isS c ↔ (nI c = 59 ∨ nI c = 43 ∨ nI c = 45 ∨ nI c = 42 ∨ nI c = 47 ∨ nI c = 40 ∨ nI c = 41 ∨ nI c = 60 ∨ nI c = 61 ∨ nI c = 62)) := by decide +kernel
  have h := hh c h
  unfold fM_isMarkSign
  rw [bnd_e]
  by_cases g : isS c
  · rw [if_pos g]
    have h := h.mp g
    generalize nI c = x at h ⊢
    rcases h with rfl | rfl | rfl | rfl | rfl | rfl | rfl | rfl | rfl | rfl <;> rfl
  · rw [if_neg g]
    have h : ¬ (nI c = 59 ∨ nI c = 43 ∨ nI c = 45 ∨ nI c = 42 ∨ nI c = 47 ∨ nI c = 40 ∨ nI c = 41 ∨ nI c = 60 ∨ nI c = 61 ∨ nI c = 62) := fun x => g (h.mpr x)
    simp only [not_or] at h
    obtain ⟨x1, x2, x3, x4, x5, x6, x7, x8, x9, x10⟩ := h
    rw [if_neg x1, if_neg x2, if_neg x3, if_neg x4, if_neg x5, if_neg x6, if_neg x7, if_neg x8, if_neg x9, if_neg x10, gb_0]
/-! the class's own strings -/
def stB (o i : Nat) : Nat := ((bytJS.getD o []).getD i 0).toNatClampNeg
theorem stB_ok : ∀ o, o < 5 → ∀ i, i < lenJS.getD o 0 → chr ((sbt o (nI i)) &&& 255) = nI (stB o i) ∧ sbt o (nI i) = nI (stB o i) ∧ narrow .char (.int (nI (stB o i))) = .int (nI (stB o i)) := by decide +kernel
theorem ln_le : ∀ o, o < 5 → lenJS.getD o 0 ≤ 85 := by decide
theorem e_chAt {o i : Nat} (ho : o < 5) (hi : i < lenJS.getD o 0) (s : Sg) : fJ0_charAt_5068e o (nI i) s = some (nI (stB o i), s) := by
  obtain ⟨h1, _, h3⟩ := stB_ok o ho i hi
  have hl := ln_le o ho
  unfold fJ0_charAt_5068e fJ0_isLatin1_aae02 fJ1_charAt_3b067 fJ0_checkIndex_df160 fJ3_checkIndex_8e157
  rw [if_neg (by decide), if_pos rfl, gb_1, bi_s, if_neg (by decide), if_neg (nI_pos (by omega)), if_pos (nI_lt hi (by omega)), bi_s, bv_s, gd_n _ hi (by omega), h1]
  unfold gch
  rw [if_pos h3, bi_s, if_pos h3]
theorem e_sLen {o : Nat} (s : Sg) : fJ0_length_8abf5 o s = some (nI (lenJS.getD o 0), s) := by
  unfold fJ0_length_8abf5 fJ0_coder_7d493
  rw [if_neg (by decide), gby, if_pos (by decide), bi_s]
  congr 2
  have : ((0 : Int32) &&& 31) = 0 := by decide
  rw [this]
  have h0 : ∀ x : Int32, x >>> (0 : Int32) = x := by
    intro x
    apply Int32.toBitVec_inj.1
    show x.toBitVec.sshiftRight (((0 : Int32).toBitVec.smod 32).toNat) = x.toBitVec
    have : ((0 : Int32).toBitVec.smod 32).toNat = 0 := by decide
    rw [this]
    simp
  exact h0 _
theorem sg_ix : ∀ c, c ≤ 255 → (isS c ↔ ∃ j, j < 10 ∧ sbt 4 (nI j) = i8 (chr (nI c))) ∧ ¬ chr (nI c) < 0 ∧ ¬ 255 < chr (nI c) := by decide +kernel
theorem e_ixOf {c : Nat} (hc : c ≤ 255) (s : Sg) : ∃ r, fJ0_indexOf_0f7a4 4 (chr (nI c)) s = some (r, s) ∧ (r < 0 ↔ ¬ isS c) := by
  obtain ⟨h1, h2, h3⟩ := sg_ix c hc
  have main : W1 (fJ1_indexOfChar_4cfef 4 (chr (nI c)) 0 10 s) (fun z => z.2 = s ∧ (z.1 < 0 ↔ ¬ isS c)) := by
    unfold fJ1_indexOfChar_4cfef
    refine w1_lp (fun k v t => t = s ∧ ∃ i, i + k = 10 ∧ v = nI i ∧ ∀ j, j < i → ¬ sbt 4 (nI j) = i8 (chr (nI c))) ?_ FU 10 _ _ (FU_lt (by omega)) ⟨rfl, 0, rfl, rfl, fun j hj => by omega⟩
    rintro q k v t ⟨rfl, i, hi, rfl, hn⟩ hq
    rw [show (10 : Int32) = nI 10 from rfl]
    refine w1_if (fun g => ?_) (fun g => ?_)
    · rw [nI_leI (by decide) (by omega)] at g
      refine w1_s ⟨rfl, ?_⟩
      constructor
      · intro _ hs
        obtain ⟨j, hj, ej⟩ := h1.mp hs
        exact hn j (by omega) ej
      · intro _
        show (-1 : Int32) < 0
        decide
    · rw [nI_leI (by decide) (by omega)] at g
      rw [gd_n _ (show i < lenJS.getD 4 0 from (by omega : i < 10)) (by decide)]
      refine w1_if (fun e => ?_) (fun e => ?_)
      · refine w1_s ⟨rfl, ?_⟩
        constructor
        · intro h
          exact absurd h (nI_pos (by omega))
        · intro hs
          exact absurd (h1.mpr ⟨i, by omega, e⟩) hs
      · rw [nI_1]
        refine hq (k - 1) _ _ (by omega) ⟨rfl, i + 1, by omega, rfl, fun j hj => ?_⟩
        by_cases hji : j = i
        · rw [hji]; exact e
        · exact hn j (by omega)
  obtain ⟨⟨r, t⟩, e, e2, e3⟩ := main
  dsimp only at e2 e3
  subst e2
  refine ⟨r, ?_, e3⟩
  unfold fJ0_indexOf_0f7a4 fJ0_indexOf_7cf53 fJ0_isLatin1_aae02
  rw [if_neg (by decide), if_pos rfl, gb_1, bi_s, if_neg (by decide), e_sLen, bi_s]
  unfold fJ1_indexOf_4cfef fJ1_canEncode_9a6ad
  rw [if_neg h2, if_neg h3, gb_1, bi_s, if_neg (by decide), e_max, bi_s, e_min, bi_s, if_neg (show ¬ (0 : Int32) < 0 by decide), if_neg (Int32.lt_irrefl), if_pos (by decide)]
  rw [show nI (lenJS.getD 4 0) = 10 from rfl, e]
  rfl
