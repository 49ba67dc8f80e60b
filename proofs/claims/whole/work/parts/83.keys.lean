/-! TEXT: the class finds a word -/
def CTp (s : Sg) (T : Nat → Nat) : Prop := ∀ k, k < 400 → s 32 k = nI (T k) ∧ T k ≤ 255
def kwd (T : Nat → Nat) (o p q k : Nat) : Prop := (∃ j, j < (kW o).length ∧ eqw T p q (wd (kj o j)) ∧ k = 256 + j) ∨ (k = 2 ∧ ∀ j, j < (kW o).length → ¬ eqw T p q (wd (kj o j)))
theorem c_sign {s : Sg} {T : Nat → Nat} (hT : CTp s T) {i : Nat} (hi : i < 400) : fTo_signAt (nI i) s = some (nI (T i), s) := by
  unfold fTo_signAt
  rw [if_neg (nI_pos (by omega)), if_neg (show ¬ (400 : Int32) ≤ nI i from nI_ge (b := 400) hi (by decide)), gd_n _ hi (by decide), ix_n (by omega), (hT i hi).1]
theorem stB_le : ∀ o, o < 5 → ∀ i, i < lenJS.getD o 0 → stB o i ≤ 255 := by decide +kernel
theorem c_stands {s : Sg} {T : Nat → Nat} (hT : CTp s T) {o st a b : Nat} (ho : o < 4) (hb : b ≤ 400) (hab : a ≤ b) (hl : st + (b - a) ≤ lenJS.getD o 0) : W1 (fTo_stands o (nI st) (nI a) (nI b) s) (fun z => z.2 = s ∧ ((z.1 = 1 ∧ ∀ i, a + i < b → stB o (st + i) = T (a + i)) ∨ (z.1 = 0 ∧ ∃ i, a + i < b ∧ stB o (st + i) ≠ T (a + i)))) := by
  have hl85 := ln_le o (by omega)
  unfold fTo_stands
  refine w1_lp (fun k v t => t = s ∧ ∃ i, a + i + k = b ∧ v = nI (a + i) ∧ ∀ i', i' < i → stB o (st + i') = T (a + i')) ?_ FU (b - a) _ _ (FU_lt (by omega)) ⟨rfl, 0, by omega, rfl, fun i hi => by omega⟩
  rintro q k v t ⟨rfl, i, hi, rfl, heq⟩ hq
  refine w1_if (fun g => ?_) (fun g => ?_)
  · rw [nI_leI (by omega) (by omega)] at g
    rw [gb_1]
    exact w1_s ⟨rfl, Or.inl ⟨rfl, fun i' h => heq i' (by omega)⟩⟩
  · rw [nI_leI (by omega) (by omega)] at g
    rw [nI_add, pk_sub (by omega), show st + (a + i) - a = st + i by omega, if_neg (nI_pos (by omega)), e_sLen, bi_s, if_neg (show ¬ nI (lenJS.getD o 0) ≤ nI (st + i) by rw [nI_leI (by omega) (by omega)]; omega), e_chAt (by omega) (by omega), bi_s, c_sign hT (by omega), bi_s]
    refine w1_if (fun g2 => ?_) (fun g2 => ?_)
    · have := stB_le o (by omega) (st + i) (by omega)
      have g2 : stB o (st + i) = T (a + i) := nI_inj (by omega) (by have := (hT (a + i) (by omega)).2; omega) g2
      rw [nI_1]
      refine hq (k - 1) _ _ (by omega) ⟨rfl, i + 1, by omega, by rw [Nat.add_assoc], fun i' hi' => ?_⟩
      by_cases e : i' = i
      · rw [e]; exact g2
      · exact heq i' (by omega)
    · rw [gb_0]
      exact w1_s ⟨rfl, Or.inr ⟨rfl, i, by omega, fun e => g2 (by rw [e])⟩⟩
theorem c_key {s : Sg} {T : Nat → Nat} (hT : CTp s T) {o a b : Nat} (ho : o < 4) (hb : b ≤ 400) (hab : a < b) : W1 (fTo_keywordKind o (nI a) (nI b) s) (fun z => z.2 = s ∧ ∃ k, z.1 = nI k ∧ kwd T o a b k) := by
  have hl85 := ln_le o (by omega)
  obtain ⟨n1, n2, n3⟩ := kw_ne o ho
  unfold fTo_keywordKind
  refine w1_lp (fun k v t => t = s ∧ ∃ j i, i + k = lenJS.getD o 0 + 1 ∧ v = (nI j, nI (ss o j), nI i) ∧ (∀ j', j' < j → ¬ eqw T a b (wd (kj o j'))) ∧ ((j < (kW o).length ∧ ss o j ≤ i ∧ i ≤ ss o j + ln (kj o j)) ∨ (j = (kW o).length ∧ i = lenJS.getD o 0 + 1))) ?_ FU (lenJS.getD o 0 + 1) _ _ (FU_lt (by omega)) ⟨rfl, 0, 0, by omega, by rw [n3]; rfl, fun j hj => by omega, Or.inl ⟨n1, by omega, by omega⟩⟩
  rintro q k v t ⟨rfl, j, i, hi, rfl, hno, hc⟩ hq
  dsimp only
  rw [e_sLen, bi_s]
  refine w1_if (fun g => ?_) (fun g => ?_)
  · rw [nI_ltI (by omega) (by omega)] at g
    rcases hc with ⟨h1, h2, h3⟩ | ⟨h1, h2⟩
    · have := (kw_ok o ho j h1).2.1
      omega
    · subst h1
      exact w1_s ⟨rfl, 2, rfl, Or.inr ⟨rfl, hno⟩⟩
  rw [nI_ltI (by omega) (by omega)] at g
  obtain ⟨h1, h2, h3⟩ : j < (kW o).length ∧ ss o j ≤ i ∧ i ≤ ss o j + ln (kj o j) := by
    rcases hc with h | ⟨_, h⟩
    · exact h
    · omega
  obtain ⟨x1, x2, x3, x4, x5, x6⟩ := kw_ok o ho j h1
  rw [e_sLen, bi_s]
  refine w1_j (fun (J : Int32 → Int32 → Sg → Option (Int32 × Sg)) => ∀ x y t, J x y t = q (x, y, nI i + 1) t) (fun _ _ _ => rfl) (fun j77 h77 => ?_)
  refine w1_j (fun (J : Sg → Option (Int32 × Sg)) => i = ss o j + ln (kj o j) → W1 (J t) (fun z => z.2 = t ∧ ∃ k, z.1 = nI k ∧ kwd T o a b k)) ?_ (fun j38 h38 => ?_)
  · intro he
    refine w1_j (fun (J : Sg → Option (Int32 × Sg)) => (¬ eqw T a b (wd (kj o j))) → W1 (J t) (fun z => z.2 = t ∧ ∃ k, z.1 = nI k ∧ kwd T o a b k)) ?_ (fun j68 h68 => ?_)
    · intro hne
      rw [h77, nI_1, nI_1]
      refine hq (k - 1) _ _ (by omega) ⟨rfl, j + 1, i + 1, by omega, by rw [x3, he], fun j' hj' => ?_, ?_⟩
      · by_cases e : j' = j
        · rw [e]; exact hne
        · exact hno j' (by omega)
      · by_cases hl : j + 1 = (kW o).length
        · exact Or.inr ⟨hl, by rw [he, x4.mpr hl]⟩
        · exact Or.inl ⟨by omega, by omega, by omega⟩
    · refine w1_if (fun g2 => ?_) (fun g2 => ?_)
      · rw [pk_sub h2, pk_sub (by omega)] at g2
        have g2 : i - ss o j = b - a := nI_inj (by omega) (by omega) g2
        refine w1_bi (w1_m (c_stands hT ho hb (by omega) (show ss o j + (b - a) ≤ lenJS.getD o 0 by omega)) (fun z hz => ?_))
        obtain ⟨r, t2⟩ := z
        obtain ⟨e1, e2⟩ := hz
        dsimp only at e1 e2 ⊢
        subst e1
        rcases e2 with ⟨rfl, e2⟩ | ⟨rfl, i2, e2, e3⟩
        · rw [if_neg (by decide), show (256 : Int32) = nI 256 from rfl, nI_add]
          refine w1_s ⟨rfl, 256 + j, rfl, Or.inl ⟨j, h1, ⟨?_, fun i3 hi3 => ?_⟩, rfl⟩⟩
          · show b = a + ln (kj o j)
            omega
          · rw [← e2 i3 (by have : i3 < ln (kj o j) := hi3; omega)]
            exact (x6 i3 hi3).1
        · rw [if_pos rfl]
          refine h68 (fun hh => e3 ?_)
          have hl2 : i2 < ln (kj o j) := by omega
          rw [(x6 i2 hl2).1, hh.2 i2 hl2]
      · refine h68 (fun hh => g2 ?_)
        have : b = a + ln (kj o j) := hh.1
        rw [pk_sub h2, pk_sub (by omega)]
        congr 1
        omega
  · refine w1_if (fun g2 => ?_) (fun g2 => ?_)
    · have g2 : i = lenJS.getD o 0 := nI_inj (by omega) (by omega) g2
      exact h38 (by omega)
    · have g2 : i ≠ lenJS.getD o 0 := fun e => g2 (by rw [e])
      rw [e_chAt (by omega) (by omega), bi_s]
      have hle := stB_le o (by omega) i (by omega)
      refine w1_if (fun g3 => ?_) (fun g3 => ?_)
      · have g3 : stB o i = 32 := nI_inj (by omega) (by decide) g3
        refine h38 ?_
        by_cases hh : i < ss o j + ln (kj o j)
        · obtain ⟨y1, y2⟩ := x6 (i - ss o j) (by omega)
          rw [show ss o j + (i - ss o j) = i by omega] at y1
          rw [← y1] at y2
          exact absurd g3 (isL_32 y2)
        · omega
      · rw [h77, nI_1]
        have : i < ss o j + ln (kj o j) := by
          by_cases hh : i < ss o j + ln (kj o j)
          · exact hh
          · have he : i = ss o j + ln (kj o j) := by omega
            have hlt : j + 1 < (kW o).length := by
              by_cases hl : j + 1 = (kW o).length
              · exact absurd (he.trans (x4.mpr hl)) g2
              · omega
            rw [he, x5 hlt] at g3
            exact absurd rfl g3
        exact hq (k - 1) _ _ (by omega) ⟨rfl, j, i + 1, by omega, rfl, hno, Or.inl ⟨h1, by omega, by omega⟩⟩
