/-! TEXT: the words, in the reference's list and in the class's strings -/
def wW : List (List Nat) := [[99, 108, 105, 109, 98, 115], [116, 105, 114, 101, 115], [115, 97, 121, 115], [119, 104, 101, 110], [111, 114], [97, 110, 100], [110, 111, 116], [118, 111, 105, 99, 101], [108, 101, 103, 115], [112, 97, 114, 116, 121], [98, 114, 101, 97, 116, 104], [104, 101, 105, 103, 104, 116], [119, 111, 114, 100], [108, 101, 102, 116], [111, 116, 104, 101, 114, 115], [100, 97, 121], [111, 110], [112, 101, 114, 115, 111, 110], [119, 105, 116, 104], [97, 116], [102, 114, 111, 109], [115, 101, 116], [97, 110, 115, 119, 101, 114, 115]]
def wd (j : Nat) : List Nat := wW.getD j []
def ln (j : Nat) : Nat := (wd j).length
/-- where the space before the word j stands in the reference's list -/
def wps : List Nat := [0, 7, 13, 18, 23, 26, 30, 34, 40, 45, 51, 58, 65, 70, 75, 82, 86, 89, 96, 101, 104, 109, 113, 121]
def ps (j : Nat) : Nat := wps.getD j 0
theorem wd_ok : ∀ j, j < 23 → ps (j + 1) = ps j + 1 + ln j ∧ ps (j + 1) ≤ 121 ∧ wdL.getD (ps (j + 1)) 0 = 32 ∧ ∀ i, i < ln j → wdL.getD (ps j + 1 + i) 0 = (wd j).getD i 0 ∧ isL ((wd j).getD i 0) := by decide +kernel
theorem ps_23 : ∀ j, j < 23 → ps j < 121 := by decide
/-- the words of a text -/
def kW : Nat → List Nat
  | 0 => [0, 1, 2, 3, 4, 5, 6, 7, 8, 9, 10, 11, 12, 13, 14, 15]
  | 1 => [16, 17, 18, 19]
  | 2 => [20, 21]
  | _ => [12, 22]
def kj (o j : Nat) : Nat := (kW o).getD j 0
/-- where the word j begins in the class's string o -/
def ss (o j : Nat) : Nat := (((List.range j).map fun i => ln (kj o i) + 1)).sum
theorem kw_a : ∀ o, o < 4 → ∀ j, j < (kW o).length → kj o j < 23 ∧ ss o j + ln (kj o j) ≤ lenJS.getD o 0 ∧ ss o (j + 1) = ss o j + ln (kj o j) + 1 := by decide +kernel
theorem kw_b : ∀ o, o < 4 → ∀ j, j < (kW o).length → (ss o j + ln (kj o j) = lenJS.getD o 0 ↔ j + 1 = (kW o).length) := by decide +kernel
theorem kw_c : ∀ o, o < 4 → ∀ j, j < (kW o).length → j + 1 < (kW o).length → stB o (ss o j + ln (kj o j)) = 32 := by decide +kernel
theorem kw_d : ∀ o, o < 4 → ∀ j, j < (kW o).length → ∀ i, i < ln (kj o j) → stB o (ss o j + i) = (wd (kj o j)).getD i 0 ∧ isL ((wd (kj o j)).getD i 0) := by decide +kernel
theorem kw_ok (o : Nat) (ho : o < 4) (j : Nat) (hj : j < (kW o).length) : kj o j < 23 ∧ ss o j + ln (kj o j) ≤ lenJS.getD o 0 ∧ ss o (j + 1) = ss o j + ln (kj o j) + 1 ∧ (ss o j + ln (kj o j) = lenJS.getD o 0 ↔ j + 1 = (kW o).length) ∧ (j + 1 < (kW o).length → stB o (ss o j + ln (kj o j)) = 32) ∧ ∀ i, i < ln (kj o j) → stB o (ss o j + i) = (wd (kj o j)).getD i 0 ∧ isL ((wd (kj o j)).getD i 0) :=
  ⟨(kw_a o ho j hj).1, (kw_a o ho j hj).2.1, (kw_a o ho j hj).2.2, kw_b o ho j hj, kw_c o ho j hj, kw_d o ho j hj⟩
theorem kw_ne : ∀ o, o < 4 → 0 < (kW o).length ∧ (kW o).length ≤ 16 ∧ ss o 0 = 0 := by decide
def eqw (T : Nat → Nat) (p q : Nat) (w : List Nat) : Prop := q = p + w.length ∧ ∀ i, i < w.length → T (p + i) = w.getD i 0
def TP (s : Sg) (T : Nat → Nat) (n : Nat) : Prop := n ≤ 400 ∧ s 102 12 = nI n ∧ (∀ k, k < 400 → s 110 k = nI (T k) ∧ T k ≤ 255) ∧ ∀ k, k < 122 → s 111 k = nI (wdL.getD k 0)
theorem wdL_le : ∀ k, k < 122 → wdL.getD k 0 ≤ 255 := by decide
theorem isL_32 {c : Nat} (h : isL c) : c ≠ 32 := by
  intro e
  subst e
  exact absurd h (by decide)
/-- the reference finds a word -/
theorem m_word {s : Sg} {T : Nat → Nat} {n a b : Nat} (hT : TP s T n) (hb : b ≤ 400) (hL : ∀ j, a ≤ j → j < b → isL (T j)) (hab : a < b) : W1 (fM_wordAt (nI a) (nI b) s) (fun z => z.2 = s ∧ ((∃ j, j < 23 ∧ z.1 = nI j ∧ eqw T a b (wd j)) ∨ (z.1 = -1 ∧ ∀ j, j < 23 → ¬ eqw T a b (wd j)))) := by
  obtain ⟨hn, h12, hT, hw⟩ := hT
  unfold fM_wordAt
  refine w1_lp (fun k v t => t = s ∧ ∃ j, j + k = 23 ∧ v = (nI j - 1, nI (ps j)) ∧ ∀ i, i < j → ¬ eqw T a b (wd i)) ?_ FU 23 _ _ (FU_lt (by omega)) ⟨rfl, 0, rfl, rfl, fun i hi => by omega⟩
  rintro q k v t ⟨rfl, j, hj, rfl, hno⟩ hq
  dsimp only
  refine w1_if (fun g => ?_) (fun g => ?_)
  · refine w1_s ⟨rfl, Or.inr ⟨rfl, fun i hi => hno i ?_⟩⟩
    by_cases hj2 : j < 23
    · have := ps_23 j hj2
      exact absurd g (by rw [show (121 : Int32) = nI 121 from rfl, nI_leI (by decide) (by omega)]; omega)
    · omega
  have hj23 : j < 23 := by
    by_cases hj2 : j < 23
    · exact hj2
    · have : j = 23 := by omega
      subst this
      exact absurd (by decide) g
  obtain ⟨w1, w2, w3, w4⟩ := wd_ok j hj23
  have e1 : nI (ps j) + 1 = nI (ps j + 1) := nI_1 _
  rw [show nI j - 1 + 1 = nI j by rw [Int32.sub_add_cancel]] 
  refine w1_lp (fun k v t' => t' = t ∧ ∃ i, i + k = ln j ∧ v = nI i ∧ a + i ≤ b ∧ ∀ i', i' < i → T (a + i') = (wd j).getD i' 0) ?_ FU (ln j) _ _ (FU_lt (by omega)) ⟨rfl, 0, by omega, rfl, by omega, fun i hi => by omega⟩
  rintro q2 k2 v t' ⟨rfl, i, hi, rfl, hab2, heq⟩ hq2
  rw [e1, nI_add, nI_add]
  refine w1_j (fun (J : Sg → Option (Int32 × Sg)) => (a + i < b → i < ln j → T (a + i) ≠ (wd j).getD i 0) → W1 (J t') (fun z => z.2 = t' ∧ ((∃ j, j < 23 ∧ z.1 = nI j ∧ eqw T a b (wd j)) ∨ (z.1 = -1 ∧ ∀ j, j < 23 → ¬ eqw T a b (wd j))))) ?_ (fun j60 h60 => ?_)
  · intro hmis
    refine w1_j (fun (J : Sg → Option (Int32 × Sg)) => (¬ eqw T a b (wd j)) → W1 (J t') (fun z => z.2 = t' ∧ ((∃ j, j < 23 ∧ z.1 = nI j ∧ eqw T a b (wd j)) ∨ (z.1 = -1 ∧ ∀ j, j < 23 → ¬ eqw T a b (wd j))))) ?_ (fun j87 next => ?_)
    · intro hne
      refine w1_lp (fun k v t => t = t' ∧ ∃ i, i + k = ln j ∧ v = nI (ps j + 1 + i)) ?_ FU (ln j) _ _ (FU_lt (by omega)) ⟨rfl, 0, by omega, rfl⟩
      rintro q3 k3 v t3 ⟨rfl, i3, hi3, rfl⟩ hq3
      rw [gd_n _ (show ps j + 1 + i3 < 122 by omega) (by decide), ix_n (by omega), hw _ (by omega)]
      refine w1_if (fun g3 => ?_) (fun g3 => ?_)
      · have g3 : wdL.getD (ps j + 1 + i3) 0 = 32 := nI_inj (by have := wdL_le (ps j + 1 + i3) (by omega); omega) (by decide) g3
        have : i3 = ln j := by
          by_cases hh : i3 < ln j
          · obtain ⟨x1, x2⟩ := w4 i3 hh
            rw [x1] at g3
            exact absurd g3 (isL_32 x2)
          · omega
        subst this
        refine hq (k - 1) _ _ (by omega) ⟨rfl, j + 1, by omega, ?_, fun i hi => ?_⟩
        · rw [w1, ← nI_1, Int32.add_sub_cancel]
        · by_cases hij : i = j
          · subst hij; exact hne
          · exact hno i (by omega)
      · have : i3 < ln j := by
          by_cases hh : i3 < ln j
          · exact hh
          · have : i3 = ln j := by omega
            subst this
            rw [← w1, w3] at g3
            exact absurd rfl g3
        rw [nI_1]
        exact hq3 (k3 - 1) _ _ (by omega) ⟨rfl, i3 + 1, by omega, rfl⟩
    refine w1_if (fun g2 => ?_) (fun g2 => ?_)
    · have g2 : a + i = b := nI_inj (by omega) (by omega) g2
      rw [gd_n _ (show ps j + 1 + i < 122 by omega) (by decide), ix_n (by omega), hw _ (by omega)]
      refine w1_if (fun g3 => ?_) (fun g3 => ?_)
      · have g3 : wdL.getD (ps j + 1 + i) 0 = 32 := nI_inj (by have := wdL_le (ps j + 1 + i) (by omega); omega) (by decide) g3
        have : i = ln j := by
          by_cases hh : i < ln j
          · obtain ⟨x1, x2⟩ := w4 i hh
            rw [x1] at g3
            exact absurd g3 (isL_32 x2)
          · omega
        subst this
        exact w1_s ⟨rfl, Or.inl ⟨j, hj23, rfl, g2.symm, heq⟩⟩
      · refine next (fun he => ?_)
        have : i = ln j := by
          have := he.1
          unfold ln
          omega
        subst this
        rw [← w1, w3] at g3
        exact absurd rfl g3
    · have g2 : a + i ≠ b := fun e => g2 (by rw [e])
      refine next (fun he => ?_)
      have hb2 := he.1
      have : i < ln j := by
        unfold ln
        omega
      exact hmis (by omega) this (he.2 i this)
  refine w1_if (fun g => ?_) (fun g => ?_)
  · rw [nI_leI (by omega) (by omega)] at g
    exact h60 (fun h => by omega)
  · rw [nI_leI (by omega) (by omega)] at g
    rw [gd_n _ (show ps j + 1 + i < 122 by omega) (by decide), gd_n _ (show a + i < 400 by omega) (by decide), ix_n (show ps j + 1 + i < 2 ^ 31 by omega), ix_n (show a + i < 2 ^ 31 by omega), hw _ (by omega), (hT _ (by omega)).1]
    refine w1_if (fun g2 => ?_) (fun g2 => ?_)
    · have g2 : wdL.getD (ps j + 1 + i) 0 = T (a + i) := nI_inj (by have := wdL_le (ps j + 1 + i) (by omega); omega) (by have := (hT (a + i) (by omega)).2; omega) g2
      have : i < ln j := by
        by_cases hh : i < ln j
        · exact hh
        · have : i = ln j := by omega
          subst this
          rw [← w1, w3] at g2
          exact absurd g2.symm (isL_32 (hL _ (by omega) (by omega)))
      rw [nI_1]
      refine hq2 (k2 - 1) _ _ (by omega) ⟨rfl, i + 1, by omega, rfl, by omega, fun i' hi' => ?_⟩
      by_cases hii : i' = i
      · subst hii
        rw [← g2]
        exact (w4 i' this).1
      · exact heq i' (by omega)
    · exact h60 (fun _ hl e => g2 (by rw [(w4 i hl).1, e]))
