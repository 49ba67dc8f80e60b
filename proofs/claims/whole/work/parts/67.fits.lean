/-! sets of words that answer all of a set -/
def sbn (r t : Nat) : Nat := r &&& (1023 ^^^ t)
theorem sbn_b {r t : Nat} (hr : r < 1024) (q : Nat) : (sbn r t).testBit q = (r.testBit q && !t.testBit q) := by
  unfold sbn
  rw [Nat.testBit_and, Nat.testBit_xor]
  by_cases h : q < 10
  · have h1 : (1023 : Nat).testBit q = true := by
      rw [show (1023 : Nat) = 2 ^ 10 - 1 from rfl, Nat.testBit_two_pow_sub_one, decide_eq_true_iff]
      exact h
    rw [h1]
    simp
  · have h1 : r.testBit q = false := Nat.testBit_lt_two_pow (Nat.lt_of_lt_of_le hr (Nat.pow_le_pow_right (n := 2) (i := 10) (by decide) (by omega)))
    rw [h1]
    simp
theorem sbn_le (r t : Nat) : sbn r t ≤ r := Nat.and_le_left
theorem sbn_n {r t : Nat} (hr : r < 1024) (ht : t < 1024) : nI r &&& (nI t ^^^ (-1)) = nI (sbn r t) := by
  rw [show (-1 : Int32) = nI 4294967295 by decide, nx_xor, nx_and]
  congr 1
  refine Nat.eq_of_testBit_eq (fun q => ?_)
  rw [sbn_b hr, Nat.testBit_and, Nat.testBit_xor]
  by_cases h : q < 32
  · have h1 : (4294967295 : Nat).testBit q = true := by
      rw [show (4294967295 : Nat) = 2 ^ 32 - 1 from rfl, Nat.testBit_two_pow_sub_one, decide_eq_true_iff]
      exact h
    rw [h1]
    simp
  · have h1 : r.testBit q = false := Nat.testBit_lt_two_pow (Nat.lt_of_lt_of_le hr (Nat.pow_le_pow_right (n := 2) (i := 10) (by decide) (by omega)))
    rw [h1]
    simp
theorem an_p (n j : Nat) : n &&& 2 ^ j = 0 ↔ n.testBit j = false := by
  constructor
  · intro h
    have h1 : (n &&& 2 ^ j).testBit j = false := by rw [h, Nat.zero_testBit]
    rw [Nat.testBit_and, Nat.testBit_two_pow_self, Bool.and_true] at h1
    exact h1
  · intro h
    refine Nat.eq_of_testBit_eq (fun i => ?_)
    rw [Nat.testBit_and, Nat.zero_testBit]
    by_cases e : j = i
    · subst e; rw [h, Bool.false_and]
    · rw [Nat.testBit_two_pow_of_ne e, Bool.and_false]
theorem tb_lt {m k j : Nat} (hm : m < 2 ^ k) (h : m.testBit j = true) : j < k := by
  refine Nat.lt_of_not_le fun q => ?_
  have := Nat.testBit_lt_two_pow (Nat.lt_of_lt_of_le hm (Nat.pow_le_pow_right (n := 2) (by decide) q))
  rw [this] at h
  cases h
theorem pc_lt {m m' k j : Nat} (hm : m < 2 ^ k) (hm' : m' < 2 ^ k) (hs : ∀ i, m.testBit i = true → m'.testBit i = true) (h1 : m'.testBit j = true) (h2 : m.testBit j = false) : pc m < pc m' := by
  rw [← pc_sm k m hm, ← pc_sm k m' hm']
  refine sm_lt (j := j) k 0 (fun i _ _ => ?_) (Nat.zero_le _) (by have := tb_lt hm' h1; omega) ?_
  · split
    · rename_i h
      rw [if_pos (hs i h)]
      exact Nat.le_refl _
    · exact Nat.zero_le _
  · rw [if_neg (by rw [h2]; decide), if_pos h1]
    omega
theorem pc_sub {m m' k : Nat} (hm : m < 2 ^ k) (hm' : m' < 2 ^ k) (hs : ∀ i, m.testBit i = true → m'.testBit i = true) : pc m ≤ pc m' ∧ (pc m' ≤ pc m → m = m') := by
  by_cases h : ∃ j, m'.testBit j = true ∧ m.testBit j = false
  · obtain ⟨j, h1, h2⟩ := h
    have := pc_lt hm hm' hs h1 h2
    exact ⟨by omega, fun q => by omega⟩
  · have e : m = m' := by
      refine Nat.eq_of_testBit_eq (fun i => ?_)
      cases h1 : m'.testBit i
      · cases h2 : m.testBit i
        · rfl
        · rw [hs i h2] at h1; cases h1
      · cases h2 : m.testBit i
        · exact absurd ⟨i, h1, h2⟩ h
        · rfl
    rw [e]
    exact ⟨Nat.le_refl _, fun _ => rfl⟩
theorem pc_or {t w : Nat} (ht : t < 2 ^ 20) (hw : w < 20) (h : t.testBit w = false) : pc (t ||| 2 ^ w) = pc t + 1 := by
  have h2 : t ||| 2 ^ w < 2 ^ 20 := Nat.or_lt_two_pow ht (Nat.pow_lt_pow_right (by decide) hw)
  rw [← pc_sm 20 _ h2, ← pc_sm 20 t ht]
  have e : sm (fun i => if (t ||| 2 ^ w).testBit i = true then 1 else 0) 0 20 = sm (fun i => (if t.testBit i = true then 1 else 0) + (if i = w then 1 else 0)) 0 20 := by
    refine sm_eq 20 0 (fun i _ _ => ?_)
    rw [tb_or]
    by_cases e : i = w
    · subst e; rw [h]; simp
    · simp [e]
  rw [e, sm_ad, sm_at, if_pos (by omega)]
/-- T answers all of V -/
def Cv (S : Nat → Nat) (V T : Nat) : Prop := ∀ q, V.testBit q = true → ∃ x, T.testBit x = true ∧ (S x).testBit q = true
/-- the fewest, and of these the least -/
def Bs2 (S : Nat → Nat) (V T : Nat) : Prop := T < 2 ^ 20 ∧ Cv S V T ∧ ∀ T', T' < 2 ^ 20 → Cv S V T' → pc T < pc T' ∨ (pc T = pc T' ∧ T ≤ T')
theorem bs_1 {S : Nat → Nat} {V T T' : Nat} (h : Bs2 S V T) (h' : Bs2 S V T') : T = T' := by
  rcases h.2.2 T' h'.1 h'.2.1 with a | ⟨a, b⟩
  · rcases h'.2.2 T h.1 h.2.1 with c | ⟨c, d⟩ <;> omega
  · rcases h'.2.2 T h.1 h.2.1 with c | ⟨c, d⟩ <;> omega
def FA : Nat := 100000000
def kF (S : Nat → Nat) : Nat → Nat → Nat
  | 0, set => if set = 0 then 0 else FA
  | w + 1, set => min (kF S w set) (kF S w (sbn set (S w)) + 1)
def cO (S : Nat → Nat) : Nat → Nat → Nat → Nat
  | 0, _, _ => 0
  | w + 1, left, few => if kF S w left ≤ few then cO S w left few else 2 ^ w * 1 + cO S w (sbn left (S w)) (few - 1)
theorem kF_le (S : Nat → Nat) : ∀ w set, kF S w set ≤ FA
  | 0, set => by rw [kF]; split <;> unfold FA <;> omega
  | w + 1, set => by
    rw [kF]
    exact Nat.le_trans (Nat.min_le_left _ _) (kF_le S w set)
/-- the top word of a set of words -/
theorem top_w {T w : Nat} (hT : T < 2 ^ (w + 1)) (h : T.testBit w = true) : ∃ T0, T0 < 2 ^ w ∧ T = 2 ^ w * 1 + T0 := by
  have h1 := Nat.ge_two_pow_of_testBit h
  rw [Nat.pow_succ] at hT
  exact ⟨T - 2 ^ w, by omega, by omega⟩
theorem top_b {T0 w : Nat} (h : T0 < 2 ^ w) (j : Nat) : (2 ^ w * 1 + T0).testBit j = (if j < w then T0.testBit j else decide (j = w)) := by
  rw [Nat.testBit_two_pow_mul_add 1 h]
  by_cases c : j < w
  · rw [if_pos c, if_pos c]
  · rw [if_neg c, if_neg c]
    by_cases e : j = w
    · subst e; simp
    · rw [decide_eq_false e, show (1 : Nat) = 2 ^ 0 from rfl, Nat.testBit_two_pow_of_ne (by omega)]
theorem no_top {T w : Nat} (hT : T < 2 ^ (w + 1)) (h : T.testBit w = false) : T < 2 ^ w := by
  refine Nat.lt_of_not_le fun q => ?_
  rw [Nat.pow_succ] at hT
  have : T = 2 ^ w * 1 + (T - 2 ^ w) := by omega
  rw [this, top_b (show T - 2 ^ w < 2 ^ w by omega), if_neg (by omega), decide_eq_true rfl] at h
  cases h
theorem cv_top {S : Nat → Nat} {V T0 w : Nat} (hV : V < 1024) (hT : T0 < 2 ^ w) : Cv S V (2 ^ w * 1 + T0) ↔ Cv S (sbn V (S w)) T0 := by
  constructor
  · intro h q hq
    rw [sbn_b hV, Bool.and_eq_true] at hq
    obtain ⟨x, h1, h2⟩ := h q hq.1
    rw [top_b hT] at h1
    split at h1
    · exact ⟨x, h1, h2⟩
    · have := of_decide_eq_true h1
      rw [this] at h2
      rw [h2] at hq
      exact absurd hq.2 (by decide)
  · intro h q hq
    by_cases c : (S w).testBit q = true
    · exact ⟨w, by rw [top_b hT, if_neg (by omega), decide_eq_true rfl], c⟩
    · have c' : (S w).testBit q = false := by simpa using c
      obtain ⟨x, h1, h2⟩ := h q (by rw [sbn_b hV, hq, c']; rfl)
      have := tb_lt hT h1
      exact ⟨x, by rw [top_b hT, if_pos this]; exact h1, h2⟩
theorem pc_top {T0 w : Nat} (hT : T0 < 2 ^ w) : pc (2 ^ w * 1 + T0) = pc T0 + 1 := by
  rw [pc_cut T0 1 w hT, show pc 1 = 1 by rw [pc_s, pc_0]]
  omega
theorem kF_low (S : Nat → Nat) : ∀ w V T, V < 1024 → T < 2 ^ w → Cv S V T → kF S w V ≤ pc T
  | 0, V, T, hV, hT, h => by
    rw [Nat.pow_zero] at hT
    have hT0 : T = 0 := by omega
    subst hT0
    have : V = 0 := by
      refine Nat.eq_of_testBit_eq (fun q => ?_)
      rw [Nat.zero_testBit]
      cases c : V.testBit q
      · rfl
      · obtain ⟨x, h1, _⟩ := h q c
        rw [Nat.zero_testBit] at h1
        cases h1
    rw [kF, if_pos this]
    exact Nat.zero_le _
  | w + 1, V, T, hV, hT, h => by
    rw [kF]
    cases c : T.testBit w
    · exact Nat.le_trans (Nat.min_le_left _ _) (kF_low S w V T hV (no_top hT c) h)
    · obtain ⟨T0, h0, rfl⟩ := top_w hT c
      rw [pc_top h0]
      have := kF_low S w (sbn V (S w)) T0 (Nat.lt_of_le_of_lt (sbn_le _ _) hV) h0 ((cv_top hV h0).mp h)
      exact Nat.le_trans (Nat.min_le_right _ _) (by omega)
theorem cO_ok (S : Nat → Nat) : ∀ w V, V < 1024 → kF S w V < FA → cO S w V (kF S w V) < 2 ^ w ∧ Cv S V (cO S w V (kF S w V)) ∧ pc (cO S w V (kF S w V)) = kF S w V ∧ ∀ T', T' < 2 ^ w → Cv S V T' → pc T' = kF S w V → cO S w V (kF S w V) ≤ T'
  | 0, V, hV, hk => by
    have h0 : V = 0 := by
      rw [kF] at hk
      split at hk
      · assumption
      · exact absurd hk (Nat.lt_irrefl _)
    subst h0
    rw [kF, if_pos rfl, cO]
    exact ⟨by decide, fun q hq => absurd hq (by rw [Nat.zero_testBit]; decide), pc_0, fun T' _ _ _ => Nat.zero_le _⟩
  | w + 1, V, hV, hk => by
    have hs : sbn V (S w) < 1024 := Nat.lt_of_le_of_lt (sbn_le _ _) hV
    have e0 : kF S (w + 1) V = min (kF S w V) (kF S w (sbn V (S w)) + 1) := rfl
    rw [cO]
    by_cases c : kF S w V ≤ kF S (w + 1) V
    · have e : kF S (w + 1) V = kF S w V := by omega
      rw [if_pos c, e]
      obtain ⟨h1, h2, h3, h4⟩ := cO_ok S w V hV (by omega)
      refine ⟨Nat.lt_of_lt_of_le h1 (Nat.pow_le_pow_right (by decide) (by omega)), h2, h3, fun T' t1 t2 t3 => ?_⟩
      cases c2 : T'.testBit w
      · exact h4 T' (no_top t1 c2) t2 t3
      · have := Nat.ge_two_pow_of_testBit c2
        omega
    · have e : kF S (w + 1) V = kF S w (sbn V (S w)) + 1 := by omega
      rw [if_neg c, e, Nat.add_sub_cancel]
      obtain ⟨h1, h2, h3, h4⟩ := cO_ok S w (sbn V (S w)) hs (by omega)
      refine ⟨?_, (cv_top hV h1).mpr h2, by rw [pc_top h1, h3], fun T' t1 t2 t3 => ?_⟩
      · rw [Nat.pow_succ]; omega
      · cases c2 : T'.testBit w
        · have := kF_low S w V T' hV (no_top t1 c2) t2
          omega
        · obtain ⟨T0, h0, rfl⟩ := top_w t1 c2
          rw [pc_top h0] at t3
          have := h4 T0 h0 ((cv_top hV h0).mp t2) (by omega)
          omega
theorem cO_bs {S : Nat → Nat} {V : Nat} (hV : V < 1024) (hk : kF S 20 V < FA) : Bs2 S V (cO S 20 V (kF S 20 V)) ∧ pc (cO S 20 V (kF S 20 V)) = kF S 20 V := by
  obtain ⟨h1, h2, h3, h4⟩ := cO_ok S 20 V hV hk
  refine ⟨⟨h1, h2, fun T' t1 t2 => ?_⟩, h3⟩
  have := kF_low S 20 V T' hV t1 t2
  by_cases c : pc T' = kF S 20 V
  · exact Or.inr ⟨by omega, h4 T' t1 t2 c⟩
  · exact Or.inl (by omega)
theorem kF_no {S : Nat → Nat} {V T : Nat} (hV : V < 1024) (hT : T < 2 ^ 20) (h : Cv S V T) : kF S 20 V < FA := by
  have h1 := kF_low S 20 V T hV hT h
  have h2 := pc_le 20 T hT
  unfold FA
  omega
