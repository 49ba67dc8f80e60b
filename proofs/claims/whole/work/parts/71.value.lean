/-! a law's line worked out, on a stack -/
def skA (f : Nat → Int32) : List Int32 → Prop
  | [] => True
  | x :: t => f t.length = x ∧ skA f t
theorem sk_c {f f' : Nat → Int32} : ∀ (st : List Int32), (∀ j, j < st.length → f' j = f j) → skA f st → skA f' st
  | [], _, _ => True.intro
  | x :: t, h, hs => ⟨by rw [h t.length (by rw [List.length_cons]; omega)]; exact hs.1, sk_c t (fun j hj => h j (by rw [List.length_cons]; omega)) hs.2⟩
/-- put x on the place of the top, or one above -/
theorem sk_p {s : Sg} {o : Nat} {st : List Int32} {x : Int32} (h : skA (s o) st) : skA (pt s o st.length x o) (x :: st) :=
  ⟨pt_s _ _ _ _, sk_c st (fun j hj => pt_k _ _ _ (by omega)) h⟩
theorem ev_len {env : Nat → Int32} {x : Nat × Nat} {st st' : List Int32} (h : ev1 env x st = some st') (hl : st.length ≤ 60) : st'.length ≤ 60 := by
  unfold ev1 at h
  split at h
  · split at h
    · cases h; rw [List.length_cons]; omega
    · cases h
  · split at h
    · split at h
      · cases h; rw [List.length_cons]; omega
      · cases h
    · split at h
      · cases h
      · rename_i a t
        rw [List.length_cons] at hl
        split at h
        · cases h; rw [List.length_cons]; omega
        · split at h
          · cases h; rw [List.length_cons]; omega
          · split at h
            · cases h
            · rename_i b u
              rw [List.length_cons] at hl
              cases hj : jnS x.2 b a with
              | none => rw [hj] at h; cases h
              | some r => rw [hj] at h; cases h; rw [List.length_cons]; omega
theorem jn_c {g : Nat} {a b r : Int32} (hg : okS g) (h2 : g ≠ 262) (h : jnS g a b = some r) (s : Sg) : fLa_joined (nI g) a b s = some (r, s) := by
  have le1 : ∀ x y : Int32, (if x ≤ y then (0 : Int32) else 1) = if y < x then 1 else 0 := fun x y => by
    by_cases c : y < x
    · rw [if_pos c, if_neg (fun q => Int32.lt_irrefl (Int32.lt_of_lt_of_le c q))]
    · rw [if_neg c, if_pos (Int32.not_lt.mp c)]
  unfold fLa_joined
  unfold jnS at h
  rcases hg with rfl | rfl | rfl | rfl | rfl | rfl | rfl | rfl | rfl
  · rw [if_pos rfl] at h
    rw [if_neg (by decide), if_pos (by decide), Option.some.inj h]
  · rw [if_neg (by decide), if_pos rfl] at h
    rw [if_neg (by decide), if_neg (by decide), if_pos (by decide), Option.some.inj h]
  · rw [if_neg (by decide), if_neg (by decide), if_pos rfl] at h
    rw [if_pos (by decide), Option.some.inj h]
  · rw [if_neg (by decide), if_neg (by decide), if_neg (by decide), if_pos rfl] at h
    rw [if_neg (by decide), if_neg (by decide), if_neg (by decide), if_pos (by decide), it_s, le1, Option.some.inj h]
  · rw [if_neg (by decide), if_neg (by decide), if_neg (by decide), if_neg (by decide), if_pos rfl] at h
    rw [if_neg (by decide), if_neg (by decide), if_neg (by decide), if_neg (by decide), if_pos (by decide), it_s, Option.some.inj h]
  · rw [if_neg (by decide), if_neg (by decide), if_neg (by decide), if_neg (by decide), if_neg (by decide), if_pos rfl] at h
    rw [if_neg (by decide), if_neg (by decide), if_neg (by decide), if_neg (by decide), if_neg (by decide), if_pos (by decide), it_s, le1, Option.some.inj h]
  · exact absurd rfl h2
  · rw [if_neg (by decide), if_neg (by decide), if_neg (by decide), if_neg (by decide), if_neg (by decide), if_neg (by decide)] at h
    split at h
    · rename_i hc
      rw [if_pos rfl] at h
      rw [if_neg (by decide), if_neg (by decide), if_neg (by decide), if_neg (by decide), if_neg (by decide), if_neg (by decide), if_pos (by decide), ← Option.some.inj h]
      obtain ⟨h1 | h1, h2 | h2⟩ := hc <;> rw [h1, h2] <;> rfl
    · cases h
  · rw [if_neg (by decide), if_neg (by decide), if_neg (by decide), if_neg (by decide), if_neg (by decide), if_neg (by decide)] at h
    split at h
    · rename_i hc
      rw [if_neg (by decide)] at h
      rw [if_neg (by decide), if_neg (by decide), if_neg (by decide), if_neg (by decide), if_neg (by decide), if_neg (by decide), if_neg (by decide), ← Option.some.inj h]
      obtain ⟨h1 | h1, h2 | h2⟩ := hc <;> rw [h1, h2] <;> rfl
    · cases h
theorem jn_m {g : Nat} {a b r : Int32} (hg : okS g) (h2 : g ≠ 262) (h : jnS g a b = some r) (s : Sg) : fM_twoOf (nI (opS g)) a b s = some (r, s) := by
  have le1 : ∀ x y : Int32, (if x ≤ y then (0 : Int32) else 1) = if y < x then 1 else 0 := fun x y => by
    by_cases c : y < x
    · rw [if_pos c, if_neg (fun q => Int32.lt_irrefl (Int32.lt_of_lt_of_le c q))]
    · rw [if_neg c, if_pos (Int32.not_lt.mp c)]
  unfold fM_twoOf
  unfold jnS at h
  rcases hg with rfl | rfl | rfl | rfl | rfl | rfl | rfl | rfl | rfl
  · rw [if_pos rfl] at h
    rw [if_pos (by decide), Option.some.inj h]
  · rw [if_neg (by decide), if_pos rfl] at h
    rw [if_neg (by decide), if_pos (by decide), Option.some.inj h]
  · rw [if_neg (by decide), if_neg (by decide), if_pos rfl] at h
    rw [if_neg (by decide), if_neg (by decide), if_pos (by decide), Option.some.inj h]
  · rw [if_neg (by decide), if_neg (by decide), if_neg (by decide), if_pos rfl] at h
    rw [if_neg (by decide), if_neg (by decide), if_neg (by decide), if_neg (by decide), if_pos (by decide), it_s, le1, Option.some.inj h]
  · rw [if_neg (by decide), if_neg (by decide), if_neg (by decide), if_neg (by decide), if_pos rfl] at h
    rw [if_neg (by decide), if_neg (by decide), if_neg (by decide), if_neg (by decide), if_neg (by decide), if_pos (by decide), it_s, Option.some.inj h]
  · rw [if_neg (by decide), if_neg (by decide), if_neg (by decide), if_neg (by decide), if_neg (by decide), if_pos rfl] at h
    rw [if_neg (by decide), if_neg (by decide), if_neg (by decide), if_neg (by decide), if_neg (by decide), if_neg (by decide), if_pos (by decide), it_s, le1, Option.some.inj h]
  · exact absurd rfl h2
  · rw [if_neg (by decide), if_neg (by decide), if_neg (by decide), if_neg (by decide), if_neg (by decide), if_neg (by decide)] at h
    split at h
    · rename_i hc
      rw [if_pos rfl] at h
      rw [if_neg (by decide), if_neg (by decide), if_neg (by decide), if_neg (by decide), if_neg (by decide), if_neg (by decide), if_neg (by decide), if_pos (by decide), ← Option.some.inj h]
    · cases h
  · rw [if_neg (by decide), if_neg (by decide), if_neg (by decide), if_neg (by decide), if_neg (by decide), if_neg (by decide)] at h
    split at h
    · rename_i hc
      rw [if_neg (by decide)] at h
      rw [if_neg (by decide), if_neg (by decide), if_neg (by decide), if_neg (by decide), if_neg (by decide), if_neg (by decide), if_neg (by decide), if_neg (by decide), ← Option.some.inj h]
      obtain ⟨h1 | h1, h2 | h2⟩ := hc <;> rw [h1, h2] <;> rfl
    · cases h
theorem val_c {s0 : Sg} {o n p z f e : Nat} {m vo le pa : Nat → Int32} {P : List (Nat × Nat)} {v : Int32} (ho : o ≠ 24) (hr : hz_rf o 0 ≠ 24) (hS : gSc (s0 o) (s0 (hz_rf o 0)) (nI n) m vo le pa) (hn : n ≤ 10) (hp : p < n) (hz : s0 20 3 = nI z) (hz4 : z ≤ 400) (hfe : f + P.length = e) (hez : e ≤ z) (hc : cAt (s0 23) f P) (hok : ∀ x ∈ P, okP x) (hev : evP (envN m vo le pa n p) P [] = some [v]) : W1 (fLa_value 20 (nI f) (nI e) o (nI p) s0) (fun y => y.1 = v ∧ ∀ q, q ≠ 24 → y.2 q = s0 q) := by
  unfold fLa_value
  rw [hz, e_min, bi_s, mn_n (by omega) (by omega), Nat.min_eq_left hez, e_max, bi_s, show (0 : Int32) = nI 0 from rfl, mx_n (by decide) (by omega), Nat.max_eq_right (Nat.zero_le _)]
  simp only [bnd_x]
  refine w1_lp (fun k u s => (∀ q, q ≠ 24 → s q = s0 q) ∧ ∃ (Q : List (Nat × Nat)) (st : List Int32) (i : Nat), k = Q.length ∧ u = (nI st.length, nI i) ∧ skA (s 24) st ∧ cAt (s0 23) i Q ∧ (∀ x ∈ Q, okP x) ∧ evP (envN m vo le pa n p) Q st = some [v] ∧ i + Q.length = e ∧ st.length ≤ 60) ?_ FU P.length _ _ (FU_lt (by omega)) ⟨fun _ _ => rfl, P, [], f, rfl, rfl, True.intro, hc, hok, hev, hfe, by rw [List.length_nil]; omega⟩
  rintro q k u s ⟨hs, Q, st, i, rfl, rfl, hsk, hca, hoq, he, hie, hst⟩ hq
  dsimp only
  rw [show hz_rf 20 1 = 23 from rfl, show hz_rf 20 2 = 24 from rfl]
  cases Q with
  | nil =>
    rw [List.length_nil, Nat.add_zero] at hie
    rw [evP] at he
    have hst1 := Option.some.inj he
    subst hst1
    rw [if_pos (nI_le (by omega) (by omega))]
    show W1 (if nI 1 ≤ nI 0 then _ else _) _
    rw [if_neg (by decide), show nI [v].length - 1 = nI 0 from nI_pred 0, gd_n _ (show 0 < 64 by decide) (by decide)]
    exact w1_s ⟨hsk.1, hs⟩
  | cons x Q =>
    rw [List.length_cons] at hie
    obtain ⟨hc1, hc2⟩ := hca
    rw [evP] at he
    obtain ⟨st1, he1, he2⟩ := Option.bind_eq_some_iff.mp he
    have hl1 := ev_len he1 hst
    rw [if_neg (nI_ge (by omega) (by omega)), gd_n _ (show i < 400 by omega) (by decide), ix_n (by omega), hs 23 (by decide), hc1, nI_1]
    have nx : ∀ s', (∀ q, q ≠ 24 → s' q = s0 q) → skA (s' 24) st1 → W1 (q (nI st1.length, nI (i + 1)) s') (fun y => y.1 = v ∧ ∀ q, q ≠ 24 → y.2 q = s0 q) := fun s' h1 h2 => hq Q.length _ _ (by rw [List.length_cons]; omega) ⟨h1, Q, st1, i + 1, rfl, rfl, h2, hc2, fun y hy => hoq y (List.mem_cons_of_mem _ hy), he2, by omega, hl1⟩
    have fr : ∀ k x, ∀ q, q ≠ 24 → pt s 24 k x q = s0 q := fun k x q hq => by rw [ptq _ _ _ hq]; exact hs q hq
    have l2 : ∀ N, N < 2 ^ 31 → (nI 20000 ≤ nI N ↔ 20000 ≤ N) := fun N h => nI_leI (by decide) h
    have l1 : ∀ N, N < 2 ^ 31 → (nI 10000 ≤ nI N ↔ 10000 ≤ N) := fun N h => nI_leI (by decide) h
    have l3 : ∀ N, N < 2 ^ 31 → (nI 30000 ≤ nI N ↔ 30000 ≤ N) := fun N h => nI_leI (by decide) h
    have l4 : ∀ N, N < 2 ^ 31 → (nI N ≤ nI 20000 ↔ N ≤ 20000) := fun N h => nI_leI h (by decide)
    rw [show (20000 : Int32) = nI 20000 from rfl, show (10000 : Int32) = nI 10000 from rfl, show (30000 : Int32) = nI 30000 from rfl]
    rcases hoq x (List.mem_cons_self ..) with ⟨x1, x2⟩ | ⟨x1, x2⟩ | ⟨x1, x2, x3⟩ | ⟨x1, x2⟩
    · unfold ev1 at he1
      rw [if_pos x1] at he1
      split at he1
      · rename_i hl
        have he1 := Option.some.inj he1
        subst he1
        rw [x1, Nat.zero_mul, Nat.zero_add, if_neg (fun q => by have := (l2 _ (by omega)).mp q; omega), if_pos (show nI st.length < 64 from nI_lt (b := 64) (by omega) (by decide)), if_neg (fun q => by have := (l1 _ (by omega)).mp q; omega), gd_n _ (show st.length < 64 by omega) (by decide), ix_n (by omega), nI_1]
        exact nx _ (fr _ _) (sk_p hsk)
      · cases he1
    · unfold ev1 at he1
      rw [if_neg (by omega), if_pos x1] at he1
      split at he1
      · rename_i hl
        have he1 := Option.some.inj he1
        subst he1
        rw [x1, Nat.one_mul, if_neg (fun q => by have := (l2 _ (by omega)).mp q; omega), if_pos (show nI st.length < 64 from nI_lt (b := 64) (by omega) (by decide)), if_pos ((l1 _ (by omega)).mpr (by omega)), pk_sub (by omega), Nat.add_sub_cancel_left, e_mean (n := n) (m := m) (vo := vo) (le := le) (pa := pa) (by rw [hs o ho, hs _ hr]; exact hS) hn hp x2, bi_s, gd_n _ (show st.length < 64 by omega) (by decide), ix_n (by omega), nI_1]
        exact nx _ (fr _ _) (sk_p hsk)
      · cases he1
    · unfold ev1 at he1
      rw [if_neg (by omega), if_neg (by omega)] at he1
      cases st with
      | nil => cases he1
      | cons y t =>
        dsimp only at he1
        rw [if_pos x1] at he1
        have he1 := Option.some.inj he1
        subst he1
        rw [List.length_cons] at hst
        rw [x1, if_pos ((l2 _ (by omega)).mpr (by omega)), if_neg (fun q => by have := (l4 _ (by omega)).mp q; omega), List.length_cons, if_pos (show (1 : Int32) ≤ nI (t.length + 1) from nI_le (a := 1) (by omega) (by omega)), if_neg (fun q => by have := (l3 _ (by omega)).mp q; omega), nI_pred, gd_n _ (show t.length < 64 by omega) (by decide), pk_sub (by omega), Nat.add_sub_cancel_left, gz_n _ (nI_ne0 (by omega) (by omega)), gd_n _ (show t.length < 64 by omega) (by decide), ix_n (by omega), hsk.1]
        exact nx _ (fr _ _) (sk_p hsk.2)
    · unfold ev1 at he1
      rw [if_neg (by omega), if_neg (by omega)] at he1
      have hx2 : x.2 < 300 := by
        unfold okS at x2
        omega
      cases st with
      | nil => cases he1
      | cons y t =>
        dsimp only at he1
        rw [if_neg (by omega)] at he1
        rw [List.length_cons] at hst
        rw [x1, if_pos ((l2 _ (by omega)).mpr (by omega)), if_neg (fun q => by have := (l4 _ (by omega)).mp q; omega), List.length_cons, if_pos (show (1 : Int32) ≤ nI (t.length + 1) from nI_le (a := 1) (by omega) (by omega)), if_pos ((l3 _ (by omega)).mpr (by omega))]
        by_cases h262 : x.2 = 262
        · rw [if_pos h262] at he1
          have he1 := Option.some.inj he1
          subst he1
          rw [if_pos (show nI (3 * 10000 + x.2) = 30262 by rw [h262]; rfl), nI_pred, gd_n _ (show t.length < 64 by omega) (by decide), gd_n _ (show t.length < 64 by omega) (by decide), ix_n (by omega), hsk.1]
          exact nx _ (fr _ _) (sk_p hsk.2)
        · rw [if_neg h262] at he1
          rw [if_neg (show ¬ nI (3 * 10000 + x.2) = 30262 from nI_ne 30262 (by omega) (by omega) (by decide))]
          cases t with
          | nil => cases he1
          | cons w t =>
            dsimp only at he1
            cases hj : jnS x.2 w y with
            | none => rw [hj] at he1; cases he1
            | some r =>
              rw [hj] at he1
              have he1 := Option.some.inj he1
              subst he1
              rw [List.length_cons] at hst
              rw [List.length_cons, if_pos (show (2 : Int32) ≤ nI (t.length + 1 + 1) from nI_le (a := 2) (by omega) (by omega)), pk_m1, nI_pred, gd_n _ (show t.length < 64 by omega) (by decide), gd_n _ (show t.length + 1 < 64 by omega) (by decide), ix_n (by omega), ix_n (by omega), show s 24 (t.length + 1) = y from hsk.1, show s 24 t.length = w from hsk.2.1, pk_sub (by omega), show 3 * 10000 + x.2 - 30000 = x.2 by omega, jn_c x2 h262 hj, bi_s, gd_n _ (show t.length < 64 by omega) (by decide)]
              exact nx _ (fr _ _) (sk_p hsk.2.2)
