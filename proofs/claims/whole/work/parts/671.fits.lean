/-! fits: the reference's table -/
theorem e_ff {b : Sg} {S : Nat → Nat} (hM : ∀ w, w < 20 → b 122 w = nI (S w)) (hB : ∀ w, S w < 1024) : W1 (fM_findsFewest b) (fun s => s 122 = b 122 ∧ ∀ w set, w ≤ 20 → set < 1024 → s 125 (1024 * w + set) = nI (kF S w set)) := by
  unfold fM_findsFewest
  simp only [bnd_x]
  have K := kF_le S
  refine w1_lp (fun k v s => ∃ i, i + k = 1024 ∧ v = nI i ∧ s 122 = b 122 ∧ ∀ j, j < i → s 125 j = nI (kF S 0 j)) ?_ FU 1024 _ _ (FU_lt (by omega)) ⟨0, by omega, rfl, rfl, fun j hj => by omega⟩
  rintro p k v s ⟨i, hi, rfl, h1, h2⟩ hp
  refine w1_if (fun c => ?_) (fun c => ?_)
  · have c := (nI_leI (a := 1024) (b := i) (by decide) (by omega)).mp c
    refine w1_lp (fun k v s => ∃ w, w + k = 20 ∧ v = nI w ∧ s 122 = b 122 ∧ ∀ w' set, w' ≤ w → set < 1024 → s 125 (1024 * w' + set) = nI (kF S w' set)) ?_ FU 20 _ _ (FU_lt (by omega)) ⟨0, by omega, rfl, h1, fun w' set hw hs => by rw [show w' = 0 by omega, Nat.mul_zero, Nat.zero_add]; exact h2 set (by omega)⟩
    rintro p2 k2 v2 s2 ⟨w, hw, rfl, g1, g2⟩ hp2
    refine w1_if (fun c2 => ?_) (fun c2 => ?_)
    · have c2 := (nI_leI (a := 20) (b := w) (by decide) (by omega)).mp c2
      exact w1_s ⟨g1, fun w' set h h' => g2 w' set (by omega) h'⟩
    have c2 : ¬ 20 ≤ w := fun q => c2 ((nI_leI (a := 20) (b := w) (by decide) (by omega)).mpr q)
    refine w1_lp (fun k v s => ∃ x, x + k = 1024 ∧ v = nI x ∧ s 122 = b 122 ∧ (∀ w' set, w' ≤ w → set < 1024 → s 125 (1024 * w' + set) = nI (kF S w' set)) ∧ ∀ set, set < x → s 125 (1024 * (w + 1) + set) = nI (kF S (w + 1) set)) ?_ FU 1024 _ _ (FU_lt (by omega)) ⟨0, by omega, rfl, g1, g2, fun set h => by omega⟩
    rintro p3 k3 v3 s3 ⟨x, hx, rfl, f1, f2, f3⟩ hp3
    refine w1_if (fun c3 => ?_) (fun c3 => ?_)
    · have c3 := (nI_leI (a := 1024) (b := x) (by decide) (by omega)).mp c3
      rw [nI_1]
      refine hp2 (k2 - 1) _ _ (by omega) ⟨w + 1, by omega, rfl, f1, fun w' set h h' => ?_⟩
      by_cases e : w' = w + 1
      · subst e; exact f3 set (by omega)
      · exact f2 w' set (by omega) h'
    have c3 : ¬ 1024 ≤ x := fun q => c3 ((nI_leI (a := 1024) (b := x) (by decide) (by omega)).mpr q)
    have hsw := hB w
    have l1 := sbn_le x (S w)
    have e1 : ∀ y, 1024 * nI w + nI y = nI (1024 * w + y) := fun y => by rw [show (1024 : Int32) = nI 1024 from rfl, pk_mul, nI_add]
    have e2 : 1024 * (nI w + 1) + nI x = nI (1024 * (w + 1) + x) := by rw [nI_1, show (1024 : Int32) = nI 1024 from rfl, pk_mul, nI_add]
    have k1 := K w x
    have k2' := K w (sbn x (S w))
    unfold FA at k1 k2'
    rw [e2, e1, gd_n _ (show 1024 * w + x < 21504 by omega) (by decide), gd_n _ (show w < 40 by omega) (by decide), ix_n (show w < 2 ^ 31 by omega), f1, hM w (by omega), sbn_n (by omega) hsw, e1, gd_n _ (show 1024 * w + sbn x (S w) < 21504 by omega) (by decide), ix_n (by omega), ix_n (by omega), f2 w x (by omega) (by omega), f2 w _ (by omega) (show sbn x (S w) < 1024 by omega), nI_1, e_ls, bi_s, mn_n (by omega) (by omega), gd_n _ (show 1024 * (w + 1) + x < 21504 by omega) (by decide), ix_n (by omega), nI_1]
    refine hp3 (k3 - 1) _ _ (by omega) ⟨x + 1, by omega, rfl, by rw [ptq _ _ _ (by decide)]; exact f1, fun w' set h h' => ?_, fun set h => ?_⟩
    · rw [pt_k _ _ _ (by omega)]; exact f2 w' set h h'
    · by_cases e : set = x
      · subst e; rw [pt_s]; rfl
      · rw [pt_k _ _ _ (by omega)]; exact f3 set (by omega)
  · have c : ¬ 1024 ≤ i := fun q => c ((nI_leI (a := 1024) (b := i) (by decide) (by omega)).mpr q)
    rw [gd_n _ (show i < 21504 by omega) (by decide), gd_n _ (show i < 21504 by omega) (by decide), ix_n (by omega), nI_1]
    have nx : ∀ x : Int32, x = nI (kF S 0 i) → W1 (p (nI (i + 1)) (pt s 125 i x)) (fun s => s 122 = b 122 ∧ ∀ w set, w ≤ 20 → set < 1024 → s 125 (1024 * w + set) = nI (kF S w set)) := fun x hx => hp (k - 1) _ _ (by omega) ⟨i + 1, by omega, rfl, by rw [ptq _ _ _ (by decide)]; exact h1, fun j hj => by
      by_cases e : j = i
      · subst e; rw [pt_s]; exact hx
      · rw [pt_k _ _ _ e]; exact h2 j (by omega)⟩
    refine w1_if (fun c2 => ?_) (fun c2 => ?_)
    · exact nx 0 (by rw [kF, if_pos (nI_inj (by omega) (by decide) c2)]; rfl)
    · exact nx 100000000 (by rw [kF, if_neg (fun e => c2 (by rw [e]; rfl))]; rfl)
theorem e_co {s : Sg} {S : Nat → Nat} (hM : ∀ w, w < 20 → s 122 w = nI (S w)) (hB : ∀ w, S w < 1024) (hk : ∀ w set, w ≤ 20 → set < 1024 → s 125 (1024 * w + set) = nI (kF S w set)) {V : Nat} (hV : V < 1024) (hf : kF S 20 V < FA) : fM_coverOf (nI V) s = some (nI (cO S 20 V (kF S 20 V)), s) := by
  unfold fM_coverOf
  have K := kF_le S
  have e0 : 20480 + nI V = nI (20480 + V) := nI_add 20480 V
  rw [e0, gd_n _ (show 20480 + V < 21504 by omega) (by decide), ix_n (by omega), show 20480 + V = 1024 * 20 + V by omega, hk 20 V (by omega) hV]
  simp only [bnd_x]
  unfold FA at hf
  refine w1_e (w1_lp (fun k u t => t = s ∧ ∃ left m few, left < 1024 ∧ u = (nI left, nI m, nI few, nI k - 1) ∧ k ≤ 20 ∧ few = kF S k left ∧ few < FA ∧ m ||| cO S k left few = cO S 20 V (kF S 20 V)) ?_ FU 20 _ _ (FU_lt (by omega)) ⟨rfl, V, 0, kF S 20 V, hV, rfl, by omega, rfl, hf, by rw [Nat.zero_or]⟩)
  rintro p k u t ⟨rfl, left, m, few, hl, rfl, hk20, hfe, hfl, hR⟩ hp
  dsimp only
  cases k with
  | zero =>
    rw [if_pos (by decide)]
    rw [cO, Nat.or_zero] at hR
    rw [← hR]
    exact w1_s rfl
  | succ k =>
    have e1 : ∀ y, 1024 * nI k + nI y = nI (1024 * k + y) := fun y => by rw [show (1024 : Int32) = nI 1024 from rfl, pk_mul, nI_add]
    have hsw := hB k
    have k1 := K k left
    unfold FA at k1 hfl
    rw [nI_pred, if_neg (nI_pos (by omega)), e1, gd_n _ (show 1024 * k + left < 21504 by omega) (by decide), ix_n (by omega), hk k left (by omega) hl, gd_n _ (show k < 40 by omega) (by decide), ix_n (by omega), hM k (by omega), sbn_n hl hsw, sh1 k (by omega), nx_or, i_m1]
    rw [cO] at hR
    refine w1_if (fun c => ?_) (fun c => ?_)
    · rw [nI_ltI (by omega) (by omega)] at c
      rw [if_neg (by omega)] at hR
      have e2 : kF S (k + 1) left = min (kF S k left) (kF S k (sbn left (S k)) + 1) := rfl
      rw [show (1 : Int32) = nI 1 from rfl, pk_sub (by omega)]
      refine hp k _ _ (by omega) ⟨rfl, sbn left (S k), m ||| 2 ^ k, few - 1, Nat.lt_of_le_of_lt (sbn_le _ _) hl, rfl, by omega, by omega, by unfold FA; omega, ?_⟩
      rw [← hR, Nat.or_assoc]
      congr 1
      have lt := (cO_ok S k (sbn left (S k)) (Nat.lt_of_le_of_lt (sbn_le _ _) hl) (by unfold FA; omega)).1
      rw [show kF S k (sbn left (S k)) = few - 1 by omega] at lt
      rw [Nat.two_pow_add_eq_or_of_lt lt, Nat.mul_one]
    · rw [nI_ltI (by omega) (by omega)] at c
      rw [if_pos (by omega)] at hR
      have e2 : kF S (k + 1) left = min (kF S k left) (kF S k (sbn left (S k)) + 1) := rfl
      exact hp k _ _ (by omega) ⟨rfl, left, m, few, hl, rfl, by omega, by omega, hfl, hR⟩
