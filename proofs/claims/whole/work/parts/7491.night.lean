/-! what a minute in thought leaves, on the side of the class -/
def P1 {R : Type} (f : Option R) (Q : R → Prop) : Prop := ∀ x, f = some x → Q x
section P1S
variable {R : Type} {Q : R → Prop}
theorem p1_s {x : R} (h : Q x) : P1 (some x) Q := fun y e => by cases e; exact h
theorem p1_bi {f : Option (Int32 × Sg)} {k : Int32 → Sg → Option R} (h : P1 f (fun z => P1 (k z.1 z.2) Q)) : P1 (bi f k) Q := by
  intro x e
  cases f with
  | none => cases e
  | some z => exact h z rfl x e
theorem p1_bv {f : Option Sg} {k : Sg → Option R} (h : P1 f (fun z => P1 (k z) Q)) : P1 (bv f k) Q := by
  intro x e
  cases f with
  | none => cases e
  | some z => exact h z rfl x e
theorem p1_if {c : Prop} {hc : Decidable c} {f f' : Option R} (h1 : c → P1 f Q) (h2 : ¬ c → P1 f' Q) : P1 (@ite _ c hc f f') Q := by
  by_cases h : c
  · rw [if_pos h]; exact h1 h
  · rw [if_neg h]; exact h2 h
theorem p1_j {α : Type} {e : α} {k : α → Option R} (P : α → Prop) (h1 : P e) (h2 : ∀ j, P j → P1 (k j) Q) : P1 (bnd e k) Q := h2 e h1
theorem p1_lp {α : Type} {b : (α → Sg → Option R) → α → Sg → Option R} (I : α → Sg → Prop) (h : ∀ q v s, I v s → (∀ v' s', I v' s' → P1 (q v' s') Q) → P1 (b q v s) Q) : ∀ (fuel : Nat) (v : α) (s : Sg), I v s → P1 (lp fuel b v s) Q
  | 0, _, _, _ => fun _ e => by cases e
  | n + 1, v, s, hI => h (lp n b) v s hI (fun v' s' hI' => p1_lp I h n v' s' hI')
theorem p1_m {f : Option R} {Q' : R → Prop} (h : P1 f Q') (hq : ∀ x, Q' x → Q x) : P1 f Q := fun x e => hq x (h x e)
end P1S
theorem p1_night3 (s : Sg) : P1 (fSu_fallNight 3 0 s) (fun t => t 3 3 = s 3 5 ∧ t 3 2 = s 3 4) := by
  unfold fSu_fallNight
  simp only [bnd_x]
  refine p1_lp (fun _ t => t 3 3 = s 3 5 ∧ t 3 2 = s 3 4) ?_ FU _ _ ⟨by rw [pt_s, pt_k _ _ _ (by decide)], by rw [pt_k _ _ _ (by decide), pt_s]⟩
  intro q v t ht hq
  refine p1_if (fun _ => ?_) (fun _ => ?_)
  · rw [if_pos trivial]; exact p1_s ht
  · refine p1_bv (fun t1 e1 => p1_bv (fun t2 e2 => hq _ _ ?_))
    have f1 : ∀ k, t1 3 k = t 3 k := fun k => fr_Sc_sendHome 3 v t t1 e1 3 k (by decide) (by simp)
    have f2 : ∀ k, t2 3 k = t1 3 k := fun k => fr_Sc_put 3 v 3 99 t1 t2 e2 3 k (by decide) (by simp)
    rw [f2, f1, f2, f1]; exact ht
theorem p1_night (s : Sg) : P1 (fSu_fallNight 3 0 s) (fun t => (t 3 3 = s 3 5 ∧ t 3 2 = s 3 4) ∧ t 3 8 = s 3 8 ∧ t 3 9 = s 3 9) := fun t e =>
  ⟨p1_night3 s t e, fr_Su_fallNight 3 0 s t e 3 8 (by decide) (by decide), fr_Su_fallNight 3 0 s t e 3 9 (by decide) (by decide)⟩
theorem p1_clock (s : Sg) : P1 (fSc_turnClock 3 s) (fun t => (t 3 3 = s 3 3 ∧ t 3 2 = s 3 2) ∧ t 3 8 = s 3 8 ∧ t 3 9 = if s 3 9 + 1 ≤ 59 then s 3 9 + 1 else 0) := fun t e =>
  ⟨⟨fr_Sc_turnClock 3 s t e 3 3 (by decide) (by decide), fr_Sc_turnClock 3 s t e 3 2 (by decide) (by decide)⟩, fr_Sc_turnClock 3 s t e 3 8 (by decide) (by decide), by
    revert t e
    show P1 (fSc_turnClock 3 s) (fun t => t 3 9 = if s 3 9 + 1 ≤ 59 then s 3 9 + 1 else 0)
    unfold fSc_turnClock
    simp only [bnd_x, pt_s]
    refine p1_if (fun c => ?_) (fun c => ?_)
    · refine p1_s ?_
      rw [pt_s, if_pos c]
    · refine p1_s ?_
      rw [pt_k _ _ _ (by decide), pt_k _ _ _ (by decide), pt_k _ _ _ (by decide), pt_s, if_neg c]⟩
theorem p1_pass (a : Sg) : P1 (fSu_pass 3 0 a) (fun x => ∃ c, (if a 3 9 = 0 then bv (fSu_putSunset 3 a) (fun s16 => fSu_letClimbersGo 3 s16) else fSu_letClimbersGo 3 a) = some c ∧ x.2 3 8 = c 3 8 ∧ x.2 3 9 = (if a 3 9 + 1 ≤ 59 then a 3 9 + 1 else 0) ∧ (a 3 9 = c 3 8 → x.2 3 3 = a 3 5 ∧ x.2 3 2 = a 3 4)) := by
  unfold fSu_pass
  rw [bnd_e]
  have conv : ∀ K : Sg → Option (Int32 × Sg), (if a 3 9 = 0 then (bv (fSu_putSunset 3 a) fun s16 => bv (fSu_letClimbersGo 3 s16) K) else bv (fSu_letClimbersGo 3 a) K) = bv (if a 3 9 = 0 then bv (fSu_putSunset 3 a) (fun s16 => fSu_letClimbersGo 3 s16) else fSu_letClimbersGo 3 a) K := fun K => by
    by_cases c : a 3 9 = 0
    · rw [if_pos c, if_pos c, bv_as]
    · rw [if_neg c, if_neg c]
  refine Eq.mpr (congrArg (fun f => P1 f _) (conv _)) ?_
  refine p1_bv (fun c hc => ?_)
  have L : ∀ {s t : Sg}, fSu_letClimbersGo 3 s = some t → t 3 9 = s 3 9 ∧ t 3 5 = s 3 5 ∧ t 3 4 = s 3 4 := fun {s t} e => ⟨fr_Su_letClimbersGo 3 s t e 3 9 (by decide) (by decide), fr_Su_letClimbersGo 3 s t e 3 5 (by decide) (by decide), fr_Su_letClimbersGo 3 s t e 3 4 (by decide) (by decide)⟩
  have c95 : c 3 9 = a 3 9 ∧ c 3 5 = a 3 5 ∧ c 3 4 = a 3 4 := by
    by_cases c0 : a 3 9 = 0
    · rw [if_pos c0] at hc
      have : P1 (bv (fSu_putSunset 3 a) (fun s16 => fSu_letClimbersGo 3 s16)) (fun c => c 3 9 = a 3 9 ∧ c 3 5 = a 3 5 ∧ c 3 4 = a 3 4) := p1_bv (fun d hd => fun c hc => by
        obtain ⟨q1, q2, q4⟩ := L hc
        exact ⟨q1.trans (fr_Su_putSunset 3 a d hd 3 9 (by decide) (by decide)), q2.trans (fr_Su_putSunset 3 a d hd 3 5 (by decide) (by decide)), q4.trans (fr_Su_putSunset 3 a d hd 3 4 (by decide) (by decide))⟩)
      exact this c hc
    · rw [if_neg c0] at hc
      exact L hc
  obtain ⟨c9, c5⟩ := c95
  refine p1_m (Q' := fun x => x.2 3 8 = c 3 8 ∧ x.2 3 9 = (if a 3 9 + 1 ≤ 59 then a 3 9 + 1 else 0) ∧ (a 3 9 = c 3 8 → x.2 3 3 = a 3 5 ∧ x.2 3 2 = a 3 4)) ?_ (fun x hx => ⟨c, hc, hx⟩)
  refine p1_lp (fun _ s => s 3 8 = c 3 8 ∧ s 3 9 = a 3 9 ∧ (a 3 9 = c 3 8 → s 3 5 = a 3 5 ∧ s 3 4 = a 3 4)) ?_ FU _ _ ⟨rfl, c9, fun _ => c5⟩
  intro q v s ⟨h8, h9, h5⟩ hq
  have tail : ∀ (J : Sg → Option (Int32 × Sg)), (∀ t, t 3 8 = c 3 8 → t 3 9 = a 3 9 → (a 3 9 = c 3 8 → t 3 3 = a 3 5 ∧ t 3 2 = a 3 4) → P1 (J t) (fun x => x.2 3 8 = c 3 8 ∧ x.2 3 9 = (if a 3 9 + 1 ≤ 59 then a 3 9 + 1 else 0) ∧ (a 3 9 = c 3 8 → x.2 3 3 = a 3 5 ∧ x.2 3 2 = a 3 4))) → P1 (if s 3 9 = s 3 8 then (bv (fSu_fallNight 3 0 s) fun s7 => J s7) else J s) (fun x => x.2 3 8 = c 3 8 ∧ x.2 3 9 = (if a 3 9 + 1 ≤ 59 then a 3 9 + 1 else 0) ∧ (a 3 9 = c 3 8 → x.2 3 3 = a 3 5 ∧ x.2 3 2 = a 3 4)) := fun J hJ => by
    refine p1_if (fun e => ?_) (fun e => ?_)
    · refine p1_bv (p1_m (p1_night s) (fun t ⟨q3, q8, q9⟩ => hJ t (q8.trans h8) (q9.trans h9) (fun e2 => ⟨q3.1.trans (h5 e2).1, q3.2.trans (h5 e2).2⟩)))
    · exact hJ s h8 h9 (fun e2 => absurd (h9.trans (e2.trans h8.symm)) e)
  refine p1_j (fun J => P1 (J s) (fun x => x.2 3 8 = c 3 8 ∧ x.2 3 9 = (if a 3 9 + 1 ≤ 59 then a 3 9 + 1 else 0) ∧ (a 3 9 = c 3 8 → x.2 3 3 = a 3 5 ∧ x.2 3 2 = a 3 4))) ?_ ?_
  · refine p1_j (fun J => ∀ t, t 3 8 = c 3 8 → t 3 9 = a 3 9 → (a 3 9 = c 3 8 → t 3 3 = a 3 5 ∧ t 3 2 = a 3 4) → P1 (J t) (fun x => x.2 3 8 = c 3 8 ∧ x.2 3 9 = (if a 3 9 + 1 ≤ 59 then a 3 9 + 1 else 0) ∧ (a 3 9 = c 3 8 → x.2 3 3 = a 3 5 ∧ x.2 3 2 = a 3 4))) ?_ (fun J hJ => tail J hJ)
    intro t t8 t9 t3
    refine p1_bv (p1_m (p1_clock t) (fun u ⟨q3, q8, q9⟩ => p1_s ⟨q8.trans t8, ?_, fun e => ⟨q3.1.trans (t3 e).1, q3.2.trans (t3 e).2⟩⟩))
    show u 3 9 = _
    rw [q9, t9]
  · intro J hJ
    refine p1_if (fun _ => hJ) (fun g => p1_if (fun _ => hJ) (fun _ => ?_))
    have ne : ¬ a 3 9 = c 3 8 := fun e => g (by rw [h8, h9, e]; exact Int32.le_refl _)
    have nx : ∀ (u : Int32 × Int32) t, t 3 8 = c 3 8 → t 3 9 = a 3 9 → P1 (q u t) _ := fun u t t8 t9 => hq u t ⟨t8, t9, fun e => absurd e ne⟩
    refine p1_bi (fun z ez => ?_)
    have z8 : z.2 3 8 = s 3 8 := fr_Sc_tell 3 _ 5 s z ez 3 8 (by decide) (by decide)
    have z9 : z.2 3 9 = s 3 9 := fr_Sc_tell 3 _ 5 s z ez 3 9 (by decide) (by decide)
    dsimp only
    refine p1_j (fun J => ∀ d t, t 3 8 = c 3 8 → t 3 9 = a 3 9 → P1 (J d t) (fun x => x.2 3 8 = c 3 8 ∧ x.2 3 9 = (if a 3 9 + 1 ≤ 59 then a 3 9 + 1 else 0) ∧ (a 3 9 = c 3 8 → x.2 3 3 = a 3 5 ∧ x.2 3 2 = a 3 4))) (fun d t t8 t9 => nx _ t t8 t9) ?_
    intro K hK
    refine p1_if (fun _ => ?_) (fun _ => hK _ _ (z8.trans h8) (z9.trans h9))
    refine p1_bi (fun y ey => ?_)
    have y8 : y.2 3 8 = z.2 3 8 := fr_Sc_isUp 3 _ z.2 y ey 3 8 (by decide) (by decide)
    have y9 : y.2 3 9 = z.2 3 9 := fr_Sc_isUp 3 _ z.2 y ey 3 9 (by decide) (by decide)
    refine p1_if (fun _ => ?_) (fun _ => ?_)
    · refine p1_bv (fun x ex => hK _ _ ?_ ?_)
      · exact (fr_Su_climb 3 _ y.2 x ex 3 8 (by decide) (by decide)).trans (y8.trans (z8.trans h8))
      · exact (fr_Su_climb 3 _ y.2 x ex 3 9 (by decide) (by decide)).trans (y9.trans (z9.trans h9))
    · refine p1_bi (fun x ex => ?_)
      have x8 : x.2 3 8 = y.2 3 8 := fr_Su_speaks 3 _ 0 y.2 x ex 3 8 (by decide) (by decide)
      have x9 : x.2 3 9 = y.2 3 9 := fr_Su_speaks 3 _ 0 y.2 x ex 3 9 (by decide) (by decide)
      exact p1_if (fun _ => hK _ _ (x8.trans (y8.trans (z8.trans h8))) (x9.trans (y9.trans (z9.trans h9)))) (fun _ => hK _ _ (x8.trans (y8.trans (z8.trans h8))) (x9.trans (y9.trans (z9.trans h9))))
/-! the beginning of a minute, twice -/
def lpC (b : Sg) : Option Sg := lp FU (fun q62 (u62 : Int32) (s3 : Sg) => if (4 * (s3 102 34)) ≤ u62 then (some s3) else (gd u62 128 (gd 0 50 (bnd (fun (s4 : Sg) => q62 (u62 + 4) s4) fun j145 => if (s3 120 (ix u62)) = (s3 103 (ix 0)) then (gd (u62 + 3) 128 (gd 3 50 (if (s3 120 (ix (u62 + 3))) = (s3 103 (ix 3)) then (gd (u62 + 1) 128 (bi (fM_isGoing (s3 120 (ix (u62 + 1))) s3) fun r6 s5 => if r6 = 0 then (gd (u62 + 1) 128 (gd (u62 + 2) 128 (gd (30 + (s5 120 (ix (u62 + 1)))) 50 (bnd (pt s5 103 (ix (30 + (s5 120 (ix (u62 + 1))))) ((s5 120 (ix (u62 + 2))) + 1)) fun s7 => j145 s7)))) else (j145 s5))) else (j145 s3)))) else (j145 s3))))) 0 b
def ClK (s : Sg) (N : Nat) : Prop := N ≤ 16 ∧ s 102 34 = nI N ∧ ∀ i, i < N → (∃ w, w < 10 ∧ s 120 (i * 4 + 1) = nI w) ∧ bd (s 120 (i * 4 + 2)) 19
def FxK (s t : Sg) (i : Nat) : Prop := ∀ j, j < i → s 120 (j * 4) = s 103 0 → s 120 (j * 4 + 3) = s 103 3 → ∀ w, w < 10 → s 120 (j * 4 + 1) = nI w → ¬ t 103 (30 + w) ≤ 0
theorem lpC_a {s : Sg} {N : Nat} (h : ClK s N) : W1 (lpC s) (fun t => (∀ q, q ≠ 103 → t q = s q) ∧ (∀ j, j < 30 → t 103 j = s 103 j) ∧ FxK s t N) := by
  obtain ⟨hN, e34, hrow⟩ := h
  unfold lpC
  refine w1_lp (fun k u t => ∃ i, i + k = N ∧ u = nI (i * 4) ∧ (∀ q, q ≠ 103 → t q = s q) ∧ (∀ j, j < 30 → t 103 j = s 103 j) ∧ FxK s t i) ?_ FU N _ _ (FU_lt (by omega)) ⟨0, by omega, rfl, fun _ _ => rfl, fun _ _ => rfl, fun j hj => absurd hj (Nat.not_lt_zero _)⟩
  rintro q k u t ⟨i, hi, rfl, hq1, hq2, hF⟩ hq
  rw [hq1 102 (by decide), e34, show 4 * nI N = nI (4 * N) from pk_mul 4 N]
  refine w1_if (fun c => ?_) (fun c => ?_)
  · rw [nI_leI (by omega) (by omega)] at c
    obtain rfl : i = N := by omega
    exact w1_s ⟨hq1, hq2, hF⟩
  rw [nI_leI (by omega) (by omega)] at c
  obtain ⟨⟨w, hw, ew⟩, ⟨x, hx, ex⟩⟩ := hrow i (by omega)
  have t120 : t 120 = s 120 := hq1 120 (by decide)
  have G : ∀ {R : Type} (f : Option R) (j : Nat), j < 4 → gd (nI (i * 4 + j)) 128 f = f := fun f j hj => gd_n f (by omega) (by decide)
  have e1' : nI (i * 4) + 1 = nI (i * 4 + 1) := nI_add _ 1
  have e2' : nI (i * 4) + 2 = nI (i * 4 + 2) := nI_add _ 2
  have e3' : nI (i * 4) + 3 = nI (i * 4 + 3) := nI_add _ 3
  have e4' : nI (i * 4) + 4 = nI ((i + 1) * 4) := by rw [show (4 : Int32) = nI 4 from rfl, nI_add]; congr 1; omega
  simp only [bnd_x, e1', e2', e3', e4', gc0, gc3, ic0, ic3, gd_n _ (show i * 4 < 128 by omega) (show 128 < 2 ^ 31 by decide), G _ 1 (by decide), G _ 2 (by decide), G _ 3 (by decide), ix_n (show i * 4 < 2 ^ 31 by omega), ix_n (show i * 4 + 1 < 2 ^ 31 by omega), ix_n (show i * 4 + 2 < 2 ^ 31 by omega), ix_n (show i * 4 + 3 < 2 ^ 31 by omega), t120, hq2 0 (by decide), hq2 3 (by decide), ew]
  have nx : (s 120 (i * 4) = s 103 0 → s 120 (i * 4 + 3) = s 103 3 → ¬ t 103 (30 + w) ≤ 0) → W1 (q (nI ((i + 1) * 4)) t) _ := fun hd => hq (k - 1) _ _ (by omega) ⟨i + 1, by omega, rfl, hq1, hq2, fun j hj d1 d2 w' hw' ew' => by
    by_cases e : j = i
    · subst e
      have : w' = w := nI_inj (by omega) (by omega) (ew'.symm.trans ew)
      subst this
      exact hd d1 d2
    · exact hF j (by omega) d1 d2 w' hw' ew'⟩
  refine w1_if (fun d1 => ?_) (fun d1 => nx (fun e => absurd e d1))
  refine w1_if (fun d2 => ?_) (fun d2 => nx (fun _ e => absurd e d2))
  unfold fM_isGoing
  rw [n30, gd50 _ (by omega), ix_n (by omega)]
  by_cases d3 : t 103 (30 + w) ≤ 0
  · rw [if_pos d3, gb_0, bi_s, if_pos rfl, t120, ew, ex, n30, gd50 _ (by omega), ix_n (by omega), nI_1]
    refine hq (k - 1) _ _ (by omega) ⟨i + 1, by omega, rfl, fun q h => by rw [ptq _ _ _ h]; exact hq1 q h, fun j hj => by rw [pt_k _ _ _ (by omega)]; exact hq2 j hj, fun j hj d1 d2 w' hw' ew' => ?_⟩
    by_cases e : w' = w
    · subst e
      rw [pt_s]
      exact nI_nle (by omega) (by omega)
    · rw [pt_k _ _ _ (by omega)]
      by_cases e2 : j = i
      · subst e2
        exact absurd (nI_inj (by omega) (by omega) (ew'.symm.trans ew)) e
      · exact hF j (by omega) d1 d2 w' hw' ew'
  · rw [if_neg d3, gb_1, bi_s, if_neg n10z]
    exact nx (fun _ _ => d3)
theorem lpC_b {s : Sg} {N : Nat} (h : ClK s N) (hF : FxK s s N) : W1 (lpC s) (fun t => t = s) := by
  obtain ⟨hN, e34, hrow⟩ := h
  unfold lpC
  refine w1_lp (fun k u t => t = s ∧ ∃ i, i + k = N ∧ u = nI (i * 4)) ?_ FU N _ _ (FU_lt (by omega)) ⟨rfl, 0, by omega, rfl⟩
  rintro q k u t ⟨rfl, i, hi, rfl⟩ hq
  rw [e34, show 4 * nI N = nI (4 * N) from pk_mul 4 N]
  refine w1_if (fun c => w1_s rfl) (fun c => ?_)
  rw [nI_leI (by omega) (by omega)] at c
  obtain ⟨⟨w, hw, ew⟩, ⟨x, hx, ex⟩⟩ := hrow i (by omega)
  have G : ∀ {R : Type} (f : Option R) (j : Nat), j < 4 → gd (nI (i * 4 + j)) 128 f = f := fun f j hj => gd_n f (by omega) (by decide)
  have e1' : nI (i * 4) + 1 = nI (i * 4 + 1) := nI_add _ 1
  have e3' : nI (i * 4) + 3 = nI (i * 4 + 3) := nI_add _ 3
  have e4' : nI (i * 4) + 4 = nI ((i + 1) * 4) := by rw [show (4 : Int32) = nI 4 from rfl, nI_add]; congr 1; omega
  simp only [bnd_x, e1', e3', e4', gc0, gc3, ic0, ic3, gd_n _ (show i * 4 < 128 by omega) (show 128 < 2 ^ 31 by decide), G _ 1 (by decide), G _ 3 (by decide), ix_n (show i * 4 < 2 ^ 31 by omega), ix_n (show i * 4 + 1 < 2 ^ 31 by omega), ix_n (show i * 4 + 3 < 2 ^ 31 by omega), ew]
  have nx : W1 (q (nI ((i + 1) * 4)) t) _ := hq (k - 1) _ _ (by omega) ⟨rfl, i + 1, by omega, rfl⟩
  refine w1_if (fun d1 => ?_) (fun d1 => nx)
  refine w1_if (fun d2 => ?_) (fun d2 => nx)
  unfold fM_isGoing
  rw [n30, gd50 _ (by omega), ix_n (by omega), if_neg (hF i (by omega) d1 d2 w hw ew), gb_1, bi_s, if_neg n10z]
  exact nx
def fSn (s : Sg) (i k : Nat) (x : Int32) : Int32 := fld (fun j (y : Int32) => if s 121 (j * 2) = s 103 0 then s 121 (j * 2 + 1) - 40 else y) i k x
theorem fSn_id (s : Sg) : ∀ (k i : Nat), (∃ c, ∀ y, fSn s i k y = c) ∨ (∀ y, fSn s i k y = y)
  | 0, i => Or.inr (fun _ => rfl)
  | k + 1, i => by
    rcases fSn_id s k (i + 1) with ⟨c, hc⟩ | hc
    · exact Or.inl ⟨c, fun y => hc _⟩
    · by_cases h : s 121 (i * 2) = s 103 0
      · refine Or.inl ⟨s 121 (i * 2 + 1) - 40, fun y => ?_⟩
        show fSn s (i + 1) k (if s 121 (i * 2) = s 103 0 then s 121 (i * 2 + 1) - 40 else y) = _
        rw [hc, if_pos h]
      · refine Or.inr (fun y => ?_)
        show fSn s (i + 1) k (if s 121 (i * 2) = s 103 0 then s 121 (i * 2 + 1) - 40 else y) = _
        rw [hc, if_neg h]
theorem fSn_2 (s : Sg) (k i : Nat) (y : Int32) : fSn s i k (fSn s i k y) = fSn s i k y := by
  rcases fSn_id s k i with ⟨c, hc⟩ | hc
  · rw [hc, hc]
  · rw [hc, hc]
def sSn (s : Sg) (N : Nat) : Int32 := if s 103 3 = 0 then fSn s 0 N (s 103 4) else s 103 4
theorem pt_same (s : Sg) (o k : Nat) : pt s o k (s o k) = s := by
  funext q j
  by_cases h : q = o
  · subst h
    by_cases h2 : j = k
    · subst h2; rw [pt_s]
    · rw [pt_k _ _ _ h2]
  · rw [ptq _ _ _ h]
theorem pt_twice (s : Sg) (o k : Nat) (x y : Int32) : pt (pt s o k x) o k y = pt s o k y := by
  funext q j
  by_cases h : q = o
  · subst h
    by_cases h2 : j = k
    · subst h2; rw [pt_s, pt_s]
    · rw [pt_k _ _ _ h2, pt_k _ _ _ h2, pt_k _ _ _ h2]
  · rw [ptq _ _ _ h, ptq _ _ _ h, ptq _ _ _ h]
theorem beg_c {s : Sg} {N : Nat} (hN : N ≤ 16) (e36 : s 102 36 = nI N) {Q : Sg → Prop} (h : W1 (lpC (pt s 103 4 (sSn s N))) Q) : W1 (fM_begins s) Q := by
  unfold fM_begins
  by_cases c0 : s 103 3 = 0
  · unfold sSn at h
    rw [if_pos c0] at h
    refine w1_lp (fun k u t => ∃ (i : Nat) (x : Int32), i + k = N ∧ u = nI (i * 2) ∧ t = pt s 103 4 x ∧ fSn s i k x = fSn s 0 N (s 103 4)) ?_ FU N _ _ (FU_lt (by omega)) ⟨0, s 103 4, by omega, rfl, (pt_same s 103 4).symm, rfl⟩
    rintro q k u t ⟨i, x, hi, rfl, rfl, hx⟩ hq
    refine w1_j (fun J => J = fun s => lpC s) rfl ?_
    rintro J rfl
    rw [pt_o _ _ _ _ (by decide), e36, show 2 * nI N = nI (2 * N) from pk_mul 2 N]
    refine w1_if (fun c => ?_) (fun c => ?_)
    · rw [nI_leI (by omega) (by omega)] at c
      obtain rfl : k = 0 := by omega
      rw [← hx] at h
      exact h
    · rw [nI_leI (by omega) (by omega)] at c
      obtain ⟨k, rfl⟩ : ∃ y, k = y + 1 := ⟨k - 1, by omega⟩
      have e1' : nI (i * 2) + 1 = nI (i * 2 + 1) := nI_add _ 1
      have e2' : nI (i * 2) + 2 = nI ((i + 1) * 2) := by rw [show (2 : Int32) = nI 2 from rfl, nI_add]; congr 1; omega
      have k0 : pt s 103 4 x 103 0 = s 103 0 := pt_k _ _ _ (by decide)
      have k3 : pt s 103 4 x 103 3 = 0 := (pt_k _ _ _ (by decide)).trans c0
      have k121 : pt s 103 4 x 121 = s 121 := ptq _ _ _ (by decide)
      simp only [bnd_x, gc0, gc3, gc4, ic0, ic3, ic4, e1', e2', gd_n _ (show i * 2 < 64 by omega) (show 64 < 2 ^ 31 by decide), gd_n _ (show i * 2 + 1 < 64 by omega) (show 64 < 2 ^ 31 by decide), ix_n (show i * 2 < 2 ^ 31 by omega), ix_n (show i * 2 + 1 < 2 ^ 31 by omega), k0, k3, k121, if_true]
      refine w1_if (fun d => ?_) (fun d => ?_)
      · refine hq k _ _ (by omega) ⟨i + 1, _, by omega, rfl, pt_twice _ _ _ _ _, ?_⟩
        rw [← hx]
        show _ = fSn s (i + 1) k (if s 121 (i * 2) = s 103 0 then s 121 (i * 2 + 1) - 40 else x)
        rw [if_pos d]
      · refine hq k _ _ (by omega) ⟨i + 1, x, by omega, rfl, rfl, ?_⟩
        rw [← hx]
        show _ = fSn s (i + 1) k (if s 121 (i * 2) = s 103 0 then s 121 (i * 2 + 1) - 40 else x)
        rw [if_neg d]
  · unfold sSn at h
    rw [if_neg c0, pt_same] at h
    rw [show FU = 4999 + 1 from rfl, lp_s]
    refine w1_j (fun J => J = fun s => lpC s) rfl ?_
    rintro J rfl
    rw [gc3, ic3, if_neg c0, ite_self]
    exact h
/-- begun twice is begun once -/
theorem beg_2 {s : Sg} {N M : Nat} (hC : ClK s N) (hM : M ≤ 16) (e36 : s 102 36 = nI M) : W1 (fM_begins s) (fun t => fM_begins t = some t ∧ t 103 3 = s 103 3 ∧ t 103 7 = s 103 7) := by
  have hC' : ClK (pt s 103 4 (sSn s M)) N := by
    unfold ClK
    rw [ptq _ _ _ (show 102 ≠ 103 by decide), ptq _ _ _ (show 120 ≠ 103 by decide)]
    exact hC
  refine beg_c hM e36 (w1_m (lpC_a hC') (fun t ⟨h1, h2, h3⟩ => ?_))
  have q1 : ∀ q, q ≠ 103 → t q = s q := fun q hq => (h1 q hq).trans (ptq _ _ _ hq)
  have q2 : ∀ j, j < 30 → j ≠ 4 → t 103 j = s 103 j := fun j hj h4 => (h2 j hj).trans (pt_k _ _ _ h4)
  have q4 : t 103 4 = sSn s M := (h2 4 (by decide)).trans (pt_s _ _ _ _)
  refine ⟨?_, q2 3 (by decide) (by decide), q2 7 (by decide) (by decide)⟩
  have e4 : sSn t M = t 103 4 := by
    have eF : ∀ x, fSn t 0 M x = fSn s 0 M x := fun x => by unfold fSn; rw [q1 121 (by decide), q2 0 (by decide) (by decide)]
    rw [q4]
    unfold sSn
    rw [q2 3 (by decide) (by decide), q4]
    unfold sSn
    by_cases c : s 103 3 = 0
    · rw [if_pos c, if_pos c, eF, fSn_2]
    · rw [if_neg c, if_neg c]
  have hCt : ClK t N := by
    unfold ClK
    rw [q1 102 (by decide), q1 120 (by decide)]
    exact hC
  refine w1_e (beg_c hM (by rw [q1 102 (by decide)]; exact e36) ?_)
  rw [e4, pt_same]
  refine lpC_b hCt ?_
  intro j hj d1 d2 w hw ew
  refine h3 j hj ?_ ?_ w hw ?_
  · rw [← h1 120 (by decide), ← h2 0 (by decide)]; exact d1
  · rw [← h1 120 (by decide), ← h2 3 (by decide)]; exact d2
  · rw [← h1 120 (by decide)]; exact ew
