/-! keep, of the class -/
theorem keep_c {a : Sg} {f c : Nat} (hf : f < 6) (hc : c ≤ 6) (e1 : a 5 1 = nI f) (e2 : a 5 2 = nI c) : ∃ a' f' c', fPa_keep 1 a = some a' ∧ ((c < 6 ∧ f' = f ∧ c' = c + 1) ∨ (c = 6 ∧ f' = (f + 1) % 6 ∧ c' = 6)) ∧ a' 5 1 = nI f' ∧ a' 5 2 = nI c' ∧ (∀ k, k < 80 → a' (8 + 2 * ((f' + c' - 1) % 6)) k = a 2 k) ∧ (∀ k, 1 ≤ k → k ≤ 12 → a' (7 + 2 * ((f' + c' - 1) % 6)) k = a 1 k) ∧ ∀ x, x < 6 → x ≠ (f' + c' - 1) % 6 → a' (7 + 2 * x) = a (7 + 2 * x) ∧ a' (8 + 2 * x) = a (8 + 2 * x) := by
  have main : ∀ (s : Sg) (f' c' : Nat), f' < 6 → c' ≤ 6 → 1 ≤ c' → s 5 1 = nI f' → s 5 2 = nI c' → s 1 = a 1 → s 2 = a 2 → (∀ x, 7 ≤ x → s x = a x) → ∃ a', (br (fPa_newest s) fun r3 s2 => gk r3 5 (bv (fSc_become r3 1 s2) fun s5 => some s5)) = some a' ∧ a' 5 1 = nI f' ∧ a' 5 2 = nI c' ∧ (∀ k, k < 80 → a' (8 + 2 * ((f' + c' - 1) % 6)) k = a 2 k) ∧ (∀ k, 1 ≤ k → k ≤ 12 → a' (7 + 2 * ((f' + c' - 1) % 6)) k = a 1 k) ∧ ∀ x, x < 6 → x ≠ (f' + c' - 1) % 6 → a' (7 + 2 * x) = a (7 + 2 * x) ∧ a' (8 + 2 * x) = a (8 + 2 * x) := by
    intro s f' c' hf' hc' hc1 q1 q2 q3 q4 q5
    have hm : (f' + c' - 1) % 6 < 6 := Nat.mod_lt _ (by decide)
    obtain ⟨p1, p2⟩ := pk_rw _ hm
    obtain ⟨τ, x1, x2, x3⟩ := e_become (o := 7 + 2 * ((f' + c' - 1) % 6)) (q := 1) p1 (show hz_rf 1 0 = 2 from rfl) (by omega) (by omega) (by omega) (by omega) s
    rw [e_newest hf' hc' hc1 q1 q2, br_s, gk, if_pos p2, x1, bv_s]
    have fr := fr_Sc_become (7 + 2 * ((f' + c' - 1) % 6)) 1 s τ x1
    rw [p1] at fr
    have frn : ∀ o k, o ≠ 7 + 2 * ((f' + c' - 1) % 6) → o ≠ 8 + 2 * ((f' + c' - 1) % 6) → τ o k = s o k := fun o k n1 n2 => fr o k (by simpa using n2) (by simp [n1])
    refine ⟨τ, rfl, ?_, ?_, ?_, ?_, ?_⟩
    · rw [frn 5 1 (by omega) (by omega)]; exact q1
    · rw [frn 5 2 (by omega) (by omega)]; exact q2
    · intro k hk; rw [x2 k hk, q4]
    · intro k h1 h2; rw [x3 k h1 h2, q3]
    · intro x hx hne
      refine ⟨funext fun k => ?_, funext fun k => ?_⟩
      · rw [frn _ k (by omega) (by omega), q5 _ (by omega)]
      · rw [frn _ k (by omega) (by omega), q5 _ (by omega)]
  unfold fPa_keep
  simp only [bnd_e, e1, e2]
  by_cases h : c = 6
  · subst h
    rw [if_pos (by decide), gz_n _ (by decide), nI_1, show (6 : Int32) = nI 6 from rfl, pk_rem (by omega) (by decide) (by decide)]
    have hm : (f + 1) % 6 < 6 := Nat.mod_lt _ (by decide)
    obtain ⟨a', y1, y2, y3, y4, y5, y6⟩ := main (pt a 5 1 (nI ((f + 1) % 6))) ((f + 1) % 6) 6 hm (by omega) (by omega) (pt_s _ _ _ _) (by rw [pt_k _ _ _ (by decide)]; exact e2) (ptq _ _ _ (by decide)) (ptq _ _ _ (by decide)) (fun x hx => ptq _ _ _ (by omega))
    exact ⟨a', _, 6, y1, Or.inr ⟨rfl, rfl, rfl⟩, y2, y3, y4, y5, y6⟩
  · rw [if_neg (show ¬ (6 : Int32) ≤ nI c from nI_ge (b := 6) (by omega) (by decide)), nI_1]
    obtain ⟨a', y1, y2, y3, y4, y5, y6⟩ := main (pt a 5 2 (nI (c + 1))) f (c + 1) hf (by omega) (by omega) (by rw [pt_k _ _ _ (by decide)]; exact e1) (pt_s _ _ _ _) (ptq _ _ _ (by decide)) (ptq _ _ _ (by decide)) (fun x hx => ptq _ _ _ (by omega))
    exact ⟨a', f, c + 1, y1, Or.inl ⟨by omega, rfl, rfl⟩, y2, y3, y4, y5, y6⟩
