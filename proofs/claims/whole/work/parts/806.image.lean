/-! the image: what is copied holds what was copied -/
def HM (m m' : Sg) : Prop := ∀ o k, Vc o k → m' o k = m o k
theorem cAt_cp {code code' : Nat → Int32} : ∀ (p : List (Nat × Nat)) (f : Nat), cAt code f p → (∀ k, f ≤ k → k < f + p.length → code' k = code k) → cAt code' f p
  | [], _, _, _ => True.intro
  | x :: p, f, h, hk => by
    refine ⟨?_, cAt_cp p (f + 1) h.2 (fun k h1 h2 => hk k (by omega) ?_)⟩
    · rw [hk f (Nat.le_refl f) (by rw [List.length_cons]; omega)]
      exact h.1
    · rw [List.length_cons]
      omega
theorem mAt_cp {op op' arg arg' : Nat → Int32} : ∀ (p : List (Nat × Nat)) (f : Nat), mAt op arg f p → (∀ k, f ≤ k → k < f + mln p → op' k = op k ∧ arg' k = arg k) → mAt op' arg' f p
  | [], _, _, _ => True.intro
  | x :: p, f, h, hk => by
    have e : mln (x :: p) = (if x.1 = 2 then 2 else 1) + mln p := rfl
    rw [e] at hk
    obtain ⟨h1, h2⟩ := h
    refine ⟨?_, mAt_cp p _ h2 (fun k g1 g2 => hk k (by split at g1 <;> omega) (by omega))⟩
    by_cases c : x.1 = 2
    · rw [if_pos c] at h1 hk ⊢
      rw [(hk f (by omega) (by omega)).1, (hk f (by omega) (by omega)).2, (hk (f + 1) (by omega) (by omega)).1]
      exact h1
    · rw [if_neg c] at h1 hk ⊢
      rw [(hk f (by omega) (by omega)).1, (hk f (by omega) (by omega)).2]
      exact h1
theorem gLn_cp {z : Nat} {code op arg code' op' arg' : Nat → Int32} {ck cf cm ce k f m e : Int32} (hz : z ≤ 400) (h1 : ∀ k, k < 400 → code' k = code k) (h2 : ∀ k, k < 400 → op' k = op k ∧ arg' k = arg k) (h : gLn z code op arg ck cf cm ce k f m e) : gLn z code' op' arg' ck cf cm ce k f m e := by
  obtain ⟨p, q, i, i', x1, x2, x3, x4, x5, x6, x7, x8, x9, y1, y2, y3, y4, y5⟩ := h
  exact ⟨p, q, i, i', x1, x2, x3, x4, x5, x6, x7, x8, x9, cAt_cp _ _ y1 (fun k _ _ => h1 k (by omega)), cAt_cp _ _ y2 (fun k _ _ => h1 k (by omega)), mAt_cp _ _ y3 (fun k _ _ => h2 k (by omega)), mAt_cp _ _ y4 (fun k _ _ => h2 k (by omega)), y5⟩
theorem Bg_cp {c m c' m' : Sg} (hc : HC c c') (hm : HM m m') : ∀ i, Bg i c m → Bg i c' m' := by
  obtain ⟨c1, c2, c20, c21, c22, c23, c25, c26, c27, c28, c19, c29, c49, c50, c51, c52, c53, c54, c55, c56, c57, c58, c59, c60, c61, c62, c48a, c48b, c48c, c63, c64⟩ := hc
  have hf : ∀ k, k ∈ [6, 34, 36, 38, 43, 46, 49, 53, 62, 58, 59, 60] → m' 102 k = m 102 k := fun k hk => hm 102 k (vc_102 k hk)
  intro i
  match i with
  | 0 =>
    intro h
    obtain ⟨n, hn, k1, k2, x1, x2, hp⟩ := gSc_cp (f' := c' 1) (g' := c' 2) (m' := m' 103) h c1 c2 (fun k hk => hm 103 k (vc_103 k hk))
    refine ⟨n, hn, by rw [hf 6 (by decide)]; exact k1, k2, x1, x2, fun p hpn => ?_⟩
    obtain ⟨v1, v2, v3, v4, v5⟩ := vc_10 p (by omega)
    rw [hm _ _ v1, hm _ _ v2, hm _ _ v3]
    exact hp p hpn
  | 1 =>
    rintro ⟨n, N, h1, h2, h3, h4, h5, h6⟩
    refine ⟨n, N, h1, h2, by rw [c25]; exact h3, by rw [hf 34 (by decide)]; exact h4, by rw [hf 6 (by decide)]; exact h5, fun i hi => ?_⟩
    obtain ⟨y1, y2, y3⟩ := h6 i hi
    refine ⟨fun j hj => ?_, ?_, ?_⟩
    · rw [c26 _ (by omega), hm 120 _ (vc_120 _ (by omega))]; exact y1 j hj
    · rw [hm 120 _ (vc_120 _ (by omega))]; exact y2
    · rw [hm 120 _ (vc_120 _ (by omega))]; exact y3
  | 2 =>
    rintro ⟨n, h1, h2, h3, h4⟩
    refine ⟨n, h1, by rw [c27]; exact h2, by rw [hf 36 (by decide)]; exact h3, fun i hi => ?_⟩
    rw [c28 (i * 2) (by omega), c28 (i * 2 + 1) (by omega), hm 121 (i * 2) (vc_121 _ (by omega)), hm 121 (i * 2 + 1) (vc_121 _ (by omega))]
    exact h4 i hi
  | 3 =>
    rintro ⟨h1, h2⟩
    refine ⟨by rw [c19, hf 38 (by decide)]; exact h1, fun w hw => ?_⟩
    rw [c29 w hw, hm 122 w (vc_122 w hw)]
    exact h2 w hw
  | 4 =>
    rintro ⟨n, z, h1, h2, h3, h4, h5, h6⟩
    refine ⟨n, z, h1, h2, by rw [c21]; exact h3, by rw [hm 112 0 vc_112]; exact h4, by rw [c20]; exact h5, fun l hl => ?_⟩
    obtain ⟨v1, v2, v3, v4⟩ := vc_16 l (by omega)
    rw [c22 (l * 4) (by omega), c22 (l * 4 + 1) (by omega), c22 (l * 4 + 2) (by omega), c22 (l * 4 + 3) (by omega), hm _ _ v1, hm _ _ v2, hm _ _ v3, hm _ _ v4]
    exact gLn_cp h2 c23 (fun k hk => ⟨hm _ _ (vc_400 k hk).1, hm _ _ (vc_400 k hk).2⟩) (h6 l hl)
  | 5 =>
    rintro ⟨⟨n, h1, h2, h3⟩, h4⟩
    refine ⟨⟨n, h1, by rw [c49]; exact h2, by rw [hf 43 (by decide)]; exact h3⟩, fun i hi => ?_⟩
    obtain ⟨v1, v2, v3, v4, v5⟩ := vc_10 i hi
    rw [c50 (i * 2) (by omega), c50 (i * 2 + 1) (by omega), hm _ _ v4, hm _ _ v5]
    exact h4 i hi
  | 6 =>
    rintro ⟨⟨n, h1, h2, h3⟩, h4⟩
    refine ⟨⟨n, h1, by rw [c51]; exact h2, by rw [hf 46 (by decide)]; exact h3⟩, fun i hi => ?_⟩
    obtain ⟨v1, v2⟩ := vc_9 i hi
    rw [c52 (i * 2) (by omega), c52 (i * 2 + 1) (by omega), hm _ _ v1, hm _ _ v2]
    exact h4 i hi
  | 7 =>
    rintro ⟨n, h1, h2, h3, h4, h5⟩
    refine ⟨n, h1, by rw [c53]; exact h2, by rw [hf 49 (by decide)]; exact h3, fun i hi => ?_, fun a w ha hw => ?_⟩
    · rw [c54 (i * 3) (by omega), c54 (i * 3 + 1) (by omega), c54 (i * 3 + 2) (by omega)]
      exact h4 i hi
    · rw [hm 130 _ (vc_130 _ (by omega)), ledU_c n 0 (fun r _ hr => ⟨c54 _ (by omega), c54 _ (by omega), c54 _ (by omega)⟩)]
      exact h5 a w ha hw
  | 8 =>
    intro h w hw
    obtain ⟨n, v, h1, h2, h3, h4, h5, h6⟩ := h w hw
    refine ⟨n, v, h1, h2, by rw [c56 _ (by omega)]; exact h3, by rw [hm 131 w (vc_131 w hw)]; exact h4, by rw [c56 _ (by omega)]; exact h5, fun k hk => ?_⟩
    rw [hm 132 _ (vc_132 _ (by omega))]
    exact h6 k hk
  | 9 =>
    rintro ⟨⟨n, h1, h2, h3⟩, h4⟩
    refine ⟨⟨n, h1, by rw [c57]; exact h2, by rw [hf 53 (by decide)]; exact h3⟩, fun i hi => ?_⟩
    obtain ⟨v1, v2⟩ := vc_6 i hi
    rw [c58 (i * 2) (by omega), c58 (i * 2 + 1) (by omega), hm _ _ v1, hm _ _ v2]
    exact h4 i hi
  | 10 =>
    intro h
    show gRu _ _ _ _
    unfold gRu
    rw [c48a, c48b, c48c, hf 58 (by decide), hf 59 (by decide), hf 60 (by decide)]
    exact h
  | 11 =>
    rintro ⟨⟨n, h1, h2, h3⟩, h4⟩
    refine ⟨⟨n, h1, by rw [c59]; exact h2, by rw [hf 62 (by decide)]; exact h3⟩, fun i hi => ?_⟩
    rw [c60 i hi, hm 138 i (vc_138 i hi)]
    exact h4 i hi
  | 12 =>
    intro h i hi
    rw [c62 i hi, hm 139 i (vc_139 i hi)]
    exact h i hi
  | 13 =>
    intro h k hk
    rw [c64 k hk, hm 109 k (vc_109 k hk)]
    exact h k hk
  | i + 14 => intro _; exact True.intro
theorem grp_bg {a b : Sg} (i : Nat) (h : i < 14) : Grp i a b = Bg i a b := by
  match i, h with
  | 0, _ => rfl
  | 1, _ => rfl
  | 2, _ => rfl
  | 3, _ => rfl
  | 4, _ => rfl
  | 5, _ => rfl
  | 6, _ => rfl
  | 7, _ => rfl
  | 8, _ => rfl
  | 9, _ => rfl
  | 10, _ => rfl
  | 11, _ => rfl
  | 12, _ => rfl
  | 13, _ => rfl
theorem rC_no5 : ∀ i, i < 14 → (∀ o ∈ rC i, o ≠ 5) ∧ ∀ x ∈ rF i, x.1 ≠ 5 := by decide
theorem vc_z {o k : Nat} (h : Vc o k) : (o, k) ≠ (102, 0) ∧ (o, k) ≠ (102, 3) := by
  have h0 : ∀ j, j < 2137 → iP j ≠ (102, 0) ∧ iP j ≠ (102, 3) := by decide +kernel
  have := h0 _ h.1
  rw [h.2] at this
  exact this
