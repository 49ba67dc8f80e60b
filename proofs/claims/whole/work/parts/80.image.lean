/-! the image, on the side of the reference: a cell a step -/
def iP (j : Nat) : Nat × Nat :=
  if j < 50 then (103, j) else if j < 62 then (102, [6, 34, 36, 38, 43, 46, 49, 53, 62, 58, 59, 60].getD (j - 50) 0) else if j < 112 then ([106, 107, 108, 126, 127].getD ((j - 62) % 5) 0, (j - 62) / 5) else if j < 130 then (128 + (j - 112) % 2, (j - 112) / 2) else if j < 330 then (130, j - 130) else if j < 338 then (131, j - 330) else if j < 378 then (132, j - 338) else if j < 390 then (133 + (j - 378) % 2, (j - 378) / 2) else if j < 402 then (138, j - 390) else if j < 406 then (139, j - 402) else if j < 426 then (122, j - 406) else if j < 490 then (120, j - 426) else if j < 522 then (121, j - 490) else if j < 1272 then (109, j - 522) else if j < 1273 then (112, 0) else if j < 1337 then (113 + (j - 1273) % 4, (j - 1273) / 4) else (117 + (j - 1337) % 2, (j - 1337) / 2)
/-- a cell that the image holds -/
abbrev Vc (o k : Nat) : Prop := imP o k < 2137 ∧ iP (imP o k) = (o, k)
theorem vc_103 : ∀ k, k < 50 → Vc 103 k := by decide +kernel
theorem vc_102 : ∀ k, k ∈ [6, 34, 36, 38, 43, 46, 49, 53, 62, 58, 59, 60] → Vc 102 k := by decide +kernel
theorem vc_10 : ∀ k, k < 10 → Vc 106 k ∧ Vc 107 k ∧ Vc 108 k ∧ Vc 126 k ∧ Vc 127 k := by decide +kernel
theorem vc_9 : ∀ k, k < 9 → Vc 128 k ∧ Vc 129 k := by decide +kernel
theorem vc_130 : ∀ k, k < 200 → Vc 130 k := by decide +kernel
theorem vc_131 : ∀ k, k < 8 → Vc 131 k := by decide +kernel
theorem vc_132 : ∀ k, k < 40 → Vc 132 k := by decide +kernel
theorem vc_6 : ∀ k, k < 6 → Vc 133 k ∧ Vc 134 k := by decide +kernel
theorem vc_138 : ∀ k, k < 12 → Vc 138 k := by decide +kernel
theorem vc_139 : ∀ k, k < 4 → Vc 139 k := by decide +kernel
theorem vc_122 : ∀ k, k < 20 → Vc 122 k := by decide +kernel
theorem vc_120 : ∀ k, k < 64 → Vc 120 k := by decide +kernel
theorem vc_121 : ∀ k, k < 32 → Vc 121 k := by decide +kernel
theorem vc_109 : ∀ k, k < 750 → Vc 109 k := by decide +kernel
theorem vc_112 : Vc 112 0 := by decide +kernel
theorem vc_16 : ∀ k, k < 16 → Vc 113 k ∧ Vc 114 k ∧ Vc 115 k ∧ Vc 116 k := by decide +kernel
theorem vc_400 : ∀ k, k < 400 → Vc 117 k ∧ Vc 118 k := by decide +kernel
theorem vc_no : ∀ j, j < 2137 → (iP j).1 ≠ 141 ∧ iP j ≠ (102, 66) ∧ iP j ≠ (102, 67) ∧ iP j ≠ (102, 68) := by decide +kernel
theorem vc_n {o k : Nat} (h : Vc o k) : o ≠ 141 ∧ (o, k) ≠ (102, 66) ∧ (o, k) ≠ (102, 67) ∧ (o, k) ≠ (102, 68) := by
  have := vc_no _ h.1
  rw [h.2] at this
  exact this
theorem vc_inj {o k o' k' : Nat} (h : Vc o k) (h' : Vc o' k') (e : imP o k = imP o' k') : o = o' ∧ k = k' := by
  have := h.2
  rw [e, h'.2] at this
  exact ⟨(congrArg Prod.fst this).symm, (congrArg Prod.snd this).symm⟩
def KM (v : Int32) (s : Sg) (m : Nat) (t : Sg) : Prop :=
  t 102 68 = nI m ∧ t 102 66 = v ∧ (∀ q k, q ≠ 141 → (q, k) ≠ (102, 68) → ¬ Vc q k → t q k = s q k) ∧
  ((v = 1 ∧ (∀ q k, Vc q k → t q k = s q k) ∧ ∀ q k, Vc q k → imP q k < m → t 141 (imP q k) = s q k) ∨ (v = 0 ∧ t 141 = s 141 ∧ ∀ q k, Vc q k → imP q k < m → t q k = s 141 (imP q k)))
theorem ptf2 (s : Sg) (o k : Nat) (x : Int32) {q j : Nat} (h : (q, j) ≠ (o, k)) : pt s o k x q j = s q j := ptf _ _ _ _ _ _ (by intro c; apply h; rw [c.1, c.2])
theorem k_step {v : Int32} {s t : Sg} {m o k : Nat} (h : KM v s m t) (hv : Vc o k) (hm : imP o k = m) : W1 (fM_keptOf (t o k) t) (fun z => KM v s (m + 1) (pt z.2 o k z.1)) := by
  obtain ⟨h68, h66, hf, hc⟩ := h
  obtain ⟨n1, n2, n3, n4⟩ := vc_n hv
  have hm1 : m < 2137 := by rw [← hm]; exact hv.1
  unfold fM_keptOf
  rw [bnd_e, pt_s, pt_k _ _ _ (show 66 ≠ 68 by decide), h66, h68, nI_1, nI_pred, gd_n _ (show m < 2300 by omega) (by decide), gd_n _ (show m < 2300 by omega) (by decide), ix_n (by omega)]
  rcases hc with ⟨rfl, c1, c2⟩ | ⟨rfl, c1, c2⟩
  · rw [if_neg n10z, bnd_e]
    refine w1_s ?_
    have e : pt (pt (pt t 102 68 (nI (m + 1))) 141 m (t o k)) o k (t o k) = pt (pt t 102 68 (nI (m + 1))) 141 m (t o k) := by
      have z : pt (pt t 102 68 (nI (m + 1))) 141 m (t o k) o k = t o k := by rw [ptq _ _ _ n1, ptf2 _ _ _ _ n4]
      have := pt_same (pt (pt t 102 68 (nI (m + 1))) 141 m (t o k)) o k
      rw [z] at this
      exact this
    show KM 1 s (m + 1) (pt (pt (pt t 102 68 (nI (m + 1))) 141 m (t o k)) o k (t o k))
    rw [e]
    refine ⟨by rw [ptq _ _ _ (by decide), pt_s], by rw [ptq _ _ _ (by decide), pt_k _ _ _ (by decide)]; exact h66, fun q j q1 q2 q3 => by rw [ptq _ _ _ q1, ptf2 _ _ _ _ q2]; exact hf q j q1 q2 q3, Or.inl ⟨rfl, fun q j hq => ?_, fun q j hq hlt => ?_⟩⟩
    · obtain ⟨r1, r2, r3, r4⟩ := vc_n hq
      rw [ptq _ _ _ r1, ptf2 _ _ _ _ r4]; exact c1 q j hq
    · by_cases e2 : imP q j = m
      · obtain ⟨rfl, rfl⟩ := vc_inj hq hv (e2.trans hm.symm)
        rw [e2, pt_s]
        exact c1 q j hq
      · rw [pt_k _ _ _ e2, ptq _ _ _ (by decide)]
        exact c2 q j hq (by omega)
  · rw [if_pos rfl]
    refine w1_s ?_
    show KM 0 s (m + 1) (pt (pt t 102 68 (nI (m + 1))) o k (pt t 102 68 (nI (m + 1)) 141 m))
    rw [ptq _ _ _ (show 141 ≠ 102 by decide), c1]
    refine ⟨by rw [ptf2 _ _ _ _ (Ne.symm n4), pt_s], by rw [ptf2 _ _ _ _ (Ne.symm n2), pt_k _ _ _ (by decide)]; exact h66, fun q j q1 q2 q3 => ?_, Or.inr ⟨rfl, ?_, fun q j hq hlt => ?_⟩⟩
    · rw [ptf2 _ _ _ _ (show (q, j) ≠ (o, k) from fun c => q3 (by cases c; exact hv)), ptf2 _ _ _ _ q2]
      exact hf q j q1 q2 q3
    · rw [ptq _ _ _ (Ne.symm n1), ptq _ _ _ (by decide)]; exact c1
    · by_cases e2 : imP q j = m
      · obtain ⟨rfl, rfl⟩ := vc_inj hq hv (e2.trans hm.symm)
        rw [pt_s, e2]
      · rw [ptf2 _ _ _ _ (show (q, j) ≠ (o, k) from fun c => e2 (by cases c; exact hm)), ptf2 _ _ _ _ (vc_n hq).2.2.2]
        exact c2 q j hq (by omega)
