/-! THE PURE CLAIM: the start -/
theorem i_z : ∀ k, k < 750 → sI 64 k = sI 109 k := by decide +kernel
theorem i_tape : ∀ k, k < 400 → sI 32 k = 0 ∧ sI 110 k = 0 := by decide +kernel
theorem i_wd : ∀ k, k < 122 → sI 111 k = nI (wdL.getD k 0) := by decide +kernel
theorem i_st : ∀ k, k < 20 → sI 29 k = 0 ∧ sI 122 k = 0 := by decide +kernel
theorem i_an : ∀ i, i < 10 → sI 50 (i * 2) = 0 ∧ sI 50 (i * 2 + 1) = 0 ∧ sI 126 i = 0 ∧ sI 127 i = 0 := by decide +kernel
theorem i_wa : ∀ i, i < 9 → sI 52 (i * 2) = 0 ∧ sI 52 (i * 2 + 1) = 0 ∧ sI 128 i = 0 ∧ sI 129 i = 0 := by decide +kernel
theorem i_sp : ∀ k, k < 200 → sI 130 k = 0 := by decide +kernel
theorem i_sl : ∀ w, w < 8 → sI 56 (w * 2) = 0 ∧ sI 56 (w * 2 + 1) = 0 ∧ sI 131 w = 0 := by decide +kernel
theorem i_sk : ∀ i, i < 6 → sI 58 (i * 2) = 0 ∧ sI 58 (i * 2 + 1) = 0 ∧ sI 133 i = 0 ∧ sI 134 i = 0 := by decide +kernel
theorem i_sh : ∀ i, i < 12 → sI 60 i = 0 ∧ sI 138 i = 0 := by decide +kernel
theorem i_wo : ∀ i, i < 4 → sI 62 i = 0 ∧ sI 139 i = 0 := by decide +kernel
theorem bd_0 {x : Int32} {N : Nat} (h : x = 0) : bd x N := ⟨0, Nat.zero_le N, h⟩
theorem i_0 : Grp 0 sI sI := by
  refine ⟨0, by decide, by decide +kernel, by decide +kernel, by decide +kernel, ⟨bd_0 (by decide +kernel), bd_0 (by decide +kernel), bd_0 (by decide +kernel), by decide +kernel, ⟨(sI 103 4 + 40).toNatClampNeg, by decide +kernel, by decide +kernel, by decide +kernel⟩, bd_0 (by decide +kernel), bd_0 (by decide +kernel)⟩, fun p hp => absurd hp (Nat.not_lt_zero p)⟩
theorem inv_sI : Inv sI sI := by
  intro i
  match i with
  | 0 => exact i_0
  | 1 => exact ⟨0, 0, by decide, by decide, by decide +kernel, by decide +kernel, by decide +kernel, fun i hi => absurd hi (Nat.not_lt_zero i)⟩
  | 2 => exact ⟨0, by decide, by decide +kernel, by decide +kernel, fun i hi => absurd hi (Nat.not_lt_zero i)⟩
  | 3 =>
    refine ⟨by decide +kernel, fun w hw => ?_⟩
    obtain ⟨h1, h2⟩ := i_st w hw
    exact ⟨h1.trans h2.symm, bd_0 h2⟩
  | 4 => exact ⟨0, 0, by decide, by decide, by decide +kernel, by decide +kernel, by decide +kernel, fun l hl => absurd hl (Nat.not_lt_zero l)⟩
  | 5 =>
    refine ⟨⟨0, by decide, by decide +kernel, by decide +kernel⟩, fun i hi => ?_⟩
    obtain ⟨h1, h2, h3, h4⟩ := i_an i hi
    exact ⟨h1.trans h3.symm, h2.trans h4.symm, bd_0 h3, bd_0 h4⟩
  | 6 =>
    refine ⟨⟨0, by decide, by decide +kernel, by decide +kernel⟩, fun i hi => ?_⟩
    obtain ⟨h1, h2, h3, h4⟩ := i_wa i hi
    exact ⟨h1.trans h3.symm, h2.trans h4.symm, 0, 0, by decide, by decide, h3, h4⟩
  | 7 =>
    refine ⟨0, by decide, by decide +kernel, by decide +kernel, fun i hi => absurd hi (Nat.not_lt_zero i), fun a w ha hw => ?_⟩
    exact i_sp _ (by omega)
  | 8 =>
    intro w hw
    obtain ⟨h1, h2, h3⟩ := i_sl w hw
    exact ⟨0, 0, by decide, by decide, h1, h3, h2, fun k hk => absurd hk (Nat.not_lt_zero k)⟩
  | 9 =>
    refine ⟨⟨0, by decide, by decide +kernel, by decide +kernel⟩, fun i hi => ?_⟩
    obtain ⟨h1, h2, h3, h4⟩ := i_sk i hi
    exact ⟨h1.trans h3.symm, h2.trans h4.symm, bd_0 h3, bd_0 h4⟩
  | 10 => exact ⟨by decide +kernel, by decide +kernel, by decide +kernel, ⟨(sI 48 7).toNatClampNeg, by decide +kernel, by decide +kernel⟩, ⟨(sI 48 8).toNatClampNeg, by decide +kernel, by decide +kernel⟩, ⟨(sI 48 9).toNatClampNeg, by decide +kernel, by decide +kernel, by decide +kernel⟩⟩
  | 11 =>
    refine ⟨⟨0, by decide, by decide +kernel, by decide +kernel⟩, fun i hi => ?_⟩
    obtain ⟨h1, h2⟩ := i_sh i hi
    exact ⟨h1.trans h2.symm, bd_0 h2⟩
  | 12 =>
    intro i hi
    obtain ⟨h1, h2⟩ := i_wo i hi
    exact ⟨h1.trans h2.symm, bd_0 h2⟩
  | 13 => exact i_z
  | 14 => exact Or.inl ⟨by decide +kernel, by decide +kernel⟩
  | 15 => exact ⟨0, 0, by decide, by decide, by decide +kernel, by decide +kernel, by decide +kernel, fun j hj => absurd hj (Nat.not_lt_zero j)⟩
  | 16 =>
    refine ⟨⟨0, by decide, by decide +kernel, by decide +kernel⟩, fun k hk => ?_⟩
    obtain ⟨h1, h2⟩ := i_tape k hk
    exact ⟨h1.trans h2.symm, bd_0 h1⟩
  | 17 => exact ⟨by decide +kernel, by decide +kernel⟩
  | 18 => exact ⟨⟨by decide +kernel, by decide +kernel⟩, ⟨by decide +kernel, by decide +kernel⟩, ⟨by decide +kernel, by decide +kernel⟩, ⟨by decide +kernel, by decide +kernel⟩, ⟨by decide +kernel, by decide +kernel⟩, ⟨by decide +kernel, by decide +kernel⟩, ⟨by decide +kernel, by decide +kernel⟩, ⟨by decide +kernel, by decide +kernel⟩, ⟨by decide +kernel, by decide +kernel⟩, ⟨by decide +kernel, by decide +kernel⟩, ⟨by decide +kernel, by decide +kernel⟩, ⟨by decide +kernel, by decide +kernel⟩, ⟨by decide +kernel, by decide +kernel⟩, ⟨by decide +kernel, by decide +kernel⟩⟩
  | 19 => exact ⟨by decide +kernel, i_wd⟩
  | i + 20 => exact True.intro
