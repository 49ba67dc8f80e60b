def rC : Nat → List Nat
  | 0 => [1, 2]
  | 1 => [25, 26]
  | 2 => [27, 28]
  | 3 => [29]
  | 4 => [21, 22, 23]
  | 5 => [49, 50]
  | 6 => [51, 52]
  | 7 => [53, 54]
  | 8 => [56]
  | 9 => [57, 58]
  | 10 => []
  | 11 => [59, 60]
  | 12 => [62]
  | 13 => [64]
  | 14 => [72, 73, 74, 75, 76, 77, 78, 79, 80, 81, 82, 83, 84, 85, 86, 87, 88, 89, 90, 91, 92, 93, 94, 95, 96, 97, 98, 99, 100, 101]
  | 15 => [7, 8, 9, 10, 11, 12, 13, 14, 15, 16, 17, 18]
  | 16 => [32]
  | 17 => []
  | 18 => []
  | 19 => []
  | _ => []
def rF : Nat → List (Nat × Nat)
  | 0 => []
  | 1 => []
  | 2 => []
  | 3 => [(19, 4)]
  | 4 => [(20, 3)]
  | 5 => []
  | 6 => []
  | 7 => []
  | 8 => []
  | 9 => []
  | 10 => [(48, 7), (48, 8), (48, 9)]
  | 11 => []
  | 12 => []
  | 13 => []
  | 14 => [(71, 4)]
  | 15 => [(5, 1), (5, 2)]
  | 16 => [(31, 4)]
  | 17 => [(30, 3), (30, 4)]
  | 18 => [(21, 0), (21, 1), (25, 0), (25, 1), (27, 0), (27, 1), (38, 0), (38, 1), (42, 0), (42, 1), (44, 0), (44, 1), (49, 0), (49, 1), (51, 0), (51, 1), (53, 0), (53, 1), (55, 0), (55, 1), (57, 0), (57, 1), (59, 0), (59, 1), (61, 0), (61, 1), (63, 0), (63, 1)]
  | 19 => []
  | _ => []
def rM : Nat → List Nat
  | 0 => [103, 106, 107, 108]
  | 1 => [120]
  | 2 => [121]
  | 3 => [122]
  | 4 => [113, 114, 115, 116, 117, 118]
  | 5 => [126, 127]
  | 6 => [128, 129]
  | 7 => [130]
  | 8 => [131, 132]
  | 9 => [133, 134]
  | 10 => []
  | 11 => [138]
  | 12 => [139]
  | 13 => [109]
  | 14 => [141]
  | 15 => [104, 106, 107, 108]
  | 16 => [110]
  | 17 => []
  | 18 => []
  | 19 => [111]
  | _ => []
def rG : Nat → List (Nat × Nat)
  | 0 => [(102, 6)]
  | 1 => [(102, 34), (102, 6)]
  | 2 => [(102, 36)]
  | 3 => [(102, 38)]
  | 4 => [(112, 0)]
  | 5 => [(102, 43)]
  | 6 => [(102, 46)]
  | 7 => [(102, 49)]
  | 8 => []
  | 9 => [(102, 53)]
  | 10 => [(102, 58), (102, 59), (102, 60)]
  | 11 => [(102, 62)]
  | 12 => []
  | 13 => []
  | 14 => [(102, 67)]
  | 15 => [(102, 3), (102, 6)]
  | 16 => [(102, 12)]
  | 17 => [(102, 32), (102, 33)]
  | 18 => []
  | 19 => [(102, 5)]
  | _ => []
theorem Bg_keep {c m c' m' : Sg} : ∀ (i : Nat), Bg i c m → (∀ o ∈ rC i, c' o = c o) → (∀ x ∈ rF i, c' x.1 x.2 = c x.1 x.2) → (∀ o ∈ rM i, m' o = m o) → (∀ x ∈ rG i, m' x.1 x.2 = m x.1 x.2) → i < 14 → Bg i c' m'
  | 0, h, k1, k2, k3, k4, _ => by
    have e1 := k1 1 (by decide)
    have e2 := k1 2 (by decide)
    have e3 := k3 103 (by decide)
    have e4 := k3 106 (by decide)
    have e5 := k3 107 (by decide)
    have e6 := k3 108 (by decide)
    have e7 := k4 (102, 6) (by decide)
    try dsimp only at e1 e2 e3 e4 e5 e6 e7
    simp only [Bg] at h ⊢
    rw [e1, e2, e3, e4, e5, e6, e7]
    exact h
  | 1, h, k1, k2, k3, k4, _ => by
    have e1 := k1 25 (by decide)
    have e2 := k1 26 (by decide)
    have e3 := k3 120 (by decide)
    have e4 := k4 (102, 34) (by decide)
    have e5 := k4 (102, 6) (by decide)
    try dsimp only at e1 e2 e3 e4 e5
    simp only [Bg] at h ⊢
    rw [e1, e2, e3, e4, e5]
    exact h
  | 2, h, k1, k2, k3, k4, _ => by
    have e1 := k1 27 (by decide)
    have e2 := k1 28 (by decide)
    have e3 := k3 121 (by decide)
    have e4 := k4 (102, 36) (by decide)
    try dsimp only at e1 e2 e3 e4
    simp only [Bg] at h ⊢
    rw [e1, e2, e3, e4]
    exact h
  | 3, h, k1, k2, k3, k4, _ => by
    have e1 := k1 29 (by decide)
    have e2 := k2 (19, 4) (by decide)
    have e3 := k3 122 (by decide)
    have e4 := k4 (102, 38) (by decide)
    try dsimp only at e1 e2 e3 e4
    simp only [Bg] at h ⊢
    rw [e1, e2, e3, e4]
    exact h
  | 4, h, k1, k2, k3, k4, _ => by
    have e1 := k1 21 (by decide)
    have e2 := k1 22 (by decide)
    have e3 := k1 23 (by decide)
    have e4 := k2 (20, 3) (by decide)
    have e5 := k3 113 (by decide)
    have e6 := k3 114 (by decide)
    have e7 := k3 115 (by decide)
    have e8 := k3 116 (by decide)
    have e9 := k3 117 (by decide)
    have e10 := k3 118 (by decide)
    have e11 := k4 (112, 0) (by decide)
    try dsimp only at e1 e2 e3 e4 e5 e6 e7 e8 e9 e10 e11
    simp only [Bg] at h ⊢
    rw [e1, e2, e3, e4, e5, e6, e7, e8, e9, e10, e11]
    exact h
  | 5, h, k1, k2, k3, k4, _ => by
    have e1 := k1 49 (by decide)
    have e2 := k1 50 (by decide)
    have e3 := k3 126 (by decide)
    have e4 := k3 127 (by decide)
    have e5 := k4 (102, 43) (by decide)
    try dsimp only at e1 e2 e3 e4 e5
    simp only [Bg] at h ⊢
    rw [e1, e2, e3, e4, e5]
    exact h
  | 6, h, k1, k2, k3, k4, _ => by
    have e1 := k1 51 (by decide)
    have e2 := k1 52 (by decide)
    have e3 := k3 128 (by decide)
    have e4 := k3 129 (by decide)
    have e5 := k4 (102, 46) (by decide)
    try dsimp only at e1 e2 e3 e4 e5
    simp only [Bg] at h ⊢
    rw [e1, e2, e3, e4, e5]
    exact h
  | 7, h, k1, k2, k3, k4, _ => by
    have e1 := k1 53 (by decide)
    have e2 := k1 54 (by decide)
    have e3 := k3 130 (by decide)
    have e4 := k4 (102, 49) (by decide)
    try dsimp only at e1 e2 e3 e4
    simp only [Bg] at h ⊢
    rw [e1, e2, e3, e4]
    exact h
  | 8, h, k1, k2, k3, k4, _ => by
    have e1 := k1 56 (by decide)
    have e2 := k3 131 (by decide)
    have e3 := k3 132 (by decide)
    try dsimp only at e1 e2 e3
    simp only [Bg] at h ⊢
    rw [e1, e2, e3]
    exact h
  | 9, h, k1, k2, k3, k4, _ => by
    have e1 := k1 57 (by decide)
    have e2 := k1 58 (by decide)
    have e3 := k3 133 (by decide)
    have e4 := k3 134 (by decide)
    have e5 := k4 (102, 53) (by decide)
    try dsimp only at e1 e2 e3 e4 e5
    simp only [Bg] at h ⊢
    rw [e1, e2, e3, e4, e5]
    exact h
  | 10, h, k1, k2, k3, k4, _ => by
    have e1 := k2 (48, 7) (by decide)
    have e2 := k2 (48, 8) (by decide)
    have e3 := k2 (48, 9) (by decide)
    have e4 := k4 (102, 58) (by decide)
    have e5 := k4 (102, 59) (by decide)
    have e6 := k4 (102, 60) (by decide)
    dsimp only at e1 e2 e3 e4 e5 e6
    simp only [Bg, gRu] at h ⊢
    rw [e1, e2, e3, e4, e5, e6]
    exact h
  | 11, h, k1, k2, k3, k4, _ => by
    have e1 := k1 59 (by decide)
    have e2 := k1 60 (by decide)
    have e3 := k3 138 (by decide)
    have e4 := k4 (102, 62) (by decide)
    try dsimp only at e1 e2 e3 e4
    simp only [Bg] at h ⊢
    rw [e1, e2, e3, e4]
    exact h
  | 12, h, k1, k2, k3, k4, _ => by
    have e1 := k1 62 (by decide)
    have e2 := k3 139 (by decide)
    try dsimp only at e1 e2
    simp only [Bg] at h ⊢
    rw [e1, e2]
    exact h
  | 13, h, k1, k2, k3, k4, _ => by
    have e1 := k1 64 (by decide)
    have e2 := k3 109 (by decide)
    try dsimp only at e1 e2
    simp only [Bg] at h ⊢
    rw [e1, e2]
    exact h
  | i + 14, _, _, _, _, _, q => by omega
theorem Bg_big {c m : Sg} (i : Nat) (h : 14 ≤ i) : Bg i c m := by
  match i, h with
  | i + 14, _ => exact True.intro
theorem pk_ps : ∀ x, x < 6 → 7 + 2 * x ∈ rC 15 ∧ 8 + 2 * x ∈ rC 15 := by decide
theorem pk_im : ∀ i, i < 14 → (∀ o ∈ rC i, im o ∈ rC 14) ∧ ∀ x ∈ rF i, im x.1 ∈ rC 14 := by decide
theorem Grp_keep {a b a' b' : Sg} : ∀ (i : Nat), Grp i a b → (∀ o ∈ rC i, a' o = a o) → (∀ x ∈ rF i, a' x.1 x.2 = a x.1 x.2) → (∀ o ∈ rM i, b' o = b o) → (∀ x ∈ rG i, b' x.1 x.2 = b x.1 x.2) → Grp i a' b'
  | 14, h, k1, k2, k3, k4 => by
    have e1 := k2 (71, 4) (by decide)
    have e2 := k4 (102, 67) (by decide)
    have e3 := k3 141 (by decide)
    dsimp only at e1 e2 e3
    simp only [Grp, gIm] at h ⊢
    rw [e1, e2]
    refine h.imp id (fun h => ⟨h.1, h.2.1, fun i => ?_⟩)
    by_cases hi : i < 14
    · refine Bg_keep i (h.2.2 i) (fun o ho => k1 _ ((pk_im i hi).1 o ho)) (fun x hx => ?_) (fun o _ => ?_) (fun x _ => ?_) hi
      · show a' (im x.1) x.2 = a (im x.1) x.2
        rw [k1 _ ((pk_im i hi).2 x hx)]
      · funext k
        show b' 141 _ = b 141 _
        rw [e3]
      · show b' 141 _ = b 141 _
        rw [e3]
    · exact Bg_big i (by omega)
  | 15, h, k1, k2, k3, k4 => by
    have e1 := k2 (5, 1) (by decide)
    have e2 := k2 (5, 2) (by decide)
    have e3 := k4 (102, 3) (by decide)
    have e4 := k4 (102, 6) (by decide)
    have e5 := k3 104 (by decide)
    have e6 := k3 106 (by decide)
    have e7 := k3 107 (by decide)
    have e8 := k3 108 (by decide)
    dsimp only at e1 e2 e3 e4 e5 e6 e7 e8
    simp only [Grp, gPs] at h ⊢
    obtain ⟨f, c, h1, h2, h3, h4, h5, h6⟩ := h
    refine ⟨f, c, h1, h2, by rw [e1]; exact h3, by rw [e2]; exact h4, by rw [e3]; exact h5, fun j hj => ?_⟩
    have hm : (f + j) % 6 < 6 := Nat.mod_lt _ (by decide)
    rw [k1 _ (pk_ps _ hm).1, k1 _ (pk_ps _ hm).2, e4, e5, e6, e7, e8]
    exact h6 j hj
  | 16, h, k1, k2, k3, k4 => by
    have e1 := k2 (31, 4) (by decide)
    have e2 := k4 (102, 12) (by decide)
    have e3 := k1 32 (by decide)
    have e4 := k3 110 (by decide)
    dsimp only at e1 e2 e3 e4
    simp only [Grp, gTp] at h ⊢
    rw [e1, e2, e3, e4]
    exact h
  | 17, h, k1, k2, k3, k4 => by
    have e1 := k2 (30, 3) (by decide)
    have e2 := k2 (30, 4) (by decide)
    have e3 := k4 (102, 32) (by decide)
    have e4 := k4 (102, 33) (by decide)
    dsimp only at e1 e2 e3 e4
    simp only [Grp, gFt] at h ⊢
    rw [e1, e2, e3, e4]
    exact h
  | 18, h, k1, k2, k3, k4 => by
    have e : ∀ t, (t, 0) ∈ rF 18 → (t, 1) ∈ rF 18 → ∀ w l, tc (a t) w l → tc (a' t) w l := fun t p q w l hh => ⟨by rw [k2 (t, 0) p]; exact hh.1, by rw [k2 (t, 1) q]; exact hh.2⟩
    obtain ⟨x1, x2, x3, x4, x5, x6, x7, x8, x9, x10, x11, x12, x13, x14⟩ := h
    exact ⟨e _ (by decide) (by decide) _ _ x1, e _ (by decide) (by decide) _ _ x2, e _ (by decide) (by decide) _ _ x3, e _ (by decide) (by decide) _ _ x4, e _ (by decide) (by decide) _ _ x5, e _ (by decide) (by decide) _ _ x6, e _ (by decide) (by decide) _ _ x7, e _ (by decide) (by decide) _ _ x8, e _ (by decide) (by decide) _ _ x9, e _ (by decide) (by decide) _ _ x10, e _ (by decide) (by decide) _ _ x11, e _ (by decide) (by decide) _ _ x12, e _ (by decide) (by decide) _ _ x13, e _ (by decide) (by decide) _ _ x14⟩
  | 19, h, k1, k2, k3, k4 => by
    have e1 := k4 (102, 5) (by decide)
    have e2 := k3 111 (by decide)
    dsimp only at e1 e2
    simp only [Grp] at h ⊢
    rw [e1, e2]
    exact h
  | 0, h, k1, k2, k3, k4 => Bg_keep 0 h k1 k2 k3 k4 (by decide)
  | 1, h, k1, k2, k3, k4 => Bg_keep 1 h k1 k2 k3 k4 (by decide)
  | 2, h, k1, k2, k3, k4 => Bg_keep 2 h k1 k2 k3 k4 (by decide)
  | 3, h, k1, k2, k3, k4 => Bg_keep 3 h k1 k2 k3 k4 (by decide)
  | 4, h, k1, k2, k3, k4 => Bg_keep 4 h k1 k2 k3 k4 (by decide)
  | 5, h, k1, k2, k3, k4 => Bg_keep 5 h k1 k2 k3 k4 (by decide)
  | 6, h, k1, k2, k3, k4 => Bg_keep 6 h k1 k2 k3 k4 (by decide)
  | 7, h, k1, k2, k3, k4 => Bg_keep 7 h k1 k2 k3 k4 (by decide)
  | 8, h, k1, k2, k3, k4 => Bg_keep 8 h k1 k2 k3 k4 (by decide)
  | 9, h, k1, k2, k3, k4 => Bg_keep 9 h k1 k2 k3 k4 (by decide)
  | 10, h, k1, k2, k3, k4 => Bg_keep 10 h k1 k2 k3 k4 (by decide)
  | 11, h, k1, k2, k3, k4 => Bg_keep 11 h k1 k2 k3 k4 (by decide)
  | 12, h, k1, k2, k3, k4 => Bg_keep 12 h k1 k2 k3 k4 (by decide)
  | 13, h, k1, k2, k3, k4 => Bg_keep 13 h k1 k2 k3 k4 (by decide)
  | i + 20, _, _, _, _, _ => True.intro
theorem Grp_big {a b : Sg} (i : Nat) (h : 20 ≤ i) : Grp i a b := by
  match i, h with
  | i + 20, _ => exact True.intro
theorem frO {Mo : List Nat} {Mf : List (Nat × Nat)} {a a' : Sg} (h : ∀ o k, o ∉ Mo → (o, k) ∉ Mf → a' o k = a o k) (o : Nat) (h1 : o ∉ Mo) (h2 : o ∉ Mf.map Prod.fst) : a' o = a o :=
  funext fun k => h o k h1 (fun hm => h2 (List.mem_map_of_mem (f := Prod.fst) hm))
/-- what is read by the groups that aren't named isn't written -/
def frK (ch : List Nat) (rc : Nat → List Nat) (rf : Nat → List (Nat × Nat)) (Mo : List Nat) (Mf : List (Nat × Nat)) : Bool := (List.range 20).all fun i => ch.contains i || ((rc i).all (fun o => !(Mo.contains o) && !((Mf.map Prod.fst).contains o)) && (rf i).all (fun x => !(Mo.contains x.1) && !(Mf.contains x)))
theorem frK_s {ch : List Nat} {rc : Nat → List Nat} {rf : Nat → List (Nat × Nat)} {Mo : List Nat} {Mf : List (Nat × Nat)} {a a' : Sg} (hk : frK ch rc rf Mo Mf = true) (h : ∀ o k, o ∉ Mo → (o, k) ∉ Mf → a' o k = a o k) (i : Nat) (hi : i < 20) (hc : i ∉ ch) : (∀ o ∈ rc i, a' o = a o) ∧ ∀ x ∈ rf i, a' x.1 x.2 = a x.1 x.2 := by
  unfold frK at hk
  rw [List.all_eq_true] at hk
  have h1 := hk i (List.mem_range.mpr hi)
  rw [Bool.or_eq_true, Bool.and_eq_true, List.all_eq_true, List.all_eq_true] at h1
  rcases h1 with h1 | ⟨h1, h2⟩
  · exact absurd (List.contains_iff_mem.mp h1) hc
  · refine ⟨fun o ho => ?_, fun x hx => ?_⟩
    · have := h1 o ho
      simp only [Bool.and_eq_true, Bool.not_eq_true', ← Bool.not_eq_true, List.contains_iff_mem] at this
      exact frO h o this.1 this.2
    · have := h2 x hx
      simp only [Bool.and_eq_true, Bool.not_eq_true', ← Bool.not_eq_true, List.contains_iff_mem] at this
      exact h x.1 x.2 this.1 this.2
/-- a step: the groups ch are shown anew, all others are as they were -/
theorem Inv_step (ch : List Nat) {MoA MoB : List Nat} {MfA MfB : List (Nat × Nat)} {a b a' b' : Sg} (h : Inv a b) (hA : ∀ o k, o ∉ MoA → (o, k) ∉ MfA → a' o k = a o k) (hB : ∀ o k, o ∉ MoB → (o, k) ∉ MfB → b' o k = b o k) (kA : frK ch rC rF MoA MfA = true) (kB : frK ch rM rG MoB MfB = true) (hch : ∀ i ∈ ch, Grp i a' b') : Inv a' b' := by
  intro i
  by_cases hi : i < 20
  · by_cases hc : i ∈ ch
    · exact hch i hc
    · obtain ⟨x1, x2⟩ := frK_s kA hA i hi hc
      obtain ⟨x3, x4⟩ := frK_s kB hB i hi hc
      exact Grp_keep i (h i) x1 x2 x3 x4
  · exact Grp_big i (by omega)
theorem pk_lo : ∀ i, i < 20 → (∀ o ∈ rC i, o < 102) ∧ (∀ x ∈ rF i, x.1 < 102) ∧ (∀ o ∈ rM i, 102 ≤ o) ∧ ∀ x ∈ rG i, 102 ≤ x.1 := by decide
theorem Inv_mix {a b a' b' : Sg} (h : Inv a b) (hA : ∀ o, o < 102 → a' o = a o) (hB : ∀ o, 102 ≤ o → b' o = b o) : Inv a' b' := by
  intro i
  by_cases hi : i < 20
  · obtain ⟨p1, p2, p3, p4⟩ := pk_lo i hi
    exact Grp_keep i (h i) (fun o ho => hA o (p1 o ho)) (fun x hx => by rw [hA _ (p2 x hx)]) (fun o ho => hB o (p3 o ho)) (fun x hx => by rw [hB _ (p4 x hx)])
  · exact Grp_big i (by omega)
/-- a call: what class and reference do, and that they answer alike -/
def Sim (fh fm : Sg → Option (Int32 × Sg)) : Prop := ∀ a b, Inv a b → ∃ r a' b', fh a = some (r, a') ∧ fm b = some (r, b') ∧ Inv a' b'
theorem stp_of {fh fm : Sg → Option (Int32 × Sg)} {Mo Mo' : List Nat} {Mf Mf' : List (Nat × Nat)} (sim : Sim fh fm) (frh : ∀ s, fP prI Mo Mf s (fh s)) (frm : ∀ s, fP prI Mo' Mf' s (fm s)) (h1 : Mo.all (· < 102) = true) (h2 : Mf.all (·.1 < 102) = true) (h3 : Mo'.all (102 ≤ ·) = true) (h4 : Mf'.all (102 ≤ ·.1) = true) (s : Sg) (hs : Inv s s) : ∃ r s1 s2, fh s = some (r, s1) ∧ fm s1 = some (r, s2) ∧ Inv s2 s2 := by
  rw [List.all_eq_true] at h1 h2 h3 h4
  obtain ⟨r, s1, b1, e1, _, _⟩ := sim s s hs
  have f1 : ∀ o, 102 ≤ o → s1 o = s o := fun o ho => funext fun k => frh s (r, s1) e1 o k (fun hm => by have := h1 o hm; simp at this; omega) (fun hm => by have := h2 _ hm; simp at this; omega)
  obtain ⟨r', s1', s2, e1', e2, h5⟩ := sim s s1 (Inv_mix hs (fun _ _ => rfl) f1)
  rw [e1] at e1'
  cases e1'
  have f2 : ∀ o, o < 102 → s2 o = s1 o := fun o ho => funext fun k => frm s1 (r, s2) e2 o k (fun hm => by have := h3 o hm; simp at this; omega) (fun hm => by have := h4 _ hm; simp at this; omega)
  exact ⟨r, s1, s2, e1, e2, Inv_mix h5 f2 (fun _ _ => rfl)⟩
