/-! the first calls -/
theorem ptq (s : Sg) {o q : Nat} (k : Nat) (v : Int32) (h : q ≠ o) : pt s o k v q = s q := funext fun j => pt_o s k j v h
theorem ptu (s : Sg) (o k : Nat) (v : Int32) : pt s o k v o = upd (s o) k v := by
  funext j
  by_cases h : j = k
  · subst h; rw [pt_s, pk_us]
  · rw [pt_k s o v h, pk_un h]
theorem ptf (s : Sg) (o k q j : Nat) (v : Int32) (h : ¬ (q = o ∧ j = k)) : pt s o k v q j = s q j := by
  by_cases h1 : q = o
  · subst h1; exact pt_k s q v (fun e => h ⟨rfl, e⟩)
  · exact pt_o s k j v h1
theorem pk_told : ∀ i, i < 20 → (102 ∉ rM i) ∧ (102, 0) ∉ rG i := by decide
theorem Inv_told {a b : Sg} (h : Inv a b) : Inv a (pt b 102 0 0) := by
  intro i
  by_cases hi : i < 20
  · obtain ⟨p1, p2⟩ := pk_told i hi
    refine Grp_keep i (h i) (fun _ _ => rfl) (fun _ _ => rfl) (fun o ho => ptq b 0 0 (fun e => p1 (e ▸ ho))) (fun x hx => ptf b 102 0 x.1 x.2 0 (fun e => p2 ?_))
    obtain ⟨x1, x2⟩ := x
    obtain ⟨e1, e2⟩ := e
    subst e1; subst e2
    exact hx
  · exact Grp_big i (by omega)
theorem sim_of (ch : List Nat) {fh fm : Sg → Option (Int32 × Sg)} {MoA MoB : List Nat} {MfA MfB : List (Nat × Nat)} (frh : ∀ s, fP prI MoA MfA s (fh s)) (frm : ∀ s, fP prI MoB MfB s (fm s)) (kA : frK ch rC rF MoA MfA = true) (kB : frK ch rM rG MoB MfB = true)
    (h : ∀ a b, Inv a b → ∃ r a' b', fh a = some (r, a') ∧ fm b = some (r, b') ∧ ∀ i ∈ ch, Grp i a' b') : Sim fh fm := by
  intro a b hI
  obtain ⟨r, a', b', e1, e2, h3⟩ := h a b hI
  exact ⟨r, a', b', e1, e2, Inv_step ch hI (frh a _ e1) (frm b _ e2) kA kB h3⟩
/-- the same, of what follows behind the reference's told = 0 -/
theorem sim_on (ch : List Nat) {fh fm : Sg → Option (Int32 × Sg)} {F : Sg → Option (Int32 × Sg)} {MoA MoB : List Nat} {MfA MfB : List (Nat × Nat)} (hF : ∀ s, fm s = bnd (pt s 102 0 0) F) (frh : ∀ s, fP prI MoA MfA s (fh s)) (frm : ∀ s, fP prI MoB MfB s (fm s)) (kA : frK ch rC rF MoA MfA = true) (kB : frK ch rM rG MoB MfB = true)
    (h : ∀ a b, Inv a b → ∃ r a' b', fh a = some (r, a') ∧ F b = some (r, b') ∧ ∀ i ∈ ch, Grp i a' b') : Sim fh fm :=
  sim_of ch frh frm kA kB (fun a b hI => by
    obtain ⟨r, a', b', e1, e2, h3⟩ := h a _ (Inv_told hI)
    exact ⟨r, a', b', e1, by rw [hF]; exact e2, h3⟩)
theorem al1 {P : Nat → Prop} {x : Nat} (h : P x) : ∀ i ∈ [x], P i := by simpa using h
theorem al2 {P : Nat → Prop} {x y : Nat} (h : P x) (h2 : P y) : ∀ i ∈ [x, y], P i := by simpa using ⟨h, h2⟩
theorem al3 {P : Nat → Prop} {x y z : Nat} (h : P x) (h2 : P y) (h3 : P z) : ∀ i ∈ [x, y, z], P i := by simpa using ⟨h, h2, h3⟩
theorem ps_no {a b : Sg} (h : Grp 15 a b) {a' b' : Sg} (h1 : a' 5 1 = a 5 1) (h2 : a' 5 2 = 0) (h3 : b' 102 3 = 0) : Grp 15 a' b' := by
  obtain ⟨f, c, hf, _, e1, _⟩ := h
  exact ⟨f, 0, hf, by omega, by rw [h1]; exact e1, h2, h3, fun j hj => by omega⟩
theorem e_forget (s : Sg) : fPa_forget s = some (pt s 5 2 0) := rfl
theorem gdl {R : Type} {i : Int32} {n : Nat} (f : Option R) (h : ¬ (i < 0 ∨ n ≤ i.toNatClampNeg)) : gd i n f = f := if_neg h
theorem sim_state (v : Int32) : Sim (fH_state v) (fM_state v) := by
  refine sim_on [0, 15] (fun _ => rfl) (fr_H_state v) (fr_M_state v) (by decide) (by decide) (fun a b hI => ?_)
  have h0 : gSc (a 1) (a 2) (b 102 6) (b 103) (b 106) (b 107) (b 108) := hI 0
  obtain ⟨n, hn, k1, k2, ⟨f2, f4, f5, f6, f7, f8, f9, f10, f11, f12⟩, hb, hp⟩ := h0
  refine ⟨a 1 11, pt (pt a 1 11 v) 5 2 0, pt (pt b 103 1 v) 102 3 0, rfl, ?_, al2 ?_ ?_⟩
  · rw [gdl _ (by decide), gdl _ (by decide), f11]; rfl
  · show gSc _ _ _ _ _ _ _
    simp only [ptq _ _ _ (show (1 : Nat) ≠ 5 by decide), ptq _ _ _ (show (2 : Nat) ≠ 5 by decide), ptq _ _ _ (show (2 : Nat) ≠ 1 by decide), ptq _ _ _ (show (103 : Nat) ≠ 102 by decide), ptq _ _ _ (show (106 : Nat) ≠ 102 by decide), ptq _ _ _ (show (107 : Nat) ≠ 102 by decide), ptq _ _ _ (show (108 : Nat) ≠ 102 by decide), ptq _ _ _ (show (106 : Nat) ≠ 103 by decide), ptq _ _ _ (show (107 : Nat) ≠ 103 by decide), ptq _ _ _ (show (108 : Nat) ≠ 103 by decide), ptu]
    refine ⟨n, hn, ?_, ?_, ?_, ?_, ?_⟩
    · simpa [upd, ptq] using k1
    · simpa [upd] using k2
    · simpa [upd] using ⟨f2, f4, f5, f6, f7, f8, f9, f10, f12⟩
    · simpa [upd] using hb
    · intro p hpn
      have := hp p hpn
      unfold gPe at this ⊢
      simpa [upd, show ¬ (10 + p = 1) by omega, show ¬ (20 + p = 1) by omega, show ¬ (30 + p = 1) by omega, show ¬ (40 + p = 1) by omega] using this
  · refine ps_no (hI 15) ?_ ?_ ?_
    · simp [pt]
    · simp [pt]
    · simp [pt]
