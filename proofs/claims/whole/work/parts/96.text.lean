/-! TEXT: the reference, from its beginning to its end -/
def PRE (b s : Sg) : Prop := (∀ q, q ≠ 102 → s q = b q) ∧ (∀ k, k ∉ [0, 13, 14, 15, 16, 25, 26, 27, 32, 33] → s 102 k = b 102 k) ∧ s 102 25 = 0 ∧ s 102 26 = 0 ∧ s 102 27 = 0 ∧ s 102 32 = 0 ∧ s 102 33 = -1
def rdr (o : Nat) (s : Sg) : Option (Int32 × Sg) := if o = 1 then fM_readClimbs s else if o = 2 then fM_readSuns s else if o = 3 then fM_readSuits s else fM_readLaw s
def tks (o : Nat) (v : Int32) (s : Sg) : Option Sg := if o = 0 then fM_takesLaw v s else fM_takesOther (nI o) v s
def badM (x : Int32 × Sg) : Sg := pt (pt (pt x.2 102 32 (x.2 102 30)) 102 33 (x.2 102 31)) 102 12 0
theorem bi_id {f : Option (Int32 × Sg)} : (bi f fun r s => some (r, s)) = f := by
  cases f with
  | none => rfl
  | some z => rfl
theorem m_textW {o n : Nat} {T : Nat → Nat} {b : Sg} {L : List Tk} {RR : Int32 × Sg → Prop} {S : Int32 × Sg → Sg → Prop} (ho : o < 4) (hT : TP b T n) (hch : chn T n o L 0) (hread : ∀ s, MT T n o s L → PRE b s → W1 (rdr o s) RR) (htk : ∀ x, RR x → x.1 ≠ -1 → W1 (tks o x.1 (pt x.2 102 12 0)) (S x)) : W1 (fM_text (nI o) b) (fun z => ∃ x, RR x ∧ ((x.1 = -1 ∧ z = (-1, badM x)) ∨ (x.1 ≠ -1 ∧ ∃ t, S x t ∧ z = (x.1, t)))) := by
  have ho4 : o = 0 ∨ o = 1 ∨ o = 2 ∨ o = 3 := by omega
  unfold fM_text
  rw [bnd_e, bnd_e, bnd_e, bnd_e, bnd_e, bnd_e, e_isIn, bi_s, show wi (nI o) 0 3 = 1 from (by rcases ho4 with rfl | rfl | rfl | rfl <;> rfl)]
  generalize hg : pt (pt (pt (pt (pt (pt b 102 0 0) 102 32 0) 102 33 (-1)) 102 13 0) 102 26 0) 102 27 0 = s6
  have p1 : ∀ q, q ≠ 102 → s6 q = b q := fun q h => by rw [← hg, ptq _ _ _ h, ptq _ _ _ h, ptq _ _ _ h, ptq _ _ _ h, ptq _ _ _ h, ptq _ _ _ h]
  have p2 : ∀ k, k ∉ [0, 13, 26, 27, 32, 33] → s6 102 k = b 102 k := fun k hk => by
    simp only [List.mem_cons, List.not_mem_nil, or_false, not_or] at hk
    obtain ⟨k0, k1, k2, k3, k4, k5⟩ := hk
    rw [← hg, pt_k _ _ _ k3, pt_k _ _ _ k2, pt_k _ _ _ k1, pt_k _ _ _ k5, pt_k _ _ _ k4, pt_k _ _ _ k0]
  have v27 : s6 102 27 = 0 := by rw [← hg, pt_s]
  have v26 : s6 102 26 = 0 := by rw [← hg, pt_k _ _ _ (by decide), pt_s]
  have v13 : s6 102 13 = nI 0 := by rw [← hg, pt_k _ _ _ (by decide), pt_k _ _ _ (by decide), pt_s]; rfl
  have v33 : s6 102 33 = -1 := by rw [← hg, pt_k _ _ _ (by decide), pt_k _ _ _ (by decide), pt_k _ _ _ (by decide), pt_s]
  have v32 : s6 102 32 = 0 := by rw [← hg, pt_k _ _ _ (by decide), pt_k _ _ _ (by decide), pt_k _ _ _ (by decide), pt_k _ _ _ (by decide), pt_s]
  clear hg
  refine w1_j (fun (J : Int32 → Sg → Option (Int32 × Sg)) => (∀ s, W1 (J (-1) s) (fun z => z = (-1, pt s 102 12 0))) ∧ ∀ x, RR x → x.1 ≠ -1 → W1 (J x.1 x.2) (fun z => ∃ t, S x t ∧ z = (x.1, t))) ?_ (fun j69 h69 => ?_)
  · refine ⟨fun s => ?_, fun x hx hne => ?_⟩
    · rw [bnd_e, if_pos rfl]
      exact w1_s rfl
    · rw [bnd_e, if_neg hne]
      have := htk x hx hne
      unfold tks at this
      by_cases h0 : o = 0
      · subst h0
        rw [if_pos rfl] at this
        rw [if_pos (show nI 0 = 0 from rfl)]
        exact w1_bv (w1_m this (fun t ht => w1_s ⟨t, ht, rfl⟩))
      · rw [if_neg h0] at this
        rw [if_neg (nI_ne0 (by omega) (by omega))]
        exact w1_bv (w1_m this (fun t ht => w1_s ⟨t, ht, rfl⟩))
  · rw [if_neg n10z]
    have main : W1 (fM_readsText (nI o) s6) RR := by
      unfold fM_readsText
      rw [bnd_e]
      have hT6 : TP (pt s6 102 25 0) T n := TP_c hT (by rw [pt_k _ _ _ (by decide)]; exact p2 12 (by decide)) (by rw [ptq _ _ _ (by decide)]; exact p1 110 (by decide)) (by rw [ptq _ _ _ (by decide)]; exact p1 111 (by decide))
      refine w1_bv (w1_m (w1_f2 (m_reads ho hT6 (by rw [pt_k _ _ _ (by decide)]; exact v13) hch (Nat.zero_le _)) (fr_M_reads _)) (fun s2 h2 => ?_))
      obtain ⟨hM, f2⟩ := h2
      have hP : PRE b s2 := by
        refine ⟨fun q hq => ?_, fun k hk => ?_, ?_, ?_, ?_, ?_, ?_⟩
        · rw [show s2 q = _ from frO f2 q (by simp) (by simpa using hq), ptq _ _ _ hq]
          exact p1 q hq
        · simp only [List.mem_cons, List.not_mem_nil, or_false, not_or] at hk
          obtain ⟨k0, k13, k14, k15, k16, k25, k26, k27, k32, k33⟩ := hk
          refine (f2 102 k (by simp) (by simp [k13, k14, k15, k16])).trans ?_
          rw [pt_k _ _ _ k25]
          exact p2 k (by simp [k0, k13, k26, k27, k32, k33])
        · exact (f2 102 25 (by decide) (by decide)).trans (pt_s _ _ _ _)
        · exact (f2 102 26 (by decide) (by decide)).trans ((pt_k _ _ _ (by decide)).trans v26)
        · exact (f2 102 27 (by decide) (by decide)).trans ((pt_k _ _ _ (by decide)).trans v27)
        · exact (f2 102 32 (by decide) (by decide)).trans ((pt_k _ _ _ (by decide)).trans v32)
        · exact (f2 102 33 (by decide) (by decide)).trans ((pt_k _ _ _ (by decide)).trans v33)
      have hr := hread s2 hM hP
      unfold rdr at hr
      rw [bi_id, bi_id, bi_id, bi_id]
      rcases ho4 with rfl | rfl | rfl | rfl
      · rw [if_neg (by decide), if_neg (by decide), if_neg (by decide)] at hr ⊢
        exact hr
      · rw [if_pos rfl] at hr
        rw [if_pos (show nI 1 = 1 from rfl)]
        exact hr
      · rw [if_neg (by decide), if_pos rfl] at hr
        rw [if_neg (by decide), if_pos (show nI 2 = 2 from rfl)]
        exact hr
      · rw [if_neg (by decide), if_neg (by decide), if_pos rfl] at hr
        rw [if_neg (by decide), if_neg (by decide), if_pos (show nI 3 = 3 from rfl)]
        exact hr
    refine w1_bi (w1_m main (fun x hx => ?_))
    by_cases hne : x.1 = -1
    · rw [if_pos hne, bnd_e, bnd_e, pt_k _ _ _ (show (31 : Nat) ≠ 32 by decide), hne]
      exact w1_m (h69.1 _) (fun z hz => ⟨x, hx, Or.inl ⟨hne, hz⟩⟩)
    · rw [if_neg hne]
      exact w1_m (h69.2 x hx hne) (fun z hz => ⟨x, hx, Or.inr ⟨hne, hz⟩⟩)
/-- what a text's reading leaves as it was -/
def LowM (b s : Sg) : Prop := L16 b s ∧ LW b s ∧ (∀ k, k < 64 → s 120 k = b 120 k) ∧ (∀ k, k < 32 → s 121 k = b 121 k) ∧ (∀ k, k < 20 → s 122 k = b 122 k) ∧ s 112 = b 112 ∧ (∀ k, k ∈ [3, 6, 34, 36, 38] → s 102 k = b 102 k) ∧ s 102 32 = 0 ∧ s 102 33 = -1
def LowC (a s : Sg) : Prop := (∀ o, o ∈ [19, 20, 21, 22, 23, 25, 26, 27, 28, 29, 5] → s o = a o)
theorem tx_inv {v r r' : Int32} {a b a' b' : Sg} (hI : Inv a b) (eH : fH_text v a = some (r, a')) (eM : fM_text v b = some (r', b')) (h16a : a' 31 4 = 0) (h16b : b' 102 12 = 0) (h17 : a' 30 3 = b' 102 32 ∧ a' 30 4 = b' 102 33) (h1 : Grp 1 a' b') (h2 : Grp 2 a' b') (h3 : Grp 3 a' b') (h4 : Grp 4 a' b') (h15 : Grp 15 a' b') : Inv a' b' := by
  have fH := fr_H_text v a (r, a') eH
  have fM := fr_M_text v b (r', b') eM
  refine Inv_step [1, 2, 3, 4, 15, 16, 17] hI fH fM (by decide) (by decide) (fun i hi => ?_)
  have : i = 1 ∨ i = 2 ∨ i = 3 ∨ i = 4 ∨ i = 15 ∨ i = 16 ∨ i = 17 := by simpa using hi
  rcases this with rfl | rfl | rfl | rfl | rfl | rfl | rfl
  · exact h1
  · exact h2
  · exact h3
  · exact h4
  · exact h15
  · obtain ⟨⟨t, ht, e1, e2⟩, hk⟩ : gTp a b := hI 16
    refine ⟨⟨0, by decide, h16a, h16b⟩, fun k hk2 => ?_⟩
    rw [show a' 32 = a 32 from frO fH 32 (by decide) (by decide), show b' 110 = b 110 from frO fM 110 (by decide) (by decide)]
    exact hk k hk2
  · exact h17
theorem tx_15 {v r r' : Int32} {a b a' b' : Sg} (hI : Inv a b) (eH : fH_text v a = some (r, a')) (eM : fM_text v b = some (r', b')) (h5 : a' 5 2 = a 5 2) (h3 : b' 102 3 = b 102 3) : Grp 15 a' b' := by
  have fH := fr_H_text v a (r, a') eH
  have fM := fr_M_text v b (r', b') eM
  refine Grp_keep 15 (hI 15) (fun o ho => ?_) (fun x hx => ?_) (fun o ho => ?_) (fun x hx => ?_)
  · refine frO fH o ?_ ?_
    · intro h; revert ho h; revert o; decide
    · intro h; revert ho h; revert o; decide
  · have : x = (5, 1) ∨ x = (5, 2) := by simpa [rF] using hx
    rcases this with rfl | rfl
    · exact fH 5 1 (by decide) (by decide)
    · exact h5
  · refine frO fM o ?_ ?_
    · intro h; revert ho h; revert o; decide
    · intro h; revert ho h; revert o; decide
  · have : x = (102, 3) ∨ x = (102, 6) := by simpa [rG] using hx
    rcases this with rfl | rfl
    · exact h3
    · exact fM 102 6 (by decide) (by decide)
theorem tk_low {v np : Int32} {a : Sg} {z : Int32 × Sg} (e : fRe_take v np a = some z) : LowC a z.2 := by
  have f := fr_Re_take v np a z e
  intro o ho
  refine frO f o ?_ ?_
  · intro h; revert ho h; revert o; decide
  · intro h; revert ho h; revert o; decide
/-- both sides found the same fault -/
theorem tx_bad {v : Int32} {a b : Sg} {e : Nat × Nat} {zc x : Int32 × Sg} (hI : Inv a b) (eC : fRe_take v (a 1 1) a = some zc) (c1 : zc.1 = -1) (c2 : FC zc.2 e) (c3 : zc.2 31 4 = 0) (eM : fM_text v b = some (-1, badM x)) (m2 : FM x.2 e) (m3 : LowM b x.2) : ∃ r a' b', fH_text v a = some (r, a') ∧ fM_text v b = some (r, b') ∧ Inv a' b' := by
  have eH : fH_text v a = some (-1, zc.2) := by
    unfold fH_text
    rw [eC, show zc = (zc.1, zc.2) from rfl, bi_s, c1, if_pos rfl]
  have hC := tk_low eC
  obtain ⟨n1, n2, n3, n4, n5, n6, n7, n8, n9⟩ := m3
  have q : ∀ o, o ≠ 102 → badM x o = x.2 o := fun o h => by unfold badM; rw [ptq _ _ _ h, ptq _ _ _ h, ptq _ _ _ h]
  have q2 : ∀ k, k ≠ 12 → k ≠ 32 → k ≠ 33 → badM x 102 k = x.2 102 k := fun k h1 h2 h3 => by unfold badM; rw [pt_k _ _ _ h1, pt_k _ _ _ h3, pt_k _ _ _ h2]
  refine ⟨-1, zc.2, badM x, eH, eM, tx_inv hI eH eM c3 (by unfold badM; rw [pt_s]) ⟨?_, ?_⟩ ?_ ?_ ?_ ?_ (tx_15 hI eH eM (by rw [hC 5 (by decide)]) (by rw [q2 3 (by decide) (by decide) (by decide)]; exact n7 3 (by decide)))⟩
  · rw [c2.1]
    unfold badM
    rw [pt_k _ _ _ (by decide), pt_k _ _ _ (by decide), pt_s]
    exact m2.1.symm
  · rw [c2.2]
    unfold badM
    rw [pt_k _ _ _ (by decide), pt_s]
    exact m2.2.symm
  · exact g1_c (hI 1) (by rw [hC 25 (by decide)]) (fun k _ => by rw [hC 26 (by decide)]) (by rw [q2 34 (by decide) (by decide) (by decide)]; exact n7 34 (by decide)) (by rw [q2 6 (by decide) (by decide) (by decide)]; exact n7 6 (by decide)) (fun k hk => by rw [q 120 (by decide)]; exact n3 k hk)
  · exact g2_c (hI 2) (by rw [hC 27 (by decide)]) (fun k _ => by rw [hC 28 (by decide)]) (by rw [q2 36 (by decide) (by decide) (by decide)]; exact n7 36 (by decide)) (fun k hk => by rw [q 121 (by decide)]; exact n4 k hk)
  · exact g3_c (hI 3) (by rw [hC 19 (by decide)]) (fun k _ => by rw [hC 29 (by decide)]) (by rw [q2 38 (by decide) (by decide) (by decide)]; exact n7 38 (by decide)) (fun k hk => by rw [q 122 (by decide)]; exact n5 k hk)
  · exact g4_c (hI 4) (by rw [hC 21 (by decide)]) (hC 22 (by decide)) (by rw [hC 20 (by decide)]) (hC 23 (by decide)) (by rw [q 112 (by decide), n6]) (fun k hk => by rw [q 113 (by decide), q 114 (by decide), q 115 (by decide), q 116 (by decide)]; exact n1 k hk) (LW_c n2 (q 117 (by decide)) (q 118 (by decide)))
