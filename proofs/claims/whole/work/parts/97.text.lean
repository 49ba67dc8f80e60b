/-! TEXT: the four texts -/
theorem tape_of {a b : Sg} (hI : Inv a b) : ∃ T n, n ≤ 400 ∧ a 31 4 = nI n ∧ CTp a T ∧ TP b T n := by
  obtain ⟨⟨n, hn, e1, e2⟩, hk⟩ : gTp a b := hI 16
  obtain ⟨_, hw⟩ := (show b 102 5 = 0 ∧ ∀ k, k < 122 → b 111 k = nI (wdL.getD k 0) from hI 19)
  have hT : CTp a (fun k => (a 32 k).toNatClampNeg) := by
    intro k hk2
    obtain ⟨_, c, hc, e⟩ := hk k hk2
    dsimp only
    rw [e, nI_clamp (by omega)]
    exact ⟨rfl, hc⟩
  refine ⟨_, n, hn, e1, hT, hn, e2, fun k hk2 => ?_, hw⟩
  rw [← (hk k hk2).1]
  exact hT k hk2
theorem np_of {a b : Sg} (hI : Inv a b) : ∃ N, N ≤ 10 ∧ a 1 1 = nI N ∧ b 102 6 = nI N := by
  obtain ⟨n, hn, k1, k2, _⟩ : gSc (a 1) (a 2) (b 102 6) (b 103) (b 106) (b 107) (b 108) := hI 0
  exact ⟨n, hn, k2, k1⟩
theorem tc_of {a b : Sg} (hI : Inv a b) : tc (a 38) 4 16 ∧ tc (a 42) 4 16 ∧ tc (a 44) 2 16 := by
  obtain ⟨_, _, _, x4, x5, x6, _⟩ : gKc a := hI 18
  exact ⟨x4, x5, x6⟩
/-- what a reading leaves as it was: all but one row -/
theorem low_of {b s s' : Sg} {Mo : List Nat} {Mf : List (Nat × Nat)} (hP : PRE b s) (hf : ∀ o k, o ∉ Mo → (o, k) ∉ Mf → s' o k = s o k) (hmf : ∀ x ∈ Mf, x ∈ [(102, 13), (102, 14), (102, 15), (102, 16), (102, 26), (102, 27), (102, 29), (102, 30), (102, 31)]) (h112 : 112 ∉ Mo) (h102 : 102 ∉ Mo) (hL : L16 s s') (hW : LW s s') (h120 : ∀ k, k < 64 → s' 120 k = s 120 k) (h121 : ∀ k, k < 32 → s' 121 k = s 121 k) (h122 : ∀ k, k < 20 → s' 122 k = s 122 k) : LowM b s' := by
  obtain ⟨p1, p2, p25, p26, p27, p32, p33⟩ := hP
  have q : ∀ k, k ∉ [13, 14, 15, 16, 26, 27, 29, 30, 31] → s' 102 k = s 102 k := fun k hk => hf 102 k h102 (fun hm => by
    have := hmf _ hm
    simp only [List.mem_cons, Prod.mk.injEq, true_and, List.not_mem_nil, or_false] at this hk
    exact hk this)
  refine ⟨fun k hk => ?_, fun k hk => ?_, fun k hk => ?_, fun k hk => ?_, fun k hk => ?_, ?_, fun k hk => ?_, ?_, ?_⟩
  · rw [← p1 113 (by decide), ← p1 114 (by decide), ← p1 115 (by decide), ← p1 116 (by decide)]; exact hL k hk
  · rw [← p1 117 (by decide), ← p1 118 (by decide)]; exact hW k hk
  · rw [← p1 120 (by decide)]; exact h120 k hk
  · rw [← p1 121 (by decide)]; exact h121 k hk
  · rw [← p1 122 (by decide)]; exact h122 k hk
  · rw [← p1 112 (by decide)]
    exact frO hf 112 h112 (fun hm => by
      obtain ⟨x, hx, e⟩ := List.mem_map.mp hm
      have := hmf x hx
      have h2 : ∀ y ∈ [(102, 13), (102, 14), (102, 15), (102, 16), (102, 26), (102, 27), (102, 29), (102, 30), (102, 31)], y.1 ≠ 112 := by decide
      exact h2 x this e)
  · have h3 : ∀ y ∈ [3, 6, 34, 36, 38], y ∉ [13, 14, 15, 16, 26, 27, 29, 30, 31] ∧ y ∉ [0, 13, 14, 15, 16, 25, 26, 27, 32, 33] := by decide
    rw [q k (h3 k hk).1]
    exact p2 k (h3 k hk).2
  · rw [q 32 (by decide)]; exact p32
  · rw [q 33 (by decide)]; exact p33
theorem lt4 {P : Nat → Prop} (h0 : P 0) (h1 : P 1) (h2 : P 2) (h3 : P 3) : ∀ j, j < 4 → P j := by
  intro j hj
  have : j = 0 ∨ j = 1 ∨ j = 2 ∨ j = 3 := by omega
  rcases this with rfl | rfl | rfl | rfl
  · exact h0
  · exact h1
  · exact h2
  · exact h3
theorem ne_m1 {x : Int32} {k : Nat} (h : x = nI k) (hk : k < 1000) : x ≠ -1 := by
  rw [h]
  exact nI_m1 (by omega)
theorem text_1 {a b : Sg} (hI : Inv a b) : ∃ r a' b', fH_text (nI 1) a = some (r, a') ∧ fM_text (nI 1) b = some (r, b') ∧ Inv a' b' := by
  obtain ⟨T, n, hn, h4, hC, hTP⟩ := tape_of hI
  obtain ⟨N, hN, np1, np2⟩ := np_of hI
  obtain ⟨zc, eC, L, hch, hL, hTX⟩ := k1_take (np := a 1 1) hC hn h4 (tc_of hI).2.1
  have htl := chn_tkl (by decide) hn L 0 hch
  have rd : ∀ s, MT T n 1 s L → PRE b s → W1 (rdr 1 s) (fun x => LowM b x.2 ∧ RX s 120 64 cbM (txtL 256 (clP (a 1 1)) 401 [] L) x) := by
    intro s hM hP
    unfold rdr
    rw [if_pos rfl]
    refine w1_m (w1_f2 (m_climbs hM htl hL ((hP.2.1 6 (by decide)).trans (np2.trans np1.symm))) (fr_M_readClimbs s)) (fun x hx => ?_)
    obtain ⟨x1, sx⟩ := x
    obtain ⟨hR, f⟩ := hx
    have f : ∀ o k, _ → _ → sx o k = s o k := f
    refine ⟨?_, hR⟩
    show LowM b sx
    exact low_of hP f (by decide) (by decide) (by decide) (fun k _ => by rw [frO f 113 (by decide) (by decide), frO f 114 (by decide) (by decide), frO f 115 (by decide) (by decide), frO f 116 (by decide) (by decide)]; exact ⟨rfl, rfl, rfl, rfl⟩) (fun k _ => by rw [frO f 117 (by decide) (by decide), frO f 118 (by decide) (by decide)]; exact ⟨rfl, rfl⟩) hR.1 (fun k _ => by rw [frO f 121 (by decide) (by decide)]) (fun k _ => by rw [frO f 122 (by decide) (by decide)])
  obtain ⟨h31, hTX⟩ := hTX
  cases hG : txtL 256 (clP (a 1 1)) 401 [] L with
  | error e =>
    rw [hG] at hTX rd
    obtain ⟨z, eM, x, hx, hz⟩ := m_textW (S := fun _ _ => False) (RR := fun x => LowM b x.2 ∧ x.1 = -1 ∧ FM x.2 e) (by decide) hTP hch (fun s h1 h2 => w1_m (rd s h1 h2) (fun x hx => ⟨hx.1, hx.2.2⟩)) (fun x hx hne => absurd hx.2.1 hne)
    rcases hz with ⟨_, rfl⟩ | ⟨hne, _⟩
    · exact tx_bad hI eC hTX.1 hTX.2 h31 eM hx.2.2 hx.1
    · exact absurd hx.2.1 hne
  | ok X =>
    rw [hG] at hTX rd
    obtain ⟨c1, c2, c3, c4, s, L', ⟨d1, d2, d3, d4⟩, c6, c5⟩ := hTX
    obtain ⟨z, eM, x, hx, hz⟩ := m_textW (RR := fun x => LowM b x.2 ∧ x.1 = nI X.length ∧ rwP (cbM x.2) X 0) (by decide) hTP hch (fun s h1 h2 => w1_m (rd s h1 h2) (fun x hx => ⟨hx.1, hx.2.2⟩)) (fun x hx hne => by
      unfold tks
      rw [if_neg (by decide), hx.2.1]
      exact m_takes1 c2)
    obtain ⟨⟨n1, n2, n3, n4, n5, n6, n7, n8, n9⟩, hx1, hx2⟩ := hx
    rcases hz with ⟨hne, _⟩ | ⟨_, t, ⟨t1, t2, t3, t4, t5⟩, rfl⟩
    · exact absurd hne (ne_m1 hx1 (by omega))
    obtain ⟨tc', eA, ⟨⟨u1, u2⟩, u3⟩⟩ := ad1_19_36 zc.2
    have hlow := tk_low eC
    have eH : fH_text (nI 1) a = some (nI X.length, pt tc' 5 2 0) := by
      unfold fH_text
      rw [eC, show zc = (zc.1, zc.2) from rfl, bi_s, if_neg (ne_m1 c1 (by omega)), show fTe_adopt 19 (nI 1) 36 zc.2 = some tc' from eA, bv_s, bnd_e, if_pos (show nI 1 = 1 from rfl), c1]
      rfl
    have a5 : ∀ o, o ≠ 5 → o ∉ [25, 26] → pt tc' 5 2 0 o = zc.2 o := fun o h1 h2 => by rw [ptq _ _ _ h1]; exact u3 o h2
    have t0 : ∀ k, k ≠ 34 → k ≠ 3 → k ≠ 12 → t 102 k = x.2 102 k := fun k k1 k2 k3 => by rw [t4 k k1 k2, pt_k _ _ _ k3]
    have tq : ∀ q, q ≠ 120 → q ≠ 102 → t q = x.2 q := fun q q1 q2 => by rw [t5 q q1 q2, ptq _ _ _ q2]
    rw [hx1] at eM
    refine ⟨nI X.length, pt tc' 5 2 0, t, eH, eM, tx_inv hI eH eM (by rw [a5 31 (by decide) (by decide)]; exact h31) (by rw [t4 12 (by decide) (by decide), pt_s]) ⟨?_, ?_⟩ ?_ ?_ ?_ ?_ ?_⟩
    · rw [a5 30 (by decide) (by decide), t0 32 (by decide) (by decide) (by decide), n8]; exact c3
    · rw [a5 30 (by decide) (by decide), t0 33 (by decide) (by decide) (by decide), n9]; exact c4
    · refine ⟨X.length, N, c2, hN, ?_, t1, ?_, fun i hi => ?_⟩
      · rw [ptq _ _ _ (by decide), u1, c5, ptq _ _ _ (by decide)]; exact d1
      · rw [t0 6 (by decide) (by decide) (by decide), n7 6 (by decide)]; exact np2
      · obtain ⟨y, hy, ⟨y1, y2, y3, y4⟩, w1, w2, w3, w4⟩ := rwP_g X 0 d3 hx2 i hi
        rw [Nat.zero_add] at y1 y2 y3 y4 w1 w2 w3 w4
        obtain ⟨o1, o2, o3, o4⟩ := d4 y hy
        have hcc : ∀ k, k < 64 → pt tc' 5 2 0 26 k = s 43 k := fun k hk => by rw [ptq _ _ _ (by decide), u2 k hk, c5, ptq _ _ _ (by decide)]
        have hmm : ∀ j, j < 4 → t 120 (i * 4 + j) = x.2 120 (64 + 4 * i + j) := fun j hj => by
          rw [t3 _ (by omega), ptq _ _ _ (by decide), show 64 + (i * 4 + j) = 64 + 4 * i + j by omega]
        have e1 := hmm 1 (by decide)
        have e2 := hmm 2 (by decide)
        refine ⟨lt4 ?_ ?_ ?_ ?_, ⟨y.2.1, ?_, ?_⟩, ⟨y.2.2.1, ?_, ?_⟩⟩
        · rw [hcc _ (by omega), hmm 0 (by decide)]; exact y1.trans w1.symm
        · rw [hcc _ (by omega), e1]; exact y2.trans w2.symm
        · rw [hcc _ (by omega), e2]; exact y3.trans w3.symm
        · rw [hcc _ (by omega), hmm 3 (by decide)]; exact y4.trans w4.symm
        · rw [np1] at o1
          by_cases hN0 : N = 0
          · subst hN0
            exfalso
            apply o1
            unfold wi
            rw [if_neg (show ¬ nI y.2.1 < 0 from nI_pos (by omega)), if_pos (show nI 0 - 1 < nI y.2.1 from m1_lt (by omega))]
          · obtain ⟨M, rfl⟩ : ∃ M, N = M + 1 := ⟨N - 1, by omega⟩
            rw [nI_pred] at o1
            have := (wi_le (a := 0) (b := M) o3 (by decide) (by omega) o1).2
            omega
        · rw [e1]; exact w2
        · exact (wi_le (a := 0) (b := 19) o4 (by decide) (by decide) o2).2
        · rw [e2]; exact w3
    · exact g2_c (hI 2) (by rw [a5 27 (by decide) (by decide), hlow 27 (by decide)]) (fun k _ => by rw [a5 28 (by decide) (by decide), hlow 28 (by decide)]) (by rw [t0 36 (by decide) (by decide) (by decide)]; exact n7 36 (by decide)) (fun k hk => by rw [tq 121 (by decide) (by decide)]; exact n4 k hk)
    · exact g3_c (hI 3) (by rw [a5 19 (by decide) (by decide), hlow 19 (by decide)]) (fun k _ => by rw [a5 29 (by decide) (by decide), hlow 29 (by decide)]) (by rw [t0 38 (by decide) (by decide) (by decide)]; exact n7 38 (by decide)) (fun k hk => by rw [tq 122 (by decide) (by decide)]; exact n5 k hk)
    · exact g4_c (hI 4) (by rw [a5 21 (by decide) (by decide), hlow 21 (by decide)]) (by rw [a5 22 (by decide) (by decide), hlow 22 (by decide)]) (by rw [a5 20 (by decide) (by decide), hlow 20 (by decide)]) (by rw [a5 23 (by decide) (by decide), hlow 23 (by decide)]) (by rw [tq 112 (by decide) (by decide), n6]) (fun k hk => by rw [tq 113 (by decide) (by decide), tq 114 (by decide) (by decide), tq 115 (by decide) (by decide), tq 116 (by decide) (by decide)]; exact n1 k hk) (LW_c n2 (tq 117 (by decide) (by decide)) (tq 118 (by decide) (by decide)))
    · exact ps_no (hI 15) (by rw [pt_k _ _ _ (by decide), u3 5 (by decide), hlow 5 (by decide)]) (pt_s _ _ _ _) t2
theorem text_2 {a b : Sg} (hI : Inv a b) : ∃ r a' b', fH_text (nI 2) a = some (r, a') ∧ fM_text (nI 2) b = some (r, b') ∧ Inv a' b' := by
  obtain ⟨T, n, hn, h4, hC, hTP⟩ := tape_of hI
  obtain ⟨zc, eC, L, hch, hL, hTX⟩ := k2_take (np := a 1 1) hC hn h4 (tc_of hI).2.2
  have htl := chn_tkl (by decide) hn L 0 hch
  have rd : ∀ s, MT T n 2 s L → PRE b s → W1 (rdr 2 s) (fun x => LowM b x.2 ∧ RX s 121 32 snM (txtL 256 snP 401 [] L) x) := by
    intro s hM hP
    unfold rdr
    rw [if_neg (by decide), if_pos rfl]
    refine w1_m (w1_f2 (m_suns hM htl hL) (fr_M_readSuns s)) (fun x hx => ?_)
    obtain ⟨x1, sx⟩ := x
    obtain ⟨hR, f⟩ := hx
    have f : ∀ o k, _ → _ → sx o k = s o k := f
    refine ⟨?_, hR⟩
    show LowM b sx
    exact low_of hP f (by decide) (by decide) (by decide) (fun k _ => by rw [frO f 113 (by decide) (by decide), frO f 114 (by decide) (by decide), frO f 115 (by decide) (by decide), frO f 116 (by decide) (by decide)]; exact ⟨rfl, rfl, rfl, rfl⟩) (fun k _ => by rw [frO f 117 (by decide) (by decide), frO f 118 (by decide) (by decide)]; exact ⟨rfl, rfl⟩) (fun k _ => by rw [frO f 120 (by decide) (by decide)]) hR.1 (fun k _ => by rw [frO f 122 (by decide) (by decide)])
  obtain ⟨h31, hTX⟩ := hTX
  cases hG : txtL 256 snP 401 [] L with
  | error e =>
    rw [hG] at hTX rd
    obtain ⟨z, eM, x, hx, hz⟩ := m_textW (S := fun _ _ => False) (RR := fun x => LowM b x.2 ∧ x.1 = -1 ∧ FM x.2 e) (by decide) hTP hch (fun s h1 h2 => w1_m (rd s h1 h2) (fun x hx => ⟨hx.1, hx.2.2⟩)) (fun x hx hne => absurd hx.2.1 hne)
    rcases hz with ⟨_, rfl⟩ | ⟨hne, _⟩
    · exact tx_bad hI eC hTX.1 hTX.2 h31 eM hx.2.2 hx.1
    · exact absurd hx.2.1 hne
  | ok X =>
    rw [hG] at hTX rd
    obtain ⟨c1, c2, c3, c4, s, L', ⟨d1, d2, d3, d4⟩, c6, c5⟩ := hTX
    obtain ⟨z, eM, x, hx, hz⟩ := m_textW (RR := fun x => LowM b x.2 ∧ x.1 = nI X.length ∧ rwP (snM x.2) X 0) (by decide) hTP hch (fun s h1 h2 => w1_m (rd s h1 h2) (fun x hx => ⟨hx.1, hx.2.2⟩)) (fun x hx hne => by
      unfold tks
      rw [if_neg (by decide), hx.2.1]
      exact m_takes2 c2)
    obtain ⟨⟨n1, n2, n3, n4, n5, n6, n7, n8, n9⟩, hx1, hx2⟩ := hx
    rcases hz with ⟨hne, _⟩ | ⟨_, t, ⟨t1, t2, t3, t4, t5⟩, rfl⟩
    · exact absurd hne (ne_m1 hx1 (by omega))
    obtain ⟨tc', eA, ⟨⟨u1, u2⟩, u3⟩⟩ := ad2_19_36 zc.2
    have hlow := tk_low eC
    have eH : fH_text (nI 2) a = some (nI X.length, pt tc' 5 2 0) := by
      unfold fH_text
      rw [eC, show zc = (zc.1, zc.2) from rfl, bi_s, if_neg (ne_m1 c1 (by omega)), show fTe_adopt 19 (nI 2) 36 zc.2 = some tc' from eA, bv_s, bnd_e, if_neg (show ¬ nI 2 = 1 by decide), if_pos (show nI 2 = 2 from rfl), c1]
      rfl
    have a5 : ∀ o, o ≠ 5 → o ∉ [27, 28] → pt tc' 5 2 0 o = zc.2 o := fun o h1 h2 => by rw [ptq _ _ _ h1]; exact u3 o h2
    have t0 : ∀ k, k ≠ 36 → k ≠ 3 → k ≠ 12 → t 102 k = x.2 102 k := fun k k1 k2 k3 => by rw [t4 k k1 k2, pt_k _ _ _ k3]
    have tq : ∀ q, q ≠ 121 → q ≠ 102 → t q = x.2 q := fun q q1 q2 => by rw [t5 q q1 q2, ptq _ _ _ q2]
    rw [hx1] at eM
    refine ⟨nI X.length, pt tc' 5 2 0, t, eH, eM, tx_inv hI eH eM (by rw [a5 31 (by decide) (by decide)]; exact h31) (by rw [t4 12 (by decide) (by decide), pt_s]) ⟨?_, ?_⟩ ?_ ?_ ?_ ?_ ?_⟩
    · rw [a5 30 (by decide) (by decide), t0 32 (by decide) (by decide) (by decide), n8]; exact c3
    · rw [a5 30 (by decide) (by decide), t0 33 (by decide) (by decide) (by decide), n9]; exact c4
    · exact g1_c (hI 1) (by rw [a5 25 (by decide) (by decide), hlow 25 (by decide)]) (fun k _ => by rw [a5 26 (by decide) (by decide), hlow 26 (by decide)]) (by rw [t0 34 (by decide) (by decide) (by decide)]; exact n7 34 (by decide)) (by rw [t0 6 (by decide) (by decide) (by decide)]; exact n7 6 (by decide)) (fun k hk => by rw [tq 120 (by decide) (by decide)]; exact n3 k hk)
    · refine ⟨X.length, c2, ?_, t1, fun i hi => ?_⟩
      · rw [ptq _ _ _ (by decide), u1, c5, ptq _ _ _ (by decide)]; exact d1
      · obtain ⟨y, hy, ⟨y1, y2⟩, w1, w2⟩ := rwP_g X 0 d3 hx2 i hi
        rw [Nat.zero_add] at y1 y2 w1 w2
        obtain ⟨o1, o2⟩ := d4 y hy
        have hcc : ∀ k, k < 32 → pt tc' 5 2 0 28 k = s 45 k := fun k hk => by rw [ptq _ _ _ (by decide), u2 k hk, c5, ptq _ _ _ (by decide)]
        have e0 : t 121 (i * 2) = x.2 121 (32 + 2 * i) := by
          rw [t3 _ (by omega), ptq _ _ _ (by decide), show 32 + i * 2 = 32 + 2 * i by omega]
        have e1 : t 121 (i * 2 + 1) = x.2 121 (33 + 2 * i) := by
          rw [t3 _ (by omega), ptq _ _ _ (by decide), show 32 + (i * 2 + 1) = 33 + 2 * i by omega]
        obtain ⟨b1, b2⟩ := wi_le (a := 10) (b := 59) o2 (by decide) (by decide) o1
        exact ⟨by rw [hcc _ (by omega), e0]; exact y1.trans w1.symm, by rw [hcc _ (by omega), e1]; exact y2.trans w2.symm, y.2, b1, b2, by rw [e1]; exact w2⟩
    · exact g3_c (hI 3) (by rw [a5 19 (by decide) (by decide), hlow 19 (by decide)]) (fun k _ => by rw [a5 29 (by decide) (by decide), hlow 29 (by decide)]) (by rw [t0 38 (by decide) (by decide) (by decide)]; exact n7 38 (by decide)) (fun k hk => by rw [tq 122 (by decide) (by decide)]; exact n5 k hk)
    · exact g4_c (hI 4) (by rw [a5 21 (by decide) (by decide), hlow 21 (by decide)]) (by rw [a5 22 (by decide) (by decide), hlow 22 (by decide)]) (by rw [a5 20 (by decide) (by decide), hlow 20 (by decide)]) (by rw [a5 23 (by decide) (by decide), hlow 23 (by decide)]) (by rw [tq 112 (by decide) (by decide), n6]) (fun k hk => by rw [tq 113 (by decide) (by decide), tq 114 (by decide) (by decide), tq 115 (by decide) (by decide), tq 116 (by decide) (by decide)]; exact n1 k hk) (LW_c n2 (tq 117 (by decide) (by decide)) (tq 118 (by decide) (by decide)))
    · exact ps_no (hI 15) (by rw [pt_k _ _ _ (by decide), u3 5 (by decide), hlow 5 (by decide)]) (pt_s _ _ _ _) t2
