/-! TEXT: suits, the law, all -/
theorem text_3 {a b : Sg} (hI : Inv a b) : ∃ r a' b', fH_text (nI 3) a = some (r, a') ∧ fM_text (nI 3) b = some (r, b') ∧ Inv a' b' := by
  obtain ⟨T, n, hn, h4, hC, hTP⟩ := tape_of hI
  obtain ⟨zc, eC, L, hch, hL, hTX⟩ := k3_take (np := a 1 1) hC hn h4
  have htl := chn_tkl (by decide) hn L 0 hch
  have rd : ∀ s, MT T n 3 s L → PRE b s → W1 (rdr 3 s) (fun x => LowM b x.2 ∧ RU s (txtL 256 suP 401 [] L) x) := by
    intro s hM hP
    unfold rdr
    rw [if_neg (by decide), if_neg (by decide), if_pos rfl]
    refine w1_m (w1_f2 (m_suits hM htl hL) (fr_M_readSuits s)) (fun x hx => ?_)
    obtain ⟨x1, sx⟩ := x
    obtain ⟨hR, f⟩ := hx
    have f : ∀ o k, _ → _ → sx o k = s o k := f
    refine ⟨?_, hR⟩
    show LowM b sx
    exact low_of hP f (by decide) (by decide) (by decide) (fun k _ => by rw [frO f 113 (by decide) (by decide), frO f 114 (by decide) (by decide), frO f 115 (by decide) (by decide), frO f 116 (by decide) (by decide)]; exact ⟨rfl, rfl, rfl, rfl⟩) (fun k _ => by rw [frO f 117 (by decide) (by decide), frO f 118 (by decide) (by decide)]; exact ⟨rfl, rfl⟩) (fun k _ => by rw [frO f 120 (by decide) (by decide)]) (fun k _ => by rw [frO f 121 (by decide) (by decide)]) hR.1
  obtain ⟨h31, hTX⟩ := hTX
  cases hG : txtL 256 suP 401 [] L with
  | error e =>
    rw [hG] at hTX rd
    obtain ⟨z, eM, x, hx, hz⟩ := m_textW (S := fun _ _ => False) (RR := fun x => LowM b x.2 ∧ x.1 = -1 ∧ FM x.2 e) (by decide) hTP hch (fun s h1 h2 => w1_m (rd s h1 h2) (fun x hx => ⟨hx.1, hx.2.2⟩)) (fun x hx hne => absurd hx.2.1 hne)
    rcases hz with ⟨_, rfl⟩ | ⟨hne, _⟩
    · exact tx_bad hI eC hTX.1 hTX.2 h31 eM hx.2.2 hx.1
    · exact absurd hx.2.1 hne
  | ok X =>
    rw [hG] at hTX rd
    obtain ⟨c1, c2, c3, c4, s, L', ⟨d1, d2, d3⟩, c6, c5⟩ := hTX
    obtain ⟨z, eM, x, hx, hz⟩ := m_textW (RR := fun x => LowM b x.2 ∧ x.1 = nI X.length ∧ ∀ w, w < 20 → x.2 122 (20 + w) = nI (msk X w)) (by decide) hTP hch (fun s h1 h2 => w1_m (rd s h1 h2) (fun x hx => ⟨hx.1, hx.2.2⟩)) (fun x hx hne => by
      unfold tks
      rw [if_neg (by decide), hx.2.1]
      exact m_takes3 c2)
    obtain ⟨⟨n1, n2, n3, n4, n5, n6, n7, n8, n9⟩, hx1, hx2⟩ := hx
    rcases hz with ⟨hne, _⟩ | ⟨_, t, ⟨t1, t3, t4, t5⟩, rfl⟩
    · exact absurd hne (ne_m1 hx1 (by omega))
    obtain ⟨tc', eA, ⟨⟨u1, u2⟩, u3⟩⟩ := ad3_19_36 zc.2
    have hlow := tk_low eC
    have eH : fH_text (nI 3) a = some (nI X.length, tc') := by
      unfold fH_text
      rw [eC, show zc = (zc.1, zc.2) from rfl, bi_s, if_neg (ne_m1 c1 (by omega)), show fTe_adopt 19 (nI 3) 36 zc.2 = some tc' from eA, bv_s, bnd_e, if_neg (show ¬ nI 3 = 1 by decide), if_neg (show ¬ nI 3 = 2 by decide), c1]
    have t0 : ∀ k, k ≠ 38 → k ≠ 12 → t 102 k = x.2 102 k := fun k k1 k3 => by rw [t4 k k1, pt_k _ _ _ k3]
    have tq : ∀ q, q ≠ 122 → q ≠ 102 → t q = x.2 q := fun q q1 q2 => by rw [t5 q q1 q2, ptq _ _ _ q2]
    rw [hx1] at eM
    refine ⟨nI X.length, tc', t, eH, eM, tx_inv hI eH eM (by rw [u3 31 (by decide)]; exact h31) (by rw [t4 12 (by decide), pt_s]) ⟨?_, ?_⟩ ?_ ?_ ?_ ?_ (tx_15 hI eH eM (by rw [u3 5 (by decide), hlow 5 (by decide)]) (by rw [t0 3 (by decide) (by decide)]; exact n7 3 (by decide)))⟩
    · rw [u3 30 (by decide), t0 32 (by decide) (by decide), n8]; exact c3
    · rw [u3 30 (by decide), t0 33 (by decide) (by decide), n9]; exact c4
    · exact g1_c (hI 1) (by rw [u3 25 (by decide), hlow 25 (by decide)]) (fun k _ => by rw [u3 26 (by decide), hlow 26 (by decide)]) (by rw [t0 34 (by decide) (by decide)]; exact n7 34 (by decide)) (by rw [t0 6 (by decide) (by decide)]; exact n7 6 (by decide)) (fun k hk => by rw [tq 120 (by decide) (by decide)]; exact n3 k hk)
    · exact g2_c (hI 2) (by rw [u3 27 (by decide), hlow 27 (by decide)]) (fun k _ => by rw [u3 28 (by decide), hlow 28 (by decide)]) (by rw [t0 36 (by decide) (by decide)]; exact n7 36 (by decide)) (fun k hk => by rw [tq 121 (by decide) (by decide)]; exact n4 k hk)
    · refine ⟨?_, fun w hw => ⟨?_, msk X w, ?_, ?_⟩⟩
      · rw [u1, c5, ptq _ _ _ (by decide), d1, t1]
      · rw [u2 w hw, c5, ptq _ _ _ (by decide), d2 w hw, t3 w hw, ptq _ _ _ (by decide), hx2 w hw]
      · have := msk_lt (w := w) d3
        omega
      · rw [t3 w hw, ptq _ _ _ (by decide)]
        exact hx2 w hw
    · exact g4_c (hI 4) (by rw [u3 21 (by decide), hlow 21 (by decide)]) (by rw [u3 22 (by decide), hlow 22 (by decide)]) (by rw [u3 20 (by decide), hlow 20 (by decide)]) (by rw [u3 23 (by decide), hlow 23 (by decide)]) (by rw [tq 112 (by decide) (by decide), n6]) (fun k hk => by rw [tq 113 (by decide) (by decide), tq 114 (by decide) (by decide), tq 115 (by decide) (by decide), tq 116 (by decide) (by decide)]; exact n1 k hk) (LW_c n2 (tq 117 (by decide) (by decide)) (tq 118 (by decide) (by decide)))
theorem text_0 {a b : Sg} (hI : Inv a b) : ∃ r a' b', fH_text (nI 0) a = some (r, a') ∧ fM_text (nI 0) b = some (r, b') ∧ Inv a' b' := by
  obtain ⟨T, n, hn, h4, hC, hTP⟩ := tape_of hI
  obtain ⟨zc, eC, L, hch, hL, hTX⟩ := l_take (np := a 1 1) hC hn h4 (tc_of hI).1
  have htl := chn_tkl (by decide) hn L 0 hch
  have rd : ∀ s, MT T n 0 s L → PRE b s → W1 (rdr 0 s) (fun x => LowM b x.2 ∧ x.2 102 25 = 0 ∧ match txtL 258 linP 401 [] L with | .error e => x.1 = -1 ∧ FM x.2 e | .ok X => x.1 = nI X.length ∧ x.2 102 26 = nI (mln (fl X)) ∧ mAt (fun k => x.2 117 (800 + k)) (fun k => x.2 118 (800 + k)) 0 (fl X) ∧ lnM x.2 X 0 0) := by
    intro s hM hP
    unfold rdr
    rw [if_neg (by decide), if_neg (by decide), if_neg (by decide)]
    refine w1_m (w1_f2 (m_law hM hP.2.2.2.1 hP.2.2.2.2.1 htl hL) (fr_M_readLaw s)) (fun x hx => ?_)
    obtain ⟨x1, sx⟩ := x
    obtain ⟨hR, f⟩ := hx
    have f : ∀ o k, _ → _ → sx o k = s o k := f
    obtain ⟨r1, r2, r3⟩ := hR
    refine ⟨?_, (f 102 25 (by decide) (by decide)).trans hP.2.2.1, ?_⟩
    · show LowM b sx
      exact low_of hP f (by decide) (by decide) (by decide) r2 r1 (fun k _ => by rw [frO f 120 (by decide) (by decide)]) (fun k _ => by rw [frO f 121 (by decide) (by decide)]) (fun k _ => by rw [frO f 122 (by decide) (by decide)])
    · cases hG : txtL 258 linP 401 [] L with
      | error e => rw [hG] at r3; exact r3
      | ok X => rw [hG] at r3; exact ⟨r3.1, r3.2.1.1, r3.2.1.2.1, r3.2.2⟩
  obtain ⟨h31, hTX⟩ := hTX
  cases hG : txtL 258 linP 401 [] L with
  | error e =>
    rw [hG] at hTX rd
    obtain ⟨z, eM, x, hx, hz⟩ := m_textW (S := fun _ _ => False) (RR := fun x => LowM b x.2 ∧ x.1 = -1 ∧ FM x.2 e) (by decide) hTP hch (fun s h1 h2 => w1_m (rd s h1 h2) (fun x hx => ⟨hx.1, hx.2.2⟩)) (fun x hx hne => absurd hx.2.1 hne)
    rcases hz with ⟨_, rfl⟩ | ⟨hne, _⟩
    · exact tx_bad hI eC hTX.1 hTX.2 h31 eM hx.2.2 hx.1
    · exact absurd hx.2.1 hne
  | ok X =>
    rw [hG] at hTX rd
    obtain ⟨c1, c2, c3, c4, s, L', ⟨d1, d2, d3, d4, d5, d6⟩, c6, c5⟩ := hTX
    have hml : mln (fl X) ≤ 400 := by omega
    have hge := mln_ge (fl X)
    obtain ⟨z, eM, x, hx, hz⟩ := m_textW (RR := fun x => LowM b x.2 ∧ x.2 102 25 = 0 ∧ x.1 = nI X.length ∧ x.2 102 26 = nI (mln (fl X)) ∧ mAt (fun k => x.2 117 (800 + k)) (fun k => x.2 118 (800 + k)) 0 (fl X) ∧ lnM x.2 X 0 0) (by decide) hTP hch (fun s h1 h2 => rd s h1 h2) (fun x hx hne => by
      unfold tks
      rw [if_pos rfl, hx.2.2.1]
      exact w1_f2 (m_takesLaw c2 hml (by rw [pt_k _ _ _ (by decide)]; exact hx.2.1) (by rw [pt_k _ _ _ (by decide)]; exact hx.2.2.2.1)) (fr_M_takesLaw _ _))
    obtain ⟨⟨n1, n2, n3, n4, n5, n6, n7, n8, n9⟩, hx25, hx1, hx26, hxm, hxl⟩ := hx
    rcases hz with ⟨hne, _⟩ | ⟨_, t, ⟨⟨t1, t2, t3⟩, t4⟩, rfl⟩
    · exact absurd hne (ne_m1 hx1 (by omega))
    obtain ⟨tc', eA, ⟨⟨u1, u2, u3, u4⟩, u5⟩⟩ := ad0_19_36 zc.2
    have hlow := tk_low eC
    have eH : fH_text (nI 0) a = some (nI X.length, tc') := by
      unfold fH_text
      rw [eC, show zc = (zc.1, zc.2) from rfl, bi_s, if_neg (ne_m1 c1 (by omega)), show fTe_adopt 19 (nI 0) 36 zc.2 = some tc' from eA, bv_s, bnd_e, if_neg (show ¬ nI 0 = 1 by decide), if_neg (show ¬ nI 0 = 2 by decide), c1]
    have t4 : ∀ o k, o ∉ [112, 113, 114, 115, 116, 117, 118] → t o k = pt x.2 102 12 0 o k := fun o k h => t4 o k h (by simp)
    have t0 : ∀ k, k ≠ 12 → t 102 k = x.2 102 k := fun k k3 => by rw [t4 102 k (by decide), pt_k _ _ _ k3]
    have tq : ∀ q, q ∉ [112, 113, 114, 115, 116, 117, 118] → q ≠ 102 → t q = x.2 q := fun q q1 q2 => funext fun k => by rw [t4 q k q1, ptq _ _ _ q2]
    have s39 : zc.2 39 = s 39 := by rw [c5, ptq _ _ _ (by decide)]
    have s40 : zc.2 40 = s 40 := by rw [c5, ptq _ _ _ (by decide)]
    rw [hx1] at eM
    refine ⟨nI X.length, tc', t, eH, eM, tx_inv hI eH eM (by rw [u5 31 (by decide)]; exact h31) (by rw [t4 102 12 (by decide), pt_s]) ⟨?_, ?_⟩ ?_ ?_ ?_ ?_ (tx_15 hI eH eM (by rw [u5 5 (by decide), hlow 5 (by decide)]) (by rw [t0 3 (by decide)]; exact n7 3 (by decide)))⟩
    · rw [u5 30 (by decide), t0 32 (by decide), n8]; exact c3
    · rw [u5 30 (by decide), t0 33 (by decide), n9]; exact c4
    · exact g1_c (hI 1) (by rw [u5 25 (by decide), hlow 25 (by decide)]) (fun k _ => by rw [u5 26 (by decide), hlow 26 (by decide)]) (by rw [t0 34 (by decide)]; exact n7 34 (by decide)) (by rw [t0 6 (by decide)]; exact n7 6 (by decide)) (fun k hk => by rw [tq 120 (by decide) (by decide)]; exact n3 k hk)
    · exact g2_c (hI 2) (by rw [u5 27 (by decide), hlow 27 (by decide)]) (fun k _ => by rw [u5 28 (by decide), hlow 28 (by decide)]) (by rw [t0 36 (by decide)]; exact n7 36 (by decide)) (fun k hk => by rw [tq 121 (by decide) (by decide)]; exact n4 k hk)
    · exact g3_c (hI 3) (by rw [u5 19 (by decide), hlow 19 (by decide)]) (fun k _ => by rw [u5 29 (by decide), hlow 29 (by decide)]) (by rw [t0 38 (by decide)]; exact n7 38 (by decide)) (fun k hk => by rw [tq 122 (by decide) (by decide)]; exact n5 k hk)
    · refine ⟨X.length, (fl X).length, c2, by omega, ?_, t1, ?_, fun l hl => ?_⟩
      · rw [u2, c5, ptq _ _ _ (by decide)]; exact d3
      · rw [u1, c5, ptq _ _ _ (by decide)]; exact d1.1
      · have hcode : cAt (tc' 23) 0 (fl X) := cAt_cp (fl X) 0 d1.2 (fun k _ hk => by rw [u4 k (by omega), s40])
        have hop : mAt (t 117) (t 118) 0 (fl X) := mAt_cp (fl X) 0 hxm (fun k _ hk => by
          obtain ⟨e1, e2⟩ := t3 k (by omega)
          rw [e1, e2, ptq _ _ _ (by decide), ptq _ _ _ (by decide)]
          exact ⟨rfl, rfl⟩)
        have := ln_ok (z := (fl X).length) X 0 0 0 d2 hxl hcode hop d5 (by omega) (by omega) l hl
        rw [Nat.zero_add] at this
        obtain ⟨e1, e2, e3, e4⟩ := t2 l hl
        rw [ptq _ _ _ (by decide)] at e1 e2 e3 e4
        rw [u3 _ (by omega), u3 _ (by omega), u3 _ (by omega), u3 _ (by omega), s39, e1, e2, e3, e4]
        exact this
theorem sim_text (v : Int32) : Sim (fH_text v) (fM_text v) := by
  intro a b hI
  by_cases hv : wi v 0 3 = 0
  · have eC : fRe_take v (a 1 1) a = some (-1, pt (pt (pt a 30 3 0) 30 4 (-1)) 31 4 0) := by
      unfold fRe_take
      rw [bnd_e, bnd_e, e_within, bi_s, hv, bnd_e, if_pos rfl]
      dsimp only
      rw [show FU = 4999 + 1 from rfl, lp_s, bnd_e, if_pos rfl]
      dsimp only
      rw [bnd_e, if_pos rfl]
    have eM : fM_text v b = some (-1, badM (-1, pt (pt (pt (pt (pt (pt (pt b 102 0 0) 102 32 0) 102 33 (-1)) 102 13 0) 102 26 0) 102 27 0) 102 30 0)) ∨ True := Or.inr trivial
    have eM : fM_text v b = some (-1, pt (pt (pt (pt (pt (pt (pt b 102 0 0) 102 32 0) 102 33 (-1)) 102 13 0) 102 26 0) 102 27 0) 102 12 0) := by
      unfold fM_text
      rw [bnd_e, bnd_e, bnd_e, bnd_e, bnd_e, bnd_e, e_isIn, bi_s, hv, bnd_e, if_pos rfl]
      dsimp only
      rw [bnd_e, if_pos rfl]
    have eH : fH_text v a = some (-1, pt (pt (pt a 30 3 0) 30 4 (-1)) 31 4 0) := by
      unfold fH_text
      rw [eC, bi_s, if_pos rfl]
    have hlow := tk_low eC
    dsimp only at hlow
    generalize hb : pt (pt (pt (pt (pt (pt (pt b 102 0 0) 102 32 0) 102 33 (-1)) 102 13 0) 102 26 0) 102 27 0) 102 12 0 = b' at eM
    have q : ∀ o, o ≠ 102 → b' o = b o := fun o h => by rw [← hb, ptq _ _ _ h, ptq _ _ _ h, ptq _ _ _ h, ptq _ _ _ h, ptq _ _ _ h, ptq _ _ _ h, ptq _ _ _ h]
    have q2 : ∀ k, k ∉ [0, 12, 13, 26, 27, 32, 33] → b' 102 k = b 102 k := fun k hk => by
      simp only [List.mem_cons, List.not_mem_nil, or_false, not_or] at hk
      obtain ⟨k0, k12, k13, k26, k27, k32, k33⟩ := hk
      rw [← hb, pt_k _ _ _ k12, pt_k _ _ _ k27, pt_k _ _ _ k26, pt_k _ _ _ k13, pt_k _ _ _ k33, pt_k _ _ _ k32, pt_k _ _ _ k0]
    refine ⟨-1, _, b', eH, eM, tx_inv hI eH eM (pt_s _ _ _ _) (by rw [← hb, pt_s]) ⟨?_, ?_⟩ ?_ ?_ ?_ ?_ (tx_15 hI eH eM (by rw [hlow 5 (by decide)]) (q2 3 (by decide)))⟩
    · rw [ptq _ _ _ (by decide), pt_k _ _ _ (by decide), pt_s, ← hb, pt_k _ _ _ (by decide), pt_k _ _ _ (by decide), pt_k _ _ _ (by decide), pt_k _ _ _ (by decide), pt_k _ _ _ (by decide), pt_s]
    · rw [ptq _ _ _ (by decide), pt_s, ← hb, pt_k _ _ _ (by decide), pt_k _ _ _ (by decide), pt_k _ _ _ (by decide), pt_k _ _ _ (by decide), pt_s]
    · exact g1_c (hI 1) (by rw [hlow 25 (by decide)]) (fun k _ => by rw [hlow 26 (by decide)]) (q2 34 (by decide)) (q2 6 (by decide)) (fun k _ => by rw [q 120 (by decide)])
    · exact g2_c (hI 2) (by rw [hlow 27 (by decide)]) (fun k _ => by rw [hlow 28 (by decide)]) (q2 36 (by decide)) (fun k _ => by rw [q 121 (by decide)])
    · exact g3_c (hI 3) (by rw [hlow 19 (by decide)]) (fun k _ => by rw [hlow 29 (by decide)]) (q2 38 (by decide)) (fun k _ => by rw [q 122 (by decide)])
    · exact g4_c (hI 4) (by rw [hlow 21 (by decide)]) (hlow 22 (by decide)) (by rw [hlow 20 (by decide)]) (hlow 23 (by decide)) (by rw [q 112 (by decide)]) (fun k _ => by rw [q 113 (by decide), q 114 (by decide), q 115 (by decide), q 116 (by decide)]; exact ⟨rfl, rfl, rfl, rfl⟩) (fun k _ => by rw [q 117 (by decide), q 118 (by decide)]; exact ⟨rfl, rfl⟩)
  · obtain ⟨k, _, hk, rfl⟩ := wi_1 (a := 0) (b := 3) (by decide) (by decide) hv
    have : k = 0 ∨ k = 1 ∨ k = 2 ∨ k = 3 := by omega
    rcases this with rfl | rfl | rfl | rfl
    · exact text_0 hI
    · exact text_1 hI
    · exact text_2 hI
    · exact text_3 hI
