def fL_law (xs : Nat → Int32) (n : Nat) (s0 : Sg) : Option (Int32 × Sg) := lp FU (fun q18 (u18 : Int32) (s1 : Sg) => if ((nI n) - 6) < u18 then (some (1, s1)) else (gd u18 n (bnd (fun (s2 : Sg) => q18 (u18 + 6) s2) fun j1369 => if ((xs (ix u18)) &&& 63) = 0 then (fL_0 j1369 xs n u18 s1) else (if ((xs (ix u18)) &&& 63) = 1 then (fL_1 j1369 xs n u18 s1) else (if ((xs (ix u18)) &&& 63) = 2 then (fL_2 j1369 xs n u18 s1) else (if ((xs (ix u18)) &&& 63) = 3 then (fL_3 j1369 xs n u18 s1) else (if ((xs (ix u18)) &&& 63) = 4 then (fL_4 j1369 xs n u18 s1) else (if ((xs (ix u18)) &&& 63) = 5 then (fL_5 j1369 xs n u18 s1) else (if ((xs (ix u18)) &&& 63) = 6 then (fL_6 j1369 xs n u18 s1) else (if ((xs (ix u18)) &&& 63) = 7 then (fL_7 j1369 xs n u18 s1) else (if ((xs (ix u18)) &&& 63) = 8 then (fL_8 j1369 xs n u18 s1) else (if ((xs (ix u18)) &&& 63) = 9 then (fL_9 j1369 xs n u18 s1) else (if ((xs (ix u18)) &&& 63) = 10 then (fL_10 j1369 xs n u18 s1) else (if ((xs (ix u18)) &&& 63) = 11 then (fL_11 j1369 xs n u18 s1) else (if ((xs (ix u18)) &&& 63) = 12 then (fL_12 j1369 xs n u18 s1) else (if ((xs (ix u18)) &&& 63) = 13 then (fL_13 j1369 xs n u18 s1) else (if ((xs (ix u18)) &&& 63) = 14 then (fL_14 j1369 xs n u18 s1) else (if ((xs (ix u18)) &&& 63) = 15 then (fL_15 j1369 xs n u18 s1) else (if ((xs (ix u18)) &&& 63) = 16 then (fL_16 j1369 xs n u18 s1) else (if ((xs (ix u18)) &&& 63) = 17 then (fL_17 j1369 xs n u18 s1) else (if ((xs (ix u18)) &&& 63) = 18 then (fL_18 j1369 xs n u18 s1) else (if ((xs (ix u18)) &&& 63) = 19 then (fL_19 j1369 xs n u18 s1) else (if ((xs (ix u18)) &&& 63) = 20 then (fL_20 j1369 xs n u18 s1) else (if ((xs (ix u18)) &&& 63) = 21 then (fL_21 j1369 xs n u18 s1) else (if ((xs (ix u18)) &&& 63) = 22 then (fL_22 j1369 xs n u18 s1) else (if ((xs (ix u18)) &&& 63) = 23 then (fL_23 j1369 xs n u18 s1) else (if ((xs (ix u18)) &&& 63) = 24 then (fL_24 j1369 xs n u18 s1) else (if ((xs (ix u18)) &&& 63) = 25 then (fL_25 j1369 xs n u18 s1) else (if ((xs (ix u18)) &&& 63) = 26 then (fL_26 j1369 xs n u18 s1) else (if ((xs (ix u18)) &&& 63) = 27 then (fL_27 j1369 xs n u18 s1) else (if ((xs (ix u18)) &&& 63) = 28 then (fL_28 j1369 xs n u18 s1) else (if ((xs (ix u18)) &&& 63) = 29 then (fL_29 j1369 xs n u18 s1) else (if ((xs (ix u18)) &&& 63) = 30 then (fL_30 j1369 xs n u18 s1) else (if ((xs (ix u18)) &&& 63) = 31 then (fL_31 j1369 xs n u18 s1) else (if ((xs (ix u18)) &&& 63) = 32 then (fL_32 j1369 xs n u18 s1) else (if ((xs (ix u18)) &&& 63) = 33 then (fL_33 j1369 xs n u18 s1) else (if ((xs (ix u18)) &&& 63) = 34 then (fL_34 j1369 xs n u18 s1) else (if ((xs (ix u18)) &&& 63) = 35 then (fL_35 j1369 xs n u18 s1) else (if ((xs (ix u18)) &&& 63) = 36 then (fL_36 j1369 xs n u18 s1) else (j1369 s1)))))))))))))))))))))))))))))))))))))))) 0 s0
set_option maxHeartbeats 40000000 in
set_option maxRecDepth 100000 in
theorem law_walk {C : Cx} {b n : Nat} {xs : Nat → Int32} (X : Fx C cL_law 4 R_law ret 16) (E : LE C b) (Y : LX C b n xs) (s0 : Sg) : GF C evI 16 [some (.ref b), some (.ref (C.w.ad 0)), some (.ref (C.w.ad 102)), none] [] s0 (fL_law xs n s0) := by
  unfold fL_law
  refine g_iconst X 0 dL_law_16 (by decide) ?_
  refine g_istore_n X [some (.ref b), some (.ref (C.w.ad 0)), some (.ref (C.w.ad 102)), some (.int 0)] dL_law_17 (by decide) (Nat.le_of_ble_eq_true rfl) rfl ?_
  refine gf_sub (L' := [some (.ref b), some (.ref (C.w.ad 0)), some (.ref (C.w.ad 102)), some (.int 0)]) ?_ (by simp [lsub])
  refine gf_lp (Lf := fun (u18 : Int32) => [some (.ref b), some (.ref (C.w.ad 0)), some (.ref (C.w.ad 102)), some (.int u18)]) (fun q18 hq18 u18 s1 => ?_) FU 0 s0
  refine g_iload_n X dL_law_18 rfl ?_
  refine g_aload_n X dL_law_19 rfl ?_
  refine g_slen X Y dL_law_20 ?_
  refine g_bipush X 6 dL_law_21 (by decide) ?_
  refine g_isub X dL_law_23 ?_
  refine g_cgt X (tgt := 1375) dL_law_24 (by decide) ?_ ?_
  · refine g_iconst X 1 dL_law_1375 (by decide) ?_
    exact g_lret X E dL_law_1376
  · refine g_aload_n X dL_law_27 rfl ?_
    refine g_iload_n X dL_law_28 rfl ?_
    refine g_sld X Y dL_law_29 ?_
    refine g_bipush X 63 dL_law_30 (by decide) ?_
    refine g_iand X dL_law_32 ?_
    refine gf_jn (fun j1369 => ∀ (s2 : Sg), GF C evI 1369 [some (.ref b), some (.ref (C.w.ad 0)), some (.ref (C.w.ad 102)), some (.int u18)] [] s2 (j1369 s2)) ?_ ?_
    · intro s2
      refine g_iinc X (u18 + 6) [some (.ref b), some (.ref (C.w.ad 0)), some (.ref (C.w.ad 102)), some (.int (u18 + 6))] dL_law_1369 rfl rfl (by decide) rfl ?_
      refine g_goto X 18 dL_law_1372 (by decide) ?_
      exact gf_sub (hq18 (u18 + 6) s2) (by simp [lsub])
    · intro j1369 hj1369
      refine gf_ite (fun c33_0 => ?_) (fun c33_0 => ?_)
      · refine g_tabIn X (tgt := 196) (off := 163) 0 c33_0 dL_law_33 (by decide) (by decide) ?_
        exact okL_0 X E Y j1369 u18 hj1369 s1
      · refine gf_ite (fun c33_1 => ?_) (fun c33_1 => ?_)
        · refine g_tabIn X (tgt := 219) (off := 186) 1 c33_1 dL_law_33 (by decide) (by decide) ?_
          exact okL_1 X E Y j1369 u18 hj1369 s1
        · refine gf_ite (fun c33_2 => ?_) (fun c33_2 => ?_)
          · refine g_tabIn X (tgt := 262) (off := 229) 2 c33_2 dL_law_33 (by decide) (by decide) ?_
            exact okL_2 X E Y j1369 u18 hj1369 s1
          · refine gf_ite (fun c33_3 => ?_) (fun c33_3 => ?_)
            · refine g_tabIn X (tgt := 305) (off := 272) 3 c33_3 dL_law_33 (by decide) (by decide) ?_
              exact okL_3 X E Y j1369 u18 hj1369 s1
            · refine gf_ite (fun c33_4 => ?_) (fun c33_4 => ?_)
              · refine g_tabIn X (tgt := 348) (off := 315) 4 c33_4 dL_law_33 (by decide) (by decide) ?_
                exact okL_4 X E Y j1369 u18 hj1369 s1
              · refine gf_ite (fun c33_5 => ?_) (fun c33_5 => ?_)
                · refine g_tabIn X (tgt := 371) (off := 338) 5 c33_5 dL_law_33 (by decide) (by decide) ?_
                  exact okL_5 X E Y j1369 u18 hj1369 s1
                · refine gf_ite (fun c33_6 => ?_) (fun c33_6 => ?_)
                  · refine g_tabIn X (tgt := 394) (off := 361) 6 c33_6 dL_law_33 (by decide) (by decide) ?_
                    exact okL_6 X E Y j1369 u18 hj1369 s1
                  · refine gf_ite (fun c33_7 => ?_) (fun c33_7 => ?_)
                    · refine g_tabIn X (tgt := 457) (off := 424) 7 c33_7 dL_law_33 (by decide) (by decide) ?_
                      exact okL_7 X E Y j1369 u18 hj1369 s1
                    · refine gf_ite (fun c33_8 => ?_) (fun c33_8 => ?_)
                      · refine g_tabIn X (tgt := 480) (off := 447) 8 c33_8 dL_law_33 (by decide) (by decide) ?_
                        exact okL_8 X E Y j1369 u18 hj1369 s1
                      · refine gf_ite (fun c33_9 => ?_) (fun c33_9 => ?_)
                        · refine g_tabIn X (tgt := 503) (off := 470) 9 c33_9 dL_law_33 (by decide) (by decide) ?_
                          exact okL_9 X E Y j1369 u18 hj1369 s1
                        · refine gf_ite (fun c33_10 => ?_) (fun c33_10 => ?_)
                          · refine g_tabIn X (tgt := 526) (off := 493) 10 c33_10 dL_law_33 (by decide) (by decide) ?_
                            exact okL_10 X E Y j1369 u18 hj1369 s1
                          · refine gf_ite (fun c33_11 => ?_) (fun c33_11 => ?_)
                            · refine g_tabIn X (tgt := 559) (off := 526) 11 c33_11 dL_law_33 (by decide) (by decide) ?_
                              exact okL_11 X E Y j1369 u18 hj1369 s1
                            · refine gf_ite (fun c33_12 => ?_) (fun c33_12 => ?_)
                              · refine g_tabIn X (tgt := 592) (off := 559) 12 c33_12 dL_law_33 (by decide) (by decide) ?_
                                exact okL_12 X E Y j1369 u18 hj1369 s1
                              · refine gf_ite (fun c33_13 => ?_) (fun c33_13 => ?_)
                                · refine g_tabIn X (tgt := 625) (off := 592) 13 c33_13 dL_law_33 (by decide) (by decide) ?_
                                  exact okL_13 X E Y j1369 u18 hj1369 s1
                                · refine gf_ite (fun c33_14 => ?_) (fun c33_14 => ?_)
                                  · refine g_tabIn X (tgt := 648) (off := 615) 14 c33_14 dL_law_33 (by decide) (by decide) ?_
                                    exact okL_14 X E Y j1369 u18 hj1369 s1
                                  · refine gf_ite (fun c33_15 => ?_) (fun c33_15 => ?_)
                                    · refine g_tabIn X (tgt := 671) (off := 638) 15 c33_15 dL_law_33 (by decide) (by decide) ?_
                                      exact okL_15 X E Y j1369 u18 hj1369 s1
                                    · refine gf_ite (fun c33_16 => ?_) (fun c33_16 => ?_)
                                      · refine g_tabIn X (tgt := 704) (off := 671) 16 c33_16 dL_law_33 (by decide) (by decide) ?_
                                        exact okL_16 X E Y j1369 u18 hj1369 s1
                                      · refine gf_ite (fun c33_17 => ?_) (fun c33_17 => ?_)
                                        · refine g_tabIn X (tgt := 753) (off := 720) 17 c33_17 dL_law_33 (by decide) (by decide) ?_
                                          exact okL_17 X E Y j1369 u18 hj1369 s1
                                        · refine gf_ite (fun c33_18 => ?_) (fun c33_18 => ?_)
                                          · refine g_tabIn X (tgt := 776) (off := 743) 18 c33_18 dL_law_33 (by decide) (by decide) ?_
                                            exact okL_18 X E Y j1369 u18 hj1369 s1
                                          · refine gf_ite (fun c33_19 => ?_) (fun c33_19 => ?_)
                                            · refine g_tabIn X (tgt := 809) (off := 776) 19 c33_19 dL_law_33 (by decide) (by decide) ?_
                                              exact okL_19 X E Y j1369 u18 hj1369 s1
                                            · refine gf_ite (fun c33_20 => ?_) (fun c33_20 => ?_)
                                              · refine g_tabIn X (tgt := 842) (off := 809) 20 c33_20 dL_law_33 (by decide) (by decide) ?_
                                                exact okL_20 X E Y j1369 u18 hj1369 s1
                                              · refine gf_ite (fun c33_21 => ?_) (fun c33_21 => ?_)
                                                · refine g_tabIn X (tgt := 885) (off := 852) 21 c33_21 dL_law_33 (by decide) (by decide) ?_
                                                  exact okL_21 X E Y j1369 u18 hj1369 s1
                                                · refine gf_ite (fun c33_22 => ?_) (fun c33_22 => ?_)
                                                  · refine g_tabIn X (tgt := 928) (off := 895) 22 c33_22 dL_law_33 (by decide) (by decide) ?_
                                                    exact okL_22 X E Y j1369 u18 hj1369 s1
                                                  · refine gf_ite (fun c33_23 => ?_) (fun c33_23 => ?_)
                                                    · refine g_tabIn X (tgt := 971) (off := 938) 23 c33_23 dL_law_33 (by decide) (by decide) ?_
                                                      exact okL_23 X E Y j1369 u18 hj1369 s1
                                                    · refine gf_ite (fun c33_24 => ?_) (fun c33_24 => ?_)
                                                      · refine g_tabIn X (tgt := 1004) (off := 971) 24 c33_24 dL_law_33 (by decide) (by decide) ?_
                                                        exact okL_24 X E Y j1369 u18 hj1369 s1
                                                      · refine gf_ite (fun c33_25 => ?_) (fun c33_25 => ?_)
                                                        · refine g_tabIn X (tgt := 1037) (off := 1004) 25 c33_25 dL_law_33 (by decide) (by decide) ?_
                                                          exact okL_25 X E Y j1369 u18 hj1369 s1
                                                        · refine gf_ite (fun c33_26 => ?_) (fun c33_26 => ?_)
                                                          · refine g_tabIn X (tgt := 1060) (off := 1027) 26 c33_26 dL_law_33 (by decide) (by decide) ?_
                                                            exact okL_26 X E Y j1369 u18 hj1369 s1
                                                          · refine gf_ite (fun c33_27 => ?_) (fun c33_27 => ?_)
                                                            · refine g_tabIn X (tgt := 1103) (off := 1070) 27 c33_27 dL_law_33 (by decide) (by decide) ?_
                                                              exact okL_27 X E Y j1369 u18 hj1369 s1
                                                            · refine gf_ite (fun c33_28 => ?_) (fun c33_28 => ?_)
                                                              · refine g_tabIn X (tgt := 1136) (off := 1103) 28 c33_28 dL_law_33 (by decide) (by decide) ?_
                                                                exact okL_28 X E Y j1369 u18 hj1369 s1
                                                              · refine gf_ite (fun c33_29 => ?_) (fun c33_29 => ?_)
                                                                · refine g_tabIn X (tgt := 1159) (off := 1126) 29 c33_29 dL_law_33 (by decide) (by decide) ?_
                                                                  exact okL_29 X E Y j1369 u18 hj1369 s1
                                                                · refine gf_ite (fun c33_30 => ?_) (fun c33_30 => ?_)
                                                                  · refine g_tabIn X (tgt := 1192) (off := 1159) 30 c33_30 dL_law_33 (by decide) (by decide) ?_
                                                                    exact okL_30 X E Y j1369 u18 hj1369 s1
                                                                  · refine gf_ite (fun c33_31 => ?_) (fun c33_31 => ?_)
                                                                    · refine g_tabIn X (tgt := 1225) (off := 1192) 31 c33_31 dL_law_33 (by decide) (by decide) ?_
                                                                      exact okL_31 X E Y j1369 u18 hj1369 s1
                                                                    · refine gf_ite (fun c33_32 => ?_) (fun c33_32 => ?_)
                                                                      · refine g_tabIn X (tgt := 1258) (off := 1225) 32 c33_32 dL_law_33 (by decide) (by decide) ?_
                                                                        exact okL_32 X E Y j1369 u18 hj1369 s1
                                                                      · refine gf_ite (fun c33_33 => ?_) (fun c33_33 => ?_)
                                                                        · refine g_tabIn X (tgt := 1271) (off := 1238) 33 c33_33 dL_law_33 (by decide) (by decide) ?_
                                                                          exact okL_33 X E Y j1369 u18 hj1369 s1
                                                                        · refine gf_ite (fun c33_34 => ?_) (fun c33_34 => ?_)
                                                                          · refine g_tabIn X (tgt := 1294) (off := 1261) 34 c33_34 dL_law_33 (by decide) (by decide) ?_
                                                                            exact okL_34 X E Y j1369 u18 hj1369 s1
                                                                          · refine gf_ite (fun c33_35 => ?_) (fun c33_35 => ?_)
                                                                            · refine g_tabIn X (tgt := 1307) (off := 1274) 35 c33_35 dL_law_33 (by decide) (by decide) ?_
                                                                              exact okL_35 X E Y j1369 u18 hj1369 s1
                                                                            · refine gf_ite (fun c33_36 => ?_) (fun c33_36 => ?_)
                                                                              · refine g_tabIn X (tgt := 1346) (off := 1313) 36 c33_36 dL_law_33 (by decide) (by decide) ?_
                                                                                exact okL_36 X E Y j1369 u18 hj1369 s1
                                                                              · have z0 := ne_ti c33_0 (z := 0) (by decide)
                                                                                have z1 := ne_ti c33_1 (z := 1) (by decide)
                                                                                have z2 := ne_ti c33_2 (z := 2) (by decide)
                                                                                have z3 := ne_ti c33_3 (z := 3) (by decide)
                                                                                have z4 := ne_ti c33_4 (z := 4) (by decide)
                                                                                have z5 := ne_ti c33_5 (z := 5) (by decide)
                                                                                have z6 := ne_ti c33_6 (z := 6) (by decide)
                                                                                have z7 := ne_ti c33_7 (z := 7) (by decide)
                                                                                have z8 := ne_ti c33_8 (z := 8) (by decide)
                                                                                have z9 := ne_ti c33_9 (z := 9) (by decide)
                                                                                have z10 := ne_ti c33_10 (z := 10) (by decide)
                                                                                have z11 := ne_ti c33_11 (z := 11) (by decide)
                                                                                have z12 := ne_ti c33_12 (z := 12) (by decide)
                                                                                have z13 := ne_ti c33_13 (z := 13) (by decide)
                                                                                have z14 := ne_ti c33_14 (z := 14) (by decide)
                                                                                have z15 := ne_ti c33_15 (z := 15) (by decide)
                                                                                have z16 := ne_ti c33_16 (z := 16) (by decide)
                                                                                have z17 := ne_ti c33_17 (z := 17) (by decide)
                                                                                have z18 := ne_ti c33_18 (z := 18) (by decide)
                                                                                have z19 := ne_ti c33_19 (z := 19) (by decide)
                                                                                have z20 := ne_ti c33_20 (z := 20) (by decide)
                                                                                have z21 := ne_ti c33_21 (z := 21) (by decide)
                                                                                have z22 := ne_ti c33_22 (z := 22) (by decide)
                                                                                have z23 := ne_ti c33_23 (z := 23) (by decide)
                                                                                have z24 := ne_ti c33_24 (z := 24) (by decide)
                                                                                have z25 := ne_ti c33_25 (z := 25) (by decide)
                                                                                have z26 := ne_ti c33_26 (z := 26) (by decide)
                                                                                have z27 := ne_ti c33_27 (z := 27) (by decide)
                                                                                have z28 := ne_ti c33_28 (z := 28) (by decide)
                                                                                have z29 := ne_ti c33_29 (z := 29) (by decide)
                                                                                have z30 := ne_ti c33_30 (z := 30) (by decide)
                                                                                have z31 := ne_ti c33_31 (z := 31) (by decide)
                                                                                have z32 := ne_ti c33_32 (z := 32) (by decide)
                                                                                have z33 := ne_ti c33_33 (z := 33) (by decide)
                                                                                have z34 := ne_ti c33_34 (z := 34) (by decide)
                                                                                have z35 := ne_ti c33_35 (z := 35) (by decide)
                                                                                have z36 := ne_ti c33_36 (z := 36) (by decide)
                                                                                refine g_tabOut X (tgt := 1369) dL_law_33 (by dsimp only [ix] at *; omega) (by decide) ?_
                                                                                exact gf_sub (hj1369 s1) (by simp [lsub])
