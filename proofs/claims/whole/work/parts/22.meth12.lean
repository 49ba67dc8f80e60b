def yH_earliest : MethodName := ⟨"LastWordHill", "earliest", "(I)I"⟩
abbrev cH_earliest : ByteArray := prog_1_method_20_code
theorem dH_earliest_0 : decode cH_earliest 0 = .ok (.aload_n 0, 1) := by decide +kernel
theorem dH_earliest_1 : decode cH_earliest 1 = .ok (.getfield 12, 3) := by decide +kernel
theorem dH_earliest_4 : decode cH_earliest 4 = .ok (.iload_n 1, 1) := by decide +kernel
theorem dH_earliest_5 : decode cH_earliest 5 = .ok (.invokevirtual 124, 3) := by decide +kernel
theorem dH_earliest_8 : decode cH_earliest 8 = .ok (.ifCond .ne 5, 3) := by decide +kernel
theorem dH_earliest_13 : decode cH_earliest 13 = .ok (.aload_n 0, 1) := by decide +kernel
theorem dH_earliest_14 : decode cH_earliest 14 = .ok (.getfield 16, 3) := by decide +kernel
theorem fl_H_16 : FLk "LastWordHill" 16 11 1 := ⟨_, _, _, rfl, by decide, hz_in 554 (by decide +kernel) (by decide +kernel), nL11, by decide, by decide⟩
theorem k_3 : hz_kd 3 = 5 := by decide
theorem fb_11_1 : (hz_bs 11)[1]? = some true := by decide
theorem r_0_1 : hz_rf 0 1 = 3 := by decide
theorem dH_earliest_17 : decode cH_earliest 17 = .ok (.aload_n 0, 1) := by decide +kernel
theorem dH_earliest_18 : decode cH_earliest 18 = .ok (.getfield 12, 3) := by decide +kernel
theorem dH_earliest_21 : decode cH_earliest 21 = .ok (.invokevirtual 212, 3) := by decide +kernel
theorem ml_H_212 : Cond.methodLink "LastWordHill" 212 ySc_become ∈ hz_wt := hz_in 1105 (by decide +kernel) (by decide +kernel)
theorem dH_earliest_24 : decode cH_earliest 24 = .ok (.iconst 0, 1) := by decide +kernel
theorem dH_earliest_25 : decode cH_earliest 25 = .ok (.istore_n 2, 1) := by decide +kernel
theorem dH_earliest_26 : decode cH_earliest 26 = .ok (.iload_n 2, 1) := by decide +kernel
theorem dH_earliest_27 : decode cH_earliest 27 = .ok (.sipush 200, 3) := by decide +kernel
theorem dH_earliest_30 : decode cH_earliest 30 = .ok (.if_icmp .gt 34, 3) := by decide +kernel
theorem dH_earliest_64 : decode cH_earliest 64 = .ok (.iconst (-1), 1) := by decide +kernel
theorem dH_earliest_65 : decode cH_earliest 65 = .ok (.ireturn, 1) := by decide +kernel
theorem dH_earliest_33 : decode cH_earliest 33 = .ok (.aload_n 0, 1) := by decide +kernel
theorem dH_earliest_34 : decode cH_earliest 34 = .ok (.getfield 16, 3) := by decide +kernel
theorem dH_earliest_37 : decode cH_earliest 37 = .ok (.iload_n 1, 1) := by decide +kernel
theorem dH_earliest_38 : decode cH_earliest 38 = .ok (.invokevirtual 131, 3) := by decide +kernel
theorem dH_earliest_41 : decode cH_earliest 41 = .ok (.ifCond .eq 5, 3) := by decide +kernel
theorem dH_earliest_46 : decode cH_earliest 46 = .ok (.aload_n 0, 1) := by decide +kernel
theorem dH_earliest_47 : decode cH_earliest 47 = .ok (.getfield 61, 3) := by decide +kernel
theorem dH_earliest_50 : decode cH_earliest 50 = .ok (.aload_n 0, 1) := by decide +kernel
theorem dH_earliest_51 : decode cH_earliest 51 = .ok (.getfield 16, 3) := by decide +kernel
theorem dH_earliest_54 : decode cH_earliest 54 = .ok (.iload_n 1, 1) := by decide +kernel
theorem dH_earliest_55 : decode cH_earliest 55 = .ok (.invokevirtual 228, 3) := by decide +kernel
theorem mm_Su_climb : MMc ySu_climb cSu_climb 5 none 2 := ⟨hz_in 723 (by decide +kernel) (by decide +kernel), hz_in 144 (by decide +kernel) (by decide +kernel), by decide +kernel, by decide⟩
theorem mv_Su_climb : MMv ySu_climb 6 := ⟨hz_in 721 (by decide +kernel) (by decide +kernel), hz_in 722 (by decide +kernel) (by decide +kernel), _, _, rfl, by decide⟩
theorem ml_H_228 : Cond.methodLink "LastWordHill" 228 ySu_climb ∈ hz_wt := hz_in 1119 (by decide +kernel) (by decide +kernel)
theorem dH_earliest_58 : decode cH_earliest 58 = .ok (.iinc 2 1, 3) := by decide +kernel
theorem dH_earliest_61 : decode cH_earliest 61 = .ok (.goto (-35), 3) := by decide +kernel
theorem dH_earliest_44 : decode cH_earliest 44 = .ok (.iload_n 2, 1) := by decide +kernel
theorem dH_earliest_45 : decode cH_earliest 45 = .ok (.ireturn, 1) := by decide +kernel
theorem dH_earliest_11 : decode cH_earliest 11 = .ok (.iconst (-1), 1) := by decide +kernel
theorem dH_earliest_12 : decode cH_earliest 12 = .ok (.ireturn, 1) := by decide +kernel
def fH_earliest (v1 : Int32) (s0 : Sg) : Option (Int32 × Sg) := bi (fSc_has 1 v1 s0) fun r2 s1 => if r2 = 0 then (some ((-1), s1)) else (bv (fSc_become 3 1 s1) fun s3 => lp FU (fun q26 (u26 : Int32) (s4 : Sg) => if 200 < u26 then (some ((-1), s4)) else (bi (fSc_isUp 3 v1 s4) fun r6 s5 => if r6 = 0 then (bv (fSu_climb 3 v1 s5) fun s7 => q26 (u26 + 1) s7) else (some (u26, s5)))) 0 s3)
set_option maxHeartbeats 4000000 in
set_option maxRecDepth 100000 in
theorem okH_earliest (v1 : Int32) (s0 : Sg) : ∀ (l : Launch) (w : WC), Ok l w yH_earliest cH_earliest 3 (some .int) 6 evI [.ref (w.ad 0), .int v1] s0 (fH_earliest v1 s0) := by
  refine ok_in (ev := fun _ => evI) (av := fun w => [.ref (w.ad 0), .int v1]) "LastWordHill" rfl (by decide +kernel) (fun _ => rfl) (fun _ => Nat.le_of_ble_eq_true rfl) ?_
  intro C X E
  show GF C evI 0 [some (.ref (C.w.ad 0)), some (.int v1), none] [] s0 (fH_earliest v1 s0)
  unfold fH_earliest
  refine g_aload_n X dH_earliest_0 rfl ?_
  refine g_getN X fl_H_12 fb_11_0 k_0 r_0_0 dH_earliest_1 ?_
  refine g_iload_n X dH_earliest_4 rfl ?_
  refine g_virtI X [.int v1] [] k_1 mm_Sc_has mv_Sc_has ml_H_124 (okSc_has 1 v1 s0 k_1 C.l C.w) rfl (by decide) rfl (Nat.le_of_ble_eq_true rfl) dH_earliest_5 (fun r2 s1 => ?_)
  refine g_zne X (tgt := 13) dH_earliest_8 (by decide) ?_ ?_
  · refine g_iconst X (-1) dH_earliest_11 (by decide) ?_
    exact g_iret X E dH_earliest_12
  · refine g_aload_n X dH_earliest_13 rfl ?_
    refine g_getN X fl_H_16 fb_11_1 k_0 r_0_1 dH_earliest_14 ?_
    refine g_aload_n X dH_earliest_17 rfl ?_
    refine g_getN X fl_H_12 fb_11_0 k_0 r_0_0 dH_earliest_18 ?_
    refine g_virtV X [.ref (C.w.ad 1)] [] k_3 mm_Sc_become mv_Sc_become ml_H_212 (okSc_become 3 1 s1 k_3 k_1 C.l C.w) rfl (by decide) rfl (Nat.le_of_ble_eq_true rfl) dH_earliest_21 (fun s3 => ?_)
    refine g_iconst X 0 dH_earliest_24 (by decide) ?_
    refine g_istore_n X [some (.ref (C.w.ad 0)), some (.int v1), some (.int 0)] dH_earliest_25 (by decide) (Nat.le_of_ble_eq_true rfl) rfl ?_
    refine gf_sub (L' := [some (.ref (C.w.ad 0)), some (.int v1), some (.int 0)]) ?_ (by simp [lsub])
    refine gf_lp (Lf := fun (u26 : Int32) => [some (.ref (C.w.ad 0)), some (.int v1), some (.int u26)]) (fun q26 hq26 u26 s4 => ?_) FU 0 s3
    refine g_iload_n X dH_earliest_26 rfl ?_
    refine g_sipush X 200 dH_earliest_27 (by decide) ?_
    refine g_cgt X (tgt := 64) dH_earliest_30 (by decide) ?_ ?_
    · refine g_iconst X (-1) dH_earliest_64 (by decide) ?_
      exact g_iret X E dH_earliest_65
    · refine g_aload_n X dH_earliest_33 rfl ?_
      refine g_getN X fl_H_16 fb_11_1 k_0 r_0_1 dH_earliest_34 ?_
      refine g_iload_n X dH_earliest_37 rfl ?_
      refine g_virtI X [.int v1] [] k_3 mm_Sc_isUp mv_Sc_isUp ml_H_131 (okSc_isUp 3 v1 s4 k_3 C.l C.w) rfl (by decide) rfl (Nat.le_of_ble_eq_true rfl) dH_earliest_38 (fun r6 s5 => ?_)
      refine g_zeq X (tgt := 46) dH_earliest_41 (by decide) ?_ ?_
      · refine g_aload_n X dH_earliest_46 rfl ?_
        refine g_getN X fl_H_61 fb_11_7 k_0 r_0_7 dH_earliest_47 ?_
        refine g_aload_n X dH_earliest_50 rfl ?_
        refine g_getN X fl_H_16 fb_11_1 k_0 r_0_1 dH_earliest_51 ?_
        refine g_iload_n X dH_earliest_54 rfl ?_
        refine g_virtV X [.ref (C.w.ad 3), .int v1] [] k_65 mm_Su_climb mv_Su_climb ml_H_228 (okSu_climb 3 v1 s5 k_3 C.l C.w) rfl (by decide) rfl (Nat.le_of_ble_eq_true rfl) dH_earliest_55 (fun s7 => ?_)
        refine g_iinc X (u26 + 1) [some (.ref (C.w.ad 0)), some (.int v1), some (.int (u26 + 1))] dH_earliest_58 rfl rfl (by decide) rfl ?_
        refine g_goto X 26 dH_earliest_61 (by decide) ?_
        exact gf_sub (hq26 (u26 + 1) s7) (by simp [lsub])
      · refine g_iload_n X dH_earliest_44 rfl ?_
        exact g_iret X E dH_earliest_45
def yH_could : MethodName := ⟨"LastWordHill", "could", "(I)I"⟩
abbrev cH_could : ByteArray := prog_1_method_23_code
theorem dH_could_0 : decode cH_could 0 = .ok (.iload_n 1, 1) := by decide +kernel
theorem dH_could_1 : decode cH_could 1 = .ok (.ifCond .ne 13, 3) := by decide +kernel
theorem dH_could_14 : decode cH_could 14 = .ok (.iload_n 1, 1) := by decide +kernel
theorem dH_could_15 : decode cH_could 15 = .ok (.iconst 1, 1) := by decide +kernel
theorem dH_could_16 : decode cH_could 16 = .ok (.if_icmp .ne 13, 3) := by decide +kernel
theorem dH_could_29 : decode cH_could 29 = .ok (.iconst (-1), 1) := by decide +kernel
theorem dH_could_30 : decode cH_could 30 = .ok (.ireturn, 1) := by decide +kernel
theorem dH_could_19 : decode cH_could 19 = .ok (.aload_n 0, 1) := by decide +kernel
theorem dH_could_20 : decode cH_could 20 = .ok (.getfield 70, 3) := by decide +kernel
theorem dH_could_23 : decode cH_could 23 = .ok (.invokevirtual 261, 3) := by decide +kernel
theorem mm_Mu_nextQuestion : MMc yMu_nextQuestion cMu_nextQuestion 8 (some .int) 0 := ⟨hz_in 1174 (by decide +kernel) (by decide +kernel), hz_in 145 (by decide +kernel) (by decide +kernel), by decide +kernel, by decide⟩
theorem mv_Mu_nextQuestion : MMv yMu_nextQuestion 2 := ⟨hz_in 1172 (by decide +kernel) (by decide +kernel), hz_in 1173 (by decide +kernel) (by decide +kernel), _, _, rfl, by decide⟩
theorem ml_H_261 : Cond.methodLink "LastWordHill" 261 yMu_nextQuestion ∈ hz_wt := hz_in 1171 (by decide +kernel) (by decide +kernel)
theorem dH_could_26 : decode cH_could 26 = .ok (.goto 4, 3) := by decide +kernel
theorem dH_could_4 : decode cH_could 4 = .ok (.aload_n 0, 1) := by decide +kernel
theorem dH_could_5 : decode cH_could 5 = .ok (.getfield 70, 3) := by decide +kernel
theorem dH_could_8 : decode cH_could 8 = .ok (.invokevirtual 258, 3) := by decide +kernel
theorem ml_H_258 : Cond.methodLink "LastWordHill" 258 yMu_wordsThatCould ∈ hz_wt := hz_in 1161 (by decide +kernel) (by decide +kernel)
theorem dH_could_11 : decode cH_could 11 = .ok (.goto 19, 3) := by decide +kernel
def fH_could (v1 : Int32) (s0 : Sg) : Option (Int32 × Sg) := if v1 = 0 then (bi (fMu_wordsThatCould s0) fun r4 s3 => some (r4, s3)) else (if v1 = 1 then (bi (fMu_nextQuestion s0) fun r2 s1 => some (r2, s1)) else (some ((-1), s0)))
set_option maxHeartbeats 4000000 in
set_option maxRecDepth 100000 in
theorem okH_could (v1 : Int32) (s0 : Sg) : ∀ (l : Launch) (w : WC), Ok l w yH_could cH_could 2 (some .int) 7 evI [.ref (w.ad 0), .int v1] s0 (fH_could v1 s0) := by
  refine ok_in (ev := fun _ => evI) (av := fun w => [.ref (w.ad 0), .int v1]) "LastWordHill" rfl (by decide +kernel) (fun _ => rfl) (fun _ => Nat.le_of_ble_eq_true rfl) ?_
  intro C X E
  show GF C evI 0 [some (.ref (C.w.ad 0)), some (.int v1)] [] s0 (fH_could v1 s0)
  unfold fH_could
  refine g_iload_n X dH_could_0 rfl ?_
  refine g_zne X (tgt := 14) dH_could_1 (by decide) ?_ ?_
  · refine g_aload_n X dH_could_4 rfl ?_
    refine g_getN X fl_H_70 fb_11_8 k_0 r_0_8 dH_could_5 ?_
    refine g_virtI X [] [] k_66 mm_Mu_wordsThatCould mv_Mu_wordsThatCould ml_H_258 (okMu_wordsThatCould s0 C.l C.w) rfl (by decide) rfl (Nat.le_of_ble_eq_true rfl) dH_could_8 (fun r4 s3 => ?_)
    refine g_goto X 30 dH_could_11 (by decide) ?_
    exact g_iret X E dH_could_30
  · refine g_iload_n X dH_could_14 rfl ?_
    refine g_iconst X 1 dH_could_15 (by decide) ?_
    refine g_cne X (tgt := 29) dH_could_16 (by decide) ?_ ?_
    · refine g_aload_n X dH_could_19 rfl ?_
      refine g_getN X fl_H_70 fb_11_8 k_0 r_0_8 dH_could_20 ?_
      refine g_virtI X [] [] k_66 mm_Mu_nextQuestion mv_Mu_nextQuestion ml_H_261 (okMu_nextQuestion s0 C.l C.w) rfl (by decide) rfl (Nat.le_of_ble_eq_true rfl) dH_could_23 (fun r2 s1 => ?_)
      refine g_goto X 30 dH_could_26 (by decide) ?_
      exact g_iret X E dH_could_30
    · refine g_iconst X (-1) dH_could_29 (by decide) ?_
      exact g_iret X E dH_could_30
def yH_guard : MethodName := ⟨"LastWordHill", "guard", "(II)I"⟩
abbrev cH_guard : ByteArray := prog_1_method_25_code
theorem dH_guard_0 : decode cH_guard 0 = .ok (.iload_n 1, 1) := by decide +kernel
theorem dH_guard_1 : decode cH_guard 1 = .ok (.iconst 0, 1) := by decide +kernel
theorem dH_guard_2 : decode cH_guard 2 = .ok (.bipush 59, 2) := by decide +kernel
theorem dH_guard_4 : decode cH_guard 4 = .ok (.invokestatic 81, 3) := by decide +kernel
theorem dH_guard_7 : decode cH_guard 7 = .ok (.ifCond .eq 13, 3) := by decide +kernel
theorem dH_guard_20 : decode cH_guard 20 = .ok (.iconst (-1), 1) := by decide +kernel
theorem dH_guard_21 : decode cH_guard 21 = .ok (.ireturn, 1) := by decide +kernel
theorem dH_guard_10 : decode cH_guard 10 = .ok (.iload_n 2, 1) := by decide +kernel
theorem dH_guard_11 : decode cH_guard 11 = .ok (.iconst (-1), 1) := by decide +kernel
theorem dH_guard_12 : decode cH_guard 12 = .ok (.bipush 9, 2) := by decide +kernel
theorem dH_guard_14 : decode cH_guard 14 = .ok (.invokestatic 81, 3) := by decide +kernel
theorem dH_guard_17 : decode cH_guard 17 = .ok (.ifCond .ne 5, 3) := by decide +kernel
theorem dH_guard_22 : decode cH_guard 22 = .ok (.aload_n 0, 1) := by decide +kernel
theorem dH_guard_23 : decode cH_guard 23 = .ok (.getfield 70, 3) := by decide +kernel
theorem dH_guard_26 : decode cH_guard 26 = .ok (.iload_n 1, 1) := by decide +kernel
theorem dH_guard_27 : decode cH_guard 27 = .ok (.invokevirtual 267, 3) := by decide +kernel
theorem mm_Mu_fewestWatches : MMc yMu_fewestWatches cMu_fewestWatches 5 (some .int) 1 := ⟨hz_in 1192 (by decide +kernel) (by decide +kernel), hz_in 145 (by decide +kernel) (by decide +kernel), by decide +kernel, by decide⟩
theorem mv_Mu_fewestWatches : MMv yMu_fewestWatches 2 := ⟨hz_in 1190 (by decide +kernel) (by decide +kernel), hz_in 1191 (by decide +kernel) (by decide +kernel), _, _, rfl, by decide⟩
theorem ml_H_267 : Cond.methodLink "LastWordHill" 267 yMu_fewestWatches ∈ hz_wt := hz_in 1189 (by decide +kernel) (by decide +kernel)
theorem dH_guard_30 : decode cH_guard 30 = .ok (.istore_n 3, 1) := by decide +kernel
theorem dH_guard_31 : decode cH_guard 31 = .ok (.iload_n 3, 1) := by decide +kernel
theorem dH_guard_32 : decode cH_guard 32 = .ok (.iconst (-1), 1) := by decide +kernel
theorem dH_guard_33 : decode cH_guard 33 = .ok (.if_icmp .eq 8, 3) := by decide +kernel
theorem dH_guard_41 : decode cH_guard 41 = .ok (.iload_n 3, 1) := by decide +kernel
theorem dH_guard_42 : decode cH_guard 42 = .ok (.ireturn, 1) := by decide +kernel
theorem dH_guard_36 : decode cH_guard 36 = .ok (.iload_n 2, 1) := by decide +kernel
theorem dH_guard_37 : decode cH_guard 37 = .ok (.iconst (-1), 1) := by decide +kernel
theorem dH_guard_38 : decode cH_guard 38 = .ok (.if_icmp .ne 5, 3) := by decide +kernel
theorem dH_guard_43 : decode cH_guard 43 = .ok (.iload_n 3, 1) := by decide +kernel
theorem dH_guard_44 : decode cH_guard 44 = .ok (.iload_n 2, 1) := by decide +kernel
theorem dH_guard_45 : decode cH_guard 45 = .ok (.if_icmp .le 7, 3) := by decide +kernel
theorem dH_guard_52 : decode cH_guard 52 = .ok (.iconst 0, 1) := by decide +kernel
theorem dH_guard_53 : decode cH_guard 53 = .ok (.ireturn, 1) := by decide +kernel
theorem dH_guard_48 : decode cH_guard 48 = .ok (.iconst 1, 1) := by decide +kernel
theorem dH_guard_49 : decode cH_guard 49 = .ok (.goto 4, 3) := by decide +kernel
def fH_guard (v1 : Int32) (v2 : Int32) (s0 : Sg) : Option (Int32 × Sg) := bi (fH_within v1 0 59 s0) fun r2 s1 => if r2 = 0 then (some ((-1), s1)) else (bi (fH_within v2 (-1) 9 s1) fun r4 s3 => if r4 = 0 then (some ((-1), s3)) else (bi (fMu_fewestWatches v1 s3) fun r6 s5 => if r6 = (-1) then (some (r6, s5)) else (if v2 = (-1) then (some (r6, s5)) else (if r6 ≤ v2 then (some (0, s5)) else (some (1, s5))))))
set_option maxHeartbeats 4000000 in
set_option maxRecDepth 100000 in
theorem okH_guard (v1 : Int32) (v2 : Int32) (s0 : Sg) : ∀ (l : Launch) (w : WC), Ok l w yH_guard cH_guard 4 (some .int) 5 evI [.ref (w.ad 0), .int v1, .int v2] s0 (fH_guard v1 v2 s0) := by
  refine ok_in (ev := fun _ => evI) (av := fun w => [.ref (w.ad 0), .int v1, .int v2]) "LastWordHill" rfl (by decide +kernel) (fun _ => rfl) (fun _ => Nat.le_of_ble_eq_true rfl) ?_
  intro C X E
  show GF C evI 0 [some (.ref (C.w.ad 0)), some (.int v1), some (.int v2), none] [] s0 (fH_guard v1 v2 s0)
  unfold fH_guard
  refine g_iload_n X dH_guard_0 rfl ?_
  refine g_iconst X 0 dH_guard_1 (by decide) ?_
  refine g_bipush X 59 dH_guard_2 (by decide) ?_
  refine g_statI X [.int v1, .int 0, .int 59] [] mm_H_within ms_H_within ml_H_81 (okH_within v1 0 59 s0 C.l C.w) rfl (by decide) rfl (Nat.le_of_ble_eq_true rfl) dH_guard_4 (fun r2 s1 => ?_)
  refine g_zeq X (tgt := 20) dH_guard_7 (by decide) ?_ ?_
  · refine g_iconst X (-1) dH_guard_20 (by decide) ?_
    exact g_iret X E dH_guard_21
  · refine g_iload_n X dH_guard_10 rfl ?_
    refine g_iconst X (-1) dH_guard_11 (by decide) ?_
    refine g_bipush X 9 dH_guard_12 (by decide) ?_
    refine g_statI X [.int v2, .int (-1), .int 9] [] mm_H_within ms_H_within ml_H_81 (okH_within v2 (-1) 9 s1 C.l C.w) rfl (by decide) rfl (Nat.le_of_ble_eq_true rfl) dH_guard_14 (fun r4 s3 => ?_)
    refine g_zne X (tgt := 22) dH_guard_17 (by decide) ?_ ?_
    · refine g_iconst X (-1) dH_guard_20 (by decide) ?_
      exact g_iret X E dH_guard_21
    · refine g_aload_n X dH_guard_22 rfl ?_
      refine g_getN X fl_H_70 fb_11_8 k_0 r_0_8 dH_guard_23 ?_
      refine g_iload_n X dH_guard_26 rfl ?_
      refine g_virtI X [.int v1] [] k_66 mm_Mu_fewestWatches mv_Mu_fewestWatches ml_H_267 (okMu_fewestWatches v1 s3 C.l C.w) rfl (by decide) rfl (Nat.le_of_ble_eq_true rfl) dH_guard_27 (fun r6 s5 => ?_)
      refine g_istore_n X [some (.ref (C.w.ad 0)), some (.int v1), some (.int v2), some (.int r6)] dH_guard_30 (by decide) (Nat.le_of_ble_eq_true rfl) rfl ?_
      refine g_iload_n X dH_guard_31 rfl ?_
      refine g_iconst X (-1) dH_guard_32 (by decide) ?_
      refine g_ceq X (tgt := 41) dH_guard_33 (by decide) ?_ ?_
      · refine g_iload_n X dH_guard_41 rfl ?_
        exact g_iret X E dH_guard_42
      · refine g_iload_n X dH_guard_36 rfl ?_
        refine g_iconst X (-1) dH_guard_37 (by decide) ?_
        refine g_cne X (tgt := 43) dH_guard_38 (by decide) ?_ ?_
        · refine g_iload_n X dH_guard_41 rfl ?_
          exact g_iret X E dH_guard_42
        · refine g_iload_n X dH_guard_43 rfl ?_
          refine g_iload_n X dH_guard_44 rfl ?_
          refine g_cle X (tgt := 52) dH_guard_45 (by decide) ?_ ?_
          · refine g_iconst X 0 dH_guard_52 (by decide) ?_
            exact g_iret X E dH_guard_53
          · refine g_iconst X 1 dH_guard_48 (by decide) ?_
            refine g_goto X 53 dH_guard_49 (by decide) ?_
            exact g_iret X E dH_guard_53
def yH_down : MethodName := ⟨"LastWordHill", "down", "(III)I"⟩
abbrev cH_down : ByteArray := prog_1_method_27_code
theorem dH_down_0 : decode cH_down 0 = .ok (.iload_n 1, 1) := by decide +kernel
theorem dH_down_1 : decode cH_down 1 = .ok (.iconst 0, 1) := by decide +kernel
theorem dH_down_2 : decode cH_down 2 = .ok (.bipush 9, 2) := by decide +kernel
theorem dH_down_4 : decode cH_down 4 = .ok (.invokestatic 81, 3) := by decide +kernel
theorem dH_down_7 : decode cH_down 7 = .ok (.ifCond .eq 13, 3) := by decide +kernel
theorem dH_down_20 : decode cH_down 20 = .ok (.iconst (-1), 1) := by decide +kernel
theorem dH_down_21 : decode cH_down 21 = .ok (.ireturn, 1) := by decide +kernel
theorem dH_down_10 : decode cH_down 10 = .ok (.iload_n 2, 1) := by decide +kernel
theorem dH_down_11 : decode cH_down 11 = .ok (.iconst 0, 1) := by decide +kernel
theorem dH_down_12 : decode cH_down 12 = .ok (.bipush 9, 2) := by decide +kernel
theorem dH_down_14 : decode cH_down 14 = .ok (.invokestatic 81, 3) := by decide +kernel
theorem dH_down_17 : decode cH_down 17 = .ok (.ifCond .ne 5, 3) := by decide +kernel
theorem dH_down_22 : decode cH_down 22 = .ok (.iload_n 3, 1) := by decide +kernel
theorem dH_down_23 : decode cH_down 23 = .ok (.iconst (-1), 1) := by decide +kernel
theorem dH_down_24 : decode cH_down 24 = .ok (.if_icmp .ne 13, 3) := by decide +kernel
theorem dH_down_37 : decode cH_down 37 = .ok (.iload_n 3, 1) := by decide +kernel
theorem dH_down_38 : decode cH_down 38 = .ok (.invokestatic 117, 3) := by decide +kernel
theorem dH_down_41 : decode cH_down 41 = .ok (.ifCond .eq 16, 3) := by decide +kernel
theorem dH_down_57 : decode cH_down 57 = .ok (.iconst (-1), 1) := by decide +kernel
theorem dH_down_58 : decode cH_down 58 = .ok (.ireturn, 1) := by decide +kernel
theorem dH_down_44 : decode cH_down 44 = .ok (.aload_n 0, 1) := by decide +kernel
theorem dH_down_45 : decode cH_down 45 = .ok (.getfield 70, 3) := by decide +kernel
theorem dH_down_48 : decode cH_down 48 = .ok (.iload_n 1, 1) := by decide +kernel
theorem dH_down_49 : decode cH_down 49 = .ok (.iload_n 2, 1) := by decide +kernel
theorem dH_down_50 : decode cH_down 50 = .ok (.iload_n 3, 1) := by decide +kernel
theorem dH_down_51 : decode cH_down 51 = .ok (.invokevirtual 276, 3) := by decide +kernel
theorem mm_Mu_stepsBy : MMc yMu_stepsBy cMu_stepsBy 6 (some .int) 3 := ⟨hz_in 1230 (by decide +kernel) (by decide +kernel), hz_in 145 (by decide +kernel) (by decide +kernel), by decide +kernel, by decide⟩
theorem mv_Mu_stepsBy : MMv yMu_stepsBy 2 := ⟨hz_in 1228 (by decide +kernel) (by decide +kernel), hz_in 1229 (by decide +kernel) (by decide +kernel), _, _, rfl, by decide⟩
theorem ml_H_276 : Cond.methodLink "LastWordHill" 276 yMu_stepsBy ∈ hz_wt := hz_in 1227 (by decide +kernel) (by decide +kernel)
theorem dH_down_54 : decode cH_down 54 = .ok (.goto 4, 3) := by decide +kernel
theorem dH_down_27 : decode cH_down 27 = .ok (.aload_n 0, 1) := by decide +kernel
theorem dH_down_28 : decode cH_down 28 = .ok (.getfield 70, 3) := by decide +kernel
theorem dH_down_31 : decode cH_down 31 = .ok (.iload_n 1, 1) := by decide +kernel
theorem dH_down_32 : decode cH_down 32 = .ok (.iload_n 2, 1) := by decide +kernel
theorem dH_down_33 : decode cH_down 33 = .ok (.invokevirtual 273, 3) := by decide +kernel
theorem mm_Mu_stepsByAny : MMc yMu_stepsByAny cMu_stepsByAny 6 (some .int) 2 := ⟨hz_in 1208 (by decide +kernel) (by decide +kernel), hz_in 145 (by decide +kernel) (by decide +kernel), by decide +kernel, by decide⟩
theorem mv_Mu_stepsByAny : MMv yMu_stepsByAny 2 := ⟨hz_in 1206 (by decide +kernel) (by decide +kernel), hz_in 1207 (by decide +kernel) (by decide +kernel), _, _, rfl, by decide⟩
theorem ml_H_273 : Cond.methodLink "LastWordHill" 273 yMu_stepsByAny ∈ hz_wt := hz_in 1205 (by decide +kernel) (by decide +kernel)
theorem dH_down_36 : decode cH_down 36 = .ok (.ireturn, 1) := by decide +kernel
def fH_down (v1 : Int32) (v2 : Int32) (v3 : Int32) (s0 : Sg) : Option (Int32 × Sg) := bi (fH_within v1 0 9 s0) fun r2 s1 => if r2 = 0 then (some ((-1), s1)) else (bi (fH_within v2 0 9 s1) fun r4 s3 => if r4 = 0 then (some ((-1), s3)) else (if v3 = (-1) then (bi (fMu_stepsByAny v1 v2 s3) fun r10 s9 => some (r10, s9)) else (bi (fH_isWord v3 s3) fun r6 s5 => if r6 = 0 then (some ((-1), s5)) else (bi (fMu_stepsBy v1 v2 v3 s5) fun r8 s7 => some (r8, s7)))))
set_option maxHeartbeats 4000000 in
set_option maxRecDepth 100000 in
theorem okH_down (v1 : Int32) (v2 : Int32) (v3 : Int32) (s0 : Sg) : ∀ (l : Launch) (w : WC), Ok l w yH_down cH_down 4 (some .int) 5 evI [.ref (w.ad 0), .int v1, .int v2, .int v3] s0 (fH_down v1 v2 v3 s0) := by
  refine ok_in (ev := fun _ => evI) (av := fun w => [.ref (w.ad 0), .int v1, .int v2, .int v3]) "LastWordHill" rfl (by decide +kernel) (fun _ => rfl) (fun _ => Nat.le_of_ble_eq_true rfl) ?_
  intro C X E
  show GF C evI 0 [some (.ref (C.w.ad 0)), some (.int v1), some (.int v2), some (.int v3)] [] s0 (fH_down v1 v2 v3 s0)
  unfold fH_down
  refine g_iload_n X dH_down_0 rfl ?_
  refine g_iconst X 0 dH_down_1 (by decide) ?_
  refine g_bipush X 9 dH_down_2 (by decide) ?_
  refine g_statI X [.int v1, .int 0, .int 9] [] mm_H_within ms_H_within ml_H_81 (okH_within v1 0 9 s0 C.l C.w) rfl (by decide) rfl (Nat.le_of_ble_eq_true rfl) dH_down_4 (fun r2 s1 => ?_)
  refine g_zeq X (tgt := 20) dH_down_7 (by decide) ?_ ?_
  · refine g_iconst X (-1) dH_down_20 (by decide) ?_
    exact g_iret X E dH_down_21
  · refine g_iload_n X dH_down_10 rfl ?_
    refine g_iconst X 0 dH_down_11 (by decide) ?_
    refine g_bipush X 9 dH_down_12 (by decide) ?_
    refine g_statI X [.int v2, .int 0, .int 9] [] mm_H_within ms_H_within ml_H_81 (okH_within v2 0 9 s1 C.l C.w) rfl (by decide) rfl (Nat.le_of_ble_eq_true rfl) dH_down_14 (fun r4 s3 => ?_)
    refine g_zne X (tgt := 22) dH_down_17 (by decide) ?_ ?_
    · refine g_iconst X (-1) dH_down_20 (by decide) ?_
      exact g_iret X E dH_down_21
    · refine g_iload_n X dH_down_22 rfl ?_
      refine g_iconst X (-1) dH_down_23 (by decide) ?_
      refine g_cne X (tgt := 37) dH_down_24 (by decide) ?_ ?_
      · refine g_aload_n X dH_down_27 rfl ?_
        refine g_getN X fl_H_70 fb_11_8 k_0 r_0_8 dH_down_28 ?_
        refine g_iload_n X dH_down_31 rfl ?_
        refine g_iload_n X dH_down_32 rfl ?_
        refine g_virtI X [.int v1, .int v2] [] k_66 mm_Mu_stepsByAny mv_Mu_stepsByAny ml_H_273 (okMu_stepsByAny v1 v2 s3 C.l C.w) rfl (by decide) rfl (Nat.le_of_ble_eq_true rfl) dH_down_33 (fun r10 s9 => ?_)
        exact g_iret X E dH_down_36
      · refine g_iload_n X dH_down_37 rfl ?_
        refine g_statI X [.int v3] [] mm_H_isWord ms_H_isWord ml_H_117 (okH_isWord v3 s3 C.l C.w) rfl (by decide) rfl (Nat.le_of_ble_eq_true rfl) dH_down_38 (fun r6 s5 => ?_)
        refine g_zeq X (tgt := 57) dH_down_41 (by decide) ?_ ?_
        · refine g_iconst X (-1) dH_down_57 (by decide) ?_
          exact g_iret X E dH_down_58
        · refine g_aload_n X dH_down_44 rfl ?_
          refine g_getN X fl_H_70 fb_11_8 k_0 r_0_8 dH_down_45 ?_
          refine g_iload_n X dH_down_48 rfl ?_
          refine g_iload_n X dH_down_49 rfl ?_
          refine g_iload_n X dH_down_50 rfl ?_
          refine g_virtI X [.int v1, .int v2, .int v3] [] k_66 mm_Mu_stepsBy mv_Mu_stepsBy ml_H_276 (okMu_stepsBy v1 v2 v3 s5 C.l C.w) rfl (by decide) rfl (Nat.le_of_ble_eq_true rfl) dH_down_51 (fun r8 s7 => ?_)
          refine g_goto X 58 dH_down_54 (by decide) ?_
          exact g_iret X E dH_down_58
def yH_council : MethodName := ⟨"LastWordHill", "council", "(I)I"⟩
abbrev cH_council : ByteArray := prog_1_method_31_code
theorem dH_council_0 : decode cH_council 0 = .ok (.iload_n 1, 1) := by decide +kernel
theorem dH_council_1 : decode cH_council 1 = .ok (.bipush 10, 2) := by decide +kernel
theorem dH_council_3 : decode cH_council 3 = .ok (.isub, 1) := by decide +kernel
theorem dH_council_4 : decode cH_council 4 = .ok (.istore_n 2, 1) := by decide +kernel
theorem dH_council_5 : decode cH_council 5 = .ok (.iload_n 1, 1) := by decide +kernel
theorem dH_council_6 : decode cH_council 6 = .ok (.bipush 10, 2) := by decide +kernel
theorem dH_council_8 : decode cH_council 8 = .ok (.if_icmp .lt 21, 3) := by decide +kernel
theorem dH_council_30 : decode cH_council 30 = .ok (.istore_n 3, 1) := by decide +kernel
theorem dH_council_31 : decode cH_council 31 = .ok (.iload_n 1, 1) := by decide +kernel
theorem dH_council_32 : decode cH_council 32 = .ok (.ifCond .eq 9, 3) := by decide +kernel
theorem dH_council_41 : decode cH_council 41 = .ok (.iload_n 1, 1) := by decide +kernel
theorem dH_council_42 : decode cH_council 42 = .ok (.ifCond .ne 13, 3) := by decide +kernel
theorem dH_council_55 : decode cH_council 55 = .ok (.aload_n 0, 1) := by decide +kernel
theorem dH_council_56 : decode cH_council 56 = .ok (.getfield 70, 3) := by decide +kernel
theorem dH_council_59 : decode cH_council 59 = .ok (.iload_n 2, 1) := by decide +kernel
theorem dH_council_60 : decode cH_council 60 = .ok (.invokevirtual 299, 3) := by decide +kernel
theorem mm_Mu_speakerAt : MMc yMu_speakerAt cMu_speakerAt 2 (some .int) 1 := ⟨hz_in 1279 (by decide +kernel) (by decide +kernel), hz_in 145 (by decide +kernel) (by decide +kernel), by decide +kernel, by decide⟩
theorem mv_Mu_speakerAt : MMv yMu_speakerAt 2 := ⟨hz_in 1277 (by decide +kernel) (by decide +kernel), hz_in 1278 (by decide +kernel) (by decide +kernel), _, _, rfl, by decide⟩
theorem ml_H_299 : Cond.methodLink "LastWordHill" 299 yMu_speakerAt ∈ hz_wt := hz_in 1276 (by decide +kernel) (by decide +kernel)
theorem dH_council_63 : decode cH_council 63 = .ok (.ireturn, 1) := by decide +kernel
theorem dH_council_45 : decode cH_council 45 = .ok (.aload_n 0, 1) := by decide +kernel
theorem dH_council_46 : decode cH_council 46 = .ok (.getfield 70, 3) := by decide +kernel
theorem dH_council_49 : decode cH_council 49 = .ok (.invokevirtual 296, 3) := by decide +kernel
theorem ml_H_296 : Cond.methodLink "LastWordHill" 296 yMu_mostSpeakers ∈ hz_wt := hz_in 1268 (by decide +kernel) (by decide +kernel)
theorem dH_council_52 : decode cH_council 52 = .ok (.goto 11, 3) := by decide +kernel
theorem dH_council_35 : decode cH_council 35 = .ok (.iload_n 3, 1) := by decide +kernel
theorem dH_council_36 : decode cH_council 36 = .ok (.ifCond .ne 5, 3) := by decide +kernel
theorem dH_council_39 : decode cH_council 39 = .ok (.iconst (-1), 1) := by decide +kernel
theorem dH_council_40 : decode cH_council 40 = .ok (.ireturn, 1) := by decide +kernel
theorem dH_council_29 : decode cH_council 29 = .ok (.iconst 0, 1) := by decide +kernel
theorem dH_council_11 : decode cH_council 11 = .ok (.iload_n 2, 1) := by decide +kernel
theorem dH_council_12 : decode cH_council 12 = .ok (.aload_n 0, 1) := by decide +kernel
theorem dH_council_13 : decode cH_council 13 = .ok (.getfield 43, 3) := by decide +kernel
theorem dH_council_16 : decode cH_council 16 = .ok (.getfield 290, 3) := by decide +kernel
theorem dH_council_19 : decode cH_council 19 = .ok (.getfield 293, 3) := by decide +kernel
theorem fl_H_293 : FLk "LastWordHill" 293 7 3 := ⟨_, _, _, rfl, by decide, hz_in 281 (by decide +kernel) (by decide +kernel), nL7, by decide, by decide⟩
theorem dH_council_22 : decode cH_council 22 = .ok (.if_icmp .ge 7, 3) := by decide +kernel
theorem dH_council_25 : decode cH_council 25 = .ok (.iconst 1, 1) := by decide +kernel
theorem dH_council_26 : decode cH_council 26 = .ok (.goto 4, 3) := by decide +kernel
def fH_council (v1 : Int32) (s0 : Sg) : Option (Int32 × Sg) := bnd (fun (b30_0 : Int32) (s1 : Sg) => bnd (fun (s2 : Sg) => if v1 = 0 then (bi (fMu_mostSpeakers s2) fun r6 s5 => some (r6, s5)) else (bi (fMu_speakerAt (v1 - 10) s2) fun r4 s3 => some (r4, s3))) fun j41 => if v1 = 0 then (j41 s1) else (if b30_0 = 0 then (some ((-1), s1)) else (j41 s1))) fun j30 => bnd (fun (s7 : Sg) => j30 0 s7) fun j29 => if v1 < 10 then (j29 s0) else (if (s0 57 3) ≤ (v1 - 10) then (j29 s0) else (j30 1 s0))
set_option maxHeartbeats 4000000 in
set_option maxRecDepth 100000 in
theorem okH_council (v1 : Int32) (s0 : Sg) : ∀ (l : Launch) (w : WC), Ok l w yH_council cH_council 4 (some .int) 13 evI [.ref (w.ad 0), .int v1] s0 (fH_council v1 s0) := by
  refine ok_in (ev := fun _ => evI) (av := fun w => [.ref (w.ad 0), .int v1]) "LastWordHill" rfl (by decide +kernel) (fun _ => rfl) (fun _ => Nat.le_of_ble_eq_true rfl) ?_
  intro C X E
  show GF C evI 0 [some (.ref (C.w.ad 0)), some (.int v1), none, none] [] s0 (fH_council v1 s0)
  unfold fH_council
  refine g_iload_n X dH_council_0 rfl ?_
  refine g_bipush X 10 dH_council_1 (by decide) ?_
  refine g_isub X dH_council_3 ?_
  refine g_istore_n X [some (.ref (C.w.ad 0)), some (.int v1), some (.int (v1 - 10)), none] dH_council_4 (by decide) (Nat.le_of_ble_eq_true rfl) rfl ?_
  refine g_iload_n X dH_council_5 rfl ?_
  refine g_bipush X 10 dH_council_6 (by decide) ?_
  refine gf_jn (fun j30 => ∀ (b30_0 : Int32) (s1 : Sg), GF C evI 30 [some (.ref (C.w.ad 0)), some (.int v1), some (.int (v1 - 10)), none] [.int b30_0] s1 (j30 b30_0 s1)) ?_ ?_
  · intro b30_0 s1
    refine g_istore_n X [some (.ref (C.w.ad 0)), some (.int v1), some (.int (v1 - 10)), some (.int b30_0)] dH_council_30 (by decide) (Nat.le_of_ble_eq_true rfl) rfl ?_
    refine g_iload_n X dH_council_31 rfl ?_
    refine gf_jn (fun j41 => ∀ (s2 : Sg), GF C evI 41 [some (.ref (C.w.ad 0)), some (.int v1), some (.int (v1 - 10)), none] [] s2 (j41 s2)) ?_ ?_
    · intro s2
      refine g_iload_n X dH_council_41 rfl ?_
      refine g_zne X (tgt := 55) dH_council_42 (by decide) ?_ ?_
      · refine g_aload_n X dH_council_45 rfl ?_
        refine g_getN X fl_H_70 fb_11_8 k_0 r_0_8 dH_council_46 ?_
        refine g_virtI X [] [] k_66 mm_Mu_mostSpeakers mv_Mu_mostSpeakers ml_H_296 (okMu_mostSpeakers s2 C.l C.w) rfl (by decide) rfl (Nat.le_of_ble_eq_true rfl) dH_council_49 (fun r6 s5 => ?_)
        refine g_goto X 63 dH_council_52 (by decide) ?_
        exact g_iret X E dH_council_63
      · refine g_aload_n X dH_council_55 rfl ?_
        refine g_getN X fl_H_70 fb_11_8 k_0 r_0_8 dH_council_56 ?_
        refine g_iload_n X dH_council_59 rfl ?_
        refine g_virtI X [.int (v1 - 10)] [] k_66 mm_Mu_speakerAt mv_Mu_speakerAt ml_H_299 (okMu_speakerAt (v1 - 10) s2 C.l C.w) rfl (by decide) rfl (Nat.le_of_ble_eq_true rfl) dH_council_60 (fun r4 s3 => ?_)
        exact g_iret X E dH_council_63
    · intro j41 hj41
      refine g_zeq X (tgt := 41) dH_council_32 (by decide) ?_ ?_
      · exact gf_sub (hj41 s1) (by simp [lsub])
      · refine g_iload_n X dH_council_35 rfl ?_
        refine g_zne X (tgt := 41) dH_council_36 (by decide) ?_ ?_
        · refine g_iconst X (-1) dH_council_39 (by decide) ?_
          exact g_iret X E dH_council_40
        · exact gf_sub (hj41 s1) (by simp [lsub])
  · intro j30 hj30
    refine gf_jn (fun j29 => ∀ (s7 : Sg), GF C evI 29 [some (.ref (C.w.ad 0)), some (.int v1), some (.int (v1 - 10)), none] [] s7 (j29 s7)) ?_ ?_
    · intro s7
      refine g_iconst X 0 dH_council_29 (by decide) ?_
      exact gf_sub (hj30 0 s7) (by simp [lsub])
    · intro j29 hj29
      refine g_clt X (tgt := 29) dH_council_8 (by decide) ?_ ?_
      · exact gf_sub (hj29 s0) (by simp [lsub])
      · refine g_iload_n X dH_council_11 rfl ?_
        refine g_aload_n X dH_council_12 rfl ?_
        refine g_getN X fl_H_43 fb_11_5 k_0 r_0_5 dH_council_13 ?_
        refine g_getN X fl_H_290 fb_10_4 k_48 r_48_4 dH_council_16 ?_
        refine g_getI X fl_H_293 fb_7_3 k_57 dH_council_19 ?_
        refine g_cge X (tgt := 29) dH_council_22 (by decide) ?_ ?_
        · exact gf_sub (hj29 s0) (by simp [lsub])
        · refine g_iconst X 1 dH_council_25 (by decide) ?_
          refine g_goto X 30 dH_council_26 (by decide) ?_
          exact gf_sub (hj30 1 s0) (by simp [lsub])
def yH_prices : MethodName := ⟨"LastWordHill", "prices", "(II)I"⟩
abbrev cH_prices : ByteArray := prog_1_method_35_code
theorem dH_prices_0 : decode cH_prices 0 = .ok (.iload_n 1, 1) := by decide +kernel
theorem dH_prices_1 : decode cH_prices 1 = .ok (.iconst 1, 1) := by decide +kernel
theorem dH_prices_2 : decode cH_prices 2 = .ok (.iconst 5, 1) := by decide +kernel
theorem dH_prices_3 : decode cH_prices 3 = .ok (.invokestatic 81, 3) := by decide +kernel
theorem dH_prices_6 : decode cH_prices 6 = .ok (.ifCond .eq 12, 3) := by decide +kernel
theorem dH_prices_18 : decode cH_prices 18 = .ok (.iconst (-1), 1) := by decide +kernel
theorem dH_prices_19 : decode cH_prices 19 = .ok (.ireturn, 1) := by decide +kernel
theorem dH_prices_9 : decode cH_prices 9 = .ok (.iload_n 2, 1) := by decide +kernel
theorem dH_prices_10 : decode cH_prices 10 = .ok (.iconst 0, 1) := by decide +kernel
theorem dH_prices_11 : decode cH_prices 11 = .ok (.iconst 1, 1) := by decide +kernel
theorem dH_prices_12 : decode cH_prices 12 = .ok (.invokestatic 81, 3) := by decide +kernel
theorem dH_prices_15 : decode cH_prices 15 = .ok (.ifCond .ne 5, 3) := by decide +kernel
theorem dH_prices_20 : decode cH_prices 20 = .ok (.aload_n 0, 1) := by decide +kernel
theorem dH_prices_21 : decode cH_prices 21 = .ok (.getfield 70, 3) := by decide +kernel
theorem dH_prices_24 : decode cH_prices 24 = .ok (.iload_n 1, 1) := by decide +kernel
theorem dH_prices_25 : decode cH_prices 25 = .ok (.iload_n 2, 1) := by decide +kernel
theorem dH_prices_26 : decode cH_prices 26 = .ok (.iconst 1, 1) := by decide +kernel
theorem dH_prices_27 : decode cH_prices 27 = .ok (.if_icmp .ne 7, 3) := by decide +kernel
theorem dH_prices_35 : decode cH_prices 35 = .ok (.invokevirtual 320, 3) := by decide +kernel
theorem mm_Mu_heardPrices : MMc yMu_heardPrices cMu_heardPrices 5 (some .int) 2 := ⟨hz_in 1317 (by decide +kernel) (by decide +kernel), hz_in 145 (by decide +kernel) (by decide +kernel), by decide +kernel, by decide⟩
theorem mv_Mu_heardPrices : MMv yMu_heardPrices 2 := ⟨hz_in 1315 (by decide +kernel) (by decide +kernel), hz_in 1316 (by decide +kernel) (by decide +kernel), _, _, rfl, by decide⟩
theorem ml_H_320 : Cond.methodLink "LastWordHill" 320 yMu_heardPrices ∈ hz_wt := hz_in 1314 (by decide +kernel) (by decide +kernel)
theorem dH_prices_38 : decode cH_prices 38 = .ok (.ireturn, 1) := by decide +kernel
theorem dH_prices_34 : decode cH_prices 34 = .ok (.iconst 0, 1) := by decide +kernel
theorem dH_prices_30 : decode cH_prices 30 = .ok (.iconst 1, 1) := by decide +kernel
theorem dH_prices_31 : decode cH_prices 31 = .ok (.goto 4, 3) := by decide +kernel
def fH_prices (v1 : Int32) (v2 : Int32) (s0 : Sg) : Option (Int32 × Sg) := bi (fH_within v1 1 5 s0) fun r2 s1 => if r2 = 0 then (some ((-1), s1)) else (bi (fH_within v2 0 1 s1) fun r4 s3 => if r4 = 0 then (some ((-1), s3)) else (bnd (fun (b35_0 : Int32) (s5 : Sg) => bi (fMu_heardPrices v1 b35_0 s5) fun r7 s6 => some (r7, s6)) fun j35 => if v2 = 1 then (j35 1 s3) else (j35 0 s3)))
set_option maxHeartbeats 4000000 in
set_option maxRecDepth 100000 in
theorem okH_prices (v1 : Int32) (v2 : Int32) (s0 : Sg) : ∀ (l : Launch) (w : WC), Ok l w yH_prices cH_prices 3 (some .int) 5 evI [.ref (w.ad 0), .int v1, .int v2] s0 (fH_prices v1 v2 s0) := by
  refine ok_in (ev := fun _ => evI) (av := fun w => [.ref (w.ad 0), .int v1, .int v2]) "LastWordHill" rfl (by decide +kernel) (fun _ => rfl) (fun _ => Nat.le_of_ble_eq_true rfl) ?_
  intro C X E
  show GF C evI 0 [some (.ref (C.w.ad 0)), some (.int v1), some (.int v2)] [] s0 (fH_prices v1 v2 s0)
  unfold fH_prices
  refine g_iload_n X dH_prices_0 rfl ?_
  refine g_iconst X 1 dH_prices_1 (by decide) ?_
  refine g_iconst X 5 dH_prices_2 (by decide) ?_
  refine g_statI X [.int v1, .int 1, .int 5] [] mm_H_within ms_H_within ml_H_81 (okH_within v1 1 5 s0 C.l C.w) rfl (by decide) rfl (Nat.le_of_ble_eq_true rfl) dH_prices_3 (fun r2 s1 => ?_)
  refine g_zeq X (tgt := 18) dH_prices_6 (by decide) ?_ ?_
  · refine g_iconst X (-1) dH_prices_18 (by decide) ?_
    exact g_iret X E dH_prices_19
  · refine g_iload_n X dH_prices_9 rfl ?_
    refine g_iconst X 0 dH_prices_10 (by decide) ?_
    refine g_iconst X 1 dH_prices_11 (by decide) ?_
    refine g_statI X [.int v2, .int 0, .int 1] [] mm_H_within ms_H_within ml_H_81 (okH_within v2 0 1 s1 C.l C.w) rfl (by decide) rfl (Nat.le_of_ble_eq_true rfl) dH_prices_12 (fun r4 s3 => ?_)
    refine g_zne X (tgt := 20) dH_prices_15 (by decide) ?_ ?_
    · refine g_iconst X (-1) dH_prices_18 (by decide) ?_
      exact g_iret X E dH_prices_19
    · refine g_aload_n X dH_prices_20 rfl ?_
      refine g_getN X fl_H_70 fb_11_8 k_0 r_0_8 dH_prices_21 ?_
      refine g_iload_n X dH_prices_24 rfl ?_
      refine g_iload_n X dH_prices_25 rfl ?_
      refine g_iconst X 1 dH_prices_26 (by decide) ?_
      refine gf_jn (fun j35 => ∀ (b35_0 : Int32) (s5 : Sg), GF C evI 35 [none, none, none] [.int b35_0, .int v1, .ref (C.w.ad 66)] s5 (j35 b35_0 s5)) ?_ ?_
      · intro b35_0 s5
        refine g_virtI X [.int v1, .int b35_0] [] k_66 mm_Mu_heardPrices mv_Mu_heardPrices ml_H_320 (okMu_heardPrices v1 b35_0 s5 C.l C.w) rfl (by decide) rfl (Nat.le_of_ble_eq_true rfl) dH_prices_35 (fun r7 s6 => ?_)
        exact g_iret X E dH_prices_38
      · intro j35 hj35
        refine g_cne X (tgt := 34) dH_prices_27 (by decide) ?_ ?_
        · refine g_iconst X 1 dH_prices_30 (by decide) ?_
          refine g_goto X 35 dH_prices_31 (by decide) ?_
          exact gf_sub (hj35 1 s3) (by simp [lsub])
        · refine g_iconst X 0 dH_prices_34 (by decide) ?_
          exact gf_sub (hj35 0 s3) (by simp [lsub])
def yH_image : MethodName := ⟨"LastWordHill", "image", "(Z)Z"⟩
abbrev cH_image : ByteArray := prog_1_method_41_code
theorem dH_image_0 : decode cH_image 0 = .ok (.iload_n 1, 1) := by decide +kernel
theorem dH_image_1 : decode cH_image 1 = .ok (.ifCond .eq 28, 3) := by decide +kernel
theorem dH_image_29 : decode cH_image 29 = .ok (.aload_n 0, 1) := by decide +kernel
theorem dH_image_30 : decode cH_image 30 = .ok (.getfield 77, 3) := by decide +kernel
theorem fl_H_77 : FLk "LastWordHill" 77 11 9 := ⟨_, _, _, rfl, by decide, hz_in 562 (by decide +kernel) (by decide +kernel), nL11, by decide, by decide⟩
theorem fb_11_9 : (hz_bs 11)[9]? = some true := by decide
theorem r_0_9 : hz_rf 0 9 = 71 := by decide
theorem dH_image_33 : decode cH_image 33 = .ok (.getfield 344, 3) := by decide +kernel
theorem fl_H_344 : FLk "LastWordHill" 344 0 4 := ⟨_, _, _, rfl, by decide, hz_in 541 (by decide +kernel) (by decide +kernel), nL0, by decide, by decide⟩
theorem dH_image_36 : decode cH_image 36 = .ok (.ifCond .ne 5, 3) := by decide +kernel
theorem dH_image_41 : decode cH_image 41 = .ok (.aload_n 0, 1) := by decide +kernel
theorem dH_image_42 : decode cH_image 42 = .ok (.getfield 77, 3) := by decide +kernel
theorem dH_image_45 : decode cH_image 45 = .ok (.aload_n 0, 1) := by decide +kernel
theorem dH_image_46 : decode cH_image 46 = .ok (.getfield 12, 3) := by decide +kernel
theorem dH_image_49 : decode cH_image 49 = .ok (.aload_n 0, 1) := by decide +kernel
theorem dH_image_50 : decode cH_image 50 = .ok (.getfield 29, 3) := by decide +kernel
theorem dH_image_53 : decode cH_image 53 = .ok (.aload_n 0, 1) := by decide +kernel
theorem dH_image_54 : decode cH_image 54 = .ok (.getfield 43, 3) := by decide +kernel
theorem dH_image_57 : decode cH_image 57 = .ok (.aload_n 0, 1) := by decide +kernel
theorem dH_image_58 : decode cH_image 58 = .ok (.getfield 52, 3) := by decide +kernel
theorem dH_image_61 : decode cH_image 61 = .ok (.invokevirtual 348, 3) := by decide +kernel
theorem mm_Im_giveBack : MMc yIm_giveBack cIm_giveBack 5 none 4 := ⟨hz_in 1397 (by decide +kernel) (by decide +kernel), hz_in 146 (by decide +kernel) (by decide +kernel), by decide +kernel, by decide⟩
theorem mv_Im_giveBack : MMv yIm_giveBack 0 := ⟨hz_in 1395 (by decide +kernel) (by decide +kernel), hz_in 1396 (by decide +kernel) (by decide +kernel), _, _, rfl, by decide⟩
theorem ml_H_348 : Cond.methodLink "LastWordHill" 348 yIm_giveBack ∈ hz_wt := hz_in 1394 (by decide +kernel) (by decide +kernel)
theorem dH_image_64 : decode cH_image 64 = .ok (.aload_n 0, 1) := by decide +kernel
theorem dH_image_65 : decode cH_image 65 = .ok (.getfield 22, 3) := by decide +kernel
theorem dH_image_68 : decode cH_image 68 = .ok (.invokevirtual 96, 3) := by decide +kernel
theorem dH_image_71 : decode cH_image 71 = .ok (.iconst 1, 1) := by decide +kernel
theorem dH_image_72 : decode cH_image 72 = .ok (.ireturn, 1) := by decide +kernel
theorem dH_image_39 : decode cH_image 39 = .ok (.iconst 0, 1) := by decide +kernel
theorem dH_image_40 : decode cH_image 40 = .ok (.ireturn, 1) := by decide +kernel
theorem dH_image_4 : decode cH_image 4 = .ok (.aload_n 0, 1) := by decide +kernel
theorem dH_image_5 : decode cH_image 5 = .ok (.getfield 77, 3) := by decide +kernel
theorem dH_image_8 : decode cH_image 8 = .ok (.aload_n 0, 1) := by decide +kernel
theorem dH_image_9 : decode cH_image 9 = .ok (.getfield 12, 3) := by decide +kernel
theorem dH_image_12 : decode cH_image 12 = .ok (.aload_n 0, 1) := by decide +kernel
theorem dH_image_13 : decode cH_image 13 = .ok (.getfield 29, 3) := by decide +kernel
theorem dH_image_16 : decode cH_image 16 = .ok (.aload_n 0, 1) := by decide +kernel
theorem dH_image_17 : decode cH_image 17 = .ok (.getfield 43, 3) := by decide +kernel
theorem dH_image_20 : decode cH_image 20 = .ok (.aload_n 0, 1) := by decide +kernel
theorem dH_image_21 : decode cH_image 21 = .ok (.getfield 52, 3) := by decide +kernel
theorem dH_image_24 : decode cH_image 24 = .ok (.invokevirtual 341, 3) := by decide +kernel
theorem mm_Im_take : MMc yIm_take cIm_take 5 none 4 := ⟨hz_in 1381 (by decide +kernel) (by decide +kernel), hz_in 146 (by decide +kernel) (by decide +kernel), by decide +kernel, by decide⟩
theorem mv_Im_take : MMv yIm_take 0 := ⟨hz_in 1379 (by decide +kernel) (by decide +kernel), hz_in 1380 (by decide +kernel) (by decide +kernel), _, _, rfl, by decide⟩
theorem ml_H_341 : Cond.methodLink "LastWordHill" 341 yIm_take ∈ hz_wt := hz_in 1378 (by decide +kernel) (by decide +kernel)
theorem dH_image_27 : decode cH_image 27 = .ok (.iconst 1, 1) := by decide +kernel
theorem dH_image_28 : decode cH_image 28 = .ok (.ireturn, 1) := by decide +kernel
def fH_image (v1 : Int32) (s0 : Sg) : Option (Int32 × Sg) := if v1 = 0 then (if (s0 71 4) = 0 then (gb 0 (some (0, s0))) else (bv (fIm_giveBack 1 19 48 63 s0) fun s1 => bv (fPa_forget s1) fun s2 => gb 1 (some (1, s2)))) else (bv (fIm_take 1 19 48 63 s0) fun s3 => gb 1 (some (1, s3)))
set_option maxHeartbeats 4000000 in
set_option maxRecDepth 100000 in
theorem okH_image (v1 : Int32) (s0 : Sg) : ∀ (l : Launch) (w : WC), Ok l w yH_image cH_image 2 (some .boolean) 7 evI [.ref (w.ad 0), .int v1] s0 (fH_image v1 s0) := by
  refine ok_in (ev := fun _ => evI) (av := fun w => [.ref (w.ad 0), .int v1]) "LastWordHill" rfl (by decide +kernel) (fun _ => rfl) (fun _ => Nat.le_of_ble_eq_true rfl) ?_
  intro C X E
  show GF C evI 0 [some (.ref (C.w.ad 0)), some (.int v1)] [] s0 (fH_image v1 s0)
  unfold fH_image
  refine g_iload_n X dH_image_0 rfl ?_
  refine g_zeq X (tgt := 29) dH_image_1 (by decide) ?_ ?_
  · refine g_aload_n X dH_image_29 rfl ?_
    refine g_getN X fl_H_77 fb_11_9 k_0 r_0_9 dH_image_30 ?_
    refine g_getI X fl_H_344 fb_0_4 k_71 dH_image_33 ?_
    refine g_zne X (tgt := 41) dH_image_36 (by decide) ?_ ?_
    · refine g_iconst X 0 dH_image_39 (by decide) ?_
      exact g_zret X E dH_image_40
    · refine g_aload_n X dH_image_41 rfl ?_
      refine g_getN X fl_H_77 fb_11_9 k_0 r_0_9 dH_image_42 ?_
      refine g_aload_n X dH_image_45 rfl ?_
      refine g_getN X fl_H_12 fb_11_0 k_0 r_0_0 dH_image_46 ?_
      refine g_aload_n X dH_image_49 rfl ?_
      refine g_getN X fl_H_29 fb_11_3 k_0 r_0_3 dH_image_50 ?_
      refine g_aload_n X dH_image_53 rfl ?_
      refine g_getN X fl_H_43 fb_11_5 k_0 r_0_5 dH_image_54 ?_
      refine g_aload_n X dH_image_57 rfl ?_
      refine g_getN X fl_H_52 fb_11_6 k_0 r_0_6 dH_image_58 ?_
      refine g_virtV X [.ref (C.w.ad 1), .ref (C.w.ad 19), .ref (C.w.ad 48), .ref (C.w.ad 63)] [] k_71 mm_Im_giveBack mv_Im_giveBack ml_H_348 (okIm_giveBack 1 19 48 63 s0 k_1 k_19 k_48 k_63 C.l C.w) rfl (by decide) rfl (Nat.le_of_ble_eq_true rfl) dH_image_61 (fun s1 => ?_)
      refine g_aload_n X dH_image_64 rfl ?_
      refine g_getN X fl_H_22 fb_11_2 k_0 r_0_2 dH_image_65 ?_
      refine g_virtV X [] [] k_5 mm_Pa_forget mv_Pa_forget ml_H_96 (okPa_forget s1 C.l C.w) rfl (by decide) rfl (Nat.le_of_ble_eq_true rfl) dH_image_68 (fun s2 => ?_)
      refine g_iconst X 1 dH_image_71 (by decide) ?_
      exact g_zret X E dH_image_72
  · refine g_aload_n X dH_image_4 rfl ?_
    refine g_getN X fl_H_77 fb_11_9 k_0 r_0_9 dH_image_5 ?_
    refine g_aload_n X dH_image_8 rfl ?_
    refine g_getN X fl_H_12 fb_11_0 k_0 r_0_0 dH_image_9 ?_
    refine g_aload_n X dH_image_12 rfl ?_
    refine g_getN X fl_H_29 fb_11_3 k_0 r_0_3 dH_image_13 ?_
    refine g_aload_n X dH_image_16 rfl ?_
    refine g_getN X fl_H_43 fb_11_5 k_0 r_0_5 dH_image_17 ?_
    refine g_aload_n X dH_image_20 rfl ?_
    refine g_getN X fl_H_52 fb_11_6 k_0 r_0_6 dH_image_21 ?_
    refine g_virtV X [.ref (C.w.ad 1), .ref (C.w.ad 19), .ref (C.w.ad 48), .ref (C.w.ad 63)] [] k_71 mm_Im_take mv_Im_take ml_H_341 (okIm_take 1 19 48 63 s0 k_1 k_19 k_48 k_63 C.l C.w) rfl (by decide) rfl (Nat.le_of_ble_eq_true rfl) dH_image_24 (fun s3 => ?_)
    refine g_iconst X 1 dH_image_27 (by decide) ?_
    exact g_zret X E dH_image_28
def yJ0_indexOf_0f7a4 : MethodName := ⟨"java/lang/String", "indexOf", "(I)I"⟩
abbrev cJ0_indexOf_0f7a4 : ByteArray := prog_18_method_79_code
theorem dJ0_indexOf_0f7a4_0 : decode cJ0_indexOf_0f7a4 0 = .ok (.aload_n 0, 1) := by decide +kernel
theorem dJ0_indexOf_0f7a4_1 : decode cJ0_indexOf_0f7a4 1 = .ok (.iload_n 1, 1) := by decide +kernel
theorem dJ0_indexOf_0f7a4_2 : decode cJ0_indexOf_0f7a4 2 = .ok (.iconst 0, 1) := by decide +kernel
theorem dJ0_indexOf_0f7a4_3 : decode cJ0_indexOf_0f7a4 3 = .ok (.invokevirtual 633, 3) := by decide +kernel
theorem mm_J0_indexOf_7cf53 : MMc yJ0_indexOf_7cf53 cJ0_indexOf_7cf53 3 (some .int) 2 := ⟨hz_in 927 (by decide +kernel) (by decide +kernel), hz_in 150 (by decide +kernel) (by decide +kernel), by decide +kernel, by decide⟩
theorem mv_J0_indexOf_7cf53 : Cond.instanceMethod yJ0_indexOf_7cf53 ∈ hz_wt ∧ Cond.selects "java/lang/String" yJ0_indexOf_7cf53 yJ0_indexOf_7cf53 ∈ hz_wt := ⟨hz_in 925 (by decide +kernel) (by decide +kernel), hz_in 926 (by decide +kernel) (by decide +kernel)⟩
theorem ml_java_lang_String_633 : Cond.methodLink "java/lang/String" 633 yJ0_indexOf_7cf53 ∈ hz_wt := hz_in 924 (by decide +kernel) (by decide +kernel)
theorem dJ0_indexOf_0f7a4_6 : decode cJ0_indexOf_0f7a4 6 = .ok (.ireturn, 1) := by decide +kernel
def fJ0_indexOf_0f7a4 (o0 : Nat) (v1 : Int32) (s0 : Sg) : Option (Int32 × Sg) := bi (fJ0_indexOf_7cf53 o0 v1 0 s0) fun r2 s1 => some (r2, s1)
set_option maxHeartbeats 4000000 in
set_option maxRecDepth 100000 in
theorem okJ0_indexOf_0f7a4 (o0 : Nat) (v1 : Int32) (s0 : Sg) (h0 : o0 < nJS) : ∀ (l : Launch) (w : WC), Ok l w yJ0_indexOf_0f7a4 cJ0_indexOf_0f7a4 2 (some .int) 4 evI [.ref (w.aK o0), .int v1] s0 (fJ0_indexOf_0f7a4 o0 v1 s0) := by
  refine ok_in (ev := fun _ => evI) (av := fun w => [.ref (w.aK o0), .int v1]) "java/lang/String" rfl (by decide +kernel) (fun _ => rfl) (fun _ => Nat.le_of_ble_eq_true rfl) ?_
  intro C X E
  show GF C evI 0 [some (.ref (C.w.aK o0)), some (.int v1)] [] s0 (fJ0_indexOf_0f7a4 o0 v1 s0)
  unfold fJ0_indexOf_0f7a4
  refine g_aload_n X dJ0_indexOf_0f7a4_0 rfl ?_
  refine g_iload_n X dJ0_indexOf_0f7a4_1 rfl ?_
  refine g_iconst X 0 dJ0_indexOf_0f7a4_2 (by decide) ?_
  refine g_vstrI X [.int v1, .int 0] [] h0 mm_J0_indexOf_7cf53 mv_J0_indexOf_7cf53 ml_java_lang_String_633 (okJ0_indexOf_7cf53 o0 v1 0 s0 h0 C.l C.w) rfl (by decide) rfl (Nat.le_of_ble_eq_true rfl) dJ0_indexOf_0f7a4_3 (fun r2 s1 => ?_)
  exact g_iret X E dJ0_indexOf_0f7a4_6
def yMu_goOverFrom : MethodName := ⟨"LastWordHill$Muse", "goOverFrom", "(I)V"⟩
abbrev cMu_goOverFrom : ByteArray := prog_4_method_21_code
theorem dMu_goOverFrom_0 : decode cMu_goOverFrom 0 = .ok (.aload_n 0, 1) := by decide +kernel
theorem dMu_goOverFrom_1 : decode cMu_goOverFrom 1 = .ok (.iload_n 1, 1) := by decide +kernel
theorem dMu_goOverFrom_2 : decode cMu_goOverFrom 2 = .ok (.invokevirtual 108, 3) := by decide +kernel
theorem dMu_goOverFrom_5 : decode cMu_goOverFrom 5 = .ok (.iconst 0, 1) := by decide +kernel
theorem dMu_goOverFrom_6 : decode cMu_goOverFrom 6 = .ok (.istore_n 2, 1) := by decide +kernel
theorem dMu_goOverFrom_7 : decode cMu_goOverFrom 7 = .ok (.iload_n 2, 1) := by decide +kernel
theorem dMu_goOverFrom_8 : decode cMu_goOverFrom 8 = .ok (.bipush 8, 2) := by decide +kernel
theorem dMu_goOverFrom_10 : decode cMu_goOverFrom 10 = .ok (.if_icmp .ge 40, 3) := by decide +kernel
theorem dMu_goOverFrom_50 : decode cMu_goOverFrom 50 = .ok (.return_, 1) := by decide +kernel
theorem dMu_goOverFrom_13 : decode cMu_goOverFrom 13 = .ok (.iconst 0, 1) := by decide +kernel
theorem dMu_goOverFrom_14 : decode cMu_goOverFrom 14 = .ok (.istore_n 3, 1) := by decide +kernel
theorem dMu_goOverFrom_15 : decode cMu_goOverFrom 15 = .ok (.iload_n 3, 1) := by decide +kernel
theorem dMu_goOverFrom_16 : decode cMu_goOverFrom 16 = .ok (.bipush 8, 2) := by decide +kernel
theorem dMu_goOverFrom_18 : decode cMu_goOverFrom 18 = .ok (.if_icmp .ge 26, 3) := by decide +kernel
theorem dMu_goOverFrom_44 : decode cMu_goOverFrom 44 = .ok (.iinc 2 1, 3) := by decide +kernel
theorem dMu_goOverFrom_47 : decode cMu_goOverFrom 47 = .ok (.goto (-40), 3) := by decide +kernel
theorem dMu_goOverFrom_21 : decode cMu_goOverFrom 21 = .ok (.aload_n 0, 1) := by decide +kernel
theorem dMu_goOverFrom_22 : decode cMu_goOverFrom 22 = .ok (.iload_n 3, 1) := by decide +kernel
theorem dMu_goOverFrom_23 : decode cMu_goOverFrom 23 = .ok (.invokevirtual 112, 3) := by decide +kernel
theorem dMu_goOverFrom_26 : decode cMu_goOverFrom 26 = .ok (.iload_n 2, 1) := by decide +kernel
theorem dMu_goOverFrom_27 : decode cMu_goOverFrom 27 = .ok (.if_icmp .ne 11, 3) := by decide +kernel
theorem dMu_goOverFrom_38 : decode cMu_goOverFrom 38 = .ok (.iinc 3 1, 3) := by decide +kernel
theorem dMu_goOverFrom_41 : decode cMu_goOverFrom 41 = .ok (.goto (-26), 3) := by decide +kernel
theorem dMu_goOverFrom_30 : decode cMu_goOverFrom 30 = .ok (.aload_n 0, 1) := by decide +kernel
theorem dMu_goOverFrom_31 : decode cMu_goOverFrom 31 = .ok (.iload_n 3, 1) := by decide +kernel
theorem dMu_goOverFrom_32 : decode cMu_goOverFrom 32 = .ok (.iload_n 2, 1) := by decide +kernel
theorem dMu_goOverFrom_33 : decode cMu_goOverFrom 33 = .ok (.iconst 1, 1) := by decide +kernel
theorem dMu_goOverFrom_34 : decode cMu_goOverFrom 34 = .ok (.iadd, 1) := by decide +kernel
theorem dMu_goOverFrom_35 : decode cMu_goOverFrom 35 = .ok (.invokevirtual 131, 3) := by decide +kernel
theorem mm_Mu_reachLikes : MMc yMu_reachLikes cMu_reachLikes 4 none 2 := ⟨hz_in 1251 (by decide +kernel) (by decide +kernel), hz_in 145 (by decide +kernel) (by decide +kernel), by decide +kernel, by decide⟩
theorem mv_Mu_reachLikes : MMv yMu_reachLikes 2 := ⟨hz_in 1250 (by decide +kernel) (by decide +kernel), hz_in 42 (by decide +kernel) (by decide +kernel), _, _, rfl, by decide⟩
theorem ml_Mu_131 : Cond.methodLink "LastWordHill$Muse" 131 yMu_reachLikes ∈ hz_wt := hz_in 1248 (by decide +kernel) (by decide +kernel)
def fMu_goOverFrom (v1 : Int32) (s0 : Sg) : Option (Sg) := bv (fMu_startAt v1 s0) fun s1 => lp FU (fun q7 (u7 : Int32) (s2 : Sg) => if 8 ≤ u7 then (some s2) else (lp FU (fun q15 (u15 : Int32) (s3 : Sg) => if 8 ≤ u15 then (q7 (u7 + 1) s3) else (bi (fMu_farOf u15 s3) fun r5 s4 => bnd (fun (s6 : Sg) => q15 (u15 + 1) s6) fun j38 => if r5 = u7 then (bv (fMu_reachLikes u15 (u7 + 1) s4) fun s7 => j38 s7) else (j38 s4))) 0 s2)) 0 s1
set_option maxHeartbeats 4000000 in
set_option maxRecDepth 100000 in
theorem okMu_goOverFrom (v1 : Int32) (s0 : Sg) : ∀ (l : Launch) (w : WC), Ok l w yMu_goOverFrom cMu_goOverFrom 4 none 5 evV [.ref (w.ad 66), .int v1] s0 (fMu_goOverFrom v1 s0) := by
  refine ok_in (ev := fun _ => evV) (av := fun w => [.ref (w.ad 66), .int v1]) "LastWordHill$Muse" rfl (by decide +kernel) (fun _ => rfl) (fun _ => Nat.le_of_ble_eq_true rfl) ?_
  intro C X E
  show GF C evV 0 [some (.ref (C.w.ad 66)), some (.int v1), none, none] [] s0 (fMu_goOverFrom v1 s0)
  unfold fMu_goOverFrom
  refine g_aload_n X dMu_goOverFrom_0 rfl ?_
  refine g_iload_n X dMu_goOverFrom_1 rfl ?_
  refine g_virtV X [.int v1] [] k_66 mm_Mu_startAt mv_Mu_startAt ml_Mu_108 (okMu_startAt v1 s0 C.l C.w) rfl (by decide) rfl (Nat.le_of_ble_eq_true rfl) dMu_goOverFrom_2 (fun s1 => ?_)
  refine g_iconst X 0 dMu_goOverFrom_5 (by decide) ?_
  refine g_istore_n X [some (.ref (C.w.ad 66)), some (.int v1), some (.int 0), none] dMu_goOverFrom_6 (by decide) (Nat.le_of_ble_eq_true rfl) rfl ?_
  refine gf_sub (L' := [some (.ref (C.w.ad 66)), none, some (.int 0), none]) ?_ (by simp [lsub])
  refine gf_lp (Lf := fun (u7 : Int32) => [some (.ref (C.w.ad 66)), none, some (.int u7), none]) (fun q7 hq7 u7 s2 => ?_) FU 0 s1
  refine g_iload_n X dMu_goOverFrom_7 rfl ?_
  refine g_bipush X 8 dMu_goOverFrom_8 (by decide) ?_
  refine g_cge X (tgt := 50) dMu_goOverFrom_10 (by decide) ?_ ?_
  · exact g_vret X E dMu_goOverFrom_50
  · refine g_iconst X 0 dMu_goOverFrom_13 (by decide) ?_
    refine g_istore_n X [some (.ref (C.w.ad 66)), none, some (.int u7), some (.int 0)] dMu_goOverFrom_14 (by decide) (Nat.le_of_ble_eq_true rfl) rfl ?_
    refine gf_sub (L' := [some (.ref (C.w.ad 66)), none, some (.int u7), some (.int 0)]) ?_ (by simp [lsub])
    refine gf_lp (Lf := fun (u15 : Int32) => [some (.ref (C.w.ad 66)), none, some (.int u7), some (.int u15)]) (fun q15 hq15 u15 s3 => ?_) FU 0 s2
    refine g_iload_n X dMu_goOverFrom_15 rfl ?_
    refine g_bipush X 8 dMu_goOverFrom_16 (by decide) ?_
    refine g_cge X (tgt := 44) dMu_goOverFrom_18 (by decide) ?_ ?_
    · refine g_iinc X (u7 + 1) [some (.ref (C.w.ad 66)), none, some (.int (u7 + 1)), some (.int u15)] dMu_goOverFrom_44 rfl rfl (by decide) rfl ?_
      refine g_goto X 7 dMu_goOverFrom_47 (by decide) ?_
      exact gf_sub (hq7 (u7 + 1) s3) (by simp [lsub])
    · refine g_aload_n X dMu_goOverFrom_21 rfl ?_
      refine g_iload_n X dMu_goOverFrom_22 rfl ?_
      refine g_virtI X [.int u15] [] k_66 mm_Mu_farOf mv_Mu_farOf ml_Mu_112 (okMu_farOf u15 s3 C.l C.w) rfl (by decide) rfl (Nat.le_of_ble_eq_true rfl) dMu_goOverFrom_23 (fun r5 s4 => ?_)
      refine g_iload_n X dMu_goOverFrom_26 rfl ?_
      refine gf_jn (fun j38 => ∀ (s6 : Sg), GF C evV 38 [some (.ref (C.w.ad 66)), none, some (.int u7), some (.int u15)] [] s6 (j38 s6)) ?_ ?_
      · intro s6
        refine g_iinc X (u15 + 1) [some (.ref (C.w.ad 66)), none, some (.int u7), some (.int (u15 + 1))] dMu_goOverFrom_38 rfl rfl (by decide) rfl ?_
        refine g_goto X 15 dMu_goOverFrom_41 (by decide) ?_
        exact gf_sub (hq15 (u15 + 1) s6) (by simp [lsub])
      · intro j38 hj38
        refine g_cne X (tgt := 38) dMu_goOverFrom_27 (by decide) ?_ ?_
        · refine g_aload_n X dMu_goOverFrom_30 rfl ?_
          refine g_iload_n X dMu_goOverFrom_31 rfl ?_
          refine g_iload_n X dMu_goOverFrom_32 rfl ?_
          refine g_iconst X 1 dMu_goOverFrom_33 (by decide) ?_
          refine g_iadd X dMu_goOverFrom_34 ?_
          refine g_virtV X [.int u15, .int (u7 + 1)] [] k_66 mm_Mu_reachLikes mv_Mu_reachLikes ml_Mu_131 (okMu_reachLikes u15 (u7 + 1) s4 C.l C.w) rfl (by decide) rfl (Nat.le_of_ble_eq_true rfl) dMu_goOverFrom_35 (fun s7 => ?_)
          exact gf_sub (hj38 s7) (by simp [lsub])
        · exact gf_sub (hj38 s4) (by simp [lsub])
def yRe_readLawLine : MethodName := ⟨"LastWordHill$Reader", "readLawLine", "()Z"⟩
abbrev cRe_readLawLine : ByteArray := prog_6_method_13_code
theorem dRe_readLawLine_0 : decode cRe_readLawLine 0 = .ok (.aload_n 0, 1) := by decide +kernel
theorem dRe_readLawLine_1 : decode cRe_readLawLine 1 = .ok (.getfield 14, 3) := by decide +kernel
theorem dRe_readLawLine_4 : decode cRe_readLawLine 4 = .ok (.getfield 52, 3) := by decide +kernel
theorem dRe_readLawLine_7 : decode cRe_readLawLine 7 = .ok (.sipush 256, 3) := by decide +kernel
theorem dRe_readLawLine_10 : decode cRe_readLawLine 10 = .ok (.isub, 1) := by decide +kernel
theorem dRe_readLawLine_11 : decode cRe_readLawLine 11 = .ok (.istore_n 1, 1) := by decide +kernel
theorem dRe_readLawLine_12 : decode cRe_readLawLine 12 = .ok (.aload_n 0, 1) := by decide +kernel
theorem dRe_readLawLine_13 : decode cRe_readLawLine 13 = .ok (.getfield 21, 3) := by decide +kernel
theorem dRe_readLawLine_16 : decode cRe_readLawLine 16 = .ok (.getfield 131, 3) := by decide +kernel
theorem dRe_readLawLine_19 : decode cRe_readLawLine 19 = .ok (.getfield 135, 3) := by decide +kernel
theorem fl_Re_135 : FLk "LastWordHill$Reader" 135 1 3 := ⟨_, _, _, rfl, by decide, hz_in 297 (by decide +kernel) (by decide +kernel), nL1, by decide, by decide⟩
theorem dRe_readLawLine_22 : decode cRe_readLawLine 22 = .ok (.istore_n 2, 1) := by decide +kernel
theorem dRe_readLawLine_23 : decode cRe_readLawLine 23 = .ok (.aload_n 0, 1) := by decide +kernel
theorem dRe_readLawLine_24 : decode cRe_readLawLine 24 = .ok (.getfield 14, 3) := by decide +kernel
theorem dRe_readLawLine_27 : decode cRe_readLawLine 27 = .ok (.invokevirtual 96, 3) := by decide +kernel
theorem dRe_readLawLine_30 : decode cRe_readLawLine 30 = .ok (.aload_n 0, 1) := by decide +kernel
theorem dRe_readLawLine_31 : decode cRe_readLawLine 31 = .ok (.invokevirtual 140, 3) := by decide +kernel
theorem dRe_readLawLine_34 : decode cRe_readLawLine 34 = .ok (.ifCond .ne 5, 3) := by decide +kernel
theorem dRe_readLawLine_39 : decode cRe_readLawLine 39 = .ok (.aload_n 0, 1) := by decide +kernel
theorem dRe_readLawLine_40 : decode cRe_readLawLine 40 = .ok (.getfield 21, 3) := by decide +kernel
theorem dRe_readLawLine_43 : decode cRe_readLawLine 43 = .ok (.getfield 131, 3) := by decide +kernel
theorem dRe_readLawLine_46 : decode cRe_readLawLine 46 = .ok (.getfield 135, 3) := by decide +kernel
theorem dRe_readLawLine_49 : decode cRe_readLawLine 49 = .ok (.istore_n 3, 1) := by decide +kernel
theorem dRe_readLawLine_50 : decode cRe_readLawLine 50 = .ok (.aload_n 0, 1) := by decide +kernel
theorem dRe_readLawLine_51 : decode cRe_readLawLine 51 = .ok (.getfield 14, 3) := by decide +kernel
theorem dRe_readLawLine_54 : decode cRe_readLawLine 54 = .ok (.getfield 52, 3) := by decide +kernel
theorem dRe_readLawLine_57 : decode cRe_readLawLine 57 = .ok (.sipush 259, 3) := by decide +kernel
theorem dRe_readLawLine_60 : decode cRe_readLawLine 60 = .ok (.if_icmp .ne 19, 3) := by decide +kernel
theorem dRe_readLawLine_79 : decode cRe_readLawLine 79 = .ok (.aload_n 0, 1) := by decide +kernel
theorem dRe_readLawLine_80 : decode cRe_readLawLine 80 = .ok (.getfield 21, 3) := by decide +kernel
theorem dRe_readLawLine_83 : decode cRe_readLawLine 83 = .ok (.getfield 131, 3) := by decide +kernel
theorem dRe_readLawLine_86 : decode cRe_readLawLine 86 = .ok (.getfield 146, 3) := by decide +kernel
theorem fl_Re_146 : FLk "LastWordHill$Reader" 146 1 0 := ⟨_, _, _, rfl, by decide, hz_in 293 (by decide +kernel) (by decide +kernel), nL1, by decide, by decide⟩
theorem k_38 : hz_kd 38 = 7 := by decide
theorem r_37_0 : hz_rf 37 0 = 38 := by decide
theorem dRe_readLawLine_89 : decode cRe_readLawLine 89 = .ok (.iload_n 1, 1) := by decide +kernel
theorem dRe_readLawLine_90 : decode cRe_readLawLine 90 = .ok (.iload_n 2, 1) := by decide +kernel
theorem dRe_readLawLine_91 : decode cRe_readLawLine 91 = .ok (.iload_n 3, 1) := by decide +kernel
theorem dRe_readLawLine_92 : decode cRe_readLawLine 92 = .ok (.aload_n 0, 1) := by decide +kernel
theorem dRe_readLawLine_93 : decode cRe_readLawLine 93 = .ok (.getfield 21, 3) := by decide +kernel
theorem dRe_readLawLine_96 : decode cRe_readLawLine 96 = .ok (.getfield 131, 3) := by decide +kernel
theorem dRe_readLawLine_99 : decode cRe_readLawLine 99 = .ok (.getfield 135, 3) := by decide +kernel
theorem dRe_readLawLine_102 : decode cRe_readLawLine 102 = .ok (.iconst 0, 1) := by decide +kernel
theorem dRe_readLawLine_103 : decode cRe_readLawLine 103 = .ok (.invokevirtual 115, 3) := by decide +kernel
theorem dRe_readLawLine_106 : decode cRe_readLawLine 106 = .ok (.pop, 1) := by decide +kernel
theorem dRe_readLawLine_107 : decode cRe_readLawLine 107 = .ok (.iconst 1, 1) := by decide +kernel
theorem dRe_readLawLine_108 : decode cRe_readLawLine 108 = .ok (.ireturn, 1) := by decide +kernel
theorem dRe_readLawLine_63 : decode cRe_readLawLine 63 = .ok (.aload_n 0, 1) := by decide +kernel
theorem dRe_readLawLine_64 : decode cRe_readLawLine 64 = .ok (.getfield 14, 3) := by decide +kernel
theorem dRe_readLawLine_67 : decode cRe_readLawLine 67 = .ok (.invokevirtual 96, 3) := by decide +kernel
theorem dRe_readLawLine_70 : decode cRe_readLawLine 70 = .ok (.aload_n 0, 1) := by decide +kernel
theorem dRe_readLawLine_71 : decode cRe_readLawLine 71 = .ok (.invokevirtual 143, 3) := by decide +kernel
theorem mm_Re_readCondition : MMc yRe_readCondition cRe_readCondition 3 (some .boolean) 0 := ⟨hz_in 1015 (by decide +kernel) (by decide +kernel), hz_in 141 (by decide +kernel) (by decide +kernel), by decide +kernel, by decide⟩
theorem mv_Re_readCondition : MMv yRe_readCondition 4 := ⟨hz_in 1014 (by decide +kernel) (by decide +kernel), hz_in 20 (by decide +kernel) (by decide +kernel), _, _, rfl, by decide⟩
theorem ml_Re_143 : Cond.methodLink "LastWordHill$Reader" 143 yRe_readCondition ∈ hz_wt := hz_in 1012 (by decide +kernel) (by decide +kernel)
theorem dRe_readLawLine_74 : decode cRe_readLawLine 74 = .ok (.ifCond .ne 5, 3) := by decide +kernel
theorem dRe_readLawLine_77 : decode cRe_readLawLine 77 = .ok (.iconst 0, 1) := by decide +kernel
theorem dRe_readLawLine_78 : decode cRe_readLawLine 78 = .ok (.ireturn, 1) := by decide +kernel
theorem dRe_readLawLine_37 : decode cRe_readLawLine 37 = .ok (.iconst 0, 1) := by decide +kernel
theorem dRe_readLawLine_38 : decode cRe_readLawLine 38 = .ok (.ireturn, 1) := by decide +kernel
def fRe_readLawLine (s0 : Sg) : Option (Int32 × Sg) := bv (fTo_advance s0) fun s1 => bi (fRe_readSum s1) fun r3 s2 => if r3 = 0 then (gb 0 (some (0, s2))) else (bnd (fun (s4 : Sg) => bi (fTa_add 38 ((s0 31 7) - 256) (s0 37 3) (s2 37 3) (s4 37 3) 0 s4) fun r6 s5 => gb 1 (some (1, s5))) fun j79 => if (s2 31 7) = 259 then (bv (fTo_advance s2) fun s7 => bi (fRe_readCondition s7) fun r9 s8 => if r9 = 0 then (gb 0 (some (0, s8))) else (j79 s8)) else (j79 s2))
set_option maxHeartbeats 4000000 in
set_option maxRecDepth 100000 in
theorem okRe_readLawLine (s0 : Sg) : ∀ (l : Launch) (w : WC), Ok l w yRe_readLawLine cRe_readLawLine 4 (some .boolean) 5 evI [.ref (w.ad 30)] s0 (fRe_readLawLine s0) := by
  refine ok_in (ev := fun _ => evI) (av := fun w => [.ref (w.ad 30)]) "LastWordHill$Reader" rfl (by decide +kernel) (fun _ => rfl) (fun _ => Nat.le_of_ble_eq_true rfl) ?_
  intro C X E
  show GF C evI 0 [some (.ref (C.w.ad 30)), none, none, none] [] s0 (fRe_readLawLine s0)
  unfold fRe_readLawLine
  refine g_aload_n X dRe_readLawLine_0 rfl ?_
  refine g_getN X fl_Re_14 fb_4_0 k_30 r_30_0 dRe_readLawLine_1 ?_
  refine g_getI X fl_Re_52 fb_9_7 k_31 dRe_readLawLine_4 ?_
  refine g_sipush X 256 dRe_readLawLine_7 (by decide) ?_
  refine g_isub X dRe_readLawLine_10 ?_
  refine g_istore_n X [some (.ref (C.w.ad 30)), some (.int ((s0 31 7) - 256)), none, none] dRe_readLawLine_11 (by decide) (Nat.le_of_ble_eq_true rfl) rfl ?_
  refine g_aload_n X dRe_readLawLine_12 rfl ?_
  refine g_getN X fl_Re_21 fb_4_1 k_30 r_30_1 dRe_readLawLine_13 ?_
  refine g_getN X fl_Re_131 fb_8_0 k_36 r_36_0 dRe_readLawLine_16 ?_
  refine g_getI X fl_Re_135 fb_1_3 k_37 dRe_readLawLine_19 ?_
  refine g_istore_n X [some (.ref (C.w.ad 30)), some (.int ((s0 31 7) - 256)), some (.int (s0 37 3)), none] dRe_readLawLine_22 (by decide) (Nat.le_of_ble_eq_true rfl) rfl ?_
  refine g_aload_n X dRe_readLawLine_23 rfl ?_
  refine g_getN X fl_Re_14 fb_4_0 k_30 r_30_0 dRe_readLawLine_24 ?_
  refine g_virtV X [] [] k_31 mm_To_advance mv_To_advance ml_Re_96 (okTo_advance s0 C.l C.w) rfl (by decide) rfl (Nat.le_of_ble_eq_true rfl) dRe_readLawLine_27 (fun s1 => ?_)
  refine g_aload_n X dRe_readLawLine_30 rfl ?_
  refine g_virtI X [] [] k_30 mm_Re_readSum mv_Re_readSum ml_Re_140 (okRe_readSum s1 C.l C.w) rfl (by decide) rfl (Nat.le_of_ble_eq_true rfl) dRe_readLawLine_31 (fun r3 s2 => ?_)
  refine g_zne X (tgt := 39) dRe_readLawLine_34 (by decide) ?_ ?_
  · refine g_iconst X 0 dRe_readLawLine_37 (by decide) ?_
    exact g_zret X E dRe_readLawLine_38
  · refine g_aload_n X dRe_readLawLine_39 rfl ?_
    refine g_getN X fl_Re_21 fb_4_1 k_30 r_30_1 dRe_readLawLine_40 ?_
    refine g_getN X fl_Re_131 fb_8_0 k_36 r_36_0 dRe_readLawLine_43 ?_
    refine g_getI X fl_Re_135 fb_1_3 k_37 dRe_readLawLine_46 ?_
    refine g_istore_n X [some (.ref (C.w.ad 30)), some (.int ((s0 31 7) - 256)), some (.int (s0 37 3)), some (.int (s2 37 3))] dRe_readLawLine_49 (by decide) (Nat.le_of_ble_eq_true rfl) rfl ?_
    refine g_aload_n X dRe_readLawLine_50 rfl ?_
    refine g_getN X fl_Re_14 fb_4_0 k_30 r_30_0 dRe_readLawLine_51 ?_
    refine g_getI X fl_Re_52 fb_9_7 k_31 dRe_readLawLine_54 ?_
    refine g_sipush X 259 dRe_readLawLine_57 (by decide) ?_
    refine gf_jn (fun j79 => ∀ (s4 : Sg), GF C evI 79 [some (.ref (C.w.ad 30)), some (.int ((s0 31 7) - 256)), some (.int (s0 37 3)), some (.int (s2 37 3))] [] s4 (j79 s4)) ?_ ?_
    · intro s4
      refine g_aload_n X dRe_readLawLine_79 rfl ?_
      refine g_getN X fl_Re_21 fb_4_1 k_30 r_30_1 dRe_readLawLine_80 ?_
      refine g_getN X fl_Re_131 fb_8_0 k_36 r_36_0 dRe_readLawLine_83 ?_
      refine g_getN X fl_Re_146 fb_1_0 k_37 r_37_0 dRe_readLawLine_86 ?_
      refine g_iload_n X dRe_readLawLine_89 rfl ?_
      refine g_iload_n X dRe_readLawLine_90 rfl ?_
      refine g_iload_n X dRe_readLawLine_91 rfl ?_
      refine g_aload_n X dRe_readLawLine_92 rfl ?_
      refine g_getN X fl_Re_21 fb_4_1 k_30 r_30_1 dRe_readLawLine_93 ?_
      refine g_getN X fl_Re_131 fb_8_0 k_36 r_36_0 dRe_readLawLine_96 ?_
      refine g_getI X fl_Re_135 fb_1_3 k_37 dRe_readLawLine_99 ?_
      refine g_iconst X 0 dRe_readLawLine_102 (by decide) ?_
      refine g_virtI X [.int ((s0 31 7) - 256), .int (s0 37 3), .int (s2 37 3), .int (s4 37 3), .int 0] [] k_38 mm_Ta_add mv_Ta_add ml_Re_115 (okTa_add 38 ((s0 31 7) - 256) (s0 37 3) (s2 37 3) (s4 37 3) 0 s4 k_38 C.l C.w) rfl (by decide) rfl (Nat.le_of_ble_eq_true rfl) dRe_readLawLine_103 (fun r6 s5 => ?_)
      refine g_pop X dRe_readLawLine_106 rfl ?_
      refine g_iconst X 1 dRe_readLawLine_107 (by decide) ?_
      exact g_zret X E dRe_readLawLine_108
    · intro j79 hj79
      refine g_cne X (tgt := 79) dRe_readLawLine_60 (by decide) ?_ ?_
      · refine g_aload_n X dRe_readLawLine_63 rfl ?_
        refine g_getN X fl_Re_14 fb_4_0 k_30 r_30_0 dRe_readLawLine_64 ?_
        refine g_virtV X [] [] k_31 mm_To_advance mv_To_advance ml_Re_96 (okTo_advance s2 C.l C.w) rfl (by decide) rfl (Nat.le_of_ble_eq_true rfl) dRe_readLawLine_67 (fun s7 => ?_)
        refine g_aload_n X dRe_readLawLine_70 rfl ?_
        refine g_virtI X [] [] k_30 mm_Re_readCondition mv_Re_readCondition ml_Re_143 (okRe_readCondition s7 C.l C.w) rfl (by decide) rfl (Nat.le_of_ble_eq_true rfl) dRe_readLawLine_71 (fun r9 s8 => ?_)
        refine g_zne X (tgt := 79) dRe_readLawLine_74 (by decide) ?_ ?_
        · refine g_iconst X 0 dRe_readLawLine_77 (by decide) ?_
          exact g_zret X E dRe_readLawLine_78
        · exact gf_sub (hj79 s8) (by simp [lsub])
      · exact gf_sub (hj79 s2) (by simp [lsub])
def ySu_pass : MethodName := ⟨"LastWordHill$Sun", "pass", "(LLastWordHill$Scene;Z)I"⟩
abbrev cSu_pass : ByteArray := prog_8_method_2_code
theorem dSu_pass_0 : decode cSu_pass 0 = .ok (.aload_n 1, 1) := by decide +kernel
theorem dSu_pass_1 : decode cSu_pass 1 = .ok (.getfield 19, 3) := by decide +kernel
theorem dSu_pass_4 : decode cSu_pass 4 = .ok (.ifCond .ne 8, 3) := by decide +kernel
theorem dSu_pass_12 : decode cSu_pass 12 = .ok (.aload_n 0, 1) := by decide +kernel
theorem dSu_pass_13 : decode cSu_pass 13 = .ok (.aload_n 1, 1) := by decide +kernel
theorem dSu_pass_14 : decode cSu_pass 14 = .ok (.invokevirtual 29, 3) := by decide +kernel
theorem mm_Su_letClimbersGo : MMc ySu_letClimbersGo cSu_letClimbersGo 6 none 1 := ⟨hz_in 716 (by decide +kernel) (by decide +kernel), hz_in 144 (by decide +kernel) (by decide +kernel), by decide +kernel, by decide⟩
theorem mv_Su_letClimbersGo : MMv ySu_letClimbersGo 6 := ⟨hz_in 715 (by decide +kernel) (by decide +kernel), hz_in 1 (by decide +kernel) (by decide +kernel), _, _, rfl, by decide⟩
theorem ml_Su_29 : Cond.methodLink "LastWordHill$Sun" 29 ySu_letClimbersGo ∈ hz_wt := hz_in 713 (by decide +kernel) (by decide +kernel)
theorem dSu_pass_17 : decode cSu_pass 17 = .ok (.iconst 0, 1) := by decide +kernel
theorem dSu_pass_18 : decode cSu_pass 18 = .ok (.istore_n 3, 1) := by decide +kernel
theorem dSu_pass_19 : decode cSu_pass 19 = .ok (.iconst 0, 1) := by decide +kernel
theorem dSu_pass_20 : decode cSu_pass 20 = .ok (.istore 4, 2) := by decide +kernel
theorem dSu_pass_22 : decode cSu_pass 22 = .ok (.aload_n 1, 1) := by decide +kernel
theorem dSu_pass_23 : decode cSu_pass 23 = .ok (.getfield 19, 3) := by decide +kernel
theorem dSu_pass_26 : decode cSu_pass 26 = .ok (.aload_n 1, 1) := by decide +kernel
theorem dSu_pass_27 : decode cSu_pass 27 = .ok (.getfield 32, 3) := by decide +kernel
theorem dSu_pass_30 : decode cSu_pass 30 = .ok (.if_icmp .ge 65, 3) := by decide +kernel
theorem dSu_pass_95 : decode cSu_pass 95 = .ok (.aload_n 1, 1) := by decide +kernel
theorem dSu_pass_96 : decode cSu_pass 96 = .ok (.getfield 19, 3) := by decide +kernel
theorem dSu_pass_99 : decode cSu_pass 99 = .ok (.aload_n 1, 1) := by decide +kernel
theorem dSu_pass_100 : decode cSu_pass 100 = .ok (.getfield 32, 3) := by decide +kernel
theorem dSu_pass_103 : decode cSu_pass 103 = .ok (.if_icmp .ne 9, 3) := by decide +kernel
theorem dSu_pass_112 : decode cSu_pass 112 = .ok (.aload_n 1, 1) := by decide +kernel
theorem dSu_pass_113 : decode cSu_pass 113 = .ok (.invokevirtual 58, 3) := by decide +kernel
theorem mm_Sc_turnClock : MMc ySc_turnClock cSc_turnClock 1 none 0 := ⟨hz_in 780 (by decide +kernel) (by decide +kernel), hz_in 135 (by decide +kernel) (by decide +kernel), by decide +kernel, by decide⟩
theorem mv_Sc_turnClock : MMv ySc_turnClock 5 := ⟨hz_in 778 (by decide +kernel) (by decide +kernel), hz_in 779 (by decide +kernel) (by decide +kernel), _, _, rfl, by decide⟩
theorem ml_Su_58 : Cond.methodLink "LastWordHill$Sun" 58 ySc_turnClock ∈ hz_wt := hz_in 777 (by decide +kernel) (by decide +kernel)
theorem dSu_pass_116 : decode cSu_pass 116 = .ok (.iload_n 3, 1) := by decide +kernel
theorem dSu_pass_117 : decode cSu_pass 117 = .ok (.ireturn, 1) := by decide +kernel
theorem dSu_pass_106 : decode cSu_pass 106 = .ok (.aload_n 0, 1) := by decide +kernel
theorem dSu_pass_107 : decode cSu_pass 107 = .ok (.aload_n 1, 1) := by decide +kernel
theorem dSu_pass_108 : decode cSu_pass 108 = .ok (.iload_n 2, 1) := by decide +kernel
theorem dSu_pass_109 : decode cSu_pass 109 = .ok (.invokevirtual 54, 3) := by decide +kernel
theorem mm_Su_fallNight : MMc ySu_fallNight cSu_fallNight 4 none 2 := ⟨hz_in 775 (by decide +kernel) (by decide +kernel), hz_in 144 (by decide +kernel) (by decide +kernel), by decide +kernel, by decide⟩
theorem mv_Su_fallNight : MMv ySu_fallNight 6 := ⟨hz_in 774 (by decide +kernel) (by decide +kernel), hz_in 4 (by decide +kernel) (by decide +kernel), _, _, rfl, by decide⟩
theorem ml_Su_54 : Cond.methodLink "LastWordHill$Sun" 54 ySu_fallNight ∈ hz_wt := hz_in 772 (by decide +kernel) (by decide +kernel)
theorem dSu_pass_33 : decode cSu_pass 33 = .ok (.iload 4, 2) := by decide +kernel
theorem dSu_pass_35 : decode cSu_pass 35 = .ok (.aload_n 1, 1) := by decide +kernel
theorem dSu_pass_36 : decode cSu_pass 36 = .ok (.getfield 35, 3) := by decide +kernel
theorem dSu_pass_39 : decode cSu_pass 39 = .ok (.if_icmp .ge 56, 3) := by decide +kernel
theorem dSu_pass_42 : decode cSu_pass 42 = .ok (.aload_n 1, 1) := by decide +kernel
theorem dSu_pass_43 : decode cSu_pass 43 = .ok (.iload 4, 2) := by decide +kernel
theorem dSu_pass_45 : decode cSu_pass 45 = .ok (.iconst 5, 1) := by decide +kernel
theorem dSu_pass_46 : decode cSu_pass 46 = .ok (.invokevirtual 38, 3) := by decide +kernel
theorem dSu_pass_49 : decode cSu_pass 49 = .ok (.iconst 1, 1) := by decide +kernel
theorem dSu_pass_50 : decode cSu_pass 50 = .ok (.if_icmp .eq 6, 3) := by decide +kernel
theorem dSu_pass_89 : decode cSu_pass 89 = .ok (.iinc 4 1, 3) := by decide +kernel
theorem dSu_pass_92 : decode cSu_pass 92 = .ok (.goto (-70), 3) := by decide +kernel
theorem dSu_pass_56 : decode cSu_pass 56 = .ok (.aload_n 1, 1) := by decide +kernel
theorem dSu_pass_57 : decode cSu_pass 57 = .ok (.iload 4, 2) := by decide +kernel
theorem dSu_pass_59 : decode cSu_pass 59 = .ok (.invokevirtual 42, 3) := by decide +kernel
theorem ml_Su_42 : Cond.methodLink "LastWordHill$Sun" 42 ySc_isUp ∈ hz_wt := hz_in 719 (by decide +kernel) (by decide +kernel)
theorem dSu_pass_62 : decode cSu_pass 62 = .ok (.ifCond .ne 13, 3) := by decide +kernel
theorem dSu_pass_75 : decode cSu_pass 75 = .ok (.aload_n 0, 1) := by decide +kernel
theorem dSu_pass_76 : decode cSu_pass 76 = .ok (.aload_n 1, 1) := by decide +kernel
theorem dSu_pass_77 : decode cSu_pass 77 = .ok (.iload 4, 2) := by decide +kernel
theorem dSu_pass_79 : decode cSu_pass 79 = .ok (.iload_n 2, 1) := by decide +kernel
theorem dSu_pass_80 : decode cSu_pass 80 = .ok (.invokevirtual 50, 3) := by decide +kernel
theorem mm_Su_speaks : MMc ySu_speaks cSu_speaks 8 (some .boolean) 3 := ⟨hz_in 763 (by decide +kernel) (by decide +kernel), hz_in 144 (by decide +kernel) (by decide +kernel), by decide +kernel, by decide⟩
theorem mv_Su_speaks : MMv ySu_speaks 6 := ⟨hz_in 762 (by decide +kernel) (by decide +kernel), hz_in 3 (by decide +kernel) (by decide +kernel), _, _, rfl, by decide⟩
theorem ml_Su_50 : Cond.methodLink "LastWordHill$Sun" 50 ySu_speaks ∈ hz_wt := hz_in 760 (by decide +kernel) (by decide +kernel)
theorem dSu_pass_83 : decode cSu_pass 83 = .ok (.ifCond .eq 6, 3) := by decide +kernel
theorem dSu_pass_86 : decode cSu_pass 86 = .ok (.iinc 3 1, 3) := by decide +kernel
theorem dSu_pass_65 : decode cSu_pass 65 = .ok (.aload_n 0, 1) := by decide +kernel
theorem dSu_pass_66 : decode cSu_pass 66 = .ok (.aload_n 1, 1) := by decide +kernel
theorem dSu_pass_67 : decode cSu_pass 67 = .ok (.iload 4, 2) := by decide +kernel
theorem dSu_pass_69 : decode cSu_pass 69 = .ok (.invokevirtual 46, 3) := by decide +kernel
theorem ml_Su_46 : Cond.methodLink "LastWordHill$Sun" 46 ySu_climb ∈ hz_wt := hz_in 720 (by decide +kernel) (by decide +kernel)
theorem dSu_pass_72 : decode cSu_pass 72 = .ok (.goto 17, 3) := by decide +kernel
theorem dSu_pass_53 : decode cSu_pass 53 = .ok (.goto 36, 3) := by decide +kernel
theorem dSu_pass_7 : decode cSu_pass 7 = .ok (.aload_n 0, 1) := by decide +kernel
theorem dSu_pass_8 : decode cSu_pass 8 = .ok (.aload_n 1, 1) := by decide +kernel
theorem dSu_pass_9 : decode cSu_pass 9 = .ok (.invokevirtual 25, 3) := by decide +kernel
theorem mm_Su_putSunset : MMc ySu_putSunset cSu_putSunset 3 none 1 := ⟨hz_in 708 (by decide +kernel) (by decide +kernel), hz_in 144 (by decide +kernel) (by decide +kernel), by decide +kernel, by decide⟩
theorem mv_Su_putSunset : MMv ySu_putSunset 6 := ⟨hz_in 707 (by decide +kernel) (by decide +kernel), hz_in 0 (by decide +kernel) (by decide +kernel), _, _, rfl, by decide⟩
theorem ml_Su_25 : Cond.methodLink "LastWordHill$Sun" 25 ySu_putSunset ∈ hz_wt := hz_in 705 (by decide +kernel) (by decide +kernel)
def fSu_pass (o1 : Nat) (v2 : Int32) (s0 : Sg) : Option (Int32 × Sg) := bnd (fun (s1 : Sg) => bv (fSu_letClimbersGo o1 s1) fun s2 => lp FU (fun q22 (u22 : Int32 × Int32) (s3 : Sg) => bnd (fun (s4 : Sg) => bnd (fun (s5 : Sg) => bv (fSc_turnClock o1 s5) fun s6 => some (u22.1, s6)) fun j112 => if (s4 o1 9) = (s4 o1 8) then (bv (fSu_fallNight o1 v2 s4) fun s7 => j112 s7) else (j112 s4)) fun j95 => if (s3 o1 8) ≤ (s3 o1 9) then (j95 s3) else (if (s3 o1 1) ≤ u22.2 then (j95 s3) else (bi (fSc_tell o1 u22.2 5 s3) fun r9 s8 => bnd (fun (a89_3 : Int32) (s10 : Sg) => q22 (a89_3, (u22.2 + 1)) s10) fun j89 => if r9 = 1 then (bi (fSc_isUp o1 u22.2 s8) fun r12 s11 => if r12 = 0 then (bv (fSu_climb o1 u22.2 s11) fun s15 => j89 u22.1 s15) else (bi (fSu_speaks o1 u22.2 v2 s11) fun r14 s13 => if r14 = 0 then (j89 u22.1 s13) else (j89 (u22.1 + 1) s13))) else (j89 u22.1 s8)))) (0, 0) s2) fun j12 => if (s0 o1 9) = 0 then (bv (fSu_putSunset o1 s0) fun s16 => j12 s16) else (j12 s0)
set_option maxHeartbeats 4000000 in
set_option maxRecDepth 100000 in
theorem okSu_pass (o1 : Nat) (v2 : Int32) (s0 : Sg) (h1 : hz_kd o1 = 5) : ∀ (l : Launch) (w : WC), Ok l w ySu_pass cSu_pass 5 (some .int) 6 evI [.ref (w.ad 65), .ref (w.ad o1), .int v2] s0 (fSu_pass o1 v2 s0) := by
  refine ok_in (ev := fun _ => evI) (av := fun w => [.ref (w.ad 65), .ref (w.ad o1), .int v2]) "LastWordHill$Sun" rfl (by decide +kernel) (fun _ => rfl) (fun _ => Nat.le_of_ble_eq_true rfl) ?_
  intro C X E
  show GF C evI 0 [some (.ref (C.w.ad 65)), some (.ref (C.w.ad o1)), some (.int v2), none, none] [] s0 (fSu_pass o1 v2 s0)
  unfold fSu_pass
  refine g_aload_n X dSu_pass_0 rfl ?_
  refine g_getI X fl_Su_19 fb_5_9 h1 dSu_pass_1 ?_
  refine gf_jn (fun j12 => ∀ (s1 : Sg), GF C evI 12 [some (.ref (C.w.ad 65)), some (.ref (C.w.ad o1)), some (.int v2), none, none] [] s1 (j12 s1)) ?_ ?_
  · intro s1
    refine g_aload_n X dSu_pass_12 rfl ?_
    refine g_aload_n X dSu_pass_13 rfl ?_
    refine g_virtV X [.ref (C.w.ad o1)] [] k_65 mm_Su_letClimbersGo mv_Su_letClimbersGo ml_Su_29 (okSu_letClimbersGo o1 s1 h1 C.l C.w) rfl (by decide) rfl (Nat.le_of_ble_eq_true rfl) dSu_pass_14 (fun s2 => ?_)
    refine g_iconst X 0 dSu_pass_17 (by decide) ?_
    refine g_istore_n X [some (.ref (C.w.ad 65)), some (.ref (C.w.ad o1)), some (.int v2), some (.int 0), none] dSu_pass_18 (by decide) (Nat.le_of_ble_eq_true rfl) rfl ?_
    refine g_iconst X 0 dSu_pass_19 (by decide) ?_
    refine g_istore X [some (.ref (C.w.ad 65)), some (.ref (C.w.ad o1)), some (.int v2), some (.int 0), some (.int 0)] dSu_pass_20 (by decide) (Nat.le_of_ble_eq_true rfl) rfl ?_
    refine gf_sub (L' := [some (.ref (C.w.ad 65)), some (.ref (C.w.ad o1)), some (.int v2), some (.int 0), some (.int 0)]) ?_ (by simp [lsub])
    refine gf_lp (Lf := fun (u22 : Int32 × Int32) => [some (.ref (C.w.ad 65)), some (.ref (C.w.ad o1)), some (.int v2), some (.int u22.1), some (.int u22.2)]) (fun q22 hq22 u22 s3 => ?_) FU (0, 0) s2
    refine g_aload_n X dSu_pass_22 rfl ?_
    refine g_getI X fl_Su_19 fb_5_9 h1 dSu_pass_23 ?_
    refine g_aload_n X dSu_pass_26 rfl ?_
    refine g_getI X fl_Su_32 fb_5_8 h1 dSu_pass_27 ?_
    refine gf_jn (fun j95 => ∀ (s4 : Sg), GF C evI 95 [some (.ref (C.w.ad 65)), some (.ref (C.w.ad o1)), some (.int v2), some (.int u22.1), none] [] s4 (j95 s4)) ?_ ?_
    · intro s4
      refine g_aload_n X dSu_pass_95 rfl ?_
      refine g_getI X fl_Su_19 fb_5_9 h1 dSu_pass_96 ?_
      refine g_aload_n X dSu_pass_99 rfl ?_
      refine g_getI X fl_Su_32 fb_5_8 h1 dSu_pass_100 ?_
      refine gf_jn (fun j112 => ∀ (s5 : Sg), GF C evI 112 [none, some (.ref (C.w.ad o1)), none, some (.int u22.1), none] [] s5 (j112 s5)) ?_ ?_
      · intro s5
        refine g_aload_n X dSu_pass_112 rfl ?_
        refine g_virtV X [] [] h1 mm_Sc_turnClock mv_Sc_turnClock ml_Su_58 (okSc_turnClock o1 s5 h1 C.l C.w) rfl (by decide) rfl (Nat.le_of_ble_eq_true rfl) dSu_pass_113 (fun s6 => ?_)
        refine g_iload_n X dSu_pass_116 rfl ?_
        exact g_iret X E dSu_pass_117
      · intro j112 hj112
        refine g_cne X (tgt := 112) dSu_pass_103 (by decide) ?_ ?_
        · refine g_aload_n X dSu_pass_106 rfl ?_
          refine g_aload_n X dSu_pass_107 rfl ?_
          refine g_iload_n X dSu_pass_108 rfl ?_
          refine g_virtV X [.ref (C.w.ad o1), .int v2] [] k_65 mm_Su_fallNight mv_Su_fallNight ml_Su_54 (okSu_fallNight o1 v2 s4 h1 C.l C.w) rfl (by decide) rfl (Nat.le_of_ble_eq_true rfl) dSu_pass_109 (fun s7 => ?_)
          exact gf_sub (hj112 s7) (by simp [lsub])
        · exact gf_sub (hj112 s4) (by simp [lsub])
    · intro j95 hj95
      refine g_cge X (tgt := 95) dSu_pass_30 (by decide) ?_ ?_
      · exact gf_sub (hj95 s3) (by simp [lsub])
      · refine g_iload X dSu_pass_33 rfl ?_
        refine g_aload_n X dSu_pass_35 rfl ?_
        refine g_getI X fl_Su_35 fb_5_1 h1 dSu_pass_36 ?_
        refine g_cge X (tgt := 95) dSu_pass_39 (by decide) ?_ ?_
        · exact gf_sub (hj95 s3) (by simp [lsub])
        · refine g_aload_n X dSu_pass_42 rfl ?_
          refine g_iload X dSu_pass_43 rfl ?_
          refine g_iconst X 5 dSu_pass_45 (by decide) ?_
          refine g_virtI X [.int u22.2, .int 5] [] h1 mm_Sc_tell mv_Sc_tell ml_Su_38 (okSc_tell o1 u22.2 5 s3 h1 C.l C.w) rfl (by decide) rfl (Nat.le_of_ble_eq_true rfl) dSu_pass_46 (fun r9 s8 => ?_)
          refine g_iconst X 1 dSu_pass_49 (by decide) ?_
          refine gf_jn (fun j89 => ∀ (a89_3 : Int32) (s10 : Sg), GF C evI 89 [some (.ref (C.w.ad 65)), some (.ref (C.w.ad o1)), some (.int v2), some (.int a89_3), some (.int u22.2)] [] s10 (j89 a89_3 s10)) ?_ ?_
          · intro a89_3 s10
            refine g_iinc X (u22.2 + 1) [some (.ref (C.w.ad 65)), some (.ref (C.w.ad o1)), some (.int v2), some (.int a89_3), some (.int (u22.2 + 1))] dSu_pass_89 rfl rfl (by decide) rfl ?_
            refine g_goto X 22 dSu_pass_92 (by decide) ?_
            exact gf_sub (hq22 (a89_3, (u22.2 + 1)) s10) (by simp [lsub])
          · intro j89 hj89
            refine g_ceq X (tgt := 56) dSu_pass_50 (by decide) ?_ ?_
            · refine g_aload_n X dSu_pass_56 rfl ?_
              refine g_iload X dSu_pass_57 rfl ?_
              refine g_virtI X [.int u22.2] [] h1 mm_Sc_isUp mv_Sc_isUp ml_Su_42 (okSc_isUp o1 u22.2 s8 h1 C.l C.w) rfl (by decide) rfl (Nat.le_of_ble_eq_true rfl) dSu_pass_59 (fun r12 s11 => ?_)
              refine g_zne X (tgt := 75) dSu_pass_62 (by decide) ?_ ?_
              · refine g_aload_n X dSu_pass_65 rfl ?_
                refine g_aload_n X dSu_pass_66 rfl ?_
                refine g_iload X dSu_pass_67 rfl ?_
                refine g_virtV X [.ref (C.w.ad o1), .int u22.2] [] k_65 mm_Su_climb mv_Su_climb ml_Su_46 (okSu_climb o1 u22.2 s11 h1 C.l C.w) rfl (by decide) rfl (Nat.le_of_ble_eq_true rfl) dSu_pass_69 (fun s15 => ?_)
                refine g_goto X 89 dSu_pass_72 (by decide) ?_
                exact gf_sub (hj89 u22.1 s15) (by simp [lsub])
              · refine g_aload_n X dSu_pass_75 rfl ?_
                refine g_aload_n X dSu_pass_76 rfl ?_
                refine g_iload X dSu_pass_77 rfl ?_
                refine g_iload_n X dSu_pass_79 rfl ?_
                refine g_virtI X [.ref (C.w.ad o1), .int u22.2, .int v2] [] k_65 mm_Su_speaks mv_Su_speaks ml_Su_50 (okSu_speaks o1 u22.2 v2 s11 h1 C.l C.w) rfl (by decide) rfl (Nat.le_of_ble_eq_true rfl) dSu_pass_80 (fun r14 s13 => ?_)
                refine g_zeq X (tgt := 89) dSu_pass_83 (by decide) ?_ ?_
                · exact gf_sub (hj89 u22.1 s13) (by simp [lsub])
                · refine g_iinc X (u22.1 + 1) [some (.ref (C.w.ad 65)), some (.ref (C.w.ad o1)), some (.int v2), some (.int (u22.1 + 1)), some (.int u22.2)] dSu_pass_86 rfl rfl (by decide) rfl ?_
                  exact gf_sub (hj89 (u22.1 + 1) s13) (by simp [lsub])
            · refine g_goto X 89 dSu_pass_53 (by decide) ?_
              exact gf_sub (hj89 u22.1 s8) (by simp [lsub])
  · intro j12 hj12
    refine g_zne X (tgt := 12) dSu_pass_4 (by decide) ?_ ?_
    · refine g_aload_n X dSu_pass_7 rfl ?_
      refine g_aload_n X dSu_pass_8 rfl ?_
      refine g_virtV X [.ref (C.w.ad o1)] [] k_65 mm_Su_putSunset mv_Su_putSunset ml_Su_25 (okSu_putSunset o1 s0 h1 C.l C.w) rfl (by decide) rfl (Nat.le_of_ble_eq_true rfl) dSu_pass_9 (fun s16 => ?_)
      exact gf_sub (hj12 s16) (by simp [lsub])
    · exact gf_sub (hj12 s0) (by simp [lsub])
def yTo_keywordKind : MethodName := ⟨"LastWordHill$Tokens", "keywordKind", "(Ljava/lang/String;II)I"⟩
abbrev cTo_keywordKind : ByteArray := prog_11_method_10_code
theorem dTo_keywordKind_0 : decode cTo_keywordKind 0 = .ok (.iconst 0, 1) := by decide +kernel
theorem dTo_keywordKind_1 : decode cTo_keywordKind 1 = .ok (.istore 4, 2) := by decide +kernel
theorem dTo_keywordKind_3 : decode cTo_keywordKind 3 = .ok (.iconst 0, 1) := by decide +kernel
theorem dTo_keywordKind_4 : decode cTo_keywordKind 4 = .ok (.istore 5, 2) := by decide +kernel
theorem dTo_keywordKind_6 : decode cTo_keywordKind 6 = .ok (.iconst 0, 1) := by decide +kernel
theorem dTo_keywordKind_7 : decode cTo_keywordKind 7 = .ok (.istore 6, 2) := by decide +kernel
theorem dTo_keywordKind_9 : decode cTo_keywordKind 9 = .ok (.iload 6, 2) := by decide +kernel
theorem dTo_keywordKind_11 : decode cTo_keywordKind 11 = .ok (.aload_n 1, 1) := by decide +kernel
theorem dTo_keywordKind_12 : decode cTo_keywordKind 12 = .ok (.invokevirtual 89, 3) := by decide +kernel
theorem dTo_keywordKind_15 : decode cTo_keywordKind 15 = .ok (.if_icmp .gt 68, 3) := by decide +kernel
theorem dTo_keywordKind_83 : decode cTo_keywordKind 83 = .ok (.iconst 2, 1) := by decide +kernel
theorem dTo_keywordKind_84 : decode cTo_keywordKind 84 = .ok (.ireturn, 1) := by decide +kernel
theorem dTo_keywordKind_18 : decode cTo_keywordKind 18 = .ok (.iload 6, 2) := by decide +kernel
theorem dTo_keywordKind_20 : decode cTo_keywordKind 20 = .ok (.aload_n 1, 1) := by decide +kernel
theorem dTo_keywordKind_21 : decode cTo_keywordKind 21 = .ok (.invokevirtual 89, 3) := by decide +kernel
theorem dTo_keywordKind_24 : decode cTo_keywordKind 24 = .ok (.if_icmp .eq 14, 3) := by decide +kernel
theorem dTo_keywordKind_77 : decode cTo_keywordKind 77 = .ok (.iinc 6 1, 3) := by decide +kernel
theorem dTo_keywordKind_80 : decode cTo_keywordKind 80 = .ok (.goto (-71), 3) := by decide +kernel
theorem dTo_keywordKind_38 : decode cTo_keywordKind 38 = .ok (.iload 6, 2) := by decide +kernel
theorem dTo_keywordKind_40 : decode cTo_keywordKind 40 = .ok (.iload 5, 2) := by decide +kernel
theorem dTo_keywordKind_42 : decode cTo_keywordKind 42 = .ok (.isub, 1) := by decide +kernel
theorem dTo_keywordKind_43 : decode cTo_keywordKind 43 = .ok (.iload_n 3, 1) := by decide +kernel
theorem dTo_keywordKind_44 : decode cTo_keywordKind 44 = .ok (.iload_n 2, 1) := by decide +kernel
theorem dTo_keywordKind_45 : decode cTo_keywordKind 45 = .ok (.isub, 1) := by decide +kernel
theorem dTo_keywordKind_46 : decode cTo_keywordKind 46 = .ok (.if_icmp .ne 22, 3) := by decide +kernel
theorem dTo_keywordKind_68 : decode cTo_keywordKind 68 = .ok (.iinc 4 1, 3) := by decide +kernel
theorem dTo_keywordKind_71 : decode cTo_keywordKind 71 = .ok (.iload 6, 2) := by decide +kernel
theorem dTo_keywordKind_73 : decode cTo_keywordKind 73 = .ok (.iconst 1, 1) := by decide +kernel
theorem dTo_keywordKind_74 : decode cTo_keywordKind 74 = .ok (.iadd, 1) := by decide +kernel
theorem dTo_keywordKind_75 : decode cTo_keywordKind 75 = .ok (.istore 5, 2) := by decide +kernel
theorem dTo_keywordKind_49 : decode cTo_keywordKind 49 = .ok (.aload_n 0, 1) := by decide +kernel
theorem dTo_keywordKind_50 : decode cTo_keywordKind 50 = .ok (.aload_n 1, 1) := by decide +kernel
theorem dTo_keywordKind_51 : decode cTo_keywordKind 51 = .ok (.iload 5, 2) := by decide +kernel
theorem dTo_keywordKind_53 : decode cTo_keywordKind 53 = .ok (.iload_n 2, 1) := by decide +kernel
theorem dTo_keywordKind_54 : decode cTo_keywordKind 54 = .ok (.iload_n 3, 1) := by decide +kernel
theorem dTo_keywordKind_55 : decode cTo_keywordKind 55 = .ok (.invokevirtual 96, 3) := by decide +kernel
theorem mm_To_stands : MMc yTo_stands cTo_stands 7 (some .boolean) 4 := ⟨hz_in 900 (by decide +kernel) (by decide +kernel), hz_in 142 (by decide +kernel) (by decide +kernel), by decide +kernel, by decide⟩
theorem mv_To_stands : MMv yTo_stands 9 := ⟨hz_in 899 (by decide +kernel) (by decide +kernel), hz_in 9 (by decide +kernel) (by decide +kernel), _, _, rfl, by decide⟩
theorem ml_To_96 : Cond.methodLink "LastWordHill$Tokens" 96 yTo_stands ∈ hz_wt := hz_in 897 (by decide +kernel) (by decide +kernel)
theorem dTo_keywordKind_58 : decode cTo_keywordKind 58 = .ok (.ifCond .eq 10, 3) := by decide +kernel
theorem dTo_keywordKind_61 : decode cTo_keywordKind 61 = .ok (.sipush 256, 3) := by decide +kernel
theorem dTo_keywordKind_64 : decode cTo_keywordKind 64 = .ok (.iload 4, 2) := by decide +kernel
theorem dTo_keywordKind_66 : decode cTo_keywordKind 66 = .ok (.iadd, 1) := by decide +kernel
theorem dTo_keywordKind_67 : decode cTo_keywordKind 67 = .ok (.ireturn, 1) := by decide +kernel
theorem dTo_keywordKind_27 : decode cTo_keywordKind 27 = .ok (.aload_n 1, 1) := by decide +kernel
theorem dTo_keywordKind_28 : decode cTo_keywordKind 28 = .ok (.iload 6, 2) := by decide +kernel
theorem dTo_keywordKind_30 : decode cTo_keywordKind 30 = .ok (.invokevirtual 92, 3) := by decide +kernel
theorem dTo_keywordKind_33 : decode cTo_keywordKind 33 = .ok (.bipush 32, 2) := by decide +kernel
theorem dTo_keywordKind_35 : decode cTo_keywordKind 35 = .ok (.if_icmp .ne 42, 3) := by decide +kernel
def fTo_keywordKind (o1 : Nat) (v2 : Int32) (v3 : Int32) (s0 : Sg) : Option (Int32 × Sg) := lp FU (fun q9 (u9 : Int32 × Int32 × Int32) (s1 : Sg) => bi (fJ0_length_8abf5 o1 s1) fun r3 s2 => if r3 < u9.2.2 then (some (2, s2)) else (bi (fJ0_length_8abf5 o1 s2) fun r5 s4 => bnd (fun (a77_4 : Int32) (a77_5 : Int32) (s6 : Sg) => q9 (a77_4, a77_5, (u9.2.2 + 1)) s6) fun j77 => bnd (fun (s7 : Sg) => bnd (fun (s8 : Sg) => j77 (u9.1 + 1) (u9.2.2 + 1) s8) fun j68 => if (u9.2.2 - u9.2.1) = (v3 - v2) then (bi (fTo_stands o1 u9.2.1 v2 v3 s7) fun r10 s9 => if r10 = 0 then (j68 s9) else (some ((256 + u9.1), s9))) else (j68 s7)) fun j38 => if u9.2.2 = r5 then (j38 s4) else (bi (fJ0_charAt_5068e o1 u9.2.2 s4) fun r12 s11 => if r12 = 32 then (j38 s11) else (j77 u9.1 u9.2.1 s11)))) (0, 0, 0) s0
set_option maxHeartbeats 4000000 in
set_option maxRecDepth 100000 in
theorem okTo_keywordKind (o1 : Nat) (v2 : Int32) (v3 : Int32) (s0 : Sg) (h1 : o1 < nJS) : ∀ (l : Launch) (w : WC), Ok l w yTo_keywordKind cTo_keywordKind 7 (some .int) 6 evI [.ref (w.ad 31), .ref (w.aK o1), .int v2, .int v3] s0 (fTo_keywordKind o1 v2 v3 s0) := by
  refine ok_in (ev := fun _ => evI) (av := fun w => [.ref (w.ad 31), .ref (w.aK o1), .int v2, .int v3]) "LastWordHill$Tokens" rfl (by decide +kernel) (fun _ => rfl) (fun _ => Nat.le_of_ble_eq_true rfl) ?_
  intro C X E
  show GF C evI 0 [some (.ref (C.w.ad 31)), some (.ref (C.w.aK o1)), some (.int v2), some (.int v3), none, none, none] [] s0 (fTo_keywordKind o1 v2 v3 s0)
  unfold fTo_keywordKind
  refine g_iconst X 0 dTo_keywordKind_0 (by decide) ?_
  refine g_istore X [some (.ref (C.w.ad 31)), some (.ref (C.w.aK o1)), some (.int v2), some (.int v3), some (.int 0), none, none] dTo_keywordKind_1 (by decide) (Nat.le_of_ble_eq_true rfl) rfl ?_
  refine g_iconst X 0 dTo_keywordKind_3 (by decide) ?_
  refine g_istore X [some (.ref (C.w.ad 31)), some (.ref (C.w.aK o1)), some (.int v2), some (.int v3), some (.int 0), some (.int 0), none] dTo_keywordKind_4 (by decide) (Nat.le_of_ble_eq_true rfl) rfl ?_
  refine g_iconst X 0 dTo_keywordKind_6 (by decide) ?_
  refine g_istore X [some (.ref (C.w.ad 31)), some (.ref (C.w.aK o1)), some (.int v2), some (.int v3), some (.int 0), some (.int 0), some (.int 0)] dTo_keywordKind_7 (by decide) (Nat.le_of_ble_eq_true rfl) rfl ?_
  refine gf_sub (L' := [some (.ref (C.w.ad 31)), some (.ref (C.w.aK o1)), some (.int v2), some (.int v3), some (.int 0), some (.int 0), some (.int 0)]) ?_ (by simp [lsub])
  refine gf_lp (Lf := fun (u9 : Int32 × Int32 × Int32) => [some (.ref (C.w.ad 31)), some (.ref (C.w.aK o1)), some (.int v2), some (.int v3), some (.int u9.1), some (.int u9.2.1), some (.int u9.2.2)]) (fun q9 hq9 u9 s1 => ?_) FU (0, 0, 0) s0
  refine g_iload X dTo_keywordKind_9 rfl ?_
  refine g_aload_n X dTo_keywordKind_11 rfl ?_
  refine g_vstrI X [] [.int u9.2.2] h1 mm_J0_length_8abf5 mv_J0_length_8abf5 ml_To_89 (okJ0_length_8abf5 o1 s1 h1 C.l C.w) rfl (by decide) rfl (Nat.le_of_ble_eq_true rfl) dTo_keywordKind_12 (fun r3 s2 => ?_)
  refine g_cgt X (tgt := 83) dTo_keywordKind_15 (by decide) ?_ ?_
  · refine g_iconst X 2 dTo_keywordKind_83 (by decide) ?_
    exact g_iret X E dTo_keywordKind_84
  · refine g_iload X dTo_keywordKind_18 rfl ?_
    refine g_aload_n X dTo_keywordKind_20 rfl ?_
    refine g_vstrI X [] [.int u9.2.2] h1 mm_J0_length_8abf5 mv_J0_length_8abf5 ml_To_89 (okJ0_length_8abf5 o1 s2 h1 C.l C.w) rfl (by decide) rfl (Nat.le_of_ble_eq_true rfl) dTo_keywordKind_21 (fun r5 s4 => ?_)
    refine gf_jn (fun j77 => ∀ (a77_4 : Int32) (a77_5 : Int32) (s6 : Sg), GF C evI 77 [some (.ref (C.w.ad 31)), some (.ref (C.w.aK o1)), some (.int v2), some (.int v3), some (.int a77_4), some (.int a77_5), some (.int u9.2.2)] [] s6 (j77 a77_4 a77_5 s6)) ?_ ?_
    · intro a77_4 a77_5 s6
      refine g_iinc X (u9.2.2 + 1) [some (.ref (C.w.ad 31)), some (.ref (C.w.aK o1)), some (.int v2), some (.int v3), some (.int a77_4), some (.int a77_5), some (.int (u9.2.2 + 1))] dTo_keywordKind_77 rfl rfl (by decide) rfl ?_
      refine g_goto X 9 dTo_keywordKind_80 (by decide) ?_
      exact gf_sub (hq9 (a77_4, a77_5, (u9.2.2 + 1)) s6) (by simp [lsub])
    · intro j77 hj77
      refine gf_jn (fun j38 => ∀ (s7 : Sg), GF C evI 38 [some (.ref (C.w.ad 31)), some (.ref (C.w.aK o1)), some (.int v2), some (.int v3), some (.int u9.1), some (.int u9.2.1), some (.int u9.2.2)] [] s7 (j38 s7)) ?_ ?_
      · intro s7
        refine g_iload X dTo_keywordKind_38 rfl ?_
        refine g_iload X dTo_keywordKind_40 rfl ?_
        refine g_isub X dTo_keywordKind_42 ?_
        refine g_iload_n X dTo_keywordKind_43 rfl ?_
        refine g_iload_n X dTo_keywordKind_44 rfl ?_
        refine g_isub X dTo_keywordKind_45 ?_
        refine gf_jn (fun j68 => ∀ (s8 : Sg), GF C evI 68 [some (.ref (C.w.ad 31)), some (.ref (C.w.aK o1)), some (.int v2), some (.int v3), some (.int u9.1), none, some (.int u9.2.2)] [] s8 (j68 s8)) ?_ ?_
        · intro s8
          refine g_iinc X (u9.1 + 1) [some (.ref (C.w.ad 31)), some (.ref (C.w.aK o1)), some (.int v2), some (.int v3), some (.int (u9.1 + 1)), none, some (.int u9.2.2)] dTo_keywordKind_68 rfl rfl (by decide) rfl ?_
          refine g_iload X dTo_keywordKind_71 rfl ?_
          refine g_iconst X 1 dTo_keywordKind_73 (by decide) ?_
          refine g_iadd X dTo_keywordKind_74 ?_
          refine g_istore X [some (.ref (C.w.ad 31)), some (.ref (C.w.aK o1)), some (.int v2), some (.int v3), some (.int (u9.1 + 1)), some (.int (u9.2.2 + 1)), some (.int u9.2.2)] dTo_keywordKind_75 (by decide) (Nat.le_of_ble_eq_true rfl) rfl ?_
          exact gf_sub (hj77 (u9.1 + 1) (u9.2.2 + 1) s8) (by simp [lsub])
        · intro j68 hj68
          refine g_cne X (tgt := 68) dTo_keywordKind_46 (by decide) ?_ ?_
          · refine g_aload_n X dTo_keywordKind_49 rfl ?_
            refine g_aload_n X dTo_keywordKind_50 rfl ?_
            refine g_iload X dTo_keywordKind_51 rfl ?_
            refine g_iload_n X dTo_keywordKind_53 rfl ?_
            refine g_iload_n X dTo_keywordKind_54 rfl ?_
            refine g_virtI X [.ref (C.w.aK o1), .int u9.2.1, .int v2, .int v3] [] k_31 mm_To_stands mv_To_stands ml_To_96 (okTo_stands o1 u9.2.1 v2 v3 s7 h1 C.l C.w) rfl (by decide) rfl (Nat.le_of_ble_eq_true rfl) dTo_keywordKind_55 (fun r10 s9 => ?_)
            refine g_zeq X (tgt := 68) dTo_keywordKind_58 (by decide) ?_ ?_
            · exact gf_sub (hj68 s9) (by simp [lsub])
            · refine g_sipush X 256 dTo_keywordKind_61 (by decide) ?_
              refine g_iload X dTo_keywordKind_64 rfl ?_
              refine g_iadd X dTo_keywordKind_66 ?_
              exact g_iret X E dTo_keywordKind_67
          · exact gf_sub (hj68 s7) (by simp [lsub])
      · intro j38 hj38
        refine g_ceq X (tgt := 38) dTo_keywordKind_24 (by decide) ?_ ?_
        · exact gf_sub (hj38 s4) (by simp [lsub])
        · refine g_aload_n X dTo_keywordKind_27 rfl ?_
          refine g_iload X dTo_keywordKind_28 rfl ?_
          refine g_vstrI X [.int u9.2.2] [] h1 mm_J0_charAt_5068e mv_J0_charAt_5068e ml_To_92 (okJ0_charAt_5068e o1 u9.2.2 s4 h1 C.l C.w) rfl (by decide) rfl (Nat.le_of_ble_eq_true rfl) dTo_keywordKind_30 (fun r12 s11 => ?_)
          refine g_bipush X 32 dTo_keywordKind_33 (by decide) ?_
          refine g_cne X (tgt := 77) dTo_keywordKind_35 (by decide) ?_ ?_
          · exact gf_sub (hj38 s11) (by simp [lsub])
          · exact gf_sub (hj77 u9.1 u9.2.1 s11) (by simp [lsub])
def yH_minutes : MethodName := ⟨"LastWordHill", "minutes", "(I)I"⟩
abbrev cH_minutes : ByteArray := prog_1_method_11_code
theorem dH_minutes_0 : decode cH_minutes 0 = .ok (.iload_n 1, 1) := by decide +kernel
theorem dH_minutes_1 : decode cH_minutes 1 = .ok (.iconst 1, 1) := by decide +kernel
theorem dH_minutes_2 : decode cH_minutes 2 = .ok (.bipush 60, 2) := by decide +kernel
theorem dH_minutes_4 : decode cH_minutes 4 = .ok (.invokestatic 81, 3) := by decide +kernel
theorem dH_minutes_7 : decode cH_minutes 7 = .ok (.ifCond .eq 18, 3) := by decide +kernel
theorem dH_minutes_25 : decode cH_minutes 25 = .ok (.iconst (-1), 1) := by decide +kernel
theorem dH_minutes_26 : decode cH_minutes 26 = .ok (.ireturn, 1) := by decide +kernel
theorem dH_minutes_10 : decode cH_minutes 10 = .ok (.aload_n 0, 1) := by decide +kernel
theorem dH_minutes_11 : decode cH_minutes 11 = .ok (.getfield 12, 3) := by decide +kernel
theorem dH_minutes_14 : decode cH_minutes 14 = .ok (.getfield 163, 3) := by decide +kernel
theorem dH_minutes_17 : decode cH_minutes 17 = .ok (.iconst 1, 1) := by decide +kernel
theorem dH_minutes_18 : decode cH_minutes 18 = .ok (.iadd, 1) := by decide +kernel
theorem dH_minutes_19 : decode cH_minutes 19 = .ok (.sipush 9998, 3) := by decide +kernel
theorem dH_minutes_22 : decode cH_minutes 22 = .ok (.if_icmp .le 5, 3) := by decide +kernel
theorem dH_minutes_27 : decode cH_minutes 27 = .ok (.iconst 0, 1) := by decide +kernel
theorem dH_minutes_28 : decode cH_minutes 28 = .ok (.istore_n 2, 1) := by decide +kernel
theorem dH_minutes_29 : decode cH_minutes 29 = .ok (.iconst 0, 1) := by decide +kernel
theorem dH_minutes_30 : decode cH_minutes 30 = .ok (.istore_n 3, 1) := by decide +kernel
theorem dH_minutes_31 : decode cH_minutes 31 = .ok (.iload_n 3, 1) := by decide +kernel
theorem dH_minutes_32 : decode cH_minutes 32 = .ok (.iload_n 1, 1) := by decide +kernel
theorem dH_minutes_33 : decode cH_minutes 33 = .ok (.if_icmp .ge 35, 3) := by decide +kernel
theorem dH_minutes_68 : decode cH_minutes 68 = .ok (.iload_n 2, 1) := by decide +kernel
theorem dH_minutes_69 : decode cH_minutes 69 = .ok (.ireturn, 1) := by decide +kernel
theorem dH_minutes_36 : decode cH_minutes 36 = .ok (.aload_n 0, 1) := by decide +kernel
theorem dH_minutes_37 : decode cH_minutes 37 = .ok (.getfield 22, 3) := by decide +kernel
theorem dH_minutes_40 : decode cH_minutes 40 = .ok (.aload_n 0, 1) := by decide +kernel
theorem dH_minutes_41 : decode cH_minutes 41 = .ok (.getfield 12, 3) := by decide +kernel
theorem dH_minutes_44 : decode cH_minutes 44 = .ok (.invokevirtual 137, 3) := by decide +kernel
theorem dH_minutes_47 : decode cH_minutes 47 = .ok (.iload_n 2, 1) := by decide +kernel
theorem dH_minutes_48 : decode cH_minutes 48 = .ok (.aload_n 0, 1) := by decide +kernel
theorem dH_minutes_49 : decode cH_minutes 49 = .ok (.getfield 61, 3) := by decide +kernel
theorem dH_minutes_52 : decode cH_minutes 52 = .ok (.aload_n 0, 1) := by decide +kernel
theorem dH_minutes_53 : decode cH_minutes 53 = .ok (.getfield 12, 3) := by decide +kernel
theorem dH_minutes_56 : decode cH_minutes 56 = .ok (.iconst 1, 1) := by decide +kernel
theorem dH_minutes_57 : decode cH_minutes 57 = .ok (.invokevirtual 166, 3) := by decide +kernel
theorem mm_Su_pass : MMc ySu_pass cSu_pass 5 (some .int) 2 := ⟨hz_in 704 (by decide +kernel) (by decide +kernel), hz_in 144 (by decide +kernel) (by decide +kernel), by decide +kernel, by decide⟩
theorem mv_Su_pass : MMv ySu_pass 6 := ⟨hz_in 702 (by decide +kernel) (by decide +kernel), hz_in 703 (by decide +kernel) (by decide +kernel), _, _, rfl, by decide⟩
theorem ml_H_166 : Cond.methodLink "LastWordHill" 166 ySu_pass ∈ hz_wt := hz_in 701 (by decide +kernel) (by decide +kernel)
theorem dH_minutes_60 : decode cH_minutes 60 = .ok (.iadd, 1) := by decide +kernel
theorem dH_minutes_61 : decode cH_minutes 61 = .ok (.istore_n 2, 1) := by decide +kernel
theorem dH_minutes_62 : decode cH_minutes 62 = .ok (.iinc 3 1, 3) := by decide +kernel
theorem dH_minutes_65 : decode cH_minutes 65 = .ok (.goto (-34), 3) := by decide +kernel
def fH_minutes (v1 : Int32) (s0 : Sg) : Option (Int32 × Sg) := bi (fH_within v1 1 60 s0) fun r2 s1 => if r2 = 0 then (some ((-1), s1)) else (if ((s1 1 10) + 1) ≤ 9998 then (lp FU (fun q31 (u31 : Int32 × Int32) (s3 : Sg) => if v1 ≤ u31.2 then (some (u31.1, s3)) else (bv (fPa_keep 1 s3) fun s4 => bi (fSu_pass 1 1 s4) fun r6 s5 => q31 ((u31.1 + r6), (u31.2 + 1)) s5)) (0, 0) s1) else (some ((-1), s1)))
set_option maxHeartbeats 4000000 in
set_option maxRecDepth 100000 in
theorem okH_minutes (v1 : Int32) (s0 : Sg) : ∀ (l : Launch) (w : WC), Ok l w yH_minutes cH_minutes 4 (some .int) 7 evI [.ref (w.ad 0), .int v1] s0 (fH_minutes v1 s0) := by
  refine ok_in (ev := fun _ => evI) (av := fun w => [.ref (w.ad 0), .int v1]) "LastWordHill" rfl (by decide +kernel) (fun _ => rfl) (fun _ => Nat.le_of_ble_eq_true rfl) ?_
  intro C X E
  show GF C evI 0 [some (.ref (C.w.ad 0)), some (.int v1), none, none] [] s0 (fH_minutes v1 s0)
  unfold fH_minutes
  refine g_iload_n X dH_minutes_0 rfl ?_
  refine g_iconst X 1 dH_minutes_1 (by decide) ?_
  refine g_bipush X 60 dH_minutes_2 (by decide) ?_
  refine g_statI X [.int v1, .int 1, .int 60] [] mm_H_within ms_H_within ml_H_81 (okH_within v1 1 60 s0 C.l C.w) rfl (by decide) rfl (Nat.le_of_ble_eq_true rfl) dH_minutes_4 (fun r2 s1 => ?_)
  refine g_zeq X (tgt := 25) dH_minutes_7 (by decide) ?_ ?_
  · refine g_iconst X (-1) dH_minutes_25 (by decide) ?_
    exact g_iret X E dH_minutes_26
  · refine g_aload_n X dH_minutes_10 rfl ?_
    refine g_getN X fl_H_12 fb_11_0 k_0 r_0_0 dH_minutes_11 ?_
    refine g_getI X fl_H_163 fb_5_10 k_1 dH_minutes_14 ?_
    refine g_iconst X 1 dH_minutes_17 (by decide) ?_
    refine g_iadd X dH_minutes_18 ?_
    refine g_sipush X 9998 dH_minutes_19 (by decide) ?_
    refine g_cle X (tgt := 27) dH_minutes_22 (by decide) ?_ ?_
    · refine g_iconst X 0 dH_minutes_27 (by decide) ?_
      refine g_istore_n X [some (.ref (C.w.ad 0)), some (.int v1), some (.int 0), none] dH_minutes_28 (by decide) (Nat.le_of_ble_eq_true rfl) rfl ?_
      refine g_iconst X 0 dH_minutes_29 (by decide) ?_
      refine g_istore_n X [some (.ref (C.w.ad 0)), some (.int v1), some (.int 0), some (.int 0)] dH_minutes_30 (by decide) (Nat.le_of_ble_eq_true rfl) rfl ?_
      refine gf_sub (L' := [some (.ref (C.w.ad 0)), some (.int v1), some (.int 0), some (.int 0)]) ?_ (by simp [lsub])
      refine gf_lp (Lf := fun (u31 : Int32 × Int32) => [some (.ref (C.w.ad 0)), some (.int v1), some (.int u31.1), some (.int u31.2)]) (fun q31 hq31 u31 s3 => ?_) FU (0, 0) s1
      refine g_iload_n X dH_minutes_31 rfl ?_
      refine g_iload_n X dH_minutes_32 rfl ?_
      refine g_cge X (tgt := 68) dH_minutes_33 (by decide) ?_ ?_
      · refine g_iload_n X dH_minutes_68 rfl ?_
        exact g_iret X E dH_minutes_69
      · refine g_aload_n X dH_minutes_36 rfl ?_
        refine g_getN X fl_H_22 fb_11_2 k_0 r_0_2 dH_minutes_37 ?_
        refine g_aload_n X dH_minutes_40 rfl ?_
        refine g_getN X fl_H_12 fb_11_0 k_0 r_0_0 dH_minutes_41 ?_
        refine g_virtV X [.ref (C.w.ad 1)] [] k_5 mm_Pa_keep mv_Pa_keep ml_H_137 (okPa_keep 1 s3 k_1 C.l C.w) rfl (by decide) rfl (Nat.le_of_ble_eq_true rfl) dH_minutes_44 (fun s4 => ?_)
        refine g_iload_n X dH_minutes_47 rfl ?_
        refine g_aload_n X dH_minutes_48 rfl ?_
        refine g_getN X fl_H_61 fb_11_7 k_0 r_0_7 dH_minutes_49 ?_
        refine g_aload_n X dH_minutes_52 rfl ?_
        refine g_getN X fl_H_12 fb_11_0 k_0 r_0_0 dH_minutes_53 ?_
        refine g_iconst X 1 dH_minutes_56 (by decide) ?_
        refine g_virtI X [.ref (C.w.ad 1), .int 1] [.int u31.1] k_65 mm_Su_pass mv_Su_pass ml_H_166 (okSu_pass 1 1 s4 k_1 C.l C.w) rfl (by decide) rfl (Nat.le_of_ble_eq_true rfl) dH_minutes_57 (fun r6 s5 => ?_)
        refine g_iadd X dH_minutes_60 ?_
        refine g_istore_n X [some (.ref (C.w.ad 0)), some (.int v1), some (.int (u31.1 + r6)), some (.int u31.2)] dH_minutes_61 (by decide) (Nat.le_of_ble_eq_true rfl) rfl ?_
        refine g_iinc X (u31.2 + 1) [some (.ref (C.w.ad 0)), some (.int v1), some (.int (u31.1 + r6)), some (.int (u31.2 + 1))] dH_minutes_62 rfl rfl (by decide) rfl ?_
        refine g_goto X 31 dH_minutes_65 (by decide) ?_
        exact gf_sub (hq31 ((u31.1 + r6), (u31.2 + 1)) s5) (by simp [lsub])
    · refine g_iconst X (-1) dH_minutes_25 (by decide) ?_
      exact g_iret X E dH_minutes_26
def yH_goes : MethodName := ⟨"LastWordHill", "goes", "(II)I"⟩
abbrev cH_goes : ByteArray := prog_1_method_18_code
theorem dH_goes_0 : decode cH_goes 0 = .ok (.iload_n 1, 1) := by decide +kernel
theorem dH_goes_1 : decode cH_goes 1 = .ok (.iconst 1, 1) := by decide +kernel
theorem dH_goes_2 : decode cH_goes 2 = .ok (.bipush 60, 2) := by decide +kernel
theorem dH_goes_4 : decode cH_goes 4 = .ok (.invokestatic 81, 3) := by decide +kernel
theorem dH_goes_7 : decode cH_goes 7 = .ok (.ifCond .eq 12, 3) := by decide +kernel
theorem dH_goes_19 : decode cH_goes 19 = .ok (.bipush (-2), 2) := by decide +kernel
theorem dH_goes_21 : decode cH_goes 21 = .ok (.ireturn, 1) := by decide +kernel
theorem dH_goes_10 : decode cH_goes 10 = .ok (.iload_n 2, 1) := by decide +kernel
theorem dH_goes_11 : decode cH_goes 11 = .ok (.iconst 0, 1) := by decide +kernel
theorem dH_goes_12 : decode cH_goes 12 = .ok (.iconst 3, 1) := by decide +kernel
theorem dH_goes_13 : decode cH_goes 13 = .ok (.invokestatic 81, 3) := by decide +kernel
theorem dH_goes_16 : decode cH_goes 16 = .ok (.ifCond .ne 6, 3) := by decide +kernel
theorem dH_goes_22 : decode cH_goes 22 = .ok (.aload_n 0, 1) := by decide +kernel
theorem dH_goes_23 : decode cH_goes 23 = .ok (.getfield 16, 3) := by decide +kernel
theorem dH_goes_26 : decode cH_goes 26 = .ok (.aload_n 0, 1) := by decide +kernel
theorem dH_goes_27 : decode cH_goes 27 = .ok (.getfield 12, 3) := by decide +kernel
theorem dH_goes_30 : decode cH_goes 30 = .ok (.invokevirtual 212, 3) := by decide +kernel
theorem dH_goes_33 : decode cH_goes 33 = .ok (.iconst 0, 1) := by decide +kernel
theorem dH_goes_34 : decode cH_goes 34 = .ok (.istore_n 3, 1) := by decide +kernel
theorem dH_goes_35 : decode cH_goes 35 = .ok (.iload_n 3, 1) := by decide +kernel
theorem dH_goes_36 : decode cH_goes 36 = .ok (.iload_n 1, 1) := by decide +kernel
theorem dH_goes_37 : decode cH_goes 37 = .ok (.if_icmp .ge 22, 3) := by decide +kernel
theorem dH_goes_59 : decode cH_goes 59 = .ok (.iload_n 2, 1) := by decide +kernel
theorem dH_goes_60 : decode cH_goes 60 = .ok (.tableswitch 52 0 2 #[28, 36, 44], 28) := by decide +kernel
theorem dH_goes_112 : decode cH_goes 112 = .ok (.aload_n 0, 1) := by decide +kernel
theorem dH_goes_113 : decode cH_goes 113 = .ok (.getfield 16, 3) := by decide +kernel
theorem dH_goes_116 : decode cH_goes 116 = .ok (.invokevirtual 222, 3) := by decide +kernel
theorem mm_Sc_allBreath : MMc ySc_allBreath cSc_allBreath 3 (some .int) 0 := ⟨hz_in 1110 (by decide +kernel) (by decide +kernel), hz_in 135 (by decide +kernel) (by decide +kernel), by decide +kernel, by decide⟩
theorem mv_Sc_allBreath : MMv ySc_allBreath 5 := ⟨hz_in 1108 (by decide +kernel) (by decide +kernel), hz_in 1109 (by decide +kernel) (by decide +kernel), _, _, rfl, by decide⟩
theorem ml_H_222 : Cond.methodLink "LastWordHill" 222 ySc_allBreath ∈ hz_wt := hz_in 1107 (by decide +kernel) (by decide +kernel)
theorem dH_goes_119 : decode cH_goes 119 = .ok (.ireturn, 1) := by decide +kernel
theorem dH_goes_104 : decode cH_goes 104 = .ok (.aload_n 0, 1) := by decide +kernel
theorem dH_goes_105 : decode cH_goes 105 = .ok (.getfield 16, 3) := by decide +kernel
theorem dH_goes_108 : decode cH_goes 108 = .ok (.invokevirtual 218, 3) := by decide +kernel
theorem ml_H_218 : Cond.methodLink "LastWordHill" 218 ySc_manyUp ∈ hz_wt := hz_in 1106 (by decide +kernel) (by decide +kernel)
theorem dH_goes_111 : decode cH_goes 111 = .ok (.ireturn, 1) := by decide +kernel
theorem dH_goes_96 : decode cH_goes 96 = .ok (.aload_n 0, 1) := by decide +kernel
theorem dH_goes_97 : decode cH_goes 97 = .ok (.getfield 16, 3) := by decide +kernel
theorem dH_goes_100 : decode cH_goes 100 = .ok (.getfield 215, 3) := by decide +kernel
theorem dH_goes_103 : decode cH_goes 103 = .ok (.ireturn, 1) := by decide +kernel
theorem dH_goes_88 : decode cH_goes 88 = .ok (.aload_n 0, 1) := by decide +kernel
theorem dH_goes_89 : decode cH_goes 89 = .ok (.getfield 16, 3) := by decide +kernel
theorem dH_goes_92 : decode cH_goes 92 = .ok (.getfield 121, 3) := by decide +kernel
theorem dH_goes_95 : decode cH_goes 95 = .ok (.ireturn, 1) := by decide +kernel
theorem dH_goes_40 : decode cH_goes 40 = .ok (.aload_n 0, 1) := by decide +kernel
theorem dH_goes_41 : decode cH_goes 41 = .ok (.getfield 61, 3) := by decide +kernel
theorem dH_goes_44 : decode cH_goes 44 = .ok (.aload_n 0, 1) := by decide +kernel
theorem dH_goes_45 : decode cH_goes 45 = .ok (.getfield 16, 3) := by decide +kernel
theorem dH_goes_48 : decode cH_goes 48 = .ok (.iconst 0, 1) := by decide +kernel
theorem dH_goes_49 : decode cH_goes 49 = .ok (.invokevirtual 166, 3) := by decide +kernel
theorem dH_goes_52 : decode cH_goes 52 = .ok (.pop, 1) := by decide +kernel
theorem dH_goes_53 : decode cH_goes 53 = .ok (.iinc 3 1, 3) := by decide +kernel
theorem dH_goes_56 : decode cH_goes 56 = .ok (.goto (-21), 3) := by decide +kernel
def fH_goes (v1 : Int32) (v2 : Int32) (s0 : Sg) : Option (Int32 × Sg) := bi (fH_within v1 1 60 s0) fun r2 s1 => if r2 = 0 then (some ((-2), s1)) else (bi (fH_within v2 0 3 s1) fun r4 s3 => if r4 = 0 then (some ((-2), s3)) else (bv (fSc_become 3 1 s3) fun s5 => lp FU (fun q35 (u35 : Int32) (s6 : Sg) => if v1 ≤ u35 then (if v2 = 0 then (some ((s6 3 2), s6)) else (if v2 = 1 then (some ((s6 3 4), s6)) else (if v2 = 2 then (bi (fSc_manyUp 3 s6) fun r10 s9 => some (r10, s9)) else (bi (fSc_allBreath 3 s6) fun r8 s7 => some (r8, s7))))) else (bi (fSu_pass 3 0 s6) fun r12 s11 => q35 (u35 + 1) s11)) 0 s5))
set_option maxHeartbeats 4000000 in
set_option maxRecDepth 100000 in
theorem okH_goes (v1 : Int32) (v2 : Int32) (s0 : Sg) : ∀ (l : Launch) (w : WC), Ok l w yH_goes cH_goes 4 (some .int) 7 evI [.ref (w.ad 0), .int v1, .int v2] s0 (fH_goes v1 v2 s0) := by
  refine ok_in (ev := fun _ => evI) (av := fun w => [.ref (w.ad 0), .int v1, .int v2]) "LastWordHill" rfl (by decide +kernel) (fun _ => rfl) (fun _ => Nat.le_of_ble_eq_true rfl) ?_
  intro C X E
  show GF C evI 0 [some (.ref (C.w.ad 0)), some (.int v1), some (.int v2), none] [] s0 (fH_goes v1 v2 s0)
  unfold fH_goes
  refine g_iload_n X dH_goes_0 rfl ?_
  refine g_iconst X 1 dH_goes_1 (by decide) ?_
  refine g_bipush X 60 dH_goes_2 (by decide) ?_
  refine g_statI X [.int v1, .int 1, .int 60] [] mm_H_within ms_H_within ml_H_81 (okH_within v1 1 60 s0 C.l C.w) rfl (by decide) rfl (Nat.le_of_ble_eq_true rfl) dH_goes_4 (fun r2 s1 => ?_)
  refine g_zeq X (tgt := 19) dH_goes_7 (by decide) ?_ ?_
  · refine g_bipush X (-2) dH_goes_19 (by decide) ?_
    exact g_iret X E dH_goes_21
  · refine g_iload_n X dH_goes_10 rfl ?_
    refine g_iconst X 0 dH_goes_11 (by decide) ?_
    refine g_iconst X 3 dH_goes_12 (by decide) ?_
    refine g_statI X [.int v2, .int 0, .int 3] [] mm_H_within ms_H_within ml_H_81 (okH_within v2 0 3 s1 C.l C.w) rfl (by decide) rfl (Nat.le_of_ble_eq_true rfl) dH_goes_13 (fun r4 s3 => ?_)
    refine g_zne X (tgt := 22) dH_goes_16 (by decide) ?_ ?_
    · refine g_bipush X (-2) dH_goes_19 (by decide) ?_
      exact g_iret X E dH_goes_21
    · refine g_aload_n X dH_goes_22 rfl ?_
      refine g_getN X fl_H_16 fb_11_1 k_0 r_0_1 dH_goes_23 ?_
      refine g_aload_n X dH_goes_26 rfl ?_
      refine g_getN X fl_H_12 fb_11_0 k_0 r_0_0 dH_goes_27 ?_
      refine g_virtV X [.ref (C.w.ad 1)] [] k_3 mm_Sc_become mv_Sc_become ml_H_212 (okSc_become 3 1 s3 k_3 k_1 C.l C.w) rfl (by decide) rfl (Nat.le_of_ble_eq_true rfl) dH_goes_30 (fun s5 => ?_)
      refine g_iconst X 0 dH_goes_33 (by decide) ?_
      refine g_istore_n X [some (.ref (C.w.ad 0)), some (.int v1), some (.int v2), some (.int 0)] dH_goes_34 (by decide) (Nat.le_of_ble_eq_true rfl) rfl ?_
      refine gf_sub (L' := [some (.ref (C.w.ad 0)), some (.int v1), some (.int v2), some (.int 0)]) ?_ (by simp [lsub])
      refine gf_lp (Lf := fun (u35 : Int32) => [some (.ref (C.w.ad 0)), some (.int v1), some (.int v2), some (.int u35)]) (fun q35 hq35 u35 s6 => ?_) FU 0 s5
      refine g_iload_n X dH_goes_35 rfl ?_
      refine g_iload_n X dH_goes_36 rfl ?_
      refine g_cge X (tgt := 59) dH_goes_37 (by decide) ?_ ?_
      · refine g_iload_n X dH_goes_59 rfl ?_
        refine gf_ite (fun c60_0 => ?_) (fun c60_0 => ?_)
        · refine g_tabIn X (tgt := 88) (off := 28) 0 c60_0 dH_goes_60 (by decide) (by decide) ?_
          refine g_aload_n X dH_goes_88 rfl ?_
          refine g_getN X fl_H_16 fb_11_1 k_0 r_0_1 dH_goes_89 ?_
          refine g_getI X fl_H_121 fb_5_2 k_3 dH_goes_92 ?_
          exact g_iret X E dH_goes_95
        · refine gf_ite (fun c60_1 => ?_) (fun c60_1 => ?_)
          · refine g_tabIn X (tgt := 96) (off := 36) 1 c60_1 dH_goes_60 (by decide) (by decide) ?_
            refine g_aload_n X dH_goes_96 rfl ?_
            refine g_getN X fl_H_16 fb_11_1 k_0 r_0_1 dH_goes_97 ?_
            refine g_getI X fl_H_215 fb_5_4 k_3 dH_goes_100 ?_
            exact g_iret X E dH_goes_103
          · refine gf_ite (fun c60_2 => ?_) (fun c60_2 => ?_)
            · refine g_tabIn X (tgt := 104) (off := 44) 2 c60_2 dH_goes_60 (by decide) (by decide) ?_
              refine g_aload_n X dH_goes_104 rfl ?_
              refine g_getN X fl_H_16 fb_11_1 k_0 r_0_1 dH_goes_105 ?_
              refine g_virtI X [] [] k_3 mm_Sc_manyUp mv_Sc_manyUp ml_H_218 (okSc_manyUp 3 s6 k_3 C.l C.w) rfl (by decide) rfl (Nat.le_of_ble_eq_true rfl) dH_goes_108 (fun r10 s9 => ?_)
              exact g_iret X E dH_goes_111
            · have z0 := ne_toInt c60_0
              have z1 := ne_toInt c60_1
              have z2 := ne_toInt c60_2
              refine g_tabOut X (tgt := 112) dH_goes_60 (by simp at z0 z1 z2; omega) (by decide) ?_
              refine g_aload_n X dH_goes_112 rfl ?_
              refine g_getN X fl_H_16 fb_11_1 k_0 r_0_1 dH_goes_113 ?_
              refine g_virtI X [] [] k_3 mm_Sc_allBreath mv_Sc_allBreath ml_H_222 (okSc_allBreath 3 s6 k_3 C.l C.w) rfl (by decide) rfl (Nat.le_of_ble_eq_true rfl) dH_goes_116 (fun r8 s7 => ?_)
              exact g_iret X E dH_goes_119
      · refine g_aload_n X dH_goes_40 rfl ?_
        refine g_getN X fl_H_61 fb_11_7 k_0 r_0_7 dH_goes_41 ?_
        refine g_aload_n X dH_goes_44 rfl ?_
        refine g_getN X fl_H_16 fb_11_1 k_0 r_0_1 dH_goes_45 ?_
        refine g_iconst X 0 dH_goes_48 (by decide) ?_
        refine g_virtI X [.ref (C.w.ad 3), .int 0] [] k_65 mm_Su_pass mv_Su_pass ml_H_166 (okSu_pass 3 0 s6 k_3 C.l C.w) rfl (by decide) rfl (Nat.le_of_ble_eq_true rfl) dH_goes_49 (fun r12 s11 => ?_)
        refine g_pop X dH_goes_52 rfl ?_
        refine g_iinc X (u35 + 1) [some (.ref (C.w.ad 0)), some (.int v1), some (.int v2), some (.int (u35 + 1))] dH_goes_53 rfl rfl (by decide) rfl ?_
        refine g_goto X 35 dH_goes_56 (by decide) ?_
        exact gf_sub (hq35 (u35 + 1) s11) (by simp [lsub])
def yH_keeps : MethodName := ⟨"LastWordHill", "keeps", "(I)I"⟩
abbrev cH_keeps : ByteArray := prog_1_method_19_code
theorem dH_keeps_0 : decode cH_keeps 0 = .ok (.iload_n 1, 1) := by decide +kernel
theorem dH_keeps_1 : decode cH_keeps 1 = .ok (.iconst 0, 1) := by decide +kernel
theorem dH_keeps_2 : decode cH_keeps 2 = .ok (.iconst 1, 1) := by decide +kernel
theorem dH_keeps_3 : decode cH_keeps 3 = .ok (.invokestatic 81, 3) := by decide +kernel
theorem dH_keeps_6 : decode cH_keeps 6 = .ok (.ifCond .ne 6, 3) := by decide +kernel
theorem dH_keeps_12 : decode cH_keeps 12 = .ok (.aload_n 0, 1) := by decide +kernel
theorem dH_keeps_13 : decode cH_keeps 13 = .ok (.getfield 16, 3) := by decide +kernel
theorem dH_keeps_16 : decode cH_keeps 16 = .ok (.aload_n 0, 1) := by decide +kernel
theorem dH_keeps_17 : decode cH_keeps 17 = .ok (.getfield 12, 3) := by decide +kernel
theorem dH_keeps_20 : decode cH_keeps 20 = .ok (.invokevirtual 212, 3) := by decide +kernel
theorem dH_keeps_23 : decode cH_keeps 23 = .ok (.iconst 0, 1) := by decide +kernel
theorem dH_keeps_24 : decode cH_keeps 24 = .ok (.istore_n 2, 1) := by decide +kernel
theorem dH_keeps_25 : decode cH_keeps 25 = .ok (.iconst 0, 1) := by decide +kernel
theorem dH_keeps_26 : decode cH_keeps 26 = .ok (.istore_n 3, 1) := by decide +kernel
theorem dH_keeps_27 : decode cH_keeps 27 = .ok (.iload_n 3, 1) := by decide +kernel
theorem dH_keeps_28 : decode cH_keeps 28 = .ok (.bipush 120, 2) := by decide +kernel
theorem dH_keeps_30 : decode cH_keeps 30 = .ok (.if_icmp .ge 53, 3) := by decide +kernel
theorem dH_keeps_83 : decode cH_keeps 83 = .ok (.iload_n 1, 1) := by decide +kernel
theorem dH_keeps_84 : decode cH_keeps 84 = .ok (.ifCond .eq 14, 3) := by decide +kernel
theorem dH_keeps_98 : decode cH_keeps 98 = .ok (.aload_n 0, 1) := by decide +kernel
theorem dH_keeps_99 : decode cH_keeps 99 = .ok (.getfield 16, 3) := by decide +kernel
theorem dH_keeps_102 : decode cH_keeps 102 = .ok (.getfield 121, 3) := by decide +kernel
theorem dH_keeps_105 : decode cH_keeps 105 = .ok (.ireturn, 1) := by decide +kernel
theorem dH_keeps_87 : decode cH_keeps 87 = .ok (.aload_n 0, 1) := by decide +kernel
theorem dH_keeps_88 : decode cH_keeps 88 = .ok (.getfield 16, 3) := by decide +kernel
theorem dH_keeps_91 : decode cH_keeps 91 = .ok (.getfield 121, 3) := by decide +kernel
theorem dH_keeps_94 : decode cH_keeps 94 = .ok (.iconst (-1), 1) := by decide +kernel
theorem dH_keeps_95 : decode cH_keeps 95 = .ok (.if_icmp .ne 11, 3) := by decide +kernel
theorem dH_keeps_106 : decode cH_keeps 106 = .ok (.aload_n 0, 1) := by decide +kernel
theorem dH_keeps_107 : decode cH_keeps 107 = .ok (.getfield 16, 3) := by decide +kernel
theorem dH_keeps_110 : decode cH_keeps 110 = .ok (.aload_n 0, 1) := by decide +kernel
theorem dH_keeps_111 : decode cH_keeps 111 = .ok (.getfield 16, 3) := by decide +kernel
theorem dH_keeps_114 : decode cH_keeps 114 = .ok (.getfield 225, 3) := by decide +kernel
theorem fl_H_225 : FLk "LastWordHill" 225 5 3 := ⟨_, _, _, rfl, by decide, hz_in 180 (by decide +kernel) (by decide +kernel), nL5, by decide, by decide⟩
theorem dH_keeps_117 : decode cH_keeps 117 = .ok (.iconst 2, 1) := by decide +kernel
theorem dH_keeps_118 : decode cH_keeps 118 = .ok (.invokevirtual 127, 3) := by decide +kernel
theorem dH_keeps_121 : decode cH_keeps 121 = .ok (.ireturn, 1) := by decide +kernel
theorem dH_keeps_33 : decode cH_keeps 33 = .ok (.iload_n 2, 1) := by decide +kernel
theorem dH_keeps_34 : decode cH_keeps 34 = .ok (.ifCond .ne 49, 3) := by decide +kernel
theorem dH_keeps_37 : decode cH_keeps 37 = .ok (.aload_n 0, 1) := by decide +kernel
theorem dH_keeps_38 : decode cH_keeps 38 = .ok (.getfield 16, 3) := by decide +kernel
theorem dH_keeps_41 : decode cH_keeps 41 = .ok (.getfield 134, 3) := by decide +kernel
theorem dH_keeps_44 : decode cH_keeps 44 = .ok (.istore 4, 2) := by decide +kernel
theorem dH_keeps_46 : decode cH_keeps 46 = .ok (.aload_n 0, 1) := by decide +kernel
theorem dH_keeps_47 : decode cH_keeps 47 = .ok (.getfield 61, 3) := by decide +kernel
theorem dH_keeps_50 : decode cH_keeps 50 = .ok (.aload_n 0, 1) := by decide +kernel
theorem dH_keeps_51 : decode cH_keeps 51 = .ok (.getfield 16, 3) := by decide +kernel
theorem dH_keeps_54 : decode cH_keeps 54 = .ok (.iconst 0, 1) := by decide +kernel
theorem dH_keeps_55 : decode cH_keeps 55 = .ok (.invokevirtual 166, 3) := by decide +kernel
theorem dH_keeps_58 : decode cH_keeps 58 = .ok (.pop, 1) := by decide +kernel
theorem dH_keeps_59 : decode cH_keeps 59 = .ok (.iload 4, 2) := by decide +kernel
theorem dH_keeps_61 : decode cH_keeps 61 = .ok (.aload_n 0, 1) := by decide +kernel
theorem dH_keeps_62 : decode cH_keeps 62 = .ok (.getfield 16, 3) := by decide +kernel
theorem dH_keeps_65 : decode cH_keeps 65 = .ok (.getfield 114, 3) := by decide +kernel
theorem dH_keeps_68 : decode cH_keeps 68 = .ok (.if_icmp .ne 7, 3) := by decide +kernel
theorem dH_keeps_76 : decode cH_keeps 76 = .ok (.istore_n 2, 1) := by decide +kernel
theorem dH_keeps_77 : decode cH_keeps 77 = .ok (.iinc 3 1, 3) := by decide +kernel
theorem dH_keeps_80 : decode cH_keeps 80 = .ok (.goto (-53), 3) := by decide +kernel
theorem dH_keeps_75 : decode cH_keeps 75 = .ok (.iconst 0, 1) := by decide +kernel
theorem dH_keeps_71 : decode cH_keeps 71 = .ok (.iconst 1, 1) := by decide +kernel
theorem dH_keeps_72 : decode cH_keeps 72 = .ok (.goto 4, 3) := by decide +kernel
theorem dH_keeps_9 : decode cH_keeps 9 = .ok (.bipush (-2), 2) := by decide +kernel
theorem dH_keeps_11 : decode cH_keeps 11 = .ok (.ireturn, 1) := by decide +kernel
def fH_keeps (v1 : Int32) (s0 : Sg) : Option (Int32 × Sg) := bi (fH_within v1 0 1 s0) fun r2 s1 => if r2 = 0 then (some ((-2), s1)) else (bv (fSc_become 3 1 s1) fun s3 => lp FU (fun q27 (u27 : Int32 × Int32) (s4 : Sg) => bnd (fun (s5 : Sg) => if v1 = 0 then (some ((s5 3 2), s5)) else (if (s5 3 2) = (-1) then (some ((s5 3 2), s5)) else (bi (fSc_tell 3 (s5 3 3) 2 s5) fun r7 s6 => some (r7, s6)))) fun j83 => if 120 ≤ u27.2 then (j83 s4) else (if u27.1 = 0 then (bi (fSu_pass 3 0 s4) fun r9 s8 => bnd (fun (b76_0 : Int32) (s10 : Sg) => q27 (b76_0, (u27.2 + 1)) s10) fun j76 => if (s4 3 9) = (s8 3 8) then (j76 1 s8) else (j76 0 s8)) else (j83 s4))) (0, 0) s3)
set_option maxHeartbeats 4000000 in
set_option maxRecDepth 100000 in
theorem okH_keeps (v1 : Int32) (s0 : Sg) : ∀ (l : Launch) (w : WC), Ok l w yH_keeps cH_keeps 5 (some .int) 7 evI [.ref (w.ad 0), .int v1] s0 (fH_keeps v1 s0) := by
  refine ok_in (ev := fun _ => evI) (av := fun w => [.ref (w.ad 0), .int v1]) "LastWordHill" rfl (by decide +kernel) (fun _ => rfl) (fun _ => Nat.le_of_ble_eq_true rfl) ?_
  intro C X E
  show GF C evI 0 [some (.ref (C.w.ad 0)), some (.int v1), none, none, none] [] s0 (fH_keeps v1 s0)
  unfold fH_keeps
  refine g_iload_n X dH_keeps_0 rfl ?_
  refine g_iconst X 0 dH_keeps_1 (by decide) ?_
  refine g_iconst X 1 dH_keeps_2 (by decide) ?_
  refine g_statI X [.int v1, .int 0, .int 1] [] mm_H_within ms_H_within ml_H_81 (okH_within v1 0 1 s0 C.l C.w) rfl (by decide) rfl (Nat.le_of_ble_eq_true rfl) dH_keeps_3 (fun r2 s1 => ?_)
  refine g_zne X (tgt := 12) dH_keeps_6 (by decide) ?_ ?_
  · refine g_bipush X (-2) dH_keeps_9 (by decide) ?_
    exact g_iret X E dH_keeps_11
  · refine g_aload_n X dH_keeps_12 rfl ?_
    refine g_getN X fl_H_16 fb_11_1 k_0 r_0_1 dH_keeps_13 ?_
    refine g_aload_n X dH_keeps_16 rfl ?_
    refine g_getN X fl_H_12 fb_11_0 k_0 r_0_0 dH_keeps_17 ?_
    refine g_virtV X [.ref (C.w.ad 1)] [] k_3 mm_Sc_become mv_Sc_become ml_H_212 (okSc_become 3 1 s1 k_3 k_1 C.l C.w) rfl (by decide) rfl (Nat.le_of_ble_eq_true rfl) dH_keeps_20 (fun s3 => ?_)
    refine g_iconst X 0 dH_keeps_23 (by decide) ?_
    refine g_istore_n X [some (.ref (C.w.ad 0)), some (.int v1), some (.int 0), none, none] dH_keeps_24 (by decide) (Nat.le_of_ble_eq_true rfl) rfl ?_
    refine g_iconst X 0 dH_keeps_25 (by decide) ?_
    refine g_istore_n X [some (.ref (C.w.ad 0)), some (.int v1), some (.int 0), some (.int 0), none] dH_keeps_26 (by decide) (Nat.le_of_ble_eq_true rfl) rfl ?_
    refine gf_sub (L' := [some (.ref (C.w.ad 0)), some (.int v1), some (.int 0), some (.int 0), none]) ?_ (by simp [lsub])
    refine gf_lp (Lf := fun (u27 : Int32 × Int32) => [some (.ref (C.w.ad 0)), some (.int v1), some (.int u27.1), some (.int u27.2), none]) (fun q27 hq27 u27 s4 => ?_) FU (0, 0) s3
    refine g_iload_n X dH_keeps_27 rfl ?_
    refine g_bipush X 120 dH_keeps_28 (by decide) ?_
    refine gf_jn (fun j83 => ∀ (s5 : Sg), GF C evI 83 [some (.ref (C.w.ad 0)), some (.int v1), none, none, none] [] s5 (j83 s5)) ?_ ?_
    · intro s5
      refine g_iload_n X dH_keeps_83 rfl ?_
      refine g_zeq X (tgt := 98) dH_keeps_84 (by decide) ?_ ?_
      · refine g_aload_n X dH_keeps_98 rfl ?_
        refine g_getN X fl_H_16 fb_11_1 k_0 r_0_1 dH_keeps_99 ?_
        refine g_getI X fl_H_121 fb_5_2 k_3 dH_keeps_102 ?_
        exact g_iret X E dH_keeps_105
      · refine g_aload_n X dH_keeps_87 rfl ?_
        refine g_getN X fl_H_16 fb_11_1 k_0 r_0_1 dH_keeps_88 ?_
        refine g_getI X fl_H_121 fb_5_2 k_3 dH_keeps_91 ?_
        refine g_iconst X (-1) dH_keeps_94 (by decide) ?_
        refine g_cne X (tgt := 106) dH_keeps_95 (by decide) ?_ ?_
        · refine g_aload_n X dH_keeps_98 rfl ?_
          refine g_getN X fl_H_16 fb_11_1 k_0 r_0_1 dH_keeps_99 ?_
          refine g_getI X fl_H_121 fb_5_2 k_3 dH_keeps_102 ?_
          exact g_iret X E dH_keeps_105
        · refine g_aload_n X dH_keeps_106 rfl ?_
          refine g_getN X fl_H_16 fb_11_1 k_0 r_0_1 dH_keeps_107 ?_
          refine g_aload_n X dH_keeps_110 rfl ?_
          refine g_getN X fl_H_16 fb_11_1 k_0 r_0_1 dH_keeps_111 ?_
          refine g_getI X fl_H_225 fb_5_3 k_3 dH_keeps_114 ?_
          refine g_iconst X 2 dH_keeps_117 (by decide) ?_
          refine g_virtI X [.int (s5 3 3), .int 2] [] k_3 mm_Sc_tell mv_Sc_tell ml_H_127 (okSc_tell 3 (s5 3 3) 2 s5 k_3 C.l C.w) rfl (by decide) rfl (Nat.le_of_ble_eq_true rfl) dH_keeps_118 (fun r7 s6 => ?_)
          exact g_iret X E dH_keeps_121
    · intro j83 hj83
      refine g_cge X (tgt := 83) dH_keeps_30 (by decide) ?_ ?_
      · exact gf_sub (hj83 s4) (by simp [lsub])
      · refine g_iload_n X dH_keeps_33 rfl ?_
        refine g_zne X (tgt := 83) dH_keeps_34 (by decide) ?_ ?_
        · refine g_aload_n X dH_keeps_37 rfl ?_
          refine g_getN X fl_H_16 fb_11_1 k_0 r_0_1 dH_keeps_38 ?_
          refine g_getI X fl_H_134 fb_5_9 k_3 dH_keeps_41 ?_
          refine g_istore X [some (.ref (C.w.ad 0)), some (.int v1), some (.int u27.1), some (.int u27.2), some (.int (s4 3 9))] dH_keeps_44 (by decide) (Nat.le_of_ble_eq_true rfl) rfl ?_
          refine g_aload_n X dH_keeps_46 rfl ?_
          refine g_getN X fl_H_61 fb_11_7 k_0 r_0_7 dH_keeps_47 ?_
          refine g_aload_n X dH_keeps_50 rfl ?_
          refine g_getN X fl_H_16 fb_11_1 k_0 r_0_1 dH_keeps_51 ?_
          refine g_iconst X 0 dH_keeps_54 (by decide) ?_
          refine g_virtI X [.ref (C.w.ad 3), .int 0] [] k_65 mm_Su_pass mv_Su_pass ml_H_166 (okSu_pass 3 0 s4 k_3 C.l C.w) rfl (by decide) rfl (Nat.le_of_ble_eq_true rfl) dH_keeps_55 (fun r9 s8 => ?_)
          refine g_pop X dH_keeps_58 rfl ?_
          refine g_iload X dH_keeps_59 rfl ?_
          refine g_aload_n X dH_keeps_61 rfl ?_
          refine g_getN X fl_H_16 fb_11_1 k_0 r_0_1 dH_keeps_62 ?_
          refine g_getI X fl_H_114 fb_5_8 k_3 dH_keeps_65 ?_
          refine gf_jn (fun j76 => ∀ (b76_0 : Int32) (s10 : Sg), GF C evI 76 [some (.ref (C.w.ad 0)), some (.int v1), none, some (.int u27.2), none] [.int b76_0] s10 (j76 b76_0 s10)) ?_ ?_
          · intro b76_0 s10
            refine g_istore_n X [some (.ref (C.w.ad 0)), some (.int v1), some (.int b76_0), some (.int u27.2), none] dH_keeps_76 (by decide) (Nat.le_of_ble_eq_true rfl) rfl ?_
            refine g_iinc X (u27.2 + 1) [some (.ref (C.w.ad 0)), some (.int v1), some (.int b76_0), some (.int (u27.2 + 1)), none] dH_keeps_77 rfl rfl (by decide) rfl ?_
            refine g_goto X 27 dH_keeps_80 (by decide) ?_
            exact gf_sub (hq27 (b76_0, (u27.2 + 1)) s10) (by simp [lsub])
          · intro j76 hj76
            refine g_cne X (tgt := 75) dH_keeps_68 (by decide) ?_ ?_
            · refine g_iconst X 1 dH_keeps_71 (by decide) ?_
              refine g_goto X 76 dH_keeps_72 (by decide) ?_
              exact gf_sub (hj76 1 s8) (by simp [lsub])
            · refine g_iconst X 0 dH_keeps_75 (by decide) ?_
              exact gf_sub (hj76 0 s8) (by simp [lsub])
        · exact gf_sub (hj83 s4) (by simp [lsub])
def yMu_stepsOver : MethodName := ⟨"LastWordHill$Muse", "stepsOver", "(II)I"⟩
abbrev cMu_stepsOver : ByteArray := prog_4_method_19_code
theorem dMu_stepsOver_0 : decode cMu_stepsOver 0 = .ok (.aload_n 0, 1) := by decide +kernel
theorem dMu_stepsOver_1 : decode cMu_stepsOver 1 = .ok (.iload_n 1, 1) := by decide +kernel
theorem dMu_stepsOver_2 : decode cMu_stepsOver 2 = .ok (.invokevirtual 128, 3) := by decide +kernel
theorem mm_Mu_goOverFrom : MMc yMu_goOverFrom cMu_goOverFrom 4 none 1 := ⟨hz_in 1247 (by decide +kernel) (by decide +kernel), hz_in 145 (by decide +kernel) (by decide +kernel), by decide +kernel, by decide⟩
theorem mv_Mu_goOverFrom : MMv yMu_goOverFrom 2 := ⟨hz_in 1246 (by decide +kernel) (by decide +kernel), hz_in 41 (by decide +kernel) (by decide +kernel), _, _, rfl, by decide⟩
theorem ml_Mu_128 : Cond.methodLink "LastWordHill$Muse" 128 yMu_goOverFrom ∈ hz_wt := hz_in 1244 (by decide +kernel) (by decide +kernel)
theorem dMu_stepsOver_5 : decode cMu_stepsOver 5 = .ok (.aload_n 0, 1) := by decide +kernel
theorem dMu_stepsOver_6 : decode cMu_stepsOver 6 = .ok (.iload_n 2, 1) := by decide +kernel
theorem dMu_stepsOver_7 : decode cMu_stepsOver 7 = .ok (.invokevirtual 112, 3) := by decide +kernel
theorem dMu_stepsOver_10 : decode cMu_stepsOver 10 = .ok (.ireturn, 1) := by decide +kernel
def fMu_stepsOver (v1 : Int32) (v2 : Int32) (s0 : Sg) : Option (Int32 × Sg) := bv (fMu_goOverFrom v1 s0) fun s1 => bi (fMu_farOf v2 s1) fun r3 s2 => some (r3, s2)
set_option maxHeartbeats 4000000 in
set_option maxRecDepth 100000 in
theorem okMu_stepsOver (v1 : Int32) (v2 : Int32) (s0 : Sg) : ∀ (l : Launch) (w : WC), Ok l w yMu_stepsOver cMu_stepsOver 3 (some .int) 6 evI [.ref (w.ad 66), .int v1, .int v2] s0 (fMu_stepsOver v1 v2 s0) := by
  refine ok_in (ev := fun _ => evI) (av := fun w => [.ref (w.ad 66), .int v1, .int v2]) "LastWordHill$Muse" rfl (by decide +kernel) (fun _ => rfl) (fun _ => Nat.le_of_ble_eq_true rfl) ?_
  intro C X E
  show GF C evI 0 [some (.ref (C.w.ad 66)), some (.int v1), some (.int v2)] [] s0 (fMu_stepsOver v1 v2 s0)
  unfold fMu_stepsOver
  refine g_aload_n X dMu_stepsOver_0 rfl ?_
  refine g_iload_n X dMu_stepsOver_1 rfl ?_
  refine g_virtV X [.int v1] [] k_66 mm_Mu_goOverFrom mv_Mu_goOverFrom ml_Mu_128 (okMu_goOverFrom v1 s0 C.l C.w) rfl (by decide) rfl (Nat.le_of_ble_eq_true rfl) dMu_stepsOver_2 (fun s1 => ?_)
  refine g_aload_n X dMu_stepsOver_5 rfl ?_
  refine g_iload_n X dMu_stepsOver_6 rfl ?_
  refine g_virtI X [.int v2] [] k_66 mm_Mu_farOf mv_Mu_farOf ml_Mu_112 (okMu_farOf v2 s1 C.l C.w) rfl (by decide) rfl (Nat.le_of_ble_eq_true rfl) dMu_stepsOver_7 (fun r3 s2 => ?_)
  exact g_iret X E dMu_stepsOver_10
def yMu_reachedFrom : MethodName := ⟨"LastWordHill$Muse", "reachedFrom", "(I)I"⟩
abbrev cMu_reachedFrom : ByteArray := prog_4_method_20_code
theorem dMu_reachedFrom_0 : decode cMu_reachedFrom 0 = .ok (.aload_n 0, 1) := by decide +kernel
theorem dMu_reachedFrom_1 : decode cMu_reachedFrom 1 = .ok (.iload_n 1, 1) := by decide +kernel
theorem dMu_reachedFrom_2 : decode cMu_reachedFrom 2 = .ok (.invokevirtual 128, 3) := by decide +kernel
theorem dMu_reachedFrom_5 : decode cMu_reachedFrom 5 = .ok (.iconst 0, 1) := by decide +kernel
theorem dMu_reachedFrom_6 : decode cMu_reachedFrom 6 = .ok (.istore_n 2, 1) := by decide +kernel
theorem dMu_reachedFrom_7 : decode cMu_reachedFrom 7 = .ok (.iconst 0, 1) := by decide +kernel
theorem dMu_reachedFrom_8 : decode cMu_reachedFrom 8 = .ok (.istore_n 3, 1) := by decide +kernel
theorem dMu_reachedFrom_9 : decode cMu_reachedFrom 9 = .ok (.iload_n 3, 1) := by decide +kernel
theorem dMu_reachedFrom_10 : decode cMu_reachedFrom 10 = .ok (.bipush 8, 2) := by decide +kernel
theorem dMu_reachedFrom_12 : decode cMu_reachedFrom 12 = .ok (.if_icmp .ge 20, 3) := by decide +kernel
theorem dMu_reachedFrom_32 : decode cMu_reachedFrom 32 = .ok (.iload_n 2, 1) := by decide +kernel
theorem dMu_reachedFrom_33 : decode cMu_reachedFrom 33 = .ok (.ireturn, 1) := by decide +kernel
theorem dMu_reachedFrom_15 : decode cMu_reachedFrom 15 = .ok (.aload_n 0, 1) := by decide +kernel
theorem dMu_reachedFrom_16 : decode cMu_reachedFrom 16 = .ok (.iload_n 3, 1) := by decide +kernel
theorem dMu_reachedFrom_17 : decode cMu_reachedFrom 17 = .ok (.invokevirtual 112, 3) := by decide +kernel
theorem dMu_reachedFrom_20 : decode cMu_reachedFrom 20 = .ok (.ifCond .le 6, 3) := by decide +kernel
theorem dMu_reachedFrom_26 : decode cMu_reachedFrom 26 = .ok (.iinc 3 1, 3) := by decide +kernel
theorem dMu_reachedFrom_29 : decode cMu_reachedFrom 29 = .ok (.goto (-20), 3) := by decide +kernel
theorem dMu_reachedFrom_23 : decode cMu_reachedFrom 23 = .ok (.iinc 2 1, 3) := by decide +kernel
def fMu_reachedFrom (v1 : Int32) (s0 : Sg) : Option (Int32 × Sg) := bv (fMu_goOverFrom v1 s0) fun s1 => lp FU (fun q9 (u9 : Int32 × Int32) (s2 : Sg) => if 8 ≤ u9.2 then (some (u9.1, s2)) else (bi (fMu_farOf u9.2 s2) fun r4 s3 => bnd (fun (a26_2 : Int32) (s5 : Sg) => q9 (a26_2, (u9.2 + 1)) s5) fun j26 => if r4 ≤ 0 then (j26 u9.1 s3) else (j26 (u9.1 + 1) s3))) (0, 0) s1
set_option maxHeartbeats 4000000 in
set_option maxRecDepth 100000 in
theorem okMu_reachedFrom (v1 : Int32) (s0 : Sg) : ∀ (l : Launch) (w : WC), Ok l w yMu_reachedFrom cMu_reachedFrom 4 (some .int) 6 evI [.ref (w.ad 66), .int v1] s0 (fMu_reachedFrom v1 s0) := by
  refine ok_in (ev := fun _ => evI) (av := fun w => [.ref (w.ad 66), .int v1]) "LastWordHill$Muse" rfl (by decide +kernel) (fun _ => rfl) (fun _ => Nat.le_of_ble_eq_true rfl) ?_
  intro C X E
  show GF C evI 0 [some (.ref (C.w.ad 66)), some (.int v1), none, none] [] s0 (fMu_reachedFrom v1 s0)
  unfold fMu_reachedFrom
  refine g_aload_n X dMu_reachedFrom_0 rfl ?_
  refine g_iload_n X dMu_reachedFrom_1 rfl ?_
  refine g_virtV X [.int v1] [] k_66 mm_Mu_goOverFrom mv_Mu_goOverFrom ml_Mu_128 (okMu_goOverFrom v1 s0 C.l C.w) rfl (by decide) rfl (Nat.le_of_ble_eq_true rfl) dMu_reachedFrom_2 (fun s1 => ?_)
  refine g_iconst X 0 dMu_reachedFrom_5 (by decide) ?_
  refine g_istore_n X [some (.ref (C.w.ad 66)), some (.int v1), some (.int 0), none] dMu_reachedFrom_6 (by decide) (Nat.le_of_ble_eq_true rfl) rfl ?_
  refine g_iconst X 0 dMu_reachedFrom_7 (by decide) ?_
  refine g_istore_n X [some (.ref (C.w.ad 66)), some (.int v1), some (.int 0), some (.int 0)] dMu_reachedFrom_8 (by decide) (Nat.le_of_ble_eq_true rfl) rfl ?_
  refine gf_sub (L' := [some (.ref (C.w.ad 66)), none, some (.int 0), some (.int 0)]) ?_ (by simp [lsub])
  refine gf_lp (Lf := fun (u9 : Int32 × Int32) => [some (.ref (C.w.ad 66)), none, some (.int u9.1), some (.int u9.2)]) (fun q9 hq9 u9 s2 => ?_) FU (0, 0) s1
  refine g_iload_n X dMu_reachedFrom_9 rfl ?_
  refine g_bipush X 8 dMu_reachedFrom_10 (by decide) ?_
  refine g_cge X (tgt := 32) dMu_reachedFrom_12 (by decide) ?_ ?_
  · refine g_iload_n X dMu_reachedFrom_32 rfl ?_
    exact g_iret X E dMu_reachedFrom_33
  · refine g_aload_n X dMu_reachedFrom_15 rfl ?_
    refine g_iload_n X dMu_reachedFrom_16 rfl ?_
    refine g_virtI X [.int u9.2] [] k_66 mm_Mu_farOf mv_Mu_farOf ml_Mu_112 (okMu_farOf u9.2 s2 C.l C.w) rfl (by decide) rfl (Nat.le_of_ble_eq_true rfl) dMu_reachedFrom_17 (fun r4 s3 => ?_)
    refine gf_jn (fun j26 => ∀ (a26_2 : Int32) (s5 : Sg), GF C evI 26 [some (.ref (C.w.ad 66)), none, some (.int a26_2), some (.int u9.2)] [] s5 (j26 a26_2 s5)) ?_ ?_
    · intro a26_2 s5
      refine g_iinc X (u9.2 + 1) [some (.ref (C.w.ad 66)), none, some (.int a26_2), some (.int (u9.2 + 1))] dMu_reachedFrom_26 rfl rfl (by decide) rfl ?_
      refine g_goto X 9 dMu_reachedFrom_29 (by decide) ?_
      exact gf_sub (hq9 (a26_2, (u9.2 + 1)) s5) (by simp [lsub])
    · intro j26 hj26
      refine g_zle X (tgt := 26) dMu_reachedFrom_20 (by decide) ?_ ?_
      · exact gf_sub (hj26 u9.1 s3) (by simp [lsub])
      · refine g_iinc X (u9.1 + 1) [some (.ref (C.w.ad 66)), none, some (.int (u9.1 + 1)), some (.int u9.2)] dMu_reachedFrom_23 rfl rfl (by decide) rfl ?_
        exact gf_sub (hj26 (u9.1 + 1) s3) (by simp [lsub])
def yTo_scan : MethodName := ⟨"LastWordHill$Tokens", "scan", "(Ljava/lang/String;)V"⟩
abbrev cTo_scan : ByteArray := prog_11_method_4_code
theorem dTo_scan_0 : decode cTo_scan 0 = .ok (.aload_n 0, 1) := by decide +kernel
theorem dTo_scan_1 : decode cTo_scan 1 = .ok (.iconst 0, 1) := by decide +kernel
theorem dTo_scan_2 : decode cTo_scan 2 = .ok (.putfield 32, 3) := by decide +kernel
theorem dTo_scan_5 : decode cTo_scan 5 = .ok (.iconst 0, 1) := by decide +kernel
theorem dTo_scan_6 : decode cTo_scan 6 = .ok (.istore_n 2, 1) := by decide +kernel
theorem dTo_scan_7 : decode cTo_scan 7 = .ok (.iload_n 2, 1) := by decide +kernel
theorem dTo_scan_8 : decode cTo_scan 8 = .ok (.aload_n 0, 1) := by decide +kernel
theorem dTo_scan_9 : decode cTo_scan 9 = .ok (.getfield 28, 3) := by decide +kernel
theorem dTo_scan_12 : decode cTo_scan 12 = .ok (.if_icmp .ge 121, 3) := by decide +kernel
theorem dTo_scan_133 : decode cTo_scan 133 = .ok (.aload_n 0, 1) := by decide +kernel
theorem dTo_scan_134 : decode cTo_scan 134 = .ok (.iconst 0, 1) := by decide +kernel
theorem dTo_scan_135 : decode cTo_scan 135 = .ok (.aload_n 0, 1) := by decide +kernel
theorem dTo_scan_136 : decode cTo_scan 136 = .ok (.getfield 28, 3) := by decide +kernel
theorem dTo_scan_139 : decode cTo_scan 139 = .ok (.iconst 0, 1) := by decide +kernel
theorem dTo_scan_140 : decode cTo_scan 140 = .ok (.invokevirtual 50, 3) := by decide +kernel
theorem mm_To_addToken : MMc yTo_addToken cTo_addToken 4 none 3 := ⟨hz_in 904 (by decide +kernel) (by decide +kernel), hz_in 142 (by decide +kernel) (by decide +kernel), by decide +kernel, by decide⟩
theorem mv_To_addToken : MMv yTo_addToken 9 := ⟨hz_in 903 (by decide +kernel) (by decide +kernel), hz_in 10 (by decide +kernel) (by decide +kernel), _, _, rfl, by decide⟩
theorem ml_To_50 : Cond.methodLink "LastWordHill$Tokens" 50 yTo_addToken ∈ hz_wt := hz_in 901 (by decide +kernel) (by decide +kernel)
theorem dTo_scan_143 : decode cTo_scan 143 = .ok (.aload_n 0, 1) := by decide +kernel
theorem dTo_scan_144 : decode cTo_scan 144 = .ok (.iconst (-1), 1) := by decide +kernel
theorem dTo_scan_145 : decode cTo_scan 145 = .ok (.putfield 74, 3) := by decide +kernel
theorem dTo_scan_148 : decode cTo_scan 148 = .ok (.aload_n 0, 1) := by decide +kernel
theorem dTo_scan_149 : decode cTo_scan 149 = .ok (.invokevirtual 77, 3) := by decide +kernel
theorem ml_To_77 : Cond.methodLink "LastWordHill$Tokens" 77 yTo_advance ∈ hz_wt := hz_in 975 (by decide +kernel) (by decide +kernel)
theorem dTo_scan_152 : decode cTo_scan 152 = .ok (.return_, 1) := by decide +kernel
theorem dTo_scan_15 : decode cTo_scan 15 = .ok (.aload_n 0, 1) := by decide +kernel
theorem dTo_scan_16 : decode cTo_scan 16 = .ok (.iload_n 2, 1) := by decide +kernel
theorem dTo_scan_17 : decode cTo_scan 17 = .ok (.invokevirtual 35, 3) := by decide +kernel
theorem dTo_scan_20 : decode cTo_scan 20 = .ok (.istore_n 3, 1) := by decide +kernel
theorem dTo_scan_21 : decode cTo_scan 21 = .ok (.iload_n 2, 1) := by decide +kernel
theorem dTo_scan_22 : decode cTo_scan 22 = .ok (.iconst 1, 1) := by decide +kernel
theorem dTo_scan_23 : decode cTo_scan 23 = .ok (.iadd, 1) := by decide +kernel
theorem dTo_scan_24 : decode cTo_scan 24 = .ok (.istore 4, 2) := by decide +kernel
theorem dTo_scan_26 : decode cTo_scan 26 = .ok (.iload_n 3, 1) := by decide +kernel
theorem dTo_scan_27 : decode cTo_scan 27 = .ok (.invokestatic 39, 3) := by decide +kernel
theorem dTo_scan_30 : decode cTo_scan 30 = .ok (.ifCond .eq 27, 3) := by decide +kernel
theorem dTo_scan_127 : decode cTo_scan 127 = .ok (.iload 4, 2) := by decide +kernel
theorem dTo_scan_129 : decode cTo_scan 129 = .ok (.istore_n 2, 1) := by decide +kernel
theorem dTo_scan_130 : decode cTo_scan 130 = .ok (.goto (-123), 3) := by decide +kernel
theorem dTo_scan_57 : decode cTo_scan 57 = .ok (.iload_n 3, 1) := by decide +kernel
theorem dTo_scan_58 : decode cTo_scan 58 = .ok (.invokestatic 54, 3) := by decide +kernel
theorem dTo_scan_61 : decode cTo_scan 61 = .ok (.ifCond .eq 38, 3) := by decide +kernel
theorem dTo_scan_99 : decode cTo_scan 99 = .ok (.iload_n 3, 1) := by decide +kernel
theorem dTo_scan_100 : decode cTo_scan 100 = .ok (.invokestatic 64, 3) := by decide +kernel
theorem mm_To_isBlank : MMc yTo_isBlank cTo_isBlank 1 (some .boolean) 1 := ⟨hz_in 918 (by decide +kernel) (by decide +kernel), hz_in 142 (by decide +kernel) (by decide +kernel), by decide +kernel, by decide⟩
theorem ms_To_isBlank : Cond.static yTo_isBlank ∈ hz_wt := hz_in 917 (by decide +kernel) (by decide +kernel)
theorem ml_To_64 : Cond.methodLink "LastWordHill$Tokens" 64 yTo_isBlank ∈ hz_wt := hz_in 916 (by decide +kernel) (by decide +kernel)
theorem dTo_scan_103 : decode cTo_scan 103 = .ok (.ifCond .ne 24, 3) := by decide +kernel
theorem dTo_scan_106 : decode cTo_scan 106 = .ok (.aload_n 0, 1) := by decide +kernel
theorem dTo_scan_107 : decode cTo_scan 107 = .ok (.ldc 67, 2) := by decide +kernel
theorem dTo_scan_109 : decode cTo_scan 109 = .ok (.iload_n 3, 1) := by decide +kernel
theorem dTo_scan_110 : decode cTo_scan 110 = .ok (.i2c, 1) := by decide +kernel
theorem dTo_scan_111 : decode cTo_scan 111 = .ok (.invokevirtual 69, 3) := by decide +kernel
theorem mm_J0_indexOf_0f7a4 : MMc yJ0_indexOf_0f7a4 cJ0_indexOf_0f7a4 2 (some .int) 1 := ⟨hz_in 923 (by decide +kernel) (by decide +kernel), hz_in 150 (by decide +kernel) (by decide +kernel), by decide +kernel, by decide⟩
theorem mv_J0_indexOf_0f7a4 : Cond.instanceMethod yJ0_indexOf_0f7a4 ∈ hz_wt ∧ Cond.selects "java/lang/String" yJ0_indexOf_0f7a4 yJ0_indexOf_0f7a4 ∈ hz_wt := ⟨hz_in 921 (by decide +kernel) (by decide +kernel), hz_in 922 (by decide +kernel) (by decide +kernel)⟩
theorem ml_To_69 : Cond.methodLink "LastWordHill$Tokens" 69 yJ0_indexOf_0f7a4 ∈ hz_wt := hz_in 920 (by decide +kernel) (by decide +kernel)
theorem dTo_scan_114 : decode cTo_scan 114 = .ok (.ifCond .lt 7, 3) := by decide +kernel
theorem dTo_scan_122 : decode cTo_scan 122 = .ok (.iload_n 2, 1) := by decide +kernel
theorem dTo_scan_123 : decode cTo_scan 123 = .ok (.iconst 0, 1) := by decide +kernel
theorem dTo_scan_124 : decode cTo_scan 124 = .ok (.invokevirtual 50, 3) := by decide +kernel
theorem dTo_scan_121 : decode cTo_scan 121 = .ok (.iconst 2, 1) := by decide +kernel
theorem dTo_scan_117 : decode cTo_scan 117 = .ok (.iload_n 3, 1) := by decide +kernel
theorem dTo_scan_118 : decode cTo_scan 118 = .ok (.goto 4, 3) := by decide +kernel
theorem dTo_scan_64 : decode cTo_scan 64 = .ok (.aload_n 0, 1) := by decide +kernel
theorem dTo_scan_65 : decode cTo_scan 65 = .ok (.iload_n 2, 1) := by decide +kernel
theorem dTo_scan_66 : decode cTo_scan 66 = .ok (.invokevirtual 57, 3) := by decide +kernel
theorem mm_To_behindDigits : MMc yTo_behindDigits cTo_behindDigits 3 (some .int) 1 := ⟨hz_in 911 (by decide +kernel) (by decide +kernel), hz_in 142 (by decide +kernel) (by decide +kernel), by decide +kernel, by decide⟩
theorem mv_To_behindDigits : MMv yTo_behindDigits 9 := ⟨hz_in 910 (by decide +kernel) (by decide +kernel), hz_in 11 (by decide +kernel) (by decide +kernel), _, _, rfl, by decide⟩
theorem ml_To_57 : Cond.methodLink "LastWordHill$Tokens" 57 yTo_behindDigits ∈ hz_wt := hz_in 908 (by decide +kernel) (by decide +kernel)
theorem dTo_scan_69 : decode cTo_scan 69 = .ok (.istore 4, 2) := by decide +kernel
theorem dTo_scan_71 : decode cTo_scan 71 = .ok (.aload_n 0, 1) := by decide +kernel
theorem dTo_scan_72 : decode cTo_scan 72 = .ok (.iload 4, 2) := by decide +kernel
theorem dTo_scan_74 : decode cTo_scan 74 = .ok (.iload_n 2, 1) := by decide +kernel
theorem dTo_scan_75 : decode cTo_scan 75 = .ok (.isub, 1) := by decide +kernel
theorem dTo_scan_76 : decode cTo_scan 76 = .ok (.iconst 4, 1) := by decide +kernel
theorem dTo_scan_77 : decode cTo_scan 77 = .ok (.if_icmp .le 7, 3) := by decide +kernel
theorem dTo_scan_85 : decode cTo_scan 85 = .ok (.iload_n 2, 1) := by decide +kernel
theorem dTo_scan_86 : decode cTo_scan 86 = .ok (.aload_n 0, 1) := by decide +kernel
theorem dTo_scan_87 : decode cTo_scan 87 = .ok (.iload_n 2, 1) := by decide +kernel
theorem dTo_scan_88 : decode cTo_scan 88 = .ok (.iload 4, 2) := by decide +kernel
theorem dTo_scan_90 : decode cTo_scan 90 = .ok (.invokevirtual 60, 3) := by decide +kernel
theorem mm_To_numberAt : MMc yTo_numberAt cTo_numberAt 5 (some .int) 2 := ⟨hz_in 915 (by decide +kernel) (by decide +kernel), hz_in 142 (by decide +kernel) (by decide +kernel), by decide +kernel, by decide⟩
theorem mv_To_numberAt : MMv yTo_numberAt 9 := ⟨hz_in 914 (by decide +kernel) (by decide +kernel), hz_in 12 (by decide +kernel) (by decide +kernel), _, _, rfl, by decide⟩
theorem ml_To_60 : Cond.methodLink "LastWordHill$Tokens" 60 yTo_numberAt ∈ hz_wt := hz_in 912 (by decide +kernel) (by decide +kernel)
theorem dTo_scan_93 : decode cTo_scan 93 = .ok (.invokevirtual 50, 3) := by decide +kernel
theorem dTo_scan_96 : decode cTo_scan 96 = .ok (.goto 31, 3) := by decide +kernel
theorem dTo_scan_84 : decode cTo_scan 84 = .ok (.iconst 1, 1) := by decide +kernel
theorem dTo_scan_80 : decode cTo_scan 80 = .ok (.iconst 2, 1) := by decide +kernel
theorem dTo_scan_81 : decode cTo_scan 81 = .ok (.goto 4, 3) := by decide +kernel
theorem dTo_scan_33 : decode cTo_scan 33 = .ok (.aload_n 0, 1) := by decide +kernel
theorem dTo_scan_34 : decode cTo_scan 34 = .ok (.iload_n 2, 1) := by decide +kernel
theorem dTo_scan_35 : decode cTo_scan 35 = .ok (.invokevirtual 43, 3) := by decide +kernel
theorem mm_To_behindLetters : MMc yTo_behindLetters cTo_behindLetters 3 (some .int) 1 := ⟨hz_in 844 (by decide +kernel) (by decide +kernel), hz_in 142 (by decide +kernel) (by decide +kernel), by decide +kernel, by decide⟩
theorem mv_To_behindLetters : MMv yTo_behindLetters 9 := ⟨hz_in 843 (by decide +kernel) (by decide +kernel), hz_in 7 (by decide +kernel) (by decide +kernel), _, _, rfl, by decide⟩
theorem ml_To_43 : Cond.methodLink "LastWordHill$Tokens" 43 yTo_behindLetters ∈ hz_wt := hz_in 841 (by decide +kernel) (by decide +kernel)
theorem dTo_scan_38 : decode cTo_scan 38 = .ok (.istore 4, 2) := by decide +kernel
theorem dTo_scan_40 : decode cTo_scan 40 = .ok (.aload_n 0, 1) := by decide +kernel
theorem dTo_scan_41 : decode cTo_scan 41 = .ok (.aload_n 0, 1) := by decide +kernel
theorem dTo_scan_42 : decode cTo_scan 42 = .ok (.aload_n 1, 1) := by decide +kernel
theorem dTo_scan_43 : decode cTo_scan 43 = .ok (.iload_n 2, 1) := by decide +kernel
theorem dTo_scan_44 : decode cTo_scan 44 = .ok (.iload 4, 2) := by decide +kernel
theorem dTo_scan_46 : decode cTo_scan 46 = .ok (.invokevirtual 46, 3) := by decide +kernel
theorem mm_To_keywordKind : MMc yTo_keywordKind cTo_keywordKind 7 (some .int) 3 := ⟨hz_in 848 (by decide +kernel) (by decide +kernel), hz_in 142 (by decide +kernel) (by decide +kernel), by decide +kernel, by decide⟩
theorem mv_To_keywordKind : MMv yTo_keywordKind 9 := ⟨hz_in 847 (by decide +kernel) (by decide +kernel), hz_in 8 (by decide +kernel) (by decide +kernel), _, _, rfl, by decide⟩
theorem ml_To_46 : Cond.methodLink "LastWordHill$Tokens" 46 yTo_keywordKind ∈ hz_wt := hz_in 845 (by decide +kernel) (by decide +kernel)
theorem dTo_scan_49 : decode cTo_scan 49 = .ok (.iload_n 2, 1) := by decide +kernel
theorem dTo_scan_50 : decode cTo_scan 50 = .ok (.iconst 0, 1) := by decide +kernel
theorem dTo_scan_51 : decode cTo_scan 51 = .ok (.invokevirtual 50, 3) := by decide +kernel
theorem dTo_scan_54 : decode cTo_scan 54 = .ok (.goto 73, 3) := by decide +kernel
def fTo_scan (o1 : Nat) (s0 : Sg) : Option (Sg) := bnd (pt s0 31 5 0) fun s1 => lp FU (fun q7 (u7 : Int32) (s2 : Sg) => if (s2 31 4) ≤ u7 then (bv (fTo_addToken 0 (s2 31 4) 0 s2) fun s3 => bnd (pt s3 31 6 (-1)) fun s4 => bv (fTo_advance s4) fun s5 => some s5) else (bi (fTo_signAt u7 s2) fun r7 s6 => bi (fTo_isLetter r7 s6) fun r9 s8 => bnd (fun (a127_4 : Int32) (s10 : Sg) => q7 a127_4 s10) fun j127 => if r9 = 0 then (bi (fTo_isDigit r7 s8) fun r12 s11 => if r12 = 0 then (bi (fTo_isBlank r7 s11) fun r14 s13 => if r14 = 0 then (bi (fJ0_indexOf_0f7a4 4 (chr r7) s13) fun r16 s15 => bnd (fun (b122_0 : Int32) (s17 : Sg) => bv (fTo_addToken b122_0 u7 0 s17) fun s18 => j127 (u7 + 1) s18) fun j122 => if r16 < 0 then (j122 2 s15) else (j122 r7 s15)) else (j127 (u7 + 1) s13)) else (bi (fTo_behindDigits u7 s11) fun r20 s19 => bnd (fun (b85_0 : Int32) (s21 : Sg) => bi (fTo_numberAt u7 r20 s21) fun r23 s22 => bv (fTo_addToken b85_0 u7 r23 s22) fun s24 => j127 r20 s24) fun j85 => if (r20 - u7) ≤ 4 then (j85 1 s19) else (j85 2 s19))) else (bi (fTo_behindLetters u7 s8) fun r26 s25 => bi (fTo_keywordKind o1 u7 r26 s25) fun r28 s27 => bv (fTo_addToken r28 u7 0 s27) fun s29 => j127 r26 s29))) 0 s1
set_option maxHeartbeats 4000000 in
set_option maxRecDepth 100000 in
theorem okTo_scan (o1 : Nat) (s0 : Sg) (h1 : o1 < nJS) : ∀ (l : Launch) (w : WC), Ok l w yTo_scan cTo_scan 5 none 7 evV [.ref (w.ad 31), .ref (w.aK o1)] s0 (fTo_scan o1 s0) := by
  refine ok_in (ev := fun _ => evV) (av := fun w => [.ref (w.ad 31), .ref (w.aK o1)]) "LastWordHill$Tokens" rfl (by decide +kernel) (fun _ => rfl) (fun _ => Nat.le_of_ble_eq_true rfl) ?_
  intro C X E
  show GF C evV 0 [some (.ref (C.w.ad 31)), some (.ref (C.w.aK o1)), none, none, none] [] s0 (fTo_scan o1 s0)
  unfold fTo_scan
  refine g_aload_n X dTo_scan_0 rfl ?_
  refine g_iconst X 0 dTo_scan_1 (by decide) ?_
  refine g_putI X fl_To_32 fb_9_5 fp_9_5 k_31 dTo_scan_2 (fun s1 => ?_)
  refine g_iconst X 0 dTo_scan_5 (by decide) ?_
  refine g_istore_n X [some (.ref (C.w.ad 31)), some (.ref (C.w.aK o1)), some (.int 0), none, none] dTo_scan_6 (by decide) (Nat.le_of_ble_eq_true rfl) rfl ?_
  refine gf_sub (L' := [some (.ref (C.w.ad 31)), some (.ref (C.w.aK o1)), some (.int 0), none, none]) ?_ (by simp [lsub])
  refine gf_lp (Lf := fun (u7 : Int32) => [some (.ref (C.w.ad 31)), some (.ref (C.w.aK o1)), some (.int u7), none, none]) (fun q7 hq7 u7 s2 => ?_) FU 0 s1
  refine g_iload_n X dTo_scan_7 rfl ?_
  refine g_aload_n X dTo_scan_8 rfl ?_
  refine g_getI X fl_To_28 fb_9_4 k_31 dTo_scan_9 ?_
  refine g_cge X (tgt := 133) dTo_scan_12 (by decide) ?_ ?_
  · refine g_aload_n X dTo_scan_133 rfl ?_
    refine g_iconst X 0 dTo_scan_134 (by decide) ?_
    refine g_aload_n X dTo_scan_135 rfl ?_
    refine g_getI X fl_To_28 fb_9_4 k_31 dTo_scan_136 ?_
    refine g_iconst X 0 dTo_scan_139 (by decide) ?_
    refine g_virtV X [.int 0, .int (s2 31 4), .int 0] [] k_31 mm_To_addToken mv_To_addToken ml_To_50 (okTo_addToken 0 (s2 31 4) 0 s2 C.l C.w) rfl (by decide) rfl (Nat.le_of_ble_eq_true rfl) dTo_scan_140 (fun s3 => ?_)
    refine g_aload_n X dTo_scan_143 rfl ?_
    refine g_iconst X (-1) dTo_scan_144 (by decide) ?_
    refine g_putI X fl_To_74 fb_9_6 fp_9_6 k_31 dTo_scan_145 (fun s4 => ?_)
    refine g_aload_n X dTo_scan_148 rfl ?_
    refine g_virtV X [] [] k_31 mm_To_advance mv_To_advance ml_To_77 (okTo_advance s4 C.l C.w) rfl (by decide) rfl (Nat.le_of_ble_eq_true rfl) dTo_scan_149 (fun s5 => ?_)
    exact g_vret X E dTo_scan_152
  · refine g_aload_n X dTo_scan_15 rfl ?_
    refine g_iload_n X dTo_scan_16 rfl ?_
    refine g_virtI X [.int u7] [] k_31 mm_To_signAt mv_To_signAt ml_To_35 (okTo_signAt u7 s2 C.l C.w) rfl (by decide) rfl (Nat.le_of_ble_eq_true rfl) dTo_scan_17 (fun r7 s6 => ?_)
    refine g_istore_n X [some (.ref (C.w.ad 31)), some (.ref (C.w.aK o1)), some (.int u7), some (.int r7), none] dTo_scan_20 (by decide) (Nat.le_of_ble_eq_true rfl) rfl ?_
    refine g_iload_n X dTo_scan_21 rfl ?_
    refine g_iconst X 1 dTo_scan_22 (by decide) ?_
    refine g_iadd X dTo_scan_23 ?_
    refine g_istore X [some (.ref (C.w.ad 31)), some (.ref (C.w.aK o1)), some (.int u7), some (.int r7), some (.int (u7 + 1))] dTo_scan_24 (by decide) (Nat.le_of_ble_eq_true rfl) rfl ?_
    refine g_iload_n X dTo_scan_26 rfl ?_
    refine g_statI X [.int r7] [] mm_To_isLetter ms_To_isLetter ml_To_39 (okTo_isLetter r7 s6 C.l C.w) rfl (by decide) rfl (Nat.le_of_ble_eq_true rfl) dTo_scan_27 (fun r9 s8 => ?_)
    refine gf_jn (fun j127 => ∀ (a127_4 : Int32) (s10 : Sg), GF C evV 127 [some (.ref (C.w.ad 31)), some (.ref (C.w.aK o1)), none, none, some (.int a127_4)] [] s10 (j127 a127_4 s10)) ?_ ?_
    · intro a127_4 s10
      refine g_iload X dTo_scan_127 rfl ?_
      refine g_istore_n X [some (.ref (C.w.ad 31)), some (.ref (C.w.aK o1)), some (.int a127_4), none, some (.int a127_4)] dTo_scan_129 (by decide) (Nat.le_of_ble_eq_true rfl) rfl ?_
      refine g_goto X 7 dTo_scan_130 (by decide) ?_
      exact gf_sub (hq7 a127_4 s10) (by simp [lsub])
    · intro j127 hj127
      refine g_zeq X (tgt := 57) dTo_scan_30 (by decide) ?_ ?_
      · refine g_iload_n X dTo_scan_57 rfl ?_
        refine g_statI X [.int r7] [] mm_To_isDigit ms_To_isDigit ml_To_54 (okTo_isDigit r7 s8 C.l C.w) rfl (by decide) rfl (Nat.le_of_ble_eq_true rfl) dTo_scan_58 (fun r12 s11 => ?_)
        refine g_zeq X (tgt := 99) dTo_scan_61 (by decide) ?_ ?_
        · refine g_iload_n X dTo_scan_99 rfl ?_
          refine g_statI X [.int r7] [] mm_To_isBlank ms_To_isBlank ml_To_64 (okTo_isBlank r7 s11 C.l C.w) rfl (by decide) rfl (Nat.le_of_ble_eq_true rfl) dTo_scan_100 (fun r14 s13 => ?_)
          refine g_zne X (tgt := 127) dTo_scan_103 (by decide) ?_ ?_
          · refine g_aload_n X dTo_scan_106 rfl ?_
            refine g_ldcS X 4 rfl dTo_scan_107 ?_
            refine g_iload_n X dTo_scan_109 rfl ?_
            refine g_i2c X dTo_scan_110 ?_
            refine g_vstrI X [.int (chr r7)] [.ref (C.w.ad 31)] (by decide) mm_J0_indexOf_0f7a4 mv_J0_indexOf_0f7a4 ml_To_69 (okJ0_indexOf_0f7a4 4 (chr r7) s13 (by decide) C.l C.w) rfl (by decide) rfl (Nat.le_of_ble_eq_true rfl) dTo_scan_111 (fun r16 s15 => ?_)
            refine gf_jn (fun j122 => ∀ (b122_0 : Int32) (s17 : Sg), GF C evV 122 [some (.ref (C.w.ad 31)), some (.ref (C.w.aK o1)), some (.int u7), none, some (.int (u7 + 1))] [.int b122_0, .ref (C.w.ad 31)] s17 (j122 b122_0 s17)) ?_ ?_
            · intro b122_0 s17
              refine g_iload_n X dTo_scan_122 rfl ?_
              refine g_iconst X 0 dTo_scan_123 (by decide) ?_
              refine g_virtV X [.int b122_0, .int u7, .int 0] [] k_31 mm_To_addToken mv_To_addToken ml_To_50 (okTo_addToken b122_0 u7 0 s17 C.l C.w) rfl (by decide) rfl (Nat.le_of_ble_eq_true rfl) dTo_scan_124 (fun s18 => ?_)
              exact gf_sub (hj127 (u7 + 1) s18) (by simp [lsub])
            · intro j122 hj122
              refine g_zlt X (tgt := 121) dTo_scan_114 (by decide) ?_ ?_
              · refine g_iconst X 2 dTo_scan_121 (by decide) ?_
                exact gf_sub (hj122 2 s15) (by simp [lsub])
              · refine g_iload_n X dTo_scan_117 rfl ?_
                refine g_goto X 122 dTo_scan_118 (by decide) ?_
                exact gf_sub (hj122 r7 s15) (by simp [lsub])
          · exact gf_sub (hj127 (u7 + 1) s13) (by simp [lsub])
        · refine g_aload_n X dTo_scan_64 rfl ?_
          refine g_iload_n X dTo_scan_65 rfl ?_
          refine g_virtI X [.int u7] [] k_31 mm_To_behindDigits mv_To_behindDigits ml_To_57 (okTo_behindDigits u7 s11 C.l C.w) rfl (by decide) rfl (Nat.le_of_ble_eq_true rfl) dTo_scan_66 (fun r20 s19 => ?_)
          refine g_istore X [some (.ref (C.w.ad 31)), some (.ref (C.w.aK o1)), some (.int u7), some (.int r7), some (.int r20)] dTo_scan_69 (by decide) (Nat.le_of_ble_eq_true rfl) rfl ?_
          refine g_aload_n X dTo_scan_71 rfl ?_
          refine g_iload X dTo_scan_72 rfl ?_
          refine g_iload_n X dTo_scan_74 rfl ?_
          refine g_isub X dTo_scan_75 ?_
          refine g_iconst X 4 dTo_scan_76 (by decide) ?_
          refine gf_jn (fun j85 => ∀ (b85_0 : Int32) (s21 : Sg), GF C evV 85 [some (.ref (C.w.ad 31)), some (.ref (C.w.aK o1)), some (.int u7), none, some (.int r20)] [.int b85_0, .ref (C.w.ad 31)] s21 (j85 b85_0 s21)) ?_ ?_
          · intro b85_0 s21
            refine g_iload_n X dTo_scan_85 rfl ?_
            refine g_aload_n X dTo_scan_86 rfl ?_
            refine g_iload_n X dTo_scan_87 rfl ?_
            refine g_iload X dTo_scan_88 rfl ?_
            refine g_virtI X [.int u7, .int r20] [.int u7, .int b85_0, .ref (C.w.ad 31)] k_31 mm_To_numberAt mv_To_numberAt ml_To_60 (okTo_numberAt u7 r20 s21 C.l C.w) rfl (by decide) rfl (Nat.le_of_ble_eq_true rfl) dTo_scan_90 (fun r23 s22 => ?_)
            refine g_virtV X [.int b85_0, .int u7, .int r23] [] k_31 mm_To_addToken mv_To_addToken ml_To_50 (okTo_addToken b85_0 u7 r23 s22 C.l C.w) rfl (by decide) rfl (Nat.le_of_ble_eq_true rfl) dTo_scan_93 (fun s24 => ?_)
            refine g_goto X 127 dTo_scan_96 (by decide) ?_
            exact gf_sub (hj127 r20 s24) (by simp [lsub])
          · intro j85 hj85
            refine g_cle X (tgt := 84) dTo_scan_77 (by decide) ?_ ?_
            · refine g_iconst X 1 dTo_scan_84 (by decide) ?_
              exact gf_sub (hj85 1 s19) (by simp [lsub])
            · refine g_iconst X 2 dTo_scan_80 (by decide) ?_
              refine g_goto X 85 dTo_scan_81 (by decide) ?_
              exact gf_sub (hj85 2 s19) (by simp [lsub])
      · refine g_aload_n X dTo_scan_33 rfl ?_
        refine g_iload_n X dTo_scan_34 rfl ?_
        refine g_virtI X [.int u7] [] k_31 mm_To_behindLetters mv_To_behindLetters ml_To_43 (okTo_behindLetters u7 s8 C.l C.w) rfl (by decide) rfl (Nat.le_of_ble_eq_true rfl) dTo_scan_35 (fun r26 s25 => ?_)
        refine g_istore X [some (.ref (C.w.ad 31)), some (.ref (C.w.aK o1)), some (.int u7), some (.int r7), some (.int r26)] dTo_scan_38 (by decide) (Nat.le_of_ble_eq_true rfl) rfl ?_
        refine g_aload_n X dTo_scan_40 rfl ?_
        refine g_aload_n X dTo_scan_41 rfl ?_
        refine g_aload_n X dTo_scan_42 rfl ?_
        refine g_iload_n X dTo_scan_43 rfl ?_
        refine g_iload X dTo_scan_44 rfl ?_
        refine g_virtI X [.ref (C.w.aK o1), .int u7, .int r26] [.ref (C.w.ad 31)] k_31 mm_To_keywordKind mv_To_keywordKind ml_To_46 (okTo_keywordKind o1 u7 r26 s25 h1 C.l C.w) rfl (by decide) rfl (Nat.le_of_ble_eq_true rfl) dTo_scan_46 (fun r28 s27 => ?_)
        refine g_iload_n X dTo_scan_49 rfl ?_
        refine g_iconst X 0 dTo_scan_50 (by decide) ?_
        refine g_virtV X [.int r28, .int u7, .int 0] [] k_31 mm_To_addToken mv_To_addToken ml_To_50 (okTo_addToken r28 u7 0 s27 C.l C.w) rfl (by decide) rfl (Nat.le_of_ble_eq_true rfl) dTo_scan_51 (fun s29 => ?_)
        refine g_goto X 127 dTo_scan_54 (by decide) ?_
        exact gf_sub (hj127 r26 s29) (by simp [lsub])
def yH_over : MethodName := ⟨"LastWordHill", "over", "(II)I"⟩
abbrev cH_over : ByteArray := prog_1_method_29_code
theorem dH_over_0 : decode cH_over 0 = .ok (.iload_n 1, 1) := by decide +kernel
theorem dH_over_1 : decode cH_over 1 = .ok (.iconst 0, 1) := by decide +kernel
theorem dH_over_2 : decode cH_over 2 = .ok (.bipush 7, 2) := by decide +kernel
theorem dH_over_4 : decode cH_over 4 = .ok (.invokestatic 81, 3) := by decide +kernel
theorem dH_over_7 : decode cH_over 7 = .ok (.ifCond .eq 13, 3) := by decide +kernel
theorem dH_over_20 : decode cH_over 20 = .ok (.iconst (-1), 1) := by decide +kernel
theorem dH_over_21 : decode cH_over 21 = .ok (.ireturn, 1) := by decide +kernel
theorem dH_over_10 : decode cH_over 10 = .ok (.iload_n 2, 1) := by decide +kernel
theorem dH_over_11 : decode cH_over 11 = .ok (.iconst (-1), 1) := by decide +kernel
theorem dH_over_12 : decode cH_over 12 = .ok (.bipush 7, 2) := by decide +kernel
theorem dH_over_14 : decode cH_over 14 = .ok (.invokestatic 81, 3) := by decide +kernel
theorem dH_over_17 : decode cH_over 17 = .ok (.ifCond .ne 5, 3) := by decide +kernel
theorem dH_over_22 : decode cH_over 22 = .ok (.iload_n 2, 1) := by decide +kernel
theorem dH_over_23 : decode cH_over 23 = .ok (.iconst (-1), 1) := by decide +kernel
theorem dH_over_24 : decode cH_over 24 = .ok (.if_icmp .ne 14, 3) := by decide +kernel
theorem dH_over_38 : decode cH_over 38 = .ok (.aload_n 0, 1) := by decide +kernel
theorem dH_over_39 : decode cH_over 39 = .ok (.getfield 70, 3) := by decide +kernel
theorem dH_over_42 : decode cH_over 42 = .ok (.iload_n 1, 1) := by decide +kernel
theorem dH_over_43 : decode cH_over 43 = .ok (.iload_n 2, 1) := by decide +kernel
theorem dH_over_44 : decode cH_over 44 = .ok (.invokevirtual 287, 3) := by decide +kernel
theorem mm_Mu_stepsOver : MMc yMu_stepsOver cMu_stepsOver 3 (some .int) 2 := ⟨hz_in 1259 (by decide +kernel) (by decide +kernel), hz_in 145 (by decide +kernel) (by decide +kernel), by decide +kernel, by decide⟩
theorem mv_Mu_stepsOver : MMv yMu_stepsOver 2 := ⟨hz_in 1257 (by decide +kernel) (by decide +kernel), hz_in 1258 (by decide +kernel) (by decide +kernel), _, _, rfl, by decide⟩
theorem ml_H_287 : Cond.methodLink "LastWordHill" 287 yMu_stepsOver ∈ hz_wt := hz_in 1256 (by decide +kernel) (by decide +kernel)
theorem dH_over_47 : decode cH_over 47 = .ok (.ireturn, 1) := by decide +kernel
theorem dH_over_27 : decode cH_over 27 = .ok (.aload_n 0, 1) := by decide +kernel
theorem dH_over_28 : decode cH_over 28 = .ok (.getfield 70, 3) := by decide +kernel
theorem dH_over_31 : decode cH_over 31 = .ok (.iload_n 1, 1) := by decide +kernel
theorem dH_over_32 : decode cH_over 32 = .ok (.invokevirtual 284, 3) := by decide +kernel
theorem mm_Mu_reachedFrom : MMc yMu_reachedFrom cMu_reachedFrom 4 (some .int) 1 := ⟨hz_in 1243 (by decide +kernel) (by decide +kernel), hz_in 145 (by decide +kernel) (by decide +kernel), by decide +kernel, by decide⟩
theorem mv_Mu_reachedFrom : MMv yMu_reachedFrom 2 := ⟨hz_in 1241 (by decide +kernel) (by decide +kernel), hz_in 1242 (by decide +kernel) (by decide +kernel), _, _, rfl, by decide⟩
theorem ml_H_284 : Cond.methodLink "LastWordHill" 284 yMu_reachedFrom ∈ hz_wt := hz_in 1240 (by decide +kernel) (by decide +kernel)
theorem dH_over_35 : decode cH_over 35 = .ok (.goto 12, 3) := by decide +kernel
def fH_over (v1 : Int32) (v2 : Int32) (s0 : Sg) : Option (Int32 × Sg) := bi (fH_within v1 0 7 s0) fun r2 s1 => if r2 = 0 then (some ((-1), s1)) else (bi (fH_within v2 (-1) 7 s1) fun r4 s3 => if r4 = 0 then (some ((-1), s3)) else (if v2 = (-1) then (bi (fMu_reachedFrom v1 s3) fun r8 s7 => some (r8, s7)) else (bi (fMu_stepsOver v1 v2 s3) fun r6 s5 => some (r6, s5))))
set_option maxHeartbeats 4000000 in
set_option maxRecDepth 100000 in
theorem okH_over (v1 : Int32) (v2 : Int32) (s0 : Sg) : ∀ (l : Launch) (w : WC), Ok l w yH_over cH_over 3 (some .int) 7 evI [.ref (w.ad 0), .int v1, .int v2] s0 (fH_over v1 v2 s0) := by
  refine ok_in (ev := fun _ => evI) (av := fun w => [.ref (w.ad 0), .int v1, .int v2]) "LastWordHill" rfl (by decide +kernel) (fun _ => rfl) (fun _ => Nat.le_of_ble_eq_true rfl) ?_
  intro C X E
  show GF C evI 0 [some (.ref (C.w.ad 0)), some (.int v1), some (.int v2)] [] s0 (fH_over v1 v2 s0)
  unfold fH_over
  refine g_iload_n X dH_over_0 rfl ?_
  refine g_iconst X 0 dH_over_1 (by decide) ?_
  refine g_bipush X 7 dH_over_2 (by decide) ?_
  refine g_statI X [.int v1, .int 0, .int 7] [] mm_H_within ms_H_within ml_H_81 (okH_within v1 0 7 s0 C.l C.w) rfl (by decide) rfl (Nat.le_of_ble_eq_true rfl) dH_over_4 (fun r2 s1 => ?_)
  refine g_zeq X (tgt := 20) dH_over_7 (by decide) ?_ ?_
  · refine g_iconst X (-1) dH_over_20 (by decide) ?_
    exact g_iret X E dH_over_21
  · refine g_iload_n X dH_over_10 rfl ?_
    refine g_iconst X (-1) dH_over_11 (by decide) ?_
    refine g_bipush X 7 dH_over_12 (by decide) ?_
    refine g_statI X [.int v2, .int (-1), .int 7] [] mm_H_within ms_H_within ml_H_81 (okH_within v2 (-1) 7 s1 C.l C.w) rfl (by decide) rfl (Nat.le_of_ble_eq_true rfl) dH_over_14 (fun r4 s3 => ?_)
    refine g_zne X (tgt := 22) dH_over_17 (by decide) ?_ ?_
    · refine g_iconst X (-1) dH_over_20 (by decide) ?_
      exact g_iret X E dH_over_21
    · refine g_iload_n X dH_over_22 rfl ?_
      refine g_iconst X (-1) dH_over_23 (by decide) ?_
      refine g_cne X (tgt := 38) dH_over_24 (by decide) ?_ ?_
      · refine g_aload_n X dH_over_27 rfl ?_
        refine g_getN X fl_H_70 fb_11_8 k_0 r_0_8 dH_over_28 ?_
        refine g_iload_n X dH_over_31 rfl ?_
        refine g_virtI X [.int v1] [] k_66 mm_Mu_reachedFrom mv_Mu_reachedFrom ml_H_284 (okMu_reachedFrom v1 s3 C.l C.w) rfl (by decide) rfl (Nat.le_of_ble_eq_true rfl) dH_over_32 (fun r8 s7 => ?_)
        refine g_goto X 47 dH_over_35 (by decide) ?_
        exact g_iret X E dH_over_47
      · refine g_aload_n X dH_over_38 rfl ?_
        refine g_getN X fl_H_70 fb_11_8 k_0 r_0_8 dH_over_39 ?_
        refine g_iload_n X dH_over_42 rfl ?_
        refine g_iload_n X dH_over_43 rfl ?_
        refine g_virtI X [.int v1, .int v2] [] k_66 mm_Mu_stepsOver mv_Mu_stepsOver ml_H_287 (okMu_stepsOver v1 v2 s3 C.l C.w) rfl (by decide) rfl (Nat.le_of_ble_eq_true rfl) dH_over_44 (fun r6 s5 => ?_)
        exact g_iret X E dH_over_47
def yRe_take : MethodName := ⟨"LastWordHill$Reader", "take", "(II)I"⟩
abbrev cRe_take : ByteArray := prog_6_method_2_code
theorem dRe_take_0 : decode cRe_take 0 = .ok (.aload_n 0, 1) := by decide +kernel
theorem dRe_take_1 : decode cRe_take 1 = .ok (.iconst 0, 1) := by decide +kernel
theorem dRe_take_2 : decode cRe_take 2 = .ok (.putfield 33, 3) := by decide +kernel
theorem dRe_take_5 : decode cRe_take 5 = .ok (.aload_n 0, 1) := by decide +kernel
theorem dRe_take_6 : decode cRe_take 6 = .ok (.iconst (-1), 1) := by decide +kernel
theorem dRe_take_7 : decode cRe_take 7 = .ok (.putfield 29, 3) := by decide +kernel
theorem dRe_take_10 : decode cRe_take 10 = .ok (.iload_n 1, 1) := by decide +kernel
theorem dRe_take_11 : decode cRe_take 11 = .ok (.iconst 0, 1) := by decide +kernel
theorem dRe_take_12 : decode cRe_take 12 = .ok (.iconst 3, 1) := by decide +kernel
theorem dRe_take_13 : decode cRe_take 13 = .ok (.invokestatic 36, 3) := by decide +kernel
theorem dRe_take_16 : decode cRe_take 16 = .ok (.istore_n 3, 1) := by decide +kernel
theorem dRe_take_17 : decode cRe_take 17 = .ok (.iload_n 3, 1) := by decide +kernel
theorem dRe_take_18 : decode cRe_take 18 = .ok (.ifCond .eq 22, 3) := by decide +kernel
theorem dRe_take_40 : decode cRe_take 40 = .ok (.iconst 0, 1) := by decide +kernel
theorem dRe_take_41 : decode cRe_take 41 = .ok (.istore 4, 2) := by decide +kernel
theorem dRe_take_43 : decode cRe_take 43 = .ok (.iload_n 3, 1) := by decide +kernel
theorem dRe_take_44 : decode cRe_take 44 = .ok (.ifCond .eq 74, 3) := by decide +kernel
theorem dRe_take_118 : decode cRe_take 118 = .ok (.aload_n 0, 1) := by decide +kernel
theorem dRe_take_119 : decode cRe_take 119 = .ok (.getfield 14, 3) := by decide +kernel
theorem dRe_take_122 : decode cRe_take 122 = .ok (.iconst 0, 1) := by decide +kernel
theorem dRe_take_123 : decode cRe_take 123 = .ok (.putfield 70, 3) := by decide +kernel
theorem fl_Re_70 : FLk "LastWordHill$Reader" 70 9 4 := ⟨_, _, _, rfl, by decide, hz_in 349 (by decide +kernel) (by decide +kernel), nL9, by decide, by decide⟩
theorem dRe_take_126 : decode cRe_take 126 = .ok (.iload_n 3, 1) := by decide +kernel
theorem dRe_take_127 : decode cRe_take 127 = .ok (.ifCond .eq 8, 3) := by decide +kernel
theorem dRe_take_135 : decode cRe_take 135 = .ok (.iconst (-1), 1) := by decide +kernel
theorem dRe_take_136 : decode cRe_take 136 = .ok (.ireturn, 1) := by decide +kernel
theorem dRe_take_130 : decode cRe_take 130 = .ok (.iload 4, 2) := by decide +kernel
theorem dRe_take_132 : decode cRe_take 132 = .ok (.goto 4, 3) := by decide +kernel
theorem dRe_take_47 : decode cRe_take 47 = .ok (.iload 4, 2) := by decide +kernel
theorem dRe_take_49 : decode cRe_take 49 = .ok (.bipush 16, 2) := by decide +kernel
theorem dRe_take_51 : decode cRe_take 51 = .ok (.if_icmp .gt 67, 3) := by decide +kernel
theorem dRe_take_54 : decode cRe_take 54 = .ok (.aload_n 0, 1) := by decide +kernel
theorem dRe_take_55 : decode cRe_take 55 = .ok (.getfield 14, 3) := by decide +kernel
theorem dRe_take_58 : decode cRe_take 58 = .ok (.getfield 52, 3) := by decide +kernel
theorem dRe_take_61 : decode cRe_take 61 = .ok (.ifCond .eq 57, 3) := by decide +kernel
theorem dRe_take_64 : decode cRe_take 64 = .ok (.aload_n 0, 1) := by decide +kernel
theorem dRe_take_65 : decode cRe_take 65 = .ok (.iload_n 1, 1) := by decide +kernel
theorem dRe_take_66 : decode cRe_take 66 = .ok (.iload 4, 2) := by decide +kernel
theorem dRe_take_68 : decode cRe_take 68 = .ok (.invokevirtual 55, 3) := by decide +kernel
theorem mm_Re_startsLine : MMc yRe_startsLine cRe_startsLine 4 (some .boolean) 2 := ⟨hz_in 982 (by decide +kernel) (by decide +kernel), hz_in 141 (by decide +kernel) (by decide +kernel), by decide +kernel, by decide⟩
theorem mv_Re_startsLine : MMv yRe_startsLine 4 := ⟨hz_in 981 (by decide +kernel) (by decide +kernel), hz_in 13 (by decide +kernel) (by decide +kernel), _, _, rfl, by decide⟩
theorem ml_Re_55 : Cond.methodLink "LastWordHill$Reader" 55 yRe_startsLine ∈ hz_wt := hz_in 979 (by decide +kernel) (by decide +kernel)
theorem dRe_take_71 : decode cRe_take 71 = .ok (.ifCond .eq 39, 3) := by decide +kernel
theorem dRe_take_111 : decode cRe_take 111 = .ok (.istore_n 3, 1) := by decide +kernel
theorem dRe_take_112 : decode cRe_take 112 = .ok (.iinc 4 1, 3) := by decide +kernel
theorem dRe_take_115 : decode cRe_take 115 = .ok (.goto (-72), 3) := by decide +kernel
theorem dRe_take_110 : decode cRe_take 110 = .ok (.iconst 0, 1) := by decide +kernel
theorem dRe_take_74 : decode cRe_take 74 = .ok (.iload_n 1, 1) := by decide +kernel
theorem dRe_take_75 : decode cRe_take 75 = .ok (.ifCond .ne 13, 3) := by decide +kernel
theorem dRe_take_97 : decode cRe_take 97 = .ok (.aload_n 0, 1) := by decide +kernel
theorem dRe_take_98 : decode cRe_take 98 = .ok (.bipush 59, 2) := by decide +kernel
theorem dRe_take_100 : decode cRe_take 100 = .ok (.invokevirtual 66, 3) := by decide +kernel
theorem dRe_take_103 : decode cRe_take 103 = .ok (.ifCond .eq 7, 3) := by decide +kernel
theorem dRe_take_106 : decode cRe_take 106 = .ok (.iconst 1, 1) := by decide +kernel
theorem dRe_take_107 : decode cRe_take 107 = .ok (.goto 4, 3) := by decide +kernel
theorem dRe_take_88 : decode cRe_take 88 = .ok (.aload_n 0, 1) := by decide +kernel
theorem dRe_take_89 : decode cRe_take 89 = .ok (.iload_n 1, 1) := by decide +kernel
theorem dRe_take_90 : decode cRe_take 90 = .ok (.iload_n 2, 1) := by decide +kernel
theorem dRe_take_91 : decode cRe_take 91 = .ok (.invokevirtual 63, 3) := by decide +kernel
theorem mm_Re_readPlainLine : MMc yRe_readPlainLine cRe_readPlainLine 3 (some .boolean) 2 := ⟨hz_in 1043 (by decide +kernel) (by decide +kernel), hz_in 141 (by decide +kernel) (by decide +kernel), by decide +kernel, by decide⟩
theorem mv_Re_readPlainLine : MMv yRe_readPlainLine 4 := ⟨hz_in 1042 (by decide +kernel) (by decide +kernel), hz_in 26 (by decide +kernel) (by decide +kernel), _, _, rfl, by decide⟩
theorem ml_Re_63 : Cond.methodLink "LastWordHill$Reader" 63 yRe_readPlainLine ∈ hz_wt := hz_in 1040 (by decide +kernel) (by decide +kernel)
theorem dRe_take_94 : decode cRe_take 94 = .ok (.ifCond .eq 16, 3) := by decide +kernel
theorem dRe_take_78 : decode cRe_take 78 = .ok (.aload_n 0, 1) := by decide +kernel
theorem dRe_take_79 : decode cRe_take 79 = .ok (.invokevirtual 59, 3) := by decide +kernel
theorem mm_Re_readLawLine : MMc yRe_readLawLine cRe_readLawLine 4 (some .boolean) 0 := ⟨hz_in 990 (by decide +kernel) (by decide +kernel), hz_in 141 (by decide +kernel) (by decide +kernel), by decide +kernel, by decide⟩
theorem mv_Re_readLawLine : MMv yRe_readLawLine 4 := ⟨hz_in 989 (by decide +kernel) (by decide +kernel), hz_in 15 (by decide +kernel) (by decide +kernel), _, _, rfl, by decide⟩
theorem ml_Re_59 : Cond.methodLink "LastWordHill$Reader" 59 yRe_readLawLine ∈ hz_wt := hz_in 987 (by decide +kernel) (by decide +kernel)
theorem dRe_take_82 : decode cRe_take 82 = .ok (.ifCond .eq 28, 3) := by decide +kernel
theorem dRe_take_85 : decode cRe_take 85 = .ok (.goto 12, 3) := by decide +kernel
theorem dRe_take_21 : decode cRe_take 21 = .ok (.aload_n 0, 1) := by decide +kernel
theorem dRe_take_22 : decode cRe_take 22 = .ok (.getfield 21, 3) := by decide +kernel
theorem dRe_take_25 : decode cRe_take 25 = .ok (.iload_n 1, 1) := by decide +kernel
theorem dRe_take_26 : decode cRe_take 26 = .ok (.invokevirtual 40, 3) := by decide +kernel
theorem mm_Te_clear : MMc yTe_clear cTe_clear 2 none 1 := ⟨hz_in 809 (by decide +kernel) (by decide +kernel), hz_in 137 (by decide +kernel) (by decide +kernel), by decide +kernel, by decide⟩
theorem mv_Te_clear : MMv yTe_clear 8 := ⟨hz_in 807 (by decide +kernel) (by decide +kernel), hz_in 808 (by decide +kernel) (by decide +kernel), _, _, rfl, by decide⟩
theorem ml_Re_40 : Cond.methodLink "LastWordHill$Reader" 40 yTe_clear ∈ hz_wt := hz_in 806 (by decide +kernel) (by decide +kernel)
theorem dRe_take_29 : decode cRe_take 29 = .ok (.aload_n 0, 1) := by decide +kernel
theorem dRe_take_30 : decode cRe_take 30 = .ok (.getfield 14, 3) := by decide +kernel
theorem dRe_take_33 : decode cRe_take 33 = .ok (.iload_n 1, 1) := by decide +kernel
theorem dRe_take_34 : decode cRe_take 34 = .ok (.invokestatic 44, 3) := by decide +kernel
theorem mm_Re_keywordsOf : MMc yRe_keywordsOf cRe_keywordsOf 1 (some (.object "java/lang/String")) 1 := ⟨hz_in 824 (by decide +kernel) (by decide +kernel), hz_in 141 (by decide +kernel) (by decide +kernel), by decide +kernel, by decide⟩
theorem ms_Re_keywordsOf : Cond.static yRe_keywordsOf ∈ hz_wt := hz_in 823 (by decide +kernel) (by decide +kernel)
theorem ml_Re_44 : Cond.methodLink "LastWordHill$Reader" 44 yRe_keywordsOf ∈ hz_wt := hz_in 822 (by decide +kernel) (by decide +kernel)
theorem dRe_take_37 : decode cRe_take 37 = .ok (.invokevirtual 48, 3) := by decide +kernel
theorem mm_To_scan : MMc yTo_scan cTo_scan 5 none 1 := ⟨hz_in 832 (by decide +kernel) (by decide +kernel), hz_in 142 (by decide +kernel) (by decide +kernel), by decide +kernel, by decide⟩
theorem mv_To_scan : MMv yTo_scan 9 := ⟨hz_in 830 (by decide +kernel) (by decide +kernel), hz_in 831 (by decide +kernel) (by decide +kernel), _, _, rfl, by decide⟩
theorem ml_Re_48 : Cond.methodLink "LastWordHill$Reader" 48 yTo_scan ∈ hz_wt := hz_in 829 (by decide +kernel) (by decide +kernel)
def fRe_take (v1 : Int32) (v2 : Int32) (s0 : Sg) : Option (Int32 × Sg) := bnd (pt s0 30 3 0) fun s1 => bnd (pt s1 30 4 (-1)) fun s2 => bi (fH_within v1 0 3 s2) fun r4 s3 => bnd (fun (s5 : Sg) => lp FU (fun q43 (u43 : Int32 × Int32) (s6 : Sg) => bnd (fun (s7 : Sg) => bnd (pt s7 31 4 0) fun s8 => if u43.1 = 0 then (some ((-1), s8)) else (some (u43.2, s8))) fun j118 => if u43.1 = 0 then (j118 s6) else (if 16 < u43.2 then (j118 s6) else (if (s6 31 7) = 0 then (j118 s6) else (bi (fRe_startsLine v1 u43.2 s6) fun r10 s9 => bnd (fun (b111_0 : Int32) (s11 : Sg) => q43 (b111_0, (u43.2 + 1)) s11) fun j111 => bnd (fun (s12 : Sg) => j111 0 s12) fun j110 => if r10 = 0 then (j110 s9) else (bnd (fun (s13 : Sg) => bi (fRe_skip 59 s13) fun r15 s14 => if r15 = 0 then (j110 s14) else (j111 1 s14)) fun j97 => if v1 = 0 then (bi (fRe_readLawLine s9) fun r19 s18 => if r19 = 0 then (j110 s18) else (j97 s18)) else (bi (fRe_readPlainLine v1 v2 s9) fun r17 s16 => if r17 = 0 then (j110 s16) else (j97 s16))))))) (r4, 0) s5) fun j40 => if r4 = 0 then (j40 s3) else (bv (fTe_clear 36 v1 s3) fun s20 => br (fRe_keywordsOf v1 s20) fun r22 s21 => gs r22 (bv (fTo_scan r22 s21) fun s24 => j40 s24))
set_option maxHeartbeats 4000000 in
set_option maxRecDepth 100000 in
theorem okRe_take (v1 : Int32) (v2 : Int32) (s0 : Sg) : ∀ (l : Launch) (w : WC), Ok l w yRe_take cRe_take 5 (some .int) 8 evI [.ref (w.ad 30), .int v1, .int v2] s0 (fRe_take v1 v2 s0) := by
  refine ok_in (ev := fun _ => evI) (av := fun w => [.ref (w.ad 30), .int v1, .int v2]) "LastWordHill$Reader" rfl (by decide +kernel) (fun _ => rfl) (fun _ => Nat.le_of_ble_eq_true rfl) ?_
  intro C X E
  show GF C evI 0 [some (.ref (C.w.ad 30)), some (.int v1), some (.int v2), none, none] [] s0 (fRe_take v1 v2 s0)
  unfold fRe_take
  refine g_aload_n X dRe_take_0 rfl ?_
  refine g_iconst X 0 dRe_take_1 (by decide) ?_
  refine g_putI X fl_Re_33 fb_4_3 fp_4_3 k_30 dRe_take_2 (fun s1 => ?_)
  refine g_aload_n X dRe_take_5 rfl ?_
  refine g_iconst X (-1) dRe_take_6 (by decide) ?_
  refine g_putI X fl_Re_29 fb_4_4 fp_4_4 k_30 dRe_take_7 (fun s2 => ?_)
  refine g_iload_n X dRe_take_10 rfl ?_
  refine g_iconst X 0 dRe_take_11 (by decide) ?_
  refine g_iconst X 3 dRe_take_12 (by decide) ?_
  refine g_nestI X [.int v1, .int 0, .int 3] [] mm_H_within ms_H_within ml_Re_36 (okH_within v1 0 3 s2 C.l C.w) rfl (by decide) rfl (Nat.le_of_ble_eq_true rfl) dRe_take_13 (fun r4 s3 => ?_)
  refine g_istore_n X [some (.ref (C.w.ad 30)), some (.int v1), some (.int v2), some (.int r4), none] dRe_take_16 (by decide) (Nat.le_of_ble_eq_true rfl) rfl ?_
  refine g_iload_n X dRe_take_17 rfl ?_
  refine gf_jn (fun j40 => ∀ (s5 : Sg), GF C evI 40 [some (.ref (C.w.ad 30)), some (.int v1), some (.int v2), some (.int r4), none] [] s5 (j40 s5)) ?_ ?_
  · intro s5
    refine g_iconst X 0 dRe_take_40 (by decide) ?_
    refine g_istore X [some (.ref (C.w.ad 30)), some (.int v1), some (.int v2), some (.int r4), some (.int 0)] dRe_take_41 (by decide) (Nat.le_of_ble_eq_true rfl) rfl ?_
    refine gf_sub (L' := [some (.ref (C.w.ad 30)), some (.int v1), some (.int v2), some (.int r4), some (.int 0)]) ?_ (by simp [lsub])
    refine gf_lp (Lf := fun (u43 : Int32 × Int32) => [some (.ref (C.w.ad 30)), some (.int v1), some (.int v2), some (.int u43.1), some (.int u43.2)]) (fun q43 hq43 u43 s6 => ?_) FU (r4, 0) s5
    refine g_iload_n X dRe_take_43 rfl ?_
    refine gf_jn (fun j118 => ∀ (s7 : Sg), GF C evI 118 [some (.ref (C.w.ad 30)), none, none, some (.int u43.1), some (.int u43.2)] [] s7 (j118 s7)) ?_ ?_
    · intro s7
      refine g_aload_n X dRe_take_118 rfl ?_
      refine g_getN X fl_Re_14 fb_4_0 k_30 r_30_0 dRe_take_119 ?_
      refine g_iconst X 0 dRe_take_122 (by decide) ?_
      refine g_putI X fl_Re_70 fb_9_4 fp_9_4 k_31 dRe_take_123 (fun s8 => ?_)
      refine g_iload_n X dRe_take_126 rfl ?_
      refine g_zeq X (tgt := 135) dRe_take_127 (by decide) ?_ ?_
      · refine g_iconst X (-1) dRe_take_135 (by decide) ?_
        exact g_iret X E dRe_take_136
      · refine g_iload X dRe_take_130 rfl ?_
        refine g_goto X 136 dRe_take_132 (by decide) ?_
        exact g_iret X E dRe_take_136
    · intro j118 hj118
      refine g_zeq X (tgt := 118) dRe_take_44 (by decide) ?_ ?_
      · exact gf_sub (hj118 s6) (by simp [lsub])
      · refine g_iload X dRe_take_47 rfl ?_
        refine g_bipush X 16 dRe_take_49 (by decide) ?_
        refine g_cgt X (tgt := 118) dRe_take_51 (by decide) ?_ ?_
        · exact gf_sub (hj118 s6) (by simp [lsub])
        · refine g_aload_n X dRe_take_54 rfl ?_
          refine g_getN X fl_Re_14 fb_4_0 k_30 r_30_0 dRe_take_55 ?_
          refine g_getI X fl_Re_52 fb_9_7 k_31 dRe_take_58 ?_
          refine g_zeq X (tgt := 118) dRe_take_61 (by decide) ?_ ?_
          · exact gf_sub (hj118 s6) (by simp [lsub])
          · refine g_aload_n X dRe_take_64 rfl ?_
            refine g_iload_n X dRe_take_65 rfl ?_
            refine g_iload X dRe_take_66 rfl ?_
            refine g_virtI X [.int v1, .int u43.2] [] k_30 mm_Re_startsLine mv_Re_startsLine ml_Re_55 (okRe_startsLine v1 u43.2 s6 C.l C.w) rfl (by decide) rfl (Nat.le_of_ble_eq_true rfl) dRe_take_68 (fun r10 s9 => ?_)
            refine gf_jn (fun j111 => ∀ (b111_0 : Int32) (s11 : Sg), GF C evI 111 [some (.ref (C.w.ad 30)), some (.int v1), some (.int v2), none, some (.int u43.2)] [.int b111_0] s11 (j111 b111_0 s11)) ?_ ?_
            · intro b111_0 s11
              refine g_istore_n X [some (.ref (C.w.ad 30)), some (.int v1), some (.int v2), some (.int b111_0), some (.int u43.2)] dRe_take_111 (by decide) (Nat.le_of_ble_eq_true rfl) rfl ?_
              refine g_iinc X (u43.2 + 1) [some (.ref (C.w.ad 30)), some (.int v1), some (.int v2), some (.int b111_0), some (.int (u43.2 + 1))] dRe_take_112 rfl rfl (by decide) rfl ?_
              refine g_goto X 43 dRe_take_115 (by decide) ?_
              exact gf_sub (hq43 (b111_0, (u43.2 + 1)) s11) (by simp [lsub])
            · intro j111 hj111
              refine gf_jn (fun j110 => ∀ (s12 : Sg), GF C evI 110 [some (.ref (C.w.ad 30)), some (.int v1), some (.int v2), none, some (.int u43.2)] [] s12 (j110 s12)) ?_ ?_
              · intro s12
                refine g_iconst X 0 dRe_take_110 (by decide) ?_
                exact gf_sub (hj111 0 s12) (by simp [lsub])
              · intro j110 hj110
                refine g_zeq X (tgt := 110) dRe_take_71 (by decide) ?_ ?_
                · exact gf_sub (hj110 s9) (by simp [lsub])
                · refine g_iload_n X dRe_take_74 rfl ?_
                  refine gf_jn (fun j97 => ∀ (s13 : Sg), GF C evI 97 [some (.ref (C.w.ad 30)), some (.int v1), some (.int v2), none, some (.int u43.2)] [] s13 (j97 s13)) ?_ ?_
                  · intro s13
                    refine g_aload_n X dRe_take_97 rfl ?_
                    refine g_bipush X 59 dRe_take_98 (by decide) ?_
                    refine g_virtI X [.int 59] [] k_30 mm_Re_skip mv_Re_skip ml_Re_66 (okRe_skip 59 s13 C.l C.w) rfl (by decide) rfl (Nat.le_of_ble_eq_true rfl) dRe_take_100 (fun r15 s14 => ?_)
                    refine g_zeq X (tgt := 110) dRe_take_103 (by decide) ?_ ?_
                    · exact gf_sub (hj110 s14) (by simp [lsub])
                    · refine g_iconst X 1 dRe_take_106 (by decide) ?_
                      refine g_goto X 111 dRe_take_107 (by decide) ?_
                      exact gf_sub (hj111 1 s14) (by simp [lsub])
                  · intro j97 hj97
                    refine g_zne X (tgt := 88) dRe_take_75 (by decide) ?_ ?_
                    · refine g_aload_n X dRe_take_78 rfl ?_
                      refine g_virtI X [] [] k_30 mm_Re_readLawLine mv_Re_readLawLine ml_Re_59 (okRe_readLawLine s9 C.l C.w) rfl (by decide) rfl (Nat.le_of_ble_eq_true rfl) dRe_take_79 (fun r19 s18 => ?_)
                      refine g_zeq X (tgt := 110) dRe_take_82 (by decide) ?_ ?_
                      · exact gf_sub (hj110 s18) (by simp [lsub])
                      · refine g_goto X 97 dRe_take_85 (by decide) ?_
                        exact gf_sub (hj97 s18) (by simp [lsub])
                    · refine g_aload_n X dRe_take_88 rfl ?_
                      refine g_iload_n X dRe_take_89 rfl ?_
                      refine g_iload_n X dRe_take_90 rfl ?_
                      refine g_virtI X [.int v1, .int v2] [] k_30 mm_Re_readPlainLine mv_Re_readPlainLine ml_Re_63 (okRe_readPlainLine v1 v2 s9 C.l C.w) rfl (by decide) rfl (Nat.le_of_ble_eq_true rfl) dRe_take_91 (fun r17 s16 => ?_)
                      refine g_zeq X (tgt := 110) dRe_take_94 (by decide) ?_ ?_
                      · exact gf_sub (hj110 s16) (by simp [lsub])
                      · exact gf_sub (hj97 s16) (by simp [lsub])
  · intro j40 hj40
    refine g_zeq X (tgt := 40) dRe_take_18 (by decide) ?_ ?_
    · exact gf_sub (hj40 s3) (by simp [lsub])
    · refine g_aload_n X dRe_take_21 rfl ?_
      refine g_getN X fl_Re_21 fb_4_1 k_30 r_30_1 dRe_take_22 ?_
      refine g_iload_n X dRe_take_25 rfl ?_
      refine g_virtV X [.int v1] [] k_36 mm_Te_clear mv_Te_clear ml_Re_40 (okTe_clear 36 v1 s3 k_36 C.l C.w) rfl (by decide) rfl (Nat.le_of_ble_eq_true rfl) dRe_take_26 (fun s20 => ?_)
      refine g_aload_n X dRe_take_29 rfl ?_
      refine g_getN X fl_Re_14 fb_4_0 k_30 r_30_0 dRe_take_30 ?_
      refine g_iload_n X dRe_take_33 rfl ?_
      refine g_statS X [.int v1] [.ref (C.w.ad 31)] mm_Re_keywordsOf ms_Re_keywordsOf ml_Re_44 (okRe_keywordsOf v1 s20 C.l C.w) rfl (by decide) rfl (Nat.le_of_ble_eq_true rfl) dRe_take_34 (fun r22 s21 => ?_)
      refine gf_gs (fun hr23 => ?_)
      refine g_virtV X [.ref (C.w.aK r22)] [] k_31 mm_To_scan mv_To_scan ml_Re_48 (okTo_scan r22 s21 hr23 C.l C.w) rfl (by decide) rfl (Nat.le_of_ble_eq_true rfl) dRe_take_37 (fun s24 => ?_)
      exact gf_sub (hj40 s24) (by simp [lsub])
def yH_text : MethodName := ⟨"LastWordHill", "text", "(I)I"⟩
abbrev cH_text : ByteArray := prog_1_method_14_code
theorem dH_text_0 : decode cH_text 0 = .ok (.aload_n 0, 1) := by decide +kernel
theorem dH_text_1 : decode cH_text 1 = .ok (.getfield 36, 3) := by decide +kernel
theorem dH_text_4 : decode cH_text 4 = .ok (.iload_n 1, 1) := by decide +kernel
theorem dH_text_5 : decode cH_text 5 = .ok (.aload_n 0, 1) := by decide +kernel
theorem dH_text_6 : decode cH_text 6 = .ok (.getfield 12, 3) := by decide +kernel
theorem dH_text_9 : decode cH_text 9 = .ok (.getfield 103, 3) := by decide +kernel
theorem dH_text_12 : decode cH_text 12 = .ok (.invokevirtual 182, 3) := by decide +kernel
theorem mm_Re_take : MMc yRe_take cRe_take 5 (some .int) 2 := ⟨hz_in 804 (by decide +kernel) (by decide +kernel), hz_in 141 (by decide +kernel) (by decide +kernel), by decide +kernel, by decide⟩
theorem mv_Re_take : MMv yRe_take 4 := ⟨hz_in 802 (by decide +kernel) (by decide +kernel), hz_in 803 (by decide +kernel) (by decide +kernel), _, _, rfl, by decide⟩
theorem ml_H_182 : Cond.methodLink "LastWordHill" 182 yRe_take ∈ hz_wt := hz_in 801 (by decide +kernel) (by decide +kernel)
theorem dH_text_15 : decode cH_text 15 = .ok (.istore_n 2, 1) := by decide +kernel
theorem dH_text_16 : decode cH_text 16 = .ok (.iload_n 2, 1) := by decide +kernel
theorem dH_text_17 : decode cH_text 17 = .ok (.iconst (-1), 1) := by decide +kernel
theorem dH_text_18 : decode cH_text 18 = .ok (.if_icmp .ne 5, 3) := by decide +kernel
theorem dH_text_23 : decode cH_text 23 = .ok (.aload_n 0, 1) := by decide +kernel
theorem dH_text_24 : decode cH_text 24 = .ok (.getfield 29, 3) := by decide +kernel
theorem dH_text_27 : decode cH_text 27 = .ok (.iload_n 1, 1) := by decide +kernel
theorem dH_text_28 : decode cH_text 28 = .ok (.aload_n 0, 1) := by decide +kernel
theorem dH_text_29 : decode cH_text 29 = .ok (.getfield 36, 3) := by decide +kernel
theorem dH_text_32 : decode cH_text 32 = .ok (.getfield 185, 3) := by decide +kernel
theorem fl_H_185 : FLk "LastWordHill" 185 4 1 := ⟨_, _, _, rfl, by decide, hz_in 386 (by decide +kernel) (by decide +kernel), nL4, by decide, by decide⟩
theorem dH_text_35 : decode cH_text 35 = .ok (.invokevirtual 188, 3) := by decide +kernel
theorem ml_H_188 : Cond.methodLink "LastWordHill" 188 yTe_adopt ∈ hz_wt := hz_in 1069 (by decide +kernel) (by decide +kernel)
theorem dH_text_38 : decode cH_text 38 = .ok (.iload_n 1, 1) := by decide +kernel
theorem dH_text_39 : decode cH_text 39 = .ok (.iconst 1, 1) := by decide +kernel
theorem dH_text_40 : decode cH_text 40 = .ok (.if_icmp .eq 8, 3) := by decide +kernel
theorem dH_text_48 : decode cH_text 48 = .ok (.aload_n 0, 1) := by decide +kernel
theorem dH_text_49 : decode cH_text 49 = .ok (.getfield 22, 3) := by decide +kernel
theorem dH_text_52 : decode cH_text 52 = .ok (.invokevirtual 96, 3) := by decide +kernel
theorem dH_text_55 : decode cH_text 55 = .ok (.iload_n 2, 1) := by decide +kernel
theorem dH_text_56 : decode cH_text 56 = .ok (.ireturn, 1) := by decide +kernel
theorem dH_text_43 : decode cH_text 43 = .ok (.iload_n 1, 1) := by decide +kernel
theorem dH_text_44 : decode cH_text 44 = .ok (.iconst 2, 1) := by decide +kernel
theorem dH_text_45 : decode cH_text 45 = .ok (.if_icmp .ne 10, 3) := by decide +kernel
theorem dH_text_21 : decode cH_text 21 = .ok (.iconst (-1), 1) := by decide +kernel
theorem dH_text_22 : decode cH_text 22 = .ok (.ireturn, 1) := by decide +kernel
def fH_text (v1 : Int32) (s0 : Sg) : Option (Int32 × Sg) := bi (fRe_take v1 (s0 1 1) s0) fun r2 s1 => if r2 = (-1) then (some ((-1), s1)) else (bv (fTe_adopt 19 v1 36 s1) fun s3 => bnd (fun (s4 : Sg) => bv (fPa_forget s4) fun s5 => some (r2, s5)) fun j48 => if v1 = 1 then (j48 s3) else (if v1 = 2 then (j48 s3) else (some (r2, s3))))
set_option maxHeartbeats 4000000 in
set_option maxRecDepth 100000 in
theorem okH_text (v1 : Int32) (s0 : Sg) : ∀ (l : Launch) (w : WC), Ok l w yH_text cH_text 3 (some .int) 9 evI [.ref (w.ad 0), .int v1] s0 (fH_text v1 s0) := by
  refine ok_in (ev := fun _ => evI) (av := fun w => [.ref (w.ad 0), .int v1]) "LastWordHill" rfl (by decide +kernel) (fun _ => rfl) (fun _ => Nat.le_of_ble_eq_true rfl) ?_
  intro C X E
  show GF C evI 0 [some (.ref (C.w.ad 0)), some (.int v1), none] [] s0 (fH_text v1 s0)
  unfold fH_text
  refine g_aload_n X dH_text_0 rfl ?_
  refine g_getN X fl_H_36 fb_11_4 k_0 r_0_4 dH_text_1 ?_
  refine g_iload_n X dH_text_4 rfl ?_
  refine g_aload_n X dH_text_5 rfl ?_
  refine g_getN X fl_H_12 fb_11_0 k_0 r_0_0 dH_text_6 ?_
  refine g_getI X fl_H_103 fb_5_1 k_1 dH_text_9 ?_
  refine g_virtI X [.int v1, .int (s0 1 1)] [] k_30 mm_Re_take mv_Re_take ml_H_182 (okRe_take v1 (s0 1 1) s0 C.l C.w) rfl (by decide) rfl (Nat.le_of_ble_eq_true rfl) dH_text_12 (fun r2 s1 => ?_)
  refine g_istore_n X [some (.ref (C.w.ad 0)), some (.int v1), some (.int r2)] dH_text_15 (by decide) (Nat.le_of_ble_eq_true rfl) rfl ?_
  refine g_iload_n X dH_text_16 rfl ?_
  refine g_iconst X (-1) dH_text_17 (by decide) ?_
  refine g_cne X (tgt := 23) dH_text_18 (by decide) ?_ ?_
  · refine g_iconst X (-1) dH_text_21 (by decide) ?_
    exact g_iret X E dH_text_22
  · refine g_aload_n X dH_text_23 rfl ?_
    refine g_getN X fl_H_29 fb_11_3 k_0 r_0_3 dH_text_24 ?_
    refine g_iload_n X dH_text_27 rfl ?_
    refine g_aload_n X dH_text_28 rfl ?_
    refine g_getN X fl_H_36 fb_11_4 k_0 r_0_4 dH_text_29 ?_
    refine g_getN X fl_H_185 fb_4_1 k_30 r_30_1 dH_text_32 ?_
    refine g_virtV X [.int v1, .ref (C.w.ad 36)] [] k_19 mm_Te_adopt mv_Te_adopt ml_H_188 (okTe_adopt 19 v1 36 s1 k_19 k_36 C.l C.w) rfl (by decide) rfl (Nat.le_of_ble_eq_true rfl) dH_text_35 (fun s3 => ?_)
    refine g_iload_n X dH_text_38 rfl ?_
    refine g_iconst X 1 dH_text_39 (by decide) ?_
    refine gf_jn (fun j48 => ∀ (s4 : Sg), GF C evI 48 [some (.ref (C.w.ad 0)), none, some (.int r2)] [] s4 (j48 s4)) ?_ ?_
    · intro s4
      refine g_aload_n X dH_text_48 rfl ?_
      refine g_getN X fl_H_22 fb_11_2 k_0 r_0_2 dH_text_49 ?_
      refine g_virtV X [] [] k_5 mm_Pa_forget mv_Pa_forget ml_H_96 (okPa_forget s4 C.l C.w) rfl (by decide) rfl (Nat.le_of_ble_eq_true rfl) dH_text_52 (fun s5 => ?_)
      refine g_iload_n X dH_text_55 rfl ?_
      exact g_iret X E dH_text_56
    · intro j48 hj48
      refine g_ceq X (tgt := 48) dH_text_40 (by decide) ?_ ?_
      · exact gf_sub (hj48 s3) (by simp [lsub])
      · refine g_iload_n X dH_text_43 rfl ?_
        refine g_iconst X 2 dH_text_44 (by decide) ?_
        refine g_cne X (tgt := 55) dH_text_45 (by decide) ?_ ?_
        · exact gf_sub (hj48 s3) (by simp [lsub])
        · refine g_iload_n X dH_text_55 rfl ?_
          exact g_iret X E dH_text_56
