def yM_readClimb : MethodName := ⟨"LastWordHillModel", "readClimb", "(I)I"⟩
abbrev cM_readClimb : ByteArray := prog_14_method_51_code
theorem dM_readClimb_0 : decode cM_readClimb 0 = .ok (.aload_n 0, 1) := by decide +kernel
theorem dM_readClimb_1 : decode cM_readClimb 1 = .ok (.getfield 65, 3) := by decide +kernel
theorem fl_M_65 : FLk "LastWordHillModel" 65 12 35 := ⟨_, _, _, rfl, by decide, hz_in 1447 (by decide +kernel) (by decide +kernel), nL12, by decide, by decide⟩
theorem k_120 : hz_kd 120 = 13 := by decide
theorem fb_12_35 : (hz_bs 12)[35]? = some true := by decide
theorem r_102_35 : hz_rf 102 35 = 120 := by decide
theorem dM_readClimb_4 : decode cM_readClimb 4 = .ok (.iload_n 1, 1) := by decide +kernel
theorem dM_readClimb_5 : decode cM_readClimb 5 = .ok (.aload_n 0, 1) := by decide +kernel
theorem dM_readClimb_6 : decode cM_readClimb 6 = .ok (.bipush 16, 2) := by decide +kernel
theorem dM_readClimb_8 : decode cM_readClimb 8 = .ok (.iconst 0, 1) := by decide +kernel
theorem dM_readClimb_9 : decode cM_readClimb 9 = .ok (.sipush 999, 3) := by decide +kernel
theorem dM_readClimb_12 : decode cM_readClimb 12 = .ok (.invokevirtual 269, 3) := by decide +kernel
theorem mm_M_readTold : MMc yM_readTold cM_readTold 4 (some .int) 3 := ⟨hz_in 1722 (by decide +kernel) (by decide +kernel), hz_in 147 (by decide +kernel) (by decide +kernel), by decide +kernel, by decide⟩
theorem mv_M_readTold : MMv yM_readTold 12 := ⟨hz_in 1721 (by decide +kernel) (by decide +kernel), hz_in 66 (by decide +kernel) (by decide +kernel), _, _, rfl, by decide⟩
theorem ml_M_269 : Cond.methodLink "LastWordHillModel" 269 yM_readTold ∈ hz_wt := hz_in 1719 (by decide +kernel) (by decide +kernel)
theorem dM_readClimb_15 : decode cM_readClimb 15 = .ok (.iastore, 1) := by decide +kernel
theorem ln_120 : hz_ln 120 = 128 := by decide
theorem dM_readClimb_16 : decode cM_readClimb 16 = .ok (.aload_n 0, 1) := by decide +kernel
theorem dM_readClimb_17 : decode cM_readClimb 17 = .ok (.getfield 65, 3) := by decide +kernel
theorem dM_readClimb_20 : decode cM_readClimb 20 = .ok (.iload_n 1, 1) := by decide +kernel
theorem dM_readClimb_21 : decode cM_readClimb 21 = .ok (.iaload, 1) := by decide +kernel
theorem dM_readClimb_22 : decode cM_readClimb 22 = .ok (.iconst (-1), 1) := by decide +kernel
theorem dM_readClimb_23 : decode cM_readClimb 23 = .ok (.if_icmp .ne 5, 3) := by decide +kernel
theorem dM_readClimb_28 : decode cM_readClimb 28 = .ok (.aload_n 0, 1) := by decide +kernel
theorem dM_readClimb_29 : decode cM_readClimb 29 = .ok (.getfield 65, 3) := by decide +kernel
theorem dM_readClimb_32 : decode cM_readClimb 32 = .ok (.iload_n 1, 1) := by decide +kernel
theorem dM_readClimb_33 : decode cM_readClimb 33 = .ok (.iconst 1, 1) := by decide +kernel
theorem dM_readClimb_34 : decode cM_readClimb 34 = .ok (.iadd, 1) := by decide +kernel
theorem dM_readClimb_35 : decode cM_readClimb 35 = .ok (.aload_n 0, 1) := by decide +kernel
theorem dM_readClimb_36 : decode cM_readClimb 36 = .ok (.bipush 17, 2) := by decide +kernel
theorem dM_readClimb_38 : decode cM_readClimb 38 = .ok (.iconst 0, 1) := by decide +kernel
theorem dM_readClimb_39 : decode cM_readClimb 39 = .ok (.aload_n 0, 1) := by decide +kernel
theorem dM_readClimb_40 : decode cM_readClimb 40 = .ok (.getfield 146, 3) := by decide +kernel
theorem dM_readClimb_43 : decode cM_readClimb 43 = .ok (.iconst 1, 1) := by decide +kernel
theorem dM_readClimb_44 : decode cM_readClimb 44 = .ok (.isub, 1) := by decide +kernel
theorem dM_readClimb_45 : decode cM_readClimb 45 = .ok (.invokevirtual 269, 3) := by decide +kernel
theorem dM_readClimb_48 : decode cM_readClimb 48 = .ok (.iastore, 1) := by decide +kernel
theorem dM_readClimb_49 : decode cM_readClimb 49 = .ok (.aload_n 0, 1) := by decide +kernel
theorem dM_readClimb_50 : decode cM_readClimb 50 = .ok (.getfield 65, 3) := by decide +kernel
theorem dM_readClimb_53 : decode cM_readClimb 53 = .ok (.iload_n 1, 1) := by decide +kernel
theorem dM_readClimb_54 : decode cM_readClimb 54 = .ok (.iconst 1, 1) := by decide +kernel
theorem dM_readClimb_55 : decode cM_readClimb 55 = .ok (.iadd, 1) := by decide +kernel
theorem dM_readClimb_56 : decode cM_readClimb 56 = .ok (.iaload, 1) := by decide +kernel
theorem dM_readClimb_57 : decode cM_readClimb 57 = .ok (.iconst (-1), 1) := by decide +kernel
theorem dM_readClimb_58 : decode cM_readClimb 58 = .ok (.if_icmp .ne 5, 3) := by decide +kernel
theorem dM_readClimb_63 : decode cM_readClimb 63 = .ok (.aload_n 0, 1) := by decide +kernel
theorem dM_readClimb_64 : decode cM_readClimb 64 = .ok (.getfield 65, 3) := by decide +kernel
theorem dM_readClimb_67 : decode cM_readClimb 67 = .ok (.iload_n 1, 1) := by decide +kernel
theorem dM_readClimb_68 : decode cM_readClimb 68 = .ok (.iconst 2, 1) := by decide +kernel
theorem dM_readClimb_69 : decode cM_readClimb 69 = .ok (.iadd, 1) := by decide +kernel
theorem dM_readClimb_70 : decode cM_readClimb 70 = .ok (.aload_n 0, 1) := by decide +kernel
theorem dM_readClimb_71 : decode cM_readClimb 71 = .ok (.bipush 18, 2) := by decide +kernel
theorem dM_readClimb_73 : decode cM_readClimb 73 = .ok (.iconst 0, 1) := by decide +kernel
theorem dM_readClimb_74 : decode cM_readClimb 74 = .ok (.bipush 19, 2) := by decide +kernel
theorem dM_readClimb_76 : decode cM_readClimb 76 = .ok (.invokevirtual 269, 3) := by decide +kernel
theorem dM_readClimb_79 : decode cM_readClimb 79 = .ok (.iastore, 1) := by decide +kernel
theorem dM_readClimb_80 : decode cM_readClimb 80 = .ok (.aload_n 0, 1) := by decide +kernel
theorem dM_readClimb_81 : decode cM_readClimb 81 = .ok (.getfield 65, 3) := by decide +kernel
theorem dM_readClimb_84 : decode cM_readClimb 84 = .ok (.iload_n 1, 1) := by decide +kernel
theorem dM_readClimb_85 : decode cM_readClimb 85 = .ok (.iconst 2, 1) := by decide +kernel
theorem dM_readClimb_86 : decode cM_readClimb 86 = .ok (.iadd, 1) := by decide +kernel
theorem dM_readClimb_87 : decode cM_readClimb 87 = .ok (.iaload, 1) := by decide +kernel
theorem dM_readClimb_88 : decode cM_readClimb 88 = .ok (.iconst (-1), 1) := by decide +kernel
theorem dM_readClimb_89 : decode cM_readClimb 89 = .ok (.if_icmp .ne 5, 3) := by decide +kernel
theorem dM_readClimb_94 : decode cM_readClimb 94 = .ok (.aload_n 0, 1) := by decide +kernel
theorem dM_readClimb_95 : decode cM_readClimb 95 = .ok (.getfield 65, 3) := by decide +kernel
theorem dM_readClimb_98 : decode cM_readClimb 98 = .ok (.iload_n 1, 1) := by decide +kernel
theorem dM_readClimb_99 : decode cM_readClimb 99 = .ok (.iconst 3, 1) := by decide +kernel
theorem dM_readClimb_100 : decode cM_readClimb 100 = .ok (.iadd, 1) := by decide +kernel
theorem dM_readClimb_101 : decode cM_readClimb 101 = .ok (.aload_n 0, 1) := by decide +kernel
theorem dM_readClimb_102 : decode cM_readClimb 102 = .ok (.bipush 19, 2) := by decide +kernel
theorem dM_readClimb_104 : decode cM_readClimb 104 = .ok (.iconst 0, 1) := by decide +kernel
theorem dM_readClimb_105 : decode cM_readClimb 105 = .ok (.bipush 59, 2) := by decide +kernel
theorem dM_readClimb_107 : decode cM_readClimb 107 = .ok (.invokevirtual 269, 3) := by decide +kernel
theorem dM_readClimb_110 : decode cM_readClimb 110 = .ok (.iastore, 1) := by decide +kernel
theorem dM_readClimb_111 : decode cM_readClimb 111 = .ok (.aload_n 0, 1) := by decide +kernel
theorem dM_readClimb_112 : decode cM_readClimb 112 = .ok (.getfield 65, 3) := by decide +kernel
theorem dM_readClimb_115 : decode cM_readClimb 115 = .ok (.iload_n 1, 1) := by decide +kernel
theorem dM_readClimb_116 : decode cM_readClimb 116 = .ok (.iconst 3, 1) := by decide +kernel
theorem dM_readClimb_117 : decode cM_readClimb 117 = .ok (.iadd, 1) := by decide +kernel
theorem dM_readClimb_118 : decode cM_readClimb 118 = .ok (.iaload, 1) := by decide +kernel
theorem dM_readClimb_119 : decode cM_readClimb 119 = .ok (.iconst (-1), 1) := by decide +kernel
theorem dM_readClimb_120 : decode cM_readClimb 120 = .ok (.if_icmp .ne 7, 3) := by decide +kernel
theorem dM_readClimb_127 : decode cM_readClimb 127 = .ok (.aload_n 0, 1) := by decide +kernel
theorem dM_readClimb_128 : decode cM_readClimb 128 = .ok (.bipush 59, 2) := by decide +kernel
theorem dM_readClimb_130 : decode cM_readClimb 130 = .ok (.invokevirtual 272, 3) := by decide +kernel
theorem mm_M_readMark : MMc yM_readMark cM_readMark 2 (some .int) 1 := ⟨hz_in 1730 (by decide +kernel) (by decide +kernel), hz_in 147 (by decide +kernel) (by decide +kernel), by decide +kernel, by decide⟩
theorem mv_M_readMark : MMv yM_readMark 12 := ⟨hz_in 1729 (by decide +kernel) (by decide +kernel), hz_in 68 (by decide +kernel) (by decide +kernel), _, _, rfl, by decide⟩
theorem ml_M_272 : Cond.methodLink "LastWordHillModel" 272 yM_readMark ∈ hz_wt := hz_in 1727 (by decide +kernel) (by decide +kernel)
theorem dM_readClimb_133 : decode cM_readClimb 133 = .ok (.ireturn, 1) := by decide +kernel
theorem dM_readClimb_123 : decode cM_readClimb 123 = .ok (.iconst (-1), 1) := by decide +kernel
theorem dM_readClimb_124 : decode cM_readClimb 124 = .ok (.goto 9, 3) := by decide +kernel
theorem dM_readClimb_92 : decode cM_readClimb 92 = .ok (.iconst (-1), 1) := by decide +kernel
theorem dM_readClimb_93 : decode cM_readClimb 93 = .ok (.ireturn, 1) := by decide +kernel
theorem dM_readClimb_61 : decode cM_readClimb 61 = .ok (.iconst (-1), 1) := by decide +kernel
theorem dM_readClimb_62 : decode cM_readClimb 62 = .ok (.ireturn, 1) := by decide +kernel
theorem dM_readClimb_26 : decode cM_readClimb 26 = .ok (.iconst (-1), 1) := by decide +kernel
theorem dM_readClimb_27 : decode cM_readClimb 27 = .ok (.ireturn, 1) := by decide +kernel
def fM_readClimb (v1 : Int32) (s0 : Sg) : Option (Int32 × Sg) := bi (fM_readTold 16 0 999 s0) fun r2 s1 => gd v1 128 (bnd (pt s1 120 (ix v1) r2) fun s3 => gd v1 128 (if (s3 120 (ix v1)) = (-1) then (some ((-1), s3)) else (bi (fM_readTold 17 0 ((s3 102 6) - 1) s3) fun r5 s4 => gd (v1 + 1) 128 (bnd (pt s4 120 (ix (v1 + 1)) r5) fun s6 => gd (v1 + 1) 128 (if (s6 120 (ix (v1 + 1))) = (-1) then (some ((-1), s6)) else (bi (fM_readTold 18 0 19 s6) fun r8 s7 => gd (v1 + 2) 128 (bnd (pt s7 120 (ix (v1 + 2)) r8) fun s9 => gd (v1 + 2) 128 (if (s9 120 (ix (v1 + 2))) = (-1) then (some ((-1), s9)) else (bi (fM_readTold 19 0 59 s9) fun r11 s10 => gd (v1 + 3) 128 (bnd (pt s10 120 (ix (v1 + 3)) r11) fun s12 => gd (v1 + 3) 128 (if (s12 120 (ix (v1 + 3))) = (-1) then (some ((-1), s12)) else (bi (fM_readMark 59 s12) fun r14 s13 => some (r14, s13)))))))))))))
set_option maxHeartbeats 4000000 in
set_option maxRecDepth 100000 in
theorem okM_readClimb (v1 : Int32) (s0 : Sg) : ∀ (l : Launch) (w : WC), Ok l w yM_readClimb cM_readClimb 2 (some .int) 6 evI [.ref (w.ad 102), .int v1] s0 (fM_readClimb v1 s0) := by
  refine ok_in (ev := fun _ => evI) (av := fun w => [.ref (w.ad 102), .int v1]) "LastWordHillModel" rfl (by decide +kernel) (fun _ => rfl) (fun _ => Nat.le_of_ble_eq_true rfl) ?_
  intro C X E
  show GF C evI 0 [some (.ref (C.w.ad 102)), some (.int v1)] [] s0 (fM_readClimb v1 s0)
  unfold fM_readClimb
  refine g_aload_n X dM_readClimb_0 rfl ?_
  refine g_getN X fl_M_65 fb_12_35 k_102 r_102_35 dM_readClimb_1 ?_
  refine g_iload_n X dM_readClimb_4 rfl ?_
  refine g_aload_n X dM_readClimb_5 rfl ?_
  refine g_bipush X 16 dM_readClimb_6 (by decide) ?_
  refine g_iconst X 0 dM_readClimb_8 (by decide) ?_
  refine g_sipush X 999 dM_readClimb_9 (by decide) ?_
  refine g_virtI X [.int 16, .int 0, .int 999] [.int v1, .ref (C.w.ad 120)] k_102 mm_M_readTold mv_M_readTold ml_M_269 (okM_readTold 16 0 999 s0 C.l C.w) rfl (by decide) rfl (Nat.le_of_ble_eq_true rfl) dM_readClimb_12 (fun r2 s1 => ?_)
  refine g_iast X k_120 ln_120 dM_readClimb_15 (fun s3 => ?_)
  refine g_aload_n X dM_readClimb_16 rfl ?_
  refine g_getN X fl_M_65 fb_12_35 k_102 r_102_35 dM_readClimb_17 ?_
  refine g_iload_n X dM_readClimb_20 rfl ?_
  refine g_iald X k_120 ln_120 dM_readClimb_21 ?_
  refine g_iconst X (-1) dM_readClimb_22 (by decide) ?_
  refine g_cne X (tgt := 28) dM_readClimb_23 (by decide) ?_ ?_
  · refine g_iconst X (-1) dM_readClimb_26 (by decide) ?_
    exact g_iret X E dM_readClimb_27
  · refine g_aload_n X dM_readClimb_28 rfl ?_
    refine g_getN X fl_M_65 fb_12_35 k_102 r_102_35 dM_readClimb_29 ?_
    refine g_iload_n X dM_readClimb_32 rfl ?_
    refine g_iconst X 1 dM_readClimb_33 (by decide) ?_
    refine g_iadd X dM_readClimb_34 ?_
    refine g_aload_n X dM_readClimb_35 rfl ?_
    refine g_bipush X 17 dM_readClimb_36 (by decide) ?_
    refine g_iconst X 0 dM_readClimb_38 (by decide) ?_
    refine g_aload_n X dM_readClimb_39 rfl ?_
    refine g_getI X fl_M_146 fb_12_6 k_102 dM_readClimb_40 ?_
    refine g_iconst X 1 dM_readClimb_43 (by decide) ?_
    refine g_isub X dM_readClimb_44 ?_
    refine g_virtI X [.int 17, .int 0, .int ((s3 102 6) - 1)] [.int (v1 + 1), .ref (C.w.ad 120)] k_102 mm_M_readTold mv_M_readTold ml_M_269 (okM_readTold 17 0 ((s3 102 6) - 1) s3 C.l C.w) rfl (by decide) rfl (Nat.le_of_ble_eq_true rfl) dM_readClimb_45 (fun r5 s4 => ?_)
    refine g_iast X k_120 ln_120 dM_readClimb_48 (fun s6 => ?_)
    refine g_aload_n X dM_readClimb_49 rfl ?_
    refine g_getN X fl_M_65 fb_12_35 k_102 r_102_35 dM_readClimb_50 ?_
    refine g_iload_n X dM_readClimb_53 rfl ?_
    refine g_iconst X 1 dM_readClimb_54 (by decide) ?_
    refine g_iadd X dM_readClimb_55 ?_
    refine g_iald X k_120 ln_120 dM_readClimb_56 ?_
    refine g_iconst X (-1) dM_readClimb_57 (by decide) ?_
    refine g_cne X (tgt := 63) dM_readClimb_58 (by decide) ?_ ?_
    · refine g_iconst X (-1) dM_readClimb_61 (by decide) ?_
      exact g_iret X E dM_readClimb_62
    · refine g_aload_n X dM_readClimb_63 rfl ?_
      refine g_getN X fl_M_65 fb_12_35 k_102 r_102_35 dM_readClimb_64 ?_
      refine g_iload_n X dM_readClimb_67 rfl ?_
      refine g_iconst X 2 dM_readClimb_68 (by decide) ?_
      refine g_iadd X dM_readClimb_69 ?_
      refine g_aload_n X dM_readClimb_70 rfl ?_
      refine g_bipush X 18 dM_readClimb_71 (by decide) ?_
      refine g_iconst X 0 dM_readClimb_73 (by decide) ?_
      refine g_bipush X 19 dM_readClimb_74 (by decide) ?_
      refine g_virtI X [.int 18, .int 0, .int 19] [.int (v1 + 2), .ref (C.w.ad 120)] k_102 mm_M_readTold mv_M_readTold ml_M_269 (okM_readTold 18 0 19 s6 C.l C.w) rfl (by decide) rfl (Nat.le_of_ble_eq_true rfl) dM_readClimb_76 (fun r8 s7 => ?_)
      refine g_iast X k_120 ln_120 dM_readClimb_79 (fun s9 => ?_)
      refine g_aload_n X dM_readClimb_80 rfl ?_
      refine g_getN X fl_M_65 fb_12_35 k_102 r_102_35 dM_readClimb_81 ?_
      refine g_iload_n X dM_readClimb_84 rfl ?_
      refine g_iconst X 2 dM_readClimb_85 (by decide) ?_
      refine g_iadd X dM_readClimb_86 ?_
      refine g_iald X k_120 ln_120 dM_readClimb_87 ?_
      refine g_iconst X (-1) dM_readClimb_88 (by decide) ?_
      refine g_cne X (tgt := 94) dM_readClimb_89 (by decide) ?_ ?_
      · refine g_iconst X (-1) dM_readClimb_92 (by decide) ?_
        exact g_iret X E dM_readClimb_93
      · refine g_aload_n X dM_readClimb_94 rfl ?_
        refine g_getN X fl_M_65 fb_12_35 k_102 r_102_35 dM_readClimb_95 ?_
        refine g_iload_n X dM_readClimb_98 rfl ?_
        refine g_iconst X 3 dM_readClimb_99 (by decide) ?_
        refine g_iadd X dM_readClimb_100 ?_
        refine g_aload_n X dM_readClimb_101 rfl ?_
        refine g_bipush X 19 dM_readClimb_102 (by decide) ?_
        refine g_iconst X 0 dM_readClimb_104 (by decide) ?_
        refine g_bipush X 59 dM_readClimb_105 (by decide) ?_
        refine g_virtI X [.int 19, .int 0, .int 59] [.int (v1 + 3), .ref (C.w.ad 120)] k_102 mm_M_readTold mv_M_readTold ml_M_269 (okM_readTold 19 0 59 s9 C.l C.w) rfl (by decide) rfl (Nat.le_of_ble_eq_true rfl) dM_readClimb_107 (fun r11 s10 => ?_)
        refine g_iast X k_120 ln_120 dM_readClimb_110 (fun s12 => ?_)
        refine g_aload_n X dM_readClimb_111 rfl ?_
        refine g_getN X fl_M_65 fb_12_35 k_102 r_102_35 dM_readClimb_112 ?_
        refine g_iload_n X dM_readClimb_115 rfl ?_
        refine g_iconst X 3 dM_readClimb_116 (by decide) ?_
        refine g_iadd X dM_readClimb_117 ?_
        refine g_iald X k_120 ln_120 dM_readClimb_118 ?_
        refine g_iconst X (-1) dM_readClimb_119 (by decide) ?_
        refine g_cne X (tgt := 127) dM_readClimb_120 (by decide) ?_ ?_
        · refine g_iconst X (-1) dM_readClimb_123 (by decide) ?_
          refine g_goto X 133 dM_readClimb_124 (by decide) ?_
          exact g_iret X E dM_readClimb_133
        · refine g_aload_n X dM_readClimb_127 rfl ?_
          refine g_bipush X 59 dM_readClimb_128 (by decide) ?_
          refine g_virtI X [.int 59] [] k_102 mm_M_readMark mv_M_readMark ml_M_272 (okM_readMark 59 s12 C.l C.w) rfl (by decide) rfl (Nat.le_of_ble_eq_true rfl) dM_readClimb_130 (fun r14 s13 => ?_)
          exact g_iret X E dM_readClimb_133
def yM_readClimbs : MethodName := ⟨"LastWordHillModel", "readClimbs", "()I"⟩
abbrev cM_readClimbs : ByteArray := prog_14_method_52_code
theorem dM_readClimbs_0 : decode cM_readClimbs 0 = .ok (.iconst 0, 1) := by decide +kernel
theorem dM_readClimbs_1 : decode cM_readClimbs 1 = .ok (.istore_n 1, 1) := by decide +kernel
theorem dM_readClimbs_2 : decode cM_readClimbs 2 = .ok (.aload_n 0, 1) := by decide +kernel
theorem dM_readClimbs_3 : decode cM_readClimbs 3 = .ok (.bipush 16, 2) := by decide +kernel
theorem dM_readClimbs_5 : decode cM_readClimbs 5 = .ok (.invokevirtual 244, 3) := by decide +kernel
theorem dM_readClimbs_8 : decode cM_readClimbs 8 = .ok (.ifCond .eq 38, 3) := by decide +kernel
theorem dM_readClimbs_46 : decode cM_readClimbs 46 = .ok (.aload_n 0, 1) := by decide +kernel
theorem dM_readClimbs_47 : decode cM_readClimbs 47 = .ok (.getfield 185, 3) := by decide +kernel
theorem dM_readClimbs_50 : decode cM_readClimbs 50 = .ok (.ifCond .ne 7, 3) := by decide +kernel
theorem dM_readClimbs_57 : decode cM_readClimbs 57 = .ok (.aload_n 0, 1) := by decide +kernel
theorem dM_readClimbs_58 : decode cM_readClimbs 58 = .ok (.iconst 1, 1) := by decide +kernel
theorem dM_readClimbs_59 : decode cM_readClimbs 59 = .ok (.invokevirtual 216, 3) := by decide +kernel
theorem dM_readClimbs_62 : decode cM_readClimbs 62 = .ok (.ireturn, 1) := by decide +kernel
theorem dM_readClimbs_53 : decode cM_readClimbs 53 = .ok (.iload_n 1, 1) := by decide +kernel
theorem dM_readClimbs_54 : decode cM_readClimbs 54 = .ok (.goto 8, 3) := by decide +kernel
theorem dM_readClimbs_11 : decode cM_readClimbs 11 = .ok (.iload_n 1, 1) := by decide +kernel
theorem dM_readClimbs_12 : decode cM_readClimbs 12 = .ok (.bipush 16, 2) := by decide +kernel
theorem dM_readClimbs_14 : decode cM_readClimbs 14 = .ok (.if_icmp .ne 9, 3) := by decide +kernel
theorem dM_readClimbs_23 : decode cM_readClimbs 23 = .ok (.aload_n 0, 1) := by decide +kernel
theorem dM_readClimbs_24 : decode cM_readClimbs 24 = .ok (.bipush 64, 2) := by decide +kernel
theorem dM_readClimbs_26 : decode cM_readClimbs 26 = .ok (.iconst 4, 1) := by decide +kernel
theorem dM_readClimbs_27 : decode cM_readClimbs 27 = .ok (.iload_n 1, 1) := by decide +kernel
theorem dM_readClimbs_28 : decode cM_readClimbs 28 = .ok (.imul, 1) := by decide +kernel
theorem dM_readClimbs_29 : decode cM_readClimbs 29 = .ok (.iadd, 1) := by decide +kernel
theorem dM_readClimbs_30 : decode cM_readClimbs 30 = .ok (.invokevirtual 275, 3) := by decide +kernel
theorem mm_M_readClimb : MMc yM_readClimb cM_readClimb 2 (some .int) 1 := ⟨hz_in 1718 (by decide +kernel) (by decide +kernel), hz_in 147 (by decide +kernel) (by decide +kernel), by decide +kernel, by decide⟩
theorem mv_M_readClimb : MMv yM_readClimb 12 := ⟨hz_in 1717 (by decide +kernel) (by decide +kernel), hz_in 65 (by decide +kernel) (by decide +kernel), _, _, rfl, by decide⟩
theorem ml_M_275 : Cond.methodLink "LastWordHillModel" 275 yM_readClimb ∈ hz_wt := hz_in 1715 (by decide +kernel) (by decide +kernel)
theorem dM_readClimbs_33 : decode cM_readClimbs 33 = .ok (.iconst (-1), 1) := by decide +kernel
theorem dM_readClimbs_34 : decode cM_readClimbs 34 = .ok (.if_icmp .ne 5, 3) := by decide +kernel
theorem dM_readClimbs_39 : decode cM_readClimbs 39 = .ok (.iload_n 1, 1) := by decide +kernel
theorem dM_readClimbs_40 : decode cM_readClimbs 40 = .ok (.iconst 1, 1) := by decide +kernel
theorem dM_readClimbs_41 : decode cM_readClimbs 41 = .ok (.iadd, 1) := by decide +kernel
theorem dM_readClimbs_42 : decode cM_readClimbs 42 = .ok (.istore_n 1, 1) := by decide +kernel
theorem dM_readClimbs_43 : decode cM_readClimbs 43 = .ok (.goto (-41), 3) := by decide +kernel
theorem dM_readClimbs_37 : decode cM_readClimbs 37 = .ok (.iconst (-1), 1) := by decide +kernel
theorem dM_readClimbs_38 : decode cM_readClimbs 38 = .ok (.ireturn, 1) := by decide +kernel
theorem dM_readClimbs_17 : decode cM_readClimbs 17 = .ok (.aload_n 0, 1) := by decide +kernel
theorem dM_readClimbs_18 : decode cM_readClimbs 18 = .ok (.iconst 3, 1) := by decide +kernel
theorem dM_readClimbs_19 : decode cM_readClimbs 19 = .ok (.invokevirtual 216, 3) := by decide +kernel
theorem dM_readClimbs_22 : decode cM_readClimbs 22 = .ok (.ireturn, 1) := by decide +kernel
def fM_readClimbs (s0 : Sg) : Option (Int32 × Sg) := lp FU (fun q2 (u2 : Int32) (s1 : Sg) => bi (fM_isWord 16 s1) fun r3 s2 => if r3 = 0 then (if (s2 102 15) = 0 then (some (u2, s2)) else (bi (fM_errs 1 s2) fun r5 s4 => some (r5, s4))) else (if u2 = 16 then (bi (fM_errs 3 s2) fun r9 s8 => some (r9, s8)) else (bi (fM_readClimb (64 + (4 * u2)) s2) fun r7 s6 => if r7 = (-1) then (some ((-1), s6)) else (q2 (u2 + 1) s6)))) 0 s0
set_option maxHeartbeats 4000000 in
set_option maxRecDepth 100000 in
theorem okM_readClimbs (s0 : Sg) : ∀ (l : Launch) (w : WC), Ok l w yM_readClimbs cM_readClimbs 2 (some .int) 7 evI [.ref (w.ad 102)] s0 (fM_readClimbs s0) := by
  refine ok_in (ev := fun _ => evI) (av := fun w => [.ref (w.ad 102)]) "LastWordHillModel" rfl (by decide +kernel) (fun _ => rfl) (fun _ => Nat.le_of_ble_eq_true rfl) ?_
  intro C X E
  show GF C evI 0 [some (.ref (C.w.ad 102)), none] [] s0 (fM_readClimbs s0)
  unfold fM_readClimbs
  refine g_iconst X 0 dM_readClimbs_0 (by decide) ?_
  refine g_istore_n X [some (.ref (C.w.ad 102)), some (.int 0)] dM_readClimbs_1 (by decide) (Nat.le_of_ble_eq_true rfl) rfl ?_
  refine gf_sub (L' := [some (.ref (C.w.ad 102)), some (.int 0)]) ?_ (by simp [lsub])
  refine gf_lp (Lf := fun (u2 : Int32) => [some (.ref (C.w.ad 102)), some (.int u2)]) (fun q2 hq2 u2 s1 => ?_) FU 0 s0
  refine g_aload_n X dM_readClimbs_2 rfl ?_
  refine g_bipush X 16 dM_readClimbs_3 (by decide) ?_
  refine g_virtI X [.int 16] [] k_102 mm_M_isWord mv_M_isWord ml_M_244 (okM_isWord 16 s1 C.l C.w) rfl (by decide) rfl (Nat.le_of_ble_eq_true rfl) dM_readClimbs_5 (fun r3 s2 => ?_)
  refine g_zeq X (tgt := 46) dM_readClimbs_8 (by decide) ?_ ?_
  · refine g_aload_n X dM_readClimbs_46 rfl ?_
    refine g_getI X fl_M_185 fb_12_15 k_102 dM_readClimbs_47 ?_
    refine g_zne X (tgt := 57) dM_readClimbs_50 (by decide) ?_ ?_
    · refine g_iload_n X dM_readClimbs_53 rfl ?_
      refine g_goto X 62 dM_readClimbs_54 (by decide) ?_
      exact g_iret X E dM_readClimbs_62
    · refine g_aload_n X dM_readClimbs_57 rfl ?_
      refine g_iconst X 1 dM_readClimbs_58 (by decide) ?_
      refine g_virtI X [.int 1] [] k_102 mm_M_errs mv_M_errs ml_M_216 (okM_errs 1 s2 C.l C.w) rfl (by decide) rfl (Nat.le_of_ble_eq_true rfl) dM_readClimbs_59 (fun r5 s4 => ?_)
      exact g_iret X E dM_readClimbs_62
  · refine g_iload_n X dM_readClimbs_11 rfl ?_
    refine g_bipush X 16 dM_readClimbs_12 (by decide) ?_
    refine g_cne X (tgt := 23) dM_readClimbs_14 (by decide) ?_ ?_
    · refine g_aload_n X dM_readClimbs_17 rfl ?_
      refine g_iconst X 3 dM_readClimbs_18 (by decide) ?_
      refine g_virtI X [.int 3] [] k_102 mm_M_errs mv_M_errs ml_M_216 (okM_errs 3 s2 C.l C.w) rfl (by decide) rfl (Nat.le_of_ble_eq_true rfl) dM_readClimbs_19 (fun r9 s8 => ?_)
      exact g_iret X E dM_readClimbs_22
    · refine g_aload_n X dM_readClimbs_23 rfl ?_
      refine g_bipush X 64 dM_readClimbs_24 (by decide) ?_
      refine g_iconst X 4 dM_readClimbs_26 (by decide) ?_
      refine g_iload_n X dM_readClimbs_27 rfl ?_
      refine g_imul X dM_readClimbs_28 ?_
      refine g_iadd X dM_readClimbs_29 ?_
      refine g_virtI X [.int (64 + (4 * u2))] [] k_102 mm_M_readClimb mv_M_readClimb ml_M_275 (okM_readClimb (64 + (4 * u2)) s2 C.l C.w) rfl (by decide) rfl (Nat.le_of_ble_eq_true rfl) dM_readClimbs_30 (fun r7 s6 => ?_)
      refine g_iconst X (-1) dM_readClimbs_33 (by decide) ?_
      refine g_cne X (tgt := 39) dM_readClimbs_34 (by decide) ?_ ?_
      · refine g_iconst X (-1) dM_readClimbs_37 (by decide) ?_
        exact g_iret X E dM_readClimbs_38
      · refine g_iload_n X dM_readClimbs_39 rfl ?_
        refine g_iconst X 1 dM_readClimbs_40 (by decide) ?_
        refine g_iadd X dM_readClimbs_41 ?_
        refine g_istore_n X [some (.ref (C.w.ad 102)), some (.int (u2 + 1))] dM_readClimbs_42 (by decide) (Nat.le_of_ble_eq_true rfl) rfl ?_
        refine g_goto X 2 dM_readClimbs_43 (by decide) ?_
        exact gf_sub (hq2 (u2 + 1) s6) (by simp [lsub])
def yM_readSuns : MethodName := ⟨"LastWordHillModel", "readSuns", "()I"⟩
abbrev cM_readSuns : ByteArray := prog_14_method_53_code
theorem dM_readSuns_0 : decode cM_readSuns 0 = .ok (.iconst 0, 1) := by decide +kernel
theorem dM_readSuns_1 : decode cM_readSuns 1 = .ok (.istore_n 1, 1) := by decide +kernel
theorem dM_readSuns_2 : decode cM_readSuns 2 = .ok (.aload_n 0, 1) := by decide +kernel
theorem dM_readSuns_3 : decode cM_readSuns 3 = .ok (.bipush 20, 2) := by decide +kernel
theorem dM_readSuns_5 : decode cM_readSuns 5 = .ok (.invokevirtual 244, 3) := by decide +kernel
theorem dM_readSuns_8 : decode cM_readSuns 8 = .ok (.ifCond .eq 108, 3) := by decide +kernel
theorem dM_readSuns_116 : decode cM_readSuns 116 = .ok (.aload_n 0, 1) := by decide +kernel
theorem dM_readSuns_117 : decode cM_readSuns 117 = .ok (.getfield 185, 3) := by decide +kernel
theorem dM_readSuns_120 : decode cM_readSuns 120 = .ok (.ifCond .ne 7, 3) := by decide +kernel
theorem dM_readSuns_127 : decode cM_readSuns 127 = .ok (.aload_n 0, 1) := by decide +kernel
theorem dM_readSuns_128 : decode cM_readSuns 128 = .ok (.iconst 1, 1) := by decide +kernel
theorem dM_readSuns_129 : decode cM_readSuns 129 = .ok (.invokevirtual 216, 3) := by decide +kernel
theorem dM_readSuns_132 : decode cM_readSuns 132 = .ok (.ireturn, 1) := by decide +kernel
theorem dM_readSuns_123 : decode cM_readSuns 123 = .ok (.iload_n 1, 1) := by decide +kernel
theorem dM_readSuns_124 : decode cM_readSuns 124 = .ok (.goto 8, 3) := by decide +kernel
theorem dM_readSuns_11 : decode cM_readSuns 11 = .ok (.iload_n 1, 1) := by decide +kernel
theorem dM_readSuns_12 : decode cM_readSuns 12 = .ok (.bipush 16, 2) := by decide +kernel
theorem dM_readSuns_14 : decode cM_readSuns 14 = .ok (.if_icmp .ne 9, 3) := by decide +kernel
theorem dM_readSuns_23 : decode cM_readSuns 23 = .ok (.aload_n 0, 1) := by decide +kernel
theorem dM_readSuns_24 : decode cM_readSuns 24 = .ok (.getfield 68, 3) := by decide +kernel
theorem fl_M_68 : FLk "LastWordHillModel" 68 12 37 := ⟨_, _, _, rfl, by decide, hz_in 1449 (by decide +kernel) (by decide +kernel), nL12, by decide, by decide⟩
theorem k_121 : hz_kd 121 = 13 := by decide
theorem fb_12_37 : (hz_bs 12)[37]? = some true := by decide
theorem r_102_37 : hz_rf 102 37 = 121 := by decide
theorem dM_readSuns_27 : decode cM_readSuns 27 = .ok (.bipush 32, 2) := by decide +kernel
theorem dM_readSuns_29 : decode cM_readSuns 29 = .ok (.iconst 2, 1) := by decide +kernel
theorem dM_readSuns_30 : decode cM_readSuns 30 = .ok (.iload_n 1, 1) := by decide +kernel
theorem dM_readSuns_31 : decode cM_readSuns 31 = .ok (.imul, 1) := by decide +kernel
theorem dM_readSuns_32 : decode cM_readSuns 32 = .ok (.iadd, 1) := by decide +kernel
theorem dM_readSuns_33 : decode cM_readSuns 33 = .ok (.aload_n 0, 1) := by decide +kernel
theorem dM_readSuns_34 : decode cM_readSuns 34 = .ok (.bipush 20, 2) := by decide +kernel
theorem dM_readSuns_36 : decode cM_readSuns 36 = .ok (.iconst 0, 1) := by decide +kernel
theorem dM_readSuns_37 : decode cM_readSuns 37 = .ok (.sipush 999, 3) := by decide +kernel
theorem dM_readSuns_40 : decode cM_readSuns 40 = .ok (.invokevirtual 269, 3) := by decide +kernel
theorem dM_readSuns_43 : decode cM_readSuns 43 = .ok (.iastore, 1) := by decide +kernel
theorem ln_121 : hz_ln 121 = 64 := by decide
theorem dM_readSuns_44 : decode cM_readSuns 44 = .ok (.aload_n 0, 1) := by decide +kernel
theorem dM_readSuns_45 : decode cM_readSuns 45 = .ok (.getfield 68, 3) := by decide +kernel
theorem dM_readSuns_48 : decode cM_readSuns 48 = .ok (.bipush 32, 2) := by decide +kernel
theorem dM_readSuns_50 : decode cM_readSuns 50 = .ok (.iconst 2, 1) := by decide +kernel
theorem dM_readSuns_51 : decode cM_readSuns 51 = .ok (.iload_n 1, 1) := by decide +kernel
theorem dM_readSuns_52 : decode cM_readSuns 52 = .ok (.imul, 1) := by decide +kernel
theorem dM_readSuns_53 : decode cM_readSuns 53 = .ok (.iadd, 1) := by decide +kernel
theorem dM_readSuns_54 : decode cM_readSuns 54 = .ok (.iaload, 1) := by decide +kernel
theorem dM_readSuns_55 : decode cM_readSuns 55 = .ok (.iconst (-1), 1) := by decide +kernel
theorem dM_readSuns_56 : decode cM_readSuns 56 = .ok (.if_icmp .ne 5, 3) := by decide +kernel
theorem dM_readSuns_61 : decode cM_readSuns 61 = .ok (.aload_n 0, 1) := by decide +kernel
theorem dM_readSuns_62 : decode cM_readSuns 62 = .ok (.getfield 68, 3) := by decide +kernel
theorem dM_readSuns_65 : decode cM_readSuns 65 = .ok (.bipush 33, 2) := by decide +kernel
theorem dM_readSuns_67 : decode cM_readSuns 67 = .ok (.iconst 2, 1) := by decide +kernel
theorem dM_readSuns_68 : decode cM_readSuns 68 = .ok (.iload_n 1, 1) := by decide +kernel
theorem dM_readSuns_69 : decode cM_readSuns 69 = .ok (.imul, 1) := by decide +kernel
theorem dM_readSuns_70 : decode cM_readSuns 70 = .ok (.iadd, 1) := by decide +kernel
theorem dM_readSuns_71 : decode cM_readSuns 71 = .ok (.aload_n 0, 1) := by decide +kernel
theorem dM_readSuns_72 : decode cM_readSuns 72 = .ok (.bipush 21, 2) := by decide +kernel
theorem dM_readSuns_74 : decode cM_readSuns 74 = .ok (.bipush 10, 2) := by decide +kernel
theorem dM_readSuns_76 : decode cM_readSuns 76 = .ok (.bipush 59, 2) := by decide +kernel
theorem dM_readSuns_78 : decode cM_readSuns 78 = .ok (.invokevirtual 269, 3) := by decide +kernel
theorem dM_readSuns_81 : decode cM_readSuns 81 = .ok (.iastore, 1) := by decide +kernel
theorem dM_readSuns_82 : decode cM_readSuns 82 = .ok (.aload_n 0, 1) := by decide +kernel
theorem dM_readSuns_83 : decode cM_readSuns 83 = .ok (.getfield 68, 3) := by decide +kernel
theorem dM_readSuns_86 : decode cM_readSuns 86 = .ok (.bipush 33, 2) := by decide +kernel
theorem dM_readSuns_88 : decode cM_readSuns 88 = .ok (.iconst 2, 1) := by decide +kernel
theorem dM_readSuns_89 : decode cM_readSuns 89 = .ok (.iload_n 1, 1) := by decide +kernel
theorem dM_readSuns_90 : decode cM_readSuns 90 = .ok (.imul, 1) := by decide +kernel
theorem dM_readSuns_91 : decode cM_readSuns 91 = .ok (.iadd, 1) := by decide +kernel
theorem dM_readSuns_92 : decode cM_readSuns 92 = .ok (.iaload, 1) := by decide +kernel
theorem dM_readSuns_93 : decode cM_readSuns 93 = .ok (.iconst (-1), 1) := by decide +kernel
theorem dM_readSuns_94 : decode cM_readSuns 94 = .ok (.if_icmp .eq 13, 3) := by decide +kernel
theorem dM_readSuns_107 : decode cM_readSuns 107 = .ok (.iconst (-1), 1) := by decide +kernel
theorem dM_readSuns_108 : decode cM_readSuns 108 = .ok (.ireturn, 1) := by decide +kernel
theorem dM_readSuns_97 : decode cM_readSuns 97 = .ok (.aload_n 0, 1) := by decide +kernel
theorem dM_readSuns_98 : decode cM_readSuns 98 = .ok (.bipush 59, 2) := by decide +kernel
theorem dM_readSuns_100 : decode cM_readSuns 100 = .ok (.invokevirtual 272, 3) := by decide +kernel
theorem dM_readSuns_103 : decode cM_readSuns 103 = .ok (.iconst (-1), 1) := by decide +kernel
theorem dM_readSuns_104 : decode cM_readSuns 104 = .ok (.if_icmp .ne 5, 3) := by decide +kernel
theorem dM_readSuns_109 : decode cM_readSuns 109 = .ok (.iload_n 1, 1) := by decide +kernel
theorem dM_readSuns_110 : decode cM_readSuns 110 = .ok (.iconst 1, 1) := by decide +kernel
theorem dM_readSuns_111 : decode cM_readSuns 111 = .ok (.iadd, 1) := by decide +kernel
theorem dM_readSuns_112 : decode cM_readSuns 112 = .ok (.istore_n 1, 1) := by decide +kernel
theorem dM_readSuns_113 : decode cM_readSuns 113 = .ok (.goto (-111), 3) := by decide +kernel
theorem dM_readSuns_59 : decode cM_readSuns 59 = .ok (.iconst (-1), 1) := by decide +kernel
theorem dM_readSuns_60 : decode cM_readSuns 60 = .ok (.ireturn, 1) := by decide +kernel
theorem dM_readSuns_17 : decode cM_readSuns 17 = .ok (.aload_n 0, 1) := by decide +kernel
theorem dM_readSuns_18 : decode cM_readSuns 18 = .ok (.iconst 3, 1) := by decide +kernel
theorem dM_readSuns_19 : decode cM_readSuns 19 = .ok (.invokevirtual 216, 3) := by decide +kernel
theorem dM_readSuns_22 : decode cM_readSuns 22 = .ok (.ireturn, 1) := by decide +kernel
def fM_readSuns (s0 : Sg) : Option (Int32 × Sg) := lp FU (fun q2 (u2 : Int32) (s1 : Sg) => bi (fM_isWord 20 s1) fun r3 s2 => if r3 = 0 then (if (s2 102 15) = 0 then (some (u2, s2)) else (bi (fM_errs 1 s2) fun r5 s4 => some (r5, s4))) else (if u2 = 16 then (bi (fM_errs 3 s2) fun r15 s14 => some (r15, s14)) else (bi (fM_readTold 20 0 999 s2) fun r7 s6 => gd (32 + (2 * u2)) 64 (bnd (pt s6 121 (ix (32 + (2 * u2))) r7) fun s8 => gd (32 + (2 * u2)) 64 (if (s8 121 (ix (32 + (2 * u2)))) = (-1) then (some ((-1), s8)) else (bi (fM_readTold 21 10 59 s8) fun r10 s9 => gd (33 + (2 * u2)) 64 (bnd (pt s9 121 (ix (33 + (2 * u2))) r10) fun s11 => gd (33 + (2 * u2)) 64 (if (s11 121 (ix (33 + (2 * u2)))) = (-1) then (some ((-1), s11)) else (bi (fM_readMark 59 s11) fun r13 s12 => if r13 = (-1) then (some ((-1), s12)) else (q2 (u2 + 1) s12)))))))))) 0 s0
set_option maxHeartbeats 4000000 in
set_option maxRecDepth 100000 in
theorem okM_readSuns (s0 : Sg) : ∀ (l : Launch) (w : WC), Ok l w yM_readSuns cM_readSuns 2 (some .int) 6 evI [.ref (w.ad 102)] s0 (fM_readSuns s0) := by
  refine ok_in (ev := fun _ => evI) (av := fun w => [.ref (w.ad 102)]) "LastWordHillModel" rfl (by decide +kernel) (fun _ => rfl) (fun _ => Nat.le_of_ble_eq_true rfl) ?_
  intro C X E
  show GF C evI 0 [some (.ref (C.w.ad 102)), none] [] s0 (fM_readSuns s0)
  unfold fM_readSuns
  refine g_iconst X 0 dM_readSuns_0 (by decide) ?_
  refine g_istore_n X [some (.ref (C.w.ad 102)), some (.int 0)] dM_readSuns_1 (by decide) (Nat.le_of_ble_eq_true rfl) rfl ?_
  refine gf_sub (L' := [some (.ref (C.w.ad 102)), some (.int 0)]) ?_ (by simp [lsub])
  refine gf_lp (Lf := fun (u2 : Int32) => [some (.ref (C.w.ad 102)), some (.int u2)]) (fun q2 hq2 u2 s1 => ?_) FU 0 s0
  refine g_aload_n X dM_readSuns_2 rfl ?_
  refine g_bipush X 20 dM_readSuns_3 (by decide) ?_
  refine g_virtI X [.int 20] [] k_102 mm_M_isWord mv_M_isWord ml_M_244 (okM_isWord 20 s1 C.l C.w) rfl (by decide) rfl (Nat.le_of_ble_eq_true rfl) dM_readSuns_5 (fun r3 s2 => ?_)
  refine g_zeq X (tgt := 116) dM_readSuns_8 (by decide) ?_ ?_
  · refine g_aload_n X dM_readSuns_116 rfl ?_
    refine g_getI X fl_M_185 fb_12_15 k_102 dM_readSuns_117 ?_
    refine g_zne X (tgt := 127) dM_readSuns_120 (by decide) ?_ ?_
    · refine g_iload_n X dM_readSuns_123 rfl ?_
      refine g_goto X 132 dM_readSuns_124 (by decide) ?_
      exact g_iret X E dM_readSuns_132
    · refine g_aload_n X dM_readSuns_127 rfl ?_
      refine g_iconst X 1 dM_readSuns_128 (by decide) ?_
      refine g_virtI X [.int 1] [] k_102 mm_M_errs mv_M_errs ml_M_216 (okM_errs 1 s2 C.l C.w) rfl (by decide) rfl (Nat.le_of_ble_eq_true rfl) dM_readSuns_129 (fun r5 s4 => ?_)
      exact g_iret X E dM_readSuns_132
  · refine g_iload_n X dM_readSuns_11 rfl ?_
    refine g_bipush X 16 dM_readSuns_12 (by decide) ?_
    refine g_cne X (tgt := 23) dM_readSuns_14 (by decide) ?_ ?_
    · refine g_aload_n X dM_readSuns_17 rfl ?_
      refine g_iconst X 3 dM_readSuns_18 (by decide) ?_
      refine g_virtI X [.int 3] [] k_102 mm_M_errs mv_M_errs ml_M_216 (okM_errs 3 s2 C.l C.w) rfl (by decide) rfl (Nat.le_of_ble_eq_true rfl) dM_readSuns_19 (fun r15 s14 => ?_)
      exact g_iret X E dM_readSuns_22
    · refine g_aload_n X dM_readSuns_23 rfl ?_
      refine g_getN X fl_M_68 fb_12_37 k_102 r_102_37 dM_readSuns_24 ?_
      refine g_bipush X 32 dM_readSuns_27 (by decide) ?_
      refine g_iconst X 2 dM_readSuns_29 (by decide) ?_
      refine g_iload_n X dM_readSuns_30 rfl ?_
      refine g_imul X dM_readSuns_31 ?_
      refine g_iadd X dM_readSuns_32 ?_
      refine g_aload_n X dM_readSuns_33 rfl ?_
      refine g_bipush X 20 dM_readSuns_34 (by decide) ?_
      refine g_iconst X 0 dM_readSuns_36 (by decide) ?_
      refine g_sipush X 999 dM_readSuns_37 (by decide) ?_
      refine g_virtI X [.int 20, .int 0, .int 999] [.int (32 + (2 * u2)), .ref (C.w.ad 121)] k_102 mm_M_readTold mv_M_readTold ml_M_269 (okM_readTold 20 0 999 s2 C.l C.w) rfl (by decide) rfl (Nat.le_of_ble_eq_true rfl) dM_readSuns_40 (fun r7 s6 => ?_)
      refine g_iast X k_121 ln_121 dM_readSuns_43 (fun s8 => ?_)
      refine g_aload_n X dM_readSuns_44 rfl ?_
      refine g_getN X fl_M_68 fb_12_37 k_102 r_102_37 dM_readSuns_45 ?_
      refine g_bipush X 32 dM_readSuns_48 (by decide) ?_
      refine g_iconst X 2 dM_readSuns_50 (by decide) ?_
      refine g_iload_n X dM_readSuns_51 rfl ?_
      refine g_imul X dM_readSuns_52 ?_
      refine g_iadd X dM_readSuns_53 ?_
      refine g_iald X k_121 ln_121 dM_readSuns_54 ?_
      refine g_iconst X (-1) dM_readSuns_55 (by decide) ?_
      refine g_cne X (tgt := 61) dM_readSuns_56 (by decide) ?_ ?_
      · refine g_iconst X (-1) dM_readSuns_59 (by decide) ?_
        exact g_iret X E dM_readSuns_60
      · refine g_aload_n X dM_readSuns_61 rfl ?_
        refine g_getN X fl_M_68 fb_12_37 k_102 r_102_37 dM_readSuns_62 ?_
        refine g_bipush X 33 dM_readSuns_65 (by decide) ?_
        refine g_iconst X 2 dM_readSuns_67 (by decide) ?_
        refine g_iload_n X dM_readSuns_68 rfl ?_
        refine g_imul X dM_readSuns_69 ?_
        refine g_iadd X dM_readSuns_70 ?_
        refine g_aload_n X dM_readSuns_71 rfl ?_
        refine g_bipush X 21 dM_readSuns_72 (by decide) ?_
        refine g_bipush X 10 dM_readSuns_74 (by decide) ?_
        refine g_bipush X 59 dM_readSuns_76 (by decide) ?_
        refine g_virtI X [.int 21, .int 10, .int 59] [.int (33 + (2 * u2)), .ref (C.w.ad 121)] k_102 mm_M_readTold mv_M_readTold ml_M_269 (okM_readTold 21 10 59 s8 C.l C.w) rfl (by decide) rfl (Nat.le_of_ble_eq_true rfl) dM_readSuns_78 (fun r10 s9 => ?_)
        refine g_iast X k_121 ln_121 dM_readSuns_81 (fun s11 => ?_)
        refine g_aload_n X dM_readSuns_82 rfl ?_
        refine g_getN X fl_M_68 fb_12_37 k_102 r_102_37 dM_readSuns_83 ?_
        refine g_bipush X 33 dM_readSuns_86 (by decide) ?_
        refine g_iconst X 2 dM_readSuns_88 (by decide) ?_
        refine g_iload_n X dM_readSuns_89 rfl ?_
        refine g_imul X dM_readSuns_90 ?_
        refine g_iadd X dM_readSuns_91 ?_
        refine g_iald X k_121 ln_121 dM_readSuns_92 ?_
        refine g_iconst X (-1) dM_readSuns_93 (by decide) ?_
        refine g_ceq X (tgt := 107) dM_readSuns_94 (by decide) ?_ ?_
        · refine g_iconst X (-1) dM_readSuns_107 (by decide) ?_
          exact g_iret X E dM_readSuns_108
        · refine g_aload_n X dM_readSuns_97 rfl ?_
          refine g_bipush X 59 dM_readSuns_98 (by decide) ?_
          refine g_virtI X [.int 59] [] k_102 mm_M_readMark mv_M_readMark ml_M_272 (okM_readMark 59 s11 C.l C.w) rfl (by decide) rfl (Nat.le_of_ble_eq_true rfl) dM_readSuns_100 (fun r13 s12 => ?_)
          refine g_iconst X (-1) dM_readSuns_103 (by decide) ?_
          refine g_cne X (tgt := 109) dM_readSuns_104 (by decide) ?_ ?_
          · refine g_iconst X (-1) dM_readSuns_107 (by decide) ?_
            exact g_iret X E dM_readSuns_108
          · refine g_iload_n X dM_readSuns_109 rfl ?_
            refine g_iconst X 1 dM_readSuns_110 (by decide) ?_
            refine g_iadd X dM_readSuns_111 ?_
            refine g_istore_n X [some (.ref (C.w.ad 102)), some (.int (u2 + 1))] dM_readSuns_112 (by decide) (Nat.le_of_ble_eq_true rfl) rfl ?_
            refine g_goto X 2 dM_readSuns_113 (by decide) ?_
            exact gf_sub (hq2 (u2 + 1) s12) (by simp [lsub])
def yM_readSuit : MethodName := ⟨"LastWordHillModel", "readSuit", "()I"⟩
abbrev cM_readSuit : ByteArray := prog_14_method_54_code
theorem dM_readSuit_0 : decode cM_readSuit 0 = .ok (.aload_n 0, 1) := by decide +kernel
theorem dM_readSuit_1 : decode cM_readSuit 1 = .ok (.bipush 12, 2) := by decide +kernel
theorem dM_readSuit_3 : decode cM_readSuit 3 = .ok (.iconst 0, 1) := by decide +kernel
theorem dM_readSuit_4 : decode cM_readSuit 4 = .ok (.bipush 19, 2) := by decide +kernel
theorem dM_readSuit_6 : decode cM_readSuit 6 = .ok (.invokevirtual 269, 3) := by decide +kernel
theorem dM_readSuit_9 : decode cM_readSuit 9 = .ok (.istore_n 1, 1) := by decide +kernel
theorem dM_readSuit_10 : decode cM_readSuit 10 = .ok (.iload_n 1, 1) := by decide +kernel
theorem dM_readSuit_11 : decode cM_readSuit 11 = .ok (.iconst (-1), 1) := by decide +kernel
theorem dM_readSuit_12 : decode cM_readSuit 12 = .ok (.if_icmp .ne 5, 3) := by decide +kernel
theorem dM_readSuit_17 : decode cM_readSuit 17 = .ok (.aload_n 0, 1) := by decide +kernel
theorem dM_readSuit_18 : decode cM_readSuit 18 = .ok (.bipush 22, 2) := by decide +kernel
theorem dM_readSuit_20 : decode cM_readSuit 20 = .ok (.invokevirtual 244, 3) := by decide +kernel
theorem dM_readSuit_23 : decode cM_readSuit 23 = .ok (.ifCond .ne 9, 3) := by decide +kernel
theorem dM_readSuit_32 : decode cM_readSuit 32 = .ok (.aload_n 0, 1) := by decide +kernel
theorem dM_readSuit_33 : decode cM_readSuit 33 = .ok (.invokevirtual 222, 3) := by decide +kernel
theorem dM_readSuit_36 : decode cM_readSuit 36 = .ok (.aload_n 0, 1) := by decide +kernel
theorem dM_readSuit_37 : decode cM_readSuit 37 = .ok (.iconst 0, 1) := by decide +kernel
theorem dM_readSuit_38 : decode cM_readSuit 38 = .ok (.bipush 9, 2) := by decide +kernel
theorem dM_readSuit_40 : decode cM_readSuit 40 = .ok (.invokevirtual 266, 3) := by decide +kernel
theorem dM_readSuit_43 : decode cM_readSuit 43 = .ok (.istore_n 2, 1) := by decide +kernel
theorem dM_readSuit_44 : decode cM_readSuit 44 = .ok (.iload_n 2, 1) := by decide +kernel
theorem dM_readSuit_45 : decode cM_readSuit 45 = .ok (.iconst (-1), 1) := by decide +kernel
theorem dM_readSuit_46 : decode cM_readSuit 46 = .ok (.if_icmp .eq 51, 3) := by decide +kernel
theorem dM_readSuit_97 : decode cM_readSuit 97 = .ok (.iconst (-1), 1) := by decide +kernel
theorem dM_readSuit_98 : decode cM_readSuit 98 = .ok (.ireturn, 1) := by decide +kernel
theorem dM_readSuit_49 : decode cM_readSuit 49 = .ok (.aload_n 0, 1) := by decide +kernel
theorem dM_readSuit_50 : decode cM_readSuit 50 = .ok (.getfield 71, 3) := by decide +kernel
theorem fl_M_71 : FLk "LastWordHillModel" 71 12 39 := ⟨_, _, _, rfl, by decide, hz_in 1451 (by decide +kernel) (by decide +kernel), nL12, by decide, by decide⟩
theorem k_122 : hz_kd 122 = 13 := by decide
theorem fb_12_39 : (hz_bs 12)[39]? = some true := by decide
theorem r_102_39 : hz_rf 102 39 = 122 := by decide
theorem dM_readSuit_53 : decode cM_readSuit 53 = .ok (.bipush 20, 2) := by decide +kernel
theorem dM_readSuit_55 : decode cM_readSuit 55 = .ok (.iload_n 1, 1) := by decide +kernel
theorem dM_readSuit_56 : decode cM_readSuit 56 = .ok (.iadd, 1) := by decide +kernel
theorem dM_readSuit_57 : decode cM_readSuit 57 = .ok (.aload_n 0, 1) := by decide +kernel
theorem dM_readSuit_58 : decode cM_readSuit 58 = .ok (.getfield 71, 3) := by decide +kernel
theorem dM_readSuit_61 : decode cM_readSuit 61 = .ok (.bipush 20, 2) := by decide +kernel
theorem dM_readSuit_63 : decode cM_readSuit 63 = .ok (.iload_n 1, 1) := by decide +kernel
theorem dM_readSuit_64 : decode cM_readSuit 64 = .ok (.iadd, 1) := by decide +kernel
theorem dM_readSuit_65 : decode cM_readSuit 65 = .ok (.iaload, 1) := by decide +kernel
theorem ln_122 : hz_ln 122 = 40 := by decide
theorem dM_readSuit_66 : decode cM_readSuit 66 = .ok (.iconst 1, 1) := by decide +kernel
theorem dM_readSuit_67 : decode cM_readSuit 67 = .ok (.iload_n 2, 1) := by decide +kernel
theorem dM_readSuit_68 : decode cM_readSuit 68 = .ok (.ishl, 1) := by decide +kernel
theorem dM_readSuit_69 : decode cM_readSuit 69 = .ok (.ior, 1) := by decide +kernel
theorem dM_readSuit_70 : decode cM_readSuit 70 = .ok (.iastore, 1) := by decide +kernel
theorem dM_readSuit_71 : decode cM_readSuit 71 = .ok (.aload_n 0, 1) := by decide +kernel
theorem dM_readSuit_72 : decode cM_readSuit 72 = .ok (.getfield 185, 3) := by decide +kernel
theorem dM_readSuit_75 : decode cM_readSuit 75 = .ok (.iconst 3, 1) := by decide +kernel
theorem dM_readSuit_76 : decode cM_readSuit 76 = .ok (.if_icmp .eq 10, 3) := by decide +kernel
theorem dM_readSuit_86 : decode cM_readSuit 86 = .ok (.aload_n 0, 1) := by decide +kernel
theorem dM_readSuit_87 : decode cM_readSuit 87 = .ok (.iconst 0, 1) := by decide +kernel
theorem dM_readSuit_88 : decode cM_readSuit 88 = .ok (.bipush 9, 2) := by decide +kernel
theorem dM_readSuit_90 : decode cM_readSuit 90 = .ok (.invokevirtual 266, 3) := by decide +kernel
theorem dM_readSuit_93 : decode cM_readSuit 93 = .ok (.istore_n 2, 1) := by decide +kernel
theorem dM_readSuit_94 : decode cM_readSuit 94 = .ok (.goto (-50), 3) := by decide +kernel
theorem dM_readSuit_79 : decode cM_readSuit 79 = .ok (.aload_n 0, 1) := by decide +kernel
theorem dM_readSuit_80 : decode cM_readSuit 80 = .ok (.bipush 59, 2) := by decide +kernel
theorem dM_readSuit_82 : decode cM_readSuit 82 = .ok (.invokevirtual 272, 3) := by decide +kernel
theorem dM_readSuit_85 : decode cM_readSuit 85 = .ok (.ireturn, 1) := by decide +kernel
theorem dM_readSuit_26 : decode cM_readSuit 26 = .ok (.aload_n 0, 1) := by decide +kernel
theorem dM_readSuit_27 : decode cM_readSuit 27 = .ok (.iconst 1, 1) := by decide +kernel
theorem dM_readSuit_28 : decode cM_readSuit 28 = .ok (.invokevirtual 216, 3) := by decide +kernel
theorem dM_readSuit_31 : decode cM_readSuit 31 = .ok (.ireturn, 1) := by decide +kernel
theorem dM_readSuit_15 : decode cM_readSuit 15 = .ok (.iconst (-1), 1) := by decide +kernel
theorem dM_readSuit_16 : decode cM_readSuit 16 = .ok (.ireturn, 1) := by decide +kernel
def fM_readSuit (s0 : Sg) : Option (Int32 × Sg) := bi (fM_readTold 12 0 19 s0) fun r2 s1 => if r2 = (-1) then (some ((-1), s1)) else (bi (fM_isWord 22 s1) fun r4 s3 => if r4 = 0 then (bi (fM_errs 1 s3) fun r15 s14 => some (r15, s14)) else (bv (fM_reads s3) fun s5 => bi (fM_readNumber 0 9 s5) fun r7 s6 => lp FU (fun q44 (u44 : Int32) (s8 : Sg) => if u44 = (-1) then (some ((-1), s8)) else (gd (20 + r2) 40 (gd (20 + r2) 40 (bnd (pt s8 122 (ix (20 + r2)) ((s8 122 (ix (20 + r2))) ||| (1 <<< (u44 &&& 31)))) fun s9 => if (s9 102 15) = 3 then (bi (fM_readNumber 0 9 s9) fun r11 s10 => q44 r11 s10) else (bi (fM_readMark 59 s9) fun r13 s12 => some (r13, s12)))))) r7 s6))
set_option maxHeartbeats 4000000 in
set_option maxRecDepth 100000 in
theorem okM_readSuit (s0 : Sg) : ∀ (l : Launch) (w : WC), Ok l w yM_readSuit cM_readSuit 3 (some .int) 6 evI [.ref (w.ad 102)] s0 (fM_readSuit s0) := by
  refine ok_in (ev := fun _ => evI) (av := fun w => [.ref (w.ad 102)]) "LastWordHillModel" rfl (by decide +kernel) (fun _ => rfl) (fun _ => Nat.le_of_ble_eq_true rfl) ?_
  intro C X E
  show GF C evI 0 [some (.ref (C.w.ad 102)), none, none] [] s0 (fM_readSuit s0)
  unfold fM_readSuit
  refine g_aload_n X dM_readSuit_0 rfl ?_
  refine g_bipush X 12 dM_readSuit_1 (by decide) ?_
  refine g_iconst X 0 dM_readSuit_3 (by decide) ?_
  refine g_bipush X 19 dM_readSuit_4 (by decide) ?_
  refine g_virtI X [.int 12, .int 0, .int 19] [] k_102 mm_M_readTold mv_M_readTold ml_M_269 (okM_readTold 12 0 19 s0 C.l C.w) rfl (by decide) rfl (Nat.le_of_ble_eq_true rfl) dM_readSuit_6 (fun r2 s1 => ?_)
  refine g_istore_n X [some (.ref (C.w.ad 102)), some (.int r2), none] dM_readSuit_9 (by decide) (Nat.le_of_ble_eq_true rfl) rfl ?_
  refine g_iload_n X dM_readSuit_10 rfl ?_
  refine g_iconst X (-1) dM_readSuit_11 (by decide) ?_
  refine g_cne X (tgt := 17) dM_readSuit_12 (by decide) ?_ ?_
  · refine g_iconst X (-1) dM_readSuit_15 (by decide) ?_
    exact g_iret X E dM_readSuit_16
  · refine g_aload_n X dM_readSuit_17 rfl ?_
    refine g_bipush X 22 dM_readSuit_18 (by decide) ?_
    refine g_virtI X [.int 22] [] k_102 mm_M_isWord mv_M_isWord ml_M_244 (okM_isWord 22 s1 C.l C.w) rfl (by decide) rfl (Nat.le_of_ble_eq_true rfl) dM_readSuit_20 (fun r4 s3 => ?_)
    refine g_zne X (tgt := 32) dM_readSuit_23 (by decide) ?_ ?_
    · refine g_aload_n X dM_readSuit_26 rfl ?_
      refine g_iconst X 1 dM_readSuit_27 (by decide) ?_
      refine g_virtI X [.int 1] [] k_102 mm_M_errs mv_M_errs ml_M_216 (okM_errs 1 s3 C.l C.w) rfl (by decide) rfl (Nat.le_of_ble_eq_true rfl) dM_readSuit_28 (fun r15 s14 => ?_)
      exact g_iret X E dM_readSuit_31
    · refine g_aload_n X dM_readSuit_32 rfl ?_
      refine g_virtV X [] [] k_102 mm_M_reads mv_M_reads ml_M_222 (okM_reads s3 C.l C.w) rfl (by decide) rfl (Nat.le_of_ble_eq_true rfl) dM_readSuit_33 (fun s5 => ?_)
      refine g_aload_n X dM_readSuit_36 rfl ?_
      refine g_iconst X 0 dM_readSuit_37 (by decide) ?_
      refine g_bipush X 9 dM_readSuit_38 (by decide) ?_
      refine g_virtI X [.int 0, .int 9] [] k_102 mm_M_readNumber mv_M_readNumber ml_M_266 (okM_readNumber 0 9 s5 C.l C.w) rfl (by decide) rfl (Nat.le_of_ble_eq_true rfl) dM_readSuit_40 (fun r7 s6 => ?_)
      refine g_istore_n X [some (.ref (C.w.ad 102)), some (.int r2), some (.int r7)] dM_readSuit_43 (by decide) (Nat.le_of_ble_eq_true rfl) rfl ?_
      refine gf_sub (L' := [some (.ref (C.w.ad 102)), some (.int r2), some (.int r7)]) ?_ (by simp [lsub])
      refine gf_lp (Lf := fun (u44 : Int32) => [some (.ref (C.w.ad 102)), some (.int r2), some (.int u44)]) (fun q44 hq44 u44 s8 => ?_) FU r7 s6
      refine g_iload_n X dM_readSuit_44 rfl ?_
      refine g_iconst X (-1) dM_readSuit_45 (by decide) ?_
      refine g_ceq X (tgt := 97) dM_readSuit_46 (by decide) ?_ ?_
      · refine g_iconst X (-1) dM_readSuit_97 (by decide) ?_
        exact g_iret X E dM_readSuit_98
      · refine g_aload_n X dM_readSuit_49 rfl ?_
        refine g_getN X fl_M_71 fb_12_39 k_102 r_102_39 dM_readSuit_50 ?_
        refine g_bipush X 20 dM_readSuit_53 (by decide) ?_
        refine g_iload_n X dM_readSuit_55 rfl ?_
        refine g_iadd X dM_readSuit_56 ?_
        refine g_aload_n X dM_readSuit_57 rfl ?_
        refine g_getN X fl_M_71 fb_12_39 k_102 r_102_39 dM_readSuit_58 ?_
        refine g_bipush X 20 dM_readSuit_61 (by decide) ?_
        refine g_iload_n X dM_readSuit_63 rfl ?_
        refine g_iadd X dM_readSuit_64 ?_
        refine g_iald X k_122 ln_122 dM_readSuit_65 ?_
        refine g_iconst X 1 dM_readSuit_66 (by decide) ?_
        refine g_iload_n X dM_readSuit_67 rfl ?_
        refine g_ishl X dM_readSuit_68 ?_
        refine g_ior X dM_readSuit_69 ?_
        refine g_iast X k_122 ln_122 dM_readSuit_70 (fun s9 => ?_)
        refine g_aload_n X dM_readSuit_71 rfl ?_
        refine g_getI X fl_M_185 fb_12_15 k_102 dM_readSuit_72 ?_
        refine g_iconst X 3 dM_readSuit_75 (by decide) ?_
        refine g_ceq X (tgt := 86) dM_readSuit_76 (by decide) ?_ ?_
        · refine g_aload_n X dM_readSuit_86 rfl ?_
          refine g_iconst X 0 dM_readSuit_87 (by decide) ?_
          refine g_bipush X 9 dM_readSuit_88 (by decide) ?_
          refine g_virtI X [.int 0, .int 9] [] k_102 mm_M_readNumber mv_M_readNumber ml_M_266 (okM_readNumber 0 9 s9 C.l C.w) rfl (by decide) rfl (Nat.le_of_ble_eq_true rfl) dM_readSuit_90 (fun r11 s10 => ?_)
          refine g_istore_n X [some (.ref (C.w.ad 102)), some (.int r2), some (.int r11)] dM_readSuit_93 (by decide) (Nat.le_of_ble_eq_true rfl) rfl ?_
          refine g_goto X 44 dM_readSuit_94 (by decide) ?_
          exact gf_sub (hq44 r11 s10) (by simp [lsub])
        · refine g_aload_n X dM_readSuit_79 rfl ?_
          refine g_bipush X 59 dM_readSuit_80 (by decide) ?_
          refine g_virtI X [.int 59] [] k_102 mm_M_readMark mv_M_readMark ml_M_272 (okM_readMark 59 s9 C.l C.w) rfl (by decide) rfl (Nat.le_of_ble_eq_true rfl) dM_readSuit_82 (fun r13 s12 => ?_)
          exact g_iret X E dM_readSuit_85
def yM_readSuits : MethodName := ⟨"LastWordHillModel", "readSuits", "()I"⟩
abbrev cM_readSuits : ByteArray := prog_14_method_55_code
theorem dM_readSuits_0 : decode cM_readSuits 0 = .ok (.iconst 0, 1) := by decide +kernel
theorem dM_readSuits_1 : decode cM_readSuits 1 = .ok (.istore_n 1, 1) := by decide +kernel
theorem dM_readSuits_2 : decode cM_readSuits 2 = .ok (.iload_n 1, 1) := by decide +kernel
theorem dM_readSuits_3 : decode cM_readSuits 3 = .ok (.bipush 20, 2) := by decide +kernel
theorem dM_readSuits_5 : decode cM_readSuits 5 = .ok (.if_icmp .ge 19, 3) := by decide +kernel
theorem dM_readSuits_24 : decode cM_readSuits 24 = .ok (.iconst 0, 1) := by decide +kernel
theorem dM_readSuits_25 : decode cM_readSuits 25 = .ok (.istore_n 1, 1) := by decide +kernel
theorem dM_readSuits_26 : decode cM_readSuits 26 = .ok (.aload_n 0, 1) := by decide +kernel
theorem dM_readSuits_27 : decode cM_readSuits 27 = .ok (.bipush 12, 2) := by decide +kernel
theorem dM_readSuits_29 : decode cM_readSuits 29 = .ok (.invokevirtual 244, 3) := by decide +kernel
theorem dM_readSuits_32 : decode cM_readSuits 32 = .ok (.ifCond .eq 32, 3) := by decide +kernel
theorem dM_readSuits_64 : decode cM_readSuits 64 = .ok (.aload_n 0, 1) := by decide +kernel
theorem dM_readSuits_65 : decode cM_readSuits 65 = .ok (.getfield 185, 3) := by decide +kernel
theorem dM_readSuits_68 : decode cM_readSuits 68 = .ok (.ifCond .ne 7, 3) := by decide +kernel
theorem dM_readSuits_75 : decode cM_readSuits 75 = .ok (.aload_n 0, 1) := by decide +kernel
theorem dM_readSuits_76 : decode cM_readSuits 76 = .ok (.iconst 1, 1) := by decide +kernel
theorem dM_readSuits_77 : decode cM_readSuits 77 = .ok (.invokevirtual 216, 3) := by decide +kernel
theorem dM_readSuits_80 : decode cM_readSuits 80 = .ok (.ireturn, 1) := by decide +kernel
theorem dM_readSuits_71 : decode cM_readSuits 71 = .ok (.iload_n 1, 1) := by decide +kernel
theorem dM_readSuits_72 : decode cM_readSuits 72 = .ok (.goto 8, 3) := by decide +kernel
theorem dM_readSuits_35 : decode cM_readSuits 35 = .ok (.iload_n 1, 1) := by decide +kernel
theorem dM_readSuits_36 : decode cM_readSuits 36 = .ok (.bipush 16, 2) := by decide +kernel
theorem dM_readSuits_38 : decode cM_readSuits 38 = .ok (.if_icmp .ne 9, 3) := by decide +kernel
theorem dM_readSuits_47 : decode cM_readSuits 47 = .ok (.aload_n 0, 1) := by decide +kernel
theorem dM_readSuits_48 : decode cM_readSuits 48 = .ok (.invokevirtual 278, 3) := by decide +kernel
theorem mm_M_readSuit : MMc yM_readSuit cM_readSuit 3 (some .int) 0 := ⟨hz_in 1746 (by decide +kernel) (by decide +kernel), hz_in 147 (by decide +kernel) (by decide +kernel), by decide +kernel, by decide⟩
theorem mv_M_readSuit : MMv yM_readSuit 12 := ⟨hz_in 1745 (by decide +kernel) (by decide +kernel), hz_in 72 (by decide +kernel) (by decide +kernel), _, _, rfl, by decide⟩
theorem ml_M_278 : Cond.methodLink "LastWordHillModel" 278 yM_readSuit ∈ hz_wt := hz_in 1743 (by decide +kernel) (by decide +kernel)
theorem dM_readSuits_51 : decode cM_readSuits 51 = .ok (.iconst (-1), 1) := by decide +kernel
theorem dM_readSuits_52 : decode cM_readSuits 52 = .ok (.if_icmp .ne 5, 3) := by decide +kernel
theorem dM_readSuits_57 : decode cM_readSuits 57 = .ok (.iload_n 1, 1) := by decide +kernel
theorem dM_readSuits_58 : decode cM_readSuits 58 = .ok (.iconst 1, 1) := by decide +kernel
theorem dM_readSuits_59 : decode cM_readSuits 59 = .ok (.iadd, 1) := by decide +kernel
theorem dM_readSuits_60 : decode cM_readSuits 60 = .ok (.istore_n 1, 1) := by decide +kernel
theorem dM_readSuits_61 : decode cM_readSuits 61 = .ok (.goto (-35), 3) := by decide +kernel
theorem dM_readSuits_55 : decode cM_readSuits 55 = .ok (.iconst (-1), 1) := by decide +kernel
theorem dM_readSuits_56 : decode cM_readSuits 56 = .ok (.ireturn, 1) := by decide +kernel
theorem dM_readSuits_41 : decode cM_readSuits 41 = .ok (.aload_n 0, 1) := by decide +kernel
theorem dM_readSuits_42 : decode cM_readSuits 42 = .ok (.iconst 3, 1) := by decide +kernel
theorem dM_readSuits_43 : decode cM_readSuits 43 = .ok (.invokevirtual 216, 3) := by decide +kernel
theorem dM_readSuits_46 : decode cM_readSuits 46 = .ok (.ireturn, 1) := by decide +kernel
theorem dM_readSuits_8 : decode cM_readSuits 8 = .ok (.aload_n 0, 1) := by decide +kernel
theorem dM_readSuits_9 : decode cM_readSuits 9 = .ok (.getfield 71, 3) := by decide +kernel
theorem dM_readSuits_12 : decode cM_readSuits 12 = .ok (.bipush 20, 2) := by decide +kernel
theorem dM_readSuits_14 : decode cM_readSuits 14 = .ok (.iload_n 1, 1) := by decide +kernel
theorem dM_readSuits_15 : decode cM_readSuits 15 = .ok (.iadd, 1) := by decide +kernel
theorem dM_readSuits_16 : decode cM_readSuits 16 = .ok (.iconst 0, 1) := by decide +kernel
theorem dM_readSuits_17 : decode cM_readSuits 17 = .ok (.iastore, 1) := by decide +kernel
theorem dM_readSuits_18 : decode cM_readSuits 18 = .ok (.iinc 1 1, 3) := by decide +kernel
theorem dM_readSuits_21 : decode cM_readSuits 21 = .ok (.goto (-19), 3) := by decide +kernel
def fM_readSuits (s0 : Sg) : Option (Int32 × Sg) := lp FU (fun q2 (u2 : Int32) (s1 : Sg) => if 20 ≤ u2 then (lp FU (fun q26 (u26 : Int32) (s2 : Sg) => bi (fM_isWord 12 s2) fun r4 s3 => if r4 = 0 then (if (s3 102 15) = 0 then (some (u26, s3)) else (bi (fM_errs 1 s3) fun r6 s5 => some (r6, s5))) else (if u26 = 16 then (bi (fM_errs 3 s3) fun r10 s9 => some (r10, s9)) else (bi (fM_readSuit s3) fun r8 s7 => if r8 = (-1) then (some ((-1), s7)) else (q26 (u26 + 1) s7)))) 0 s1) else (gd (20 + u2) 40 (bnd (pt s1 122 (ix (20 + u2)) 0) fun s11 => q2 (u2 + 1) s11))) 0 s0
set_option maxHeartbeats 4000000 in
set_option maxRecDepth 100000 in
theorem okM_readSuits (s0 : Sg) : ∀ (l : Launch) (w : WC), Ok l w yM_readSuits cM_readSuits 2 (some .int) 7 evI [.ref (w.ad 102)] s0 (fM_readSuits s0) := by
  refine ok_in (ev := fun _ => evI) (av := fun w => [.ref (w.ad 102)]) "LastWordHillModel" rfl (by decide +kernel) (fun _ => rfl) (fun _ => Nat.le_of_ble_eq_true rfl) ?_
  intro C X E
  show GF C evI 0 [some (.ref (C.w.ad 102)), none] [] s0 (fM_readSuits s0)
  unfold fM_readSuits
  refine g_iconst X 0 dM_readSuits_0 (by decide) ?_
  refine g_istore_n X [some (.ref (C.w.ad 102)), some (.int 0)] dM_readSuits_1 (by decide) (Nat.le_of_ble_eq_true rfl) rfl ?_
  refine gf_sub (L' := [some (.ref (C.w.ad 102)), some (.int 0)]) ?_ (by simp [lsub])
  refine gf_lp (Lf := fun (u2 : Int32) => [some (.ref (C.w.ad 102)), some (.int u2)]) (fun q2 hq2 u2 s1 => ?_) FU 0 s0
  refine g_iload_n X dM_readSuits_2 rfl ?_
  refine g_bipush X 20 dM_readSuits_3 (by decide) ?_
  refine g_cge X (tgt := 24) dM_readSuits_5 (by decide) ?_ ?_
  · refine g_iconst X 0 dM_readSuits_24 (by decide) ?_
    refine g_istore_n X [some (.ref (C.w.ad 102)), some (.int 0)] dM_readSuits_25 (by decide) (Nat.le_of_ble_eq_true rfl) rfl ?_
    refine gf_sub (L' := [some (.ref (C.w.ad 102)), some (.int 0)]) ?_ (by simp [lsub])
    refine gf_lp (Lf := fun (u26 : Int32) => [some (.ref (C.w.ad 102)), some (.int u26)]) (fun q26 hq26 u26 s2 => ?_) FU 0 s1
    refine g_aload_n X dM_readSuits_26 rfl ?_
    refine g_bipush X 12 dM_readSuits_27 (by decide) ?_
    refine g_virtI X [.int 12] [] k_102 mm_M_isWord mv_M_isWord ml_M_244 (okM_isWord 12 s2 C.l C.w) rfl (by decide) rfl (Nat.le_of_ble_eq_true rfl) dM_readSuits_29 (fun r4 s3 => ?_)
    refine g_zeq X (tgt := 64) dM_readSuits_32 (by decide) ?_ ?_
    · refine g_aload_n X dM_readSuits_64 rfl ?_
      refine g_getI X fl_M_185 fb_12_15 k_102 dM_readSuits_65 ?_
      refine g_zne X (tgt := 75) dM_readSuits_68 (by decide) ?_ ?_
      · refine g_iload_n X dM_readSuits_71 rfl ?_
        refine g_goto X 80 dM_readSuits_72 (by decide) ?_
        exact g_iret X E dM_readSuits_80
      · refine g_aload_n X dM_readSuits_75 rfl ?_
        refine g_iconst X 1 dM_readSuits_76 (by decide) ?_
        refine g_virtI X [.int 1] [] k_102 mm_M_errs mv_M_errs ml_M_216 (okM_errs 1 s3 C.l C.w) rfl (by decide) rfl (Nat.le_of_ble_eq_true rfl) dM_readSuits_77 (fun r6 s5 => ?_)
        exact g_iret X E dM_readSuits_80
    · refine g_iload_n X dM_readSuits_35 rfl ?_
      refine g_bipush X 16 dM_readSuits_36 (by decide) ?_
      refine g_cne X (tgt := 47) dM_readSuits_38 (by decide) ?_ ?_
      · refine g_aload_n X dM_readSuits_41 rfl ?_
        refine g_iconst X 3 dM_readSuits_42 (by decide) ?_
        refine g_virtI X [.int 3] [] k_102 mm_M_errs mv_M_errs ml_M_216 (okM_errs 3 s3 C.l C.w) rfl (by decide) rfl (Nat.le_of_ble_eq_true rfl) dM_readSuits_43 (fun r10 s9 => ?_)
        exact g_iret X E dM_readSuits_46
      · refine g_aload_n X dM_readSuits_47 rfl ?_
        refine g_virtI X [] [] k_102 mm_M_readSuit mv_M_readSuit ml_M_278 (okM_readSuit s3 C.l C.w) rfl (by decide) rfl (Nat.le_of_ble_eq_true rfl) dM_readSuits_48 (fun r8 s7 => ?_)
        refine g_iconst X (-1) dM_readSuits_51 (by decide) ?_
        refine g_cne X (tgt := 57) dM_readSuits_52 (by decide) ?_ ?_
        · refine g_iconst X (-1) dM_readSuits_55 (by decide) ?_
          exact g_iret X E dM_readSuits_56
        · refine g_iload_n X dM_readSuits_57 rfl ?_
          refine g_iconst X 1 dM_readSuits_58 (by decide) ?_
          refine g_iadd X dM_readSuits_59 ?_
          refine g_istore_n X [some (.ref (C.w.ad 102)), some (.int (u26 + 1))] dM_readSuits_60 (by decide) (Nat.le_of_ble_eq_true rfl) rfl ?_
          refine g_goto X 26 dM_readSuits_61 (by decide) ?_
          exact gf_sub (hq26 (u26 + 1) s7) (by simp [lsub])
  · refine g_aload_n X dM_readSuits_8 rfl ?_
    refine g_getN X fl_M_71 fb_12_39 k_102 r_102_39 dM_readSuits_9 ?_
    refine g_bipush X 20 dM_readSuits_12 (by decide) ?_
    refine g_iload_n X dM_readSuits_14 rfl ?_
    refine g_iadd X dM_readSuits_15 ?_
    refine g_iconst X 0 dM_readSuits_16 (by decide) ?_
    refine g_iast X k_122 ln_122 dM_readSuits_17 (fun s11 => ?_)
    refine g_iinc X (u2 + 1) [some (.ref (C.w.ad 102)), some (.int (u2 + 1))] dM_readSuits_18 rfl rfl (by decide) rfl ?_
    refine g_goto X 2 dM_readSuits_21 (by decide) ?_
    exact gf_sub (hq2 (u2 + 1) s11) (by simp [lsub])
def yM_readsText : MethodName := ⟨"LastWordHillModel", "readsText", "(I)I"⟩
abbrev cM_readsText : ByteArray := prog_14_method_56_code
theorem dM_readsText_0 : decode cM_readsText 0 = .ok (.aload_n 0, 1) := by decide +kernel
theorem dM_readsText_1 : decode cM_readsText 1 = .ok (.iconst 0, 1) := by decide +kernel
theorem dM_readsText_2 : decode cM_readsText 2 = .ok (.putfield 263, 3) := by decide +kernel
theorem fp_12_25 : FLp 12 25 .int := ⟨_, _, _, _, rfl, nY12, nN12, by decide, by decide⟩
theorem dM_readsText_5 : decode cM_readsText 5 = .ok (.aload_n 0, 1) := by decide +kernel
theorem dM_readsText_6 : decode cM_readsText 6 = .ok (.invokevirtual 222, 3) := by decide +kernel
theorem dM_readsText_9 : decode cM_readsText 9 = .ok (.iload_n 1, 1) := by decide +kernel
theorem dM_readsText_10 : decode cM_readsText 10 = .ok (.iconst 1, 1) := by decide +kernel
theorem dM_readsText_11 : decode cM_readsText 11 = .ok (.if_icmp .ne 8, 3) := by decide +kernel
theorem dM_readsText_19 : decode cM_readsText 19 = .ok (.iload_n 1, 1) := by decide +kernel
theorem dM_readsText_20 : decode cM_readsText 20 = .ok (.iconst 2, 1) := by decide +kernel
theorem dM_readsText_21 : decode cM_readsText 21 = .ok (.if_icmp .ne 8, 3) := by decide +kernel
theorem dM_readsText_29 : decode cM_readsText 29 = .ok (.iload_n 1, 1) := by decide +kernel
theorem dM_readsText_30 : decode cM_readsText 30 = .ok (.iconst 3, 1) := by decide +kernel
theorem dM_readsText_31 : decode cM_readsText 31 = .ok (.if_icmp .ne 10, 3) := by decide +kernel
theorem dM_readsText_41 : decode cM_readsText 41 = .ok (.aload_n 0, 1) := by decide +kernel
theorem dM_readsText_42 : decode cM_readsText 42 = .ok (.invokevirtual 290, 3) := by decide +kernel
theorem mm_M_readLaw : MMc yM_readLaw cM_readLaw 3 (some .int) 0 := ⟨hz_in 1750 (by decide +kernel) (by decide +kernel), hz_in 147 (by decide +kernel) (by decide +kernel), by decide +kernel, by decide⟩
theorem mv_M_readLaw : MMv yM_readLaw 12 := ⟨hz_in 1749 (by decide +kernel) (by decide +kernel), hz_in 73 (by decide +kernel) (by decide +kernel), _, _, rfl, by decide⟩
theorem ml_M_290 : Cond.methodLink "LastWordHillModel" 290 yM_readLaw ∈ hz_wt := hz_in 1747 (by decide +kernel) (by decide +kernel)
theorem dM_readsText_45 : decode cM_readsText 45 = .ok (.ireturn, 1) := by decide +kernel
theorem dM_readsText_34 : decode cM_readsText 34 = .ok (.aload_n 0, 1) := by decide +kernel
theorem dM_readsText_35 : decode cM_readsText 35 = .ok (.invokevirtual 287, 3) := by decide +kernel
theorem mm_M_readSuits : MMc yM_readSuits cM_readSuits 2 (some .int) 0 := ⟨hz_in 1742 (by decide +kernel) (by decide +kernel), hz_in 147 (by decide +kernel) (by decide +kernel), by decide +kernel, by decide⟩
theorem mv_M_readSuits : MMv yM_readSuits 12 := ⟨hz_in 1741 (by decide +kernel) (by decide +kernel), hz_in 71 (by decide +kernel) (by decide +kernel), _, _, rfl, by decide⟩
theorem ml_M_287 : Cond.methodLink "LastWordHillModel" 287 yM_readSuits ∈ hz_wt := hz_in 1739 (by decide +kernel) (by decide +kernel)
theorem dM_readsText_38 : decode cM_readsText 38 = .ok (.goto 7, 3) := by decide +kernel
theorem dM_readsText_24 : decode cM_readsText 24 = .ok (.aload_n 0, 1) := by decide +kernel
theorem dM_readsText_25 : decode cM_readsText 25 = .ok (.invokevirtual 284, 3) := by decide +kernel
theorem mm_M_readSuns : MMc yM_readSuns cM_readSuns 2 (some .int) 0 := ⟨hz_in 1738 (by decide +kernel) (by decide +kernel), hz_in 147 (by decide +kernel) (by decide +kernel), by decide +kernel, by decide⟩
theorem mv_M_readSuns : MMv yM_readSuns 12 := ⟨hz_in 1737 (by decide +kernel) (by decide +kernel), hz_in 70 (by decide +kernel) (by decide +kernel), _, _, rfl, by decide⟩
theorem ml_M_284 : Cond.methodLink "LastWordHillModel" 284 yM_readSuns ∈ hz_wt := hz_in 1735 (by decide +kernel) (by decide +kernel)
theorem dM_readsText_28 : decode cM_readsText 28 = .ok (.ireturn, 1) := by decide +kernel
theorem dM_readsText_14 : decode cM_readsText 14 = .ok (.aload_n 0, 1) := by decide +kernel
theorem dM_readsText_15 : decode cM_readsText 15 = .ok (.invokevirtual 281, 3) := by decide +kernel
theorem mm_M_readClimbs : MMc yM_readClimbs cM_readClimbs 2 (some .int) 0 := ⟨hz_in 1706 (by decide +kernel) (by decide +kernel), hz_in 147 (by decide +kernel) (by decide +kernel), by decide +kernel, by decide⟩
theorem mv_M_readClimbs : MMv yM_readClimbs 12 := ⟨hz_in 1705 (by decide +kernel) (by decide +kernel), hz_in 62 (by decide +kernel) (by decide +kernel), _, _, rfl, by decide⟩
theorem ml_M_281 : Cond.methodLink "LastWordHillModel" 281 yM_readClimbs ∈ hz_wt := hz_in 1703 (by decide +kernel) (by decide +kernel)
theorem dM_readsText_18 : decode cM_readsText 18 = .ok (.ireturn, 1) := by decide +kernel
def fM_readsText (v1 : Int32) (s0 : Sg) : Option (Int32 × Sg) := bnd (pt s0 102 25 0) fun s1 => bv (fM_reads s1) fun s2 => if v1 = 1 then (bi (fM_readClimbs s2) fun r10 s9 => some (r10, s9)) else (if v1 = 2 then (bi (fM_readSuns s2) fun r8 s7 => some (r8, s7)) else (if v1 = 3 then (bi (fM_readSuits s2) fun r6 s5 => some (r6, s5)) else (bi (fM_readLaw s2) fun r4 s3 => some (r4, s3))))
set_option maxHeartbeats 4000000 in
set_option maxRecDepth 100000 in
theorem okM_readsText (v1 : Int32) (s0 : Sg) : ∀ (l : Launch) (w : WC), Ok l w yM_readsText cM_readsText 2 (some .int) 10 evI [.ref (w.ad 102), .int v1] s0 (fM_readsText v1 s0) := by
  refine ok_in (ev := fun _ => evI) (av := fun w => [.ref (w.ad 102), .int v1]) "LastWordHillModel" rfl (by decide +kernel) (fun _ => rfl) (fun _ => Nat.le_of_ble_eq_true rfl) ?_
  intro C X E
  show GF C evI 0 [some (.ref (C.w.ad 102)), some (.int v1)] [] s0 (fM_readsText v1 s0)
  unfold fM_readsText
  refine g_aload_n X dM_readsText_0 rfl ?_
  refine g_iconst X 0 dM_readsText_1 (by decide) ?_
  refine g_putI X fl_M_263 fb_12_25 fp_12_25 k_102 dM_readsText_2 (fun s1 => ?_)
  refine g_aload_n X dM_readsText_5 rfl ?_
  refine g_virtV X [] [] k_102 mm_M_reads mv_M_reads ml_M_222 (okM_reads s1 C.l C.w) rfl (by decide) rfl (Nat.le_of_ble_eq_true rfl) dM_readsText_6 (fun s2 => ?_)
  refine g_iload_n X dM_readsText_9 rfl ?_
  refine g_iconst X 1 dM_readsText_10 (by decide) ?_
  refine g_cne X (tgt := 19) dM_readsText_11 (by decide) ?_ ?_
  · refine g_aload_n X dM_readsText_14 rfl ?_
    refine g_virtI X [] [] k_102 mm_M_readClimbs mv_M_readClimbs ml_M_281 (okM_readClimbs s2 C.l C.w) rfl (by decide) rfl (Nat.le_of_ble_eq_true rfl) dM_readsText_15 (fun r10 s9 => ?_)
    exact g_iret X E dM_readsText_18
  · refine g_iload_n X dM_readsText_19 rfl ?_
    refine g_iconst X 2 dM_readsText_20 (by decide) ?_
    refine g_cne X (tgt := 29) dM_readsText_21 (by decide) ?_ ?_
    · refine g_aload_n X dM_readsText_24 rfl ?_
      refine g_virtI X [] [] k_102 mm_M_readSuns mv_M_readSuns ml_M_284 (okM_readSuns s2 C.l C.w) rfl (by decide) rfl (Nat.le_of_ble_eq_true rfl) dM_readsText_25 (fun r8 s7 => ?_)
      exact g_iret X E dM_readsText_28
    · refine g_iload_n X dM_readsText_29 rfl ?_
      refine g_iconst X 3 dM_readsText_30 (by decide) ?_
      refine g_cne X (tgt := 41) dM_readsText_31 (by decide) ?_ ?_
      · refine g_aload_n X dM_readsText_34 rfl ?_
        refine g_virtI X [] [] k_102 mm_M_readSuits mv_M_readSuits ml_M_287 (okM_readSuits s2 C.l C.w) rfl (by decide) rfl (Nat.le_of_ble_eq_true rfl) dM_readsText_35 (fun r6 s5 => ?_)
        refine g_goto X 45 dM_readsText_38 (by decide) ?_
        exact g_iret X E dM_readsText_45
      · refine g_aload_n X dM_readsText_41 rfl ?_
        refine g_virtI X [] [] k_102 mm_M_readLaw mv_M_readLaw ml_M_290 (okM_readLaw s2 C.l C.w) rfl (by decide) rfl (Nat.le_of_ble_eq_true rfl) dM_readsText_42 (fun r4 s3 => ?_)
        exact g_iret X E dM_readsText_45
def yM_takesOther : MethodName := ⟨"LastWordHillModel", "takesOther", "(II)V"⟩
abbrev cM_takesOther : ByteArray := prog_14_method_57_code
theorem dM_takesOther_0 : decode cM_takesOther 0 = .ok (.iload_n 1, 1) := by decide +kernel
theorem dM_takesOther_1 : decode cM_takesOther 1 = .ok (.iconst 3, 1) := by decide +kernel
theorem dM_takesOther_2 : decode cM_takesOther 2 = .ok (.if_icmp .ne 38, 3) := by decide +kernel
theorem dM_takesOther_40 : decode cM_takesOther 40 = .ok (.iload_n 1, 1) := by decide +kernel
theorem dM_takesOther_41 : decode cM_takesOther 41 = .ok (.iconst 1, 1) := by decide +kernel
theorem dM_takesOther_42 : decode cM_takesOther 42 = .ok (.if_icmp .ne 41, 3) := by decide +kernel
theorem dM_takesOther_118 : decode cM_takesOther 118 = .ok (.aload_n 0, 1) := by decide +kernel
theorem dM_takesOther_119 : decode cM_takesOther 119 = .ok (.iconst 0, 1) := by decide +kernel
theorem dM_takesOther_120 : decode cM_takesOther 120 = .ok (.putfield 137, 3) := by decide +kernel
theorem dM_takesOther_123 : decode cM_takesOther 123 = .ok (.return_, 1) := by decide +kernel
theorem dM_takesOther_83 : decode cM_takesOther 83 = .ok (.iconst 0, 1) := by decide +kernel
theorem dM_takesOther_84 : decode cM_takesOther 84 = .ok (.istore_n 3, 1) := by decide +kernel
theorem dM_takesOther_85 : decode cM_takesOther 85 = .ok (.iload_n 3, 1) := by decide +kernel
theorem dM_takesOther_86 : decode cM_takesOther 86 = .ok (.iconst 2, 1) := by decide +kernel
theorem dM_takesOther_87 : decode cM_takesOther 87 = .ok (.iload_n 2, 1) := by decide +kernel
theorem dM_takesOther_88 : decode cM_takesOther 88 = .ok (.imul, 1) := by decide +kernel
theorem dM_takesOther_89 : decode cM_takesOther 89 = .ok (.if_icmp .ge 24, 3) := by decide +kernel
theorem dM_takesOther_113 : decode cM_takesOther 113 = .ok (.aload_n 0, 1) := by decide +kernel
theorem dM_takesOther_114 : decode cM_takesOther 114 = .ok (.iload_n 2, 1) := by decide +kernel
theorem dM_takesOther_115 : decode cM_takesOther 115 = .ok (.putfield 299, 3) := by decide +kernel
theorem fl_M_299 : FLk "LastWordHillModel" 299 12 36 := ⟨_, _, _, rfl, by decide, hz_in 1448 (by decide +kernel) (by decide +kernel), nL12, by decide, by decide⟩
theorem fb_12_36 : (hz_bs 12)[36]? = some false := by decide
theorem fp_12_36 : FLp 12 36 .int := ⟨_, _, _, _, rfl, nY12, nN12, by decide, by decide⟩
theorem dM_takesOther_92 : decode cM_takesOther 92 = .ok (.aload_n 0, 1) := by decide +kernel
theorem dM_takesOther_93 : decode cM_takesOther 93 = .ok (.getfield 68, 3) := by decide +kernel
theorem dM_takesOther_96 : decode cM_takesOther 96 = .ok (.iload_n 3, 1) := by decide +kernel
theorem dM_takesOther_97 : decode cM_takesOther 97 = .ok (.aload_n 0, 1) := by decide +kernel
theorem dM_takesOther_98 : decode cM_takesOther 98 = .ok (.getfield 68, 3) := by decide +kernel
theorem dM_takesOther_101 : decode cM_takesOther 101 = .ok (.bipush 32, 2) := by decide +kernel
theorem dM_takesOther_103 : decode cM_takesOther 103 = .ok (.iload_n 3, 1) := by decide +kernel
theorem dM_takesOther_104 : decode cM_takesOther 104 = .ok (.iadd, 1) := by decide +kernel
theorem dM_takesOther_105 : decode cM_takesOther 105 = .ok (.iaload, 1) := by decide +kernel
theorem dM_takesOther_106 : decode cM_takesOther 106 = .ok (.iastore, 1) := by decide +kernel
theorem dM_takesOther_107 : decode cM_takesOther 107 = .ok (.iinc 3 1, 3) := by decide +kernel
theorem dM_takesOther_110 : decode cM_takesOther 110 = .ok (.goto (-25), 3) := by decide +kernel
theorem dM_takesOther_45 : decode cM_takesOther 45 = .ok (.iconst 0, 1) := by decide +kernel
theorem dM_takesOther_46 : decode cM_takesOther 46 = .ok (.istore_n 3, 1) := by decide +kernel
theorem dM_takesOther_47 : decode cM_takesOther 47 = .ok (.iload_n 3, 1) := by decide +kernel
theorem dM_takesOther_48 : decode cM_takesOther 48 = .ok (.iconst 4, 1) := by decide +kernel
theorem dM_takesOther_49 : decode cM_takesOther 49 = .ok (.iload_n 2, 1) := by decide +kernel
theorem dM_takesOther_50 : decode cM_takesOther 50 = .ok (.imul, 1) := by decide +kernel
theorem dM_takesOther_51 : decode cM_takesOther 51 = .ok (.if_icmp .ge 24, 3) := by decide +kernel
theorem dM_takesOther_75 : decode cM_takesOther 75 = .ok (.aload_n 0, 1) := by decide +kernel
theorem dM_takesOther_76 : decode cM_takesOther 76 = .ok (.iload_n 2, 1) := by decide +kernel
theorem dM_takesOther_77 : decode cM_takesOther 77 = .ok (.putfield 296, 3) := by decide +kernel
theorem fl_M_296 : FLk "LastWordHillModel" 296 12 34 := ⟨_, _, _, rfl, by decide, hz_in 1446 (by decide +kernel) (by decide +kernel), nL12, by decide, by decide⟩
theorem fb_12_34 : (hz_bs 12)[34]? = some false := by decide
theorem fp_12_34 : FLp 12 34 .int := ⟨_, _, _, _, rfl, nY12, nN12, by decide, by decide⟩
theorem dM_takesOther_80 : decode cM_takesOther 80 = .ok (.goto 38, 3) := by decide +kernel
theorem dM_takesOther_54 : decode cM_takesOther 54 = .ok (.aload_n 0, 1) := by decide +kernel
theorem dM_takesOther_55 : decode cM_takesOther 55 = .ok (.getfield 65, 3) := by decide +kernel
theorem dM_takesOther_58 : decode cM_takesOther 58 = .ok (.iload_n 3, 1) := by decide +kernel
theorem dM_takesOther_59 : decode cM_takesOther 59 = .ok (.aload_n 0, 1) := by decide +kernel
theorem dM_takesOther_60 : decode cM_takesOther 60 = .ok (.getfield 65, 3) := by decide +kernel
theorem dM_takesOther_63 : decode cM_takesOther 63 = .ok (.bipush 64, 2) := by decide +kernel
theorem dM_takesOther_65 : decode cM_takesOther 65 = .ok (.iload_n 3, 1) := by decide +kernel
theorem dM_takesOther_66 : decode cM_takesOther 66 = .ok (.iadd, 1) := by decide +kernel
theorem dM_takesOther_67 : decode cM_takesOther 67 = .ok (.iaload, 1) := by decide +kernel
theorem dM_takesOther_68 : decode cM_takesOther 68 = .ok (.iastore, 1) := by decide +kernel
theorem dM_takesOther_69 : decode cM_takesOther 69 = .ok (.iinc 3 1, 3) := by decide +kernel
theorem dM_takesOther_72 : decode cM_takesOther 72 = .ok (.goto (-25), 3) := by decide +kernel
theorem dM_takesOther_5 : decode cM_takesOther 5 = .ok (.iconst 0, 1) := by decide +kernel
theorem dM_takesOther_6 : decode cM_takesOther 6 = .ok (.istore_n 3, 1) := by decide +kernel
theorem dM_takesOther_7 : decode cM_takesOther 7 = .ok (.iload_n 3, 1) := by decide +kernel
theorem dM_takesOther_8 : decode cM_takesOther 8 = .ok (.bipush 20, 2) := by decide +kernel
theorem dM_takesOther_10 : decode cM_takesOther 10 = .ok (.if_icmp .ge 24, 3) := by decide +kernel
theorem dM_takesOther_34 : decode cM_takesOther 34 = .ok (.aload_n 0, 1) := by decide +kernel
theorem dM_takesOther_35 : decode cM_takesOther 35 = .ok (.iload_n 2, 1) := by decide +kernel
theorem dM_takesOther_36 : decode cM_takesOther 36 = .ok (.putfield 293, 3) := by decide +kernel
theorem fl_M_293 : FLk "LastWordHillModel" 293 12 38 := ⟨_, _, _, rfl, by decide, hz_in 1450 (by decide +kernel) (by decide +kernel), nL12, by decide, by decide⟩
theorem fb_12_38 : (hz_bs 12)[38]? = some false := by decide
theorem fp_12_38 : FLp 12 38 .int := ⟨_, _, _, _, rfl, nY12, nN12, by decide, by decide⟩
theorem dM_takesOther_39 : decode cM_takesOther 39 = .ok (.return_, 1) := by decide +kernel
theorem dM_takesOther_13 : decode cM_takesOther 13 = .ok (.aload_n 0, 1) := by decide +kernel
theorem dM_takesOther_14 : decode cM_takesOther 14 = .ok (.getfield 71, 3) := by decide +kernel
theorem dM_takesOther_17 : decode cM_takesOther 17 = .ok (.iload_n 3, 1) := by decide +kernel
theorem dM_takesOther_18 : decode cM_takesOther 18 = .ok (.aload_n 0, 1) := by decide +kernel
theorem dM_takesOther_19 : decode cM_takesOther 19 = .ok (.getfield 71, 3) := by decide +kernel
theorem dM_takesOther_22 : decode cM_takesOther 22 = .ok (.bipush 20, 2) := by decide +kernel
theorem dM_takesOther_24 : decode cM_takesOther 24 = .ok (.iload_n 3, 1) := by decide +kernel
theorem dM_takesOther_25 : decode cM_takesOther 25 = .ok (.iadd, 1) := by decide +kernel
theorem dM_takesOther_26 : decode cM_takesOther 26 = .ok (.iaload, 1) := by decide +kernel
theorem dM_takesOther_27 : decode cM_takesOther 27 = .ok (.iastore, 1) := by decide +kernel
theorem dM_takesOther_28 : decode cM_takesOther 28 = .ok (.iinc 3 1, 3) := by decide +kernel
theorem dM_takesOther_31 : decode cM_takesOther 31 = .ok (.goto (-24), 3) := by decide +kernel
def fM_takesOther (v1 : Int32) (v2 : Int32) (s0 : Sg) : Option (Sg) := if v1 = 3 then (lp FU (fun q7 (u7 : Int32) (s9 : Sg) => if 20 ≤ u7 then (bnd (pt s9 102 38 v2) fun s10 => some s10) else (gd (20 + u7) 40 (gd u7 40 (bnd (pt s9 122 (ix u7) (s9 122 (ix (20 + u7)))) fun s11 => q7 (u7 + 1) s11)))) 0 s0) else (bnd (fun (s1 : Sg) => bnd (pt s1 102 3 0) fun s2 => some s2) fun j118 => if v1 = 1 then (lp FU (fun q47 (u47 : Int32) (s6 : Sg) => if (4 * v2) ≤ u47 then (bnd (pt s6 102 34 v2) fun s7 => j118 s7) else (gd (64 + u47) 128 (gd u47 128 (bnd (pt s6 120 (ix u47) (s6 120 (ix (64 + u47)))) fun s8 => q47 (u47 + 1) s8)))) 0 s0) else (lp FU (fun q85 (u85 : Int32) (s3 : Sg) => if (2 * v2) ≤ u85 then (bnd (pt s3 102 36 v2) fun s4 => j118 s4) else (gd (32 + u85) 64 (gd u85 64 (bnd (pt s3 121 (ix u85) (s3 121 (ix (32 + u85)))) fun s5 => q85 (u85 + 1) s5)))) 0 s0))
set_option maxHeartbeats 4000000 in
set_option maxRecDepth 100000 in
theorem okM_takesOther (v1 : Int32) (v2 : Int32) (s0 : Sg) : ∀ (l : Launch) (w : WC), Ok l w yM_takesOther cM_takesOther 4 none 1 evV [.ref (w.ad 102), .int v1, .int v2] s0 (fM_takesOther v1 v2 s0) := by
  refine ok_in (ev := fun _ => evV) (av := fun w => [.ref (w.ad 102), .int v1, .int v2]) "LastWordHillModel" rfl (by decide +kernel) (fun _ => rfl) (fun _ => Nat.le_of_ble_eq_true rfl) ?_
  intro C X E
  show GF C evV 0 [some (.ref (C.w.ad 102)), some (.int v1), some (.int v2), none] [] s0 (fM_takesOther v1 v2 s0)
  unfold fM_takesOther
  refine g_iload_n X dM_takesOther_0 rfl ?_
  refine g_iconst X 3 dM_takesOther_1 (by decide) ?_
  refine g_cne X (tgt := 40) dM_takesOther_2 (by decide) ?_ ?_
  · refine g_iconst X 0 dM_takesOther_5 (by decide) ?_
    refine g_istore_n X [some (.ref (C.w.ad 102)), some (.int v1), some (.int v2), some (.int 0)] dM_takesOther_6 (by decide) (Nat.le_of_ble_eq_true rfl) rfl ?_
    refine gf_sub (L' := [some (.ref (C.w.ad 102)), none, some (.int v2), some (.int 0)]) ?_ (by simp [lsub])
    refine gf_lp (Lf := fun (u7 : Int32) => [some (.ref (C.w.ad 102)), none, some (.int v2), some (.int u7)]) (fun q7 hq7 u7 s9 => ?_) FU 0 s0
    refine g_iload_n X dM_takesOther_7 rfl ?_
    refine g_bipush X 20 dM_takesOther_8 (by decide) ?_
    refine g_cge X (tgt := 34) dM_takesOther_10 (by decide) ?_ ?_
    · refine g_aload_n X dM_takesOther_34 rfl ?_
      refine g_iload_n X dM_takesOther_35 rfl ?_
      refine g_putI X fl_M_293 fb_12_38 fp_12_38 k_102 dM_takesOther_36 (fun s10 => ?_)
      exact g_vret X E dM_takesOther_39
    · refine g_aload_n X dM_takesOther_13 rfl ?_
      refine g_getN X fl_M_71 fb_12_39 k_102 r_102_39 dM_takesOther_14 ?_
      refine g_iload_n X dM_takesOther_17 rfl ?_
      refine g_aload_n X dM_takesOther_18 rfl ?_
      refine g_getN X fl_M_71 fb_12_39 k_102 r_102_39 dM_takesOther_19 ?_
      refine g_bipush X 20 dM_takesOther_22 (by decide) ?_
      refine g_iload_n X dM_takesOther_24 rfl ?_
      refine g_iadd X dM_takesOther_25 ?_
      refine g_iald X k_122 ln_122 dM_takesOther_26 ?_
      refine g_iast X k_122 ln_122 dM_takesOther_27 (fun s11 => ?_)
      refine g_iinc X (u7 + 1) [some (.ref (C.w.ad 102)), none, some (.int v2), some (.int (u7 + 1))] dM_takesOther_28 rfl rfl (by decide) rfl ?_
      refine g_goto X 7 dM_takesOther_31 (by decide) ?_
      exact gf_sub (hq7 (u7 + 1) s11) (by simp [lsub])
  · refine g_iload_n X dM_takesOther_40 rfl ?_
    refine g_iconst X 1 dM_takesOther_41 (by decide) ?_
    refine gf_jn (fun j118 => ∀ (s1 : Sg), GF C evV 118 [some (.ref (C.w.ad 102)), none, none, none] [] s1 (j118 s1)) ?_ ?_
    · intro s1
      refine g_aload_n X dM_takesOther_118 rfl ?_
      refine g_iconst X 0 dM_takesOther_119 (by decide) ?_
      refine g_putI X fl_M_137 fb_12_3 fp_12_3 k_102 dM_takesOther_120 (fun s2 => ?_)
      exact g_vret X E dM_takesOther_123
    · intro j118 hj118
      refine g_cne X (tgt := 83) dM_takesOther_42 (by decide) ?_ ?_
      · refine g_iconst X 0 dM_takesOther_45 (by decide) ?_
        refine g_istore_n X [some (.ref (C.w.ad 102)), some (.int v1), some (.int v2), some (.int 0)] dM_takesOther_46 (by decide) (Nat.le_of_ble_eq_true rfl) rfl ?_
        refine gf_sub (L' := [some (.ref (C.w.ad 102)), none, some (.int v2), some (.int 0)]) ?_ (by simp [lsub])
        refine gf_lp (Lf := fun (u47 : Int32) => [some (.ref (C.w.ad 102)), none, some (.int v2), some (.int u47)]) (fun q47 hq47 u47 s6 => ?_) FU 0 s0
        refine g_iload_n X dM_takesOther_47 rfl ?_
        refine g_iconst X 4 dM_takesOther_48 (by decide) ?_
        refine g_iload_n X dM_takesOther_49 rfl ?_
        refine g_imul X dM_takesOther_50 ?_
        refine g_cge X (tgt := 75) dM_takesOther_51 (by decide) ?_ ?_
        · refine g_aload_n X dM_takesOther_75 rfl ?_
          refine g_iload_n X dM_takesOther_76 rfl ?_
          refine g_putI X fl_M_296 fb_12_34 fp_12_34 k_102 dM_takesOther_77 (fun s7 => ?_)
          refine g_goto X 118 dM_takesOther_80 (by decide) ?_
          exact gf_sub (hj118 s7) (by simp [lsub])
        · refine g_aload_n X dM_takesOther_54 rfl ?_
          refine g_getN X fl_M_65 fb_12_35 k_102 r_102_35 dM_takesOther_55 ?_
          refine g_iload_n X dM_takesOther_58 rfl ?_
          refine g_aload_n X dM_takesOther_59 rfl ?_
          refine g_getN X fl_M_65 fb_12_35 k_102 r_102_35 dM_takesOther_60 ?_
          refine g_bipush X 64 dM_takesOther_63 (by decide) ?_
          refine g_iload_n X dM_takesOther_65 rfl ?_
          refine g_iadd X dM_takesOther_66 ?_
          refine g_iald X k_120 ln_120 dM_takesOther_67 ?_
          refine g_iast X k_120 ln_120 dM_takesOther_68 (fun s8 => ?_)
          refine g_iinc X (u47 + 1) [some (.ref (C.w.ad 102)), none, some (.int v2), some (.int (u47 + 1))] dM_takesOther_69 rfl rfl (by decide) rfl ?_
          refine g_goto X 47 dM_takesOther_72 (by decide) ?_
          exact gf_sub (hq47 (u47 + 1) s8) (by simp [lsub])
      · refine g_iconst X 0 dM_takesOther_83 (by decide) ?_
        refine g_istore_n X [some (.ref (C.w.ad 102)), some (.int v1), some (.int v2), some (.int 0)] dM_takesOther_84 (by decide) (Nat.le_of_ble_eq_true rfl) rfl ?_
        refine gf_sub (L' := [some (.ref (C.w.ad 102)), none, some (.int v2), some (.int 0)]) ?_ (by simp [lsub])
        refine gf_lp (Lf := fun (u85 : Int32) => [some (.ref (C.w.ad 102)), none, some (.int v2), some (.int u85)]) (fun q85 hq85 u85 s3 => ?_) FU 0 s0
        refine g_iload_n X dM_takesOther_85 rfl ?_
        refine g_iconst X 2 dM_takesOther_86 (by decide) ?_
        refine g_iload_n X dM_takesOther_87 rfl ?_
        refine g_imul X dM_takesOther_88 ?_
        refine g_cge X (tgt := 113) dM_takesOther_89 (by decide) ?_ ?_
        · refine g_aload_n X dM_takesOther_113 rfl ?_
          refine g_iload_n X dM_takesOther_114 rfl ?_
          refine g_putI X fl_M_299 fb_12_36 fp_12_36 k_102 dM_takesOther_115 (fun s4 => ?_)
          exact gf_sub (hj118 s4) (by simp [lsub])
        · refine g_aload_n X dM_takesOther_92 rfl ?_
          refine g_getN X fl_M_68 fb_12_37 k_102 r_102_37 dM_takesOther_93 ?_
          refine g_iload_n X dM_takesOther_96 rfl ?_
          refine g_aload_n X dM_takesOther_97 rfl ?_
          refine g_getN X fl_M_68 fb_12_37 k_102 r_102_37 dM_takesOther_98 ?_
          refine g_bipush X 32 dM_takesOther_101 (by decide) ?_
          refine g_iload_n X dM_takesOther_103 rfl ?_
          refine g_iadd X dM_takesOther_104 ?_
          refine g_iald X k_121 ln_121 dM_takesOther_105 ?_
          refine g_iast X k_121 ln_121 dM_takesOther_106 (fun s5 => ?_)
          refine g_iinc X (u85 + 1) [some (.ref (C.w.ad 102)), none, some (.int v2), some (.int (u85 + 1))] dM_takesOther_107 rfl rfl (by decide) rfl ?_
          refine g_goto X 85 dM_takesOther_110 (by decide) ?_
          exact gf_sub (hq85 (u85 + 1) s5) (by simp [lsub])
def yM_text : MethodName := ⟨"LastWordHillModel", "text", "(I)I"⟩
abbrev cM_text : ByteArray := prog_14_method_58_code
theorem dM_text_0 : decode cM_text 0 = .ok (.aload_n 0, 1) := by decide +kernel
theorem dM_text_1 : decode cM_text 1 = .ok (.iconst 0, 1) := by decide +kernel
theorem dM_text_2 : decode cM_text 2 = .ok (.putfield 134, 3) := by decide +kernel
theorem dM_text_5 : decode cM_text 5 = .ok (.aload_n 0, 1) := by decide +kernel
theorem dM_text_6 : decode cM_text 6 = .ok (.iconst 0, 1) := by decide +kernel
theorem dM_text_7 : decode cM_text 7 = .ok (.putfield 302, 3) := by decide +kernel
theorem fl_M_302 : FLk "LastWordHillModel" 302 12 32 := ⟨_, _, _, rfl, by decide, hz_in 1444 (by decide +kernel) (by decide +kernel), nL12, by decide, by decide⟩
theorem fb_12_32 : (hz_bs 12)[32]? = some false := by decide
theorem fp_12_32 : FLp 12 32 .int := ⟨_, _, _, _, rfl, nY12, nN12, by decide, by decide⟩
theorem dM_text_10 : decode cM_text 10 = .ok (.aload_n 0, 1) := by decide +kernel
theorem dM_text_11 : decode cM_text 11 = .ok (.iconst (-1), 1) := by decide +kernel
theorem dM_text_12 : decode cM_text 12 = .ok (.putfield 61, 3) := by decide +kernel
theorem fl_M_61 : FLk "LastWordHillModel" 61 12 33 := ⟨_, _, _, rfl, by decide, hz_in 1445 (by decide +kernel) (by decide +kernel), nL12, by decide, by decide⟩
theorem fb_12_33 : (hz_bs 12)[33]? = some false := by decide
theorem fp_12_33 : FLp 12 33 .int := ⟨_, _, _, _, rfl, nY12, nN12, by decide, by decide⟩
theorem dM_text_15 : decode cM_text 15 = .ok (.aload_n 0, 1) := by decide +kernel
theorem dM_text_16 : decode cM_text 16 = .ok (.iconst 0, 1) := by decide +kernel
theorem dM_text_17 : decode cM_text 17 = .ok (.putfield 175, 3) := by decide +kernel
theorem dM_text_20 : decode cM_text 20 = .ok (.aload_n 0, 1) := by decide +kernel
theorem dM_text_21 : decode cM_text 21 = .ok (.iconst 0, 1) := by decide +kernel
theorem dM_text_22 : decode cM_text 22 = .ok (.putfield 210, 3) := by decide +kernel
theorem dM_text_25 : decode cM_text 25 = .ok (.aload_n 0, 1) := by decide +kernel
theorem dM_text_26 : decode cM_text 26 = .ok (.iconst 0, 1) := by decide +kernel
theorem dM_text_27 : decode cM_text 27 = .ok (.putfield 241, 3) := by decide +kernel
theorem dM_text_30 : decode cM_text 30 = .ok (.iconst (-1), 1) := by decide +kernel
theorem dM_text_31 : decode cM_text 31 = .ok (.istore_n 2, 1) := by decide +kernel
theorem dM_text_32 : decode cM_text 32 = .ok (.aload_n 0, 1) := by decide +kernel
theorem dM_text_33 : decode cM_text 33 = .ok (.iload_n 1, 1) := by decide +kernel
theorem dM_text_34 : decode cM_text 34 = .ok (.iconst 0, 1) := by decide +kernel
theorem dM_text_35 : decode cM_text 35 = .ok (.iconst 3, 1) := by decide +kernel
theorem dM_text_36 : decode cM_text 36 = .ok (.invokevirtual 153, 3) := by decide +kernel
theorem dM_text_39 : decode cM_text 39 = .ok (.ifCond .eq 30, 3) := by decide +kernel
theorem dM_text_69 : decode cM_text 69 = .ok (.aload_n 0, 1) := by decide +kernel
theorem dM_text_70 : decode cM_text 70 = .ok (.iconst 0, 1) := by decide +kernel
theorem dM_text_71 : decode cM_text 71 = .ok (.putfield 168, 3) := by decide +kernel
theorem dM_text_74 : decode cM_text 74 = .ok (.iload_n 2, 1) := by decide +kernel
theorem dM_text_75 : decode cM_text 75 = .ok (.iconst (-1), 1) := by decide +kernel
theorem dM_text_76 : decode cM_text 76 = .ok (.if_icmp .ne 5, 3) := by decide +kernel
theorem dM_text_81 : decode cM_text 81 = .ok (.iload_n 1, 1) := by decide +kernel
theorem dM_text_82 : decode cM_text 82 = .ok (.ifCond .ne 11, 3) := by decide +kernel
theorem dM_text_93 : decode cM_text 93 = .ok (.aload_n 0, 1) := by decide +kernel
theorem dM_text_94 : decode cM_text 94 = .ok (.iload_n 1, 1) := by decide +kernel
theorem dM_text_95 : decode cM_text 95 = .ok (.iload_n 2, 1) := by decide +kernel
theorem dM_text_96 : decode cM_text 96 = .ok (.invokevirtual 311, 3) := by decide +kernel
theorem mm_M_takesOther : MMc yM_takesOther cM_takesOther 4 none 2 := ⟨hz_in 1798 (by decide +kernel) (by decide +kernel), hz_in 147 (by decide +kernel) (by decide +kernel), by decide +kernel, by decide⟩
theorem mv_M_takesOther : MMv yM_takesOther 12 := ⟨hz_in 1797 (by decide +kernel) (by decide +kernel), hz_in 85 (by decide +kernel) (by decide +kernel), _, _, rfl, by decide⟩
theorem ml_M_311 : Cond.methodLink "LastWordHillModel" 311 yM_takesOther ∈ hz_wt := hz_in 1795 (by decide +kernel) (by decide +kernel)
theorem dM_text_99 : decode cM_text 99 = .ok (.iload_n 2, 1) := by decide +kernel
theorem dM_text_100 : decode cM_text 100 = .ok (.ireturn, 1) := by decide +kernel
theorem dM_text_85 : decode cM_text 85 = .ok (.aload_n 0, 1) := by decide +kernel
theorem dM_text_86 : decode cM_text 86 = .ok (.iload_n 2, 1) := by decide +kernel
theorem dM_text_87 : decode cM_text 87 = .ok (.invokevirtual 308, 3) := by decide +kernel
theorem mm_M_takesLaw : MMc yM_takesLaw cM_takesLaw 3 none 1 := ⟨hz_in 1794 (by decide +kernel) (by decide +kernel), hz_in 147 (by decide +kernel) (by decide +kernel), by decide +kernel, by decide⟩
theorem mv_M_takesLaw : MMv yM_takesLaw 12 := ⟨hz_in 1793 (by decide +kernel) (by decide +kernel), hz_in 84 (by decide +kernel) (by decide +kernel), _, _, rfl, by decide⟩
theorem ml_M_308 : Cond.methodLink "LastWordHillModel" 308 yM_takesLaw ∈ hz_wt := hz_in 1791 (by decide +kernel) (by decide +kernel)
theorem dM_text_90 : decode cM_text 90 = .ok (.goto 9, 3) := by decide +kernel
theorem dM_text_79 : decode cM_text 79 = .ok (.iconst (-1), 1) := by decide +kernel
theorem dM_text_80 : decode cM_text 80 = .ok (.ireturn, 1) := by decide +kernel
theorem dM_text_42 : decode cM_text 42 = .ok (.aload_n 0, 1) := by decide +kernel
theorem dM_text_43 : decode cM_text 43 = .ok (.iload_n 1, 1) := by decide +kernel
theorem dM_text_44 : decode cM_text 44 = .ok (.invokevirtual 305, 3) := by decide +kernel
theorem mm_M_readsText : MMc yM_readsText cM_readsText 2 (some .int) 1 := ⟨hz_in 1678 (by decide +kernel) (by decide +kernel), hz_in 147 (by decide +kernel) (by decide +kernel), by decide +kernel, by decide⟩
theorem mv_M_readsText : MMv yM_readsText 12 := ⟨hz_in 1677 (by decide +kernel) (by decide +kernel), hz_in 55 (by decide +kernel) (by decide +kernel), _, _, rfl, by decide⟩
theorem ml_M_305 : Cond.methodLink "LastWordHillModel" 305 yM_readsText ∈ hz_wt := hz_in 1675 (by decide +kernel) (by decide +kernel)
theorem dM_text_47 : decode cM_text 47 = .ok (.istore_n 2, 1) := by decide +kernel
theorem dM_text_48 : decode cM_text 48 = .ok (.iload_n 2, 1) := by decide +kernel
theorem dM_text_49 : decode cM_text 49 = .ok (.iconst (-1), 1) := by decide +kernel
theorem dM_text_50 : decode cM_text 50 = .ok (.if_icmp .ne 19, 3) := by decide +kernel
theorem dM_text_53 : decode cM_text 53 = .ok (.aload_n 0, 1) := by decide +kernel
theorem dM_text_54 : decode cM_text 54 = .ok (.aload_n 0, 1) := by decide +kernel
theorem dM_text_55 : decode cM_text 55 = .ok (.getfield 204, 3) := by decide +kernel
theorem dM_text_58 : decode cM_text 58 = .ok (.putfield 302, 3) := by decide +kernel
theorem dM_text_61 : decode cM_text 61 = .ok (.aload_n 0, 1) := by decide +kernel
theorem dM_text_62 : decode cM_text 62 = .ok (.aload_n 0, 1) := by decide +kernel
theorem dM_text_63 : decode cM_text 63 = .ok (.getfield 207, 3) := by decide +kernel
theorem dM_text_66 : decode cM_text 66 = .ok (.putfield 61, 3) := by decide +kernel
def fM_text (v1 : Int32) (s0 : Sg) : Option (Int32 × Sg) := bnd (pt s0 102 0 0) fun s1 => bnd (pt s1 102 32 0) fun s2 => bnd (pt s2 102 33 (-1)) fun s3 => bnd (pt s3 102 13 0) fun s4 => bnd (pt s4 102 26 0) fun s5 => bnd (pt s5 102 27 0) fun s6 => bi (fM_isIn v1 0 3 s6) fun r8 s7 => bnd (fun (a69_2 : Int32) (s9 : Sg) => bnd (pt s9 102 12 0) fun s10 => if a69_2 = (-1) then (some ((-1), s10)) else (if v1 = 0 then (bv (fM_takesLaw a69_2 s10) fun s12 => some (a69_2, s12)) else (bv (fM_takesOther v1 a69_2 s10) fun s11 => some (a69_2, s11)))) fun j69 => if r8 = 0 then (j69 (-1) s7) else (bi (fM_readsText v1 s7) fun r14 s13 => if r14 = (-1) then (bnd (pt s13 102 32 (s13 102 30)) fun s15 => bnd (pt s15 102 33 (s15 102 31)) fun s16 => j69 r14 s16) else (j69 r14 s13))
set_option maxHeartbeats 4000000 in
set_option maxRecDepth 100000 in
theorem okM_text (v1 : Int32) (s0 : Sg) : ∀ (l : Launch) (w : WC), Ok l w yM_text cM_text 3 (some .int) 11 evI [.ref (w.ad 102), .int v1] s0 (fM_text v1 s0) := by
  refine ok_in (ev := fun _ => evI) (av := fun w => [.ref (w.ad 102), .int v1]) "LastWordHillModel" rfl (by decide +kernel) (fun _ => rfl) (fun _ => Nat.le_of_ble_eq_true rfl) ?_
  intro C X E
  show GF C evI 0 [some (.ref (C.w.ad 102)), some (.int v1), none] [] s0 (fM_text v1 s0)
  unfold fM_text
  refine g_aload_n X dM_text_0 rfl ?_
  refine g_iconst X 0 dM_text_1 (by decide) ?_
  refine g_putI X fl_M_134 fb_12_0 fp_12_0 k_102 dM_text_2 (fun s1 => ?_)
  refine g_aload_n X dM_text_5 rfl ?_
  refine g_iconst X 0 dM_text_6 (by decide) ?_
  refine g_putI X fl_M_302 fb_12_32 fp_12_32 k_102 dM_text_7 (fun s2 => ?_)
  refine g_aload_n X dM_text_10 rfl ?_
  refine g_iconst X (-1) dM_text_11 (by decide) ?_
  refine g_putI X fl_M_61 fb_12_33 fp_12_33 k_102 dM_text_12 (fun s3 => ?_)
  refine g_aload_n X dM_text_15 rfl ?_
  refine g_iconst X 0 dM_text_16 (by decide) ?_
  refine g_putI X fl_M_175 fb_12_13 fp_12_13 k_102 dM_text_17 (fun s4 => ?_)
  refine g_aload_n X dM_text_20 rfl ?_
  refine g_iconst X 0 dM_text_21 (by decide) ?_
  refine g_putI X fl_M_210 fb_12_26 fp_12_26 k_102 dM_text_22 (fun s5 => ?_)
  refine g_aload_n X dM_text_25 rfl ?_
  refine g_iconst X 0 dM_text_26 (by decide) ?_
  refine g_putI X fl_M_241 fb_12_27 fp_12_27 k_102 dM_text_27 (fun s6 => ?_)
  refine g_iconst X (-1) dM_text_30 (by decide) ?_
  refine g_istore_n X [some (.ref (C.w.ad 102)), some (.int v1), some (.int (-1))] dM_text_31 (by decide) (Nat.le_of_ble_eq_true rfl) rfl ?_
  refine g_aload_n X dM_text_32 rfl ?_
  refine g_iload_n X dM_text_33 rfl ?_
  refine g_iconst X 0 dM_text_34 (by decide) ?_
  refine g_iconst X 3 dM_text_35 (by decide) ?_
  refine g_virtI X [.int v1, .int 0, .int 3] [] k_102 mm_M_isIn mv_M_isIn ml_M_153 (okM_isIn v1 0 3 s6 C.l C.w) rfl (by decide) rfl (Nat.le_of_ble_eq_true rfl) dM_text_36 (fun r8 s7 => ?_)
  refine gf_jn (fun j69 => ∀ (a69_2 : Int32) (s9 : Sg), GF C evI 69 [some (.ref (C.w.ad 102)), some (.int v1), some (.int a69_2)] [] s9 (j69 a69_2 s9)) ?_ ?_
  · intro a69_2 s9
    refine g_aload_n X dM_text_69 rfl ?_
    refine g_iconst X 0 dM_text_70 (by decide) ?_
    refine g_putI X fl_M_168 fb_12_12 fp_12_12 k_102 dM_text_71 (fun s10 => ?_)
    refine g_iload_n X dM_text_74 rfl ?_
    refine g_iconst X (-1) dM_text_75 (by decide) ?_
    refine g_cne X (tgt := 81) dM_text_76 (by decide) ?_ ?_
    · refine g_iconst X (-1) dM_text_79 (by decide) ?_
      exact g_iret X E dM_text_80
    · refine g_iload_n X dM_text_81 rfl ?_
      refine g_zne X (tgt := 93) dM_text_82 (by decide) ?_ ?_
      · refine g_aload_n X dM_text_85 rfl ?_
        refine g_iload_n X dM_text_86 rfl ?_
        refine g_virtV X [.int a69_2] [] k_102 mm_M_takesLaw mv_M_takesLaw ml_M_308 (okM_takesLaw a69_2 s10 C.l C.w) rfl (by decide) rfl (Nat.le_of_ble_eq_true rfl) dM_text_87 (fun s12 => ?_)
        refine g_goto X 99 dM_text_90 (by decide) ?_
        refine g_iload_n X dM_text_99 rfl ?_
        exact g_iret X E dM_text_100
      · refine g_aload_n X dM_text_93 rfl ?_
        refine g_iload_n X dM_text_94 rfl ?_
        refine g_iload_n X dM_text_95 rfl ?_
        refine g_virtV X [.int v1, .int a69_2] [] k_102 mm_M_takesOther mv_M_takesOther ml_M_311 (okM_takesOther v1 a69_2 s10 C.l C.w) rfl (by decide) rfl (Nat.le_of_ble_eq_true rfl) dM_text_96 (fun s11 => ?_)
        refine g_iload_n X dM_text_99 rfl ?_
        exact g_iret X E dM_text_100
  · intro j69 hj69
    refine g_zeq X (tgt := 69) dM_text_39 (by decide) ?_ ?_
    · exact gf_sub (hj69 (-1) s7) (by simp [lsub])
    · refine g_aload_n X dM_text_42 rfl ?_
      refine g_iload_n X dM_text_43 rfl ?_
      refine g_virtI X [.int v1] [] k_102 mm_M_readsText mv_M_readsText ml_M_305 (okM_readsText v1 s7 C.l C.w) rfl (by decide) rfl (Nat.le_of_ble_eq_true rfl) dM_text_44 (fun r14 s13 => ?_)
      refine g_istore_n X [some (.ref (C.w.ad 102)), some (.int v1), some (.int r14)] dM_text_47 (by decide) (Nat.le_of_ble_eq_true rfl) rfl ?_
      refine g_iload_n X dM_text_48 rfl ?_
      refine g_iconst X (-1) dM_text_49 (by decide) ?_
      refine g_cne X (tgt := 69) dM_text_50 (by decide) ?_ ?_
      · refine g_aload_n X dM_text_53 rfl ?_
        refine g_aload_n X dM_text_54 rfl ?_
        refine g_getI X fl_M_204 fb_12_30 k_102 dM_text_55 ?_
        refine g_putI X fl_M_302 fb_12_32 fp_12_32 k_102 dM_text_58 (fun s15 => ?_)
        refine g_aload_n X dM_text_61 rfl ?_
        refine g_aload_n X dM_text_62 rfl ?_
        refine g_getI X fl_M_207 fb_12_31 k_102 dM_text_63 ?_
        refine g_putI X fl_M_61 fb_12_33 fp_12_33 k_102 dM_text_66 (fun s16 => ?_)
        exact gf_sub (hj69 r14 s16) (by simp [lsub])
      · exact gf_sub (hj69 r14 s13) (by simp [lsub])
def yM_fault : MethodName := ⟨"LastWordHillModel", "fault", "(I)I"⟩
abbrev cM_fault : ByteArray := prog_14_method_59_code
theorem dM_fault_0 : decode cM_fault 0 = .ok (.aload_n 0, 1) := by decide +kernel
theorem dM_fault_1 : decode cM_fault 1 = .ok (.iconst 0, 1) := by decide +kernel
theorem dM_fault_2 : decode cM_fault 2 = .ok (.putfield 134, 3) := by decide +kernel
theorem dM_fault_5 : decode cM_fault 5 = .ok (.iload_n 1, 1) := by decide +kernel
theorem dM_fault_6 : decode cM_fault 6 = .ok (.ifCond .ne 10, 3) := by decide +kernel
theorem dM_fault_16 : decode cM_fault 16 = .ok (.iload_n 1, 1) := by decide +kernel
theorem dM_fault_17 : decode cM_fault 17 = .ok (.iconst 1, 1) := by decide +kernel
theorem dM_fault_18 : decode cM_fault 18 = .ok (.if_icmp .ne 10, 3) := by decide +kernel
theorem dM_fault_28 : decode cM_fault 28 = .ok (.iconst (-1), 1) := by decide +kernel
theorem dM_fault_29 : decode cM_fault 29 = .ok (.ireturn, 1) := by decide +kernel
theorem dM_fault_21 : decode cM_fault 21 = .ok (.aload_n 0, 1) := by decide +kernel
theorem dM_fault_22 : decode cM_fault 22 = .ok (.getfield 61, 3) := by decide +kernel
theorem dM_fault_25 : decode cM_fault 25 = .ok (.goto 4, 3) := by decide +kernel
theorem dM_fault_9 : decode cM_fault 9 = .ok (.aload_n 0, 1) := by decide +kernel
theorem dM_fault_10 : decode cM_fault 10 = .ok (.getfield 302, 3) := by decide +kernel
theorem dM_fault_13 : decode cM_fault 13 = .ok (.goto 16, 3) := by decide +kernel
def fM_fault (v1 : Int32) (s0 : Sg) : Option (Int32 × Sg) := bnd (pt s0 102 0 0) fun s1 => if v1 = 0 then (some ((s1 102 32), s1)) else (if v1 = 1 then (some ((s1 102 33), s1)) else (some ((-1), s1)))
set_option maxHeartbeats 4000000 in
set_option maxRecDepth 100000 in
theorem okM_fault (v1 : Int32) (s0 : Sg) : ∀ (l : Launch) (w : WC), Ok l w yM_fault cM_fault 2 (some .int) 1 evI [.ref (w.ad 102), .int v1] s0 (fM_fault v1 s0) := by
  refine ok_in (ev := fun _ => evI) (av := fun w => [.ref (w.ad 102), .int v1]) "LastWordHillModel" rfl (by decide +kernel) (fun _ => rfl) (fun _ => Nat.le_of_ble_eq_true rfl) ?_
  intro C X E
  show GF C evI 0 [some (.ref (C.w.ad 102)), some (.int v1)] [] s0 (fM_fault v1 s0)
  unfold fM_fault
  refine g_aload_n X dM_fault_0 rfl ?_
  refine g_iconst X 0 dM_fault_1 (by decide) ?_
  refine g_putI X fl_M_134 fb_12_0 fp_12_0 k_102 dM_fault_2 (fun s1 => ?_)
  refine g_iload_n X dM_fault_5 rfl ?_
  refine g_zne X (tgt := 16) dM_fault_6 (by decide) ?_ ?_
  · refine g_aload_n X dM_fault_9 rfl ?_
    refine g_getI X fl_M_302 fb_12_32 k_102 dM_fault_10 ?_
    refine g_goto X 29 dM_fault_13 (by decide) ?_
    exact g_iret X E dM_fault_29
  · refine g_iload_n X dM_fault_16 rfl ?_
    refine g_iconst X 1 dM_fault_17 (by decide) ?_
    refine g_cne X (tgt := 28) dM_fault_18 (by decide) ?_ ?_
    · refine g_aload_n X dM_fault_21 rfl ?_
      refine g_getI X fl_M_61 fb_12_33 k_102 dM_fault_22 ?_
      refine g_goto X 29 dM_fault_25 (by decide) ?_
      exact g_iret X E dM_fault_29
    · refine g_iconst X (-1) dM_fault_28 (by decide) ?_
      exact g_iret X E dM_fault_29
def yM_twoOf : MethodName := ⟨"LastWordHillModel", "twoOf", "(III)I"⟩
abbrev cM_twoOf : ByteArray := prog_14_method_60_code
theorem dM_twoOf_0 : decode cM_twoOf 0 = .ok (.iload_n 1, 1) := by decide +kernel
theorem dM_twoOf_1 : decode cM_twoOf 1 = .ok (.iconst 2, 1) := by decide +kernel
theorem dM_twoOf_2 : decode cM_twoOf 2 = .ok (.if_icmp .ne 7, 3) := by decide +kernel
theorem dM_twoOf_9 : decode cM_twoOf 9 = .ok (.iload_n 1, 1) := by decide +kernel
theorem dM_twoOf_10 : decode cM_twoOf 10 = .ok (.iconst 3, 1) := by decide +kernel
theorem dM_twoOf_11 : decode cM_twoOf 11 = .ok (.if_icmp .ne 7, 3) := by decide +kernel
theorem dM_twoOf_18 : decode cM_twoOf 18 = .ok (.iload_n 1, 1) := by decide +kernel
theorem dM_twoOf_19 : decode cM_twoOf 19 = .ok (.iconst 4, 1) := by decide +kernel
theorem dM_twoOf_20 : decode cM_twoOf 20 = .ok (.if_icmp .ne 7, 3) := by decide +kernel
theorem dM_twoOf_27 : decode cM_twoOf 27 = .ok (.iload_n 1, 1) := by decide +kernel
theorem dM_twoOf_28 : decode cM_twoOf 28 = .ok (.iconst 5, 1) := by decide +kernel
theorem dM_twoOf_29 : decode cM_twoOf 29 = .ok (.if_icmp .ne 7, 3) := by decide +kernel
theorem dM_twoOf_36 : decode cM_twoOf 36 = .ok (.iload_n 1, 1) := by decide +kernel
theorem dM_twoOf_37 : decode cM_twoOf 37 = .ok (.bipush 6, 2) := by decide +kernel
theorem dM_twoOf_39 : decode cM_twoOf 39 = .ok (.if_icmp .ne 14, 3) := by decide +kernel
theorem dM_twoOf_53 : decode cM_twoOf 53 = .ok (.iload_n 1, 1) := by decide +kernel
theorem dM_twoOf_54 : decode cM_twoOf 54 = .ok (.bipush 7, 2) := by decide +kernel
theorem dM_twoOf_56 : decode cM_twoOf 56 = .ok (.if_icmp .ne 14, 3) := by decide +kernel
theorem dM_twoOf_70 : decode cM_twoOf 70 = .ok (.iload_n 1, 1) := by decide +kernel
theorem dM_twoOf_71 : decode cM_twoOf 71 = .ok (.bipush 8, 2) := by decide +kernel
theorem dM_twoOf_73 : decode cM_twoOf 73 = .ok (.if_icmp .ne 14, 3) := by decide +kernel
theorem dM_twoOf_87 : decode cM_twoOf 87 = .ok (.iload_n 1, 1) := by decide +kernel
theorem dM_twoOf_88 : decode cM_twoOf 88 = .ok (.bipush 10, 2) := by decide +kernel
theorem dM_twoOf_90 : decode cM_twoOf 90 = .ok (.if_icmp .ne 9, 3) := by decide +kernel
theorem dM_twoOf_99 : decode cM_twoOf 99 = .ok (.iload_n 2, 1) := by decide +kernel
theorem dM_twoOf_100 : decode cM_twoOf 100 = .ok (.iload_n 3, 1) := by decide +kernel
theorem dM_twoOf_101 : decode cM_twoOf 101 = .ok (.iadd, 1) := by decide +kernel
theorem dM_twoOf_102 : decode cM_twoOf 102 = .ok (.ifCond .le 7, 3) := by decide +kernel
theorem dM_twoOf_109 : decode cM_twoOf 109 = .ok (.iconst 0, 1) := by decide +kernel
theorem dM_twoOf_110 : decode cM_twoOf 110 = .ok (.ireturn, 1) := by decide +kernel
theorem dM_twoOf_105 : decode cM_twoOf 105 = .ok (.iconst 1, 1) := by decide +kernel
theorem dM_twoOf_106 : decode cM_twoOf 106 = .ok (.goto 4, 3) := by decide +kernel
theorem dM_twoOf_93 : decode cM_twoOf 93 = .ok (.iload_n 2, 1) := by decide +kernel
theorem dM_twoOf_94 : decode cM_twoOf 94 = .ok (.iload_n 3, 1) := by decide +kernel
theorem dM_twoOf_95 : decode cM_twoOf 95 = .ok (.imul, 1) := by decide +kernel
theorem dM_twoOf_96 : decode cM_twoOf 96 = .ok (.goto 14, 3) := by decide +kernel
theorem dM_twoOf_76 : decode cM_twoOf 76 = .ok (.iload_n 2, 1) := by decide +kernel
theorem dM_twoOf_77 : decode cM_twoOf 77 = .ok (.iload_n 3, 1) := by decide +kernel
theorem dM_twoOf_78 : decode cM_twoOf 78 = .ok (.if_icmp .le 7, 3) := by decide +kernel
theorem dM_twoOf_85 : decode cM_twoOf 85 = .ok (.iconst 0, 1) := by decide +kernel
theorem dM_twoOf_86 : decode cM_twoOf 86 = .ok (.ireturn, 1) := by decide +kernel
theorem dM_twoOf_81 : decode cM_twoOf 81 = .ok (.iconst 1, 1) := by decide +kernel
theorem dM_twoOf_82 : decode cM_twoOf 82 = .ok (.goto 4, 3) := by decide +kernel
theorem dM_twoOf_59 : decode cM_twoOf 59 = .ok (.iload_n 2, 1) := by decide +kernel
theorem dM_twoOf_60 : decode cM_twoOf 60 = .ok (.iload_n 3, 1) := by decide +kernel
theorem dM_twoOf_61 : decode cM_twoOf 61 = .ok (.if_icmp .ne 7, 3) := by decide +kernel
theorem dM_twoOf_68 : decode cM_twoOf 68 = .ok (.iconst 0, 1) := by decide +kernel
theorem dM_twoOf_69 : decode cM_twoOf 69 = .ok (.ireturn, 1) := by decide +kernel
theorem dM_twoOf_64 : decode cM_twoOf 64 = .ok (.iconst 1, 1) := by decide +kernel
theorem dM_twoOf_65 : decode cM_twoOf 65 = .ok (.goto 4, 3) := by decide +kernel
theorem dM_twoOf_42 : decode cM_twoOf 42 = .ok (.iload_n 2, 1) := by decide +kernel
theorem dM_twoOf_43 : decode cM_twoOf 43 = .ok (.iload_n 3, 1) := by decide +kernel
theorem dM_twoOf_44 : decode cM_twoOf 44 = .ok (.if_icmp .ge 7, 3) := by decide +kernel
theorem dM_twoOf_51 : decode cM_twoOf 51 = .ok (.iconst 0, 1) := by decide +kernel
theorem dM_twoOf_52 : decode cM_twoOf 52 = .ok (.ireturn, 1) := by decide +kernel
theorem dM_twoOf_47 : decode cM_twoOf 47 = .ok (.iconst 1, 1) := by decide +kernel
theorem dM_twoOf_48 : decode cM_twoOf 48 = .ok (.goto 4, 3) := by decide +kernel
theorem dM_twoOf_32 : decode cM_twoOf 32 = .ok (.iload_n 2, 1) := by decide +kernel
theorem dM_twoOf_33 : decode cM_twoOf 33 = .ok (.iload_n 3, 1) := by decide +kernel
theorem dM_twoOf_34 : decode cM_twoOf 34 = .ok (.idiv, 1) := by decide +kernel
theorem dM_twoOf_35 : decode cM_twoOf 35 = .ok (.ireturn, 1) := by decide +kernel
theorem dM_twoOf_23 : decode cM_twoOf 23 = .ok (.iload_n 2, 1) := by decide +kernel
theorem dM_twoOf_24 : decode cM_twoOf 24 = .ok (.iload_n 3, 1) := by decide +kernel
theorem dM_twoOf_25 : decode cM_twoOf 25 = .ok (.imul, 1) := by decide +kernel
theorem dM_twoOf_26 : decode cM_twoOf 26 = .ok (.ireturn, 1) := by decide +kernel
theorem dM_twoOf_14 : decode cM_twoOf 14 = .ok (.iload_n 2, 1) := by decide +kernel
theorem dM_twoOf_15 : decode cM_twoOf 15 = .ok (.iload_n 3, 1) := by decide +kernel
theorem dM_twoOf_16 : decode cM_twoOf 16 = .ok (.isub, 1) := by decide +kernel
theorem dM_twoOf_17 : decode cM_twoOf 17 = .ok (.ireturn, 1) := by decide +kernel
theorem dM_twoOf_5 : decode cM_twoOf 5 = .ok (.iload_n 2, 1) := by decide +kernel
theorem dM_twoOf_6 : decode cM_twoOf 6 = .ok (.iload_n 3, 1) := by decide +kernel
theorem dM_twoOf_7 : decode cM_twoOf 7 = .ok (.iadd, 1) := by decide +kernel
theorem dM_twoOf_8 : decode cM_twoOf 8 = .ok (.ireturn, 1) := by decide +kernel
def fM_twoOf (v1 : Int32) (v2 : Int32) (v3 : Int32) (s0 : Sg) : Option (Int32 × Sg) := if v1 = 2 then (some ((v2 + v3), s0)) else (if v1 = 3 then (some ((v2 - v3), s0)) else (if v1 = 4 then (some ((v2 * v3), s0)) else (if v1 = 5 then (gz v3 (some ((v2 / v3), s0))) else (if v1 = 6 then (if v3 ≤ v2 then (some (0, s0)) else (some (1, s0))) else (if v1 = 7 then (if v2 = v3 then (some (1, s0)) else (some (0, s0))) else (if v1 = 8 then (if v2 ≤ v3 then (some (0, s0)) else (some (1, s0))) else (if v1 = 10 then (some ((v2 * v3), s0)) else (if (v2 + v3) ≤ 0 then (some (0, s0)) else (some (1, s0))))))))))
set_option maxHeartbeats 4000000 in
set_option maxRecDepth 100000 in
theorem okM_twoOf (v1 : Int32) (v2 : Int32) (v3 : Int32) (s0 : Sg) : ∀ (l : Launch) (w : WC), Ok l w yM_twoOf cM_twoOf 4 (some .int) 1 evI [.ref (w.ad 102), .int v1, .int v2, .int v3] s0 (fM_twoOf v1 v2 v3 s0) := by
  refine ok_in (ev := fun _ => evI) (av := fun w => [.ref (w.ad 102), .int v1, .int v2, .int v3]) "LastWordHillModel" rfl (by decide +kernel) (fun _ => rfl) (fun _ => Nat.le_of_ble_eq_true rfl) ?_
  intro C X E
  show GF C evI 0 [some (.ref (C.w.ad 102)), some (.int v1), some (.int v2), some (.int v3)] [] s0 (fM_twoOf v1 v2 v3 s0)
  unfold fM_twoOf
  refine g_iload_n X dM_twoOf_0 rfl ?_
  refine g_iconst X 2 dM_twoOf_1 (by decide) ?_
  refine g_cne X (tgt := 9) dM_twoOf_2 (by decide) ?_ ?_
  · refine g_iload_n X dM_twoOf_5 rfl ?_
    refine g_iload_n X dM_twoOf_6 rfl ?_
    refine g_iadd X dM_twoOf_7 ?_
    exact g_iret X E dM_twoOf_8
  · refine g_iload_n X dM_twoOf_9 rfl ?_
    refine g_iconst X 3 dM_twoOf_10 (by decide) ?_
    refine g_cne X (tgt := 18) dM_twoOf_11 (by decide) ?_ ?_
    · refine g_iload_n X dM_twoOf_14 rfl ?_
      refine g_iload_n X dM_twoOf_15 rfl ?_
      refine g_isub X dM_twoOf_16 ?_
      exact g_iret X E dM_twoOf_17
    · refine g_iload_n X dM_twoOf_18 rfl ?_
      refine g_iconst X 4 dM_twoOf_19 (by decide) ?_
      refine g_cne X (tgt := 27) dM_twoOf_20 (by decide) ?_ ?_
      · refine g_iload_n X dM_twoOf_23 rfl ?_
        refine g_iload_n X dM_twoOf_24 rfl ?_
        refine g_imul X dM_twoOf_25 ?_
        exact g_iret X E dM_twoOf_26
      · refine g_iload_n X dM_twoOf_27 rfl ?_
        refine g_iconst X 5 dM_twoOf_28 (by decide) ?_
        refine g_cne X (tgt := 36) dM_twoOf_29 (by decide) ?_ ?_
        · refine g_iload_n X dM_twoOf_32 rfl ?_
          refine g_iload_n X dM_twoOf_33 rfl ?_
          refine g_idiv X dM_twoOf_34 ?_
          exact g_iret X E dM_twoOf_35
        · refine g_iload_n X dM_twoOf_36 rfl ?_
          refine g_bipush X 6 dM_twoOf_37 (by decide) ?_
          refine g_cne X (tgt := 53) dM_twoOf_39 (by decide) ?_ ?_
          · refine g_iload_n X dM_twoOf_42 rfl ?_
            refine g_iload_n X dM_twoOf_43 rfl ?_
            refine g_cge X (tgt := 51) dM_twoOf_44 (by decide) ?_ ?_
            · refine g_iconst X 0 dM_twoOf_51 (by decide) ?_
              exact g_iret X E dM_twoOf_52
            · refine g_iconst X 1 dM_twoOf_47 (by decide) ?_
              refine g_goto X 52 dM_twoOf_48 (by decide) ?_
              exact g_iret X E dM_twoOf_52
          · refine g_iload_n X dM_twoOf_53 rfl ?_
            refine g_bipush X 7 dM_twoOf_54 (by decide) ?_
            refine g_cne X (tgt := 70) dM_twoOf_56 (by decide) ?_ ?_
            · refine g_iload_n X dM_twoOf_59 rfl ?_
              refine g_iload_n X dM_twoOf_60 rfl ?_
              refine g_cne X (tgt := 68) dM_twoOf_61 (by decide) ?_ ?_
              · refine g_iconst X 1 dM_twoOf_64 (by decide) ?_
                refine g_goto X 69 dM_twoOf_65 (by decide) ?_
                exact g_iret X E dM_twoOf_69
              · refine g_iconst X 0 dM_twoOf_68 (by decide) ?_
                exact g_iret X E dM_twoOf_69
            · refine g_iload_n X dM_twoOf_70 rfl ?_
              refine g_bipush X 8 dM_twoOf_71 (by decide) ?_
              refine g_cne X (tgt := 87) dM_twoOf_73 (by decide) ?_ ?_
              · refine g_iload_n X dM_twoOf_76 rfl ?_
                refine g_iload_n X dM_twoOf_77 rfl ?_
                refine g_cle X (tgt := 85) dM_twoOf_78 (by decide) ?_ ?_
                · refine g_iconst X 0 dM_twoOf_85 (by decide) ?_
                  exact g_iret X E dM_twoOf_86
                · refine g_iconst X 1 dM_twoOf_81 (by decide) ?_
                  refine g_goto X 86 dM_twoOf_82 (by decide) ?_
                  exact g_iret X E dM_twoOf_86
              · refine g_iload_n X dM_twoOf_87 rfl ?_
                refine g_bipush X 10 dM_twoOf_88 (by decide) ?_
                refine g_cne X (tgt := 99) dM_twoOf_90 (by decide) ?_ ?_
                · refine g_iload_n X dM_twoOf_93 rfl ?_
                  refine g_iload_n X dM_twoOf_94 rfl ?_
                  refine g_imul X dM_twoOf_95 ?_
                  refine g_goto X 110 dM_twoOf_96 (by decide) ?_
                  exact g_iret X E dM_twoOf_110
                · refine g_iload_n X dM_twoOf_99 rfl ?_
                  refine g_iload_n X dM_twoOf_100 rfl ?_
                  refine g_iadd X dM_twoOf_101 ?_
                  refine g_zle X (tgt := 109) dM_twoOf_102 (by decide) ?_ ?_
                  · refine g_iconst X 0 dM_twoOf_109 (by decide) ?_
                    exact g_iret X E dM_twoOf_110
                  · refine g_iconst X 1 dM_twoOf_105 (by decide) ?_
                    refine g_goto X 110 dM_twoOf_106 (by decide) ?_
                    exact g_iret X E dM_twoOf_110
def yM_runs : MethodName := ⟨"LastWordHillModel", "runs", "(III)I"⟩
abbrev cM_runs : ByteArray := prog_14_method_61_code
theorem dM_runs_0 : decode cM_runs 0 = .ok (.iconst 0, 1) := by decide +kernel
theorem dM_runs_1 : decode cM_runs 1 = .ok (.istore 4, 2) := by decide +kernel
theorem dM_runs_3 : decode cM_runs 3 = .ok (.sipush 400, 3) := by decide +kernel
theorem dM_runs_6 : decode cM_runs 6 = .ok (.iload_n 1, 1) := by decide +kernel
theorem dM_runs_7 : decode cM_runs 7 = .ok (.imul, 1) := by decide +kernel
theorem dM_runs_8 : decode cM_runs 8 = .ok (.iload_n 2, 1) := by decide +kernel
theorem dM_runs_9 : decode cM_runs 9 = .ok (.iadd, 1) := by decide +kernel
theorem dM_runs_10 : decode cM_runs 10 = .ok (.istore 5, 2) := by decide +kernel
theorem dM_runs_12 : decode cM_runs 12 = .ok (.iload 5, 2) := by decide +kernel
theorem dM_runs_14 : decode cM_runs 14 = .ok (.sipush 400, 3) := by decide +kernel
theorem dM_runs_17 : decode cM_runs 17 = .ok (.iload_n 1, 1) := by decide +kernel
theorem dM_runs_18 : decode cM_runs 18 = .ok (.imul, 1) := by decide +kernel
theorem dM_runs_19 : decode cM_runs 19 = .ok (.iload_n 3, 1) := by decide +kernel
theorem dM_runs_20 : decode cM_runs 20 = .ok (.iadd, 1) := by decide +kernel
theorem dM_runs_21 : decode cM_runs 21 = .ok (.if_icmp .ge 155, 3) := by decide +kernel
theorem dM_runs_176 : decode cM_runs 176 = .ok (.aload_n 0, 1) := by decide +kernel
theorem dM_runs_177 : decode cM_runs 177 = .ok (.getfield 77, 3) := by decide +kernel
theorem fl_M_77 : FLk "LastWordHillModel" 77 12 41 := ⟨_, _, _, rfl, by decide, hz_in 1453 (by decide +kernel) (by decide +kernel), nL12, by decide, by decide⟩
theorem k_124 : hz_kd 124 = 13 := by decide
theorem fb_12_41 : (hz_bs 12)[41]? = some true := by decide
theorem r_102_41 : hz_rf 102 41 = 124 := by decide
theorem dM_runs_180 : decode cM_runs 180 = .ok (.iconst 0, 1) := by decide +kernel
theorem dM_runs_181 : decode cM_runs 181 = .ok (.iaload, 1) := by decide +kernel
theorem ln_124 : hz_ln 124 = 420 := by decide
theorem dM_runs_182 : decode cM_runs 182 = .ok (.ireturn, 1) := by decide +kernel
theorem dM_runs_24 : decode cM_runs 24 = .ok (.aload_n 0, 1) := by decide +kernel
theorem dM_runs_25 : decode cM_runs 25 = .ok (.getfield 52, 3) := by decide +kernel
theorem dM_runs_28 : decode cM_runs 28 = .ok (.iload 5, 2) := by decide +kernel
theorem dM_runs_30 : decode cM_runs 30 = .ok (.iaload, 1) := by decide +kernel
theorem dM_runs_31 : decode cM_runs 31 = .ok (.ifCond .eq 14, 3) := by decide +kernel
theorem dM_runs_170 : decode cM_runs 170 = .ok (.iinc 5 1, 3) := by decide +kernel
theorem dM_runs_173 : decode cM_runs 173 = .ok (.goto (-161), 3) := by decide +kernel
theorem dM_runs_45 : decode cM_runs 45 = .ok (.aload_n 0, 1) := by decide +kernel
theorem dM_runs_46 : decode cM_runs 46 = .ok (.getfield 77, 3) := by decide +kernel
theorem dM_runs_49 : decode cM_runs 49 = .ok (.iload 4, 2) := by decide +kernel
theorem dM_runs_51 : decode cM_runs 51 = .ok (.aload_n 0, 1) := by decide +kernel
theorem dM_runs_52 : decode cM_runs 52 = .ok (.getfield 52, 3) := by decide +kernel
theorem dM_runs_55 : decode cM_runs 55 = .ok (.iload 5, 2) := by decide +kernel
theorem dM_runs_57 : decode cM_runs 57 = .ok (.iaload, 1) := by decide +kernel
theorem dM_runs_58 : decode cM_runs 58 = .ok (.ifCond .ne 13, 3) := by decide +kernel
theorem dM_runs_83 : decode cM_runs 83 = .ok (.iastore, 1) := by decide +kernel
theorem dM_runs_84 : decode cM_runs 84 = .ok (.iload 4, 2) := by decide +kernel
theorem dM_runs_86 : decode cM_runs 86 = .ok (.iconst 1, 1) := by decide +kernel
theorem dM_runs_87 : decode cM_runs 87 = .ok (.iadd, 1) := by decide +kernel
theorem dM_runs_88 : decode cM_runs 88 = .ok (.istore 4, 2) := by decide +kernel
theorem dM_runs_90 : decode cM_runs 90 = .ok (.goto 80, 3) := by decide +kernel
theorem dM_runs_71 : decode cM_runs 71 = .ok (.aload_n 0, 1) := by decide +kernel
theorem dM_runs_72 : decode cM_runs 72 = .ok (.getfield 74, 3) := by decide +kernel
theorem fl_M_74 : FLk "LastWordHillModel" 74 12 40 := ⟨_, _, _, rfl, by decide, hz_in 1452 (by decide +kernel) (by decide +kernel), nL12, by decide, by decide⟩
theorem k_123 : hz_kd 123 = 13 := by decide
theorem fb_12_40 : (hz_bs 12)[40]? = some true := by decide
theorem r_102_40 : hz_rf 102 40 = 123 := by decide
theorem dM_runs_75 : decode cM_runs 75 = .ok (.aload_n 0, 1) := by decide +kernel
theorem dM_runs_76 : decode cM_runs 76 = .ok (.getfield 55, 3) := by decide +kernel
theorem dM_runs_79 : decode cM_runs 79 = .ok (.iload 5, 2) := by decide +kernel
theorem dM_runs_81 : decode cM_runs 81 = .ok (.iaload, 1) := by decide +kernel
theorem dM_runs_82 : decode cM_runs 82 = .ok (.iaload, 1) := by decide +kernel
theorem ln_123 : hz_ln 123 = 9 := by decide
theorem dM_runs_61 : decode cM_runs 61 = .ok (.aload_n 0, 1) := by decide +kernel
theorem dM_runs_62 : decode cM_runs 62 = .ok (.getfield 55, 3) := by decide +kernel
theorem dM_runs_65 : decode cM_runs 65 = .ok (.iload 5, 2) := by decide +kernel
theorem dM_runs_67 : decode cM_runs 67 = .ok (.iaload, 1) := by decide +kernel
theorem dM_runs_68 : decode cM_runs 68 = .ok (.goto 15, 3) := by decide +kernel
theorem dM_runs_34 : decode cM_runs 34 = .ok (.aload_n 0, 1) := by decide +kernel
theorem dM_runs_35 : decode cM_runs 35 = .ok (.getfield 52, 3) := by decide +kernel
theorem dM_runs_38 : decode cM_runs 38 = .ok (.iload 5, 2) := by decide +kernel
theorem dM_runs_40 : decode cM_runs 40 = .ok (.iaload, 1) := by decide +kernel
theorem dM_runs_41 : decode cM_runs 41 = .ok (.iconst 1, 1) := by decide +kernel
theorem dM_runs_42 : decode cM_runs 42 = .ok (.if_icmp .ne 51, 3) := by decide +kernel
theorem dM_runs_93 : decode cM_runs 93 = .ok (.aload_n 0, 1) := by decide +kernel
theorem dM_runs_94 : decode cM_runs 94 = .ok (.getfield 52, 3) := by decide +kernel
theorem dM_runs_97 : decode cM_runs 97 = .ok (.iload 5, 2) := by decide +kernel
theorem dM_runs_99 : decode cM_runs 99 = .ok (.iaload, 1) := by decide +kernel
theorem dM_runs_100 : decode cM_runs 100 = .ok (.bipush 9, 2) := by decide +kernel
theorem dM_runs_102 : decode cM_runs 102 = .ok (.if_icmp .ne 26, 3) := by decide +kernel
theorem dM_runs_128 : decode cM_runs 128 = .ok (.iload 4, 2) := by decide +kernel
theorem dM_runs_130 : decode cM_runs 130 = .ok (.iconst 1, 1) := by decide +kernel
theorem dM_runs_131 : decode cM_runs 131 = .ok (.isub, 1) := by decide +kernel
theorem dM_runs_132 : decode cM_runs 132 = .ok (.istore 4, 2) := by decide +kernel
theorem dM_runs_134 : decode cM_runs 134 = .ok (.aload_n 0, 1) := by decide +kernel
theorem dM_runs_135 : decode cM_runs 135 = .ok (.getfield 77, 3) := by decide +kernel
theorem dM_runs_138 : decode cM_runs 138 = .ok (.iload 4, 2) := by decide +kernel
theorem dM_runs_140 : decode cM_runs 140 = .ok (.iconst 1, 1) := by decide +kernel
theorem dM_runs_141 : decode cM_runs 141 = .ok (.isub, 1) := by decide +kernel
theorem dM_runs_142 : decode cM_runs 142 = .ok (.aload_n 0, 1) := by decide +kernel
theorem dM_runs_143 : decode cM_runs 143 = .ok (.aload_n 0, 1) := by decide +kernel
theorem dM_runs_144 : decode cM_runs 144 = .ok (.getfield 52, 3) := by decide +kernel
theorem dM_runs_147 : decode cM_runs 147 = .ok (.iload 5, 2) := by decide +kernel
theorem dM_runs_149 : decode cM_runs 149 = .ok (.iaload, 1) := by decide +kernel
theorem dM_runs_150 : decode cM_runs 150 = .ok (.aload_n 0, 1) := by decide +kernel
theorem dM_runs_151 : decode cM_runs 151 = .ok (.getfield 77, 3) := by decide +kernel
theorem dM_runs_154 : decode cM_runs 154 = .ok (.iload 4, 2) := by decide +kernel
theorem dM_runs_156 : decode cM_runs 156 = .ok (.iconst 1, 1) := by decide +kernel
theorem dM_runs_157 : decode cM_runs 157 = .ok (.isub, 1) := by decide +kernel
theorem dM_runs_158 : decode cM_runs 158 = .ok (.iaload, 1) := by decide +kernel
theorem dM_runs_159 : decode cM_runs 159 = .ok (.aload_n 0, 1) := by decide +kernel
theorem dM_runs_160 : decode cM_runs 160 = .ok (.getfield 77, 3) := by decide +kernel
theorem dM_runs_163 : decode cM_runs 163 = .ok (.iload 4, 2) := by decide +kernel
theorem dM_runs_165 : decode cM_runs 165 = .ok (.iaload, 1) := by decide +kernel
theorem dM_runs_166 : decode cM_runs 166 = .ok (.invokevirtual 314, 3) := by decide +kernel
theorem mm_M_twoOf : MMc yM_twoOf cM_twoOf 4 (some .int) 3 := ⟨hz_in 1894 (by decide +kernel) (by decide +kernel), hz_in 147 (by decide +kernel) (by decide +kernel), by decide +kernel, by decide⟩
theorem mv_M_twoOf : MMv yM_twoOf 12 := ⟨hz_in 1893 (by decide +kernel) (by decide +kernel), hz_in 105 (by decide +kernel) (by decide +kernel), _, _, rfl, by decide⟩
theorem ml_M_314 : Cond.methodLink "LastWordHillModel" 314 yM_twoOf ∈ hz_wt := hz_in 1891 (by decide +kernel) (by decide +kernel)
theorem dM_runs_169 : decode cM_runs 169 = .ok (.iastore, 1) := by decide +kernel
theorem dM_runs_105 : decode cM_runs 105 = .ok (.aload_n 0, 1) := by decide +kernel
theorem dM_runs_106 : decode cM_runs 106 = .ok (.getfield 77, 3) := by decide +kernel
theorem dM_runs_109 : decode cM_runs 109 = .ok (.iload 4, 2) := by decide +kernel
theorem dM_runs_111 : decode cM_runs 111 = .ok (.iconst 1, 1) := by decide +kernel
theorem dM_runs_112 : decode cM_runs 112 = .ok (.isub, 1) := by decide +kernel
theorem dM_runs_113 : decode cM_runs 113 = .ok (.iconst 1, 1) := by decide +kernel
theorem dM_runs_114 : decode cM_runs 114 = .ok (.aload_n 0, 1) := by decide +kernel
theorem dM_runs_115 : decode cM_runs 115 = .ok (.getfield 77, 3) := by decide +kernel
theorem dM_runs_118 : decode cM_runs 118 = .ok (.iload 4, 2) := by decide +kernel
theorem dM_runs_120 : decode cM_runs 120 = .ok (.iconst 1, 1) := by decide +kernel
theorem dM_runs_121 : decode cM_runs 121 = .ok (.isub, 1) := by decide +kernel
theorem dM_runs_122 : decode cM_runs 122 = .ok (.iaload, 1) := by decide +kernel
theorem dM_runs_123 : decode cM_runs 123 = .ok (.isub, 1) := by decide +kernel
theorem dM_runs_124 : decode cM_runs 124 = .ok (.iastore, 1) := by decide +kernel
theorem dM_runs_125 : decode cM_runs 125 = .ok (.goto 45, 3) := by decide +kernel
def fM_runs (v1 : Int32) (v2 : Int32) (v3 : Int32) (s0 : Sg) : Option (Int32 × Sg) := lp FU (fun q12 (u12 : Int32 × Int32) (s1 : Sg) => if ((400 * v1) + v3) ≤ u12.2 then (gd 0 420 (some ((s1 124 (ix 0)), s1))) else (gd u12.2 1200 (bnd (fun (a170_4 : Int32) (s2 : Sg) => q12 (a170_4, (u12.2 + 1)) s2) fun j170 => bnd (fun (s3 : Sg) => gd u12.2 1200 (bnd (fun (b83_0 : Int32) (s4 : Sg) => gd u12.1 420 (bnd (pt s4 124 (ix u12.1) b83_0) fun s5 => j170 (u12.1 + 1) s5)) fun j83 => if (s3 117 (ix u12.2)) = 0 then (gd u12.2 1200 (j83 (s3 118 (ix u12.2)) s3)) else (gd u12.2 1200 (gd (s3 118 (ix u12.2)) 9 (j83 (s3 123 (ix (s3 118 (ix u12.2)))) s3))))) fun j45 => if (s1 117 (ix u12.2)) = 0 then (j45 s1) else (gd u12.2 1200 (if (s1 117 (ix u12.2)) = 1 then (j45 s1) else (gd u12.2 1200 (if (s1 117 (ix u12.2)) = 9 then (gd (u12.1 - 1) 420 (gd (u12.1 - 1) 420 (bnd (pt s1 124 (ix (u12.1 - 1)) (1 - (s1 124 (ix (u12.1 - 1))))) fun s9 => j170 u12.1 s9))) else (gd u12.2 1200 (gd ((u12.1 - 1) - 1) 420 (gd (u12.1 - 1) 420 (bi (fM_twoOf (s1 117 (ix u12.2)) (s1 124 (ix ((u12.1 - 1) - 1))) (s1 124 (ix (u12.1 - 1))) s1) fun r7 s6 => gd ((u12.1 - 1) - 1) 420 (bnd (pt s6 124 (ix ((u12.1 - 1) - 1)) r7) fun s8 => j170 (u12.1 - 1) s8)))))))))))) (0, ((400 * v1) + v2)) s0
set_option maxHeartbeats 4000000 in
set_option maxRecDepth 100000 in
theorem okM_runs (v1 : Int32) (v2 : Int32) (v3 : Int32) (s0 : Sg) : ∀ (l : Launch) (w : WC), Ok l w yM_runs cM_runs 6 (some .int) 2 evI [.ref (w.ad 102), .int v1, .int v2, .int v3] s0 (fM_runs v1 v2 v3 s0) := by
  refine ok_in (ev := fun _ => evI) (av := fun w => [.ref (w.ad 102), .int v1, .int v2, .int v3]) "LastWordHillModel" rfl (by decide +kernel) (fun _ => rfl) (fun _ => Nat.le_of_ble_eq_true rfl) ?_
  intro C X E
  show GF C evI 0 [some (.ref (C.w.ad 102)), some (.int v1), some (.int v2), some (.int v3), none, none] [] s0 (fM_runs v1 v2 v3 s0)
  unfold fM_runs
  refine g_iconst X 0 dM_runs_0 (by decide) ?_
  refine g_istore X [some (.ref (C.w.ad 102)), some (.int v1), some (.int v2), some (.int v3), some (.int 0), none] dM_runs_1 (by decide) (Nat.le_of_ble_eq_true rfl) rfl ?_
  refine g_sipush X 400 dM_runs_3 (by decide) ?_
  refine g_iload_n X dM_runs_6 rfl ?_
  refine g_imul X dM_runs_7 ?_
  refine g_iload_n X dM_runs_8 rfl ?_
  refine g_iadd X dM_runs_9 ?_
  refine g_istore X [some (.ref (C.w.ad 102)), some (.int v1), some (.int v2), some (.int v3), some (.int 0), some (.int ((400 * v1) + v2))] dM_runs_10 (by decide) (Nat.le_of_ble_eq_true rfl) rfl ?_
  refine gf_sub (L' := [some (.ref (C.w.ad 102)), some (.int v1), none, some (.int v3), some (.int 0), some (.int ((400 * v1) + v2))]) ?_ (by simp [lsub])
  refine gf_lp (Lf := fun (u12 : Int32 × Int32) => [some (.ref (C.w.ad 102)), some (.int v1), none, some (.int v3), some (.int u12.1), some (.int u12.2)]) (fun q12 hq12 u12 s1 => ?_) FU (0, ((400 * v1) + v2)) s0
  refine g_iload X dM_runs_12 rfl ?_
  refine g_sipush X 400 dM_runs_14 (by decide) ?_
  refine g_iload_n X dM_runs_17 rfl ?_
  refine g_imul X dM_runs_18 ?_
  refine g_iload_n X dM_runs_19 rfl ?_
  refine g_iadd X dM_runs_20 ?_
  refine g_cge X (tgt := 176) dM_runs_21 (by decide) ?_ ?_
  · refine g_aload_n X dM_runs_176 rfl ?_
    refine g_getN X fl_M_77 fb_12_41 k_102 r_102_41 dM_runs_177 ?_
    refine g_iconst X 0 dM_runs_180 (by decide) ?_
    refine g_iald X k_124 ln_124 dM_runs_181 ?_
    exact g_iret X E dM_runs_182
  · refine g_aload_n X dM_runs_24 rfl ?_
    refine g_getN X fl_M_52 fb_12_23 k_102 r_102_23 dM_runs_25 ?_
    refine g_iload X dM_runs_28 rfl ?_
    refine g_iald X k_117 ln_117 dM_runs_30 ?_
    refine gf_jn (fun j170 => ∀ (a170_4 : Int32) (s2 : Sg), GF C evI 170 [some (.ref (C.w.ad 102)), some (.int v1), none, some (.int v3), some (.int a170_4), some (.int u12.2)] [] s2 (j170 a170_4 s2)) ?_ ?_
    · intro a170_4 s2
      refine g_iinc X (u12.2 + 1) [some (.ref (C.w.ad 102)), some (.int v1), none, some (.int v3), some (.int a170_4), some (.int (u12.2 + 1))] dM_runs_170 rfl rfl (by decide) rfl ?_
      refine g_goto X 12 dM_runs_173 (by decide) ?_
      exact gf_sub (hq12 (a170_4, (u12.2 + 1)) s2) (by simp [lsub])
    · intro j170 hj170
      refine gf_jn (fun j45 => ∀ (s3 : Sg), GF C evI 45 [some (.ref (C.w.ad 102)), some (.int v1), none, some (.int v3), some (.int u12.1), some (.int u12.2)] [] s3 (j45 s3)) ?_ ?_
      · intro s3
        refine g_aload_n X dM_runs_45 rfl ?_
        refine g_getN X fl_M_77 fb_12_41 k_102 r_102_41 dM_runs_46 ?_
        refine g_iload X dM_runs_49 rfl ?_
        refine g_aload_n X dM_runs_51 rfl ?_
        refine g_getN X fl_M_52 fb_12_23 k_102 r_102_23 dM_runs_52 ?_
        refine g_iload X dM_runs_55 rfl ?_
        refine g_iald X k_117 ln_117 dM_runs_57 ?_
        refine gf_jn (fun j83 => ∀ (b83_0 : Int32) (s4 : Sg), GF C evI 83 [some (.ref (C.w.ad 102)), some (.int v1), none, some (.int v3), some (.int u12.1), some (.int u12.2)] [.int b83_0, .int u12.1, .ref (C.w.ad 124)] s4 (j83 b83_0 s4)) ?_ ?_
        · intro b83_0 s4
          refine g_iast X k_124 ln_124 dM_runs_83 (fun s5 => ?_)
          refine g_iload X dM_runs_84 rfl ?_
          refine g_iconst X 1 dM_runs_86 (by decide) ?_
          refine g_iadd X dM_runs_87 ?_
          refine g_istore X [some (.ref (C.w.ad 102)), some (.int v1), none, some (.int v3), some (.int (u12.1 + 1)), some (.int u12.2)] dM_runs_88 (by decide) (Nat.le_of_ble_eq_true rfl) rfl ?_
          refine g_goto X 170 dM_runs_90 (by decide) ?_
          exact gf_sub (hj170 (u12.1 + 1) s5) (by simp [lsub])
        · intro j83 hj83
          refine g_zne X (tgt := 71) dM_runs_58 (by decide) ?_ ?_
          · refine g_aload_n X dM_runs_61 rfl ?_
            refine g_getN X fl_M_55 fb_12_24 k_102 r_102_24 dM_runs_62 ?_
            refine g_iload X dM_runs_65 rfl ?_
            refine g_iald X k_118 ln_118 dM_runs_67 ?_
            refine g_goto X 83 dM_runs_68 (by decide) ?_
            exact gf_sub (hj83 (s3 118 (ix u12.2)) s3) (by simp [lsub])
          · refine g_aload_n X dM_runs_71 rfl ?_
            refine g_getN X fl_M_74 fb_12_40 k_102 r_102_40 dM_runs_72 ?_
            refine g_aload_n X dM_runs_75 rfl ?_
            refine g_getN X fl_M_55 fb_12_24 k_102 r_102_24 dM_runs_76 ?_
            refine g_iload X dM_runs_79 rfl ?_
            refine g_iald X k_118 ln_118 dM_runs_81 ?_
            refine g_iald X k_123 ln_123 dM_runs_82 ?_
            exact gf_sub (hj83 (s3 123 (ix (s3 118 (ix u12.2)))) s3) (by simp [lsub])
      · intro j45 hj45
        refine g_zeq X (tgt := 45) dM_runs_31 (by decide) ?_ ?_
        · exact gf_sub (hj45 s1) (by simp [lsub])
        · refine g_aload_n X dM_runs_34 rfl ?_
          refine g_getN X fl_M_52 fb_12_23 k_102 r_102_23 dM_runs_35 ?_
          refine g_iload X dM_runs_38 rfl ?_
          refine g_iald X k_117 ln_117 dM_runs_40 ?_
          refine g_iconst X 1 dM_runs_41 (by decide) ?_
          refine g_cne X (tgt := 93) dM_runs_42 (by decide) ?_ ?_
          · exact gf_sub (hj45 s1) (by simp [lsub])
          · refine g_aload_n X dM_runs_93 rfl ?_
            refine g_getN X fl_M_52 fb_12_23 k_102 r_102_23 dM_runs_94 ?_
            refine g_iload X dM_runs_97 rfl ?_
            refine g_iald X k_117 ln_117 dM_runs_99 ?_
            refine g_bipush X 9 dM_runs_100 (by decide) ?_
            refine g_cne X (tgt := 128) dM_runs_102 (by decide) ?_ ?_
            · refine g_aload_n X dM_runs_105 rfl ?_
              refine g_getN X fl_M_77 fb_12_41 k_102 r_102_41 dM_runs_106 ?_
              refine g_iload X dM_runs_109 rfl ?_
              refine g_iconst X 1 dM_runs_111 (by decide) ?_
              refine g_isub X dM_runs_112 ?_
              refine g_iconst X 1 dM_runs_113 (by decide) ?_
              refine g_aload_n X dM_runs_114 rfl ?_
              refine g_getN X fl_M_77 fb_12_41 k_102 r_102_41 dM_runs_115 ?_
              refine g_iload X dM_runs_118 rfl ?_
              refine g_iconst X 1 dM_runs_120 (by decide) ?_
              refine g_isub X dM_runs_121 ?_
              refine g_iald X k_124 ln_124 dM_runs_122 ?_
              refine g_isub X dM_runs_123 ?_
              refine g_iast X k_124 ln_124 dM_runs_124 (fun s9 => ?_)
              refine g_goto X 170 dM_runs_125 (by decide) ?_
              exact gf_sub (hj170 u12.1 s9) (by simp [lsub])
            · refine g_iload X dM_runs_128 rfl ?_
              refine g_iconst X 1 dM_runs_130 (by decide) ?_
              refine g_isub X dM_runs_131 ?_
              refine g_istore X [some (.ref (C.w.ad 102)), some (.int v1), none, some (.int v3), some (.int (u12.1 - 1)), some (.int u12.2)] dM_runs_132 (by decide) (Nat.le_of_ble_eq_true rfl) rfl ?_
              refine g_aload_n X dM_runs_134 rfl ?_
              refine g_getN X fl_M_77 fb_12_41 k_102 r_102_41 dM_runs_135 ?_
              refine g_iload X dM_runs_138 rfl ?_
              refine g_iconst X 1 dM_runs_140 (by decide) ?_
              refine g_isub X dM_runs_141 ?_
              refine g_aload_n X dM_runs_142 rfl ?_
              refine g_aload_n X dM_runs_143 rfl ?_
              refine g_getN X fl_M_52 fb_12_23 k_102 r_102_23 dM_runs_144 ?_
              refine g_iload X dM_runs_147 rfl ?_
              refine g_iald X k_117 ln_117 dM_runs_149 ?_
              refine g_aload_n X dM_runs_150 rfl ?_
              refine g_getN X fl_M_77 fb_12_41 k_102 r_102_41 dM_runs_151 ?_
              refine g_iload X dM_runs_154 rfl ?_
              refine g_iconst X 1 dM_runs_156 (by decide) ?_
              refine g_isub X dM_runs_157 ?_
              refine g_iald X k_124 ln_124 dM_runs_158 ?_
              refine g_aload_n X dM_runs_159 rfl ?_
              refine g_getN X fl_M_77 fb_12_41 k_102 r_102_41 dM_runs_160 ?_
              refine g_iload X dM_runs_163 rfl ?_
              refine g_iald X k_124 ln_124 dM_runs_165 ?_
              refine g_virtI X [.int (s1 117 (ix u12.2)), .int (s1 124 (ix ((u12.1 - 1) - 1))), .int (s1 124 (ix (u12.1 - 1)))] [.int ((u12.1 - 1) - 1), .ref (C.w.ad 124)] k_102 mm_M_twoOf mv_M_twoOf ml_M_314 (okM_twoOf (s1 117 (ix u12.2)) (s1 124 (ix ((u12.1 - 1) - 1))) (s1 124 (ix (u12.1 - 1))) s1 C.l C.w) rfl (by decide) rfl (Nat.le_of_ble_eq_true rfl) dM_runs_166 (fun r7 s6 => ?_)
              refine g_iast X k_124 ln_124 dM_runs_169 (fun s8 => ?_)
              exact gf_sub (hj170 (u12.1 - 1) s8) (by simp [lsub])
def yM_lineOf : MethodName := ⟨"LastWordHillModel", "lineOf", "(I)I"⟩
abbrev cM_lineOf : ByteArray := prog_14_method_62_code
theorem dM_lineOf_0 : decode cM_lineOf 0 = .ok (.iconst 0, 1) := by decide +kernel
theorem dM_lineOf_1 : decode cM_lineOf 1 = .ok (.istore_n 2, 1) := by decide +kernel
theorem dM_lineOf_2 : decode cM_lineOf 2 = .ok (.iload_n 2, 1) := by decide +kernel
theorem dM_lineOf_3 : decode cM_lineOf 3 = .ok (.aload_n 0, 1) := by decide +kernel
theorem dM_lineOf_4 : decode cM_lineOf 4 = .ok (.getfield 37, 3) := by decide +kernel
theorem dM_lineOf_7 : decode cM_lineOf 7 = .ok (.iconst 0, 1) := by decide +kernel
theorem dM_lineOf_8 : decode cM_lineOf 8 = .ok (.iaload, 1) := by decide +kernel
theorem dM_lineOf_9 : decode cM_lineOf 9 = .ok (.if_icmp .ge 56, 3) := by decide +kernel
theorem dM_lineOf_65 : decode cM_lineOf 65 = .ok (.iconst (-1), 1) := by decide +kernel
theorem dM_lineOf_66 : decode cM_lineOf 66 = .ok (.ireturn, 1) := by decide +kernel
theorem dM_lineOf_12 : decode cM_lineOf 12 = .ok (.aload_n 0, 1) := by decide +kernel
theorem dM_lineOf_13 : decode cM_lineOf 13 = .ok (.getfield 40, 3) := by decide +kernel
theorem dM_lineOf_16 : decode cM_lineOf 16 = .ok (.iload_n 2, 1) := by decide +kernel
theorem dM_lineOf_17 : decode cM_lineOf 17 = .ok (.iaload, 1) := by decide +kernel
theorem dM_lineOf_18 : decode cM_lineOf 18 = .ok (.iload_n 1, 1) := by decide +kernel
theorem dM_lineOf_19 : decode cM_lineOf 19 = .ok (.if_icmp .ne 40, 3) := by decide +kernel
theorem dM_lineOf_59 : decode cM_lineOf 59 = .ok (.iinc 2 1, 3) := by decide +kernel
theorem dM_lineOf_62 : decode cM_lineOf 62 = .ok (.goto (-60), 3) := by decide +kernel
theorem dM_lineOf_22 : decode cM_lineOf 22 = .ok (.aload_n 0, 1) := by decide +kernel
theorem dM_lineOf_23 : decode cM_lineOf 23 = .ok (.getfield 46, 3) := by decide +kernel
theorem dM_lineOf_26 : decode cM_lineOf 26 = .ok (.iload_n 2, 1) := by decide +kernel
theorem dM_lineOf_27 : decode cM_lineOf 27 = .ok (.iaload, 1) := by decide +kernel
theorem dM_lineOf_28 : decode cM_lineOf 28 = .ok (.aload_n 0, 1) := by decide +kernel
theorem dM_lineOf_29 : decode cM_lineOf 29 = .ok (.getfield 49, 3) := by decide +kernel
theorem dM_lineOf_32 : decode cM_lineOf 32 = .ok (.iload_n 2, 1) := by decide +kernel
theorem dM_lineOf_33 : decode cM_lineOf 33 = .ok (.iaload, 1) := by decide +kernel
theorem dM_lineOf_34 : decode cM_lineOf 34 = .ok (.if_icmp .eq 23, 3) := by decide +kernel
theorem dM_lineOf_57 : decode cM_lineOf 57 = .ok (.iload_n 2, 1) := by decide +kernel
theorem dM_lineOf_58 : decode cM_lineOf 58 = .ok (.ireturn, 1) := by decide +kernel
theorem dM_lineOf_37 : decode cM_lineOf 37 = .ok (.aload_n 0, 1) := by decide +kernel
theorem dM_lineOf_38 : decode cM_lineOf 38 = .ok (.iconst 0, 1) := by decide +kernel
theorem dM_lineOf_39 : decode cM_lineOf 39 = .ok (.aload_n 0, 1) := by decide +kernel
theorem dM_lineOf_40 : decode cM_lineOf 40 = .ok (.getfield 46, 3) := by decide +kernel
theorem dM_lineOf_43 : decode cM_lineOf 43 = .ok (.iload_n 2, 1) := by decide +kernel
theorem dM_lineOf_44 : decode cM_lineOf 44 = .ok (.iaload, 1) := by decide +kernel
theorem dM_lineOf_45 : decode cM_lineOf 45 = .ok (.aload_n 0, 1) := by decide +kernel
theorem dM_lineOf_46 : decode cM_lineOf 46 = .ok (.getfield 49, 3) := by decide +kernel
theorem dM_lineOf_49 : decode cM_lineOf 49 = .ok (.iload_n 2, 1) := by decide +kernel
theorem dM_lineOf_50 : decode cM_lineOf 50 = .ok (.iaload, 1) := by decide +kernel
theorem dM_lineOf_51 : decode cM_lineOf 51 = .ok (.invokevirtual 317, 3) := by decide +kernel
theorem mm_M_runs : MMc yM_runs cM_runs 6 (some .int) 3 := ⟨hz_in 1890 (by decide +kernel) (by decide +kernel), hz_in 147 (by decide +kernel) (by decide +kernel), by decide +kernel, by decide⟩
theorem mv_M_runs : MMv yM_runs 12 := ⟨hz_in 1889 (by decide +kernel) (by decide +kernel), hz_in 104 (by decide +kernel) (by decide +kernel), _, _, rfl, by decide⟩
theorem ml_M_317 : Cond.methodLink "LastWordHillModel" 317 yM_runs ∈ hz_wt := hz_in 1887 (by decide +kernel) (by decide +kernel)
theorem dM_lineOf_54 : decode cM_lineOf 54 = .ok (.ifCond .eq 5, 3) := by decide +kernel
def fM_lineOf (v1 : Int32) (s0 : Sg) : Option (Int32 × Sg) := lp FU (fun q2 (u2 : Int32) (s1 : Sg) => gd 0 2 (if (s1 112 (ix 0)) ≤ u2 then (some ((-1), s1)) else (gd u2 48 (bnd (fun (s2 : Sg) => q2 (u2 + 1) s2) fun j59 => if (s1 113 (ix u2)) = v1 then (gd u2 48 (gd u2 48 (if (s1 115 (ix u2)) = (s1 116 (ix u2)) then (some (u2, s1)) else (gd u2 48 (gd u2 48 (bi (fM_runs 0 (s1 115 (ix u2)) (s1 116 (ix u2)) s1) fun r4 s3 => if r4 = 0 then (j59 s3) else (some (u2, s3)))))))) else (j59 s1))))) 0 s0
set_option maxHeartbeats 4000000 in
set_option maxRecDepth 100000 in
theorem okM_lineOf (v1 : Int32) (s0 : Sg) : ∀ (l : Launch) (w : WC), Ok l w yM_lineOf cM_lineOf 3 (some .int) 3 evI [.ref (w.ad 102), .int v1] s0 (fM_lineOf v1 s0) := by
  refine ok_in (ev := fun _ => evI) (av := fun w => [.ref (w.ad 102), .int v1]) "LastWordHillModel" rfl (by decide +kernel) (fun _ => rfl) (fun _ => Nat.le_of_ble_eq_true rfl) ?_
  intro C X E
  show GF C evI 0 [some (.ref (C.w.ad 102)), some (.int v1), none] [] s0 (fM_lineOf v1 s0)
  unfold fM_lineOf
  refine g_iconst X 0 dM_lineOf_0 (by decide) ?_
  refine g_istore_n X [some (.ref (C.w.ad 102)), some (.int v1), some (.int 0)] dM_lineOf_1 (by decide) (Nat.le_of_ble_eq_true rfl) rfl ?_
  refine gf_sub (L' := [some (.ref (C.w.ad 102)), some (.int v1), some (.int 0)]) ?_ (by simp [lsub])
  refine gf_lp (Lf := fun (u2 : Int32) => [some (.ref (C.w.ad 102)), some (.int v1), some (.int u2)]) (fun q2 hq2 u2 s1 => ?_) FU 0 s0
  refine g_iload_n X dM_lineOf_2 rfl ?_
  refine g_aload_n X dM_lineOf_3 rfl ?_
  refine g_getN X fl_M_37 fb_12_18 k_102 r_102_18 dM_lineOf_4 ?_
  refine g_iconst X 0 dM_lineOf_7 (by decide) ?_
  refine g_iald X k_112 ln_112 dM_lineOf_8 ?_
  refine g_cge X (tgt := 65) dM_lineOf_9 (by decide) ?_ ?_
  · refine g_iconst X (-1) dM_lineOf_65 (by decide) ?_
    exact g_iret X E dM_lineOf_66
  · refine g_aload_n X dM_lineOf_12 rfl ?_
    refine g_getN X fl_M_40 fb_12_19 k_102 r_102_19 dM_lineOf_13 ?_
    refine g_iload_n X dM_lineOf_16 rfl ?_
    refine g_iald X k_113 ln_113 dM_lineOf_17 ?_
    refine g_iload_n X dM_lineOf_18 rfl ?_
    refine gf_jn (fun j59 => ∀ (s2 : Sg), GF C evI 59 [some (.ref (C.w.ad 102)), some (.int v1), some (.int u2)] [] s2 (j59 s2)) ?_ ?_
    · intro s2
      refine g_iinc X (u2 + 1) [some (.ref (C.w.ad 102)), some (.int v1), some (.int (u2 + 1))] dM_lineOf_59 rfl rfl (by decide) rfl ?_
      refine g_goto X 2 dM_lineOf_62 (by decide) ?_
      exact gf_sub (hq2 (u2 + 1) s2) (by simp [lsub])
    · intro j59 hj59
      refine g_cne X (tgt := 59) dM_lineOf_19 (by decide) ?_ ?_
      · refine g_aload_n X dM_lineOf_22 rfl ?_
        refine g_getN X fl_M_46 fb_12_21 k_102 r_102_21 dM_lineOf_23 ?_
        refine g_iload_n X dM_lineOf_26 rfl ?_
        refine g_iald X k_115 ln_115 dM_lineOf_27 ?_
        refine g_aload_n X dM_lineOf_28 rfl ?_
        refine g_getN X fl_M_49 fb_12_22 k_102 r_102_22 dM_lineOf_29 ?_
        refine g_iload_n X dM_lineOf_32 rfl ?_
        refine g_iald X k_116 ln_116 dM_lineOf_33 ?_
        refine g_ceq X (tgt := 57) dM_lineOf_34 (by decide) ?_ ?_
        · refine g_iload_n X dM_lineOf_57 rfl ?_
          exact g_iret X E dM_lineOf_58
        · refine g_aload_n X dM_lineOf_37 rfl ?_
          refine g_iconst X 0 dM_lineOf_38 (by decide) ?_
          refine g_aload_n X dM_lineOf_39 rfl ?_
          refine g_getN X fl_M_46 fb_12_21 k_102 r_102_21 dM_lineOf_40 ?_
          refine g_iload_n X dM_lineOf_43 rfl ?_
          refine g_iald X k_115 ln_115 dM_lineOf_44 ?_
          refine g_aload_n X dM_lineOf_45 rfl ?_
          refine g_getN X fl_M_49 fb_12_22 k_102 r_102_22 dM_lineOf_46 ?_
          refine g_iload_n X dM_lineOf_49 rfl ?_
          refine g_iald X k_116 ln_116 dM_lineOf_50 ?_
          refine g_virtI X [.int 0, .int (s1 115 (ix u2)), .int (s1 116 (ix u2))] [] k_102 mm_M_runs mv_M_runs ml_M_317 (okM_runs 0 (s1 115 (ix u2)) (s1 116 (ix u2)) s1 C.l C.w) rfl (by decide) rfl (Nat.le_of_ble_eq_true rfl) dM_lineOf_51 (fun r4 s3 => ?_)
          refine g_zeq X (tgt := 59) dM_lineOf_54 (by decide) ?_ ?_
          · exact gf_sub (hj59 s3) (by simp [lsub])
          · refine g_iload_n X dM_lineOf_57 rfl ?_
            exact g_iret X E dM_lineOf_58
      · exact gf_sub (hj59 s1) (by simp [lsub])
def yM_othersUp : MethodName := ⟨"LastWordHillModel", "othersUp", "(I)I"⟩
abbrev cM_othersUp : ByteArray := prog_14_method_63_code
theorem dM_othersUp_0 : decode cM_othersUp 0 = .ok (.iconst 0, 1) := by decide +kernel
theorem dM_othersUp_1 : decode cM_othersUp 1 = .ok (.istore_n 2, 1) := by decide +kernel
theorem dM_othersUp_2 : decode cM_othersUp 2 = .ok (.iconst 0, 1) := by decide +kernel
theorem dM_othersUp_3 : decode cM_othersUp 3 = .ok (.istore_n 3, 1) := by decide +kernel
theorem dM_othersUp_4 : decode cM_othersUp 4 = .ok (.iload_n 3, 1) := by decide +kernel
theorem dM_othersUp_5 : decode cM_othersUp 5 = .ok (.aload_n 0, 1) := by decide +kernel
theorem dM_othersUp_6 : decode cM_othersUp 6 = .ok (.getfield 146, 3) := by decide +kernel
theorem dM_othersUp_9 : decode cM_othersUp 9 = .ok (.if_icmp .ge 26, 3) := by decide +kernel
theorem dM_othersUp_35 : decode cM_othersUp 35 = .ok (.iload_n 2, 1) := by decide +kernel
theorem dM_othersUp_36 : decode cM_othersUp 36 = .ok (.ireturn, 1) := by decide +kernel
theorem dM_othersUp_12 : decode cM_othersUp 12 = .ok (.iload_n 3, 1) := by decide +kernel
theorem dM_othersUp_13 : decode cM_othersUp 13 = .ok (.iload_n 1, 1) := by decide +kernel
theorem dM_othersUp_14 : decode cM_othersUp 14 = .ok (.if_icmp .eq 15, 3) := by decide +kernel
theorem dM_othersUp_29 : decode cM_othersUp 29 = .ok (.iinc 3 1, 3) := by decide +kernel
theorem dM_othersUp_32 : decode cM_othersUp 32 = .ok (.goto (-28), 3) := by decide +kernel
theorem dM_othersUp_17 : decode cM_othersUp 17 = .ok (.aload_n 0, 1) := by decide +kernel
theorem dM_othersUp_18 : decode cM_othersUp 18 = .ok (.iload_n 3, 1) := by decide +kernel
theorem dM_othersUp_19 : decode cM_othersUp 19 = .ok (.invokevirtual 320, 3) := by decide +kernel
theorem mm_M_isUp : MMc yM_isUp cM_isUp 2 (some .boolean) 1 := ⟨hz_in 1814 (by decide +kernel) (by decide +kernel), hz_in 147 (by decide +kernel) (by decide +kernel), by decide +kernel, by decide⟩
theorem mv_M_isUp : MMv yM_isUp 12 := ⟨hz_in 1813 (by decide +kernel) (by decide +kernel), hz_in 87 (by decide +kernel) (by decide +kernel), _, _, rfl, by decide⟩
theorem ml_M_320 : Cond.methodLink "LastWordHillModel" 320 yM_isUp ∈ hz_wt := hz_in 1811 (by decide +kernel) (by decide +kernel)
theorem dM_othersUp_22 : decode cM_othersUp 22 = .ok (.ifCond .eq 7, 3) := by decide +kernel
theorem dM_othersUp_25 : decode cM_othersUp 25 = .ok (.iload_n 2, 1) := by decide +kernel
theorem dM_othersUp_26 : decode cM_othersUp 26 = .ok (.iconst 1, 1) := by decide +kernel
theorem dM_othersUp_27 : decode cM_othersUp 27 = .ok (.iadd, 1) := by decide +kernel
theorem dM_othersUp_28 : decode cM_othersUp 28 = .ok (.istore_n 2, 1) := by decide +kernel
def fM_othersUp (v1 : Int32) (s0 : Sg) : Option (Int32 × Sg) := lp FU (fun q4 (u4 : Int32 × Int32) (s1 : Sg) => if (s1 102 6) ≤ u4.2 then (some (u4.1, s1)) else (bnd (fun (a29_2 : Int32) (s2 : Sg) => q4 (a29_2, (u4.2 + 1)) s2) fun j29 => if u4.2 = v1 then (j29 u4.1 s1) else (bi (fM_isUp u4.2 s1) fun r4 s3 => if r4 = 0 then (j29 u4.1 s3) else (j29 (u4.1 + 1) s3)))) (0, 0) s0
set_option maxHeartbeats 4000000 in
set_option maxRecDepth 100000 in
theorem okM_othersUp (v1 : Int32) (s0 : Sg) : ∀ (l : Launch) (w : WC), Ok l w yM_othersUp cM_othersUp 4 (some .int) 2 evI [.ref (w.ad 102), .int v1] s0 (fM_othersUp v1 s0) := by
  refine ok_in (ev := fun _ => evI) (av := fun w => [.ref (w.ad 102), .int v1]) "LastWordHillModel" rfl (by decide +kernel) (fun _ => rfl) (fun _ => Nat.le_of_ble_eq_true rfl) ?_
  intro C X E
  show GF C evI 0 [some (.ref (C.w.ad 102)), some (.int v1), none, none] [] s0 (fM_othersUp v1 s0)
  unfold fM_othersUp
  refine g_iconst X 0 dM_othersUp_0 (by decide) ?_
  refine g_istore_n X [some (.ref (C.w.ad 102)), some (.int v1), some (.int 0), none] dM_othersUp_1 (by decide) (Nat.le_of_ble_eq_true rfl) rfl ?_
  refine g_iconst X 0 dM_othersUp_2 (by decide) ?_
  refine g_istore_n X [some (.ref (C.w.ad 102)), some (.int v1), some (.int 0), some (.int 0)] dM_othersUp_3 (by decide) (Nat.le_of_ble_eq_true rfl) rfl ?_
  refine gf_sub (L' := [some (.ref (C.w.ad 102)), some (.int v1), some (.int 0), some (.int 0)]) ?_ (by simp [lsub])
  refine gf_lp (Lf := fun (u4 : Int32 × Int32) => [some (.ref (C.w.ad 102)), some (.int v1), some (.int u4.1), some (.int u4.2)]) (fun q4 hq4 u4 s1 => ?_) FU (0, 0) s0
  refine g_iload_n X dM_othersUp_4 rfl ?_
  refine g_aload_n X dM_othersUp_5 rfl ?_
  refine g_getI X fl_M_146 fb_12_6 k_102 dM_othersUp_6 ?_
  refine g_cge X (tgt := 35) dM_othersUp_9 (by decide) ?_ ?_
  · refine g_iload_n X dM_othersUp_35 rfl ?_
    exact g_iret X E dM_othersUp_36
  · refine g_iload_n X dM_othersUp_12 rfl ?_
    refine g_iload_n X dM_othersUp_13 rfl ?_
    refine gf_jn (fun j29 => ∀ (a29_2 : Int32) (s2 : Sg), GF C evI 29 [some (.ref (C.w.ad 102)), some (.int v1), some (.int a29_2), some (.int u4.2)] [] s2 (j29 a29_2 s2)) ?_ ?_
    · intro a29_2 s2
      refine g_iinc X (u4.2 + 1) [some (.ref (C.w.ad 102)), some (.int v1), some (.int a29_2), some (.int (u4.2 + 1))] dM_othersUp_29 rfl rfl (by decide) rfl ?_
      refine g_goto X 4 dM_othersUp_32 (by decide) ?_
      exact gf_sub (hq4 (a29_2, (u4.2 + 1)) s2) (by simp [lsub])
    · intro j29 hj29
      refine g_ceq X (tgt := 29) dM_othersUp_14 (by decide) ?_ ?_
      · exact gf_sub (hj29 u4.1 s1) (by simp [lsub])
      · refine g_aload_n X dM_othersUp_17 rfl ?_
        refine g_iload_n X dM_othersUp_18 rfl ?_
        refine g_virtI X [.int u4.2] [] k_102 mm_M_isUp mv_M_isUp ml_M_320 (okM_isUp u4.2 s1 C.l C.w) rfl (by decide) rfl (Nat.le_of_ble_eq_true rfl) dM_othersUp_19 (fun r4 s3 => ?_)
        refine g_zeq X (tgt := 29) dM_othersUp_22 (by decide) ?_ ?_
        · exact gf_sub (hj29 u4.1 s3) (by simp [lsub])
        · refine g_iload_n X dM_othersUp_25 rfl ?_
          refine g_iconst X 1 dM_othersUp_26 (by decide) ?_
          refine g_iadd X dM_othersUp_27 ?_
          refine g_istore_n X [some (.ref (C.w.ad 102)), some (.int v1), some (.int (u4.1 + 1)), some (.int u4.2)] dM_othersUp_28 (by decide) (Nat.le_of_ble_eq_true rfl) rfl ?_
          exact gf_sub (hj29 (u4.1 + 1) s3) (by simp [lsub])
def yM_asks : MethodName := ⟨"LastWordHillModel", "asks", "(I)V"⟩
abbrev cM_asks : ByteArray := prog_14_method_64_code
theorem dM_asks_0 : decode cM_asks 0 = .ok (.aload_n 0, 1) := by decide +kernel
theorem dM_asks_1 : decode cM_asks 1 = .ok (.getfield 74, 3) := by decide +kernel
theorem dM_asks_4 : decode cM_asks 4 = .ok (.iconst 0, 1) := by decide +kernel
theorem dM_asks_5 : decode cM_asks 5 = .ok (.aload_n 0, 1) := by decide +kernel
theorem dM_asks_6 : decode cM_asks 6 = .ok (.getfield 19, 3) := by decide +kernel
theorem dM_asks_9 : decode cM_asks 9 = .ok (.iload_n 1, 1) := by decide +kernel
theorem dM_asks_10 : decode cM_asks 10 = .ok (.iaload, 1) := by decide +kernel
theorem dM_asks_11 : decode cM_asks 11 = .ok (.iastore, 1) := by decide +kernel
theorem dM_asks_12 : decode cM_asks 12 = .ok (.aload_n 0, 1) := by decide +kernel
theorem dM_asks_13 : decode cM_asks 13 = .ok (.getfield 74, 3) := by decide +kernel
theorem dM_asks_16 : decode cM_asks 16 = .ok (.iconst 1, 1) := by decide +kernel
theorem dM_asks_17 : decode cM_asks 17 = .ok (.aload_n 0, 1) := by decide +kernel
theorem dM_asks_18 : decode cM_asks 18 = .ok (.getfield 22, 3) := by decide +kernel
theorem dM_asks_21 : decode cM_asks 21 = .ok (.iload_n 1, 1) := by decide +kernel
theorem dM_asks_22 : decode cM_asks 22 = .ok (.iaload, 1) := by decide +kernel
theorem dM_asks_23 : decode cM_asks 23 = .ok (.iastore, 1) := by decide +kernel
theorem dM_asks_24 : decode cM_asks 24 = .ok (.aload_n 0, 1) := by decide +kernel
theorem dM_asks_25 : decode cM_asks 25 = .ok (.getfield 74, 3) := by decide +kernel
theorem dM_asks_28 : decode cM_asks 28 = .ok (.iconst 2, 1) := by decide +kernel
theorem dM_asks_29 : decode cM_asks 29 = .ok (.aload_n 0, 1) := by decide +kernel
theorem dM_asks_30 : decode cM_asks 30 = .ok (.getfield 25, 3) := by decide +kernel
theorem dM_asks_33 : decode cM_asks 33 = .ok (.iload_n 1, 1) := by decide +kernel
theorem dM_asks_34 : decode cM_asks 34 = .ok (.iaload, 1) := by decide +kernel
theorem dM_asks_35 : decode cM_asks 35 = .ok (.iastore, 1) := by decide +kernel
theorem dM_asks_36 : decode cM_asks 36 = .ok (.aload_n 0, 1) := by decide +kernel
theorem dM_asks_37 : decode cM_asks 37 = .ok (.getfield 74, 3) := by decide +kernel
theorem dM_asks_40 : decode cM_asks 40 = .ok (.iconst 3, 1) := by decide +kernel
theorem dM_asks_41 : decode cM_asks 41 = .ok (.aload_n 0, 1) := by decide +kernel
theorem dM_asks_42 : decode cM_asks 42 = .ok (.iload_n 1, 1) := by decide +kernel
theorem dM_asks_43 : decode cM_asks 43 = .ok (.invokevirtual 323, 3) := by decide +kernel
theorem mm_M_breathOf : MMc yM_breathOf cM_breathOf 2 (some .int) 1 := ⟨hz_in 1862 (by decide +kernel) (by decide +kernel), hz_in 147 (by decide +kernel) (by decide +kernel), by decide +kernel, by decide⟩
theorem mv_M_breathOf : MMv yM_breathOf 12 := ⟨hz_in 1861 (by decide +kernel) (by decide +kernel), hz_in 97 (by decide +kernel) (by decide +kernel), _, _, rfl, by decide⟩
theorem ml_M_323 : Cond.methodLink "LastWordHillModel" 323 yM_breathOf ∈ hz_wt := hz_in 1859 (by decide +kernel) (by decide +kernel)
theorem dM_asks_46 : decode cM_asks 46 = .ok (.iastore, 1) := by decide +kernel
theorem dM_asks_47 : decode cM_asks 47 = .ok (.aload_n 0, 1) := by decide +kernel
theorem dM_asks_48 : decode cM_asks 48 = .ok (.getfield 74, 3) := by decide +kernel
theorem dM_asks_51 : decode cM_asks 51 = .ok (.iconst 4, 1) := by decide +kernel
theorem dM_asks_52 : decode cM_asks 52 = .ok (.aload_n 0, 1) := by decide +kernel
theorem dM_asks_53 : decode cM_asks 53 = .ok (.getfield 7, 3) := by decide +kernel
theorem dM_asks_56 : decode cM_asks 56 = .ok (.bipush 20, 2) := by decide +kernel
theorem dM_asks_58 : decode cM_asks 58 = .ok (.iload_n 1, 1) := by decide +kernel
theorem dM_asks_59 : decode cM_asks 59 = .ok (.iadd, 1) := by decide +kernel
theorem dM_asks_60 : decode cM_asks 60 = .ok (.iaload, 1) := by decide +kernel
theorem dM_asks_61 : decode cM_asks 61 = .ok (.iastore, 1) := by decide +kernel
theorem dM_asks_62 : decode cM_asks 62 = .ok (.aload_n 0, 1) := by decide +kernel
theorem dM_asks_63 : decode cM_asks 63 = .ok (.getfield 74, 3) := by decide +kernel
theorem dM_asks_66 : decode cM_asks 66 = .ok (.iconst 5, 1) := by decide +kernel
theorem dM_asks_67 : decode cM_asks 67 = .ok (.aload_n 0, 1) := by decide +kernel
theorem dM_asks_68 : decode cM_asks 68 = .ok (.iconst 0, 1) := by decide +kernel
theorem dM_asks_69 : decode cM_asks 69 = .ok (.aload_n 0, 1) := by decide +kernel
theorem dM_asks_70 : decode cM_asks 70 = .ok (.getfield 7, 3) := by decide +kernel
theorem dM_asks_73 : decode cM_asks 73 = .ok (.bipush 30, 2) := by decide +kernel
theorem dM_asks_75 : decode cM_asks 75 = .ok (.iload_n 1, 1) := by decide +kernel
theorem dM_asks_76 : decode cM_asks 76 = .ok (.iadd, 1) := by decide +kernel
theorem dM_asks_77 : decode cM_asks 77 = .ok (.iaload, 1) := by decide +kernel
theorem dM_asks_78 : decode cM_asks 78 = .ok (.iconst 1, 1) := by decide +kernel
theorem dM_asks_79 : decode cM_asks 79 = .ok (.isub, 1) := by decide +kernel
theorem dM_asks_80 : decode cM_asks 80 = .ok (.invokevirtual 326, 3) := by decide +kernel
theorem mm_M_greater : MMc yM_greater cM_greater 3 (some .int) 2 := ⟨hz_in 1878 (by decide +kernel) (by decide +kernel), hz_in 147 (by decide +kernel) (by decide +kernel), by decide +kernel, by decide⟩
theorem mv_M_greater : MMv yM_greater 12 := ⟨hz_in 1877 (by decide +kernel) (by decide +kernel), hz_in 101 (by decide +kernel) (by decide +kernel), _, _, rfl, by decide⟩
theorem ml_M_326 : Cond.methodLink "LastWordHillModel" 326 yM_greater ∈ hz_wt := hz_in 1875 (by decide +kernel) (by decide +kernel)
theorem dM_asks_83 : decode cM_asks 83 = .ok (.iastore, 1) := by decide +kernel
theorem dM_asks_84 : decode cM_asks 84 = .ok (.aload_n 0, 1) := by decide +kernel
theorem dM_asks_85 : decode cM_asks 85 = .ok (.getfield 74, 3) := by decide +kernel
theorem dM_asks_88 : decode cM_asks 88 = .ok (.bipush 6, 2) := by decide +kernel
theorem dM_asks_90 : decode cM_asks 90 = .ok (.aload_n 0, 1) := by decide +kernel
theorem dM_asks_91 : decode cM_asks 91 = .ok (.iconst 0, 1) := by decide +kernel
theorem dM_asks_92 : decode cM_asks 92 = .ok (.aload_n 0, 1) := by decide +kernel
theorem dM_asks_93 : decode cM_asks 93 = .ok (.invokevirtual 329, 3) := by decide +kernel
theorem mm_M_sunset : MMc yM_sunset cM_sunset 1 (some .int) 0 := ⟨hz_in 1818 (by decide +kernel) (by decide +kernel), hz_in 147 (by decide +kernel) (by decide +kernel), by decide +kernel, by decide⟩
theorem mv_M_sunset : MMv yM_sunset 12 := ⟨hz_in 1817 (by decide +kernel) (by decide +kernel), hz_in 88 (by decide +kernel) (by decide +kernel), _, _, rfl, by decide⟩
theorem ml_M_329 : Cond.methodLink "LastWordHillModel" 329 yM_sunset ∈ hz_wt := hz_in 1815 (by decide +kernel) (by decide +kernel)
theorem dM_asks_96 : decode cM_asks 96 = .ok (.aload_n 0, 1) := by decide +kernel
theorem dM_asks_97 : decode cM_asks 97 = .ok (.getfield 7, 3) := by decide +kernel
theorem dM_asks_100 : decode cM_asks 100 = .ok (.iconst 3, 1) := by decide +kernel
theorem dM_asks_101 : decode cM_asks 101 = .ok (.iaload, 1) := by decide +kernel
theorem dM_asks_102 : decode cM_asks 102 = .ok (.isub, 1) := by decide +kernel
theorem dM_asks_103 : decode cM_asks 103 = .ok (.invokevirtual 326, 3) := by decide +kernel
theorem dM_asks_106 : decode cM_asks 106 = .ok (.iastore, 1) := by decide +kernel
theorem dM_asks_107 : decode cM_asks 107 = .ok (.aload_n 0, 1) := by decide +kernel
theorem dM_asks_108 : decode cM_asks 108 = .ok (.getfield 74, 3) := by decide +kernel
theorem dM_asks_111 : decode cM_asks 111 = .ok (.bipush 7, 2) := by decide +kernel
theorem dM_asks_113 : decode cM_asks 113 = .ok (.aload_n 0, 1) := by decide +kernel
theorem dM_asks_114 : decode cM_asks 114 = .ok (.iload_n 1, 1) := by decide +kernel
theorem dM_asks_115 : decode cM_asks 115 = .ok (.invokevirtual 332, 3) := by decide +kernel
theorem mm_M_othersUp : MMc yM_othersUp cM_othersUp 4 (some .int) 1 := ⟨hz_in 1882 (by decide +kernel) (by decide +kernel), hz_in 147 (by decide +kernel) (by decide +kernel), by decide +kernel, by decide⟩
theorem mv_M_othersUp : MMv yM_othersUp 12 := ⟨hz_in 1881 (by decide +kernel) (by decide +kernel), hz_in 102 (by decide +kernel) (by decide +kernel), _, _, rfl, by decide⟩
theorem ml_M_332 : Cond.methodLink "LastWordHillModel" 332 yM_othersUp ∈ hz_wt := hz_in 1879 (by decide +kernel) (by decide +kernel)
theorem dM_asks_118 : decode cM_asks 118 = .ok (.iastore, 1) := by decide +kernel
theorem dM_asks_119 : decode cM_asks 119 = .ok (.aload_n 0, 1) := by decide +kernel
theorem dM_asks_120 : decode cM_asks 120 = .ok (.getfield 74, 3) := by decide +kernel
theorem dM_asks_123 : decode cM_asks 123 = .ok (.bipush 8, 2) := by decide +kernel
theorem dM_asks_125 : decode cM_asks 125 = .ok (.aload_n 0, 1) := by decide +kernel
theorem dM_asks_126 : decode cM_asks 126 = .ok (.getfield 7, 3) := by decide +kernel
theorem dM_asks_129 : decode cM_asks 129 = .ok (.iconst 0, 1) := by decide +kernel
theorem dM_asks_130 : decode cM_asks 130 = .ok (.iaload, 1) := by decide +kernel
theorem dM_asks_131 : decode cM_asks 131 = .ok (.iastore, 1) := by decide +kernel
theorem dM_asks_132 : decode cM_asks 132 = .ok (.return_, 1) := by decide +kernel
def fM_asks (v1 : Int32) (s0 : Sg) : Option (Sg) := gd v1 10 (gd 0 9 (bnd (pt s0 123 (ix 0) (s0 106 (ix v1))) fun s1 => gd v1 10 (gd 1 9 (bnd (pt s1 123 (ix 1) (s1 107 (ix v1))) fun s2 => gd v1 10 (gd 2 9 (bnd (pt s2 123 (ix 2) (s2 108 (ix v1))) fun s3 => bi (fM_breathOf v1 s3) fun r5 s4 => gd 3 9 (bnd (pt s4 123 (ix 3) r5) fun s6 => gd (20 + v1) 50 (gd 4 9 (bnd (pt s6 123 (ix 4) (s6 103 (ix (20 + v1)))) fun s7 => gd (30 + v1) 50 (bi (fM_greater 0 ((s7 103 (ix (30 + v1))) - 1) s7) fun r9 s8 => gd 5 9 (bnd (pt s8 123 (ix 5) r9) fun s10 => bi (fM_sunset s10) fun r12 s11 => gd 3 50 (bi (fM_greater 0 (r12 - (s11 103 (ix 3))) s11) fun r14 s13 => gd 6 9 (bnd (pt s13 123 (ix 6) r14) fun s15 => bi (fM_othersUp v1 s15) fun r17 s16 => gd 7 9 (bnd (pt s16 123 (ix 7) r17) fun s18 => gd 0 50 (gd 8 9 (bnd (pt s18 123 (ix 8) (s18 103 (ix 0))) fun s19 => some s19))))))))))))))))
set_option maxHeartbeats 4000000 in
set_option maxRecDepth 100000 in
theorem okM_asks (v1 : Int32) (s0 : Sg) : ∀ (l : Launch) (w : WC), Ok l w yM_asks cM_asks 2 none 3 evV [.ref (w.ad 102), .int v1] s0 (fM_asks v1 s0) := by
  refine ok_in (ev := fun _ => evV) (av := fun w => [.ref (w.ad 102), .int v1]) "LastWordHillModel" rfl (by decide +kernel) (fun _ => rfl) (fun _ => Nat.le_of_ble_eq_true rfl) ?_
  intro C X E
  show GF C evV 0 [some (.ref (C.w.ad 102)), some (.int v1)] [] s0 (fM_asks v1 s0)
  unfold fM_asks
  refine g_aload_n X dM_asks_0 rfl ?_
  refine g_getN X fl_M_74 fb_12_40 k_102 r_102_40 dM_asks_1 ?_
  refine g_iconst X 0 dM_asks_4 (by decide) ?_
  refine g_aload_n X dM_asks_5 rfl ?_
  refine g_getN X fl_M_19 fb_12_7 k_102 r_102_7 dM_asks_6 ?_
  refine g_iload_n X dM_asks_9 rfl ?_
  refine g_iald X k_106 ln_106 dM_asks_10 ?_
  refine g_iast X k_123 ln_123 dM_asks_11 (fun s1 => ?_)
  refine g_aload_n X dM_asks_12 rfl ?_
  refine g_getN X fl_M_74 fb_12_40 k_102 r_102_40 dM_asks_13 ?_
  refine g_iconst X 1 dM_asks_16 (by decide) ?_
  refine g_aload_n X dM_asks_17 rfl ?_
  refine g_getN X fl_M_22 fb_12_8 k_102 r_102_8 dM_asks_18 ?_
  refine g_iload_n X dM_asks_21 rfl ?_
  refine g_iald X k_107 ln_107 dM_asks_22 ?_
  refine g_iast X k_123 ln_123 dM_asks_23 (fun s2 => ?_)
  refine g_aload_n X dM_asks_24 rfl ?_
  refine g_getN X fl_M_74 fb_12_40 k_102 r_102_40 dM_asks_25 ?_
  refine g_iconst X 2 dM_asks_28 (by decide) ?_
  refine g_aload_n X dM_asks_29 rfl ?_
  refine g_getN X fl_M_25 fb_12_9 k_102 r_102_9 dM_asks_30 ?_
  refine g_iload_n X dM_asks_33 rfl ?_
  refine g_iald X k_108 ln_108 dM_asks_34 ?_
  refine g_iast X k_123 ln_123 dM_asks_35 (fun s3 => ?_)
  refine g_aload_n X dM_asks_36 rfl ?_
  refine g_getN X fl_M_74 fb_12_40 k_102 r_102_40 dM_asks_37 ?_
  refine g_iconst X 3 dM_asks_40 (by decide) ?_
  refine g_aload_n X dM_asks_41 rfl ?_
  refine g_iload_n X dM_asks_42 rfl ?_
  refine g_virtI X [.int v1] [.int 3, .ref (C.w.ad 123)] k_102 mm_M_breathOf mv_M_breathOf ml_M_323 (okM_breathOf v1 s3 C.l C.w) rfl (by decide) rfl (Nat.le_of_ble_eq_true rfl) dM_asks_43 (fun r5 s4 => ?_)
  refine g_iast X k_123 ln_123 dM_asks_46 (fun s6 => ?_)
  refine g_aload_n X dM_asks_47 rfl ?_
  refine g_getN X fl_M_74 fb_12_40 k_102 r_102_40 dM_asks_48 ?_
  refine g_iconst X 4 dM_asks_51 (by decide) ?_
  refine g_aload_n X dM_asks_52 rfl ?_
  refine g_getN X fl_M_7 fb_12_1 k_102 r_102_1 dM_asks_53 ?_
  refine g_bipush X 20 dM_asks_56 (by decide) ?_
  refine g_iload_n X dM_asks_58 rfl ?_
  refine g_iadd X dM_asks_59 ?_
  refine g_iald X k_103 ln_103 dM_asks_60 ?_
  refine g_iast X k_123 ln_123 dM_asks_61 (fun s7 => ?_)
  refine g_aload_n X dM_asks_62 rfl ?_
  refine g_getN X fl_M_74 fb_12_40 k_102 r_102_40 dM_asks_63 ?_
  refine g_iconst X 5 dM_asks_66 (by decide) ?_
  refine g_aload_n X dM_asks_67 rfl ?_
  refine g_iconst X 0 dM_asks_68 (by decide) ?_
  refine g_aload_n X dM_asks_69 rfl ?_
  refine g_getN X fl_M_7 fb_12_1 k_102 r_102_1 dM_asks_70 ?_
  refine g_bipush X 30 dM_asks_73 (by decide) ?_
  refine g_iload_n X dM_asks_75 rfl ?_
  refine g_iadd X dM_asks_76 ?_
  refine g_iald X k_103 ln_103 dM_asks_77 ?_
  refine g_iconst X 1 dM_asks_78 (by decide) ?_
  refine g_isub X dM_asks_79 ?_
  refine g_virtI X [.int 0, .int ((s7 103 (ix (30 + v1))) - 1)] [.int 5, .ref (C.w.ad 123)] k_102 mm_M_greater mv_M_greater ml_M_326 (okM_greater 0 ((s7 103 (ix (30 + v1))) - 1) s7 C.l C.w) rfl (by decide) rfl (Nat.le_of_ble_eq_true rfl) dM_asks_80 (fun r9 s8 => ?_)
  refine g_iast X k_123 ln_123 dM_asks_83 (fun s10 => ?_)
  refine g_aload_n X dM_asks_84 rfl ?_
  refine g_getN X fl_M_74 fb_12_40 k_102 r_102_40 dM_asks_85 ?_
  refine g_bipush X 6 dM_asks_88 (by decide) ?_
  refine g_aload_n X dM_asks_90 rfl ?_
  refine g_iconst X 0 dM_asks_91 (by decide) ?_
  refine g_aload_n X dM_asks_92 rfl ?_
  refine g_virtI X [] [.int 0, .ref (C.w.ad 102), .int 6, .ref (C.w.ad 123)] k_102 mm_M_sunset mv_M_sunset ml_M_329 (okM_sunset s10 C.l C.w) rfl (by decide) rfl (Nat.le_of_ble_eq_true rfl) dM_asks_93 (fun r12 s11 => ?_)
  refine g_aload_n X dM_asks_96 rfl ?_
  refine g_getN X fl_M_7 fb_12_1 k_102 r_102_1 dM_asks_97 ?_
  refine g_iconst X 3 dM_asks_100 (by decide) ?_
  refine g_iald X k_103 ln_103 dM_asks_101 ?_
  refine g_isub X dM_asks_102 ?_
  refine g_virtI X [.int 0, .int (r12 - (s11 103 (ix 3)))] [.int 6, .ref (C.w.ad 123)] k_102 mm_M_greater mv_M_greater ml_M_326 (okM_greater 0 (r12 - (s11 103 (ix 3))) s11 C.l C.w) rfl (by decide) rfl (Nat.le_of_ble_eq_true rfl) dM_asks_103 (fun r14 s13 => ?_)
  refine g_iast X k_123 ln_123 dM_asks_106 (fun s15 => ?_)
  refine g_aload_n X dM_asks_107 rfl ?_
  refine g_getN X fl_M_74 fb_12_40 k_102 r_102_40 dM_asks_108 ?_
  refine g_bipush X 7 dM_asks_111 (by decide) ?_
  refine g_aload_n X dM_asks_113 rfl ?_
  refine g_iload_n X dM_asks_114 rfl ?_
  refine g_virtI X [.int v1] [.int 7, .ref (C.w.ad 123)] k_102 mm_M_othersUp mv_M_othersUp ml_M_332 (okM_othersUp v1 s15 C.l C.w) rfl (by decide) rfl (Nat.le_of_ble_eq_true rfl) dM_asks_115 (fun r17 s16 => ?_)
  refine g_iast X k_123 ln_123 dM_asks_118 (fun s18 => ?_)
  refine g_aload_n X dM_asks_119 rfl ?_
  refine g_getN X fl_M_74 fb_12_40 k_102 r_102_40 dM_asks_120 ?_
  refine g_bipush X 8 dM_asks_123 (by decide) ?_
  refine g_aload_n X dM_asks_125 rfl ?_
  refine g_getN X fl_M_7 fb_12_1 k_102 r_102_1 dM_asks_126 ?_
  refine g_iconst X 0 dM_asks_129 (by decide) ?_
  refine g_iald X k_103 ln_103 dM_asks_130 ?_
  refine g_iast X k_123 ln_123 dM_asks_131 (fun s19 => ?_)
  exact g_vret X E dM_asks_132
def yM_lawTells : MethodName := ⟨"LastWordHillModel", "lawTells", "(IIII)I"⟩
abbrev cM_lawTells : ByteArray := prog_14_method_65_code
theorem dM_lawTells_0 : decode cM_lawTells 0 = .ok (.aload_n 0, 1) := by decide +kernel
theorem dM_lawTells_1 : decode cM_lawTells 1 = .ok (.iload_n 1, 1) := by decide +kernel
theorem dM_lawTells_2 : decode cM_lawTells 2 = .ok (.invokevirtual 335, 3) := by decide +kernel
theorem mm_M_asks : MMc yM_asks cM_asks 2 none 1 := ⟨hz_in 1874 (by decide +kernel) (by decide +kernel), hz_in 147 (by decide +kernel) (by decide +kernel), by decide +kernel, by decide⟩
theorem mv_M_asks : MMv yM_asks 12 := ⟨hz_in 1873 (by decide +kernel) (by decide +kernel), hz_in 100 (by decide +kernel) (by decide +kernel), _, _, rfl, by decide⟩
theorem ml_M_335 : Cond.methodLink "LastWordHillModel" 335 yM_asks ∈ hz_wt := hz_in 1871 (by decide +kernel) (by decide +kernel)
theorem dM_lawTells_5 : decode cM_lawTells 5 = .ok (.aload_n 0, 1) := by decide +kernel
theorem dM_lawTells_6 : decode cM_lawTells 6 = .ok (.iload_n 2, 1) := by decide +kernel
theorem dM_lawTells_7 : decode cM_lawTells 7 = .ok (.invokevirtual 338, 3) := by decide +kernel
theorem mm_M_lineOf : MMc yM_lineOf cM_lineOf 3 (some .int) 1 := ⟨hz_in 1886 (by decide +kernel) (by decide +kernel), hz_in 147 (by decide +kernel) (by decide +kernel), by decide +kernel, by decide⟩
theorem mv_M_lineOf : MMv yM_lineOf 12 := ⟨hz_in 1885 (by decide +kernel) (by decide +kernel), hz_in 103 (by decide +kernel) (by decide +kernel), _, _, rfl, by decide⟩
theorem ml_M_338 : Cond.methodLink "LastWordHillModel" 338 yM_lineOf ∈ hz_wt := hz_in 1883 (by decide +kernel) (by decide +kernel)
theorem dM_lawTells_10 : decode cM_lawTells 10 = .ok (.istore 5, 2) := by decide +kernel
theorem dM_lawTells_12 : decode cM_lawTells 12 = .ok (.aload_n 0, 1) := by decide +kernel
theorem dM_lawTells_13 : decode cM_lawTells 13 = .ok (.iload 5, 2) := by decide +kernel
theorem dM_lawTells_15 : decode cM_lawTells 15 = .ok (.iconst (-1), 1) := by decide +kernel
theorem dM_lawTells_16 : decode cM_lawTells 16 = .ok (.if_icmp .ne 7, 3) := by decide +kernel
theorem dM_lawTells_42 : decode cM_lawTells 42 = .ok (.iconst 0, 1) := by decide +kernel
theorem dM_lawTells_43 : decode cM_lawTells 43 = .ok (.iload 4, 2) := by decide +kernel
theorem dM_lawTells_45 : decode cM_lawTells 45 = .ok (.invokevirtual 149, 3) := by decide +kernel
theorem dM_lawTells_48 : decode cM_lawTells 48 = .ok (.ireturn, 1) := by decide +kernel
theorem dM_lawTells_23 : decode cM_lawTells 23 = .ok (.aload_n 0, 1) := by decide +kernel
theorem dM_lawTells_24 : decode cM_lawTells 24 = .ok (.iconst 0, 1) := by decide +kernel
theorem dM_lawTells_25 : decode cM_lawTells 25 = .ok (.aload_n 0, 1) := by decide +kernel
theorem dM_lawTells_26 : decode cM_lawTells 26 = .ok (.getfield 43, 3) := by decide +kernel
theorem dM_lawTells_29 : decode cM_lawTells 29 = .ok (.iload 5, 2) := by decide +kernel
theorem dM_lawTells_31 : decode cM_lawTells 31 = .ok (.iaload, 1) := by decide +kernel
theorem dM_lawTells_32 : decode cM_lawTells 32 = .ok (.aload_n 0, 1) := by decide +kernel
theorem dM_lawTells_33 : decode cM_lawTells 33 = .ok (.getfield 46, 3) := by decide +kernel
theorem dM_lawTells_36 : decode cM_lawTells 36 = .ok (.iload 5, 2) := by decide +kernel
theorem dM_lawTells_38 : decode cM_lawTells 38 = .ok (.iaload, 1) := by decide +kernel
theorem dM_lawTells_39 : decode cM_lawTells 39 = .ok (.invokevirtual 317, 3) := by decide +kernel
theorem dM_lawTells_19 : decode cM_lawTells 19 = .ok (.iload_n 3, 1) := by decide +kernel
theorem dM_lawTells_20 : decode cM_lawTells 20 = .ok (.goto 22, 3) := by decide +kernel
def fM_lawTells (v1 : Int32) (v2 : Int32) (v3 : Int32) (v4 : Int32) (s0 : Sg) : Option (Int32 × Sg) := bv (fM_asks v1 s0) fun s1 => bi (fM_lineOf v2 s1) fun r3 s2 => bnd (fun (b42_0 : Int32) (s4 : Sg) => bi (fM_held b42_0 0 v4 s4) fun r6 s5 => some (r6, s5)) fun j42 => if r3 = (-1) then (j42 v3 s2) else (gd r3 48 (gd r3 48 (bi (fM_runs 0 (s2 114 (ix r3)) (s2 115 (ix r3)) s2) fun r8 s7 => j42 r8 s7)))
set_option maxHeartbeats 4000000 in
set_option maxRecDepth 100000 in
theorem okM_lawTells (v1 : Int32) (v2 : Int32) (v3 : Int32) (v4 : Int32) (s0 : Sg) : ∀ (l : Launch) (w : WC), Ok l w yM_lawTells cM_lawTells 6 (some .int) 4 evI [.ref (w.ad 102), .int v1, .int v2, .int v3, .int v4] s0 (fM_lawTells v1 v2 v3 v4 s0) := by
  refine ok_in (ev := fun _ => evI) (av := fun w => [.ref (w.ad 102), .int v1, .int v2, .int v3, .int v4]) "LastWordHillModel" rfl (by decide +kernel) (fun _ => rfl) (fun _ => Nat.le_of_ble_eq_true rfl) ?_
  intro C X E
  show GF C evI 0 [some (.ref (C.w.ad 102)), some (.int v1), some (.int v2), some (.int v3), some (.int v4), none] [] s0 (fM_lawTells v1 v2 v3 v4 s0)
  unfold fM_lawTells
  refine g_aload_n X dM_lawTells_0 rfl ?_
  refine g_iload_n X dM_lawTells_1 rfl ?_
  refine g_virtV X [.int v1] [] k_102 mm_M_asks mv_M_asks ml_M_335 (okM_asks v1 s0 C.l C.w) rfl (by decide) rfl (Nat.le_of_ble_eq_true rfl) dM_lawTells_2 (fun s1 => ?_)
  refine g_aload_n X dM_lawTells_5 rfl ?_
  refine g_iload_n X dM_lawTells_6 rfl ?_
  refine g_virtI X [.int v2] [] k_102 mm_M_lineOf mv_M_lineOf ml_M_338 (okM_lineOf v2 s1 C.l C.w) rfl (by decide) rfl (Nat.le_of_ble_eq_true rfl) dM_lawTells_7 (fun r3 s2 => ?_)
  refine g_istore X [some (.ref (C.w.ad 102)), some (.int v1), some (.int v2), some (.int v3), some (.int v4), some (.int r3)] dM_lawTells_10 (by decide) (Nat.le_of_ble_eq_true rfl) rfl ?_
  refine g_aload_n X dM_lawTells_12 rfl ?_
  refine g_iload X dM_lawTells_13 rfl ?_
  refine g_iconst X (-1) dM_lawTells_15 (by decide) ?_
  refine gf_jn (fun j42 => ∀ (b42_0 : Int32) (s4 : Sg), GF C evI 42 [none, none, none, none, some (.int v4), none] [.int b42_0, .ref (C.w.ad 102)] s4 (j42 b42_0 s4)) ?_ ?_
  · intro b42_0 s4
    refine g_iconst X 0 dM_lawTells_42 (by decide) ?_
    refine g_iload X dM_lawTells_43 rfl ?_
    refine g_virtI X [.int b42_0, .int 0, .int v4] [] k_102 mm_M_held mv_M_held ml_M_149 (okM_held b42_0 0 v4 s4 C.l C.w) rfl (by decide) rfl (Nat.le_of_ble_eq_true rfl) dM_lawTells_45 (fun r6 s5 => ?_)
    exact g_iret X E dM_lawTells_48
  · intro j42 hj42
    refine g_cne X (tgt := 23) dM_lawTells_16 (by decide) ?_ ?_
    · refine g_iload_n X dM_lawTells_19 rfl ?_
      refine g_goto X 42 dM_lawTells_20 (by decide) ?_
      exact gf_sub (hj42 v3 s2) (by simp [lsub])
    · refine g_aload_n X dM_lawTells_23 rfl ?_
      refine g_iconst X 0 dM_lawTells_24 (by decide) ?_
      refine g_aload_n X dM_lawTells_25 rfl ?_
      refine g_getN X fl_M_43 fb_12_20 k_102 r_102_20 dM_lawTells_26 ?_
      refine g_iload X dM_lawTells_29 rfl ?_
      refine g_iald X k_114 ln_114 dM_lawTells_31 ?_
      refine g_aload_n X dM_lawTells_32 rfl ?_
      refine g_getN X fl_M_46 fb_12_21 k_102 r_102_21 dM_lawTells_33 ?_
      refine g_iload X dM_lawTells_36 rfl ?_
      refine g_iald X k_115 ln_115 dM_lawTells_38 ?_
      refine g_virtI X [.int 0, .int (s2 114 (ix r3)), .int (s2 115 (ix r3))] [.ref (C.w.ad 102)] k_102 mm_M_runs mv_M_runs ml_M_317 (okM_runs 0 (s2 114 (ix r3)) (s2 115 (ix r3)) s2 C.l C.w) rfl (by decide) rfl (Nat.le_of_ble_eq_true rfl) dM_lawTells_39 (fun r8 s7 => ?_)
      exact gf_sub (hj42 r8 s7) (by simp [lsub])
def yM_climbsOf : MethodName := ⟨"LastWordHillModel", "climbsOf", "(I)I"⟩
abbrev cM_climbsOf : ByteArray := prog_14_method_66_code
theorem dM_climbsOf_0 : decode cM_climbsOf 0 = .ok (.aload_n 0, 1) := by decide +kernel
theorem dM_climbsOf_1 : decode cM_climbsOf 1 = .ok (.iload_n 1, 1) := by decide +kernel
theorem dM_climbsOf_2 : decode cM_climbsOf 2 = .ok (.iconst 0, 1) := by decide +kernel
theorem dM_climbsOf_3 : decode cM_climbsOf 3 = .ok (.iconst 3, 1) := by decide +kernel
theorem dM_climbsOf_4 : decode cM_climbsOf 4 = .ok (.aload_n 0, 1) := by decide +kernel
theorem dM_climbsOf_5 : decode cM_climbsOf 5 = .ok (.getfield 22, 3) := by decide +kernel
theorem dM_climbsOf_8 : decode cM_climbsOf 8 = .ok (.iload_n 1, 1) := by decide +kernel
theorem dM_climbsOf_9 : decode cM_climbsOf 9 = .ok (.iaload, 1) := by decide +kernel
theorem dM_climbsOf_10 : decode cM_climbsOf 10 = .ok (.iadd, 1) := by decide +kernel
theorem dM_climbsOf_11 : decode cM_climbsOf 11 = .ok (.bipush 99, 2) := by decide +kernel
theorem dM_climbsOf_13 : decode cM_climbsOf 13 = .ok (.invokevirtual 341, 3) := by decide +kernel
theorem mm_M_lawTells : MMc yM_lawTells cM_lawTells 6 (some .int) 4 := ⟨hz_in 1870 (by decide +kernel) (by decide +kernel), hz_in 147 (by decide +kernel) (by decide +kernel), by decide +kernel, by decide⟩
theorem mv_M_lawTells : MMv yM_lawTells 12 := ⟨hz_in 1869 (by decide +kernel) (by decide +kernel), hz_in 99 (by decide +kernel) (by decide +kernel), _, _, rfl, by decide⟩
theorem ml_M_341 : Cond.methodLink "LastWordHillModel" 341 yM_lawTells ∈ hz_wt := hz_in 1867 (by decide +kernel) (by decide +kernel)
theorem dM_climbsOf_16 : decode cM_climbsOf 16 = .ok (.ireturn, 1) := by decide +kernel
def fM_climbsOf (v1 : Int32) (s0 : Sg) : Option (Int32 × Sg) := gd v1 10 (bi (fM_lawTells v1 0 (3 + (s0 107 (ix v1))) 99 s0) fun r2 s1 => some (r2, s1))
set_option maxHeartbeats 4000000 in
set_option maxRecDepth 100000 in
theorem okM_climbsOf (v1 : Int32) (s0 : Sg) : ∀ (l : Launch) (w : WC), Ok l w yM_climbsOf cM_climbsOf 2 (some .int) 5 evI [.ref (w.ad 102), .int v1] s0 (fM_climbsOf v1 s0) := by
  refine ok_in (ev := fun _ => evI) (av := fun w => [.ref (w.ad 102), .int v1]) "LastWordHillModel" rfl (by decide +kernel) (fun _ => rfl) (fun _ => Nat.le_of_ble_eq_true rfl) ?_
  intro C X E
  show GF C evI 0 [some (.ref (C.w.ad 102)), some (.int v1)] [] s0 (fM_climbsOf v1 s0)
  unfold fM_climbsOf
  refine g_aload_n X dM_climbsOf_0 rfl ?_
  refine g_iload_n X dM_climbsOf_1 rfl ?_
  refine g_iconst X 0 dM_climbsOf_2 (by decide) ?_
  refine g_iconst X 3 dM_climbsOf_3 (by decide) ?_
  refine g_aload_n X dM_climbsOf_4 rfl ?_
  refine g_getN X fl_M_22 fb_12_8 k_102 r_102_8 dM_climbsOf_5 ?_
  refine g_iload_n X dM_climbsOf_8 rfl ?_
  refine g_iald X k_107 ln_107 dM_climbsOf_9 ?_
  refine g_iadd X dM_climbsOf_10 ?_
  refine g_bipush X 99 dM_climbsOf_11 (by decide) ?_
  refine g_virtI X [.int v1, .int 0, .int (3 + (s0 107 (ix v1))), .int 99] [] k_102 mm_M_lawTells mv_M_lawTells ml_M_341 (okM_lawTells v1 0 (3 + (s0 107 (ix v1))) 99 s0 C.l C.w) rfl (by decide) rfl (Nat.le_of_ble_eq_true rfl) dM_climbsOf_13 (fun r2 s1 => ?_)
  exact g_iret X E dM_climbsOf_16
def yM_tiresOf : MethodName := ⟨"LastWordHillModel", "tiresOf", "(I)I"⟩
abbrev cM_tiresOf : ByteArray := prog_14_method_67_code
theorem dM_tiresOf_0 : decode cM_tiresOf 0 = .ok (.aload_n 0, 1) := by decide +kernel
theorem dM_tiresOf_1 : decode cM_tiresOf 1 = .ok (.iload_n 1, 1) := by decide +kernel
theorem dM_tiresOf_2 : decode cM_tiresOf 2 = .ok (.iconst 1, 1) := by decide +kernel
theorem dM_tiresOf_3 : decode cM_tiresOf 3 = .ok (.iconst 2, 1) := by decide +kernel
theorem dM_tiresOf_4 : decode cM_tiresOf 4 = .ok (.bipush 99, 2) := by decide +kernel
theorem dM_tiresOf_6 : decode cM_tiresOf 6 = .ok (.invokevirtual 341, 3) := by decide +kernel
theorem dM_tiresOf_9 : decode cM_tiresOf 9 = .ok (.ireturn, 1) := by decide +kernel
def fM_tiresOf (v1 : Int32) (s0 : Sg) : Option (Int32 × Sg) := bi (fM_lawTells v1 1 2 99 s0) fun r2 s1 => some (r2, s1)
set_option maxHeartbeats 4000000 in
set_option maxRecDepth 100000 in
theorem okM_tiresOf (v1 : Int32) (s0 : Sg) : ∀ (l : Launch) (w : WC), Ok l w yM_tiresOf cM_tiresOf 2 (some .int) 5 evI [.ref (w.ad 102), .int v1] s0 (fM_tiresOf v1 s0) := by
  refine ok_in (ev := fun _ => evI) (av := fun w => [.ref (w.ad 102), .int v1]) "LastWordHillModel" rfl (by decide +kernel) (fun _ => rfl) (fun _ => Nat.le_of_ble_eq_true rfl) ?_
  intro C X E
  show GF C evI 0 [some (.ref (C.w.ad 102)), some (.int v1)] [] s0 (fM_tiresOf v1 s0)
  unfold fM_tiresOf
  refine g_aload_n X dM_tiresOf_0 rfl ?_
  refine g_iload_n X dM_tiresOf_1 rfl ?_
  refine g_iconst X 1 dM_tiresOf_2 (by decide) ?_
  refine g_iconst X 2 dM_tiresOf_3 (by decide) ?_
  refine g_bipush X 99 dM_tiresOf_4 (by decide) ?_
  refine g_virtI X [.int v1, .int 1, .int 2, .int 99] [] k_102 mm_M_lawTells mv_M_lawTells ml_M_341 (okM_lawTells v1 1 2 99 s0 C.l C.w) rfl (by decide) rfl (Nat.le_of_ble_eq_true rfl) dM_tiresOf_6 (fun r2 s1 => ?_)
  exact g_iret X E dM_tiresOf_9
def yM_saysOf : MethodName := ⟨"LastWordHillModel", "saysOf", "(I)I"⟩
abbrev cM_saysOf : ByteArray := prog_14_method_68_code
theorem dM_saysOf_0 : decode cM_saysOf 0 = .ok (.aload_n 0, 1) := by decide +kernel
theorem dM_saysOf_1 : decode cM_saysOf 1 = .ok (.iload_n 1, 1) := by decide +kernel
theorem dM_saysOf_2 : decode cM_saysOf 2 = .ok (.iconst 2, 1) := by decide +kernel
theorem dM_saysOf_3 : decode cM_saysOf 3 = .ok (.sipush 300, 3) := by decide +kernel
theorem dM_saysOf_6 : decode cM_saysOf 6 = .ok (.bipush 50, 2) := by decide +kernel
theorem dM_saysOf_8 : decode cM_saysOf 8 = .ok (.aload_n 0, 1) := by decide +kernel
theorem dM_saysOf_9 : decode cM_saysOf 9 = .ok (.getfield 19, 3) := by decide +kernel
theorem dM_saysOf_12 : decode cM_saysOf 12 = .ok (.iload_n 1, 1) := by decide +kernel
theorem dM_saysOf_13 : decode cM_saysOf 13 = .ok (.iaload, 1) := by decide +kernel
theorem dM_saysOf_14 : decode cM_saysOf 14 = .ok (.imul, 1) := by decide +kernel
theorem dM_saysOf_15 : decode cM_saysOf 15 = .ok (.iadd, 1) := by decide +kernel
theorem dM_saysOf_16 : decode cM_saysOf 16 = .ok (.aload_n 0, 1) := by decide +kernel
theorem dM_saysOf_17 : decode cM_saysOf 17 = .ok (.iload_n 1, 1) := by decide +kernel
theorem dM_saysOf_18 : decode cM_saysOf 18 = .ok (.invokevirtual 323, 3) := by decide +kernel
theorem dM_saysOf_21 : decode cM_saysOf 21 = .ok (.iadd, 1) := by decide +kernel
theorem dM_saysOf_22 : decode cM_saysOf 22 = .ok (.sipush 1000, 3) := by decide +kernel
theorem dM_saysOf_25 : decode cM_saysOf 25 = .ok (.invokevirtual 341, 3) := by decide +kernel
theorem dM_saysOf_28 : decode cM_saysOf 28 = .ok (.ireturn, 1) := by decide +kernel
def fM_saysOf (v1 : Int32) (s0 : Sg) : Option (Int32 × Sg) := gd v1 10 (bi (fM_breathOf v1 s0) fun r2 s1 => bi (fM_lawTells v1 2 ((300 + (50 * (s0 106 (ix v1)))) + r2) 1000 s1) fun r4 s3 => some (r4, s3))
set_option maxHeartbeats 4000000 in
set_option maxRecDepth 100000 in
theorem okM_saysOf (v1 : Int32) (s0 : Sg) : ∀ (l : Launch) (w : WC), Ok l w yM_saysOf cM_saysOf 2 (some .int) 5 evI [.ref (w.ad 102), .int v1] s0 (fM_saysOf v1 s0) := by
  refine ok_in (ev := fun _ => evI) (av := fun w => [.ref (w.ad 102), .int v1]) "LastWordHillModel" rfl (by decide +kernel) (fun _ => rfl) (fun _ => Nat.le_of_ble_eq_true rfl) ?_
  intro C X E
  show GF C evI 0 [some (.ref (C.w.ad 102)), some (.int v1)] [] s0 (fM_saysOf v1 s0)
  unfold fM_saysOf
  refine g_aload_n X dM_saysOf_0 rfl ?_
  refine g_iload_n X dM_saysOf_1 rfl ?_
  refine g_iconst X 2 dM_saysOf_2 (by decide) ?_
  refine g_sipush X 300 dM_saysOf_3 (by decide) ?_
  refine g_bipush X 50 dM_saysOf_6 (by decide) ?_
  refine g_aload_n X dM_saysOf_8 rfl ?_
  refine g_getN X fl_M_19 fb_12_7 k_102 r_102_7 dM_saysOf_9 ?_
  refine g_iload_n X dM_saysOf_12 rfl ?_
  refine g_iald X k_106 ln_106 dM_saysOf_13 ?_
  refine g_imul X dM_saysOf_14 ?_
  refine g_iadd X dM_saysOf_15 ?_
  refine g_aload_n X dM_saysOf_16 rfl ?_
  refine g_iload_n X dM_saysOf_17 rfl ?_
  refine g_virtI X [.int v1] [.int (300 + (50 * (s0 106 (ix v1)))), .int 2, .int v1, .ref (C.w.ad 102)] k_102 mm_M_breathOf mv_M_breathOf ml_M_323 (okM_breathOf v1 s0 C.l C.w) rfl (by decide) rfl (Nat.le_of_ble_eq_true rfl) dM_saysOf_18 (fun r2 s1 => ?_)
  refine g_iadd X dM_saysOf_21 ?_
  refine g_sipush X 1000 dM_saysOf_22 (by decide) ?_
  refine g_virtI X [.int v1, .int 2, .int ((300 + (50 * (s0 106 (ix v1)))) + r2), .int 1000] [] k_102 mm_M_lawTells mv_M_lawTells ml_M_341 (okM_lawTells v1 2 ((300 + (50 * (s0 106 (ix v1)))) + r2) 1000 s1 C.l C.w) rfl (by decide) rfl (Nat.le_of_ble_eq_true rfl) dM_saysOf_25 (fun r4 s3 => ?_)
  exact g_iret X E dM_saysOf_28
