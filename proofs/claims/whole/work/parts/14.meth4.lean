def yM_notes : MethodName := ⟨"LastWordHillModel", "notes", "(III)V"⟩
abbrev cM_notes : ByteArray := prog_14_method_69_code
theorem dM_notes_0 : decode cM_notes 0 = .ok (.aload_n 0, 1) := by decide +kernel
theorem dM_notes_1 : decode cM_notes 1 = .ok (.getfield 140, 3) := by decide +kernel
theorem dM_notes_4 : decode cM_notes 4 = .ok (.ifCond .ne 15, 3) := by decide +kernel
theorem dM_notes_19 : decode cM_notes 19 = .ok (.return_, 1) := by decide +kernel
theorem dM_notes_7 : decode cM_notes 7 = .ok (.aload_n 0, 1) := by decide +kernel
theorem dM_notes_8 : decode cM_notes 8 = .ok (.getfield 7, 3) := by decide +kernel
theorem dM_notes_11 : decode cM_notes 11 = .ok (.iconst 2, 1) := by decide +kernel
theorem dM_notes_12 : decode cM_notes 12 = .ok (.iaload, 1) := by decide +kernel
theorem dM_notes_13 : decode cM_notes 13 = .ok (.sipush 150, 3) := by decide +kernel
theorem dM_notes_16 : decode cM_notes 16 = .ok (.if_icmp .ne 4, 3) := by decide +kernel
theorem dM_notes_20 : decode cM_notes 20 = .ok (.iconst 5, 1) := by decide +kernel
theorem dM_notes_21 : decode cM_notes 21 = .ok (.aload_n 0, 1) := by decide +kernel
theorem dM_notes_22 : decode cM_notes 22 = .ok (.getfield 7, 3) := by decide +kernel
theorem dM_notes_25 : decode cM_notes 25 = .ok (.iconst 2, 1) := by decide +kernel
theorem dM_notes_26 : decode cM_notes 26 = .ok (.iaload, 1) := by decide +kernel
theorem dM_notes_27 : decode cM_notes 27 = .ok (.imul, 1) := by decide +kernel
theorem dM_notes_28 : decode cM_notes 28 = .ok (.istore 4, 2) := by decide +kernel
theorem dM_notes_30 : decode cM_notes 30 = .ok (.aload_n 0, 1) := by decide +kernel
theorem dM_notes_31 : decode cM_notes 31 = .ok (.getfield 28, 3) := by decide +kernel
theorem fl_M_28 : FLk "LastWordHillModel" 28 12 10 := ⟨_, _, _, rfl, by decide, hz_in 1422 (by decide +kernel) (by decide +kernel), nL12, by decide, by decide⟩
theorem k_109 : hz_kd 109 = 13 := by decide
theorem fb_12_10 : (hz_bs 12)[10]? = some true := by decide
theorem r_102_10 : hz_rf 102 10 = 109 := by decide
theorem dM_notes_34 : decode cM_notes 34 = .ok (.iload 4, 2) := by decide +kernel
theorem dM_notes_36 : decode cM_notes 36 = .ok (.aload_n 0, 1) := by decide +kernel
theorem dM_notes_37 : decode cM_notes 37 = .ok (.getfield 7, 3) := by decide +kernel
theorem dM_notes_40 : decode cM_notes 40 = .ok (.iconst 0, 1) := by decide +kernel
theorem dM_notes_41 : decode cM_notes 41 = .ok (.iaload, 1) := by decide +kernel
theorem dM_notes_42 : decode cM_notes 42 = .ok (.iastore, 1) := by decide +kernel
theorem ln_109 : hz_ln 109 = 750 := by decide
theorem dM_notes_43 : decode cM_notes 43 = .ok (.aload_n 0, 1) := by decide +kernel
theorem dM_notes_44 : decode cM_notes 44 = .ok (.getfield 28, 3) := by decide +kernel
theorem dM_notes_47 : decode cM_notes 47 = .ok (.iload 4, 2) := by decide +kernel
theorem dM_notes_49 : decode cM_notes 49 = .ok (.iconst 1, 1) := by decide +kernel
theorem dM_notes_50 : decode cM_notes 50 = .ok (.iadd, 1) := by decide +kernel
theorem dM_notes_51 : decode cM_notes 51 = .ok (.aload_n 0, 1) := by decide +kernel
theorem dM_notes_52 : decode cM_notes 52 = .ok (.getfield 7, 3) := by decide +kernel
theorem dM_notes_55 : decode cM_notes 55 = .ok (.iconst 3, 1) := by decide +kernel
theorem dM_notes_56 : decode cM_notes 56 = .ok (.iaload, 1) := by decide +kernel
theorem dM_notes_57 : decode cM_notes 57 = .ok (.iastore, 1) := by decide +kernel
theorem dM_notes_58 : decode cM_notes 58 = .ok (.aload_n 0, 1) := by decide +kernel
theorem dM_notes_59 : decode cM_notes 59 = .ok (.getfield 28, 3) := by decide +kernel
theorem dM_notes_62 : decode cM_notes 62 = .ok (.iload 4, 2) := by decide +kernel
theorem dM_notes_64 : decode cM_notes 64 = .ok (.iconst 2, 1) := by decide +kernel
theorem dM_notes_65 : decode cM_notes 65 = .ok (.iadd, 1) := by decide +kernel
theorem dM_notes_66 : decode cM_notes 66 = .ok (.iload_n 1, 1) := by decide +kernel
theorem dM_notes_67 : decode cM_notes 67 = .ok (.iastore, 1) := by decide +kernel
theorem dM_notes_68 : decode cM_notes 68 = .ok (.aload_n 0, 1) := by decide +kernel
theorem dM_notes_69 : decode cM_notes 69 = .ok (.getfield 28, 3) := by decide +kernel
theorem dM_notes_72 : decode cM_notes 72 = .ok (.iload 4, 2) := by decide +kernel
theorem dM_notes_74 : decode cM_notes 74 = .ok (.iconst 3, 1) := by decide +kernel
theorem dM_notes_75 : decode cM_notes 75 = .ok (.iadd, 1) := by decide +kernel
theorem dM_notes_76 : decode cM_notes 76 = .ok (.iload_n 2, 1) := by decide +kernel
theorem dM_notes_77 : decode cM_notes 77 = .ok (.iastore, 1) := by decide +kernel
theorem dM_notes_78 : decode cM_notes 78 = .ok (.aload_n 0, 1) := by decide +kernel
theorem dM_notes_79 : decode cM_notes 79 = .ok (.getfield 28, 3) := by decide +kernel
theorem dM_notes_82 : decode cM_notes 82 = .ok (.iload 4, 2) := by decide +kernel
theorem dM_notes_84 : decode cM_notes 84 = .ok (.iconst 4, 1) := by decide +kernel
theorem dM_notes_85 : decode cM_notes 85 = .ok (.iadd, 1) := by decide +kernel
theorem dM_notes_86 : decode cM_notes 86 = .ok (.iload_n 3, 1) := by decide +kernel
theorem dM_notes_87 : decode cM_notes 87 = .ok (.iastore, 1) := by decide +kernel
theorem dM_notes_88 : decode cM_notes 88 = .ok (.aload_n 0, 1) := by decide +kernel
theorem dM_notes_89 : decode cM_notes 89 = .ok (.getfield 7, 3) := by decide +kernel
theorem dM_notes_92 : decode cM_notes 92 = .ok (.iconst 2, 1) := by decide +kernel
theorem dM_notes_93 : decode cM_notes 93 = .ok (.aload_n 0, 1) := by decide +kernel
theorem dM_notes_94 : decode cM_notes 94 = .ok (.getfield 7, 3) := by decide +kernel
theorem dM_notes_97 : decode cM_notes 97 = .ok (.iconst 2, 1) := by decide +kernel
theorem dM_notes_98 : decode cM_notes 98 = .ok (.iaload, 1) := by decide +kernel
theorem dM_notes_99 : decode cM_notes 99 = .ok (.iconst 1, 1) := by decide +kernel
theorem dM_notes_100 : decode cM_notes 100 = .ok (.iadd, 1) := by decide +kernel
theorem dM_notes_101 : decode cM_notes 101 = .ok (.iastore, 1) := by decide +kernel
theorem dM_notes_102 : decode cM_notes 102 = .ok (.return_, 1) := by decide +kernel
def fM_notes (v1 : Int32) (v2 : Int32) (v3 : Int32) (s0 : Sg) : Option (Sg) := if (s0 102 5) = 0 then (gd 2 50 (if (s0 103 (ix 2)) = 150 then (some s0) else (gd 2 50 (gd 0 50 (gd (5 * (s0 103 (ix 2))) 750 (bnd (pt s0 109 (ix (5 * (s0 103 (ix 2)))) (s0 103 (ix 0))) fun s1 => gd 3 50 (gd ((5 * (s0 103 (ix 2))) + 1) 750 (bnd (pt s1 109 (ix ((5 * (s0 103 (ix 2))) + 1)) (s1 103 (ix 3))) fun s2 => gd ((5 * (s0 103 (ix 2))) + 2) 750 (bnd (pt s2 109 (ix ((5 * (s0 103 (ix 2))) + 2)) v1) fun s3 => gd ((5 * (s0 103 (ix 2))) + 3) 750 (bnd (pt s3 109 (ix ((5 * (s0 103 (ix 2))) + 3)) v2) fun s4 => gd ((5 * (s0 103 (ix 2))) + 4) 750 (bnd (pt s4 109 (ix ((5 * (s0 103 (ix 2))) + 4)) v3) fun s5 => gd 2 50 (gd 2 50 (bnd (pt s5 103 (ix 2) ((s5 103 (ix 2)) + 1)) fun s6 => some s6))))))))))))) else (some s0)
set_option maxHeartbeats 4000000 in
set_option maxRecDepth 100000 in
theorem okM_notes (v1 : Int32) (v2 : Int32) (v3 : Int32) (s0 : Sg) : ∀ (l : Launch) (w : WC), Ok l w yM_notes cM_notes 5 none 1 evV [.ref (w.ad 102), .int v1, .int v2, .int v3] s0 (fM_notes v1 v2 v3 s0) := by
  refine ok_in (ev := fun _ => evV) (av := fun w => [.ref (w.ad 102), .int v1, .int v2, .int v3]) "LastWordHillModel" rfl (by decide +kernel) (fun _ => rfl) (fun _ => Nat.le_of_ble_eq_true rfl) ?_
  intro C X E
  show GF C evV 0 [some (.ref (C.w.ad 102)), some (.int v1), some (.int v2), some (.int v3), none] [] s0 (fM_notes v1 v2 v3 s0)
  unfold fM_notes
  refine g_aload_n X dM_notes_0 rfl ?_
  refine g_getI X fl_M_140 fb_12_5 k_102 dM_notes_1 ?_
  refine g_zne X (tgt := 19) dM_notes_4 (by decide) ?_ ?_
  · refine g_aload_n X dM_notes_7 rfl ?_
    refine g_getN X fl_M_7 fb_12_1 k_102 r_102_1 dM_notes_8 ?_
    refine g_iconst X 2 dM_notes_11 (by decide) ?_
    refine g_iald X k_103 ln_103 dM_notes_12 ?_
    refine g_sipush X 150 dM_notes_13 (by decide) ?_
    refine g_cne X (tgt := 20) dM_notes_16 (by decide) ?_ ?_
    · exact g_vret X E dM_notes_19
    · refine g_iconst X 5 dM_notes_20 (by decide) ?_
      refine g_aload_n X dM_notes_21 rfl ?_
      refine g_getN X fl_M_7 fb_12_1 k_102 r_102_1 dM_notes_22 ?_
      refine g_iconst X 2 dM_notes_25 (by decide) ?_
      refine g_iald X k_103 ln_103 dM_notes_26 ?_
      refine g_imul X dM_notes_27 ?_
      refine g_istore X [some (.ref (C.w.ad 102)), some (.int v1), some (.int v2), some (.int v3), some (.int (5 * (s0 103 (ix 2))))] dM_notes_28 (by decide) (Nat.le_of_ble_eq_true rfl) rfl ?_
      refine g_aload_n X dM_notes_30 rfl ?_
      refine g_getN X fl_M_28 fb_12_10 k_102 r_102_10 dM_notes_31 ?_
      refine g_iload X dM_notes_34 rfl ?_
      refine g_aload_n X dM_notes_36 rfl ?_
      refine g_getN X fl_M_7 fb_12_1 k_102 r_102_1 dM_notes_37 ?_
      refine g_iconst X 0 dM_notes_40 (by decide) ?_
      refine g_iald X k_103 ln_103 dM_notes_41 ?_
      refine g_iast X k_109 ln_109 dM_notes_42 (fun s1 => ?_)
      refine g_aload_n X dM_notes_43 rfl ?_
      refine g_getN X fl_M_28 fb_12_10 k_102 r_102_10 dM_notes_44 ?_
      refine g_iload X dM_notes_47 rfl ?_
      refine g_iconst X 1 dM_notes_49 (by decide) ?_
      refine g_iadd X dM_notes_50 ?_
      refine g_aload_n X dM_notes_51 rfl ?_
      refine g_getN X fl_M_7 fb_12_1 k_102 r_102_1 dM_notes_52 ?_
      refine g_iconst X 3 dM_notes_55 (by decide) ?_
      refine g_iald X k_103 ln_103 dM_notes_56 ?_
      refine g_iast X k_109 ln_109 dM_notes_57 (fun s2 => ?_)
      refine g_aload_n X dM_notes_58 rfl ?_
      refine g_getN X fl_M_28 fb_12_10 k_102 r_102_10 dM_notes_59 ?_
      refine g_iload X dM_notes_62 rfl ?_
      refine g_iconst X 2 dM_notes_64 (by decide) ?_
      refine g_iadd X dM_notes_65 ?_
      refine g_iload_n X dM_notes_66 rfl ?_
      refine g_iast X k_109 ln_109 dM_notes_67 (fun s3 => ?_)
      refine g_aload_n X dM_notes_68 rfl ?_
      refine g_getN X fl_M_28 fb_12_10 k_102 r_102_10 dM_notes_69 ?_
      refine g_iload X dM_notes_72 rfl ?_
      refine g_iconst X 3 dM_notes_74 (by decide) ?_
      refine g_iadd X dM_notes_75 ?_
      refine g_iload_n X dM_notes_76 rfl ?_
      refine g_iast X k_109 ln_109 dM_notes_77 (fun s4 => ?_)
      refine g_aload_n X dM_notes_78 rfl ?_
      refine g_getN X fl_M_28 fb_12_10 k_102 r_102_10 dM_notes_79 ?_
      refine g_iload X dM_notes_82 rfl ?_
      refine g_iconst X 4 dM_notes_84 (by decide) ?_
      refine g_iadd X dM_notes_85 ?_
      refine g_iload_n X dM_notes_86 rfl ?_
      refine g_iast X k_109 ln_109 dM_notes_87 (fun s5 => ?_)
      refine g_aload_n X dM_notes_88 rfl ?_
      refine g_getN X fl_M_7 fb_12_1 k_102 r_102_1 dM_notes_89 ?_
      refine g_iconst X 2 dM_notes_92 (by decide) ?_
      refine g_aload_n X dM_notes_93 rfl ?_
      refine g_getN X fl_M_7 fb_12_1 k_102 r_102_1 dM_notes_94 ?_
      refine g_iconst X 2 dM_notes_97 (by decide) ?_
      refine g_iald X k_103 ln_103 dM_notes_98 ?_
      refine g_iconst X 1 dM_notes_99 (by decide) ?_
      refine g_iadd X dM_notes_100 ?_
      refine g_iast X k_103 ln_103 dM_notes_101 (fun s6 => ?_)
      exact g_vret X E dM_notes_102
  · exact g_vret X E dM_notes_19
def yM_isLast : MethodName := ⟨"LastWordHillModel", "isLast", "(III)V"⟩
abbrev cM_isLast : ByteArray := prog_14_method_70_code
theorem dM_isLast_0 : decode cM_isLast 0 = .ok (.aload_n 0, 1) := by decide +kernel
theorem dM_isLast_1 : decode cM_isLast 1 = .ok (.getfield 7, 3) := by decide +kernel
theorem dM_isLast_4 : decode cM_isLast 4 = .ok (.bipush 6, 2) := by decide +kernel
theorem dM_isLast_6 : decode cM_isLast 6 = .ok (.iload_n 2, 1) := by decide +kernel
theorem dM_isLast_7 : decode cM_isLast 7 = .ok (.iconst 1, 1) := by decide +kernel
theorem dM_isLast_8 : decode cM_isLast 8 = .ok (.iadd, 1) := by decide +kernel
theorem dM_isLast_9 : decode cM_isLast 9 = .ok (.iastore, 1) := by decide +kernel
theorem dM_isLast_10 : decode cM_isLast 10 = .ok (.aload_n 0, 1) := by decide +kernel
theorem dM_isLast_11 : decode cM_isLast 11 = .ok (.getfield 7, 3) := by decide +kernel
theorem dM_isLast_14 : decode cM_isLast 14 = .ok (.bipush 7, 2) := by decide +kernel
theorem dM_isLast_16 : decode cM_isLast 16 = .ok (.iload_n 1, 1) := by decide +kernel
theorem dM_isLast_17 : decode cM_isLast 17 = .ok (.iconst 1, 1) := by decide +kernel
theorem dM_isLast_18 : decode cM_isLast 18 = .ok (.iadd, 1) := by decide +kernel
theorem dM_isLast_19 : decode cM_isLast 19 = .ok (.iastore, 1) := by decide +kernel
theorem dM_isLast_20 : decode cM_isLast 20 = .ok (.aload_n 0, 1) := by decide +kernel
theorem dM_isLast_21 : decode cM_isLast 21 = .ok (.getfield 7, 3) := by decide +kernel
theorem dM_isLast_24 : decode cM_isLast 24 = .ok (.bipush 40, 2) := by decide +kernel
theorem dM_isLast_26 : decode cM_isLast 26 = .ok (.iload_n 1, 1) := by decide +kernel
theorem dM_isLast_27 : decode cM_isLast 27 = .ok (.iadd, 1) := by decide +kernel
theorem dM_isLast_28 : decode cM_isLast 28 = .ok (.aload_n 0, 1) := by decide +kernel
theorem dM_isLast_29 : decode cM_isLast 29 = .ok (.getfield 7, 3) := by decide +kernel
theorem dM_isLast_32 : decode cM_isLast 32 = .ok (.bipush 40, 2) := by decide +kernel
theorem dM_isLast_34 : decode cM_isLast 34 = .ok (.iload_n 1, 1) := by decide +kernel
theorem dM_isLast_35 : decode cM_isLast 35 = .ok (.iadd, 1) := by decide +kernel
theorem dM_isLast_36 : decode cM_isLast 36 = .ok (.iaload, 1) := by decide +kernel
theorem dM_isLast_37 : decode cM_isLast 37 = .ok (.iconst 1, 1) := by decide +kernel
theorem dM_isLast_38 : decode cM_isLast 38 = .ok (.iadd, 1) := by decide +kernel
theorem dM_isLast_39 : decode cM_isLast 39 = .ok (.iastore, 1) := by decide +kernel
theorem dM_isLast_40 : decode cM_isLast 40 = .ok (.aload_n 0, 1) := by decide +kernel
theorem dM_isLast_41 : decode cM_isLast 41 = .ok (.iload_n 3, 1) := by decide +kernel
theorem dM_isLast_42 : decode cM_isLast 42 = .ok (.iload_n 1, 1) := by decide +kernel
theorem dM_isLast_43 : decode cM_isLast 43 = .ok (.iload_n 2, 1) := by decide +kernel
theorem dM_isLast_44 : decode cM_isLast 44 = .ok (.invokevirtual 345, 3) := by decide +kernel
theorem mm_M_notes : MMc yM_notes cM_notes 5 none 3 := ⟨hz_in 1834 (by decide +kernel) (by decide +kernel), hz_in 147 (by decide +kernel) (by decide +kernel), by decide +kernel, by decide⟩
theorem mv_M_notes : MMv yM_notes 12 := ⟨hz_in 1833 (by decide +kernel) (by decide +kernel), hz_in 92 (by decide +kernel) (by decide +kernel), _, _, rfl, by decide⟩
theorem ml_M_345 : Cond.methodLink "LastWordHillModel" 345 yM_notes ∈ hz_wt := hz_in 1831 (by decide +kernel) (by decide +kernel)
theorem dM_isLast_47 : decode cM_isLast 47 = .ok (.return_, 1) := by decide +kernel
def fM_isLast (v1 : Int32) (v2 : Int32) (v3 : Int32) (s0 : Sg) : Option (Sg) := gd 6 50 (bnd (pt s0 103 (ix 6) (v2 + 1)) fun s1 => gd 7 50 (bnd (pt s1 103 (ix 7) (v1 + 1)) fun s2 => gd (40 + v1) 50 (gd (40 + v1) 50 (bnd (pt s2 103 (ix (40 + v1)) ((s2 103 (ix (40 + v1))) + 1)) fun s3 => bv (fM_notes v3 v1 v2 s3) fun s4 => some s4))))
set_option maxHeartbeats 4000000 in
set_option maxRecDepth 100000 in
theorem okM_isLast (v1 : Int32) (v2 : Int32) (v3 : Int32) (s0 : Sg) : ∀ (l : Launch) (w : WC), Ok l w yM_isLast cM_isLast 4 none 2 evV [.ref (w.ad 102), .int v1, .int v2, .int v3] s0 (fM_isLast v1 v2 v3 s0) := by
  refine ok_in (ev := fun _ => evV) (av := fun w => [.ref (w.ad 102), .int v1, .int v2, .int v3]) "LastWordHillModel" rfl (by decide +kernel) (fun _ => rfl) (fun _ => Nat.le_of_ble_eq_true rfl) ?_
  intro C X E
  show GF C evV 0 [some (.ref (C.w.ad 102)), some (.int v1), some (.int v2), some (.int v3)] [] s0 (fM_isLast v1 v2 v3 s0)
  unfold fM_isLast
  refine g_aload_n X dM_isLast_0 rfl ?_
  refine g_getN X fl_M_7 fb_12_1 k_102 r_102_1 dM_isLast_1 ?_
  refine g_bipush X 6 dM_isLast_4 (by decide) ?_
  refine g_iload_n X dM_isLast_6 rfl ?_
  refine g_iconst X 1 dM_isLast_7 (by decide) ?_
  refine g_iadd X dM_isLast_8 ?_
  refine g_iast X k_103 ln_103 dM_isLast_9 (fun s1 => ?_)
  refine g_aload_n X dM_isLast_10 rfl ?_
  refine g_getN X fl_M_7 fb_12_1 k_102 r_102_1 dM_isLast_11 ?_
  refine g_bipush X 7 dM_isLast_14 (by decide) ?_
  refine g_iload_n X dM_isLast_16 rfl ?_
  refine g_iconst X 1 dM_isLast_17 (by decide) ?_
  refine g_iadd X dM_isLast_18 ?_
  refine g_iast X k_103 ln_103 dM_isLast_19 (fun s2 => ?_)
  refine g_aload_n X dM_isLast_20 rfl ?_
  refine g_getN X fl_M_7 fb_12_1 k_102 r_102_1 dM_isLast_21 ?_
  refine g_bipush X 40 dM_isLast_24 (by decide) ?_
  refine g_iload_n X dM_isLast_26 rfl ?_
  refine g_iadd X dM_isLast_27 ?_
  refine g_aload_n X dM_isLast_28 rfl ?_
  refine g_getN X fl_M_7 fb_12_1 k_102 r_102_1 dM_isLast_29 ?_
  refine g_bipush X 40 dM_isLast_32 (by decide) ?_
  refine g_iload_n X dM_isLast_34 rfl ?_
  refine g_iadd X dM_isLast_35 ?_
  refine g_iald X k_103 ln_103 dM_isLast_36 ?_
  refine g_iconst X 1 dM_isLast_37 (by decide) ?_
  refine g_iadd X dM_isLast_38 ?_
  refine g_iast X k_103 ln_103 dM_isLast_39 (fun s3 => ?_)
  refine g_aload_n X dM_isLast_40 rfl ?_
  refine g_iload_n X dM_isLast_41 rfl ?_
  refine g_iload_n X dM_isLast_42 rfl ?_
  refine g_iload_n X dM_isLast_43 rfl ?_
  refine g_virtV X [.int v3, .int v1, .int v2] [] k_102 mm_M_notes mv_M_notes ml_M_345 (okM_notes v3 v1 v2 s3 C.l C.w) rfl (by decide) rfl (Nat.le_of_ble_eq_true rfl) dM_isLast_44 (fun s4 => ?_)
  exact g_vret X E dM_isLast_47
def yM_canAct : MethodName := ⟨"LastWordHillModel", "canAct", "(III)Z"⟩
abbrev cM_canAct : ByteArray := prog_14_method_71_code
theorem dM_canAct_0 : decode cM_canAct 0 = .ok (.aload_n 0, 1) := by decide +kernel
theorem dM_canAct_1 : decode cM_canAct 1 = .ok (.iload_n 2, 1) := by decide +kernel
theorem dM_canAct_2 : decode cM_canAct 2 = .ok (.invokevirtual 157, 3) := by decide +kernel
theorem dM_canAct_5 : decode cM_canAct 5 = .ok (.ifCond .ne 5, 3) := by decide +kernel
theorem dM_canAct_10 : decode cM_canAct 10 = .ok (.iload_n 1, 1) := by decide +kernel
theorem dM_canAct_11 : decode cM_canAct 11 = .ok (.ifCond .ne 41, 3) := by decide +kernel
theorem dM_canAct_52 : decode cM_canAct 52 = .ok (.iload_n 1, 1) := by decide +kernel
theorem dM_canAct_53 : decode cM_canAct 53 = .ok (.iconst 1, 1) := by decide +kernel
theorem dM_canAct_54 : decode cM_canAct 54 = .ok (.if_icmp .ne 28, 3) := by decide +kernel
theorem dM_canAct_82 : decode cM_canAct 82 = .ok (.iload_n 1, 1) := by decide +kernel
theorem dM_canAct_83 : decode cM_canAct 83 = .ok (.iconst 2, 1) := by decide +kernel
theorem dM_canAct_84 : decode cM_canAct 84 = .ok (.if_icmp .ne 15, 3) := by decide +kernel
theorem dM_canAct_99 : decode cM_canAct 99 = .ok (.iconst 0, 1) := by decide +kernel
theorem dM_canAct_100 : decode cM_canAct 100 = .ok (.ireturn, 1) := by decide +kernel
theorem dM_canAct_87 : decode cM_canAct 87 = .ok (.aload_n 0, 1) := by decide +kernel
theorem dM_canAct_88 : decode cM_canAct 88 = .ok (.iload_n 2, 1) := by decide +kernel
theorem dM_canAct_89 : decode cM_canAct 89 = .ok (.invokevirtual 349, 3) := by decide +kernel
theorem mm_M_isGoing : MMc yM_isGoing cM_isGoing 2 (some .boolean) 1 := ⟨hz_in 1822 (by decide +kernel) (by decide +kernel), hz_in 147 (by decide +kernel) (by decide +kernel), by decide +kernel, by decide⟩
theorem mv_M_isGoing : MMv yM_isGoing 12 := ⟨hz_in 1821 (by decide +kernel) (by decide +kernel), hz_in 89 (by decide +kernel) (by decide +kernel), _, _, rfl, by decide⟩
theorem ml_M_349 : Cond.methodLink "LastWordHillModel" 349 yM_isGoing ∈ hz_wt := hz_in 1819 (by decide +kernel) (by decide +kernel)
theorem dM_canAct_92 : decode cM_canAct 92 = .ok (.ifCond .eq 7, 3) := by decide +kernel
theorem dM_canAct_95 : decode cM_canAct 95 = .ok (.iconst 1, 1) := by decide +kernel
theorem dM_canAct_96 : decode cM_canAct 96 = .ok (.goto 4, 3) := by decide +kernel
theorem dM_canAct_57 : decode cM_canAct 57 = .ok (.aload_n 0, 1) := by decide +kernel
theorem dM_canAct_58 : decode cM_canAct 58 = .ok (.iload_n 3, 1) := by decide +kernel
theorem dM_canAct_59 : decode cM_canAct 59 = .ok (.iconst 0, 1) := by decide +kernel
theorem dM_canAct_60 : decode cM_canAct 60 = .ok (.bipush 19, 2) := by decide +kernel
theorem dM_canAct_62 : decode cM_canAct 62 = .ok (.invokevirtual 153, 3) := by decide +kernel
theorem dM_canAct_65 : decode cM_canAct 65 = .ok (.ifCond .eq 15, 3) := by decide +kernel
theorem dM_canAct_80 : decode cM_canAct 80 = .ok (.iconst 0, 1) := by decide +kernel
theorem dM_canAct_81 : decode cM_canAct 81 = .ok (.ireturn, 1) := by decide +kernel
theorem dM_canAct_68 : decode cM_canAct 68 = .ok (.aload_n 0, 1) := by decide +kernel
theorem dM_canAct_69 : decode cM_canAct 69 = .ok (.iload_n 2, 1) := by decide +kernel
theorem dM_canAct_70 : decode cM_canAct 70 = .ok (.invokevirtual 349, 3) := by decide +kernel
theorem dM_canAct_73 : decode cM_canAct 73 = .ok (.ifCond .ne 7, 3) := by decide +kernel
theorem dM_canAct_76 : decode cM_canAct 76 = .ok (.iconst 1, 1) := by decide +kernel
theorem dM_canAct_77 : decode cM_canAct 77 = .ok (.goto 4, 3) := by decide +kernel
theorem dM_canAct_14 : decode cM_canAct 14 = .ok (.aload_n 0, 1) := by decide +kernel
theorem dM_canAct_15 : decode cM_canAct 15 = .ok (.iload_n 3, 1) := by decide +kernel
theorem dM_canAct_16 : decode cM_canAct 16 = .ok (.iconst 0, 1) := by decide +kernel
theorem dM_canAct_17 : decode cM_canAct 17 = .ok (.bipush 19, 2) := by decide +kernel
theorem dM_canAct_19 : decode cM_canAct 19 = .ok (.invokevirtual 153, 3) := by decide +kernel
theorem dM_canAct_22 : decode cM_canAct 22 = .ok (.ifCond .eq 28, 3) := by decide +kernel
theorem dM_canAct_50 : decode cM_canAct 50 = .ok (.iconst 0, 1) := by decide +kernel
theorem dM_canAct_51 : decode cM_canAct 51 = .ok (.ireturn, 1) := by decide +kernel
theorem dM_canAct_25 : decode cM_canAct 25 = .ok (.aload_n 0, 1) := by decide +kernel
theorem dM_canAct_26 : decode cM_canAct 26 = .ok (.iload_n 2, 1) := by decide +kernel
theorem dM_canAct_27 : decode cM_canAct 27 = .ok (.invokevirtual 320, 3) := by decide +kernel
theorem dM_canAct_30 : decode cM_canAct 30 = .ok (.ifCond .eq 20, 3) := by decide +kernel
theorem dM_canAct_33 : decode cM_canAct 33 = .ok (.aload_n 0, 1) := by decide +kernel
theorem dM_canAct_34 : decode cM_canAct 34 = .ok (.getfield 7, 3) := by decide +kernel
theorem dM_canAct_37 : decode cM_canAct 37 = .ok (.iconst 3, 1) := by decide +kernel
theorem dM_canAct_38 : decode cM_canAct 38 = .ok (.iaload, 1) := by decide +kernel
theorem dM_canAct_39 : decode cM_canAct 39 = .ok (.aload_n 0, 1) := by decide +kernel
theorem dM_canAct_40 : decode cM_canAct 40 = .ok (.invokevirtual 329, 3) := by decide +kernel
theorem dM_canAct_43 : decode cM_canAct 43 = .ok (.if_icmp .gt 7, 3) := by decide +kernel
theorem dM_canAct_46 : decode cM_canAct 46 = .ok (.iconst 1, 1) := by decide +kernel
theorem dM_canAct_47 : decode cM_canAct 47 = .ok (.goto 4, 3) := by decide +kernel
theorem dM_canAct_8 : decode cM_canAct 8 = .ok (.iconst 0, 1) := by decide +kernel
theorem dM_canAct_9 : decode cM_canAct 9 = .ok (.ireturn, 1) := by decide +kernel
def fM_canAct (v1 : Int32) (v2 : Int32) (v3 : Int32) (s0 : Sg) : Option (Int32 × Sg) := bi (fM_isPerson v2 s0) fun r2 s1 => if r2 = 0 then (gb 0 (some (0, s1))) else (if v1 = 0 then (bi (fM_isIn v3 0 19 s1) fun r10 s9 => if r10 = 0 then (gb 0 (some (0, s9))) else (bi (fM_isUp v2 s9) fun r12 s11 => if r12 = 0 then (gb 0 (some (0, s11))) else (gd 3 50 (bi (fM_sunset s11) fun r14 s13 => if r14 < (s11 103 (ix 3)) then (gb 0 (some (0, s13))) else (gb 1 (some (1, s13))))))) else (if v1 = 1 then (bi (fM_isIn v3 0 19 s1) fun r6 s5 => if r6 = 0 then (gb 0 (some (0, s5))) else (bi (fM_isGoing v2 s5) fun r8 s7 => if r8 = 0 then (gb 1 (some (1, s7))) else (gb 0 (some (0, s7))))) else (if v1 = 2 then (bi (fM_isGoing v2 s1) fun r4 s3 => if r4 = 0 then (gb 0 (some (0, s3))) else (gb 1 (some (1, s3)))) else (gb 0 (some (0, s1))))))
set_option maxHeartbeats 4000000 in
set_option maxRecDepth 100000 in
theorem okM_canAct (v1 : Int32) (v2 : Int32) (v3 : Int32) (s0 : Sg) : ∀ (l : Launch) (w : WC), Ok l w yM_canAct cM_canAct 4 (some .boolean) 2 evI [.ref (w.ad 102), .int v1, .int v2, .int v3] s0 (fM_canAct v1 v2 v3 s0) := by
  refine ok_in (ev := fun _ => evI) (av := fun w => [.ref (w.ad 102), .int v1, .int v2, .int v3]) "LastWordHillModel" rfl (by decide +kernel) (fun _ => rfl) (fun _ => Nat.le_of_ble_eq_true rfl) ?_
  intro C X E
  show GF C evI 0 [some (.ref (C.w.ad 102)), some (.int v1), some (.int v2), some (.int v3)] [] s0 (fM_canAct v1 v2 v3 s0)
  unfold fM_canAct
  refine g_aload_n X dM_canAct_0 rfl ?_
  refine g_iload_n X dM_canAct_1 rfl ?_
  refine g_virtI X [.int v2] [] k_102 mm_M_isPerson mv_M_isPerson ml_M_157 (okM_isPerson v2 s0 C.l C.w) rfl (by decide) rfl (Nat.le_of_ble_eq_true rfl) dM_canAct_2 (fun r2 s1 => ?_)
  refine g_zne X (tgt := 10) dM_canAct_5 (by decide) ?_ ?_
  · refine g_iconst X 0 dM_canAct_8 (by decide) ?_
    exact g_zret X E dM_canAct_9
  · refine g_iload_n X dM_canAct_10 rfl ?_
    refine g_zne X (tgt := 52) dM_canAct_11 (by decide) ?_ ?_
    · refine g_aload_n X dM_canAct_14 rfl ?_
      refine g_iload_n X dM_canAct_15 rfl ?_
      refine g_iconst X 0 dM_canAct_16 (by decide) ?_
      refine g_bipush X 19 dM_canAct_17 (by decide) ?_
      refine g_virtI X [.int v3, .int 0, .int 19] [] k_102 mm_M_isIn mv_M_isIn ml_M_153 (okM_isIn v3 0 19 s1 C.l C.w) rfl (by decide) rfl (Nat.le_of_ble_eq_true rfl) dM_canAct_19 (fun r10 s9 => ?_)
      refine g_zeq X (tgt := 50) dM_canAct_22 (by decide) ?_ ?_
      · refine g_iconst X 0 dM_canAct_50 (by decide) ?_
        exact g_zret X E dM_canAct_51
      · refine g_aload_n X dM_canAct_25 rfl ?_
        refine g_iload_n X dM_canAct_26 rfl ?_
        refine g_virtI X [.int v2] [] k_102 mm_M_isUp mv_M_isUp ml_M_320 (okM_isUp v2 s9 C.l C.w) rfl (by decide) rfl (Nat.le_of_ble_eq_true rfl) dM_canAct_27 (fun r12 s11 => ?_)
        refine g_zeq X (tgt := 50) dM_canAct_30 (by decide) ?_ ?_
        · refine g_iconst X 0 dM_canAct_50 (by decide) ?_
          exact g_zret X E dM_canAct_51
        · refine g_aload_n X dM_canAct_33 rfl ?_
          refine g_getN X fl_M_7 fb_12_1 k_102 r_102_1 dM_canAct_34 ?_
          refine g_iconst X 3 dM_canAct_37 (by decide) ?_
          refine g_iald X k_103 ln_103 dM_canAct_38 ?_
          refine g_aload_n X dM_canAct_39 rfl ?_
          refine g_virtI X [] [.int (s11 103 (ix 3))] k_102 mm_M_sunset mv_M_sunset ml_M_329 (okM_sunset s11 C.l C.w) rfl (by decide) rfl (Nat.le_of_ble_eq_true rfl) dM_canAct_40 (fun r14 s13 => ?_)
          refine g_cgt X (tgt := 50) dM_canAct_43 (by decide) ?_ ?_
          · refine g_iconst X 0 dM_canAct_50 (by decide) ?_
            exact g_zret X E dM_canAct_51
          · refine g_iconst X 1 dM_canAct_46 (by decide) ?_
            refine g_goto X 51 dM_canAct_47 (by decide) ?_
            exact g_zret X E dM_canAct_51
    · refine g_iload_n X dM_canAct_52 rfl ?_
      refine g_iconst X 1 dM_canAct_53 (by decide) ?_
      refine g_cne X (tgt := 82) dM_canAct_54 (by decide) ?_ ?_
      · refine g_aload_n X dM_canAct_57 rfl ?_
        refine g_iload_n X dM_canAct_58 rfl ?_
        refine g_iconst X 0 dM_canAct_59 (by decide) ?_
        refine g_bipush X 19 dM_canAct_60 (by decide) ?_
        refine g_virtI X [.int v3, .int 0, .int 19] [] k_102 mm_M_isIn mv_M_isIn ml_M_153 (okM_isIn v3 0 19 s1 C.l C.w) rfl (by decide) rfl (Nat.le_of_ble_eq_true rfl) dM_canAct_62 (fun r6 s5 => ?_)
        refine g_zeq X (tgt := 80) dM_canAct_65 (by decide) ?_ ?_
        · refine g_iconst X 0 dM_canAct_80 (by decide) ?_
          exact g_zret X E dM_canAct_81
        · refine g_aload_n X dM_canAct_68 rfl ?_
          refine g_iload_n X dM_canAct_69 rfl ?_
          refine g_virtI X [.int v2] [] k_102 mm_M_isGoing mv_M_isGoing ml_M_349 (okM_isGoing v2 s5 C.l C.w) rfl (by decide) rfl (Nat.le_of_ble_eq_true rfl) dM_canAct_70 (fun r8 s7 => ?_)
          refine g_zne X (tgt := 80) dM_canAct_73 (by decide) ?_ ?_
          · refine g_iconst X 1 dM_canAct_76 (by decide) ?_
            refine g_goto X 81 dM_canAct_77 (by decide) ?_
            exact g_zret X E dM_canAct_81
          · refine g_iconst X 0 dM_canAct_80 (by decide) ?_
            exact g_zret X E dM_canAct_81
      · refine g_iload_n X dM_canAct_82 rfl ?_
        refine g_iconst X 2 dM_canAct_83 (by decide) ?_
        refine g_cne X (tgt := 99) dM_canAct_84 (by decide) ?_ ?_
        · refine g_aload_n X dM_canAct_87 rfl ?_
          refine g_iload_n X dM_canAct_88 rfl ?_
          refine g_virtI X [.int v2] [] k_102 mm_M_isGoing mv_M_isGoing ml_M_349 (okM_isGoing v2 s1 C.l C.w) rfl (by decide) rfl (Nat.le_of_ble_eq_true rfl) dM_canAct_89 (fun r4 s3 => ?_)
          refine g_zeq X (tgt := 99) dM_canAct_92 (by decide) ?_ ?_
          · refine g_iconst X 0 dM_canAct_99 (by decide) ?_
            exact g_zret X E dM_canAct_100
          · refine g_iconst X 1 dM_canAct_95 (by decide) ?_
            refine g_goto X 100 dM_canAct_96 (by decide) ?_
            exact g_zret X E dM_canAct_100
        · refine g_iconst X 0 dM_canAct_99 (by decide) ?_
          exact g_zret X E dM_canAct_100
def yM_act : MethodName := ⟨"LastWordHillModel", "act", "(III)Z"⟩
abbrev cM_act : ByteArray := prog_14_method_72_code
theorem dM_act_0 : decode cM_act 0 = .ok (.aload_n 0, 1) := by decide +kernel
theorem dM_act_1 : decode cM_act 1 = .ok (.iconst 0, 1) := by decide +kernel
theorem dM_act_2 : decode cM_act 2 = .ok (.putfield 134, 3) := by decide +kernel
theorem dM_act_5 : decode cM_act 5 = .ok (.aload_n 0, 1) := by decide +kernel
theorem dM_act_6 : decode cM_act 6 = .ok (.iload_n 1, 1) := by decide +kernel
theorem dM_act_7 : decode cM_act 7 = .ok (.iload_n 2, 1) := by decide +kernel
theorem dM_act_8 : decode cM_act 8 = .ok (.iload_n 3, 1) := by decide +kernel
theorem dM_act_9 : decode cM_act 9 = .ok (.invokevirtual 352, 3) := by decide +kernel
theorem mm_M_canAct : MMc yM_canAct cM_canAct 4 (some .boolean) 3 := ⟨hz_in 1810 (by decide +kernel) (by decide +kernel), hz_in 147 (by decide +kernel) (by decide +kernel), by decide +kernel, by decide⟩
theorem mv_M_canAct : MMv yM_canAct 12 := ⟨hz_in 1809 (by decide +kernel) (by decide +kernel), hz_in 86 (by decide +kernel) (by decide +kernel), _, _, rfl, by decide⟩
theorem ml_M_352 : Cond.methodLink "LastWordHillModel" 352 yM_canAct ∈ hz_wt := hz_in 1807 (by decide +kernel) (by decide +kernel)
theorem dM_act_12 : decode cM_act 12 = .ok (.ifCond .ne 5, 3) := by decide +kernel
theorem dM_act_17 : decode cM_act 17 = .ok (.aload_n 0, 1) := by decide +kernel
theorem dM_act_18 : decode cM_act 18 = .ok (.invokevirtual 355, 3) := by decide +kernel
theorem mm_M_keepsAhead : MMc yM_keepsAhead cM_keepsAhead 2 none 0 := ⟨hz_in 1826 (by decide +kernel) (by decide +kernel), hz_in 147 (by decide +kernel) (by decide +kernel), by decide +kernel, by decide⟩
theorem mv_M_keepsAhead : MMv yM_keepsAhead 12 := ⟨hz_in 1825 (by decide +kernel) (by decide +kernel), hz_in 90 (by decide +kernel) (by decide +kernel), _, _, rfl, by decide⟩
theorem ml_M_355 : Cond.methodLink "LastWordHillModel" 355 yM_keepsAhead ∈ hz_wt := hz_in 1823 (by decide +kernel) (by decide +kernel)
theorem dM_act_21 : decode cM_act 21 = .ok (.iload_n 1, 1) := by decide +kernel
theorem dM_act_22 : decode cM_act 22 = .ok (.ifCond .ne 10, 3) := by decide +kernel
theorem dM_act_32 : decode cM_act 32 = .ok (.iload_n 1, 1) := by decide +kernel
theorem dM_act_33 : decode cM_act 33 = .ok (.iconst 1, 1) := by decide +kernel
theorem dM_act_34 : decode cM_act 34 = .ok (.if_icmp .ne 15, 3) := by decide +kernel
theorem dM_act_49 : decode cM_act 49 = .ok (.iload_n 1, 1) := by decide +kernel
theorem dM_act_50 : decode cM_act 50 = .ok (.iconst 2, 1) := by decide +kernel
theorem dM_act_51 : decode cM_act 51 = .ok (.if_icmp .ne 23, 3) := by decide +kernel
theorem dM_act_74 : decode cM_act 74 = .ok (.iconst 1, 1) := by decide +kernel
theorem dM_act_75 : decode cM_act 75 = .ok (.ireturn, 1) := by decide +kernel
theorem dM_act_54 : decode cM_act 54 = .ok (.aload_n 0, 1) := by decide +kernel
theorem dM_act_55 : decode cM_act 55 = .ok (.getfield 7, 3) := by decide +kernel
theorem dM_act_58 : decode cM_act 58 = .ok (.bipush 30, 2) := by decide +kernel
theorem dM_act_60 : decode cM_act 60 = .ok (.iload_n 2, 1) := by decide +kernel
theorem dM_act_61 : decode cM_act 61 = .ok (.iadd, 1) := by decide +kernel
theorem dM_act_62 : decode cM_act 62 = .ok (.iconst 0, 1) := by decide +kernel
theorem dM_act_63 : decode cM_act 63 = .ok (.iastore, 1) := by decide +kernel
theorem dM_act_64 : decode cM_act 64 = .ok (.aload_n 0, 1) := by decide +kernel
theorem dM_act_65 : decode cM_act 65 = .ok (.getfield 7, 3) := by decide +kernel
theorem dM_act_68 : decode cM_act 68 = .ok (.bipush 20, 2) := by decide +kernel
theorem dM_act_70 : decode cM_act 70 = .ok (.iload_n 2, 1) := by decide +kernel
theorem dM_act_71 : decode cM_act 71 = .ok (.iadd, 1) := by decide +kernel
theorem dM_act_72 : decode cM_act 72 = .ok (.iconst 0, 1) := by decide +kernel
theorem dM_act_73 : decode cM_act 73 = .ok (.iastore, 1) := by decide +kernel
theorem dM_act_37 : decode cM_act 37 = .ok (.aload_n 0, 1) := by decide +kernel
theorem dM_act_38 : decode cM_act 38 = .ok (.getfield 7, 3) := by decide +kernel
theorem dM_act_41 : decode cM_act 41 = .ok (.bipush 30, 2) := by decide +kernel
theorem dM_act_43 : decode cM_act 43 = .ok (.iload_n 2, 1) := by decide +kernel
theorem dM_act_44 : decode cM_act 44 = .ok (.iadd, 1) := by decide +kernel
theorem dM_act_45 : decode cM_act 45 = .ok (.iload_n 3, 1) := by decide +kernel
theorem dM_act_46 : decode cM_act 46 = .ok (.iconst 1, 1) := by decide +kernel
theorem dM_act_47 : decode cM_act 47 = .ok (.iadd, 1) := by decide +kernel
theorem dM_act_48 : decode cM_act 48 = .ok (.iastore, 1) := by decide +kernel
theorem dM_act_25 : decode cM_act 25 = .ok (.aload_n 0, 1) := by decide +kernel
theorem dM_act_26 : decode cM_act 26 = .ok (.iload_n 2, 1) := by decide +kernel
theorem dM_act_27 : decode cM_act 27 = .ok (.iload_n 3, 1) := by decide +kernel
theorem dM_act_28 : decode cM_act 28 = .ok (.iconst 1, 1) := by decide +kernel
theorem dM_act_29 : decode cM_act 29 = .ok (.invokevirtual 358, 3) := by decide +kernel
theorem mm_M_isLast : MMc yM_isLast cM_isLast 4 none 3 := ⟨hz_in 1830 (by decide +kernel) (by decide +kernel), hz_in 147 (by decide +kernel) (by decide +kernel), by decide +kernel, by decide⟩
theorem mv_M_isLast : MMv yM_isLast 12 := ⟨hz_in 1829 (by decide +kernel) (by decide +kernel), hz_in 91 (by decide +kernel) (by decide +kernel), _, _, rfl, by decide⟩
theorem ml_M_358 : Cond.methodLink "LastWordHillModel" 358 yM_isLast ∈ hz_wt := hz_in 1827 (by decide +kernel) (by decide +kernel)
theorem dM_act_15 : decode cM_act 15 = .ok (.iconst 0, 1) := by decide +kernel
theorem dM_act_16 : decode cM_act 16 = .ok (.ireturn, 1) := by decide +kernel
def fM_act (v1 : Int32) (v2 : Int32) (v3 : Int32) (s0 : Sg) : Option (Int32 × Sg) := bnd (pt s0 102 0 0) fun s1 => bi (fM_canAct v1 v2 v3 s1) fun r3 s2 => if r3 = 0 then (gb 0 (some (0, s2))) else (bv (fM_keepsAhead s2) fun s4 => bnd (fun (s5 : Sg) => bnd (fun (s6 : Sg) => if v1 = 2 then (gd (30 + v2) 50 (bnd (pt s6 103 (ix (30 + v2)) 0) fun s7 => gd (20 + v2) 50 (bnd (pt s7 103 (ix (20 + v2)) 0) fun s8 => gb 1 (some (1, s8))))) else (gb 1 (some (1, s6)))) fun j49 => if v1 = 1 then (gd (30 + v2) 50 (bnd (pt s5 103 (ix (30 + v2)) (v3 + 1)) fun s9 => j49 s9)) else (j49 s5)) fun j32 => if v1 = 0 then (bv (fM_isLast v2 v3 1 s4) fun s10 => j32 s10) else (j32 s4))
set_option maxHeartbeats 4000000 in
set_option maxRecDepth 100000 in
theorem okM_act (v1 : Int32) (v2 : Int32) (v3 : Int32) (s0 : Sg) : ∀ (l : Launch) (w : WC), Ok l w yM_act cM_act 4 (some .boolean) 3 evI [.ref (w.ad 102), .int v1, .int v2, .int v3] s0 (fM_act v1 v2 v3 s0) := by
  refine ok_in (ev := fun _ => evI) (av := fun w => [.ref (w.ad 102), .int v1, .int v2, .int v3]) "LastWordHillModel" rfl (by decide +kernel) (fun _ => rfl) (fun _ => Nat.le_of_ble_eq_true rfl) ?_
  intro C X E
  show GF C evI 0 [some (.ref (C.w.ad 102)), some (.int v1), some (.int v2), some (.int v3)] [] s0 (fM_act v1 v2 v3 s0)
  unfold fM_act
  refine g_aload_n X dM_act_0 rfl ?_
  refine g_iconst X 0 dM_act_1 (by decide) ?_
  refine g_putI X fl_M_134 fb_12_0 fp_12_0 k_102 dM_act_2 (fun s1 => ?_)
  refine g_aload_n X dM_act_5 rfl ?_
  refine g_iload_n X dM_act_6 rfl ?_
  refine g_iload_n X dM_act_7 rfl ?_
  refine g_iload_n X dM_act_8 rfl ?_
  refine g_virtI X [.int v1, .int v2, .int v3] [] k_102 mm_M_canAct mv_M_canAct ml_M_352 (okM_canAct v1 v2 v3 s1 C.l C.w) rfl (by decide) rfl (Nat.le_of_ble_eq_true rfl) dM_act_9 (fun r3 s2 => ?_)
  refine g_zne X (tgt := 17) dM_act_12 (by decide) ?_ ?_
  · refine g_iconst X 0 dM_act_15 (by decide) ?_
    exact g_zret X E dM_act_16
  · refine g_aload_n X dM_act_17 rfl ?_
    refine g_virtV X [] [] k_102 mm_M_keepsAhead mv_M_keepsAhead ml_M_355 (okM_keepsAhead s2 C.l C.w) rfl (by decide) rfl (Nat.le_of_ble_eq_true rfl) dM_act_18 (fun s4 => ?_)
    refine g_iload_n X dM_act_21 rfl ?_
    refine gf_jn (fun j32 => ∀ (s5 : Sg), GF C evI 32 [some (.ref (C.w.ad 102)), some (.int v1), some (.int v2), some (.int v3)] [] s5 (j32 s5)) ?_ ?_
    · intro s5
      refine g_iload_n X dM_act_32 rfl ?_
      refine g_iconst X 1 dM_act_33 (by decide) ?_
      refine gf_jn (fun j49 => ∀ (s6 : Sg), GF C evI 49 [some (.ref (C.w.ad 102)), some (.int v1), some (.int v2), none] [] s6 (j49 s6)) ?_ ?_
      · intro s6
        refine g_iload_n X dM_act_49 rfl ?_
        refine g_iconst X 2 dM_act_50 (by decide) ?_
        refine g_cne X (tgt := 74) dM_act_51 (by decide) ?_ ?_
        · refine g_aload_n X dM_act_54 rfl ?_
          refine g_getN X fl_M_7 fb_12_1 k_102 r_102_1 dM_act_55 ?_
          refine g_bipush X 30 dM_act_58 (by decide) ?_
          refine g_iload_n X dM_act_60 rfl ?_
          refine g_iadd X dM_act_61 ?_
          refine g_iconst X 0 dM_act_62 (by decide) ?_
          refine g_iast X k_103 ln_103 dM_act_63 (fun s7 => ?_)
          refine g_aload_n X dM_act_64 rfl ?_
          refine g_getN X fl_M_7 fb_12_1 k_102 r_102_1 dM_act_65 ?_
          refine g_bipush X 20 dM_act_68 (by decide) ?_
          refine g_iload_n X dM_act_70 rfl ?_
          refine g_iadd X dM_act_71 ?_
          refine g_iconst X 0 dM_act_72 (by decide) ?_
          refine g_iast X k_103 ln_103 dM_act_73 (fun s8 => ?_)
          refine g_iconst X 1 dM_act_74 (by decide) ?_
          exact g_zret X E dM_act_75
        · refine g_iconst X 1 dM_act_74 (by decide) ?_
          exact g_zret X E dM_act_75
      · intro j49 hj49
        refine g_cne X (tgt := 49) dM_act_34 (by decide) ?_ ?_
        · refine g_aload_n X dM_act_37 rfl ?_
          refine g_getN X fl_M_7 fb_12_1 k_102 r_102_1 dM_act_38 ?_
          refine g_bipush X 30 dM_act_41 (by decide) ?_
          refine g_iload_n X dM_act_43 rfl ?_
          refine g_iadd X dM_act_44 ?_
          refine g_iload_n X dM_act_45 rfl ?_
          refine g_iconst X 1 dM_act_46 (by decide) ?_
          refine g_iadd X dM_act_47 ?_
          refine g_iast X k_103 ln_103 dM_act_48 (fun s9 => ?_)
          exact gf_sub (hj49 s9) (by simp [lsub])
        · exact gf_sub (hj49 s5) (by simp [lsub])
    · intro j32 hj32
      refine g_zne X (tgt := 32) dM_act_22 (by decide) ?_ ?_
      · refine g_aload_n X dM_act_25 rfl ?_
        refine g_iload_n X dM_act_26 rfl ?_
        refine g_iload_n X dM_act_27 rfl ?_
        refine g_iconst X 1 dM_act_28 (by decide) ?_
        refine g_virtV X [.int v2, .int v3, .int 1] [] k_102 mm_M_isLast mv_M_isLast ml_M_358 (okM_isLast v2 v3 1 s4 C.l C.w) rfl (by decide) rfl (Nat.le_of_ble_eq_true rfl) dM_act_29 (fun s10 => ?_)
        exact gf_sub (hj32 s10) (by simp [lsub])
      · exact gf_sub (hj32 s4) (by simp [lsub])
def yM_ask : MethodName := ⟨"LastWordHillModel", "ask", "(I)I"⟩
abbrev cM_ask : ByteArray := prog_14_method_73_code
theorem dM_ask_0 : decode cM_ask 0 = .ok (.aload_n 0, 1) := by decide +kernel
theorem dM_ask_1 : decode cM_ask 1 = .ok (.iconst 0, 1) := by decide +kernel
theorem dM_ask_2 : decode cM_ask 2 = .ok (.putfield 134, 3) := by decide +kernel
theorem dM_ask_5 : decode cM_ask 5 = .ok (.aload_n 0, 1) := by decide +kernel
theorem dM_ask_6 : decode cM_ask 6 = .ok (.iload_n 1, 1) := by decide +kernel
theorem dM_ask_7 : decode cM_ask 7 = .ok (.iconst 0, 1) := by decide +kernel
theorem dM_ask_8 : decode cM_ask 8 = .ok (.bipush 9, 2) := by decide +kernel
theorem dM_ask_10 : decode cM_ask 10 = .ok (.invokevirtual 153, 3) := by decide +kernel
theorem dM_ask_13 : decode cM_ask 13 = .ok (.ifCond .ne 5, 3) := by decide +kernel
theorem dM_ask_18 : decode cM_ask 18 = .ok (.aload_n 0, 1) := by decide +kernel
theorem dM_ask_19 : decode cM_ask 19 = .ok (.invokevirtual 355, 3) := by decide +kernel
theorem dM_ask_22 : decode cM_ask 22 = .ok (.aload_n 0, 1) := by decide +kernel
theorem dM_ask_23 : decode cM_ask 23 = .ok (.getfield 7, 3) := by decide +kernel
theorem dM_ask_26 : decode cM_ask 26 = .ok (.iconst 5, 1) := by decide +kernel
theorem dM_ask_27 : decode cM_ask 27 = .ok (.iaload, 1) := by decide +kernel
theorem dM_ask_28 : decode cM_ask 28 = .ok (.iconst 1, 1) := by decide +kernel
theorem dM_ask_29 : decode cM_ask 29 = .ok (.isub, 1) := by decide +kernel
theorem dM_ask_30 : decode cM_ask 30 = .ok (.istore_n 2, 1) := by decide +kernel
theorem dM_ask_31 : decode cM_ask 31 = .ok (.iload_n 2, 1) := by decide +kernel
theorem dM_ask_32 : decode cM_ask 32 = .ok (.iconst (-1), 1) := by decide +kernel
theorem dM_ask_33 : decode cM_ask 33 = .ok (.if_icmp .eq 21, 3) := by decide +kernel
theorem dM_ask_55 : decode cM_ask 55 = .ok (.istore_n 3, 1) := by decide +kernel
theorem dM_ask_56 : decode cM_ask 56 = .ok (.aload_n 0, 1) := by decide +kernel
theorem dM_ask_57 : decode cM_ask 57 = .ok (.getfield 7, 3) := by decide +kernel
theorem dM_ask_60 : decode cM_ask 60 = .ok (.bipush 8, 2) := by decide +kernel
theorem dM_ask_62 : decode cM_ask 62 = .ok (.aload_n 0, 1) := by decide +kernel
theorem dM_ask_63 : decode cM_ask 63 = .ok (.getfield 7, 3) := by decide +kernel
theorem dM_ask_66 : decode cM_ask 66 = .ok (.bipush 8, 2) := by decide +kernel
theorem dM_ask_68 : decode cM_ask 68 = .ok (.iaload, 1) := by decide +kernel
theorem dM_ask_69 : decode cM_ask 69 = .ok (.iconst 1, 1) := by decide +kernel
theorem dM_ask_70 : decode cM_ask 70 = .ok (.iadd, 1) := by decide +kernel
theorem dM_ask_71 : decode cM_ask 71 = .ok (.iastore, 1) := by decide +kernel
theorem dM_ask_72 : decode cM_ask 72 = .ok (.iload_n 3, 1) := by decide +kernel
theorem dM_ask_73 : decode cM_ask 73 = .ok (.ifCond .eq 19, 3) := by decide +kernel
theorem dM_ask_92 : decode cM_ask 92 = .ok (.aload_n 0, 1) := by decide +kernel
theorem dM_ask_93 : decode cM_ask 93 = .ok (.iload_n 3, 1) := by decide +kernel
theorem dM_ask_94 : decode cM_ask 94 = .ok (.ifCond .eq 7, 3) := by decide +kernel
theorem dM_ask_102 : decode cM_ask 102 = .ok (.iload_n 1, 1) := by decide +kernel
theorem dM_ask_103 : decode cM_ask 103 = .ok (.iload_n 2, 1) := by decide +kernel
theorem dM_ask_104 : decode cM_ask 104 = .ok (.invokevirtual 345, 3) := by decide +kernel
theorem dM_ask_107 : decode cM_ask 107 = .ok (.iload_n 3, 1) := by decide +kernel
theorem dM_ask_108 : decode cM_ask 108 = .ok (.ifCond .eq 7, 3) := by decide +kernel
theorem dM_ask_115 : decode cM_ask 115 = .ok (.iconst 0, 1) := by decide +kernel
theorem dM_ask_116 : decode cM_ask 116 = .ok (.ireturn, 1) := by decide +kernel
theorem dM_ask_111 : decode cM_ask 111 = .ok (.iconst 1, 1) := by decide +kernel
theorem dM_ask_112 : decode cM_ask 112 = .ok (.goto 4, 3) := by decide +kernel
theorem dM_ask_101 : decode cM_ask 101 = .ok (.iconst 4, 1) := by decide +kernel
theorem dM_ask_97 : decode cM_ask 97 = .ok (.iconst 3, 1) := by decide +kernel
theorem dM_ask_98 : decode cM_ask 98 = .ok (.goto 4, 3) := by decide +kernel
theorem dM_ask_76 : decode cM_ask 76 = .ok (.aload_n 0, 1) := by decide +kernel
theorem dM_ask_77 : decode cM_ask 77 = .ok (.getfield 7, 3) := by decide +kernel
theorem dM_ask_80 : decode cM_ask 80 = .ok (.bipush 9, 2) := by decide +kernel
theorem dM_ask_82 : decode cM_ask 82 = .ok (.aload_n 0, 1) := by decide +kernel
theorem dM_ask_83 : decode cM_ask 83 = .ok (.getfield 7, 3) := by decide +kernel
theorem dM_ask_86 : decode cM_ask 86 = .ok (.bipush 9, 2) := by decide +kernel
theorem dM_ask_88 : decode cM_ask 88 = .ok (.iaload, 1) := by decide +kernel
theorem dM_ask_89 : decode cM_ask 89 = .ok (.iconst 1, 1) := by decide +kernel
theorem dM_ask_90 : decode cM_ask 90 = .ok (.iadd, 1) := by decide +kernel
theorem dM_ask_91 : decode cM_ask 91 = .ok (.iastore, 1) := by decide +kernel
theorem dM_ask_54 : decode cM_ask 54 = .ok (.iconst 0, 1) := by decide +kernel
theorem dM_ask_36 : decode cM_ask 36 = .ok (.aload_n 0, 1) := by decide +kernel
theorem dM_ask_37 : decode cM_ask 37 = .ok (.aload_n 0, 1) := by decide +kernel
theorem dM_ask_38 : decode cM_ask 38 = .ok (.getfield 71, 3) := by decide +kernel
theorem dM_ask_41 : decode cM_ask 41 = .ok (.iload_n 2, 1) := by decide +kernel
theorem dM_ask_42 : decode cM_ask 42 = .ok (.iaload, 1) := by decide +kernel
theorem dM_ask_43 : decode cM_ask 43 = .ok (.iload_n 1, 1) := by decide +kernel
theorem dM_ask_44 : decode cM_ask 44 = .ok (.invokevirtual 361, 3) := by decide +kernel
theorem mm_M_has : MMc yM_has cM_has 3 (some .boolean) 2 := ⟨hz_in 1842 (by decide +kernel) (by decide +kernel), hz_in 147 (by decide +kernel) (by decide +kernel), by decide +kernel, by decide⟩
theorem mv_M_has : MMv yM_has 12 := ⟨hz_in 1841 (by decide +kernel) (by decide +kernel), hz_in 93 (by decide +kernel) (by decide +kernel), _, _, rfl, by decide⟩
theorem ml_M_361 : Cond.methodLink "LastWordHillModel" 361 yM_has ∈ hz_wt := hz_in 1839 (by decide +kernel) (by decide +kernel)
theorem dM_ask_47 : decode cM_ask 47 = .ok (.ifCond .eq 7, 3) := by decide +kernel
theorem dM_ask_50 : decode cM_ask 50 = .ok (.iconst 1, 1) := by decide +kernel
theorem dM_ask_51 : decode cM_ask 51 = .ok (.goto 4, 3) := by decide +kernel
theorem dM_ask_16 : decode cM_ask 16 = .ok (.iconst (-1), 1) := by decide +kernel
theorem dM_ask_17 : decode cM_ask 17 = .ok (.ireturn, 1) := by decide +kernel
def fM_ask (v1 : Int32) (s0 : Sg) : Option (Int32 × Sg) := bnd (pt s0 102 0 0) fun s1 => bi (fM_isIn v1 0 9 s1) fun r3 s2 => if r3 = 0 then (some ((-1), s2)) else (bv (fM_keepsAhead s2) fun s4 => gd 5 50 (bnd (fun (b55_0 : Int32) (s5 : Sg) => gd 8 50 (gd 8 50 (bnd (pt s5 103 (ix 8) ((s5 103 (ix 8)) + 1)) fun s6 => bnd (fun (s7 : Sg) => bnd (fun (b102_0 : Int32) (s8 : Sg) => bv (fM_notes b102_0 v1 ((s4 103 (ix 5)) - 1) s8) fun s9 => if b55_0 = 0 then (some (0, s9)) else (some (1, s9))) fun j102 => if b55_0 = 0 then (j102 4 s7) else (j102 3 s7)) fun j92 => if b55_0 = 0 then (j92 s6) else (gd 9 50 (gd 9 50 (bnd (pt s6 103 (ix 9) ((s6 103 (ix 9)) + 1)) fun s10 => j92 s10)))))) fun j55 => bnd (fun (s11 : Sg) => j55 0 s11) fun j54 => if ((s4 103 (ix 5)) - 1) = (-1) then (j54 s4) else (gd ((s4 103 (ix 5)) - 1) 40 (bi (fM_has (s4 122 (ix ((s4 103 (ix 5)) - 1))) v1 s4) fun r13 s12 => if r13 = 0 then (j54 s12) else (j55 1 s12)))))
set_option maxHeartbeats 4000000 in
set_option maxRecDepth 100000 in
theorem okM_ask (v1 : Int32) (s0 : Sg) : ∀ (l : Launch) (w : WC), Ok l w yM_ask cM_ask 4 (some .int) 2 evI [.ref (w.ad 102), .int v1] s0 (fM_ask v1 s0) := by
  refine ok_in (ev := fun _ => evI) (av := fun w => [.ref (w.ad 102), .int v1]) "LastWordHillModel" rfl (by decide +kernel) (fun _ => rfl) (fun _ => Nat.le_of_ble_eq_true rfl) ?_
  intro C X E
  show GF C evI 0 [some (.ref (C.w.ad 102)), some (.int v1), none, none] [] s0 (fM_ask v1 s0)
  unfold fM_ask
  refine g_aload_n X dM_ask_0 rfl ?_
  refine g_iconst X 0 dM_ask_1 (by decide) ?_
  refine g_putI X fl_M_134 fb_12_0 fp_12_0 k_102 dM_ask_2 (fun s1 => ?_)
  refine g_aload_n X dM_ask_5 rfl ?_
  refine g_iload_n X dM_ask_6 rfl ?_
  refine g_iconst X 0 dM_ask_7 (by decide) ?_
  refine g_bipush X 9 dM_ask_8 (by decide) ?_
  refine g_virtI X [.int v1, .int 0, .int 9] [] k_102 mm_M_isIn mv_M_isIn ml_M_153 (okM_isIn v1 0 9 s1 C.l C.w) rfl (by decide) rfl (Nat.le_of_ble_eq_true rfl) dM_ask_10 (fun r3 s2 => ?_)
  refine g_zne X (tgt := 18) dM_ask_13 (by decide) ?_ ?_
  · refine g_iconst X (-1) dM_ask_16 (by decide) ?_
    exact g_iret X E dM_ask_17
  · refine g_aload_n X dM_ask_18 rfl ?_
    refine g_virtV X [] [] k_102 mm_M_keepsAhead mv_M_keepsAhead ml_M_355 (okM_keepsAhead s2 C.l C.w) rfl (by decide) rfl (Nat.le_of_ble_eq_true rfl) dM_ask_19 (fun s4 => ?_)
    refine g_aload_n X dM_ask_22 rfl ?_
    refine g_getN X fl_M_7 fb_12_1 k_102 r_102_1 dM_ask_23 ?_
    refine g_iconst X 5 dM_ask_26 (by decide) ?_
    refine g_iald X k_103 ln_103 dM_ask_27 ?_
    refine g_iconst X 1 dM_ask_28 (by decide) ?_
    refine g_isub X dM_ask_29 ?_
    refine g_istore_n X [some (.ref (C.w.ad 102)), some (.int v1), some (.int ((s4 103 (ix 5)) - 1)), none] dM_ask_30 (by decide) (Nat.le_of_ble_eq_true rfl) rfl ?_
    refine g_iload_n X dM_ask_31 rfl ?_
    refine g_iconst X (-1) dM_ask_32 (by decide) ?_
    refine gf_jn (fun j55 => ∀ (b55_0 : Int32) (s5 : Sg), GF C evI 55 [some (.ref (C.w.ad 102)), some (.int v1), some (.int ((s4 103 (ix 5)) - 1)), none] [.int b55_0] s5 (j55 b55_0 s5)) ?_ ?_
    · intro b55_0 s5
      refine g_istore_n X [some (.ref (C.w.ad 102)), some (.int v1), some (.int ((s4 103 (ix 5)) - 1)), some (.int b55_0)] dM_ask_55 (by decide) (Nat.le_of_ble_eq_true rfl) rfl ?_
      refine g_aload_n X dM_ask_56 rfl ?_
      refine g_getN X fl_M_7 fb_12_1 k_102 r_102_1 dM_ask_57 ?_
      refine g_bipush X 8 dM_ask_60 (by decide) ?_
      refine g_aload_n X dM_ask_62 rfl ?_
      refine g_getN X fl_M_7 fb_12_1 k_102 r_102_1 dM_ask_63 ?_
      refine g_bipush X 8 dM_ask_66 (by decide) ?_
      refine g_iald X k_103 ln_103 dM_ask_68 ?_
      refine g_iconst X 1 dM_ask_69 (by decide) ?_
      refine g_iadd X dM_ask_70 ?_
      refine g_iast X k_103 ln_103 dM_ask_71 (fun s6 => ?_)
      refine g_iload_n X dM_ask_72 rfl ?_
      refine gf_jn (fun j92 => ∀ (s7 : Sg), GF C evI 92 [some (.ref (C.w.ad 102)), some (.int v1), some (.int ((s4 103 (ix 5)) - 1)), some (.int b55_0)] [] s7 (j92 s7)) ?_ ?_
      · intro s7
        refine g_aload_n X dM_ask_92 rfl ?_
        refine g_iload_n X dM_ask_93 rfl ?_
        refine gf_jn (fun j102 => ∀ (b102_0 : Int32) (s8 : Sg), GF C evI 102 [none, some (.int v1), some (.int ((s4 103 (ix 5)) - 1)), some (.int b55_0)] [.int b102_0, .ref (C.w.ad 102)] s8 (j102 b102_0 s8)) ?_ ?_
        · intro b102_0 s8
          refine g_iload_n X dM_ask_102 rfl ?_
          refine g_iload_n X dM_ask_103 rfl ?_
          refine g_virtV X [.int b102_0, .int v1, .int ((s4 103 (ix 5)) - 1)] [] k_102 mm_M_notes mv_M_notes ml_M_345 (okM_notes b102_0 v1 ((s4 103 (ix 5)) - 1) s8 C.l C.w) rfl (by decide) rfl (Nat.le_of_ble_eq_true rfl) dM_ask_104 (fun s9 => ?_)
          refine g_iload_n X dM_ask_107 rfl ?_
          refine g_zeq X (tgt := 115) dM_ask_108 (by decide) ?_ ?_
          · refine g_iconst X 0 dM_ask_115 (by decide) ?_
            exact g_iret X E dM_ask_116
          · refine g_iconst X 1 dM_ask_111 (by decide) ?_
            refine g_goto X 116 dM_ask_112 (by decide) ?_
            exact g_iret X E dM_ask_116
        · intro j102 hj102
          refine g_zeq X (tgt := 101) dM_ask_94 (by decide) ?_ ?_
          · refine g_iconst X 4 dM_ask_101 (by decide) ?_
            exact gf_sub (hj102 4 s7) (by simp [lsub])
          · refine g_iconst X 3 dM_ask_97 (by decide) ?_
            refine g_goto X 102 dM_ask_98 (by decide) ?_
            exact gf_sub (hj102 3 s7) (by simp [lsub])
      · intro j92 hj92
        refine g_zeq X (tgt := 92) dM_ask_73 (by decide) ?_ ?_
        · exact gf_sub (hj92 s6) (by simp [lsub])
        · refine g_aload_n X dM_ask_76 rfl ?_
          refine g_getN X fl_M_7 fb_12_1 k_102 r_102_1 dM_ask_77 ?_
          refine g_bipush X 9 dM_ask_80 (by decide) ?_
          refine g_aload_n X dM_ask_82 rfl ?_
          refine g_getN X fl_M_7 fb_12_1 k_102 r_102_1 dM_ask_83 ?_
          refine g_bipush X 9 dM_ask_86 (by decide) ?_
          refine g_iald X k_103 ln_103 dM_ask_88 ?_
          refine g_iconst X 1 dM_ask_89 (by decide) ?_
          refine g_iadd X dM_ask_90 ?_
          refine g_iast X k_103 ln_103 dM_ask_91 (fun s10 => ?_)
          exact gf_sub (hj92 s10) (by simp [lsub])
    · intro j55 hj55
      refine gf_jn (fun j54 => ∀ (s11 : Sg), GF C evI 54 [some (.ref (C.w.ad 102)), some (.int v1), some (.int ((s4 103 (ix 5)) - 1)), none] [] s11 (j54 s11)) ?_ ?_
      · intro s11
        refine g_iconst X 0 dM_ask_54 (by decide) ?_
        exact gf_sub (hj55 0 s11) (by simp [lsub])
      · intro j54 hj54
        refine g_ceq X (tgt := 54) dM_ask_33 (by decide) ?_ ?_
        · exact gf_sub (hj54 s4) (by simp [lsub])
        · refine g_aload_n X dM_ask_36 rfl ?_
          refine g_aload_n X dM_ask_37 rfl ?_
          refine g_getN X fl_M_71 fb_12_39 k_102 r_102_39 dM_ask_38 ?_
          refine g_iload_n X dM_ask_41 rfl ?_
          refine g_iald X k_122 ln_122 dM_ask_42 ?_
          refine g_iload_n X dM_ask_43 rfl ?_
          refine g_virtI X [.int (s4 122 (ix ((s4 103 (ix 5)) - 1))), .int v1] [] k_102 mm_M_has mv_M_has ml_M_361 (okM_has (s4 122 (ix ((s4 103 (ix 5)) - 1))) v1 s4 C.l C.w) rfl (by decide) rfl (Nat.le_of_ble_eq_true rfl) dM_ask_44 (fun r13 s12 => ?_)
          refine g_zeq X (tgt := 54) dM_ask_47 (by decide) ?_ ?_
          · exact gf_sub (hj54 s12) (by simp [lsub])
          · refine g_iconst X 1 dM_ask_50 (by decide) ?_
            refine g_goto X 55 dM_ask_51 (by decide) ?_
            exact gf_sub (hj55 1 s12) (by simp [lsub])
def yM_climbsOn : MethodName := ⟨"LastWordHillModel", "climbsOn", "(I)V"⟩
abbrev cM_climbsOn : ByteArray := prog_14_method_74_code
theorem dM_climbsOn_0 : decode cM_climbsOn 0 = .ok (.aload_n 0, 1) := by decide +kernel
theorem dM_climbsOn_1 : decode cM_climbsOn 1 = .ok (.iload_n 1, 1) := by decide +kernel
theorem dM_climbsOn_2 : decode cM_climbsOn 2 = .ok (.invokevirtual 323, 3) := by decide +kernel
theorem dM_climbsOn_5 : decode cM_climbsOn 5 = .ok (.ifCond .ne 11, 3) := by decide +kernel
theorem dM_climbsOn_16 : decode cM_climbsOn 16 = .ok (.aload_n 0, 1) := by decide +kernel
theorem dM_climbsOn_17 : decode cM_climbsOn 17 = .ok (.iload_n 1, 1) := by decide +kernel
theorem dM_climbsOn_18 : decode cM_climbsOn 18 = .ok (.invokevirtual 365, 3) := by decide +kernel
theorem mm_M_climbsOf : MMc yM_climbsOf cM_climbsOf 2 (some .int) 1 := ⟨hz_in 1866 (by decide +kernel) (by decide +kernel), hz_in 147 (by decide +kernel) (by decide +kernel), by decide +kernel, by decide⟩
theorem mv_M_climbsOf : MMv yM_climbsOf 12 := ⟨hz_in 1865 (by decide +kernel) (by decide +kernel), hz_in 98 (by decide +kernel) (by decide +kernel), _, _, rfl, by decide⟩
theorem ml_M_365 : Cond.methodLink "LastWordHillModel" 365 yM_climbsOf ∈ hz_wt := hz_in 1863 (by decide +kernel) (by decide +kernel)
theorem dM_climbsOn_21 : decode cM_climbsOn 21 = .ok (.istore_n 2, 1) := by decide +kernel
theorem dM_climbsOn_22 : decode cM_climbsOn 22 = .ok (.aload_n 0, 1) := by decide +kernel
theorem dM_climbsOn_23 : decode cM_climbsOn 23 = .ok (.iload_n 1, 1) := by decide +kernel
theorem dM_climbsOn_24 : decode cM_climbsOn 24 = .ok (.invokevirtual 368, 3) := by decide +kernel
theorem mm_M_tiresOf : MMc yM_tiresOf cM_tiresOf 2 (some .int) 1 := ⟨hz_in 1898 (by decide +kernel) (by decide +kernel), hz_in 147 (by decide +kernel) (by decide +kernel), by decide +kernel, by decide⟩
theorem mv_M_tiresOf : MMv yM_tiresOf 12 := ⟨hz_in 1897 (by decide +kernel) (by decide +kernel), hz_in 106 (by decide +kernel) (by decide +kernel), _, _, rfl, by decide⟩
theorem ml_M_368 : Cond.methodLink "LastWordHillModel" 368 yM_tiresOf ∈ hz_wt := hz_in 1895 (by decide +kernel) (by decide +kernel)
theorem dM_climbsOn_27 : decode cM_climbsOn 27 = .ok (.istore_n 3, 1) := by decide +kernel
theorem dM_climbsOn_28 : decode cM_climbsOn 28 = .ok (.aload_n 0, 1) := by decide +kernel
theorem dM_climbsOn_29 : decode cM_climbsOn 29 = .ok (.getfield 7, 3) := by decide +kernel
theorem dM_climbsOn_32 : decode cM_climbsOn 32 = .ok (.bipush 20, 2) := by decide +kernel
theorem dM_climbsOn_34 : decode cM_climbsOn 34 = .ok (.iload_n 1, 1) := by decide +kernel
theorem dM_climbsOn_35 : decode cM_climbsOn 35 = .ok (.iadd, 1) := by decide +kernel
theorem dM_climbsOn_36 : decode cM_climbsOn 36 = .ok (.aload_n 0, 1) := by decide +kernel
theorem dM_climbsOn_37 : decode cM_climbsOn 37 = .ok (.bipush 99, 2) := by decide +kernel
theorem dM_climbsOn_39 : decode cM_climbsOn 39 = .ok (.aload_n 0, 1) := by decide +kernel
theorem dM_climbsOn_40 : decode cM_climbsOn 40 = .ok (.getfield 7, 3) := by decide +kernel
theorem dM_climbsOn_43 : decode cM_climbsOn 43 = .ok (.bipush 20, 2) := by decide +kernel
theorem dM_climbsOn_45 : decode cM_climbsOn 45 = .ok (.iload_n 1, 1) := by decide +kernel
theorem dM_climbsOn_46 : decode cM_climbsOn 46 = .ok (.iadd, 1) := by decide +kernel
theorem dM_climbsOn_47 : decode cM_climbsOn 47 = .ok (.iaload, 1) := by decide +kernel
theorem dM_climbsOn_48 : decode cM_climbsOn 48 = .ok (.iload_n 2, 1) := by decide +kernel
theorem dM_climbsOn_49 : decode cM_climbsOn 49 = .ok (.iadd, 1) := by decide +kernel
theorem dM_climbsOn_50 : decode cM_climbsOn 50 = .ok (.invokevirtual 371, 3) := by decide +kernel
theorem mm_M_lesser : MMc yM_lesser cM_lesser 3 (some .int) 2 := ⟨hz_in 1902 (by decide +kernel) (by decide +kernel), hz_in 147 (by decide +kernel) (by decide +kernel), by decide +kernel, by decide⟩
theorem mv_M_lesser : MMv yM_lesser 12 := ⟨hz_in 1901 (by decide +kernel) (by decide +kernel), hz_in 107 (by decide +kernel) (by decide +kernel), _, _, rfl, by decide⟩
theorem ml_M_371 : Cond.methodLink "LastWordHillModel" 371 yM_lesser ∈ hz_wt := hz_in 1899 (by decide +kernel) (by decide +kernel)
theorem dM_climbsOn_53 : decode cM_climbsOn 53 = .ok (.iastore, 1) := by decide +kernel
theorem dM_climbsOn_54 : decode cM_climbsOn 54 = .ok (.aload_n 0, 1) := by decide +kernel
theorem dM_climbsOn_55 : decode cM_climbsOn 55 = .ok (.iload_n 1, 1) := by decide +kernel
theorem dM_climbsOn_56 : decode cM_climbsOn 56 = .ok (.aload_n 0, 1) := by decide +kernel
theorem dM_climbsOn_57 : decode cM_climbsOn 57 = .ok (.iload_n 1, 1) := by decide +kernel
theorem dM_climbsOn_58 : decode cM_climbsOn 58 = .ok (.invokevirtual 323, 3) := by decide +kernel
theorem dM_climbsOn_61 : decode cM_climbsOn 61 = .ok (.iload_n 3, 1) := by decide +kernel
theorem dM_climbsOn_62 : decode cM_climbsOn 62 = .ok (.isub, 1) := by decide +kernel
theorem dM_climbsOn_63 : decode cM_climbsOn 63 = .ok (.invokevirtual 164, 3) := by decide +kernel
theorem dM_climbsOn_66 : decode cM_climbsOn 66 = .ok (.return_, 1) := by decide +kernel
theorem dM_climbsOn_8 : decode cM_climbsOn 8 = .ok (.aload_n 0, 1) := by decide +kernel
theorem dM_climbsOn_9 : decode cM_climbsOn 9 = .ok (.iload_n 1, 1) := by decide +kernel
theorem dM_climbsOn_10 : decode cM_climbsOn 10 = .ok (.bipush 9, 2) := by decide +kernel
theorem dM_climbsOn_12 : decode cM_climbsOn 12 = .ok (.invokevirtual 164, 3) := by decide +kernel
theorem dM_climbsOn_15 : decode cM_climbsOn 15 = .ok (.return_, 1) := by decide +kernel
def fM_climbsOn (v1 : Int32) (s0 : Sg) : Option (Sg) := bi (fM_breathOf v1 s0) fun r2 s1 => if r2 = 0 then (bv (fM_hasBreath v1 9 s1) fun s13 => some s13) else (bi (fM_climbsOf v1 s1) fun r4 s3 => bi (fM_tiresOf v1 s3) fun r6 s5 => gd (20 + v1) 50 (bi (fM_lesser 99 ((s5 103 (ix (20 + v1))) + r4) s5) fun r8 s7 => gd (20 + v1) 50 (bnd (pt s7 103 (ix (20 + v1)) r8) fun s9 => bi (fM_breathOf v1 s9) fun r11 s10 => bv (fM_hasBreath v1 (r11 - r6) s10) fun s12 => some s12)))
set_option maxHeartbeats 4000000 in
set_option maxRecDepth 100000 in
theorem okM_climbsOn (v1 : Int32) (s0 : Sg) : ∀ (l : Launch) (w : WC), Ok l w yM_climbsOn cM_climbsOn 4 none 6 evV [.ref (w.ad 102), .int v1] s0 (fM_climbsOn v1 s0) := by
  refine ok_in (ev := fun _ => evV) (av := fun w => [.ref (w.ad 102), .int v1]) "LastWordHillModel" rfl (by decide +kernel) (fun _ => rfl) (fun _ => Nat.le_of_ble_eq_true rfl) ?_
  intro C X E
  show GF C evV 0 [some (.ref (C.w.ad 102)), some (.int v1), none, none] [] s0 (fM_climbsOn v1 s0)
  unfold fM_climbsOn
  refine g_aload_n X dM_climbsOn_0 rfl ?_
  refine g_iload_n X dM_climbsOn_1 rfl ?_
  refine g_virtI X [.int v1] [] k_102 mm_M_breathOf mv_M_breathOf ml_M_323 (okM_breathOf v1 s0 C.l C.w) rfl (by decide) rfl (Nat.le_of_ble_eq_true rfl) dM_climbsOn_2 (fun r2 s1 => ?_)
  refine g_zne X (tgt := 16) dM_climbsOn_5 (by decide) ?_ ?_
  · refine g_aload_n X dM_climbsOn_8 rfl ?_
    refine g_iload_n X dM_climbsOn_9 rfl ?_
    refine g_bipush X 9 dM_climbsOn_10 (by decide) ?_
    refine g_virtV X [.int v1, .int 9] [] k_102 mm_M_hasBreath mv_M_hasBreath ml_M_164 (okM_hasBreath v1 9 s1 C.l C.w) rfl (by decide) rfl (Nat.le_of_ble_eq_true rfl) dM_climbsOn_12 (fun s13 => ?_)
    exact g_vret X E dM_climbsOn_15
  · refine g_aload_n X dM_climbsOn_16 rfl ?_
    refine g_iload_n X dM_climbsOn_17 rfl ?_
    refine g_virtI X [.int v1] [] k_102 mm_M_climbsOf mv_M_climbsOf ml_M_365 (okM_climbsOf v1 s1 C.l C.w) rfl (by decide) rfl (Nat.le_of_ble_eq_true rfl) dM_climbsOn_18 (fun r4 s3 => ?_)
    refine g_istore_n X [some (.ref (C.w.ad 102)), some (.int v1), some (.int r4), none] dM_climbsOn_21 (by decide) (Nat.le_of_ble_eq_true rfl) rfl ?_
    refine g_aload_n X dM_climbsOn_22 rfl ?_
    refine g_iload_n X dM_climbsOn_23 rfl ?_
    refine g_virtI X [.int v1] [] k_102 mm_M_tiresOf mv_M_tiresOf ml_M_368 (okM_tiresOf v1 s3 C.l C.w) rfl (by decide) rfl (Nat.le_of_ble_eq_true rfl) dM_climbsOn_24 (fun r6 s5 => ?_)
    refine g_istore_n X [some (.ref (C.w.ad 102)), some (.int v1), some (.int r4), some (.int r6)] dM_climbsOn_27 (by decide) (Nat.le_of_ble_eq_true rfl) rfl ?_
    refine g_aload_n X dM_climbsOn_28 rfl ?_
    refine g_getN X fl_M_7 fb_12_1 k_102 r_102_1 dM_climbsOn_29 ?_
    refine g_bipush X 20 dM_climbsOn_32 (by decide) ?_
    refine g_iload_n X dM_climbsOn_34 rfl ?_
    refine g_iadd X dM_climbsOn_35 ?_
    refine g_aload_n X dM_climbsOn_36 rfl ?_
    refine g_bipush X 99 dM_climbsOn_37 (by decide) ?_
    refine g_aload_n X dM_climbsOn_39 rfl ?_
    refine g_getN X fl_M_7 fb_12_1 k_102 r_102_1 dM_climbsOn_40 ?_
    refine g_bipush X 20 dM_climbsOn_43 (by decide) ?_
    refine g_iload_n X dM_climbsOn_45 rfl ?_
    refine g_iadd X dM_climbsOn_46 ?_
    refine g_iald X k_103 ln_103 dM_climbsOn_47 ?_
    refine g_iload_n X dM_climbsOn_48 rfl ?_
    refine g_iadd X dM_climbsOn_49 ?_
    refine g_virtI X [.int 99, .int ((s5 103 (ix (20 + v1))) + r4)] [.int (20 + v1), .ref (C.w.ad 103)] k_102 mm_M_lesser mv_M_lesser ml_M_371 (okM_lesser 99 ((s5 103 (ix (20 + v1))) + r4) s5 C.l C.w) rfl (by decide) rfl (Nat.le_of_ble_eq_true rfl) dM_climbsOn_50 (fun r8 s7 => ?_)
    refine g_iast X k_103 ln_103 dM_climbsOn_53 (fun s9 => ?_)
    refine g_aload_n X dM_climbsOn_54 rfl ?_
    refine g_iload_n X dM_climbsOn_55 rfl ?_
    refine g_aload_n X dM_climbsOn_56 rfl ?_
    refine g_iload_n X dM_climbsOn_57 rfl ?_
    refine g_virtI X [.int v1] [.int v1, .ref (C.w.ad 102)] k_102 mm_M_breathOf mv_M_breathOf ml_M_323 (okM_breathOf v1 s9 C.l C.w) rfl (by decide) rfl (Nat.le_of_ble_eq_true rfl) dM_climbsOn_58 (fun r11 s10 => ?_)
    refine g_iload_n X dM_climbsOn_61 rfl ?_
    refine g_isub X dM_climbsOn_62 ?_
    refine g_virtV X [.int v1, .int (r11 - r6)] [] k_102 mm_M_hasBreath mv_M_hasBreath ml_M_164 (okM_hasBreath v1 (r11 - r6) s10 C.l C.w) rfl (by decide) rfl (Nat.le_of_ble_eq_true rfl) dM_climbsOn_63 (fun s12 => ?_)
    exact g_vret X E dM_climbsOn_66
def yM_doesSay : MethodName := ⟨"LastWordHillModel", "doesSay", "(I)Z"⟩
abbrev cM_doesSay : ByteArray := prog_14_method_75_code
theorem dM_doesSay_0 : decode cM_doesSay 0 = .ok (.aload_n 0, 1) := by decide +kernel
theorem dM_doesSay_1 : decode cM_doesSay 1 = .ok (.iload_n 1, 1) := by decide +kernel
theorem dM_doesSay_2 : decode cM_doesSay 2 = .ok (.invokevirtual 374, 3) := by decide +kernel
theorem mm_M_saysOf : MMc yM_saysOf cM_saysOf 2 (some .int) 1 := ⟨hz_in 1910 (by decide +kernel) (by decide +kernel), hz_in 147 (by decide +kernel) (by decide +kernel), by decide +kernel, by decide⟩
theorem mv_M_saysOf : MMv yM_saysOf 12 := ⟨hz_in 1909 (by decide +kernel) (by decide +kernel), hz_in 109 (by decide +kernel) (by decide +kernel), _, _, rfl, by decide⟩
theorem ml_M_374 : Cond.methodLink "LastWordHillModel" 374 yM_saysOf ∈ hz_wt := hz_in 1907 (by decide +kernel) (by decide +kernel)
theorem dM_doesSay_5 : decode cM_doesSay 5 = .ok (.istore_n 2, 1) := by decide +kernel
theorem dM_doesSay_6 : decode cM_doesSay 6 = .ok (.aload_n 0, 1) := by decide +kernel
theorem dM_doesSay_7 : decode cM_doesSay 7 = .ok (.iload_n 1, 1) := by decide +kernel
theorem dM_doesSay_8 : decode cM_doesSay 8 = .ok (.invokevirtual 368, 3) := by decide +kernel
theorem dM_doesSay_11 : decode cM_doesSay 11 = .ok (.istore_n 3, 1) := by decide +kernel
theorem dM_doesSay_12 : decode cM_doesSay 12 = .ok (.aload_n 0, 1) := by decide +kernel
theorem dM_doesSay_13 : decode cM_doesSay 13 = .ok (.getfield 140, 3) := by decide +kernel
theorem dM_doesSay_16 : decode cM_doesSay 16 = .ok (.ifCond .eq 20, 3) := by decide +kernel
theorem dM_doesSay_52 : decode cM_doesSay 52 = .ok (.istore 4, 2) := by decide +kernel
theorem dM_doesSay_54 : decode cM_doesSay 54 = .ok (.iload 4, 2) := by decide +kernel
theorem dM_doesSay_56 : decode cM_doesSay 56 = .ok (.ifCond .eq 20, 3) := by decide +kernel
theorem dM_doesSay_76 : decode cM_doesSay 76 = .ok (.aload_n 0, 1) := by decide +kernel
theorem dM_doesSay_77 : decode cM_doesSay 77 = .ok (.iload_n 1, 1) := by decide +kernel
theorem dM_doesSay_78 : decode cM_doesSay 78 = .ok (.iload 4, 2) := by decide +kernel
theorem dM_doesSay_80 : decode cM_doesSay 80 = .ok (.ifCond .eq 13, 3) := by decide +kernel
theorem dM_doesSay_100 : decode cM_doesSay 100 = .ok (.invokevirtual 164, 3) := by decide +kernel
theorem dM_doesSay_103 : decode cM_doesSay 103 = .ok (.iload 4, 2) := by decide +kernel
theorem dM_doesSay_105 : decode cM_doesSay 105 = .ok (.ireturn, 1) := by decide +kernel
theorem dM_doesSay_93 : decode cM_doesSay 93 = .ok (.aload_n 0, 1) := by decide +kernel
theorem dM_doesSay_94 : decode cM_doesSay 94 = .ok (.iload_n 1, 1) := by decide +kernel
theorem dM_doesSay_95 : decode cM_doesSay 95 = .ok (.invokevirtual 323, 3) := by decide +kernel
theorem dM_doesSay_98 : decode cM_doesSay 98 = .ok (.iconst 1, 1) := by decide +kernel
theorem dM_doesSay_99 : decode cM_doesSay 99 = .ok (.iadd, 1) := by decide +kernel
theorem dM_doesSay_83 : decode cM_doesSay 83 = .ok (.aload_n 0, 1) := by decide +kernel
theorem dM_doesSay_84 : decode cM_doesSay 84 = .ok (.iload_n 1, 1) := by decide +kernel
theorem dM_doesSay_85 : decode cM_doesSay 85 = .ok (.invokevirtual 323, 3) := by decide +kernel
theorem dM_doesSay_88 : decode cM_doesSay 88 = .ok (.iload_n 3, 1) := by decide +kernel
theorem dM_doesSay_89 : decode cM_doesSay 89 = .ok (.isub, 1) := by decide +kernel
theorem dM_doesSay_90 : decode cM_doesSay 90 = .ok (.goto 10, 3) := by decide +kernel
theorem dM_doesSay_59 : decode cM_doesSay 59 = .ok (.aload_n 0, 1) := by decide +kernel
theorem dM_doesSay_60 : decode cM_doesSay 60 = .ok (.iload_n 1, 1) := by decide +kernel
theorem dM_doesSay_61 : decode cM_doesSay 61 = .ok (.aload_n 0, 1) := by decide +kernel
theorem dM_doesSay_62 : decode cM_doesSay 62 = .ok (.getfield 7, 3) := by decide +kernel
theorem dM_doesSay_65 : decode cM_doesSay 65 = .ok (.bipush 30, 2) := by decide +kernel
theorem dM_doesSay_67 : decode cM_doesSay 67 = .ok (.iload_n 1, 1) := by decide +kernel
theorem dM_doesSay_68 : decode cM_doesSay 68 = .ok (.iadd, 1) := by decide +kernel
theorem dM_doesSay_69 : decode cM_doesSay 69 = .ok (.iaload, 1) := by decide +kernel
theorem dM_doesSay_70 : decode cM_doesSay 70 = .ok (.iconst 1, 1) := by decide +kernel
theorem dM_doesSay_71 : decode cM_doesSay 71 = .ok (.isub, 1) := by decide +kernel
theorem dM_doesSay_72 : decode cM_doesSay 72 = .ok (.iconst 0, 1) := by decide +kernel
theorem dM_doesSay_73 : decode cM_doesSay 73 = .ok (.invokevirtual 358, 3) := by decide +kernel
theorem dM_doesSay_36 : decode cM_doesSay 36 = .ok (.aload_n 0, 1) := by decide +kernel
theorem dM_doesSay_37 : decode cM_doesSay 37 = .ok (.sipush 1000, 3) := by decide +kernel
theorem dM_doesSay_40 : decode cM_doesSay 40 = .ok (.invokevirtual 377, 3) := by decide +kernel
theorem mm_M_draw : MMc yM_draw cM_draw 2 (some .int) 1 := ⟨hz_in 1914 (by decide +kernel) (by decide +kernel), hz_in 147 (by decide +kernel) (by decide +kernel), by decide +kernel, by decide⟩
theorem mv_M_draw : MMv yM_draw 12 := ⟨hz_in 1913 (by decide +kernel) (by decide +kernel), hz_in 110 (by decide +kernel) (by decide +kernel), _, _, rfl, by decide⟩
theorem ml_M_377 : Cond.methodLink "LastWordHillModel" 377 yM_draw ∈ hz_wt := hz_in 1911 (by decide +kernel) (by decide +kernel)
theorem dM_doesSay_43 : decode cM_doesSay 43 = .ok (.iload_n 2, 1) := by decide +kernel
theorem dM_doesSay_44 : decode cM_doesSay 44 = .ok (.if_icmp .ge 7, 3) := by decide +kernel
theorem dM_doesSay_51 : decode cM_doesSay 51 = .ok (.iconst 0, 1) := by decide +kernel
theorem dM_doesSay_47 : decode cM_doesSay 47 = .ok (.iconst 1, 1) := by decide +kernel
theorem dM_doesSay_48 : decode cM_doesSay 48 = .ok (.goto 4, 3) := by decide +kernel
theorem dM_doesSay_19 : decode cM_doesSay 19 = .ok (.iconst 2, 1) := by decide +kernel
theorem dM_doesSay_20 : decode cM_doesSay 20 = .ok (.iload_n 2, 1) := by decide +kernel
theorem dM_doesSay_21 : decode cM_doesSay 21 = .ok (.imul, 1) := by decide +kernel
theorem dM_doesSay_22 : decode cM_doesSay 22 = .ok (.sipush 1000, 3) := by decide +kernel
theorem dM_doesSay_25 : decode cM_doesSay 25 = .ok (.if_icmp .lt 7, 3) := by decide +kernel
theorem dM_doesSay_32 : decode cM_doesSay 32 = .ok (.iconst 0, 1) := by decide +kernel
theorem dM_doesSay_33 : decode cM_doesSay 33 = .ok (.goto 19, 3) := by decide +kernel
theorem dM_doesSay_28 : decode cM_doesSay 28 = .ok (.iconst 1, 1) := by decide +kernel
theorem dM_doesSay_29 : decode cM_doesSay 29 = .ok (.goto 23, 3) := by decide +kernel
def fM_doesSay (v1 : Int32) (s0 : Sg) : Option (Int32 × Sg) := bi (fM_saysOf v1 s0) fun r2 s1 => bi (fM_tiresOf v1 s1) fun r4 s3 => bnd (fun (b52_0 : Int32) (s5 : Sg) => bnd (fun (s6 : Sg) => bnd (fun (b100_0 : Int32) (s7 : Sg) => bv (fM_hasBreath v1 b100_0 s7) fun s8 => gb b52_0 (some (b52_0, s8))) fun j100 => if b52_0 = 0 then (bi (fM_breathOf v1 s6) fun r10 s9 => j100 (r10 + 1) s9) else (bi (fM_breathOf v1 s6) fun r12 s11 => j100 (r12 - r4) s11)) fun j76 => if b52_0 = 0 then (j76 s5) else (gd (30 + v1) 50 (bv (fM_isLast v1 ((s5 103 (ix (30 + v1))) - 1) 0 s5) fun s13 => j76 s13))) fun j52 => if (s3 102 5) = 0 then (bi (fM_draw 1000 s3) fun r15 s14 => if r2 ≤ r15 then (j52 0 s14) else (j52 1 s14)) else (if (2 * r2) < 1000 then (j52 0 s3) else (j52 1 s3))
set_option maxHeartbeats 4000000 in
set_option maxRecDepth 100000 in
theorem okM_doesSay (v1 : Int32) (s0 : Sg) : ∀ (l : Launch) (w : WC), Ok l w yM_doesSay cM_doesSay 5 (some .boolean) 6 evI [.ref (w.ad 102), .int v1] s0 (fM_doesSay v1 s0) := by
  refine ok_in (ev := fun _ => evI) (av := fun w => [.ref (w.ad 102), .int v1]) "LastWordHillModel" rfl (by decide +kernel) (fun _ => rfl) (fun _ => Nat.le_of_ble_eq_true rfl) ?_
  intro C X E
  show GF C evI 0 [some (.ref (C.w.ad 102)), some (.int v1), none, none, none] [] s0 (fM_doesSay v1 s0)
  unfold fM_doesSay
  refine g_aload_n X dM_doesSay_0 rfl ?_
  refine g_iload_n X dM_doesSay_1 rfl ?_
  refine g_virtI X [.int v1] [] k_102 mm_M_saysOf mv_M_saysOf ml_M_374 (okM_saysOf v1 s0 C.l C.w) rfl (by decide) rfl (Nat.le_of_ble_eq_true rfl) dM_doesSay_2 (fun r2 s1 => ?_)
  refine g_istore_n X [some (.ref (C.w.ad 102)), some (.int v1), some (.int r2), none, none] dM_doesSay_5 (by decide) (Nat.le_of_ble_eq_true rfl) rfl ?_
  refine g_aload_n X dM_doesSay_6 rfl ?_
  refine g_iload_n X dM_doesSay_7 rfl ?_
  refine g_virtI X [.int v1] [] k_102 mm_M_tiresOf mv_M_tiresOf ml_M_368 (okM_tiresOf v1 s1 C.l C.w) rfl (by decide) rfl (Nat.le_of_ble_eq_true rfl) dM_doesSay_8 (fun r4 s3 => ?_)
  refine g_istore_n X [some (.ref (C.w.ad 102)), some (.int v1), some (.int r2), some (.int r4), none] dM_doesSay_11 (by decide) (Nat.le_of_ble_eq_true rfl) rfl ?_
  refine g_aload_n X dM_doesSay_12 rfl ?_
  refine g_getI X fl_M_140 fb_12_5 k_102 dM_doesSay_13 ?_
  refine gf_jn (fun j52 => ∀ (b52_0 : Int32) (s5 : Sg), GF C evI 52 [some (.ref (C.w.ad 102)), some (.int v1), none, some (.int r4), none] [.int b52_0] s5 (j52 b52_0 s5)) ?_ ?_
  · intro b52_0 s5
    refine g_istore X [some (.ref (C.w.ad 102)), some (.int v1), none, some (.int r4), some (.int b52_0)] dM_doesSay_52 (by decide) (Nat.le_of_ble_eq_true rfl) rfl ?_
    refine g_iload X dM_doesSay_54 rfl ?_
    refine gf_jn (fun j76 => ∀ (s6 : Sg), GF C evI 76 [some (.ref (C.w.ad 102)), some (.int v1), none, some (.int r4), some (.int b52_0)] [] s6 (j76 s6)) ?_ ?_
    · intro s6
      refine g_aload_n X dM_doesSay_76 rfl ?_
      refine g_iload_n X dM_doesSay_77 rfl ?_
      refine g_iload X dM_doesSay_78 rfl ?_
      refine gf_jn (fun j100 => ∀ (b100_0 : Int32) (s7 : Sg), GF C evI 100 [none, none, none, none, some (.int b52_0)] [.int b100_0, .int v1, .ref (C.w.ad 102)] s7 (j100 b100_0 s7)) ?_ ?_
      · intro b100_0 s7
        refine g_virtV X [.int v1, .int b100_0] [] k_102 mm_M_hasBreath mv_M_hasBreath ml_M_164 (okM_hasBreath v1 b100_0 s7 C.l C.w) rfl (by decide) rfl (Nat.le_of_ble_eq_true rfl) dM_doesSay_100 (fun s8 => ?_)
        refine g_iload X dM_doesSay_103 rfl ?_
        exact g_zret X E dM_doesSay_105
      · intro j100 hj100
        refine g_zeq X (tgt := 93) dM_doesSay_80 (by decide) ?_ ?_
        · refine g_aload_n X dM_doesSay_93 rfl ?_
          refine g_iload_n X dM_doesSay_94 rfl ?_
          refine g_virtI X [.int v1] [.int v1, .ref (C.w.ad 102)] k_102 mm_M_breathOf mv_M_breathOf ml_M_323 (okM_breathOf v1 s6 C.l C.w) rfl (by decide) rfl (Nat.le_of_ble_eq_true rfl) dM_doesSay_95 (fun r10 s9 => ?_)
          refine g_iconst X 1 dM_doesSay_98 (by decide) ?_
          refine g_iadd X dM_doesSay_99 ?_
          exact gf_sub (hj100 (r10 + 1) s9) (by simp [lsub])
        · refine g_aload_n X dM_doesSay_83 rfl ?_
          refine g_iload_n X dM_doesSay_84 rfl ?_
          refine g_virtI X [.int v1] [.int v1, .ref (C.w.ad 102)] k_102 mm_M_breathOf mv_M_breathOf ml_M_323 (okM_breathOf v1 s6 C.l C.w) rfl (by decide) rfl (Nat.le_of_ble_eq_true rfl) dM_doesSay_85 (fun r12 s11 => ?_)
          refine g_iload_n X dM_doesSay_88 rfl ?_
          refine g_isub X dM_doesSay_89 ?_
          refine g_goto X 100 dM_doesSay_90 (by decide) ?_
          exact gf_sub (hj100 (r12 - r4) s11) (by simp [lsub])
    · intro j76 hj76
      refine g_zeq X (tgt := 76) dM_doesSay_56 (by decide) ?_ ?_
      · exact gf_sub (hj76 s5) (by simp [lsub])
      · refine g_aload_n X dM_doesSay_59 rfl ?_
        refine g_iload_n X dM_doesSay_60 rfl ?_
        refine g_aload_n X dM_doesSay_61 rfl ?_
        refine g_getN X fl_M_7 fb_12_1 k_102 r_102_1 dM_doesSay_62 ?_
        refine g_bipush X 30 dM_doesSay_65 (by decide) ?_
        refine g_iload_n X dM_doesSay_67 rfl ?_
        refine g_iadd X dM_doesSay_68 ?_
        refine g_iald X k_103 ln_103 dM_doesSay_69 ?_
        refine g_iconst X 1 dM_doesSay_70 (by decide) ?_
        refine g_isub X dM_doesSay_71 ?_
        refine g_iconst X 0 dM_doesSay_72 (by decide) ?_
        refine g_virtV X [.int v1, .int ((s5 103 (ix (30 + v1))) - 1), .int 0] [] k_102 mm_M_isLast mv_M_isLast ml_M_358 (okM_isLast v1 ((s5 103 (ix (30 + v1))) - 1) 0 s5 C.l C.w) rfl (by decide) rfl (Nat.le_of_ble_eq_true rfl) dM_doesSay_73 (fun s13 => ?_)
        exact gf_sub (hj76 s13) (by simp [lsub])
  · intro j52 hj52
    refine g_zeq X (tgt := 36) dM_doesSay_16 (by decide) ?_ ?_
    · refine g_aload_n X dM_doesSay_36 rfl ?_
      refine g_sipush X 1000 dM_doesSay_37 (by decide) ?_
      refine g_virtI X [.int 1000] [] k_102 mm_M_draw mv_M_draw ml_M_377 (okM_draw 1000 s3 C.l C.w) rfl (by decide) rfl (Nat.le_of_ble_eq_true rfl) dM_doesSay_40 (fun r15 s14 => ?_)
      refine g_iload_n X dM_doesSay_43 rfl ?_
      refine g_cge X (tgt := 51) dM_doesSay_44 (by decide) ?_ ?_
      · refine g_iconst X 0 dM_doesSay_51 (by decide) ?_
        exact gf_sub (hj52 0 s14) (by simp [lsub])
      · refine g_iconst X 1 dM_doesSay_47 (by decide) ?_
        refine g_goto X 52 dM_doesSay_48 (by decide) ?_
        exact gf_sub (hj52 1 s14) (by simp [lsub])
    · refine g_iconst X 2 dM_doesSay_19 (by decide) ?_
      refine g_iload_n X dM_doesSay_20 rfl ?_
      refine g_imul X dM_doesSay_21 ?_
      refine g_sipush X 1000 dM_doesSay_22 (by decide) ?_
      refine g_clt X (tgt := 32) dM_doesSay_25 (by decide) ?_ ?_
      · refine g_iconst X 0 dM_doesSay_32 (by decide) ?_
        refine g_goto X 52 dM_doesSay_33 (by decide) ?_
        exact gf_sub (hj52 0 s3) (by simp [lsub])
      · refine g_iconst X 1 dM_doesSay_28 (by decide) ?_
        refine g_goto X 52 dM_doesSay_29 (by decide) ?_
        exact gf_sub (hj52 1 s3) (by simp [lsub])
def yM_sunGoesDown : MethodName := ⟨"LastWordHillModel", "sunGoesDown", "()V"⟩
abbrev cM_sunGoesDown : ByteArray := prog_14_method_76_code
theorem dM_sunGoesDown_0 : decode cM_sunGoesDown 0 = .ok (.aload_n 0, 1) := by decide +kernel
theorem dM_sunGoesDown_1 : decode cM_sunGoesDown 1 = .ok (.getfield 7, 3) := by decide +kernel
theorem dM_sunGoesDown_4 : decode cM_sunGoesDown 4 = .ok (.iconst 5, 1) := by decide +kernel
theorem dM_sunGoesDown_5 : decode cM_sunGoesDown 5 = .ok (.aload_n 0, 1) := by decide +kernel
theorem dM_sunGoesDown_6 : decode cM_sunGoesDown 6 = .ok (.getfield 7, 3) := by decide +kernel
theorem dM_sunGoesDown_9 : decode cM_sunGoesDown 9 = .ok (.bipush 6, 2) := by decide +kernel
theorem dM_sunGoesDown_11 : decode cM_sunGoesDown 11 = .ok (.iaload, 1) := by decide +kernel
theorem dM_sunGoesDown_12 : decode cM_sunGoesDown 12 = .ok (.iastore, 1) := by decide +kernel
theorem dM_sunGoesDown_13 : decode cM_sunGoesDown 13 = .ok (.aload_n 0, 1) := by decide +kernel
theorem dM_sunGoesDown_14 : decode cM_sunGoesDown 14 = .ok (.iconst 2, 1) := by decide +kernel
theorem dM_sunGoesDown_15 : decode cM_sunGoesDown 15 = .ok (.iconst (-1), 1) := by decide +kernel
theorem dM_sunGoesDown_16 : decode cM_sunGoesDown 16 = .ok (.aload_n 0, 1) := by decide +kernel
theorem dM_sunGoesDown_17 : decode cM_sunGoesDown 17 = .ok (.getfield 7, 3) := by decide +kernel
theorem dM_sunGoesDown_20 : decode cM_sunGoesDown 20 = .ok (.iconst 5, 1) := by decide +kernel
theorem dM_sunGoesDown_21 : decode cM_sunGoesDown 21 = .ok (.iaload, 1) := by decide +kernel
theorem dM_sunGoesDown_22 : decode cM_sunGoesDown 22 = .ok (.iconst 1, 1) := by decide +kernel
theorem dM_sunGoesDown_23 : decode cM_sunGoesDown 23 = .ok (.isub, 1) := by decide +kernel
theorem dM_sunGoesDown_24 : decode cM_sunGoesDown 24 = .ok (.invokevirtual 345, 3) := by decide +kernel
theorem dM_sunGoesDown_27 : decode cM_sunGoesDown 27 = .ok (.iconst 0, 1) := by decide +kernel
theorem dM_sunGoesDown_28 : decode cM_sunGoesDown 28 = .ok (.istore_n 1, 1) := by decide +kernel
theorem dM_sunGoesDown_29 : decode cM_sunGoesDown 29 = .ok (.iload_n 1, 1) := by decide +kernel
theorem dM_sunGoesDown_30 : decode cM_sunGoesDown 30 = .ok (.aload_n 0, 1) := by decide +kernel
theorem dM_sunGoesDown_31 : decode cM_sunGoesDown 31 = .ok (.getfield 146, 3) := by decide +kernel
theorem dM_sunGoesDown_34 : decode cM_sunGoesDown 34 = .ok (.if_icmp .ge 39, 3) := by decide +kernel
theorem dM_sunGoesDown_73 : decode cM_sunGoesDown 73 = .ok (.return_, 1) := by decide +kernel
theorem dM_sunGoesDown_37 : decode cM_sunGoesDown 37 = .ok (.aload_n 0, 1) := by decide +kernel
theorem dM_sunGoesDown_38 : decode cM_sunGoesDown 38 = .ok (.getfield 7, 3) := by decide +kernel
theorem dM_sunGoesDown_41 : decode cM_sunGoesDown 41 = .ok (.bipush 20, 2) := by decide +kernel
theorem dM_sunGoesDown_43 : decode cM_sunGoesDown 43 = .ok (.iload_n 1, 1) := by decide +kernel
theorem dM_sunGoesDown_44 : decode cM_sunGoesDown 44 = .ok (.iadd, 1) := by decide +kernel
theorem dM_sunGoesDown_45 : decode cM_sunGoesDown 45 = .ok (.iconst 0, 1) := by decide +kernel
theorem dM_sunGoesDown_46 : decode cM_sunGoesDown 46 = .ok (.iastore, 1) := by decide +kernel
theorem dM_sunGoesDown_47 : decode cM_sunGoesDown 47 = .ok (.aload_n 0, 1) := by decide +kernel
theorem dM_sunGoesDown_48 : decode cM_sunGoesDown 48 = .ok (.getfield 7, 3) := by decide +kernel
theorem dM_sunGoesDown_51 : decode cM_sunGoesDown 51 = .ok (.bipush 30, 2) := by decide +kernel
theorem dM_sunGoesDown_53 : decode cM_sunGoesDown 53 = .ok (.iload_n 1, 1) := by decide +kernel
theorem dM_sunGoesDown_54 : decode cM_sunGoesDown 54 = .ok (.iadd, 1) := by decide +kernel
theorem dM_sunGoesDown_55 : decode cM_sunGoesDown 55 = .ok (.iconst 0, 1) := by decide +kernel
theorem dM_sunGoesDown_56 : decode cM_sunGoesDown 56 = .ok (.iastore, 1) := by decide +kernel
theorem dM_sunGoesDown_57 : decode cM_sunGoesDown 57 = .ok (.aload_n 0, 1) := by decide +kernel
theorem dM_sunGoesDown_58 : decode cM_sunGoesDown 58 = .ok (.getfield 7, 3) := by decide +kernel
theorem dM_sunGoesDown_61 : decode cM_sunGoesDown 61 = .ok (.bipush 10, 2) := by decide +kernel
theorem dM_sunGoesDown_63 : decode cM_sunGoesDown 63 = .ok (.iload_n 1, 1) := by decide +kernel
theorem dM_sunGoesDown_64 : decode cM_sunGoesDown 64 = .ok (.iadd, 1) := by decide +kernel
theorem dM_sunGoesDown_65 : decode cM_sunGoesDown 65 = .ok (.iconst 0, 1) := by decide +kernel
theorem dM_sunGoesDown_66 : decode cM_sunGoesDown 66 = .ok (.iastore, 1) := by decide +kernel
theorem dM_sunGoesDown_67 : decode cM_sunGoesDown 67 = .ok (.iinc 1 1, 3) := by decide +kernel
theorem dM_sunGoesDown_70 : decode cM_sunGoesDown 70 = .ok (.goto (-41), 3) := by decide +kernel
def fM_sunGoesDown (s0 : Sg) : Option (Sg) := gd 6 50 (gd 5 50 (bnd (pt s0 103 (ix 5) (s0 103 (ix 6))) fun s1 => gd 5 50 (bv (fM_notes 2 (-1) ((s1 103 (ix 5)) - 1) s1) fun s2 => lp FU (fun q29 (u29 : Int32) (s3 : Sg) => if (s3 102 6) ≤ u29 then (some s3) else (gd (20 + u29) 50 (bnd (pt s3 103 (ix (20 + u29)) 0) fun s4 => gd (30 + u29) 50 (bnd (pt s4 103 (ix (30 + u29)) 0) fun s5 => gd (10 + u29) 50 (bnd (pt s5 103 (ix (10 + u29)) 0) fun s6 => q29 (u29 + 1) s6))))) 0 s2)))
set_option maxHeartbeats 4000000 in
set_option maxRecDepth 100000 in
theorem okM_sunGoesDown (s0 : Sg) : ∀ (l : Launch) (w : WC), Ok l w yM_sunGoesDown cM_sunGoesDown 2 none 2 evV [.ref (w.ad 102)] s0 (fM_sunGoesDown s0) := by
  refine ok_in (ev := fun _ => evV) (av := fun w => [.ref (w.ad 102)]) "LastWordHillModel" rfl (by decide +kernel) (fun _ => rfl) (fun _ => Nat.le_of_ble_eq_true rfl) ?_
  intro C X E
  show GF C evV 0 [some (.ref (C.w.ad 102)), none] [] s0 (fM_sunGoesDown s0)
  unfold fM_sunGoesDown
  refine g_aload_n X dM_sunGoesDown_0 rfl ?_
  refine g_getN X fl_M_7 fb_12_1 k_102 r_102_1 dM_sunGoesDown_1 ?_
  refine g_iconst X 5 dM_sunGoesDown_4 (by decide) ?_
  refine g_aload_n X dM_sunGoesDown_5 rfl ?_
  refine g_getN X fl_M_7 fb_12_1 k_102 r_102_1 dM_sunGoesDown_6 ?_
  refine g_bipush X 6 dM_sunGoesDown_9 (by decide) ?_
  refine g_iald X k_103 ln_103 dM_sunGoesDown_11 ?_
  refine g_iast X k_103 ln_103 dM_sunGoesDown_12 (fun s1 => ?_)
  refine g_aload_n X dM_sunGoesDown_13 rfl ?_
  refine g_iconst X 2 dM_sunGoesDown_14 (by decide) ?_
  refine g_iconst X (-1) dM_sunGoesDown_15 (by decide) ?_
  refine g_aload_n X dM_sunGoesDown_16 rfl ?_
  refine g_getN X fl_M_7 fb_12_1 k_102 r_102_1 dM_sunGoesDown_17 ?_
  refine g_iconst X 5 dM_sunGoesDown_20 (by decide) ?_
  refine g_iald X k_103 ln_103 dM_sunGoesDown_21 ?_
  refine g_iconst X 1 dM_sunGoesDown_22 (by decide) ?_
  refine g_isub X dM_sunGoesDown_23 ?_
  refine g_virtV X [.int 2, .int (-1), .int ((s1 103 (ix 5)) - 1)] [] k_102 mm_M_notes mv_M_notes ml_M_345 (okM_notes 2 (-1) ((s1 103 (ix 5)) - 1) s1 C.l C.w) rfl (by decide) rfl (Nat.le_of_ble_eq_true rfl) dM_sunGoesDown_24 (fun s2 => ?_)
  refine g_iconst X 0 dM_sunGoesDown_27 (by decide) ?_
  refine g_istore_n X [some (.ref (C.w.ad 102)), some (.int 0)] dM_sunGoesDown_28 (by decide) (Nat.le_of_ble_eq_true rfl) rfl ?_
  refine gf_sub (L' := [some (.ref (C.w.ad 102)), some (.int 0)]) ?_ (by simp [lsub])
  refine gf_lp (Lf := fun (u29 : Int32) => [some (.ref (C.w.ad 102)), some (.int u29)]) (fun q29 hq29 u29 s3 => ?_) FU 0 s2
  refine g_iload_n X dM_sunGoesDown_29 rfl ?_
  refine g_aload_n X dM_sunGoesDown_30 rfl ?_
  refine g_getI X fl_M_146 fb_12_6 k_102 dM_sunGoesDown_31 ?_
  refine g_cge X (tgt := 73) dM_sunGoesDown_34 (by decide) ?_ ?_
  · exact g_vret X E dM_sunGoesDown_73
  · refine g_aload_n X dM_sunGoesDown_37 rfl ?_
    refine g_getN X fl_M_7 fb_12_1 k_102 r_102_1 dM_sunGoesDown_38 ?_
    refine g_bipush X 20 dM_sunGoesDown_41 (by decide) ?_
    refine g_iload_n X dM_sunGoesDown_43 rfl ?_
    refine g_iadd X dM_sunGoesDown_44 ?_
    refine g_iconst X 0 dM_sunGoesDown_45 (by decide) ?_
    refine g_iast X k_103 ln_103 dM_sunGoesDown_46 (fun s4 => ?_)
    refine g_aload_n X dM_sunGoesDown_47 rfl ?_
    refine g_getN X fl_M_7 fb_12_1 k_102 r_102_1 dM_sunGoesDown_48 ?_
    refine g_bipush X 30 dM_sunGoesDown_51 (by decide) ?_
    refine g_iload_n X dM_sunGoesDown_53 rfl ?_
    refine g_iadd X dM_sunGoesDown_54 ?_
    refine g_iconst X 0 dM_sunGoesDown_55 (by decide) ?_
    refine g_iast X k_103 ln_103 dM_sunGoesDown_56 (fun s5 => ?_)
    refine g_aload_n X dM_sunGoesDown_57 rfl ?_
    refine g_getN X fl_M_7 fb_12_1 k_102 r_102_1 dM_sunGoesDown_58 ?_
    refine g_bipush X 10 dM_sunGoesDown_61 (by decide) ?_
    refine g_iload_n X dM_sunGoesDown_63 rfl ?_
    refine g_iadd X dM_sunGoesDown_64 ?_
    refine g_iconst X 0 dM_sunGoesDown_65 (by decide) ?_
    refine g_iast X k_103 ln_103 dM_sunGoesDown_66 (fun s6 => ?_)
    refine g_iinc X (u29 + 1) [some (.ref (C.w.ad 102)), some (.int (u29 + 1))] dM_sunGoesDown_67 rfl rfl (by decide) rfl ?_
    refine g_goto X 29 dM_sunGoesDown_70 (by decide) ?_
    exact gf_sub (hq29 (u29 + 1) s6) (by simp [lsub])
def yM_begins : MethodName := ⟨"LastWordHillModel", "begins", "()V"⟩
abbrev cM_begins : ByteArray := prog_14_method_77_code
theorem dM_begins_0 : decode cM_begins 0 = .ok (.iconst 0, 1) := by decide +kernel
theorem dM_begins_1 : decode cM_begins 1 = .ok (.istore_n 1, 1) := by decide +kernel
theorem dM_begins_2 : decode cM_begins 2 = .ok (.iload_n 1, 1) := by decide +kernel
theorem dM_begins_3 : decode cM_begins 3 = .ok (.iconst 2, 1) := by decide +kernel
theorem dM_begins_4 : decode cM_begins 4 = .ok (.aload_n 0, 1) := by decide +kernel
theorem dM_begins_5 : decode cM_begins 5 = .ok (.getfield 299, 3) := by decide +kernel
theorem dM_begins_8 : decode cM_begins 8 = .ok (.imul, 1) := by decide +kernel
theorem dM_begins_9 : decode cM_begins 9 = .ok (.if_icmp .ge 51, 3) := by decide +kernel
theorem dM_begins_60 : decode cM_begins 60 = .ok (.iconst 0, 1) := by decide +kernel
theorem dM_begins_61 : decode cM_begins 61 = .ok (.istore_n 1, 1) := by decide +kernel
theorem dM_begins_62 : decode cM_begins 62 = .ok (.iload_n 1, 1) := by decide +kernel
theorem dM_begins_63 : decode cM_begins 63 = .ok (.iconst 4, 1) := by decide +kernel
theorem dM_begins_64 : decode cM_begins 64 = .ok (.aload_n 0, 1) := by decide +kernel
theorem dM_begins_65 : decode cM_begins 65 = .ok (.getfield 296, 3) := by decide +kernel
theorem dM_begins_68 : decode cM_begins 68 = .ok (.imul, 1) := by decide +kernel
theorem dM_begins_69 : decode cM_begins 69 = .ok (.if_icmp .ge 83, 3) := by decide +kernel
theorem dM_begins_152 : decode cM_begins 152 = .ok (.return_, 1) := by decide +kernel
theorem dM_begins_72 : decode cM_begins 72 = .ok (.aload_n 0, 1) := by decide +kernel
theorem dM_begins_73 : decode cM_begins 73 = .ok (.getfield 65, 3) := by decide +kernel
theorem dM_begins_76 : decode cM_begins 76 = .ok (.iload_n 1, 1) := by decide +kernel
theorem dM_begins_77 : decode cM_begins 77 = .ok (.iaload, 1) := by decide +kernel
theorem dM_begins_78 : decode cM_begins 78 = .ok (.aload_n 0, 1) := by decide +kernel
theorem dM_begins_79 : decode cM_begins 79 = .ok (.getfield 7, 3) := by decide +kernel
theorem dM_begins_82 : decode cM_begins 82 = .ok (.iconst 0, 1) := by decide +kernel
theorem dM_begins_83 : decode cM_begins 83 = .ok (.iaload, 1) := by decide +kernel
theorem dM_begins_84 : decode cM_begins 84 = .ok (.if_icmp .ne 61, 3) := by decide +kernel
theorem dM_begins_145 : decode cM_begins 145 = .ok (.iload_n 1, 1) := by decide +kernel
theorem dM_begins_146 : decode cM_begins 146 = .ok (.iconst 4, 1) := by decide +kernel
theorem dM_begins_147 : decode cM_begins 147 = .ok (.iadd, 1) := by decide +kernel
theorem dM_begins_148 : decode cM_begins 148 = .ok (.istore_n 1, 1) := by decide +kernel
theorem dM_begins_149 : decode cM_begins 149 = .ok (.goto (-87), 3) := by decide +kernel
theorem dM_begins_87 : decode cM_begins 87 = .ok (.aload_n 0, 1) := by decide +kernel
theorem dM_begins_88 : decode cM_begins 88 = .ok (.getfield 65, 3) := by decide +kernel
theorem dM_begins_91 : decode cM_begins 91 = .ok (.iload_n 1, 1) := by decide +kernel
theorem dM_begins_92 : decode cM_begins 92 = .ok (.iconst 3, 1) := by decide +kernel
theorem dM_begins_93 : decode cM_begins 93 = .ok (.iadd, 1) := by decide +kernel
theorem dM_begins_94 : decode cM_begins 94 = .ok (.iaload, 1) := by decide +kernel
theorem dM_begins_95 : decode cM_begins 95 = .ok (.aload_n 0, 1) := by decide +kernel
theorem dM_begins_96 : decode cM_begins 96 = .ok (.getfield 7, 3) := by decide +kernel
theorem dM_begins_99 : decode cM_begins 99 = .ok (.iconst 3, 1) := by decide +kernel
theorem dM_begins_100 : decode cM_begins 100 = .ok (.iaload, 1) := by decide +kernel
theorem dM_begins_101 : decode cM_begins 101 = .ok (.if_icmp .ne 44, 3) := by decide +kernel
theorem dM_begins_104 : decode cM_begins 104 = .ok (.aload_n 0, 1) := by decide +kernel
theorem dM_begins_105 : decode cM_begins 105 = .ok (.aload_n 0, 1) := by decide +kernel
theorem dM_begins_106 : decode cM_begins 106 = .ok (.getfield 65, 3) := by decide +kernel
theorem dM_begins_109 : decode cM_begins 109 = .ok (.iload_n 1, 1) := by decide +kernel
theorem dM_begins_110 : decode cM_begins 110 = .ok (.iconst 1, 1) := by decide +kernel
theorem dM_begins_111 : decode cM_begins 111 = .ok (.iadd, 1) := by decide +kernel
theorem dM_begins_112 : decode cM_begins 112 = .ok (.iaload, 1) := by decide +kernel
theorem dM_begins_113 : decode cM_begins 113 = .ok (.invokevirtual 349, 3) := by decide +kernel
theorem dM_begins_116 : decode cM_begins 116 = .ok (.ifCond .ne 29, 3) := by decide +kernel
theorem dM_begins_119 : decode cM_begins 119 = .ok (.aload_n 0, 1) := by decide +kernel
theorem dM_begins_120 : decode cM_begins 120 = .ok (.getfield 7, 3) := by decide +kernel
theorem dM_begins_123 : decode cM_begins 123 = .ok (.bipush 30, 2) := by decide +kernel
theorem dM_begins_125 : decode cM_begins 125 = .ok (.aload_n 0, 1) := by decide +kernel
theorem dM_begins_126 : decode cM_begins 126 = .ok (.getfield 65, 3) := by decide +kernel
theorem dM_begins_129 : decode cM_begins 129 = .ok (.iload_n 1, 1) := by decide +kernel
theorem dM_begins_130 : decode cM_begins 130 = .ok (.iconst 1, 1) := by decide +kernel
theorem dM_begins_131 : decode cM_begins 131 = .ok (.iadd, 1) := by decide +kernel
theorem dM_begins_132 : decode cM_begins 132 = .ok (.iaload, 1) := by decide +kernel
theorem dM_begins_133 : decode cM_begins 133 = .ok (.iadd, 1) := by decide +kernel
theorem dM_begins_134 : decode cM_begins 134 = .ok (.aload_n 0, 1) := by decide +kernel
theorem dM_begins_135 : decode cM_begins 135 = .ok (.getfield 65, 3) := by decide +kernel
theorem dM_begins_138 : decode cM_begins 138 = .ok (.iload_n 1, 1) := by decide +kernel
theorem dM_begins_139 : decode cM_begins 139 = .ok (.iconst 2, 1) := by decide +kernel
theorem dM_begins_140 : decode cM_begins 140 = .ok (.iadd, 1) := by decide +kernel
theorem dM_begins_141 : decode cM_begins 141 = .ok (.iaload, 1) := by decide +kernel
theorem dM_begins_142 : decode cM_begins 142 = .ok (.iconst 1, 1) := by decide +kernel
theorem dM_begins_143 : decode cM_begins 143 = .ok (.iadd, 1) := by decide +kernel
theorem dM_begins_144 : decode cM_begins 144 = .ok (.iastore, 1) := by decide +kernel
theorem dM_begins_12 : decode cM_begins 12 = .ok (.aload_n 0, 1) := by decide +kernel
theorem dM_begins_13 : decode cM_begins 13 = .ok (.getfield 7, 3) := by decide +kernel
theorem dM_begins_16 : decode cM_begins 16 = .ok (.iconst 3, 1) := by decide +kernel
theorem dM_begins_17 : decode cM_begins 17 = .ok (.iaload, 1) := by decide +kernel
theorem dM_begins_18 : decode cM_begins 18 = .ok (.ifCond .ne 42, 3) := by decide +kernel
theorem dM_begins_21 : decode cM_begins 21 = .ok (.aload_n 0, 1) := by decide +kernel
theorem dM_begins_22 : decode cM_begins 22 = .ok (.getfield 68, 3) := by decide +kernel
theorem dM_begins_25 : decode cM_begins 25 = .ok (.iload_n 1, 1) := by decide +kernel
theorem dM_begins_26 : decode cM_begins 26 = .ok (.iaload, 1) := by decide +kernel
theorem dM_begins_27 : decode cM_begins 27 = .ok (.aload_n 0, 1) := by decide +kernel
theorem dM_begins_28 : decode cM_begins 28 = .ok (.getfield 7, 3) := by decide +kernel
theorem dM_begins_31 : decode cM_begins 31 = .ok (.iconst 0, 1) := by decide +kernel
theorem dM_begins_32 : decode cM_begins 32 = .ok (.iaload, 1) := by decide +kernel
theorem dM_begins_33 : decode cM_begins 33 = .ok (.if_icmp .ne 20, 3) := by decide +kernel
theorem dM_begins_53 : decode cM_begins 53 = .ok (.iload_n 1, 1) := by decide +kernel
theorem dM_begins_54 : decode cM_begins 54 = .ok (.iconst 2, 1) := by decide +kernel
theorem dM_begins_55 : decode cM_begins 55 = .ok (.iadd, 1) := by decide +kernel
theorem dM_begins_56 : decode cM_begins 56 = .ok (.istore_n 1, 1) := by decide +kernel
theorem dM_begins_57 : decode cM_begins 57 = .ok (.goto (-55), 3) := by decide +kernel
theorem dM_begins_36 : decode cM_begins 36 = .ok (.aload_n 0, 1) := by decide +kernel
theorem dM_begins_37 : decode cM_begins 37 = .ok (.getfield 7, 3) := by decide +kernel
theorem dM_begins_40 : decode cM_begins 40 = .ok (.iconst 4, 1) := by decide +kernel
theorem dM_begins_41 : decode cM_begins 41 = .ok (.aload_n 0, 1) := by decide +kernel
theorem dM_begins_42 : decode cM_begins 42 = .ok (.getfield 68, 3) := by decide +kernel
theorem dM_begins_45 : decode cM_begins 45 = .ok (.iload_n 1, 1) := by decide +kernel
theorem dM_begins_46 : decode cM_begins 46 = .ok (.iconst 1, 1) := by decide +kernel
theorem dM_begins_47 : decode cM_begins 47 = .ok (.iadd, 1) := by decide +kernel
theorem dM_begins_48 : decode cM_begins 48 = .ok (.iaload, 1) := by decide +kernel
theorem dM_begins_49 : decode cM_begins 49 = .ok (.bipush 40, 2) := by decide +kernel
theorem dM_begins_51 : decode cM_begins 51 = .ok (.isub, 1) := by decide +kernel
theorem dM_begins_52 : decode cM_begins 52 = .ok (.iastore, 1) := by decide +kernel
def fM_begins (s0 : Sg) : Option (Sg) := lp FU (fun q2 (u2 : Int32) (s1 : Sg) => bnd (fun (s2 : Sg) => lp FU (fun q62 (u62 : Int32) (s3 : Sg) => if (4 * (s3 102 34)) ≤ u62 then (some s3) else (gd u62 128 (gd 0 50 (bnd (fun (s4 : Sg) => q62 (u62 + 4) s4) fun j145 => if (s3 120 (ix u62)) = (s3 103 (ix 0)) then (gd (u62 + 3) 128 (gd 3 50 (if (s3 120 (ix (u62 + 3))) = (s3 103 (ix 3)) then (gd (u62 + 1) 128 (bi (fM_isGoing (s3 120 (ix (u62 + 1))) s3) fun r6 s5 => if r6 = 0 then (gd (u62 + 1) 128 (gd (u62 + 2) 128 (gd (30 + (s5 120 (ix (u62 + 1)))) 50 (bnd (pt s5 103 (ix (30 + (s5 120 (ix (u62 + 1))))) ((s5 120 (ix (u62 + 2))) + 1)) fun s7 => j145 s7)))) else (j145 s5))) else (j145 s3)))) else (j145 s3))))) 0 s2) fun j60 => if (2 * (s1 102 36)) ≤ u2 then (j60 s1) else (gd 3 50 (if (s1 103 (ix 3)) = 0 then (gd u2 64 (gd 0 50 (bnd (fun (s8 : Sg) => q2 (u2 + 2) s8) fun j53 => if (s1 121 (ix u2)) = (s1 103 (ix 0)) then (gd (u2 + 1) 64 (gd 4 50 (bnd (pt s1 103 (ix 4) ((s1 121 (ix (u2 + 1))) - 40)) fun s9 => j53 s9))) else (j53 s1)))) else (j60 s1)))) 0 s0
set_option maxHeartbeats 4000000 in
set_option maxRecDepth 100000 in
theorem okM_begins (s0 : Sg) : ∀ (l : Launch) (w : WC), Ok l w yM_begins cM_begins 2 none 2 evV [.ref (w.ad 102)] s0 (fM_begins s0) := by
  refine ok_in (ev := fun _ => evV) (av := fun w => [.ref (w.ad 102)]) "LastWordHillModel" rfl (by decide +kernel) (fun _ => rfl) (fun _ => Nat.le_of_ble_eq_true rfl) ?_
  intro C X E
  show GF C evV 0 [some (.ref (C.w.ad 102)), none] [] s0 (fM_begins s0)
  unfold fM_begins
  refine g_iconst X 0 dM_begins_0 (by decide) ?_
  refine g_istore_n X [some (.ref (C.w.ad 102)), some (.int 0)] dM_begins_1 (by decide) (Nat.le_of_ble_eq_true rfl) rfl ?_
  refine gf_sub (L' := [some (.ref (C.w.ad 102)), some (.int 0)]) ?_ (by simp [lsub])
  refine gf_lp (Lf := fun (u2 : Int32) => [some (.ref (C.w.ad 102)), some (.int u2)]) (fun q2 hq2 u2 s1 => ?_) FU 0 s0
  refine g_iload_n X dM_begins_2 rfl ?_
  refine g_iconst X 2 dM_begins_3 (by decide) ?_
  refine g_aload_n X dM_begins_4 rfl ?_
  refine g_getI X fl_M_299 fb_12_36 k_102 dM_begins_5 ?_
  refine g_imul X dM_begins_8 ?_
  refine gf_jn (fun j60 => ∀ (s2 : Sg), GF C evV 60 [some (.ref (C.w.ad 102)), none] [] s2 (j60 s2)) ?_ ?_
  · intro s2
    refine g_iconst X 0 dM_begins_60 (by decide) ?_
    refine g_istore_n X [some (.ref (C.w.ad 102)), some (.int 0)] dM_begins_61 (by decide) (Nat.le_of_ble_eq_true rfl) rfl ?_
    refine gf_sub (L' := [some (.ref (C.w.ad 102)), some (.int 0)]) ?_ (by simp [lsub])
    refine gf_lp (Lf := fun (u62 : Int32) => [some (.ref (C.w.ad 102)), some (.int u62)]) (fun q62 hq62 u62 s3 => ?_) FU 0 s2
    refine g_iload_n X dM_begins_62 rfl ?_
    refine g_iconst X 4 dM_begins_63 (by decide) ?_
    refine g_aload_n X dM_begins_64 rfl ?_
    refine g_getI X fl_M_296 fb_12_34 k_102 dM_begins_65 ?_
    refine g_imul X dM_begins_68 ?_
    refine g_cge X (tgt := 152) dM_begins_69 (by decide) ?_ ?_
    · exact g_vret X E dM_begins_152
    · refine g_aload_n X dM_begins_72 rfl ?_
      refine g_getN X fl_M_65 fb_12_35 k_102 r_102_35 dM_begins_73 ?_
      refine g_iload_n X dM_begins_76 rfl ?_
      refine g_iald X k_120 ln_120 dM_begins_77 ?_
      refine g_aload_n X dM_begins_78 rfl ?_
      refine g_getN X fl_M_7 fb_12_1 k_102 r_102_1 dM_begins_79 ?_
      refine g_iconst X 0 dM_begins_82 (by decide) ?_
      refine g_iald X k_103 ln_103 dM_begins_83 ?_
      refine gf_jn (fun j145 => ∀ (s4 : Sg), GF C evV 145 [some (.ref (C.w.ad 102)), some (.int u62)] [] s4 (j145 s4)) ?_ ?_
      · intro s4
        refine g_iload_n X dM_begins_145 rfl ?_
        refine g_iconst X 4 dM_begins_146 (by decide) ?_
        refine g_iadd X dM_begins_147 ?_
        refine g_istore_n X [some (.ref (C.w.ad 102)), some (.int (u62 + 4))] dM_begins_148 (by decide) (Nat.le_of_ble_eq_true rfl) rfl ?_
        refine g_goto X 62 dM_begins_149 (by decide) ?_
        exact gf_sub (hq62 (u62 + 4) s4) (by simp [lsub])
      · intro j145 hj145
        refine g_cne X (tgt := 145) dM_begins_84 (by decide) ?_ ?_
        · refine g_aload_n X dM_begins_87 rfl ?_
          refine g_getN X fl_M_65 fb_12_35 k_102 r_102_35 dM_begins_88 ?_
          refine g_iload_n X dM_begins_91 rfl ?_
          refine g_iconst X 3 dM_begins_92 (by decide) ?_
          refine g_iadd X dM_begins_93 ?_
          refine g_iald X k_120 ln_120 dM_begins_94 ?_
          refine g_aload_n X dM_begins_95 rfl ?_
          refine g_getN X fl_M_7 fb_12_1 k_102 r_102_1 dM_begins_96 ?_
          refine g_iconst X 3 dM_begins_99 (by decide) ?_
          refine g_iald X k_103 ln_103 dM_begins_100 ?_
          refine g_cne X (tgt := 145) dM_begins_101 (by decide) ?_ ?_
          · refine g_aload_n X dM_begins_104 rfl ?_
            refine g_aload_n X dM_begins_105 rfl ?_
            refine g_getN X fl_M_65 fb_12_35 k_102 r_102_35 dM_begins_106 ?_
            refine g_iload_n X dM_begins_109 rfl ?_
            refine g_iconst X 1 dM_begins_110 (by decide) ?_
            refine g_iadd X dM_begins_111 ?_
            refine g_iald X k_120 ln_120 dM_begins_112 ?_
            refine g_virtI X [.int (s3 120 (ix (u62 + 1)))] [] k_102 mm_M_isGoing mv_M_isGoing ml_M_349 (okM_isGoing (s3 120 (ix (u62 + 1))) s3 C.l C.w) rfl (by decide) rfl (Nat.le_of_ble_eq_true rfl) dM_begins_113 (fun r6 s5 => ?_)
            refine g_zne X (tgt := 145) dM_begins_116 (by decide) ?_ ?_
            · refine g_aload_n X dM_begins_119 rfl ?_
              refine g_getN X fl_M_7 fb_12_1 k_102 r_102_1 dM_begins_120 ?_
              refine g_bipush X 30 dM_begins_123 (by decide) ?_
              refine g_aload_n X dM_begins_125 rfl ?_
              refine g_getN X fl_M_65 fb_12_35 k_102 r_102_35 dM_begins_126 ?_
              refine g_iload_n X dM_begins_129 rfl ?_
              refine g_iconst X 1 dM_begins_130 (by decide) ?_
              refine g_iadd X dM_begins_131 ?_
              refine g_iald X k_120 ln_120 dM_begins_132 ?_
              refine g_iadd X dM_begins_133 ?_
              refine g_aload_n X dM_begins_134 rfl ?_
              refine g_getN X fl_M_65 fb_12_35 k_102 r_102_35 dM_begins_135 ?_
              refine g_iload_n X dM_begins_138 rfl ?_
              refine g_iconst X 2 dM_begins_139 (by decide) ?_
              refine g_iadd X dM_begins_140 ?_
              refine g_iald X k_120 ln_120 dM_begins_141 ?_
              refine g_iconst X 1 dM_begins_142 (by decide) ?_
              refine g_iadd X dM_begins_143 ?_
              refine g_iast X k_103 ln_103 dM_begins_144 (fun s7 => ?_)
              exact gf_sub (hj145 s7) (by simp [lsub])
            · exact gf_sub (hj145 s5) (by simp [lsub])
          · exact gf_sub (hj145 s3) (by simp [lsub])
        · exact gf_sub (hj145 s3) (by simp [lsub])
  · intro j60 hj60
    refine g_cge X (tgt := 60) dM_begins_9 (by decide) ?_ ?_
    · exact gf_sub (hj60 s1) (by simp [lsub])
    · refine g_aload_n X dM_begins_12 rfl ?_
      refine g_getN X fl_M_7 fb_12_1 k_102 r_102_1 dM_begins_13 ?_
      refine g_iconst X 3 dM_begins_16 (by decide) ?_
      refine g_iald X k_103 ln_103 dM_begins_17 ?_
      refine g_zne X (tgt := 60) dM_begins_18 (by decide) ?_ ?_
      · refine g_aload_n X dM_begins_21 rfl ?_
        refine g_getN X fl_M_68 fb_12_37 k_102 r_102_37 dM_begins_22 ?_
        refine g_iload_n X dM_begins_25 rfl ?_
        refine g_iald X k_121 ln_121 dM_begins_26 ?_
        refine g_aload_n X dM_begins_27 rfl ?_
        refine g_getN X fl_M_7 fb_12_1 k_102 r_102_1 dM_begins_28 ?_
        refine g_iconst X 0 dM_begins_31 (by decide) ?_
        refine g_iald X k_103 ln_103 dM_begins_32 ?_
        refine gf_jn (fun j53 => ∀ (s8 : Sg), GF C evV 53 [some (.ref (C.w.ad 102)), some (.int u2)] [] s8 (j53 s8)) ?_ ?_
        · intro s8
          refine g_iload_n X dM_begins_53 rfl ?_
          refine g_iconst X 2 dM_begins_54 (by decide) ?_
          refine g_iadd X dM_begins_55 ?_
          refine g_istore_n X [some (.ref (C.w.ad 102)), some (.int (u2 + 2))] dM_begins_56 (by decide) (Nat.le_of_ble_eq_true rfl) rfl ?_
          refine g_goto X 2 dM_begins_57 (by decide) ?_
          exact gf_sub (hq2 (u2 + 2) s8) (by simp [lsub])
        · intro j53 hj53
          refine g_cne X (tgt := 53) dM_begins_33 (by decide) ?_ ?_
          · refine g_aload_n X dM_begins_36 rfl ?_
            refine g_getN X fl_M_7 fb_12_1 k_102 r_102_1 dM_begins_37 ?_
            refine g_iconst X 4 dM_begins_40 (by decide) ?_
            refine g_aload_n X dM_begins_41 rfl ?_
            refine g_getN X fl_M_68 fb_12_37 k_102 r_102_37 dM_begins_42 ?_
            refine g_iload_n X dM_begins_45 rfl ?_
            refine g_iconst X 1 dM_begins_46 (by decide) ?_
            refine g_iadd X dM_begins_47 ?_
            refine g_iald X k_121 ln_121 dM_begins_48 ?_
            refine g_bipush X 40 dM_begins_49 (by decide) ?_
            refine g_isub X dM_begins_51 ?_
            refine g_iast X k_103 ln_103 dM_begins_52 (fun s9 => ?_)
            exact gf_sub (hj53 s9) (by simp [lsub])
          · exact gf_sub (hj53 s1) (by simp [lsub])
      · exact gf_sub (hj60 s1) (by simp [lsub])
def yM_goesBy : MethodName := ⟨"LastWordHillModel", "goesBy", "()I"⟩
abbrev cM_goesBy : ByteArray := prog_14_method_78_code
theorem dM_goesBy_0 : decode cM_goesBy 0 = .ok (.aload_n 0, 1) := by decide +kernel
theorem dM_goesBy_1 : decode cM_goesBy 1 = .ok (.invokevirtual 380, 3) := by decide +kernel
theorem mm_M_begins : MMc yM_begins cM_begins 2 none 0 := ⟨hz_in 1854 (by decide +kernel) (by decide +kernel), hz_in 147 (by decide +kernel) (by decide +kernel), by decide +kernel, by decide⟩
theorem mv_M_begins : MMv yM_begins 12 := ⟨hz_in 1853 (by decide +kernel) (by decide +kernel), hz_in 95 (by decide +kernel) (by decide +kernel), _, _, rfl, by decide⟩
theorem ml_M_380 : Cond.methodLink "LastWordHillModel" 380 yM_begins ∈ hz_wt := hz_in 1851 (by decide +kernel) (by decide +kernel)
theorem dM_goesBy_4 : decode cM_goesBy 4 = .ok (.iconst 0, 1) := by decide +kernel
theorem dM_goesBy_5 : decode cM_goesBy 5 = .ok (.istore_n 1, 1) := by decide +kernel
theorem dM_goesBy_6 : decode cM_goesBy 6 = .ok (.iconst 0, 1) := by decide +kernel
theorem dM_goesBy_7 : decode cM_goesBy 7 = .ok (.istore_n 2, 1) := by decide +kernel
theorem dM_goesBy_8 : decode cM_goesBy 8 = .ok (.iload_n 2, 1) := by decide +kernel
theorem dM_goesBy_9 : decode cM_goesBy 9 = .ok (.aload_n 0, 1) := by decide +kernel
theorem dM_goesBy_10 : decode cM_goesBy 10 = .ok (.getfield 146, 3) := by decide +kernel
theorem dM_goesBy_13 : decode cM_goesBy 13 = .ok (.if_icmp .ge 61, 3) := by decide +kernel
theorem dM_goesBy_74 : decode cM_goesBy 74 = .ok (.aload_n 0, 1) := by decide +kernel
theorem dM_goesBy_75 : decode cM_goesBy 75 = .ok (.getfield 7, 3) := by decide +kernel
theorem dM_goesBy_78 : decode cM_goesBy 78 = .ok (.iconst 3, 1) := by decide +kernel
theorem dM_goesBy_79 : decode cM_goesBy 79 = .ok (.iaload, 1) := by decide +kernel
theorem dM_goesBy_80 : decode cM_goesBy 80 = .ok (.aload_n 0, 1) := by decide +kernel
theorem dM_goesBy_81 : decode cM_goesBy 81 = .ok (.invokevirtual 329, 3) := by decide +kernel
theorem dM_goesBy_84 : decode cM_goesBy 84 = .ok (.if_icmp .ne 7, 3) := by decide +kernel
theorem dM_goesBy_91 : decode cM_goesBy 91 = .ok (.aload_n 0, 1) := by decide +kernel
theorem dM_goesBy_92 : decode cM_goesBy 92 = .ok (.getfield 7, 3) := by decide +kernel
theorem dM_goesBy_95 : decode cM_goesBy 95 = .ok (.iconst 3, 1) := by decide +kernel
theorem dM_goesBy_96 : decode cM_goesBy 96 = .ok (.aload_n 0, 1) := by decide +kernel
theorem dM_goesBy_97 : decode cM_goesBy 97 = .ok (.getfield 7, 3) := by decide +kernel
theorem dM_goesBy_100 : decode cM_goesBy 100 = .ok (.iconst 3, 1) := by decide +kernel
theorem dM_goesBy_101 : decode cM_goesBy 101 = .ok (.iaload, 1) := by decide +kernel
theorem dM_goesBy_102 : decode cM_goesBy 102 = .ok (.iconst 1, 1) := by decide +kernel
theorem dM_goesBy_103 : decode cM_goesBy 103 = .ok (.iadd, 1) := by decide +kernel
theorem dM_goesBy_104 : decode cM_goesBy 104 = .ok (.iastore, 1) := by decide +kernel
theorem dM_goesBy_105 : decode cM_goesBy 105 = .ok (.aload_n 0, 1) := by decide +kernel
theorem dM_goesBy_106 : decode cM_goesBy 106 = .ok (.getfield 7, 3) := by decide +kernel
theorem dM_goesBy_109 : decode cM_goesBy 109 = .ok (.iconst 3, 1) := by decide +kernel
theorem dM_goesBy_110 : decode cM_goesBy 110 = .ok (.iaload, 1) := by decide +kernel
theorem dM_goesBy_111 : decode cM_goesBy 111 = .ok (.bipush 60, 2) := by decide +kernel
theorem dM_goesBy_113 : decode cM_goesBy 113 = .ok (.if_icmp .ne 40, 3) := by decide +kernel
theorem dM_goesBy_153 : decode cM_goesBy 153 = .ok (.iload_n 1, 1) := by decide +kernel
theorem dM_goesBy_154 : decode cM_goesBy 154 = .ok (.ireturn, 1) := by decide +kernel
theorem dM_goesBy_116 : decode cM_goesBy 116 = .ok (.aload_n 0, 1) := by decide +kernel
theorem dM_goesBy_117 : decode cM_goesBy 117 = .ok (.getfield 7, 3) := by decide +kernel
theorem dM_goesBy_120 : decode cM_goesBy 120 = .ok (.iconst 3, 1) := by decide +kernel
theorem dM_goesBy_121 : decode cM_goesBy 121 = .ok (.iconst 0, 1) := by decide +kernel
theorem dM_goesBy_122 : decode cM_goesBy 122 = .ok (.iastore, 1) := by decide +kernel
theorem dM_goesBy_123 : decode cM_goesBy 123 = .ok (.aload_n 0, 1) := by decide +kernel
theorem dM_goesBy_124 : decode cM_goesBy 124 = .ok (.getfield 7, 3) := by decide +kernel
theorem dM_goesBy_127 : decode cM_goesBy 127 = .ok (.bipush 6, 2) := by decide +kernel
theorem dM_goesBy_129 : decode cM_goesBy 129 = .ok (.iconst 0, 1) := by decide +kernel
theorem dM_goesBy_130 : decode cM_goesBy 130 = .ok (.iastore, 1) := by decide +kernel
theorem dM_goesBy_131 : decode cM_goesBy 131 = .ok (.aload_n 0, 1) := by decide +kernel
theorem dM_goesBy_132 : decode cM_goesBy 132 = .ok (.getfield 7, 3) := by decide +kernel
theorem dM_goesBy_135 : decode cM_goesBy 135 = .ok (.bipush 7, 2) := by decide +kernel
theorem dM_goesBy_137 : decode cM_goesBy 137 = .ok (.iconst 0, 1) := by decide +kernel
theorem dM_goesBy_138 : decode cM_goesBy 138 = .ok (.iastore, 1) := by decide +kernel
theorem dM_goesBy_139 : decode cM_goesBy 139 = .ok (.aload_n 0, 1) := by decide +kernel
theorem dM_goesBy_140 : decode cM_goesBy 140 = .ok (.getfield 7, 3) := by decide +kernel
theorem dM_goesBy_143 : decode cM_goesBy 143 = .ok (.iconst 0, 1) := by decide +kernel
theorem dM_goesBy_144 : decode cM_goesBy 144 = .ok (.aload_n 0, 1) := by decide +kernel
theorem dM_goesBy_145 : decode cM_goesBy 145 = .ok (.getfield 7, 3) := by decide +kernel
theorem dM_goesBy_148 : decode cM_goesBy 148 = .ok (.iconst 0, 1) := by decide +kernel
theorem dM_goesBy_149 : decode cM_goesBy 149 = .ok (.iaload, 1) := by decide +kernel
theorem dM_goesBy_150 : decode cM_goesBy 150 = .ok (.iconst 1, 1) := by decide +kernel
theorem dM_goesBy_151 : decode cM_goesBy 151 = .ok (.iadd, 1) := by decide +kernel
theorem dM_goesBy_152 : decode cM_goesBy 152 = .ok (.iastore, 1) := by decide +kernel
theorem dM_goesBy_87 : decode cM_goesBy 87 = .ok (.aload_n 0, 1) := by decide +kernel
theorem dM_goesBy_88 : decode cM_goesBy 88 = .ok (.invokevirtual 389, 3) := by decide +kernel
theorem mm_M_sunGoesDown : MMc yM_sunGoesDown cM_sunGoesDown 2 none 0 := ⟨hz_in 1920 (by decide +kernel) (by decide +kernel), hz_in 147 (by decide +kernel) (by decide +kernel), by decide +kernel, by decide⟩
theorem mv_M_sunGoesDown : MMv yM_sunGoesDown 12 := ⟨hz_in 1919 (by decide +kernel) (by decide +kernel), hz_in 111 (by decide +kernel) (by decide +kernel), _, _, rfl, by decide⟩
theorem ml_M_389 : Cond.methodLink "LastWordHillModel" 389 yM_sunGoesDown ∈ hz_wt := hz_in 1917 (by decide +kernel) (by decide +kernel)
theorem dM_goesBy_16 : decode cM_goesBy 16 = .ok (.aload_n 0, 1) := by decide +kernel
theorem dM_goesBy_17 : decode cM_goesBy 17 = .ok (.getfield 7, 3) := by decide +kernel
theorem dM_goesBy_20 : decode cM_goesBy 20 = .ok (.iconst 3, 1) := by decide +kernel
theorem dM_goesBy_21 : decode cM_goesBy 21 = .ok (.iaload, 1) := by decide +kernel
theorem dM_goesBy_22 : decode cM_goesBy 22 = .ok (.aload_n 0, 1) := by decide +kernel
theorem dM_goesBy_23 : decode cM_goesBy 23 = .ok (.invokevirtual 329, 3) := by decide +kernel
theorem dM_goesBy_26 : decode cM_goesBy 26 = .ok (.if_icmp .ge 48, 3) := by decide +kernel
theorem dM_goesBy_29 : decode cM_goesBy 29 = .ok (.aload_n 0, 1) := by decide +kernel
theorem dM_goesBy_30 : decode cM_goesBy 30 = .ok (.iload_n 2, 1) := by decide +kernel
theorem dM_goesBy_31 : decode cM_goesBy 31 = .ok (.invokevirtual 349, 3) := by decide +kernel
theorem dM_goesBy_34 : decode cM_goesBy 34 = .ok (.ifCond .ne 6, 3) := by decide +kernel
theorem dM_goesBy_68 : decode cM_goesBy 68 = .ok (.iinc 2 1, 3) := by decide +kernel
theorem dM_goesBy_71 : decode cM_goesBy 71 = .ok (.goto (-63), 3) := by decide +kernel
theorem dM_goesBy_40 : decode cM_goesBy 40 = .ok (.aload_n 0, 1) := by decide +kernel
theorem dM_goesBy_41 : decode cM_goesBy 41 = .ok (.iload_n 2, 1) := by decide +kernel
theorem dM_goesBy_42 : decode cM_goesBy 42 = .ok (.invokevirtual 320, 3) := by decide +kernel
theorem dM_goesBy_45 : decode cM_goesBy 45 = .ok (.ifCond .ne 11, 3) := by decide +kernel
theorem dM_goesBy_56 : decode cM_goesBy 56 = .ok (.aload_n 0, 1) := by decide +kernel
theorem dM_goesBy_57 : decode cM_goesBy 57 = .ok (.iload_n 2, 1) := by decide +kernel
theorem dM_goesBy_58 : decode cM_goesBy 58 = .ok (.invokevirtual 386, 3) := by decide +kernel
theorem mm_M_doesSay : MMc yM_doesSay cM_doesSay 5 (some .boolean) 1 := ⟨hz_in 1906 (by decide +kernel) (by decide +kernel), hz_in 147 (by decide +kernel) (by decide +kernel), by decide +kernel, by decide⟩
theorem mv_M_doesSay : MMv yM_doesSay 12 := ⟨hz_in 1905 (by decide +kernel) (by decide +kernel), hz_in 108 (by decide +kernel) (by decide +kernel), _, _, rfl, by decide⟩
theorem ml_M_386 : Cond.methodLink "LastWordHillModel" 386 yM_doesSay ∈ hz_wt := hz_in 1903 (by decide +kernel) (by decide +kernel)
theorem dM_goesBy_61 : decode cM_goesBy 61 = .ok (.ifCond .eq 7, 3) := by decide +kernel
theorem dM_goesBy_64 : decode cM_goesBy 64 = .ok (.iload_n 1, 1) := by decide +kernel
theorem dM_goesBy_65 : decode cM_goesBy 65 = .ok (.iconst 1, 1) := by decide +kernel
theorem dM_goesBy_66 : decode cM_goesBy 66 = .ok (.iadd, 1) := by decide +kernel
theorem dM_goesBy_67 : decode cM_goesBy 67 = .ok (.istore_n 1, 1) := by decide +kernel
theorem dM_goesBy_48 : decode cM_goesBy 48 = .ok (.aload_n 0, 1) := by decide +kernel
theorem dM_goesBy_49 : decode cM_goesBy 49 = .ok (.iload_n 2, 1) := by decide +kernel
theorem dM_goesBy_50 : decode cM_goesBy 50 = .ok (.invokevirtual 383, 3) := by decide +kernel
theorem mm_M_climbsOn : MMc yM_climbsOn cM_climbsOn 4 none 1 := ⟨hz_in 1858 (by decide +kernel) (by decide +kernel), hz_in 147 (by decide +kernel) (by decide +kernel), by decide +kernel, by decide⟩
theorem mv_M_climbsOn : MMv yM_climbsOn 12 := ⟨hz_in 1857 (by decide +kernel) (by decide +kernel), hz_in 96 (by decide +kernel) (by decide +kernel), _, _, rfl, by decide⟩
theorem ml_M_383 : Cond.methodLink "LastWordHillModel" 383 yM_climbsOn ∈ hz_wt := hz_in 1855 (by decide +kernel) (by decide +kernel)
theorem dM_goesBy_53 : decode cM_goesBy 53 = .ok (.goto 15, 3) := by decide +kernel
theorem dM_goesBy_37 : decode cM_goesBy 37 = .ok (.goto 31, 3) := by decide +kernel
def fM_goesBy (s0 : Sg) : Option (Int32 × Sg) := bv (fM_begins s0) fun s1 => lp FU (fun q8 (u8 : Int32 × Int32) (s2 : Sg) => bnd (fun (s3 : Sg) => gd 3 50 (bi (fM_sunset s3) fun r5 s4 => bnd (fun (s6 : Sg) => gd 3 50 (gd 3 50 (bnd (pt s6 103 (ix 3) ((s6 103 (ix 3)) + 1)) fun s7 => gd 3 50 (if (s7 103 (ix 3)) = 60 then (gd 3 50 (bnd (pt s7 103 (ix 3) 0) fun s8 => gd 6 50 (bnd (pt s8 103 (ix 6) 0) fun s9 => gd 7 50 (bnd (pt s9 103 (ix 7) 0) fun s10 => gd 0 50 (gd 0 50 (bnd (pt s10 103 (ix 0) ((s10 103 (ix 0)) + 1)) fun s11 => some (u8.1, s11))))))) else (some (u8.1, s7)))))) fun j91 => if (s3 103 (ix 3)) = r5 then (bv (fM_sunGoesDown s4) fun s12 => j91 s12) else (j91 s4))) fun j74 => if (s2 102 6) ≤ u8.2 then (j74 s2) else (gd 3 50 (bi (fM_sunset s2) fun r14 s13 => if r14 ≤ (s2 103 (ix 3)) then (j74 s13) else (bi (fM_isGoing u8.2 s13) fun r16 s15 => bnd (fun (a68_1 : Int32) (s17 : Sg) => q8 (a68_1, (u8.2 + 1)) s17) fun j68 => if r16 = 0 then (j68 u8.1 s15) else (bi (fM_isUp u8.2 s15) fun r19 s18 => if r19 = 0 then (bv (fM_climbsOn u8.2 s18) fun s22 => j68 u8.1 s22) else (bi (fM_doesSay u8.2 s18) fun r21 s20 => if r21 = 0 then (j68 u8.1 s20) else (j68 (u8.1 + 1) s20))))))) (0, 0) s1
set_option maxHeartbeats 4000000 in
set_option maxRecDepth 100000 in
theorem okM_goesBy (s0 : Sg) : ∀ (l : Launch) (w : WC), Ok l w yM_goesBy cM_goesBy 3 (some .int) 7 evI [.ref (w.ad 102)] s0 (fM_goesBy s0) := by
  refine ok_in (ev := fun _ => evI) (av := fun w => [.ref (w.ad 102)]) "LastWordHillModel" rfl (by decide +kernel) (fun _ => rfl) (fun _ => Nat.le_of_ble_eq_true rfl) ?_
  intro C X E
  show GF C evI 0 [some (.ref (C.w.ad 102)), none, none] [] s0 (fM_goesBy s0)
  unfold fM_goesBy
  refine g_aload_n X dM_goesBy_0 rfl ?_
  refine g_virtV X [] [] k_102 mm_M_begins mv_M_begins ml_M_380 (okM_begins s0 C.l C.w) rfl (by decide) rfl (Nat.le_of_ble_eq_true rfl) dM_goesBy_1 (fun s1 => ?_)
  refine g_iconst X 0 dM_goesBy_4 (by decide) ?_
  refine g_istore_n X [some (.ref (C.w.ad 102)), some (.int 0), none] dM_goesBy_5 (by decide) (Nat.le_of_ble_eq_true rfl) rfl ?_
  refine g_iconst X 0 dM_goesBy_6 (by decide) ?_
  refine g_istore_n X [some (.ref (C.w.ad 102)), some (.int 0), some (.int 0)] dM_goesBy_7 (by decide) (Nat.le_of_ble_eq_true rfl) rfl ?_
  refine gf_sub (L' := [some (.ref (C.w.ad 102)), some (.int 0), some (.int 0)]) ?_ (by simp [lsub])
  refine gf_lp (Lf := fun (u8 : Int32 × Int32) => [some (.ref (C.w.ad 102)), some (.int u8.1), some (.int u8.2)]) (fun q8 hq8 u8 s2 => ?_) FU (0, 0) s1
  refine g_iload_n X dM_goesBy_8 rfl ?_
  refine g_aload_n X dM_goesBy_9 rfl ?_
  refine g_getI X fl_M_146 fb_12_6 k_102 dM_goesBy_10 ?_
  refine gf_jn (fun j74 => ∀ (s3 : Sg), GF C evI 74 [some (.ref (C.w.ad 102)), some (.int u8.1), none] [] s3 (j74 s3)) ?_ ?_
  · intro s3
    refine g_aload_n X dM_goesBy_74 rfl ?_
    refine g_getN X fl_M_7 fb_12_1 k_102 r_102_1 dM_goesBy_75 ?_
    refine g_iconst X 3 dM_goesBy_78 (by decide) ?_
    refine g_iald X k_103 ln_103 dM_goesBy_79 ?_
    refine g_aload_n X dM_goesBy_80 rfl ?_
    refine g_virtI X [] [.int (s3 103 (ix 3))] k_102 mm_M_sunset mv_M_sunset ml_M_329 (okM_sunset s3 C.l C.w) rfl (by decide) rfl (Nat.le_of_ble_eq_true rfl) dM_goesBy_81 (fun r5 s4 => ?_)
    refine gf_jn (fun j91 => ∀ (s6 : Sg), GF C evI 91 [some (.ref (C.w.ad 102)), some (.int u8.1), none] [] s6 (j91 s6)) ?_ ?_
    · intro s6
      refine g_aload_n X dM_goesBy_91 rfl ?_
      refine g_getN X fl_M_7 fb_12_1 k_102 r_102_1 dM_goesBy_92 ?_
      refine g_iconst X 3 dM_goesBy_95 (by decide) ?_
      refine g_aload_n X dM_goesBy_96 rfl ?_
      refine g_getN X fl_M_7 fb_12_1 k_102 r_102_1 dM_goesBy_97 ?_
      refine g_iconst X 3 dM_goesBy_100 (by decide) ?_
      refine g_iald X k_103 ln_103 dM_goesBy_101 ?_
      refine g_iconst X 1 dM_goesBy_102 (by decide) ?_
      refine g_iadd X dM_goesBy_103 ?_
      refine g_iast X k_103 ln_103 dM_goesBy_104 (fun s7 => ?_)
      refine g_aload_n X dM_goesBy_105 rfl ?_
      refine g_getN X fl_M_7 fb_12_1 k_102 r_102_1 dM_goesBy_106 ?_
      refine g_iconst X 3 dM_goesBy_109 (by decide) ?_
      refine g_iald X k_103 ln_103 dM_goesBy_110 ?_
      refine g_bipush X 60 dM_goesBy_111 (by decide) ?_
      refine g_cne X (tgt := 153) dM_goesBy_113 (by decide) ?_ ?_
      · refine g_aload_n X dM_goesBy_116 rfl ?_
        refine g_getN X fl_M_7 fb_12_1 k_102 r_102_1 dM_goesBy_117 ?_
        refine g_iconst X 3 dM_goesBy_120 (by decide) ?_
        refine g_iconst X 0 dM_goesBy_121 (by decide) ?_
        refine g_iast X k_103 ln_103 dM_goesBy_122 (fun s8 => ?_)
        refine g_aload_n X dM_goesBy_123 rfl ?_
        refine g_getN X fl_M_7 fb_12_1 k_102 r_102_1 dM_goesBy_124 ?_
        refine g_bipush X 6 dM_goesBy_127 (by decide) ?_
        refine g_iconst X 0 dM_goesBy_129 (by decide) ?_
        refine g_iast X k_103 ln_103 dM_goesBy_130 (fun s9 => ?_)
        refine g_aload_n X dM_goesBy_131 rfl ?_
        refine g_getN X fl_M_7 fb_12_1 k_102 r_102_1 dM_goesBy_132 ?_
        refine g_bipush X 7 dM_goesBy_135 (by decide) ?_
        refine g_iconst X 0 dM_goesBy_137 (by decide) ?_
        refine g_iast X k_103 ln_103 dM_goesBy_138 (fun s10 => ?_)
        refine g_aload_n X dM_goesBy_139 rfl ?_
        refine g_getN X fl_M_7 fb_12_1 k_102 r_102_1 dM_goesBy_140 ?_
        refine g_iconst X 0 dM_goesBy_143 (by decide) ?_
        refine g_aload_n X dM_goesBy_144 rfl ?_
        refine g_getN X fl_M_7 fb_12_1 k_102 r_102_1 dM_goesBy_145 ?_
        refine g_iconst X 0 dM_goesBy_148 (by decide) ?_
        refine g_iald X k_103 ln_103 dM_goesBy_149 ?_
        refine g_iconst X 1 dM_goesBy_150 (by decide) ?_
        refine g_iadd X dM_goesBy_151 ?_
        refine g_iast X k_103 ln_103 dM_goesBy_152 (fun s11 => ?_)
        refine g_iload_n X dM_goesBy_153 rfl ?_
        exact g_iret X E dM_goesBy_154
      · refine g_iload_n X dM_goesBy_153 rfl ?_
        exact g_iret X E dM_goesBy_154
    · intro j91 hj91
      refine g_cne X (tgt := 91) dM_goesBy_84 (by decide) ?_ ?_
      · refine g_aload_n X dM_goesBy_87 rfl ?_
        refine g_virtV X [] [] k_102 mm_M_sunGoesDown mv_M_sunGoesDown ml_M_389 (okM_sunGoesDown s4 C.l C.w) rfl (by decide) rfl (Nat.le_of_ble_eq_true rfl) dM_goesBy_88 (fun s12 => ?_)
        exact gf_sub (hj91 s12) (by simp [lsub])
      · exact gf_sub (hj91 s4) (by simp [lsub])
  · intro j74 hj74
    refine g_cge X (tgt := 74) dM_goesBy_13 (by decide) ?_ ?_
    · exact gf_sub (hj74 s2) (by simp [lsub])
    · refine g_aload_n X dM_goesBy_16 rfl ?_
      refine g_getN X fl_M_7 fb_12_1 k_102 r_102_1 dM_goesBy_17 ?_
      refine g_iconst X 3 dM_goesBy_20 (by decide) ?_
      refine g_iald X k_103 ln_103 dM_goesBy_21 ?_
      refine g_aload_n X dM_goesBy_22 rfl ?_
      refine g_virtI X [] [.int (s2 103 (ix 3))] k_102 mm_M_sunset mv_M_sunset ml_M_329 (okM_sunset s2 C.l C.w) rfl (by decide) rfl (Nat.le_of_ble_eq_true rfl) dM_goesBy_23 (fun r14 s13 => ?_)
      refine g_cge X (tgt := 74) dM_goesBy_26 (by decide) ?_ ?_
      · exact gf_sub (hj74 s13) (by simp [lsub])
      · refine g_aload_n X dM_goesBy_29 rfl ?_
        refine g_iload_n X dM_goesBy_30 rfl ?_
        refine g_virtI X [.int u8.2] [] k_102 mm_M_isGoing mv_M_isGoing ml_M_349 (okM_isGoing u8.2 s13 C.l C.w) rfl (by decide) rfl (Nat.le_of_ble_eq_true rfl) dM_goesBy_31 (fun r16 s15 => ?_)
        refine gf_jn (fun j68 => ∀ (a68_1 : Int32) (s17 : Sg), GF C evI 68 [some (.ref (C.w.ad 102)), some (.int a68_1), some (.int u8.2)] [] s17 (j68 a68_1 s17)) ?_ ?_
        · intro a68_1 s17
          refine g_iinc X (u8.2 + 1) [some (.ref (C.w.ad 102)), some (.int a68_1), some (.int (u8.2 + 1))] dM_goesBy_68 rfl rfl (by decide) rfl ?_
          refine g_goto X 8 dM_goesBy_71 (by decide) ?_
          exact gf_sub (hq8 (a68_1, (u8.2 + 1)) s17) (by simp [lsub])
        · intro j68 hj68
          refine g_zne X (tgt := 40) dM_goesBy_34 (by decide) ?_ ?_
          · refine g_goto X 68 dM_goesBy_37 (by decide) ?_
            exact gf_sub (hj68 u8.1 s15) (by simp [lsub])
          · refine g_aload_n X dM_goesBy_40 rfl ?_
            refine g_iload_n X dM_goesBy_41 rfl ?_
            refine g_virtI X [.int u8.2] [] k_102 mm_M_isUp mv_M_isUp ml_M_320 (okM_isUp u8.2 s15 C.l C.w) rfl (by decide) rfl (Nat.le_of_ble_eq_true rfl) dM_goesBy_42 (fun r19 s18 => ?_)
            refine g_zne X (tgt := 56) dM_goesBy_45 (by decide) ?_ ?_
            · refine g_aload_n X dM_goesBy_48 rfl ?_
              refine g_iload_n X dM_goesBy_49 rfl ?_
              refine g_virtV X [.int u8.2] [] k_102 mm_M_climbsOn mv_M_climbsOn ml_M_383 (okM_climbsOn u8.2 s18 C.l C.w) rfl (by decide) rfl (Nat.le_of_ble_eq_true rfl) dM_goesBy_50 (fun s22 => ?_)
              refine g_goto X 68 dM_goesBy_53 (by decide) ?_
              exact gf_sub (hj68 u8.1 s22) (by simp [lsub])
            · refine g_aload_n X dM_goesBy_56 rfl ?_
              refine g_iload_n X dM_goesBy_57 rfl ?_
              refine g_virtI X [.int u8.2] [] k_102 mm_M_doesSay mv_M_doesSay ml_M_386 (okM_doesSay u8.2 s18 C.l C.w) rfl (by decide) rfl (Nat.le_of_ble_eq_true rfl) dM_goesBy_58 (fun r21 s20 => ?_)
              refine g_zeq X (tgt := 68) dM_goesBy_61 (by decide) ?_ ?_
              · exact gf_sub (hj68 u8.1 s20) (by simp [lsub])
              · refine g_iload_n X dM_goesBy_64 rfl ?_
                refine g_iconst X 1 dM_goesBy_65 (by decide) ?_
                refine g_iadd X dM_goesBy_66 ?_
                refine g_istore_n X [some (.ref (C.w.ad 102)), some (.int (u8.1 + 1)), some (.int u8.2)] dM_goesBy_67 (by decide) (Nat.le_of_ble_eq_true rfl) rfl ?_
                exact gf_sub (hj68 (u8.1 + 1) s20) (by simp [lsub])
def yM_minutes : MethodName := ⟨"LastWordHillModel", "minutes", "(I)I"⟩
abbrev cM_minutes : ByteArray := prog_14_method_79_code
theorem dM_minutes_0 : decode cM_minutes 0 = .ok (.aload_n 0, 1) := by decide +kernel
theorem dM_minutes_1 : decode cM_minutes 1 = .ok (.iconst 0, 1) := by decide +kernel
theorem dM_minutes_2 : decode cM_minutes 2 = .ok (.putfield 134, 3) := by decide +kernel
theorem dM_minutes_5 : decode cM_minutes 5 = .ok (.aload_n 0, 1) := by decide +kernel
theorem dM_minutes_6 : decode cM_minutes 6 = .ok (.iload_n 1, 1) := by decide +kernel
theorem dM_minutes_7 : decode cM_minutes 7 = .ok (.iconst 1, 1) := by decide +kernel
theorem dM_minutes_8 : decode cM_minutes 8 = .ok (.bipush 60, 2) := by decide +kernel
theorem dM_minutes_10 : decode cM_minutes 10 = .ok (.invokevirtual 153, 3) := by decide +kernel
theorem dM_minutes_13 : decode cM_minutes 13 = .ok (.ifCond .eq 17, 3) := by decide +kernel
theorem dM_minutes_30 : decode cM_minutes 30 = .ok (.iconst (-1), 1) := by decide +kernel
theorem dM_minutes_31 : decode cM_minutes 31 = .ok (.ireturn, 1) := by decide +kernel
theorem dM_minutes_16 : decode cM_minutes 16 = .ok (.aload_n 0, 1) := by decide +kernel
theorem dM_minutes_17 : decode cM_minutes 17 = .ok (.getfield 7, 3) := by decide +kernel
theorem dM_minutes_20 : decode cM_minutes 20 = .ok (.iconst 0, 1) := by decide +kernel
theorem dM_minutes_21 : decode cM_minutes 21 = .ok (.iaload, 1) := by decide +kernel
theorem dM_minutes_22 : decode cM_minutes 22 = .ok (.iconst 1, 1) := by decide +kernel
theorem dM_minutes_23 : decode cM_minutes 23 = .ok (.iadd, 1) := by decide +kernel
theorem dM_minutes_24 : decode cM_minutes 24 = .ok (.sipush 9998, 3) := by decide +kernel
theorem dM_minutes_27 : decode cM_minutes 27 = .ok (.if_icmp .le 5, 3) := by decide +kernel
theorem dM_minutes_32 : decode cM_minutes 32 = .ok (.iconst 0, 1) := by decide +kernel
theorem dM_minutes_33 : decode cM_minutes 33 = .ok (.istore_n 2, 1) := by decide +kernel
theorem dM_minutes_34 : decode cM_minutes 34 = .ok (.iconst 0, 1) := by decide +kernel
theorem dM_minutes_35 : decode cM_minutes 35 = .ok (.istore_n 3, 1) := by decide +kernel
theorem dM_minutes_36 : decode cM_minutes 36 = .ok (.iload_n 3, 1) := by decide +kernel
theorem dM_minutes_37 : decode cM_minutes 37 = .ok (.iload_n 1, 1) := by decide +kernel
theorem dM_minutes_38 : decode cM_minutes 38 = .ok (.if_icmp .ge 20, 3) := by decide +kernel
theorem dM_minutes_58 : decode cM_minutes 58 = .ok (.iload_n 2, 1) := by decide +kernel
theorem dM_minutes_59 : decode cM_minutes 59 = .ok (.ireturn, 1) := by decide +kernel
theorem dM_minutes_41 : decode cM_minutes 41 = .ok (.aload_n 0, 1) := by decide +kernel
theorem dM_minutes_42 : decode cM_minutes 42 = .ok (.invokevirtual 355, 3) := by decide +kernel
theorem dM_minutes_45 : decode cM_minutes 45 = .ok (.iload_n 2, 1) := by decide +kernel
theorem dM_minutes_46 : decode cM_minutes 46 = .ok (.aload_n 0, 1) := by decide +kernel
theorem dM_minutes_47 : decode cM_minutes 47 = .ok (.invokevirtual 392, 3) := by decide +kernel
theorem mm_M_goesBy : MMc yM_goesBy cM_goesBy 3 (some .int) 0 := ⟨hz_in 1850 (by decide +kernel) (by decide +kernel), hz_in 147 (by decide +kernel) (by decide +kernel), by decide +kernel, by decide⟩
theorem mv_M_goesBy : MMv yM_goesBy 12 := ⟨hz_in 1849 (by decide +kernel) (by decide +kernel), hz_in 94 (by decide +kernel) (by decide +kernel), _, _, rfl, by decide⟩
theorem ml_M_392 : Cond.methodLink "LastWordHillModel" 392 yM_goesBy ∈ hz_wt := hz_in 1847 (by decide +kernel) (by decide +kernel)
theorem dM_minutes_50 : decode cM_minutes 50 = .ok (.iadd, 1) := by decide +kernel
theorem dM_minutes_51 : decode cM_minutes 51 = .ok (.istore_n 2, 1) := by decide +kernel
theorem dM_minutes_52 : decode cM_minutes 52 = .ok (.iinc 3 1, 3) := by decide +kernel
theorem dM_minutes_55 : decode cM_minutes 55 = .ok (.goto (-19), 3) := by decide +kernel
def fM_minutes (v1 : Int32) (s0 : Sg) : Option (Int32 × Sg) := bnd (pt s0 102 0 0) fun s1 => bi (fM_isIn v1 1 60 s1) fun r3 s2 => if r3 = 0 then (some ((-1), s2)) else (gd 0 50 (if ((s2 103 (ix 0)) + 1) ≤ 9998 then (lp FU (fun q36 (u36 : Int32 × Int32) (s4 : Sg) => if v1 ≤ u36.2 then (some (u36.1, s4)) else (bv (fM_keepsAhead s4) fun s5 => bi (fM_goesBy s5) fun r7 s6 => q36 ((u36.1 + r7), (u36.2 + 1)) s6)) (0, 0) s2) else (some ((-1), s2))))
set_option maxHeartbeats 4000000 in
set_option maxRecDepth 100000 in
theorem okM_minutes (v1 : Int32) (s0 : Sg) : ∀ (l : Launch) (w : WC), Ok l w yM_minutes cM_minutes 4 (some .int) 8 evI [.ref (w.ad 102), .int v1] s0 (fM_minutes v1 s0) := by
  refine ok_in (ev := fun _ => evI) (av := fun w => [.ref (w.ad 102), .int v1]) "LastWordHillModel" rfl (by decide +kernel) (fun _ => rfl) (fun _ => Nat.le_of_ble_eq_true rfl) ?_
  intro C X E
  show GF C evI 0 [some (.ref (C.w.ad 102)), some (.int v1), none, none] [] s0 (fM_minutes v1 s0)
  unfold fM_minutes
  refine g_aload_n X dM_minutes_0 rfl ?_
  refine g_iconst X 0 dM_minutes_1 (by decide) ?_
  refine g_putI X fl_M_134 fb_12_0 fp_12_0 k_102 dM_minutes_2 (fun s1 => ?_)
  refine g_aload_n X dM_minutes_5 rfl ?_
  refine g_iload_n X dM_minutes_6 rfl ?_
  refine g_iconst X 1 dM_minutes_7 (by decide) ?_
  refine g_bipush X 60 dM_minutes_8 (by decide) ?_
  refine g_virtI X [.int v1, .int 1, .int 60] [] k_102 mm_M_isIn mv_M_isIn ml_M_153 (okM_isIn v1 1 60 s1 C.l C.w) rfl (by decide) rfl (Nat.le_of_ble_eq_true rfl) dM_minutes_10 (fun r3 s2 => ?_)
  refine g_zeq X (tgt := 30) dM_minutes_13 (by decide) ?_ ?_
  · refine g_iconst X (-1) dM_minutes_30 (by decide) ?_
    exact g_iret X E dM_minutes_31
  · refine g_aload_n X dM_minutes_16 rfl ?_
    refine g_getN X fl_M_7 fb_12_1 k_102 r_102_1 dM_minutes_17 ?_
    refine g_iconst X 0 dM_minutes_20 (by decide) ?_
    refine g_iald X k_103 ln_103 dM_minutes_21 ?_
    refine g_iconst X 1 dM_minutes_22 (by decide) ?_
    refine g_iadd X dM_minutes_23 ?_
    refine g_sipush X 9998 dM_minutes_24 (by decide) ?_
    refine g_cle X (tgt := 32) dM_minutes_27 (by decide) ?_ ?_
    · refine g_iconst X 0 dM_minutes_32 (by decide) ?_
      refine g_istore_n X [some (.ref (C.w.ad 102)), some (.int v1), some (.int 0), none] dM_minutes_33 (by decide) (Nat.le_of_ble_eq_true rfl) rfl ?_
      refine g_iconst X 0 dM_minutes_34 (by decide) ?_
      refine g_istore_n X [some (.ref (C.w.ad 102)), some (.int v1), some (.int 0), some (.int 0)] dM_minutes_35 (by decide) (Nat.le_of_ble_eq_true rfl) rfl ?_
      refine gf_sub (L' := [some (.ref (C.w.ad 102)), some (.int v1), some (.int 0), some (.int 0)]) ?_ (by simp [lsub])
      refine gf_lp (Lf := fun (u36 : Int32 × Int32) => [some (.ref (C.w.ad 102)), some (.int v1), some (.int u36.1), some (.int u36.2)]) (fun q36 hq36 u36 s4 => ?_) FU (0, 0) s2
      refine g_iload_n X dM_minutes_36 rfl ?_
      refine g_iload_n X dM_minutes_37 rfl ?_
      refine g_cge X (tgt := 58) dM_minutes_38 (by decide) ?_ ?_
      · refine g_iload_n X dM_minutes_58 rfl ?_
        exact g_iret X E dM_minutes_59
      · refine g_aload_n X dM_minutes_41 rfl ?_
        refine g_virtV X [] [] k_102 mm_M_keepsAhead mv_M_keepsAhead ml_M_355 (okM_keepsAhead s4 C.l C.w) rfl (by decide) rfl (Nat.le_of_ble_eq_true rfl) dM_minutes_42 (fun s5 => ?_)
        refine g_iload_n X dM_minutes_45 rfl ?_
        refine g_aload_n X dM_minutes_46 rfl ?_
        refine g_virtI X [] [.int u36.1] k_102 mm_M_goesBy mv_M_goesBy ml_M_392 (okM_goesBy s5 C.l C.w) rfl (by decide) rfl (Nat.le_of_ble_eq_true rfl) dM_minutes_47 (fun r7 s6 => ?_)
        refine g_iadd X dM_minutes_50 ?_
        refine g_istore_n X [some (.ref (C.w.ad 102)), some (.int v1), some (.int (u36.1 + r7)), some (.int u36.2)] dM_minutes_51 (by decide) (Nat.le_of_ble_eq_true rfl) rfl ?_
        refine g_iinc X (u36.2 + 1) [some (.ref (C.w.ad 102)), some (.int v1), some (.int (u36.1 + r7)), some (.int (u36.2 + 1))] dM_minutes_52 rfl rfl (by decide) rfl ?_
        refine g_goto X 36 dM_minutes_55 (by decide) ?_
        exact gf_sub (hq36 ((u36.1 + r7), (u36.2 + 1)) s6) (by simp [lsub])
    · refine g_iconst X (-1) dM_minutes_30 (by decide) ?_
      exact g_iret X E dM_minutes_31
def yM_of : MethodName := ⟨"LastWordHillModel", "of", "(II)I"⟩
abbrev cM_of : ByteArray := prog_14_method_80_code
theorem dM_of_0 : decode cM_of 0 = .ok (.aload_n 0, 1) := by decide +kernel
theorem dM_of_1 : decode cM_of 1 = .ok (.iconst 0, 1) := by decide +kernel
theorem dM_of_2 : decode cM_of 2 = .ok (.putfield 134, 3) := by decide +kernel
theorem dM_of_5 : decode cM_of 5 = .ok (.aload_n 0, 1) := by decide +kernel
theorem dM_of_6 : decode cM_of 6 = .ok (.iload_n 1, 1) := by decide +kernel
theorem dM_of_7 : decode cM_of 7 = .ok (.invokevirtual 157, 3) := by decide +kernel
theorem dM_of_10 : decode cM_of 10 = .ok (.ifCond .ne 6, 3) := by decide +kernel
theorem dM_of_16 : decode cM_of 16 = .ok (.iload_n 2, 1) := by decide +kernel
theorem dM_of_17 : decode cM_of 17 = .ok (.ifCond .ne 10, 3) := by decide +kernel
theorem dM_of_27 : decode cM_of 27 = .ok (.iload_n 2, 1) := by decide +kernel
theorem dM_of_28 : decode cM_of 28 = .ok (.iconst 1, 1) := by decide +kernel
theorem dM_of_29 : decode cM_of 29 = .ok (.if_icmp .ne 10, 3) := by decide +kernel
theorem dM_of_39 : decode cM_of 39 = .ok (.iload_n 2, 1) := by decide +kernel
theorem dM_of_40 : decode cM_of 40 = .ok (.iconst 2, 1) := by decide +kernel
theorem dM_of_41 : decode cM_of 41 = .ok (.if_icmp .ne 10, 3) := by decide +kernel
theorem dM_of_51 : decode cM_of 51 = .ok (.iload_n 2, 1) := by decide +kernel
theorem dM_of_52 : decode cM_of 52 = .ok (.iconst 3, 1) := by decide +kernel
theorem dM_of_53 : decode cM_of 53 = .ok (.if_icmp .ne 9, 3) := by decide +kernel
theorem dM_of_62 : decode cM_of 62 = .ok (.iload_n 2, 1) := by decide +kernel
theorem dM_of_63 : decode cM_of 63 = .ok (.iconst 4, 1) := by decide +kernel
theorem dM_of_64 : decode cM_of 64 = .ok (.if_icmp .ne 13, 3) := by decide +kernel
theorem dM_of_77 : decode cM_of 77 = .ok (.iload_n 2, 1) := by decide +kernel
theorem dM_of_78 : decode cM_of 78 = .ok (.iconst 5, 1) := by decide +kernel
theorem dM_of_79 : decode cM_of 79 = .ok (.if_icmp .ne 17, 3) := by decide +kernel
theorem dM_of_96 : decode cM_of 96 = .ok (.iload_n 2, 1) := by decide +kernel
theorem dM_of_97 : decode cM_of 97 = .ok (.bipush 6, 2) := by decide +kernel
theorem dM_of_99 : decode cM_of 99 = .ok (.if_icmp .ne 15, 3) := by decide +kernel
theorem dM_of_114 : decode cM_of 114 = .ok (.iload_n 2, 1) := by decide +kernel
theorem dM_of_115 : decode cM_of 115 = .ok (.bipush 7, 2) := by decide +kernel
theorem dM_of_117 : decode cM_of 117 = .ok (.if_icmp .ne 13, 3) := by decide +kernel
theorem dM_of_130 : decode cM_of 130 = .ok (.iload_n 2, 1) := by decide +kernel
theorem dM_of_131 : decode cM_of 131 = .ok (.bipush 8, 2) := by decide +kernel
theorem dM_of_133 : decode cM_of 133 = .ok (.if_icmp .ne 11, 3) := by decide +kernel
theorem dM_of_144 : decode cM_of 144 = .ok (.iload_n 2, 1) := by decide +kernel
theorem dM_of_145 : decode cM_of 145 = .ok (.bipush 9, 2) := by decide +kernel
theorem dM_of_147 : decode cM_of 147 = .ok (.if_icmp .ne 11, 3) := by decide +kernel
theorem dM_of_158 : decode cM_of 158 = .ok (.iload_n 2, 1) := by decide +kernel
theorem dM_of_159 : decode cM_of 159 = .ok (.bipush 10, 2) := by decide +kernel
theorem dM_of_161 : decode cM_of 161 = .ok (.if_icmp .ne 11, 3) := by decide +kernel
theorem dM_of_172 : decode cM_of 172 = .ok (.bipush (-2), 2) := by decide +kernel
theorem dM_of_174 : decode cM_of 174 = .ok (.ireturn, 1) := by decide +kernel
theorem dM_of_164 : decode cM_of 164 = .ok (.aload_n 0, 1) := by decide +kernel
theorem dM_of_165 : decode cM_of 165 = .ok (.iload_n 1, 1) := by decide +kernel
theorem dM_of_166 : decode cM_of 166 = .ok (.invokevirtual 374, 3) := by decide +kernel
theorem dM_of_169 : decode cM_of 169 = .ok (.goto 5, 3) := by decide +kernel
theorem dM_of_150 : decode cM_of 150 = .ok (.aload_n 0, 1) := by decide +kernel
theorem dM_of_151 : decode cM_of 151 = .ok (.iload_n 1, 1) := by decide +kernel
theorem dM_of_152 : decode cM_of 152 = .ok (.invokevirtual 368, 3) := by decide +kernel
theorem dM_of_155 : decode cM_of 155 = .ok (.goto 19, 3) := by decide +kernel
theorem dM_of_136 : decode cM_of 136 = .ok (.aload_n 0, 1) := by decide +kernel
theorem dM_of_137 : decode cM_of 137 = .ok (.iload_n 1, 1) := by decide +kernel
theorem dM_of_138 : decode cM_of 138 = .ok (.invokevirtual 365, 3) := by decide +kernel
theorem dM_of_141 : decode cM_of 141 = .ok (.goto 33, 3) := by decide +kernel
theorem dM_of_120 : decode cM_of 120 = .ok (.aload_n 0, 1) := by decide +kernel
theorem dM_of_121 : decode cM_of 121 = .ok (.getfield 7, 3) := by decide +kernel
theorem dM_of_124 : decode cM_of 124 = .ok (.bipush 40, 2) := by decide +kernel
theorem dM_of_126 : decode cM_of 126 = .ok (.iload_n 1, 1) := by decide +kernel
theorem dM_of_127 : decode cM_of 127 = .ok (.iadd, 1) := by decide +kernel
theorem dM_of_128 : decode cM_of 128 = .ok (.iaload, 1) := by decide +kernel
theorem dM_of_129 : decode cM_of 129 = .ok (.ireturn, 1) := by decide +kernel
theorem dM_of_102 : decode cM_of 102 = .ok (.aload_n 0, 1) := by decide +kernel
theorem dM_of_103 : decode cM_of 103 = .ok (.getfield 7, 3) := by decide +kernel
theorem dM_of_106 : decode cM_of 106 = .ok (.bipush 30, 2) := by decide +kernel
theorem dM_of_108 : decode cM_of 108 = .ok (.iload_n 1, 1) := by decide +kernel
theorem dM_of_109 : decode cM_of 109 = .ok (.iadd, 1) := by decide +kernel
theorem dM_of_110 : decode cM_of 110 = .ok (.iaload, 1) := by decide +kernel
theorem dM_of_111 : decode cM_of 111 = .ok (.iconst 1, 1) := by decide +kernel
theorem dM_of_112 : decode cM_of 112 = .ok (.isub, 1) := by decide +kernel
theorem dM_of_113 : decode cM_of 113 = .ok (.ireturn, 1) := by decide +kernel
theorem dM_of_82 : decode cM_of 82 = .ok (.aload_n 0, 1) := by decide +kernel
theorem dM_of_83 : decode cM_of 83 = .ok (.iload_n 1, 1) := by decide +kernel
theorem dM_of_84 : decode cM_of 84 = .ok (.invokevirtual 349, 3) := by decide +kernel
theorem dM_of_87 : decode cM_of 87 = .ok (.ifCond .eq 7, 3) := by decide +kernel
theorem dM_of_94 : decode cM_of 94 = .ok (.iconst 0, 1) := by decide +kernel
theorem dM_of_95 : decode cM_of 95 = .ok (.ireturn, 1) := by decide +kernel
theorem dM_of_90 : decode cM_of 90 = .ok (.iconst 1, 1) := by decide +kernel
theorem dM_of_91 : decode cM_of 91 = .ok (.goto 4, 3) := by decide +kernel
theorem dM_of_67 : decode cM_of 67 = .ok (.aload_n 0, 1) := by decide +kernel
theorem dM_of_68 : decode cM_of 68 = .ok (.getfield 7, 3) := by decide +kernel
theorem dM_of_71 : decode cM_of 71 = .ok (.bipush 20, 2) := by decide +kernel
theorem dM_of_73 : decode cM_of 73 = .ok (.iload_n 1, 1) := by decide +kernel
theorem dM_of_74 : decode cM_of 74 = .ok (.iadd, 1) := by decide +kernel
theorem dM_of_75 : decode cM_of 75 = .ok (.iaload, 1) := by decide +kernel
theorem dM_of_76 : decode cM_of 76 = .ok (.ireturn, 1) := by decide +kernel
theorem dM_of_56 : decode cM_of 56 = .ok (.aload_n 0, 1) := by decide +kernel
theorem dM_of_57 : decode cM_of 57 = .ok (.iload_n 1, 1) := by decide +kernel
theorem dM_of_58 : decode cM_of 58 = .ok (.invokevirtual 323, 3) := by decide +kernel
theorem dM_of_61 : decode cM_of 61 = .ok (.ireturn, 1) := by decide +kernel
theorem dM_of_44 : decode cM_of 44 = .ok (.aload_n 0, 1) := by decide +kernel
theorem dM_of_45 : decode cM_of 45 = .ok (.getfield 25, 3) := by decide +kernel
theorem dM_of_48 : decode cM_of 48 = .ok (.iload_n 1, 1) := by decide +kernel
theorem dM_of_49 : decode cM_of 49 = .ok (.iaload, 1) := by decide +kernel
theorem dM_of_50 : decode cM_of 50 = .ok (.ireturn, 1) := by decide +kernel
theorem dM_of_32 : decode cM_of 32 = .ok (.aload_n 0, 1) := by decide +kernel
theorem dM_of_33 : decode cM_of 33 = .ok (.getfield 22, 3) := by decide +kernel
theorem dM_of_36 : decode cM_of 36 = .ok (.iload_n 1, 1) := by decide +kernel
theorem dM_of_37 : decode cM_of 37 = .ok (.iaload, 1) := by decide +kernel
theorem dM_of_38 : decode cM_of 38 = .ok (.ireturn, 1) := by decide +kernel
theorem dM_of_20 : decode cM_of 20 = .ok (.aload_n 0, 1) := by decide +kernel
theorem dM_of_21 : decode cM_of 21 = .ok (.getfield 19, 3) := by decide +kernel
theorem dM_of_24 : decode cM_of 24 = .ok (.iload_n 1, 1) := by decide +kernel
theorem dM_of_25 : decode cM_of 25 = .ok (.iaload, 1) := by decide +kernel
theorem dM_of_26 : decode cM_of 26 = .ok (.ireturn, 1) := by decide +kernel
theorem dM_of_13 : decode cM_of 13 = .ok (.bipush (-2), 2) := by decide +kernel
theorem dM_of_15 : decode cM_of 15 = .ok (.ireturn, 1) := by decide +kernel
def fM_of (v1 : Int32) (v2 : Int32) (s0 : Sg) : Option (Int32 × Sg) := bnd (pt s0 102 0 0) fun s1 => bi (fM_isPerson v1 s1) fun r3 s2 => if r3 = 0 then (some ((-2), s2)) else (if v2 = 0 then (gd v1 10 (some ((s2 106 (ix v1)), s2))) else (if v2 = 1 then (gd v1 10 (some ((s2 107 (ix v1)), s2))) else (if v2 = 2 then (gd v1 10 (some ((s2 108 (ix v1)), s2))) else (if v2 = 3 then (bi (fM_breathOf v1 s2) fun r13 s12 => some (r13, s12)) else (if v2 = 4 then (gd (20 + v1) 50 (some ((s2 103 (ix (20 + v1))), s2))) else (if v2 = 5 then (bi (fM_isGoing v1 s2) fun r11 s10 => if r11 = 0 then (some (0, s10)) else (some (1, s10))) else (if v2 = 6 then (gd (30 + v1) 50 (some (((s2 103 (ix (30 + v1))) - 1), s2))) else (if v2 = 7 then (gd (40 + v1) 50 (some ((s2 103 (ix (40 + v1))), s2))) else (if v2 = 8 then (bi (fM_climbsOf v1 s2) fun r9 s8 => some (r9, s8)) else (if v2 = 9 then (bi (fM_tiresOf v1 s2) fun r7 s6 => some (r7, s6)) else (if v2 = 10 then (bi (fM_saysOf v1 s2) fun r5 s4 => some (r5, s4)) else (some ((-2), s2)))))))))))))
set_option maxHeartbeats 4000000 in
set_option maxRecDepth 100000 in
theorem okM_of (v1 : Int32) (v2 : Int32) (s0 : Sg) : ∀ (l : Launch) (w : WC), Ok l w yM_of cM_of 3 (some .int) 6 evI [.ref (w.ad 102), .int v1, .int v2] s0 (fM_of v1 v2 s0) := by
  refine ok_in (ev := fun _ => evI) (av := fun w => [.ref (w.ad 102), .int v1, .int v2]) "LastWordHillModel" rfl (by decide +kernel) (fun _ => rfl) (fun _ => Nat.le_of_ble_eq_true rfl) ?_
  intro C X E
  show GF C evI 0 [some (.ref (C.w.ad 102)), some (.int v1), some (.int v2)] [] s0 (fM_of v1 v2 s0)
  unfold fM_of
  refine g_aload_n X dM_of_0 rfl ?_
  refine g_iconst X 0 dM_of_1 (by decide) ?_
  refine g_putI X fl_M_134 fb_12_0 fp_12_0 k_102 dM_of_2 (fun s1 => ?_)
  refine g_aload_n X dM_of_5 rfl ?_
  refine g_iload_n X dM_of_6 rfl ?_
  refine g_virtI X [.int v1] [] k_102 mm_M_isPerson mv_M_isPerson ml_M_157 (okM_isPerson v1 s1 C.l C.w) rfl (by decide) rfl (Nat.le_of_ble_eq_true rfl) dM_of_7 (fun r3 s2 => ?_)
  refine g_zne X (tgt := 16) dM_of_10 (by decide) ?_ ?_
  · refine g_bipush X (-2) dM_of_13 (by decide) ?_
    exact g_iret X E dM_of_15
  · refine g_iload_n X dM_of_16 rfl ?_
    refine g_zne X (tgt := 27) dM_of_17 (by decide) ?_ ?_
    · refine g_aload_n X dM_of_20 rfl ?_
      refine g_getN X fl_M_19 fb_12_7 k_102 r_102_7 dM_of_21 ?_
      refine g_iload_n X dM_of_24 rfl ?_
      refine g_iald X k_106 ln_106 dM_of_25 ?_
      exact g_iret X E dM_of_26
    · refine g_iload_n X dM_of_27 rfl ?_
      refine g_iconst X 1 dM_of_28 (by decide) ?_
      refine g_cne X (tgt := 39) dM_of_29 (by decide) ?_ ?_
      · refine g_aload_n X dM_of_32 rfl ?_
        refine g_getN X fl_M_22 fb_12_8 k_102 r_102_8 dM_of_33 ?_
        refine g_iload_n X dM_of_36 rfl ?_
        refine g_iald X k_107 ln_107 dM_of_37 ?_
        exact g_iret X E dM_of_38
      · refine g_iload_n X dM_of_39 rfl ?_
        refine g_iconst X 2 dM_of_40 (by decide) ?_
        refine g_cne X (tgt := 51) dM_of_41 (by decide) ?_ ?_
        · refine g_aload_n X dM_of_44 rfl ?_
          refine g_getN X fl_M_25 fb_12_9 k_102 r_102_9 dM_of_45 ?_
          refine g_iload_n X dM_of_48 rfl ?_
          refine g_iald X k_108 ln_108 dM_of_49 ?_
          exact g_iret X E dM_of_50
        · refine g_iload_n X dM_of_51 rfl ?_
          refine g_iconst X 3 dM_of_52 (by decide) ?_
          refine g_cne X (tgt := 62) dM_of_53 (by decide) ?_ ?_
          · refine g_aload_n X dM_of_56 rfl ?_
            refine g_iload_n X dM_of_57 rfl ?_
            refine g_virtI X [.int v1] [] k_102 mm_M_breathOf mv_M_breathOf ml_M_323 (okM_breathOf v1 s2 C.l C.w) rfl (by decide) rfl (Nat.le_of_ble_eq_true rfl) dM_of_58 (fun r13 s12 => ?_)
            exact g_iret X E dM_of_61
          · refine g_iload_n X dM_of_62 rfl ?_
            refine g_iconst X 4 dM_of_63 (by decide) ?_
            refine g_cne X (tgt := 77) dM_of_64 (by decide) ?_ ?_
            · refine g_aload_n X dM_of_67 rfl ?_
              refine g_getN X fl_M_7 fb_12_1 k_102 r_102_1 dM_of_68 ?_
              refine g_bipush X 20 dM_of_71 (by decide) ?_
              refine g_iload_n X dM_of_73 rfl ?_
              refine g_iadd X dM_of_74 ?_
              refine g_iald X k_103 ln_103 dM_of_75 ?_
              exact g_iret X E dM_of_76
            · refine g_iload_n X dM_of_77 rfl ?_
              refine g_iconst X 5 dM_of_78 (by decide) ?_
              refine g_cne X (tgt := 96) dM_of_79 (by decide) ?_ ?_
              · refine g_aload_n X dM_of_82 rfl ?_
                refine g_iload_n X dM_of_83 rfl ?_
                refine g_virtI X [.int v1] [] k_102 mm_M_isGoing mv_M_isGoing ml_M_349 (okM_isGoing v1 s2 C.l C.w) rfl (by decide) rfl (Nat.le_of_ble_eq_true rfl) dM_of_84 (fun r11 s10 => ?_)
                refine g_zeq X (tgt := 94) dM_of_87 (by decide) ?_ ?_
                · refine g_iconst X 0 dM_of_94 (by decide) ?_
                  exact g_iret X E dM_of_95
                · refine g_iconst X 1 dM_of_90 (by decide) ?_
                  refine g_goto X 95 dM_of_91 (by decide) ?_
                  exact g_iret X E dM_of_95
              · refine g_iload_n X dM_of_96 rfl ?_
                refine g_bipush X 6 dM_of_97 (by decide) ?_
                refine g_cne X (tgt := 114) dM_of_99 (by decide) ?_ ?_
                · refine g_aload_n X dM_of_102 rfl ?_
                  refine g_getN X fl_M_7 fb_12_1 k_102 r_102_1 dM_of_103 ?_
                  refine g_bipush X 30 dM_of_106 (by decide) ?_
                  refine g_iload_n X dM_of_108 rfl ?_
                  refine g_iadd X dM_of_109 ?_
                  refine g_iald X k_103 ln_103 dM_of_110 ?_
                  refine g_iconst X 1 dM_of_111 (by decide) ?_
                  refine g_isub X dM_of_112 ?_
                  exact g_iret X E dM_of_113
                · refine g_iload_n X dM_of_114 rfl ?_
                  refine g_bipush X 7 dM_of_115 (by decide) ?_
                  refine g_cne X (tgt := 130) dM_of_117 (by decide) ?_ ?_
                  · refine g_aload_n X dM_of_120 rfl ?_
                    refine g_getN X fl_M_7 fb_12_1 k_102 r_102_1 dM_of_121 ?_
                    refine g_bipush X 40 dM_of_124 (by decide) ?_
                    refine g_iload_n X dM_of_126 rfl ?_
                    refine g_iadd X dM_of_127 ?_
                    refine g_iald X k_103 ln_103 dM_of_128 ?_
                    exact g_iret X E dM_of_129
                  · refine g_iload_n X dM_of_130 rfl ?_
                    refine g_bipush X 8 dM_of_131 (by decide) ?_
                    refine g_cne X (tgt := 144) dM_of_133 (by decide) ?_ ?_
                    · refine g_aload_n X dM_of_136 rfl ?_
                      refine g_iload_n X dM_of_137 rfl ?_
                      refine g_virtI X [.int v1] [] k_102 mm_M_climbsOf mv_M_climbsOf ml_M_365 (okM_climbsOf v1 s2 C.l C.w) rfl (by decide) rfl (Nat.le_of_ble_eq_true rfl) dM_of_138 (fun r9 s8 => ?_)
                      refine g_goto X 174 dM_of_141 (by decide) ?_
                      exact g_iret X E dM_of_174
                    · refine g_iload_n X dM_of_144 rfl ?_
                      refine g_bipush X 9 dM_of_145 (by decide) ?_
                      refine g_cne X (tgt := 158) dM_of_147 (by decide) ?_ ?_
                      · refine g_aload_n X dM_of_150 rfl ?_
                        refine g_iload_n X dM_of_151 rfl ?_
                        refine g_virtI X [.int v1] [] k_102 mm_M_tiresOf mv_M_tiresOf ml_M_368 (okM_tiresOf v1 s2 C.l C.w) rfl (by decide) rfl (Nat.le_of_ble_eq_true rfl) dM_of_152 (fun r7 s6 => ?_)
                        refine g_goto X 174 dM_of_155 (by decide) ?_
                        exact g_iret X E dM_of_174
                      · refine g_iload_n X dM_of_158 rfl ?_
                        refine g_bipush X 10 dM_of_159 (by decide) ?_
                        refine g_cne X (tgt := 172) dM_of_161 (by decide) ?_ ?_
                        · refine g_aload_n X dM_of_164 rfl ?_
                          refine g_iload_n X dM_of_165 rfl ?_
                          refine g_virtI X [.int v1] [] k_102 mm_M_saysOf mv_M_saysOf ml_M_374 (okM_saysOf v1 s2 C.l C.w) rfl (by decide) rfl (Nat.le_of_ble_eq_true rfl) dM_of_166 (fun r5 s4 => ?_)
                          refine g_goto X 174 dM_of_169 (by decide) ?_
                          exact g_iret X E dM_of_174
                        · refine g_bipush X (-2) dM_of_172 (by decide) ?_
                          exact g_iret X E dM_of_174
def yM_book : MethodName := ⟨"LastWordHillModel", "book", "(II)I"⟩
abbrev cM_book : ByteArray := prog_14_method_81_code
theorem dM_book_0 : decode cM_book 0 = .ok (.aload_n 0, 1) := by decide +kernel
theorem dM_book_1 : decode cM_book 1 = .ok (.iconst 0, 1) := by decide +kernel
theorem dM_book_2 : decode cM_book 2 = .ok (.putfield 134, 3) := by decide +kernel
theorem dM_book_5 : decode cM_book 5 = .ok (.aload_n 0, 1) := by decide +kernel
theorem dM_book_6 : decode cM_book 6 = .ok (.iload_n 1, 1) := by decide +kernel
theorem dM_book_7 : decode cM_book 7 = .ok (.iconst 0, 1) := by decide +kernel
theorem dM_book_8 : decode cM_book 8 = .ok (.aload_n 0, 1) := by decide +kernel
theorem dM_book_9 : decode cM_book 9 = .ok (.getfield 7, 3) := by decide +kernel
theorem dM_book_12 : decode cM_book 12 = .ok (.iconst 2, 1) := by decide +kernel
theorem dM_book_13 : decode cM_book 13 = .ok (.iaload, 1) := by decide +kernel
theorem dM_book_14 : decode cM_book 14 = .ok (.iconst 1, 1) := by decide +kernel
theorem dM_book_15 : decode cM_book 15 = .ok (.isub, 1) := by decide +kernel
theorem dM_book_16 : decode cM_book 16 = .ok (.invokevirtual 153, 3) := by decide +kernel
theorem dM_book_19 : decode cM_book 19 = .ok (.ifCond .eq 26, 3) := by decide +kernel
theorem dM_book_45 : decode cM_book 45 = .ok (.bipush (-2), 2) := by decide +kernel
theorem dM_book_47 : decode cM_book 47 = .ok (.ireturn, 1) := by decide +kernel
theorem dM_book_22 : decode cM_book 22 = .ok (.aload_n 0, 1) := by decide +kernel
theorem dM_book_23 : decode cM_book 23 = .ok (.iload_n 2, 1) := by decide +kernel
theorem dM_book_24 : decode cM_book 24 = .ok (.iconst 0, 1) := by decide +kernel
theorem dM_book_25 : decode cM_book 25 = .ok (.iconst 4, 1) := by decide +kernel
theorem dM_book_26 : decode cM_book 26 = .ok (.invokevirtual 153, 3) := by decide +kernel
theorem dM_book_29 : decode cM_book 29 = .ok (.ifCond .eq 16, 3) := by decide +kernel
theorem dM_book_32 : decode cM_book 32 = .ok (.aload_n 0, 1) := by decide +kernel
theorem dM_book_33 : decode cM_book 33 = .ok (.getfield 28, 3) := by decide +kernel
theorem dM_book_36 : decode cM_book 36 = .ok (.iconst 5, 1) := by decide +kernel
theorem dM_book_37 : decode cM_book 37 = .ok (.iload_n 1, 1) := by decide +kernel
theorem dM_book_38 : decode cM_book 38 = .ok (.imul, 1) := by decide +kernel
theorem dM_book_39 : decode cM_book 39 = .ok (.iload_n 2, 1) := by decide +kernel
theorem dM_book_40 : decode cM_book 40 = .ok (.iadd, 1) := by decide +kernel
theorem dM_book_41 : decode cM_book 41 = .ok (.iaload, 1) := by decide +kernel
theorem dM_book_42 : decode cM_book 42 = .ok (.goto 5, 3) := by decide +kernel
def fM_book (v1 : Int32) (v2 : Int32) (s0 : Sg) : Option (Int32 × Sg) := bnd (pt s0 102 0 0) fun s1 => gd 2 50 (bi (fM_isIn v1 0 ((s1 103 (ix 2)) - 1) s1) fun r3 s2 => if r3 = 0 then (some ((-2), s2)) else (bi (fM_isIn v2 0 4 s2) fun r5 s4 => if r5 = 0 then (some ((-2), s4)) else (gd ((5 * v1) + v2) 750 (some ((s4 109 (ix ((5 * v1) + v2))), s4)))))
set_option maxHeartbeats 4000000 in
set_option maxRecDepth 100000 in
theorem okM_book (v1 : Int32) (v2 : Int32) (s0 : Sg) : ∀ (l : Launch) (w : WC), Ok l w yM_book cM_book 3 (some .int) 2 evI [.ref (w.ad 102), .int v1, .int v2] s0 (fM_book v1 v2 s0) := by
  refine ok_in (ev := fun _ => evI) (av := fun w => [.ref (w.ad 102), .int v1, .int v2]) "LastWordHillModel" rfl (by decide +kernel) (fun _ => rfl) (fun _ => Nat.le_of_ble_eq_true rfl) ?_
  intro C X E
  show GF C evI 0 [some (.ref (C.w.ad 102)), some (.int v1), some (.int v2)] [] s0 (fM_book v1 v2 s0)
  unfold fM_book
  refine g_aload_n X dM_book_0 rfl ?_
  refine g_iconst X 0 dM_book_1 (by decide) ?_
  refine g_putI X fl_M_134 fb_12_0 fp_12_0 k_102 dM_book_2 (fun s1 => ?_)
  refine g_aload_n X dM_book_5 rfl ?_
  refine g_iload_n X dM_book_6 rfl ?_
  refine g_iconst X 0 dM_book_7 (by decide) ?_
  refine g_aload_n X dM_book_8 rfl ?_
  refine g_getN X fl_M_7 fb_12_1 k_102 r_102_1 dM_book_9 ?_
  refine g_iconst X 2 dM_book_12 (by decide) ?_
  refine g_iald X k_103 ln_103 dM_book_13 ?_
  refine g_iconst X 1 dM_book_14 (by decide) ?_
  refine g_isub X dM_book_15 ?_
  refine g_virtI X [.int v1, .int 0, .int ((s1 103 (ix 2)) - 1)] [] k_102 mm_M_isIn mv_M_isIn ml_M_153 (okM_isIn v1 0 ((s1 103 (ix 2)) - 1) s1 C.l C.w) rfl (by decide) rfl (Nat.le_of_ble_eq_true rfl) dM_book_16 (fun r3 s2 => ?_)
  refine g_zeq X (tgt := 45) dM_book_19 (by decide) ?_ ?_
  · refine g_bipush X (-2) dM_book_45 (by decide) ?_
    exact g_iret X E dM_book_47
  · refine g_aload_n X dM_book_22 rfl ?_
    refine g_iload_n X dM_book_23 rfl ?_
    refine g_iconst X 0 dM_book_24 (by decide) ?_
    refine g_iconst X 4 dM_book_25 (by decide) ?_
    refine g_virtI X [.int v2, .int 0, .int 4] [] k_102 mm_M_isIn mv_M_isIn ml_M_153 (okM_isIn v2 0 4 s2 C.l C.w) rfl (by decide) rfl (Nat.le_of_ble_eq_true rfl) dM_book_26 (fun r5 s4 => ?_)
    refine g_zeq X (tgt := 45) dM_book_29 (by decide) ?_ ?_
    · refine g_bipush X (-2) dM_book_45 (by decide) ?_
      exact g_iret X E dM_book_47
    · refine g_aload_n X dM_book_32 rfl ?_
      refine g_getN X fl_M_28 fb_12_10 k_102 r_102_10 dM_book_33 ?_
      refine g_iconst X 5 dM_book_36 (by decide) ?_
      refine g_iload_n X dM_book_37 rfl ?_
      refine g_imul X dM_book_38 ?_
      refine g_iload_n X dM_book_39 rfl ?_
      refine g_iadd X dM_book_40 ?_
      refine g_iald X k_109 ln_109 dM_book_41 ?_
      refine g_goto X 47 dM_book_42 (by decide) ?_
      exact g_iret X E dM_book_47
def yM_goes : MethodName := ⟨"LastWordHillModel", "goes", "(II)I"⟩
abbrev cM_goes : ByteArray := prog_14_method_82_code
theorem dM_goes_0 : decode cM_goes 0 = .ok (.aload_n 0, 1) := by decide +kernel
theorem dM_goes_1 : decode cM_goes 1 = .ok (.iconst 0, 1) := by decide +kernel
theorem dM_goes_2 : decode cM_goes 2 = .ok (.putfield 134, 3) := by decide +kernel
theorem dM_goes_5 : decode cM_goes 5 = .ok (.aload_n 0, 1) := by decide +kernel
theorem dM_goes_6 : decode cM_goes 6 = .ok (.iload_n 1, 1) := by decide +kernel
theorem dM_goes_7 : decode cM_goes 7 = .ok (.iconst 1, 1) := by decide +kernel
theorem dM_goes_8 : decode cM_goes 8 = .ok (.bipush 60, 2) := by decide +kernel
theorem dM_goes_10 : decode cM_goes 10 = .ok (.invokevirtual 153, 3) := by decide +kernel
theorem dM_goes_13 : decode cM_goes 13 = .ok (.ifCond .eq 13, 3) := by decide +kernel
theorem dM_goes_26 : decode cM_goes 26 = .ok (.bipush (-2), 2) := by decide +kernel
theorem dM_goes_28 : decode cM_goes 28 = .ok (.ireturn, 1) := by decide +kernel
theorem dM_goes_16 : decode cM_goes 16 = .ok (.aload_n 0, 1) := by decide +kernel
theorem dM_goes_17 : decode cM_goes 17 = .ok (.iload_n 2, 1) := by decide +kernel
theorem dM_goes_18 : decode cM_goes 18 = .ok (.iconst 0, 1) := by decide +kernel
theorem dM_goes_19 : decode cM_goes 19 = .ok (.iconst 3, 1) := by decide +kernel
theorem dM_goes_20 : decode cM_goes 20 = .ok (.invokevirtual 153, 3) := by decide +kernel
theorem dM_goes_23 : decode cM_goes 23 = .ok (.ifCond .ne 6, 3) := by decide +kernel
theorem dM_goes_29 : decode cM_goes 29 = .ok (.aload_n 0, 1) := by decide +kernel
theorem dM_goes_30 : decode cM_goes 30 = .ok (.invokevirtual 395, 3) := by decide +kernel
theorem mm_M_thinks : MMc yM_thinks cM_thinks 2 none 0 := ⟨hz_in 1936 (by decide +kernel) (by decide +kernel), hz_in 147 (by decide +kernel) (by decide +kernel), by decide +kernel, by decide⟩
theorem mv_M_thinks : MMv yM_thinks 12 := ⟨hz_in 1935 (by decide +kernel) (by decide +kernel), hz_in 112 (by decide +kernel) (by decide +kernel), _, _, rfl, by decide⟩
theorem ml_M_395 : Cond.methodLink "LastWordHillModel" 395 yM_thinks ∈ hz_wt := hz_in 1933 (by decide +kernel) (by decide +kernel)
theorem dM_goes_33 : decode cM_goes 33 = .ok (.iconst 0, 1) := by decide +kernel
theorem dM_goes_34 : decode cM_goes 34 = .ok (.istore_n 3, 1) := by decide +kernel
theorem dM_goes_35 : decode cM_goes 35 = .ok (.iload_n 3, 1) := by decide +kernel
theorem dM_goes_36 : decode cM_goes 36 = .ok (.iload_n 1, 1) := by decide +kernel
theorem dM_goes_37 : decode cM_goes 37 = .ok (.if_icmp .ge 14, 3) := by decide +kernel
theorem dM_goes_51 : decode cM_goes 51 = .ok (.iconst 0, 1) := by decide +kernel
theorem dM_goes_52 : decode cM_goes 52 = .ok (.istore_n 3, 1) := by decide +kernel
theorem dM_goes_53 : decode cM_goes 53 = .ok (.iconst 0, 1) := by decide +kernel
theorem dM_goes_54 : decode cM_goes 54 = .ok (.istore 4, 2) := by decide +kernel
theorem dM_goes_56 : decode cM_goes 56 = .ok (.iconst 0, 1) := by decide +kernel
theorem dM_goes_57 : decode cM_goes 57 = .ok (.istore 5, 2) := by decide +kernel
theorem dM_goes_59 : decode cM_goes 59 = .ok (.iload 5, 2) := by decide +kernel
theorem dM_goes_61 : decode cM_goes 61 = .ok (.aload_n 0, 1) := by decide +kernel
theorem dM_goes_62 : decode cM_goes 62 = .ok (.getfield 146, 3) := by decide +kernel
theorem dM_goes_65 : decode cM_goes 65 = .ok (.if_icmp .ge 33, 3) := by decide +kernel
theorem dM_goes_98 : decode cM_goes 98 = .ok (.iload_n 2, 1) := by decide +kernel
theorem dM_goes_99 : decode cM_goes 99 = .ok (.ifCond .ne 14, 3) := by decide +kernel
theorem dM_goes_141 : decode cM_goes 141 = .ok (.istore 5, 2) := by decide +kernel
theorem dM_goes_143 : decode cM_goes 143 = .ok (.aload_n 0, 1) := by decide +kernel
theorem dM_goes_144 : decode cM_goes 144 = .ok (.invokevirtual 398, 3) := by decide +kernel
theorem mm_M_endsThought : MMc yM_endsThought cM_endsThought 2 none 0 := ⟨hz_in 1940 (by decide +kernel) (by decide +kernel), hz_in 147 (by decide +kernel) (by decide +kernel), by decide +kernel, by decide⟩
theorem mv_M_endsThought : MMv yM_endsThought 12 := ⟨hz_in 1939 (by decide +kernel) (by decide +kernel), hz_in 113 (by decide +kernel) (by decide +kernel), _, _, rfl, by decide⟩
theorem ml_M_398 : Cond.methodLink "LastWordHillModel" 398 yM_endsThought ∈ hz_wt := hz_in 1937 (by decide +kernel) (by decide +kernel)
theorem dM_goes_147 : decode cM_goes 147 = .ok (.iload 5, 2) := by decide +kernel
theorem dM_goes_149 : decode cM_goes 149 = .ok (.ireturn, 1) := by decide +kernel
theorem dM_goes_113 : decode cM_goes 113 = .ok (.iload_n 2, 1) := by decide +kernel
theorem dM_goes_114 : decode cM_goes 114 = .ok (.iconst 1, 1) := by decide +kernel
theorem dM_goes_115 : decode cM_goes 115 = .ok (.if_icmp .ne 15, 3) := by decide +kernel
theorem dM_goes_130 : decode cM_goes 130 = .ok (.iload_n 2, 1) := by decide +kernel
theorem dM_goes_131 : decode cM_goes 131 = .ok (.iconst 2, 1) := by decide +kernel
theorem dM_goes_132 : decode cM_goes 132 = .ok (.if_icmp .ne 7, 3) := by decide +kernel
theorem dM_goes_139 : decode cM_goes 139 = .ok (.iload 4, 2) := by decide +kernel
theorem dM_goes_135 : decode cM_goes 135 = .ok (.iload_n 3, 1) := by decide +kernel
theorem dM_goes_136 : decode cM_goes 136 = .ok (.goto 5, 3) := by decide +kernel
theorem dM_goes_118 : decode cM_goes 118 = .ok (.aload_n 0, 1) := by decide +kernel
theorem dM_goes_119 : decode cM_goes 119 = .ok (.getfield 7, 3) := by decide +kernel
theorem dM_goes_122 : decode cM_goes 122 = .ok (.bipush 6, 2) := by decide +kernel
theorem dM_goes_124 : decode cM_goes 124 = .ok (.iaload, 1) := by decide +kernel
theorem dM_goes_125 : decode cM_goes 125 = .ok (.iconst 1, 1) := by decide +kernel
theorem dM_goes_126 : decode cM_goes 126 = .ok (.isub, 1) := by decide +kernel
theorem dM_goes_127 : decode cM_goes 127 = .ok (.goto 14, 3) := by decide +kernel
theorem dM_goes_102 : decode cM_goes 102 = .ok (.aload_n 0, 1) := by decide +kernel
theorem dM_goes_103 : decode cM_goes 103 = .ok (.getfield 7, 3) := by decide +kernel
theorem dM_goes_106 : decode cM_goes 106 = .ok (.iconst 5, 1) := by decide +kernel
theorem dM_goes_107 : decode cM_goes 107 = .ok (.iaload, 1) := by decide +kernel
theorem dM_goes_108 : decode cM_goes 108 = .ok (.iconst 1, 1) := by decide +kernel
theorem dM_goes_109 : decode cM_goes 109 = .ok (.isub, 1) := by decide +kernel
theorem dM_goes_110 : decode cM_goes 110 = .ok (.goto 31, 3) := by decide +kernel
theorem dM_goes_68 : decode cM_goes 68 = .ok (.aload_n 0, 1) := by decide +kernel
theorem dM_goes_69 : decode cM_goes 69 = .ok (.iload 5, 2) := by decide +kernel
theorem dM_goes_71 : decode cM_goes 71 = .ok (.invokevirtual 320, 3) := by decide +kernel
theorem dM_goes_74 : decode cM_goes 74 = .ok (.ifCond .eq 7, 3) := by decide +kernel
theorem dM_goes_81 : decode cM_goes 81 = .ok (.iload 4, 2) := by decide +kernel
theorem dM_goes_83 : decode cM_goes 83 = .ok (.aload_n 0, 1) := by decide +kernel
theorem dM_goes_84 : decode cM_goes 84 = .ok (.iload 5, 2) := by decide +kernel
theorem dM_goes_86 : decode cM_goes 86 = .ok (.invokevirtual 323, 3) := by decide +kernel
theorem dM_goes_89 : decode cM_goes 89 = .ok (.iadd, 1) := by decide +kernel
theorem dM_goes_90 : decode cM_goes 90 = .ok (.istore 4, 2) := by decide +kernel
theorem dM_goes_92 : decode cM_goes 92 = .ok (.iinc 5 1, 3) := by decide +kernel
theorem dM_goes_95 : decode cM_goes 95 = .ok (.goto (-36), 3) := by decide +kernel
theorem dM_goes_77 : decode cM_goes 77 = .ok (.iload_n 3, 1) := by decide +kernel
theorem dM_goes_78 : decode cM_goes 78 = .ok (.iconst 1, 1) := by decide +kernel
theorem dM_goes_79 : decode cM_goes 79 = .ok (.iadd, 1) := by decide +kernel
theorem dM_goes_80 : decode cM_goes 80 = .ok (.istore_n 3, 1) := by decide +kernel
theorem dM_goes_40 : decode cM_goes 40 = .ok (.aload_n 0, 1) := by decide +kernel
theorem dM_goes_41 : decode cM_goes 41 = .ok (.invokevirtual 392, 3) := by decide +kernel
theorem dM_goes_44 : decode cM_goes 44 = .ok (.pop, 1) := by decide +kernel
theorem dM_goes_45 : decode cM_goes 45 = .ok (.iinc 3 1, 3) := by decide +kernel
theorem dM_goes_48 : decode cM_goes 48 = .ok (.goto (-13), 3) := by decide +kernel
def fM_goes (v1 : Int32) (v2 : Int32) (s0 : Sg) : Option (Int32 × Sg) := bnd (pt s0 102 0 0) fun s1 => bi (fM_isIn v1 1 60 s1) fun r3 s2 => if r3 = 0 then (some ((-2), s2)) else (bi (fM_isIn v2 0 3 s2) fun r5 s4 => if r5 = 0 then (some ((-2), s4)) else (bv (fM_thinks s4) fun s6 => lp FU (fun q35 (u35 : Int32) (s7 : Sg) => if v1 ≤ u35 then (lp FU (fun q59 (u59 : Int32 × Int32 × Int32) (s8 : Sg) => if (s8 102 6) ≤ u59.2.2 then (bnd (fun (b141_0 : Int32) (s9 : Sg) => bv (fM_endsThought s9) fun s10 => some (b141_0, s10)) fun j141 => if v2 = 0 then (gd 5 50 (j141 ((s8 103 (ix 5)) - 1) s8)) else (if v2 = 1 then (gd 6 50 (j141 ((s8 103 (ix 6)) - 1) s8)) else (if v2 = 2 then (j141 u59.1 s8) else (j141 u59.2.1 s8)))) else (bi (fM_isUp u59.2.2 s8) fun r12 s11 => bnd (fun (a81_3 : Int32) (s13 : Sg) => bi (fM_breathOf u59.2.2 s13) fun r15 s14 => q59 (a81_3, (u59.2.1 + r15), (u59.2.2 + 1)) s14) fun j81 => if r12 = 0 then (j81 u59.1 s11) else (j81 (u59.1 + 1) s11))) (0, 0, 0) s7) else (bi (fM_goesBy s7) fun r17 s16 => q35 (u35 + 1) s16)) 0 s6))
set_option maxHeartbeats 4000000 in
set_option maxRecDepth 100000 in
theorem okM_goes (v1 : Int32) (v2 : Int32) (s0 : Sg) : ∀ (l : Launch) (w : WC), Ok l w yM_goes cM_goes 6 (some .int) 8 evI [.ref (w.ad 102), .int v1, .int v2] s0 (fM_goes v1 v2 s0) := by
  refine ok_in (ev := fun _ => evI) (av := fun w => [.ref (w.ad 102), .int v1, .int v2]) "LastWordHillModel" rfl (by decide +kernel) (fun _ => rfl) (fun _ => Nat.le_of_ble_eq_true rfl) ?_
  intro C X E
  show GF C evI 0 [some (.ref (C.w.ad 102)), some (.int v1), some (.int v2), none, none, none] [] s0 (fM_goes v1 v2 s0)
  unfold fM_goes
  refine g_aload_n X dM_goes_0 rfl ?_
  refine g_iconst X 0 dM_goes_1 (by decide) ?_
  refine g_putI X fl_M_134 fb_12_0 fp_12_0 k_102 dM_goes_2 (fun s1 => ?_)
  refine g_aload_n X dM_goes_5 rfl ?_
  refine g_iload_n X dM_goes_6 rfl ?_
  refine g_iconst X 1 dM_goes_7 (by decide) ?_
  refine g_bipush X 60 dM_goes_8 (by decide) ?_
  refine g_virtI X [.int v1, .int 1, .int 60] [] k_102 mm_M_isIn mv_M_isIn ml_M_153 (okM_isIn v1 1 60 s1 C.l C.w) rfl (by decide) rfl (Nat.le_of_ble_eq_true rfl) dM_goes_10 (fun r3 s2 => ?_)
  refine g_zeq X (tgt := 26) dM_goes_13 (by decide) ?_ ?_
  · refine g_bipush X (-2) dM_goes_26 (by decide) ?_
    exact g_iret X E dM_goes_28
  · refine g_aload_n X dM_goes_16 rfl ?_
    refine g_iload_n X dM_goes_17 rfl ?_
    refine g_iconst X 0 dM_goes_18 (by decide) ?_
    refine g_iconst X 3 dM_goes_19 (by decide) ?_
    refine g_virtI X [.int v2, .int 0, .int 3] [] k_102 mm_M_isIn mv_M_isIn ml_M_153 (okM_isIn v2 0 3 s2 C.l C.w) rfl (by decide) rfl (Nat.le_of_ble_eq_true rfl) dM_goes_20 (fun r5 s4 => ?_)
    refine g_zne X (tgt := 29) dM_goes_23 (by decide) ?_ ?_
    · refine g_bipush X (-2) dM_goes_26 (by decide) ?_
      exact g_iret X E dM_goes_28
    · refine g_aload_n X dM_goes_29 rfl ?_
      refine g_virtV X [] [] k_102 mm_M_thinks mv_M_thinks ml_M_395 (okM_thinks s4 C.l C.w) rfl (by decide) rfl (Nat.le_of_ble_eq_true rfl) dM_goes_30 (fun s6 => ?_)
      refine g_iconst X 0 dM_goes_33 (by decide) ?_
      refine g_istore_n X [some (.ref (C.w.ad 102)), some (.int v1), some (.int v2), some (.int 0), none, none] dM_goes_34 (by decide) (Nat.le_of_ble_eq_true rfl) rfl ?_
      refine gf_sub (L' := [some (.ref (C.w.ad 102)), some (.int v1), some (.int v2), some (.int 0), none, none]) ?_ (by simp [lsub])
      refine gf_lp (Lf := fun (u35 : Int32) => [some (.ref (C.w.ad 102)), some (.int v1), some (.int v2), some (.int u35), none, none]) (fun q35 hq35 u35 s7 => ?_) FU 0 s6
      refine g_iload_n X dM_goes_35 rfl ?_
      refine g_iload_n X dM_goes_36 rfl ?_
      refine g_cge X (tgt := 51) dM_goes_37 (by decide) ?_ ?_
      · refine g_iconst X 0 dM_goes_51 (by decide) ?_
        refine g_istore_n X [some (.ref (C.w.ad 102)), some (.int v1), some (.int v2), some (.int 0), none, none] dM_goes_52 (by decide) (Nat.le_of_ble_eq_true rfl) rfl ?_
        refine g_iconst X 0 dM_goes_53 (by decide) ?_
        refine g_istore X [some (.ref (C.w.ad 102)), some (.int v1), some (.int v2), some (.int 0), some (.int 0), none] dM_goes_54 (by decide) (Nat.le_of_ble_eq_true rfl) rfl ?_
        refine g_iconst X 0 dM_goes_56 (by decide) ?_
        refine g_istore X [some (.ref (C.w.ad 102)), some (.int v1), some (.int v2), some (.int 0), some (.int 0), some (.int 0)] dM_goes_57 (by decide) (Nat.le_of_ble_eq_true rfl) rfl ?_
        refine gf_sub (L' := [some (.ref (C.w.ad 102)), none, some (.int v2), some (.int 0), some (.int 0), some (.int 0)]) ?_ (by simp [lsub])
        refine gf_lp (Lf := fun (u59 : Int32 × Int32 × Int32) => [some (.ref (C.w.ad 102)), none, some (.int v2), some (.int u59.1), some (.int u59.2.1), some (.int u59.2.2)]) (fun q59 hq59 u59 s8 => ?_) FU (0, 0, 0) s7
        refine g_iload X dM_goes_59 rfl ?_
        refine g_aload_n X dM_goes_61 rfl ?_
        refine g_getI X fl_M_146 fb_12_6 k_102 dM_goes_62 ?_
        refine g_cge X (tgt := 98) dM_goes_65 (by decide) ?_ ?_
        · refine g_iload_n X dM_goes_98 rfl ?_
          refine gf_jn (fun j141 => ∀ (b141_0 : Int32) (s9 : Sg), GF C evI 141 [some (.ref (C.w.ad 102)), none, none, none, none, none] [.int b141_0] s9 (j141 b141_0 s9)) ?_ ?_
          · intro b141_0 s9
            refine g_istore X [some (.ref (C.w.ad 102)), none, none, none, none, some (.int b141_0)] dM_goes_141 (by decide) (Nat.le_of_ble_eq_true rfl) rfl ?_
            refine g_aload_n X dM_goes_143 rfl ?_
            refine g_virtV X [] [] k_102 mm_M_endsThought mv_M_endsThought ml_M_398 (okM_endsThought s9 C.l C.w) rfl (by decide) rfl (Nat.le_of_ble_eq_true rfl) dM_goes_144 (fun s10 => ?_)
            refine g_iload X dM_goes_147 rfl ?_
            exact g_iret X E dM_goes_149
          · intro j141 hj141
            refine g_zne X (tgt := 113) dM_goes_99 (by decide) ?_ ?_
            · refine g_aload_n X dM_goes_102 rfl ?_
              refine g_getN X fl_M_7 fb_12_1 k_102 r_102_1 dM_goes_103 ?_
              refine g_iconst X 5 dM_goes_106 (by decide) ?_
              refine g_iald X k_103 ln_103 dM_goes_107 ?_
              refine g_iconst X 1 dM_goes_108 (by decide) ?_
              refine g_isub X dM_goes_109 ?_
              refine g_goto X 141 dM_goes_110 (by decide) ?_
              exact gf_sub (hj141 ((s8 103 (ix 5)) - 1) s8) (by simp [lsub])
            · refine g_iload_n X dM_goes_113 rfl ?_
              refine g_iconst X 1 dM_goes_114 (by decide) ?_
              refine g_cne X (tgt := 130) dM_goes_115 (by decide) ?_ ?_
              · refine g_aload_n X dM_goes_118 rfl ?_
                refine g_getN X fl_M_7 fb_12_1 k_102 r_102_1 dM_goes_119 ?_
                refine g_bipush X 6 dM_goes_122 (by decide) ?_
                refine g_iald X k_103 ln_103 dM_goes_124 ?_
                refine g_iconst X 1 dM_goes_125 (by decide) ?_
                refine g_isub X dM_goes_126 ?_
                refine g_goto X 141 dM_goes_127 (by decide) ?_
                exact gf_sub (hj141 ((s8 103 (ix 6)) - 1) s8) (by simp [lsub])
              · refine g_iload_n X dM_goes_130 rfl ?_
                refine g_iconst X 2 dM_goes_131 (by decide) ?_
                refine g_cne X (tgt := 139) dM_goes_132 (by decide) ?_ ?_
                · refine g_iload_n X dM_goes_135 rfl ?_
                  refine g_goto X 141 dM_goes_136 (by decide) ?_
                  exact gf_sub (hj141 u59.1 s8) (by simp [lsub])
                · refine g_iload X dM_goes_139 rfl ?_
                  exact gf_sub (hj141 u59.2.1 s8) (by simp [lsub])
        · refine g_aload_n X dM_goes_68 rfl ?_
          refine g_iload X dM_goes_69 rfl ?_
          refine g_virtI X [.int u59.2.2] [] k_102 mm_M_isUp mv_M_isUp ml_M_320 (okM_isUp u59.2.2 s8 C.l C.w) rfl (by decide) rfl (Nat.le_of_ble_eq_true rfl) dM_goes_71 (fun r12 s11 => ?_)
          refine gf_jn (fun j81 => ∀ (a81_3 : Int32) (s13 : Sg), GF C evI 81 [some (.ref (C.w.ad 102)), none, some (.int v2), some (.int a81_3), some (.int u59.2.1), some (.int u59.2.2)] [] s13 (j81 a81_3 s13)) ?_ ?_
          · intro a81_3 s13
            refine g_iload X dM_goes_81 rfl ?_
            refine g_aload_n X dM_goes_83 rfl ?_
            refine g_iload X dM_goes_84 rfl ?_
            refine g_virtI X [.int u59.2.2] [.int u59.2.1] k_102 mm_M_breathOf mv_M_breathOf ml_M_323 (okM_breathOf u59.2.2 s13 C.l C.w) rfl (by decide) rfl (Nat.le_of_ble_eq_true rfl) dM_goes_86 (fun r15 s14 => ?_)
            refine g_iadd X dM_goes_89 ?_
            refine g_istore X [some (.ref (C.w.ad 102)), none, some (.int v2), some (.int a81_3), some (.int (u59.2.1 + r15)), some (.int u59.2.2)] dM_goes_90 (by decide) (Nat.le_of_ble_eq_true rfl) rfl ?_
            refine g_iinc X (u59.2.2 + 1) [some (.ref (C.w.ad 102)), none, some (.int v2), some (.int a81_3), some (.int (u59.2.1 + r15)), some (.int (u59.2.2 + 1))] dM_goes_92 rfl rfl (by decide) rfl ?_
            refine g_goto X 59 dM_goes_95 (by decide) ?_
            exact gf_sub (hq59 (a81_3, (u59.2.1 + r15), (u59.2.2 + 1)) s14) (by simp [lsub])
          · intro j81 hj81
            refine g_zeq X (tgt := 81) dM_goes_74 (by decide) ?_ ?_
            · exact gf_sub (hj81 u59.1 s11) (by simp [lsub])
            · refine g_iload_n X dM_goes_77 rfl ?_
              refine g_iconst X 1 dM_goes_78 (by decide) ?_
              refine g_iadd X dM_goes_79 ?_
              refine g_istore_n X [some (.ref (C.w.ad 102)), none, some (.int v2), some (.int (u59.1 + 1)), some (.int u59.2.1), some (.int u59.2.2)] dM_goes_80 (by decide) (Nat.le_of_ble_eq_true rfl) rfl ?_
              exact gf_sub (hj81 (u59.1 + 1) s11) (by simp [lsub])
      · refine g_aload_n X dM_goes_40 rfl ?_
        refine g_virtI X [] [] k_102 mm_M_goesBy mv_M_goesBy ml_M_392 (okM_goesBy s7 C.l C.w) rfl (by decide) rfl (Nat.le_of_ble_eq_true rfl) dM_goes_41 (fun r17 s16 => ?_)
        refine g_pop X dM_goes_44 rfl ?_
        refine g_iinc X (u35 + 1) [some (.ref (C.w.ad 102)), some (.int v1), some (.int v2), some (.int (u35 + 1)), none, none] dM_goes_45 rfl rfl (by decide) rfl ?_
        refine g_goto X 35 dM_goes_48 (by decide) ?_
        exact gf_sub (hq35 (u35 + 1) s16) (by simp [lsub])
