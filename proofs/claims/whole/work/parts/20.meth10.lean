def yMu_oneApart : MethodName := ⟨"LastWordHill$Muse", "oneApart", "(II)Z"⟩
abbrev cMu_oneApart : ByteArray := prog_4_method_23_code
theorem dMu_oneApart_0 : decode cMu_oneApart 0 = .ok (.aload_n 0, 1) := by decide +kernel
theorem dMu_oneApart_1 : decode cMu_oneApart 1 = .ok (.getfield 28, 3) := by decide +kernel
theorem dMu_oneApart_4 : decode cMu_oneApart 4 = .ok (.getfield 137, 3) := by decide +kernel
theorem fl_Mu_137 : FLk "LastWordHill$Muse" 137 10 3 := ⟨_, _, _, rfl, by decide, hz_in 430 (by decide +kernel) (by decide +kernel), nL10, by decide, by decide⟩
theorem dMu_oneApart_7 : decode cMu_oneApart 7 = .ok (.iload_n 1, 1) := by decide +kernel
theorem dMu_oneApart_8 : decode cMu_oneApart 8 = .ok (.iconst 0, 1) := by decide +kernel
theorem dMu_oneApart_9 : decode cMu_oneApart 9 = .ok (.invokevirtual 77, 3) := by decide +kernel
theorem dMu_oneApart_12 : decode cMu_oneApart 12 = .ok (.istore_n 3, 1) := by decide +kernel
theorem dMu_oneApart_13 : decode cMu_oneApart 13 = .ok (.iload_n 3, 1) := by decide +kernel
theorem dMu_oneApart_14 : decode cMu_oneApart 14 = .ok (.aload_n 0, 1) := by decide +kernel
theorem dMu_oneApart_15 : decode cMu_oneApart 15 = .ok (.getfield 28, 3) := by decide +kernel
theorem dMu_oneApart_18 : decode cMu_oneApart 18 = .ok (.getfield 137, 3) := by decide +kernel
theorem dMu_oneApart_21 : decode cMu_oneApart 21 = .ok (.iload_n 2, 1) := by decide +kernel
theorem dMu_oneApart_22 : decode cMu_oneApart 22 = .ok (.iconst 0, 1) := by decide +kernel
theorem dMu_oneApart_23 : decode cMu_oneApart 23 = .ok (.invokevirtual 77, 3) := by decide +kernel
theorem dMu_oneApart_26 : decode cMu_oneApart 26 = .ok (.if_icmp .eq 5, 3) := by decide +kernel
theorem dMu_oneApart_31 : decode cMu_oneApart 31 = .ok (.aload_n 0, 1) := by decide +kernel
theorem dMu_oneApart_32 : decode cMu_oneApart 32 = .ok (.getfield 28, 3) := by decide +kernel
theorem dMu_oneApart_35 : decode cMu_oneApart 35 = .ok (.getfield 137, 3) := by decide +kernel
theorem dMu_oneApart_38 : decode cMu_oneApart 38 = .ok (.iload_n 1, 1) := by decide +kernel
theorem dMu_oneApart_39 : decode cMu_oneApart 39 = .ok (.iconst 1, 1) := by decide +kernel
theorem dMu_oneApart_40 : decode cMu_oneApart 40 = .ok (.invokevirtual 77, 3) := by decide +kernel
theorem dMu_oneApart_43 : decode cMu_oneApart 43 = .ok (.istore 4, 2) := by decide +kernel
theorem dMu_oneApart_45 : decode cMu_oneApart 45 = .ok (.aload_n 0, 1) := by decide +kernel
theorem dMu_oneApart_46 : decode cMu_oneApart 46 = .ok (.getfield 28, 3) := by decide +kernel
theorem dMu_oneApart_49 : decode cMu_oneApart 49 = .ok (.getfield 137, 3) := by decide +kernel
theorem dMu_oneApart_52 : decode cMu_oneApart 52 = .ok (.iload_n 2, 1) := by decide +kernel
theorem dMu_oneApart_53 : decode cMu_oneApart 53 = .ok (.iconst 1, 1) := by decide +kernel
theorem dMu_oneApart_54 : decode cMu_oneApart 54 = .ok (.invokevirtual 77, 3) := by decide +kernel
theorem dMu_oneApart_57 : decode cMu_oneApart 57 = .ok (.istore 5, 2) := by decide +kernel
theorem dMu_oneApart_59 : decode cMu_oneApart 59 = .ok (.iconst 0, 1) := by decide +kernel
theorem dMu_oneApart_60 : decode cMu_oneApart 60 = .ok (.istore 6, 2) := by decide +kernel
theorem dMu_oneApart_62 : decode cMu_oneApart 62 = .ok (.iconst 0, 1) := by decide +kernel
theorem dMu_oneApart_63 : decode cMu_oneApart 63 = .ok (.istore 7, 2) := by decide +kernel
theorem dMu_oneApart_65 : decode cMu_oneApart 65 = .ok (.iload 7, 2) := by decide +kernel
theorem dMu_oneApart_67 : decode cMu_oneApart 67 = .ok (.iload_n 3, 1) := by decide +kernel
theorem dMu_oneApart_68 : decode cMu_oneApart 68 = .ok (.if_icmp .ge 39, 3) := by decide +kernel
theorem dMu_oneApart_107 : decode cMu_oneApart 107 = .ok (.iload 6, 2) := by decide +kernel
theorem dMu_oneApart_109 : decode cMu_oneApart 109 = .ok (.iconst 1, 1) := by decide +kernel
theorem dMu_oneApart_110 : decode cMu_oneApart 110 = .ok (.if_icmp .ne 7, 3) := by decide +kernel
theorem dMu_oneApart_117 : decode cMu_oneApart 117 = .ok (.iconst 0, 1) := by decide +kernel
theorem dMu_oneApart_118 : decode cMu_oneApart 118 = .ok (.ireturn, 1) := by decide +kernel
theorem dMu_oneApart_113 : decode cMu_oneApart 113 = .ok (.iconst 1, 1) := by decide +kernel
theorem dMu_oneApart_114 : decode cMu_oneApart 114 = .ok (.goto 4, 3) := by decide +kernel
theorem dMu_oneApart_71 : decode cMu_oneApart 71 = .ok (.iload 4, 2) := by decide +kernel
theorem dMu_oneApart_73 : decode cMu_oneApart 73 = .ok (.bipush 10, 2) := by decide +kernel
theorem dMu_oneApart_75 : decode cMu_oneApart 75 = .ok (.irem, 1) := by decide +kernel
theorem dMu_oneApart_76 : decode cMu_oneApart 76 = .ok (.iload 5, 2) := by decide +kernel
theorem dMu_oneApart_78 : decode cMu_oneApart 78 = .ok (.bipush 10, 2) := by decide +kernel
theorem dMu_oneApart_80 : decode cMu_oneApart 80 = .ok (.irem, 1) := by decide +kernel
theorem dMu_oneApart_81 : decode cMu_oneApart 81 = .ok (.if_icmp .eq 6, 3) := by decide +kernel
theorem dMu_oneApart_87 : decode cMu_oneApart 87 = .ok (.iload 4, 2) := by decide +kernel
theorem dMu_oneApart_89 : decode cMu_oneApart 89 = .ok (.bipush 10, 2) := by decide +kernel
theorem dMu_oneApart_91 : decode cMu_oneApart 91 = .ok (.idiv, 1) := by decide +kernel
theorem dMu_oneApart_92 : decode cMu_oneApart 92 = .ok (.istore 4, 2) := by decide +kernel
theorem dMu_oneApart_94 : decode cMu_oneApart 94 = .ok (.iload 5, 2) := by decide +kernel
theorem dMu_oneApart_96 : decode cMu_oneApart 96 = .ok (.bipush 10, 2) := by decide +kernel
theorem dMu_oneApart_98 : decode cMu_oneApart 98 = .ok (.idiv, 1) := by decide +kernel
theorem dMu_oneApart_99 : decode cMu_oneApart 99 = .ok (.istore 5, 2) := by decide +kernel
theorem dMu_oneApart_101 : decode cMu_oneApart 101 = .ok (.iinc 7 1, 3) := by decide +kernel
theorem dMu_oneApart_104 : decode cMu_oneApart 104 = .ok (.goto (-39), 3) := by decide +kernel
theorem dMu_oneApart_84 : decode cMu_oneApart 84 = .ok (.iinc 6 1, 3) := by decide +kernel
theorem dMu_oneApart_29 : decode cMu_oneApart 29 = .ok (.iconst 0, 1) := by decide +kernel
theorem dMu_oneApart_30 : decode cMu_oneApart 30 = .ok (.ireturn, 1) := by decide +kernel
def fMu_oneApart (v1 : Int32) (v2 : Int32) (s0 : Sg) : Option (Int32 × Sg) := bi (fTa_tell 55 v1 0 s0) fun r2 s1 => bi (fTa_tell 55 v2 0 s1) fun r4 s3 => if r2 = r4 then (bi (fTa_tell 55 v1 1 s3) fun r6 s5 => bi (fTa_tell 55 v2 1 s5) fun r8 s7 => lp FU (fun q65 (u65 : Int32 × Int32 × Int32 × Int32) (s9 : Sg) => if r2 ≤ u65.2.2.2 then (if u65.2.2.1 = 1 then (gb 1 (some (1, s9))) else (gb 0 (some (0, s9)))) else (gz 10 (gz 10 (bnd (fun (a87_6 : Int32) (s10 : Sg) => gz 10 (gz 10 (q65 ((u65.1 / 10), (u65.2.1 / 10), a87_6, (u65.2.2.2 + 1)) s10))) fun j87 => if (u65.1 - u65.1 / 10 * 10) = (u65.2.1 - u65.2.1 / 10 * 10) then (j87 u65.2.2.1 s9) else (j87 (u65.2.2.1 + 1) s9))))) (r6, r8, 0, 0) s7) else (gb 0 (some (0, s3)))
set_option maxHeartbeats 4000000 in
set_option maxRecDepth 100000 in
theorem okMu_oneApart (v1 : Int32) (v2 : Int32) (s0 : Sg) : ∀ (l : Launch) (w : WC), Ok l w yMu_oneApart cMu_oneApart 8 (some .boolean) 3 evI [.ref (w.ad 66), .int v1, .int v2] s0 (fMu_oneApart v1 v2 s0) := by
  refine ok_in (ev := fun _ => evI) (av := fun w => [.ref (w.ad 66), .int v1, .int v2]) "LastWordHill$Muse" rfl (by decide +kernel) (fun _ => rfl) (fun _ => Nat.le_of_ble_eq_true rfl) ?_
  intro C X E
  show GF C evI 0 [some (.ref (C.w.ad 66)), some (.int v1), some (.int v2), none, none, none, none, none] [] s0 (fMu_oneApart v1 v2 s0)
  unfold fMu_oneApart
  refine g_aload_n X dMu_oneApart_0 rfl ?_
  refine g_getN X fl_Mu_28 fb_2_1 k_66 r_66_1 dMu_oneApart_1 ?_
  refine g_getN X fl_Mu_137 fb_10_3 k_48 r_48_3 dMu_oneApart_4 ?_
  refine g_iload_n X dMu_oneApart_7 rfl ?_
  refine g_iconst X 0 dMu_oneApart_8 (by decide) ?_
  refine g_virtI X [.int v1, .int 0] [] k_55 mm_Ta_tell mv_Ta_tell ml_Mu_77 (okTa_tell 55 v1 0 s0 k_55 C.l C.w) rfl (by decide) rfl (Nat.le_of_ble_eq_true rfl) dMu_oneApart_9 (fun r2 s1 => ?_)
  refine g_istore_n X [some (.ref (C.w.ad 66)), some (.int v1), some (.int v2), some (.int r2), none, none, none, none] dMu_oneApart_12 (by decide) (Nat.le_of_ble_eq_true rfl) rfl ?_
  refine g_iload_n X dMu_oneApart_13 rfl ?_
  refine g_aload_n X dMu_oneApart_14 rfl ?_
  refine g_getN X fl_Mu_28 fb_2_1 k_66 r_66_1 dMu_oneApart_15 ?_
  refine g_getN X fl_Mu_137 fb_10_3 k_48 r_48_3 dMu_oneApart_18 ?_
  refine g_iload_n X dMu_oneApart_21 rfl ?_
  refine g_iconst X 0 dMu_oneApart_22 (by decide) ?_
  refine g_virtI X [.int v2, .int 0] [.int r2] k_55 mm_Ta_tell mv_Ta_tell ml_Mu_77 (okTa_tell 55 v2 0 s1 k_55 C.l C.w) rfl (by decide) rfl (Nat.le_of_ble_eq_true rfl) dMu_oneApart_23 (fun r4 s3 => ?_)
  refine g_ceq X (tgt := 31) dMu_oneApart_26 (by decide) ?_ ?_
  · refine g_aload_n X dMu_oneApart_31 rfl ?_
    refine g_getN X fl_Mu_28 fb_2_1 k_66 r_66_1 dMu_oneApart_32 ?_
    refine g_getN X fl_Mu_137 fb_10_3 k_48 r_48_3 dMu_oneApart_35 ?_
    refine g_iload_n X dMu_oneApart_38 rfl ?_
    refine g_iconst X 1 dMu_oneApart_39 (by decide) ?_
    refine g_virtI X [.int v1, .int 1] [] k_55 mm_Ta_tell mv_Ta_tell ml_Mu_77 (okTa_tell 55 v1 1 s3 k_55 C.l C.w) rfl (by decide) rfl (Nat.le_of_ble_eq_true rfl) dMu_oneApart_40 (fun r6 s5 => ?_)
    refine g_istore X [some (.ref (C.w.ad 66)), some (.int v1), some (.int v2), some (.int r2), some (.int r6), none, none, none] dMu_oneApart_43 (by decide) (Nat.le_of_ble_eq_true rfl) rfl ?_
    refine g_aload_n X dMu_oneApart_45 rfl ?_
    refine g_getN X fl_Mu_28 fb_2_1 k_66 r_66_1 dMu_oneApart_46 ?_
    refine g_getN X fl_Mu_137 fb_10_3 k_48 r_48_3 dMu_oneApart_49 ?_
    refine g_iload_n X dMu_oneApart_52 rfl ?_
    refine g_iconst X 1 dMu_oneApart_53 (by decide) ?_
    refine g_virtI X [.int v2, .int 1] [] k_55 mm_Ta_tell mv_Ta_tell ml_Mu_77 (okTa_tell 55 v2 1 s5 k_55 C.l C.w) rfl (by decide) rfl (Nat.le_of_ble_eq_true rfl) dMu_oneApart_54 (fun r8 s7 => ?_)
    refine g_istore X [some (.ref (C.w.ad 66)), some (.int v1), some (.int v2), some (.int r2), some (.int r6), some (.int r8), none, none] dMu_oneApart_57 (by decide) (Nat.le_of_ble_eq_true rfl) rfl ?_
    refine g_iconst X 0 dMu_oneApart_59 (by decide) ?_
    refine g_istore X [some (.ref (C.w.ad 66)), some (.int v1), some (.int v2), some (.int r2), some (.int r6), some (.int r8), some (.int 0), none] dMu_oneApart_60 (by decide) (Nat.le_of_ble_eq_true rfl) rfl ?_
    refine g_iconst X 0 dMu_oneApart_62 (by decide) ?_
    refine g_istore X [some (.ref (C.w.ad 66)), some (.int v1), some (.int v2), some (.int r2), some (.int r6), some (.int r8), some (.int 0), some (.int 0)] dMu_oneApart_63 (by decide) (Nat.le_of_ble_eq_true rfl) rfl ?_
    refine gf_sub (L' := [none, none, none, some (.int r2), some (.int r6), some (.int r8), some (.int 0), some (.int 0)]) ?_ (by simp [lsub])
    refine gf_lp (Lf := fun (u65 : Int32 × Int32 × Int32 × Int32) => [none, none, none, some (.int r2), some (.int u65.1), some (.int u65.2.1), some (.int u65.2.2.1), some (.int u65.2.2.2)]) (fun q65 hq65 u65 s9 => ?_) FU (r6, r8, 0, 0) s7
    refine g_iload X dMu_oneApart_65 rfl ?_
    refine g_iload_n X dMu_oneApart_67 rfl ?_
    refine g_cge X (tgt := 107) dMu_oneApart_68 (by decide) ?_ ?_
    · refine g_iload X dMu_oneApart_107 rfl ?_
      refine g_iconst X 1 dMu_oneApart_109 (by decide) ?_
      refine g_cne X (tgt := 117) dMu_oneApart_110 (by decide) ?_ ?_
      · refine g_iconst X 1 dMu_oneApart_113 (by decide) ?_
        refine g_goto X 118 dMu_oneApart_114 (by decide) ?_
        exact g_zret X E dMu_oneApart_118
      · refine g_iconst X 0 dMu_oneApart_117 (by decide) ?_
        exact g_zret X E dMu_oneApart_118
    · refine g_iload X dMu_oneApart_71 rfl ?_
      refine g_bipush X 10 dMu_oneApart_73 (by decide) ?_
      refine g_irem X dMu_oneApart_75 ?_
      refine g_iload X dMu_oneApart_76 rfl ?_
      refine g_bipush X 10 dMu_oneApart_78 (by decide) ?_
      refine g_irem X dMu_oneApart_80 ?_
      refine gf_jn (fun j87 => ∀ (a87_6 : Int32) (s10 : Sg), GF C evI 87 [none, none, none, some (.int r2), some (.int u65.1), some (.int u65.2.1), some (.int a87_6), some (.int u65.2.2.2)] [] s10 (j87 a87_6 s10)) ?_ ?_
      · intro a87_6 s10
        refine g_iload X dMu_oneApart_87 rfl ?_
        refine g_bipush X 10 dMu_oneApart_89 (by decide) ?_
        refine g_idiv X dMu_oneApart_91 ?_
        refine g_istore X [none, none, none, some (.int r2), some (.int (u65.1 / 10)), some (.int u65.2.1), some (.int a87_6), some (.int u65.2.2.2)] dMu_oneApart_92 (by decide) (Nat.le_of_ble_eq_true rfl) rfl ?_
        refine g_iload X dMu_oneApart_94 rfl ?_
        refine g_bipush X 10 dMu_oneApart_96 (by decide) ?_
        refine g_idiv X dMu_oneApart_98 ?_
        refine g_istore X [none, none, none, some (.int r2), some (.int (u65.1 / 10)), some (.int (u65.2.1 / 10)), some (.int a87_6), some (.int u65.2.2.2)] dMu_oneApart_99 (by decide) (Nat.le_of_ble_eq_true rfl) rfl ?_
        refine g_iinc X (u65.2.2.2 + 1) [none, none, none, some (.int r2), some (.int (u65.1 / 10)), some (.int (u65.2.1 / 10)), some (.int a87_6), some (.int (u65.2.2.2 + 1))] dMu_oneApart_101 rfl rfl (by decide) rfl ?_
        refine g_goto X 65 dMu_oneApart_104 (by decide) ?_
        exact gf_sub (hq65 ((u65.1 / 10), (u65.2.1 / 10), a87_6, (u65.2.2.2 + 1)) s10) (by simp [lsub])
      · intro j87 hj87
        refine g_ceq X (tgt := 87) dMu_oneApart_81 (by decide) ?_ ?_
        · exact gf_sub (hj87 u65.2.2.1 s9) (by simp [lsub])
        · refine g_iinc X (u65.2.2.1 + 1) [none, none, none, some (.int r2), some (.int u65.1), some (.int u65.2.1), some (.int (u65.2.2.1 + 1)), some (.int u65.2.2.2)] dMu_oneApart_84 rfl rfl (by decide) rfl ?_
          exact gf_sub (hj87 (u65.2.2.1 + 1) s9) (by simp [lsub])
  · refine g_iconst X 0 dMu_oneApart_29 (by decide) ?_
    exact g_zret X E dMu_oneApart_30
def yMu_seat : MethodName := ⟨"LastWordHill$Muse", "seat", "(LLastWordHill$Muse;IIII)V"⟩
abbrev cMu_seat : ByteArray := prog_4_method_26_code
theorem dMu_seat_0 : decode cMu_seat 0 = .ok (.aload_n 0, 1) := by decide +kernel
theorem dMu_seat_1 : decode cMu_seat 1 = .ok (.getfield 28, 3) := by decide +kernel
theorem dMu_seat_4 : decode cMu_seat 4 = .ok (.getfield 150, 3) := by decide +kernel
theorem fl_Mu_150 : FLk "LastWordHill$Muse" 150 10 4 := ⟨_, _, _, rfl, by decide, hz_in 433 (by decide +kernel) (by decide +kernel), nL10, by decide, by decide⟩
theorem dMu_seat_7 : decode cMu_seat 7 = .ok (.astore 5, 2) := by decide +kernel
theorem dMu_seat_9 : decode cMu_seat 9 = .ok (.iload 4, 2) := by decide +kernel
theorem dMu_seat_11 : decode cMu_seat 11 = .ok (.aload 5, 2) := by decide +kernel
theorem dMu_seat_13 : decode cMu_seat 13 = .ok (.getfield 72, 3) := by decide +kernel
theorem dMu_seat_16 : decode cMu_seat 16 = .ok (.iadd, 1) := by decide +kernel
theorem dMu_seat_17 : decode cMu_seat 17 = .ok (.iload_n 2, 1) := by decide +kernel
theorem dMu_seat_18 : decode cMu_seat 18 = .ok (.isub, 1) := by decide +kernel
theorem dMu_seat_19 : decode cMu_seat 19 = .ok (.aload_n 0, 1) := by decide +kernel
theorem dMu_seat_20 : decode cMu_seat 20 = .ok (.getfield 140, 3) := by decide +kernel
theorem fl_Mu_140 : FLk "LastWordHill$Muse" 140 2 6 := ⟨_, _, _, rfl, by decide, hz_in 498 (by decide +kernel) (by decide +kernel), nL2, by decide, by decide⟩
theorem fb_2_6 : (hz_bs 2)[6]? = some false := by decide
theorem dMu_seat_23 : decode cMu_seat 23 = .ok (.if_icmp .gt 4, 3) := by decide +kernel
theorem dMu_seat_27 : decode cMu_seat 27 = .ok (.iload_n 2, 1) := by decide +kernel
theorem dMu_seat_28 : decode cMu_seat 28 = .ok (.aload 5, 2) := by decide +kernel
theorem dMu_seat_30 : decode cMu_seat 30 = .ok (.getfield 72, 3) := by decide +kernel
theorem dMu_seat_33 : decode cMu_seat 33 = .ok (.if_icmp .ge 13, 3) := by decide +kernel
theorem dMu_seat_46 : decode cMu_seat 46 = .ok (.aload_n 0, 1) := by decide +kernel
theorem dMu_seat_47 : decode cMu_seat 47 = .ok (.iload 4, 2) := by decide +kernel
theorem dMu_seat_49 : decode cMu_seat 49 = .ok (.putfield 140, 3) := by decide +kernel
theorem fp_2_6 : FLp 2 6 .int := ⟨_, _, _, _, rfl, nY2, nN2, by decide, by decide⟩
theorem dMu_seat_52 : decode cMu_seat 52 = .ok (.aload_n 0, 1) := by decide +kernel
theorem dMu_seat_53 : decode cMu_seat 53 = .ok (.getfield 15, 3) := by decide +kernel
theorem fl_Mu_15 : FLk "LastWordHill$Muse" 15 2 3 := ⟨_, _, _, rfl, by decide, hz_in 495 (by decide +kernel) (by decide +kernel), nL2, by decide, by decide⟩
theorem k_68 : hz_kd 68 = 13 := by decide
theorem fb_2_3 : (hz_bs 2)[3]? = some true := by decide
theorem r_66_3 : hz_rf 66 3 = 68 := by decide
theorem dMu_seat_56 : decode cMu_seat 56 = .ok (.iconst 0, 1) := by decide +kernel
theorem dMu_seat_57 : decode cMu_seat 57 = .ok (.aload_n 0, 1) := by decide +kernel
theorem dMu_seat_58 : decode cMu_seat 58 = .ok (.getfield 18, 3) := by decide +kernel
theorem fl_Mu_18 : FLk "LastWordHill$Muse" 18 2 4 := ⟨_, _, _, rfl, by decide, hz_in 496 (by decide +kernel) (by decide +kernel), nL2, by decide, by decide⟩
theorem k_69 : hz_kd 69 = 13 := by decide
theorem fb_2_4 : (hz_bs 2)[4]? = some true := by decide
theorem r_66_4 : hz_rf 66 4 = 69 := by decide
theorem dMu_seat_61 : decode cMu_seat 61 = .ok (.iconst 0, 1) := by decide +kernel
theorem dMu_seat_62 : decode cMu_seat 62 = .ok (.bipush 6, 2) := by decide +kernel
theorem dMu_seat_64 : decode cMu_seat 64 = .ok (.invokestatic 153, 3) := by decide +kernel
theorem ln_68 : hz_ln 68 = 6 := by decide
theorem ln_69 : hz_ln 69 = 6 := by decide
theorem ml_Mu_153 : Cond.methodLink "LastWordHill$Muse" 153 arraycopyName ∈ hz_wt := hz_in 1275 (by decide +kernel) (by decide +kernel)
theorem dMu_seat_67 : decode cMu_seat 67 = .ok (.return_, 1) := by decide +kernel
theorem dMu_seat_36 : decode cMu_seat 36 = .ok (.iload_n 2, 1) := by decide +kernel
theorem dMu_seat_37 : decode cMu_seat 37 = .ok (.ifCond .lt 9, 3) := by decide +kernel
theorem dMu_seat_40 : decode cMu_seat 40 = .ok (.iload_n 2, 1) := by decide +kernel
theorem dMu_seat_41 : decode cMu_seat 41 = .ok (.bipush 6, 2) := by decide +kernel
theorem dMu_seat_43 : decode cMu_seat 43 = .ok (.if_icmp .lt 25, 3) := by decide +kernel
theorem dMu_seat_68 : decode cMu_seat 68 = .ok (.iconst 0, 1) := by decide +kernel
theorem dMu_seat_69 : decode cMu_seat 69 = .ok (.istore 6, 2) := by decide +kernel
theorem dMu_seat_71 : decode cMu_seat 71 = .ok (.iload 6, 2) := by decide +kernel
theorem dMu_seat_73 : decode cMu_seat 73 = .ok (.aload 5, 2) := by decide +kernel
theorem dMu_seat_75 : decode cMu_seat 75 = .ok (.getfield 72, 3) := by decide +kernel
theorem dMu_seat_78 : decode cMu_seat 78 = .ok (.if_icmp .ge 88, 3) := by decide +kernel
theorem dMu_seat_166 : decode cMu_seat 166 = .ok (.return_, 1) := by decide +kernel
theorem dMu_seat_81 : decode cMu_seat 81 = .ok (.iload_n 1, 1) := by decide +kernel
theorem dMu_seat_82 : decode cMu_seat 82 = .ok (.iload 6, 2) := by decide +kernel
theorem dMu_seat_84 : decode cMu_seat 84 = .ok (.ishr, 1) := by decide +kernel
theorem dMu_seat_85 : decode cMu_seat 85 = .ok (.iconst 1, 1) := by decide +kernel
theorem dMu_seat_86 : decode cMu_seat 86 = .ok (.iand, 1) := by decide +kernel
theorem dMu_seat_87 : decode cMu_seat 87 = .ok (.iconst 1, 1) := by decide +kernel
theorem dMu_seat_88 : decode cMu_seat 88 = .ok (.if_icmp .ne 6, 3) := by decide +kernel
theorem dMu_seat_160 : decode cMu_seat 160 = .ok (.iinc 6 1, 3) := by decide +kernel
theorem dMu_seat_163 : decode cMu_seat 163 = .ok (.goto (-92), 3) := by decide +kernel
theorem dMu_seat_94 : decode cMu_seat 94 = .ok (.aload_n 0, 1) := by decide +kernel
theorem dMu_seat_95 : decode cMu_seat 95 = .ok (.getfield 15, 3) := by decide +kernel
theorem dMu_seat_98 : decode cMu_seat 98 = .ok (.iload_n 2, 1) := by decide +kernel
theorem dMu_seat_99 : decode cMu_seat 99 = .ok (.iload 6, 2) := by decide +kernel
theorem dMu_seat_101 : decode cMu_seat 101 = .ok (.iastore, 1) := by decide +kernel
theorem dMu_seat_102 : decode cMu_seat 102 = .ok (.iload_n 3, 1) := by decide +kernel
theorem dMu_seat_103 : decode cMu_seat 103 = .ok (.aload 5, 2) := by decide +kernel
theorem dMu_seat_105 : decode cMu_seat 105 = .ok (.iload 6, 2) := by decide +kernel
theorem dMu_seat_107 : decode cMu_seat 107 = .ok (.iconst 1, 1) := by decide +kernel
theorem dMu_seat_108 : decode cMu_seat 108 = .ok (.invokevirtual 77, 3) := by decide +kernel
theorem dMu_seat_111 : decode cMu_seat 111 = .ok (.if_icmp .le 22, 3) := by decide +kernel
theorem dMu_seat_133 : decode cMu_seat 133 = .ok (.aload_n 0, 1) := by decide +kernel
theorem dMu_seat_134 : decode cMu_seat 134 = .ok (.iload_n 1, 1) := by decide +kernel
theorem dMu_seat_135 : decode cMu_seat 135 = .ok (.iconst 1, 1) := by decide +kernel
theorem dMu_seat_136 : decode cMu_seat 136 = .ok (.iload 6, 2) := by decide +kernel
theorem dMu_seat_138 : decode cMu_seat 138 = .ok (.ishl, 1) := by decide +kernel
theorem dMu_seat_139 : decode cMu_seat 139 = .ok (.ior, 1) := by decide +kernel
theorem dMu_seat_140 : decode cMu_seat 140 = .ok (.iload_n 2, 1) := by decide +kernel
theorem dMu_seat_141 : decode cMu_seat 141 = .ok (.iconst 1, 1) := by decide +kernel
theorem dMu_seat_142 : decode cMu_seat 142 = .ok (.iadd, 1) := by decide +kernel
theorem dMu_seat_143 : decode cMu_seat 143 = .ok (.iload_n 3, 1) := by decide +kernel
theorem dMu_seat_144 : decode cMu_seat 144 = .ok (.aload 5, 2) := by decide +kernel
theorem dMu_seat_146 : decode cMu_seat 146 = .ok (.iload 6, 2) := by decide +kernel
theorem dMu_seat_148 : decode cMu_seat 148 = .ok (.iconst 0, 1) := by decide +kernel
theorem dMu_seat_149 : decode cMu_seat 149 = .ok (.invokevirtual 77, 3) := by decide +kernel
theorem dMu_seat_152 : decode cMu_seat 152 = .ok (.iadd, 1) := by decide +kernel
theorem dMu_seat_153 : decode cMu_seat 153 = .ok (.iload 4, 2) := by decide +kernel
theorem dMu_seat_155 : decode cMu_seat 155 = .ok (.iconst 1, 1) := by decide +kernel
theorem dMu_seat_156 : decode cMu_seat 156 = .ok (.iadd, 1) := by decide +kernel
theorem dMu_seat_157 : decode cMu_seat 157 = .ok (.invokestatic 143, 3) := by decide +kernel
theorem mm_Mu_seat : MMc yMu_seat cMu_seat 7 none 5 := ⟨hz_in 1274 (by decide +kernel) (by decide +kernel), hz_in 145 (by decide +kernel) (by decide +kernel), by decide +kernel, by decide⟩
theorem ms_Mu_seat : Cond.static yMu_seat ∈ hz_wt := hz_in 1273 (by decide +kernel) (by decide +kernel)
theorem ml_Mu_143 : Cond.methodLink "LastWordHill$Muse" 143 yMu_seat ∈ hz_wt := hz_in 1272 (by decide +kernel) (by decide +kernel)
theorem dMu_seat_114 : decode cMu_seat 114 = .ok (.aload_n 0, 1) := by decide +kernel
theorem dMu_seat_115 : decode cMu_seat 115 = .ok (.iload_n 1, 1) := by decide +kernel
theorem dMu_seat_116 : decode cMu_seat 116 = .ok (.iconst 1, 1) := by decide +kernel
theorem dMu_seat_117 : decode cMu_seat 117 = .ok (.iload 6, 2) := by decide +kernel
theorem dMu_seat_119 : decode cMu_seat 119 = .ok (.ishl, 1) := by decide +kernel
theorem dMu_seat_120 : decode cMu_seat 120 = .ok (.ior, 1) := by decide +kernel
theorem dMu_seat_121 : decode cMu_seat 121 = .ok (.iload_n 2, 1) := by decide +kernel
theorem dMu_seat_122 : decode cMu_seat 122 = .ok (.iconst 1, 1) := by decide +kernel
theorem dMu_seat_123 : decode cMu_seat 123 = .ok (.iadd, 1) := by decide +kernel
theorem dMu_seat_124 : decode cMu_seat 124 = .ok (.iload_n 3, 1) := by decide +kernel
theorem dMu_seat_125 : decode cMu_seat 125 = .ok (.iload 4, 2) := by decide +kernel
theorem dMu_seat_127 : decode cMu_seat 127 = .ok (.invokestatic 143, 3) := by decide +kernel
theorem dMu_seat_130 : decode cMu_seat 130 = .ok (.goto 30, 3) := by decide +kernel
theorem dMu_seat_91 : decode cMu_seat 91 = .ok (.goto 69, 3) := by decide +kernel
theorem dMu_seat_26 : decode cMu_seat 26 = .ok (.return_, 1) := by decide +kernel
def fMu_seatB (rec : Int32 → Int32 → Int32 → Int32 → Sg → Option (Sg)) (v1 : Int32) (v2 : Int32) (v3 : Int32) (v4 : Int32) (s0 : Sg) : Option (Sg) := if (s0 66 6) < ((v4 + (s0 57 3)) - v2) then (bnd (fun (s1 : Sg) => bnd (pt s1 66 6 v4) fun s2 => bv (cpy s2 68 6 0 69 6 0 6) fun s3 => some s3) fun j46 => if (s0 57 3) ≤ v2 then (j46 s0) else (if v2 < 0 then (j46 s0) else (if v2 < 6 then (lp FU (fun q71 (u71 : Int32) (s4 : Sg) => if (s4 57 3) ≤ u71 then (some s4) else (bnd (fun (s5 : Sg) => q71 (u71 + 1) s5) fun j160 => if ((v1 >>> (u71 &&& 31)) &&& 1) = 1 then (j160 s4) else (gd v2 6 (bnd (pt s4 68 (ix v2) u71) fun s6 => bi (fTa_tell 57 u71 1 s6) fun r8 s7 => if v3 ≤ r8 then (bi (fTa_tell 57 u71 0 s7) fun r10 s9 => bv (rec (v1 ||| (1 <<< (u71 &&& 31))) (v2 + 1) (v3 + r10) (v4 + 1) s9) fun s11 => j160 s11) else (bv (rec (v1 ||| (1 <<< (u71 &&& 31))) (v2 + 1) v3 v4 s7) fun s12 => j160 s12))))) 0 s0) else (j46 s0)))) else (some s0)
set_option maxHeartbeats 4000000 in
set_option maxRecDepth 100000 in
theorem okMu_seatB (rec : Int32 → Int32 → Int32 → Int32 → Sg → Option (Sg)) (d0 : Nat) (hd0 : 2 ≤ d0) (hrec : ∀ (v1 : Int32) (v2 : Int32) (v3 : Int32) (v4 : Int32) (s0 : Sg) (l : Launch) (w : WC), Ok l w yMu_seat cMu_seat 7 none d0 evV [.ref (w.ad 66), .int v1, .int v2, .int v3, .int v4] s0 (rec v1 v2 v3 v4 s0)) (v1 : Int32) (v2 : Int32) (v3 : Int32) (v4 : Int32) (s0 : Sg) : ∀ (l : Launch) (w : WC), Ok l w yMu_seat cMu_seat 7 none (d0 + 1) evV [.ref (w.ad 66), .int v1, .int v2, .int v3, .int v4] s0 (fMu_seatB rec v1 v2 v3 v4 s0) := by
  refine ok_in (ev := fun _ => evV) (av := fun w => [.ref (w.ad 66), .int v1, .int v2, .int v3, .int v4]) "LastWordHill$Muse" rfl (by decide +kernel) (fun _ => rfl) (fun _ => Nat.le_of_ble_eq_true rfl) ?_
  intro C X E
  show GF C evV 0 [some (.ref (C.w.ad 66)), some (.int v1), some (.int v2), some (.int v3), some (.int v4), none, none] [] s0 (fMu_seatB rec v1 v2 v3 v4 s0)
  unfold fMu_seatB
  refine g_aload_n X dMu_seat_0 rfl ?_
  refine g_getN X fl_Mu_28 fb_2_1 k_66 r_66_1 dMu_seat_1 ?_
  refine g_getN X fl_Mu_150 fb_10_4 k_48 r_48_4 dMu_seat_4 ?_
  refine g_astore X [some (.ref (C.w.ad 66)), some (.int v1), some (.int v2), some (.int v3), some (.int v4), some (.ref (C.w.ad 57)), none] dMu_seat_7 (by decide) (Nat.le_of_ble_eq_true rfl) rfl ?_
  refine g_iload X dMu_seat_9 rfl ?_
  refine g_aload X dMu_seat_11 rfl ?_
  refine g_getI X fl_Mu_72 fb_7_3 k_57 dMu_seat_13 ?_
  refine g_iadd X dMu_seat_16 ?_
  refine g_iload_n X dMu_seat_17 rfl ?_
  refine g_isub X dMu_seat_18 ?_
  refine g_aload_n X dMu_seat_19 rfl ?_
  refine g_getI X fl_Mu_140 fb_2_6 k_66 dMu_seat_20 ?_
  refine g_cgt X (tgt := 27) dMu_seat_23 (by decide) ?_ ?_
  · refine g_iload_n X dMu_seat_27 rfl ?_
    refine g_aload X dMu_seat_28 rfl ?_
    refine g_getI X fl_Mu_72 fb_7_3 k_57 dMu_seat_30 ?_
    refine gf_jn (fun j46 => ∀ (s1 : Sg), GF C evV 46 [some (.ref (C.w.ad 66)), none, none, none, some (.int v4), none, none] [] s1 (j46 s1)) ?_ ?_
    · intro s1
      refine g_aload_n X dMu_seat_46 rfl ?_
      refine g_iload X dMu_seat_47 rfl ?_
      refine g_putI X fl_Mu_140 fb_2_6 fp_2_6 k_66 dMu_seat_49 (fun s2 => ?_)
      refine g_aload_n X dMu_seat_52 rfl ?_
      refine g_getN X fl_Mu_15 fb_2_3 k_66 r_66_3 dMu_seat_53 ?_
      refine g_iconst X 0 dMu_seat_56 (by decide) ?_
      refine g_aload_n X dMu_seat_57 rfl ?_
      refine g_getN X fl_Mu_18 fb_2_4 k_66 r_66_4 dMu_seat_58 ?_
      refine g_iconst X 0 dMu_seat_61 (by decide) ?_
      refine g_bipush X 6 dMu_seat_62 (by decide) ?_
      refine g_acopy X k_68 ln_68 k_69 ln_69 ml_Mu_153 dMu_seat_64 (by omega) (Nat.le_of_ble_eq_true rfl) (fun s3 => ?_)
      exact g_vret X E dMu_seat_67
    · intro j46 hj46
      refine g_cge X (tgt := 46) dMu_seat_33 (by decide) ?_ ?_
      · exact gf_sub (hj46 s0) (by simp [lsub])
      · refine g_iload_n X dMu_seat_36 rfl ?_
        refine g_zlt X (tgt := 46) dMu_seat_37 (by decide) ?_ ?_
        · exact gf_sub (hj46 s0) (by simp [lsub])
        · refine g_iload_n X dMu_seat_40 rfl ?_
          refine g_bipush X 6 dMu_seat_41 (by decide) ?_
          refine g_clt X (tgt := 68) dMu_seat_43 (by decide) ?_ ?_
          · refine g_iconst X 0 dMu_seat_68 (by decide) ?_
            refine g_istore X [some (.ref (C.w.ad 66)), some (.int v1), some (.int v2), some (.int v3), some (.int v4), some (.ref (C.w.ad 57)), some (.int 0)] dMu_seat_69 (by decide) (Nat.le_of_ble_eq_true rfl) rfl ?_
            refine gf_sub (L' := [some (.ref (C.w.ad 66)), some (.int v1), some (.int v2), some (.int v3), some (.int v4), some (.ref (C.w.ad 57)), some (.int 0)]) ?_ (by simp [lsub])
            refine gf_lp (Lf := fun (u71 : Int32) => [some (.ref (C.w.ad 66)), some (.int v1), some (.int v2), some (.int v3), some (.int v4), some (.ref (C.w.ad 57)), some (.int u71)]) (fun q71 hq71 u71 s4 => ?_) FU 0 s0
            refine g_iload X dMu_seat_71 rfl ?_
            refine g_aload X dMu_seat_73 rfl ?_
            refine g_getI X fl_Mu_72 fb_7_3 k_57 dMu_seat_75 ?_
            refine g_cge X (tgt := 166) dMu_seat_78 (by decide) ?_ ?_
            · exact g_vret X E dMu_seat_166
            · refine g_iload_n X dMu_seat_81 rfl ?_
              refine g_iload X dMu_seat_82 rfl ?_
              refine g_ishr X dMu_seat_84 ?_
              refine g_iconst X 1 dMu_seat_85 (by decide) ?_
              refine g_iand X dMu_seat_86 ?_
              refine g_iconst X 1 dMu_seat_87 (by decide) ?_
              refine gf_jn (fun j160 => ∀ (s5 : Sg), GF C evV 160 [some (.ref (C.w.ad 66)), some (.int v1), some (.int v2), some (.int v3), some (.int v4), some (.ref (C.w.ad 57)), some (.int u71)] [] s5 (j160 s5)) ?_ ?_
              · intro s5
                refine g_iinc X (u71 + 1) [some (.ref (C.w.ad 66)), some (.int v1), some (.int v2), some (.int v3), some (.int v4), some (.ref (C.w.ad 57)), some (.int (u71 + 1))] dMu_seat_160 rfl rfl (by decide) rfl ?_
                refine g_goto X 71 dMu_seat_163 (by decide) ?_
                exact gf_sub (hq71 (u71 + 1) s5) (by simp [lsub])
              · intro j160 hj160
                refine g_cne X (tgt := 94) dMu_seat_88 (by decide) ?_ ?_
                · refine g_goto X 160 dMu_seat_91 (by decide) ?_
                  exact gf_sub (hj160 s4) (by simp [lsub])
                · refine g_aload_n X dMu_seat_94 rfl ?_
                  refine g_getN X fl_Mu_15 fb_2_3 k_66 r_66_3 dMu_seat_95 ?_
                  refine g_iload_n X dMu_seat_98 rfl ?_
                  refine g_iload X dMu_seat_99 rfl ?_
                  refine g_iast X k_68 ln_68 dMu_seat_101 (fun s6 => ?_)
                  refine g_iload_n X dMu_seat_102 rfl ?_
                  refine g_aload X dMu_seat_103 rfl ?_
                  refine g_iload X dMu_seat_105 rfl ?_
                  refine g_iconst X 1 dMu_seat_107 (by decide) ?_
                  refine g_virtI X [.int u71, .int 1] [.int v3] k_57 mm_Ta_tell mv_Ta_tell ml_Mu_77 (okTa_tell 57 u71 1 s6 k_57 C.l C.w) rfl (by omega) rfl (Nat.le_of_ble_eq_true rfl) dMu_seat_108 (fun r8 s7 => ?_)
                  refine g_cle X (tgt := 133) dMu_seat_111 (by decide) ?_ ?_
                  · refine g_aload_n X dMu_seat_133 rfl ?_
                    refine g_iload_n X dMu_seat_134 rfl ?_
                    refine g_iconst X 1 dMu_seat_135 (by decide) ?_
                    refine g_iload X dMu_seat_136 rfl ?_
                    refine g_ishl X dMu_seat_138 ?_
                    refine g_ior X dMu_seat_139 ?_
                    refine g_iload_n X dMu_seat_140 rfl ?_
                    refine g_iconst X 1 dMu_seat_141 (by decide) ?_
                    refine g_iadd X dMu_seat_142 ?_
                    refine g_iload_n X dMu_seat_143 rfl ?_
                    refine g_aload X dMu_seat_144 rfl ?_
                    refine g_iload X dMu_seat_146 rfl ?_
                    refine g_iconst X 0 dMu_seat_148 (by decide) ?_
                    refine g_virtI X [.int u71, .int 0] [.int v3, .int (v2 + 1), .int (v1 ||| (1 <<< (u71 &&& 31))), .ref (C.w.ad 66)] k_57 mm_Ta_tell mv_Ta_tell ml_Mu_77 (okTa_tell 57 u71 0 s7 k_57 C.l C.w) rfl (by omega) rfl (Nat.le_of_ble_eq_true rfl) dMu_seat_149 (fun r10 s9 => ?_)
                    refine g_iadd X dMu_seat_152 ?_
                    refine g_iload X dMu_seat_153 rfl ?_
                    refine g_iconst X 1 dMu_seat_155 (by decide) ?_
                    refine g_iadd X dMu_seat_156 ?_
                    refine g_statV X [.ref (C.w.ad 66), .int (v1 ||| (1 <<< (u71 &&& 31))), .int (v2 + 1), .int (v3 + r10), .int (v4 + 1)] [] mm_Mu_seat ms_Mu_seat ml_Mu_143 (hrec (v1 ||| (1 <<< (u71 &&& 31))) (v2 + 1) (v3 + r10) (v4 + 1) s9 C.l C.w) rfl (by omega) rfl (Nat.le_of_ble_eq_true rfl) dMu_seat_157 (fun s11 => ?_)
                    exact gf_sub (hj160 s11) (by simp [lsub])
                  · refine g_aload_n X dMu_seat_114 rfl ?_
                    refine g_iload_n X dMu_seat_115 rfl ?_
                    refine g_iconst X 1 dMu_seat_116 (by decide) ?_
                    refine g_iload X dMu_seat_117 rfl ?_
                    refine g_ishl X dMu_seat_119 ?_
                    refine g_ior X dMu_seat_120 ?_
                    refine g_iload_n X dMu_seat_121 rfl ?_
                    refine g_iconst X 1 dMu_seat_122 (by decide) ?_
                    refine g_iadd X dMu_seat_123 ?_
                    refine g_iload_n X dMu_seat_124 rfl ?_
                    refine g_iload X dMu_seat_125 rfl ?_
                    refine g_statV X [.ref (C.w.ad 66), .int (v1 ||| (1 <<< (u71 &&& 31))), .int (v2 + 1), .int v3, .int v4] [] mm_Mu_seat ms_Mu_seat ml_Mu_143 (hrec (v1 ||| (1 <<< (u71 &&& 31))) (v2 + 1) v3 v4 s7 C.l C.w) rfl (by omega) rfl (Nat.le_of_ble_eq_true rfl) dMu_seat_127 (fun s12 => ?_)
                    refine g_goto X 160 dMu_seat_130 (by decide) ?_
                    exact gf_sub (hj160 s12) (by simp [lsub])
          · exact gf_sub (hj46 s0) (by simp [lsub])
  · exact g_vret X E dMu_seat_26
def fMu_seat : Nat → Int32 → Int32 → Int32 → Int32 → Sg → Option (Sg)
  | 0 => fun _ _ _ _ _ => none
  | n + 1 => fMu_seatB (fMu_seat n)
theorem okMu_seat : ∀ (n : Nat) (v1 : Int32) (v2 : Int32) (v3 : Int32) (v4 : Int32) (s0 : Sg) (l : Launch) (w : WC), Ok l w yMu_seat cMu_seat 7 none (2 + n) evV [.ref (w.ad 66), .int v1, .int v2, .int v3, .int v4] s0 (fMu_seat n v1 v2 v3 v4 s0)
  | 0, _, _, _, _, _, _, _ => fun z h => by cases h
  | n + 1, v1, v2, v3, v4, s0, l, w => okMu_seatB (fMu_seat n) (2 + n) (by omega) (okMu_seat n) v1 v2 v3 v4 s0  l w
def yMu_isHeard : MethodName := ⟨"LastWordHill$Muse", "isHeard", "(II)Z"⟩
abbrev cMu_isHeard : ByteArray := prog_4_method_32_code
theorem dMu_isHeard_0 : decode cMu_isHeard 0 = .ok (.iconst 0, 1) := by decide +kernel
theorem dMu_isHeard_1 : decode cMu_isHeard 1 = .ok (.iload_n 1, 1) := by decide +kernel
theorem dMu_isHeard_2 : decode cMu_isHeard 2 = .ok (.iload_n 2, 1) := by decide +kernel
theorem dMu_isHeard_3 : decode cMu_isHeard 3 = .ok (.isub, 1) := by decide +kernel
theorem dMu_isHeard_4 : decode cMu_isHeard 4 = .ok (.invokestatic 91, 3) := by decide +kernel
theorem dMu_isHeard_7 : decode cMu_isHeard 7 = .ok (.istore_n 3, 1) := by decide +kernel
theorem dMu_isHeard_8 : decode cMu_isHeard 8 = .ok (.iload_n 3, 1) := by decide +kernel
theorem dMu_isHeard_9 : decode cMu_isHeard 9 = .ok (.iload_n 1, 1) := by decide +kernel
theorem dMu_isHeard_10 : decode cMu_isHeard 10 = .ok (.if_icmp .ge 38, 3) := by decide +kernel
theorem dMu_isHeard_48 : decode cMu_isHeard 48 = .ok (.iconst 1, 1) := by decide +kernel
theorem dMu_isHeard_49 : decode cMu_isHeard 49 = .ok (.ireturn, 1) := by decide +kernel
theorem dMu_isHeard_13 : decode cMu_isHeard 13 = .ok (.aload_n 0, 1) := by decide +kernel
theorem dMu_isHeard_14 : decode cMu_isHeard 14 = .ok (.getfield 28, 3) := by decide +kernel
theorem dMu_isHeard_17 : decode cMu_isHeard 17 = .ok (.getfield 177, 3) := by decide +kernel
theorem fl_Mu_177 : FLk "LastWordHill$Muse" 177 10 5 := ⟨_, _, _, rfl, by decide, hz_in 436 (by decide +kernel) (by decide +kernel), nL10, by decide, by decide⟩
theorem dMu_isHeard_20 : decode cMu_isHeard 20 = .ok (.iload_n 3, 1) := by decide +kernel
theorem dMu_isHeard_21 : decode cMu_isHeard 21 = .ok (.iconst 0, 1) := by decide +kernel
theorem dMu_isHeard_22 : decode cMu_isHeard 22 = .ok (.invokevirtual 77, 3) := by decide +kernel
theorem dMu_isHeard_25 : decode cMu_isHeard 25 = .ok (.aload_n 0, 1) := by decide +kernel
theorem dMu_isHeard_26 : decode cMu_isHeard 26 = .ok (.getfield 28, 3) := by decide +kernel
theorem dMu_isHeard_29 : decode cMu_isHeard 29 = .ok (.getfield 177, 3) := by decide +kernel
theorem dMu_isHeard_32 : decode cMu_isHeard 32 = .ok (.iload_n 1, 1) := by decide +kernel
theorem dMu_isHeard_33 : decode cMu_isHeard 33 = .ok (.iconst 0, 1) := by decide +kernel
theorem dMu_isHeard_34 : decode cMu_isHeard 34 = .ok (.invokevirtual 77, 3) := by decide +kernel
theorem dMu_isHeard_37 : decode cMu_isHeard 37 = .ok (.if_icmp .lt 5, 3) := by decide +kernel
theorem dMu_isHeard_42 : decode cMu_isHeard 42 = .ok (.iinc 3 1, 3) := by decide +kernel
theorem dMu_isHeard_45 : decode cMu_isHeard 45 = .ok (.goto (-37), 3) := by decide +kernel
theorem dMu_isHeard_40 : decode cMu_isHeard 40 = .ok (.iconst 0, 1) := by decide +kernel
theorem dMu_isHeard_41 : decode cMu_isHeard 41 = .ok (.ireturn, 1) := by decide +kernel
def fMu_isHeard (v1 : Int32) (v2 : Int32) (s0 : Sg) : Option (Int32 × Sg) := bi (fJ9_max_7cf53 0 (v1 - v2) s0) fun r2 s1 => lp FU (fun q8 (u8 : Int32) (s3 : Sg) => if v1 ≤ u8 then (gb 1 (some (1, s3))) else (bi (fTa_tell 59 u8 0 s3) fun r5 s4 => bi (fTa_tell 59 v1 0 s4) fun r7 s6 => if r5 < r7 then (q8 (u8 + 1) s6) else (gb 0 (some (0, s6))))) r2 s1
set_option maxHeartbeats 4000000 in
set_option maxRecDepth 100000 in
theorem okMu_isHeard (v1 : Int32) (v2 : Int32) (s0 : Sg) : ∀ (l : Launch) (w : WC), Ok l w yMu_isHeard cMu_isHeard 4 (some .boolean) 3 evI [.ref (w.ad 66), .int v1, .int v2] s0 (fMu_isHeard v1 v2 s0) := by
  refine ok_in (ev := fun _ => evI) (av := fun w => [.ref (w.ad 66), .int v1, .int v2]) "LastWordHill$Muse" rfl (by decide +kernel) (fun _ => rfl) (fun _ => Nat.le_of_ble_eq_true rfl) ?_
  intro C X E
  show GF C evI 0 [some (.ref (C.w.ad 66)), some (.int v1), some (.int v2), none] [] s0 (fMu_isHeard v1 v2 s0)
  unfold fMu_isHeard
  refine g_iconst X 0 dMu_isHeard_0 (by decide) ?_
  refine g_iload_n X dMu_isHeard_1 rfl ?_
  refine g_iload_n X dMu_isHeard_2 rfl ?_
  refine g_isub X dMu_isHeard_3 ?_
  refine g_statI X [.int 0, .int (v1 - v2)] [] mm_J9_max_7cf53 ms_J9_max_7cf53 ml_Mu_91 (okJ9_max_7cf53 0 (v1 - v2) s0 C.l C.w) rfl (by decide) rfl (Nat.le_of_ble_eq_true rfl) dMu_isHeard_4 (fun r2 s1 => ?_)
  refine g_istore_n X [some (.ref (C.w.ad 66)), some (.int v1), some (.int v2), some (.int r2)] dMu_isHeard_7 (by decide) (Nat.le_of_ble_eq_true rfl) rfl ?_
  refine gf_sub (L' := [some (.ref (C.w.ad 66)), some (.int v1), none, some (.int r2)]) ?_ (by simp [lsub])
  refine gf_lp (Lf := fun (u8 : Int32) => [some (.ref (C.w.ad 66)), some (.int v1), none, some (.int u8)]) (fun q8 hq8 u8 s3 => ?_) FU r2 s1
  refine g_iload_n X dMu_isHeard_8 rfl ?_
  refine g_iload_n X dMu_isHeard_9 rfl ?_
  refine g_cge X (tgt := 48) dMu_isHeard_10 (by decide) ?_ ?_
  · refine g_iconst X 1 dMu_isHeard_48 (by decide) ?_
    exact g_zret X E dMu_isHeard_49
  · refine g_aload_n X dMu_isHeard_13 rfl ?_
    refine g_getN X fl_Mu_28 fb_2_1 k_66 r_66_1 dMu_isHeard_14 ?_
    refine g_getN X fl_Mu_177 fb_10_5 k_48 r_48_5 dMu_isHeard_17 ?_
    refine g_iload_n X dMu_isHeard_20 rfl ?_
    refine g_iconst X 0 dMu_isHeard_21 (by decide) ?_
    refine g_virtI X [.int u8, .int 0] [] k_59 mm_Ta_tell mv_Ta_tell ml_Mu_77 (okTa_tell 59 u8 0 s3 k_59 C.l C.w) rfl (by decide) rfl (Nat.le_of_ble_eq_true rfl) dMu_isHeard_22 (fun r5 s4 => ?_)
    refine g_aload_n X dMu_isHeard_25 rfl ?_
    refine g_getN X fl_Mu_28 fb_2_1 k_66 r_66_1 dMu_isHeard_26 ?_
    refine g_getN X fl_Mu_177 fb_10_5 k_48 r_48_5 dMu_isHeard_29 ?_
    refine g_iload_n X dMu_isHeard_32 rfl ?_
    refine g_iconst X 0 dMu_isHeard_33 (by decide) ?_
    refine g_virtI X [.int v1, .int 0] [.int r5] k_59 mm_Ta_tell mv_Ta_tell ml_Mu_77 (okTa_tell 59 v1 0 s4 k_59 C.l C.w) rfl (by decide) rfl (Nat.le_of_ble_eq_true rfl) dMu_isHeard_34 (fun r7 s6 => ?_)
    refine g_clt X (tgt := 42) dMu_isHeard_37 (by decide) ?_ ?_
    · refine g_iinc X (u8 + 1) [some (.ref (C.w.ad 66)), some (.int v1), none, some (.int (u8 + 1))] dMu_isHeard_42 rfl rfl (by decide) rfl ?_
      refine g_goto X 8 dMu_isHeard_45 (by decide) ?_
      exact gf_sub (hq8 (u8 + 1) s6) (by simp [lsub])
    · refine g_iconst X 0 dMu_isHeard_40 (by decide) ?_
      exact g_zret X E dMu_isHeard_41
def yMu_worthOfTwo : MethodName := ⟨"LastWordHill$Muse", "worthOfTwo", "(LLastWordHill$Scene;)I"⟩
abbrev cMu_worthOfTwo : ByteArray := prog_4_method_35_code
theorem dMu_worthOfTwo_0 : decode cMu_worthOfTwo 0 = .ok (.iconst 0, 1) := by decide +kernel
theorem dMu_worthOfTwo_1 : decode cMu_worthOfTwo 1 = .ok (.istore_n 2, 1) := by decide +kernel
theorem dMu_worthOfTwo_2 : decode cMu_worthOfTwo 2 = .ok (.iconst 0, 1) := by decide +kernel
theorem dMu_worthOfTwo_3 : decode cMu_worthOfTwo 3 = .ok (.istore_n 3, 1) := by decide +kernel
theorem dMu_worthOfTwo_4 : decode cMu_worthOfTwo 4 = .ok (.iload_n 3, 1) := by decide +kernel
theorem dMu_worthOfTwo_5 : decode cMu_worthOfTwo 5 = .ok (.aload_n 1, 1) := by decide +kernel
theorem dMu_worthOfTwo_6 : decode cMu_worthOfTwo 6 = .ok (.getfield 186, 3) := by decide +kernel
theorem fl_Mu_186 : FLk "LastWordHill$Muse" 186 5 1 := ⟨_, _, _, rfl, by decide, hz_in 174 (by decide +kernel) (by decide +kernel), nL5, by decide, by decide⟩
theorem dMu_worthOfTwo_9 : decode cMu_worthOfTwo 9 = .ok (.if_icmp .ge 28, 3) := by decide +kernel
theorem dMu_worthOfTwo_37 : decode cMu_worthOfTwo 37 = .ok (.iconst (-1), 1) := by decide +kernel
theorem dMu_worthOfTwo_38 : decode cMu_worthOfTwo 38 = .ok (.istore_n 3, 1) := by decide +kernel
theorem dMu_worthOfTwo_39 : decode cMu_worthOfTwo 39 = .ok (.iconst 0, 1) := by decide +kernel
theorem dMu_worthOfTwo_40 : decode cMu_worthOfTwo 40 = .ok (.istore 4, 2) := by decide +kernel
theorem dMu_worthOfTwo_42 : decode cMu_worthOfTwo 42 = .ok (.iload 4, 2) := by decide +kernel
theorem dMu_worthOfTwo_44 : decode cMu_worthOfTwo 44 = .ok (.iconst 4, 1) := by decide +kernel
theorem dMu_worthOfTwo_45 : decode cMu_worthOfTwo 45 = .ok (.if_icmp .ge 79, 3) := by decide +kernel
theorem dMu_worthOfTwo_124 : decode cMu_worthOfTwo 124 = .ok (.iload_n 3, 1) := by decide +kernel
theorem dMu_worthOfTwo_125 : decode cMu_worthOfTwo 125 = .ok (.ireturn, 1) := by decide +kernel
theorem dMu_worthOfTwo_48 : decode cMu_worthOfTwo 48 = .ok (.iload 4, 2) := by decide +kernel
theorem dMu_worthOfTwo_50 : decode cMu_worthOfTwo 50 = .ok (.iconst 1, 1) := by decide +kernel
theorem dMu_worthOfTwo_51 : decode cMu_worthOfTwo 51 = .ok (.iadd, 1) := by decide +kernel
theorem dMu_worthOfTwo_52 : decode cMu_worthOfTwo 52 = .ok (.istore 5, 2) := by decide +kernel
theorem dMu_worthOfTwo_54 : decode cMu_worthOfTwo 54 = .ok (.iload 5, 2) := by decide +kernel
theorem dMu_worthOfTwo_56 : decode cMu_worthOfTwo 56 = .ok (.iconst 4, 1) := by decide +kernel
theorem dMu_worthOfTwo_57 : decode cMu_worthOfTwo 57 = .ok (.if_icmp .ge 61, 3) := by decide +kernel
theorem dMu_worthOfTwo_118 : decode cMu_worthOfTwo 118 = .ok (.iinc 4 1, 3) := by decide +kernel
theorem dMu_worthOfTwo_121 : decode cMu_worthOfTwo 121 = .ok (.goto (-79), 3) := by decide +kernel
theorem dMu_worthOfTwo_60 : decode cMu_worthOfTwo 60 = .ok (.iload_n 2, 1) := by decide +kernel
theorem dMu_worthOfTwo_61 : decode cMu_worthOfTwo 61 = .ok (.iload 4, 2) := by decide +kernel
theorem dMu_worthOfTwo_63 : decode cMu_worthOfTwo 63 = .ok (.ishr, 1) := by decide +kernel
theorem dMu_worthOfTwo_64 : decode cMu_worthOfTwo 64 = .ok (.iconst 1, 1) := by decide +kernel
theorem dMu_worthOfTwo_65 : decode cMu_worthOfTwo 65 = .ok (.iand, 1) := by decide +kernel
theorem dMu_worthOfTwo_66 : decode cMu_worthOfTwo 66 = .ok (.iconst 1, 1) := by decide +kernel
theorem dMu_worthOfTwo_67 : decode cMu_worthOfTwo 67 = .ok (.if_icmp .ne 45, 3) := by decide +kernel
theorem dMu_worthOfTwo_112 : decode cMu_worthOfTwo 112 = .ok (.iinc 5 1, 3) := by decide +kernel
theorem dMu_worthOfTwo_115 : decode cMu_worthOfTwo 115 = .ok (.goto (-61), 3) := by decide +kernel
theorem dMu_worthOfTwo_70 : decode cMu_worthOfTwo 70 = .ok (.iload_n 2, 1) := by decide +kernel
theorem dMu_worthOfTwo_71 : decode cMu_worthOfTwo 71 = .ok (.iload 5, 2) := by decide +kernel
theorem dMu_worthOfTwo_73 : decode cMu_worthOfTwo 73 = .ok (.ishr, 1) := by decide +kernel
theorem dMu_worthOfTwo_74 : decode cMu_worthOfTwo 74 = .ok (.iconst 1, 1) := by decide +kernel
theorem dMu_worthOfTwo_75 : decode cMu_worthOfTwo 75 = .ok (.iand, 1) := by decide +kernel
theorem dMu_worthOfTwo_76 : decode cMu_worthOfTwo 76 = .ok (.iconst 1, 1) := by decide +kernel
theorem dMu_worthOfTwo_77 : decode cMu_worthOfTwo 77 = .ok (.if_icmp .ne 35, 3) := by decide +kernel
theorem dMu_worthOfTwo_80 : decode cMu_worthOfTwo 80 = .ok (.iload_n 3, 1) := by decide +kernel
theorem dMu_worthOfTwo_81 : decode cMu_worthOfTwo 81 = .ok (.aload_n 0, 1) := by decide +kernel
theorem dMu_worthOfTwo_82 : decode cMu_worthOfTwo 82 = .ok (.getfield 28, 3) := by decide +kernel
theorem dMu_worthOfTwo_85 : decode cMu_worthOfTwo 85 = .ok (.getfield 195, 3) := by decide +kernel
theorem fl_Mu_195 : FLk "LastWordHill$Muse" 195 10 6 := ⟨_, _, _, rfl, by decide, hz_in 439 (by decide +kernel) (by decide +kernel), nL10, by decide, by decide⟩
theorem dMu_worthOfTwo_88 : decode cMu_worthOfTwo 88 = .ok (.iload 4, 2) := by decide +kernel
theorem dMu_worthOfTwo_90 : decode cMu_worthOfTwo 90 = .ok (.iconst 0, 1) := by decide +kernel
theorem dMu_worthOfTwo_91 : decode cMu_worthOfTwo 91 = .ok (.invokevirtual 77, 3) := by decide +kernel
theorem dMu_worthOfTwo_94 : decode cMu_worthOfTwo 94 = .ok (.aload_n 0, 1) := by decide +kernel
theorem dMu_worthOfTwo_95 : decode cMu_worthOfTwo 95 = .ok (.getfield 28, 3) := by decide +kernel
theorem dMu_worthOfTwo_98 : decode cMu_worthOfTwo 98 = .ok (.getfield 195, 3) := by decide +kernel
theorem dMu_worthOfTwo_101 : decode cMu_worthOfTwo 101 = .ok (.iload 5, 2) := by decide +kernel
theorem dMu_worthOfTwo_103 : decode cMu_worthOfTwo 103 = .ok (.iconst 0, 1) := by decide +kernel
theorem dMu_worthOfTwo_104 : decode cMu_worthOfTwo 104 = .ok (.invokevirtual 77, 3) := by decide +kernel
theorem dMu_worthOfTwo_107 : decode cMu_worthOfTwo 107 = .ok (.iadd, 1) := by decide +kernel
theorem dMu_worthOfTwo_108 : decode cMu_worthOfTwo 108 = .ok (.invokestatic 91, 3) := by decide +kernel
theorem dMu_worthOfTwo_111 : decode cMu_worthOfTwo 111 = .ok (.istore_n 3, 1) := by decide +kernel
theorem dMu_worthOfTwo_12 : decode cMu_worthOfTwo 12 = .ok (.aload_n 1, 1) := by decide +kernel
theorem dMu_worthOfTwo_13 : decode cMu_worthOfTwo 13 = .ok (.iload_n 3, 1) := by decide +kernel
theorem dMu_worthOfTwo_14 : decode cMu_worthOfTwo 14 = .ok (.invokevirtual 191, 3) := by decide +kernel
theorem mm_Sc_isUp : MMc ySc_isUp cSc_isUp 2 (some .boolean) 1 := ⟨hz_in 637 (by decide +kernel) (by decide +kernel), hz_in 135 (by decide +kernel) (by decide +kernel), by decide +kernel, by decide⟩
theorem mv_Sc_isUp : MMv ySc_isUp 5 := ⟨hz_in 635 (by decide +kernel) (by decide +kernel), hz_in 636 (by decide +kernel) (by decide +kernel), _, _, rfl, by decide⟩
theorem ml_Mu_191 : Cond.methodLink "LastWordHill$Muse" 191 ySc_isUp ∈ hz_wt := hz_in 1344 (by decide +kernel) (by decide +kernel)
theorem dMu_worthOfTwo_17 : decode cMu_worthOfTwo 17 = .ok (.ifCond .eq 14, 3) := by decide +kernel
theorem dMu_worthOfTwo_31 : decode cMu_worthOfTwo 31 = .ok (.iinc 3 1, 3) := by decide +kernel
theorem dMu_worthOfTwo_34 : decode cMu_worthOfTwo 34 = .ok (.goto (-30), 3) := by decide +kernel
theorem dMu_worthOfTwo_20 : decode cMu_worthOfTwo 20 = .ok (.iload_n 2, 1) := by decide +kernel
theorem dMu_worthOfTwo_21 : decode cMu_worthOfTwo 21 = .ok (.iconst 1, 1) := by decide +kernel
theorem dMu_worthOfTwo_22 : decode cMu_worthOfTwo 22 = .ok (.aload_n 1, 1) := by decide +kernel
theorem dMu_worthOfTwo_23 : decode cMu_worthOfTwo 23 = .ok (.iload_n 3, 1) := by decide +kernel
theorem dMu_worthOfTwo_24 : decode cMu_worthOfTwo 24 = .ok (.iconst 2, 1) := by decide +kernel
theorem dMu_worthOfTwo_25 : decode cMu_worthOfTwo 25 = .ok (.invokevirtual 194, 3) := by decide +kernel
theorem ml_Mu_194 : Cond.methodLink "LastWordHill$Muse" 194 ySc_tell ∈ hz_wt := hz_in 1345 (by decide +kernel) (by decide +kernel)
theorem dMu_worthOfTwo_28 : decode cMu_worthOfTwo 28 = .ok (.ishl, 1) := by decide +kernel
theorem dMu_worthOfTwo_29 : decode cMu_worthOfTwo 29 = .ok (.ior, 1) := by decide +kernel
theorem dMu_worthOfTwo_30 : decode cMu_worthOfTwo 30 = .ok (.istore_n 2, 1) := by decide +kernel
def fMu_worthOfTwo (o1 : Nat) (s0 : Sg) : Option (Int32 × Sg) := lp FU (fun q4 (u4 : Int32 × Int32) (s1 : Sg) => if (s1 o1 1) ≤ u4.2 then (lp FU (fun q42 (u42 : Int32 × Int32) (s2 : Sg) => if 4 ≤ u42.2 then (some (u42.1, s2)) else (lp FU (fun q54 (u54 : Int32 × Int32) (s3 : Sg) => if 4 ≤ u54.2 then (q42 (u54.1, (u42.2 + 1)) s3) else (bnd (fun (a112_3 : Int32) (s4 : Sg) => q54 (a112_3, (u54.2 + 1)) s4) fun j112 => if ((u4.1 >>> (u42.2 &&& 31)) &&& 1) = 1 then (if ((u4.1 >>> (u54.2 &&& 31)) &&& 1) = 1 then (bi (fTa_tell 61 u42.2 0 s3) fun r6 s5 => bi (fTa_tell 61 u54.2 0 s5) fun r8 s7 => bi (fJ9_max_7cf53 u54.1 (r6 + r8) s7) fun r10 s9 => j112 r10 s9) else (j112 u54.1 s3)) else (j112 u54.1 s3))) (u42.1, (u42.2 + 1)) s2)) ((-1), 0) s1) else (bi (fSc_isUp o1 u4.2 s1) fun r12 s11 => bnd (fun (a31_2 : Int32) (s13 : Sg) => q4 (a31_2, (u4.2 + 1)) s13) fun j31 => if r12 = 0 then (j31 u4.1 s11) else (bi (fSc_tell o1 u4.2 2 s11) fun r15 s14 => bnd (u4.1 ||| (1 <<< (r15 &&& 31))) fun x16 => j31 x16 s14))) (0, 0) s0
set_option maxHeartbeats 4000000 in
set_option maxRecDepth 100000 in
theorem okMu_worthOfTwo (o1 : Nat) (s0 : Sg) (h1 : hz_kd o1 = 5) : ∀ (l : Launch) (w : WC), Ok l w yMu_worthOfTwo cMu_worthOfTwo 6 (some .int) 3 evI [.ref (w.ad 66), .ref (w.ad o1)] s0 (fMu_worthOfTwo o1 s0) := by
  refine ok_in (ev := fun _ => evI) (av := fun w => [.ref (w.ad 66), .ref (w.ad o1)]) "LastWordHill$Muse" rfl (by decide +kernel) (fun _ => rfl) (fun _ => Nat.le_of_ble_eq_true rfl) ?_
  intro C X E
  show GF C evI 0 [some (.ref (C.w.ad 66)), some (.ref (C.w.ad o1)), none, none, none, none] [] s0 (fMu_worthOfTwo o1 s0)
  unfold fMu_worthOfTwo
  refine g_iconst X 0 dMu_worthOfTwo_0 (by decide) ?_
  refine g_istore_n X [some (.ref (C.w.ad 66)), some (.ref (C.w.ad o1)), some (.int 0), none, none, none] dMu_worthOfTwo_1 (by decide) (Nat.le_of_ble_eq_true rfl) rfl ?_
  refine g_iconst X 0 dMu_worthOfTwo_2 (by decide) ?_
  refine g_istore_n X [some (.ref (C.w.ad 66)), some (.ref (C.w.ad o1)), some (.int 0), some (.int 0), none, none] dMu_worthOfTwo_3 (by decide) (Nat.le_of_ble_eq_true rfl) rfl ?_
  refine gf_sub (L' := [some (.ref (C.w.ad 66)), some (.ref (C.w.ad o1)), some (.int 0), some (.int 0), none, none]) ?_ (by simp [lsub])
  refine gf_lp (Lf := fun (u4 : Int32 × Int32) => [some (.ref (C.w.ad 66)), some (.ref (C.w.ad o1)), some (.int u4.1), some (.int u4.2), none, none]) (fun q4 hq4 u4 s1 => ?_) FU (0, 0) s0
  refine g_iload_n X dMu_worthOfTwo_4 rfl ?_
  refine g_aload_n X dMu_worthOfTwo_5 rfl ?_
  refine g_getI X fl_Mu_186 fb_5_1 h1 dMu_worthOfTwo_6 ?_
  refine g_cge X (tgt := 37) dMu_worthOfTwo_9 (by decide) ?_ ?_
  · refine g_iconst X (-1) dMu_worthOfTwo_37 (by decide) ?_
    refine g_istore_n X [some (.ref (C.w.ad 66)), some (.ref (C.w.ad o1)), some (.int u4.1), some (.int (-1)), none, none] dMu_worthOfTwo_38 (by decide) (Nat.le_of_ble_eq_true rfl) rfl ?_
    refine g_iconst X 0 dMu_worthOfTwo_39 (by decide) ?_
    refine g_istore X [some (.ref (C.w.ad 66)), some (.ref (C.w.ad o1)), some (.int u4.1), some (.int (-1)), some (.int 0), none] dMu_worthOfTwo_40 (by decide) (Nat.le_of_ble_eq_true rfl) rfl ?_
    refine gf_sub (L' := [some (.ref (C.w.ad 66)), none, some (.int u4.1), some (.int (-1)), some (.int 0), none]) ?_ (by simp [lsub])
    refine gf_lp (Lf := fun (u42 : Int32 × Int32) => [some (.ref (C.w.ad 66)), none, some (.int u4.1), some (.int u42.1), some (.int u42.2), none]) (fun q42 hq42 u42 s2 => ?_) FU ((-1), 0) s1
    refine g_iload X dMu_worthOfTwo_42 rfl ?_
    refine g_iconst X 4 dMu_worthOfTwo_44 (by decide) ?_
    refine g_cge X (tgt := 124) dMu_worthOfTwo_45 (by decide) ?_ ?_
    · refine g_iload_n X dMu_worthOfTwo_124 rfl ?_
      exact g_iret X E dMu_worthOfTwo_125
    · refine g_iload X dMu_worthOfTwo_48 rfl ?_
      refine g_iconst X 1 dMu_worthOfTwo_50 (by decide) ?_
      refine g_iadd X dMu_worthOfTwo_51 ?_
      refine g_istore X [some (.ref (C.w.ad 66)), none, some (.int u4.1), some (.int u42.1), some (.int u42.2), some (.int (u42.2 + 1))] dMu_worthOfTwo_52 (by decide) (Nat.le_of_ble_eq_true rfl) rfl ?_
      refine gf_sub (L' := [some (.ref (C.w.ad 66)), none, some (.int u4.1), some (.int u42.1), some (.int u42.2), some (.int (u42.2 + 1))]) ?_ (by simp [lsub])
      refine gf_lp (Lf := fun (u54 : Int32 × Int32) => [some (.ref (C.w.ad 66)), none, some (.int u4.1), some (.int u54.1), some (.int u42.2), some (.int u54.2)]) (fun q54 hq54 u54 s3 => ?_) FU (u42.1, (u42.2 + 1)) s2
      refine g_iload X dMu_worthOfTwo_54 rfl ?_
      refine g_iconst X 4 dMu_worthOfTwo_56 (by decide) ?_
      refine g_cge X (tgt := 118) dMu_worthOfTwo_57 (by decide) ?_ ?_
      · refine g_iinc X (u42.2 + 1) [some (.ref (C.w.ad 66)), none, some (.int u4.1), some (.int u54.1), some (.int (u42.2 + 1)), some (.int u54.2)] dMu_worthOfTwo_118 rfl rfl (by decide) rfl ?_
        refine g_goto X 42 dMu_worthOfTwo_121 (by decide) ?_
        exact gf_sub (hq42 (u54.1, (u42.2 + 1)) s3) (by simp [lsub])
      · refine g_iload_n X dMu_worthOfTwo_60 rfl ?_
        refine g_iload X dMu_worthOfTwo_61 rfl ?_
        refine g_ishr X dMu_worthOfTwo_63 ?_
        refine g_iconst X 1 dMu_worthOfTwo_64 (by decide) ?_
        refine g_iand X dMu_worthOfTwo_65 ?_
        refine g_iconst X 1 dMu_worthOfTwo_66 (by decide) ?_
        refine gf_jn (fun j112 => ∀ (a112_3 : Int32) (s4 : Sg), GF C evI 112 [some (.ref (C.w.ad 66)), none, some (.int u4.1), some (.int a112_3), some (.int u42.2), some (.int u54.2)] [] s4 (j112 a112_3 s4)) ?_ ?_
        · intro a112_3 s4
          refine g_iinc X (u54.2 + 1) [some (.ref (C.w.ad 66)), none, some (.int u4.1), some (.int a112_3), some (.int u42.2), some (.int (u54.2 + 1))] dMu_worthOfTwo_112 rfl rfl (by decide) rfl ?_
          refine g_goto X 54 dMu_worthOfTwo_115 (by decide) ?_
          exact gf_sub (hq54 (a112_3, (u54.2 + 1)) s4) (by simp [lsub])
        · intro j112 hj112
          refine g_cne X (tgt := 112) dMu_worthOfTwo_67 (by decide) ?_ ?_
          · refine g_iload_n X dMu_worthOfTwo_70 rfl ?_
            refine g_iload X dMu_worthOfTwo_71 rfl ?_
            refine g_ishr X dMu_worthOfTwo_73 ?_
            refine g_iconst X 1 dMu_worthOfTwo_74 (by decide) ?_
            refine g_iand X dMu_worthOfTwo_75 ?_
            refine g_iconst X 1 dMu_worthOfTwo_76 (by decide) ?_
            refine g_cne X (tgt := 112) dMu_worthOfTwo_77 (by decide) ?_ ?_
            · refine g_iload_n X dMu_worthOfTwo_80 rfl ?_
              refine g_aload_n X dMu_worthOfTwo_81 rfl ?_
              refine g_getN X fl_Mu_28 fb_2_1 k_66 r_66_1 dMu_worthOfTwo_82 ?_
              refine g_getN X fl_Mu_195 fb_10_6 k_48 r_48_6 dMu_worthOfTwo_85 ?_
              refine g_iload X dMu_worthOfTwo_88 rfl ?_
              refine g_iconst X 0 dMu_worthOfTwo_90 (by decide) ?_
              refine g_virtI X [.int u42.2, .int 0] [.int u54.1] k_61 mm_Ta_tell mv_Ta_tell ml_Mu_77 (okTa_tell 61 u42.2 0 s3 k_61 C.l C.w) rfl (by decide) rfl (Nat.le_of_ble_eq_true rfl) dMu_worthOfTwo_91 (fun r6 s5 => ?_)
              refine g_aload_n X dMu_worthOfTwo_94 rfl ?_
              refine g_getN X fl_Mu_28 fb_2_1 k_66 r_66_1 dMu_worthOfTwo_95 ?_
              refine g_getN X fl_Mu_195 fb_10_6 k_48 r_48_6 dMu_worthOfTwo_98 ?_
              refine g_iload X dMu_worthOfTwo_101 rfl ?_
              refine g_iconst X 0 dMu_worthOfTwo_103 (by decide) ?_
              refine g_virtI X [.int u54.2, .int 0] [.int r6, .int u54.1] k_61 mm_Ta_tell mv_Ta_tell ml_Mu_77 (okTa_tell 61 u54.2 0 s5 k_61 C.l C.w) rfl (by decide) rfl (Nat.le_of_ble_eq_true rfl) dMu_worthOfTwo_104 (fun r8 s7 => ?_)
              refine g_iadd X dMu_worthOfTwo_107 ?_
              refine g_statI X [.int u54.1, .int (r6 + r8)] [] mm_J9_max_7cf53 ms_J9_max_7cf53 ml_Mu_91 (okJ9_max_7cf53 u54.1 (r6 + r8) s7 C.l C.w) rfl (by decide) rfl (Nat.le_of_ble_eq_true rfl) dMu_worthOfTwo_108 (fun r10 s9 => ?_)
              refine g_istore_n X [some (.ref (C.w.ad 66)), none, some (.int u4.1), some (.int r10), some (.int u42.2), some (.int u54.2)] dMu_worthOfTwo_111 (by decide) (Nat.le_of_ble_eq_true rfl) rfl ?_
              exact gf_sub (hj112 r10 s9) (by simp [lsub])
            · exact gf_sub (hj112 u54.1 s3) (by simp [lsub])
          · exact gf_sub (hj112 u54.1 s3) (by simp [lsub])
  · refine g_aload_n X dMu_worthOfTwo_12 rfl ?_
    refine g_iload_n X dMu_worthOfTwo_13 rfl ?_
    refine g_virtI X [.int u4.2] [] h1 mm_Sc_isUp mv_Sc_isUp ml_Mu_191 (okSc_isUp o1 u4.2 s1 h1 C.l C.w) rfl (by decide) rfl (Nat.le_of_ble_eq_true rfl) dMu_worthOfTwo_14 (fun r12 s11 => ?_)
    refine gf_jn (fun j31 => ∀ (a31_2 : Int32) (s13 : Sg), GF C evI 31 [some (.ref (C.w.ad 66)), some (.ref (C.w.ad o1)), some (.int a31_2), some (.int u4.2), none, none] [] s13 (j31 a31_2 s13)) ?_ ?_
    · intro a31_2 s13
      refine g_iinc X (u4.2 + 1) [some (.ref (C.w.ad 66)), some (.ref (C.w.ad o1)), some (.int a31_2), some (.int (u4.2 + 1)), none, none] dMu_worthOfTwo_31 rfl rfl (by decide) rfl ?_
      refine g_goto X 4 dMu_worthOfTwo_34 (by decide) ?_
      exact gf_sub (hq4 (a31_2, (u4.2 + 1)) s13) (by simp [lsub])
    · intro j31 hj31
      refine g_zeq X (tgt := 31) dMu_worthOfTwo_17 (by decide) ?_ ?_
      · exact gf_sub (hj31 u4.1 s11) (by simp [lsub])
      · refine g_iload_n X dMu_worthOfTwo_20 rfl ?_
        refine g_iconst X 1 dMu_worthOfTwo_21 (by decide) ?_
        refine g_aload_n X dMu_worthOfTwo_22 rfl ?_
        refine g_iload_n X dMu_worthOfTwo_23 rfl ?_
        refine g_iconst X 2 dMu_worthOfTwo_24 (by decide) ?_
        refine g_virtI X [.int u4.2, .int 2] [.int 1, .int u4.1] h1 mm_Sc_tell mv_Sc_tell ml_Mu_194 (okSc_tell o1 u4.2 2 s11 h1 C.l C.w) rfl (by decide) rfl (Nat.le_of_ble_eq_true rfl) dMu_worthOfTwo_25 (fun r15 s14 => ?_)
        refine g_ishl X dMu_worthOfTwo_28 ?_
        refine g_ior X dMu_worthOfTwo_29 ?_
        refine gf_nm (fun x16 => ?_)
        refine g_istore_n X [some (.ref (C.w.ad 66)), some (.ref (C.w.ad o1)), some (.int x16), some (.int u4.2), none, none] dMu_worthOfTwo_30 (by decide) (Nat.le_of_ble_eq_true rfl) rfl ?_
        exact gf_sub (hj31 x16 s14) (by simp [lsub])
def yMu_openingMove : MethodName := ⟨"LastWordHill$Muse", "openingMove", "(LLastWordHill$Scene;Z)I"⟩
abbrev cMu_openingMove : ByteArray := prog_4_method_36_code
theorem dMu_openingMove_0 : decode cMu_openingMove 0 = .ok (.aload_n 0, 1) := by decide +kernel
theorem dMu_openingMove_1 : decode cMu_openingMove 1 = .ok (.invokevirtual 198, 3) := by decide +kernel
theorem mm_Mu_fillNim : MMc yMu_fillNim cMu_fillNim 4 none 0 := ⟨hz_in 1357 (by decide +kernel) (by decide +kernel), hz_in 145 (by decide +kernel) (by decide +kernel), by decide +kernel, by decide⟩
theorem mv_Mu_fillNim : MMv yMu_fillNim 2 := ⟨hz_in 1356 (by decide +kernel) (by decide +kernel), hz_in 47 (by decide +kernel) (by decide +kernel), _, _, rfl, by decide⟩
theorem ml_Mu_198 : Cond.methodLink "LastWordHill$Muse" 198 yMu_fillNim ∈ hz_wt := hz_in 1354 (by decide +kernel) (by decide +kernel)
theorem dMu_openingMove_4 : decode cMu_openingMove 4 = .ok (.iconst 0, 1) := by decide +kernel
theorem dMu_openingMove_5 : decode cMu_openingMove 5 = .ok (.istore_n 3, 1) := by decide +kernel
theorem dMu_openingMove_6 : decode cMu_openingMove 6 = .ok (.iconst 0, 1) := by decide +kernel
theorem dMu_openingMove_7 : decode cMu_openingMove 7 = .ok (.istore 4, 2) := by decide +kernel
theorem dMu_openingMove_9 : decode cMu_openingMove 9 = .ok (.iload 4, 2) := by decide +kernel
theorem dMu_openingMove_11 : decode cMu_openingMove 11 = .ok (.aload_n 1, 1) := by decide +kernel
theorem dMu_openingMove_12 : decode cMu_openingMove 12 = .ok (.getfield 186, 3) := by decide +kernel
theorem dMu_openingMove_15 : decode cMu_openingMove 15 = .ok (.if_icmp .ge 23, 3) := by decide +kernel
theorem dMu_openingMove_38 : decode cMu_openingMove 38 = .ok (.iconst 0, 1) := by decide +kernel
theorem dMu_openingMove_39 : decode cMu_openingMove 39 = .ok (.istore 4, 2) := by decide +kernel
theorem dMu_openingMove_41 : decode cMu_openingMove 41 = .ok (.iload 4, 2) := by decide +kernel
theorem dMu_openingMove_43 : decode cMu_openingMove 43 = .ok (.aload_n 1, 1) := by decide +kernel
theorem dMu_openingMove_44 : decode cMu_openingMove 44 = .ok (.getfield 186, 3) := by decide +kernel
theorem dMu_openingMove_47 : decode cMu_openingMove 47 = .ok (.if_icmp .ge 79, 3) := by decide +kernel
theorem dMu_openingMove_126 : decode cMu_openingMove 126 = .ok (.iconst (-1), 1) := by decide +kernel
theorem dMu_openingMove_127 : decode cMu_openingMove 127 = .ok (.ireturn, 1) := by decide +kernel
theorem dMu_openingMove_50 : decode cMu_openingMove 50 = .ok (.iload_n 3, 1) := by decide +kernel
theorem dMu_openingMove_51 : decode cMu_openingMove 51 = .ok (.ifCond .eq 75, 3) := by decide +kernel
theorem dMu_openingMove_54 : decode cMu_openingMove 54 = .ok (.aload_n 1, 1) := by decide +kernel
theorem dMu_openingMove_55 : decode cMu_openingMove 55 = .ok (.iload 4, 2) := by decide +kernel
theorem dMu_openingMove_57 : decode cMu_openingMove 57 = .ok (.iconst 3, 1) := by decide +kernel
theorem dMu_openingMove_58 : decode cMu_openingMove 58 = .ok (.invokevirtual 194, 3) := by decide +kernel
theorem dMu_openingMove_61 : decode cMu_openingMove 61 = .ok (.istore 5, 2) := by decide +kernel
theorem dMu_openingMove_63 : decode cMu_openingMove 63 = .ok (.iconst 1, 1) := by decide +kernel
theorem dMu_openingMove_64 : decode cMu_openingMove 64 = .ok (.istore 6, 2) := by decide +kernel
theorem dMu_openingMove_66 : decode cMu_openingMove 66 = .ok (.iload 6, 2) := by decide +kernel
theorem dMu_openingMove_68 : decode cMu_openingMove 68 = .ok (.iload 6, 2) := by decide +kernel
theorem dMu_openingMove_70 : decode cMu_openingMove 70 = .ok (.imul, 1) := by decide +kernel
theorem dMu_openingMove_71 : decode cMu_openingMove 71 = .ok (.iload 5, 2) := by decide +kernel
theorem dMu_openingMove_73 : decode cMu_openingMove 73 = .ok (.if_icmp .gt 47, 3) := by decide +kernel
theorem dMu_openingMove_120 : decode cMu_openingMove 120 = .ok (.iinc 4 1, 3) := by decide +kernel
theorem dMu_openingMove_123 : decode cMu_openingMove 123 = .ok (.goto (-82), 3) := by decide +kernel
theorem dMu_openingMove_76 : decode cMu_openingMove 76 = .ok (.aload_n 0, 1) := by decide +kernel
theorem dMu_openingMove_77 : decode cMu_openingMove 77 = .ok (.iload 5, 2) := by decide +kernel
theorem dMu_openingMove_79 : decode cMu_openingMove 79 = .ok (.iload 6, 2) := by decide +kernel
theorem dMu_openingMove_81 : decode cMu_openingMove 81 = .ok (.iload 6, 2) := by decide +kernel
theorem dMu_openingMove_83 : decode cMu_openingMove 83 = .ok (.imul, 1) := by decide +kernel
theorem dMu_openingMove_84 : decode cMu_openingMove 84 = .ok (.isub, 1) := by decide +kernel
theorem dMu_openingMove_85 : decode cMu_openingMove 85 = .ok (.invokevirtual 201, 3) := by decide +kernel
theorem mm_Mu_nimOf : MMc yMu_nimOf cMu_nimOf 2 (some .int) 1 := ⟨hz_in 1365 (by decide +kernel) (by decide +kernel), hz_in 145 (by decide +kernel) (by decide +kernel), by decide +kernel, by decide⟩
theorem mv_Mu_nimOf : MMv yMu_nimOf 2 := ⟨hz_in 1364 (by decide +kernel) (by decide +kernel), hz_in 48 (by decide +kernel) (by decide +kernel), _, _, rfl, by decide⟩
theorem ml_Mu_201 : Cond.methodLink "LastWordHill$Muse" 201 yMu_nimOf ∈ hz_wt := hz_in 1362 (by decide +kernel) (by decide +kernel)
theorem dMu_openingMove_88 : decode cMu_openingMove 88 = .ok (.iload_n 3, 1) := by decide +kernel
theorem dMu_openingMove_89 : decode cMu_openingMove 89 = .ok (.aload_n 0, 1) := by decide +kernel
theorem dMu_openingMove_90 : decode cMu_openingMove 90 = .ok (.iload 5, 2) := by decide +kernel
theorem dMu_openingMove_92 : decode cMu_openingMove 92 = .ok (.invokevirtual 201, 3) := by decide +kernel
theorem dMu_openingMove_95 : decode cMu_openingMove 95 = .ok (.ixor, 1) := by decide +kernel
theorem dMu_openingMove_96 : decode cMu_openingMove 96 = .ok (.if_icmp .ne 18, 3) := by decide +kernel
theorem dMu_openingMove_114 : decode cMu_openingMove 114 = .ok (.iinc 6 1, 3) := by decide +kernel
theorem dMu_openingMove_117 : decode cMu_openingMove 117 = .ok (.goto (-51), 3) := by decide +kernel
theorem dMu_openingMove_99 : decode cMu_openingMove 99 = .ok (.iload_n 2, 1) := by decide +kernel
theorem dMu_openingMove_100 : decode cMu_openingMove 100 = .ok (.ifCond .eq 11, 3) := by decide +kernel
theorem dMu_openingMove_111 : decode cMu_openingMove 111 = .ok (.iload 4, 2) := by decide +kernel
theorem dMu_openingMove_113 : decode cMu_openingMove 113 = .ok (.ireturn, 1) := by decide +kernel
theorem dMu_openingMove_103 : decode cMu_openingMove 103 = .ok (.iload 6, 2) := by decide +kernel
theorem dMu_openingMove_105 : decode cMu_openingMove 105 = .ok (.iload 6, 2) := by decide +kernel
theorem dMu_openingMove_107 : decode cMu_openingMove 107 = .ok (.imul, 1) := by decide +kernel
theorem dMu_openingMove_108 : decode cMu_openingMove 108 = .ok (.goto 5, 3) := by decide +kernel
theorem dMu_openingMove_18 : decode cMu_openingMove 18 = .ok (.iload_n 3, 1) := by decide +kernel
theorem dMu_openingMove_19 : decode cMu_openingMove 19 = .ok (.aload_n 0, 1) := by decide +kernel
theorem dMu_openingMove_20 : decode cMu_openingMove 20 = .ok (.aload_n 1, 1) := by decide +kernel
theorem dMu_openingMove_21 : decode cMu_openingMove 21 = .ok (.iload 4, 2) := by decide +kernel
theorem dMu_openingMove_23 : decode cMu_openingMove 23 = .ok (.iconst 3, 1) := by decide +kernel
theorem dMu_openingMove_24 : decode cMu_openingMove 24 = .ok (.invokevirtual 194, 3) := by decide +kernel
theorem dMu_openingMove_27 : decode cMu_openingMove 27 = .ok (.invokevirtual 201, 3) := by decide +kernel
theorem dMu_openingMove_30 : decode cMu_openingMove 30 = .ok (.ixor, 1) := by decide +kernel
theorem dMu_openingMove_31 : decode cMu_openingMove 31 = .ok (.istore_n 3, 1) := by decide +kernel
theorem dMu_openingMove_32 : decode cMu_openingMove 32 = .ok (.iinc 4 1, 3) := by decide +kernel
theorem dMu_openingMove_35 : decode cMu_openingMove 35 = .ok (.goto (-26), 3) := by decide +kernel
def fMu_openingMove (o1 : Nat) (v2 : Int32) (s0 : Sg) : Option (Int32 × Sg) := bv (fMu_fillNim s0) fun s1 => lp FU (fun q9 (u9 : Int32 × Int32) (s2 : Sg) => if (s2 o1 1) ≤ u9.2 then (lp FU (fun q41 (u41 : Int32) (s3 : Sg) => if (s3 o1 1) ≤ u41 then (some ((-1), s3)) else (if u9.1 = 0 then (some ((-1), s3)) else (bi (fSc_tell o1 u41 3 s3) fun r5 s4 => lp FU (fun q66 (u66 : Int32) (s6 : Sg) => if r5 < (u66 * u66) then (q41 (u41 + 1) s6) else (bi (fMu_nimOf (r5 - (u66 * u66)) s6) fun r8 s7 => bi (fMu_nimOf r5 s7) fun r10 s9 => if r8 = (u9.1 ^^^ r10) then (if v2 = 0 then (some (u41, s9)) else (some ((u66 * u66), s9))) else (q66 (u66 + 1) s9))) 1 s4))) 0 s2) else (bi (fSc_tell o1 u9.2 3 s2) fun r12 s11 => bi (fMu_nimOf r12 s11) fun r14 s13 => q9 ((u9.1 ^^^ r14), (u9.2 + 1)) s13)) (0, 0) s1
set_option maxHeartbeats 4000000 in
set_option maxRecDepth 100000 in
theorem okMu_openingMove (o1 : Nat) (v2 : Int32) (s0 : Sg) (h1 : hz_kd o1 = 5) : ∀ (l : Launch) (w : WC), Ok l w yMu_openingMove cMu_openingMove 7 (some .int) 3 evI [.ref (w.ad 66), .ref (w.ad o1), .int v2] s0 (fMu_openingMove o1 v2 s0) := by
  refine ok_in (ev := fun _ => evI) (av := fun w => [.ref (w.ad 66), .ref (w.ad o1), .int v2]) "LastWordHill$Muse" rfl (by decide +kernel) (fun _ => rfl) (fun _ => Nat.le_of_ble_eq_true rfl) ?_
  intro C X E
  show GF C evI 0 [some (.ref (C.w.ad 66)), some (.ref (C.w.ad o1)), some (.int v2), none, none, none, none] [] s0 (fMu_openingMove o1 v2 s0)
  unfold fMu_openingMove
  refine g_aload_n X dMu_openingMove_0 rfl ?_
  refine g_virtV X [] [] k_66 mm_Mu_fillNim mv_Mu_fillNim ml_Mu_198 (okMu_fillNim s0 C.l C.w) rfl (by decide) rfl (Nat.le_of_ble_eq_true rfl) dMu_openingMove_1 (fun s1 => ?_)
  refine g_iconst X 0 dMu_openingMove_4 (by decide) ?_
  refine g_istore_n X [some (.ref (C.w.ad 66)), some (.ref (C.w.ad o1)), some (.int v2), some (.int 0), none, none, none] dMu_openingMove_5 (by decide) (Nat.le_of_ble_eq_true rfl) rfl ?_
  refine g_iconst X 0 dMu_openingMove_6 (by decide) ?_
  refine g_istore X [some (.ref (C.w.ad 66)), some (.ref (C.w.ad o1)), some (.int v2), some (.int 0), some (.int 0), none, none] dMu_openingMove_7 (by decide) (Nat.le_of_ble_eq_true rfl) rfl ?_
  refine gf_sub (L' := [some (.ref (C.w.ad 66)), some (.ref (C.w.ad o1)), some (.int v2), some (.int 0), some (.int 0), none, none]) ?_ (by simp [lsub])
  refine gf_lp (Lf := fun (u9 : Int32 × Int32) => [some (.ref (C.w.ad 66)), some (.ref (C.w.ad o1)), some (.int v2), some (.int u9.1), some (.int u9.2), none, none]) (fun q9 hq9 u9 s2 => ?_) FU (0, 0) s1
  refine g_iload X dMu_openingMove_9 rfl ?_
  refine g_aload_n X dMu_openingMove_11 rfl ?_
  refine g_getI X fl_Mu_186 fb_5_1 h1 dMu_openingMove_12 ?_
  refine g_cge X (tgt := 38) dMu_openingMove_15 (by decide) ?_ ?_
  · refine g_iconst X 0 dMu_openingMove_38 (by decide) ?_
    refine g_istore X [some (.ref (C.w.ad 66)), some (.ref (C.w.ad o1)), some (.int v2), some (.int u9.1), some (.int 0), none, none] dMu_openingMove_39 (by decide) (Nat.le_of_ble_eq_true rfl) rfl ?_
    refine gf_sub (L' := [some (.ref (C.w.ad 66)), some (.ref (C.w.ad o1)), some (.int v2), some (.int u9.1), some (.int 0), none, none]) ?_ (by simp [lsub])
    refine gf_lp (Lf := fun (u41 : Int32) => [some (.ref (C.w.ad 66)), some (.ref (C.w.ad o1)), some (.int v2), some (.int u9.1), some (.int u41), none, none]) (fun q41 hq41 u41 s3 => ?_) FU 0 s2
    refine g_iload X dMu_openingMove_41 rfl ?_
    refine g_aload_n X dMu_openingMove_43 rfl ?_
    refine g_getI X fl_Mu_186 fb_5_1 h1 dMu_openingMove_44 ?_
    refine g_cge X (tgt := 126) dMu_openingMove_47 (by decide) ?_ ?_
    · refine g_iconst X (-1) dMu_openingMove_126 (by decide) ?_
      exact g_iret X E dMu_openingMove_127
    · refine g_iload_n X dMu_openingMove_50 rfl ?_
      refine g_zeq X (tgt := 126) dMu_openingMove_51 (by decide) ?_ ?_
      · refine g_iconst X (-1) dMu_openingMove_126 (by decide) ?_
        exact g_iret X E dMu_openingMove_127
      · refine g_aload_n X dMu_openingMove_54 rfl ?_
        refine g_iload X dMu_openingMove_55 rfl ?_
        refine g_iconst X 3 dMu_openingMove_57 (by decide) ?_
        refine g_virtI X [.int u41, .int 3] [] h1 mm_Sc_tell mv_Sc_tell ml_Mu_194 (okSc_tell o1 u41 3 s3 h1 C.l C.w) rfl (by decide) rfl (Nat.le_of_ble_eq_true rfl) dMu_openingMove_58 (fun r5 s4 => ?_)
        refine g_istore X [some (.ref (C.w.ad 66)), some (.ref (C.w.ad o1)), some (.int v2), some (.int u9.1), some (.int u41), some (.int r5), none] dMu_openingMove_61 (by decide) (Nat.le_of_ble_eq_true rfl) rfl ?_
        refine g_iconst X 1 dMu_openingMove_63 (by decide) ?_
        refine g_istore X [some (.ref (C.w.ad 66)), some (.ref (C.w.ad o1)), some (.int v2), some (.int u9.1), some (.int u41), some (.int r5), some (.int 1)] dMu_openingMove_64 (by decide) (Nat.le_of_ble_eq_true rfl) rfl ?_
        refine gf_sub (L' := [some (.ref (C.w.ad 66)), some (.ref (C.w.ad o1)), some (.int v2), some (.int u9.1), some (.int u41), some (.int r5), some (.int 1)]) ?_ (by simp [lsub])
        refine gf_lp (Lf := fun (u66 : Int32) => [some (.ref (C.w.ad 66)), some (.ref (C.w.ad o1)), some (.int v2), some (.int u9.1), some (.int u41), some (.int r5), some (.int u66)]) (fun q66 hq66 u66 s6 => ?_) FU 1 s4
        refine g_iload X dMu_openingMove_66 rfl ?_
        refine g_iload X dMu_openingMove_68 rfl ?_
        refine g_imul X dMu_openingMove_70 ?_
        refine g_iload X dMu_openingMove_71 rfl ?_
        refine g_cgt X (tgt := 120) dMu_openingMove_73 (by decide) ?_ ?_
        · refine g_iinc X (u41 + 1) [some (.ref (C.w.ad 66)), some (.ref (C.w.ad o1)), some (.int v2), some (.int u9.1), some (.int (u41 + 1)), some (.int r5), some (.int u66)] dMu_openingMove_120 rfl rfl (by decide) rfl ?_
          refine g_goto X 41 dMu_openingMove_123 (by decide) ?_
          exact gf_sub (hq41 (u41 + 1) s6) (by simp [lsub])
        · refine g_aload_n X dMu_openingMove_76 rfl ?_
          refine g_iload X dMu_openingMove_77 rfl ?_
          refine g_iload X dMu_openingMove_79 rfl ?_
          refine g_iload X dMu_openingMove_81 rfl ?_
          refine g_imul X dMu_openingMove_83 ?_
          refine g_isub X dMu_openingMove_84 ?_
          refine g_virtI X [.int (r5 - (u66 * u66))] [] k_66 mm_Mu_nimOf mv_Mu_nimOf ml_Mu_201 (okMu_nimOf (r5 - (u66 * u66)) s6 C.l C.w) rfl (by decide) rfl (Nat.le_of_ble_eq_true rfl) dMu_openingMove_85 (fun r8 s7 => ?_)
          refine g_iload_n X dMu_openingMove_88 rfl ?_
          refine g_aload_n X dMu_openingMove_89 rfl ?_
          refine g_iload X dMu_openingMove_90 rfl ?_
          refine g_virtI X [.int r5] [.int u9.1, .int r8] k_66 mm_Mu_nimOf mv_Mu_nimOf ml_Mu_201 (okMu_nimOf r5 s7 C.l C.w) rfl (by decide) rfl (Nat.le_of_ble_eq_true rfl) dMu_openingMove_92 (fun r10 s9 => ?_)
          refine g_ixor X dMu_openingMove_95 ?_
          refine g_cne X (tgt := 114) dMu_openingMove_96 (by decide) ?_ ?_
          · refine g_iload_n X dMu_openingMove_99 rfl ?_
            refine g_zeq X (tgt := 111) dMu_openingMove_100 (by decide) ?_ ?_
            · refine g_iload X dMu_openingMove_111 rfl ?_
              exact g_iret X E dMu_openingMove_113
            · refine g_iload X dMu_openingMove_103 rfl ?_
              refine g_iload X dMu_openingMove_105 rfl ?_
              refine g_imul X dMu_openingMove_107 ?_
              refine g_goto X 113 dMu_openingMove_108 (by decide) ?_
              exact g_iret X E dMu_openingMove_113
          · refine g_iinc X (u66 + 1) [some (.ref (C.w.ad 66)), some (.ref (C.w.ad o1)), some (.int v2), some (.int u9.1), some (.int u41), some (.int r5), some (.int (u66 + 1))] dMu_openingMove_114 rfl rfl (by decide) rfl ?_
            refine g_goto X 66 dMu_openingMove_117 (by decide) ?_
            exact gf_sub (hq66 (u66 + 1) s9) (by simp [lsub])
  · refine g_iload_n X dMu_openingMove_18 rfl ?_
    refine g_aload_n X dMu_openingMove_19 rfl ?_
    refine g_aload_n X dMu_openingMove_20 rfl ?_
    refine g_iload X dMu_openingMove_21 rfl ?_
    refine g_iconst X 3 dMu_openingMove_23 (by decide) ?_
    refine g_virtI X [.int u9.2, .int 3] [.ref (C.w.ad 66), .int u9.1] h1 mm_Sc_tell mv_Sc_tell ml_Mu_194 (okSc_tell o1 u9.2 3 s2 h1 C.l C.w) rfl (by decide) rfl (Nat.le_of_ble_eq_true rfl) dMu_openingMove_24 (fun r12 s11 => ?_)
    refine g_virtI X [.int r12] [.int u9.1] k_66 mm_Mu_nimOf mv_Mu_nimOf ml_Mu_201 (okMu_nimOf r12 s11 C.l C.w) rfl (by decide) rfl (Nat.le_of_ble_eq_true rfl) dMu_openingMove_27 (fun r14 s13 => ?_)
    refine g_ixor X dMu_openingMove_30 ?_
    refine g_istore_n X [some (.ref (C.w.ad 66)), some (.ref (C.w.ad o1)), some (.int v2), some (.int (u9.1 ^^^ r14)), some (.int u9.2), none, none] dMu_openingMove_31 (by decide) (Nat.le_of_ble_eq_true rfl) rfl ?_
    refine g_iinc X (u9.2 + 1) [some (.ref (C.w.ad 66)), some (.ref (C.w.ad o1)), some (.int v2), some (.int (u9.1 ^^^ r14)), some (.int (u9.2 + 1)), none, none] dMu_openingMove_32 rfl rfl (by decide) rfl ?_
    refine g_goto X 9 dMu_openingMove_35 (by decide) ?_
    exact gf_sub (hq9 ((u9.1 ^^^ r14), (u9.2 + 1)) s13) (by simp [lsub])
def yPa_keep : MethodName := ⟨"LastWordHill$Past", "keep", "(LLastWordHill$Scene;)V"⟩
abbrev cPa_keep : ByteArray := prog_5_method_2_code
theorem dPa_keep_0 : decode cPa_keep 0 = .ok (.aload_n 0, 1) := by decide +kernel
theorem dPa_keep_1 : decode cPa_keep 1 = .ok (.getfield 18, 3) := by decide +kernel
theorem dPa_keep_4 : decode cPa_keep 4 = .ok (.bipush 6, 2) := by decide +kernel
theorem dPa_keep_6 : decode cPa_keep 6 = .ok (.if_icmp .ge 16, 3) := by decide +kernel
theorem dPa_keep_35 : decode cPa_keep 35 = .ok (.aload_n 0, 1) := by decide +kernel
theorem dPa_keep_36 : decode cPa_keep 36 = .ok (.invokevirtual 25, 3) := by decide +kernel
theorem mm_Pa_newest : MMc yPa_newest cPa_newest 1 (some (.object "LastWordHill$Scene")) 0 := ⟨hz_in 646 (by decide +kernel) (by decide +kernel), hz_in 136 (by decide +kernel) (by decide +kernel), by decide +kernel, by decide⟩
theorem mv_Pa_newest : MMv yPa_newest 3 := ⟨hz_in 644 (by decide +kernel) (by decide +kernel), hz_in 645 (by decide +kernel) (by decide +kernel), _, _, rfl, by decide⟩
theorem ml_Pa_25 : Cond.methodLink "LastWordHill$Past" 25 yPa_newest ∈ hz_wt := hz_in 643 (by decide +kernel) (by decide +kernel)
theorem dPa_keep_39 : decode cPa_keep 39 = .ok (.aload_n 1, 1) := by decide +kernel
theorem dPa_keep_40 : decode cPa_keep 40 = .ok (.invokevirtual 29, 3) := by decide +kernel
theorem mm_Sc_become : MMc ySc_become cSc_become 2 none 1 := ⟨hz_in 653 (by decide +kernel) (by decide +kernel), hz_in 135 (by decide +kernel) (by decide +kernel), by decide +kernel, by decide⟩
theorem mv_Sc_become : MMv ySc_become 5 := ⟨hz_in 651 (by decide +kernel) (by decide +kernel), hz_in 652 (by decide +kernel) (by decide +kernel), _, _, rfl, by decide⟩
theorem ml_Pa_29 : Cond.methodLink "LastWordHill$Past" 29 ySc_become ∈ hz_wt := hz_in 650 (by decide +kernel) (by decide +kernel)
theorem dPa_keep_43 : decode cPa_keep 43 = .ok (.return_, 1) := by decide +kernel
theorem dPa_keep_22 : decode cPa_keep 22 = .ok (.aload_n 0, 1) := by decide +kernel
theorem dPa_keep_23 : decode cPa_keep 23 = .ok (.aload_n 0, 1) := by decide +kernel
theorem dPa_keep_24 : decode cPa_keep 24 = .ok (.getfield 22, 3) := by decide +kernel
theorem dPa_keep_27 : decode cPa_keep 27 = .ok (.iconst 1, 1) := by decide +kernel
theorem dPa_keep_28 : decode cPa_keep 28 = .ok (.iadd, 1) := by decide +kernel
theorem dPa_keep_29 : decode cPa_keep 29 = .ok (.bipush 6, 2) := by decide +kernel
theorem dPa_keep_31 : decode cPa_keep 31 = .ok (.irem, 1) := by decide +kernel
theorem dPa_keep_32 : decode cPa_keep 32 = .ok (.putfield 22, 3) := by decide +kernel
theorem fp_3_1 : FLp 3 1 .int := ⟨_, _, _, _, rfl, nY3, nN3, by decide, by decide⟩
theorem dPa_keep_9 : decode cPa_keep 9 = .ok (.aload_n 0, 1) := by decide +kernel
theorem dPa_keep_10 : decode cPa_keep 10 = .ok (.dup, 1) := by decide +kernel
theorem dPa_keep_11 : decode cPa_keep 11 = .ok (.getfield 18, 3) := by decide +kernel
theorem dPa_keep_14 : decode cPa_keep 14 = .ok (.iconst 1, 1) := by decide +kernel
theorem dPa_keep_15 : decode cPa_keep 15 = .ok (.iadd, 1) := by decide +kernel
theorem dPa_keep_16 : decode cPa_keep 16 = .ok (.putfield 18, 3) := by decide +kernel
theorem dPa_keep_19 : decode cPa_keep 19 = .ok (.goto 16, 3) := by decide +kernel
def fPa_keep (o1 : Nat) (s0 : Sg) : Option (Sg) := bnd (fun (s1 : Sg) => br (fPa_newest s1) fun r3 s2 => gk r3 5 (bv (fSc_become r3 o1 s2) fun s5 => some s5)) fun j35 => if 6 ≤ (s0 5 2) then (gz 6 (bnd (pt s0 5 1 (((s0 5 1) + 1) - ((s0 5 1) + 1) / 6 * 6)) fun s6 => j35 s6)) else (bnd (pt s0 5 2 ((s0 5 2) + 1)) fun s7 => j35 s7)
set_option maxHeartbeats 4000000 in
set_option maxRecDepth 100000 in
theorem okPa_keep (o1 : Nat) (s0 : Sg) (h1 : hz_kd o1 = 5) : ∀ (l : Launch) (w : WC), Ok l w yPa_keep cPa_keep 2 none 3 evV [.ref (w.ad 5), .ref (w.ad o1)] s0 (fPa_keep o1 s0) := by
  refine ok_in (ev := fun _ => evV) (av := fun w => [.ref (w.ad 5), .ref (w.ad o1)]) "LastWordHill$Past" rfl (by decide +kernel) (fun _ => rfl) (fun _ => Nat.le_of_ble_eq_true rfl) ?_
  intro C X E
  show GF C evV 0 [some (.ref (C.w.ad 5)), some (.ref (C.w.ad o1))] [] s0 (fPa_keep o1 s0)
  unfold fPa_keep
  refine g_aload_n X dPa_keep_0 rfl ?_
  refine g_getI X fl_Pa_18 fb_3_2 k_5 dPa_keep_1 ?_
  refine g_bipush X 6 dPa_keep_4 (by decide) ?_
  refine gf_jn (fun j35 => ∀ (s1 : Sg), GF C evV 35 [some (.ref (C.w.ad 5)), some (.ref (C.w.ad o1))] [] s1 (j35 s1)) ?_ ?_
  · intro s1
    refine g_aload_n X dPa_keep_35 rfl ?_
    refine g_virtR X [] [] k_5 mm_Pa_newest mv_Pa_newest ml_Pa_25 (okPa_newest s1 C.l C.w) rfl (by decide) rfl (Nat.le_of_ble_eq_true rfl) dPa_keep_36 (fun r3 s2 => ?_)
    refine gf_gk (fun hr4 => ?_)
    refine g_aload_n X dPa_keep_39 rfl ?_
    refine g_virtV X [.ref (C.w.ad o1)] [] hr4 mm_Sc_become mv_Sc_become ml_Pa_29 (okSc_become r3 o1 s2 hr4 h1 C.l C.w) rfl (by decide) rfl (Nat.le_of_ble_eq_true rfl) dPa_keep_40 (fun s5 => ?_)
    exact g_vret X E dPa_keep_43
  · intro j35 hj35
    refine g_cge X (tgt := 22) dPa_keep_6 (by decide) ?_ ?_
    · refine g_aload_n X dPa_keep_22 rfl ?_
      refine g_aload_n X dPa_keep_23 rfl ?_
      refine g_getI X fl_Pa_22 fb_3_1 k_5 dPa_keep_24 ?_
      refine g_iconst X 1 dPa_keep_27 (by decide) ?_
      refine g_iadd X dPa_keep_28 ?_
      refine g_bipush X 6 dPa_keep_29 (by decide) ?_
      refine g_irem X dPa_keep_31 ?_
      refine g_putI X fl_Pa_22 fb_3_1 fp_3_1 k_5 dPa_keep_32 (fun s6 => ?_)
      exact gf_sub (hj35 s6) (by simp [lsub])
    · refine g_aload_n X dPa_keep_9 rfl ?_
      refine g_dup X dPa_keep_10 rfl ?_
      refine g_getI X fl_Pa_18 fb_3_2 k_5 dPa_keep_11 ?_
      refine g_iconst X 1 dPa_keep_14 (by decide) ?_
      refine g_iadd X dPa_keep_15 ?_
      refine g_putI X fl_Pa_18 fb_3_2 fp_3_2 k_5 dPa_keep_16 (fun s7 => ?_)
      refine g_goto X 35 dPa_keep_19 (by decide) ?_
      exact gf_sub (hj35 s7) (by simp [lsub])
def yPa_goBack : MethodName := ⟨"LastWordHill$Past", "goBack", "(LLastWordHill$Scene;)Z"⟩
abbrev cPa_goBack : ByteArray := prog_5_method_3_code
theorem dPa_goBack_0 : decode cPa_goBack 0 = .ok (.aload_n 0, 1) := by decide +kernel
theorem dPa_goBack_1 : decode cPa_goBack 1 = .ok (.getfield 18, 3) := by decide +kernel
theorem dPa_goBack_4 : decode cPa_goBack 4 = .ok (.iconst 1, 1) := by decide +kernel
theorem dPa_goBack_5 : decode cPa_goBack 5 = .ok (.if_icmp .ge 5, 3) := by decide +kernel
theorem dPa_goBack_10 : decode cPa_goBack 10 = .ok (.aload_n 1, 1) := by decide +kernel
theorem dPa_goBack_11 : decode cPa_goBack 11 = .ok (.aload_n 0, 1) := by decide +kernel
theorem dPa_goBack_12 : decode cPa_goBack 12 = .ok (.invokevirtual 25, 3) := by decide +kernel
theorem dPa_goBack_15 : decode cPa_goBack 15 = .ok (.invokevirtual 29, 3) := by decide +kernel
theorem dPa_goBack_18 : decode cPa_goBack 18 = .ok (.aload_n 0, 1) := by decide +kernel
theorem dPa_goBack_19 : decode cPa_goBack 19 = .ok (.dup, 1) := by decide +kernel
theorem dPa_goBack_20 : decode cPa_goBack 20 = .ok (.getfield 18, 3) := by decide +kernel
theorem dPa_goBack_23 : decode cPa_goBack 23 = .ok (.iconst 1, 1) := by decide +kernel
theorem dPa_goBack_24 : decode cPa_goBack 24 = .ok (.isub, 1) := by decide +kernel
theorem dPa_goBack_25 : decode cPa_goBack 25 = .ok (.putfield 18, 3) := by decide +kernel
theorem dPa_goBack_28 : decode cPa_goBack 28 = .ok (.iconst 1, 1) := by decide +kernel
theorem dPa_goBack_29 : decode cPa_goBack 29 = .ok (.ireturn, 1) := by decide +kernel
theorem dPa_goBack_8 : decode cPa_goBack 8 = .ok (.iconst 0, 1) := by decide +kernel
theorem dPa_goBack_9 : decode cPa_goBack 9 = .ok (.ireturn, 1) := by decide +kernel
def fPa_goBack (o1 : Nat) (s0 : Sg) : Option (Int32 × Sg) := if 1 ≤ (s0 5 2) then (br (fPa_newest s0) fun r2 s1 => gk r2 5 (bv (fSc_become o1 r2 s1) fun s4 => bnd (pt s4 5 2 ((s4 5 2) - 1)) fun s5 => gb 1 (some (1, s5)))) else (gb 0 (some (0, s0)))
set_option maxHeartbeats 4000000 in
set_option maxRecDepth 100000 in
theorem okPa_goBack (o1 : Nat) (s0 : Sg) (h1 : hz_kd o1 = 5) : ∀ (l : Launch) (w : WC), Ok l w yPa_goBack cPa_goBack 2 (some .boolean) 3 evI [.ref (w.ad 5), .ref (w.ad o1)] s0 (fPa_goBack o1 s0) := by
  refine ok_in (ev := fun _ => evI) (av := fun w => [.ref (w.ad 5), .ref (w.ad o1)]) "LastWordHill$Past" rfl (by decide +kernel) (fun _ => rfl) (fun _ => Nat.le_of_ble_eq_true rfl) ?_
  intro C X E
  show GF C evI 0 [some (.ref (C.w.ad 5)), some (.ref (C.w.ad o1))] [] s0 (fPa_goBack o1 s0)
  unfold fPa_goBack
  refine g_aload_n X dPa_goBack_0 rfl ?_
  refine g_getI X fl_Pa_18 fb_3_2 k_5 dPa_goBack_1 ?_
  refine g_iconst X 1 dPa_goBack_4 (by decide) ?_
  refine g_cge X (tgt := 10) dPa_goBack_5 (by decide) ?_ ?_
  · refine g_aload_n X dPa_goBack_10 rfl ?_
    refine g_aload_n X dPa_goBack_11 rfl ?_
    refine g_virtR X [] [.ref (C.w.ad o1)] k_5 mm_Pa_newest mv_Pa_newest ml_Pa_25 (okPa_newest s0 C.l C.w) rfl (by decide) rfl (Nat.le_of_ble_eq_true rfl) dPa_goBack_12 (fun r2 s1 => ?_)
    refine gf_gk (fun hr3 => ?_)
    refine g_virtV X [.ref (C.w.ad r2)] [] h1 mm_Sc_become mv_Sc_become ml_Pa_29 (okSc_become o1 r2 s1 h1 hr3 C.l C.w) rfl (by decide) rfl (Nat.le_of_ble_eq_true rfl) dPa_goBack_15 (fun s4 => ?_)
    refine g_aload_n X dPa_goBack_18 rfl ?_
    refine g_dup X dPa_goBack_19 rfl ?_
    refine g_getI X fl_Pa_18 fb_3_2 k_5 dPa_goBack_20 ?_
    refine g_iconst X 1 dPa_goBack_23 (by decide) ?_
    refine g_isub X dPa_goBack_24 ?_
    refine g_putI X fl_Pa_18 fb_3_2 fp_3_2 k_5 dPa_goBack_25 (fun s5 => ?_)
    refine g_iconst X 1 dPa_goBack_28 (by decide) ?_
    exact g_zret X E dPa_goBack_29
  · refine g_iconst X 0 dPa_goBack_8 (by decide) ?_
    exact g_zret X E dPa_goBack_9
def yRe_readClimb : MethodName := ⟨"LastWordHill$Reader", "readClimb", "(I)Z"⟩
abbrev cRe_readClimb : ByteArray := prog_6_method_10_code
theorem dRe_readClimb_0 : decode cRe_readClimb 0 = .ok (.aload_n 0, 1) := by decide +kernel
theorem dRe_readClimb_1 : decode cRe_readClimb 1 = .ok (.iconst 0, 1) := by decide +kernel
theorem dRe_readClimb_2 : decode cRe_readClimb 2 = .ok (.iconst 0, 1) := by decide +kernel
theorem dRe_readClimb_3 : decode cRe_readClimb 3 = .ok (.sipush 999, 3) := by decide +kernel
theorem dRe_readClimb_6 : decode cRe_readClimb 6 = .ok (.invokevirtual 108, 3) := by decide +kernel
theorem mm_Re_keyNumber : MMc yRe_keyNumber cRe_keyNumber 4 (some .boolean) 3 := ⟨hz_in 1051 (by decide +kernel) (by decide +kernel), hz_in 141 (by decide +kernel) (by decide +kernel), by decide +kernel, by decide⟩
theorem mv_Re_keyNumber : MMv yRe_keyNumber 4 := ⟨hz_in 1050 (by decide +kernel) (by decide +kernel), hz_in 28 (by decide +kernel) (by decide +kernel), _, _, rfl, by decide⟩
theorem ml_Re_108 : Cond.methodLink "LastWordHill$Reader" 108 yRe_keyNumber ∈ hz_wt := hz_in 1048 (by decide +kernel) (by decide +kernel)
theorem dRe_readClimb_9 : decode cRe_readClimb 9 = .ok (.ifCond .ne 5, 3) := by decide +kernel
theorem dRe_readClimb_14 : decode cRe_readClimb 14 = .ok (.aload_n 0, 1) := by decide +kernel
theorem dRe_readClimb_15 : decode cRe_readClimb 15 = .ok (.getfield 102, 3) := by decide +kernel
theorem dRe_readClimb_18 : decode cRe_readClimb 18 = .ok (.istore_n 2, 1) := by decide +kernel
theorem dRe_readClimb_19 : decode cRe_readClimb 19 = .ok (.aload_n 0, 1) := by decide +kernel
theorem dRe_readClimb_20 : decode cRe_readClimb 20 = .ok (.iconst 1, 1) := by decide +kernel
theorem dRe_readClimb_21 : decode cRe_readClimb 21 = .ok (.iconst 0, 1) := by decide +kernel
theorem dRe_readClimb_22 : decode cRe_readClimb 22 = .ok (.iload_n 1, 1) := by decide +kernel
theorem dRe_readClimb_23 : decode cRe_readClimb 23 = .ok (.iconst 1, 1) := by decide +kernel
theorem dRe_readClimb_24 : decode cRe_readClimb 24 = .ok (.isub, 1) := by decide +kernel
theorem dRe_readClimb_25 : decode cRe_readClimb 25 = .ok (.invokevirtual 108, 3) := by decide +kernel
theorem dRe_readClimb_28 : decode cRe_readClimb 28 = .ok (.ifCond .ne 5, 3) := by decide +kernel
theorem dRe_readClimb_33 : decode cRe_readClimb 33 = .ok (.aload_n 0, 1) := by decide +kernel
theorem dRe_readClimb_34 : decode cRe_readClimb 34 = .ok (.getfield 102, 3) := by decide +kernel
theorem dRe_readClimb_37 : decode cRe_readClimb 37 = .ok (.istore_n 3, 1) := by decide +kernel
theorem dRe_readClimb_38 : decode cRe_readClimb 38 = .ok (.aload_n 0, 1) := by decide +kernel
theorem dRe_readClimb_39 : decode cRe_readClimb 39 = .ok (.iconst 2, 1) := by decide +kernel
theorem dRe_readClimb_40 : decode cRe_readClimb 40 = .ok (.iconst 0, 1) := by decide +kernel
theorem dRe_readClimb_41 : decode cRe_readClimb 41 = .ok (.bipush 19, 2) := by decide +kernel
theorem dRe_readClimb_43 : decode cRe_readClimb 43 = .ok (.invokevirtual 108, 3) := by decide +kernel
theorem dRe_readClimb_46 : decode cRe_readClimb 46 = .ok (.ifCond .ne 5, 3) := by decide +kernel
theorem dRe_readClimb_51 : decode cRe_readClimb 51 = .ok (.aload_n 0, 1) := by decide +kernel
theorem dRe_readClimb_52 : decode cRe_readClimb 52 = .ok (.getfield 102, 3) := by decide +kernel
theorem dRe_readClimb_55 : decode cRe_readClimb 55 = .ok (.istore 4, 2) := by decide +kernel
theorem dRe_readClimb_57 : decode cRe_readClimb 57 = .ok (.aload_n 0, 1) := by decide +kernel
theorem dRe_readClimb_58 : decode cRe_readClimb 58 = .ok (.iconst 3, 1) := by decide +kernel
theorem dRe_readClimb_59 : decode cRe_readClimb 59 = .ok (.iconst 0, 1) := by decide +kernel
theorem dRe_readClimb_60 : decode cRe_readClimb 60 = .ok (.bipush 59, 2) := by decide +kernel
theorem dRe_readClimb_62 : decode cRe_readClimb 62 = .ok (.invokevirtual 108, 3) := by decide +kernel
theorem dRe_readClimb_65 : decode cRe_readClimb 65 = .ok (.ifCond .ne 5, 3) := by decide +kernel
theorem dRe_readClimb_70 : decode cRe_readClimb 70 = .ok (.aload_n 0, 1) := by decide +kernel
theorem dRe_readClimb_71 : decode cRe_readClimb 71 = .ok (.getfield 21, 3) := by decide +kernel
theorem dRe_readClimb_74 : decode cRe_readClimb 74 = .ok (.getfield 111, 3) := by decide +kernel
theorem fl_Re_111 : FLk "LastWordHill$Reader" 111 8 1 := ⟨_, _, _, rfl, by decide, hz_in 315 (by decide +kernel) (by decide +kernel), nL8, by decide, by decide⟩
theorem k_42 : hz_kd 42 = 7 := by decide
theorem r_36_1 : hz_rf 36 1 = 42 := by decide
theorem dRe_readClimb_77 : decode cRe_readClimb 77 = .ok (.iload_n 2, 1) := by decide +kernel
theorem dRe_readClimb_78 : decode cRe_readClimb 78 = .ok (.iload_n 3, 1) := by decide +kernel
theorem dRe_readClimb_79 : decode cRe_readClimb 79 = .ok (.iload 4, 2) := by decide +kernel
theorem dRe_readClimb_81 : decode cRe_readClimb 81 = .ok (.aload_n 0, 1) := by decide +kernel
theorem dRe_readClimb_82 : decode cRe_readClimb 82 = .ok (.getfield 102, 3) := by decide +kernel
theorem dRe_readClimb_85 : decode cRe_readClimb 85 = .ok (.iconst 0, 1) := by decide +kernel
theorem dRe_readClimb_86 : decode cRe_readClimb 86 = .ok (.invokevirtual 115, 3) := by decide +kernel
theorem ml_Re_115 : Cond.methodLink "LastWordHill$Reader" 115 yTa_add ∈ hz_wt := hz_in 1039 (by decide +kernel) (by decide +kernel)
theorem dRe_readClimb_89 : decode cRe_readClimb 89 = .ok (.pop, 1) := by decide +kernel
theorem dRe_readClimb_90 : decode cRe_readClimb 90 = .ok (.iconst 1, 1) := by decide +kernel
theorem dRe_readClimb_91 : decode cRe_readClimb 91 = .ok (.ireturn, 1) := by decide +kernel
theorem dRe_readClimb_68 : decode cRe_readClimb 68 = .ok (.iconst 0, 1) := by decide +kernel
theorem dRe_readClimb_69 : decode cRe_readClimb 69 = .ok (.ireturn, 1) := by decide +kernel
theorem dRe_readClimb_49 : decode cRe_readClimb 49 = .ok (.iconst 0, 1) := by decide +kernel
theorem dRe_readClimb_50 : decode cRe_readClimb 50 = .ok (.ireturn, 1) := by decide +kernel
theorem dRe_readClimb_31 : decode cRe_readClimb 31 = .ok (.iconst 0, 1) := by decide +kernel
theorem dRe_readClimb_32 : decode cRe_readClimb 32 = .ok (.ireturn, 1) := by decide +kernel
theorem dRe_readClimb_12 : decode cRe_readClimb 12 = .ok (.iconst 0, 1) := by decide +kernel
theorem dRe_readClimb_13 : decode cRe_readClimb 13 = .ok (.ireturn, 1) := by decide +kernel
def fRe_readClimb (v1 : Int32) (s0 : Sg) : Option (Int32 × Sg) := bi (fRe_keyNumber 0 0 999 s0) fun r2 s1 => if r2 = 0 then (gb 0 (some (0, s1))) else (bi (fRe_keyNumber 1 0 (v1 - 1) s1) fun r4 s3 => if r4 = 0 then (gb 0 (some (0, s3))) else (bi (fRe_keyNumber 2 0 19 s3) fun r6 s5 => if r6 = 0 then (gb 0 (some (0, s5))) else (bi (fRe_keyNumber 3 0 59 s5) fun r8 s7 => if r8 = 0 then (gb 0 (some (0, s7))) else (bi (fTa_add 42 (s1 30 5) (s3 30 5) (s5 30 5) (s7 30 5) 0 s7) fun r10 s9 => gb 1 (some (1, s9))))))
set_option maxHeartbeats 4000000 in
set_option maxRecDepth 100000 in
theorem okRe_readClimb (v1 : Int32) (s0 : Sg) : ∀ (l : Launch) (w : WC), Ok l w yRe_readClimb cRe_readClimb 5 (some .boolean) 4 evI [.ref (w.ad 30), .int v1] s0 (fRe_readClimb v1 s0) := by
  refine ok_in (ev := fun _ => evI) (av := fun w => [.ref (w.ad 30), .int v1]) "LastWordHill$Reader" rfl (by decide +kernel) (fun _ => rfl) (fun _ => Nat.le_of_ble_eq_true rfl) ?_
  intro C X E
  show GF C evI 0 [some (.ref (C.w.ad 30)), some (.int v1), none, none, none] [] s0 (fRe_readClimb v1 s0)
  unfold fRe_readClimb
  refine g_aload_n X dRe_readClimb_0 rfl ?_
  refine g_iconst X 0 dRe_readClimb_1 (by decide) ?_
  refine g_iconst X 0 dRe_readClimb_2 (by decide) ?_
  refine g_sipush X 999 dRe_readClimb_3 (by decide) ?_
  refine g_virtI X [.int 0, .int 0, .int 999] [] k_30 mm_Re_keyNumber mv_Re_keyNumber ml_Re_108 (okRe_keyNumber 0 0 999 s0 C.l C.w) rfl (by decide) rfl (Nat.le_of_ble_eq_true rfl) dRe_readClimb_6 (fun r2 s1 => ?_)
  refine g_zne X (tgt := 14) dRe_readClimb_9 (by decide) ?_ ?_
  · refine g_iconst X 0 dRe_readClimb_12 (by decide) ?_
    exact g_zret X E dRe_readClimb_13
  · refine g_aload_n X dRe_readClimb_14 rfl ?_
    refine g_getI X fl_Re_102 fb_4_5 k_30 dRe_readClimb_15 ?_
    refine g_istore_n X [some (.ref (C.w.ad 30)), some (.int v1), some (.int (s1 30 5)), none, none] dRe_readClimb_18 (by decide) (Nat.le_of_ble_eq_true rfl) rfl ?_
    refine g_aload_n X dRe_readClimb_19 rfl ?_
    refine g_iconst X 1 dRe_readClimb_20 (by decide) ?_
    refine g_iconst X 0 dRe_readClimb_21 (by decide) ?_
    refine g_iload_n X dRe_readClimb_22 rfl ?_
    refine g_iconst X 1 dRe_readClimb_23 (by decide) ?_
    refine g_isub X dRe_readClimb_24 ?_
    refine g_virtI X [.int 1, .int 0, .int (v1 - 1)] [] k_30 mm_Re_keyNumber mv_Re_keyNumber ml_Re_108 (okRe_keyNumber 1 0 (v1 - 1) s1 C.l C.w) rfl (by decide) rfl (Nat.le_of_ble_eq_true rfl) dRe_readClimb_25 (fun r4 s3 => ?_)
    refine g_zne X (tgt := 33) dRe_readClimb_28 (by decide) ?_ ?_
    · refine g_iconst X 0 dRe_readClimb_31 (by decide) ?_
      exact g_zret X E dRe_readClimb_32
    · refine g_aload_n X dRe_readClimb_33 rfl ?_
      refine g_getI X fl_Re_102 fb_4_5 k_30 dRe_readClimb_34 ?_
      refine g_istore_n X [some (.ref (C.w.ad 30)), some (.int v1), some (.int (s1 30 5)), some (.int (s3 30 5)), none] dRe_readClimb_37 (by decide) (Nat.le_of_ble_eq_true rfl) rfl ?_
      refine g_aload_n X dRe_readClimb_38 rfl ?_
      refine g_iconst X 2 dRe_readClimb_39 (by decide) ?_
      refine g_iconst X 0 dRe_readClimb_40 (by decide) ?_
      refine g_bipush X 19 dRe_readClimb_41 (by decide) ?_
      refine g_virtI X [.int 2, .int 0, .int 19] [] k_30 mm_Re_keyNumber mv_Re_keyNumber ml_Re_108 (okRe_keyNumber 2 0 19 s3 C.l C.w) rfl (by decide) rfl (Nat.le_of_ble_eq_true rfl) dRe_readClimb_43 (fun r6 s5 => ?_)
      refine g_zne X (tgt := 51) dRe_readClimb_46 (by decide) ?_ ?_
      · refine g_iconst X 0 dRe_readClimb_49 (by decide) ?_
        exact g_zret X E dRe_readClimb_50
      · refine g_aload_n X dRe_readClimb_51 rfl ?_
        refine g_getI X fl_Re_102 fb_4_5 k_30 dRe_readClimb_52 ?_
        refine g_istore X [some (.ref (C.w.ad 30)), some (.int v1), some (.int (s1 30 5)), some (.int (s3 30 5)), some (.int (s5 30 5))] dRe_readClimb_55 (by decide) (Nat.le_of_ble_eq_true rfl) rfl ?_
        refine g_aload_n X dRe_readClimb_57 rfl ?_
        refine g_iconst X 3 dRe_readClimb_58 (by decide) ?_
        refine g_iconst X 0 dRe_readClimb_59 (by decide) ?_
        refine g_bipush X 59 dRe_readClimb_60 (by decide) ?_
        refine g_virtI X [.int 3, .int 0, .int 59] [] k_30 mm_Re_keyNumber mv_Re_keyNumber ml_Re_108 (okRe_keyNumber 3 0 59 s5 C.l C.w) rfl (by decide) rfl (Nat.le_of_ble_eq_true rfl) dRe_readClimb_62 (fun r8 s7 => ?_)
        refine g_zne X (tgt := 70) dRe_readClimb_65 (by decide) ?_ ?_
        · refine g_iconst X 0 dRe_readClimb_68 (by decide) ?_
          exact g_zret X E dRe_readClimb_69
        · refine g_aload_n X dRe_readClimb_70 rfl ?_
          refine g_getN X fl_Re_21 fb_4_1 k_30 r_30_1 dRe_readClimb_71 ?_
          refine g_getN X fl_Re_111 fb_8_1 k_36 r_36_1 dRe_readClimb_74 ?_
          refine g_iload_n X dRe_readClimb_77 rfl ?_
          refine g_iload_n X dRe_readClimb_78 rfl ?_
          refine g_iload X dRe_readClimb_79 rfl ?_
          refine g_aload_n X dRe_readClimb_81 rfl ?_
          refine g_getI X fl_Re_102 fb_4_5 k_30 dRe_readClimb_82 ?_
          refine g_iconst X 0 dRe_readClimb_85 (by decide) ?_
          refine g_virtI X [.int (s1 30 5), .int (s3 30 5), .int (s5 30 5), .int (s7 30 5), .int 0] [] k_42 mm_Ta_add mv_Ta_add ml_Re_115 (okTa_add 42 (s1 30 5) (s3 30 5) (s5 30 5) (s7 30 5) 0 s7 k_42 C.l C.w) rfl (by decide) rfl (Nat.le_of_ble_eq_true rfl) dRe_readClimb_86 (fun r10 s9 => ?_)
          refine g_pop X dRe_readClimb_89 rfl ?_
          refine g_iconst X 1 dRe_readClimb_90 (by decide) ?_
          exact g_zret X E dRe_readClimb_91
def yRe_readSun : MethodName := ⟨"LastWordHill$Reader", "readSun", "()Z"⟩
abbrev cRe_readSun : ByteArray := prog_6_method_11_code
theorem dRe_readSun_0 : decode cRe_readSun 0 = .ok (.aload_n 0, 1) := by decide +kernel
theorem dRe_readSun_1 : decode cRe_readSun 1 = .ok (.iconst 0, 1) := by decide +kernel
theorem dRe_readSun_2 : decode cRe_readSun 2 = .ok (.iconst 0, 1) := by decide +kernel
theorem dRe_readSun_3 : decode cRe_readSun 3 = .ok (.sipush 999, 3) := by decide +kernel
theorem dRe_readSun_6 : decode cRe_readSun 6 = .ok (.invokevirtual 108, 3) := by decide +kernel
theorem dRe_readSun_9 : decode cRe_readSun 9 = .ok (.ifCond .ne 5, 3) := by decide +kernel
theorem dRe_readSun_14 : decode cRe_readSun 14 = .ok (.aload_n 0, 1) := by decide +kernel
theorem dRe_readSun_15 : decode cRe_readSun 15 = .ok (.getfield 102, 3) := by decide +kernel
theorem dRe_readSun_18 : decode cRe_readSun 18 = .ok (.istore_n 1, 1) := by decide +kernel
theorem dRe_readSun_19 : decode cRe_readSun 19 = .ok (.aload_n 0, 1) := by decide +kernel
theorem dRe_readSun_20 : decode cRe_readSun 20 = .ok (.iconst 1, 1) := by decide +kernel
theorem dRe_readSun_21 : decode cRe_readSun 21 = .ok (.bipush 10, 2) := by decide +kernel
theorem dRe_readSun_23 : decode cRe_readSun 23 = .ok (.bipush 59, 2) := by decide +kernel
theorem dRe_readSun_25 : decode cRe_readSun 25 = .ok (.invokevirtual 108, 3) := by decide +kernel
theorem dRe_readSun_28 : decode cRe_readSun 28 = .ok (.ifCond .ne 5, 3) := by decide +kernel
theorem dRe_readSun_33 : decode cRe_readSun 33 = .ok (.aload_n 0, 1) := by decide +kernel
theorem dRe_readSun_34 : decode cRe_readSun 34 = .ok (.getfield 21, 3) := by decide +kernel
theorem dRe_readSun_37 : decode cRe_readSun 37 = .ok (.getfield 121, 3) := by decide +kernel
theorem fl_Re_121 : FLk "LastWordHill$Reader" 121 8 2 := ⟨_, _, _, rfl, by decide, hz_in 318 (by decide +kernel) (by decide +kernel), nL8, by decide, by decide⟩
theorem k_44 : hz_kd 44 = 7 := by decide
theorem r_36_2 : hz_rf 36 2 = 44 := by decide
theorem dRe_readSun_40 : decode cRe_readSun 40 = .ok (.iload_n 1, 1) := by decide +kernel
theorem dRe_readSun_41 : decode cRe_readSun 41 = .ok (.aload_n 0, 1) := by decide +kernel
theorem dRe_readSun_42 : decode cRe_readSun 42 = .ok (.getfield 102, 3) := by decide +kernel
theorem dRe_readSun_45 : decode cRe_readSun 45 = .ok (.iconst 0, 1) := by decide +kernel
theorem dRe_readSun_46 : decode cRe_readSun 46 = .ok (.iconst 0, 1) := by decide +kernel
theorem dRe_readSun_47 : decode cRe_readSun 47 = .ok (.iconst 0, 1) := by decide +kernel
theorem dRe_readSun_48 : decode cRe_readSun 48 = .ok (.invokevirtual 115, 3) := by decide +kernel
theorem dRe_readSun_51 : decode cRe_readSun 51 = .ok (.pop, 1) := by decide +kernel
theorem dRe_readSun_52 : decode cRe_readSun 52 = .ok (.iconst 1, 1) := by decide +kernel
theorem dRe_readSun_53 : decode cRe_readSun 53 = .ok (.ireturn, 1) := by decide +kernel
theorem dRe_readSun_31 : decode cRe_readSun 31 = .ok (.iconst 0, 1) := by decide +kernel
theorem dRe_readSun_32 : decode cRe_readSun 32 = .ok (.ireturn, 1) := by decide +kernel
theorem dRe_readSun_12 : decode cRe_readSun 12 = .ok (.iconst 0, 1) := by decide +kernel
theorem dRe_readSun_13 : decode cRe_readSun 13 = .ok (.ireturn, 1) := by decide +kernel
def fRe_readSun (s0 : Sg) : Option (Int32 × Sg) := bi (fRe_keyNumber 0 0 999 s0) fun r2 s1 => if r2 = 0 then (gb 0 (some (0, s1))) else (bi (fRe_keyNumber 1 10 59 s1) fun r4 s3 => if r4 = 0 then (gb 0 (some (0, s3))) else (bi (fTa_add 44 (s1 30 5) (s3 30 5) 0 0 0 s3) fun r6 s5 => gb 1 (some (1, s5))))
set_option maxHeartbeats 4000000 in
set_option maxRecDepth 100000 in
theorem okRe_readSun (s0 : Sg) : ∀ (l : Launch) (w : WC), Ok l w yRe_readSun cRe_readSun 2 (some .boolean) 4 evI [.ref (w.ad 30)] s0 (fRe_readSun s0) := by
  refine ok_in (ev := fun _ => evI) (av := fun w => [.ref (w.ad 30)]) "LastWordHill$Reader" rfl (by decide +kernel) (fun _ => rfl) (fun _ => Nat.le_of_ble_eq_true rfl) ?_
  intro C X E
  show GF C evI 0 [some (.ref (C.w.ad 30)), none] [] s0 (fRe_readSun s0)
  unfold fRe_readSun
  refine g_aload_n X dRe_readSun_0 rfl ?_
  refine g_iconst X 0 dRe_readSun_1 (by decide) ?_
  refine g_iconst X 0 dRe_readSun_2 (by decide) ?_
  refine g_sipush X 999 dRe_readSun_3 (by decide) ?_
  refine g_virtI X [.int 0, .int 0, .int 999] [] k_30 mm_Re_keyNumber mv_Re_keyNumber ml_Re_108 (okRe_keyNumber 0 0 999 s0 C.l C.w) rfl (by decide) rfl (Nat.le_of_ble_eq_true rfl) dRe_readSun_6 (fun r2 s1 => ?_)
  refine g_zne X (tgt := 14) dRe_readSun_9 (by decide) ?_ ?_
  · refine g_iconst X 0 dRe_readSun_12 (by decide) ?_
    exact g_zret X E dRe_readSun_13
  · refine g_aload_n X dRe_readSun_14 rfl ?_
    refine g_getI X fl_Re_102 fb_4_5 k_30 dRe_readSun_15 ?_
    refine g_istore_n X [some (.ref (C.w.ad 30)), some (.int (s1 30 5))] dRe_readSun_18 (by decide) (Nat.le_of_ble_eq_true rfl) rfl ?_
    refine g_aload_n X dRe_readSun_19 rfl ?_
    refine g_iconst X 1 dRe_readSun_20 (by decide) ?_
    refine g_bipush X 10 dRe_readSun_21 (by decide) ?_
    refine g_bipush X 59 dRe_readSun_23 (by decide) ?_
    refine g_virtI X [.int 1, .int 10, .int 59] [] k_30 mm_Re_keyNumber mv_Re_keyNumber ml_Re_108 (okRe_keyNumber 1 10 59 s1 C.l C.w) rfl (by decide) rfl (Nat.le_of_ble_eq_true rfl) dRe_readSun_25 (fun r4 s3 => ?_)
    refine g_zne X (tgt := 33) dRe_readSun_28 (by decide) ?_ ?_
    · refine g_iconst X 0 dRe_readSun_31 (by decide) ?_
      exact g_zret X E dRe_readSun_32
    · refine g_aload_n X dRe_readSun_33 rfl ?_
      refine g_getN X fl_Re_21 fb_4_1 k_30 r_30_1 dRe_readSun_34 ?_
      refine g_getN X fl_Re_121 fb_8_2 k_36 r_36_2 dRe_readSun_37 ?_
      refine g_iload_n X dRe_readSun_40 rfl ?_
      refine g_aload_n X dRe_readSun_41 rfl ?_
      refine g_getI X fl_Re_102 fb_4_5 k_30 dRe_readSun_42 ?_
      refine g_iconst X 0 dRe_readSun_45 (by decide) ?_
      refine g_iconst X 0 dRe_readSun_46 (by decide) ?_
      refine g_iconst X 0 dRe_readSun_47 (by decide) ?_
      refine g_virtI X [.int (s1 30 5), .int (s3 30 5), .int 0, .int 0, .int 0] [] k_44 mm_Ta_add mv_Ta_add ml_Re_115 (okTa_add 44 (s1 30 5) (s3 30 5) 0 0 0 s3 k_44 C.l C.w) rfl (by decide) rfl (Nat.le_of_ble_eq_true rfl) dRe_readSun_48 (fun r6 s5 => ?_)
      refine g_pop X dRe_readSun_51 rfl ?_
      refine g_iconst X 1 dRe_readSun_52 (by decide) ?_
      exact g_zret X E dRe_readSun_53
def yRe_readSuit : MethodName := ⟨"LastWordHill$Reader", "readSuit", "()Z"⟩
abbrev cRe_readSuit : ByteArray := prog_6_method_12_code
theorem dRe_readSuit_0 : decode cRe_readSuit 0 = .ok (.aload_n 0, 1) := by decide +kernel
theorem dRe_readSuit_1 : decode cRe_readSuit 1 = .ok (.iconst 0, 1) := by decide +kernel
theorem dRe_readSuit_2 : decode cRe_readSuit 2 = .ok (.iconst 0, 1) := by decide +kernel
theorem dRe_readSuit_3 : decode cRe_readSuit 3 = .ok (.bipush 19, 2) := by decide +kernel
theorem dRe_readSuit_5 : decode cRe_readSuit 5 = .ok (.invokevirtual 108, 3) := by decide +kernel
theorem dRe_readSuit_8 : decode cRe_readSuit 8 = .ok (.ifCond .ne 5, 3) := by decide +kernel
theorem dRe_readSuit_13 : decode cRe_readSuit 13 = .ok (.aload_n 0, 1) := by decide +kernel
theorem dRe_readSuit_14 : decode cRe_readSuit 14 = .ok (.getfield 102, 3) := by decide +kernel
theorem dRe_readSuit_17 : decode cRe_readSuit 17 = .ok (.istore_n 1, 1) := by decide +kernel
theorem dRe_readSuit_18 : decode cRe_readSuit 18 = .ok (.aload_n 0, 1) := by decide +kernel
theorem dRe_readSuit_19 : decode cRe_readSuit 19 = .ok (.iconst 1, 1) := by decide +kernel
theorem dRe_readSuit_20 : decode cRe_readSuit 20 = .ok (.iconst 0, 1) := by decide +kernel
theorem dRe_readSuit_21 : decode cRe_readSuit 21 = .ok (.bipush 9, 2) := by decide +kernel
theorem dRe_readSuit_23 : decode cRe_readSuit 23 = .ok (.invokevirtual 108, 3) := by decide +kernel
theorem dRe_readSuit_26 : decode cRe_readSuit 26 = .ok (.ifCond .ne 5, 3) := by decide +kernel
theorem dRe_readSuit_31 : decode cRe_readSuit 31 = .ok (.aload_n 0, 1) := by decide +kernel
theorem dRe_readSuit_32 : decode cRe_readSuit 32 = .ok (.getfield 21, 3) := by decide +kernel
theorem dRe_readSuit_35 : decode cRe_readSuit 35 = .ok (.iload_n 1, 1) := by decide +kernel
theorem dRe_readSuit_36 : decode cRe_readSuit 36 = .ok (.aload_n 0, 1) := by decide +kernel
theorem dRe_readSuit_37 : decode cRe_readSuit 37 = .ok (.getfield 102, 3) := by decide +kernel
theorem dRe_readSuit_40 : decode cRe_readSuit 40 = .ok (.invokevirtual 124, 3) := by decide +kernel
theorem mm_Te_addSuit : MMc yTe_addSuit cTe_addSuit 3 none 2 := ⟨hz_in 1067 (by decide +kernel) (by decide +kernel), hz_in 137 (by decide +kernel) (by decide +kernel), by decide +kernel, by decide⟩
theorem mv_Te_addSuit : MMv yTe_addSuit 8 := ⟨hz_in 1065 (by decide +kernel) (by decide +kernel), hz_in 1066 (by decide +kernel) (by decide +kernel), _, _, rfl, by decide⟩
theorem ml_Re_124 : Cond.methodLink "LastWordHill$Reader" 124 yTe_addSuit ∈ hz_wt := hz_in 1064 (by decide +kernel) (by decide +kernel)
theorem dRe_readSuit_43 : decode cRe_readSuit 43 = .ok (.iconst 0, 1) := by decide +kernel
theorem dRe_readSuit_44 : decode cRe_readSuit 44 = .ok (.istore_n 2, 1) := by decide +kernel
theorem dRe_readSuit_45 : decode cRe_readSuit 45 = .ok (.iload_n 2, 1) := by decide +kernel
theorem dRe_readSuit_46 : decode cRe_readSuit 46 = .ok (.sipush 400, 3) := by decide +kernel
theorem dRe_readSuit_49 : decode cRe_readSuit 49 = .ok (.if_icmp .ge 44, 3) := by decide +kernel
theorem dRe_readSuit_93 : decode cRe_readSuit 93 = .ok (.aload_n 0, 1) := by decide +kernel
theorem dRe_readSuit_94 : decode cRe_readSuit 94 = .ok (.getfield 21, 3) := by decide +kernel
theorem dRe_readSuit_97 : decode cRe_readSuit 97 = .ok (.dup, 1) := by decide +kernel
theorem dRe_readSuit_98 : decode cRe_readSuit 98 = .ok (.getfield 128, 3) := by decide +kernel
theorem fl_Re_128 : FLk "LastWordHill$Reader" 128 8 4 := ⟨_, _, _, rfl, by decide, hz_in 321 (by decide +kernel) (by decide +kernel), nL8, by decide, by decide⟩
theorem dRe_readSuit_101 : decode cRe_readSuit 101 = .ok (.iconst 1, 1) := by decide +kernel
theorem dRe_readSuit_102 : decode cRe_readSuit 102 = .ok (.iadd, 1) := by decide +kernel
theorem dRe_readSuit_103 : decode cRe_readSuit 103 = .ok (.putfield 128, 3) := by decide +kernel
theorem dRe_readSuit_106 : decode cRe_readSuit 106 = .ok (.iconst 1, 1) := by decide +kernel
theorem dRe_readSuit_107 : decode cRe_readSuit 107 = .ok (.ireturn, 1) := by decide +kernel
theorem dRe_readSuit_52 : decode cRe_readSuit 52 = .ok (.aload_n 0, 1) := by decide +kernel
theorem dRe_readSuit_53 : decode cRe_readSuit 53 = .ok (.getfield 14, 3) := by decide +kernel
theorem dRe_readSuit_56 : decode cRe_readSuit 56 = .ok (.getfield 52, 3) := by decide +kernel
theorem dRe_readSuit_59 : decode cRe_readSuit 59 = .ok (.iconst 1, 1) := by decide +kernel
theorem dRe_readSuit_60 : decode cRe_readSuit 60 = .ok (.if_icmp .ne 33, 3) := by decide +kernel
theorem dRe_readSuit_63 : decode cRe_readSuit 63 = .ok (.aload_n 0, 1) := by decide +kernel
theorem dRe_readSuit_64 : decode cRe_readSuit 64 = .ok (.iconst 0, 1) := by decide +kernel
theorem dRe_readSuit_65 : decode cRe_readSuit 65 = .ok (.bipush 9, 2) := by decide +kernel
theorem dRe_readSuit_67 : decode cRe_readSuit 67 = .ok (.invokevirtual 105, 3) := by decide +kernel
theorem dRe_readSuit_70 : decode cRe_readSuit 70 = .ok (.ifCond .ne 5, 3) := by decide +kernel
theorem dRe_readSuit_75 : decode cRe_readSuit 75 = .ok (.aload_n 0, 1) := by decide +kernel
theorem dRe_readSuit_76 : decode cRe_readSuit 76 = .ok (.getfield 21, 3) := by decide +kernel
theorem dRe_readSuit_79 : decode cRe_readSuit 79 = .ok (.iload_n 1, 1) := by decide +kernel
theorem dRe_readSuit_80 : decode cRe_readSuit 80 = .ok (.aload_n 0, 1) := by decide +kernel
theorem dRe_readSuit_81 : decode cRe_readSuit 81 = .ok (.getfield 102, 3) := by decide +kernel
theorem dRe_readSuit_84 : decode cRe_readSuit 84 = .ok (.invokevirtual 124, 3) := by decide +kernel
theorem dRe_readSuit_87 : decode cRe_readSuit 87 = .ok (.iinc 2 1, 3) := by decide +kernel
theorem dRe_readSuit_90 : decode cRe_readSuit 90 = .ok (.goto (-45), 3) := by decide +kernel
theorem dRe_readSuit_73 : decode cRe_readSuit 73 = .ok (.iconst 0, 1) := by decide +kernel
theorem dRe_readSuit_74 : decode cRe_readSuit 74 = .ok (.ireturn, 1) := by decide +kernel
theorem dRe_readSuit_29 : decode cRe_readSuit 29 = .ok (.iconst 0, 1) := by decide +kernel
theorem dRe_readSuit_30 : decode cRe_readSuit 30 = .ok (.ireturn, 1) := by decide +kernel
theorem dRe_readSuit_11 : decode cRe_readSuit 11 = .ok (.iconst 0, 1) := by decide +kernel
theorem dRe_readSuit_12 : decode cRe_readSuit 12 = .ok (.ireturn, 1) := by decide +kernel
def fRe_readSuit (s0 : Sg) : Option (Int32 × Sg) := bi (fRe_keyNumber 0 0 19 s0) fun r2 s1 => if r2 = 0 then (gb 0 (some (0, s1))) else (bi (fRe_keyNumber 1 0 9 s1) fun r4 s3 => if r4 = 0 then (gb 0 (some (0, s3))) else (bv (fTe_addSuit 36 (s1 30 5) (s3 30 5) s3) fun s5 => lp FU (fun q45 (u45 : Int32) (s6 : Sg) => bnd (fun (s7 : Sg) => bnd (pt s7 36 4 ((s7 36 4) + 1)) fun s8 => gb 1 (some (1, s8))) fun j93 => if 400 ≤ u45 then (j93 s6) else (if (s6 31 7) = 1 then (bi (fRe_number 0 9 s6) fun r10 s9 => if r10 = 0 then (gb 0 (some (0, s9))) else (bv (fTe_addSuit 36 (s1 30 5) (s9 30 5) s9) fun s11 => q45 (u45 + 1) s11)) else (j93 s6))) 0 s5))
set_option maxHeartbeats 4000000 in
set_option maxRecDepth 100000 in
theorem okRe_readSuit (s0 : Sg) : ∀ (l : Launch) (w : WC), Ok l w yRe_readSuit cRe_readSuit 3 (some .boolean) 4 evI [.ref (w.ad 30)] s0 (fRe_readSuit s0) := by
  refine ok_in (ev := fun _ => evI) (av := fun w => [.ref (w.ad 30)]) "LastWordHill$Reader" rfl (by decide +kernel) (fun _ => rfl) (fun _ => Nat.le_of_ble_eq_true rfl) ?_
  intro C X E
  show GF C evI 0 [some (.ref (C.w.ad 30)), none, none] [] s0 (fRe_readSuit s0)
  unfold fRe_readSuit
  refine g_aload_n X dRe_readSuit_0 rfl ?_
  refine g_iconst X 0 dRe_readSuit_1 (by decide) ?_
  refine g_iconst X 0 dRe_readSuit_2 (by decide) ?_
  refine g_bipush X 19 dRe_readSuit_3 (by decide) ?_
  refine g_virtI X [.int 0, .int 0, .int 19] [] k_30 mm_Re_keyNumber mv_Re_keyNumber ml_Re_108 (okRe_keyNumber 0 0 19 s0 C.l C.w) rfl (by decide) rfl (Nat.le_of_ble_eq_true rfl) dRe_readSuit_5 (fun r2 s1 => ?_)
  refine g_zne X (tgt := 13) dRe_readSuit_8 (by decide) ?_ ?_
  · refine g_iconst X 0 dRe_readSuit_11 (by decide) ?_
    exact g_zret X E dRe_readSuit_12
  · refine g_aload_n X dRe_readSuit_13 rfl ?_
    refine g_getI X fl_Re_102 fb_4_5 k_30 dRe_readSuit_14 ?_
    refine g_istore_n X [some (.ref (C.w.ad 30)), some (.int (s1 30 5)), none] dRe_readSuit_17 (by decide) (Nat.le_of_ble_eq_true rfl) rfl ?_
    refine g_aload_n X dRe_readSuit_18 rfl ?_
    refine g_iconst X 1 dRe_readSuit_19 (by decide) ?_
    refine g_iconst X 0 dRe_readSuit_20 (by decide) ?_
    refine g_bipush X 9 dRe_readSuit_21 (by decide) ?_
    refine g_virtI X [.int 1, .int 0, .int 9] [] k_30 mm_Re_keyNumber mv_Re_keyNumber ml_Re_108 (okRe_keyNumber 1 0 9 s1 C.l C.w) rfl (by decide) rfl (Nat.le_of_ble_eq_true rfl) dRe_readSuit_23 (fun r4 s3 => ?_)
    refine g_zne X (tgt := 31) dRe_readSuit_26 (by decide) ?_ ?_
    · refine g_iconst X 0 dRe_readSuit_29 (by decide) ?_
      exact g_zret X E dRe_readSuit_30
    · refine g_aload_n X dRe_readSuit_31 rfl ?_
      refine g_getN X fl_Re_21 fb_4_1 k_30 r_30_1 dRe_readSuit_32 ?_
      refine g_iload_n X dRe_readSuit_35 rfl ?_
      refine g_aload_n X dRe_readSuit_36 rfl ?_
      refine g_getI X fl_Re_102 fb_4_5 k_30 dRe_readSuit_37 ?_
      refine g_virtV X [.int (s1 30 5), .int (s3 30 5)] [] k_36 mm_Te_addSuit mv_Te_addSuit ml_Re_124 (okTe_addSuit 36 (s1 30 5) (s3 30 5) s3 k_36 C.l C.w) rfl (by decide) rfl (Nat.le_of_ble_eq_true rfl) dRe_readSuit_40 (fun s5 => ?_)
      refine g_iconst X 0 dRe_readSuit_43 (by decide) ?_
      refine g_istore_n X [some (.ref (C.w.ad 30)), some (.int (s1 30 5)), some (.int 0)] dRe_readSuit_44 (by decide) (Nat.le_of_ble_eq_true rfl) rfl ?_
      refine gf_sub (L' := [some (.ref (C.w.ad 30)), some (.int (s1 30 5)), some (.int 0)]) ?_ (by simp [lsub])
      refine gf_lp (Lf := fun (u45 : Int32) => [some (.ref (C.w.ad 30)), some (.int (s1 30 5)), some (.int u45)]) (fun q45 hq45 u45 s6 => ?_) FU 0 s5
      refine g_iload_n X dRe_readSuit_45 rfl ?_
      refine g_sipush X 400 dRe_readSuit_46 (by decide) ?_
      refine gf_jn (fun j93 => ∀ (s7 : Sg), GF C evI 93 [some (.ref (C.w.ad 30)), none, none] [] s7 (j93 s7)) ?_ ?_
      · intro s7
        refine g_aload_n X dRe_readSuit_93 rfl ?_
        refine g_getN X fl_Re_21 fb_4_1 k_30 r_30_1 dRe_readSuit_94 ?_
        refine g_dup X dRe_readSuit_97 rfl ?_
        refine g_getI X fl_Re_128 fb_8_4 k_36 dRe_readSuit_98 ?_
        refine g_iconst X 1 dRe_readSuit_101 (by decide) ?_
        refine g_iadd X dRe_readSuit_102 ?_
        refine g_putI X fl_Re_128 fb_8_4 fp_8_4 k_36 dRe_readSuit_103 (fun s8 => ?_)
        refine g_iconst X 1 dRe_readSuit_106 (by decide) ?_
        exact g_zret X E dRe_readSuit_107
      · intro j93 hj93
        refine g_cge X (tgt := 93) dRe_readSuit_49 (by decide) ?_ ?_
        · exact gf_sub (hj93 s6) (by simp [lsub])
        · refine g_aload_n X dRe_readSuit_52 rfl ?_
          refine g_getN X fl_Re_14 fb_4_0 k_30 r_30_0 dRe_readSuit_53 ?_
          refine g_getI X fl_Re_52 fb_9_7 k_31 dRe_readSuit_56 ?_
          refine g_iconst X 1 dRe_readSuit_59 (by decide) ?_
          refine g_cne X (tgt := 93) dRe_readSuit_60 (by decide) ?_ ?_
          · refine g_aload_n X dRe_readSuit_63 rfl ?_
            refine g_iconst X 0 dRe_readSuit_64 (by decide) ?_
            refine g_bipush X 9 dRe_readSuit_65 (by decide) ?_
            refine g_virtI X [.int 0, .int 9] [] k_30 mm_Re_number mv_Re_number ml_Re_105 (okRe_number 0 9 s6 C.l C.w) rfl (by decide) rfl (Nat.le_of_ble_eq_true rfl) dRe_readSuit_67 (fun r10 s9 => ?_)
            refine g_zne X (tgt := 75) dRe_readSuit_70 (by decide) ?_ ?_
            · refine g_iconst X 0 dRe_readSuit_73 (by decide) ?_
              exact g_zret X E dRe_readSuit_74
            · refine g_aload_n X dRe_readSuit_75 rfl ?_
              refine g_getN X fl_Re_21 fb_4_1 k_30 r_30_1 dRe_readSuit_76 ?_
              refine g_iload_n X dRe_readSuit_79 rfl ?_
              refine g_aload_n X dRe_readSuit_80 rfl ?_
              refine g_getI X fl_Re_102 fb_4_5 k_30 dRe_readSuit_81 ?_
              refine g_virtV X [.int (s1 30 5), .int (s9 30 5)] [] k_36 mm_Te_addSuit mv_Te_addSuit ml_Re_124 (okTe_addSuit 36 (s1 30 5) (s9 30 5) s9 k_36 C.l C.w) rfl (by decide) rfl (Nat.le_of_ble_eq_true rfl) dRe_readSuit_84 (fun s11 => ?_)
              refine g_iinc X (u45 + 1) [some (.ref (C.w.ad 30)), some (.int (s1 30 5)), some (.int (u45 + 1))] dRe_readSuit_87 rfl rfl (by decide) rfl ?_
              refine g_goto X 45 dRe_readSuit_90 (by decide) ?_
              exact gf_sub (hq45 (u45 + 1) s11) (by simp [lsub])
          · exact gf_sub (hj93 s6) (by simp [lsub])
def yRe_readComparison : MethodName := ⟨"LastWordHill$Reader", "readComparison", "()Z"⟩
abbrev cRe_readComparison : ByteArray := prog_6_method_15_code
theorem dRe_readComparison_0 : decode cRe_readComparison 0 = .ok (.aload_n 0, 1) := by decide +kernel
theorem dRe_readComparison_1 : decode cRe_readComparison 1 = .ok (.getfield 14, 3) := by decide +kernel
theorem dRe_readComparison_4 : decode cRe_readComparison 4 = .ok (.getfield 52, 3) := by decide +kernel
theorem dRe_readComparison_7 : decode cRe_readComparison 7 = .ok (.bipush 60, 2) := by decide +kernel
theorem dRe_readComparison_9 : decode cRe_readComparison 9 = .ok (.bipush 62, 2) := by decide +kernel
theorem dRe_readComparison_11 : decode cRe_readComparison 11 = .ok (.invokestatic 36, 3) := by decide +kernel
theorem dRe_readComparison_14 : decode cRe_readComparison 14 = .ok (.ifCond .ne 9, 3) := by decide +kernel
theorem dRe_readComparison_23 : decode cRe_readComparison 23 = .ok (.aload_n 0, 1) := by decide +kernel
theorem dRe_readComparison_24 : decode cRe_readComparison 24 = .ok (.aload_n 0, 1) := by decide +kernel
theorem dRe_readComparison_25 : decode cRe_readComparison 25 = .ok (.getfield 14, 3) := by decide +kernel
theorem dRe_readComparison_28 : decode cRe_readComparison 28 = .ok (.getfield 52, 3) := by decide +kernel
theorem dRe_readComparison_31 : decode cRe_readComparison 31 = .ok (.invokevirtual 155, 3) := by decide +kernel
theorem mm_Re_await : MMc yRe_await cRe_await 2 none 1 := ⟨hz_in 1019 (by decide +kernel) (by decide +kernel), hz_in 141 (by decide +kernel) (by decide +kernel), by decide +kernel, by decide⟩
theorem mv_Re_await : MMv yRe_await 4 := ⟨hz_in 1018 (by decide +kernel) (by decide +kernel), hz_in 21 (by decide +kernel) (by decide +kernel), _, _, rfl, by decide⟩
theorem ml_Re_155 : Cond.methodLink "LastWordHill$Reader" 155 yRe_await ∈ hz_wt := hz_in 1016 (by decide +kernel) (by decide +kernel)
theorem dRe_readComparison_34 : decode cRe_readComparison 34 = .ok (.iconst 1, 1) := by decide +kernel
theorem dRe_readComparison_35 : decode cRe_readComparison 35 = .ok (.ireturn, 1) := by decide +kernel
theorem dRe_readComparison_17 : decode cRe_readComparison 17 = .ok (.aload_n 0, 1) := by decide +kernel
theorem dRe_readComparison_18 : decode cRe_readComparison 18 = .ok (.iconst 1, 1) := by decide +kernel
theorem dRe_readComparison_19 : decode cRe_readComparison 19 = .ok (.invokevirtual 81, 3) := by decide +kernel
theorem dRe_readComparison_22 : decode cRe_readComparison 22 = .ok (.ireturn, 1) := by decide +kernel
def fRe_readComparison (s0 : Sg) : Option (Int32 × Sg) := bi (fH_within (s0 31 7) 60 62 s0) fun r2 s1 => if r2 = 0 then (bi (fRe_wrong 1 s1) fun r5 s4 => gb r5 (some (r5, s4))) else (bv (fRe_await (s1 31 7) s1) fun s3 => gb 1 (some (1, s3)))
set_option maxHeartbeats 4000000 in
set_option maxRecDepth 100000 in
theorem okRe_readComparison (s0 : Sg) : ∀ (l : Launch) (w : WC), Ok l w yRe_readComparison cRe_readComparison 1 (some .boolean) 3 evI [.ref (w.ad 30)] s0 (fRe_readComparison s0) := by
  refine ok_in (ev := fun _ => evI) (av := fun w => [.ref (w.ad 30)]) "LastWordHill$Reader" rfl (by decide +kernel) (fun _ => rfl) (fun _ => Nat.le_of_ble_eq_true rfl) ?_
  intro C X E
  show GF C evI 0 [some (.ref (C.w.ad 30))] [] s0 (fRe_readComparison s0)
  unfold fRe_readComparison
  refine g_aload_n X dRe_readComparison_0 rfl ?_
  refine g_getN X fl_Re_14 fb_4_0 k_30 r_30_0 dRe_readComparison_1 ?_
  refine g_getI X fl_Re_52 fb_9_7 k_31 dRe_readComparison_4 ?_
  refine g_bipush X 60 dRe_readComparison_7 (by decide) ?_
  refine g_bipush X 62 dRe_readComparison_9 (by decide) ?_
  refine g_nestI X [.int (s0 31 7), .int 60, .int 62] [] mm_H_within ms_H_within ml_Re_36 (okH_within (s0 31 7) 60 62 s0 C.l C.w) rfl (by decide) rfl (Nat.le_of_ble_eq_true rfl) dRe_readComparison_11 (fun r2 s1 => ?_)
  refine g_zne X (tgt := 23) dRe_readComparison_14 (by decide) ?_ ?_
  · refine g_aload_n X dRe_readComparison_17 rfl ?_
    refine g_iconst X 1 dRe_readComparison_18 (by decide) ?_
    refine g_virtI X [.int 1] [] k_30 mm_Re_wrong mv_Re_wrong ml_Re_81 (okRe_wrong 1 s1 C.l C.w) rfl (by decide) rfl (Nat.le_of_ble_eq_true rfl) dRe_readComparison_19 (fun r5 s4 => ?_)
    exact g_zret X E dRe_readComparison_22
  · refine g_aload_n X dRe_readComparison_23 rfl ?_
    refine g_aload_n X dRe_readComparison_24 rfl ?_
    refine g_getN X fl_Re_14 fb_4_0 k_30 r_30_0 dRe_readComparison_25 ?_
    refine g_getI X fl_Re_52 fb_9_7 k_31 dRe_readComparison_28 ?_
    refine g_virtV X [.int (s1 31 7)] [] k_30 mm_Re_await mv_Re_await ml_Re_155 (okRe_await (s1 31 7) s1 C.l C.w) rfl (by decide) rfl (Nat.le_of_ble_eq_true rfl) dRe_readComparison_31 (fun s3 => ?_)
    refine g_iconst X 1 dRe_readComparison_34 (by decide) ?_
    exact g_zret X E dRe_readComparison_35
def yRe_closeBrackets : MethodName := ⟨"LastWordHill$Reader", "closeBrackets", "()V"⟩
abbrev cRe_closeBrackets : ByteArray := prog_6_method_16_code
theorem dRe_closeBrackets_0 : decode cRe_closeBrackets 0 = .ok (.aload_n 0, 1) := by decide +kernel
theorem dRe_closeBrackets_1 : decode cRe_closeBrackets 1 = .ok (.getfield 152, 3) := by decide +kernel
theorem dRe_closeBrackets_4 : decode cRe_closeBrackets 4 = .ok (.ifCond .le 62, 3) := by decide +kernel
theorem dRe_closeBrackets_66 : decode cRe_closeBrackets 66 = .ok (.return_, 1) := by decide +kernel
theorem dRe_closeBrackets_7 : decode cRe_closeBrackets 7 = .ok (.aload_n 0, 1) := by decide +kernel
theorem dRe_closeBrackets_8 : decode cRe_closeBrackets 8 = .ok (.getfield 14, 3) := by decide +kernel
theorem dRe_closeBrackets_11 : decode cRe_closeBrackets 11 = .ok (.getfield 52, 3) := by decide +kernel
theorem dRe_closeBrackets_14 : decode cRe_closeBrackets 14 = .ok (.bipush 41, 2) := by decide +kernel
theorem dRe_closeBrackets_16 : decode cRe_closeBrackets 16 = .ok (.if_icmp .ne 50, 3) := by decide +kernel
theorem dRe_closeBrackets_19 : decode cRe_closeBrackets 19 = .ok (.aload_n 0, 1) := by decide +kernel
theorem dRe_closeBrackets_20 : decode cRe_closeBrackets 20 = .ok (.sipush 260, 3) := by decide +kernel
theorem dRe_closeBrackets_23 : decode cRe_closeBrackets 23 = .ok (.invokevirtual 164, 3) := by decide +kernel
theorem mm_Re_release : MMc yRe_release cRe_release 4 none 1 := ⟨hz_in 1031 (by decide +kernel) (by decide +kernel), hz_in 141 (by decide +kernel) (by decide +kernel), by decide +kernel, by decide⟩
theorem mv_Re_release : MMv yRe_release 4 := ⟨hz_in 1030 (by decide +kernel) (by decide +kernel), hz_in 24 (by decide +kernel) (by decide +kernel), _, _, rfl, by decide⟩
theorem ml_Re_164 : Cond.methodLink "LastWordHill$Reader" 164 yRe_release ∈ hz_wt := hz_in 1028 (by decide +kernel) (by decide +kernel)
theorem dRe_closeBrackets_26 : decode cRe_closeBrackets 26 = .ok (.aload_n 0, 1) := by decide +kernel
theorem dRe_closeBrackets_27 : decode cRe_closeBrackets 27 = .ok (.invokevirtual 167, 3) := by decide +kernel
theorem dRe_closeBrackets_30 : decode cRe_closeBrackets 30 = .ok (.bipush 40, 2) := by decide +kernel
theorem dRe_closeBrackets_32 : decode cRe_closeBrackets 32 = .ok (.if_icmp .eq 4, 3) := by decide +kernel
theorem dRe_closeBrackets_36 : decode cRe_closeBrackets 36 = .ok (.aload_n 0, 1) := by decide +kernel
theorem dRe_closeBrackets_37 : decode cRe_closeBrackets 37 = .ok (.dup, 1) := by decide +kernel
theorem dRe_closeBrackets_38 : decode cRe_closeBrackets 38 = .ok (.getfield 149, 3) := by decide +kernel
theorem dRe_closeBrackets_41 : decode cRe_closeBrackets 41 = .ok (.iconst 1, 1) := by decide +kernel
theorem dRe_closeBrackets_42 : decode cRe_closeBrackets 42 = .ok (.isub, 1) := by decide +kernel
theorem dRe_closeBrackets_43 : decode cRe_closeBrackets 43 = .ok (.putfield 149, 3) := by decide +kernel
theorem dRe_closeBrackets_46 : decode cRe_closeBrackets 46 = .ok (.aload_n 0, 1) := by decide +kernel
theorem dRe_closeBrackets_47 : decode cRe_closeBrackets 47 = .ok (.dup, 1) := by decide +kernel
theorem dRe_closeBrackets_48 : decode cRe_closeBrackets 48 = .ok (.getfield 152, 3) := by decide +kernel
theorem dRe_closeBrackets_51 : decode cRe_closeBrackets 51 = .ok (.iconst 1, 1) := by decide +kernel
theorem dRe_closeBrackets_52 : decode cRe_closeBrackets 52 = .ok (.isub, 1) := by decide +kernel
theorem dRe_closeBrackets_53 : decode cRe_closeBrackets 53 = .ok (.putfield 152, 3) := by decide +kernel
theorem dRe_closeBrackets_56 : decode cRe_closeBrackets 56 = .ok (.aload_n 0, 1) := by decide +kernel
theorem dRe_closeBrackets_57 : decode cRe_closeBrackets 57 = .ok (.getfield 14, 3) := by decide +kernel
theorem dRe_closeBrackets_60 : decode cRe_closeBrackets 60 = .ok (.invokevirtual 96, 3) := by decide +kernel
theorem dRe_closeBrackets_63 : decode cRe_closeBrackets 63 = .ok (.goto (-63), 3) := by decide +kernel
theorem dRe_closeBrackets_35 : decode cRe_closeBrackets 35 = .ok (.return_, 1) := by decide +kernel
def fRe_closeBrackets (s0 : Sg) : Option (Sg) := lp FU (fun q0 (u0 : Unit) (s1 : Sg) => if (s1 30 7) ≤ 0 then (some s1) else (if (s1 31 7) = 41 then (bv (fRe_release 260 s1) fun s2 => bi (fRe_waitingLast s2) fun r4 s3 => if r4 = 40 then (bnd (pt s3 30 6 ((s3 30 6) - 1)) fun s5 => bnd (pt s5 30 7 ((s5 30 7) - 1)) fun s6 => bv (fTo_advance s6) fun s7 => q0 () s7) else (some s3)) else (some s1))) () s0
set_option maxHeartbeats 4000000 in
set_option maxRecDepth 100000 in
theorem okRe_closeBrackets (s0 : Sg) : ∀ (l : Launch) (w : WC), Ok l w yRe_closeBrackets cRe_closeBrackets 1 none 3 evV [.ref (w.ad 30)] s0 (fRe_closeBrackets s0) := by
  refine ok_in (ev := fun _ => evV) (av := fun w => [.ref (w.ad 30)]) "LastWordHill$Reader" rfl (by decide +kernel) (fun _ => rfl) (fun _ => Nat.le_of_ble_eq_true rfl) ?_
  intro C X E
  show GF C evV 0 [some (.ref (C.w.ad 30))] [] s0 (fRe_closeBrackets s0)
  unfold fRe_closeBrackets
  refine gf_sub (L' := [some (.ref (C.w.ad 30))]) ?_ (by simp [lsub])
  refine gf_lp (Lf := fun (u0 : Unit) => [some (.ref (C.w.ad 30))]) (fun q0 hq0 u0 s1 => ?_) FU () s0
  refine g_aload_n X dRe_closeBrackets_0 rfl ?_
  refine g_getI X fl_Re_152 fb_4_7 k_30 dRe_closeBrackets_1 ?_
  refine g_zle X (tgt := 66) dRe_closeBrackets_4 (by decide) ?_ ?_
  · exact g_vret X E dRe_closeBrackets_66
  · refine g_aload_n X dRe_closeBrackets_7 rfl ?_
    refine g_getN X fl_Re_14 fb_4_0 k_30 r_30_0 dRe_closeBrackets_8 ?_
    refine g_getI X fl_Re_52 fb_9_7 k_31 dRe_closeBrackets_11 ?_
    refine g_bipush X 41 dRe_closeBrackets_14 (by decide) ?_
    refine g_cne X (tgt := 66) dRe_closeBrackets_16 (by decide) ?_ ?_
    · refine g_aload_n X dRe_closeBrackets_19 rfl ?_
      refine g_sipush X 260 dRe_closeBrackets_20 (by decide) ?_
      refine g_virtV X [.int 260] [] k_30 mm_Re_release mv_Re_release ml_Re_164 (okRe_release 260 s1 C.l C.w) rfl (by decide) rfl (Nat.le_of_ble_eq_true rfl) dRe_closeBrackets_23 (fun s2 => ?_)
      refine g_aload_n X dRe_closeBrackets_26 rfl ?_
      refine g_virtI X [] [] k_30 mm_Re_waitingLast mv_Re_waitingLast ml_Re_167 (okRe_waitingLast s2 C.l C.w) rfl (by decide) rfl (Nat.le_of_ble_eq_true rfl) dRe_closeBrackets_27 (fun r4 s3 => ?_)
      refine g_bipush X 40 dRe_closeBrackets_30 (by decide) ?_
      refine g_ceq X (tgt := 36) dRe_closeBrackets_32 (by decide) ?_ ?_
      · refine g_aload_n X dRe_closeBrackets_36 rfl ?_
        refine g_dup X dRe_closeBrackets_37 rfl ?_
        refine g_getI X fl_Re_149 fb_4_6 k_30 dRe_closeBrackets_38 ?_
        refine g_iconst X 1 dRe_closeBrackets_41 (by decide) ?_
        refine g_isub X dRe_closeBrackets_42 ?_
        refine g_putI X fl_Re_149 fb_4_6 fp_4_6 k_30 dRe_closeBrackets_43 (fun s5 => ?_)
        refine g_aload_n X dRe_closeBrackets_46 rfl ?_
        refine g_dup X dRe_closeBrackets_47 rfl ?_
        refine g_getI X fl_Re_152 fb_4_7 k_30 dRe_closeBrackets_48 ?_
        refine g_iconst X 1 dRe_closeBrackets_51 (by decide) ?_
        refine g_isub X dRe_closeBrackets_52 ?_
        refine g_putI X fl_Re_152 fb_4_7 fp_4_7 k_30 dRe_closeBrackets_53 (fun s6 => ?_)
        refine g_aload_n X dRe_closeBrackets_56 rfl ?_
        refine g_getN X fl_Re_14 fb_4_0 k_30 r_30_0 dRe_closeBrackets_57 ?_
        refine g_virtV X [] [] k_31 mm_To_advance mv_To_advance ml_Re_96 (okTo_advance s6 C.l C.w) rfl (by decide) rfl (Nat.le_of_ble_eq_true rfl) dRe_closeBrackets_60 (fun s7 => ?_)
        refine g_goto X 0 dRe_closeBrackets_63 (by decide) ?_
        exact gf_sub (hq0 () s7) (by simp [lsub])
      · exact g_vret X E dRe_closeBrackets_35
    · exact g_vret X E dRe_closeBrackets_66
def yRe_readSum : MethodName := ⟨"LastWordHill$Reader", "readSum", "()Z"⟩
abbrev cRe_readSum : ByteArray := prog_6_method_21_code
theorem dRe_readSum_0 : decode cRe_readSum 0 = .ok (.iconst 0, 1) := by decide +kernel
theorem dRe_readSum_1 : decode cRe_readSum 1 = .ok (.istore_n 1, 1) := by decide +kernel
theorem dRe_readSum_2 : decode cRe_readSum 2 = .ok (.aload_n 0, 1) := by decide +kernel
theorem dRe_readSum_3 : decode cRe_readSum 3 = .ok (.invokevirtual 178, 3) := by decide +kernel
theorem mm_Re_readUnit : MMc yRe_readUnit cRe_readUnit 1 (some .boolean) 0 := ⟨hz_in 999 (by decide +kernel) (by decide +kernel), hz_in 141 (by decide +kernel) (by decide +kernel), by decide +kernel, by decide⟩
theorem mv_Re_readUnit : MMv yRe_readUnit 4 := ⟨hz_in 998 (by decide +kernel) (by decide +kernel), hz_in 17 (by decide +kernel) (by decide +kernel), _, _, rfl, by decide⟩
theorem ml_Re_178 : Cond.methodLink "LastWordHill$Reader" 178 yRe_readUnit ∈ hz_wt := hz_in 996 (by decide +kernel) (by decide +kernel)
theorem dRe_readSum_6 : decode cRe_readSum 6 = .ok (.istore_n 2, 1) := by decide +kernel
theorem dRe_readSum_7 : decode cRe_readSum 7 = .ok (.iconst 0, 1) := by decide +kernel
theorem dRe_readSum_8 : decode cRe_readSum 8 = .ok (.istore_n 3, 1) := by decide +kernel
theorem dRe_readSum_9 : decode cRe_readSum 9 = .ok (.iload_n 3, 1) := by decide +kernel
theorem dRe_readSum_10 : decode cRe_readSum 10 = .ok (.sipush 400, 3) := by decide +kernel
theorem dRe_readSum_13 : decode cRe_readSum 13 = .ok (.if_icmp .ge 138, 3) := by decide +kernel
theorem dRe_readSum_151 : decode cRe_readSum 151 = .ok (.aload_n 0, 1) := by decide +kernel
theorem dRe_readSum_152 : decode cRe_readSum 152 = .ok (.iload_n 1, 1) := by decide +kernel
theorem dRe_readSum_153 : decode cRe_readSum 153 = .ok (.invokevirtual 181, 3) := by decide +kernel
theorem mm_Re_addSum : MMc yRe_addSum cRe_addSum 2 none 1 := ⟨hz_in 1011 (by decide +kernel) (by decide +kernel), hz_in 141 (by decide +kernel) (by decide +kernel), by decide +kernel, by decide⟩
theorem mv_Re_addSum : MMv yRe_addSum 4 := ⟨hz_in 1010 (by decide +kernel) (by decide +kernel), hz_in 19 (by decide +kernel) (by decide +kernel), _, _, rfl, by decide⟩
theorem ml_Re_181 : Cond.methodLink "LastWordHill$Reader" 181 yRe_addSum ∈ hz_wt := hz_in 1008 (by decide +kernel) (by decide +kernel)
theorem dRe_readSum_156 : decode cRe_readSum 156 = .ok (.iload_n 2, 1) := by decide +kernel
theorem dRe_readSum_157 : decode cRe_readSum 157 = .ok (.ireturn, 1) := by decide +kernel
theorem dRe_readSum_16 : decode cRe_readSum 16 = .ok (.iload_n 2, 1) := by decide +kernel
theorem dRe_readSum_17 : decode cRe_readSum 17 = .ok (.ifCond .eq 134, 3) := by decide +kernel
theorem dRe_readSum_20 : decode cRe_readSum 20 = .ok (.aload_n 0, 1) := by decide +kernel
theorem dRe_readSum_21 : decode cRe_readSum 21 = .ok (.getfield 14, 3) := by decide +kernel
theorem dRe_readSum_24 : decode cRe_readSum 24 = .ok (.getfield 52, 3) := by decide +kernel
theorem dRe_readSum_27 : decode cRe_readSum 27 = .ok (.istore 4, 2) := by decide +kernel
theorem dRe_readSum_29 : decode cRe_readSum 29 = .ok (.iload 4, 2) := by decide +kernel
theorem dRe_readSum_31 : decode cRe_readSum 31 = .ok (.bipush 42, 2) := by decide +kernel
theorem dRe_readSum_33 : decode cRe_readSum 33 = .ok (.if_icmp .ne 34, 3) := by decide +kernel
theorem dRe_readSum_145 : decode cRe_readSum 145 = .ok (.iinc 3 1, 3) := by decide +kernel
theorem dRe_readSum_148 : decode cRe_readSum 148 = .ok (.goto (-139), 3) := by decide +kernel
theorem dRe_readSum_67 : decode cRe_readSum 67 = .ok (.iload 4, 2) := by decide +kernel
theorem dRe_readSum_69 : decode cRe_readSum 69 = .ok (.bipush 47, 2) := by decide +kernel
theorem dRe_readSum_71 : decode cRe_readSum 71 = .ok (.if_icmp .ne 40, 3) := by decide +kernel
theorem dRe_readSum_111 : decode cRe_readSum 111 = .ok (.iload 4, 2) := by decide +kernel
theorem dRe_readSum_113 : decode cRe_readSum 113 = .ok (.bipush 43, 2) := by decide +kernel
theorem dRe_readSum_115 : decode cRe_readSum 115 = .ok (.if_icmp .eq 10, 3) := by decide +kernel
theorem dRe_readSum_125 : decode cRe_readSum 125 = .ok (.aload_n 0, 1) := by decide +kernel
theorem dRe_readSum_126 : decode cRe_readSum 126 = .ok (.iload_n 1, 1) := by decide +kernel
theorem dRe_readSum_127 : decode cRe_readSum 127 = .ok (.invokevirtual 181, 3) := by decide +kernel
theorem dRe_readSum_130 : decode cRe_readSum 130 = .ok (.iload 4, 2) := by decide +kernel
theorem dRe_readSum_132 : decode cRe_readSum 132 = .ok (.istore_n 1, 1) := by decide +kernel
theorem dRe_readSum_133 : decode cRe_readSum 133 = .ok (.aload_n 0, 1) := by decide +kernel
theorem dRe_readSum_134 : decode cRe_readSum 134 = .ok (.getfield 14, 3) := by decide +kernel
theorem dRe_readSum_137 : decode cRe_readSum 137 = .ok (.invokevirtual 96, 3) := by decide +kernel
theorem dRe_readSum_140 : decode cRe_readSum 140 = .ok (.aload_n 0, 1) := by decide +kernel
theorem dRe_readSum_141 : decode cRe_readSum 141 = .ok (.invokevirtual 178, 3) := by decide +kernel
theorem dRe_readSum_144 : decode cRe_readSum 144 = .ok (.istore_n 2, 1) := by decide +kernel
theorem dRe_readSum_118 : decode cRe_readSum 118 = .ok (.iload 4, 2) := by decide +kernel
theorem dRe_readSum_120 : decode cRe_readSum 120 = .ok (.bipush 45, 2) := by decide +kernel
theorem dRe_readSum_122 : decode cRe_readSum 122 = .ok (.if_icmp .ne 29, 3) := by decide +kernel
theorem dRe_readSum_74 : decode cRe_readSum 74 = .ok (.aload_n 0, 1) := by decide +kernel
theorem dRe_readSum_75 : decode cRe_readSum 75 = .ok (.getfield 14, 3) := by decide +kernel
theorem dRe_readSum_78 : decode cRe_readSum 78 = .ok (.invokevirtual 96, 3) := by decide +kernel
theorem dRe_readSum_81 : decode cRe_readSum 81 = .ok (.aload_n 0, 1) := by decide +kernel
theorem dRe_readSum_82 : decode cRe_readSum 82 = .ok (.iconst 1, 1) := by decide +kernel
theorem dRe_readSum_83 : decode cRe_readSum 83 = .ok (.sipush 9999, 3) := by decide +kernel
theorem dRe_readSum_86 : decode cRe_readSum 86 = .ok (.invokevirtual 105, 3) := by decide +kernel
theorem dRe_readSum_89 : decode cRe_readSum 89 = .ok (.istore_n 2, 1) := by decide +kernel
theorem dRe_readSum_90 : decode cRe_readSum 90 = .ok (.aload_n 0, 1) := by decide +kernel
theorem dRe_readSum_91 : decode cRe_readSum 91 = .ok (.getfield 21, 3) := by decide +kernel
theorem dRe_readSum_94 : decode cRe_readSum 94 = .ok (.getfield 131, 3) := by decide +kernel
theorem dRe_readSum_97 : decode cRe_readSum 97 = .ok (.sipush 20000, 3) := by decide +kernel
theorem dRe_readSum_100 : decode cRe_readSum 100 = .ok (.aload_n 0, 1) := by decide +kernel
theorem dRe_readSum_101 : decode cRe_readSum 101 = .ok (.getfield 102, 3) := by decide +kernel
theorem dRe_readSum_104 : decode cRe_readSum 104 = .ok (.iadd, 1) := by decide +kernel
theorem dRe_readSum_105 : decode cRe_readSum 105 = .ok (.invokevirtual 175, 3) := by decide +kernel
theorem dRe_readSum_108 : decode cRe_readSum 108 = .ok (.goto 37, 3) := by decide +kernel
theorem dRe_readSum_36 : decode cRe_readSum 36 = .ok (.aload_n 0, 1) := by decide +kernel
theorem dRe_readSum_37 : decode cRe_readSum 37 = .ok (.getfield 14, 3) := by decide +kernel
theorem dRe_readSum_40 : decode cRe_readSum 40 = .ok (.invokevirtual 96, 3) := by decide +kernel
theorem dRe_readSum_43 : decode cRe_readSum 43 = .ok (.aload_n 0, 1) := by decide +kernel
theorem dRe_readSum_44 : decode cRe_readSum 44 = .ok (.invokevirtual 178, 3) := by decide +kernel
theorem dRe_readSum_47 : decode cRe_readSum 47 = .ok (.istore_n 2, 1) := by decide +kernel
theorem dRe_readSum_48 : decode cRe_readSum 48 = .ok (.aload_n 0, 1) := by decide +kernel
theorem dRe_readSum_49 : decode cRe_readSum 49 = .ok (.getfield 21, 3) := by decide +kernel
theorem dRe_readSum_52 : decode cRe_readSum 52 = .ok (.getfield 131, 3) := by decide +kernel
theorem dRe_readSum_55 : decode cRe_readSum 55 = .ok (.sipush 30000, 3) := by decide +kernel
theorem dRe_readSum_58 : decode cRe_readSum 58 = .ok (.iload 4, 2) := by decide +kernel
theorem dRe_readSum_60 : decode cRe_readSum 60 = .ok (.iadd, 1) := by decide +kernel
theorem dRe_readSum_61 : decode cRe_readSum 61 = .ok (.invokevirtual 175, 3) := by decide +kernel
theorem dRe_readSum_64 : decode cRe_readSum 64 = .ok (.goto 81, 3) := by decide +kernel
def fRe_readSum (s0 : Sg) : Option (Int32 × Sg) := bi (fRe_readUnit s0) fun r2 s1 => lp FU (fun q9 (u9 : Int32 × Int32 × Int32) (s3 : Sg) => bnd (fun (s4 : Sg) => bv (fRe_addSum u9.1 s4) fun s5 => gb u9.2.1 (some (u9.2.1, s5))) fun j151 => if 400 ≤ u9.2.2 then (j151 s3) else (if u9.2.1 = 0 then (j151 s3) else (bnd (fun (a145_1 : Int32) (a145_2 : Int32) (s6 : Sg) => q9 (a145_1, a145_2, (u9.2.2 + 1)) s6) fun j145 => if (s3 31 7) = 42 then (bv (fTo_advance s3) fun s16 => bi (fRe_readUnit s16) fun r18 s17 => bv (fLa_addCode 37 (30000 + (s3 31 7)) s17) fun s19 => j145 u9.1 r18 s19) else (if (s3 31 7) = 47 then (bv (fTo_advance s3) fun s12 => bi (fRe_number 1 9999 s12) fun r14 s13 => bv (fLa_addCode 37 (20000 + (s13 30 5)) s13) fun s15 => j145 u9.1 r14 s15) else (bnd (fun (s7 : Sg) => bv (fRe_addSum u9.1 s7) fun s8 => bv (fTo_advance s8) fun s9 => bi (fRe_readUnit s9) fun r11 s10 => j145 (s3 31 7) r11 s10) fun j125 => if (s3 31 7) = 43 then (j125 s3) else (if (s3 31 7) = 45 then (j125 s3) else (j151 s3))))))) (0, r2, 0) s1
set_option maxHeartbeats 4000000 in
set_option maxRecDepth 100000 in
theorem okRe_readSum (s0 : Sg) : ∀ (l : Launch) (w : WC), Ok l w yRe_readSum cRe_readSum 5 (some .boolean) 3 evI [.ref (w.ad 30)] s0 (fRe_readSum s0) := by
  refine ok_in (ev := fun _ => evI) (av := fun w => [.ref (w.ad 30)]) "LastWordHill$Reader" rfl (by decide +kernel) (fun _ => rfl) (fun _ => Nat.le_of_ble_eq_true rfl) ?_
  intro C X E
  show GF C evI 0 [some (.ref (C.w.ad 30)), none, none, none, none] [] s0 (fRe_readSum s0)
  unfold fRe_readSum
  refine g_iconst X 0 dRe_readSum_0 (by decide) ?_
  refine g_istore_n X [some (.ref (C.w.ad 30)), some (.int 0), none, none, none] dRe_readSum_1 (by decide) (Nat.le_of_ble_eq_true rfl) rfl ?_
  refine g_aload_n X dRe_readSum_2 rfl ?_
  refine g_virtI X [] [] k_30 mm_Re_readUnit mv_Re_readUnit ml_Re_178 (okRe_readUnit s0 C.l C.w) rfl (by decide) rfl (Nat.le_of_ble_eq_true rfl) dRe_readSum_3 (fun r2 s1 => ?_)
  refine g_istore_n X [some (.ref (C.w.ad 30)), some (.int 0), some (.int r2), none, none] dRe_readSum_6 (by decide) (Nat.le_of_ble_eq_true rfl) rfl ?_
  refine g_iconst X 0 dRe_readSum_7 (by decide) ?_
  refine g_istore_n X [some (.ref (C.w.ad 30)), some (.int 0), some (.int r2), some (.int 0), none] dRe_readSum_8 (by decide) (Nat.le_of_ble_eq_true rfl) rfl ?_
  refine gf_sub (L' := [some (.ref (C.w.ad 30)), some (.int 0), some (.int r2), some (.int 0), none]) ?_ (by simp [lsub])
  refine gf_lp (Lf := fun (u9 : Int32 × Int32 × Int32) => [some (.ref (C.w.ad 30)), some (.int u9.1), some (.int u9.2.1), some (.int u9.2.2), none]) (fun q9 hq9 u9 s3 => ?_) FU (0, r2, 0) s1
  refine g_iload_n X dRe_readSum_9 rfl ?_
  refine g_sipush X 400 dRe_readSum_10 (by decide) ?_
  refine gf_jn (fun j151 => ∀ (s4 : Sg), GF C evI 151 [some (.ref (C.w.ad 30)), some (.int u9.1), some (.int u9.2.1), none, none] [] s4 (j151 s4)) ?_ ?_
  · intro s4
    refine g_aload_n X dRe_readSum_151 rfl ?_
    refine g_iload_n X dRe_readSum_152 rfl ?_
    refine g_virtV X [.int u9.1] [] k_30 mm_Re_addSum mv_Re_addSum ml_Re_181 (okRe_addSum u9.1 s4 C.l C.w) rfl (by decide) rfl (Nat.le_of_ble_eq_true rfl) dRe_readSum_153 (fun s5 => ?_)
    refine g_iload_n X dRe_readSum_156 rfl ?_
    exact g_zret X E dRe_readSum_157
  · intro j151 hj151
    refine g_cge X (tgt := 151) dRe_readSum_13 (by decide) ?_ ?_
    · exact gf_sub (hj151 s3) (by simp [lsub])
    · refine g_iload_n X dRe_readSum_16 rfl ?_
      refine g_zeq X (tgt := 151) dRe_readSum_17 (by decide) ?_ ?_
      · exact gf_sub (hj151 s3) (by simp [lsub])
      · refine g_aload_n X dRe_readSum_20 rfl ?_
        refine g_getN X fl_Re_14 fb_4_0 k_30 r_30_0 dRe_readSum_21 ?_
        refine g_getI X fl_Re_52 fb_9_7 k_31 dRe_readSum_24 ?_
        refine g_istore X [some (.ref (C.w.ad 30)), some (.int u9.1), some (.int u9.2.1), some (.int u9.2.2), some (.int (s3 31 7))] dRe_readSum_27 (by decide) (Nat.le_of_ble_eq_true rfl) rfl ?_
        refine g_iload X dRe_readSum_29 rfl ?_
        refine g_bipush X 42 dRe_readSum_31 (by decide) ?_
        refine gf_jn (fun j145 => ∀ (a145_1 : Int32) (a145_2 : Int32) (s6 : Sg), GF C evI 145 [some (.ref (C.w.ad 30)), some (.int a145_1), some (.int a145_2), some (.int u9.2.2), none] [] s6 (j145 a145_1 a145_2 s6)) ?_ ?_
        · intro a145_1 a145_2 s6
          refine g_iinc X (u9.2.2 + 1) [some (.ref (C.w.ad 30)), some (.int a145_1), some (.int a145_2), some (.int (u9.2.2 + 1)), none] dRe_readSum_145 rfl rfl (by decide) rfl ?_
          refine g_goto X 9 dRe_readSum_148 (by decide) ?_
          exact gf_sub (hq9 (a145_1, a145_2, (u9.2.2 + 1)) s6) (by simp [lsub])
        · intro j145 hj145
          refine g_cne X (tgt := 67) dRe_readSum_33 (by decide) ?_ ?_
          · refine g_aload_n X dRe_readSum_36 rfl ?_
            refine g_getN X fl_Re_14 fb_4_0 k_30 r_30_0 dRe_readSum_37 ?_
            refine g_virtV X [] [] k_31 mm_To_advance mv_To_advance ml_Re_96 (okTo_advance s3 C.l C.w) rfl (by decide) rfl (Nat.le_of_ble_eq_true rfl) dRe_readSum_40 (fun s16 => ?_)
            refine g_aload_n X dRe_readSum_43 rfl ?_
            refine g_virtI X [] [] k_30 mm_Re_readUnit mv_Re_readUnit ml_Re_178 (okRe_readUnit s16 C.l C.w) rfl (by decide) rfl (Nat.le_of_ble_eq_true rfl) dRe_readSum_44 (fun r18 s17 => ?_)
            refine g_istore_n X [some (.ref (C.w.ad 30)), some (.int u9.1), some (.int r18), some (.int u9.2.2), some (.int (s3 31 7))] dRe_readSum_47 (by decide) (Nat.le_of_ble_eq_true rfl) rfl ?_
            refine g_aload_n X dRe_readSum_48 rfl ?_
            refine g_getN X fl_Re_21 fb_4_1 k_30 r_30_1 dRe_readSum_49 ?_
            refine g_getN X fl_Re_131 fb_8_0 k_36 r_36_0 dRe_readSum_52 ?_
            refine g_sipush X 30000 dRe_readSum_55 (by decide) ?_
            refine g_iload X dRe_readSum_58 rfl ?_
            refine g_iadd X dRe_readSum_60 ?_
            refine g_virtV X [.int (30000 + (s3 31 7))] [] k_37 mm_La_addCode mv_La_addCode ml_Re_175 (okLa_addCode 37 (30000 + (s3 31 7)) s17 k_37 C.l C.w) rfl (by decide) rfl (Nat.le_of_ble_eq_true rfl) dRe_readSum_61 (fun s19 => ?_)
            refine g_goto X 145 dRe_readSum_64 (by decide) ?_
            exact gf_sub (hj145 u9.1 r18 s19) (by simp [lsub])
          · refine g_iload X dRe_readSum_67 rfl ?_
            refine g_bipush X 47 dRe_readSum_69 (by decide) ?_
            refine g_cne X (tgt := 111) dRe_readSum_71 (by decide) ?_ ?_
            · refine g_aload_n X dRe_readSum_74 rfl ?_
              refine g_getN X fl_Re_14 fb_4_0 k_30 r_30_0 dRe_readSum_75 ?_
              refine g_virtV X [] [] k_31 mm_To_advance mv_To_advance ml_Re_96 (okTo_advance s3 C.l C.w) rfl (by decide) rfl (Nat.le_of_ble_eq_true rfl) dRe_readSum_78 (fun s12 => ?_)
              refine g_aload_n X dRe_readSum_81 rfl ?_
              refine g_iconst X 1 dRe_readSum_82 (by decide) ?_
              refine g_sipush X 9999 dRe_readSum_83 (by decide) ?_
              refine g_virtI X [.int 1, .int 9999] [] k_30 mm_Re_number mv_Re_number ml_Re_105 (okRe_number 1 9999 s12 C.l C.w) rfl (by decide) rfl (Nat.le_of_ble_eq_true rfl) dRe_readSum_86 (fun r14 s13 => ?_)
              refine g_istore_n X [some (.ref (C.w.ad 30)), some (.int u9.1), some (.int r14), some (.int u9.2.2), some (.int (s3 31 7))] dRe_readSum_89 (by decide) (Nat.le_of_ble_eq_true rfl) rfl ?_
              refine g_aload_n X dRe_readSum_90 rfl ?_
              refine g_getN X fl_Re_21 fb_4_1 k_30 r_30_1 dRe_readSum_91 ?_
              refine g_getN X fl_Re_131 fb_8_0 k_36 r_36_0 dRe_readSum_94 ?_
              refine g_sipush X 20000 dRe_readSum_97 (by decide) ?_
              refine g_aload_n X dRe_readSum_100 rfl ?_
              refine g_getI X fl_Re_102 fb_4_5 k_30 dRe_readSum_101 ?_
              refine g_iadd X dRe_readSum_104 ?_
              refine g_virtV X [.int (20000 + (s13 30 5))] [] k_37 mm_La_addCode mv_La_addCode ml_Re_175 (okLa_addCode 37 (20000 + (s13 30 5)) s13 k_37 C.l C.w) rfl (by decide) rfl (Nat.le_of_ble_eq_true rfl) dRe_readSum_105 (fun s15 => ?_)
              refine g_goto X 145 dRe_readSum_108 (by decide) ?_
              exact gf_sub (hj145 u9.1 r14 s15) (by simp [lsub])
            · refine g_iload X dRe_readSum_111 rfl ?_
              refine g_bipush X 43 dRe_readSum_113 (by decide) ?_
              refine gf_jn (fun j125 => ∀ (s7 : Sg), GF C evI 125 [some (.ref (C.w.ad 30)), some (.int u9.1), none, some (.int u9.2.2), some (.int (s3 31 7))] [] s7 (j125 s7)) ?_ ?_
              · intro s7
                refine g_aload_n X dRe_readSum_125 rfl ?_
                refine g_iload_n X dRe_readSum_126 rfl ?_
                refine g_virtV X [.int u9.1] [] k_30 mm_Re_addSum mv_Re_addSum ml_Re_181 (okRe_addSum u9.1 s7 C.l C.w) rfl (by decide) rfl (Nat.le_of_ble_eq_true rfl) dRe_readSum_127 (fun s8 => ?_)
                refine g_iload X dRe_readSum_130 rfl ?_
                refine g_istore_n X [some (.ref (C.w.ad 30)), some (.int (s3 31 7)), none, some (.int u9.2.2), some (.int (s3 31 7))] dRe_readSum_132 (by decide) (Nat.le_of_ble_eq_true rfl) rfl ?_
                refine g_aload_n X dRe_readSum_133 rfl ?_
                refine g_getN X fl_Re_14 fb_4_0 k_30 r_30_0 dRe_readSum_134 ?_
                refine g_virtV X [] [] k_31 mm_To_advance mv_To_advance ml_Re_96 (okTo_advance s8 C.l C.w) rfl (by decide) rfl (Nat.le_of_ble_eq_true rfl) dRe_readSum_137 (fun s9 => ?_)
                refine g_aload_n X dRe_readSum_140 rfl ?_
                refine g_virtI X [] [] k_30 mm_Re_readUnit mv_Re_readUnit ml_Re_178 (okRe_readUnit s9 C.l C.w) rfl (by decide) rfl (Nat.le_of_ble_eq_true rfl) dRe_readSum_141 (fun r11 s10 => ?_)
                refine g_istore_n X [some (.ref (C.w.ad 30)), some (.int (s3 31 7)), some (.int r11), some (.int u9.2.2), some (.int (s3 31 7))] dRe_readSum_144 (by decide) (Nat.le_of_ble_eq_true rfl) rfl ?_
                exact gf_sub (hj145 (s3 31 7) r11 s10) (by simp [lsub])
              · intro j125 hj125
                refine g_ceq X (tgt := 125) dRe_readSum_115 (by decide) ?_ ?_
                · exact gf_sub (hj125 s3) (by simp [lsub])
                · refine g_iload X dRe_readSum_118 rfl ?_
                  refine g_bipush X 45 dRe_readSum_120 (by decide) ?_
                  refine g_cne X (tgt := 151) dRe_readSum_122 (by decide) ?_ ?_
                  · exact gf_sub (hj125 s3) (by simp [lsub])
                  · exact gf_sub (hj151 s3) (by simp [lsub])
theorem k_65 : hz_kd 65 = 6 := by decide
def ySu_putSunset : MethodName := ⟨"LastWordHill$Sun", "putSunset", "(LLastWordHill$Scene;)V"⟩
abbrev cSu_putSunset : ByteArray := prog_8_method_3_code
theorem dSu_putSunset_0 : decode cSu_putSunset 0 = .ok (.iconst 0, 1) := by decide +kernel
theorem dSu_putSunset_1 : decode cSu_putSunset 1 = .ok (.istore_n 2, 1) := by decide +kernel
theorem dSu_putSunset_2 : decode cSu_putSunset 2 = .ok (.iload_n 2, 1) := by decide +kernel
theorem dSu_putSunset_3 : decode cSu_putSunset 3 = .ok (.aload_n 0, 1) := by decide +kernel
theorem dSu_putSunset_4 : decode cSu_putSunset 4 = .ok (.getfield 9, 3) := by decide +kernel
theorem fl_Su_9 : FLk "LastWordHill$Sun" 9 6 0 := ⟨_, _, _, rfl, by decide, hz_in 479 (by decide +kernel) (by decide +kernel), nL6, by decide, by decide⟩
theorem fb_6_0 : (hz_bs 6)[0]? = some true := by decide
theorem r_65_0 : hz_rf 65 0 = 19 := by decide
theorem dSu_putSunset_7 : decode cSu_putSunset 7 = .ok (.getfield 61, 3) := by decide +kernel
theorem fl_Su_61 : FLk "LastWordHill$Sun" 61 8 2 := ⟨_, _, _, rfl, by decide, hz_in 317 (by decide +kernel) (by decide +kernel), nL8, by decide, by decide⟩
theorem k_27 : hz_kd 27 = 7 := by decide
theorem r_19_2 : hz_rf 19 2 = 27 := by decide
theorem dSu_putSunset_10 : decode cSu_putSunset 10 = .ok (.getfield 66, 3) := by decide +kernel
theorem fl_Su_66 : FLk "LastWordHill$Sun" 66 7 3 := ⟨_, _, _, rfl, by decide, hz_in 276 (by decide +kernel) (by decide +kernel), nL7, by decide, by decide⟩
theorem dSu_putSunset_13 : decode cSu_putSunset 13 = .ok (.if_icmp .ge 44, 3) := by decide +kernel
theorem dSu_putSunset_57 : decode cSu_putSunset 57 = .ok (.return_, 1) := by decide +kernel
theorem dSu_putSunset_16 : decode cSu_putSunset 16 = .ok (.aload_n 0, 1) := by decide +kernel
theorem dSu_putSunset_17 : decode cSu_putSunset 17 = .ok (.getfield 9, 3) := by decide +kernel
theorem dSu_putSunset_20 : decode cSu_putSunset 20 = .ok (.getfield 61, 3) := by decide +kernel
theorem dSu_putSunset_23 : decode cSu_putSunset 23 = .ok (.iload_n 2, 1) := by decide +kernel
theorem dSu_putSunset_24 : decode cSu_putSunset 24 = .ok (.iconst 0, 1) := by decide +kernel
theorem dSu_putSunset_25 : decode cSu_putSunset 25 = .ok (.invokevirtual 71, 3) := by decide +kernel
theorem ml_Su_71 : Cond.methodLink "LastWordHill$Sun" 71 yTa_tell ∈ hz_wt := hz_in 709 (by decide +kernel) (by decide +kernel)
theorem dSu_putSunset_28 : decode cSu_putSunset 28 = .ok (.aload_n 1, 1) := by decide +kernel
theorem dSu_putSunset_29 : decode cSu_putSunset 29 = .ok (.getfield 72, 3) := by decide +kernel
theorem fl_Su_72 : FLk "LastWordHill$Sun" 72 5 10 := ⟨_, _, _, rfl, by decide, hz_in 197 (by decide +kernel) (by decide +kernel), nL5, by decide, by decide⟩
theorem dSu_putSunset_32 : decode cSu_putSunset 32 = .ok (.if_icmp .ne 19, 3) := by decide +kernel
theorem dSu_putSunset_51 : decode cSu_putSunset 51 = .ok (.iinc 2 1, 3) := by decide +kernel
theorem dSu_putSunset_54 : decode cSu_putSunset 54 = .ok (.goto (-52), 3) := by decide +kernel
theorem dSu_putSunset_35 : decode cSu_putSunset 35 = .ok (.aload_n 1, 1) := by decide +kernel
theorem dSu_putSunset_36 : decode cSu_putSunset 36 = .ok (.aload_n 0, 1) := by decide +kernel
theorem dSu_putSunset_37 : decode cSu_putSunset 37 = .ok (.getfield 9, 3) := by decide +kernel
theorem dSu_putSunset_40 : decode cSu_putSunset 40 = .ok (.getfield 61, 3) := by decide +kernel
theorem dSu_putSunset_43 : decode cSu_putSunset 43 = .ok (.iload_n 2, 1) := by decide +kernel
theorem dSu_putSunset_44 : decode cSu_putSunset 44 = .ok (.iconst 1, 1) := by decide +kernel
theorem dSu_putSunset_45 : decode cSu_putSunset 45 = .ok (.invokevirtual 71, 3) := by decide +kernel
theorem dSu_putSunset_48 : decode cSu_putSunset 48 = .ok (.putfield 32, 3) := by decide +kernel
theorem fl_Su_32 : FLk "LastWordHill$Sun" 32 5 8 := ⟨_, _, _, rfl, by decide, hz_in 191 (by decide +kernel) (by decide +kernel), nL5, by decide, by decide⟩
def fSu_putSunset (o1 : Nat) (s0 : Sg) : Option (Sg) := lp FU (fun q2 (u2 : Int32) (s1 : Sg) => if (s1 27 3) ≤ u2 then (some s1) else (bi (fTa_tell 27 u2 0 s1) fun r3 s2 => bnd (fun (s4 : Sg) => q2 (u2 + 1) s4) fun j51 => if r3 = (s2 o1 10) then (bi (fTa_tell 27 u2 1 s2) fun r6 s5 => bnd (pt s5 o1 8 r6) fun s7 => j51 s7) else (j51 s2))) 0 s0
set_option maxHeartbeats 4000000 in
set_option maxRecDepth 100000 in
theorem okSu_putSunset (o1 : Nat) (s0 : Sg) (h1 : hz_kd o1 = 5) : ∀ (l : Launch) (w : WC), Ok l w ySu_putSunset cSu_putSunset 3 none 3 evV [.ref (w.ad 65), .ref (w.ad o1)] s0 (fSu_putSunset o1 s0) := by
  refine ok_in (ev := fun _ => evV) (av := fun w => [.ref (w.ad 65), .ref (w.ad o1)]) "LastWordHill$Sun" rfl (by decide +kernel) (fun _ => rfl) (fun _ => Nat.le_of_ble_eq_true rfl) ?_
  intro C X E
  show GF C evV 0 [some (.ref (C.w.ad 65)), some (.ref (C.w.ad o1)), none] [] s0 (fSu_putSunset o1 s0)
  unfold fSu_putSunset
  refine g_iconst X 0 dSu_putSunset_0 (by decide) ?_
  refine g_istore_n X [some (.ref (C.w.ad 65)), some (.ref (C.w.ad o1)), some (.int 0)] dSu_putSunset_1 (by decide) (Nat.le_of_ble_eq_true rfl) rfl ?_
  refine gf_sub (L' := [some (.ref (C.w.ad 65)), some (.ref (C.w.ad o1)), some (.int 0)]) ?_ (by simp [lsub])
  refine gf_lp (Lf := fun (u2 : Int32) => [some (.ref (C.w.ad 65)), some (.ref (C.w.ad o1)), some (.int u2)]) (fun q2 hq2 u2 s1 => ?_) FU 0 s0
  refine g_iload_n X dSu_putSunset_2 rfl ?_
  refine g_aload_n X dSu_putSunset_3 rfl ?_
  refine g_getN X fl_Su_9 fb_6_0 k_65 r_65_0 dSu_putSunset_4 ?_
  refine g_getN X fl_Su_61 fb_8_2 k_19 r_19_2 dSu_putSunset_7 ?_
  refine g_getI X fl_Su_66 fb_7_3 k_27 dSu_putSunset_10 ?_
  refine g_cge X (tgt := 57) dSu_putSunset_13 (by decide) ?_ ?_
  · exact g_vret X E dSu_putSunset_57
  · refine g_aload_n X dSu_putSunset_16 rfl ?_
    refine g_getN X fl_Su_9 fb_6_0 k_65 r_65_0 dSu_putSunset_17 ?_
    refine g_getN X fl_Su_61 fb_8_2 k_19 r_19_2 dSu_putSunset_20 ?_
    refine g_iload_n X dSu_putSunset_23 rfl ?_
    refine g_iconst X 0 dSu_putSunset_24 (by decide) ?_
    refine g_virtI X [.int u2, .int 0] [] k_27 mm_Ta_tell mv_Ta_tell ml_Su_71 (okTa_tell 27 u2 0 s1 k_27 C.l C.w) rfl (by decide) rfl (Nat.le_of_ble_eq_true rfl) dSu_putSunset_25 (fun r3 s2 => ?_)
    refine g_aload_n X dSu_putSunset_28 rfl ?_
    refine g_getI X fl_Su_72 fb_5_10 h1 dSu_putSunset_29 ?_
    refine gf_jn (fun j51 => ∀ (s4 : Sg), GF C evV 51 [some (.ref (C.w.ad 65)), some (.ref (C.w.ad o1)), some (.int u2)] [] s4 (j51 s4)) ?_ ?_
    · intro s4
      refine g_iinc X (u2 + 1) [some (.ref (C.w.ad 65)), some (.ref (C.w.ad o1)), some (.int (u2 + 1))] dSu_putSunset_51 rfl rfl (by decide) rfl ?_
      refine g_goto X 2 dSu_putSunset_54 (by decide) ?_
      exact gf_sub (hq2 (u2 + 1) s4) (by simp [lsub])
    · intro j51 hj51
      refine g_cne X (tgt := 51) dSu_putSunset_32 (by decide) ?_ ?_
      · refine g_aload_n X dSu_putSunset_35 rfl ?_
        refine g_aload_n X dSu_putSunset_36 rfl ?_
        refine g_getN X fl_Su_9 fb_6_0 k_65 r_65_0 dSu_putSunset_37 ?_
        refine g_getN X fl_Su_61 fb_8_2 k_19 r_19_2 dSu_putSunset_40 ?_
        refine g_iload_n X dSu_putSunset_43 rfl ?_
        refine g_iconst X 1 dSu_putSunset_44 (by decide) ?_
        refine g_virtI X [.int u2, .int 1] [.ref (C.w.ad o1)] k_27 mm_Ta_tell mv_Ta_tell ml_Su_71 (okTa_tell 27 u2 1 s2 k_27 C.l C.w) rfl (by decide) rfl (Nat.le_of_ble_eq_true rfl) dSu_putSunset_45 (fun r6 s5 => ?_)
        refine g_putI X fl_Su_32 fb_5_8 fp_5_8 h1 dSu_putSunset_48 (fun s7 => ?_)
        exact gf_sub (hj51 s7) (by simp [lsub])
      · exact gf_sub (hj51 s2) (by simp [lsub])
def ySu_letClimbersGo : MethodName := ⟨"LastWordHill$Sun", "letClimbersGo", "(LLastWordHill$Scene;)V"⟩
abbrev cSu_letClimbersGo : ByteArray := prog_8_method_4_code
theorem dSu_letClimbersGo_0 : decode cSu_letClimbersGo 0 = .ok (.aload_n 0, 1) := by decide +kernel
theorem dSu_letClimbersGo_1 : decode cSu_letClimbersGo 1 = .ok (.getfield 9, 3) := by decide +kernel
theorem dSu_letClimbersGo_4 : decode cSu_letClimbersGo 4 = .ok (.getfield 75, 3) := by decide +kernel
theorem fl_Su_75 : FLk "LastWordHill$Sun" 75 8 1 := ⟨_, _, _, rfl, by decide, hz_in 314 (by decide +kernel) (by decide +kernel), nL8, by decide, by decide⟩
theorem k_25 : hz_kd 25 = 7 := by decide
theorem r_19_1 : hz_rf 19 1 = 25 := by decide
theorem dSu_letClimbersGo_7 : decode cSu_letClimbersGo 7 = .ok (.astore_n 2, 1) := by decide +kernel
theorem dSu_letClimbersGo_8 : decode cSu_letClimbersGo 8 = .ok (.iconst 0, 1) := by decide +kernel
theorem dSu_letClimbersGo_9 : decode cSu_letClimbersGo 9 = .ok (.istore_n 3, 1) := by decide +kernel
theorem dSu_letClimbersGo_10 : decode cSu_letClimbersGo 10 = .ok (.iload_n 3, 1) := by decide +kernel
theorem dSu_letClimbersGo_11 : decode cSu_letClimbersGo 11 = .ok (.aload_n 2, 1) := by decide +kernel
theorem dSu_letClimbersGo_12 : decode cSu_letClimbersGo 12 = .ok (.getfield 66, 3) := by decide +kernel
theorem dSu_letClimbersGo_15 : decode cSu_letClimbersGo 15 = .ok (.if_icmp .ge 77, 3) := by decide +kernel
theorem dSu_letClimbersGo_92 : decode cSu_letClimbersGo 92 = .ok (.return_, 1) := by decide +kernel
theorem dSu_letClimbersGo_18 : decode cSu_letClimbersGo 18 = .ok (.aload_n 2, 1) := by decide +kernel
theorem dSu_letClimbersGo_19 : decode cSu_letClimbersGo 19 = .ok (.iload_n 3, 1) := by decide +kernel
theorem dSu_letClimbersGo_20 : decode cSu_letClimbersGo 20 = .ok (.iconst 1, 1) := by decide +kernel
theorem dSu_letClimbersGo_21 : decode cSu_letClimbersGo 21 = .ok (.invokevirtual 71, 3) := by decide +kernel
theorem dSu_letClimbersGo_24 : decode cSu_letClimbersGo 24 = .ok (.istore 4, 2) := by decide +kernel
theorem dSu_letClimbersGo_26 : decode cSu_letClimbersGo 26 = .ok (.aload_n 2, 1) := by decide +kernel
theorem dSu_letClimbersGo_27 : decode cSu_letClimbersGo 27 = .ok (.iload_n 3, 1) := by decide +kernel
theorem dSu_letClimbersGo_28 : decode cSu_letClimbersGo 28 = .ok (.iconst 0, 1) := by decide +kernel
theorem dSu_letClimbersGo_29 : decode cSu_letClimbersGo 29 = .ok (.invokevirtual 71, 3) := by decide +kernel
theorem dSu_letClimbersGo_32 : decode cSu_letClimbersGo 32 = .ok (.aload_n 1, 1) := by decide +kernel
theorem dSu_letClimbersGo_33 : decode cSu_letClimbersGo 33 = .ok (.getfield 72, 3) := by decide +kernel
theorem dSu_letClimbersGo_36 : decode cSu_letClimbersGo 36 = .ok (.if_icmp .ne 20, 3) := by decide +kernel
theorem dSu_letClimbersGo_57 : decode cSu_letClimbersGo 57 = .ok (.istore 5, 2) := by decide +kernel
theorem dSu_letClimbersGo_59 : decode cSu_letClimbersGo 59 = .ok (.iload 5, 2) := by decide +kernel
theorem dSu_letClimbersGo_61 : decode cSu_letClimbersGo 61 = .ok (.ifCond .eq 25, 3) := by decide +kernel
theorem dSu_letClimbersGo_86 : decode cSu_letClimbersGo 86 = .ok (.iinc 3 1, 3) := by decide +kernel
theorem dSu_letClimbersGo_89 : decode cSu_letClimbersGo 89 = .ok (.goto (-79), 3) := by decide +kernel
theorem dSu_letClimbersGo_64 : decode cSu_letClimbersGo 64 = .ok (.aload_n 1, 1) := by decide +kernel
theorem dSu_letClimbersGo_65 : decode cSu_letClimbersGo 65 = .ok (.iload 4, 2) := by decide +kernel
theorem dSu_letClimbersGo_67 : decode cSu_letClimbersGo 67 = .ok (.iconst 5, 1) := by decide +kernel
theorem dSu_letClimbersGo_68 : decode cSu_letClimbersGo 68 = .ok (.invokevirtual 38, 3) := by decide +kernel
theorem ml_Su_38 : Cond.methodLink "LastWordHill$Sun" 38 ySc_tell ∈ hz_wt := hz_in 717 (by decide +kernel) (by decide +kernel)
theorem dSu_letClimbersGo_71 : decode cSu_letClimbersGo 71 = .ok (.ifCond .ne 15, 3) := by decide +kernel
theorem dSu_letClimbersGo_74 : decode cSu_letClimbersGo 74 = .ok (.aload_n 1, 1) := by decide +kernel
theorem dSu_letClimbersGo_75 : decode cSu_letClimbersGo 75 = .ok (.iload 4, 2) := by decide +kernel
theorem dSu_letClimbersGo_77 : decode cSu_letClimbersGo 77 = .ok (.aload_n 2, 1) := by decide +kernel
theorem dSu_letClimbersGo_78 : decode cSu_letClimbersGo 78 = .ok (.iload_n 3, 1) := by decide +kernel
theorem dSu_letClimbersGo_79 : decode cSu_letClimbersGo 79 = .ok (.iconst 2, 1) := by decide +kernel
theorem dSu_letClimbersGo_80 : decode cSu_letClimbersGo 80 = .ok (.invokevirtual 71, 3) := by decide +kernel
theorem dSu_letClimbersGo_83 : decode cSu_letClimbersGo 83 = .ok (.invokevirtual 78, 3) := by decide +kernel
theorem mm_Sc_letGo : MMc ySc_letGo cSc_letGo 3 none 2 := ⟨hz_in 680 (by decide +kernel) (by decide +kernel), hz_in 135 (by decide +kernel) (by decide +kernel), by decide +kernel, by decide⟩
theorem mv_Sc_letGo : MMv ySc_letGo 5 := ⟨hz_in 678 (by decide +kernel) (by decide +kernel), hz_in 679 (by decide +kernel) (by decide +kernel), _, _, rfl, by decide⟩
theorem ml_Su_78 : Cond.methodLink "LastWordHill$Sun" 78 ySc_letGo ∈ hz_wt := hz_in 718 (by decide +kernel) (by decide +kernel)
theorem dSu_letClimbersGo_56 : decode cSu_letClimbersGo 56 = .ok (.iconst 0, 1) := by decide +kernel
theorem dSu_letClimbersGo_39 : decode cSu_letClimbersGo 39 = .ok (.aload_n 2, 1) := by decide +kernel
theorem dSu_letClimbersGo_40 : decode cSu_letClimbersGo 40 = .ok (.iload_n 3, 1) := by decide +kernel
theorem dSu_letClimbersGo_41 : decode cSu_letClimbersGo 41 = .ok (.iconst 3, 1) := by decide +kernel
theorem dSu_letClimbersGo_42 : decode cSu_letClimbersGo 42 = .ok (.invokevirtual 71, 3) := by decide +kernel
theorem dSu_letClimbersGo_45 : decode cSu_letClimbersGo 45 = .ok (.aload_n 1, 1) := by decide +kernel
theorem dSu_letClimbersGo_46 : decode cSu_letClimbersGo 46 = .ok (.getfield 19, 3) := by decide +kernel
theorem fl_Su_19 : FLk "LastWordHill$Sun" 19 5 9 := ⟨_, _, _, rfl, by decide, hz_in 193 (by decide +kernel) (by decide +kernel), nL5, by decide, by decide⟩
theorem dSu_letClimbersGo_49 : decode cSu_letClimbersGo 49 = .ok (.if_icmp .ne 7, 3) := by decide +kernel
theorem dSu_letClimbersGo_52 : decode cSu_letClimbersGo 52 = .ok (.iconst 1, 1) := by decide +kernel
theorem dSu_letClimbersGo_53 : decode cSu_letClimbersGo 53 = .ok (.goto 4, 3) := by decide +kernel
def fSu_letClimbersGo (o1 : Nat) (s0 : Sg) : Option (Sg) := lp FU (fun q10 (u10 : Int32) (s1 : Sg) => if (s1 25 3) ≤ u10 then (some s1) else (bi (fTa_tell 25 u10 1 s1) fun r3 s2 => bi (fTa_tell 25 u10 0 s2) fun r5 s4 => bnd (fun (b57_0 : Int32) (s6 : Sg) => bnd (fun (s7 : Sg) => q10 (u10 + 1) s7) fun j86 => if b57_0 = 0 then (j86 s6) else (bi (fSc_tell o1 r3 5 s6) fun r9 s8 => if r9 = 0 then (bi (fTa_tell 25 u10 2 s8) fun r11 s10 => bv (fSc_letGo o1 r3 r11 s10) fun s12 => j86 s12) else (j86 s8))) fun j57 => bnd (fun (s13 : Sg) => j57 0 s13) fun j56 => if r5 = (s4 o1 10) then (bi (fTa_tell 25 u10 3 s4) fun r15 s14 => if r15 = (s14 o1 9) then (j57 1 s14) else (j56 s14)) else (j56 s4))) 0 s0
set_option maxHeartbeats 4000000 in
set_option maxRecDepth 100000 in
theorem okSu_letClimbersGo (o1 : Nat) (s0 : Sg) (h1 : hz_kd o1 = 5) : ∀ (l : Launch) (w : WC), Ok l w ySu_letClimbersGo cSu_letClimbersGo 6 none 3 evV [.ref (w.ad 65), .ref (w.ad o1)] s0 (fSu_letClimbersGo o1 s0) := by
  refine ok_in (ev := fun _ => evV) (av := fun w => [.ref (w.ad 65), .ref (w.ad o1)]) "LastWordHill$Sun" rfl (by decide +kernel) (fun _ => rfl) (fun _ => Nat.le_of_ble_eq_true rfl) ?_
  intro C X E
  show GF C evV 0 [some (.ref (C.w.ad 65)), some (.ref (C.w.ad o1)), none, none, none, none] [] s0 (fSu_letClimbersGo o1 s0)
  unfold fSu_letClimbersGo
  refine g_aload_n X dSu_letClimbersGo_0 rfl ?_
  refine g_getN X fl_Su_9 fb_6_0 k_65 r_65_0 dSu_letClimbersGo_1 ?_
  refine g_getN X fl_Su_75 fb_8_1 k_19 r_19_1 dSu_letClimbersGo_4 ?_
  refine g_astore_n X [some (.ref (C.w.ad 65)), some (.ref (C.w.ad o1)), some (.ref (C.w.ad 25)), none, none, none] dSu_letClimbersGo_7 (by decide) (Nat.le_of_ble_eq_true rfl) rfl ?_
  refine g_iconst X 0 dSu_letClimbersGo_8 (by decide) ?_
  refine g_istore_n X [some (.ref (C.w.ad 65)), some (.ref (C.w.ad o1)), some (.ref (C.w.ad 25)), some (.int 0), none, none] dSu_letClimbersGo_9 (by decide) (Nat.le_of_ble_eq_true rfl) rfl ?_
  refine gf_sub (L' := [none, some (.ref (C.w.ad o1)), some (.ref (C.w.ad 25)), some (.int 0), none, none]) ?_ (by simp [lsub])
  refine gf_lp (Lf := fun (u10 : Int32) => [none, some (.ref (C.w.ad o1)), some (.ref (C.w.ad 25)), some (.int u10), none, none]) (fun q10 hq10 u10 s1 => ?_) FU 0 s0
  refine g_iload_n X dSu_letClimbersGo_10 rfl ?_
  refine g_aload_n X dSu_letClimbersGo_11 rfl ?_
  refine g_getI X fl_Su_66 fb_7_3 k_25 dSu_letClimbersGo_12 ?_
  refine g_cge X (tgt := 92) dSu_letClimbersGo_15 (by decide) ?_ ?_
  · exact g_vret X E dSu_letClimbersGo_92
  · refine g_aload_n X dSu_letClimbersGo_18 rfl ?_
    refine g_iload_n X dSu_letClimbersGo_19 rfl ?_
    refine g_iconst X 1 dSu_letClimbersGo_20 (by decide) ?_
    refine g_virtI X [.int u10, .int 1] [] k_25 mm_Ta_tell mv_Ta_tell ml_Su_71 (okTa_tell 25 u10 1 s1 k_25 C.l C.w) rfl (by decide) rfl (Nat.le_of_ble_eq_true rfl) dSu_letClimbersGo_21 (fun r3 s2 => ?_)
    refine g_istore X [none, some (.ref (C.w.ad o1)), some (.ref (C.w.ad 25)), some (.int u10), some (.int r3), none] dSu_letClimbersGo_24 (by decide) (Nat.le_of_ble_eq_true rfl) rfl ?_
    refine g_aload_n X dSu_letClimbersGo_26 rfl ?_
    refine g_iload_n X dSu_letClimbersGo_27 rfl ?_
    refine g_iconst X 0 dSu_letClimbersGo_28 (by decide) ?_
    refine g_virtI X [.int u10, .int 0] [] k_25 mm_Ta_tell mv_Ta_tell ml_Su_71 (okTa_tell 25 u10 0 s2 k_25 C.l C.w) rfl (by decide) rfl (Nat.le_of_ble_eq_true rfl) dSu_letClimbersGo_29 (fun r5 s4 => ?_)
    refine g_aload_n X dSu_letClimbersGo_32 rfl ?_
    refine g_getI X fl_Su_72 fb_5_10 h1 dSu_letClimbersGo_33 ?_
    refine gf_jn (fun j57 => ∀ (b57_0 : Int32) (s6 : Sg), GF C evV 57 [none, some (.ref (C.w.ad o1)), some (.ref (C.w.ad 25)), some (.int u10), some (.int r3), none] [.int b57_0] s6 (j57 b57_0 s6)) ?_ ?_
    · intro b57_0 s6
      refine g_istore X [none, some (.ref (C.w.ad o1)), some (.ref (C.w.ad 25)), some (.int u10), some (.int r3), some (.int b57_0)] dSu_letClimbersGo_57 (by decide) (Nat.le_of_ble_eq_true rfl) rfl ?_
      refine g_iload X dSu_letClimbersGo_59 rfl ?_
      refine gf_jn (fun j86 => ∀ (s7 : Sg), GF C evV 86 [none, some (.ref (C.w.ad o1)), some (.ref (C.w.ad 25)), some (.int u10), none, none] [] s7 (j86 s7)) ?_ ?_
      · intro s7
        refine g_iinc X (u10 + 1) [none, some (.ref (C.w.ad o1)), some (.ref (C.w.ad 25)), some (.int (u10 + 1)), none, none] dSu_letClimbersGo_86 rfl rfl (by decide) rfl ?_
        refine g_goto X 10 dSu_letClimbersGo_89 (by decide) ?_
        exact gf_sub (hq10 (u10 + 1) s7) (by simp [lsub])
      · intro j86 hj86
        refine g_zeq X (tgt := 86) dSu_letClimbersGo_61 (by decide) ?_ ?_
        · exact gf_sub (hj86 s6) (by simp [lsub])
        · refine g_aload_n X dSu_letClimbersGo_64 rfl ?_
          refine g_iload X dSu_letClimbersGo_65 rfl ?_
          refine g_iconst X 5 dSu_letClimbersGo_67 (by decide) ?_
          refine g_virtI X [.int r3, .int 5] [] h1 mm_Sc_tell mv_Sc_tell ml_Su_38 (okSc_tell o1 r3 5 s6 h1 C.l C.w) rfl (by decide) rfl (Nat.le_of_ble_eq_true rfl) dSu_letClimbersGo_68 (fun r9 s8 => ?_)
          refine g_zne X (tgt := 86) dSu_letClimbersGo_71 (by decide) ?_ ?_
          · refine g_aload_n X dSu_letClimbersGo_74 rfl ?_
            refine g_iload X dSu_letClimbersGo_75 rfl ?_
            refine g_aload_n X dSu_letClimbersGo_77 rfl ?_
            refine g_iload_n X dSu_letClimbersGo_78 rfl ?_
            refine g_iconst X 2 dSu_letClimbersGo_79 (by decide) ?_
            refine g_virtI X [.int u10, .int 2] [.int r3, .ref (C.w.ad o1)] k_25 mm_Ta_tell mv_Ta_tell ml_Su_71 (okTa_tell 25 u10 2 s8 k_25 C.l C.w) rfl (by decide) rfl (Nat.le_of_ble_eq_true rfl) dSu_letClimbersGo_80 (fun r11 s10 => ?_)
            refine g_virtV X [.int r3, .int r11] [] h1 mm_Sc_letGo mv_Sc_letGo ml_Su_78 (okSc_letGo o1 r3 r11 s10 h1 C.l C.w) rfl (by decide) rfl (Nat.le_of_ble_eq_true rfl) dSu_letClimbersGo_83 (fun s12 => ?_)
            exact gf_sub (hj86 s12) (by simp [lsub])
          · exact gf_sub (hj86 s8) (by simp [lsub])
    · intro j57 hj57
      refine gf_jn (fun j56 => ∀ (s13 : Sg), GF C evV 56 [none, some (.ref (C.w.ad o1)), some (.ref (C.w.ad 25)), some (.int u10), some (.int r3), none] [] s13 (j56 s13)) ?_ ?_
      · intro s13
        refine g_iconst X 0 dSu_letClimbersGo_56 (by decide) ?_
        exact gf_sub (hj57 0 s13) (by simp [lsub])
      · intro j56 hj56
        refine g_cne X (tgt := 56) dSu_letClimbersGo_36 (by decide) ?_ ?_
        · refine g_aload_n X dSu_letClimbersGo_39 rfl ?_
          refine g_iload_n X dSu_letClimbersGo_40 rfl ?_
          refine g_iconst X 3 dSu_letClimbersGo_41 (by decide) ?_
          refine g_virtI X [.int u10, .int 3] [] k_25 mm_Ta_tell mv_Ta_tell ml_Su_71 (okTa_tell 25 u10 3 s4 k_25 C.l C.w) rfl (by decide) rfl (Nat.le_of_ble_eq_true rfl) dSu_letClimbersGo_42 (fun r15 s14 => ?_)
          refine g_aload_n X dSu_letClimbersGo_45 rfl ?_
          refine g_getI X fl_Su_19 fb_5_9 h1 dSu_letClimbersGo_46 ?_
          refine g_cne X (tgt := 56) dSu_letClimbersGo_49 (by decide) ?_ ?_
          · refine g_iconst X 1 dSu_letClimbersGo_52 (by decide) ?_
            refine g_goto X 57 dSu_letClimbersGo_53 (by decide) ?_
            exact gf_sub (hj57 1 s14) (by simp [lsub])
          · exact gf_sub (hj56 s14) (by simp [lsub])
        · exact gf_sub (hj56 s4) (by simp [lsub])
def ySu_note : MethodName := ⟨"LastWordHill$Sun", "note", "(LLastWordHill$Scene;III)V"⟩
abbrev cSu_note : ByteArray := prog_8_method_8_code
theorem dSu_note_0 : decode cSu_note 0 = .ok (.aload_n 0, 1) := by decide +kernel
theorem dSu_note_1 : decode cSu_note 1 = .ok (.getfield 15, 3) := by decide +kernel
theorem fl_Su_15 : FLk "LastWordHill$Sun" 15 6 1 := ⟨_, _, _, rfl, by decide, hz_in 480 (by decide +kernel) (by decide +kernel), nL6, by decide, by decide⟩
theorem fb_6_1 : (hz_bs 6)[1]? = some true := by decide
theorem r_65_1 : hz_rf 65 1 = 63 := by decide
theorem dSu_note_4 : decode cSu_note 4 = .ok (.aload_n 1, 1) := by decide +kernel
theorem dSu_note_5 : decode cSu_note 5 = .ok (.getfield 131, 3) := by decide +kernel
theorem fl_Su_131 : FLk "LastWordHill$Sun" 131 5 12 := ⟨_, _, _, rfl, by decide, hz_in 202 (by decide +kernel) (by decide +kernel), nL5, by decide, by decide⟩
theorem dSu_note_8 : decode cSu_note 8 = .ok (.putfield 66, 3) := by decide +kernel
theorem dSu_note_11 : decode cSu_note 11 = .ok (.aload_n 0, 1) := by decide +kernel
theorem dSu_note_12 : decode cSu_note 12 = .ok (.getfield 15, 3) := by decide +kernel
theorem dSu_note_15 : decode cSu_note 15 = .ok (.aload_n 1, 1) := by decide +kernel
theorem dSu_note_16 : decode cSu_note 16 = .ok (.getfield 72, 3) := by decide +kernel
theorem dSu_note_19 : decode cSu_note 19 = .ok (.aload_n 1, 1) := by decide +kernel
theorem dSu_note_20 : decode cSu_note 20 = .ok (.getfield 19, 3) := by decide +kernel
theorem dSu_note_23 : decode cSu_note 23 = .ok (.iload_n 2, 1) := by decide +kernel
theorem dSu_note_24 : decode cSu_note 24 = .ok (.iload_n 3, 1) := by decide +kernel
theorem dSu_note_25 : decode cSu_note 25 = .ok (.iload 4, 2) := by decide +kernel
theorem dSu_note_27 : decode cSu_note 27 = .ok (.invokevirtual 134, 3) := by decide +kernel
theorem ml_Su_134 : Cond.methodLink "LastWordHill$Sun" 134 yTa_add ∈ hz_wt := hz_in 665 (by decide +kernel) (by decide +kernel)
theorem dSu_note_30 : decode cSu_note 30 = .ok (.iconst (-1), 1) := by decide +kernel
theorem dSu_note_31 : decode cSu_note 31 = .ok (.if_icmp .eq 13, 3) := by decide +kernel
theorem dSu_note_44 : decode cSu_note 44 = .ok (.return_, 1) := by decide +kernel
theorem dSu_note_34 : decode cSu_note 34 = .ok (.aload_n 1, 1) := by decide +kernel
theorem dSu_note_35 : decode cSu_note 35 = .ok (.dup, 1) := by decide +kernel
theorem dSu_note_36 : decode cSu_note 36 = .ok (.getfield 131, 3) := by decide +kernel
theorem dSu_note_39 : decode cSu_note 39 = .ok (.iconst 1, 1) := by decide +kernel
theorem dSu_note_40 : decode cSu_note 40 = .ok (.iadd, 1) := by decide +kernel
theorem dSu_note_41 : decode cSu_note 41 = .ok (.putfield 131, 3) := by decide +kernel
def fSu_note (o1 : Nat) (v2 : Int32) (v3 : Int32) (v4 : Int32) (s0 : Sg) : Option (Sg) := bnd (pt s0 63 3 (s0 o1 12)) fun s1 => bi (fTa_add 63 (s1 o1 10) (s1 o1 9) v2 v3 v4 s1) fun r3 s2 => if r3 = (-1) then (some s2) else (bnd (pt s2 o1 12 ((s2 o1 12) + 1)) fun s4 => some s4)
set_option maxHeartbeats 4000000 in
set_option maxRecDepth 100000 in
theorem okSu_note (o1 : Nat) (v2 : Int32) (v3 : Int32) (v4 : Int32) (s0 : Sg) (h1 : hz_kd o1 = 5) : ∀ (l : Launch) (w : WC), Ok l w ySu_note cSu_note 5 none 4 evV [.ref (w.ad 65), .ref (w.ad o1), .int v2, .int v3, .int v4] s0 (fSu_note o1 v2 v3 v4 s0) := by
  refine ok_in (ev := fun _ => evV) (av := fun w => [.ref (w.ad 65), .ref (w.ad o1), .int v2, .int v3, .int v4]) "LastWordHill$Sun" rfl (by decide +kernel) (fun _ => rfl) (fun _ => Nat.le_of_ble_eq_true rfl) ?_
  intro C X E
  show GF C evV 0 [some (.ref (C.w.ad 65)), some (.ref (C.w.ad o1)), some (.int v2), some (.int v3), some (.int v4)] [] s0 (fSu_note o1 v2 v3 v4 s0)
  unfold fSu_note
  refine g_aload_n X dSu_note_0 rfl ?_
  refine g_getN X fl_Su_15 fb_6_1 k_65 r_65_1 dSu_note_1 ?_
  refine g_aload_n X dSu_note_4 rfl ?_
  refine g_getI X fl_Su_131 fb_5_12 h1 dSu_note_5 ?_
  refine g_putI X fl_Su_66 fb_7_3 fp_7_3 k_63 dSu_note_8 (fun s1 => ?_)
  refine g_aload_n X dSu_note_11 rfl ?_
  refine g_getN X fl_Su_15 fb_6_1 k_65 r_65_1 dSu_note_12 ?_
  refine g_aload_n X dSu_note_15 rfl ?_
  refine g_getI X fl_Su_72 fb_5_10 h1 dSu_note_16 ?_
  refine g_aload_n X dSu_note_19 rfl ?_
  refine g_getI X fl_Su_19 fb_5_9 h1 dSu_note_20 ?_
  refine g_iload_n X dSu_note_23 rfl ?_
  refine g_iload_n X dSu_note_24 rfl ?_
  refine g_iload X dSu_note_25 rfl ?_
  refine g_virtI X [.int (s1 o1 10), .int (s1 o1 9), .int v2, .int v3, .int v4] [] k_63 mm_Ta_add mv_Ta_add ml_Su_134 (okTa_add 63 (s1 o1 10) (s1 o1 9) v2 v3 v4 s1 k_63 C.l C.w) rfl (by decide) rfl (Nat.le_of_ble_eq_true rfl) dSu_note_27 (fun r3 s2 => ?_)
  refine g_iconst X (-1) dSu_note_30 (by decide) ?_
  refine g_ceq X (tgt := 44) dSu_note_31 (by decide) ?_ ?_
  · exact g_vret X E dSu_note_44
  · refine g_aload_n X dSu_note_34 rfl ?_
    refine g_dup X dSu_note_35 rfl ?_
    refine g_getI X fl_Su_131 fb_5_12 h1 dSu_note_36 ?_
    refine g_iconst X 1 dSu_note_39 (by decide) ?_
    refine g_iadd X dSu_note_40 ?_
    refine g_putI X fl_Su_131 fb_5_12 fp_5_12 h1 dSu_note_41 (fun s4 => ?_)
    exact g_vret X E dSu_note_44
def yTe_adopt : MethodName := ⟨"LastWordHill$Texts", "adopt", "(ILLastWordHill$Texts;)V"⟩
abbrev cTe_adopt : ByteArray := prog_10_method_3_code
theorem dTe_adopt_0 : decode cTe_adopt 0 = .ok (.iload_n 1, 1) := by decide +kernel
theorem dTe_adopt_1 : decode cTe_adopt 1 = .ok (.ifCond .ne 17, 3) := by decide +kernel
theorem dTe_adopt_18 : decode cTe_adopt 18 = .ok (.iload_n 1, 1) := by decide +kernel
theorem dTe_adopt_19 : decode cTe_adopt 19 = .ok (.iconst 1, 1) := by decide +kernel
theorem dTe_adopt_20 : decode cTe_adopt 20 = .ok (.if_icmp .ne 17, 3) := by decide +kernel
theorem dTe_adopt_37 : decode cTe_adopt 37 = .ok (.iload_n 1, 1) := by decide +kernel
theorem dTe_adopt_38 : decode cTe_adopt 38 = .ok (.iconst 2, 1) := by decide +kernel
theorem dTe_adopt_39 : decode cTe_adopt 39 = .ok (.if_icmp .ne 17, 3) := by decide +kernel
theorem dTe_adopt_56 : decode cTe_adopt 56 = .ok (.iload_n 1, 1) := by decide +kernel
theorem dTe_adopt_57 : decode cTe_adopt 57 = .ok (.iconst 3, 1) := by decide +kernel
theorem dTe_adopt_58 : decode cTe_adopt 58 = .ok (.if_icmp .ne 26, 3) := by decide +kernel
theorem dTe_adopt_84 : decode cTe_adopt 84 = .ok (.return_, 1) := by decide +kernel
theorem dTe_adopt_61 : decode cTe_adopt 61 = .ok (.aload_n 2, 1) := by decide +kernel
theorem dTe_adopt_62 : decode cTe_adopt 62 = .ok (.getfield 30, 3) := by decide +kernel
theorem dTe_adopt_65 : decode cTe_adopt 65 = .ok (.iconst 0, 1) := by decide +kernel
theorem dTe_adopt_66 : decode cTe_adopt 66 = .ok (.aload_n 0, 1) := by decide +kernel
theorem dTe_adopt_67 : decode cTe_adopt 67 = .ok (.getfield 30, 3) := by decide +kernel
theorem dTe_adopt_70 : decode cTe_adopt 70 = .ok (.iconst 0, 1) := by decide +kernel
theorem dTe_adopt_71 : decode cTe_adopt 71 = .ok (.bipush 20, 2) := by decide +kernel
theorem dTe_adopt_73 : decode cTe_adopt 73 = .ok (.invokestatic 58, 3) := by decide +kernel
theorem ml_Te_58 : Cond.methodLink "LastWordHill$Texts" 58 arraycopyName ∈ hz_wt := hz_in 1085 (by decide +kernel) (by decide +kernel)
theorem dTe_adopt_76 : decode cTe_adopt 76 = .ok (.aload_n 0, 1) := by decide +kernel
theorem dTe_adopt_77 : decode cTe_adopt 77 = .ok (.aload_n 2, 1) := by decide +kernel
theorem dTe_adopt_78 : decode cTe_adopt 78 = .ok (.getfield 47, 3) := by decide +kernel
theorem dTe_adopt_81 : decode cTe_adopt 81 = .ok (.putfield 47, 3) := by decide +kernel
theorem dTe_adopt_42 : decode cTe_adopt 42 = .ok (.aload_n 0, 1) := by decide +kernel
theorem dTe_adopt_43 : decode cTe_adopt 43 = .ok (.getfield 27, 3) := by decide +kernel
theorem dTe_adopt_46 : decode cTe_adopt 46 = .ok (.aload_n 2, 1) := by decide +kernel
theorem dTe_adopt_47 : decode cTe_adopt 47 = .ok (.getfield 27, 3) := by decide +kernel
theorem dTe_adopt_50 : decode cTe_adopt 50 = .ok (.invokevirtual 55, 3) := by decide +kernel
theorem ml_Te_55 : Cond.methodLink "LastWordHill$Texts" 55 yTa_become ∈ hz_wt := hz_in 1084 (by decide +kernel) (by decide +kernel)
theorem dTe_adopt_53 : decode cTe_adopt 53 = .ok (.goto 31, 3) := by decide +kernel
theorem dTe_adopt_23 : decode cTe_adopt 23 = .ok (.aload_n 0, 1) := by decide +kernel
theorem dTe_adopt_24 : decode cTe_adopt 24 = .ok (.getfield 23, 3) := by decide +kernel
theorem dTe_adopt_27 : decode cTe_adopt 27 = .ok (.aload_n 2, 1) := by decide +kernel
theorem dTe_adopt_28 : decode cTe_adopt 28 = .ok (.getfield 23, 3) := by decide +kernel
theorem dTe_adopt_31 : decode cTe_adopt 31 = .ok (.invokevirtual 55, 3) := by decide +kernel
theorem dTe_adopt_34 : decode cTe_adopt 34 = .ok (.goto 50, 3) := by decide +kernel
theorem dTe_adopt_4 : decode cTe_adopt 4 = .ok (.aload_n 0, 1) := by decide +kernel
theorem dTe_adopt_5 : decode cTe_adopt 5 = .ok (.getfield 12, 3) := by decide +kernel
theorem dTe_adopt_8 : decode cTe_adopt 8 = .ok (.aload_n 2, 1) := by decide +kernel
theorem dTe_adopt_9 : decode cTe_adopt 9 = .ok (.getfield 12, 3) := by decide +kernel
theorem dTe_adopt_12 : decode cTe_adopt 12 = .ok (.invokevirtual 51, 3) := by decide +kernel
theorem mm_La_become : MMc yLa_become cLa_become 2 none 1 := ⟨hz_in 1076 (by decide +kernel) (by decide +kernel), hz_in 138 (by decide +kernel) (by decide +kernel), by decide +kernel, by decide⟩
theorem mv_La_become : MMv yLa_become 1 := ⟨hz_in 1074 (by decide +kernel) (by decide +kernel), hz_in 1075 (by decide +kernel) (by decide +kernel), _, _, rfl, by decide⟩
theorem ml_Te_51 : Cond.methodLink "LastWordHill$Texts" 51 yLa_become ∈ hz_wt := hz_in 1073 (by decide +kernel) (by decide +kernel)
theorem dTe_adopt_15 : decode cTe_adopt 15 = .ok (.goto 69, 3) := by decide +kernel
def fTe_adopt (o0 : Nat) (v1 : Int32) (o2 : Nat) (s0 : Sg) : Option (Sg) := if v1 = 0 then (bv (fLa_become (hz_rf o0 0) (hz_rf o2 0) s0) fun s5 => some s5) else (if v1 = 1 then (bv (fTa_become (hz_rf o0 1) (hz_rf o2 1) s0) fun s4 => some s4) else (if v1 = 2 then (bv (fTa_become (hz_rf o0 2) (hz_rf o2 2) s0) fun s3 => some s3) else (if v1 = 3 then (bv (cpy s0 (hz_rf o2 3) 20 0 (hz_rf o0 3) 20 0 20) fun s1 => bnd (pt s1 o0 4 (s1 o2 4)) fun s2 => some s2) else (some s0))))
set_option maxHeartbeats 4000000 in
set_option maxRecDepth 100000 in
theorem okTe_adopt (o0 : Nat) (v1 : Int32) (o2 : Nat) (s0 : Sg) (h0 : hz_kd o0 = 8) (h2 : hz_kd o2 = 8) : ∀ (l : Launch) (w : WC), Ok l w yTe_adopt cTe_adopt 3 none 4 evV [.ref (w.ad o0), .int v1, .ref (w.ad o2)] s0 (fTe_adopt o0 v1 o2 s0) := by
  refine ok_in (ev := fun _ => evV) (av := fun w => [.ref (w.ad o0), .int v1, .ref (w.ad o2)]) "LastWordHill$Texts" rfl (by decide +kernel) (fun _ => rfl) (fun _ => Nat.le_of_ble_eq_true rfl) ?_
  intro C X E
  show GF C evV 0 [some (.ref (C.w.ad o0)), some (.int v1), some (.ref (C.w.ad o2))] [] s0 (fTe_adopt o0 v1 o2 s0)
  unfold fTe_adopt
  refine g_iload_n X dTe_adopt_0 rfl ?_
  refine g_zne X (tgt := 18) dTe_adopt_1 (by decide) ?_ ?_
  · refine g_aload_n X dTe_adopt_4 rfl ?_
    refine g_getR X fl_Te_12 fb_8_0 h0 dTe_adopt_5 ?_
    refine g_aload_n X dTe_adopt_8 rfl ?_
    refine g_getR X fl_Te_12 fb_8_0 h2 dTe_adopt_9 ?_
    refine g_virtV X [.ref (C.w.ad (hz_rf o2 0))] [] (sk_8_0 h0) mm_La_become mv_La_become ml_Te_51 (okLa_become (hz_rf o0 0) (hz_rf o2 0) s0 (sk_8_0 h0) (sk_8_0 h2) C.l C.w) rfl (by decide) rfl (Nat.le_of_ble_eq_true rfl) dTe_adopt_12 (fun s5 => ?_)
    refine g_goto X 84 dTe_adopt_15 (by decide) ?_
    exact g_vret X E dTe_adopt_84
  · refine g_iload_n X dTe_adopt_18 rfl ?_
    refine g_iconst X 1 dTe_adopt_19 (by decide) ?_
    refine g_cne X (tgt := 37) dTe_adopt_20 (by decide) ?_ ?_
    · refine g_aload_n X dTe_adopt_23 rfl ?_
      refine g_getR X fl_Te_23 fb_8_1 h0 dTe_adopt_24 ?_
      refine g_aload_n X dTe_adopt_27 rfl ?_
      refine g_getR X fl_Te_23 fb_8_1 h2 dTe_adopt_28 ?_
      refine g_virtV X [.ref (C.w.ad (hz_rf o2 1))] [] (sk_8_1 h0) mm_Ta_become mv_Ta_become ml_Te_55 (okTa_become (hz_rf o0 1) (hz_rf o2 1) s0 (sk_8_1 h0) (sk_8_1 h2) C.l C.w) rfl (by decide) rfl (Nat.le_of_ble_eq_true rfl) dTe_adopt_31 (fun s4 => ?_)
      refine g_goto X 84 dTe_adopt_34 (by decide) ?_
      exact g_vret X E dTe_adopt_84
    · refine g_iload_n X dTe_adopt_37 rfl ?_
      refine g_iconst X 2 dTe_adopt_38 (by decide) ?_
      refine g_cne X (tgt := 56) dTe_adopt_39 (by decide) ?_ ?_
      · refine g_aload_n X dTe_adopt_42 rfl ?_
        refine g_getR X fl_Te_27 fb_8_2 h0 dTe_adopt_43 ?_
        refine g_aload_n X dTe_adopt_46 rfl ?_
        refine g_getR X fl_Te_27 fb_8_2 h2 dTe_adopt_47 ?_
        refine g_virtV X [.ref (C.w.ad (hz_rf o2 2))] [] (sk_8_2 h0) mm_Ta_become mv_Ta_become ml_Te_55 (okTa_become (hz_rf o0 2) (hz_rf o2 2) s0 (sk_8_2 h0) (sk_8_2 h2) C.l C.w) rfl (by decide) rfl (Nat.le_of_ble_eq_true rfl) dTe_adopt_50 (fun s3 => ?_)
        refine g_goto X 84 dTe_adopt_53 (by decide) ?_
        exact g_vret X E dTe_adopt_84
      · refine g_iload_n X dTe_adopt_56 rfl ?_
        refine g_iconst X 3 dTe_adopt_57 (by decide) ?_
        refine g_cne X (tgt := 84) dTe_adopt_58 (by decide) ?_ ?_
        · refine g_aload_n X dTe_adopt_61 rfl ?_
          refine g_getR X fl_Te_30 fb_8_3 h2 dTe_adopt_62 ?_
          refine g_iconst X 0 dTe_adopt_65 (by decide) ?_
          refine g_aload_n X dTe_adopt_66 rfl ?_
          refine g_getR X fl_Te_30 fb_8_3 h0 dTe_adopt_67 ?_
          refine g_iconst X 0 dTe_adopt_70 (by decide) ?_
          refine g_bipush X 20 dTe_adopt_71 (by decide) ?_
          refine g_acopy X (sk_8_3 h2) (sl_8_3 h2) (sk_8_3 h0) (sl_8_3 h0) ml_Te_58 dTe_adopt_73 (by decide) (Nat.le_of_ble_eq_true rfl) (fun s1 => ?_)
          refine g_aload_n X dTe_adopt_76 rfl ?_
          refine g_aload_n X dTe_adopt_77 rfl ?_
          refine g_getI X fl_Te_47 fb_8_4 h2 dTe_adopt_78 ?_
          refine g_putI X fl_Te_47 fb_8_4 fp_8_4 h0 dTe_adopt_81 (fun s2 => ?_)
          exact g_vret X E dTe_adopt_84
        · exact g_vret X E dTe_adopt_84
def yTe_become : MethodName := ⟨"LastWordHill$Texts", "become", "(LLastWordHill$Texts;)V"⟩
abbrev cTe_become : ByteArray := prog_10_method_4_code
theorem dTe_become_0 : decode cTe_become 0 = .ok (.iconst 0, 1) := by decide +kernel
theorem dTe_become_1 : decode cTe_become 1 = .ok (.istore_n 2, 1) := by decide +kernel
theorem dTe_become_2 : decode cTe_become 2 = .ok (.iload_n 2, 1) := by decide +kernel
theorem dTe_become_3 : decode cTe_become 3 = .ok (.iconst 3, 1) := by decide +kernel
theorem dTe_become_4 : decode cTe_become 4 = .ok (.if_icmp .gt 15, 3) := by decide +kernel
theorem dTe_become_19 : decode cTe_become 19 = .ok (.return_, 1) := by decide +kernel
theorem dTe_become_7 : decode cTe_become 7 = .ok (.aload_n 0, 1) := by decide +kernel
theorem dTe_become_8 : decode cTe_become 8 = .ok (.iload_n 2, 1) := by decide +kernel
theorem dTe_become_9 : decode cTe_become 9 = .ok (.aload_n 1, 1) := by decide +kernel
theorem dTe_become_10 : decode cTe_become 10 = .ok (.invokevirtual 64, 3) := by decide +kernel
theorem mm_Te_adopt : MMc yTe_adopt cTe_adopt 3 none 2 := ⟨hz_in 1072 (by decide +kernel) (by decide +kernel), hz_in 137 (by decide +kernel) (by decide +kernel), by decide +kernel, by decide⟩
theorem mv_Te_adopt : MMv yTe_adopt 8 := ⟨hz_in 1070 (by decide +kernel) (by decide +kernel), hz_in 1071 (by decide +kernel) (by decide +kernel), _, _, rfl, by decide⟩
theorem ml_Te_64 : Cond.methodLink "LastWordHill$Texts" 64 yTe_adopt ∈ hz_wt := hz_in 1387 (by decide +kernel) (by decide +kernel)
theorem dTe_become_13 : decode cTe_become 13 = .ok (.iinc 2 1, 3) := by decide +kernel
theorem dTe_become_16 : decode cTe_become 16 = .ok (.goto (-14), 3) := by decide +kernel
def fTe_become (o0 : Nat) (o1 : Nat) (s0 : Sg) : Option (Sg) := lp FU (fun q2 (u2 : Int32) (s1 : Sg) => if 3 < u2 then (some s1) else (bv (fTe_adopt o0 u2 o1 s1) fun s2 => q2 (u2 + 1) s2)) 0 s0
set_option maxHeartbeats 4000000 in
set_option maxRecDepth 100000 in
theorem okTe_become (o0 : Nat) (o1 : Nat) (s0 : Sg) (h0 : hz_kd o0 = 8) (h1 : hz_kd o1 = 8) : ∀ (l : Launch) (w : WC), Ok l w yTe_become cTe_become 3 none 5 evV [.ref (w.ad o0), .ref (w.ad o1)] s0 (fTe_become o0 o1 s0) := by
  refine ok_in (ev := fun _ => evV) (av := fun w => [.ref (w.ad o0), .ref (w.ad o1)]) "LastWordHill$Texts" rfl (by decide +kernel) (fun _ => rfl) (fun _ => Nat.le_of_ble_eq_true rfl) ?_
  intro C X E
  show GF C evV 0 [some (.ref (C.w.ad o0)), some (.ref (C.w.ad o1)), none] [] s0 (fTe_become o0 o1 s0)
  unfold fTe_become
  refine g_iconst X 0 dTe_become_0 (by decide) ?_
  refine g_istore_n X [some (.ref (C.w.ad o0)), some (.ref (C.w.ad o1)), some (.int 0)] dTe_become_1 (by decide) (Nat.le_of_ble_eq_true rfl) rfl ?_
  refine gf_sub (L' := [some (.ref (C.w.ad o0)), some (.ref (C.w.ad o1)), some (.int 0)]) ?_ (by simp [lsub])
  refine gf_lp (Lf := fun (u2 : Int32) => [some (.ref (C.w.ad o0)), some (.ref (C.w.ad o1)), some (.int u2)]) (fun q2 hq2 u2 s1 => ?_) FU 0 s0
  refine g_iload_n X dTe_become_2 rfl ?_
  refine g_iconst X 3 dTe_become_3 (by decide) ?_
  refine g_cgt X (tgt := 19) dTe_become_4 (by decide) ?_ ?_
  · exact g_vret X E dTe_become_19
  · refine g_aload_n X dTe_become_7 rfl ?_
    refine g_iload_n X dTe_become_8 rfl ?_
    refine g_aload_n X dTe_become_9 rfl ?_
    refine g_virtV X [.int u2, .ref (C.w.ad o1)] [] h0 mm_Te_adopt mv_Te_adopt ml_Te_64 (okTe_adopt o0 u2 o1 s1 h0 h1 C.l C.w) rfl (by decide) rfl (Nat.le_of_ble_eq_true rfl) dTe_become_10 (fun s2 => ?_)
    refine g_iinc X (u2 + 1) [some (.ref (C.w.ad o0)), some (.ref (C.w.ad o1)), some (.int (u2 + 1))] dTe_become_13 rfl rfl (by decide) rfl ?_
    refine g_goto X 2 dTe_become_16 (by decide) ?_
    exact gf_sub (hq2 (u2 + 1) s2) (by simp [lsub])
def yTo_behindLetters : MethodName := ⟨"LastWordHill$Tokens", "behindLetters", "(I)I"⟩
abbrev cTo_behindLetters : ByteArray := prog_11_method_7_code
theorem dTo_behindLetters_0 : decode cTo_behindLetters 0 = .ok (.iload_n 1, 1) := by decide +kernel
theorem dTo_behindLetters_1 : decode cTo_behindLetters 1 = .ok (.iconst 1, 1) := by decide +kernel
theorem dTo_behindLetters_2 : decode cTo_behindLetters 2 = .ok (.iadd, 1) := by decide +kernel
theorem dTo_behindLetters_3 : decode cTo_behindLetters 3 = .ok (.istore_n 2, 1) := by decide +kernel
theorem dTo_behindLetters_4 : decode cTo_behindLetters 4 = .ok (.iload_n 2, 1) := by decide +kernel
theorem dTo_behindLetters_5 : decode cTo_behindLetters 5 = .ok (.aload_n 0, 1) := by decide +kernel
theorem dTo_behindLetters_6 : decode cTo_behindLetters 6 = .ok (.getfield 28, 3) := by decide +kernel
theorem dTo_behindLetters_9 : decode cTo_behindLetters 9 = .ok (.if_icmp .ge 20, 3) := by decide +kernel
theorem dTo_behindLetters_29 : decode cTo_behindLetters 29 = .ok (.iload_n 2, 1) := by decide +kernel
theorem dTo_behindLetters_30 : decode cTo_behindLetters 30 = .ok (.ireturn, 1) := by decide +kernel
theorem dTo_behindLetters_12 : decode cTo_behindLetters 12 = .ok (.aload_n 0, 1) := by decide +kernel
theorem dTo_behindLetters_13 : decode cTo_behindLetters 13 = .ok (.iload_n 2, 1) := by decide +kernel
theorem dTo_behindLetters_14 : decode cTo_behindLetters 14 = .ok (.invokevirtual 35, 3) := by decide +kernel
theorem dTo_behindLetters_17 : decode cTo_behindLetters 17 = .ok (.invokestatic 39, 3) := by decide +kernel
theorem mm_To_isLetter : MMc yTo_isLetter cTo_isLetter 1 (some .boolean) 1 := ⟨hz_in 839 (by decide +kernel) (by decide +kernel), hz_in 142 (by decide +kernel) (by decide +kernel), by decide +kernel, by decide⟩
theorem ms_To_isLetter : Cond.static yTo_isLetter ∈ hz_wt := hz_in 838 (by decide +kernel) (by decide +kernel)
theorem ml_To_39 : Cond.methodLink "LastWordHill$Tokens" 39 yTo_isLetter ∈ hz_wt := hz_in 837 (by decide +kernel) (by decide +kernel)
theorem dTo_behindLetters_20 : decode cTo_behindLetters 20 = .ok (.ifCond .eq 9, 3) := by decide +kernel
theorem dTo_behindLetters_23 : decode cTo_behindLetters 23 = .ok (.iinc 2 1, 3) := by decide +kernel
theorem dTo_behindLetters_26 : decode cTo_behindLetters 26 = .ok (.goto (-22), 3) := by decide +kernel
def fTo_behindLetters (v1 : Int32) (s0 : Sg) : Option (Int32 × Sg) := lp FU (fun q4 (u4 : Int32) (s1 : Sg) => if (s1 31 4) ≤ u4 then (some (u4, s1)) else (bi (fTo_signAt u4 s1) fun r3 s2 => bi (fTo_isLetter r3 s2) fun r5 s4 => if r5 = 0 then (some (u4, s4)) else (q4 (u4 + 1) s4))) (v1 + 1) s0
set_option maxHeartbeats 4000000 in
set_option maxRecDepth 100000 in
theorem okTo_behindLetters (v1 : Int32) (s0 : Sg) : ∀ (l : Launch) (w : WC), Ok l w yTo_behindLetters cTo_behindLetters 3 (some .int) 3 evI [.ref (w.ad 31), .int v1] s0 (fTo_behindLetters v1 s0) := by
  refine ok_in (ev := fun _ => evI) (av := fun w => [.ref (w.ad 31), .int v1]) "LastWordHill$Tokens" rfl (by decide +kernel) (fun _ => rfl) (fun _ => Nat.le_of_ble_eq_true rfl) ?_
  intro C X E
  show GF C evI 0 [some (.ref (C.w.ad 31)), some (.int v1), none] [] s0 (fTo_behindLetters v1 s0)
  unfold fTo_behindLetters
  refine g_iload_n X dTo_behindLetters_0 rfl ?_
  refine g_iconst X 1 dTo_behindLetters_1 (by decide) ?_
  refine g_iadd X dTo_behindLetters_2 ?_
  refine g_istore_n X [some (.ref (C.w.ad 31)), some (.int v1), some (.int (v1 + 1))] dTo_behindLetters_3 (by decide) (Nat.le_of_ble_eq_true rfl) rfl ?_
  refine gf_sub (L' := [some (.ref (C.w.ad 31)), none, some (.int (v1 + 1))]) ?_ (by simp [lsub])
  refine gf_lp (Lf := fun (u4 : Int32) => [some (.ref (C.w.ad 31)), none, some (.int u4)]) (fun q4 hq4 u4 s1 => ?_) FU (v1 + 1) s0
  refine g_iload_n X dTo_behindLetters_4 rfl ?_
  refine g_aload_n X dTo_behindLetters_5 rfl ?_
  refine g_getI X fl_To_28 fb_9_4 k_31 dTo_behindLetters_6 ?_
  refine g_cge X (tgt := 29) dTo_behindLetters_9 (by decide) ?_ ?_
  · refine g_iload_n X dTo_behindLetters_29 rfl ?_
    exact g_iret X E dTo_behindLetters_30
  · refine g_aload_n X dTo_behindLetters_12 rfl ?_
    refine g_iload_n X dTo_behindLetters_13 rfl ?_
    refine g_virtI X [.int u4] [] k_31 mm_To_signAt mv_To_signAt ml_To_35 (okTo_signAt u4 s1 C.l C.w) rfl (by decide) rfl (Nat.le_of_ble_eq_true rfl) dTo_behindLetters_14 (fun r3 s2 => ?_)
    refine g_statI X [.int r3] [] mm_To_isLetter ms_To_isLetter ml_To_39 (okTo_isLetter r3 s2 C.l C.w) rfl (by decide) rfl (Nat.le_of_ble_eq_true rfl) dTo_behindLetters_17 (fun r5 s4 => ?_)
    refine g_zeq X (tgt := 29) dTo_behindLetters_20 (by decide) ?_ ?_
    · refine g_iload_n X dTo_behindLetters_29 rfl ?_
      exact g_iret X E dTo_behindLetters_30
    · refine g_iinc X (u4 + 1) [some (.ref (C.w.ad 31)), none, some (.int (u4 + 1))] dTo_behindLetters_23 rfl rfl (by decide) rfl ?_
      refine g_goto X 4 dTo_behindLetters_26 (by decide) ?_
      exact gf_sub (hq4 (u4 + 1) s4) (by simp [lsub])
def yTo_behindDigits : MethodName := ⟨"LastWordHill$Tokens", "behindDigits", "(I)I"⟩
abbrev cTo_behindDigits : ByteArray := prog_11_method_8_code
theorem dTo_behindDigits_0 : decode cTo_behindDigits 0 = .ok (.iload_n 1, 1) := by decide +kernel
theorem dTo_behindDigits_1 : decode cTo_behindDigits 1 = .ok (.iconst 1, 1) := by decide +kernel
theorem dTo_behindDigits_2 : decode cTo_behindDigits 2 = .ok (.iadd, 1) := by decide +kernel
theorem dTo_behindDigits_3 : decode cTo_behindDigits 3 = .ok (.istore_n 2, 1) := by decide +kernel
theorem dTo_behindDigits_4 : decode cTo_behindDigits 4 = .ok (.iload_n 2, 1) := by decide +kernel
theorem dTo_behindDigits_5 : decode cTo_behindDigits 5 = .ok (.aload_n 0, 1) := by decide +kernel
theorem dTo_behindDigits_6 : decode cTo_behindDigits 6 = .ok (.getfield 28, 3) := by decide +kernel
theorem dTo_behindDigits_9 : decode cTo_behindDigits 9 = .ok (.if_icmp .ge 20, 3) := by decide +kernel
theorem dTo_behindDigits_29 : decode cTo_behindDigits 29 = .ok (.iload_n 2, 1) := by decide +kernel
theorem dTo_behindDigits_30 : decode cTo_behindDigits 30 = .ok (.ireturn, 1) := by decide +kernel
theorem dTo_behindDigits_12 : decode cTo_behindDigits 12 = .ok (.aload_n 0, 1) := by decide +kernel
theorem dTo_behindDigits_13 : decode cTo_behindDigits 13 = .ok (.iload_n 2, 1) := by decide +kernel
theorem dTo_behindDigits_14 : decode cTo_behindDigits 14 = .ok (.invokevirtual 35, 3) := by decide +kernel
theorem dTo_behindDigits_17 : decode cTo_behindDigits 17 = .ok (.invokestatic 54, 3) := by decide +kernel
theorem mm_To_isDigit : MMc yTo_isDigit cTo_isDigit 1 (some .boolean) 1 := ⟨hz_in 907 (by decide +kernel) (by decide +kernel), hz_in 142 (by decide +kernel) (by decide +kernel), by decide +kernel, by decide⟩
theorem ms_To_isDigit : Cond.static yTo_isDigit ∈ hz_wt := hz_in 906 (by decide +kernel) (by decide +kernel)
theorem ml_To_54 : Cond.methodLink "LastWordHill$Tokens" 54 yTo_isDigit ∈ hz_wt := hz_in 905 (by decide +kernel) (by decide +kernel)
theorem dTo_behindDigits_20 : decode cTo_behindDigits 20 = .ok (.ifCond .eq 9, 3) := by decide +kernel
theorem dTo_behindDigits_23 : decode cTo_behindDigits 23 = .ok (.iinc 2 1, 3) := by decide +kernel
theorem dTo_behindDigits_26 : decode cTo_behindDigits 26 = .ok (.goto (-22), 3) := by decide +kernel
def fTo_behindDigits (v1 : Int32) (s0 : Sg) : Option (Int32 × Sg) := lp FU (fun q4 (u4 : Int32) (s1 : Sg) => if (s1 31 4) ≤ u4 then (some (u4, s1)) else (bi (fTo_signAt u4 s1) fun r3 s2 => bi (fTo_isDigit r3 s2) fun r5 s4 => if r5 = 0 then (some (u4, s4)) else (q4 (u4 + 1) s4))) (v1 + 1) s0
set_option maxHeartbeats 4000000 in
set_option maxRecDepth 100000 in
theorem okTo_behindDigits (v1 : Int32) (s0 : Sg) : ∀ (l : Launch) (w : WC), Ok l w yTo_behindDigits cTo_behindDigits 3 (some .int) 3 evI [.ref (w.ad 31), .int v1] s0 (fTo_behindDigits v1 s0) := by
  refine ok_in (ev := fun _ => evI) (av := fun w => [.ref (w.ad 31), .int v1]) "LastWordHill$Tokens" rfl (by decide +kernel) (fun _ => rfl) (fun _ => Nat.le_of_ble_eq_true rfl) ?_
  intro C X E
  show GF C evI 0 [some (.ref (C.w.ad 31)), some (.int v1), none] [] s0 (fTo_behindDigits v1 s0)
  unfold fTo_behindDigits
  refine g_iload_n X dTo_behindDigits_0 rfl ?_
  refine g_iconst X 1 dTo_behindDigits_1 (by decide) ?_
  refine g_iadd X dTo_behindDigits_2 ?_
  refine g_istore_n X [some (.ref (C.w.ad 31)), some (.int v1), some (.int (v1 + 1))] dTo_behindDigits_3 (by decide) (Nat.le_of_ble_eq_true rfl) rfl ?_
  refine gf_sub (L' := [some (.ref (C.w.ad 31)), none, some (.int (v1 + 1))]) ?_ (by simp [lsub])
  refine gf_lp (Lf := fun (u4 : Int32) => [some (.ref (C.w.ad 31)), none, some (.int u4)]) (fun q4 hq4 u4 s1 => ?_) FU (v1 + 1) s0
  refine g_iload_n X dTo_behindDigits_4 rfl ?_
  refine g_aload_n X dTo_behindDigits_5 rfl ?_
  refine g_getI X fl_To_28 fb_9_4 k_31 dTo_behindDigits_6 ?_
  refine g_cge X (tgt := 29) dTo_behindDigits_9 (by decide) ?_ ?_
  · refine g_iload_n X dTo_behindDigits_29 rfl ?_
    exact g_iret X E dTo_behindDigits_30
  · refine g_aload_n X dTo_behindDigits_12 rfl ?_
    refine g_iload_n X dTo_behindDigits_13 rfl ?_
    refine g_virtI X [.int u4] [] k_31 mm_To_signAt mv_To_signAt ml_To_35 (okTo_signAt u4 s1 C.l C.w) rfl (by decide) rfl (Nat.le_of_ble_eq_true rfl) dTo_behindDigits_14 (fun r3 s2 => ?_)
    refine g_statI X [.int r3] [] mm_To_isDigit ms_To_isDigit ml_To_54 (okTo_isDigit r3 s2 C.l C.w) rfl (by decide) rfl (Nat.le_of_ble_eq_true rfl) dTo_behindDigits_17 (fun r5 s4 => ?_)
    refine g_zeq X (tgt := 29) dTo_behindDigits_20 (by decide) ?_ ?_
    · refine g_iload_n X dTo_behindDigits_29 rfl ?_
      exact g_iret X E dTo_behindDigits_30
    · refine g_iinc X (u4 + 1) [some (.ref (C.w.ad 31)), none, some (.int (u4 + 1))] dTo_behindDigits_23 rfl rfl (by decide) rfl ?_
      refine g_goto X 4 dTo_behindDigits_26 (by decide) ?_
      exact gf_sub (hq4 (u4 + 1) s4) (by simp [lsub])
