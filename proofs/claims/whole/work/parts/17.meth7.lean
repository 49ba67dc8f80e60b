def yM_game : MethodName := ⟨"LastWordHillModel", "game", "(I)I"⟩
abbrev cM_game : ByteArray := prog_14_method_117_code
theorem dM_game_0 : decode cM_game 0 = .ok (.aload_n 0, 1) := by decide +kernel
theorem dM_game_1 : decode cM_game 1 = .ok (.iconst 0, 1) := by decide +kernel
theorem dM_game_2 : decode cM_game 2 = .ok (.putfield 134, 3) := by decide +kernel
theorem dM_game_5 : decode cM_game 5 = .ok (.aload_n 0, 1) := by decide +kernel
theorem dM_game_6 : decode cM_game 6 = .ok (.iload_n 1, 1) := by decide +kernel
theorem dM_game_7 : decode cM_game 7 = .ok (.iconst 0, 1) := by decide +kernel
theorem dM_game_8 : decode cM_game 8 = .ok (.iconst 1, 1) := by decide +kernel
theorem dM_game_9 : decode cM_game 9 = .ok (.invokevirtual 153, 3) := by decide +kernel
theorem dM_game_12 : decode cM_game 12 = .ok (.ifCond .ne 5, 3) := by decide +kernel
theorem dM_game_17 : decode cM_game 17 = .ok (.aload_n 0, 1) := by decide +kernel
theorem dM_game_18 : decode cM_game 18 = .ok (.invokevirtual 465, 3) := by decide +kernel
theorem mm_M_findsNimbers : MMc yM_findsNimbers cM_findsNimbers 4 none 0 := ⟨hz_in 2085 (by decide +kernel) (by decide +kernel), hz_in 147 (by decide +kernel) (by decide +kernel), by decide +kernel, by decide⟩
theorem mv_M_findsNimbers : MMv yM_findsNimbers 12 := ⟨hz_in 2084 (by decide +kernel) (by decide +kernel), hz_in 128 (by decide +kernel) (by decide +kernel), _, _, rfl, by decide⟩
theorem ml_M_465 : Cond.methodLink "LastWordHillModel" 465 yM_findsNimbers ∈ hz_wt := hz_in 2082 (by decide +kernel) (by decide +kernel)
theorem dM_game_21 : decode cM_game 21 = .ok (.iconst 0, 1) := by decide +kernel
theorem dM_game_22 : decode cM_game 22 = .ok (.istore_n 2, 1) := by decide +kernel
theorem dM_game_23 : decode cM_game 23 = .ok (.iconst 0, 1) := by decide +kernel
theorem dM_game_24 : decode cM_game 24 = .ok (.istore_n 3, 1) := by decide +kernel
theorem dM_game_25 : decode cM_game 25 = .ok (.iload_n 3, 1) := by decide +kernel
theorem dM_game_26 : decode cM_game 26 = .ok (.aload_n 0, 1) := by decide +kernel
theorem dM_game_27 : decode cM_game 27 = .ok (.getfield 146, 3) := by decide +kernel
theorem dM_game_30 : decode cM_game 30 = .ok (.if_icmp .ge 22, 3) := by decide +kernel
theorem dM_game_52 : decode cM_game 52 = .ok (.iconst 0, 1) := by decide +kernel
theorem dM_game_53 : decode cM_game 53 = .ok (.istore_n 3, 1) := by decide +kernel
theorem dM_game_54 : decode cM_game 54 = .ok (.iload_n 3, 1) := by decide +kernel
theorem dM_game_55 : decode cM_game 55 = .ok (.aload_n 0, 1) := by decide +kernel
theorem dM_game_56 : decode cM_game 56 = .ok (.getfield 146, 3) := by decide +kernel
theorem dM_game_59 : decode cM_game 59 = .ok (.if_icmp .ge 78, 3) := by decide +kernel
theorem dM_game_137 : decode cM_game 137 = .ok (.iconst (-1), 1) := by decide +kernel
theorem dM_game_138 : decode cM_game 138 = .ok (.ireturn, 1) := by decide +kernel
theorem dM_game_62 : decode cM_game 62 = .ok (.aload_n 0, 1) := by decide +kernel
theorem dM_game_63 : decode cM_game 63 = .ok (.iload_n 3, 1) := by decide +kernel
theorem dM_game_64 : decode cM_game 64 = .ok (.invokevirtual 323, 3) := by decide +kernel
theorem dM_game_67 : decode cM_game 67 = .ok (.istore 4, 2) := by decide +kernel
theorem dM_game_69 : decode cM_game 69 = .ok (.iload_n 2, 1) := by decide +kernel
theorem dM_game_70 : decode cM_game 70 = .ok (.aload_n 0, 1) := by decide +kernel
theorem dM_game_71 : decode cM_game 71 = .ok (.getfield 128, 3) := by decide +kernel
theorem dM_game_74 : decode cM_game 74 = .ok (.iload 4, 2) := by decide +kernel
theorem dM_game_76 : decode cM_game 76 = .ok (.iaload, 1) := by decide +kernel
theorem dM_game_77 : decode cM_game 77 = .ok (.ixor, 1) := by decide +kernel
theorem dM_game_78 : decode cM_game 78 = .ok (.istore 5, 2) := by decide +kernel
theorem dM_game_80 : decode cM_game 80 = .ok (.iconst 1, 1) := by decide +kernel
theorem dM_game_81 : decode cM_game 81 = .ok (.istore 6, 2) := by decide +kernel
theorem dM_game_83 : decode cM_game 83 = .ok (.iload 6, 2) := by decide +kernel
theorem dM_game_85 : decode cM_game 85 = .ok (.iload 6, 2) := by decide +kernel
theorem dM_game_87 : decode cM_game 87 = .ok (.imul, 1) := by decide +kernel
theorem dM_game_88 : decode cM_game 88 = .ok (.iload 4, 2) := by decide +kernel
theorem dM_game_90 : decode cM_game 90 = .ok (.if_icmp .gt 41, 3) := by decide +kernel
theorem dM_game_131 : decode cM_game 131 = .ok (.iinc 3 1, 3) := by decide +kernel
theorem dM_game_134 : decode cM_game 134 = .ok (.goto (-80), 3) := by decide +kernel
theorem dM_game_93 : decode cM_game 93 = .ok (.aload_n 0, 1) := by decide +kernel
theorem dM_game_94 : decode cM_game 94 = .ok (.getfield 128, 3) := by decide +kernel
theorem dM_game_97 : decode cM_game 97 = .ok (.iload 4, 2) := by decide +kernel
theorem dM_game_99 : decode cM_game 99 = .ok (.iload 6, 2) := by decide +kernel
theorem dM_game_101 : decode cM_game 101 = .ok (.iload 6, 2) := by decide +kernel
theorem dM_game_103 : decode cM_game 103 = .ok (.imul, 1) := by decide +kernel
theorem dM_game_104 : decode cM_game 104 = .ok (.isub, 1) := by decide +kernel
theorem dM_game_105 : decode cM_game 105 = .ok (.iaload, 1) := by decide +kernel
theorem dM_game_106 : decode cM_game 106 = .ok (.iload 5, 2) := by decide +kernel
theorem dM_game_108 : decode cM_game 108 = .ok (.if_icmp .ne 17, 3) := by decide +kernel
theorem dM_game_125 : decode cM_game 125 = .ok (.iinc 6 1, 3) := by decide +kernel
theorem dM_game_128 : decode cM_game 128 = .ok (.goto (-45), 3) := by decide +kernel
theorem dM_game_111 : decode cM_game 111 = .ok (.iload_n 1, 1) := by decide +kernel
theorem dM_game_112 : decode cM_game 112 = .ok (.ifCond .ne 7, 3) := by decide +kernel
theorem dM_game_119 : decode cM_game 119 = .ok (.iload 6, 2) := by decide +kernel
theorem dM_game_121 : decode cM_game 121 = .ok (.iload 6, 2) := by decide +kernel
theorem dM_game_123 : decode cM_game 123 = .ok (.imul, 1) := by decide +kernel
theorem dM_game_124 : decode cM_game 124 = .ok (.ireturn, 1) := by decide +kernel
theorem dM_game_115 : decode cM_game 115 = .ok (.iload_n 3, 1) := by decide +kernel
theorem dM_game_116 : decode cM_game 116 = .ok (.goto 8, 3) := by decide +kernel
theorem dM_game_33 : decode cM_game 33 = .ok (.iload_n 2, 1) := by decide +kernel
theorem dM_game_34 : decode cM_game 34 = .ok (.aload_n 0, 1) := by decide +kernel
theorem dM_game_35 : decode cM_game 35 = .ok (.getfield 128, 3) := by decide +kernel
theorem dM_game_38 : decode cM_game 38 = .ok (.aload_n 0, 1) := by decide +kernel
theorem dM_game_39 : decode cM_game 39 = .ok (.iload_n 3, 1) := by decide +kernel
theorem dM_game_40 : decode cM_game 40 = .ok (.invokevirtual 323, 3) := by decide +kernel
theorem dM_game_43 : decode cM_game 43 = .ok (.iaload, 1) := by decide +kernel
theorem dM_game_44 : decode cM_game 44 = .ok (.ixor, 1) := by decide +kernel
theorem dM_game_45 : decode cM_game 45 = .ok (.istore_n 2, 1) := by decide +kernel
theorem dM_game_46 : decode cM_game 46 = .ok (.iinc 3 1, 3) := by decide +kernel
theorem dM_game_49 : decode cM_game 49 = .ok (.goto (-24), 3) := by decide +kernel
theorem dM_game_15 : decode cM_game 15 = .ok (.iconst (-1), 1) := by decide +kernel
theorem dM_game_16 : decode cM_game 16 = .ok (.ireturn, 1) := by decide +kernel
def fM_game (v1 : Int32) (s0 : Sg) : Option (Int32 × Sg) := bnd (pt s0 102 0 0) fun s1 => bi (fM_isIn v1 0 1 s1) fun r3 s2 => if r3 = 0 then (some ((-1), s2)) else (bv (fM_findsNimbers s2) fun s4 => lp FU (fun q25 (u25 : Int32 × Int32) (s5 : Sg) => if (s5 102 6) ≤ u25.2 then (lp FU (fun q54 (u54 : Int32) (s6 : Sg) => if (s6 102 6) ≤ u54 then (some ((-1), s6)) else (bi (fM_breathOf u54 s6) fun r8 s7 => gd r8 100 (bnd (u25.1 ^^^ (s7 140 (ix r8))) fun x9 => lp FU (fun q83 (u83 : Int32) (s10 : Sg) => if r8 < (u83 * u83) then (q54 (u54 + 1) s10) else (gd (r8 - (u83 * u83)) 100 (if (s10 140 (ix (r8 - (u83 * u83)))) = x9 then (if v1 = 0 then (some (u54, s10)) else (some ((u83 * u83), s10))) else (q83 (u83 + 1) s10)))) 1 s7))) 0 s5) else (bi (fM_breathOf u25.2 s5) fun r12 s11 => gd r12 100 (bnd (u25.1 ^^^ (s11 140 (ix r12))) fun x13 => q25 (x13, (u25.2 + 1)) s11))) (0, 0) s4)
set_option maxHeartbeats 4000000 in
set_option maxRecDepth 100000 in
theorem okM_game (v1 : Int32) (s0 : Sg) : ∀ (l : Launch) (w : WC), Ok l w yM_game cM_game 7 (some .int) 3 evI [.ref (w.ad 102), .int v1] s0 (fM_game v1 s0) := by
  refine ok_in (ev := fun _ => evI) (av := fun w => [.ref (w.ad 102), .int v1]) "LastWordHillModel" rfl (by decide +kernel) (fun _ => rfl) (fun _ => Nat.le_of_ble_eq_true rfl) ?_
  intro C X E
  show GF C evI 0 [some (.ref (C.w.ad 102)), some (.int v1), none, none, none, none, none] [] s0 (fM_game v1 s0)
  unfold fM_game
  refine g_aload_n X dM_game_0 rfl ?_
  refine g_iconst X 0 dM_game_1 (by decide) ?_
  refine g_putI X fl_M_134 fb_12_0 fp_12_0 k_102 dM_game_2 (fun s1 => ?_)
  refine g_aload_n X dM_game_5 rfl ?_
  refine g_iload_n X dM_game_6 rfl ?_
  refine g_iconst X 0 dM_game_7 (by decide) ?_
  refine g_iconst X 1 dM_game_8 (by decide) ?_
  refine g_virtI X [.int v1, .int 0, .int 1] [] k_102 mm_M_isIn mv_M_isIn ml_M_153 (okM_isIn v1 0 1 s1 C.l C.w) rfl (by decide) rfl (Nat.le_of_ble_eq_true rfl) dM_game_9 (fun r3 s2 => ?_)
  refine g_zne X (tgt := 17) dM_game_12 (by decide) ?_ ?_
  · refine g_iconst X (-1) dM_game_15 (by decide) ?_
    exact g_iret X E dM_game_16
  · refine g_aload_n X dM_game_17 rfl ?_
    refine g_virtV X [] [] k_102 mm_M_findsNimbers mv_M_findsNimbers ml_M_465 (okM_findsNimbers s2 C.l C.w) rfl (by decide) rfl (Nat.le_of_ble_eq_true rfl) dM_game_18 (fun s4 => ?_)
    refine g_iconst X 0 dM_game_21 (by decide) ?_
    refine g_istore_n X [some (.ref (C.w.ad 102)), some (.int v1), some (.int 0), none, none, none, none] dM_game_22 (by decide) (Nat.le_of_ble_eq_true rfl) rfl ?_
    refine g_iconst X 0 dM_game_23 (by decide) ?_
    refine g_istore_n X [some (.ref (C.w.ad 102)), some (.int v1), some (.int 0), some (.int 0), none, none, none] dM_game_24 (by decide) (Nat.le_of_ble_eq_true rfl) rfl ?_
    refine gf_sub (L' := [some (.ref (C.w.ad 102)), some (.int v1), some (.int 0), some (.int 0), none, none, none]) ?_ (by simp [lsub])
    refine gf_lp (Lf := fun (u25 : Int32 × Int32) => [some (.ref (C.w.ad 102)), some (.int v1), some (.int u25.1), some (.int u25.2), none, none, none]) (fun q25 hq25 u25 s5 => ?_) FU (0, 0) s4
    refine g_iload_n X dM_game_25 rfl ?_
    refine g_aload_n X dM_game_26 rfl ?_
    refine g_getI X fl_M_146 fb_12_6 k_102 dM_game_27 ?_
    refine g_cge X (tgt := 52) dM_game_30 (by decide) ?_ ?_
    · refine g_iconst X 0 dM_game_52 (by decide) ?_
      refine g_istore_n X [some (.ref (C.w.ad 102)), some (.int v1), some (.int u25.1), some (.int 0), none, none, none] dM_game_53 (by decide) (Nat.le_of_ble_eq_true rfl) rfl ?_
      refine gf_sub (L' := [some (.ref (C.w.ad 102)), some (.int v1), some (.int u25.1), some (.int 0), none, none, none]) ?_ (by simp [lsub])
      refine gf_lp (Lf := fun (u54 : Int32) => [some (.ref (C.w.ad 102)), some (.int v1), some (.int u25.1), some (.int u54), none, none, none]) (fun q54 hq54 u54 s6 => ?_) FU 0 s5
      refine g_iload_n X dM_game_54 rfl ?_
      refine g_aload_n X dM_game_55 rfl ?_
      refine g_getI X fl_M_146 fb_12_6 k_102 dM_game_56 ?_
      refine g_cge X (tgt := 137) dM_game_59 (by decide) ?_ ?_
      · refine g_iconst X (-1) dM_game_137 (by decide) ?_
        exact g_iret X E dM_game_138
      · refine g_aload_n X dM_game_62 rfl ?_
        refine g_iload_n X dM_game_63 rfl ?_
        refine g_virtI X [.int u54] [] k_102 mm_M_breathOf mv_M_breathOf ml_M_323 (okM_breathOf u54 s6 C.l C.w) rfl (by decide) rfl (Nat.le_of_ble_eq_true rfl) dM_game_64 (fun r8 s7 => ?_)
        refine g_istore X [some (.ref (C.w.ad 102)), some (.int v1), some (.int u25.1), some (.int u54), some (.int r8), none, none] dM_game_67 (by decide) (Nat.le_of_ble_eq_true rfl) rfl ?_
        refine g_iload_n X dM_game_69 rfl ?_
        refine g_aload_n X dM_game_70 rfl ?_
        refine g_getN X fl_M_128 fb_12_65 k_102 r_102_65 dM_game_71 ?_
        refine g_iload X dM_game_74 rfl ?_
        refine g_iald X k_140 ln_140 dM_game_76 ?_
        refine g_ixor X dM_game_77 ?_
        refine gf_nm (fun x9 => ?_)
        refine g_istore X [some (.ref (C.w.ad 102)), some (.int v1), some (.int u25.1), some (.int u54), some (.int r8), some (.int x9), none] dM_game_78 (by decide) (Nat.le_of_ble_eq_true rfl) rfl ?_
        refine g_iconst X 1 dM_game_80 (by decide) ?_
        refine g_istore X [some (.ref (C.w.ad 102)), some (.int v1), some (.int u25.1), some (.int u54), some (.int r8), some (.int x9), some (.int 1)] dM_game_81 (by decide) (Nat.le_of_ble_eq_true rfl) rfl ?_
        refine gf_sub (L' := [some (.ref (C.w.ad 102)), some (.int v1), some (.int u25.1), some (.int u54), some (.int r8), some (.int x9), some (.int 1)]) ?_ (by simp [lsub])
        refine gf_lp (Lf := fun (u83 : Int32) => [some (.ref (C.w.ad 102)), some (.int v1), some (.int u25.1), some (.int u54), some (.int r8), some (.int x9), some (.int u83)]) (fun q83 hq83 u83 s10 => ?_) FU 1 s7
        refine g_iload X dM_game_83 rfl ?_
        refine g_iload X dM_game_85 rfl ?_
        refine g_imul X dM_game_87 ?_
        refine g_iload X dM_game_88 rfl ?_
        refine g_cgt X (tgt := 131) dM_game_90 (by decide) ?_ ?_
        · refine g_iinc X (u54 + 1) [some (.ref (C.w.ad 102)), some (.int v1), some (.int u25.1), some (.int (u54 + 1)), some (.int r8), some (.int x9), some (.int u83)] dM_game_131 rfl rfl (by decide) rfl ?_
          refine g_goto X 54 dM_game_134 (by decide) ?_
          exact gf_sub (hq54 (u54 + 1) s10) (by simp [lsub])
        · refine g_aload_n X dM_game_93 rfl ?_
          refine g_getN X fl_M_128 fb_12_65 k_102 r_102_65 dM_game_94 ?_
          refine g_iload X dM_game_97 rfl ?_
          refine g_iload X dM_game_99 rfl ?_
          refine g_iload X dM_game_101 rfl ?_
          refine g_imul X dM_game_103 ?_
          refine g_isub X dM_game_104 ?_
          refine g_iald X k_140 ln_140 dM_game_105 ?_
          refine g_iload X dM_game_106 rfl ?_
          refine g_cne X (tgt := 125) dM_game_108 (by decide) ?_ ?_
          · refine g_iload_n X dM_game_111 rfl ?_
            refine g_zne X (tgt := 119) dM_game_112 (by decide) ?_ ?_
            · refine g_iload_n X dM_game_115 rfl ?_
              refine g_goto X 124 dM_game_116 (by decide) ?_
              exact g_iret X E dM_game_124
            · refine g_iload X dM_game_119 rfl ?_
              refine g_iload X dM_game_121 rfl ?_
              refine g_imul X dM_game_123 ?_
              exact g_iret X E dM_game_124
          · refine g_iinc X (u83 + 1) [some (.ref (C.w.ad 102)), some (.int v1), some (.int u25.1), some (.int u54), some (.int r8), some (.int x9), some (.int (u83 + 1))] dM_game_125 rfl rfl (by decide) rfl ?_
            refine g_goto X 83 dM_game_128 (by decide) ?_
            exact gf_sub (hq83 (u83 + 1) s10) (by simp [lsub])
    · refine g_iload_n X dM_game_33 rfl ?_
      refine g_aload_n X dM_game_34 rfl ?_
      refine g_getN X fl_M_128 fb_12_65 k_102 r_102_65 dM_game_35 ?_
      refine g_aload_n X dM_game_38 rfl ?_
      refine g_iload_n X dM_game_39 rfl ?_
      refine g_virtI X [.int u25.2] [.ref (C.w.ad 140), .int u25.1] k_102 mm_M_breathOf mv_M_breathOf ml_M_323 (okM_breathOf u25.2 s5 C.l C.w) rfl (by decide) rfl (Nat.le_of_ble_eq_true rfl) dM_game_40 (fun r12 s11 => ?_)
      refine g_iald X k_140 ln_140 dM_game_43 ?_
      refine g_ixor X dM_game_44 ?_
      refine gf_nm (fun x13 => ?_)
      refine g_istore_n X [some (.ref (C.w.ad 102)), some (.int v1), some (.int x13), some (.int u25.2), none, none, none] dM_game_45 (by decide) (Nat.le_of_ble_eq_true rfl) rfl ?_
      refine g_iinc X (u25.2 + 1) [some (.ref (C.w.ad 102)), some (.int v1), some (.int x13), some (.int (u25.2 + 1)), none, none, none] dM_game_46 rfl rfl (by decide) rfl ?_
      refine g_goto X 25 dM_game_49 (by decide) ?_
      exact gf_sub (hq25 (x13, (u25.2 + 1)) s11) (by simp [lsub])
def yM_keptOf : MethodName := ⟨"LastWordHillModel", "keptOf", "(I)I"⟩
abbrev cM_keptOf : ByteArray := prog_14_method_118_code
theorem dM_keptOf_0 : decode cM_keptOf 0 = .ok (.aload_n 0, 1) := by decide +kernel
theorem dM_keptOf_1 : decode cM_keptOf 1 = .ok (.aload_n 0, 1) := by decide +kernel
theorem dM_keptOf_2 : decode cM_keptOf 2 = .ok (.getfield 468, 3) := by decide +kernel
theorem fl_M_468 : FLk "LastWordHillModel" 468 12 68 := ⟨_, _, _, rfl, by decide, hz_in 1480 (by decide +kernel) (by decide +kernel), nL12, by decide, by decide⟩
theorem fb_12_68 : (hz_bs 12)[68]? = some false := by decide
theorem dM_keptOf_5 : decode cM_keptOf 5 = .ok (.iconst 1, 1) := by decide +kernel
theorem dM_keptOf_6 : decode cM_keptOf 6 = .ok (.iadd, 1) := by decide +kernel
theorem dM_keptOf_7 : decode cM_keptOf 7 = .ok (.putfield 468, 3) := by decide +kernel
theorem fp_12_68 : FLp 12 68 .int := ⟨_, _, _, _, rfl, nY12, nN12, by decide, by decide⟩
theorem dM_keptOf_10 : decode cM_keptOf 10 = .ok (.aload_n 0, 1) := by decide +kernel
theorem dM_keptOf_11 : decode cM_keptOf 11 = .ok (.getfield 471, 3) := by decide +kernel
theorem fl_M_471 : FLk "LastWordHillModel" 471 12 66 := ⟨_, _, _, rfl, by decide, hz_in 1478 (by decide +kernel) (by decide +kernel), nL12, by decide, by decide⟩
theorem fb_12_66 : (hz_bs 12)[66]? = some false := by decide
theorem dM_keptOf_14 : decode cM_keptOf 14 = .ok (.ifCond .ne 15, 3) := by decide +kernel
theorem dM_keptOf_29 : decode cM_keptOf 29 = .ok (.aload_n 0, 1) := by decide +kernel
theorem dM_keptOf_30 : decode cM_keptOf 30 = .ok (.getfield 131, 3) := by decide +kernel
theorem fl_M_131 : FLk "LastWordHillModel" 131 12 69 := ⟨_, _, _, rfl, by decide, hz_in 1481 (by decide +kernel) (by decide +kernel), nL12, by decide, by decide⟩
theorem k_141 : hz_kd 141 = 13 := by decide
theorem fb_12_69 : (hz_bs 12)[69]? = some true := by decide
theorem r_102_69 : hz_rf 102 69 = 141 := by decide
theorem dM_keptOf_33 : decode cM_keptOf 33 = .ok (.aload_n 0, 1) := by decide +kernel
theorem dM_keptOf_34 : decode cM_keptOf 34 = .ok (.getfield 468, 3) := by decide +kernel
theorem dM_keptOf_37 : decode cM_keptOf 37 = .ok (.iconst 1, 1) := by decide +kernel
theorem dM_keptOf_38 : decode cM_keptOf 38 = .ok (.isub, 1) := by decide +kernel
theorem dM_keptOf_39 : decode cM_keptOf 39 = .ok (.iload_n 1, 1) := by decide +kernel
theorem dM_keptOf_40 : decode cM_keptOf 40 = .ok (.iastore, 1) := by decide +kernel
theorem ln_141 : hz_ln 141 = 2300 := by decide
theorem dM_keptOf_41 : decode cM_keptOf 41 = .ok (.iload_n 1, 1) := by decide +kernel
theorem dM_keptOf_42 : decode cM_keptOf 42 = .ok (.ireturn, 1) := by decide +kernel
theorem dM_keptOf_17 : decode cM_keptOf 17 = .ok (.aload_n 0, 1) := by decide +kernel
theorem dM_keptOf_18 : decode cM_keptOf 18 = .ok (.getfield 131, 3) := by decide +kernel
theorem dM_keptOf_21 : decode cM_keptOf 21 = .ok (.aload_n 0, 1) := by decide +kernel
theorem dM_keptOf_22 : decode cM_keptOf 22 = .ok (.getfield 468, 3) := by decide +kernel
theorem dM_keptOf_25 : decode cM_keptOf 25 = .ok (.iconst 1, 1) := by decide +kernel
theorem dM_keptOf_26 : decode cM_keptOf 26 = .ok (.isub, 1) := by decide +kernel
theorem dM_keptOf_27 : decode cM_keptOf 27 = .ok (.iaload, 1) := by decide +kernel
theorem dM_keptOf_28 : decode cM_keptOf 28 = .ok (.ireturn, 1) := by decide +kernel
def fM_keptOf (v1 : Int32) (s0 : Sg) : Option (Int32 × Sg) := bnd (pt s0 102 68 ((s0 102 68) + 1)) fun s1 => if (s1 102 66) = 0 then (gd ((s1 102 68) - 1) 2300 (some ((s1 141 (ix ((s1 102 68) - 1))), s1))) else (gd ((s1 102 68) - 1) 2300 (bnd (pt s1 141 (ix ((s1 102 68) - 1)) v1) fun s2 => some (v1, s2)))
set_option maxHeartbeats 4000000 in
set_option maxRecDepth 100000 in
theorem okM_keptOf (v1 : Int32) (s0 : Sg) : ∀ (l : Launch) (w : WC), Ok l w yM_keptOf cM_keptOf 2 (some .int) 1 evI [.ref (w.ad 102), .int v1] s0 (fM_keptOf v1 s0) := by
  refine ok_in (ev := fun _ => evI) (av := fun w => [.ref (w.ad 102), .int v1]) "LastWordHillModel" rfl (by decide +kernel) (fun _ => rfl) (fun _ => Nat.le_of_ble_eq_true rfl) ?_
  intro C X E
  show GF C evI 0 [some (.ref (C.w.ad 102)), some (.int v1)] [] s0 (fM_keptOf v1 s0)
  unfold fM_keptOf
  refine g_aload_n X dM_keptOf_0 rfl ?_
  refine g_aload_n X dM_keptOf_1 rfl ?_
  refine g_getI X fl_M_468 fb_12_68 k_102 dM_keptOf_2 ?_
  refine g_iconst X 1 dM_keptOf_5 (by decide) ?_
  refine g_iadd X dM_keptOf_6 ?_
  refine g_putI X fl_M_468 fb_12_68 fp_12_68 k_102 dM_keptOf_7 (fun s1 => ?_)
  refine g_aload_n X dM_keptOf_10 rfl ?_
  refine g_getI X fl_M_471 fb_12_66 k_102 dM_keptOf_11 ?_
  refine g_zne X (tgt := 29) dM_keptOf_14 (by decide) ?_ ?_
  · refine g_aload_n X dM_keptOf_17 rfl ?_
    refine g_getN X fl_M_131 fb_12_69 k_102 r_102_69 dM_keptOf_18 ?_
    refine g_aload_n X dM_keptOf_21 rfl ?_
    refine g_getI X fl_M_468 fb_12_68 k_102 dM_keptOf_22 ?_
    refine g_iconst X 1 dM_keptOf_25 (by decide) ?_
    refine g_isub X dM_keptOf_26 ?_
    refine g_iald X k_141 ln_141 dM_keptOf_27 ?_
    exact g_iret X E dM_keptOf_28
  · refine g_aload_n X dM_keptOf_29 rfl ?_
    refine g_getN X fl_M_131 fb_12_69 k_102 r_102_69 dM_keptOf_30 ?_
    refine g_aload_n X dM_keptOf_33 rfl ?_
    refine g_getI X fl_M_468 fb_12_68 k_102 dM_keptOf_34 ?_
    refine g_iconst X 1 dM_keptOf_37 (by decide) ?_
    refine g_isub X dM_keptOf_38 ?_
    refine g_iload_n X dM_keptOf_39 rfl ?_
    refine g_iast X k_141 ln_141 dM_keptOf_40 (fun s2 => ?_)
    refine g_iload_n X dM_keptOf_41 rfl ?_
    exact g_iret X E dM_keptOf_42
def yM_keepsLaw : MethodName := ⟨"LastWordHillModel", "keepsLaw", "()V"⟩
abbrev cM_keepsLaw : ByteArray := prog_14_method_119_code
theorem dM_keepsLaw_0 : decode cM_keepsLaw 0 = .ok (.aload_n 0, 1) := by decide +kernel
theorem dM_keepsLaw_1 : decode cM_keepsLaw 1 = .ok (.getfield 37, 3) := by decide +kernel
theorem dM_keepsLaw_4 : decode cM_keepsLaw 4 = .ok (.iconst 0, 1) := by decide +kernel
theorem dM_keepsLaw_5 : decode cM_keepsLaw 5 = .ok (.aload_n 0, 1) := by decide +kernel
theorem dM_keepsLaw_6 : decode cM_keepsLaw 6 = .ok (.aload_n 0, 1) := by decide +kernel
theorem dM_keepsLaw_7 : decode cM_keepsLaw 7 = .ok (.getfield 37, 3) := by decide +kernel
theorem dM_keepsLaw_10 : decode cM_keepsLaw 10 = .ok (.iconst 0, 1) := by decide +kernel
theorem dM_keepsLaw_11 : decode cM_keepsLaw 11 = .ok (.iaload, 1) := by decide +kernel
theorem dM_keepsLaw_12 : decode cM_keepsLaw 12 = .ok (.invokevirtual 474, 3) := by decide +kernel
theorem mm_M_keptOf : MMc yM_keptOf cM_keptOf 2 (some .int) 1 := ⟨hz_in 2093 (by decide +kernel) (by decide +kernel), hz_in 147 (by decide +kernel) (by decide +kernel), by decide +kernel, by decide⟩
theorem mv_M_keptOf : MMv yM_keptOf 12 := ⟨hz_in 2092 (by decide +kernel) (by decide +kernel), hz_in 129 (by decide +kernel) (by decide +kernel), _, _, rfl, by decide⟩
theorem ml_M_474 : Cond.methodLink "LastWordHillModel" 474 yM_keptOf ∈ hz_wt := hz_in 2090 (by decide +kernel) (by decide +kernel)
theorem dM_keepsLaw_15 : decode cM_keepsLaw 15 = .ok (.iastore, 1) := by decide +kernel
theorem dM_keepsLaw_16 : decode cM_keepsLaw 16 = .ok (.iconst 0, 1) := by decide +kernel
theorem dM_keepsLaw_17 : decode cM_keepsLaw 17 = .ok (.istore_n 1, 1) := by decide +kernel
theorem dM_keepsLaw_18 : decode cM_keepsLaw 18 = .ok (.iload_n 1, 1) := by decide +kernel
theorem dM_keepsLaw_19 : decode cM_keepsLaw 19 = .ok (.bipush 16, 2) := by decide +kernel
theorem dM_keepsLaw_21 : decode cM_keepsLaw 21 = .ok (.if_icmp .ge 73, 3) := by decide +kernel
theorem dM_keepsLaw_94 : decode cM_keepsLaw 94 = .ok (.iconst 0, 1) := by decide +kernel
theorem dM_keepsLaw_95 : decode cM_keepsLaw 95 = .ok (.istore_n 1, 1) := by decide +kernel
theorem dM_keepsLaw_96 : decode cM_keepsLaw 96 = .ok (.iload_n 1, 1) := by decide +kernel
theorem dM_keepsLaw_97 : decode cM_keepsLaw 97 = .ok (.sipush 400, 3) := by decide +kernel
theorem dM_keepsLaw_100 : decode cM_keepsLaw 100 = .ok (.if_icmp .ge 41, 3) := by decide +kernel
theorem dM_keepsLaw_141 : decode cM_keepsLaw 141 = .ok (.return_, 1) := by decide +kernel
theorem dM_keepsLaw_103 : decode cM_keepsLaw 103 = .ok (.aload_n 0, 1) := by decide +kernel
theorem dM_keepsLaw_104 : decode cM_keepsLaw 104 = .ok (.getfield 52, 3) := by decide +kernel
theorem dM_keepsLaw_107 : decode cM_keepsLaw 107 = .ok (.iload_n 1, 1) := by decide +kernel
theorem dM_keepsLaw_108 : decode cM_keepsLaw 108 = .ok (.aload_n 0, 1) := by decide +kernel
theorem dM_keepsLaw_109 : decode cM_keepsLaw 109 = .ok (.aload_n 0, 1) := by decide +kernel
theorem dM_keepsLaw_110 : decode cM_keepsLaw 110 = .ok (.getfield 52, 3) := by decide +kernel
theorem dM_keepsLaw_113 : decode cM_keepsLaw 113 = .ok (.iload_n 1, 1) := by decide +kernel
theorem dM_keepsLaw_114 : decode cM_keepsLaw 114 = .ok (.iaload, 1) := by decide +kernel
theorem dM_keepsLaw_115 : decode cM_keepsLaw 115 = .ok (.invokevirtual 474, 3) := by decide +kernel
theorem dM_keepsLaw_118 : decode cM_keepsLaw 118 = .ok (.iastore, 1) := by decide +kernel
theorem dM_keepsLaw_119 : decode cM_keepsLaw 119 = .ok (.aload_n 0, 1) := by decide +kernel
theorem dM_keepsLaw_120 : decode cM_keepsLaw 120 = .ok (.getfield 55, 3) := by decide +kernel
theorem dM_keepsLaw_123 : decode cM_keepsLaw 123 = .ok (.iload_n 1, 1) := by decide +kernel
theorem dM_keepsLaw_124 : decode cM_keepsLaw 124 = .ok (.aload_n 0, 1) := by decide +kernel
theorem dM_keepsLaw_125 : decode cM_keepsLaw 125 = .ok (.aload_n 0, 1) := by decide +kernel
theorem dM_keepsLaw_126 : decode cM_keepsLaw 126 = .ok (.getfield 55, 3) := by decide +kernel
theorem dM_keepsLaw_129 : decode cM_keepsLaw 129 = .ok (.iload_n 1, 1) := by decide +kernel
theorem dM_keepsLaw_130 : decode cM_keepsLaw 130 = .ok (.iaload, 1) := by decide +kernel
theorem dM_keepsLaw_131 : decode cM_keepsLaw 131 = .ok (.invokevirtual 474, 3) := by decide +kernel
theorem dM_keepsLaw_134 : decode cM_keepsLaw 134 = .ok (.iastore, 1) := by decide +kernel
theorem dM_keepsLaw_135 : decode cM_keepsLaw 135 = .ok (.iinc 1 1, 3) := by decide +kernel
theorem dM_keepsLaw_138 : decode cM_keepsLaw 138 = .ok (.goto (-42), 3) := by decide +kernel
theorem dM_keepsLaw_24 : decode cM_keepsLaw 24 = .ok (.aload_n 0, 1) := by decide +kernel
theorem dM_keepsLaw_25 : decode cM_keepsLaw 25 = .ok (.getfield 40, 3) := by decide +kernel
theorem dM_keepsLaw_28 : decode cM_keepsLaw 28 = .ok (.iload_n 1, 1) := by decide +kernel
theorem dM_keepsLaw_29 : decode cM_keepsLaw 29 = .ok (.aload_n 0, 1) := by decide +kernel
theorem dM_keepsLaw_30 : decode cM_keepsLaw 30 = .ok (.aload_n 0, 1) := by decide +kernel
theorem dM_keepsLaw_31 : decode cM_keepsLaw 31 = .ok (.getfield 40, 3) := by decide +kernel
theorem dM_keepsLaw_34 : decode cM_keepsLaw 34 = .ok (.iload_n 1, 1) := by decide +kernel
theorem dM_keepsLaw_35 : decode cM_keepsLaw 35 = .ok (.iaload, 1) := by decide +kernel
theorem dM_keepsLaw_36 : decode cM_keepsLaw 36 = .ok (.invokevirtual 474, 3) := by decide +kernel
theorem dM_keepsLaw_39 : decode cM_keepsLaw 39 = .ok (.iastore, 1) := by decide +kernel
theorem dM_keepsLaw_40 : decode cM_keepsLaw 40 = .ok (.aload_n 0, 1) := by decide +kernel
theorem dM_keepsLaw_41 : decode cM_keepsLaw 41 = .ok (.getfield 43, 3) := by decide +kernel
theorem dM_keepsLaw_44 : decode cM_keepsLaw 44 = .ok (.iload_n 1, 1) := by decide +kernel
theorem dM_keepsLaw_45 : decode cM_keepsLaw 45 = .ok (.aload_n 0, 1) := by decide +kernel
theorem dM_keepsLaw_46 : decode cM_keepsLaw 46 = .ok (.aload_n 0, 1) := by decide +kernel
theorem dM_keepsLaw_47 : decode cM_keepsLaw 47 = .ok (.getfield 43, 3) := by decide +kernel
theorem dM_keepsLaw_50 : decode cM_keepsLaw 50 = .ok (.iload_n 1, 1) := by decide +kernel
theorem dM_keepsLaw_51 : decode cM_keepsLaw 51 = .ok (.iaload, 1) := by decide +kernel
theorem dM_keepsLaw_52 : decode cM_keepsLaw 52 = .ok (.invokevirtual 474, 3) := by decide +kernel
theorem dM_keepsLaw_55 : decode cM_keepsLaw 55 = .ok (.iastore, 1) := by decide +kernel
theorem dM_keepsLaw_56 : decode cM_keepsLaw 56 = .ok (.aload_n 0, 1) := by decide +kernel
theorem dM_keepsLaw_57 : decode cM_keepsLaw 57 = .ok (.getfield 46, 3) := by decide +kernel
theorem dM_keepsLaw_60 : decode cM_keepsLaw 60 = .ok (.iload_n 1, 1) := by decide +kernel
theorem dM_keepsLaw_61 : decode cM_keepsLaw 61 = .ok (.aload_n 0, 1) := by decide +kernel
theorem dM_keepsLaw_62 : decode cM_keepsLaw 62 = .ok (.aload_n 0, 1) := by decide +kernel
theorem dM_keepsLaw_63 : decode cM_keepsLaw 63 = .ok (.getfield 46, 3) := by decide +kernel
theorem dM_keepsLaw_66 : decode cM_keepsLaw 66 = .ok (.iload_n 1, 1) := by decide +kernel
theorem dM_keepsLaw_67 : decode cM_keepsLaw 67 = .ok (.iaload, 1) := by decide +kernel
theorem dM_keepsLaw_68 : decode cM_keepsLaw 68 = .ok (.invokevirtual 474, 3) := by decide +kernel
theorem dM_keepsLaw_71 : decode cM_keepsLaw 71 = .ok (.iastore, 1) := by decide +kernel
theorem dM_keepsLaw_72 : decode cM_keepsLaw 72 = .ok (.aload_n 0, 1) := by decide +kernel
theorem dM_keepsLaw_73 : decode cM_keepsLaw 73 = .ok (.getfield 49, 3) := by decide +kernel
theorem dM_keepsLaw_76 : decode cM_keepsLaw 76 = .ok (.iload_n 1, 1) := by decide +kernel
theorem dM_keepsLaw_77 : decode cM_keepsLaw 77 = .ok (.aload_n 0, 1) := by decide +kernel
theorem dM_keepsLaw_78 : decode cM_keepsLaw 78 = .ok (.aload_n 0, 1) := by decide +kernel
theorem dM_keepsLaw_79 : decode cM_keepsLaw 79 = .ok (.getfield 49, 3) := by decide +kernel
theorem dM_keepsLaw_82 : decode cM_keepsLaw 82 = .ok (.iload_n 1, 1) := by decide +kernel
theorem dM_keepsLaw_83 : decode cM_keepsLaw 83 = .ok (.iaload, 1) := by decide +kernel
theorem dM_keepsLaw_84 : decode cM_keepsLaw 84 = .ok (.invokevirtual 474, 3) := by decide +kernel
theorem dM_keepsLaw_87 : decode cM_keepsLaw 87 = .ok (.iastore, 1) := by decide +kernel
theorem dM_keepsLaw_88 : decode cM_keepsLaw 88 = .ok (.iinc 1 1, 3) := by decide +kernel
theorem dM_keepsLaw_91 : decode cM_keepsLaw 91 = .ok (.goto (-73), 3) := by decide +kernel
def fM_keepsLaw (s0 : Sg) : Option (Sg) := gd 0 2 (bi (fM_keptOf (s0 112 (ix 0)) s0) fun r2 s1 => gd 0 2 (bnd (pt s1 112 (ix 0) r2) fun s3 => lp FU (fun q18 (u18 : Int32) (s4 : Sg) => if 16 ≤ u18 then (lp FU (fun q96 (u96 : Int32) (s5 : Sg) => if 400 ≤ u96 then (some s5) else (gd u96 1200 (bi (fM_keptOf (s5 117 (ix u96)) s5) fun r7 s6 => gd u96 1200 (bnd (pt s6 117 (ix u96) r7) fun s8 => gd u96 1200 (bi (fM_keptOf (s8 118 (ix u96)) s8) fun r10 s9 => gd u96 1200 (bnd (pt s9 118 (ix u96) r10) fun s11 => q96 (u96 + 1) s11)))))) 0 s4) else (gd u18 48 (bi (fM_keptOf (s4 113 (ix u18)) s4) fun r13 s12 => gd u18 48 (bnd (pt s12 113 (ix u18) r13) fun s14 => gd u18 48 (bi (fM_keptOf (s14 114 (ix u18)) s14) fun r16 s15 => gd u18 48 (bnd (pt s15 114 (ix u18) r16) fun s17 => gd u18 48 (bi (fM_keptOf (s17 115 (ix u18)) s17) fun r19 s18 => gd u18 48 (bnd (pt s18 115 (ix u18) r19) fun s20 => gd u18 48 (bi (fM_keptOf (s20 116 (ix u18)) s20) fun r22 s21 => gd u18 48 (bnd (pt s21 116 (ix u18) r22) fun s23 => q18 (u18 + 1) s23)))))))))) 0 s3))
set_option maxHeartbeats 4000000 in
set_option maxRecDepth 100000 in
theorem okM_keepsLaw (s0 : Sg) : ∀ (l : Launch) (w : WC), Ok l w yM_keepsLaw cM_keepsLaw 2 none 2 evV [.ref (w.ad 102)] s0 (fM_keepsLaw s0) := by
  refine ok_in (ev := fun _ => evV) (av := fun w => [.ref (w.ad 102)]) "LastWordHillModel" rfl (by decide +kernel) (fun _ => rfl) (fun _ => Nat.le_of_ble_eq_true rfl) ?_
  intro C X E
  show GF C evV 0 [some (.ref (C.w.ad 102)), none] [] s0 (fM_keepsLaw s0)
  unfold fM_keepsLaw
  refine g_aload_n X dM_keepsLaw_0 rfl ?_
  refine g_getN X fl_M_37 fb_12_18 k_102 r_102_18 dM_keepsLaw_1 ?_
  refine g_iconst X 0 dM_keepsLaw_4 (by decide) ?_
  refine g_aload_n X dM_keepsLaw_5 rfl ?_
  refine g_aload_n X dM_keepsLaw_6 rfl ?_
  refine g_getN X fl_M_37 fb_12_18 k_102 r_102_18 dM_keepsLaw_7 ?_
  refine g_iconst X 0 dM_keepsLaw_10 (by decide) ?_
  refine g_iald X k_112 ln_112 dM_keepsLaw_11 ?_
  refine g_virtI X [.int (s0 112 (ix 0))] [.int 0, .ref (C.w.ad 112)] k_102 mm_M_keptOf mv_M_keptOf ml_M_474 (okM_keptOf (s0 112 (ix 0)) s0 C.l C.w) rfl (by decide) rfl (Nat.le_of_ble_eq_true rfl) dM_keepsLaw_12 (fun r2 s1 => ?_)
  refine g_iast X k_112 ln_112 dM_keepsLaw_15 (fun s3 => ?_)
  refine g_iconst X 0 dM_keepsLaw_16 (by decide) ?_
  refine g_istore_n X [some (.ref (C.w.ad 102)), some (.int 0)] dM_keepsLaw_17 (by decide) (Nat.le_of_ble_eq_true rfl) rfl ?_
  refine gf_sub (L' := [some (.ref (C.w.ad 102)), some (.int 0)]) ?_ (by simp [lsub])
  refine gf_lp (Lf := fun (u18 : Int32) => [some (.ref (C.w.ad 102)), some (.int u18)]) (fun q18 hq18 u18 s4 => ?_) FU 0 s3
  refine g_iload_n X dM_keepsLaw_18 rfl ?_
  refine g_bipush X 16 dM_keepsLaw_19 (by decide) ?_
  refine g_cge X (tgt := 94) dM_keepsLaw_21 (by decide) ?_ ?_
  · refine g_iconst X 0 dM_keepsLaw_94 (by decide) ?_
    refine g_istore_n X [some (.ref (C.w.ad 102)), some (.int 0)] dM_keepsLaw_95 (by decide) (Nat.le_of_ble_eq_true rfl) rfl ?_
    refine gf_sub (L' := [some (.ref (C.w.ad 102)), some (.int 0)]) ?_ (by simp [lsub])
    refine gf_lp (Lf := fun (u96 : Int32) => [some (.ref (C.w.ad 102)), some (.int u96)]) (fun q96 hq96 u96 s5 => ?_) FU 0 s4
    refine g_iload_n X dM_keepsLaw_96 rfl ?_
    refine g_sipush X 400 dM_keepsLaw_97 (by decide) ?_
    refine g_cge X (tgt := 141) dM_keepsLaw_100 (by decide) ?_ ?_
    · exact g_vret X E dM_keepsLaw_141
    · refine g_aload_n X dM_keepsLaw_103 rfl ?_
      refine g_getN X fl_M_52 fb_12_23 k_102 r_102_23 dM_keepsLaw_104 ?_
      refine g_iload_n X dM_keepsLaw_107 rfl ?_
      refine g_aload_n X dM_keepsLaw_108 rfl ?_
      refine g_aload_n X dM_keepsLaw_109 rfl ?_
      refine g_getN X fl_M_52 fb_12_23 k_102 r_102_23 dM_keepsLaw_110 ?_
      refine g_iload_n X dM_keepsLaw_113 rfl ?_
      refine g_iald X k_117 ln_117 dM_keepsLaw_114 ?_
      refine g_virtI X [.int (s5 117 (ix u96))] [.int u96, .ref (C.w.ad 117)] k_102 mm_M_keptOf mv_M_keptOf ml_M_474 (okM_keptOf (s5 117 (ix u96)) s5 C.l C.w) rfl (by decide) rfl (Nat.le_of_ble_eq_true rfl) dM_keepsLaw_115 (fun r7 s6 => ?_)
      refine g_iast X k_117 ln_117 dM_keepsLaw_118 (fun s8 => ?_)
      refine g_aload_n X dM_keepsLaw_119 rfl ?_
      refine g_getN X fl_M_55 fb_12_24 k_102 r_102_24 dM_keepsLaw_120 ?_
      refine g_iload_n X dM_keepsLaw_123 rfl ?_
      refine g_aload_n X dM_keepsLaw_124 rfl ?_
      refine g_aload_n X dM_keepsLaw_125 rfl ?_
      refine g_getN X fl_M_55 fb_12_24 k_102 r_102_24 dM_keepsLaw_126 ?_
      refine g_iload_n X dM_keepsLaw_129 rfl ?_
      refine g_iald X k_118 ln_118 dM_keepsLaw_130 ?_
      refine g_virtI X [.int (s8 118 (ix u96))] [.int u96, .ref (C.w.ad 118)] k_102 mm_M_keptOf mv_M_keptOf ml_M_474 (okM_keptOf (s8 118 (ix u96)) s8 C.l C.w) rfl (by decide) rfl (Nat.le_of_ble_eq_true rfl) dM_keepsLaw_131 (fun r10 s9 => ?_)
      refine g_iast X k_118 ln_118 dM_keepsLaw_134 (fun s11 => ?_)
      refine g_iinc X (u96 + 1) [some (.ref (C.w.ad 102)), some (.int (u96 + 1))] dM_keepsLaw_135 rfl rfl (by decide) rfl ?_
      refine g_goto X 96 dM_keepsLaw_138 (by decide) ?_
      exact gf_sub (hq96 (u96 + 1) s11) (by simp [lsub])
  · refine g_aload_n X dM_keepsLaw_24 rfl ?_
    refine g_getN X fl_M_40 fb_12_19 k_102 r_102_19 dM_keepsLaw_25 ?_
    refine g_iload_n X dM_keepsLaw_28 rfl ?_
    refine g_aload_n X dM_keepsLaw_29 rfl ?_
    refine g_aload_n X dM_keepsLaw_30 rfl ?_
    refine g_getN X fl_M_40 fb_12_19 k_102 r_102_19 dM_keepsLaw_31 ?_
    refine g_iload_n X dM_keepsLaw_34 rfl ?_
    refine g_iald X k_113 ln_113 dM_keepsLaw_35 ?_
    refine g_virtI X [.int (s4 113 (ix u18))] [.int u18, .ref (C.w.ad 113)] k_102 mm_M_keptOf mv_M_keptOf ml_M_474 (okM_keptOf (s4 113 (ix u18)) s4 C.l C.w) rfl (by decide) rfl (Nat.le_of_ble_eq_true rfl) dM_keepsLaw_36 (fun r13 s12 => ?_)
    refine g_iast X k_113 ln_113 dM_keepsLaw_39 (fun s14 => ?_)
    refine g_aload_n X dM_keepsLaw_40 rfl ?_
    refine g_getN X fl_M_43 fb_12_20 k_102 r_102_20 dM_keepsLaw_41 ?_
    refine g_iload_n X dM_keepsLaw_44 rfl ?_
    refine g_aload_n X dM_keepsLaw_45 rfl ?_
    refine g_aload_n X dM_keepsLaw_46 rfl ?_
    refine g_getN X fl_M_43 fb_12_20 k_102 r_102_20 dM_keepsLaw_47 ?_
    refine g_iload_n X dM_keepsLaw_50 rfl ?_
    refine g_iald X k_114 ln_114 dM_keepsLaw_51 ?_
    refine g_virtI X [.int (s14 114 (ix u18))] [.int u18, .ref (C.w.ad 114)] k_102 mm_M_keptOf mv_M_keptOf ml_M_474 (okM_keptOf (s14 114 (ix u18)) s14 C.l C.w) rfl (by decide) rfl (Nat.le_of_ble_eq_true rfl) dM_keepsLaw_52 (fun r16 s15 => ?_)
    refine g_iast X k_114 ln_114 dM_keepsLaw_55 (fun s17 => ?_)
    refine g_aload_n X dM_keepsLaw_56 rfl ?_
    refine g_getN X fl_M_46 fb_12_21 k_102 r_102_21 dM_keepsLaw_57 ?_
    refine g_iload_n X dM_keepsLaw_60 rfl ?_
    refine g_aload_n X dM_keepsLaw_61 rfl ?_
    refine g_aload_n X dM_keepsLaw_62 rfl ?_
    refine g_getN X fl_M_46 fb_12_21 k_102 r_102_21 dM_keepsLaw_63 ?_
    refine g_iload_n X dM_keepsLaw_66 rfl ?_
    refine g_iald X k_115 ln_115 dM_keepsLaw_67 ?_
    refine g_virtI X [.int (s17 115 (ix u18))] [.int u18, .ref (C.w.ad 115)] k_102 mm_M_keptOf mv_M_keptOf ml_M_474 (okM_keptOf (s17 115 (ix u18)) s17 C.l C.w) rfl (by decide) rfl (Nat.le_of_ble_eq_true rfl) dM_keepsLaw_68 (fun r19 s18 => ?_)
    refine g_iast X k_115 ln_115 dM_keepsLaw_71 (fun s20 => ?_)
    refine g_aload_n X dM_keepsLaw_72 rfl ?_
    refine g_getN X fl_M_49 fb_12_22 k_102 r_102_22 dM_keepsLaw_73 ?_
    refine g_iload_n X dM_keepsLaw_76 rfl ?_
    refine g_aload_n X dM_keepsLaw_77 rfl ?_
    refine g_aload_n X dM_keepsLaw_78 rfl ?_
    refine g_getN X fl_M_49 fb_12_22 k_102 r_102_22 dM_keepsLaw_79 ?_
    refine g_iload_n X dM_keepsLaw_82 rfl ?_
    refine g_iald X k_116 ln_116 dM_keepsLaw_83 ?_
    refine g_virtI X [.int (s20 116 (ix u18))] [.int u18, .ref (C.w.ad 116)] k_102 mm_M_keptOf mv_M_keptOf ml_M_474 (okM_keptOf (s20 116 (ix u18)) s20 C.l C.w) rfl (by decide) rfl (Nat.le_of_ble_eq_true rfl) dM_keepsLaw_84 (fun r22 s21 => ?_)
    refine g_iast X k_116 ln_116 dM_keepsLaw_87 (fun s23 => ?_)
    refine g_iinc X (u18 + 1) [some (.ref (C.w.ad 102)), some (.int (u18 + 1))] dM_keepsLaw_88 rfl rfl (by decide) rfl ?_
    refine g_goto X 18 dM_keepsLaw_91 (by decide) ?_
    exact gf_sub (hq18 (u18 + 1) s23) (by simp [lsub])
def yM_keepsMany : MethodName := ⟨"LastWordHillModel", "keepsMany", "()V"⟩
abbrev cM_keepsMany : ByteArray := prog_14_method_120_code
theorem dM_keepsMany_0 : decode cM_keepsMany 0 = .ok (.aload_n 0, 1) := by decide +kernel
theorem dM_keepsMany_1 : decode cM_keepsMany 1 = .ok (.aload_n 0, 1) := by decide +kernel
theorem dM_keepsMany_2 : decode cM_keepsMany 2 = .ok (.aload_n 0, 1) := by decide +kernel
theorem dM_keepsMany_3 : decode cM_keepsMany 3 = .ok (.getfield 146, 3) := by decide +kernel
theorem dM_keepsMany_6 : decode cM_keepsMany 6 = .ok (.invokevirtual 474, 3) := by decide +kernel
theorem dM_keepsMany_9 : decode cM_keepsMany 9 = .ok (.putfield 146, 3) := by decide +kernel
theorem dM_keepsMany_12 : decode cM_keepsMany 12 = .ok (.aload_n 0, 1) := by decide +kernel
theorem dM_keepsMany_13 : decode cM_keepsMany 13 = .ok (.aload_n 0, 1) := by decide +kernel
theorem dM_keepsMany_14 : decode cM_keepsMany 14 = .ok (.aload_n 0, 1) := by decide +kernel
theorem dM_keepsMany_15 : decode cM_keepsMany 15 = .ok (.getfield 296, 3) := by decide +kernel
theorem dM_keepsMany_18 : decode cM_keepsMany 18 = .ok (.invokevirtual 474, 3) := by decide +kernel
theorem dM_keepsMany_21 : decode cM_keepsMany 21 = .ok (.putfield 296, 3) := by decide +kernel
theorem dM_keepsMany_24 : decode cM_keepsMany 24 = .ok (.aload_n 0, 1) := by decide +kernel
theorem dM_keepsMany_25 : decode cM_keepsMany 25 = .ok (.aload_n 0, 1) := by decide +kernel
theorem dM_keepsMany_26 : decode cM_keepsMany 26 = .ok (.aload_n 0, 1) := by decide +kernel
theorem dM_keepsMany_27 : decode cM_keepsMany 27 = .ok (.getfield 299, 3) := by decide +kernel
theorem dM_keepsMany_30 : decode cM_keepsMany 30 = .ok (.invokevirtual 474, 3) := by decide +kernel
theorem dM_keepsMany_33 : decode cM_keepsMany 33 = .ok (.putfield 299, 3) := by decide +kernel
theorem dM_keepsMany_36 : decode cM_keepsMany 36 = .ok (.aload_n 0, 1) := by decide +kernel
theorem dM_keepsMany_37 : decode cM_keepsMany 37 = .ok (.aload_n 0, 1) := by decide +kernel
theorem dM_keepsMany_38 : decode cM_keepsMany 38 = .ok (.aload_n 0, 1) := by decide +kernel
theorem dM_keepsMany_39 : decode cM_keepsMany 39 = .ok (.getfield 293, 3) := by decide +kernel
theorem dM_keepsMany_42 : decode cM_keepsMany 42 = .ok (.invokevirtual 474, 3) := by decide +kernel
theorem dM_keepsMany_45 : decode cM_keepsMany 45 = .ok (.putfield 293, 3) := by decide +kernel
theorem dM_keepsMany_48 : decode cM_keepsMany 48 = .ok (.aload_n 0, 1) := by decide +kernel
theorem dM_keepsMany_49 : decode cM_keepsMany 49 = .ok (.aload_n 0, 1) := by decide +kernel
theorem dM_keepsMany_50 : decode cM_keepsMany 50 = .ok (.aload_n 0, 1) := by decide +kernel
theorem dM_keepsMany_51 : decode cM_keepsMany 51 = .ok (.getfield 414, 3) := by decide +kernel
theorem dM_keepsMany_54 : decode cM_keepsMany 54 = .ok (.invokevirtual 474, 3) := by decide +kernel
theorem dM_keepsMany_57 : decode cM_keepsMany 57 = .ok (.putfield 414, 3) := by decide +kernel
theorem dM_keepsMany_60 : decode cM_keepsMany 60 = .ok (.aload_n 0, 1) := by decide +kernel
theorem dM_keepsMany_61 : decode cM_keepsMany 61 = .ok (.aload_n 0, 1) := by decide +kernel
theorem dM_keepsMany_62 : decode cM_keepsMany 62 = .ok (.aload_n 0, 1) := by decide +kernel
theorem dM_keepsMany_63 : decode cM_keepsMany 63 = .ok (.getfield 423, 3) := by decide +kernel
theorem dM_keepsMany_66 : decode cM_keepsMany 66 = .ok (.invokevirtual 474, 3) := by decide +kernel
theorem dM_keepsMany_69 : decode cM_keepsMany 69 = .ok (.putfield 423, 3) := by decide +kernel
theorem dM_keepsMany_72 : decode cM_keepsMany 72 = .ok (.aload_n 0, 1) := by decide +kernel
theorem dM_keepsMany_73 : decode cM_keepsMany 73 = .ok (.aload_n 0, 1) := by decide +kernel
theorem dM_keepsMany_74 : decode cM_keepsMany 74 = .ok (.aload_n 0, 1) := by decide +kernel
theorem dM_keepsMany_75 : decode cM_keepsMany 75 = .ok (.getfield 429, 3) := by decide +kernel
theorem dM_keepsMany_78 : decode cM_keepsMany 78 = .ok (.invokevirtual 474, 3) := by decide +kernel
theorem dM_keepsMany_81 : decode cM_keepsMany 81 = .ok (.putfield 429, 3) := by decide +kernel
theorem dM_keepsMany_84 : decode cM_keepsMany 84 = .ok (.aload_n 0, 1) := by decide +kernel
theorem dM_keepsMany_85 : decode cM_keepsMany 85 = .ok (.aload_n 0, 1) := by decide +kernel
theorem dM_keepsMany_86 : decode cM_keepsMany 86 = .ok (.aload_n 0, 1) := by decide +kernel
theorem dM_keepsMany_87 : decode cM_keepsMany 87 = .ok (.getfield 441, 3) := by decide +kernel
theorem dM_keepsMany_90 : decode cM_keepsMany 90 = .ok (.invokevirtual 474, 3) := by decide +kernel
theorem dM_keepsMany_93 : decode cM_keepsMany 93 = .ok (.putfield 441, 3) := by decide +kernel
theorem dM_keepsMany_96 : decode cM_keepsMany 96 = .ok (.aload_n 0, 1) := by decide +kernel
theorem dM_keepsMany_97 : decode cM_keepsMany 97 = .ok (.aload_n 0, 1) := by decide +kernel
theorem dM_keepsMany_98 : decode cM_keepsMany 98 = .ok (.aload_n 0, 1) := by decide +kernel
theorem dM_keepsMany_99 : decode cM_keepsMany 99 = .ok (.getfield 456, 3) := by decide +kernel
theorem dM_keepsMany_102 : decode cM_keepsMany 102 = .ok (.invokevirtual 474, 3) := by decide +kernel
theorem dM_keepsMany_105 : decode cM_keepsMany 105 = .ok (.putfield 456, 3) := by decide +kernel
theorem dM_keepsMany_108 : decode cM_keepsMany 108 = .ok (.aload_n 0, 1) := by decide +kernel
theorem dM_keepsMany_109 : decode cM_keepsMany 109 = .ok (.aload_n 0, 1) := by decide +kernel
theorem dM_keepsMany_110 : decode cM_keepsMany 110 = .ok (.aload_n 0, 1) := by decide +kernel
theorem dM_keepsMany_111 : decode cM_keepsMany 111 = .ok (.getfield 116, 3) := by decide +kernel
theorem dM_keepsMany_114 : decode cM_keepsMany 114 = .ok (.invokevirtual 474, 3) := by decide +kernel
theorem dM_keepsMany_117 : decode cM_keepsMany 117 = .ok (.putfield 116, 3) := by decide +kernel
theorem dM_keepsMany_120 : decode cM_keepsMany 120 = .ok (.aload_n 0, 1) := by decide +kernel
theorem dM_keepsMany_121 : decode cM_keepsMany 121 = .ok (.aload_n 0, 1) := by decide +kernel
theorem dM_keepsMany_122 : decode cM_keepsMany 122 = .ok (.aload_n 0, 1) := by decide +kernel
theorem dM_keepsMany_123 : decode cM_keepsMany 123 = .ok (.getfield 450, 3) := by decide +kernel
theorem dM_keepsMany_126 : decode cM_keepsMany 126 = .ok (.invokevirtual 474, 3) := by decide +kernel
theorem dM_keepsMany_129 : decode cM_keepsMany 129 = .ok (.putfield 450, 3) := by decide +kernel
theorem dM_keepsMany_132 : decode cM_keepsMany 132 = .ok (.aload_n 0, 1) := by decide +kernel
theorem dM_keepsMany_133 : decode cM_keepsMany 133 = .ok (.aload_n 0, 1) := by decide +kernel
theorem dM_keepsMany_134 : decode cM_keepsMany 134 = .ok (.aload_n 0, 1) := by decide +kernel
theorem dM_keepsMany_135 : decode cM_keepsMany 135 = .ok (.getfield 453, 3) := by decide +kernel
theorem dM_keepsMany_138 : decode cM_keepsMany 138 = .ok (.invokevirtual 474, 3) := by decide +kernel
theorem dM_keepsMany_141 : decode cM_keepsMany 141 = .ok (.putfield 453, 3) := by decide +kernel
theorem dM_keepsMany_144 : decode cM_keepsMany 144 = .ok (.return_, 1) := by decide +kernel
def fM_keepsMany (s0 : Sg) : Option (Sg) := bi (fM_keptOf (s0 102 6) s0) fun r2 s1 => bnd (pt s1 102 6 r2) fun s3 => bi (fM_keptOf (s3 102 34) s3) fun r5 s4 => bnd (pt s4 102 34 r5) fun s6 => bi (fM_keptOf (s6 102 36) s6) fun r8 s7 => bnd (pt s7 102 36 r8) fun s9 => bi (fM_keptOf (s9 102 38) s9) fun r11 s10 => bnd (pt s10 102 38 r11) fun s12 => bi (fM_keptOf (s12 102 43) s12) fun r14 s13 => bnd (pt s13 102 43 r14) fun s15 => bi (fM_keptOf (s15 102 46) s15) fun r17 s16 => bnd (pt s16 102 46 r17) fun s18 => bi (fM_keptOf (s18 102 49) s18) fun r20 s19 => bnd (pt s19 102 49 r20) fun s21 => bi (fM_keptOf (s21 102 53) s21) fun r23 s22 => bnd (pt s22 102 53 r23) fun s24 => bi (fM_keptOf (s24 102 62) s24) fun r26 s25 => bnd (pt s25 102 62 r26) fun s27 => bi (fM_keptOf (s27 102 58) s27) fun r29 s28 => bnd (pt s28 102 58 r29) fun s30 => bi (fM_keptOf (s30 102 59) s30) fun r32 s31 => bnd (pt s31 102 59 r32) fun s33 => bi (fM_keptOf (s33 102 60) s33) fun r35 s34 => bnd (pt s34 102 60 r35) fun s36 => some s36
set_option maxHeartbeats 4000000 in
set_option maxRecDepth 100000 in
theorem okM_keepsMany (s0 : Sg) : ∀ (l : Launch) (w : WC), Ok l w yM_keepsMany cM_keepsMany 1 none 2 evV [.ref (w.ad 102)] s0 (fM_keepsMany s0) := by
  refine ok_in (ev := fun _ => evV) (av := fun w => [.ref (w.ad 102)]) "LastWordHillModel" rfl (by decide +kernel) (fun _ => rfl) (fun _ => Nat.le_of_ble_eq_true rfl) ?_
  intro C X E
  show GF C evV 0 [some (.ref (C.w.ad 102))] [] s0 (fM_keepsMany s0)
  unfold fM_keepsMany
  refine g_aload_n X dM_keepsMany_0 rfl ?_
  refine g_aload_n X dM_keepsMany_1 rfl ?_
  refine g_aload_n X dM_keepsMany_2 rfl ?_
  refine g_getI X fl_M_146 fb_12_6 k_102 dM_keepsMany_3 ?_
  refine g_virtI X [.int (s0 102 6)] [.ref (C.w.ad 102)] k_102 mm_M_keptOf mv_M_keptOf ml_M_474 (okM_keptOf (s0 102 6) s0 C.l C.w) rfl (by decide) rfl (Nat.le_of_ble_eq_true rfl) dM_keepsMany_6 (fun r2 s1 => ?_)
  refine g_putI X fl_M_146 fb_12_6 fp_12_6 k_102 dM_keepsMany_9 (fun s3 => ?_)
  refine g_aload_n X dM_keepsMany_12 rfl ?_
  refine g_aload_n X dM_keepsMany_13 rfl ?_
  refine g_aload_n X dM_keepsMany_14 rfl ?_
  refine g_getI X fl_M_296 fb_12_34 k_102 dM_keepsMany_15 ?_
  refine g_virtI X [.int (s3 102 34)] [.ref (C.w.ad 102)] k_102 mm_M_keptOf mv_M_keptOf ml_M_474 (okM_keptOf (s3 102 34) s3 C.l C.w) rfl (by decide) rfl (Nat.le_of_ble_eq_true rfl) dM_keepsMany_18 (fun r5 s4 => ?_)
  refine g_putI X fl_M_296 fb_12_34 fp_12_34 k_102 dM_keepsMany_21 (fun s6 => ?_)
  refine g_aload_n X dM_keepsMany_24 rfl ?_
  refine g_aload_n X dM_keepsMany_25 rfl ?_
  refine g_aload_n X dM_keepsMany_26 rfl ?_
  refine g_getI X fl_M_299 fb_12_36 k_102 dM_keepsMany_27 ?_
  refine g_virtI X [.int (s6 102 36)] [.ref (C.w.ad 102)] k_102 mm_M_keptOf mv_M_keptOf ml_M_474 (okM_keptOf (s6 102 36) s6 C.l C.w) rfl (by decide) rfl (Nat.le_of_ble_eq_true rfl) dM_keepsMany_30 (fun r8 s7 => ?_)
  refine g_putI X fl_M_299 fb_12_36 fp_12_36 k_102 dM_keepsMany_33 (fun s9 => ?_)
  refine g_aload_n X dM_keepsMany_36 rfl ?_
  refine g_aload_n X dM_keepsMany_37 rfl ?_
  refine g_aload_n X dM_keepsMany_38 rfl ?_
  refine g_getI X fl_M_293 fb_12_38 k_102 dM_keepsMany_39 ?_
  refine g_virtI X [.int (s9 102 38)] [.ref (C.w.ad 102)] k_102 mm_M_keptOf mv_M_keptOf ml_M_474 (okM_keptOf (s9 102 38) s9 C.l C.w) rfl (by decide) rfl (Nat.le_of_ble_eq_true rfl) dM_keepsMany_42 (fun r11 s10 => ?_)
  refine g_putI X fl_M_293 fb_12_38 fp_12_38 k_102 dM_keepsMany_45 (fun s12 => ?_)
  refine g_aload_n X dM_keepsMany_48 rfl ?_
  refine g_aload_n X dM_keepsMany_49 rfl ?_
  refine g_aload_n X dM_keepsMany_50 rfl ?_
  refine g_getI X fl_M_414 fb_12_43 k_102 dM_keepsMany_51 ?_
  refine g_virtI X [.int (s12 102 43)] [.ref (C.w.ad 102)] k_102 mm_M_keptOf mv_M_keptOf ml_M_474 (okM_keptOf (s12 102 43) s12 C.l C.w) rfl (by decide) rfl (Nat.le_of_ble_eq_true rfl) dM_keepsMany_54 (fun r14 s13 => ?_)
  refine g_putI X fl_M_414 fb_12_43 fp_12_43 k_102 dM_keepsMany_57 (fun s15 => ?_)
  refine g_aload_n X dM_keepsMany_60 rfl ?_
  refine g_aload_n X dM_keepsMany_61 rfl ?_
  refine g_aload_n X dM_keepsMany_62 rfl ?_
  refine g_getI X fl_M_423 fb_12_46 k_102 dM_keepsMany_63 ?_
  refine g_virtI X [.int (s15 102 46)] [.ref (C.w.ad 102)] k_102 mm_M_keptOf mv_M_keptOf ml_M_474 (okM_keptOf (s15 102 46) s15 C.l C.w) rfl (by decide) rfl (Nat.le_of_ble_eq_true rfl) dM_keepsMany_66 (fun r17 s16 => ?_)
  refine g_putI X fl_M_423 fb_12_46 fp_12_46 k_102 dM_keepsMany_69 (fun s18 => ?_)
  refine g_aload_n X dM_keepsMany_72 rfl ?_
  refine g_aload_n X dM_keepsMany_73 rfl ?_
  refine g_aload_n X dM_keepsMany_74 rfl ?_
  refine g_getI X fl_M_429 fb_12_49 k_102 dM_keepsMany_75 ?_
  refine g_virtI X [.int (s18 102 49)] [.ref (C.w.ad 102)] k_102 mm_M_keptOf mv_M_keptOf ml_M_474 (okM_keptOf (s18 102 49) s18 C.l C.w) rfl (by decide) rfl (Nat.le_of_ble_eq_true rfl) dM_keepsMany_78 (fun r20 s19 => ?_)
  refine g_putI X fl_M_429 fb_12_49 fp_12_49 k_102 dM_keepsMany_81 (fun s21 => ?_)
  refine g_aload_n X dM_keepsMany_84 rfl ?_
  refine g_aload_n X dM_keepsMany_85 rfl ?_
  refine g_aload_n X dM_keepsMany_86 rfl ?_
  refine g_getI X fl_M_441 fb_12_53 k_102 dM_keepsMany_87 ?_
  refine g_virtI X [.int (s21 102 53)] [.ref (C.w.ad 102)] k_102 mm_M_keptOf mv_M_keptOf ml_M_474 (okM_keptOf (s21 102 53) s21 C.l C.w) rfl (by decide) rfl (Nat.le_of_ble_eq_true rfl) dM_keepsMany_90 (fun r23 s22 => ?_)
  refine g_putI X fl_M_441 fb_12_53 fp_12_53 k_102 dM_keepsMany_93 (fun s24 => ?_)
  refine g_aload_n X dM_keepsMany_96 rfl ?_
  refine g_aload_n X dM_keepsMany_97 rfl ?_
  refine g_aload_n X dM_keepsMany_98 rfl ?_
  refine g_getI X fl_M_456 fb_12_62 k_102 dM_keepsMany_99 ?_
  refine g_virtI X [.int (s24 102 62)] [.ref (C.w.ad 102)] k_102 mm_M_keptOf mv_M_keptOf ml_M_474 (okM_keptOf (s24 102 62) s24 C.l C.w) rfl (by decide) rfl (Nat.le_of_ble_eq_true rfl) dM_keepsMany_102 (fun r26 s25 => ?_)
  refine g_putI X fl_M_456 fb_12_62 fp_12_62 k_102 dM_keepsMany_105 (fun s27 => ?_)
  refine g_aload_n X dM_keepsMany_108 rfl ?_
  refine g_aload_n X dM_keepsMany_109 rfl ?_
  refine g_aload_n X dM_keepsMany_110 rfl ?_
  refine g_getI X fl_M_116 fb_12_58 k_102 dM_keepsMany_111 ?_
  refine g_virtI X [.int (s27 102 58)] [.ref (C.w.ad 102)] k_102 mm_M_keptOf mv_M_keptOf ml_M_474 (okM_keptOf (s27 102 58) s27 C.l C.w) rfl (by decide) rfl (Nat.le_of_ble_eq_true rfl) dM_keepsMany_114 (fun r29 s28 => ?_)
  refine g_putI X fl_M_116 fb_12_58 fp_12_58 k_102 dM_keepsMany_117 (fun s30 => ?_)
  refine g_aload_n X dM_keepsMany_120 rfl ?_
  refine g_aload_n X dM_keepsMany_121 rfl ?_
  refine g_aload_n X dM_keepsMany_122 rfl ?_
  refine g_getI X fl_M_450 fb_12_59 k_102 dM_keepsMany_123 ?_
  refine g_virtI X [.int (s30 102 59)] [.ref (C.w.ad 102)] k_102 mm_M_keptOf mv_M_keptOf ml_M_474 (okM_keptOf (s30 102 59) s30 C.l C.w) rfl (by decide) rfl (Nat.le_of_ble_eq_true rfl) dM_keepsMany_126 (fun r32 s31 => ?_)
  refine g_putI X fl_M_450 fb_12_59 fp_12_59 k_102 dM_keepsMany_129 (fun s33 => ?_)
  refine g_aload_n X dM_keepsMany_132 rfl ?_
  refine g_aload_n X dM_keepsMany_133 rfl ?_
  refine g_aload_n X dM_keepsMany_134 rfl ?_
  refine g_getI X fl_M_453 fb_12_60 k_102 dM_keepsMany_135 ?_
  refine g_virtI X [.int (s33 102 60)] [.ref (C.w.ad 102)] k_102 mm_M_keptOf mv_M_keptOf ml_M_474 (okM_keptOf (s33 102 60) s33 C.l C.w) rfl (by decide) rfl (Nat.le_of_ble_eq_true rfl) dM_keepsMany_138 (fun r35 s34 => ?_)
  refine g_putI X fl_M_453 fb_12_60 fp_12_60 k_102 dM_keepsMany_141 (fun s36 => ?_)
  exact g_vret X E dM_keepsMany_144
def yM_keepsTold : MethodName := ⟨"LastWordHillModel", "keepsTold", "()V"⟩
abbrev cM_keepsTold : ByteArray := prog_14_method_121_code
theorem dM_keepsTold_0 : decode cM_keepsTold 0 = .ok (.iconst 0, 1) := by decide +kernel
theorem dM_keepsTold_1 : decode cM_keepsTold 1 = .ok (.istore_n 1, 1) := by decide +kernel
theorem dM_keepsTold_2 : decode cM_keepsTold 2 = .ok (.iload_n 1, 1) := by decide +kernel
theorem dM_keepsTold_3 : decode cM_keepsTold 3 = .ok (.bipush 10, 2) := by decide +kernel
theorem dM_keepsTold_5 : decode cM_keepsTold 5 = .ok (.if_icmp .ge 89, 3) := by decide +kernel
theorem dM_keepsTold_94 : decode cM_keepsTold 94 = .ok (.iconst 0, 1) := by decide +kernel
theorem dM_keepsTold_95 : decode cM_keepsTold 95 = .ok (.istore_n 1, 1) := by decide +kernel
theorem dM_keepsTold_96 : decode cM_keepsTold 96 = .ok (.iload_n 1, 1) := by decide +kernel
theorem dM_keepsTold_97 : decode cM_keepsTold 97 = .ok (.bipush 9, 2) := by decide +kernel
theorem dM_keepsTold_99 : decode cM_keepsTold 99 = .ok (.if_icmp .ge 41, 3) := by decide +kernel
theorem dM_keepsTold_140 : decode cM_keepsTold 140 = .ok (.iconst 0, 1) := by decide +kernel
theorem dM_keepsTold_141 : decode cM_keepsTold 141 = .ok (.istore_n 1, 1) := by decide +kernel
theorem dM_keepsTold_142 : decode cM_keepsTold 142 = .ok (.iload_n 1, 1) := by decide +kernel
theorem dM_keepsTold_143 : decode cM_keepsTold 143 = .ok (.sipush 200, 3) := by decide +kernel
theorem dM_keepsTold_146 : decode cM_keepsTold 146 = .ok (.if_icmp .ge 25, 3) := by decide +kernel
theorem dM_keepsTold_171 : decode cM_keepsTold 171 = .ok (.iconst 0, 1) := by decide +kernel
theorem dM_keepsTold_172 : decode cM_keepsTold 172 = .ok (.istore_n 1, 1) := by decide +kernel
theorem dM_keepsTold_173 : decode cM_keepsTold 173 = .ok (.iload_n 1, 1) := by decide +kernel
theorem dM_keepsTold_174 : decode cM_keepsTold 174 = .ok (.bipush 8, 2) := by decide +kernel
theorem dM_keepsTold_176 : decode cM_keepsTold 176 = .ok (.if_icmp .ge 25, 3) := by decide +kernel
theorem dM_keepsTold_201 : decode cM_keepsTold 201 = .ok (.iconst 0, 1) := by decide +kernel
theorem dM_keepsTold_202 : decode cM_keepsTold 202 = .ok (.istore_n 1, 1) := by decide +kernel
theorem dM_keepsTold_203 : decode cM_keepsTold 203 = .ok (.iload_n 1, 1) := by decide +kernel
theorem dM_keepsTold_204 : decode cM_keepsTold 204 = .ok (.bipush 40, 2) := by decide +kernel
theorem dM_keepsTold_206 : decode cM_keepsTold 206 = .ok (.if_icmp .ge 25, 3) := by decide +kernel
theorem dM_keepsTold_231 : decode cM_keepsTold 231 = .ok (.iconst 0, 1) := by decide +kernel
theorem dM_keepsTold_232 : decode cM_keepsTold 232 = .ok (.istore_n 1, 1) := by decide +kernel
theorem dM_keepsTold_233 : decode cM_keepsTold 233 = .ok (.iload_n 1, 1) := by decide +kernel
theorem dM_keepsTold_234 : decode cM_keepsTold 234 = .ok (.bipush 6, 2) := by decide +kernel
theorem dM_keepsTold_236 : decode cM_keepsTold 236 = .ok (.if_icmp .ge 41, 3) := by decide +kernel
theorem dM_keepsTold_277 : decode cM_keepsTold 277 = .ok (.iconst 0, 1) := by decide +kernel
theorem dM_keepsTold_278 : decode cM_keepsTold 278 = .ok (.istore_n 1, 1) := by decide +kernel
theorem dM_keepsTold_279 : decode cM_keepsTold 279 = .ok (.iload_n 1, 1) := by decide +kernel
theorem dM_keepsTold_280 : decode cM_keepsTold 280 = .ok (.bipush 12, 2) := by decide +kernel
theorem dM_keepsTold_282 : decode cM_keepsTold 282 = .ok (.if_icmp .ge 25, 3) := by decide +kernel
theorem dM_keepsTold_307 : decode cM_keepsTold 307 = .ok (.iconst 0, 1) := by decide +kernel
theorem dM_keepsTold_308 : decode cM_keepsTold 308 = .ok (.istore_n 1, 1) := by decide +kernel
theorem dM_keepsTold_309 : decode cM_keepsTold 309 = .ok (.iload_n 1, 1) := by decide +kernel
theorem dM_keepsTold_310 : decode cM_keepsTold 310 = .ok (.iconst 4, 1) := by decide +kernel
theorem dM_keepsTold_311 : decode cM_keepsTold 311 = .ok (.if_icmp .ge 25, 3) := by decide +kernel
theorem dM_keepsTold_336 : decode cM_keepsTold 336 = .ok (.iconst 0, 1) := by decide +kernel
theorem dM_keepsTold_337 : decode cM_keepsTold 337 = .ok (.istore_n 1, 1) := by decide +kernel
theorem dM_keepsTold_338 : decode cM_keepsTold 338 = .ok (.iload_n 1, 1) := by decide +kernel
theorem dM_keepsTold_339 : decode cM_keepsTold 339 = .ok (.bipush 20, 2) := by decide +kernel
theorem dM_keepsTold_341 : decode cM_keepsTold 341 = .ok (.if_icmp .ge 25, 3) := by decide +kernel
theorem dM_keepsTold_366 : decode cM_keepsTold 366 = .ok (.iconst 0, 1) := by decide +kernel
theorem dM_keepsTold_367 : decode cM_keepsTold 367 = .ok (.istore_n 1, 1) := by decide +kernel
theorem dM_keepsTold_368 : decode cM_keepsTold 368 = .ok (.iload_n 1, 1) := by decide +kernel
theorem dM_keepsTold_369 : decode cM_keepsTold 369 = .ok (.bipush 64, 2) := by decide +kernel
theorem dM_keepsTold_371 : decode cM_keepsTold 371 = .ok (.if_icmp .ge 25, 3) := by decide +kernel
theorem dM_keepsTold_396 : decode cM_keepsTold 396 = .ok (.iconst 0, 1) := by decide +kernel
theorem dM_keepsTold_397 : decode cM_keepsTold 397 = .ok (.istore_n 1, 1) := by decide +kernel
theorem dM_keepsTold_398 : decode cM_keepsTold 398 = .ok (.iload_n 1, 1) := by decide +kernel
theorem dM_keepsTold_399 : decode cM_keepsTold 399 = .ok (.bipush 32, 2) := by decide +kernel
theorem dM_keepsTold_401 : decode cM_keepsTold 401 = .ok (.if_icmp .ge 25, 3) := by decide +kernel
theorem dM_keepsTold_426 : decode cM_keepsTold 426 = .ok (.return_, 1) := by decide +kernel
theorem dM_keepsTold_404 : decode cM_keepsTold 404 = .ok (.aload_n 0, 1) := by decide +kernel
theorem dM_keepsTold_405 : decode cM_keepsTold 405 = .ok (.getfield 68, 3) := by decide +kernel
theorem dM_keepsTold_408 : decode cM_keepsTold 408 = .ok (.iload_n 1, 1) := by decide +kernel
theorem dM_keepsTold_409 : decode cM_keepsTold 409 = .ok (.aload_n 0, 1) := by decide +kernel
theorem dM_keepsTold_410 : decode cM_keepsTold 410 = .ok (.aload_n 0, 1) := by decide +kernel
theorem dM_keepsTold_411 : decode cM_keepsTold 411 = .ok (.getfield 68, 3) := by decide +kernel
theorem dM_keepsTold_414 : decode cM_keepsTold 414 = .ok (.iload_n 1, 1) := by decide +kernel
theorem dM_keepsTold_415 : decode cM_keepsTold 415 = .ok (.iaload, 1) := by decide +kernel
theorem dM_keepsTold_416 : decode cM_keepsTold 416 = .ok (.invokevirtual 474, 3) := by decide +kernel
theorem dM_keepsTold_419 : decode cM_keepsTold 419 = .ok (.iastore, 1) := by decide +kernel
theorem dM_keepsTold_420 : decode cM_keepsTold 420 = .ok (.iinc 1 1, 3) := by decide +kernel
theorem dM_keepsTold_423 : decode cM_keepsTold 423 = .ok (.goto (-25), 3) := by decide +kernel
theorem dM_keepsTold_374 : decode cM_keepsTold 374 = .ok (.aload_n 0, 1) := by decide +kernel
theorem dM_keepsTold_375 : decode cM_keepsTold 375 = .ok (.getfield 65, 3) := by decide +kernel
theorem dM_keepsTold_378 : decode cM_keepsTold 378 = .ok (.iload_n 1, 1) := by decide +kernel
theorem dM_keepsTold_379 : decode cM_keepsTold 379 = .ok (.aload_n 0, 1) := by decide +kernel
theorem dM_keepsTold_380 : decode cM_keepsTold 380 = .ok (.aload_n 0, 1) := by decide +kernel
theorem dM_keepsTold_381 : decode cM_keepsTold 381 = .ok (.getfield 65, 3) := by decide +kernel
theorem dM_keepsTold_384 : decode cM_keepsTold 384 = .ok (.iload_n 1, 1) := by decide +kernel
theorem dM_keepsTold_385 : decode cM_keepsTold 385 = .ok (.iaload, 1) := by decide +kernel
theorem dM_keepsTold_386 : decode cM_keepsTold 386 = .ok (.invokevirtual 474, 3) := by decide +kernel
theorem dM_keepsTold_389 : decode cM_keepsTold 389 = .ok (.iastore, 1) := by decide +kernel
theorem dM_keepsTold_390 : decode cM_keepsTold 390 = .ok (.iinc 1 1, 3) := by decide +kernel
theorem dM_keepsTold_393 : decode cM_keepsTold 393 = .ok (.goto (-25), 3) := by decide +kernel
theorem dM_keepsTold_344 : decode cM_keepsTold 344 = .ok (.aload_n 0, 1) := by decide +kernel
theorem dM_keepsTold_345 : decode cM_keepsTold 345 = .ok (.getfield 71, 3) := by decide +kernel
theorem dM_keepsTold_348 : decode cM_keepsTold 348 = .ok (.iload_n 1, 1) := by decide +kernel
theorem dM_keepsTold_349 : decode cM_keepsTold 349 = .ok (.aload_n 0, 1) := by decide +kernel
theorem dM_keepsTold_350 : decode cM_keepsTold 350 = .ok (.aload_n 0, 1) := by decide +kernel
theorem dM_keepsTold_351 : decode cM_keepsTold 351 = .ok (.getfield 71, 3) := by decide +kernel
theorem dM_keepsTold_354 : decode cM_keepsTold 354 = .ok (.iload_n 1, 1) := by decide +kernel
theorem dM_keepsTold_355 : decode cM_keepsTold 355 = .ok (.iaload, 1) := by decide +kernel
theorem dM_keepsTold_356 : decode cM_keepsTold 356 = .ok (.invokevirtual 474, 3) := by decide +kernel
theorem dM_keepsTold_359 : decode cM_keepsTold 359 = .ok (.iastore, 1) := by decide +kernel
theorem dM_keepsTold_360 : decode cM_keepsTold 360 = .ok (.iinc 1 1, 3) := by decide +kernel
theorem dM_keepsTold_363 : decode cM_keepsTold 363 = .ok (.goto (-25), 3) := by decide +kernel
theorem dM_keepsTold_314 : decode cM_keepsTold 314 = .ok (.aload_n 0, 1) := by decide +kernel
theorem dM_keepsTold_315 : decode cM_keepsTold 315 = .ok (.getfield 125, 3) := by decide +kernel
theorem dM_keepsTold_318 : decode cM_keepsTold 318 = .ok (.iload_n 1, 1) := by decide +kernel
theorem dM_keepsTold_319 : decode cM_keepsTold 319 = .ok (.aload_n 0, 1) := by decide +kernel
theorem dM_keepsTold_320 : decode cM_keepsTold 320 = .ok (.aload_n 0, 1) := by decide +kernel
theorem dM_keepsTold_321 : decode cM_keepsTold 321 = .ok (.getfield 125, 3) := by decide +kernel
theorem dM_keepsTold_324 : decode cM_keepsTold 324 = .ok (.iload_n 1, 1) := by decide +kernel
theorem dM_keepsTold_325 : decode cM_keepsTold 325 = .ok (.iaload, 1) := by decide +kernel
theorem dM_keepsTold_326 : decode cM_keepsTold 326 = .ok (.invokevirtual 474, 3) := by decide +kernel
theorem dM_keepsTold_329 : decode cM_keepsTold 329 = .ok (.iastore, 1) := by decide +kernel
theorem dM_keepsTold_330 : decode cM_keepsTold 330 = .ok (.iinc 1 1, 3) := by decide +kernel
theorem dM_keepsTold_333 : decode cM_keepsTold 333 = .ok (.goto (-24), 3) := by decide +kernel
theorem dM_keepsTold_285 : decode cM_keepsTold 285 = .ok (.aload_n 0, 1) := by decide +kernel
theorem dM_keepsTold_286 : decode cM_keepsTold 286 = .ok (.getfield 122, 3) := by decide +kernel
theorem dM_keepsTold_289 : decode cM_keepsTold 289 = .ok (.iload_n 1, 1) := by decide +kernel
theorem dM_keepsTold_290 : decode cM_keepsTold 290 = .ok (.aload_n 0, 1) := by decide +kernel
theorem dM_keepsTold_291 : decode cM_keepsTold 291 = .ok (.aload_n 0, 1) := by decide +kernel
theorem dM_keepsTold_292 : decode cM_keepsTold 292 = .ok (.getfield 122, 3) := by decide +kernel
theorem dM_keepsTold_295 : decode cM_keepsTold 295 = .ok (.iload_n 1, 1) := by decide +kernel
theorem dM_keepsTold_296 : decode cM_keepsTold 296 = .ok (.iaload, 1) := by decide +kernel
theorem dM_keepsTold_297 : decode cM_keepsTold 297 = .ok (.invokevirtual 474, 3) := by decide +kernel
theorem dM_keepsTold_300 : decode cM_keepsTold 300 = .ok (.iastore, 1) := by decide +kernel
theorem dM_keepsTold_301 : decode cM_keepsTold 301 = .ok (.iinc 1 1, 3) := by decide +kernel
theorem dM_keepsTold_304 : decode cM_keepsTold 304 = .ok (.goto (-25), 3) := by decide +kernel
theorem dM_keepsTold_239 : decode cM_keepsTold 239 = .ok (.aload_n 0, 1) := by decide +kernel
theorem dM_keepsTold_240 : decode cM_keepsTold 240 = .ok (.getfield 104, 3) := by decide +kernel
theorem dM_keepsTold_243 : decode cM_keepsTold 243 = .ok (.iload_n 1, 1) := by decide +kernel
theorem dM_keepsTold_244 : decode cM_keepsTold 244 = .ok (.aload_n 0, 1) := by decide +kernel
theorem dM_keepsTold_245 : decode cM_keepsTold 245 = .ok (.aload_n 0, 1) := by decide +kernel
theorem dM_keepsTold_246 : decode cM_keepsTold 246 = .ok (.getfield 104, 3) := by decide +kernel
theorem dM_keepsTold_249 : decode cM_keepsTold 249 = .ok (.iload_n 1, 1) := by decide +kernel
theorem dM_keepsTold_250 : decode cM_keepsTold 250 = .ok (.iaload, 1) := by decide +kernel
theorem dM_keepsTold_251 : decode cM_keepsTold 251 = .ok (.invokevirtual 474, 3) := by decide +kernel
theorem dM_keepsTold_254 : decode cM_keepsTold 254 = .ok (.iastore, 1) := by decide +kernel
theorem dM_keepsTold_255 : decode cM_keepsTold 255 = .ok (.aload_n 0, 1) := by decide +kernel
theorem dM_keepsTold_256 : decode cM_keepsTold 256 = .ok (.getfield 107, 3) := by decide +kernel
theorem dM_keepsTold_259 : decode cM_keepsTold 259 = .ok (.iload_n 1, 1) := by decide +kernel
theorem dM_keepsTold_260 : decode cM_keepsTold 260 = .ok (.aload_n 0, 1) := by decide +kernel
theorem dM_keepsTold_261 : decode cM_keepsTold 261 = .ok (.aload_n 0, 1) := by decide +kernel
theorem dM_keepsTold_262 : decode cM_keepsTold 262 = .ok (.getfield 107, 3) := by decide +kernel
theorem dM_keepsTold_265 : decode cM_keepsTold 265 = .ok (.iload_n 1, 1) := by decide +kernel
theorem dM_keepsTold_266 : decode cM_keepsTold 266 = .ok (.iaload, 1) := by decide +kernel
theorem dM_keepsTold_267 : decode cM_keepsTold 267 = .ok (.invokevirtual 474, 3) := by decide +kernel
theorem dM_keepsTold_270 : decode cM_keepsTold 270 = .ok (.iastore, 1) := by decide +kernel
theorem dM_keepsTold_271 : decode cM_keepsTold 271 = .ok (.iinc 1 1, 3) := by decide +kernel
theorem dM_keepsTold_274 : decode cM_keepsTold 274 = .ok (.goto (-41), 3) := by decide +kernel
theorem dM_keepsTold_209 : decode cM_keepsTold 209 = .ok (.aload_n 0, 1) := by decide +kernel
theorem dM_keepsTold_210 : decode cM_keepsTold 210 = .ok (.getfield 101, 3) := by decide +kernel
theorem dM_keepsTold_213 : decode cM_keepsTold 213 = .ok (.iload_n 1, 1) := by decide +kernel
theorem dM_keepsTold_214 : decode cM_keepsTold 214 = .ok (.aload_n 0, 1) := by decide +kernel
theorem dM_keepsTold_215 : decode cM_keepsTold 215 = .ok (.aload_n 0, 1) := by decide +kernel
theorem dM_keepsTold_216 : decode cM_keepsTold 216 = .ok (.getfield 101, 3) := by decide +kernel
theorem dM_keepsTold_219 : decode cM_keepsTold 219 = .ok (.iload_n 1, 1) := by decide +kernel
theorem dM_keepsTold_220 : decode cM_keepsTold 220 = .ok (.iaload, 1) := by decide +kernel
theorem dM_keepsTold_221 : decode cM_keepsTold 221 = .ok (.invokevirtual 474, 3) := by decide +kernel
theorem dM_keepsTold_224 : decode cM_keepsTold 224 = .ok (.iastore, 1) := by decide +kernel
theorem dM_keepsTold_225 : decode cM_keepsTold 225 = .ok (.iinc 1 1, 3) := by decide +kernel
theorem dM_keepsTold_228 : decode cM_keepsTold 228 = .ok (.goto (-25), 3) := by decide +kernel
theorem dM_keepsTold_179 : decode cM_keepsTold 179 = .ok (.aload_n 0, 1) := by decide +kernel
theorem dM_keepsTold_180 : decode cM_keepsTold 180 = .ok (.getfield 98, 3) := by decide +kernel
theorem dM_keepsTold_183 : decode cM_keepsTold 183 = .ok (.iload_n 1, 1) := by decide +kernel
theorem dM_keepsTold_184 : decode cM_keepsTold 184 = .ok (.aload_n 0, 1) := by decide +kernel
theorem dM_keepsTold_185 : decode cM_keepsTold 185 = .ok (.aload_n 0, 1) := by decide +kernel
theorem dM_keepsTold_186 : decode cM_keepsTold 186 = .ok (.getfield 98, 3) := by decide +kernel
theorem dM_keepsTold_189 : decode cM_keepsTold 189 = .ok (.iload_n 1, 1) := by decide +kernel
theorem dM_keepsTold_190 : decode cM_keepsTold 190 = .ok (.iaload, 1) := by decide +kernel
theorem dM_keepsTold_191 : decode cM_keepsTold 191 = .ok (.invokevirtual 474, 3) := by decide +kernel
theorem dM_keepsTold_194 : decode cM_keepsTold 194 = .ok (.iastore, 1) := by decide +kernel
theorem dM_keepsTold_195 : decode cM_keepsTold 195 = .ok (.iinc 1 1, 3) := by decide +kernel
theorem dM_keepsTold_198 : decode cM_keepsTold 198 = .ok (.goto (-25), 3) := by decide +kernel
theorem dM_keepsTold_149 : decode cM_keepsTold 149 = .ok (.aload_n 0, 1) := by decide +kernel
theorem dM_keepsTold_150 : decode cM_keepsTold 150 = .ok (.getfield 95, 3) := by decide +kernel
theorem dM_keepsTold_153 : decode cM_keepsTold 153 = .ok (.iload_n 1, 1) := by decide +kernel
theorem dM_keepsTold_154 : decode cM_keepsTold 154 = .ok (.aload_n 0, 1) := by decide +kernel
theorem dM_keepsTold_155 : decode cM_keepsTold 155 = .ok (.aload_n 0, 1) := by decide +kernel
theorem dM_keepsTold_156 : decode cM_keepsTold 156 = .ok (.getfield 95, 3) := by decide +kernel
theorem dM_keepsTold_159 : decode cM_keepsTold 159 = .ok (.iload_n 1, 1) := by decide +kernel
theorem dM_keepsTold_160 : decode cM_keepsTold 160 = .ok (.iaload, 1) := by decide +kernel
theorem dM_keepsTold_161 : decode cM_keepsTold 161 = .ok (.invokevirtual 474, 3) := by decide +kernel
theorem dM_keepsTold_164 : decode cM_keepsTold 164 = .ok (.iastore, 1) := by decide +kernel
theorem dM_keepsTold_165 : decode cM_keepsTold 165 = .ok (.iinc 1 1, 3) := by decide +kernel
theorem dM_keepsTold_168 : decode cM_keepsTold 168 = .ok (.goto (-26), 3) := by decide +kernel
theorem dM_keepsTold_102 : decode cM_keepsTold 102 = .ok (.aload_n 0, 1) := by decide +kernel
theorem dM_keepsTold_103 : decode cM_keepsTold 103 = .ok (.getfield 89, 3) := by decide +kernel
theorem dM_keepsTold_106 : decode cM_keepsTold 106 = .ok (.iload_n 1, 1) := by decide +kernel
theorem dM_keepsTold_107 : decode cM_keepsTold 107 = .ok (.aload_n 0, 1) := by decide +kernel
theorem dM_keepsTold_108 : decode cM_keepsTold 108 = .ok (.aload_n 0, 1) := by decide +kernel
theorem dM_keepsTold_109 : decode cM_keepsTold 109 = .ok (.getfield 89, 3) := by decide +kernel
theorem dM_keepsTold_112 : decode cM_keepsTold 112 = .ok (.iload_n 1, 1) := by decide +kernel
theorem dM_keepsTold_113 : decode cM_keepsTold 113 = .ok (.iaload, 1) := by decide +kernel
theorem dM_keepsTold_114 : decode cM_keepsTold 114 = .ok (.invokevirtual 474, 3) := by decide +kernel
theorem dM_keepsTold_117 : decode cM_keepsTold 117 = .ok (.iastore, 1) := by decide +kernel
theorem dM_keepsTold_118 : decode cM_keepsTold 118 = .ok (.aload_n 0, 1) := by decide +kernel
theorem dM_keepsTold_119 : decode cM_keepsTold 119 = .ok (.getfield 92, 3) := by decide +kernel
theorem dM_keepsTold_122 : decode cM_keepsTold 122 = .ok (.iload_n 1, 1) := by decide +kernel
theorem dM_keepsTold_123 : decode cM_keepsTold 123 = .ok (.aload_n 0, 1) := by decide +kernel
theorem dM_keepsTold_124 : decode cM_keepsTold 124 = .ok (.aload_n 0, 1) := by decide +kernel
theorem dM_keepsTold_125 : decode cM_keepsTold 125 = .ok (.getfield 92, 3) := by decide +kernel
theorem dM_keepsTold_128 : decode cM_keepsTold 128 = .ok (.iload_n 1, 1) := by decide +kernel
theorem dM_keepsTold_129 : decode cM_keepsTold 129 = .ok (.iaload, 1) := by decide +kernel
theorem dM_keepsTold_130 : decode cM_keepsTold 130 = .ok (.invokevirtual 474, 3) := by decide +kernel
theorem dM_keepsTold_133 : decode cM_keepsTold 133 = .ok (.iastore, 1) := by decide +kernel
theorem dM_keepsTold_134 : decode cM_keepsTold 134 = .ok (.iinc 1 1, 3) := by decide +kernel
theorem dM_keepsTold_137 : decode cM_keepsTold 137 = .ok (.goto (-41), 3) := by decide +kernel
theorem dM_keepsTold_8 : decode cM_keepsTold 8 = .ok (.aload_n 0, 1) := by decide +kernel
theorem dM_keepsTold_9 : decode cM_keepsTold 9 = .ok (.getfield 19, 3) := by decide +kernel
theorem dM_keepsTold_12 : decode cM_keepsTold 12 = .ok (.iload_n 1, 1) := by decide +kernel
theorem dM_keepsTold_13 : decode cM_keepsTold 13 = .ok (.aload_n 0, 1) := by decide +kernel
theorem dM_keepsTold_14 : decode cM_keepsTold 14 = .ok (.aload_n 0, 1) := by decide +kernel
theorem dM_keepsTold_15 : decode cM_keepsTold 15 = .ok (.getfield 19, 3) := by decide +kernel
theorem dM_keepsTold_18 : decode cM_keepsTold 18 = .ok (.iload_n 1, 1) := by decide +kernel
theorem dM_keepsTold_19 : decode cM_keepsTold 19 = .ok (.iaload, 1) := by decide +kernel
theorem dM_keepsTold_20 : decode cM_keepsTold 20 = .ok (.invokevirtual 474, 3) := by decide +kernel
theorem dM_keepsTold_23 : decode cM_keepsTold 23 = .ok (.iastore, 1) := by decide +kernel
theorem dM_keepsTold_24 : decode cM_keepsTold 24 = .ok (.aload_n 0, 1) := by decide +kernel
theorem dM_keepsTold_25 : decode cM_keepsTold 25 = .ok (.getfield 22, 3) := by decide +kernel
theorem dM_keepsTold_28 : decode cM_keepsTold 28 = .ok (.iload_n 1, 1) := by decide +kernel
theorem dM_keepsTold_29 : decode cM_keepsTold 29 = .ok (.aload_n 0, 1) := by decide +kernel
theorem dM_keepsTold_30 : decode cM_keepsTold 30 = .ok (.aload_n 0, 1) := by decide +kernel
theorem dM_keepsTold_31 : decode cM_keepsTold 31 = .ok (.getfield 22, 3) := by decide +kernel
theorem dM_keepsTold_34 : decode cM_keepsTold 34 = .ok (.iload_n 1, 1) := by decide +kernel
theorem dM_keepsTold_35 : decode cM_keepsTold 35 = .ok (.iaload, 1) := by decide +kernel
theorem dM_keepsTold_36 : decode cM_keepsTold 36 = .ok (.invokevirtual 474, 3) := by decide +kernel
theorem dM_keepsTold_39 : decode cM_keepsTold 39 = .ok (.iastore, 1) := by decide +kernel
theorem dM_keepsTold_40 : decode cM_keepsTold 40 = .ok (.aload_n 0, 1) := by decide +kernel
theorem dM_keepsTold_41 : decode cM_keepsTold 41 = .ok (.getfield 25, 3) := by decide +kernel
theorem dM_keepsTold_44 : decode cM_keepsTold 44 = .ok (.iload_n 1, 1) := by decide +kernel
theorem dM_keepsTold_45 : decode cM_keepsTold 45 = .ok (.aload_n 0, 1) := by decide +kernel
theorem dM_keepsTold_46 : decode cM_keepsTold 46 = .ok (.aload_n 0, 1) := by decide +kernel
theorem dM_keepsTold_47 : decode cM_keepsTold 47 = .ok (.getfield 25, 3) := by decide +kernel
theorem dM_keepsTold_50 : decode cM_keepsTold 50 = .ok (.iload_n 1, 1) := by decide +kernel
theorem dM_keepsTold_51 : decode cM_keepsTold 51 = .ok (.iaload, 1) := by decide +kernel
theorem dM_keepsTold_52 : decode cM_keepsTold 52 = .ok (.invokevirtual 474, 3) := by decide +kernel
theorem dM_keepsTold_55 : decode cM_keepsTold 55 = .ok (.iastore, 1) := by decide +kernel
theorem dM_keepsTold_56 : decode cM_keepsTold 56 = .ok (.aload_n 0, 1) := by decide +kernel
theorem dM_keepsTold_57 : decode cM_keepsTold 57 = .ok (.getfield 83, 3) := by decide +kernel
theorem dM_keepsTold_60 : decode cM_keepsTold 60 = .ok (.iload_n 1, 1) := by decide +kernel
theorem dM_keepsTold_61 : decode cM_keepsTold 61 = .ok (.aload_n 0, 1) := by decide +kernel
theorem dM_keepsTold_62 : decode cM_keepsTold 62 = .ok (.aload_n 0, 1) := by decide +kernel
theorem dM_keepsTold_63 : decode cM_keepsTold 63 = .ok (.getfield 83, 3) := by decide +kernel
theorem dM_keepsTold_66 : decode cM_keepsTold 66 = .ok (.iload_n 1, 1) := by decide +kernel
theorem dM_keepsTold_67 : decode cM_keepsTold 67 = .ok (.iaload, 1) := by decide +kernel
theorem dM_keepsTold_68 : decode cM_keepsTold 68 = .ok (.invokevirtual 474, 3) := by decide +kernel
theorem dM_keepsTold_71 : decode cM_keepsTold 71 = .ok (.iastore, 1) := by decide +kernel
theorem dM_keepsTold_72 : decode cM_keepsTold 72 = .ok (.aload_n 0, 1) := by decide +kernel
theorem dM_keepsTold_73 : decode cM_keepsTold 73 = .ok (.getfield 86, 3) := by decide +kernel
theorem dM_keepsTold_76 : decode cM_keepsTold 76 = .ok (.iload_n 1, 1) := by decide +kernel
theorem dM_keepsTold_77 : decode cM_keepsTold 77 = .ok (.aload_n 0, 1) := by decide +kernel
theorem dM_keepsTold_78 : decode cM_keepsTold 78 = .ok (.aload_n 0, 1) := by decide +kernel
theorem dM_keepsTold_79 : decode cM_keepsTold 79 = .ok (.getfield 86, 3) := by decide +kernel
theorem dM_keepsTold_82 : decode cM_keepsTold 82 = .ok (.iload_n 1, 1) := by decide +kernel
theorem dM_keepsTold_83 : decode cM_keepsTold 83 = .ok (.iaload, 1) := by decide +kernel
theorem dM_keepsTold_84 : decode cM_keepsTold 84 = .ok (.invokevirtual 474, 3) := by decide +kernel
theorem dM_keepsTold_87 : decode cM_keepsTold 87 = .ok (.iastore, 1) := by decide +kernel
theorem dM_keepsTold_88 : decode cM_keepsTold 88 = .ok (.iinc 1 1, 3) := by decide +kernel
theorem dM_keepsTold_91 : decode cM_keepsTold 91 = .ok (.goto (-89), 3) := by decide +kernel
def fM_keepsTold (s0 : Sg) : Option (Sg) := lp FU (fun q2 (u2 : Int32) (s1 : Sg) => if 10 ≤ u2 then (lp FU (fun q96 (u96 : Int32) (s2 : Sg) => if 9 ≤ u96 then (lp FU (fun q142 (u142 : Int32) (s3 : Sg) => if 200 ≤ u142 then (lp FU (fun q173 (u173 : Int32) (s4 : Sg) => if 8 ≤ u173 then (lp FU (fun q203 (u203 : Int32) (s5 : Sg) => if 40 ≤ u203 then (lp FU (fun q233 (u233 : Int32) (s6 : Sg) => if 6 ≤ u233 then (lp FU (fun q279 (u279 : Int32) (s7 : Sg) => if 12 ≤ u279 then (lp FU (fun q309 (u309 : Int32) (s8 : Sg) => if 4 ≤ u309 then (lp FU (fun q338 (u338 : Int32) (s9 : Sg) => if 20 ≤ u338 then (lp FU (fun q368 (u368 : Int32) (s10 : Sg) => if 64 ≤ u368 then (lp FU (fun q398 (u398 : Int32) (s11 : Sg) => if 32 ≤ u398 then (some s11) else (gd u398 64 (bi (fM_keptOf (s11 121 (ix u398)) s11) fun r13 s12 => gd u398 64 (bnd (pt s12 121 (ix u398) r13) fun s14 => q398 (u398 + 1) s14)))) 0 s10) else (gd u368 128 (bi (fM_keptOf (s10 120 (ix u368)) s10) fun r16 s15 => gd u368 128 (bnd (pt s15 120 (ix u368) r16) fun s17 => q368 (u368 + 1) s17)))) 0 s9) else (gd u338 40 (bi (fM_keptOf (s9 122 (ix u338)) s9) fun r19 s18 => gd u338 40 (bnd (pt s18 122 (ix u338) r19) fun s20 => q338 (u338 + 1) s20)))) 0 s8) else (gd u309 4 (bi (fM_keptOf (s8 139 (ix u309)) s8) fun r22 s21 => gd u309 4 (bnd (pt s21 139 (ix u309) r22) fun s23 => q309 (u309 + 1) s23)))) 0 s7) else (gd u279 12 (bi (fM_keptOf (s7 138 (ix u279)) s7) fun r25 s24 => gd u279 12 (bnd (pt s24 138 (ix u279) r25) fun s26 => q279 (u279 + 1) s26)))) 0 s6) else (gd u233 6 (bi (fM_keptOf (s6 133 (ix u233)) s6) fun r28 s27 => gd u233 6 (bnd (pt s27 133 (ix u233) r28) fun s29 => gd u233 6 (bi (fM_keptOf (s29 134 (ix u233)) s29) fun r31 s30 => gd u233 6 (bnd (pt s30 134 (ix u233) r31) fun s32 => q233 (u233 + 1) s32)))))) 0 s5) else (gd u203 40 (bi (fM_keptOf (s5 132 (ix u203)) s5) fun r34 s33 => gd u203 40 (bnd (pt s33 132 (ix u203) r34) fun s35 => q203 (u203 + 1) s35)))) 0 s4) else (gd u173 8 (bi (fM_keptOf (s4 131 (ix u173)) s4) fun r37 s36 => gd u173 8 (bnd (pt s36 131 (ix u173) r37) fun s38 => q173 (u173 + 1) s38)))) 0 s3) else (gd u142 200 (bi (fM_keptOf (s3 130 (ix u142)) s3) fun r40 s39 => gd u142 200 (bnd (pt s39 130 (ix u142) r40) fun s41 => q142 (u142 + 1) s41)))) 0 s2) else (gd u96 9 (bi (fM_keptOf (s2 128 (ix u96)) s2) fun r43 s42 => gd u96 9 (bnd (pt s42 128 (ix u96) r43) fun s44 => gd u96 9 (bi (fM_keptOf (s44 129 (ix u96)) s44) fun r46 s45 => gd u96 9 (bnd (pt s45 129 (ix u96) r46) fun s47 => q96 (u96 + 1) s47)))))) 0 s1) else (gd u2 10 (bi (fM_keptOf (s1 106 (ix u2)) s1) fun r49 s48 => gd u2 10 (bnd (pt s48 106 (ix u2) r49) fun s50 => gd u2 10 (bi (fM_keptOf (s50 107 (ix u2)) s50) fun r52 s51 => gd u2 10 (bnd (pt s51 107 (ix u2) r52) fun s53 => gd u2 10 (bi (fM_keptOf (s53 108 (ix u2)) s53) fun r55 s54 => gd u2 10 (bnd (pt s54 108 (ix u2) r55) fun s56 => gd u2 10 (bi (fM_keptOf (s56 126 (ix u2)) s56) fun r58 s57 => gd u2 10 (bnd (pt s57 126 (ix u2) r58) fun s59 => gd u2 10 (bi (fM_keptOf (s59 127 (ix u2)) s59) fun r61 s60 => gd u2 10 (bnd (pt s60 127 (ix u2) r61) fun s62 => q2 (u2 + 1) s62)))))))))))) 0 s0
set_option maxHeartbeats 4000000 in
set_option maxRecDepth 100000 in
theorem okM_keepsTold (s0 : Sg) : ∀ (l : Launch) (w : WC), Ok l w yM_keepsTold cM_keepsTold 2 none 2 evV [.ref (w.ad 102)] s0 (fM_keepsTold s0) := by
  refine ok_in (ev := fun _ => evV) (av := fun w => [.ref (w.ad 102)]) "LastWordHillModel" rfl (by decide +kernel) (fun _ => rfl) (fun _ => Nat.le_of_ble_eq_true rfl) ?_
  intro C X E
  show GF C evV 0 [some (.ref (C.w.ad 102)), none] [] s0 (fM_keepsTold s0)
  unfold fM_keepsTold
  refine g_iconst X 0 dM_keepsTold_0 (by decide) ?_
  refine g_istore_n X [some (.ref (C.w.ad 102)), some (.int 0)] dM_keepsTold_1 (by decide) (Nat.le_of_ble_eq_true rfl) rfl ?_
  refine gf_sub (L' := [some (.ref (C.w.ad 102)), some (.int 0)]) ?_ (by simp [lsub])
  refine gf_lp (Lf := fun (u2 : Int32) => [some (.ref (C.w.ad 102)), some (.int u2)]) (fun q2 hq2 u2 s1 => ?_) FU 0 s0
  refine g_iload_n X dM_keepsTold_2 rfl ?_
  refine g_bipush X 10 dM_keepsTold_3 (by decide) ?_
  refine g_cge X (tgt := 94) dM_keepsTold_5 (by decide) ?_ ?_
  · refine g_iconst X 0 dM_keepsTold_94 (by decide) ?_
    refine g_istore_n X [some (.ref (C.w.ad 102)), some (.int 0)] dM_keepsTold_95 (by decide) (Nat.le_of_ble_eq_true rfl) rfl ?_
    refine gf_sub (L' := [some (.ref (C.w.ad 102)), some (.int 0)]) ?_ (by simp [lsub])
    refine gf_lp (Lf := fun (u96 : Int32) => [some (.ref (C.w.ad 102)), some (.int u96)]) (fun q96 hq96 u96 s2 => ?_) FU 0 s1
    refine g_iload_n X dM_keepsTold_96 rfl ?_
    refine g_bipush X 9 dM_keepsTold_97 (by decide) ?_
    refine g_cge X (tgt := 140) dM_keepsTold_99 (by decide) ?_ ?_
    · refine g_iconst X 0 dM_keepsTold_140 (by decide) ?_
      refine g_istore_n X [some (.ref (C.w.ad 102)), some (.int 0)] dM_keepsTold_141 (by decide) (Nat.le_of_ble_eq_true rfl) rfl ?_
      refine gf_sub (L' := [some (.ref (C.w.ad 102)), some (.int 0)]) ?_ (by simp [lsub])
      refine gf_lp (Lf := fun (u142 : Int32) => [some (.ref (C.w.ad 102)), some (.int u142)]) (fun q142 hq142 u142 s3 => ?_) FU 0 s2
      refine g_iload_n X dM_keepsTold_142 rfl ?_
      refine g_sipush X 200 dM_keepsTold_143 (by decide) ?_
      refine g_cge X (tgt := 171) dM_keepsTold_146 (by decide) ?_ ?_
      · refine g_iconst X 0 dM_keepsTold_171 (by decide) ?_
        refine g_istore_n X [some (.ref (C.w.ad 102)), some (.int 0)] dM_keepsTold_172 (by decide) (Nat.le_of_ble_eq_true rfl) rfl ?_
        refine gf_sub (L' := [some (.ref (C.w.ad 102)), some (.int 0)]) ?_ (by simp [lsub])
        refine gf_lp (Lf := fun (u173 : Int32) => [some (.ref (C.w.ad 102)), some (.int u173)]) (fun q173 hq173 u173 s4 => ?_) FU 0 s3
        refine g_iload_n X dM_keepsTold_173 rfl ?_
        refine g_bipush X 8 dM_keepsTold_174 (by decide) ?_
        refine g_cge X (tgt := 201) dM_keepsTold_176 (by decide) ?_ ?_
        · refine g_iconst X 0 dM_keepsTold_201 (by decide) ?_
          refine g_istore_n X [some (.ref (C.w.ad 102)), some (.int 0)] dM_keepsTold_202 (by decide) (Nat.le_of_ble_eq_true rfl) rfl ?_
          refine gf_sub (L' := [some (.ref (C.w.ad 102)), some (.int 0)]) ?_ (by simp [lsub])
          refine gf_lp (Lf := fun (u203 : Int32) => [some (.ref (C.w.ad 102)), some (.int u203)]) (fun q203 hq203 u203 s5 => ?_) FU 0 s4
          refine g_iload_n X dM_keepsTold_203 rfl ?_
          refine g_bipush X 40 dM_keepsTold_204 (by decide) ?_
          refine g_cge X (tgt := 231) dM_keepsTold_206 (by decide) ?_ ?_
          · refine g_iconst X 0 dM_keepsTold_231 (by decide) ?_
            refine g_istore_n X [some (.ref (C.w.ad 102)), some (.int 0)] dM_keepsTold_232 (by decide) (Nat.le_of_ble_eq_true rfl) rfl ?_
            refine gf_sub (L' := [some (.ref (C.w.ad 102)), some (.int 0)]) ?_ (by simp [lsub])
            refine gf_lp (Lf := fun (u233 : Int32) => [some (.ref (C.w.ad 102)), some (.int u233)]) (fun q233 hq233 u233 s6 => ?_) FU 0 s5
            refine g_iload_n X dM_keepsTold_233 rfl ?_
            refine g_bipush X 6 dM_keepsTold_234 (by decide) ?_
            refine g_cge X (tgt := 277) dM_keepsTold_236 (by decide) ?_ ?_
            · refine g_iconst X 0 dM_keepsTold_277 (by decide) ?_
              refine g_istore_n X [some (.ref (C.w.ad 102)), some (.int 0)] dM_keepsTold_278 (by decide) (Nat.le_of_ble_eq_true rfl) rfl ?_
              refine gf_sub (L' := [some (.ref (C.w.ad 102)), some (.int 0)]) ?_ (by simp [lsub])
              refine gf_lp (Lf := fun (u279 : Int32) => [some (.ref (C.w.ad 102)), some (.int u279)]) (fun q279 hq279 u279 s7 => ?_) FU 0 s6
              refine g_iload_n X dM_keepsTold_279 rfl ?_
              refine g_bipush X 12 dM_keepsTold_280 (by decide) ?_
              refine g_cge X (tgt := 307) dM_keepsTold_282 (by decide) ?_ ?_
              · refine g_iconst X 0 dM_keepsTold_307 (by decide) ?_
                refine g_istore_n X [some (.ref (C.w.ad 102)), some (.int 0)] dM_keepsTold_308 (by decide) (Nat.le_of_ble_eq_true rfl) rfl ?_
                refine gf_sub (L' := [some (.ref (C.w.ad 102)), some (.int 0)]) ?_ (by simp [lsub])
                refine gf_lp (Lf := fun (u309 : Int32) => [some (.ref (C.w.ad 102)), some (.int u309)]) (fun q309 hq309 u309 s8 => ?_) FU 0 s7
                refine g_iload_n X dM_keepsTold_309 rfl ?_
                refine g_iconst X 4 dM_keepsTold_310 (by decide) ?_
                refine g_cge X (tgt := 336) dM_keepsTold_311 (by decide) ?_ ?_
                · refine g_iconst X 0 dM_keepsTold_336 (by decide) ?_
                  refine g_istore_n X [some (.ref (C.w.ad 102)), some (.int 0)] dM_keepsTold_337 (by decide) (Nat.le_of_ble_eq_true rfl) rfl ?_
                  refine gf_sub (L' := [some (.ref (C.w.ad 102)), some (.int 0)]) ?_ (by simp [lsub])
                  refine gf_lp (Lf := fun (u338 : Int32) => [some (.ref (C.w.ad 102)), some (.int u338)]) (fun q338 hq338 u338 s9 => ?_) FU 0 s8
                  refine g_iload_n X dM_keepsTold_338 rfl ?_
                  refine g_bipush X 20 dM_keepsTold_339 (by decide) ?_
                  refine g_cge X (tgt := 366) dM_keepsTold_341 (by decide) ?_ ?_
                  · refine g_iconst X 0 dM_keepsTold_366 (by decide) ?_
                    refine g_istore_n X [some (.ref (C.w.ad 102)), some (.int 0)] dM_keepsTold_367 (by decide) (Nat.le_of_ble_eq_true rfl) rfl ?_
                    refine gf_sub (L' := [some (.ref (C.w.ad 102)), some (.int 0)]) ?_ (by simp [lsub])
                    refine gf_lp (Lf := fun (u368 : Int32) => [some (.ref (C.w.ad 102)), some (.int u368)]) (fun q368 hq368 u368 s10 => ?_) FU 0 s9
                    refine g_iload_n X dM_keepsTold_368 rfl ?_
                    refine g_bipush X 64 dM_keepsTold_369 (by decide) ?_
                    refine g_cge X (tgt := 396) dM_keepsTold_371 (by decide) ?_ ?_
                    · refine g_iconst X 0 dM_keepsTold_396 (by decide) ?_
                      refine g_istore_n X [some (.ref (C.w.ad 102)), some (.int 0)] dM_keepsTold_397 (by decide) (Nat.le_of_ble_eq_true rfl) rfl ?_
                      refine gf_sub (L' := [some (.ref (C.w.ad 102)), some (.int 0)]) ?_ (by simp [lsub])
                      refine gf_lp (Lf := fun (u398 : Int32) => [some (.ref (C.w.ad 102)), some (.int u398)]) (fun q398 hq398 u398 s11 => ?_) FU 0 s10
                      refine g_iload_n X dM_keepsTold_398 rfl ?_
                      refine g_bipush X 32 dM_keepsTold_399 (by decide) ?_
                      refine g_cge X (tgt := 426) dM_keepsTold_401 (by decide) ?_ ?_
                      · exact g_vret X E dM_keepsTold_426
                      · refine g_aload_n X dM_keepsTold_404 rfl ?_
                        refine g_getN X fl_M_68 fb_12_37 k_102 r_102_37 dM_keepsTold_405 ?_
                        refine g_iload_n X dM_keepsTold_408 rfl ?_
                        refine g_aload_n X dM_keepsTold_409 rfl ?_
                        refine g_aload_n X dM_keepsTold_410 rfl ?_
                        refine g_getN X fl_M_68 fb_12_37 k_102 r_102_37 dM_keepsTold_411 ?_
                        refine g_iload_n X dM_keepsTold_414 rfl ?_
                        refine g_iald X k_121 ln_121 dM_keepsTold_415 ?_
                        refine g_virtI X [.int (s11 121 (ix u398))] [.int u398, .ref (C.w.ad 121)] k_102 mm_M_keptOf mv_M_keptOf ml_M_474 (okM_keptOf (s11 121 (ix u398)) s11 C.l C.w) rfl (by decide) rfl (Nat.le_of_ble_eq_true rfl) dM_keepsTold_416 (fun r13 s12 => ?_)
                        refine g_iast X k_121 ln_121 dM_keepsTold_419 (fun s14 => ?_)
                        refine g_iinc X (u398 + 1) [some (.ref (C.w.ad 102)), some (.int (u398 + 1))] dM_keepsTold_420 rfl rfl (by decide) rfl ?_
                        refine g_goto X 398 dM_keepsTold_423 (by decide) ?_
                        exact gf_sub (hq398 (u398 + 1) s14) (by simp [lsub])
                    · refine g_aload_n X dM_keepsTold_374 rfl ?_
                      refine g_getN X fl_M_65 fb_12_35 k_102 r_102_35 dM_keepsTold_375 ?_
                      refine g_iload_n X dM_keepsTold_378 rfl ?_
                      refine g_aload_n X dM_keepsTold_379 rfl ?_
                      refine g_aload_n X dM_keepsTold_380 rfl ?_
                      refine g_getN X fl_M_65 fb_12_35 k_102 r_102_35 dM_keepsTold_381 ?_
                      refine g_iload_n X dM_keepsTold_384 rfl ?_
                      refine g_iald X k_120 ln_120 dM_keepsTold_385 ?_
                      refine g_virtI X [.int (s10 120 (ix u368))] [.int u368, .ref (C.w.ad 120)] k_102 mm_M_keptOf mv_M_keptOf ml_M_474 (okM_keptOf (s10 120 (ix u368)) s10 C.l C.w) rfl (by decide) rfl (Nat.le_of_ble_eq_true rfl) dM_keepsTold_386 (fun r16 s15 => ?_)
                      refine g_iast X k_120 ln_120 dM_keepsTold_389 (fun s17 => ?_)
                      refine g_iinc X (u368 + 1) [some (.ref (C.w.ad 102)), some (.int (u368 + 1))] dM_keepsTold_390 rfl rfl (by decide) rfl ?_
                      refine g_goto X 368 dM_keepsTold_393 (by decide) ?_
                      exact gf_sub (hq368 (u368 + 1) s17) (by simp [lsub])
                  · refine g_aload_n X dM_keepsTold_344 rfl ?_
                    refine g_getN X fl_M_71 fb_12_39 k_102 r_102_39 dM_keepsTold_345 ?_
                    refine g_iload_n X dM_keepsTold_348 rfl ?_
                    refine g_aload_n X dM_keepsTold_349 rfl ?_
                    refine g_aload_n X dM_keepsTold_350 rfl ?_
                    refine g_getN X fl_M_71 fb_12_39 k_102 r_102_39 dM_keepsTold_351 ?_
                    refine g_iload_n X dM_keepsTold_354 rfl ?_
                    refine g_iald X k_122 ln_122 dM_keepsTold_355 ?_
                    refine g_virtI X [.int (s9 122 (ix u338))] [.int u338, .ref (C.w.ad 122)] k_102 mm_M_keptOf mv_M_keptOf ml_M_474 (okM_keptOf (s9 122 (ix u338)) s9 C.l C.w) rfl (by decide) rfl (Nat.le_of_ble_eq_true rfl) dM_keepsTold_356 (fun r19 s18 => ?_)
                    refine g_iast X k_122 ln_122 dM_keepsTold_359 (fun s20 => ?_)
                    refine g_iinc X (u338 + 1) [some (.ref (C.w.ad 102)), some (.int (u338 + 1))] dM_keepsTold_360 rfl rfl (by decide) rfl ?_
                    refine g_goto X 338 dM_keepsTold_363 (by decide) ?_
                    exact gf_sub (hq338 (u338 + 1) s20) (by simp [lsub])
                · refine g_aload_n X dM_keepsTold_314 rfl ?_
                  refine g_getN X fl_M_125 fb_12_64 k_102 r_102_64 dM_keepsTold_315 ?_
                  refine g_iload_n X dM_keepsTold_318 rfl ?_
                  refine g_aload_n X dM_keepsTold_319 rfl ?_
                  refine g_aload_n X dM_keepsTold_320 rfl ?_
                  refine g_getN X fl_M_125 fb_12_64 k_102 r_102_64 dM_keepsTold_321 ?_
                  refine g_iload_n X dM_keepsTold_324 rfl ?_
                  refine g_iald X k_139 ln_139 dM_keepsTold_325 ?_
                  refine g_virtI X [.int (s8 139 (ix u309))] [.int u309, .ref (C.w.ad 139)] k_102 mm_M_keptOf mv_M_keptOf ml_M_474 (okM_keptOf (s8 139 (ix u309)) s8 C.l C.w) rfl (by decide) rfl (Nat.le_of_ble_eq_true rfl) dM_keepsTold_326 (fun r22 s21 => ?_)
                  refine g_iast X k_139 ln_139 dM_keepsTold_329 (fun s23 => ?_)
                  refine g_iinc X (u309 + 1) [some (.ref (C.w.ad 102)), some (.int (u309 + 1))] dM_keepsTold_330 rfl rfl (by decide) rfl ?_
                  refine g_goto X 309 dM_keepsTold_333 (by decide) ?_
                  exact gf_sub (hq309 (u309 + 1) s23) (by simp [lsub])
              · refine g_aload_n X dM_keepsTold_285 rfl ?_
                refine g_getN X fl_M_122 fb_12_63 k_102 r_102_63 dM_keepsTold_286 ?_
                refine g_iload_n X dM_keepsTold_289 rfl ?_
                refine g_aload_n X dM_keepsTold_290 rfl ?_
                refine g_aload_n X dM_keepsTold_291 rfl ?_
                refine g_getN X fl_M_122 fb_12_63 k_102 r_102_63 dM_keepsTold_292 ?_
                refine g_iload_n X dM_keepsTold_295 rfl ?_
                refine g_iald X k_138 ln_138 dM_keepsTold_296 ?_
                refine g_virtI X [.int (s7 138 (ix u279))] [.int u279, .ref (C.w.ad 138)] k_102 mm_M_keptOf mv_M_keptOf ml_M_474 (okM_keptOf (s7 138 (ix u279)) s7 C.l C.w) rfl (by decide) rfl (Nat.le_of_ble_eq_true rfl) dM_keepsTold_297 (fun r25 s24 => ?_)
                refine g_iast X k_138 ln_138 dM_keepsTold_300 (fun s26 => ?_)
                refine g_iinc X (u279 + 1) [some (.ref (C.w.ad 102)), some (.int (u279 + 1))] dM_keepsTold_301 rfl rfl (by decide) rfl ?_
                refine g_goto X 279 dM_keepsTold_304 (by decide) ?_
                exact gf_sub (hq279 (u279 + 1) s26) (by simp [lsub])
            · refine g_aload_n X dM_keepsTold_239 rfl ?_
              refine g_getN X fl_M_104 fb_12_54 k_102 r_102_54 dM_keepsTold_240 ?_
              refine g_iload_n X dM_keepsTold_243 rfl ?_
              refine g_aload_n X dM_keepsTold_244 rfl ?_
              refine g_aload_n X dM_keepsTold_245 rfl ?_
              refine g_getN X fl_M_104 fb_12_54 k_102 r_102_54 dM_keepsTold_246 ?_
              refine g_iload_n X dM_keepsTold_249 rfl ?_
              refine g_iald X k_133 ln_133 dM_keepsTold_250 ?_
              refine g_virtI X [.int (s6 133 (ix u233))] [.int u233, .ref (C.w.ad 133)] k_102 mm_M_keptOf mv_M_keptOf ml_M_474 (okM_keptOf (s6 133 (ix u233)) s6 C.l C.w) rfl (by decide) rfl (Nat.le_of_ble_eq_true rfl) dM_keepsTold_251 (fun r28 s27 => ?_)
              refine g_iast X k_133 ln_133 dM_keepsTold_254 (fun s29 => ?_)
              refine g_aload_n X dM_keepsTold_255 rfl ?_
              refine g_getN X fl_M_107 fb_12_55 k_102 r_102_55 dM_keepsTold_256 ?_
              refine g_iload_n X dM_keepsTold_259 rfl ?_
              refine g_aload_n X dM_keepsTold_260 rfl ?_
              refine g_aload_n X dM_keepsTold_261 rfl ?_
              refine g_getN X fl_M_107 fb_12_55 k_102 r_102_55 dM_keepsTold_262 ?_
              refine g_iload_n X dM_keepsTold_265 rfl ?_
              refine g_iald X k_134 ln_134 dM_keepsTold_266 ?_
              refine g_virtI X [.int (s29 134 (ix u233))] [.int u233, .ref (C.w.ad 134)] k_102 mm_M_keptOf mv_M_keptOf ml_M_474 (okM_keptOf (s29 134 (ix u233)) s29 C.l C.w) rfl (by decide) rfl (Nat.le_of_ble_eq_true rfl) dM_keepsTold_267 (fun r31 s30 => ?_)
              refine g_iast X k_134 ln_134 dM_keepsTold_270 (fun s32 => ?_)
              refine g_iinc X (u233 + 1) [some (.ref (C.w.ad 102)), some (.int (u233 + 1))] dM_keepsTold_271 rfl rfl (by decide) rfl ?_
              refine g_goto X 233 dM_keepsTold_274 (by decide) ?_
              exact gf_sub (hq233 (u233 + 1) s32) (by simp [lsub])
          · refine g_aload_n X dM_keepsTold_209 rfl ?_
            refine g_getN X fl_M_101 fb_12_52 k_102 r_102_52 dM_keepsTold_210 ?_
            refine g_iload_n X dM_keepsTold_213 rfl ?_
            refine g_aload_n X dM_keepsTold_214 rfl ?_
            refine g_aload_n X dM_keepsTold_215 rfl ?_
            refine g_getN X fl_M_101 fb_12_52 k_102 r_102_52 dM_keepsTold_216 ?_
            refine g_iload_n X dM_keepsTold_219 rfl ?_
            refine g_iald X k_132 ln_132 dM_keepsTold_220 ?_
            refine g_virtI X [.int (s5 132 (ix u203))] [.int u203, .ref (C.w.ad 132)] k_102 mm_M_keptOf mv_M_keptOf ml_M_474 (okM_keptOf (s5 132 (ix u203)) s5 C.l C.w) rfl (by decide) rfl (Nat.le_of_ble_eq_true rfl) dM_keepsTold_221 (fun r34 s33 => ?_)
            refine g_iast X k_132 ln_132 dM_keepsTold_224 (fun s35 => ?_)
            refine g_iinc X (u203 + 1) [some (.ref (C.w.ad 102)), some (.int (u203 + 1))] dM_keepsTold_225 rfl rfl (by decide) rfl ?_
            refine g_goto X 203 dM_keepsTold_228 (by decide) ?_
            exact gf_sub (hq203 (u203 + 1) s35) (by simp [lsub])
        · refine g_aload_n X dM_keepsTold_179 rfl ?_
          refine g_getN X fl_M_98 fb_12_51 k_102 r_102_51 dM_keepsTold_180 ?_
          refine g_iload_n X dM_keepsTold_183 rfl ?_
          refine g_aload_n X dM_keepsTold_184 rfl ?_
          refine g_aload_n X dM_keepsTold_185 rfl ?_
          refine g_getN X fl_M_98 fb_12_51 k_102 r_102_51 dM_keepsTold_186 ?_
          refine g_iload_n X dM_keepsTold_189 rfl ?_
          refine g_iald X k_131 ln_131 dM_keepsTold_190 ?_
          refine g_virtI X [.int (s4 131 (ix u173))] [.int u173, .ref (C.w.ad 131)] k_102 mm_M_keptOf mv_M_keptOf ml_M_474 (okM_keptOf (s4 131 (ix u173)) s4 C.l C.w) rfl (by decide) rfl (Nat.le_of_ble_eq_true rfl) dM_keepsTold_191 (fun r37 s36 => ?_)
          refine g_iast X k_131 ln_131 dM_keepsTold_194 (fun s38 => ?_)
          refine g_iinc X (u173 + 1) [some (.ref (C.w.ad 102)), some (.int (u173 + 1))] dM_keepsTold_195 rfl rfl (by decide) rfl ?_
          refine g_goto X 173 dM_keepsTold_198 (by decide) ?_
          exact gf_sub (hq173 (u173 + 1) s38) (by simp [lsub])
      · refine g_aload_n X dM_keepsTold_149 rfl ?_
        refine g_getN X fl_M_95 fb_12_50 k_102 r_102_50 dM_keepsTold_150 ?_
        refine g_iload_n X dM_keepsTold_153 rfl ?_
        refine g_aload_n X dM_keepsTold_154 rfl ?_
        refine g_aload_n X dM_keepsTold_155 rfl ?_
        refine g_getN X fl_M_95 fb_12_50 k_102 r_102_50 dM_keepsTold_156 ?_
        refine g_iload_n X dM_keepsTold_159 rfl ?_
        refine g_iald X k_130 ln_130 dM_keepsTold_160 ?_
        refine g_virtI X [.int (s3 130 (ix u142))] [.int u142, .ref (C.w.ad 130)] k_102 mm_M_keptOf mv_M_keptOf ml_M_474 (okM_keptOf (s3 130 (ix u142)) s3 C.l C.w) rfl (by decide) rfl (Nat.le_of_ble_eq_true rfl) dM_keepsTold_161 (fun r40 s39 => ?_)
        refine g_iast X k_130 ln_130 dM_keepsTold_164 (fun s41 => ?_)
        refine g_iinc X (u142 + 1) [some (.ref (C.w.ad 102)), some (.int (u142 + 1))] dM_keepsTold_165 rfl rfl (by decide) rfl ?_
        refine g_goto X 142 dM_keepsTold_168 (by decide) ?_
        exact gf_sub (hq142 (u142 + 1) s41) (by simp [lsub])
    · refine g_aload_n X dM_keepsTold_102 rfl ?_
      refine g_getN X fl_M_89 fb_12_47 k_102 r_102_47 dM_keepsTold_103 ?_
      refine g_iload_n X dM_keepsTold_106 rfl ?_
      refine g_aload_n X dM_keepsTold_107 rfl ?_
      refine g_aload_n X dM_keepsTold_108 rfl ?_
      refine g_getN X fl_M_89 fb_12_47 k_102 r_102_47 dM_keepsTold_109 ?_
      refine g_iload_n X dM_keepsTold_112 rfl ?_
      refine g_iald X k_128 ln_128 dM_keepsTold_113 ?_
      refine g_virtI X [.int (s2 128 (ix u96))] [.int u96, .ref (C.w.ad 128)] k_102 mm_M_keptOf mv_M_keptOf ml_M_474 (okM_keptOf (s2 128 (ix u96)) s2 C.l C.w) rfl (by decide) rfl (Nat.le_of_ble_eq_true rfl) dM_keepsTold_114 (fun r43 s42 => ?_)
      refine g_iast X k_128 ln_128 dM_keepsTold_117 (fun s44 => ?_)
      refine g_aload_n X dM_keepsTold_118 rfl ?_
      refine g_getN X fl_M_92 fb_12_48 k_102 r_102_48 dM_keepsTold_119 ?_
      refine g_iload_n X dM_keepsTold_122 rfl ?_
      refine g_aload_n X dM_keepsTold_123 rfl ?_
      refine g_aload_n X dM_keepsTold_124 rfl ?_
      refine g_getN X fl_M_92 fb_12_48 k_102 r_102_48 dM_keepsTold_125 ?_
      refine g_iload_n X dM_keepsTold_128 rfl ?_
      refine g_iald X k_129 ln_129 dM_keepsTold_129 ?_
      refine g_virtI X [.int (s44 129 (ix u96))] [.int u96, .ref (C.w.ad 129)] k_102 mm_M_keptOf mv_M_keptOf ml_M_474 (okM_keptOf (s44 129 (ix u96)) s44 C.l C.w) rfl (by decide) rfl (Nat.le_of_ble_eq_true rfl) dM_keepsTold_130 (fun r46 s45 => ?_)
      refine g_iast X k_129 ln_129 dM_keepsTold_133 (fun s47 => ?_)
      refine g_iinc X (u96 + 1) [some (.ref (C.w.ad 102)), some (.int (u96 + 1))] dM_keepsTold_134 rfl rfl (by decide) rfl ?_
      refine g_goto X 96 dM_keepsTold_137 (by decide) ?_
      exact gf_sub (hq96 (u96 + 1) s47) (by simp [lsub])
  · refine g_aload_n X dM_keepsTold_8 rfl ?_
    refine g_getN X fl_M_19 fb_12_7 k_102 r_102_7 dM_keepsTold_9 ?_
    refine g_iload_n X dM_keepsTold_12 rfl ?_
    refine g_aload_n X dM_keepsTold_13 rfl ?_
    refine g_aload_n X dM_keepsTold_14 rfl ?_
    refine g_getN X fl_M_19 fb_12_7 k_102 r_102_7 dM_keepsTold_15 ?_
    refine g_iload_n X dM_keepsTold_18 rfl ?_
    refine g_iald X k_106 ln_106 dM_keepsTold_19 ?_
    refine g_virtI X [.int (s1 106 (ix u2))] [.int u2, .ref (C.w.ad 106)] k_102 mm_M_keptOf mv_M_keptOf ml_M_474 (okM_keptOf (s1 106 (ix u2)) s1 C.l C.w) rfl (by decide) rfl (Nat.le_of_ble_eq_true rfl) dM_keepsTold_20 (fun r49 s48 => ?_)
    refine g_iast X k_106 ln_106 dM_keepsTold_23 (fun s50 => ?_)
    refine g_aload_n X dM_keepsTold_24 rfl ?_
    refine g_getN X fl_M_22 fb_12_8 k_102 r_102_8 dM_keepsTold_25 ?_
    refine g_iload_n X dM_keepsTold_28 rfl ?_
    refine g_aload_n X dM_keepsTold_29 rfl ?_
    refine g_aload_n X dM_keepsTold_30 rfl ?_
    refine g_getN X fl_M_22 fb_12_8 k_102 r_102_8 dM_keepsTold_31 ?_
    refine g_iload_n X dM_keepsTold_34 rfl ?_
    refine g_iald X k_107 ln_107 dM_keepsTold_35 ?_
    refine g_virtI X [.int (s50 107 (ix u2))] [.int u2, .ref (C.w.ad 107)] k_102 mm_M_keptOf mv_M_keptOf ml_M_474 (okM_keptOf (s50 107 (ix u2)) s50 C.l C.w) rfl (by decide) rfl (Nat.le_of_ble_eq_true rfl) dM_keepsTold_36 (fun r52 s51 => ?_)
    refine g_iast X k_107 ln_107 dM_keepsTold_39 (fun s53 => ?_)
    refine g_aload_n X dM_keepsTold_40 rfl ?_
    refine g_getN X fl_M_25 fb_12_9 k_102 r_102_9 dM_keepsTold_41 ?_
    refine g_iload_n X dM_keepsTold_44 rfl ?_
    refine g_aload_n X dM_keepsTold_45 rfl ?_
    refine g_aload_n X dM_keepsTold_46 rfl ?_
    refine g_getN X fl_M_25 fb_12_9 k_102 r_102_9 dM_keepsTold_47 ?_
    refine g_iload_n X dM_keepsTold_50 rfl ?_
    refine g_iald X k_108 ln_108 dM_keepsTold_51 ?_
    refine g_virtI X [.int (s53 108 (ix u2))] [.int u2, .ref (C.w.ad 108)] k_102 mm_M_keptOf mv_M_keptOf ml_M_474 (okM_keptOf (s53 108 (ix u2)) s53 C.l C.w) rfl (by decide) rfl (Nat.le_of_ble_eq_true rfl) dM_keepsTold_52 (fun r55 s54 => ?_)
    refine g_iast X k_108 ln_108 dM_keepsTold_55 (fun s56 => ?_)
    refine g_aload_n X dM_keepsTold_56 rfl ?_
    refine g_getN X fl_M_83 fb_12_44 k_102 r_102_44 dM_keepsTold_57 ?_
    refine g_iload_n X dM_keepsTold_60 rfl ?_
    refine g_aload_n X dM_keepsTold_61 rfl ?_
    refine g_aload_n X dM_keepsTold_62 rfl ?_
    refine g_getN X fl_M_83 fb_12_44 k_102 r_102_44 dM_keepsTold_63 ?_
    refine g_iload_n X dM_keepsTold_66 rfl ?_
    refine g_iald X k_126 ln_126 dM_keepsTold_67 ?_
    refine g_virtI X [.int (s56 126 (ix u2))] [.int u2, .ref (C.w.ad 126)] k_102 mm_M_keptOf mv_M_keptOf ml_M_474 (okM_keptOf (s56 126 (ix u2)) s56 C.l C.w) rfl (by decide) rfl (Nat.le_of_ble_eq_true rfl) dM_keepsTold_68 (fun r58 s57 => ?_)
    refine g_iast X k_126 ln_126 dM_keepsTold_71 (fun s59 => ?_)
    refine g_aload_n X dM_keepsTold_72 rfl ?_
    refine g_getN X fl_M_86 fb_12_45 k_102 r_102_45 dM_keepsTold_73 ?_
    refine g_iload_n X dM_keepsTold_76 rfl ?_
    refine g_aload_n X dM_keepsTold_77 rfl ?_
    refine g_aload_n X dM_keepsTold_78 rfl ?_
    refine g_getN X fl_M_86 fb_12_45 k_102 r_102_45 dM_keepsTold_79 ?_
    refine g_iload_n X dM_keepsTold_82 rfl ?_
    refine g_iald X k_127 ln_127 dM_keepsTold_83 ?_
    refine g_virtI X [.int (s59 127 (ix u2))] [.int u2, .ref (C.w.ad 127)] k_102 mm_M_keptOf mv_M_keptOf ml_M_474 (okM_keptOf (s59 127 (ix u2)) s59 C.l C.w) rfl (by decide) rfl (Nat.le_of_ble_eq_true rfl) dM_keepsTold_84 (fun r61 s60 => ?_)
    refine g_iast X k_127 ln_127 dM_keepsTold_87 (fun s62 => ?_)
    refine g_iinc X (u2 + 1) [some (.ref (C.w.ad 102)), some (.int (u2 + 1))] dM_keepsTold_88 rfl rfl (by decide) rfl ?_
    refine g_goto X 2 dM_keepsTold_91 (by decide) ?_
    exact gf_sub (hq2 (u2 + 1) s62) (by simp [lsub])
def yM_image : MethodName := ⟨"LastWordHillModel", "image", "(Z)Z"⟩
abbrev cM_image : ByteArray := prog_14_method_122_code
theorem dM_image_0 : decode cM_image 0 = .ok (.aload_n 0, 1) := by decide +kernel
theorem dM_image_1 : decode cM_image 1 = .ok (.iconst 0, 1) := by decide +kernel
theorem dM_image_2 : decode cM_image 2 = .ok (.putfield 134, 3) := by decide +kernel
theorem dM_image_5 : decode cM_image 5 = .ok (.iload_n 1, 1) := by decide +kernel
theorem dM_image_6 : decode cM_image 6 = .ok (.ifCond .ne 12, 3) := by decide +kernel
theorem dM_image_18 : decode cM_image 18 = .ok (.aload_n 0, 1) := by decide +kernel
theorem dM_image_19 : decode cM_image 19 = .ok (.iload_n 1, 1) := by decide +kernel
theorem dM_image_20 : decode cM_image 20 = .ok (.putfield 471, 3) := by decide +kernel
theorem fp_12_66 : FLp 12 66 .boolean := ⟨_, _, _, _, rfl, nY12, nN12, by decide, by decide⟩
theorem dM_image_23 : decode cM_image 23 = .ok (.aload_n 0, 1) := by decide +kernel
theorem dM_image_24 : decode cM_image 24 = .ok (.iconst 1, 1) := by decide +kernel
theorem dM_image_25 : decode cM_image 25 = .ok (.putfield 477, 3) := by decide +kernel
theorem fl_M_477 : FLk "LastWordHillModel" 477 12 67 := ⟨_, _, _, rfl, by decide, hz_in 1479 (by decide +kernel) (by decide +kernel), nL12, by decide, by decide⟩
theorem fb_12_67 : (hz_bs 12)[67]? = some false := by decide
theorem fp_12_67 : FLp 12 67 .boolean := ⟨_, _, _, _, rfl, nY12, nN12, by decide, by decide⟩
theorem dM_image_28 : decode cM_image 28 = .ok (.aload_n 0, 1) := by decide +kernel
theorem dM_image_29 : decode cM_image 29 = .ok (.iconst 0, 1) := by decide +kernel
theorem dM_image_30 : decode cM_image 30 = .ok (.putfield 468, 3) := by decide +kernel
theorem dM_image_33 : decode cM_image 33 = .ok (.iconst 0, 1) := by decide +kernel
theorem dM_image_34 : decode cM_image 34 = .ok (.istore_n 2, 1) := by decide +kernel
theorem dM_image_35 : decode cM_image 35 = .ok (.iload_n 2, 1) := by decide +kernel
theorem dM_image_36 : decode cM_image 36 = .ok (.bipush 50, 2) := by decide +kernel
theorem dM_image_38 : decode cM_image 38 = .ok (.if_icmp .ge 25, 3) := by decide +kernel
theorem dM_image_63 : decode cM_image 63 = .ok (.aload_n 0, 1) := by decide +kernel
theorem dM_image_64 : decode cM_image 64 = .ok (.invokevirtual 480, 3) := by decide +kernel
theorem mm_M_keepsMany : MMc yM_keepsMany cM_keepsMany 1 none 0 := ⟨hz_in 2097 (by decide +kernel) (by decide +kernel), hz_in 147 (by decide +kernel) (by decide +kernel), by decide +kernel, by decide⟩
theorem mv_M_keepsMany : MMv yM_keepsMany 12 := ⟨hz_in 2096 (by decide +kernel) (by decide +kernel), hz_in 130 (by decide +kernel) (by decide +kernel), _, _, rfl, by decide⟩
theorem ml_M_480 : Cond.methodLink "LastWordHillModel" 480 yM_keepsMany ∈ hz_wt := hz_in 2094 (by decide +kernel) (by decide +kernel)
theorem dM_image_67 : decode cM_image 67 = .ok (.aload_n 0, 1) := by decide +kernel
theorem dM_image_68 : decode cM_image 68 = .ok (.invokevirtual 483, 3) := by decide +kernel
theorem mm_M_keepsTold : MMc yM_keepsTold cM_keepsTold 2 none 0 := ⟨hz_in 2101 (by decide +kernel) (by decide +kernel), hz_in 147 (by decide +kernel) (by decide +kernel), by decide +kernel, by decide⟩
theorem mv_M_keepsTold : MMv yM_keepsTold 12 := ⟨hz_in 2100 (by decide +kernel) (by decide +kernel), hz_in 131 (by decide +kernel) (by decide +kernel), _, _, rfl, by decide⟩
theorem ml_M_483 : Cond.methodLink "LastWordHillModel" 483 yM_keepsTold ∈ hz_wt := hz_in 2098 (by decide +kernel) (by decide +kernel)
theorem dM_image_71 : decode cM_image 71 = .ok (.iconst 0, 1) := by decide +kernel
theorem dM_image_72 : decode cM_image 72 = .ok (.istore_n 2, 1) := by decide +kernel
theorem dM_image_73 : decode cM_image 73 = .ok (.iload_n 2, 1) := by decide +kernel
theorem dM_image_74 : decode cM_image 74 = .ok (.sipush 750, 3) := by decide +kernel
theorem dM_image_77 : decode cM_image 77 = .ok (.if_icmp .ge 25, 3) := by decide +kernel
theorem dM_image_102 : decode cM_image 102 = .ok (.aload_n 0, 1) := by decide +kernel
theorem dM_image_103 : decode cM_image 103 = .ok (.invokevirtual 486, 3) := by decide +kernel
theorem mm_M_keepsLaw : MMc yM_keepsLaw cM_keepsLaw 2 none 0 := ⟨hz_in 2105 (by decide +kernel) (by decide +kernel), hz_in 147 (by decide +kernel) (by decide +kernel), by decide +kernel, by decide⟩
theorem mv_M_keepsLaw : MMv yM_keepsLaw 12 := ⟨hz_in 2104 (by decide +kernel) (by decide +kernel), hz_in 132 (by decide +kernel) (by decide +kernel), _, _, rfl, by decide⟩
theorem ml_M_486 : Cond.methodLink "LastWordHillModel" 486 yM_keepsLaw ∈ hz_wt := hz_in 2102 (by decide +kernel) (by decide +kernel)
theorem dM_image_106 : decode cM_image 106 = .ok (.iload_n 1, 1) := by decide +kernel
theorem dM_image_107 : decode cM_image 107 = .ok (.ifCond .ne 8, 3) := by decide +kernel
theorem dM_image_115 : decode cM_image 115 = .ok (.iconst 1, 1) := by decide +kernel
theorem dM_image_116 : decode cM_image 116 = .ok (.ireturn, 1) := by decide +kernel
theorem dM_image_110 : decode cM_image 110 = .ok (.aload_n 0, 1) := by decide +kernel
theorem dM_image_111 : decode cM_image 111 = .ok (.iconst 0, 1) := by decide +kernel
theorem dM_image_112 : decode cM_image 112 = .ok (.putfield 137, 3) := by decide +kernel
theorem dM_image_80 : decode cM_image 80 = .ok (.aload_n 0, 1) := by decide +kernel
theorem dM_image_81 : decode cM_image 81 = .ok (.getfield 28, 3) := by decide +kernel
theorem dM_image_84 : decode cM_image 84 = .ok (.iload_n 2, 1) := by decide +kernel
theorem dM_image_85 : decode cM_image 85 = .ok (.aload_n 0, 1) := by decide +kernel
theorem dM_image_86 : decode cM_image 86 = .ok (.aload_n 0, 1) := by decide +kernel
theorem dM_image_87 : decode cM_image 87 = .ok (.getfield 28, 3) := by decide +kernel
theorem dM_image_90 : decode cM_image 90 = .ok (.iload_n 2, 1) := by decide +kernel
theorem dM_image_91 : decode cM_image 91 = .ok (.iaload, 1) := by decide +kernel
theorem dM_image_92 : decode cM_image 92 = .ok (.invokevirtual 474, 3) := by decide +kernel
theorem dM_image_95 : decode cM_image 95 = .ok (.iastore, 1) := by decide +kernel
theorem dM_image_96 : decode cM_image 96 = .ok (.iinc 2 1, 3) := by decide +kernel
theorem dM_image_99 : decode cM_image 99 = .ok (.goto (-26), 3) := by decide +kernel
theorem dM_image_41 : decode cM_image 41 = .ok (.aload_n 0, 1) := by decide +kernel
theorem dM_image_42 : decode cM_image 42 = .ok (.getfield 7, 3) := by decide +kernel
theorem dM_image_45 : decode cM_image 45 = .ok (.iload_n 2, 1) := by decide +kernel
theorem dM_image_46 : decode cM_image 46 = .ok (.aload_n 0, 1) := by decide +kernel
theorem dM_image_47 : decode cM_image 47 = .ok (.aload_n 0, 1) := by decide +kernel
theorem dM_image_48 : decode cM_image 48 = .ok (.getfield 7, 3) := by decide +kernel
theorem dM_image_51 : decode cM_image 51 = .ok (.iload_n 2, 1) := by decide +kernel
theorem dM_image_52 : decode cM_image 52 = .ok (.iaload, 1) := by decide +kernel
theorem dM_image_53 : decode cM_image 53 = .ok (.invokevirtual 474, 3) := by decide +kernel
theorem dM_image_56 : decode cM_image 56 = .ok (.iastore, 1) := by decide +kernel
theorem dM_image_57 : decode cM_image 57 = .ok (.iinc 2 1, 3) := by decide +kernel
theorem dM_image_60 : decode cM_image 60 = .ok (.goto (-25), 3) := by decide +kernel
theorem dM_image_9 : decode cM_image 9 = .ok (.aload_n 0, 1) := by decide +kernel
theorem dM_image_10 : decode cM_image 10 = .ok (.getfield 477, 3) := by decide +kernel
theorem dM_image_13 : decode cM_image 13 = .ok (.ifCond .ne 5, 3) := by decide +kernel
theorem dM_image_16 : decode cM_image 16 = .ok (.iconst 0, 1) := by decide +kernel
theorem dM_image_17 : decode cM_image 17 = .ok (.ireturn, 1) := by decide +kernel
def fM_image (v1 : Int32) (s0 : Sg) : Option (Int32 × Sg) := bnd (pt s0 102 0 0) fun s1 => bnd (fun (s2 : Sg) => gb v1 (bnd (pt s2 102 66 v1) fun s3 => gb 1 (bnd (pt s3 102 67 1) fun s4 => bnd (pt s4 102 68 0) fun s5 => lp FU (fun q35 (u35 : Int32) (s6 : Sg) => if 50 ≤ u35 then (bv (fM_keepsMany s6) fun s7 => bv (fM_keepsTold s7) fun s8 => lp FU (fun q73 (u73 : Int32) (s9 : Sg) => if 750 ≤ u73 then (bv (fM_keepsLaw s9) fun s10 => if v1 = 0 then (bnd (pt s10 102 3 0) fun s11 => gb 1 (some (1, s11))) else (gb 1 (some (1, s10)))) else (gd u73 750 (bi (fM_keptOf (s9 109 (ix u73)) s9) fun r13 s12 => gd u73 750 (bnd (pt s12 109 (ix u73) r13) fun s14 => q73 (u73 + 1) s14)))) 0 s8) else (gd u35 50 (bi (fM_keptOf (s6 103 (ix u35)) s6) fun r16 s15 => gd u35 50 (bnd (pt s15 103 (ix u35) r16) fun s17 => q35 (u35 + 1) s17)))) 0 s5))) fun j18 => if v1 = 0 then (if (s1 102 67) = 0 then (gb 0 (some (0, s1))) else (j18 s1)) else (j18 s1)
set_option maxHeartbeats 4000000 in
set_option maxRecDepth 100000 in
theorem okM_image (v1 : Int32) (s0 : Sg) : ∀ (l : Launch) (w : WC), Ok l w yM_image cM_image 3 (some .boolean) 3 evI [.ref (w.ad 102), .int v1] s0 (fM_image v1 s0) := by
  refine ok_in (ev := fun _ => evI) (av := fun w => [.ref (w.ad 102), .int v1]) "LastWordHillModel" rfl (by decide +kernel) (fun _ => rfl) (fun _ => Nat.le_of_ble_eq_true rfl) ?_
  intro C X E
  show GF C evI 0 [some (.ref (C.w.ad 102)), some (.int v1), none] [] s0 (fM_image v1 s0)
  unfold fM_image
  refine g_aload_n X dM_image_0 rfl ?_
  refine g_iconst X 0 dM_image_1 (by decide) ?_
  refine g_putI X fl_M_134 fb_12_0 fp_12_0 k_102 dM_image_2 (fun s1 => ?_)
  refine g_iload_n X dM_image_5 rfl ?_
  refine gf_jn (fun j18 => ∀ (s2 : Sg), GF C evI 18 [some (.ref (C.w.ad 102)), some (.int v1), none] [] s2 (j18 s2)) ?_ ?_
  · intro s2
    refine g_aload_n X dM_image_18 rfl ?_
    refine g_iload_n X dM_image_19 rfl ?_
    refine g_putZ X fl_M_471 fb_12_66 fp_12_66 k_102 dM_image_20 (fun s3 => ?_)
    refine g_aload_n X dM_image_23 rfl ?_
    refine g_iconst X 1 dM_image_24 (by decide) ?_
    refine g_putZ X fl_M_477 fb_12_67 fp_12_67 k_102 dM_image_25 (fun s4 => ?_)
    refine g_aload_n X dM_image_28 rfl ?_
    refine g_iconst X 0 dM_image_29 (by decide) ?_
    refine g_putI X fl_M_468 fb_12_68 fp_12_68 k_102 dM_image_30 (fun s5 => ?_)
    refine g_iconst X 0 dM_image_33 (by decide) ?_
    refine g_istore_n X [some (.ref (C.w.ad 102)), some (.int v1), some (.int 0)] dM_image_34 (by decide) (Nat.le_of_ble_eq_true rfl) rfl ?_
    refine gf_sub (L' := [some (.ref (C.w.ad 102)), some (.int v1), some (.int 0)]) ?_ (by simp [lsub])
    refine gf_lp (Lf := fun (u35 : Int32) => [some (.ref (C.w.ad 102)), some (.int v1), some (.int u35)]) (fun q35 hq35 u35 s6 => ?_) FU 0 s5
    refine g_iload_n X dM_image_35 rfl ?_
    refine g_bipush X 50 dM_image_36 (by decide) ?_
    refine g_cge X (tgt := 63) dM_image_38 (by decide) ?_ ?_
    · refine g_aload_n X dM_image_63 rfl ?_
      refine g_virtV X [] [] k_102 mm_M_keepsMany mv_M_keepsMany ml_M_480 (okM_keepsMany s6 C.l C.w) rfl (by decide) rfl (Nat.le_of_ble_eq_true rfl) dM_image_64 (fun s7 => ?_)
      refine g_aload_n X dM_image_67 rfl ?_
      refine g_virtV X [] [] k_102 mm_M_keepsTold mv_M_keepsTold ml_M_483 (okM_keepsTold s7 C.l C.w) rfl (by decide) rfl (Nat.le_of_ble_eq_true rfl) dM_image_68 (fun s8 => ?_)
      refine g_iconst X 0 dM_image_71 (by decide) ?_
      refine g_istore_n X [some (.ref (C.w.ad 102)), some (.int v1), some (.int 0)] dM_image_72 (by decide) (Nat.le_of_ble_eq_true rfl) rfl ?_
      refine gf_sub (L' := [some (.ref (C.w.ad 102)), some (.int v1), some (.int 0)]) ?_ (by simp [lsub])
      refine gf_lp (Lf := fun (u73 : Int32) => [some (.ref (C.w.ad 102)), some (.int v1), some (.int u73)]) (fun q73 hq73 u73 s9 => ?_) FU 0 s8
      refine g_iload_n X dM_image_73 rfl ?_
      refine g_sipush X 750 dM_image_74 (by decide) ?_
      refine g_cge X (tgt := 102) dM_image_77 (by decide) ?_ ?_
      · refine g_aload_n X dM_image_102 rfl ?_
        refine g_virtV X [] [] k_102 mm_M_keepsLaw mv_M_keepsLaw ml_M_486 (okM_keepsLaw s9 C.l C.w) rfl (by decide) rfl (Nat.le_of_ble_eq_true rfl) dM_image_103 (fun s10 => ?_)
        refine g_iload_n X dM_image_106 rfl ?_
        refine g_zne X (tgt := 115) dM_image_107 (by decide) ?_ ?_
        · refine g_aload_n X dM_image_110 rfl ?_
          refine g_iconst X 0 dM_image_111 (by decide) ?_
          refine g_putI X fl_M_137 fb_12_3 fp_12_3 k_102 dM_image_112 (fun s11 => ?_)
          refine g_iconst X 1 dM_image_115 (by decide) ?_
          exact g_zret X E dM_image_116
        · refine g_iconst X 1 dM_image_115 (by decide) ?_
          exact g_zret X E dM_image_116
      · refine g_aload_n X dM_image_80 rfl ?_
        refine g_getN X fl_M_28 fb_12_10 k_102 r_102_10 dM_image_81 ?_
        refine g_iload_n X dM_image_84 rfl ?_
        refine g_aload_n X dM_image_85 rfl ?_
        refine g_aload_n X dM_image_86 rfl ?_
        refine g_getN X fl_M_28 fb_12_10 k_102 r_102_10 dM_image_87 ?_
        refine g_iload_n X dM_image_90 rfl ?_
        refine g_iald X k_109 ln_109 dM_image_91 ?_
        refine g_virtI X [.int (s9 109 (ix u73))] [.int u73, .ref (C.w.ad 109)] k_102 mm_M_keptOf mv_M_keptOf ml_M_474 (okM_keptOf (s9 109 (ix u73)) s9 C.l C.w) rfl (by decide) rfl (Nat.le_of_ble_eq_true rfl) dM_image_92 (fun r13 s12 => ?_)
        refine g_iast X k_109 ln_109 dM_image_95 (fun s14 => ?_)
        refine g_iinc X (u73 + 1) [some (.ref (C.w.ad 102)), some (.int v1), some (.int (u73 + 1))] dM_image_96 rfl rfl (by decide) rfl ?_
        refine g_goto X 73 dM_image_99 (by decide) ?_
        exact gf_sub (hq73 (u73 + 1) s14) (by simp [lsub])
    · refine g_aload_n X dM_image_41 rfl ?_
      refine g_getN X fl_M_7 fb_12_1 k_102 r_102_1 dM_image_42 ?_
      refine g_iload_n X dM_image_45 rfl ?_
      refine g_aload_n X dM_image_46 rfl ?_
      refine g_aload_n X dM_image_47 rfl ?_
      refine g_getN X fl_M_7 fb_12_1 k_102 r_102_1 dM_image_48 ?_
      refine g_iload_n X dM_image_51 rfl ?_
      refine g_iald X k_103 ln_103 dM_image_52 ?_
      refine g_virtI X [.int (s6 103 (ix u35))] [.int u35, .ref (C.w.ad 103)] k_102 mm_M_keptOf mv_M_keptOf ml_M_474 (okM_keptOf (s6 103 (ix u35)) s6 C.l C.w) rfl (by decide) rfl (Nat.le_of_ble_eq_true rfl) dM_image_53 (fun r16 s15 => ?_)
      refine g_iast X k_103 ln_103 dM_image_56 (fun s17 => ?_)
      refine g_iinc X (u35 + 1) [some (.ref (C.w.ad 102)), some (.int v1), some (.int (u35 + 1))] dM_image_57 rfl rfl (by decide) rfl ?_
      refine g_goto X 35 dM_image_60 (by decide) ?_
      exact gf_sub (hq35 (u35 + 1) s17) (by simp [lsub])
  · intro j18 hj18
    refine g_zne X (tgt := 18) dM_image_6 (by decide) ?_ ?_
    · refine g_aload_n X dM_image_9 rfl ?_
      refine g_getI X fl_M_477 fb_12_67 k_102 dM_image_10 ?_
      refine g_zne X (tgt := 18) dM_image_13 (by decide) ?_ ?_
      · refine g_iconst X 0 dM_image_16 (by decide) ?_
        exact g_zret X E dM_image_17
      · exact gf_sub (hj18 s1) (by simp [lsub])
    · exact gf_sub (hj18 s1) (by simp [lsub])
def yM_look : MethodName := ⟨"LastWordHillModel", "look", "(I)I"⟩
abbrev cM_look : ByteArray := prog_14_method_123_code
theorem dM_look_0 : decode cM_look 0 = .ok (.aload_n 0, 1) := by decide +kernel
theorem dM_look_1 : decode cM_look 1 = .ok (.iconst 0, 1) := by decide +kernel
theorem dM_look_2 : decode cM_look 2 = .ok (.putfield 134, 3) := by decide +kernel
theorem dM_look_5 : decode cM_look 5 = .ok (.iload_n 1, 1) := by decide +kernel
theorem dM_look_6 : decode cM_look 6 = .ok (.ifCond .ne 8, 3) := by decide +kernel
theorem dM_look_14 : decode cM_look 14 = .ok (.iload_n 1, 1) := by decide +kernel
theorem dM_look_15 : decode cM_look 15 = .ok (.iconst 1, 1) := by decide +kernel
theorem dM_look_16 : decode cM_look 16 = .ok (.if_icmp .ne 12, 3) := by decide +kernel
theorem dM_look_28 : decode cM_look 28 = .ok (.iload_n 1, 1) := by decide +kernel
theorem dM_look_29 : decode cM_look 29 = .ok (.iconst 2, 1) := by decide +kernel
theorem dM_look_30 : decode cM_look 30 = .ok (.if_icmp .ne 13, 3) := by decide +kernel
theorem dM_look_43 : decode cM_look 43 = .ok (.iload_n 1, 1) := by decide +kernel
theorem dM_look_44 : decode cM_look 44 = .ok (.iconst 3, 1) := by decide +kernel
theorem dM_look_45 : decode cM_look 45 = .ok (.if_icmp .ne 11, 3) := by decide +kernel
theorem dM_look_56 : decode cM_look 56 = .ok (.iload_n 1, 1) := by decide +kernel
theorem dM_look_57 : decode cM_look 57 = .ok (.iconst 4, 1) := by decide +kernel
theorem dM_look_58 : decode cM_look 58 = .ok (.if_icmp .ne 11, 3) := by decide +kernel
theorem dM_look_69 : decode cM_look 69 = .ok (.iload_n 1, 1) := by decide +kernel
theorem dM_look_70 : decode cM_look 70 = .ok (.iconst 5, 1) := by decide +kernel
theorem dM_look_71 : decode cM_look 71 = .ok (.if_icmp .ne 8, 3) := by decide +kernel
theorem dM_look_79 : decode cM_look 79 = .ok (.iload_n 1, 1) := by decide +kernel
theorem dM_look_80 : decode cM_look 80 = .ok (.bipush 6, 2) := by decide +kernel
theorem dM_look_82 : decode cM_look 82 = .ok (.if_icmp .ne 10, 3) := by decide +kernel
theorem dM_look_92 : decode cM_look 92 = .ok (.iload_n 1, 1) := by decide +kernel
theorem dM_look_93 : decode cM_look 93 = .ok (.bipush 7, 2) := by decide +kernel
theorem dM_look_95 : decode cM_look 95 = .ok (.if_icmp .ne 10, 3) := by decide +kernel
theorem dM_look_105 : decode cM_look 105 = .ok (.iload_n 1, 1) := by decide +kernel
theorem dM_look_106 : decode cM_look 106 = .ok (.bipush 8, 2) := by decide +kernel
theorem dM_look_108 : decode cM_look 108 = .ok (.if_icmp .ne 10, 3) := by decide +kernel
theorem dM_look_118 : decode cM_look 118 = .ok (.iload_n 1, 1) := by decide +kernel
theorem dM_look_119 : decode cM_look 119 = .ok (.bipush 9, 2) := by decide +kernel
theorem dM_look_121 : decode cM_look 121 = .ok (.if_icmp .ne 10, 3) := by decide +kernel
theorem dM_look_131 : decode cM_look 131 = .ok (.iload_n 1, 1) := by decide +kernel
theorem dM_look_132 : decode cM_look 132 = .ok (.bipush 10, 2) := by decide +kernel
theorem dM_look_134 : decode cM_look 134 = .ok (.if_icmp .ne 10, 3) := by decide +kernel
theorem dM_look_144 : decode cM_look 144 = .ok (.iload_n 1, 1) := by decide +kernel
theorem dM_look_145 : decode cM_look 145 = .ok (.bipush 11, 2) := by decide +kernel
theorem dM_look_147 : decode cM_look 147 = .ok (.if_icmp .ne 8, 3) := by decide +kernel
theorem dM_look_155 : decode cM_look 155 = .ok (.iload_n 1, 1) := by decide +kernel
theorem dM_look_156 : decode cM_look 156 = .ok (.bipush 12, 2) := by decide +kernel
theorem dM_look_158 : decode cM_look 158 = .ok (.if_icmp .ne 8, 3) := by decide +kernel
theorem dM_look_166 : decode cM_look 166 = .ok (.iload_n 1, 1) := by decide +kernel
theorem dM_look_167 : decode cM_look 167 = .ok (.bipush 13, 2) := by decide +kernel
theorem dM_look_169 : decode cM_look 169 = .ok (.if_icmp .ne 8, 3) := by decide +kernel
theorem dM_look_177 : decode cM_look 177 = .ok (.iload_n 1, 1) := by decide +kernel
theorem dM_look_178 : decode cM_look 178 = .ok (.bipush 14, 2) := by decide +kernel
theorem dM_look_180 : decode cM_look 180 = .ok (.if_icmp .ne 10, 3) := by decide +kernel
theorem dM_look_190 : decode cM_look 190 = .ok (.bipush (-2), 2) := by decide +kernel
theorem dM_look_192 : decode cM_look 192 = .ok (.ireturn, 1) := by decide +kernel
theorem dM_look_183 : decode cM_look 183 = .ok (.aload_n 0, 1) := by decide +kernel
theorem dM_look_184 : decode cM_look 184 = .ok (.getfield 137, 3) := by decide +kernel
theorem dM_look_187 : decode cM_look 187 = .ok (.goto 5, 3) := by decide +kernel
theorem dM_look_172 : decode cM_look 172 = .ok (.aload_n 0, 1) := by decide +kernel
theorem dM_look_173 : decode cM_look 173 = .ok (.getfield 293, 3) := by decide +kernel
theorem dM_look_176 : decode cM_look 176 = .ok (.ireturn, 1) := by decide +kernel
theorem dM_look_161 : decode cM_look 161 = .ok (.aload_n 0, 1) := by decide +kernel
theorem dM_look_162 : decode cM_look 162 = .ok (.getfield 299, 3) := by decide +kernel
theorem dM_look_165 : decode cM_look 165 = .ok (.ireturn, 1) := by decide +kernel
theorem dM_look_150 : decode cM_look 150 = .ok (.aload_n 0, 1) := by decide +kernel
theorem dM_look_151 : decode cM_look 151 = .ok (.getfield 296, 3) := by decide +kernel
theorem dM_look_154 : decode cM_look 154 = .ok (.ireturn, 1) := by decide +kernel
theorem dM_look_137 : decode cM_look 137 = .ok (.aload_n 0, 1) := by decide +kernel
theorem dM_look_138 : decode cM_look 138 = .ok (.getfield 37, 3) := by decide +kernel
theorem dM_look_141 : decode cM_look 141 = .ok (.iconst 0, 1) := by decide +kernel
theorem dM_look_142 : decode cM_look 142 = .ok (.iaload, 1) := by decide +kernel
theorem dM_look_143 : decode cM_look 143 = .ok (.ireturn, 1) := by decide +kernel
theorem dM_look_124 : decode cM_look 124 = .ok (.aload_n 0, 1) := by decide +kernel
theorem dM_look_125 : decode cM_look 125 = .ok (.getfield 7, 3) := by decide +kernel
theorem dM_look_128 : decode cM_look 128 = .ok (.iconst 1, 1) := by decide +kernel
theorem dM_look_129 : decode cM_look 129 = .ok (.iaload, 1) := by decide +kernel
theorem dM_look_130 : decode cM_look 130 = .ok (.ireturn, 1) := by decide +kernel
theorem dM_look_111 : decode cM_look 111 = .ok (.aload_n 0, 1) := by decide +kernel
theorem dM_look_112 : decode cM_look 112 = .ok (.getfield 7, 3) := by decide +kernel
theorem dM_look_115 : decode cM_look 115 = .ok (.iconst 2, 1) := by decide +kernel
theorem dM_look_116 : decode cM_look 116 = .ok (.iaload, 1) := by decide +kernel
theorem dM_look_117 : decode cM_look 117 = .ok (.ireturn, 1) := by decide +kernel
theorem dM_look_98 : decode cM_look 98 = .ok (.aload_n 0, 1) := by decide +kernel
theorem dM_look_99 : decode cM_look 99 = .ok (.getfield 7, 3) := by decide +kernel
theorem dM_look_102 : decode cM_look 102 = .ok (.iconst 0, 1) := by decide +kernel
theorem dM_look_103 : decode cM_look 103 = .ok (.iaload, 1) := by decide +kernel
theorem dM_look_104 : decode cM_look 104 = .ok (.ireturn, 1) := by decide +kernel
theorem dM_look_85 : decode cM_look 85 = .ok (.aload_n 0, 1) := by decide +kernel
theorem dM_look_86 : decode cM_look 86 = .ok (.getfield 7, 3) := by decide +kernel
theorem dM_look_89 : decode cM_look 89 = .ok (.iconst 3, 1) := by decide +kernel
theorem dM_look_90 : decode cM_look 90 = .ok (.iaload, 1) := by decide +kernel
theorem dM_look_91 : decode cM_look 91 = .ok (.ireturn, 1) := by decide +kernel
theorem dM_look_74 : decode cM_look 74 = .ok (.aload_n 0, 1) := by decide +kernel
theorem dM_look_75 : decode cM_look 75 = .ok (.invokevirtual 329, 3) := by decide +kernel
theorem dM_look_78 : decode cM_look 78 = .ok (.ireturn, 1) := by decide +kernel
theorem dM_look_61 : decode cM_look 61 = .ok (.aload_n 0, 1) := by decide +kernel
theorem dM_look_62 : decode cM_look 62 = .ok (.getfield 7, 3) := by decide +kernel
theorem dM_look_65 : decode cM_look 65 = .ok (.bipush 9, 2) := by decide +kernel
theorem dM_look_67 : decode cM_look 67 = .ok (.iaload, 1) := by decide +kernel
theorem dM_look_68 : decode cM_look 68 = .ok (.ireturn, 1) := by decide +kernel
theorem dM_look_48 : decode cM_look 48 = .ok (.aload_n 0, 1) := by decide +kernel
theorem dM_look_49 : decode cM_look 49 = .ok (.getfield 7, 3) := by decide +kernel
theorem dM_look_52 : decode cM_look 52 = .ok (.bipush 8, 2) := by decide +kernel
theorem dM_look_54 : decode cM_look 54 = .ok (.iaload, 1) := by decide +kernel
theorem dM_look_55 : decode cM_look 55 = .ok (.ireturn, 1) := by decide +kernel
theorem dM_look_33 : decode cM_look 33 = .ok (.aload_n 0, 1) := by decide +kernel
theorem dM_look_34 : decode cM_look 34 = .ok (.getfield 7, 3) := by decide +kernel
theorem dM_look_37 : decode cM_look 37 = .ok (.bipush 6, 2) := by decide +kernel
theorem dM_look_39 : decode cM_look 39 = .ok (.iaload, 1) := by decide +kernel
theorem dM_look_40 : decode cM_look 40 = .ok (.iconst 1, 1) := by decide +kernel
theorem dM_look_41 : decode cM_look 41 = .ok (.isub, 1) := by decide +kernel
theorem dM_look_42 : decode cM_look 42 = .ok (.ireturn, 1) := by decide +kernel
theorem dM_look_19 : decode cM_look 19 = .ok (.aload_n 0, 1) := by decide +kernel
theorem dM_look_20 : decode cM_look 20 = .ok (.getfield 7, 3) := by decide +kernel
theorem dM_look_23 : decode cM_look 23 = .ok (.iconst 5, 1) := by decide +kernel
theorem dM_look_24 : decode cM_look 24 = .ok (.iaload, 1) := by decide +kernel
theorem dM_look_25 : decode cM_look 25 = .ok (.iconst 1, 1) := by decide +kernel
theorem dM_look_26 : decode cM_look 26 = .ok (.isub, 1) := by decide +kernel
theorem dM_look_27 : decode cM_look 27 = .ok (.ireturn, 1) := by decide +kernel
theorem dM_look_9 : decode cM_look 9 = .ok (.aload_n 0, 1) := by decide +kernel
theorem dM_look_10 : decode cM_look 10 = .ok (.getfield 146, 3) := by decide +kernel
theorem dM_look_13 : decode cM_look 13 = .ok (.ireturn, 1) := by decide +kernel
def fM_look (v1 : Int32) (s0 : Sg) : Option (Int32 × Sg) := bnd (pt s0 102 0 0) fun s1 => if v1 = 0 then (some ((s1 102 6), s1)) else (if v1 = 1 then (gd 5 50 (some (((s1 103 (ix 5)) - 1), s1))) else (if v1 = 2 then (gd 6 50 (some (((s1 103 (ix 6)) - 1), s1))) else (if v1 = 3 then (gd 8 50 (some ((s1 103 (ix 8)), s1))) else (if v1 = 4 then (gd 9 50 (some ((s1 103 (ix 9)), s1))) else (if v1 = 5 then (bi (fM_sunset s1) fun r3 s2 => some (r3, s2)) else (if v1 = 6 then (gd 3 50 (some ((s1 103 (ix 3)), s1))) else (if v1 = 7 then (gd 0 50 (some ((s1 103 (ix 0)), s1))) else (if v1 = 8 then (gd 2 50 (some ((s1 103 (ix 2)), s1))) else (if v1 = 9 then (gd 1 50 (some ((s1 103 (ix 1)), s1))) else (if v1 = 10 then (gd 0 2 (some ((s1 112 (ix 0)), s1))) else (if v1 = 11 then (some ((s1 102 34), s1)) else (if v1 = 12 then (some ((s1 102 36), s1)) else (if v1 = 13 then (some ((s1 102 38), s1)) else (if v1 = 14 then (some ((s1 102 3), s1)) else (some ((-2), s1))))))))))))))))
set_option maxHeartbeats 4000000 in
set_option maxRecDepth 100000 in
theorem okM_look (v1 : Int32) (s0 : Sg) : ∀ (l : Launch) (w : WC), Ok l w yM_look cM_look 2 (some .int) 2 evI [.ref (w.ad 102), .int v1] s0 (fM_look v1 s0) := by
  refine ok_in (ev := fun _ => evI) (av := fun w => [.ref (w.ad 102), .int v1]) "LastWordHillModel" rfl (by decide +kernel) (fun _ => rfl) (fun _ => Nat.le_of_ble_eq_true rfl) ?_
  intro C X E
  show GF C evI 0 [some (.ref (C.w.ad 102)), some (.int v1)] [] s0 (fM_look v1 s0)
  unfold fM_look
  refine g_aload_n X dM_look_0 rfl ?_
  refine g_iconst X 0 dM_look_1 (by decide) ?_
  refine g_putI X fl_M_134 fb_12_0 fp_12_0 k_102 dM_look_2 (fun s1 => ?_)
  refine g_iload_n X dM_look_5 rfl ?_
  refine g_zne X (tgt := 14) dM_look_6 (by decide) ?_ ?_
  · refine g_aload_n X dM_look_9 rfl ?_
    refine g_getI X fl_M_146 fb_12_6 k_102 dM_look_10 ?_
    exact g_iret X E dM_look_13
  · refine g_iload_n X dM_look_14 rfl ?_
    refine g_iconst X 1 dM_look_15 (by decide) ?_
    refine g_cne X (tgt := 28) dM_look_16 (by decide) ?_ ?_
    · refine g_aload_n X dM_look_19 rfl ?_
      refine g_getN X fl_M_7 fb_12_1 k_102 r_102_1 dM_look_20 ?_
      refine g_iconst X 5 dM_look_23 (by decide) ?_
      refine g_iald X k_103 ln_103 dM_look_24 ?_
      refine g_iconst X 1 dM_look_25 (by decide) ?_
      refine g_isub X dM_look_26 ?_
      exact g_iret X E dM_look_27
    · refine g_iload_n X dM_look_28 rfl ?_
      refine g_iconst X 2 dM_look_29 (by decide) ?_
      refine g_cne X (tgt := 43) dM_look_30 (by decide) ?_ ?_
      · refine g_aload_n X dM_look_33 rfl ?_
        refine g_getN X fl_M_7 fb_12_1 k_102 r_102_1 dM_look_34 ?_
        refine g_bipush X 6 dM_look_37 (by decide) ?_
        refine g_iald X k_103 ln_103 dM_look_39 ?_
        refine g_iconst X 1 dM_look_40 (by decide) ?_
        refine g_isub X dM_look_41 ?_
        exact g_iret X E dM_look_42
      · refine g_iload_n X dM_look_43 rfl ?_
        refine g_iconst X 3 dM_look_44 (by decide) ?_
        refine g_cne X (tgt := 56) dM_look_45 (by decide) ?_ ?_
        · refine g_aload_n X dM_look_48 rfl ?_
          refine g_getN X fl_M_7 fb_12_1 k_102 r_102_1 dM_look_49 ?_
          refine g_bipush X 8 dM_look_52 (by decide) ?_
          refine g_iald X k_103 ln_103 dM_look_54 ?_
          exact g_iret X E dM_look_55
        · refine g_iload_n X dM_look_56 rfl ?_
          refine g_iconst X 4 dM_look_57 (by decide) ?_
          refine g_cne X (tgt := 69) dM_look_58 (by decide) ?_ ?_
          · refine g_aload_n X dM_look_61 rfl ?_
            refine g_getN X fl_M_7 fb_12_1 k_102 r_102_1 dM_look_62 ?_
            refine g_bipush X 9 dM_look_65 (by decide) ?_
            refine g_iald X k_103 ln_103 dM_look_67 ?_
            exact g_iret X E dM_look_68
          · refine g_iload_n X dM_look_69 rfl ?_
            refine g_iconst X 5 dM_look_70 (by decide) ?_
            refine g_cne X (tgt := 79) dM_look_71 (by decide) ?_ ?_
            · refine g_aload_n X dM_look_74 rfl ?_
              refine g_virtI X [] [] k_102 mm_M_sunset mv_M_sunset ml_M_329 (okM_sunset s1 C.l C.w) rfl (by decide) rfl (Nat.le_of_ble_eq_true rfl) dM_look_75 (fun r3 s2 => ?_)
              exact g_iret X E dM_look_78
            · refine g_iload_n X dM_look_79 rfl ?_
              refine g_bipush X 6 dM_look_80 (by decide) ?_
              refine g_cne X (tgt := 92) dM_look_82 (by decide) ?_ ?_
              · refine g_aload_n X dM_look_85 rfl ?_
                refine g_getN X fl_M_7 fb_12_1 k_102 r_102_1 dM_look_86 ?_
                refine g_iconst X 3 dM_look_89 (by decide) ?_
                refine g_iald X k_103 ln_103 dM_look_90 ?_
                exact g_iret X E dM_look_91
              · refine g_iload_n X dM_look_92 rfl ?_
                refine g_bipush X 7 dM_look_93 (by decide) ?_
                refine g_cne X (tgt := 105) dM_look_95 (by decide) ?_ ?_
                · refine g_aload_n X dM_look_98 rfl ?_
                  refine g_getN X fl_M_7 fb_12_1 k_102 r_102_1 dM_look_99 ?_
                  refine g_iconst X 0 dM_look_102 (by decide) ?_
                  refine g_iald X k_103 ln_103 dM_look_103 ?_
                  exact g_iret X E dM_look_104
                · refine g_iload_n X dM_look_105 rfl ?_
                  refine g_bipush X 8 dM_look_106 (by decide) ?_
                  refine g_cne X (tgt := 118) dM_look_108 (by decide) ?_ ?_
                  · refine g_aload_n X dM_look_111 rfl ?_
                    refine g_getN X fl_M_7 fb_12_1 k_102 r_102_1 dM_look_112 ?_
                    refine g_iconst X 2 dM_look_115 (by decide) ?_
                    refine g_iald X k_103 ln_103 dM_look_116 ?_
                    exact g_iret X E dM_look_117
                  · refine g_iload_n X dM_look_118 rfl ?_
                    refine g_bipush X 9 dM_look_119 (by decide) ?_
                    refine g_cne X (tgt := 131) dM_look_121 (by decide) ?_ ?_
                    · refine g_aload_n X dM_look_124 rfl ?_
                      refine g_getN X fl_M_7 fb_12_1 k_102 r_102_1 dM_look_125 ?_
                      refine g_iconst X 1 dM_look_128 (by decide) ?_
                      refine g_iald X k_103 ln_103 dM_look_129 ?_
                      exact g_iret X E dM_look_130
                    · refine g_iload_n X dM_look_131 rfl ?_
                      refine g_bipush X 10 dM_look_132 (by decide) ?_
                      refine g_cne X (tgt := 144) dM_look_134 (by decide) ?_ ?_
                      · refine g_aload_n X dM_look_137 rfl ?_
                        refine g_getN X fl_M_37 fb_12_18 k_102 r_102_18 dM_look_138 ?_
                        refine g_iconst X 0 dM_look_141 (by decide) ?_
                        refine g_iald X k_112 ln_112 dM_look_142 ?_
                        exact g_iret X E dM_look_143
                      · refine g_iload_n X dM_look_144 rfl ?_
                        refine g_bipush X 11 dM_look_145 (by decide) ?_
                        refine g_cne X (tgt := 155) dM_look_147 (by decide) ?_ ?_
                        · refine g_aload_n X dM_look_150 rfl ?_
                          refine g_getI X fl_M_296 fb_12_34 k_102 dM_look_151 ?_
                          exact g_iret X E dM_look_154
                        · refine g_iload_n X dM_look_155 rfl ?_
                          refine g_bipush X 12 dM_look_156 (by decide) ?_
                          refine g_cne X (tgt := 166) dM_look_158 (by decide) ?_ ?_
                          · refine g_aload_n X dM_look_161 rfl ?_
                            refine g_getI X fl_M_299 fb_12_36 k_102 dM_look_162 ?_
                            exact g_iret X E dM_look_165
                          · refine g_iload_n X dM_look_166 rfl ?_
                            refine g_bipush X 13 dM_look_167 (by decide) ?_
                            refine g_cne X (tgt := 177) dM_look_169 (by decide) ?_ ?_
                            · refine g_aload_n X dM_look_172 rfl ?_
                              refine g_getI X fl_M_293 fb_12_38 k_102 dM_look_173 ?_
                              exact g_iret X E dM_look_176
                            · refine g_iload_n X dM_look_177 rfl ?_
                              refine g_bipush X 14 dM_look_178 (by decide) ?_
                              refine g_cne X (tgt := 190) dM_look_180 (by decide) ?_ ?_
                              · refine g_aload_n X dM_look_183 rfl ?_
                                refine g_getI X fl_M_137 fb_12_3 k_102 dM_look_184 ?_
                                refine g_goto X 192 dM_look_187 (by decide) ?_
                                exact g_iret X E dM_look_192
                              · refine g_bipush X (-2) dM_look_190 (by decide) ?_
                                exact g_iret X E dM_look_192
def yJ11_isValidCodePoint_9a6ad : MethodName := ⟨"java/lang/Character", "isValidCodePoint", "(I)Z"⟩
abbrev cJ11_isValidCodePoint_9a6ad : ByteArray := prog_15_method_11_code
theorem dJ11_isValidCodePoint_9a6ad_0 : decode cJ11_isValidCodePoint_9a6ad 0 = .ok (.iload_n 0, 1) := by decide +kernel
theorem dJ11_isValidCodePoint_9a6ad_1 : decode cJ11_isValidCodePoint_9a6ad 1 = .ok (.bipush 16, 2) := by decide +kernel
theorem dJ11_isValidCodePoint_9a6ad_3 : decode cJ11_isValidCodePoint_9a6ad 3 = .ok (.iushr, 1) := by decide +kernel
theorem dJ11_isValidCodePoint_9a6ad_4 : decode cJ11_isValidCodePoint_9a6ad 4 = .ok (.istore_n 1, 1) := by decide +kernel
theorem dJ11_isValidCodePoint_9a6ad_5 : decode cJ11_isValidCodePoint_9a6ad 5 = .ok (.iload_n 1, 1) := by decide +kernel
theorem dJ11_isValidCodePoint_9a6ad_6 : decode cJ11_isValidCodePoint_9a6ad 6 = .ok (.bipush 17, 2) := by decide +kernel
theorem dJ11_isValidCodePoint_9a6ad_8 : decode cJ11_isValidCodePoint_9a6ad 8 = .ok (.if_icmp .ge 7, 3) := by decide +kernel
theorem dJ11_isValidCodePoint_9a6ad_15 : decode cJ11_isValidCodePoint_9a6ad 15 = .ok (.iconst 0, 1) := by decide +kernel
theorem dJ11_isValidCodePoint_9a6ad_16 : decode cJ11_isValidCodePoint_9a6ad 16 = .ok (.ireturn, 1) := by decide +kernel
theorem dJ11_isValidCodePoint_9a6ad_11 : decode cJ11_isValidCodePoint_9a6ad 11 = .ok (.iconst 1, 1) := by decide +kernel
theorem dJ11_isValidCodePoint_9a6ad_12 : decode cJ11_isValidCodePoint_9a6ad 12 = .ok (.goto 4, 3) := by decide +kernel
def fJ11_isValidCodePoint_9a6ad (v0 : Int32) (s0 : Sg) : Option (Int32 × Sg) := if 17 ≤ (usr v0 16) then (gb 0 (some (0, s0))) else (gb 1 (some (1, s0)))
set_option maxHeartbeats 4000000 in
set_option maxRecDepth 100000 in
theorem okJ11_isValidCodePoint_9a6ad (v0 : Int32) (s0 : Sg) : ∀ (l : Launch) (w : WC), Ok l w yJ11_isValidCodePoint_9a6ad cJ11_isValidCodePoint_9a6ad 2 (some .boolean) 1 evI [.int v0] s0 (fJ11_isValidCodePoint_9a6ad v0 s0) := by
  refine ok_in (ev := fun _ => evI) (av := fun w => [.int v0]) "java/lang/Character" rfl (by decide +kernel) (fun _ => rfl) (fun _ => Nat.le_of_ble_eq_true rfl) ?_
  intro C X E
  show GF C evI 0 [some (.int v0), none] [] s0 (fJ11_isValidCodePoint_9a6ad v0 s0)
  unfold fJ11_isValidCodePoint_9a6ad
  refine g_iload_n X dJ11_isValidCodePoint_9a6ad_0 rfl ?_
  refine g_bipush X 16 dJ11_isValidCodePoint_9a6ad_1 (by decide) ?_
  refine g_iushr X dJ11_isValidCodePoint_9a6ad_3 ?_
  refine g_istore_n X [some (.int v0), some (.int (usr v0 16))] dJ11_isValidCodePoint_9a6ad_4 (by decide) (Nat.le_of_ble_eq_true rfl) rfl ?_
  refine g_iload_n X dJ11_isValidCodePoint_9a6ad_5 rfl ?_
  refine g_bipush X 17 dJ11_isValidCodePoint_9a6ad_6 (by decide) ?_
  refine g_cge X (tgt := 15) dJ11_isValidCodePoint_9a6ad_8 (by decide) ?_ ?_
  · refine g_iconst X 0 dJ11_isValidCodePoint_9a6ad_15 (by decide) ?_
    exact g_zret X E dJ11_isValidCodePoint_9a6ad_16
  · refine g_iconst X 1 dJ11_isValidCodePoint_9a6ad_11 (by decide) ?_
    refine g_goto X 16 dJ11_isValidCodePoint_9a6ad_12 (by decide) ?_
    exact g_zret X E dJ11_isValidCodePoint_9a6ad_16
def yJ11_highSurrogate_5068e : MethodName := ⟨"java/lang/Character", "highSurrogate", "(I)C"⟩
abbrev cJ11_highSurrogate_5068e : ByteArray := prog_15_method_28_code
theorem dJ11_highSurrogate_5068e_0 : decode cJ11_highSurrogate_5068e 0 = .ok (.iload_n 0, 1) := by decide +kernel
theorem dJ11_highSurrogate_5068e_1 : decode cJ11_highSurrogate_5068e 1 = .ok (.bipush 10, 2) := by decide +kernel
theorem dJ11_highSurrogate_5068e_3 : decode cJ11_highSurrogate_5068e 3 = .ok (.iushr, 1) := by decide +kernel
theorem dJ11_highSurrogate_5068e_4 : decode cJ11_highSurrogate_5068e 4 = .ok (.ldc 110, 2) := by decide +kernel
theorem kc_java_lang_Character_110 : Cond.constant "java/lang/Character" 110 55232 ∈ hz_wt := hz_in 970 (by decide +kernel) (by decide +kernel)
theorem dJ11_highSurrogate_5068e_6 : decode cJ11_highSurrogate_5068e 6 = .ok (.iadd, 1) := by decide +kernel
theorem dJ11_highSurrogate_5068e_7 : decode cJ11_highSurrogate_5068e 7 = .ok (.i2c, 1) := by decide +kernel
theorem dJ11_highSurrogate_5068e_8 : decode cJ11_highSurrogate_5068e 8 = .ok (.ireturn, 1) := by decide +kernel
def fJ11_highSurrogate_5068e (v0 : Int32) (s0 : Sg) : Option (Int32 × Sg) := gch (chr ((usr v0 10) + 55232)) (some ((chr ((usr v0 10) + 55232)), s0))
set_option maxHeartbeats 4000000 in
set_option maxRecDepth 100000 in
theorem okJ11_highSurrogate_5068e (v0 : Int32) (s0 : Sg) : ∀ (l : Launch) (w : WC), Ok l w yJ11_highSurrogate_5068e cJ11_highSurrogate_5068e 1 (some .char) 1 evI [.int v0] s0 (fJ11_highSurrogate_5068e v0 s0) := by
  refine ok_in (ev := fun _ => evI) (av := fun w => [.int v0]) "java/lang/Character" rfl (by decide +kernel) (fun _ => rfl) (fun _ => Nat.le_of_ble_eq_true rfl) ?_
  intro C X E
  show GF C evI 0 [some (.int v0)] [] s0 (fJ11_highSurrogate_5068e v0 s0)
  unfold fJ11_highSurrogate_5068e
  refine g_iload_n X dJ11_highSurrogate_5068e_0 rfl ?_
  refine g_bipush X 10 dJ11_highSurrogate_5068e_1 (by decide) ?_
  refine g_iushr X dJ11_highSurrogate_5068e_3 ?_
  refine g_ldc X kc_java_lang_Character_110 dJ11_highSurrogate_5068e_4 ?_
  refine g_iadd X dJ11_highSurrogate_5068e_6 ?_
  refine g_i2c X dJ11_highSurrogate_5068e_7 ?_
  exact g_cret X E dJ11_highSurrogate_5068e_8
def yJ11_lowSurrogate_5068e : MethodName := ⟨"java/lang/Character", "lowSurrogate", "(I)C"⟩
abbrev cJ11_lowSurrogate_5068e : ByteArray := prog_15_method_29_code
theorem dJ11_lowSurrogate_5068e_0 : decode cJ11_lowSurrogate_5068e 0 = .ok (.iload_n 0, 1) := by decide +kernel
theorem dJ11_lowSurrogate_5068e_1 : decode cJ11_lowSurrogate_5068e 1 = .ok (.sipush 1023, 3) := by decide +kernel
theorem dJ11_lowSurrogate_5068e_4 : decode cJ11_lowSurrogate_5068e 4 = .ok (.iand, 1) := by decide +kernel
theorem dJ11_lowSurrogate_5068e_5 : decode cJ11_lowSurrogate_5068e 5 = .ok (.ldc 76, 2) := by decide +kernel
theorem kc_java_lang_Character_76 : Cond.constant "java/lang/Character" 76 56320 ∈ hz_wt := hz_in 974 (by decide +kernel) (by decide +kernel)
theorem dJ11_lowSurrogate_5068e_7 : decode cJ11_lowSurrogate_5068e 7 = .ok (.iadd, 1) := by decide +kernel
theorem dJ11_lowSurrogate_5068e_8 : decode cJ11_lowSurrogate_5068e 8 = .ok (.i2c, 1) := by decide +kernel
theorem dJ11_lowSurrogate_5068e_9 : decode cJ11_lowSurrogate_5068e 9 = .ok (.ireturn, 1) := by decide +kernel
def fJ11_lowSurrogate_5068e (v0 : Int32) (s0 : Sg) : Option (Int32 × Sg) := gch (chr ((v0 &&& 1023) + 56320)) (some ((chr ((v0 &&& 1023) + 56320)), s0))
set_option maxHeartbeats 4000000 in
set_option maxRecDepth 100000 in
theorem okJ11_lowSurrogate_5068e (v0 : Int32) (s0 : Sg) : ∀ (l : Launch) (w : WC), Ok l w yJ11_lowSurrogate_5068e cJ11_lowSurrogate_5068e 1 (some .char) 1 evI [.int v0] s0 (fJ11_lowSurrogate_5068e v0 s0) := by
  refine ok_in (ev := fun _ => evI) (av := fun w => [.int v0]) "java/lang/Character" rfl (by decide +kernel) (fun _ => rfl) (fun _ => Nat.le_of_ble_eq_true rfl) ?_
  intro C X E
  show GF C evI 0 [some (.int v0)] [] s0 (fJ11_lowSurrogate_5068e v0 s0)
  unfold fJ11_lowSurrogate_5068e
  refine g_iload_n X dJ11_lowSurrogate_5068e_0 rfl ?_
  refine g_sipush X 1023 dJ11_lowSurrogate_5068e_1 (by decide) ?_
  refine g_iand X dJ11_lowSurrogate_5068e_4 ?_
  refine g_ldc X kc_java_lang_Character_76 dJ11_lowSurrogate_5068e_5 ?_
  refine g_iadd X dJ11_lowSurrogate_5068e_7 ?_
  refine g_i2c X dJ11_lowSurrogate_5068e_8 ?_
  exact g_cret X E dJ11_lowSurrogate_5068e_9
def yJ6_numberOfTrailingZeros_0f7a4 : MethodName := ⟨"java/lang/Integer", "numberOfTrailingZeros", "(I)I"⟩
abbrev cJ6_numberOfTrailingZeros_0f7a4 : ByteArray := prog_16_method_48_code
theorem dJ6_numberOfTrailingZeros_0f7a4_0 : decode cJ6_numberOfTrailingZeros_0f7a4 0 = .ok (.iload_n 0, 1) := by decide +kernel
theorem dJ6_numberOfTrailingZeros_0f7a4_1 : decode cJ6_numberOfTrailingZeros_0f7a4 1 = .ok (.iconst (-1), 1) := by decide +kernel
theorem dJ6_numberOfTrailingZeros_0f7a4_2 : decode cJ6_numberOfTrailingZeros_0f7a4 2 = .ok (.ixor, 1) := by decide +kernel
theorem dJ6_numberOfTrailingZeros_0f7a4_3 : decode cJ6_numberOfTrailingZeros_0f7a4 3 = .ok (.iload_n 0, 1) := by decide +kernel
theorem dJ6_numberOfTrailingZeros_0f7a4_4 : decode cJ6_numberOfTrailingZeros_0f7a4 4 = .ok (.iconst 1, 1) := by decide +kernel
theorem dJ6_numberOfTrailingZeros_0f7a4_5 : decode cJ6_numberOfTrailingZeros_0f7a4 5 = .ok (.isub, 1) := by decide +kernel
theorem dJ6_numberOfTrailingZeros_0f7a4_6 : decode cJ6_numberOfTrailingZeros_0f7a4 6 = .ok (.iand, 1) := by decide +kernel
theorem dJ6_numberOfTrailingZeros_0f7a4_7 : decode cJ6_numberOfTrailingZeros_0f7a4 7 = .ok (.istore_n 0, 1) := by decide +kernel
theorem dJ6_numberOfTrailingZeros_0f7a4_8 : decode cJ6_numberOfTrailingZeros_0f7a4 8 = .ok (.iload_n 0, 1) := by decide +kernel
theorem dJ6_numberOfTrailingZeros_0f7a4_9 : decode cJ6_numberOfTrailingZeros_0f7a4 9 = .ok (.ifCond .gt 8, 3) := by decide +kernel
theorem dJ6_numberOfTrailingZeros_0f7a4_17 : decode cJ6_numberOfTrailingZeros_0f7a4 17 = .ok (.iconst 1, 1) := by decide +kernel
theorem dJ6_numberOfTrailingZeros_0f7a4_18 : decode cJ6_numberOfTrailingZeros_0f7a4 18 = .ok (.istore_n 1, 1) := by decide +kernel
theorem dJ6_numberOfTrailingZeros_0f7a4_19 : decode cJ6_numberOfTrailingZeros_0f7a4 19 = .ok (.iload_n 0, 1) := by decide +kernel
theorem dJ6_numberOfTrailingZeros_0f7a4_20 : decode cJ6_numberOfTrailingZeros_0f7a4 20 = .ok (.ldc_w 264, 3) := by decide +kernel
theorem kc_java_lang_Integer_264 : Cond.constant "java/lang/Integer" 264 65536 ∈ hz_wt := hz_in 1361 (by decide +kernel) (by decide +kernel)
theorem dJ6_numberOfTrailingZeros_0f7a4_23 : decode cJ6_numberOfTrailingZeros_0f7a4 23 = .ok (.if_icmp .le 11, 3) := by decide +kernel
theorem dJ6_numberOfTrailingZeros_0f7a4_34 : decode cJ6_numberOfTrailingZeros_0f7a4 34 = .ok (.iload_n 0, 1) := by decide +kernel
theorem dJ6_numberOfTrailingZeros_0f7a4_35 : decode cJ6_numberOfTrailingZeros_0f7a4 35 = .ok (.sipush 256, 3) := by decide +kernel
theorem dJ6_numberOfTrailingZeros_0f7a4_38 : decode cJ6_numberOfTrailingZeros_0f7a4 38 = .ok (.if_icmp .le 11, 3) := by decide +kernel
theorem dJ6_numberOfTrailingZeros_0f7a4_49 : decode cJ6_numberOfTrailingZeros_0f7a4 49 = .ok (.iload_n 0, 1) := by decide +kernel
theorem dJ6_numberOfTrailingZeros_0f7a4_50 : decode cJ6_numberOfTrailingZeros_0f7a4 50 = .ok (.bipush 16, 2) := by decide +kernel
theorem dJ6_numberOfTrailingZeros_0f7a4_52 : decode cJ6_numberOfTrailingZeros_0f7a4 52 = .ok (.if_icmp .le 10, 3) := by decide +kernel
theorem dJ6_numberOfTrailingZeros_0f7a4_62 : decode cJ6_numberOfTrailingZeros_0f7a4 62 = .ok (.iload_n 0, 1) := by decide +kernel
theorem dJ6_numberOfTrailingZeros_0f7a4_63 : decode cJ6_numberOfTrailingZeros_0f7a4 63 = .ok (.iconst 4, 1) := by decide +kernel
theorem dJ6_numberOfTrailingZeros_0f7a4_64 : decode cJ6_numberOfTrailingZeros_0f7a4 64 = .ok (.if_icmp .le 10, 3) := by decide +kernel
theorem dJ6_numberOfTrailingZeros_0f7a4_74 : decode cJ6_numberOfTrailingZeros_0f7a4 74 = .ok (.iload_n 1, 1) := by decide +kernel
theorem dJ6_numberOfTrailingZeros_0f7a4_75 : decode cJ6_numberOfTrailingZeros_0f7a4 75 = .ok (.iload_n 0, 1) := by decide +kernel
theorem dJ6_numberOfTrailingZeros_0f7a4_76 : decode cJ6_numberOfTrailingZeros_0f7a4 76 = .ok (.iconst 1, 1) := by decide +kernel
theorem dJ6_numberOfTrailingZeros_0f7a4_77 : decode cJ6_numberOfTrailingZeros_0f7a4 77 = .ok (.iushr, 1) := by decide +kernel
theorem dJ6_numberOfTrailingZeros_0f7a4_78 : decode cJ6_numberOfTrailingZeros_0f7a4 78 = .ok (.iadd, 1) := by decide +kernel
theorem dJ6_numberOfTrailingZeros_0f7a4_79 : decode cJ6_numberOfTrailingZeros_0f7a4 79 = .ok (.ireturn, 1) := by decide +kernel
theorem dJ6_numberOfTrailingZeros_0f7a4_67 : decode cJ6_numberOfTrailingZeros_0f7a4 67 = .ok (.iinc 1 2, 3) := by decide +kernel
theorem dJ6_numberOfTrailingZeros_0f7a4_70 : decode cJ6_numberOfTrailingZeros_0f7a4 70 = .ok (.iload_n 0, 1) := by decide +kernel
theorem dJ6_numberOfTrailingZeros_0f7a4_71 : decode cJ6_numberOfTrailingZeros_0f7a4 71 = .ok (.iconst 2, 1) := by decide +kernel
theorem dJ6_numberOfTrailingZeros_0f7a4_72 : decode cJ6_numberOfTrailingZeros_0f7a4 72 = .ok (.iushr, 1) := by decide +kernel
theorem dJ6_numberOfTrailingZeros_0f7a4_73 : decode cJ6_numberOfTrailingZeros_0f7a4 73 = .ok (.istore_n 0, 1) := by decide +kernel
theorem dJ6_numberOfTrailingZeros_0f7a4_55 : decode cJ6_numberOfTrailingZeros_0f7a4 55 = .ok (.iinc 1 4, 3) := by decide +kernel
theorem dJ6_numberOfTrailingZeros_0f7a4_58 : decode cJ6_numberOfTrailingZeros_0f7a4 58 = .ok (.iload_n 0, 1) := by decide +kernel
theorem dJ6_numberOfTrailingZeros_0f7a4_59 : decode cJ6_numberOfTrailingZeros_0f7a4 59 = .ok (.iconst 4, 1) := by decide +kernel
theorem dJ6_numberOfTrailingZeros_0f7a4_60 : decode cJ6_numberOfTrailingZeros_0f7a4 60 = .ok (.iushr, 1) := by decide +kernel
theorem dJ6_numberOfTrailingZeros_0f7a4_61 : decode cJ6_numberOfTrailingZeros_0f7a4 61 = .ok (.istore_n 0, 1) := by decide +kernel
theorem dJ6_numberOfTrailingZeros_0f7a4_41 : decode cJ6_numberOfTrailingZeros_0f7a4 41 = .ok (.iinc 1 8, 3) := by decide +kernel
theorem dJ6_numberOfTrailingZeros_0f7a4_44 : decode cJ6_numberOfTrailingZeros_0f7a4 44 = .ok (.iload_n 0, 1) := by decide +kernel
theorem dJ6_numberOfTrailingZeros_0f7a4_45 : decode cJ6_numberOfTrailingZeros_0f7a4 45 = .ok (.bipush 8, 2) := by decide +kernel
theorem dJ6_numberOfTrailingZeros_0f7a4_47 : decode cJ6_numberOfTrailingZeros_0f7a4 47 = .ok (.iushr, 1) := by decide +kernel
theorem dJ6_numberOfTrailingZeros_0f7a4_48 : decode cJ6_numberOfTrailingZeros_0f7a4 48 = .ok (.istore_n 0, 1) := by decide +kernel
theorem dJ6_numberOfTrailingZeros_0f7a4_26 : decode cJ6_numberOfTrailingZeros_0f7a4 26 = .ok (.iinc 1 16, 3) := by decide +kernel
theorem dJ6_numberOfTrailingZeros_0f7a4_29 : decode cJ6_numberOfTrailingZeros_0f7a4 29 = .ok (.iload_n 0, 1) := by decide +kernel
theorem dJ6_numberOfTrailingZeros_0f7a4_30 : decode cJ6_numberOfTrailingZeros_0f7a4 30 = .ok (.bipush 16, 2) := by decide +kernel
theorem dJ6_numberOfTrailingZeros_0f7a4_32 : decode cJ6_numberOfTrailingZeros_0f7a4 32 = .ok (.iushr, 1) := by decide +kernel
theorem dJ6_numberOfTrailingZeros_0f7a4_33 : decode cJ6_numberOfTrailingZeros_0f7a4 33 = .ok (.istore_n 0, 1) := by decide +kernel
theorem dJ6_numberOfTrailingZeros_0f7a4_12 : decode cJ6_numberOfTrailingZeros_0f7a4 12 = .ok (.iload_n 0, 1) := by decide +kernel
theorem dJ6_numberOfTrailingZeros_0f7a4_13 : decode cJ6_numberOfTrailingZeros_0f7a4 13 = .ok (.bipush 32, 2) := by decide +kernel
theorem dJ6_numberOfTrailingZeros_0f7a4_15 : decode cJ6_numberOfTrailingZeros_0f7a4 15 = .ok (.iand, 1) := by decide +kernel
theorem dJ6_numberOfTrailingZeros_0f7a4_16 : decode cJ6_numberOfTrailingZeros_0f7a4 16 = .ok (.ireturn, 1) := by decide +kernel
def fJ6_numberOfTrailingZeros_0f7a4 (v0 : Int32) (s0 : Sg) : Option (Int32 × Sg) := bnd ((v0 ^^^ (-1)) &&& (v0 - 1)) fun x1 => if 0 < x1 then (bnd (fun (a34_0 : Int32) (a34_1 : Int32) (s2 : Sg) => bnd (fun (a49_0 : Int32) (a49_1 : Int32) (s3 : Sg) => bnd (fun (a62_0 : Int32) (a62_1 : Int32) (s4 : Sg) => bnd (fun (a74_0 : Int32) (a74_1 : Int32) (s5 : Sg) => some ((a74_1 + (usr a74_0 1)), s5)) fun j74 => if a62_0 ≤ 4 then (j74 a62_0 a62_1 s4) else (j74 (usr a62_0 2) (a62_1 + 2) s4)) fun j62 => if a49_0 ≤ 16 then (j62 a49_0 a49_1 s3) else (j62 (usr a49_0 4) (a49_1 + 4) s3)) fun j49 => if a34_0 ≤ 256 then (j49 a34_0 a34_1 s2) else (j49 (usr a34_0 8) (a34_1 + 8) s2)) fun j34 => if x1 ≤ 65536 then (j34 x1 1 s0) else (j34 (usr x1 16) (1 + 16) s0)) else (some ((x1 &&& 32), s0))
set_option maxHeartbeats 4000000 in
set_option maxRecDepth 100000 in
theorem okJ6_numberOfTrailingZeros_0f7a4 (v0 : Int32) (s0 : Sg) : ∀ (l : Launch) (w : WC), Ok l w yJ6_numberOfTrailingZeros_0f7a4 cJ6_numberOfTrailingZeros_0f7a4 2 (some .int) 1 evI [.int v0] s0 (fJ6_numberOfTrailingZeros_0f7a4 v0 s0) := by
  refine ok_in (ev := fun _ => evI) (av := fun w => [.int v0]) "java/lang/Integer" rfl (by decide +kernel) (fun _ => rfl) (fun _ => Nat.le_of_ble_eq_true rfl) ?_
  intro C X E
  show GF C evI 0 [some (.int v0), none] [] s0 (fJ6_numberOfTrailingZeros_0f7a4 v0 s0)
  unfold fJ6_numberOfTrailingZeros_0f7a4
  refine g_iload_n X dJ6_numberOfTrailingZeros_0f7a4_0 rfl ?_
  refine g_iconst X (-1) dJ6_numberOfTrailingZeros_0f7a4_1 (by decide) ?_
  refine g_ixor X dJ6_numberOfTrailingZeros_0f7a4_2 ?_
  refine g_iload_n X dJ6_numberOfTrailingZeros_0f7a4_3 rfl ?_
  refine g_iconst X 1 dJ6_numberOfTrailingZeros_0f7a4_4 (by decide) ?_
  refine g_isub X dJ6_numberOfTrailingZeros_0f7a4_5 ?_
  refine g_iand X dJ6_numberOfTrailingZeros_0f7a4_6 ?_
  refine gf_nm (fun x1 => ?_)
  refine g_istore_n X [some (.int x1), none] dJ6_numberOfTrailingZeros_0f7a4_7 (by decide) (Nat.le_of_ble_eq_true rfl) rfl ?_
  refine g_iload_n X dJ6_numberOfTrailingZeros_0f7a4_8 rfl ?_
  refine g_zgt X (tgt := 17) dJ6_numberOfTrailingZeros_0f7a4_9 (by decide) ?_ ?_
  · refine g_iconst X 1 dJ6_numberOfTrailingZeros_0f7a4_17 (by decide) ?_
    refine g_istore_n X [some (.int x1), some (.int 1)] dJ6_numberOfTrailingZeros_0f7a4_18 (by decide) (Nat.le_of_ble_eq_true rfl) rfl ?_
    refine g_iload_n X dJ6_numberOfTrailingZeros_0f7a4_19 rfl ?_
    refine g_ldcw X kc_java_lang_Integer_264 dJ6_numberOfTrailingZeros_0f7a4_20 ?_
    refine gf_jn (fun j34 => ∀ (a34_0 : Int32) (a34_1 : Int32) (s2 : Sg), GF C evI 34 [some (.int a34_0), some (.int a34_1)] [] s2 (j34 a34_0 a34_1 s2)) ?_ ?_
    · intro a34_0 a34_1 s2
      refine g_iload_n X dJ6_numberOfTrailingZeros_0f7a4_34 rfl ?_
      refine g_sipush X 256 dJ6_numberOfTrailingZeros_0f7a4_35 (by decide) ?_
      refine gf_jn (fun j49 => ∀ (a49_0 : Int32) (a49_1 : Int32) (s3 : Sg), GF C evI 49 [some (.int a49_0), some (.int a49_1)] [] s3 (j49 a49_0 a49_1 s3)) ?_ ?_
      · intro a49_0 a49_1 s3
        refine g_iload_n X dJ6_numberOfTrailingZeros_0f7a4_49 rfl ?_
        refine g_bipush X 16 dJ6_numberOfTrailingZeros_0f7a4_50 (by decide) ?_
        refine gf_jn (fun j62 => ∀ (a62_0 : Int32) (a62_1 : Int32) (s4 : Sg), GF C evI 62 [some (.int a62_0), some (.int a62_1)] [] s4 (j62 a62_0 a62_1 s4)) ?_ ?_
        · intro a62_0 a62_1 s4
          refine g_iload_n X dJ6_numberOfTrailingZeros_0f7a4_62 rfl ?_
          refine g_iconst X 4 dJ6_numberOfTrailingZeros_0f7a4_63 (by decide) ?_
          refine gf_jn (fun j74 => ∀ (a74_0 : Int32) (a74_1 : Int32) (s5 : Sg), GF C evI 74 [some (.int a74_0), some (.int a74_1)] [] s5 (j74 a74_0 a74_1 s5)) ?_ ?_
          · intro a74_0 a74_1 s5
            refine g_iload_n X dJ6_numberOfTrailingZeros_0f7a4_74 rfl ?_
            refine g_iload_n X dJ6_numberOfTrailingZeros_0f7a4_75 rfl ?_
            refine g_iconst X 1 dJ6_numberOfTrailingZeros_0f7a4_76 (by decide) ?_
            refine g_iushr X dJ6_numberOfTrailingZeros_0f7a4_77 ?_
            refine g_iadd X dJ6_numberOfTrailingZeros_0f7a4_78 ?_
            exact g_iret X E dJ6_numberOfTrailingZeros_0f7a4_79
          · intro j74 hj74
            refine g_cle X (tgt := 74) dJ6_numberOfTrailingZeros_0f7a4_64 (by decide) ?_ ?_
            · exact gf_sub (hj74 a62_0 a62_1 s4) (by simp [lsub])
            · refine g_iinc X (a62_1 + 2) [some (.int a62_0), some (.int (a62_1 + 2))] dJ6_numberOfTrailingZeros_0f7a4_67 rfl rfl (by decide) rfl ?_
              refine g_iload_n X dJ6_numberOfTrailingZeros_0f7a4_70 rfl ?_
              refine g_iconst X 2 dJ6_numberOfTrailingZeros_0f7a4_71 (by decide) ?_
              refine g_iushr X dJ6_numberOfTrailingZeros_0f7a4_72 ?_
              refine g_istore_n X [some (.int (usr a62_0 2)), some (.int (a62_1 + 2))] dJ6_numberOfTrailingZeros_0f7a4_73 (by decide) (Nat.le_of_ble_eq_true rfl) rfl ?_
              exact gf_sub (hj74 (usr a62_0 2) (a62_1 + 2) s4) (by simp [lsub])
        · intro j62 hj62
          refine g_cle X (tgt := 62) dJ6_numberOfTrailingZeros_0f7a4_52 (by decide) ?_ ?_
          · exact gf_sub (hj62 a49_0 a49_1 s3) (by simp [lsub])
          · refine g_iinc X (a49_1 + 4) [some (.int a49_0), some (.int (a49_1 + 4))] dJ6_numberOfTrailingZeros_0f7a4_55 rfl rfl (by decide) rfl ?_
            refine g_iload_n X dJ6_numberOfTrailingZeros_0f7a4_58 rfl ?_
            refine g_iconst X 4 dJ6_numberOfTrailingZeros_0f7a4_59 (by decide) ?_
            refine g_iushr X dJ6_numberOfTrailingZeros_0f7a4_60 ?_
            refine g_istore_n X [some (.int (usr a49_0 4)), some (.int (a49_1 + 4))] dJ6_numberOfTrailingZeros_0f7a4_61 (by decide) (Nat.le_of_ble_eq_true rfl) rfl ?_
            exact gf_sub (hj62 (usr a49_0 4) (a49_1 + 4) s3) (by simp [lsub])
      · intro j49 hj49
        refine g_cle X (tgt := 49) dJ6_numberOfTrailingZeros_0f7a4_38 (by decide) ?_ ?_
        · exact gf_sub (hj49 a34_0 a34_1 s2) (by simp [lsub])
        · refine g_iinc X (a34_1 + 8) [some (.int a34_0), some (.int (a34_1 + 8))] dJ6_numberOfTrailingZeros_0f7a4_41 rfl rfl (by decide) rfl ?_
          refine g_iload_n X dJ6_numberOfTrailingZeros_0f7a4_44 rfl ?_
          refine g_bipush X 8 dJ6_numberOfTrailingZeros_0f7a4_45 (by decide) ?_
          refine g_iushr X dJ6_numberOfTrailingZeros_0f7a4_47 ?_
          refine g_istore_n X [some (.int (usr a34_0 8)), some (.int (a34_1 + 8))] dJ6_numberOfTrailingZeros_0f7a4_48 (by decide) (Nat.le_of_ble_eq_true rfl) rfl ?_
          exact gf_sub (hj49 (usr a34_0 8) (a34_1 + 8) s2) (by simp [lsub])
    · intro j34 hj34
      refine g_cle X (tgt := 34) dJ6_numberOfTrailingZeros_0f7a4_23 (by decide) ?_ ?_
      · exact gf_sub (hj34 x1 1 s0) (by simp [lsub])
      · refine g_iinc X (1 + 16) [some (.int x1), some (.int (1 + 16))] dJ6_numberOfTrailingZeros_0f7a4_26 rfl rfl (by decide) rfl ?_
        refine g_iload_n X dJ6_numberOfTrailingZeros_0f7a4_29 rfl ?_
        refine g_bipush X 16 dJ6_numberOfTrailingZeros_0f7a4_30 (by decide) ?_
        refine g_iushr X dJ6_numberOfTrailingZeros_0f7a4_32 ?_
        refine g_istore_n X [some (.int (usr x1 16)), some (.int (1 + 16))] dJ6_numberOfTrailingZeros_0f7a4_33 (by decide) (Nat.le_of_ble_eq_true rfl) rfl ?_
        exact gf_sub (hj34 (usr x1 16) (1 + 16) s0) (by simp [lsub])
  · refine g_iload_n X dJ6_numberOfTrailingZeros_0f7a4_12 rfl ?_
    refine g_bipush X 32 dJ6_numberOfTrailingZeros_0f7a4_13 (by decide) ?_
    refine g_iand X dJ6_numberOfTrailingZeros_0f7a4_15 ?_
    exact g_iret X E dJ6_numberOfTrailingZeros_0f7a4_16
def yJ6_bitCount_0f7a4 : MethodName := ⟨"java/lang/Integer", "bitCount", "(I)I"⟩
abbrev cJ6_bitCount_0f7a4 : ByteArray := prog_16_method_49_code
theorem dJ6_bitCount_0f7a4_0 : decode cJ6_bitCount_0f7a4 0 = .ok (.iload_n 0, 1) := by decide +kernel
theorem dJ6_bitCount_0f7a4_1 : decode cJ6_bitCount_0f7a4 1 = .ok (.iload_n 0, 1) := by decide +kernel
theorem dJ6_bitCount_0f7a4_2 : decode cJ6_bitCount_0f7a4 2 = .ok (.iconst 1, 1) := by decide +kernel
theorem dJ6_bitCount_0f7a4_3 : decode cJ6_bitCount_0f7a4 3 = .ok (.iushr, 1) := by decide +kernel
theorem dJ6_bitCount_0f7a4_4 : decode cJ6_bitCount_0f7a4 4 = .ok (.ldc_w 265, 3) := by decide +kernel
theorem kc_java_lang_Integer_265 : Cond.constant "java/lang/Integer" 265 1431655765 ∈ hz_wt := hz_in 1137 (by decide +kernel) (by decide +kernel)
theorem dJ6_bitCount_0f7a4_7 : decode cJ6_bitCount_0f7a4 7 = .ok (.iand, 1) := by decide +kernel
theorem dJ6_bitCount_0f7a4_8 : decode cJ6_bitCount_0f7a4 8 = .ok (.isub, 1) := by decide +kernel
theorem dJ6_bitCount_0f7a4_9 : decode cJ6_bitCount_0f7a4 9 = .ok (.istore_n 0, 1) := by decide +kernel
theorem dJ6_bitCount_0f7a4_10 : decode cJ6_bitCount_0f7a4 10 = .ok (.iload_n 0, 1) := by decide +kernel
theorem dJ6_bitCount_0f7a4_11 : decode cJ6_bitCount_0f7a4 11 = .ok (.ldc_w 266, 3) := by decide +kernel
theorem kc_java_lang_Integer_266 : Cond.constant "java/lang/Integer" 266 858993459 ∈ hz_wt := hz_in 1138 (by decide +kernel) (by decide +kernel)
theorem dJ6_bitCount_0f7a4_14 : decode cJ6_bitCount_0f7a4 14 = .ok (.iand, 1) := by decide +kernel
theorem dJ6_bitCount_0f7a4_15 : decode cJ6_bitCount_0f7a4 15 = .ok (.iload_n 0, 1) := by decide +kernel
theorem dJ6_bitCount_0f7a4_16 : decode cJ6_bitCount_0f7a4 16 = .ok (.iconst 2, 1) := by decide +kernel
theorem dJ6_bitCount_0f7a4_17 : decode cJ6_bitCount_0f7a4 17 = .ok (.iushr, 1) := by decide +kernel
theorem dJ6_bitCount_0f7a4_18 : decode cJ6_bitCount_0f7a4 18 = .ok (.ldc_w 266, 3) := by decide +kernel
theorem dJ6_bitCount_0f7a4_21 : decode cJ6_bitCount_0f7a4 21 = .ok (.iand, 1) := by decide +kernel
theorem dJ6_bitCount_0f7a4_22 : decode cJ6_bitCount_0f7a4 22 = .ok (.iadd, 1) := by decide +kernel
theorem dJ6_bitCount_0f7a4_23 : decode cJ6_bitCount_0f7a4 23 = .ok (.istore_n 0, 1) := by decide +kernel
theorem dJ6_bitCount_0f7a4_24 : decode cJ6_bitCount_0f7a4 24 = .ok (.iload_n 0, 1) := by decide +kernel
theorem dJ6_bitCount_0f7a4_25 : decode cJ6_bitCount_0f7a4 25 = .ok (.iload_n 0, 1) := by decide +kernel
theorem dJ6_bitCount_0f7a4_26 : decode cJ6_bitCount_0f7a4 26 = .ok (.iconst 4, 1) := by decide +kernel
theorem dJ6_bitCount_0f7a4_27 : decode cJ6_bitCount_0f7a4 27 = .ok (.iushr, 1) := by decide +kernel
theorem dJ6_bitCount_0f7a4_28 : decode cJ6_bitCount_0f7a4 28 = .ok (.iadd, 1) := by decide +kernel
theorem dJ6_bitCount_0f7a4_29 : decode cJ6_bitCount_0f7a4 29 = .ok (.ldc_w 267, 3) := by decide +kernel
theorem kc_java_lang_Integer_267 : Cond.constant "java/lang/Integer" 267 252645135 ∈ hz_wt := hz_in 1139 (by decide +kernel) (by decide +kernel)
theorem dJ6_bitCount_0f7a4_32 : decode cJ6_bitCount_0f7a4 32 = .ok (.iand, 1) := by decide +kernel
theorem dJ6_bitCount_0f7a4_33 : decode cJ6_bitCount_0f7a4 33 = .ok (.istore_n 0, 1) := by decide +kernel
theorem dJ6_bitCount_0f7a4_34 : decode cJ6_bitCount_0f7a4 34 = .ok (.iload_n 0, 1) := by decide +kernel
theorem dJ6_bitCount_0f7a4_35 : decode cJ6_bitCount_0f7a4 35 = .ok (.iload_n 0, 1) := by decide +kernel
theorem dJ6_bitCount_0f7a4_36 : decode cJ6_bitCount_0f7a4 36 = .ok (.bipush 8, 2) := by decide +kernel
theorem dJ6_bitCount_0f7a4_38 : decode cJ6_bitCount_0f7a4 38 = .ok (.iushr, 1) := by decide +kernel
theorem dJ6_bitCount_0f7a4_39 : decode cJ6_bitCount_0f7a4 39 = .ok (.iadd, 1) := by decide +kernel
theorem dJ6_bitCount_0f7a4_40 : decode cJ6_bitCount_0f7a4 40 = .ok (.istore_n 0, 1) := by decide +kernel
theorem dJ6_bitCount_0f7a4_41 : decode cJ6_bitCount_0f7a4 41 = .ok (.iload_n 0, 1) := by decide +kernel
theorem dJ6_bitCount_0f7a4_42 : decode cJ6_bitCount_0f7a4 42 = .ok (.iload_n 0, 1) := by decide +kernel
theorem dJ6_bitCount_0f7a4_43 : decode cJ6_bitCount_0f7a4 43 = .ok (.bipush 16, 2) := by decide +kernel
theorem dJ6_bitCount_0f7a4_45 : decode cJ6_bitCount_0f7a4 45 = .ok (.iushr, 1) := by decide +kernel
theorem dJ6_bitCount_0f7a4_46 : decode cJ6_bitCount_0f7a4 46 = .ok (.iadd, 1) := by decide +kernel
theorem dJ6_bitCount_0f7a4_47 : decode cJ6_bitCount_0f7a4 47 = .ok (.istore_n 0, 1) := by decide +kernel
theorem dJ6_bitCount_0f7a4_48 : decode cJ6_bitCount_0f7a4 48 = .ok (.iload_n 0, 1) := by decide +kernel
theorem dJ6_bitCount_0f7a4_49 : decode cJ6_bitCount_0f7a4 49 = .ok (.bipush 63, 2) := by decide +kernel
theorem dJ6_bitCount_0f7a4_51 : decode cJ6_bitCount_0f7a4 51 = .ok (.iand, 1) := by decide +kernel
theorem dJ6_bitCount_0f7a4_52 : decode cJ6_bitCount_0f7a4 52 = .ok (.ireturn, 1) := by decide +kernel
def fJ6_bitCount_0f7a4 (v0 : Int32) (s0 : Sg) : Option (Int32 × Sg) := bnd (v0 - ((usr v0 1) &&& 1431655765)) fun x1 => bnd ((x1 &&& 858993459) + ((usr x1 2) &&& 858993459)) fun x2 => bnd ((x2 + (usr x2 4)) &&& 252645135) fun x3 => bnd ((x3 + (usr x3 8)) + (usr (x3 + (usr x3 8)) 16)) fun x4 => some ((x4 &&& 63), s0)
set_option maxHeartbeats 4000000 in
set_option maxRecDepth 100000 in
theorem okJ6_bitCount_0f7a4 (v0 : Int32) (s0 : Sg) : ∀ (l : Launch) (w : WC), Ok l w yJ6_bitCount_0f7a4 cJ6_bitCount_0f7a4 1 (some .int) 1 evI [.int v0] s0 (fJ6_bitCount_0f7a4 v0 s0) := by
  refine ok_in (ev := fun _ => evI) (av := fun w => [.int v0]) "java/lang/Integer" rfl (by decide +kernel) (fun _ => rfl) (fun _ => Nat.le_of_ble_eq_true rfl) ?_
  intro C X E
  show GF C evI 0 [some (.int v0)] [] s0 (fJ6_bitCount_0f7a4 v0 s0)
  unfold fJ6_bitCount_0f7a4
  refine g_iload_n X dJ6_bitCount_0f7a4_0 rfl ?_
  refine g_iload_n X dJ6_bitCount_0f7a4_1 rfl ?_
  refine g_iconst X 1 dJ6_bitCount_0f7a4_2 (by decide) ?_
  refine g_iushr X dJ6_bitCount_0f7a4_3 ?_
  refine g_ldcw X kc_java_lang_Integer_265 dJ6_bitCount_0f7a4_4 ?_
  refine g_iand X dJ6_bitCount_0f7a4_7 ?_
  refine g_isub X dJ6_bitCount_0f7a4_8 ?_
  refine gf_nm (fun x1 => ?_)
  refine g_istore_n X [some (.int x1)] dJ6_bitCount_0f7a4_9 (by decide) (Nat.le_of_ble_eq_true rfl) rfl ?_
  refine g_iload_n X dJ6_bitCount_0f7a4_10 rfl ?_
  refine g_ldcw X kc_java_lang_Integer_266 dJ6_bitCount_0f7a4_11 ?_
  refine g_iand X dJ6_bitCount_0f7a4_14 ?_
  refine g_iload_n X dJ6_bitCount_0f7a4_15 rfl ?_
  refine g_iconst X 2 dJ6_bitCount_0f7a4_16 (by decide) ?_
  refine g_iushr X dJ6_bitCount_0f7a4_17 ?_
  refine g_ldcw X kc_java_lang_Integer_266 dJ6_bitCount_0f7a4_18 ?_
  refine g_iand X dJ6_bitCount_0f7a4_21 ?_
  refine g_iadd X dJ6_bitCount_0f7a4_22 ?_
  refine gf_nm (fun x2 => ?_)
  refine g_istore_n X [some (.int x2)] dJ6_bitCount_0f7a4_23 (by decide) (Nat.le_of_ble_eq_true rfl) rfl ?_
  refine g_iload_n X dJ6_bitCount_0f7a4_24 rfl ?_
  refine g_iload_n X dJ6_bitCount_0f7a4_25 rfl ?_
  refine g_iconst X 4 dJ6_bitCount_0f7a4_26 (by decide) ?_
  refine g_iushr X dJ6_bitCount_0f7a4_27 ?_
  refine g_iadd X dJ6_bitCount_0f7a4_28 ?_
  refine g_ldcw X kc_java_lang_Integer_267 dJ6_bitCount_0f7a4_29 ?_
  refine g_iand X dJ6_bitCount_0f7a4_32 ?_
  refine gf_nm (fun x3 => ?_)
  refine g_istore_n X [some (.int x3)] dJ6_bitCount_0f7a4_33 (by decide) (Nat.le_of_ble_eq_true rfl) rfl ?_
  refine g_iload_n X dJ6_bitCount_0f7a4_34 rfl ?_
  refine g_iload_n X dJ6_bitCount_0f7a4_35 rfl ?_
  refine g_bipush X 8 dJ6_bitCount_0f7a4_36 (by decide) ?_
  refine g_iushr X dJ6_bitCount_0f7a4_38 ?_
  refine g_iadd X dJ6_bitCount_0f7a4_39 ?_
  refine g_istore_n X [some (.int (x3 + (usr x3 8)))] dJ6_bitCount_0f7a4_40 (by decide) (Nat.le_of_ble_eq_true rfl) rfl ?_
  refine g_iload_n X dJ6_bitCount_0f7a4_41 rfl ?_
  refine g_iload_n X dJ6_bitCount_0f7a4_42 rfl ?_
  refine g_bipush X 16 dJ6_bitCount_0f7a4_43 (by decide) ?_
  refine g_iushr X dJ6_bitCount_0f7a4_45 ?_
  refine g_iadd X dJ6_bitCount_0f7a4_46 ?_
  refine gf_nm (fun x4 => ?_)
  refine g_istore_n X [some (.int x4)] dJ6_bitCount_0f7a4_47 (by decide) (Nat.le_of_ble_eq_true rfl) rfl ?_
  refine g_iload_n X dJ6_bitCount_0f7a4_48 rfl ?_
  refine g_bipush X 63 dJ6_bitCount_0f7a4_49 (by decide) ?_
  refine g_iand X dJ6_bitCount_0f7a4_51 ?_
  exact g_iret X E dJ6_bitCount_0f7a4_52
def yJ9_floorMod_7cf53 : MethodName := ⟨"java/lang/Math", "floorMod", "(II)I"⟩
abbrev cJ9_floorMod_7cf53 : ByteArray := prog_17_method_50_code
theorem dJ9_floorMod_7cf53_0 : decode cJ9_floorMod_7cf53 0 = .ok (.iload_n 0, 1) := by decide +kernel
theorem dJ9_floorMod_7cf53_1 : decode cJ9_floorMod_7cf53 1 = .ok (.iload_n 1, 1) := by decide +kernel
theorem dJ9_floorMod_7cf53_2 : decode cJ9_floorMod_7cf53 2 = .ok (.irem, 1) := by decide +kernel
theorem dJ9_floorMod_7cf53_3 : decode cJ9_floorMod_7cf53 3 = .ok (.istore_n 2, 1) := by decide +kernel
theorem dJ9_floorMod_7cf53_4 : decode cJ9_floorMod_7cf53 4 = .ok (.iload_n 0, 1) := by decide +kernel
theorem dJ9_floorMod_7cf53_5 : decode cJ9_floorMod_7cf53 5 = .ok (.iload_n 1, 1) := by decide +kernel
theorem dJ9_floorMod_7cf53_6 : decode cJ9_floorMod_7cf53 6 = .ok (.ixor, 1) := by decide +kernel
theorem dJ9_floorMod_7cf53_7 : decode cJ9_floorMod_7cf53 7 = .ok (.ifCond .ge 11, 3) := by decide +kernel
theorem dJ9_floorMod_7cf53_18 : decode cJ9_floorMod_7cf53 18 = .ok (.iload_n 2, 1) := by decide +kernel
theorem dJ9_floorMod_7cf53_19 : decode cJ9_floorMod_7cf53 19 = .ok (.ireturn, 1) := by decide +kernel
theorem dJ9_floorMod_7cf53_10 : decode cJ9_floorMod_7cf53 10 = .ok (.iload_n 2, 1) := by decide +kernel
theorem dJ9_floorMod_7cf53_11 : decode cJ9_floorMod_7cf53 11 = .ok (.ifCond .eq 7, 3) := by decide +kernel
theorem dJ9_floorMod_7cf53_14 : decode cJ9_floorMod_7cf53 14 = .ok (.iload_n 2, 1) := by decide +kernel
theorem dJ9_floorMod_7cf53_15 : decode cJ9_floorMod_7cf53 15 = .ok (.iload_n 1, 1) := by decide +kernel
theorem dJ9_floorMod_7cf53_16 : decode cJ9_floorMod_7cf53 16 = .ok (.iadd, 1) := by decide +kernel
theorem dJ9_floorMod_7cf53_17 : decode cJ9_floorMod_7cf53 17 = .ok (.ireturn, 1) := by decide +kernel
def fJ9_floorMod_7cf53 (v0 : Int32) (v1 : Int32) (s0 : Sg) : Option (Int32 × Sg) := gz v1 (if 0 ≤ (v0 ^^^ v1) then (some ((v0 - v0 / v1 * v1), s0)) else (if (v0 - v0 / v1 * v1) = 0 then (some ((v0 - v0 / v1 * v1), s0)) else (some (((v0 - v0 / v1 * v1) + v1), s0))))
set_option maxHeartbeats 4000000 in
set_option maxRecDepth 100000 in
theorem okJ9_floorMod_7cf53 (v0 : Int32) (v1 : Int32) (s0 : Sg) : ∀ (l : Launch) (w : WC), Ok l w yJ9_floorMod_7cf53 cJ9_floorMod_7cf53 3 (some .int) 1 evI [.int v0, .int v1] s0 (fJ9_floorMod_7cf53 v0 v1 s0) := by
  refine ok_in (ev := fun _ => evI) (av := fun w => [.int v0, .int v1]) "java/lang/Math" rfl (by decide +kernel) (fun _ => rfl) (fun _ => Nat.le_of_ble_eq_true rfl) ?_
  intro C X E
  show GF C evI 0 [some (.int v0), some (.int v1), none] [] s0 (fJ9_floorMod_7cf53 v0 v1 s0)
  unfold fJ9_floorMod_7cf53
  refine g_iload_n X dJ9_floorMod_7cf53_0 rfl ?_
  refine g_iload_n X dJ9_floorMod_7cf53_1 rfl ?_
  refine g_irem X dJ9_floorMod_7cf53_2 ?_
  refine g_istore_n X [some (.int v0), some (.int v1), some (.int (v0 - v0 / v1 * v1))] dJ9_floorMod_7cf53_3 (by decide) (Nat.le_of_ble_eq_true rfl) rfl ?_
  refine g_iload_n X dJ9_floorMod_7cf53_4 rfl ?_
  refine g_iload_n X dJ9_floorMod_7cf53_5 rfl ?_
  refine g_ixor X dJ9_floorMod_7cf53_6 ?_
  refine g_zge X (tgt := 18) dJ9_floorMod_7cf53_7 (by decide) ?_ ?_
  · refine g_iload_n X dJ9_floorMod_7cf53_18 rfl ?_
    exact g_iret X E dJ9_floorMod_7cf53_19
  · refine g_iload_n X dJ9_floorMod_7cf53_10 rfl ?_
    refine g_zeq X (tgt := 18) dJ9_floorMod_7cf53_11 (by decide) ?_ ?_
    · refine g_iload_n X dJ9_floorMod_7cf53_18 rfl ?_
      exact g_iret X E dJ9_floorMod_7cf53_19
    · refine g_iload_n X dJ9_floorMod_7cf53_14 rfl ?_
      refine g_iload_n X dJ9_floorMod_7cf53_15 rfl ?_
      refine g_iadd X dJ9_floorMod_7cf53_16 ?_
      exact g_iret X E dJ9_floorMod_7cf53_17
def yJ9_max_7cf53 : MethodName := ⟨"java/lang/Math", "max", "(II)I"⟩
abbrev cJ9_max_7cf53 : ByteArray := prog_17_method_65_code
theorem dJ9_max_7cf53_0 : decode cJ9_max_7cf53 0 = .ok (.iload_n 0, 1) := by decide +kernel
theorem dJ9_max_7cf53_1 : decode cJ9_max_7cf53 1 = .ok (.iload_n 1, 1) := by decide +kernel
theorem dJ9_max_7cf53_2 : decode cJ9_max_7cf53 2 = .ok (.if_icmp .lt 7, 3) := by decide +kernel
theorem dJ9_max_7cf53_9 : decode cJ9_max_7cf53 9 = .ok (.iload_n 1, 1) := by decide +kernel
theorem dJ9_max_7cf53_10 : decode cJ9_max_7cf53 10 = .ok (.ireturn, 1) := by decide +kernel
theorem dJ9_max_7cf53_5 : decode cJ9_max_7cf53 5 = .ok (.iload_n 0, 1) := by decide +kernel
theorem dJ9_max_7cf53_6 : decode cJ9_max_7cf53 6 = .ok (.goto 4, 3) := by decide +kernel
def fJ9_max_7cf53 (v0 : Int32) (v1 : Int32) (s0 : Sg) : Option (Int32 × Sg) := if v0 < v1 then (some (v1, s0)) else (some (v0, s0))
set_option maxHeartbeats 4000000 in
set_option maxRecDepth 100000 in
theorem okJ9_max_7cf53 (v0 : Int32) (v1 : Int32) (s0 : Sg) : ∀ (l : Launch) (w : WC), Ok l w yJ9_max_7cf53 cJ9_max_7cf53 2 (some .int) 1 evI [.int v0, .int v1] s0 (fJ9_max_7cf53 v0 v1 s0) := by
  refine ok_in (ev := fun _ => evI) (av := fun w => [.int v0, .int v1]) "java/lang/Math" rfl (by decide +kernel) (fun _ => rfl) (fun _ => Nat.le_of_ble_eq_true rfl) ?_
  intro C X E
  show GF C evI 0 [some (.int v0), some (.int v1)] [] s0 (fJ9_max_7cf53 v0 v1 s0)
  unfold fJ9_max_7cf53
  refine g_iload_n X dJ9_max_7cf53_0 rfl ?_
  refine g_iload_n X dJ9_max_7cf53_1 rfl ?_
  refine g_clt X (tgt := 9) dJ9_max_7cf53_2 (by decide) ?_ ?_
  · refine g_iload_n X dJ9_max_7cf53_9 rfl ?_
    exact g_iret X E dJ9_max_7cf53_10
  · refine g_iload_n X dJ9_max_7cf53_5 rfl ?_
    refine g_goto X 10 dJ9_max_7cf53_6 (by decide) ?_
    exact g_iret X E dJ9_max_7cf53_10
def yJ9_min_7cf53 : MethodName := ⟨"java/lang/Math", "min", "(II)I"⟩
abbrev cJ9_min_7cf53 : ByteArray := prog_17_method_69_code
theorem dJ9_min_7cf53_0 : decode cJ9_min_7cf53 0 = .ok (.iload_n 0, 1) := by decide +kernel
theorem dJ9_min_7cf53_1 : decode cJ9_min_7cf53 1 = .ok (.iload_n 1, 1) := by decide +kernel
theorem dJ9_min_7cf53_2 : decode cJ9_min_7cf53 2 = .ok (.if_icmp .gt 7, 3) := by decide +kernel
theorem dJ9_min_7cf53_9 : decode cJ9_min_7cf53 9 = .ok (.iload_n 1, 1) := by decide +kernel
theorem dJ9_min_7cf53_10 : decode cJ9_min_7cf53 10 = .ok (.ireturn, 1) := by decide +kernel
theorem dJ9_min_7cf53_5 : decode cJ9_min_7cf53 5 = .ok (.iload_n 0, 1) := by decide +kernel
theorem dJ9_min_7cf53_6 : decode cJ9_min_7cf53 6 = .ok (.goto 4, 3) := by decide +kernel
def fJ9_min_7cf53 (v0 : Int32) (v1 : Int32) (s0 : Sg) : Option (Int32 × Sg) := if v1 < v0 then (some (v1, s0)) else (some (v0, s0))
set_option maxHeartbeats 4000000 in
set_option maxRecDepth 100000 in
theorem okJ9_min_7cf53 (v0 : Int32) (v1 : Int32) (s0 : Sg) : ∀ (l : Launch) (w : WC), Ok l w yJ9_min_7cf53 cJ9_min_7cf53 2 (some .int) 1 evI [.int v0, .int v1] s0 (fJ9_min_7cf53 v0 v1 s0) := by
  refine ok_in (ev := fun _ => evI) (av := fun w => [.int v0, .int v1]) "java/lang/Math" rfl (by decide +kernel) (fun _ => rfl) (fun _ => Nat.le_of_ble_eq_true rfl) ?_
  intro C X E
  show GF C evI 0 [some (.int v0), some (.int v1)] [] s0 (fJ9_min_7cf53 v0 v1 s0)
  unfold fJ9_min_7cf53
  refine g_iload_n X dJ9_min_7cf53_0 rfl ?_
  refine g_iload_n X dJ9_min_7cf53_1 rfl ?_
  refine g_cgt X (tgt := 9) dJ9_min_7cf53_2 (by decide) ?_ ?_
  · refine g_iload_n X dJ9_min_7cf53_9 rfl ?_
    exact g_iret X E dJ9_min_7cf53_10
  · refine g_iload_n X dJ9_min_7cf53_5 rfl ?_
    refine g_goto X 10 dJ9_min_7cf53_6 (by decide) ?_
    exact g_iret X E dJ9_min_7cf53_10
def yJ0_coder_7d493 : MethodName := ⟨"java/lang/String", "coder", "()B"⟩
abbrev cJ0_coder_7d493 : ByteArray := prog_18_method_152_code
theorem dJ0_coder_7d493_0 : decode cJ0_coder_7d493 0 = .ok (.getstatic 38, 3) := by decide +kernel
theorem fs_java_lang_String_38 : Cond.fieldLink "java/lang/String" 38 "java/lang/String" "COMPACT_STRINGS" "Z" ∈ hz_wt := hz_in 857 (by decide +kernel) (by decide +kernel)
theorem dJ0_coder_7d493_3 : decode cJ0_coder_7d493 3 = .ok (.ifCond .eq 10, 3) := by decide +kernel
theorem dJ0_coder_7d493_13 : decode cJ0_coder_7d493 13 = .ok (.iconst 1, 1) := by decide +kernel
theorem dJ0_coder_7d493_14 : decode cJ0_coder_7d493 14 = .ok (.ireturn, 1) := by decide +kernel
theorem dJ0_coder_7d493_6 : decode cJ0_coder_7d493 6 = .ok (.aload_n 0, 1) := by decide +kernel
theorem dJ0_coder_7d493_7 : decode cJ0_coder_7d493 7 = .ok (.getfield 15, 3) := by decide +kernel
theorem fs_java_lang_String_15 : Cond.fieldLink "java/lang/String" 15 "java/lang/String" "coder" "B" ∈ hz_wt := hz_in 2111 (by decide +kernel) (by decide +kernel)
theorem dJ0_coder_7d493_10 : decode cJ0_coder_7d493 10 = .ok (.goto 4, 3) := by decide +kernel
def fJ0_coder_7d493 (o0 : Nat) (s0 : Sg) : Option (Int32 × Sg) := if (1 : Int32) = 0 then (gby 1 (some (1, s0))) else (gby 0 (some (0, s0)))
set_option maxHeartbeats 4000000 in
set_option maxRecDepth 100000 in
theorem okJ0_coder_7d493 (o0 : Nat) (s0 : Sg) (h0 : o0 < nJS) : ∀ (l : Launch) (w : WC), Ok l w yJ0_coder_7d493 cJ0_coder_7d493 1 (some .byte) 1 evI [.ref (w.aK o0)] s0 (fJ0_coder_7d493 o0 s0) := by
  refine ok_in (ev := fun _ => evI) (av := fun w => [.ref (w.aK o0)]) "java/lang/String" rfl (by decide +kernel) (fun _ => rfl) (fun _ => Nat.le_of_ble_eq_true rfl) ?_
  intro C X E
  show GF C evI 0 [some (.ref (C.w.aK o0))] [] s0 (fJ0_coder_7d493 o0 s0)
  unfold fJ0_coder_7d493
  refine g_cmpS X fs_java_lang_String_38 dJ0_coder_7d493_0 ?_
  refine g_zeq X (tgt := 13) dJ0_coder_7d493_3 (by decide) ?_ ?_
  · refine g_iconst X 1 dJ0_coder_7d493_13 (by decide) ?_
    exact g_bret X E dJ0_coder_7d493_14
  · refine g_aload_n X dJ0_coder_7d493_6 rfl ?_
    refine g_scod X h0 fs_java_lang_String_15 dJ0_coder_7d493_7 ?_
    refine g_goto X 14 dJ0_coder_7d493_10 (by decide) ?_
    exact g_bret X E dJ0_coder_7d493_14
def yJ0_isLatin1_aae02 : MethodName := ⟨"java/lang/String", "isLatin1", "()Z"⟩
abbrev cJ0_isLatin1_aae02 : ByteArray := prog_18_method_154_code
theorem dJ0_isLatin1_aae02_0 : decode cJ0_isLatin1_aae02 0 = .ok (.getstatic 38, 3) := by decide +kernel
theorem dJ0_isLatin1_aae02_3 : decode cJ0_isLatin1_aae02 3 = .ok (.ifCond .eq 14, 3) := by decide +kernel
theorem dJ0_isLatin1_aae02_17 : decode cJ0_isLatin1_aae02 17 = .ok (.iconst 0, 1) := by decide +kernel
theorem dJ0_isLatin1_aae02_18 : decode cJ0_isLatin1_aae02 18 = .ok (.ireturn, 1) := by decide +kernel
theorem dJ0_isLatin1_aae02_6 : decode cJ0_isLatin1_aae02 6 = .ok (.aload_n 0, 1) := by decide +kernel
theorem dJ0_isLatin1_aae02_7 : decode cJ0_isLatin1_aae02 7 = .ok (.getfield 15, 3) := by decide +kernel
theorem dJ0_isLatin1_aae02_10 : decode cJ0_isLatin1_aae02 10 = .ok (.ifCond .ne 7, 3) := by decide +kernel
theorem dJ0_isLatin1_aae02_13 : decode cJ0_isLatin1_aae02 13 = .ok (.iconst 1, 1) := by decide +kernel
theorem dJ0_isLatin1_aae02_14 : decode cJ0_isLatin1_aae02 14 = .ok (.goto 4, 3) := by decide +kernel
def fJ0_isLatin1_aae02 (o0 : Nat) (s0 : Sg) : Option (Int32 × Sg) := if (1 : Int32) = 0 then (gb 0 (some (0, s0))) else (if (0 : Int32) = 0 then (gb 1 (some (1, s0))) else (gb 0 (some (0, s0))))
set_option maxHeartbeats 4000000 in
set_option maxRecDepth 100000 in
theorem okJ0_isLatin1_aae02 (o0 : Nat) (s0 : Sg) (h0 : o0 < nJS) : ∀ (l : Launch) (w : WC), Ok l w yJ0_isLatin1_aae02 cJ0_isLatin1_aae02 1 (some .boolean) 1 evI [.ref (w.aK o0)] s0 (fJ0_isLatin1_aae02 o0 s0) := by
  refine ok_in (ev := fun _ => evI) (av := fun w => [.ref (w.aK o0)]) "java/lang/String" rfl (by decide +kernel) (fun _ => rfl) (fun _ => Nat.le_of_ble_eq_true rfl) ?_
  intro C X E
  show GF C evI 0 [some (.ref (C.w.aK o0))] [] s0 (fJ0_isLatin1_aae02 o0 s0)
  unfold fJ0_isLatin1_aae02
  refine g_cmpS X fs_java_lang_String_38 dJ0_isLatin1_aae02_0 ?_
  refine g_zeq X (tgt := 17) dJ0_isLatin1_aae02_3 (by decide) ?_ ?_
  · refine g_iconst X 0 dJ0_isLatin1_aae02_17 (by decide) ?_
    exact g_zret X E dJ0_isLatin1_aae02_18
  · refine g_aload_n X dJ0_isLatin1_aae02_6 rfl ?_
    refine g_scod X h0 fs_java_lang_String_15 dJ0_isLatin1_aae02_7 ?_
    refine g_zne X (tgt := 17) dJ0_isLatin1_aae02_10 (by decide) ?_ ?_
    · refine g_iconst X 1 dJ0_isLatin1_aae02_13 (by decide) ?_
      refine g_goto X 18 dJ0_isLatin1_aae02_14 (by decide) ?_
      exact g_zret X E dJ0_isLatin1_aae02_18
    · refine g_iconst X 0 dJ0_isLatin1_aae02_17 (by decide) ?_
      exact g_zret X E dJ0_isLatin1_aae02_18
def yJ1_canEncode_9a6ad : MethodName := ⟨"java/lang/StringLatin1", "canEncode", "(I)Z"⟩
abbrev cJ1_canEncode_9a6ad : ByteArray := prog_19_method_4_code
theorem dJ1_canEncode_9a6ad_0 : decode cJ1_canEncode_9a6ad 0 = .ok (.iload_n 0, 1) := by decide +kernel
theorem dJ1_canEncode_9a6ad_1 : decode cJ1_canEncode_9a6ad 1 = .ok (.ifCond .lt 14, 3) := by decide +kernel
theorem dJ1_canEncode_9a6ad_15 : decode cJ1_canEncode_9a6ad 15 = .ok (.iconst 0, 1) := by decide +kernel
theorem dJ1_canEncode_9a6ad_16 : decode cJ1_canEncode_9a6ad 16 = .ok (.ireturn, 1) := by decide +kernel
theorem dJ1_canEncode_9a6ad_4 : decode cJ1_canEncode_9a6ad 4 = .ok (.iload_n 0, 1) := by decide +kernel
theorem dJ1_canEncode_9a6ad_5 : decode cJ1_canEncode_9a6ad 5 = .ok (.sipush 255, 3) := by decide +kernel
theorem dJ1_canEncode_9a6ad_8 : decode cJ1_canEncode_9a6ad 8 = .ok (.if_icmp .gt 7, 3) := by decide +kernel
theorem dJ1_canEncode_9a6ad_11 : decode cJ1_canEncode_9a6ad 11 = .ok (.iconst 1, 1) := by decide +kernel
theorem dJ1_canEncode_9a6ad_12 : decode cJ1_canEncode_9a6ad 12 = .ok (.goto 4, 3) := by decide +kernel
def fJ1_canEncode_9a6ad (v0 : Int32) (s0 : Sg) : Option (Int32 × Sg) := if v0 < 0 then (gb 0 (some (0, s0))) else (if 255 < v0 then (gb 0 (some (0, s0))) else (gb 1 (some (1, s0))))
set_option maxHeartbeats 4000000 in
set_option maxRecDepth 100000 in
theorem okJ1_canEncode_9a6ad (v0 : Int32) (s0 : Sg) : ∀ (l : Launch) (w : WC), Ok l w yJ1_canEncode_9a6ad cJ1_canEncode_9a6ad 1 (some .boolean) 1 evI [.int v0] s0 (fJ1_canEncode_9a6ad v0 s0) := by
  refine ok_in (ev := fun _ => evI) (av := fun w => [.int v0]) "java/lang/StringLatin1" rfl (by decide +kernel) (fun _ => rfl) (fun _ => Nat.le_of_ble_eq_true rfl) ?_
  intro C X E
  show GF C evI 0 [some (.int v0)] [] s0 (fJ1_canEncode_9a6ad v0 s0)
  unfold fJ1_canEncode_9a6ad
  refine g_iload_n X dJ1_canEncode_9a6ad_0 rfl ?_
  refine g_zlt X (tgt := 15) dJ1_canEncode_9a6ad_1 (by decide) ?_ ?_
  · refine g_iconst X 0 dJ1_canEncode_9a6ad_15 (by decide) ?_
    exact g_zret X E dJ1_canEncode_9a6ad_16
  · refine g_iload_n X dJ1_canEncode_9a6ad_4 rfl ?_
    refine g_sipush X 255 dJ1_canEncode_9a6ad_5 (by decide) ?_
    refine g_cgt X (tgt := 15) dJ1_canEncode_9a6ad_8 (by decide) ?_ ?_
    · refine g_iconst X 0 dJ1_canEncode_9a6ad_15 (by decide) ?_
      exact g_zret X E dJ1_canEncode_9a6ad_16
    · refine g_iconst X 1 dJ1_canEncode_9a6ad_11 (by decide) ?_
      refine g_goto X 16 dJ1_canEncode_9a6ad_12 (by decide) ?_
      exact g_zret X E dJ1_canEncode_9a6ad_16
def yJ1_indexOfChar_4cfef : MethodName := ⟨"java/lang/StringLatin1", "indexOfChar", "([BIII)I"⟩
abbrev cJ1_indexOfChar_4cfef : ByteArray := prog_19_method_23_code
theorem dJ1_indexOfChar_4cfef_0 : decode cJ1_indexOfChar_4cfef 0 = .ok (.iload_n 1, 1) := by decide +kernel
theorem dJ1_indexOfChar_4cfef_1 : decode cJ1_indexOfChar_4cfef 1 = .ok (.i2b, 1) := by decide +kernel
theorem dJ1_indexOfChar_4cfef_2 : decode cJ1_indexOfChar_4cfef 2 = .ok (.istore 4, 2) := by decide +kernel
theorem dJ1_indexOfChar_4cfef_4 : decode cJ1_indexOfChar_4cfef 4 = .ok (.iload_n 2, 1) := by decide +kernel
theorem dJ1_indexOfChar_4cfef_5 : decode cJ1_indexOfChar_4cfef 5 = .ok (.istore 5, 2) := by decide +kernel
theorem dJ1_indexOfChar_4cfef_7 : decode cJ1_indexOfChar_4cfef 7 = .ok (.iload 5, 2) := by decide +kernel
theorem dJ1_indexOfChar_4cfef_9 : decode cJ1_indexOfChar_4cfef 9 = .ok (.iload_n 3, 1) := by decide +kernel
theorem dJ1_indexOfChar_4cfef_10 : decode cJ1_indexOfChar_4cfef 10 = .ok (.if_icmp .ge 21, 3) := by decide +kernel
theorem dJ1_indexOfChar_4cfef_31 : decode cJ1_indexOfChar_4cfef 31 = .ok (.iconst (-1), 1) := by decide +kernel
theorem dJ1_indexOfChar_4cfef_32 : decode cJ1_indexOfChar_4cfef 32 = .ok (.ireturn, 1) := by decide +kernel
theorem dJ1_indexOfChar_4cfef_13 : decode cJ1_indexOfChar_4cfef 13 = .ok (.aload_n 0, 1) := by decide +kernel
theorem dJ1_indexOfChar_4cfef_14 : decode cJ1_indexOfChar_4cfef 14 = .ok (.iload 5, 2) := by decide +kernel
theorem dJ1_indexOfChar_4cfef_16 : decode cJ1_indexOfChar_4cfef 16 = .ok (.baload, 1) := by decide +kernel
theorem dJ1_indexOfChar_4cfef_17 : decode cJ1_indexOfChar_4cfef 17 = .ok (.iload 4, 2) := by decide +kernel
theorem dJ1_indexOfChar_4cfef_19 : decode cJ1_indexOfChar_4cfef 19 = .ok (.if_icmp .ne 6, 3) := by decide +kernel
theorem dJ1_indexOfChar_4cfef_25 : decode cJ1_indexOfChar_4cfef 25 = .ok (.iinc 5 1, 3) := by decide +kernel
theorem dJ1_indexOfChar_4cfef_28 : decode cJ1_indexOfChar_4cfef 28 = .ok (.goto (-21), 3) := by decide +kernel
theorem dJ1_indexOfChar_4cfef_22 : decode cJ1_indexOfChar_4cfef 22 = .ok (.iload 5, 2) := by decide +kernel
theorem dJ1_indexOfChar_4cfef_24 : decode cJ1_indexOfChar_4cfef 24 = .ok (.ireturn, 1) := by decide +kernel
def fJ1_indexOfChar_4cfef (o0 : Nat) (v1 : Int32) (v2 : Int32) (v3 : Int32) (s0 : Sg) : Option (Int32 × Sg) := lp FU (fun q7 (u7 : Int32) (s1 : Sg) => if v3 ≤ u7 then (some ((-1), s1)) else (gd u7 (lenJS.getD o0 0) (if (sbt o0 u7) = (i8 v1) then (some (u7, s1)) else (q7 (u7 + 1) s1)))) v2 s0
set_option maxHeartbeats 4000000 in
set_option maxRecDepth 100000 in
theorem okJ1_indexOfChar_4cfef (o0 : Nat) (v1 : Int32) (v2 : Int32) (v3 : Int32) (s0 : Sg) (h0 : o0 < nJS) : ∀ (l : Launch) (w : WC), Ok l w yJ1_indexOfChar_4cfef cJ1_indexOfChar_4cfef 6 (some .int) 1 evI [.ref (w.aV o0), .int v1, .int v2, .int v3] s0 (fJ1_indexOfChar_4cfef o0 v1 v2 v3 s0) := by
  refine ok_in (ev := fun _ => evI) (av := fun w => [.ref (w.aV o0), .int v1, .int v2, .int v3]) "java/lang/StringLatin1" rfl (by decide +kernel) (fun _ => rfl) (fun _ => Nat.le_of_ble_eq_true rfl) ?_
  intro C X E
  show GF C evI 0 [some (.ref (C.w.aV o0)), some (.int v1), some (.int v2), some (.int v3), none, none] [] s0 (fJ1_indexOfChar_4cfef o0 v1 v2 v3 s0)
  unfold fJ1_indexOfChar_4cfef
  refine g_iload_n X dJ1_indexOfChar_4cfef_0 rfl ?_
  refine g_i2b X dJ1_indexOfChar_4cfef_1 ?_
  refine g_istore X [some (.ref (C.w.aV o0)), some (.int v1), some (.int v2), some (.int v3), some (.int (i8 v1)), none] dJ1_indexOfChar_4cfef_2 (by decide) (Nat.le_of_ble_eq_true rfl) rfl ?_
  refine g_iload_n X dJ1_indexOfChar_4cfef_4 rfl ?_
  refine g_istore X [some (.ref (C.w.aV o0)), some (.int v1), some (.int v2), some (.int v3), some (.int (i8 v1)), some (.int v2)] dJ1_indexOfChar_4cfef_5 (by decide) (Nat.le_of_ble_eq_true rfl) rfl ?_
  refine gf_sub (L' := [some (.ref (C.w.aV o0)), none, none, some (.int v3), some (.int (i8 v1)), some (.int v2)]) ?_ (by simp [lsub])
  refine gf_lp (Lf := fun (u7 : Int32) => [some (.ref (C.w.aV o0)), none, none, some (.int v3), some (.int (i8 v1)), some (.int u7)]) (fun q7 hq7 u7 s1 => ?_) FU v2 s0
  refine g_iload X dJ1_indexOfChar_4cfef_7 rfl ?_
  refine g_iload_n X dJ1_indexOfChar_4cfef_9 rfl ?_
  refine g_cge X (tgt := 31) dJ1_indexOfChar_4cfef_10 (by decide) ?_ ?_
  · refine g_iconst X (-1) dJ1_indexOfChar_4cfef_31 (by decide) ?_
    exact g_iret X E dJ1_indexOfChar_4cfef_32
  · refine g_aload_n X dJ1_indexOfChar_4cfef_13 rfl ?_
    refine g_iload X dJ1_indexOfChar_4cfef_14 rfl ?_
    refine g_bald X h0 dJ1_indexOfChar_4cfef_16 ?_
    refine g_iload X dJ1_indexOfChar_4cfef_17 rfl ?_
    refine g_cne X (tgt := 25) dJ1_indexOfChar_4cfef_19 (by decide) ?_ ?_
    · refine g_iload X dJ1_indexOfChar_4cfef_22 rfl ?_
      exact g_iret X E dJ1_indexOfChar_4cfef_24
    · refine g_iinc X (u7 + 1) [some (.ref (C.w.aV o0)), none, none, some (.int v3), some (.int (i8 v1)), some (.int (u7 + 1))] dJ1_indexOfChar_4cfef_25 rfl rfl (by decide) rfl ?_
      refine g_goto X 7 dJ1_indexOfChar_4cfef_28 (by decide) ?_
      exact gf_sub (hq7 (u7 + 1) s1) (by simp [lsub])
def yJ2_length_9d52b : MethodName := ⟨"java/lang/StringUTF16", "length", "([B)I"⟩
abbrev cJ2_length_9d52b : ByteArray := prog_20_method_6_code
theorem dJ2_length_9d52b_0 : decode cJ2_length_9d52b 0 = .ok (.aload_n 0, 1) := by decide +kernel
theorem dJ2_length_9d52b_1 : decode cJ2_length_9d52b 1 = .ok (.arraylength, 1) := by decide +kernel
theorem dJ2_length_9d52b_2 : decode cJ2_length_9d52b 2 = .ok (.iconst 1, 1) := by decide +kernel
theorem dJ2_length_9d52b_3 : decode cJ2_length_9d52b 3 = .ok (.ishr, 1) := by decide +kernel
theorem dJ2_length_9d52b_4 : decode cJ2_length_9d52b 4 = .ok (.ireturn, 1) := by decide +kernel
def fJ2_length_9d52b (o0 : Nat) (s0 : Sg) : Option (Int32 × Sg) := some (((nI (lenJS.getD o0 0)) >>> (1 &&& 31)), s0)
set_option maxHeartbeats 4000000 in
set_option maxRecDepth 100000 in
theorem okJ2_length_9d52b (o0 : Nat) (s0 : Sg) (h0 : o0 < nJS) : ∀ (l : Launch) (w : WC), Ok l w yJ2_length_9d52b cJ2_length_9d52b 1 (some .int) 1 evI [.ref (w.aV o0)] s0 (fJ2_length_9d52b o0 s0) := by
  refine ok_in (ev := fun _ => evI) (av := fun w => [.ref (w.aV o0)]) "java/lang/StringUTF16" rfl (by decide +kernel) (fun _ => rfl) (fun _ => Nat.le_of_ble_eq_true rfl) ?_
  intro C X E
  show GF C evI 0 [some (.ref (C.w.aV o0))] [] s0 (fJ2_length_9d52b o0 s0)
  unfold fJ2_length_9d52b
  refine g_aload_n X dJ2_length_9d52b_0 rfl ?_
  refine g_blen X h0 dJ2_length_9d52b_1 ?_
  refine g_iconst X 1 dJ2_length_9d52b_2 (by decide) ?_
  refine g_ishr X dJ2_length_9d52b_3 ?_
  exact g_iret X E dJ2_length_9d52b_4
