def yM_keeps : MethodName := ⟨"LastWordHillModel", "keeps", "(I)I"⟩
abbrev cM_keeps : ByteArray := prog_14_method_83_code
theorem dM_keeps_0 : decode cM_keeps 0 = .ok (.aload_n 0, 1) := by decide +kernel
theorem dM_keeps_1 : decode cM_keeps 1 = .ok (.iconst 0, 1) := by decide +kernel
theorem dM_keeps_2 : decode cM_keeps 2 = .ok (.putfield 134, 3) := by decide +kernel
theorem dM_keeps_5 : decode cM_keeps 5 = .ok (.aload_n 0, 1) := by decide +kernel
theorem dM_keeps_6 : decode cM_keeps 6 = .ok (.iload_n 1, 1) := by decide +kernel
theorem dM_keeps_7 : decode cM_keeps 7 = .ok (.iconst 0, 1) := by decide +kernel
theorem dM_keeps_8 : decode cM_keeps 8 = .ok (.iconst 1, 1) := by decide +kernel
theorem dM_keeps_9 : decode cM_keeps 9 = .ok (.invokevirtual 153, 3) := by decide +kernel
theorem dM_keeps_12 : decode cM_keeps 12 = .ok (.ifCond .ne 6, 3) := by decide +kernel
theorem dM_keeps_18 : decode cM_keeps 18 = .ok (.aload_n 0, 1) := by decide +kernel
theorem dM_keeps_19 : decode cM_keeps 19 = .ok (.invokevirtual 395, 3) := by decide +kernel
theorem dM_keeps_22 : decode cM_keeps 22 = .ok (.iconst 0, 1) := by decide +kernel
theorem dM_keeps_23 : decode cM_keeps 23 = .ok (.istore_n 2, 1) := by decide +kernel
theorem dM_keeps_24 : decode cM_keeps 24 = .ok (.iconst (-1), 1) := by decide +kernel
theorem dM_keeps_25 : decode cM_keeps 25 = .ok (.istore_n 3, 1) := by decide +kernel
theorem dM_keeps_26 : decode cM_keeps 26 = .ok (.iconst 0, 1) := by decide +kernel
theorem dM_keeps_27 : decode cM_keeps 27 = .ok (.istore 4, 2) := by decide +kernel
theorem dM_keeps_29 : decode cM_keeps 29 = .ok (.iload 4, 2) := by decide +kernel
theorem dM_keeps_31 : decode cM_keeps 31 = .ok (.sipush 180, 3) := by decide +kernel
theorem dM_keeps_34 : decode cM_keeps 34 = .ok (.if_icmp .ge 51, 3) := by decide +kernel
theorem dM_keeps_85 : decode cM_keeps 85 = .ok (.iload_n 1, 1) := by decide +kernel
theorem dM_keeps_86 : decode cM_keeps 86 = .ok (.ifCond .ne 14, 3) := by decide +kernel
theorem dM_keeps_115 : decode cM_keeps 115 = .ok (.istore 4, 2) := by decide +kernel
theorem dM_keeps_117 : decode cM_keeps 117 = .ok (.aload_n 0, 1) := by decide +kernel
theorem dM_keeps_118 : decode cM_keeps 118 = .ok (.invokevirtual 398, 3) := by decide +kernel
theorem dM_keeps_121 : decode cM_keeps 121 = .ok (.iload 4, 2) := by decide +kernel
theorem dM_keeps_123 : decode cM_keeps 123 = .ok (.ireturn, 1) := by decide +kernel
theorem dM_keeps_100 : decode cM_keeps 100 = .ok (.iload_n 3, 1) := by decide +kernel
theorem dM_keeps_101 : decode cM_keeps 101 = .ok (.iconst (-1), 1) := by decide +kernel
theorem dM_keeps_102 : decode cM_keeps 102 = .ok (.if_icmp .ne 7, 3) := by decide +kernel
theorem dM_keeps_109 : decode cM_keeps 109 = .ok (.aload_n 0, 1) := by decide +kernel
theorem dM_keeps_110 : decode cM_keeps 110 = .ok (.getfield 25, 3) := by decide +kernel
theorem dM_keeps_113 : decode cM_keeps 113 = .ok (.iload_n 3, 1) := by decide +kernel
theorem dM_keeps_114 : decode cM_keeps 114 = .ok (.iaload, 1) := by decide +kernel
theorem dM_keeps_105 : decode cM_keeps 105 = .ok (.iconst (-1), 1) := by decide +kernel
theorem dM_keeps_106 : decode cM_keeps 106 = .ok (.goto 9, 3) := by decide +kernel
theorem dM_keeps_89 : decode cM_keeps 89 = .ok (.aload_n 0, 1) := by decide +kernel
theorem dM_keeps_90 : decode cM_keeps 90 = .ok (.getfield 7, 3) := by decide +kernel
theorem dM_keeps_93 : decode cM_keeps 93 = .ok (.iconst 5, 1) := by decide +kernel
theorem dM_keeps_94 : decode cM_keeps 94 = .ok (.iaload, 1) := by decide +kernel
theorem dM_keeps_95 : decode cM_keeps 95 = .ok (.iconst 1, 1) := by decide +kernel
theorem dM_keeps_96 : decode cM_keeps 96 = .ok (.isub, 1) := by decide +kernel
theorem dM_keeps_97 : decode cM_keeps 97 = .ok (.goto 18, 3) := by decide +kernel
theorem dM_keeps_37 : decode cM_keeps 37 = .ok (.iload_n 2, 1) := by decide +kernel
theorem dM_keeps_38 : decode cM_keeps 38 = .ok (.ifCond .ne 47, 3) := by decide +kernel
theorem dM_keeps_41 : decode cM_keeps 41 = .ok (.aload_n 0, 1) := by decide +kernel
theorem dM_keeps_42 : decode cM_keeps 42 = .ok (.invokevirtual 380, 3) := by decide +kernel
theorem dM_keeps_45 : decode cM_keeps 45 = .ok (.aload_n 0, 1) := by decide +kernel
theorem dM_keeps_46 : decode cM_keeps 46 = .ok (.getfield 7, 3) := by decide +kernel
theorem dM_keeps_49 : decode cM_keeps 49 = .ok (.iconst 3, 1) := by decide +kernel
theorem dM_keeps_50 : decode cM_keeps 50 = .ok (.iaload, 1) := by decide +kernel
theorem dM_keeps_51 : decode cM_keeps 51 = .ok (.aload_n 0, 1) := by decide +kernel
theorem dM_keeps_52 : decode cM_keeps 52 = .ok (.invokevirtual 329, 3) := by decide +kernel
theorem dM_keeps_55 : decode cM_keeps 55 = .ok (.if_icmp .ne 7, 3) := by decide +kernel
theorem dM_keeps_63 : decode cM_keeps 63 = .ok (.istore_n 2, 1) := by decide +kernel
theorem dM_keeps_64 : decode cM_keeps 64 = .ok (.aload_n 0, 1) := by decide +kernel
theorem dM_keeps_65 : decode cM_keeps 65 = .ok (.getfield 7, 3) := by decide +kernel
theorem dM_keeps_68 : decode cM_keeps 68 = .ok (.bipush 7, 2) := by decide +kernel
theorem dM_keeps_70 : decode cM_keeps 70 = .ok (.iaload, 1) := by decide +kernel
theorem dM_keeps_71 : decode cM_keeps 71 = .ok (.iconst 1, 1) := by decide +kernel
theorem dM_keeps_72 : decode cM_keeps 72 = .ok (.isub, 1) := by decide +kernel
theorem dM_keeps_73 : decode cM_keeps 73 = .ok (.istore_n 3, 1) := by decide +kernel
theorem dM_keeps_74 : decode cM_keeps 74 = .ok (.aload_n 0, 1) := by decide +kernel
theorem dM_keeps_75 : decode cM_keeps 75 = .ok (.invokevirtual 392, 3) := by decide +kernel
theorem dM_keeps_78 : decode cM_keeps 78 = .ok (.pop, 1) := by decide +kernel
theorem dM_keeps_79 : decode cM_keeps 79 = .ok (.iinc 4 1, 3) := by decide +kernel
theorem dM_keeps_82 : decode cM_keeps 82 = .ok (.goto (-53), 3) := by decide +kernel
theorem dM_keeps_62 : decode cM_keeps 62 = .ok (.iconst 0, 1) := by decide +kernel
theorem dM_keeps_58 : decode cM_keeps 58 = .ok (.iconst 1, 1) := by decide +kernel
theorem dM_keeps_59 : decode cM_keeps 59 = .ok (.goto 4, 3) := by decide +kernel
theorem dM_keeps_15 : decode cM_keeps 15 = .ok (.bipush (-2), 2) := by decide +kernel
theorem dM_keeps_17 : decode cM_keeps 17 = .ok (.ireturn, 1) := by decide +kernel
def fM_keeps (v1 : Int32) (s0 : Sg) : Option (Int32 × Sg) := bnd (pt s0 102 0 0) fun s1 => bi (fM_isIn v1 0 1 s1) fun r3 s2 => if r3 = 0 then (some ((-2), s2)) else (bv (fM_thinks s2) fun s4 => lp FU (fun q29 (u29 : Int32 × Int32 × Int32) (s5 : Sg) => bnd (fun (s6 : Sg) => bnd (fun (b115_0 : Int32) (s7 : Sg) => bv (fM_endsThought s7) fun s8 => some (b115_0, s8)) fun j115 => if v1 = 0 then (gd 5 50 (j115 ((s6 103 (ix 5)) - 1) s6)) else (if u29.2.1 = (-1) then (j115 (-1) s6) else (gd u29.2.1 10 (j115 (s6 108 (ix u29.2.1)) s6)))) fun j85 => if 180 ≤ u29.2.2 then (j85 s5) else (if u29.1 = 0 then (bv (fM_begins s5) fun s9 => gd 3 50 (bi (fM_sunset s9) fun r11 s10 => bnd (fun (b63_0 : Int32) (s12 : Sg) => gd 7 50 (bi (fM_goesBy s12) fun r14 s13 => q29 (b63_0, ((s12 103 (ix 7)) - 1), (u29.2.2 + 1)) s13)) fun j63 => if (s9 103 (ix 3)) = r11 then (j63 1 s10) else (j63 0 s10))) else (j85 s5))) (0, (-1), 0) s4)
set_option maxHeartbeats 4000000 in
set_option maxRecDepth 100000 in
theorem okM_keeps (v1 : Int32) (s0 : Sg) : ∀ (l : Launch) (w : WC), Ok l w yM_keeps cM_keeps 5 (some .int) 8 evI [.ref (w.ad 102), .int v1] s0 (fM_keeps v1 s0) := by
  refine ok_in (ev := fun _ => evI) (av := fun w => [.ref (w.ad 102), .int v1]) "LastWordHillModel" rfl (by decide +kernel) (fun _ => rfl) (fun _ => Nat.le_of_ble_eq_true rfl) ?_
  intro C X E
  show GF C evI 0 [some (.ref (C.w.ad 102)), some (.int v1), none, none, none] [] s0 (fM_keeps v1 s0)
  unfold fM_keeps
  refine g_aload_n X dM_keeps_0 rfl ?_
  refine g_iconst X 0 dM_keeps_1 (by decide) ?_
  refine g_putI X fl_M_134 fb_12_0 fp_12_0 k_102 dM_keeps_2 (fun s1 => ?_)
  refine g_aload_n X dM_keeps_5 rfl ?_
  refine g_iload_n X dM_keeps_6 rfl ?_
  refine g_iconst X 0 dM_keeps_7 (by decide) ?_
  refine g_iconst X 1 dM_keeps_8 (by decide) ?_
  refine g_virtI X [.int v1, .int 0, .int 1] [] k_102 mm_M_isIn mv_M_isIn ml_M_153 (okM_isIn v1 0 1 s1 C.l C.w) rfl (by decide) rfl (Nat.le_of_ble_eq_true rfl) dM_keeps_9 (fun r3 s2 => ?_)
  refine g_zne X (tgt := 18) dM_keeps_12 (by decide) ?_ ?_
  · refine g_bipush X (-2) dM_keeps_15 (by decide) ?_
    exact g_iret X E dM_keeps_17
  · refine g_aload_n X dM_keeps_18 rfl ?_
    refine g_virtV X [] [] k_102 mm_M_thinks mv_M_thinks ml_M_395 (okM_thinks s2 C.l C.w) rfl (by decide) rfl (Nat.le_of_ble_eq_true rfl) dM_keeps_19 (fun s4 => ?_)
    refine g_iconst X 0 dM_keeps_22 (by decide) ?_
    refine g_istore_n X [some (.ref (C.w.ad 102)), some (.int v1), some (.int 0), none, none] dM_keeps_23 (by decide) (Nat.le_of_ble_eq_true rfl) rfl ?_
    refine g_iconst X (-1) dM_keeps_24 (by decide) ?_
    refine g_istore_n X [some (.ref (C.w.ad 102)), some (.int v1), some (.int 0), some (.int (-1)), none] dM_keeps_25 (by decide) (Nat.le_of_ble_eq_true rfl) rfl ?_
    refine g_iconst X 0 dM_keeps_26 (by decide) ?_
    refine g_istore X [some (.ref (C.w.ad 102)), some (.int v1), some (.int 0), some (.int (-1)), some (.int 0)] dM_keeps_27 (by decide) (Nat.le_of_ble_eq_true rfl) rfl ?_
    refine gf_sub (L' := [some (.ref (C.w.ad 102)), some (.int v1), some (.int 0), some (.int (-1)), some (.int 0)]) ?_ (by simp [lsub])
    refine gf_lp (Lf := fun (u29 : Int32 × Int32 × Int32) => [some (.ref (C.w.ad 102)), some (.int v1), some (.int u29.1), some (.int u29.2.1), some (.int u29.2.2)]) (fun q29 hq29 u29 s5 => ?_) FU (0, (-1), 0) s4
    refine g_iload X dM_keeps_29 rfl ?_
    refine g_sipush X 180 dM_keeps_31 (by decide) ?_
    refine gf_jn (fun j85 => ∀ (s6 : Sg), GF C evI 85 [some (.ref (C.w.ad 102)), some (.int v1), none, some (.int u29.2.1), none] [] s6 (j85 s6)) ?_ ?_
    · intro s6
      refine g_iload_n X dM_keeps_85 rfl ?_
      refine gf_jn (fun j115 => ∀ (b115_0 : Int32) (s7 : Sg), GF C evI 115 [some (.ref (C.w.ad 102)), none, none, none, none] [.int b115_0] s7 (j115 b115_0 s7)) ?_ ?_
      · intro b115_0 s7
        refine g_istore X [some (.ref (C.w.ad 102)), none, none, none, some (.int b115_0)] dM_keeps_115 (by decide) (Nat.le_of_ble_eq_true rfl) rfl ?_
        refine g_aload_n X dM_keeps_117 rfl ?_
        refine g_virtV X [] [] k_102 mm_M_endsThought mv_M_endsThought ml_M_398 (okM_endsThought s7 C.l C.w) rfl (by decide) rfl (Nat.le_of_ble_eq_true rfl) dM_keeps_118 (fun s8 => ?_)
        refine g_iload X dM_keeps_121 rfl ?_
        exact g_iret X E dM_keeps_123
      · intro j115 hj115
        refine g_zne X (tgt := 100) dM_keeps_86 (by decide) ?_ ?_
        · refine g_aload_n X dM_keeps_89 rfl ?_
          refine g_getN X fl_M_7 fb_12_1 k_102 r_102_1 dM_keeps_90 ?_
          refine g_iconst X 5 dM_keeps_93 (by decide) ?_
          refine g_iald X k_103 ln_103 dM_keeps_94 ?_
          refine g_iconst X 1 dM_keeps_95 (by decide) ?_
          refine g_isub X dM_keeps_96 ?_
          refine g_goto X 115 dM_keeps_97 (by decide) ?_
          exact gf_sub (hj115 ((s6 103 (ix 5)) - 1) s6) (by simp [lsub])
        · refine g_iload_n X dM_keeps_100 rfl ?_
          refine g_iconst X (-1) dM_keeps_101 (by decide) ?_
          refine g_cne X (tgt := 109) dM_keeps_102 (by decide) ?_ ?_
          · refine g_iconst X (-1) dM_keeps_105 (by decide) ?_
            refine g_goto X 115 dM_keeps_106 (by decide) ?_
            exact gf_sub (hj115 (-1) s6) (by simp [lsub])
          · refine g_aload_n X dM_keeps_109 rfl ?_
            refine g_getN X fl_M_25 fb_12_9 k_102 r_102_9 dM_keeps_110 ?_
            refine g_iload_n X dM_keeps_113 rfl ?_
            refine g_iald X k_108 ln_108 dM_keeps_114 ?_
            exact gf_sub (hj115 (s6 108 (ix u29.2.1)) s6) (by simp [lsub])
    · intro j85 hj85
      refine g_cge X (tgt := 85) dM_keeps_34 (by decide) ?_ ?_
      · exact gf_sub (hj85 s5) (by simp [lsub])
      · refine g_iload_n X dM_keeps_37 rfl ?_
        refine g_zne X (tgt := 85) dM_keeps_38 (by decide) ?_ ?_
        · refine g_aload_n X dM_keeps_41 rfl ?_
          refine g_virtV X [] [] k_102 mm_M_begins mv_M_begins ml_M_380 (okM_begins s5 C.l C.w) rfl (by decide) rfl (Nat.le_of_ble_eq_true rfl) dM_keeps_42 (fun s9 => ?_)
          refine g_aload_n X dM_keeps_45 rfl ?_
          refine g_getN X fl_M_7 fb_12_1 k_102 r_102_1 dM_keeps_46 ?_
          refine g_iconst X 3 dM_keeps_49 (by decide) ?_
          refine g_iald X k_103 ln_103 dM_keeps_50 ?_
          refine g_aload_n X dM_keeps_51 rfl ?_
          refine g_virtI X [] [.int (s9 103 (ix 3))] k_102 mm_M_sunset mv_M_sunset ml_M_329 (okM_sunset s9 C.l C.w) rfl (by decide) rfl (Nat.le_of_ble_eq_true rfl) dM_keeps_52 (fun r11 s10 => ?_)
          refine gf_jn (fun j63 => ∀ (b63_0 : Int32) (s12 : Sg), GF C evI 63 [some (.ref (C.w.ad 102)), some (.int v1), none, none, some (.int u29.2.2)] [.int b63_0] s12 (j63 b63_0 s12)) ?_ ?_
          · intro b63_0 s12
            refine g_istore_n X [some (.ref (C.w.ad 102)), some (.int v1), some (.int b63_0), none, some (.int u29.2.2)] dM_keeps_63 (by decide) (Nat.le_of_ble_eq_true rfl) rfl ?_
            refine g_aload_n X dM_keeps_64 rfl ?_
            refine g_getN X fl_M_7 fb_12_1 k_102 r_102_1 dM_keeps_65 ?_
            refine g_bipush X 7 dM_keeps_68 (by decide) ?_
            refine g_iald X k_103 ln_103 dM_keeps_70 ?_
            refine g_iconst X 1 dM_keeps_71 (by decide) ?_
            refine g_isub X dM_keeps_72 ?_
            refine g_istore_n X [some (.ref (C.w.ad 102)), some (.int v1), some (.int b63_0), some (.int ((s12 103 (ix 7)) - 1)), some (.int u29.2.2)] dM_keeps_73 (by decide) (Nat.le_of_ble_eq_true rfl) rfl ?_
            refine g_aload_n X dM_keeps_74 rfl ?_
            refine g_virtI X [] [] k_102 mm_M_goesBy mv_M_goesBy ml_M_392 (okM_goesBy s12 C.l C.w) rfl (by decide) rfl (Nat.le_of_ble_eq_true rfl) dM_keeps_75 (fun r14 s13 => ?_)
            refine g_pop X dM_keeps_78 rfl ?_
            refine g_iinc X (u29.2.2 + 1) [some (.ref (C.w.ad 102)), some (.int v1), some (.int b63_0), some (.int ((s12 103 (ix 7)) - 1)), some (.int (u29.2.2 + 1))] dM_keeps_79 rfl rfl (by decide) rfl ?_
            refine g_goto X 29 dM_keeps_82 (by decide) ?_
            exact gf_sub (hq29 (b63_0, ((s12 103 (ix 7)) - 1), (u29.2.2 + 1)) s13) (by simp [lsub])
          · intro j63 hj63
            refine g_cne X (tgt := 62) dM_keeps_55 (by decide) ?_ ?_
            · refine g_iconst X 1 dM_keeps_58 (by decide) ?_
              refine g_goto X 63 dM_keeps_59 (by decide) ?_
              exact gf_sub (hj63 1 s10) (by simp [lsub])
            · refine g_iconst X 0 dM_keeps_62 (by decide) ?_
              exact gf_sub (hj63 0 s10) (by simp [lsub])
        · exact gf_sub (hj85 s5) (by simp [lsub])
def yM_earliest : MethodName := ⟨"LastWordHillModel", "earliest", "(I)I"⟩
abbrev cM_earliest : ByteArray := prog_14_method_84_code
theorem dM_earliest_0 : decode cM_earliest 0 = .ok (.aload_n 0, 1) := by decide +kernel
theorem dM_earliest_1 : decode cM_earliest 1 = .ok (.iconst 0, 1) := by decide +kernel
theorem dM_earliest_2 : decode cM_earliest 2 = .ok (.putfield 134, 3) := by decide +kernel
theorem dM_earliest_5 : decode cM_earliest 5 = .ok (.aload_n 0, 1) := by decide +kernel
theorem dM_earliest_6 : decode cM_earliest 6 = .ok (.iload_n 1, 1) := by decide +kernel
theorem dM_earliest_7 : decode cM_earliest 7 = .ok (.invokevirtual 157, 3) := by decide +kernel
theorem dM_earliest_10 : decode cM_earliest 10 = .ok (.ifCond .ne 5, 3) := by decide +kernel
theorem dM_earliest_15 : decode cM_earliest 15 = .ok (.aload_n 0, 1) := by decide +kernel
theorem dM_earliest_16 : decode cM_earliest 16 = .ok (.invokevirtual 395, 3) := by decide +kernel
theorem dM_earliest_19 : decode cM_earliest 19 = .ok (.iconst 0, 1) := by decide +kernel
theorem dM_earliest_20 : decode cM_earliest 20 = .ok (.istore_n 2, 1) := by decide +kernel
theorem dM_earliest_21 : decode cM_earliest 21 = .ok (.aload_n 0, 1) := by decide +kernel
theorem dM_earliest_22 : decode cM_earliest 22 = .ok (.iload_n 1, 1) := by decide +kernel
theorem dM_earliest_23 : decode cM_earliest 23 = .ok (.invokevirtual 320, 3) := by decide +kernel
theorem dM_earliest_26 : decode cM_earliest 26 = .ok (.ifCond .ne 22, 3) := by decide +kernel
theorem dM_earliest_48 : decode cM_earliest 48 = .ok (.aload_n 0, 1) := by decide +kernel
theorem dM_earliest_49 : decode cM_earliest 49 = .ok (.invokevirtual 398, 3) := by decide +kernel
theorem dM_earliest_52 : decode cM_earliest 52 = .ok (.iload_n 2, 1) := by decide +kernel
theorem dM_earliest_53 : decode cM_earliest 53 = .ok (.sipush 200, 3) := by decide +kernel
theorem dM_earliest_56 : decode cM_earliest 56 = .ok (.if_icmp .le 7, 3) := by decide +kernel
theorem dM_earliest_63 : decode cM_earliest 63 = .ok (.iload_n 2, 1) := by decide +kernel
theorem dM_earliest_64 : decode cM_earliest 64 = .ok (.ireturn, 1) := by decide +kernel
theorem dM_earliest_59 : decode cM_earliest 59 = .ok (.iconst (-1), 1) := by decide +kernel
theorem dM_earliest_60 : decode cM_earliest 60 = .ok (.goto 4, 3) := by decide +kernel
theorem dM_earliest_29 : decode cM_earliest 29 = .ok (.iload_n 2, 1) := by decide +kernel
theorem dM_earliest_30 : decode cM_earliest 30 = .ok (.sipush 200, 3) := by decide +kernel
theorem dM_earliest_33 : decode cM_earliest 33 = .ok (.if_icmp .gt 15, 3) := by decide +kernel
theorem dM_earliest_36 : decode cM_earliest 36 = .ok (.aload_n 0, 1) := by decide +kernel
theorem dM_earliest_37 : decode cM_earliest 37 = .ok (.iload_n 1, 1) := by decide +kernel
theorem dM_earliest_38 : decode cM_earliest 38 = .ok (.invokevirtual 383, 3) := by decide +kernel
theorem dM_earliest_41 : decode cM_earliest 41 = .ok (.iload_n 2, 1) := by decide +kernel
theorem dM_earliest_42 : decode cM_earliest 42 = .ok (.iconst 1, 1) := by decide +kernel
theorem dM_earliest_43 : decode cM_earliest 43 = .ok (.iadd, 1) := by decide +kernel
theorem dM_earliest_44 : decode cM_earliest 44 = .ok (.istore_n 2, 1) := by decide +kernel
theorem dM_earliest_45 : decode cM_earliest 45 = .ok (.goto (-24), 3) := by decide +kernel
theorem dM_earliest_13 : decode cM_earliest 13 = .ok (.iconst (-1), 1) := by decide +kernel
theorem dM_earliest_14 : decode cM_earliest 14 = .ok (.ireturn, 1) := by decide +kernel
def fM_earliest (v1 : Int32) (s0 : Sg) : Option (Int32 × Sg) := bnd (pt s0 102 0 0) fun s1 => bi (fM_isPerson v1 s1) fun r3 s2 => if r3 = 0 then (some ((-1), s2)) else (bv (fM_thinks s2) fun s4 => lp FU (fun q21 (u21 : Int32) (s5 : Sg) => bi (fM_isUp v1 s5) fun r7 s6 => bnd (fun (s8 : Sg) => bv (fM_endsThought s8) fun s9 => if u21 ≤ 200 then (some (u21, s9)) else (some ((-1), s9))) fun j48 => if r7 = 0 then (if 200 < u21 then (j48 s6) else (bv (fM_climbsOn v1 s6) fun s10 => q21 (u21 + 1) s10)) else (j48 s6)) 0 s4)
set_option maxHeartbeats 4000000 in
set_option maxRecDepth 100000 in
theorem okM_earliest (v1 : Int32) (s0 : Sg) : ∀ (l : Launch) (w : WC), Ok l w yM_earliest cM_earliest 3 (some .int) 7 evI [.ref (w.ad 102), .int v1] s0 (fM_earliest v1 s0) := by
  refine ok_in (ev := fun _ => evI) (av := fun w => [.ref (w.ad 102), .int v1]) "LastWordHillModel" rfl (by decide +kernel) (fun _ => rfl) (fun _ => Nat.le_of_ble_eq_true rfl) ?_
  intro C X E
  show GF C evI 0 [some (.ref (C.w.ad 102)), some (.int v1), none] [] s0 (fM_earliest v1 s0)
  unfold fM_earliest
  refine g_aload_n X dM_earliest_0 rfl ?_
  refine g_iconst X 0 dM_earliest_1 (by decide) ?_
  refine g_putI X fl_M_134 fb_12_0 fp_12_0 k_102 dM_earliest_2 (fun s1 => ?_)
  refine g_aload_n X dM_earliest_5 rfl ?_
  refine g_iload_n X dM_earliest_6 rfl ?_
  refine g_virtI X [.int v1] [] k_102 mm_M_isPerson mv_M_isPerson ml_M_157 (okM_isPerson v1 s1 C.l C.w) rfl (by decide) rfl (Nat.le_of_ble_eq_true rfl) dM_earliest_7 (fun r3 s2 => ?_)
  refine g_zne X (tgt := 15) dM_earliest_10 (by decide) ?_ ?_
  · refine g_iconst X (-1) dM_earliest_13 (by decide) ?_
    exact g_iret X E dM_earliest_14
  · refine g_aload_n X dM_earliest_15 rfl ?_
    refine g_virtV X [] [] k_102 mm_M_thinks mv_M_thinks ml_M_395 (okM_thinks s2 C.l C.w) rfl (by decide) rfl (Nat.le_of_ble_eq_true rfl) dM_earliest_16 (fun s4 => ?_)
    refine g_iconst X 0 dM_earliest_19 (by decide) ?_
    refine g_istore_n X [some (.ref (C.w.ad 102)), some (.int v1), some (.int 0)] dM_earliest_20 (by decide) (Nat.le_of_ble_eq_true rfl) rfl ?_
    refine gf_sub (L' := [some (.ref (C.w.ad 102)), some (.int v1), some (.int 0)]) ?_ (by simp [lsub])
    refine gf_lp (Lf := fun (u21 : Int32) => [some (.ref (C.w.ad 102)), some (.int v1), some (.int u21)]) (fun q21 hq21 u21 s5 => ?_) FU 0 s4
    refine g_aload_n X dM_earliest_21 rfl ?_
    refine g_iload_n X dM_earliest_22 rfl ?_
    refine g_virtI X [.int v1] [] k_102 mm_M_isUp mv_M_isUp ml_M_320 (okM_isUp v1 s5 C.l C.w) rfl (by decide) rfl (Nat.le_of_ble_eq_true rfl) dM_earliest_23 (fun r7 s6 => ?_)
    refine gf_jn (fun j48 => ∀ (s8 : Sg), GF C evI 48 [some (.ref (C.w.ad 102)), none, some (.int u21)] [] s8 (j48 s8)) ?_ ?_
    · intro s8
      refine g_aload_n X dM_earliest_48 rfl ?_
      refine g_virtV X [] [] k_102 mm_M_endsThought mv_M_endsThought ml_M_398 (okM_endsThought s8 C.l C.w) rfl (by decide) rfl (Nat.le_of_ble_eq_true rfl) dM_earliest_49 (fun s9 => ?_)
      refine g_iload_n X dM_earliest_52 rfl ?_
      refine g_sipush X 200 dM_earliest_53 (by decide) ?_
      refine g_cle X (tgt := 63) dM_earliest_56 (by decide) ?_ ?_
      · refine g_iload_n X dM_earliest_63 rfl ?_
        exact g_iret X E dM_earliest_64
      · refine g_iconst X (-1) dM_earliest_59 (by decide) ?_
        refine g_goto X 64 dM_earliest_60 (by decide) ?_
        exact g_iret X E dM_earliest_64
    · intro j48 hj48
      refine g_zne X (tgt := 48) dM_earliest_26 (by decide) ?_ ?_
      · refine g_iload_n X dM_earliest_29 rfl ?_
        refine g_sipush X 200 dM_earliest_30 (by decide) ?_
        refine g_cgt X (tgt := 48) dM_earliest_33 (by decide) ?_ ?_
        · exact gf_sub (hj48 s6) (by simp [lsub])
        · refine g_aload_n X dM_earliest_36 rfl ?_
          refine g_iload_n X dM_earliest_37 rfl ?_
          refine g_virtV X [.int v1] [] k_102 mm_M_climbsOn mv_M_climbsOn ml_M_383 (okM_climbsOn v1 s6 C.l C.w) rfl (by decide) rfl (Nat.le_of_ble_eq_true rfl) dM_earliest_38 (fun s10 => ?_)
          refine g_iload_n X dM_earliest_41 rfl ?_
          refine g_iconst X 1 dM_earliest_42 (by decide) ?_
          refine g_iadd X dM_earliest_43 ?_
          refine g_istore_n X [some (.ref (C.w.ad 102)), some (.int v1), some (.int (u21 + 1))] dM_earliest_44 (by decide) (Nat.le_of_ble_eq_true rfl) rfl ?_
          refine g_goto X 21 dM_earliest_45 (by decide) ?_
          exact gf_sub (hq21 (u21 + 1) s10) (by simp [lsub])
      · exact gf_sub (hj48 s6) (by simp [lsub])
def yM_bestFor : MethodName := ⟨"LastWordHillModel", "bestFor", "(I)I"⟩
abbrev cM_bestFor : ByteArray := prog_14_method_85_code
theorem dM_bestFor_0 : decode cM_bestFor 0 = .ok (.iconst 0, 1) := by decide +kernel
theorem dM_bestFor_1 : decode cM_bestFor 1 = .ok (.istore_n 2, 1) := by decide +kernel
theorem dM_bestFor_2 : decode cM_bestFor 2 = .ok (.iconst 1, 1) := by decide +kernel
theorem dM_bestFor_3 : decode cM_bestFor 3 = .ok (.istore_n 3, 1) := by decide +kernel
theorem dM_bestFor_4 : decode cM_bestFor 4 = .ok (.iload_n 3, 1) := by decide +kernel
theorem dM_bestFor_5 : decode cM_bestFor 5 = .ok (.bipush 20, 2) := by decide +kernel
theorem dM_bestFor_7 : decode cM_bestFor 7 = .ok (.if_icmp .ge 38, 3) := by decide +kernel
theorem dM_bestFor_45 : decode cM_bestFor 45 = .ok (.iload_n 2, 1) := by decide +kernel
theorem dM_bestFor_46 : decode cM_bestFor 46 = .ok (.ireturn, 1) := by decide +kernel
theorem dM_bestFor_10 : decode cM_bestFor 10 = .ok (.aload_n 0, 1) := by decide +kernel
theorem dM_bestFor_11 : decode cM_bestFor 11 = .ok (.aload_n 0, 1) := by decide +kernel
theorem dM_bestFor_12 : decode cM_bestFor 12 = .ok (.getfield 71, 3) := by decide +kernel
theorem dM_bestFor_15 : decode cM_bestFor 15 = .ok (.iload_n 3, 1) := by decide +kernel
theorem dM_bestFor_16 : decode cM_bestFor 16 = .ok (.iaload, 1) := by decide +kernel
theorem dM_bestFor_17 : decode cM_bestFor 17 = .ok (.iload_n 1, 1) := by decide +kernel
theorem dM_bestFor_18 : decode cM_bestFor 18 = .ok (.iand, 1) := by decide +kernel
theorem dM_bestFor_19 : decode cM_bestFor 19 = .ok (.invokevirtual 401, 3) := by decide +kernel
theorem mm_M_onesOf : MMc yM_onesOf cM_onesOf 4 (some .int) 1 := ⟨hz_in 1960 (by decide +kernel) (by decide +kernel), hz_in 147 (by decide +kernel) (by decide +kernel), by decide +kernel, by decide⟩
theorem mv_M_onesOf : MMv yM_onesOf 12 := ⟨hz_in 1959 (by decide +kernel) (by decide +kernel), hz_in 115 (by decide +kernel) (by decide +kernel), _, _, rfl, by decide⟩
theorem ml_M_401 : Cond.methodLink "LastWordHillModel" 401 yM_onesOf ∈ hz_wt := hz_in 1957 (by decide +kernel) (by decide +kernel)
theorem dM_bestFor_22 : decode cM_bestFor 22 = .ok (.aload_n 0, 1) := by decide +kernel
theorem dM_bestFor_23 : decode cM_bestFor 23 = .ok (.aload_n 0, 1) := by decide +kernel
theorem dM_bestFor_24 : decode cM_bestFor 24 = .ok (.getfield 71, 3) := by decide +kernel
theorem dM_bestFor_27 : decode cM_bestFor 27 = .ok (.iload_n 2, 1) := by decide +kernel
theorem dM_bestFor_28 : decode cM_bestFor 28 = .ok (.iaload, 1) := by decide +kernel
theorem dM_bestFor_29 : decode cM_bestFor 29 = .ok (.iload_n 1, 1) := by decide +kernel
theorem dM_bestFor_30 : decode cM_bestFor 30 = .ok (.iand, 1) := by decide +kernel
theorem dM_bestFor_31 : decode cM_bestFor 31 = .ok (.invokevirtual 401, 3) := by decide +kernel
theorem dM_bestFor_34 : decode cM_bestFor 34 = .ok (.if_icmp .le 5, 3) := by decide +kernel
theorem dM_bestFor_39 : decode cM_bestFor 39 = .ok (.iinc 3 1, 3) := by decide +kernel
theorem dM_bestFor_42 : decode cM_bestFor 42 = .ok (.goto (-38), 3) := by decide +kernel
theorem dM_bestFor_37 : decode cM_bestFor 37 = .ok (.iload_n 3, 1) := by decide +kernel
theorem dM_bestFor_38 : decode cM_bestFor 38 = .ok (.istore_n 2, 1) := by decide +kernel
def fM_bestFor (v1 : Int32) (s0 : Sg) : Option (Int32 × Sg) := lp FU (fun q4 (u4 : Int32 × Int32) (s1 : Sg) => if 20 ≤ u4.2 then (some (u4.1, s1)) else (gd u4.2 40 (bi (fM_onesOf ((s1 122 (ix u4.2)) &&& v1) s1) fun r3 s2 => gd u4.1 40 (bi (fM_onesOf ((s2 122 (ix u4.1)) &&& v1) s2) fun r5 s4 => bnd (fun (a39_2 : Int32) (s6 : Sg) => q4 (a39_2, (u4.2 + 1)) s6) fun j39 => if r3 ≤ r5 then (j39 u4.1 s4) else (j39 u4.2 s4))))) (0, 1) s0
set_option maxHeartbeats 4000000 in
set_option maxRecDepth 100000 in
theorem okM_bestFor (v1 : Int32) (s0 : Sg) : ∀ (l : Launch) (w : WC), Ok l w yM_bestFor cM_bestFor 4 (some .int) 2 evI [.ref (w.ad 102), .int v1] s0 (fM_bestFor v1 s0) := by
  refine ok_in (ev := fun _ => evI) (av := fun w => [.ref (w.ad 102), .int v1]) "LastWordHillModel" rfl (by decide +kernel) (fun _ => rfl) (fun _ => Nat.le_of_ble_eq_true rfl) ?_
  intro C X E
  show GF C evI 0 [some (.ref (C.w.ad 102)), some (.int v1), none, none] [] s0 (fM_bestFor v1 s0)
  unfold fM_bestFor
  refine g_iconst X 0 dM_bestFor_0 (by decide) ?_
  refine g_istore_n X [some (.ref (C.w.ad 102)), some (.int v1), some (.int 0), none] dM_bestFor_1 (by decide) (Nat.le_of_ble_eq_true rfl) rfl ?_
  refine g_iconst X 1 dM_bestFor_2 (by decide) ?_
  refine g_istore_n X [some (.ref (C.w.ad 102)), some (.int v1), some (.int 0), some (.int 1)] dM_bestFor_3 (by decide) (Nat.le_of_ble_eq_true rfl) rfl ?_
  refine gf_sub (L' := [some (.ref (C.w.ad 102)), some (.int v1), some (.int 0), some (.int 1)]) ?_ (by simp [lsub])
  refine gf_lp (Lf := fun (u4 : Int32 × Int32) => [some (.ref (C.w.ad 102)), some (.int v1), some (.int u4.1), some (.int u4.2)]) (fun q4 hq4 u4 s1 => ?_) FU (0, 1) s0
  refine g_iload_n X dM_bestFor_4 rfl ?_
  refine g_bipush X 20 dM_bestFor_5 (by decide) ?_
  refine g_cge X (tgt := 45) dM_bestFor_7 (by decide) ?_ ?_
  · refine g_iload_n X dM_bestFor_45 rfl ?_
    exact g_iret X E dM_bestFor_46
  · refine g_aload_n X dM_bestFor_10 rfl ?_
    refine g_aload_n X dM_bestFor_11 rfl ?_
    refine g_getN X fl_M_71 fb_12_39 k_102 r_102_39 dM_bestFor_12 ?_
    refine g_iload_n X dM_bestFor_15 rfl ?_
    refine g_iald X k_122 ln_122 dM_bestFor_16 ?_
    refine g_iload_n X dM_bestFor_17 rfl ?_
    refine g_iand X dM_bestFor_18 ?_
    refine g_virtI X [.int ((s1 122 (ix u4.2)) &&& v1)] [] k_102 mm_M_onesOf mv_M_onesOf ml_M_401 (okM_onesOf ((s1 122 (ix u4.2)) &&& v1) s1 C.l C.w) rfl (by decide) rfl (Nat.le_of_ble_eq_true rfl) dM_bestFor_19 (fun r3 s2 => ?_)
    refine g_aload_n X dM_bestFor_22 rfl ?_
    refine g_aload_n X dM_bestFor_23 rfl ?_
    refine g_getN X fl_M_71 fb_12_39 k_102 r_102_39 dM_bestFor_24 ?_
    refine g_iload_n X dM_bestFor_27 rfl ?_
    refine g_iald X k_122 ln_122 dM_bestFor_28 ?_
    refine g_iload_n X dM_bestFor_29 rfl ?_
    refine g_iand X dM_bestFor_30 ?_
    refine g_virtI X [.int ((s2 122 (ix u4.1)) &&& v1)] [.int r3] k_102 mm_M_onesOf mv_M_onesOf ml_M_401 (okM_onesOf ((s2 122 (ix u4.1)) &&& v1) s2 C.l C.w) rfl (by decide) rfl (Nat.le_of_ble_eq_true rfl) dM_bestFor_31 (fun r5 s4 => ?_)
    refine gf_jn (fun j39 => ∀ (a39_2 : Int32) (s6 : Sg), GF C evI 39 [some (.ref (C.w.ad 102)), some (.int v1), some (.int a39_2), some (.int u4.2)] [] s6 (j39 a39_2 s6)) ?_ ?_
    · intro a39_2 s6
      refine g_iinc X (u4.2 + 1) [some (.ref (C.w.ad 102)), some (.int v1), some (.int a39_2), some (.int (u4.2 + 1))] dM_bestFor_39 rfl rfl (by decide) rfl ?_
      refine g_goto X 4 dM_bestFor_42 (by decide) ?_
      exact gf_sub (hq4 (a39_2, (u4.2 + 1)) s6) (by simp [lsub])
    · intro j39 hj39
      refine g_cle X (tgt := 39) dM_bestFor_34 (by decide) ?_ ?_
      · exact gf_sub (hj39 u4.1 s4) (by simp [lsub])
      · refine g_iload_n X dM_bestFor_37 rfl ?_
        refine g_istore_n X [some (.ref (C.w.ad 102)), some (.int v1), some (.int u4.2), some (.int u4.2)] dM_bestFor_38 (by decide) (Nat.le_of_ble_eq_true rfl) rfl ?_
        exact gf_sub (hj39 u4.2 s4) (by simp [lsub])
def yM_findsFewest : MethodName := ⟨"LastWordHillModel", "findsFewest", "()V"⟩
abbrev cM_findsFewest : ByteArray := prog_14_method_86_code
theorem dM_findsFewest_0 : decode cM_findsFewest 0 = .ok (.iconst 0, 1) := by decide +kernel
theorem dM_findsFewest_1 : decode cM_findsFewest 1 = .ok (.istore_n 1, 1) := by decide +kernel
theorem dM_findsFewest_2 : decode cM_findsFewest 2 = .ok (.iload_n 1, 1) := by decide +kernel
theorem dM_findsFewest_3 : decode cM_findsFewest 3 = .ok (.sipush 1024, 3) := by decide +kernel
theorem dM_findsFewest_6 : decode cM_findsFewest 6 = .ok (.if_icmp .ge 26, 3) := by decide +kernel
theorem dM_findsFewest_32 : decode cM_findsFewest 32 = .ok (.iconst 0, 1) := by decide +kernel
theorem dM_findsFewest_33 : decode cM_findsFewest 33 = .ok (.istore_n 1, 1) := by decide +kernel
theorem dM_findsFewest_34 : decode cM_findsFewest 34 = .ok (.iload_n 1, 1) := by decide +kernel
theorem dM_findsFewest_35 : decode cM_findsFewest 35 = .ok (.bipush 20, 2) := by decide +kernel
theorem dM_findsFewest_37 : decode cM_findsFewest 37 = .ok (.if_icmp .ge 77, 3) := by decide +kernel
theorem dM_findsFewest_114 : decode cM_findsFewest 114 = .ok (.return_, 1) := by decide +kernel
theorem dM_findsFewest_40 : decode cM_findsFewest 40 = .ok (.iconst 0, 1) := by decide +kernel
theorem dM_findsFewest_41 : decode cM_findsFewest 41 = .ok (.istore_n 2, 1) := by decide +kernel
theorem dM_findsFewest_42 : decode cM_findsFewest 42 = .ok (.iload_n 2, 1) := by decide +kernel
theorem dM_findsFewest_43 : decode cM_findsFewest 43 = .ok (.sipush 1024, 3) := by decide +kernel
theorem dM_findsFewest_46 : decode cM_findsFewest 46 = .ok (.if_icmp .ge 62, 3) := by decide +kernel
theorem dM_findsFewest_108 : decode cM_findsFewest 108 = .ok (.iinc 1 1, 3) := by decide +kernel
theorem dM_findsFewest_111 : decode cM_findsFewest 111 = .ok (.goto (-77), 3) := by decide +kernel
theorem dM_findsFewest_49 : decode cM_findsFewest 49 = .ok (.aload_n 0, 1) := by decide +kernel
theorem dM_findsFewest_50 : decode cM_findsFewest 50 = .ok (.getfield 80, 3) := by decide +kernel
theorem fl_M_80 : FLk "LastWordHillModel" 80 12 42 := ⟨_, _, _, rfl, by decide, hz_in 1454 (by decide +kernel) (by decide +kernel), nL12, by decide, by decide⟩
theorem k_125 : hz_kd 125 = 13 := by decide
theorem fb_12_42 : (hz_bs 12)[42]? = some true := by decide
theorem r_102_42 : hz_rf 102 42 = 125 := by decide
theorem dM_findsFewest_53 : decode cM_findsFewest 53 = .ok (.sipush 1024, 3) := by decide +kernel
theorem dM_findsFewest_56 : decode cM_findsFewest 56 = .ok (.iload_n 1, 1) := by decide +kernel
theorem dM_findsFewest_57 : decode cM_findsFewest 57 = .ok (.iconst 1, 1) := by decide +kernel
theorem dM_findsFewest_58 : decode cM_findsFewest 58 = .ok (.iadd, 1) := by decide +kernel
theorem dM_findsFewest_59 : decode cM_findsFewest 59 = .ok (.imul, 1) := by decide +kernel
theorem dM_findsFewest_60 : decode cM_findsFewest 60 = .ok (.iload_n 2, 1) := by decide +kernel
theorem dM_findsFewest_61 : decode cM_findsFewest 61 = .ok (.iadd, 1) := by decide +kernel
theorem dM_findsFewest_62 : decode cM_findsFewest 62 = .ok (.aload_n 0, 1) := by decide +kernel
theorem dM_findsFewest_63 : decode cM_findsFewest 63 = .ok (.aload_n 0, 1) := by decide +kernel
theorem dM_findsFewest_64 : decode cM_findsFewest 64 = .ok (.getfield 80, 3) := by decide +kernel
theorem dM_findsFewest_67 : decode cM_findsFewest 67 = .ok (.sipush 1024, 3) := by decide +kernel
theorem dM_findsFewest_70 : decode cM_findsFewest 70 = .ok (.iload_n 1, 1) := by decide +kernel
theorem dM_findsFewest_71 : decode cM_findsFewest 71 = .ok (.imul, 1) := by decide +kernel
theorem dM_findsFewest_72 : decode cM_findsFewest 72 = .ok (.iload_n 2, 1) := by decide +kernel
theorem dM_findsFewest_73 : decode cM_findsFewest 73 = .ok (.iadd, 1) := by decide +kernel
theorem dM_findsFewest_74 : decode cM_findsFewest 74 = .ok (.iaload, 1) := by decide +kernel
theorem ln_125 : hz_ln 125 = 21504 := by decide
theorem dM_findsFewest_75 : decode cM_findsFewest 75 = .ok (.aload_n 0, 1) := by decide +kernel
theorem dM_findsFewest_76 : decode cM_findsFewest 76 = .ok (.getfield 80, 3) := by decide +kernel
theorem dM_findsFewest_79 : decode cM_findsFewest 79 = .ok (.sipush 1024, 3) := by decide +kernel
theorem dM_findsFewest_82 : decode cM_findsFewest 82 = .ok (.iload_n 1, 1) := by decide +kernel
theorem dM_findsFewest_83 : decode cM_findsFewest 83 = .ok (.imul, 1) := by decide +kernel
theorem dM_findsFewest_84 : decode cM_findsFewest 84 = .ok (.iload_n 2, 1) := by decide +kernel
theorem dM_findsFewest_85 : decode cM_findsFewest 85 = .ok (.aload_n 0, 1) := by decide +kernel
theorem dM_findsFewest_86 : decode cM_findsFewest 86 = .ok (.getfield 71, 3) := by decide +kernel
theorem dM_findsFewest_89 : decode cM_findsFewest 89 = .ok (.iload_n 1, 1) := by decide +kernel
theorem dM_findsFewest_90 : decode cM_findsFewest 90 = .ok (.iaload, 1) := by decide +kernel
theorem dM_findsFewest_91 : decode cM_findsFewest 91 = .ok (.iconst (-1), 1) := by decide +kernel
theorem dM_findsFewest_92 : decode cM_findsFewest 92 = .ok (.ixor, 1) := by decide +kernel
theorem dM_findsFewest_93 : decode cM_findsFewest 93 = .ok (.iand, 1) := by decide +kernel
theorem dM_findsFewest_94 : decode cM_findsFewest 94 = .ok (.iadd, 1) := by decide +kernel
theorem dM_findsFewest_95 : decode cM_findsFewest 95 = .ok (.iaload, 1) := by decide +kernel
theorem dM_findsFewest_96 : decode cM_findsFewest 96 = .ok (.iconst 1, 1) := by decide +kernel
theorem dM_findsFewest_97 : decode cM_findsFewest 97 = .ok (.iadd, 1) := by decide +kernel
theorem dM_findsFewest_98 : decode cM_findsFewest 98 = .ok (.invokevirtual 371, 3) := by decide +kernel
theorem dM_findsFewest_101 : decode cM_findsFewest 101 = .ok (.iastore, 1) := by decide +kernel
theorem dM_findsFewest_102 : decode cM_findsFewest 102 = .ok (.iinc 2 1, 3) := by decide +kernel
theorem dM_findsFewest_105 : decode cM_findsFewest 105 = .ok (.goto (-63), 3) := by decide +kernel
theorem dM_findsFewest_9 : decode cM_findsFewest 9 = .ok (.aload_n 0, 1) := by decide +kernel
theorem dM_findsFewest_10 : decode cM_findsFewest 10 = .ok (.getfield 80, 3) := by decide +kernel
theorem dM_findsFewest_13 : decode cM_findsFewest 13 = .ok (.iload_n 1, 1) := by decide +kernel
theorem dM_findsFewest_14 : decode cM_findsFewest 14 = .ok (.iload_n 1, 1) := by decide +kernel
theorem dM_findsFewest_15 : decode cM_findsFewest 15 = .ok (.ifCond .ne 7, 3) := by decide +kernel
theorem dM_findsFewest_25 : decode cM_findsFewest 25 = .ok (.iastore, 1) := by decide +kernel
theorem dM_findsFewest_26 : decode cM_findsFewest 26 = .ok (.iinc 1 1, 3) := by decide +kernel
theorem dM_findsFewest_29 : decode cM_findsFewest 29 = .ok (.goto (-27), 3) := by decide +kernel
theorem dM_findsFewest_22 : decode cM_findsFewest 22 = .ok (.ldc_w 404, 3) := by decide +kernel
theorem kc_M_404 : Cond.constant "LastWordHillModel" 404 100000000 ∈ hz_wt := hz_in 1965 (by decide +kernel) (by decide +kernel)
theorem dM_findsFewest_18 : decode cM_findsFewest 18 = .ok (.iconst 0, 1) := by decide +kernel
theorem dM_findsFewest_19 : decode cM_findsFewest 19 = .ok (.goto 6, 3) := by decide +kernel
def fM_findsFewest (s0 : Sg) : Option (Sg) := lp FU (fun q2 (u2 : Int32) (s1 : Sg) => if 1024 ≤ u2 then (lp FU (fun q34 (u34 : Int32) (s2 : Sg) => if 20 ≤ u34 then (some s2) else (lp FU (fun q42 (u42 : Int32) (s3 : Sg) => if 1024 ≤ u42 then (q34 (u34 + 1) s3) else (gd ((1024 * u34) + u42) 21504 (gd u34 40 (gd ((1024 * u34) + (u42 &&& ((s3 122 (ix u34)) ^^^ (-1)))) 21504 (bi (fM_lesser (s3 125 (ix ((1024 * u34) + u42))) ((s3 125 (ix ((1024 * u34) + (u42 &&& ((s3 122 (ix u34)) ^^^ (-1)))))) + 1) s3) fun r5 s4 => gd ((1024 * (u34 + 1)) + u42) 21504 (bnd (pt s4 125 (ix ((1024 * (u34 + 1)) + u42)) r5) fun s6 => q42 (u42 + 1) s6)))))) 0 s2)) 0 s1) else (bnd (fun (b25_0 : Int32) (s7 : Sg) => gd u2 21504 (bnd (pt s7 125 (ix u2) b25_0) fun s8 => q2 (u2 + 1) s8)) fun j25 => if u2 = 0 then (j25 0 s1) else (j25 100000000 s1))) 0 s0
set_option maxHeartbeats 4000000 in
set_option maxRecDepth 100000 in
theorem okM_findsFewest (s0 : Sg) : ∀ (l : Launch) (w : WC), Ok l w yM_findsFewest cM_findsFewest 3 none 2 evV [.ref (w.ad 102)] s0 (fM_findsFewest s0) := by
  refine ok_in (ev := fun _ => evV) (av := fun w => [.ref (w.ad 102)]) "LastWordHillModel" rfl (by decide +kernel) (fun _ => rfl) (fun _ => Nat.le_of_ble_eq_true rfl) ?_
  intro C X E
  show GF C evV 0 [some (.ref (C.w.ad 102)), none, none] [] s0 (fM_findsFewest s0)
  unfold fM_findsFewest
  refine g_iconst X 0 dM_findsFewest_0 (by decide) ?_
  refine g_istore_n X [some (.ref (C.w.ad 102)), some (.int 0), none] dM_findsFewest_1 (by decide) (Nat.le_of_ble_eq_true rfl) rfl ?_
  refine gf_sub (L' := [some (.ref (C.w.ad 102)), some (.int 0), none]) ?_ (by simp [lsub])
  refine gf_lp (Lf := fun (u2 : Int32) => [some (.ref (C.w.ad 102)), some (.int u2), none]) (fun q2 hq2 u2 s1 => ?_) FU 0 s0
  refine g_iload_n X dM_findsFewest_2 rfl ?_
  refine g_sipush X 1024 dM_findsFewest_3 (by decide) ?_
  refine g_cge X (tgt := 32) dM_findsFewest_6 (by decide) ?_ ?_
  · refine g_iconst X 0 dM_findsFewest_32 (by decide) ?_
    refine g_istore_n X [some (.ref (C.w.ad 102)), some (.int 0), none] dM_findsFewest_33 (by decide) (Nat.le_of_ble_eq_true rfl) rfl ?_
    refine gf_sub (L' := [some (.ref (C.w.ad 102)), some (.int 0), none]) ?_ (by simp [lsub])
    refine gf_lp (Lf := fun (u34 : Int32) => [some (.ref (C.w.ad 102)), some (.int u34), none]) (fun q34 hq34 u34 s2 => ?_) FU 0 s1
    refine g_iload_n X dM_findsFewest_34 rfl ?_
    refine g_bipush X 20 dM_findsFewest_35 (by decide) ?_
    refine g_cge X (tgt := 114) dM_findsFewest_37 (by decide) ?_ ?_
    · exact g_vret X E dM_findsFewest_114
    · refine g_iconst X 0 dM_findsFewest_40 (by decide) ?_
      refine g_istore_n X [some (.ref (C.w.ad 102)), some (.int u34), some (.int 0)] dM_findsFewest_41 (by decide) (Nat.le_of_ble_eq_true rfl) rfl ?_
      refine gf_sub (L' := [some (.ref (C.w.ad 102)), some (.int u34), some (.int 0)]) ?_ (by simp [lsub])
      refine gf_lp (Lf := fun (u42 : Int32) => [some (.ref (C.w.ad 102)), some (.int u34), some (.int u42)]) (fun q42 hq42 u42 s3 => ?_) FU 0 s2
      refine g_iload_n X dM_findsFewest_42 rfl ?_
      refine g_sipush X 1024 dM_findsFewest_43 (by decide) ?_
      refine g_cge X (tgt := 108) dM_findsFewest_46 (by decide) ?_ ?_
      · refine g_iinc X (u34 + 1) [some (.ref (C.w.ad 102)), some (.int (u34 + 1)), some (.int u42)] dM_findsFewest_108 rfl rfl (by decide) rfl ?_
        refine g_goto X 34 dM_findsFewest_111 (by decide) ?_
        exact gf_sub (hq34 (u34 + 1) s3) (by simp [lsub])
      · refine g_aload_n X dM_findsFewest_49 rfl ?_
        refine g_getN X fl_M_80 fb_12_42 k_102 r_102_42 dM_findsFewest_50 ?_
        refine g_sipush X 1024 dM_findsFewest_53 (by decide) ?_
        refine g_iload_n X dM_findsFewest_56 rfl ?_
        refine g_iconst X 1 dM_findsFewest_57 (by decide) ?_
        refine g_iadd X dM_findsFewest_58 ?_
        refine g_imul X dM_findsFewest_59 ?_
        refine g_iload_n X dM_findsFewest_60 rfl ?_
        refine g_iadd X dM_findsFewest_61 ?_
        refine g_aload_n X dM_findsFewest_62 rfl ?_
        refine g_aload_n X dM_findsFewest_63 rfl ?_
        refine g_getN X fl_M_80 fb_12_42 k_102 r_102_42 dM_findsFewest_64 ?_
        refine g_sipush X 1024 dM_findsFewest_67 (by decide) ?_
        refine g_iload_n X dM_findsFewest_70 rfl ?_
        refine g_imul X dM_findsFewest_71 ?_
        refine g_iload_n X dM_findsFewest_72 rfl ?_
        refine g_iadd X dM_findsFewest_73 ?_
        refine g_iald X k_125 ln_125 dM_findsFewest_74 ?_
        refine g_aload_n X dM_findsFewest_75 rfl ?_
        refine g_getN X fl_M_80 fb_12_42 k_102 r_102_42 dM_findsFewest_76 ?_
        refine g_sipush X 1024 dM_findsFewest_79 (by decide) ?_
        refine g_iload_n X dM_findsFewest_82 rfl ?_
        refine g_imul X dM_findsFewest_83 ?_
        refine g_iload_n X dM_findsFewest_84 rfl ?_
        refine g_aload_n X dM_findsFewest_85 rfl ?_
        refine g_getN X fl_M_71 fb_12_39 k_102 r_102_39 dM_findsFewest_86 ?_
        refine g_iload_n X dM_findsFewest_89 rfl ?_
        refine g_iald X k_122 ln_122 dM_findsFewest_90 ?_
        refine g_iconst X (-1) dM_findsFewest_91 (by decide) ?_
        refine g_ixor X dM_findsFewest_92 ?_
        refine g_iand X dM_findsFewest_93 ?_
        refine g_iadd X dM_findsFewest_94 ?_
        refine g_iald X k_125 ln_125 dM_findsFewest_95 ?_
        refine g_iconst X 1 dM_findsFewest_96 (by decide) ?_
        refine g_iadd X dM_findsFewest_97 ?_
        refine g_virtI X [.int (s3 125 (ix ((1024 * u34) + u42))), .int ((s3 125 (ix ((1024 * u34) + (u42 &&& ((s3 122 (ix u34)) ^^^ (-1)))))) + 1)] [.int ((1024 * (u34 + 1)) + u42), .ref (C.w.ad 125)] k_102 mm_M_lesser mv_M_lesser ml_M_371 (okM_lesser (s3 125 (ix ((1024 * u34) + u42))) ((s3 125 (ix ((1024 * u34) + (u42 &&& ((s3 122 (ix u34)) ^^^ (-1)))))) + 1) s3 C.l C.w) rfl (by decide) rfl (Nat.le_of_ble_eq_true rfl) dM_findsFewest_98 (fun r5 s4 => ?_)
        refine g_iast X k_125 ln_125 dM_findsFewest_101 (fun s6 => ?_)
        refine g_iinc X (u42 + 1) [some (.ref (C.w.ad 102)), some (.int u34), some (.int (u42 + 1))] dM_findsFewest_102 rfl rfl (by decide) rfl ?_
        refine g_goto X 42 dM_findsFewest_105 (by decide) ?_
        exact gf_sub (hq42 (u42 + 1) s6) (by simp [lsub])
  · refine g_aload_n X dM_findsFewest_9 rfl ?_
    refine g_getN X fl_M_80 fb_12_42 k_102 r_102_42 dM_findsFewest_10 ?_
    refine g_iload_n X dM_findsFewest_13 rfl ?_
    refine g_iload_n X dM_findsFewest_14 rfl ?_
    refine gf_jn (fun j25 => ∀ (b25_0 : Int32) (s7 : Sg), GF C evV 25 [some (.ref (C.w.ad 102)), some (.int u2), none] [.int b25_0, .int u2, .ref (C.w.ad 125)] s7 (j25 b25_0 s7)) ?_ ?_
    · intro b25_0 s7
      refine g_iast X k_125 ln_125 dM_findsFewest_25 (fun s8 => ?_)
      refine g_iinc X (u2 + 1) [some (.ref (C.w.ad 102)), some (.int (u2 + 1)), none] dM_findsFewest_26 rfl rfl (by decide) rfl ?_
      refine g_goto X 2 dM_findsFewest_29 (by decide) ?_
      exact gf_sub (hq2 (u2 + 1) s8) (by simp [lsub])
    · intro j25 hj25
      refine g_zne X (tgt := 22) dM_findsFewest_15 (by decide) ?_ ?_
      · refine g_iconst X 0 dM_findsFewest_18 (by decide) ?_
        refine g_goto X 25 dM_findsFewest_19 (by decide) ?_
        exact gf_sub (hj25 0 s1) (by simp [lsub])
      · refine g_ldcw X kc_M_404 dM_findsFewest_22 ?_
        exact gf_sub (hj25 100000000 s1) (by simp [lsub])
def yM_coverOf : MethodName := ⟨"LastWordHillModel", "coverOf", "(I)I"⟩
abbrev cM_coverOf : ByteArray := prog_14_method_87_code
theorem dM_coverOf_0 : decode cM_coverOf 0 = .ok (.iload_n 1, 1) := by decide +kernel
theorem dM_coverOf_1 : decode cM_coverOf 1 = .ok (.istore_n 2, 1) := by decide +kernel
theorem dM_coverOf_2 : decode cM_coverOf 2 = .ok (.iconst 0, 1) := by decide +kernel
theorem dM_coverOf_3 : decode cM_coverOf 3 = .ok (.istore_n 3, 1) := by decide +kernel
theorem dM_coverOf_4 : decode cM_coverOf 4 = .ok (.aload_n 0, 1) := by decide +kernel
theorem dM_coverOf_5 : decode cM_coverOf 5 = .ok (.getfield 80, 3) := by decide +kernel
theorem dM_coverOf_8 : decode cM_coverOf 8 = .ok (.sipush 20480, 3) := by decide +kernel
theorem dM_coverOf_11 : decode cM_coverOf 11 = .ok (.iload_n 1, 1) := by decide +kernel
theorem dM_coverOf_12 : decode cM_coverOf 12 = .ok (.iadd, 1) := by decide +kernel
theorem dM_coverOf_13 : decode cM_coverOf 13 = .ok (.iaload, 1) := by decide +kernel
theorem dM_coverOf_14 : decode cM_coverOf 14 = .ok (.istore 4, 2) := by decide +kernel
theorem dM_coverOf_16 : decode cM_coverOf 16 = .ok (.bipush 19, 2) := by decide +kernel
theorem dM_coverOf_18 : decode cM_coverOf 18 = .ok (.istore 5, 2) := by decide +kernel
theorem dM_coverOf_20 : decode cM_coverOf 20 = .ok (.iload 5, 2) := by decide +kernel
theorem dM_coverOf_22 : decode cM_coverOf 22 = .ok (.ifCond .lt 55, 3) := by decide +kernel
theorem dM_coverOf_77 : decode cM_coverOf 77 = .ok (.iload_n 3, 1) := by decide +kernel
theorem dM_coverOf_78 : decode cM_coverOf 78 = .ok (.ireturn, 1) := by decide +kernel
theorem dM_coverOf_25 : decode cM_coverOf 25 = .ok (.aload_n 0, 1) := by decide +kernel
theorem dM_coverOf_26 : decode cM_coverOf 26 = .ok (.getfield 80, 3) := by decide +kernel
theorem dM_coverOf_29 : decode cM_coverOf 29 = .ok (.sipush 1024, 3) := by decide +kernel
theorem dM_coverOf_32 : decode cM_coverOf 32 = .ok (.iload 5, 2) := by decide +kernel
theorem dM_coverOf_34 : decode cM_coverOf 34 = .ok (.imul, 1) := by decide +kernel
theorem dM_coverOf_35 : decode cM_coverOf 35 = .ok (.iload_n 2, 1) := by decide +kernel
theorem dM_coverOf_36 : decode cM_coverOf 36 = .ok (.iadd, 1) := by decide +kernel
theorem dM_coverOf_37 : decode cM_coverOf 37 = .ok (.iaload, 1) := by decide +kernel
theorem dM_coverOf_38 : decode cM_coverOf 38 = .ok (.iload 4, 2) := by decide +kernel
theorem dM_coverOf_40 : decode cM_coverOf 40 = .ok (.if_icmp .gt 6, 3) := by decide +kernel
theorem dM_coverOf_71 : decode cM_coverOf 71 = .ok (.iinc 5 (-1), 3) := by decide +kernel
theorem dM_coverOf_74 : decode cM_coverOf 74 = .ok (.goto (-54), 3) := by decide +kernel
theorem dM_coverOf_46 : decode cM_coverOf 46 = .ok (.iload_n 3, 1) := by decide +kernel
theorem dM_coverOf_47 : decode cM_coverOf 47 = .ok (.iconst 1, 1) := by decide +kernel
theorem dM_coverOf_48 : decode cM_coverOf 48 = .ok (.iload 5, 2) := by decide +kernel
theorem dM_coverOf_50 : decode cM_coverOf 50 = .ok (.ishl, 1) := by decide +kernel
theorem dM_coverOf_51 : decode cM_coverOf 51 = .ok (.ior, 1) := by decide +kernel
theorem dM_coverOf_52 : decode cM_coverOf 52 = .ok (.istore_n 3, 1) := by decide +kernel
theorem dM_coverOf_53 : decode cM_coverOf 53 = .ok (.iload_n 2, 1) := by decide +kernel
theorem dM_coverOf_54 : decode cM_coverOf 54 = .ok (.aload_n 0, 1) := by decide +kernel
theorem dM_coverOf_55 : decode cM_coverOf 55 = .ok (.getfield 71, 3) := by decide +kernel
theorem dM_coverOf_58 : decode cM_coverOf 58 = .ok (.iload 5, 2) := by decide +kernel
theorem dM_coverOf_60 : decode cM_coverOf 60 = .ok (.iaload, 1) := by decide +kernel
theorem dM_coverOf_61 : decode cM_coverOf 61 = .ok (.iconst (-1), 1) := by decide +kernel
theorem dM_coverOf_62 : decode cM_coverOf 62 = .ok (.ixor, 1) := by decide +kernel
theorem dM_coverOf_63 : decode cM_coverOf 63 = .ok (.iand, 1) := by decide +kernel
theorem dM_coverOf_64 : decode cM_coverOf 64 = .ok (.istore_n 2, 1) := by decide +kernel
theorem dM_coverOf_65 : decode cM_coverOf 65 = .ok (.iload 4, 2) := by decide +kernel
theorem dM_coverOf_67 : decode cM_coverOf 67 = .ok (.iconst 1, 1) := by decide +kernel
theorem dM_coverOf_68 : decode cM_coverOf 68 = .ok (.isub, 1) := by decide +kernel
theorem dM_coverOf_69 : decode cM_coverOf 69 = .ok (.istore 4, 2) := by decide +kernel
theorem dM_coverOf_43 : decode cM_coverOf 43 = .ok (.goto 28, 3) := by decide +kernel
def fM_coverOf (v1 : Int32) (s0 : Sg) : Option (Int32 × Sg) := gd (20480 + v1) 21504 (bnd (s0 125 (ix (20480 + v1))) fun x1 => lp FU (fun q20 (u20 : Int32 × Int32 × Int32 × Int32) (s2 : Sg) => if u20.2.2.2 < 0 then (some (u20.2.1, s2)) else (gd ((1024 * u20.2.2.2) + u20.1) 21504 (bnd (fun (a71_2 : Int32) (a71_3 : Int32) (a71_4 : Int32) (s3 : Sg) => q20 (a71_2, a71_3, a71_4, (u20.2.2.2 + (-1))) s3) fun j71 => if u20.2.2.1 < (s2 125 (ix ((1024 * u20.2.2.2) + u20.1))) then (bnd (u20.2.1 ||| (1 <<< (u20.2.2.2 &&& 31))) fun x4 => gd u20.2.2.2 40 (bnd (u20.1 &&& ((s2 122 (ix u20.2.2.2)) ^^^ (-1))) fun x5 => j71 x5 x4 (u20.2.2.1 - 1) s2)) else (j71 u20.1 u20.2.1 u20.2.2.1 s2)))) (v1, 0, x1, 19) s0)
set_option maxHeartbeats 4000000 in
set_option maxRecDepth 100000 in
theorem okM_coverOf (v1 : Int32) (s0 : Sg) : ∀ (l : Launch) (w : WC), Ok l w yM_coverOf cM_coverOf 6 (some .int) 1 evI [.ref (w.ad 102), .int v1] s0 (fM_coverOf v1 s0) := by
  refine ok_in (ev := fun _ => evI) (av := fun w => [.ref (w.ad 102), .int v1]) "LastWordHillModel" rfl (by decide +kernel) (fun _ => rfl) (fun _ => Nat.le_of_ble_eq_true rfl) ?_
  intro C X E
  show GF C evI 0 [some (.ref (C.w.ad 102)), some (.int v1), none, none, none, none] [] s0 (fM_coverOf v1 s0)
  unfold fM_coverOf
  refine g_iload_n X dM_coverOf_0 rfl ?_
  refine g_istore_n X [some (.ref (C.w.ad 102)), some (.int v1), some (.int v1), none, none, none] dM_coverOf_1 (by decide) (Nat.le_of_ble_eq_true rfl) rfl ?_
  refine g_iconst X 0 dM_coverOf_2 (by decide) ?_
  refine g_istore_n X [some (.ref (C.w.ad 102)), some (.int v1), some (.int v1), some (.int 0), none, none] dM_coverOf_3 (by decide) (Nat.le_of_ble_eq_true rfl) rfl ?_
  refine g_aload_n X dM_coverOf_4 rfl ?_
  refine g_getN X fl_M_80 fb_12_42 k_102 r_102_42 dM_coverOf_5 ?_
  refine g_sipush X 20480 dM_coverOf_8 (by decide) ?_
  refine g_iload_n X dM_coverOf_11 rfl ?_
  refine g_iadd X dM_coverOf_12 ?_
  refine g_iald X k_125 ln_125 dM_coverOf_13 ?_
  refine gf_nm (fun x1 => ?_)
  refine g_istore X [some (.ref (C.w.ad 102)), some (.int v1), some (.int v1), some (.int 0), some (.int x1), none] dM_coverOf_14 (by decide) (Nat.le_of_ble_eq_true rfl) rfl ?_
  refine g_bipush X 19 dM_coverOf_16 (by decide) ?_
  refine g_istore X [some (.ref (C.w.ad 102)), some (.int v1), some (.int v1), some (.int 0), some (.int x1), some (.int 19)] dM_coverOf_18 (by decide) (Nat.le_of_ble_eq_true rfl) rfl ?_
  refine gf_sub (L' := [some (.ref (C.w.ad 102)), none, some (.int v1), some (.int 0), some (.int x1), some (.int 19)]) ?_ (by simp [lsub])
  refine gf_lp (Lf := fun (u20 : Int32 × Int32 × Int32 × Int32) => [some (.ref (C.w.ad 102)), none, some (.int u20.1), some (.int u20.2.1), some (.int u20.2.2.1), some (.int u20.2.2.2)]) (fun q20 hq20 u20 s2 => ?_) FU (v1, 0, x1, 19) s0
  refine g_iload X dM_coverOf_20 rfl ?_
  refine g_zlt X (tgt := 77) dM_coverOf_22 (by decide) ?_ ?_
  · refine g_iload_n X dM_coverOf_77 rfl ?_
    exact g_iret X E dM_coverOf_78
  · refine g_aload_n X dM_coverOf_25 rfl ?_
    refine g_getN X fl_M_80 fb_12_42 k_102 r_102_42 dM_coverOf_26 ?_
    refine g_sipush X 1024 dM_coverOf_29 (by decide) ?_
    refine g_iload X dM_coverOf_32 rfl ?_
    refine g_imul X dM_coverOf_34 ?_
    refine g_iload_n X dM_coverOf_35 rfl ?_
    refine g_iadd X dM_coverOf_36 ?_
    refine g_iald X k_125 ln_125 dM_coverOf_37 ?_
    refine g_iload X dM_coverOf_38 rfl ?_
    refine gf_jn (fun j71 => ∀ (a71_2 : Int32) (a71_3 : Int32) (a71_4 : Int32) (s3 : Sg), GF C evI 71 [some (.ref (C.w.ad 102)), none, some (.int a71_2), some (.int a71_3), some (.int a71_4), some (.int u20.2.2.2)] [] s3 (j71 a71_2 a71_3 a71_4 s3)) ?_ ?_
    · intro a71_2 a71_3 a71_4 s3
      refine g_iinc X (u20.2.2.2 + (-1)) [some (.ref (C.w.ad 102)), none, some (.int a71_2), some (.int a71_3), some (.int a71_4), some (.int (u20.2.2.2 + (-1)))] dM_coverOf_71 rfl rfl (by decide) rfl ?_
      refine g_goto X 20 dM_coverOf_74 (by decide) ?_
      exact gf_sub (hq20 (a71_2, a71_3, a71_4, (u20.2.2.2 + (-1))) s3) (by simp [lsub])
    · intro j71 hj71
      refine g_cgt X (tgt := 46) dM_coverOf_40 (by decide) ?_ ?_
      · refine g_iload_n X dM_coverOf_46 rfl ?_
        refine g_iconst X 1 dM_coverOf_47 (by decide) ?_
        refine g_iload X dM_coverOf_48 rfl ?_
        refine g_ishl X dM_coverOf_50 ?_
        refine g_ior X dM_coverOf_51 ?_
        refine gf_nm (fun x4 => ?_)
        refine g_istore_n X [some (.ref (C.w.ad 102)), none, some (.int u20.1), some (.int x4), some (.int u20.2.2.1), some (.int u20.2.2.2)] dM_coverOf_52 (by decide) (Nat.le_of_ble_eq_true rfl) rfl ?_
        refine g_iload_n X dM_coverOf_53 rfl ?_
        refine g_aload_n X dM_coverOf_54 rfl ?_
        refine g_getN X fl_M_71 fb_12_39 k_102 r_102_39 dM_coverOf_55 ?_
        refine g_iload X dM_coverOf_58 rfl ?_
        refine g_iald X k_122 ln_122 dM_coverOf_60 ?_
        refine g_iconst X (-1) dM_coverOf_61 (by decide) ?_
        refine g_ixor X dM_coverOf_62 ?_
        refine g_iand X dM_coverOf_63 ?_
        refine gf_nm (fun x5 => ?_)
        refine g_istore_n X [some (.ref (C.w.ad 102)), none, some (.int x5), some (.int x4), some (.int u20.2.2.1), some (.int u20.2.2.2)] dM_coverOf_64 (by decide) (Nat.le_of_ble_eq_true rfl) rfl ?_
        refine g_iload X dM_coverOf_65 rfl ?_
        refine g_iconst X 1 dM_coverOf_67 (by decide) ?_
        refine g_isub X dM_coverOf_68 ?_
        refine g_istore X [some (.ref (C.w.ad 102)), none, some (.int x5), some (.int x4), some (.int (u20.2.2.1 - 1)), some (.int u20.2.2.2)] dM_coverOf_69 (by decide) (Nat.le_of_ble_eq_true rfl) rfl ?_
        exact gf_sub (hj71 x5 x4 (u20.2.2.1 - 1) s2) (by simp [lsub])
      · refine g_goto X 71 dM_coverOf_43 (by decide) ?_
        exact gf_sub (hj71 u20.1 u20.2.1 u20.2.2.1 s2) (by simp [lsub])
def yM_fits : MethodName := ⟨"LastWordHillModel", "fits", "(II)I"⟩
abbrev cM_fits : ByteArray := prog_14_method_88_code
theorem dM_fits_0 : decode cM_fits 0 = .ok (.aload_n 0, 1) := by decide +kernel
theorem dM_fits_1 : decode cM_fits 1 = .ok (.iconst 0, 1) := by decide +kernel
theorem dM_fits_2 : decode cM_fits 2 = .ok (.putfield 134, 3) := by decide +kernel
theorem dM_fits_5 : decode cM_fits 5 = .ok (.iload_n 2, 1) := by decide +kernel
theorem dM_fits_6 : decode cM_fits 6 = .ok (.ifCond .ne 25, 3) := by decide +kernel
theorem dM_fits_31 : decode cM_fits 31 = .ok (.aload_n 0, 1) := by decide +kernel
theorem dM_fits_32 : decode cM_fits 32 = .ok (.iload_n 1, 1) := by decide +kernel
theorem dM_fits_33 : decode cM_fits 33 = .ok (.iconst 0, 1) := by decide +kernel
theorem dM_fits_34 : decode cM_fits 34 = .ok (.sipush 1023, 3) := by decide +kernel
theorem dM_fits_37 : decode cM_fits 37 = .ok (.invokevirtual 153, 3) := by decide +kernel
theorem dM_fits_40 : decode cM_fits 40 = .ok (.ifCond .eq 13, 3) := by decide +kernel
theorem dM_fits_53 : decode cM_fits 53 = .ok (.iconst (-1), 1) := by decide +kernel
theorem dM_fits_54 : decode cM_fits 54 = .ok (.ireturn, 1) := by decide +kernel
theorem dM_fits_43 : decode cM_fits 43 = .ok (.aload_n 0, 1) := by decide +kernel
theorem dM_fits_44 : decode cM_fits 44 = .ok (.iload_n 2, 1) := by decide +kernel
theorem dM_fits_45 : decode cM_fits 45 = .ok (.iconst 1, 1) := by decide +kernel
theorem dM_fits_46 : decode cM_fits 46 = .ok (.iconst 3, 1) := by decide +kernel
theorem dM_fits_47 : decode cM_fits 47 = .ok (.invokevirtual 153, 3) := by decide +kernel
theorem dM_fits_50 : decode cM_fits 50 = .ok (.ifCond .ne 5, 3) := by decide +kernel
theorem dM_fits_55 : decode cM_fits 55 = .ok (.iload_n 2, 1) := by decide +kernel
theorem dM_fits_56 : decode cM_fits 56 = .ok (.iconst 1, 1) := by decide +kernel
theorem dM_fits_57 : decode cM_fits 57 = .ok (.if_icmp .ne 9, 3) := by decide +kernel
theorem dM_fits_66 : decode cM_fits 66 = .ok (.aload_n 0, 1) := by decide +kernel
theorem dM_fits_67 : decode cM_fits 67 = .ok (.invokevirtual 408, 3) := by decide +kernel
theorem mm_M_findsFewest : MMc yM_findsFewest cM_findsFewest 3 none 0 := ⟨hz_in 1964 (by decide +kernel) (by decide +kernel), hz_in 147 (by decide +kernel) (by decide +kernel), by decide +kernel, by decide⟩
theorem mv_M_findsFewest : MMv yM_findsFewest 12 := ⟨hz_in 1963 (by decide +kernel) (by decide +kernel), hz_in 116 (by decide +kernel) (by decide +kernel), _, _, rfl, by decide⟩
theorem ml_M_408 : Cond.methodLink "LastWordHillModel" 408 yM_findsFewest ∈ hz_wt := hz_in 1961 (by decide +kernel) (by decide +kernel)
theorem dM_fits_70 : decode cM_fits 70 = .ok (.aload_n 0, 1) := by decide +kernel
theorem dM_fits_71 : decode cM_fits 71 = .ok (.getfield 80, 3) := by decide +kernel
theorem dM_fits_74 : decode cM_fits 74 = .ok (.sipush 20480, 3) := by decide +kernel
theorem dM_fits_77 : decode cM_fits 77 = .ok (.iload_n 1, 1) := by decide +kernel
theorem dM_fits_78 : decode cM_fits 78 = .ok (.iadd, 1) := by decide +kernel
theorem dM_fits_79 : decode cM_fits 79 = .ok (.iaload, 1) := by decide +kernel
theorem dM_fits_80 : decode cM_fits 80 = .ok (.istore_n 3, 1) := by decide +kernel
theorem dM_fits_81 : decode cM_fits 81 = .ok (.iload_n 3, 1) := by decide +kernel
theorem dM_fits_82 : decode cM_fits 82 = .ok (.ldc_w 404, 3) := by decide +kernel
theorem dM_fits_85 : decode cM_fits 85 = .ok (.if_icmp .lt 7, 3) := by decide +kernel
theorem dM_fits_92 : decode cM_fits 92 = .ok (.iload_n 2, 1) := by decide +kernel
theorem dM_fits_93 : decode cM_fits 93 = .ok (.iconst 2, 1) := by decide +kernel
theorem dM_fits_94 : decode cM_fits 94 = .ok (.if_icmp .ne 7, 3) := by decide +kernel
theorem dM_fits_101 : decode cM_fits 101 = .ok (.aload_n 0, 1) := by decide +kernel
theorem dM_fits_102 : decode cM_fits 102 = .ok (.iload_n 1, 1) := by decide +kernel
theorem dM_fits_103 : decode cM_fits 103 = .ok (.invokevirtual 411, 3) := by decide +kernel
theorem mm_M_coverOf : MMc yM_coverOf cM_coverOf 6 (some .int) 1 := ⟨hz_in 1969 (by decide +kernel) (by decide +kernel), hz_in 147 (by decide +kernel) (by decide +kernel), by decide +kernel, by decide⟩
theorem mv_M_coverOf : MMv yM_coverOf 12 := ⟨hz_in 1968 (by decide +kernel) (by decide +kernel), hz_in 117 (by decide +kernel) (by decide +kernel), _, _, rfl, by decide⟩
theorem ml_M_411 : Cond.methodLink "LastWordHillModel" 411 yM_coverOf ∈ hz_wt := hz_in 1966 (by decide +kernel) (by decide +kernel)
theorem dM_fits_106 : decode cM_fits 106 = .ok (.ireturn, 1) := by decide +kernel
theorem dM_fits_97 : decode cM_fits 97 = .ok (.iload_n 3, 1) := by decide +kernel
theorem dM_fits_98 : decode cM_fits 98 = .ok (.goto 8, 3) := by decide +kernel
theorem dM_fits_88 : decode cM_fits 88 = .ok (.iconst (-1), 1) := by decide +kernel
theorem dM_fits_89 : decode cM_fits 89 = .ok (.goto 17, 3) := by decide +kernel
theorem dM_fits_60 : decode cM_fits 60 = .ok (.aload_n 0, 1) := by decide +kernel
theorem dM_fits_61 : decode cM_fits 61 = .ok (.iload_n 1, 1) := by decide +kernel
theorem dM_fits_62 : decode cM_fits 62 = .ok (.invokevirtual 405, 3) := by decide +kernel
theorem mm_M_bestFor : MMc yM_bestFor cM_bestFor 4 (some .int) 1 := ⟨hz_in 1956 (by decide +kernel) (by decide +kernel), hz_in 147 (by decide +kernel) (by decide +kernel), by decide +kernel, by decide⟩
theorem mv_M_bestFor : MMv yM_bestFor 12 := ⟨hz_in 1955 (by decide +kernel) (by decide +kernel), hz_in 114 (by decide +kernel) (by decide +kernel), _, _, rfl, by decide⟩
theorem ml_M_405 : Cond.methodLink "LastWordHillModel" 405 yM_bestFor ∈ hz_wt := hz_in 1953 (by decide +kernel) (by decide +kernel)
theorem dM_fits_65 : decode cM_fits 65 = .ok (.ireturn, 1) := by decide +kernel
theorem dM_fits_9 : decode cM_fits 9 = .ok (.aload_n 0, 1) := by decide +kernel
theorem dM_fits_10 : decode cM_fits 10 = .ok (.iload_n 1, 1) := by decide +kernel
theorem dM_fits_11 : decode cM_fits 11 = .ok (.iconst 0, 1) := by decide +kernel
theorem dM_fits_12 : decode cM_fits 12 = .ok (.bipush 19, 2) := by decide +kernel
theorem dM_fits_14 : decode cM_fits 14 = .ok (.invokevirtual 153, 3) := by decide +kernel
theorem dM_fits_17 : decode cM_fits 17 = .ok (.ifCond .eq 12, 3) := by decide +kernel
theorem dM_fits_29 : decode cM_fits 29 = .ok (.iconst (-1), 1) := by decide +kernel
theorem dM_fits_30 : decode cM_fits 30 = .ok (.ireturn, 1) := by decide +kernel
theorem dM_fits_20 : decode cM_fits 20 = .ok (.aload_n 0, 1) := by decide +kernel
theorem dM_fits_21 : decode cM_fits 21 = .ok (.getfield 71, 3) := by decide +kernel
theorem dM_fits_24 : decode cM_fits 24 = .ok (.iload_n 1, 1) := by decide +kernel
theorem dM_fits_25 : decode cM_fits 25 = .ok (.iaload, 1) := by decide +kernel
theorem dM_fits_26 : decode cM_fits 26 = .ok (.goto 4, 3) := by decide +kernel
def fM_fits (v1 : Int32) (v2 : Int32) (s0 : Sg) : Option (Int32 × Sg) := bnd (pt s0 102 0 0) fun s1 => if v2 = 0 then (bi (fM_isIn v1 0 19 s1) fun r13 s12 => if r13 = 0 then (some ((-1), s12)) else (gd v1 40 (some ((s12 122 (ix v1)), s12)))) else (bi (fM_isIn v1 0 1023 s1) fun r3 s2 => if r3 = 0 then (some ((-1), s2)) else (bi (fM_isIn v2 1 3 s2) fun r5 s4 => if r5 = 0 then (some ((-1), s4)) else (if v2 = 1 then (bi (fM_bestFor v1 s4) fun r11 s10 => some (r11, s10)) else (bv (fM_findsFewest s4) fun s6 => gd (20480 + v1) 21504 (bnd (s6 125 (ix (20480 + v1))) fun x7 => if x7 < 100000000 then (if v2 = 2 then (some (x7, s6)) else (bi (fM_coverOf v1 s6) fun r9 s8 => some (r9, s8))) else (some ((-1), s6)))))))
set_option maxHeartbeats 4000000 in
set_option maxRecDepth 100000 in
theorem okM_fits (v1 : Int32) (v2 : Int32) (s0 : Sg) : ∀ (l : Launch) (w : WC), Ok l w yM_fits cM_fits 4 (some .int) 3 evI [.ref (w.ad 102), .int v1, .int v2] s0 (fM_fits v1 v2 s0) := by
  refine ok_in (ev := fun _ => evI) (av := fun w => [.ref (w.ad 102), .int v1, .int v2]) "LastWordHillModel" rfl (by decide +kernel) (fun _ => rfl) (fun _ => Nat.le_of_ble_eq_true rfl) ?_
  intro C X E
  show GF C evI 0 [some (.ref (C.w.ad 102)), some (.int v1), some (.int v2), none] [] s0 (fM_fits v1 v2 s0)
  unfold fM_fits
  refine g_aload_n X dM_fits_0 rfl ?_
  refine g_iconst X 0 dM_fits_1 (by decide) ?_
  refine g_putI X fl_M_134 fb_12_0 fp_12_0 k_102 dM_fits_2 (fun s1 => ?_)
  refine g_iload_n X dM_fits_5 rfl ?_
  refine g_zne X (tgt := 31) dM_fits_6 (by decide) ?_ ?_
  · refine g_aload_n X dM_fits_9 rfl ?_
    refine g_iload_n X dM_fits_10 rfl ?_
    refine g_iconst X 0 dM_fits_11 (by decide) ?_
    refine g_bipush X 19 dM_fits_12 (by decide) ?_
    refine g_virtI X [.int v1, .int 0, .int 19] [] k_102 mm_M_isIn mv_M_isIn ml_M_153 (okM_isIn v1 0 19 s1 C.l C.w) rfl (by decide) rfl (Nat.le_of_ble_eq_true rfl) dM_fits_14 (fun r13 s12 => ?_)
    refine g_zeq X (tgt := 29) dM_fits_17 (by decide) ?_ ?_
    · refine g_iconst X (-1) dM_fits_29 (by decide) ?_
      exact g_iret X E dM_fits_30
    · refine g_aload_n X dM_fits_20 rfl ?_
      refine g_getN X fl_M_71 fb_12_39 k_102 r_102_39 dM_fits_21 ?_
      refine g_iload_n X dM_fits_24 rfl ?_
      refine g_iald X k_122 ln_122 dM_fits_25 ?_
      refine g_goto X 30 dM_fits_26 (by decide) ?_
      exact g_iret X E dM_fits_30
  · refine g_aload_n X dM_fits_31 rfl ?_
    refine g_iload_n X dM_fits_32 rfl ?_
    refine g_iconst X 0 dM_fits_33 (by decide) ?_
    refine g_sipush X 1023 dM_fits_34 (by decide) ?_
    refine g_virtI X [.int v1, .int 0, .int 1023] [] k_102 mm_M_isIn mv_M_isIn ml_M_153 (okM_isIn v1 0 1023 s1 C.l C.w) rfl (by decide) rfl (Nat.le_of_ble_eq_true rfl) dM_fits_37 (fun r3 s2 => ?_)
    refine g_zeq X (tgt := 53) dM_fits_40 (by decide) ?_ ?_
    · refine g_iconst X (-1) dM_fits_53 (by decide) ?_
      exact g_iret X E dM_fits_54
    · refine g_aload_n X dM_fits_43 rfl ?_
      refine g_iload_n X dM_fits_44 rfl ?_
      refine g_iconst X 1 dM_fits_45 (by decide) ?_
      refine g_iconst X 3 dM_fits_46 (by decide) ?_
      refine g_virtI X [.int v2, .int 1, .int 3] [] k_102 mm_M_isIn mv_M_isIn ml_M_153 (okM_isIn v2 1 3 s2 C.l C.w) rfl (by decide) rfl (Nat.le_of_ble_eq_true rfl) dM_fits_47 (fun r5 s4 => ?_)
      refine g_zne X (tgt := 55) dM_fits_50 (by decide) ?_ ?_
      · refine g_iconst X (-1) dM_fits_53 (by decide) ?_
        exact g_iret X E dM_fits_54
      · refine g_iload_n X dM_fits_55 rfl ?_
        refine g_iconst X 1 dM_fits_56 (by decide) ?_
        refine g_cne X (tgt := 66) dM_fits_57 (by decide) ?_ ?_
        · refine g_aload_n X dM_fits_60 rfl ?_
          refine g_iload_n X dM_fits_61 rfl ?_
          refine g_virtI X [.int v1] [] k_102 mm_M_bestFor mv_M_bestFor ml_M_405 (okM_bestFor v1 s4 C.l C.w) rfl (by decide) rfl (Nat.le_of_ble_eq_true rfl) dM_fits_62 (fun r11 s10 => ?_)
          exact g_iret X E dM_fits_65
        · refine g_aload_n X dM_fits_66 rfl ?_
          refine g_virtV X [] [] k_102 mm_M_findsFewest mv_M_findsFewest ml_M_408 (okM_findsFewest s4 C.l C.w) rfl (by decide) rfl (Nat.le_of_ble_eq_true rfl) dM_fits_67 (fun s6 => ?_)
          refine g_aload_n X dM_fits_70 rfl ?_
          refine g_getN X fl_M_80 fb_12_42 k_102 r_102_42 dM_fits_71 ?_
          refine g_sipush X 20480 dM_fits_74 (by decide) ?_
          refine g_iload_n X dM_fits_77 rfl ?_
          refine g_iadd X dM_fits_78 ?_
          refine g_iald X k_125 ln_125 dM_fits_79 ?_
          refine gf_nm (fun x7 => ?_)
          refine g_istore_n X [some (.ref (C.w.ad 102)), some (.int v1), some (.int v2), some (.int x7)] dM_fits_80 (by decide) (Nat.le_of_ble_eq_true rfl) rfl ?_
          refine g_iload_n X dM_fits_81 rfl ?_
          refine g_ldcw X kc_M_404 dM_fits_82 ?_
          refine g_clt X (tgt := 92) dM_fits_85 (by decide) ?_ ?_
          · refine g_iload_n X dM_fits_92 rfl ?_
            refine g_iconst X 2 dM_fits_93 (by decide) ?_
            refine g_cne X (tgt := 101) dM_fits_94 (by decide) ?_ ?_
            · refine g_iload_n X dM_fits_97 rfl ?_
              refine g_goto X 106 dM_fits_98 (by decide) ?_
              exact g_iret X E dM_fits_106
            · refine g_aload_n X dM_fits_101 rfl ?_
              refine g_iload_n X dM_fits_102 rfl ?_
              refine g_virtI X [.int v1] [] k_102 mm_M_coverOf mv_M_coverOf ml_M_411 (okM_coverOf v1 s6 C.l C.w) rfl (by decide) rfl (Nat.le_of_ble_eq_true rfl) dM_fits_103 (fun r9 s8 => ?_)
              exact g_iret X E dM_fits_106
          · refine g_iconst X (-1) dM_fits_88 (by decide) ?_
            refine g_goto X 106 dM_fits_89 (by decide) ?_
            exact g_iret X E dM_fits_106
def yM_answer : MethodName := ⟨"LastWordHillModel", "answer", "(IZ)I"⟩
abbrev cM_answer : ByteArray := prog_14_method_89_code
theorem dM_answer_0 : decode cM_answer 0 = .ok (.aload_n 0, 1) := by decide +kernel
theorem dM_answer_1 : decode cM_answer 1 = .ok (.iconst 0, 1) := by decide +kernel
theorem dM_answer_2 : decode cM_answer 2 = .ok (.putfield 134, 3) := by decide +kernel
theorem dM_answer_5 : decode cM_answer 5 = .ok (.iload_n 1, 1) := by decide +kernel
theorem dM_answer_6 : decode cM_answer 6 = .ok (.iconst (-1), 1) := by decide +kernel
theorem dM_answer_7 : decode cM_answer 7 = .ok (.if_icmp .ne 10, 3) := by decide +kernel
theorem dM_answer_17 : decode cM_answer 17 = .ok (.aload_n 0, 1) := by decide +kernel
theorem dM_answer_18 : decode cM_answer 18 = .ok (.iload_n 1, 1) := by decide +kernel
theorem dM_answer_19 : decode cM_answer 19 = .ok (.iconst 0, 1) := by decide +kernel
theorem dM_answer_20 : decode cM_answer 20 = .ok (.bipush 9, 2) := by decide +kernel
theorem dM_answer_22 : decode cM_answer 22 = .ok (.invokevirtual 153, 3) := by decide +kernel
theorem dM_answer_25 : decode cM_answer 25 = .ok (.ifCond .eq 12, 3) := by decide +kernel
theorem dM_answer_37 : decode cM_answer 37 = .ok (.iconst (-1), 1) := by decide +kernel
theorem dM_answer_38 : decode cM_answer 38 = .ok (.ireturn, 1) := by decide +kernel
theorem dM_answer_28 : decode cM_answer 28 = .ok (.aload_n 0, 1) := by decide +kernel
theorem dM_answer_29 : decode cM_answer 29 = .ok (.getfield 414, 3) := by decide +kernel
theorem fl_M_414 : FLk "LastWordHillModel" 414 12 43 := ⟨_, _, _, rfl, by decide, hz_in 1455 (by decide +kernel) (by decide +kernel), nL12, by decide, by decide⟩
theorem fb_12_43 : (hz_bs 12)[43]? = some false := by decide
theorem dM_answer_32 : decode cM_answer 32 = .ok (.bipush 10, 2) := by decide +kernel
theorem dM_answer_34 : decode cM_answer 34 = .ok (.if_icmp .ne 5, 3) := by decide +kernel
theorem dM_answer_39 : decode cM_answer 39 = .ok (.aload_n 0, 1) := by decide +kernel
theorem dM_answer_40 : decode cM_answer 40 = .ok (.getfield 83, 3) := by decide +kernel
theorem fl_M_83 : FLk "LastWordHillModel" 83 12 44 := ⟨_, _, _, rfl, by decide, hz_in 1456 (by decide +kernel) (by decide +kernel), nL12, by decide, by decide⟩
theorem k_126 : hz_kd 126 = 13 := by decide
theorem fb_12_44 : (hz_bs 12)[44]? = some true := by decide
theorem r_102_44 : hz_rf 102 44 = 126 := by decide
theorem dM_answer_43 : decode cM_answer 43 = .ok (.aload_n 0, 1) := by decide +kernel
theorem dM_answer_44 : decode cM_answer 44 = .ok (.getfield 414, 3) := by decide +kernel
theorem dM_answer_47 : decode cM_answer 47 = .ok (.iload_n 1, 1) := by decide +kernel
theorem dM_answer_48 : decode cM_answer 48 = .ok (.iastore, 1) := by decide +kernel
theorem ln_126 : hz_ln 126 = 10 := by decide
theorem dM_answer_49 : decode cM_answer 49 = .ok (.aload_n 0, 1) := by decide +kernel
theorem dM_answer_50 : decode cM_answer 50 = .ok (.getfield 86, 3) := by decide +kernel
theorem fl_M_86 : FLk "LastWordHillModel" 86 12 45 := ⟨_, _, _, rfl, by decide, hz_in 1457 (by decide +kernel) (by decide +kernel), nL12, by decide, by decide⟩
theorem k_127 : hz_kd 127 = 13 := by decide
theorem fb_12_45 : (hz_bs 12)[45]? = some true := by decide
theorem r_102_45 : hz_rf 102 45 = 127 := by decide
theorem dM_answer_53 : decode cM_answer 53 = .ok (.aload_n 0, 1) := by decide +kernel
theorem dM_answer_54 : decode cM_answer 54 = .ok (.getfield 414, 3) := by decide +kernel
theorem dM_answer_57 : decode cM_answer 57 = .ok (.iload_n 2, 1) := by decide +kernel
theorem dM_answer_58 : decode cM_answer 58 = .ok (.ifCond .eq 7, 3) := by decide +kernel
theorem dM_answer_66 : decode cM_answer 66 = .ok (.iastore, 1) := by decide +kernel
theorem ln_127 : hz_ln 127 = 10 := by decide
theorem dM_answer_67 : decode cM_answer 67 = .ok (.aload_n 0, 1) := by decide +kernel
theorem dM_answer_68 : decode cM_answer 68 = .ok (.aload_n 0, 1) := by decide +kernel
theorem dM_answer_69 : decode cM_answer 69 = .ok (.getfield 414, 3) := by decide +kernel
theorem dM_answer_72 : decode cM_answer 72 = .ok (.iconst 1, 1) := by decide +kernel
theorem dM_answer_73 : decode cM_answer 73 = .ok (.iadd, 1) := by decide +kernel
theorem dM_answer_74 : decode cM_answer 74 = .ok (.putfield 414, 3) := by decide +kernel
theorem fp_12_43 : FLp 12 43 .int := ⟨_, _, _, _, rfl, nY12, nN12, by decide, by decide⟩
theorem dM_answer_77 : decode cM_answer 77 = .ok (.aload_n 0, 1) := by decide +kernel
theorem dM_answer_78 : decode cM_answer 78 = .ok (.getfield 414, 3) := by decide +kernel
theorem dM_answer_81 : decode cM_answer 81 = .ok (.ireturn, 1) := by decide +kernel
theorem dM_answer_65 : decode cM_answer 65 = .ok (.iconst 0, 1) := by decide +kernel
theorem dM_answer_61 : decode cM_answer 61 = .ok (.iconst 1, 1) := by decide +kernel
theorem dM_answer_62 : decode cM_answer 62 = .ok (.goto 4, 3) := by decide +kernel
theorem dM_answer_10 : decode cM_answer 10 = .ok (.aload_n 0, 1) := by decide +kernel
theorem dM_answer_11 : decode cM_answer 11 = .ok (.iconst 0, 1) := by decide +kernel
theorem dM_answer_12 : decode cM_answer 12 = .ok (.putfield 414, 3) := by decide +kernel
theorem dM_answer_15 : decode cM_answer 15 = .ok (.iconst 0, 1) := by decide +kernel
theorem dM_answer_16 : decode cM_answer 16 = .ok (.ireturn, 1) := by decide +kernel
def fM_answer (v1 : Int32) (v2 : Int32) (s0 : Sg) : Option (Int32 × Sg) := bnd (pt s0 102 0 0) fun s1 => if v1 = (-1) then (bnd (pt s1 102 43 0) fun s8 => some (0, s8)) else (bi (fM_isIn v1 0 9 s1) fun r3 s2 => if r3 = 0 then (some ((-1), s2)) else (if (s2 102 43) = 10 then (some ((-1), s2)) else (gd (s2 102 43) 10 (bnd (pt s2 126 (ix (s2 102 43)) v1) fun s4 => bnd (fun (b66_0 : Int32) (s5 : Sg) => gd (s4 102 43) 10 (bnd (pt s5 127 (ix (s4 102 43)) b66_0) fun s6 => bnd (pt s6 102 43 ((s6 102 43) + 1)) fun s7 => some ((s7 102 43), s7))) fun j66 => if v2 = 0 then (j66 0 s4) else (j66 1 s4)))))
set_option maxHeartbeats 4000000 in
set_option maxRecDepth 100000 in
theorem okM_answer (v1 : Int32) (v2 : Int32) (s0 : Sg) : ∀ (l : Launch) (w : WC), Ok l w yM_answer cM_answer 3 (some .int) 2 evI [.ref (w.ad 102), .int v1, .int v2] s0 (fM_answer v1 v2 s0) := by
  refine ok_in (ev := fun _ => evI) (av := fun w => [.ref (w.ad 102), .int v1, .int v2]) "LastWordHillModel" rfl (by decide +kernel) (fun _ => rfl) (fun _ => Nat.le_of_ble_eq_true rfl) ?_
  intro C X E
  show GF C evI 0 [some (.ref (C.w.ad 102)), some (.int v1), some (.int v2)] [] s0 (fM_answer v1 v2 s0)
  unfold fM_answer
  refine g_aload_n X dM_answer_0 rfl ?_
  refine g_iconst X 0 dM_answer_1 (by decide) ?_
  refine g_putI X fl_M_134 fb_12_0 fp_12_0 k_102 dM_answer_2 (fun s1 => ?_)
  refine g_iload_n X dM_answer_5 rfl ?_
  refine g_iconst X (-1) dM_answer_6 (by decide) ?_
  refine g_cne X (tgt := 17) dM_answer_7 (by decide) ?_ ?_
  · refine g_aload_n X dM_answer_10 rfl ?_
    refine g_iconst X 0 dM_answer_11 (by decide) ?_
    refine g_putI X fl_M_414 fb_12_43 fp_12_43 k_102 dM_answer_12 (fun s8 => ?_)
    refine g_iconst X 0 dM_answer_15 (by decide) ?_
    exact g_iret X E dM_answer_16
  · refine g_aload_n X dM_answer_17 rfl ?_
    refine g_iload_n X dM_answer_18 rfl ?_
    refine g_iconst X 0 dM_answer_19 (by decide) ?_
    refine g_bipush X 9 dM_answer_20 (by decide) ?_
    refine g_virtI X [.int v1, .int 0, .int 9] [] k_102 mm_M_isIn mv_M_isIn ml_M_153 (okM_isIn v1 0 9 s1 C.l C.w) rfl (by decide) rfl (Nat.le_of_ble_eq_true rfl) dM_answer_22 (fun r3 s2 => ?_)
    refine g_zeq X (tgt := 37) dM_answer_25 (by decide) ?_ ?_
    · refine g_iconst X (-1) dM_answer_37 (by decide) ?_
      exact g_iret X E dM_answer_38
    · refine g_aload_n X dM_answer_28 rfl ?_
      refine g_getI X fl_M_414 fb_12_43 k_102 dM_answer_29 ?_
      refine g_bipush X 10 dM_answer_32 (by decide) ?_
      refine g_cne X (tgt := 39) dM_answer_34 (by decide) ?_ ?_
      · refine g_iconst X (-1) dM_answer_37 (by decide) ?_
        exact g_iret X E dM_answer_38
      · refine g_aload_n X dM_answer_39 rfl ?_
        refine g_getN X fl_M_83 fb_12_44 k_102 r_102_44 dM_answer_40 ?_
        refine g_aload_n X dM_answer_43 rfl ?_
        refine g_getI X fl_M_414 fb_12_43 k_102 dM_answer_44 ?_
        refine g_iload_n X dM_answer_47 rfl ?_
        refine g_iast X k_126 ln_126 dM_answer_48 (fun s4 => ?_)
        refine g_aload_n X dM_answer_49 rfl ?_
        refine g_getN X fl_M_86 fb_12_45 k_102 r_102_45 dM_answer_50 ?_
        refine g_aload_n X dM_answer_53 rfl ?_
        refine g_getI X fl_M_414 fb_12_43 k_102 dM_answer_54 ?_
        refine g_iload_n X dM_answer_57 rfl ?_
        refine gf_jn (fun j66 => ∀ (b66_0 : Int32) (s5 : Sg), GF C evI 66 [some (.ref (C.w.ad 102)), none, none] [.int b66_0, .int (s4 102 43), .ref (C.w.ad 127)] s5 (j66 b66_0 s5)) ?_ ?_
        · intro b66_0 s5
          refine g_iast X k_127 ln_127 dM_answer_66 (fun s6 => ?_)
          refine g_aload_n X dM_answer_67 rfl ?_
          refine g_aload_n X dM_answer_68 rfl ?_
          refine g_getI X fl_M_414 fb_12_43 k_102 dM_answer_69 ?_
          refine g_iconst X 1 dM_answer_72 (by decide) ?_
          refine g_iadd X dM_answer_73 ?_
          refine g_putI X fl_M_414 fb_12_43 fp_12_43 k_102 dM_answer_74 (fun s7 => ?_)
          refine g_aload_n X dM_answer_77 rfl ?_
          refine g_getI X fl_M_414 fb_12_43 k_102 dM_answer_78 ?_
          exact g_iret X E dM_answer_81
        · intro j66 hj66
          refine g_zeq X (tgt := 65) dM_answer_58 (by decide) ?_ ?_
          · refine g_iconst X 0 dM_answer_65 (by decide) ?_
            exact gf_sub (hj66 0 s4) (by simp [lsub])
          · refine g_iconst X 1 dM_answer_61 (by decide) ?_
            refine g_goto X 66 dM_answer_62 (by decide) ?_
            exact gf_sub (hj66 1 s4) (by simp [lsub])
def yM_suitOf : MethodName := ⟨"LastWordHillModel", "suitOf", "(I)I"⟩
abbrev cM_suitOf : ByteArray := prog_14_method_90_code
theorem dM_suitOf_0 : decode cM_suitOf 0 = .ok (.iload_n 1, 1) := by decide +kernel
theorem dM_suitOf_1 : decode cM_suitOf 1 = .ok (.bipush 20, 2) := by decide +kernel
theorem dM_suitOf_3 : decode cM_suitOf 3 = .ok (.if_icmp .ne 7, 3) := by decide +kernel
theorem dM_suitOf_10 : decode cM_suitOf 10 = .ok (.aload_n 0, 1) := by decide +kernel
theorem dM_suitOf_11 : decode cM_suitOf 11 = .ok (.getfield 71, 3) := by decide +kernel
theorem dM_suitOf_14 : decode cM_suitOf 14 = .ok (.iload_n 1, 1) := by decide +kernel
theorem dM_suitOf_15 : decode cM_suitOf 15 = .ok (.iaload, 1) := by decide +kernel
theorem dM_suitOf_16 : decode cM_suitOf 16 = .ok (.ireturn, 1) := by decide +kernel
theorem dM_suitOf_6 : decode cM_suitOf 6 = .ok (.iconst 0, 1) := by decide +kernel
theorem dM_suitOf_7 : decode cM_suitOf 7 = .ok (.goto 9, 3) := by decide +kernel
def fM_suitOf (v1 : Int32) (s0 : Sg) : Option (Int32 × Sg) := if v1 = 20 then (some (0, s0)) else (gd v1 40 (some ((s0 122 (ix v1)), s0)))
set_option maxHeartbeats 4000000 in
set_option maxRecDepth 100000 in
theorem okM_suitOf (v1 : Int32) (s0 : Sg) : ∀ (l : Launch) (w : WC), Ok l w yM_suitOf cM_suitOf 2 (some .int) 1 evI [.ref (w.ad 102), .int v1] s0 (fM_suitOf v1 s0) := by
  refine ok_in (ev := fun _ => evI) (av := fun w => [.ref (w.ad 102), .int v1]) "LastWordHillModel" rfl (by decide +kernel) (fun _ => rfl) (fun _ => Nat.le_of_ble_eq_true rfl) ?_
  intro C X E
  show GF C evI 0 [some (.ref (C.w.ad 102)), some (.int v1)] [] s0 (fM_suitOf v1 s0)
  unfold fM_suitOf
  refine g_iload_n X dM_suitOf_0 rfl ?_
  refine g_bipush X 20 dM_suitOf_1 (by decide) ?_
  refine g_cne X (tgt := 10) dM_suitOf_3 (by decide) ?_ ?_
  · refine g_iconst X 0 dM_suitOf_6 (by decide) ?_
    refine g_goto X 16 dM_suitOf_7 (by decide) ?_
    exact g_iret X E dM_suitOf_16
  · refine g_aload_n X dM_suitOf_10 rfl ?_
    refine g_getN X fl_M_71 fb_12_39 k_102 r_102_39 dM_suitOf_11 ?_
    refine g_iload_n X dM_suitOf_14 rfl ?_
    refine g_iald X k_122 ln_122 dM_suitOf_15 ?_
    exact g_iret X E dM_suitOf_16
def yM_couldSet : MethodName := ⟨"LastWordHillModel", "couldSet", "()I"⟩
abbrev cM_couldSet : ByteArray := prog_14_method_91_code
theorem dM_couldSet_0 : decode cM_couldSet 0 = .ok (.iconst 0, 1) := by decide +kernel
theorem dM_couldSet_1 : decode cM_couldSet 1 = .ok (.istore_n 1, 1) := by decide +kernel
theorem dM_couldSet_2 : decode cM_couldSet 2 = .ok (.iconst 0, 1) := by decide +kernel
theorem dM_couldSet_3 : decode cM_couldSet 3 = .ok (.istore_n 2, 1) := by decide +kernel
theorem dM_couldSet_4 : decode cM_couldSet 4 = .ok (.iload_n 2, 1) := by decide +kernel
theorem dM_couldSet_5 : decode cM_couldSet 5 = .ok (.bipush 20, 2) := by decide +kernel
theorem dM_couldSet_7 : decode cM_couldSet 7 = .ok (.if_icmp .gt 66, 3) := by decide +kernel
theorem dM_couldSet_73 : decode cM_couldSet 73 = .ok (.iload_n 1, 1) := by decide +kernel
theorem dM_couldSet_74 : decode cM_couldSet 74 = .ok (.ireturn, 1) := by decide +kernel
theorem dM_couldSet_10 : decode cM_couldSet 10 = .ok (.iconst 1, 1) := by decide +kernel
theorem dM_couldSet_11 : decode cM_couldSet 11 = .ok (.istore_n 3, 1) := by decide +kernel
theorem dM_couldSet_12 : decode cM_couldSet 12 = .ok (.iconst 0, 1) := by decide +kernel
theorem dM_couldSet_13 : decode cM_couldSet 13 = .ok (.istore 4, 2) := by decide +kernel
theorem dM_couldSet_15 : decode cM_couldSet 15 = .ok (.iload 4, 2) := by decide +kernel
theorem dM_couldSet_17 : decode cM_couldSet 17 = .ok (.aload_n 0, 1) := by decide +kernel
theorem dM_couldSet_18 : decode cM_couldSet 18 = .ok (.getfield 414, 3) := by decide +kernel
theorem dM_couldSet_21 : decode cM_couldSet 21 = .ok (.if_icmp .ge 36, 3) := by decide +kernel
theorem dM_couldSet_57 : decode cM_couldSet 57 = .ok (.iload_n 3, 1) := by decide +kernel
theorem dM_couldSet_58 : decode cM_couldSet 58 = .ok (.ifCond .eq 9, 3) := by decide +kernel
theorem dM_couldSet_67 : decode cM_couldSet 67 = .ok (.iinc 2 1, 3) := by decide +kernel
theorem dM_couldSet_70 : decode cM_couldSet 70 = .ok (.goto (-66), 3) := by decide +kernel
theorem dM_couldSet_61 : decode cM_couldSet 61 = .ok (.iload_n 1, 1) := by decide +kernel
theorem dM_couldSet_62 : decode cM_couldSet 62 = .ok (.iconst 1, 1) := by decide +kernel
theorem dM_couldSet_63 : decode cM_couldSet 63 = .ok (.iload_n 2, 1) := by decide +kernel
theorem dM_couldSet_64 : decode cM_couldSet 64 = .ok (.ishl, 1) := by decide +kernel
theorem dM_couldSet_65 : decode cM_couldSet 65 = .ok (.ior, 1) := by decide +kernel
theorem dM_couldSet_66 : decode cM_couldSet 66 = .ok (.istore_n 1, 1) := by decide +kernel
theorem dM_couldSet_24 : decode cM_couldSet 24 = .ok (.aload_n 0, 1) := by decide +kernel
theorem dM_couldSet_25 : decode cM_couldSet 25 = .ok (.iload_n 2, 1) := by decide +kernel
theorem dM_couldSet_26 : decode cM_couldSet 26 = .ok (.invokevirtual 417, 3) := by decide +kernel
theorem mm_M_suitOf : MMc yM_suitOf cM_suitOf 2 (some .int) 1 := ⟨hz_in 1985 (by decide +kernel) (by decide +kernel), hz_in 147 (by decide +kernel) (by decide +kernel), by decide +kernel, by decide⟩
theorem mv_M_suitOf : MMv yM_suitOf 12 := ⟨hz_in 1984 (by decide +kernel) (by decide +kernel), hz_in 119 (by decide +kernel) (by decide +kernel), _, _, rfl, by decide⟩
theorem ml_M_417 : Cond.methodLink "LastWordHillModel" 417 yM_suitOf ∈ hz_wt := hz_in 1982 (by decide +kernel) (by decide +kernel)
theorem dM_couldSet_29 : decode cM_couldSet 29 = .ok (.aload_n 0, 1) := by decide +kernel
theorem dM_couldSet_30 : decode cM_couldSet 30 = .ok (.getfield 83, 3) := by decide +kernel
theorem dM_couldSet_33 : decode cM_couldSet 33 = .ok (.iload 4, 2) := by decide +kernel
theorem dM_couldSet_35 : decode cM_couldSet 35 = .ok (.iaload, 1) := by decide +kernel
theorem dM_couldSet_36 : decode cM_couldSet 36 = .ok (.ishr, 1) := by decide +kernel
theorem dM_couldSet_37 : decode cM_couldSet 37 = .ok (.iconst 1, 1) := by decide +kernel
theorem dM_couldSet_38 : decode cM_couldSet 38 = .ok (.iand, 1) := by decide +kernel
theorem dM_couldSet_39 : decode cM_couldSet 39 = .ok (.aload_n 0, 1) := by decide +kernel
theorem dM_couldSet_40 : decode cM_couldSet 40 = .ok (.getfield 86, 3) := by decide +kernel
theorem dM_couldSet_43 : decode cM_couldSet 43 = .ok (.iload 4, 2) := by decide +kernel
theorem dM_couldSet_45 : decode cM_couldSet 45 = .ok (.iaload, 1) := by decide +kernel
theorem dM_couldSet_46 : decode cM_couldSet 46 = .ok (.if_icmp .eq 5, 3) := by decide +kernel
theorem dM_couldSet_51 : decode cM_couldSet 51 = .ok (.iinc 4 1, 3) := by decide +kernel
theorem dM_couldSet_54 : decode cM_couldSet 54 = .ok (.goto (-39), 3) := by decide +kernel
theorem dM_couldSet_49 : decode cM_couldSet 49 = .ok (.iconst 0, 1) := by decide +kernel
theorem dM_couldSet_50 : decode cM_couldSet 50 = .ok (.istore_n 3, 1) := by decide +kernel
def fM_couldSet (s0 : Sg) : Option (Int32 × Sg) := lp FU (fun q4 (u4 : Int32 × Int32) (s1 : Sg) => if 20 < u4.2 then (some (u4.1, s1)) else (lp FU (fun q15 (u15 : Int32 × Int32) (s2 : Sg) => if (s2 102 43) ≤ u15.2 then (bnd (fun (a67_1 : Int32) (s3 : Sg) => q4 (a67_1, (u4.2 + 1)) s3) fun j67 => if u15.1 = 0 then (j67 u4.1 s2) else (bnd (u4.1 ||| (1 <<< (u4.2 &&& 31))) fun x4 => j67 x4 s2)) else (bi (fM_suitOf u4.2 s2) fun r6 s5 => gd u15.2 10 (gd u15.2 10 (bnd (fun (a51_3 : Int32) (s7 : Sg) => q15 (a51_3, (u15.2 + 1)) s7) fun j51 => if ((r6 >>> ((s5 126 (ix u15.2)) &&& 31)) &&& 1) = (s5 127 (ix u15.2)) then (j51 u15.1 s5) else (j51 0 s5))))) (1, 0) s1)) (0, 0) s0
set_option maxHeartbeats 4000000 in
set_option maxRecDepth 100000 in
theorem okM_couldSet (s0 : Sg) : ∀ (l : Launch) (w : WC), Ok l w yM_couldSet cM_couldSet 5 (some .int) 2 evI [.ref (w.ad 102)] s0 (fM_couldSet s0) := by
  refine ok_in (ev := fun _ => evI) (av := fun w => [.ref (w.ad 102)]) "LastWordHillModel" rfl (by decide +kernel) (fun _ => rfl) (fun _ => Nat.le_of_ble_eq_true rfl) ?_
  intro C X E
  show GF C evI 0 [some (.ref (C.w.ad 102)), none, none, none, none] [] s0 (fM_couldSet s0)
  unfold fM_couldSet
  refine g_iconst X 0 dM_couldSet_0 (by decide) ?_
  refine g_istore_n X [some (.ref (C.w.ad 102)), some (.int 0), none, none, none] dM_couldSet_1 (by decide) (Nat.le_of_ble_eq_true rfl) rfl ?_
  refine g_iconst X 0 dM_couldSet_2 (by decide) ?_
  refine g_istore_n X [some (.ref (C.w.ad 102)), some (.int 0), some (.int 0), none, none] dM_couldSet_3 (by decide) (Nat.le_of_ble_eq_true rfl) rfl ?_
  refine gf_sub (L' := [some (.ref (C.w.ad 102)), some (.int 0), some (.int 0), none, none]) ?_ (by simp [lsub])
  refine gf_lp (Lf := fun (u4 : Int32 × Int32) => [some (.ref (C.w.ad 102)), some (.int u4.1), some (.int u4.2), none, none]) (fun q4 hq4 u4 s1 => ?_) FU (0, 0) s0
  refine g_iload_n X dM_couldSet_4 rfl ?_
  refine g_bipush X 20 dM_couldSet_5 (by decide) ?_
  refine g_cgt X (tgt := 73) dM_couldSet_7 (by decide) ?_ ?_
  · refine g_iload_n X dM_couldSet_73 rfl ?_
    exact g_iret X E dM_couldSet_74
  · refine g_iconst X 1 dM_couldSet_10 (by decide) ?_
    refine g_istore_n X [some (.ref (C.w.ad 102)), some (.int u4.1), some (.int u4.2), some (.int 1), none] dM_couldSet_11 (by decide) (Nat.le_of_ble_eq_true rfl) rfl ?_
    refine g_iconst X 0 dM_couldSet_12 (by decide) ?_
    refine g_istore X [some (.ref (C.w.ad 102)), some (.int u4.1), some (.int u4.2), some (.int 1), some (.int 0)] dM_couldSet_13 (by decide) (Nat.le_of_ble_eq_true rfl) rfl ?_
    refine gf_sub (L' := [some (.ref (C.w.ad 102)), some (.int u4.1), some (.int u4.2), some (.int 1), some (.int 0)]) ?_ (by simp [lsub])
    refine gf_lp (Lf := fun (u15 : Int32 × Int32) => [some (.ref (C.w.ad 102)), some (.int u4.1), some (.int u4.2), some (.int u15.1), some (.int u15.2)]) (fun q15 hq15 u15 s2 => ?_) FU (1, 0) s1
    refine g_iload X dM_couldSet_15 rfl ?_
    refine g_aload_n X dM_couldSet_17 rfl ?_
    refine g_getI X fl_M_414 fb_12_43 k_102 dM_couldSet_18 ?_
    refine g_cge X (tgt := 57) dM_couldSet_21 (by decide) ?_ ?_
    · refine g_iload_n X dM_couldSet_57 rfl ?_
      refine gf_jn (fun j67 => ∀ (a67_1 : Int32) (s3 : Sg), GF C evI 67 [some (.ref (C.w.ad 102)), some (.int a67_1), some (.int u4.2), none, none] [] s3 (j67 a67_1 s3)) ?_ ?_
      · intro a67_1 s3
        refine g_iinc X (u4.2 + 1) [some (.ref (C.w.ad 102)), some (.int a67_1), some (.int (u4.2 + 1)), none, none] dM_couldSet_67 rfl rfl (by decide) rfl ?_
        refine g_goto X 4 dM_couldSet_70 (by decide) ?_
        exact gf_sub (hq4 (a67_1, (u4.2 + 1)) s3) (by simp [lsub])
      · intro j67 hj67
        refine g_zeq X (tgt := 67) dM_couldSet_58 (by decide) ?_ ?_
        · exact gf_sub (hj67 u4.1 s2) (by simp [lsub])
        · refine g_iload_n X dM_couldSet_61 rfl ?_
          refine g_iconst X 1 dM_couldSet_62 (by decide) ?_
          refine g_iload_n X dM_couldSet_63 rfl ?_
          refine g_ishl X dM_couldSet_64 ?_
          refine g_ior X dM_couldSet_65 ?_
          refine gf_nm (fun x4 => ?_)
          refine g_istore_n X [some (.ref (C.w.ad 102)), some (.int x4), some (.int u4.2), some (.int u15.1), some (.int u15.2)] dM_couldSet_66 (by decide) (Nat.le_of_ble_eq_true rfl) rfl ?_
          exact gf_sub (hj67 x4 s2) (by simp [lsub])
    · refine g_aload_n X dM_couldSet_24 rfl ?_
      refine g_iload_n X dM_couldSet_25 rfl ?_
      refine g_virtI X [.int u4.2] [] k_102 mm_M_suitOf mv_M_suitOf ml_M_417 (okM_suitOf u4.2 s2 C.l C.w) rfl (by decide) rfl (Nat.le_of_ble_eq_true rfl) dM_couldSet_26 (fun r6 s5 => ?_)
      refine g_aload_n X dM_couldSet_29 rfl ?_
      refine g_getN X fl_M_83 fb_12_44 k_102 r_102_44 dM_couldSet_30 ?_
      refine g_iload X dM_couldSet_33 rfl ?_
      refine g_iald X k_126 ln_126 dM_couldSet_35 ?_
      refine g_ishr X dM_couldSet_36 ?_
      refine g_iconst X 1 dM_couldSet_37 (by decide) ?_
      refine g_iand X dM_couldSet_38 ?_
      refine g_aload_n X dM_couldSet_39 rfl ?_
      refine g_getN X fl_M_86 fb_12_45 k_102 r_102_45 dM_couldSet_40 ?_
      refine g_iload X dM_couldSet_43 rfl ?_
      refine g_iald X k_127 ln_127 dM_couldSet_45 ?_
      refine gf_jn (fun j51 => ∀ (a51_3 : Int32) (s7 : Sg), GF C evI 51 [some (.ref (C.w.ad 102)), some (.int u4.1), some (.int u4.2), some (.int a51_3), some (.int u15.2)] [] s7 (j51 a51_3 s7)) ?_ ?_
      · intro a51_3 s7
        refine g_iinc X (u15.2 + 1) [some (.ref (C.w.ad 102)), some (.int u4.1), some (.int u4.2), some (.int a51_3), some (.int (u15.2 + 1))] dM_couldSet_51 rfl rfl (by decide) rfl ?_
        refine g_goto X 15 dM_couldSet_54 (by decide) ?_
        exact gf_sub (hq15 (a51_3, (u15.2 + 1)) s7) (by simp [lsub])
      · intro j51 hj51
        refine g_ceq X (tgt := 51) dM_couldSet_46 (by decide) ?_ ?_
        · exact gf_sub (hj51 u15.1 s5) (by simp [lsub])
        · refine g_iconst X 0 dM_couldSet_49 (by decide) ?_
          refine g_istore_n X [some (.ref (C.w.ad 102)), some (.int u4.1), some (.int u4.2), some (.int 0), some (.int u15.2)] dM_couldSet_50 (by decide) (Nat.le_of_ble_eq_true rfl) rfl ?_
          exact gf_sub (hj51 0 s5) (by simp [lsub])
def yM_could : MethodName := ⟨"LastWordHillModel", "could", "(I)I"⟩
abbrev cM_could : ByteArray := prog_14_method_92_code
theorem dM_could_0 : decode cM_could 0 = .ok (.aload_n 0, 1) := by decide +kernel
theorem dM_could_1 : decode cM_could 1 = .ok (.iconst 0, 1) := by decide +kernel
theorem dM_could_2 : decode cM_could 2 = .ok (.putfield 134, 3) := by decide +kernel
theorem dM_could_5 : decode cM_could 5 = .ok (.aload_n 0, 1) := by decide +kernel
theorem dM_could_6 : decode cM_could 6 = .ok (.iload_n 1, 1) := by decide +kernel
theorem dM_could_7 : decode cM_could 7 = .ok (.iconst 0, 1) := by decide +kernel
theorem dM_could_8 : decode cM_could 8 = .ok (.iconst 1, 1) := by decide +kernel
theorem dM_could_9 : decode cM_could 9 = .ok (.invokevirtual 153, 3) := by decide +kernel
theorem dM_could_12 : decode cM_could 12 = .ok (.ifCond .ne 5, 3) := by decide +kernel
theorem dM_could_17 : decode cM_could 17 = .ok (.aload_n 0, 1) := by decide +kernel
theorem dM_could_18 : decode cM_could 18 = .ok (.invokevirtual 420, 3) := by decide +kernel
theorem mm_M_couldSet : MMc yM_couldSet cM_couldSet 5 (some .int) 0 := ⟨hz_in 1981 (by decide +kernel) (by decide +kernel), hz_in 147 (by decide +kernel) (by decide +kernel), by decide +kernel, by decide⟩
theorem mv_M_couldSet : MMv yM_couldSet 12 := ⟨hz_in 1980 (by decide +kernel) (by decide +kernel), hz_in 118 (by decide +kernel) (by decide +kernel), _, _, rfl, by decide⟩
theorem ml_M_420 : Cond.methodLink "LastWordHillModel" 420 yM_couldSet ∈ hz_wt := hz_in 1978 (by decide +kernel) (by decide +kernel)
theorem dM_could_21 : decode cM_could 21 = .ok (.istore_n 2, 1) := by decide +kernel
theorem dM_could_22 : decode cM_could 22 = .ok (.iload_n 1, 1) := by decide +kernel
theorem dM_could_23 : decode cM_could 23 = .ok (.ifCond .ne 5, 3) := by decide +kernel
theorem dM_could_28 : decode cM_could 28 = .ok (.aload_n 0, 1) := by decide +kernel
theorem dM_could_29 : decode cM_could 29 = .ok (.iload_n 2, 1) := by decide +kernel
theorem dM_could_30 : decode cM_could 30 = .ok (.invokevirtual 401, 3) := by decide +kernel
theorem dM_could_33 : decode cM_could 33 = .ok (.istore_n 3, 1) := by decide +kernel
theorem dM_could_34 : decode cM_could 34 = .ok (.iload_n 3, 1) := by decide +kernel
theorem dM_could_35 : decode cM_could 35 = .ok (.iconst 2, 1) := by decide +kernel
theorem dM_could_36 : decode cM_could 36 = .ok (.if_icmp .ge 5, 3) := by decide +kernel
theorem dM_could_41 : decode cM_could 41 = .ok (.iconst (-1), 1) := by decide +kernel
theorem dM_could_42 : decode cM_could 42 = .ok (.istore 4, 2) := by decide +kernel
theorem dM_could_44 : decode cM_could 44 = .ok (.ldc_w 404, 3) := by decide +kernel
theorem dM_could_47 : decode cM_could 47 = .ok (.istore 5, 2) := by decide +kernel
theorem dM_could_49 : decode cM_could 49 = .ok (.iconst 0, 1) := by decide +kernel
theorem dM_could_50 : decode cM_could 50 = .ok (.istore 6, 2) := by decide +kernel
theorem dM_could_52 : decode cM_could 52 = .ok (.iload 6, 2) := by decide +kernel
theorem dM_could_54 : decode cM_could 54 = .ok (.bipush 10, 2) := by decide +kernel
theorem dM_could_56 : decode cM_could 56 = .ok (.if_icmp .ge 98, 3) := by decide +kernel
theorem dM_could_154 : decode cM_could 154 = .ok (.iload 4, 2) := by decide +kernel
theorem dM_could_156 : decode cM_could 156 = .ok (.ireturn, 1) := by decide +kernel
theorem dM_could_59 : decode cM_could 59 = .ok (.iconst 0, 1) := by decide +kernel
theorem dM_could_60 : decode cM_could 60 = .ok (.istore 7, 2) := by decide +kernel
theorem dM_could_62 : decode cM_could 62 = .ok (.iconst 0, 1) := by decide +kernel
theorem dM_could_63 : decode cM_could 63 = .ok (.istore 8, 2) := by decide +kernel
theorem dM_could_65 : decode cM_could 65 = .ok (.iload 8, 2) := by decide +kernel
theorem dM_could_67 : decode cM_could 67 = .ok (.bipush 20, 2) := by decide +kernel
theorem dM_could_69 : decode cM_could 69 = .ok (.if_icmp .ge 41, 3) := by decide +kernel
theorem dM_could_110 : decode cM_could 110 = .ok (.aload_n 0, 1) := by decide +kernel
theorem dM_could_111 : decode cM_could 111 = .ok (.iload 7, 2) := by decide +kernel
theorem dM_could_113 : decode cM_could 113 = .ok (.iload_n 3, 1) := by decide +kernel
theorem dM_could_114 : decode cM_could 114 = .ok (.iload 7, 2) := by decide +kernel
theorem dM_could_116 : decode cM_could 116 = .ok (.isub, 1) := by decide +kernel
theorem dM_could_117 : decode cM_could 117 = .ok (.invokevirtual 326, 3) := by decide +kernel
theorem dM_could_120 : decode cM_could 120 = .ok (.istore 8, 2) := by decide +kernel
theorem dM_could_122 : decode cM_could 122 = .ok (.iload 8, 2) := by decide +kernel
theorem dM_could_124 : decode cM_could 124 = .ok (.iload 5, 2) := by decide +kernel
theorem dM_could_126 : decode cM_could 126 = .ok (.if_icmp .ge 8, 3) := by decide +kernel
theorem dM_could_136 : decode cM_could 136 = .ok (.istore 4, 2) := by decide +kernel
theorem dM_could_138 : decode cM_could 138 = .ok (.aload_n 0, 1) := by decide +kernel
theorem dM_could_139 : decode cM_could 139 = .ok (.iload 5, 2) := by decide +kernel
theorem dM_could_141 : decode cM_could 141 = .ok (.iload 8, 2) := by decide +kernel
theorem dM_could_143 : decode cM_could 143 = .ok (.invokevirtual 371, 3) := by decide +kernel
theorem dM_could_146 : decode cM_could 146 = .ok (.istore 5, 2) := by decide +kernel
theorem dM_could_148 : decode cM_could 148 = .ok (.iinc 6 1, 3) := by decide +kernel
theorem dM_could_151 : decode cM_could 151 = .ok (.goto (-99), 3) := by decide +kernel
theorem dM_could_134 : decode cM_could 134 = .ok (.iload 4, 2) := by decide +kernel
theorem dM_could_129 : decode cM_could 129 = .ok (.iload 6, 2) := by decide +kernel
theorem dM_could_131 : decode cM_could 131 = .ok (.goto 5, 3) := by decide +kernel
theorem dM_could_72 : decode cM_could 72 = .ok (.aload_n 0, 1) := by decide +kernel
theorem dM_could_73 : decode cM_could 73 = .ok (.iload_n 2, 1) := by decide +kernel
theorem dM_could_74 : decode cM_could 74 = .ok (.iload 8, 2) := by decide +kernel
theorem dM_could_76 : decode cM_could 76 = .ok (.invokevirtual 361, 3) := by decide +kernel
theorem dM_could_79 : decode cM_could 79 = .ok (.ifCond .eq 25, 3) := by decide +kernel
theorem dM_could_104 : decode cM_could 104 = .ok (.iinc 8 1, 3) := by decide +kernel
theorem dM_could_107 : decode cM_could 107 = .ok (.goto (-42), 3) := by decide +kernel
theorem dM_could_82 : decode cM_could 82 = .ok (.aload_n 0, 1) := by decide +kernel
theorem dM_could_83 : decode cM_could 83 = .ok (.aload_n 0, 1) := by decide +kernel
theorem dM_could_84 : decode cM_could 84 = .ok (.getfield 71, 3) := by decide +kernel
theorem dM_could_87 : decode cM_could 87 = .ok (.iload 8, 2) := by decide +kernel
theorem dM_could_89 : decode cM_could 89 = .ok (.iaload, 1) := by decide +kernel
theorem dM_could_90 : decode cM_could 90 = .ok (.iload 6, 2) := by decide +kernel
theorem dM_could_92 : decode cM_could 92 = .ok (.invokevirtual 361, 3) := by decide +kernel
theorem dM_could_95 : decode cM_could 95 = .ok (.ifCond .eq 9, 3) := by decide +kernel
theorem dM_could_98 : decode cM_could 98 = .ok (.iload 7, 2) := by decide +kernel
theorem dM_could_100 : decode cM_could 100 = .ok (.iconst 1, 1) := by decide +kernel
theorem dM_could_101 : decode cM_could 101 = .ok (.iadd, 1) := by decide +kernel
theorem dM_could_102 : decode cM_could 102 = .ok (.istore 7, 2) := by decide +kernel
theorem dM_could_39 : decode cM_could 39 = .ok (.iconst (-1), 1) := by decide +kernel
theorem dM_could_40 : decode cM_could 40 = .ok (.ireturn, 1) := by decide +kernel
theorem dM_could_26 : decode cM_could 26 = .ok (.iload_n 2, 1) := by decide +kernel
theorem dM_could_27 : decode cM_could 27 = .ok (.ireturn, 1) := by decide +kernel
theorem dM_could_15 : decode cM_could 15 = .ok (.iconst (-1), 1) := by decide +kernel
theorem dM_could_16 : decode cM_could 16 = .ok (.ireturn, 1) := by decide +kernel
def fM_could (v1 : Int32) (s0 : Sg) : Option (Int32 × Sg) := bnd (pt s0 102 0 0) fun s1 => bi (fM_isIn v1 0 1 s1) fun r3 s2 => if r3 = 0 then (some ((-1), s2)) else (bi (fM_couldSet s2) fun r5 s4 => if v1 = 0 then (some (r5, s4)) else (bi (fM_onesOf r5 s4) fun r7 s6 => if 2 ≤ r7 then (lp FU (fun q52 (u52 : Int32 × Int32 × Int32) (s8 : Sg) => if 10 ≤ u52.2.2 then (some (u52.1, s8)) else (lp FU (fun q65 (u65 : Int32 × Int32) (s9 : Sg) => if 20 ≤ u65.2 then (bi (fM_greater u65.1 (r7 - u65.1) s9) fun r11 s10 => bnd (fun (b136_0 : Int32) (s12 : Sg) => bi (fM_lesser u52.2.1 r11 s12) fun r14 s13 => q52 (b136_0, r14, (u52.2.2 + 1)) s13) fun j136 => if u52.2.1 ≤ r11 then (j136 u52.1 s10) else (j136 u52.2.2 s10)) else (bi (fM_has r5 u65.2 s9) fun r16 s15 => bnd (fun (a104_7 : Int32) (s17 : Sg) => q65 (a104_7, (u65.2 + 1)) s17) fun j104 => if r16 = 0 then (j104 u65.1 s15) else (gd u65.2 40 (bi (fM_has (s15 122 (ix u65.2)) u52.2.2 s15) fun r19 s18 => if r19 = 0 then (j104 u65.1 s18) else (j104 (u65.1 + 1) s18))))) (0, 0) s8)) ((-1), 100000000, 0) s6) else (some ((-1), s6))))
set_option maxHeartbeats 4000000 in
set_option maxRecDepth 100000 in
theorem okM_could (v1 : Int32) (s0 : Sg) : ∀ (l : Launch) (w : WC), Ok l w yM_could cM_could 9 (some .int) 3 evI [.ref (w.ad 102), .int v1] s0 (fM_could v1 s0) := by
  refine ok_in (ev := fun _ => evI) (av := fun w => [.ref (w.ad 102), .int v1]) "LastWordHillModel" rfl (by decide +kernel) (fun _ => rfl) (fun _ => Nat.le_of_ble_eq_true rfl) ?_
  intro C X E
  show GF C evI 0 [some (.ref (C.w.ad 102)), some (.int v1), none, none, none, none, none, none, none] [] s0 (fM_could v1 s0)
  unfold fM_could
  refine g_aload_n X dM_could_0 rfl ?_
  refine g_iconst X 0 dM_could_1 (by decide) ?_
  refine g_putI X fl_M_134 fb_12_0 fp_12_0 k_102 dM_could_2 (fun s1 => ?_)
  refine g_aload_n X dM_could_5 rfl ?_
  refine g_iload_n X dM_could_6 rfl ?_
  refine g_iconst X 0 dM_could_7 (by decide) ?_
  refine g_iconst X 1 dM_could_8 (by decide) ?_
  refine g_virtI X [.int v1, .int 0, .int 1] [] k_102 mm_M_isIn mv_M_isIn ml_M_153 (okM_isIn v1 0 1 s1 C.l C.w) rfl (by decide) rfl (Nat.le_of_ble_eq_true rfl) dM_could_9 (fun r3 s2 => ?_)
  refine g_zne X (tgt := 17) dM_could_12 (by decide) ?_ ?_
  · refine g_iconst X (-1) dM_could_15 (by decide) ?_
    exact g_iret X E dM_could_16
  · refine g_aload_n X dM_could_17 rfl ?_
    refine g_virtI X [] [] k_102 mm_M_couldSet mv_M_couldSet ml_M_420 (okM_couldSet s2 C.l C.w) rfl (by decide) rfl (Nat.le_of_ble_eq_true rfl) dM_could_18 (fun r5 s4 => ?_)
    refine g_istore_n X [some (.ref (C.w.ad 102)), some (.int v1), some (.int r5), none, none, none, none, none, none] dM_could_21 (by decide) (Nat.le_of_ble_eq_true rfl) rfl ?_
    refine g_iload_n X dM_could_22 rfl ?_
    refine g_zne X (tgt := 28) dM_could_23 (by decide) ?_ ?_
    · refine g_iload_n X dM_could_26 rfl ?_
      exact g_iret X E dM_could_27
    · refine g_aload_n X dM_could_28 rfl ?_
      refine g_iload_n X dM_could_29 rfl ?_
      refine g_virtI X [.int r5] [] k_102 mm_M_onesOf mv_M_onesOf ml_M_401 (okM_onesOf r5 s4 C.l C.w) rfl (by decide) rfl (Nat.le_of_ble_eq_true rfl) dM_could_30 (fun r7 s6 => ?_)
      refine g_istore_n X [some (.ref (C.w.ad 102)), some (.int v1), some (.int r5), some (.int r7), none, none, none, none, none] dM_could_33 (by decide) (Nat.le_of_ble_eq_true rfl) rfl ?_
      refine g_iload_n X dM_could_34 rfl ?_
      refine g_iconst X 2 dM_could_35 (by decide) ?_
      refine g_cge X (tgt := 41) dM_could_36 (by decide) ?_ ?_
      · refine g_iconst X (-1) dM_could_41 (by decide) ?_
        refine g_istore X [some (.ref (C.w.ad 102)), some (.int v1), some (.int r5), some (.int r7), some (.int (-1)), none, none, none, none] dM_could_42 (by decide) (Nat.le_of_ble_eq_true rfl) rfl ?_
        refine g_ldcw X kc_M_404 dM_could_44 ?_
        refine g_istore X [some (.ref (C.w.ad 102)), some (.int v1), some (.int r5), some (.int r7), some (.int (-1)), some (.int 100000000), none, none, none] dM_could_47 (by decide) (Nat.le_of_ble_eq_true rfl) rfl ?_
        refine g_iconst X 0 dM_could_49 (by decide) ?_
        refine g_istore X [some (.ref (C.w.ad 102)), some (.int v1), some (.int r5), some (.int r7), some (.int (-1)), some (.int 100000000), some (.int 0), none, none] dM_could_50 (by decide) (Nat.le_of_ble_eq_true rfl) rfl ?_
        refine gf_sub (L' := [some (.ref (C.w.ad 102)), none, some (.int r5), some (.int r7), some (.int (-1)), some (.int 100000000), some (.int 0), none, none]) ?_ (by simp [lsub])
        refine gf_lp (Lf := fun (u52 : Int32 × Int32 × Int32) => [some (.ref (C.w.ad 102)), none, some (.int r5), some (.int r7), some (.int u52.1), some (.int u52.2.1), some (.int u52.2.2), none, none]) (fun q52 hq52 u52 s8 => ?_) FU ((-1), 100000000, 0) s6
        refine g_iload X dM_could_52 rfl ?_
        refine g_bipush X 10 dM_could_54 (by decide) ?_
        refine g_cge X (tgt := 154) dM_could_56 (by decide) ?_ ?_
        · refine g_iload X dM_could_154 rfl ?_
          exact g_iret X E dM_could_156
        · refine g_iconst X 0 dM_could_59 (by decide) ?_
          refine g_istore X [some (.ref (C.w.ad 102)), none, some (.int r5), some (.int r7), some (.int u52.1), some (.int u52.2.1), some (.int u52.2.2), some (.int 0), none] dM_could_60 (by decide) (Nat.le_of_ble_eq_true rfl) rfl ?_
          refine g_iconst X 0 dM_could_62 (by decide) ?_
          refine g_istore X [some (.ref (C.w.ad 102)), none, some (.int r5), some (.int r7), some (.int u52.1), some (.int u52.2.1), some (.int u52.2.2), some (.int 0), some (.int 0)] dM_could_63 (by decide) (Nat.le_of_ble_eq_true rfl) rfl ?_
          refine gf_sub (L' := [some (.ref (C.w.ad 102)), none, some (.int r5), some (.int r7), some (.int u52.1), some (.int u52.2.1), some (.int u52.2.2), some (.int 0), some (.int 0)]) ?_ (by simp [lsub])
          refine gf_lp (Lf := fun (u65 : Int32 × Int32) => [some (.ref (C.w.ad 102)), none, some (.int r5), some (.int r7), some (.int u52.1), some (.int u52.2.1), some (.int u52.2.2), some (.int u65.1), some (.int u65.2)]) (fun q65 hq65 u65 s9 => ?_) FU (0, 0) s8
          refine g_iload X dM_could_65 rfl ?_
          refine g_bipush X 20 dM_could_67 (by decide) ?_
          refine g_cge X (tgt := 110) dM_could_69 (by decide) ?_ ?_
          · refine g_aload_n X dM_could_110 rfl ?_
            refine g_iload X dM_could_111 rfl ?_
            refine g_iload_n X dM_could_113 rfl ?_
            refine g_iload X dM_could_114 rfl ?_
            refine g_isub X dM_could_116 ?_
            refine g_virtI X [.int u65.1, .int (r7 - u65.1)] [] k_102 mm_M_greater mv_M_greater ml_M_326 (okM_greater u65.1 (r7 - u65.1) s9 C.l C.w) rfl (by decide) rfl (Nat.le_of_ble_eq_true rfl) dM_could_117 (fun r11 s10 => ?_)
            refine g_istore X [some (.ref (C.w.ad 102)), none, some (.int r5), some (.int r7), some (.int u52.1), some (.int u52.2.1), some (.int u52.2.2), some (.int u65.1), some (.int r11)] dM_could_120 (by decide) (Nat.le_of_ble_eq_true rfl) rfl ?_
            refine g_iload X dM_could_122 rfl ?_
            refine g_iload X dM_could_124 rfl ?_
            refine gf_jn (fun j136 => ∀ (b136_0 : Int32) (s12 : Sg), GF C evI 136 [some (.ref (C.w.ad 102)), none, some (.int r5), some (.int r7), none, some (.int u52.2.1), some (.int u52.2.2), none, some (.int r11)] [.int b136_0] s12 (j136 b136_0 s12)) ?_ ?_
            · intro b136_0 s12
              refine g_istore X [some (.ref (C.w.ad 102)), none, some (.int r5), some (.int r7), some (.int b136_0), some (.int u52.2.1), some (.int u52.2.2), none, some (.int r11)] dM_could_136 (by decide) (Nat.le_of_ble_eq_true rfl) rfl ?_
              refine g_aload_n X dM_could_138 rfl ?_
              refine g_iload X dM_could_139 rfl ?_
              refine g_iload X dM_could_141 rfl ?_
              refine g_virtI X [.int u52.2.1, .int r11] [] k_102 mm_M_lesser mv_M_lesser ml_M_371 (okM_lesser u52.2.1 r11 s12 C.l C.w) rfl (by decide) rfl (Nat.le_of_ble_eq_true rfl) dM_could_143 (fun r14 s13 => ?_)
              refine g_istore X [some (.ref (C.w.ad 102)), none, some (.int r5), some (.int r7), some (.int b136_0), some (.int r14), some (.int u52.2.2), none, some (.int r11)] dM_could_146 (by decide) (Nat.le_of_ble_eq_true rfl) rfl ?_
              refine g_iinc X (u52.2.2 + 1) [some (.ref (C.w.ad 102)), none, some (.int r5), some (.int r7), some (.int b136_0), some (.int r14), some (.int (u52.2.2 + 1)), none, some (.int r11)] dM_could_148 rfl rfl (by decide) rfl ?_
              refine g_goto X 52 dM_could_151 (by decide) ?_
              exact gf_sub (hq52 (b136_0, r14, (u52.2.2 + 1)) s13) (by simp [lsub])
            · intro j136 hj136
              refine g_cge X (tgt := 134) dM_could_126 (by decide) ?_ ?_
              · refine g_iload X dM_could_134 rfl ?_
                exact gf_sub (hj136 u52.1 s10) (by simp [lsub])
              · refine g_iload X dM_could_129 rfl ?_
                refine g_goto X 136 dM_could_131 (by decide) ?_
                exact gf_sub (hj136 u52.2.2 s10) (by simp [lsub])
          · refine g_aload_n X dM_could_72 rfl ?_
            refine g_iload_n X dM_could_73 rfl ?_
            refine g_iload X dM_could_74 rfl ?_
            refine g_virtI X [.int r5, .int u65.2] [] k_102 mm_M_has mv_M_has ml_M_361 (okM_has r5 u65.2 s9 C.l C.w) rfl (by decide) rfl (Nat.le_of_ble_eq_true rfl) dM_could_76 (fun r16 s15 => ?_)
            refine gf_jn (fun j104 => ∀ (a104_7 : Int32) (s17 : Sg), GF C evI 104 [some (.ref (C.w.ad 102)), none, some (.int r5), some (.int r7), some (.int u52.1), some (.int u52.2.1), some (.int u52.2.2), some (.int a104_7), some (.int u65.2)] [] s17 (j104 a104_7 s17)) ?_ ?_
            · intro a104_7 s17
              refine g_iinc X (u65.2 + 1) [some (.ref (C.w.ad 102)), none, some (.int r5), some (.int r7), some (.int u52.1), some (.int u52.2.1), some (.int u52.2.2), some (.int a104_7), some (.int (u65.2 + 1))] dM_could_104 rfl rfl (by decide) rfl ?_
              refine g_goto X 65 dM_could_107 (by decide) ?_
              exact gf_sub (hq65 (a104_7, (u65.2 + 1)) s17) (by simp [lsub])
            · intro j104 hj104
              refine g_zeq X (tgt := 104) dM_could_79 (by decide) ?_ ?_
              · exact gf_sub (hj104 u65.1 s15) (by simp [lsub])
              · refine g_aload_n X dM_could_82 rfl ?_
                refine g_aload_n X dM_could_83 rfl ?_
                refine g_getN X fl_M_71 fb_12_39 k_102 r_102_39 dM_could_84 ?_
                refine g_iload X dM_could_87 rfl ?_
                refine g_iald X k_122 ln_122 dM_could_89 ?_
                refine g_iload X dM_could_90 rfl ?_
                refine g_virtI X [.int (s15 122 (ix u65.2)), .int u52.2.2] [] k_102 mm_M_has mv_M_has ml_M_361 (okM_has (s15 122 (ix u65.2)) u52.2.2 s15 C.l C.w) rfl (by decide) rfl (Nat.le_of_ble_eq_true rfl) dM_could_92 (fun r19 s18 => ?_)
                refine g_zeq X (tgt := 104) dM_could_95 (by decide) ?_ ?_
                · exact gf_sub (hj104 u65.1 s18) (by simp [lsub])
                · refine g_iload X dM_could_98 rfl ?_
                  refine g_iconst X 1 dM_could_100 (by decide) ?_
                  refine g_iadd X dM_could_101 ?_
                  refine g_istore X [some (.ref (C.w.ad 102)), none, some (.int r5), some (.int r7), some (.int u52.1), some (.int u52.2.1), some (.int u52.2.2), some (.int (u65.1 + 1)), some (.int u65.2)] dM_could_102 (by decide) (Nat.le_of_ble_eq_true rfl) rfl ?_
                  exact gf_sub (hj104 (u65.1 + 1) s18) (by simp [lsub])
      · refine g_iconst X (-1) dM_could_39 (by decide) ?_
        exact g_iret X E dM_could_40
def yM_watch : MethodName := ⟨"LastWordHillModel", "watch", "(II)I"⟩
abbrev cM_watch : ByteArray := prog_14_method_93_code
theorem dM_watch_0 : decode cM_watch 0 = .ok (.aload_n 0, 1) := by decide +kernel
theorem dM_watch_1 : decode cM_watch 1 = .ok (.iconst 0, 1) := by decide +kernel
theorem dM_watch_2 : decode cM_watch 2 = .ok (.putfield 134, 3) := by decide +kernel
theorem dM_watch_5 : decode cM_watch 5 = .ok (.iload_n 1, 1) := by decide +kernel
theorem dM_watch_6 : decode cM_watch 6 = .ok (.iconst (-1), 1) := by decide +kernel
theorem dM_watch_7 : decode cM_watch 7 = .ok (.if_icmp .ne 10, 3) := by decide +kernel
theorem dM_watch_17 : decode cM_watch 17 = .ok (.aload_n 0, 1) := by decide +kernel
theorem dM_watch_18 : decode cM_watch 18 = .ok (.iload_n 1, 1) := by decide +kernel
theorem dM_watch_19 : decode cM_watch 19 = .ok (.iconst 0, 1) := by decide +kernel
theorem dM_watch_20 : decode cM_watch 20 = .ok (.iload_n 2, 1) := by decide +kernel
theorem dM_watch_21 : decode cM_watch 21 = .ok (.invokevirtual 153, 3) := by decide +kernel
theorem dM_watch_24 : decode cM_watch 24 = .ok (.ifCond .eq 23, 3) := by decide +kernel
theorem dM_watch_47 : decode cM_watch 47 = .ok (.iconst (-1), 1) := by decide +kernel
theorem dM_watch_48 : decode cM_watch 48 = .ok (.ireturn, 1) := by decide +kernel
theorem dM_watch_27 : decode cM_watch 27 = .ok (.aload_n 0, 1) := by decide +kernel
theorem dM_watch_28 : decode cM_watch 28 = .ok (.iload_n 2, 1) := by decide +kernel
theorem dM_watch_29 : decode cM_watch 29 = .ok (.iconst 0, 1) := by decide +kernel
theorem dM_watch_30 : decode cM_watch 30 = .ok (.bipush 59, 2) := by decide +kernel
theorem dM_watch_32 : decode cM_watch 32 = .ok (.invokevirtual 153, 3) := by decide +kernel
theorem dM_watch_35 : decode cM_watch 35 = .ok (.ifCond .eq 12, 3) := by decide +kernel
theorem dM_watch_38 : decode cM_watch 38 = .ok (.aload_n 0, 1) := by decide +kernel
theorem dM_watch_39 : decode cM_watch 39 = .ok (.getfield 423, 3) := by decide +kernel
theorem fl_M_423 : FLk "LastWordHillModel" 423 12 46 := ⟨_, _, _, rfl, by decide, hz_in 1458 (by decide +kernel) (by decide +kernel), nL12, by decide, by decide⟩
theorem fb_12_46 : (hz_bs 12)[46]? = some false := by decide
theorem dM_watch_42 : decode cM_watch 42 = .ok (.bipush 9, 2) := by decide +kernel
theorem dM_watch_44 : decode cM_watch 44 = .ok (.if_icmp .ne 5, 3) := by decide +kernel
theorem dM_watch_49 : decode cM_watch 49 = .ok (.aload_n 0, 1) := by decide +kernel
theorem dM_watch_50 : decode cM_watch 50 = .ok (.getfield 89, 3) := by decide +kernel
theorem fl_M_89 : FLk "LastWordHillModel" 89 12 47 := ⟨_, _, _, rfl, by decide, hz_in 1459 (by decide +kernel) (by decide +kernel), nL12, by decide, by decide⟩
theorem k_128 : hz_kd 128 = 13 := by decide
theorem fb_12_47 : (hz_bs 12)[47]? = some true := by decide
theorem r_102_47 : hz_rf 102 47 = 128 := by decide
theorem dM_watch_53 : decode cM_watch 53 = .ok (.aload_n 0, 1) := by decide +kernel
theorem dM_watch_54 : decode cM_watch 54 = .ok (.getfield 423, 3) := by decide +kernel
theorem dM_watch_57 : decode cM_watch 57 = .ok (.iload_n 1, 1) := by decide +kernel
theorem dM_watch_58 : decode cM_watch 58 = .ok (.iastore, 1) := by decide +kernel
theorem ln_128 : hz_ln 128 = 9 := by decide
theorem dM_watch_59 : decode cM_watch 59 = .ok (.aload_n 0, 1) := by decide +kernel
theorem dM_watch_60 : decode cM_watch 60 = .ok (.getfield 92, 3) := by decide +kernel
theorem fl_M_92 : FLk "LastWordHillModel" 92 12 48 := ⟨_, _, _, rfl, by decide, hz_in 1460 (by decide +kernel) (by decide +kernel), nL12, by decide, by decide⟩
theorem k_129 : hz_kd 129 = 13 := by decide
theorem fb_12_48 : (hz_bs 12)[48]? = some true := by decide
theorem r_102_48 : hz_rf 102 48 = 129 := by decide
theorem dM_watch_63 : decode cM_watch 63 = .ok (.aload_n 0, 1) := by decide +kernel
theorem dM_watch_64 : decode cM_watch 64 = .ok (.getfield 423, 3) := by decide +kernel
theorem dM_watch_67 : decode cM_watch 67 = .ok (.iload_n 2, 1) := by decide +kernel
theorem dM_watch_68 : decode cM_watch 68 = .ok (.iastore, 1) := by decide +kernel
theorem ln_129 : hz_ln 129 = 9 := by decide
theorem dM_watch_69 : decode cM_watch 69 = .ok (.aload_n 0, 1) := by decide +kernel
theorem dM_watch_70 : decode cM_watch 70 = .ok (.aload_n 0, 1) := by decide +kernel
theorem dM_watch_71 : decode cM_watch 71 = .ok (.getfield 423, 3) := by decide +kernel
theorem dM_watch_74 : decode cM_watch 74 = .ok (.iconst 1, 1) := by decide +kernel
theorem dM_watch_75 : decode cM_watch 75 = .ok (.iadd, 1) := by decide +kernel
theorem dM_watch_76 : decode cM_watch 76 = .ok (.putfield 423, 3) := by decide +kernel
theorem fp_12_46 : FLp 12 46 .int := ⟨_, _, _, _, rfl, nY12, nN12, by decide, by decide⟩
theorem dM_watch_79 : decode cM_watch 79 = .ok (.aload_n 0, 1) := by decide +kernel
theorem dM_watch_80 : decode cM_watch 80 = .ok (.getfield 423, 3) := by decide +kernel
theorem dM_watch_83 : decode cM_watch 83 = .ok (.ireturn, 1) := by decide +kernel
theorem dM_watch_10 : decode cM_watch 10 = .ok (.aload_n 0, 1) := by decide +kernel
theorem dM_watch_11 : decode cM_watch 11 = .ok (.iconst 0, 1) := by decide +kernel
theorem dM_watch_12 : decode cM_watch 12 = .ok (.putfield 423, 3) := by decide +kernel
theorem dM_watch_15 : decode cM_watch 15 = .ok (.iconst 0, 1) := by decide +kernel
theorem dM_watch_16 : decode cM_watch 16 = .ok (.ireturn, 1) := by decide +kernel
def fM_watch (v1 : Int32) (v2 : Int32) (s0 : Sg) : Option (Int32 × Sg) := bnd (pt s0 102 0 0) fun s1 => if v1 = (-1) then (bnd (pt s1 102 46 0) fun s9 => some (0, s9)) else (bi (fM_isIn v1 0 v2 s1) fun r3 s2 => if r3 = 0 then (some ((-1), s2)) else (bi (fM_isIn v2 0 59 s2) fun r5 s4 => if r5 = 0 then (some ((-1), s4)) else (if (s4 102 46) = 9 then (some ((-1), s4)) else (gd (s4 102 46) 9 (bnd (pt s4 128 (ix (s4 102 46)) v1) fun s6 => gd (s6 102 46) 9 (bnd (pt s6 129 (ix (s6 102 46)) v2) fun s7 => bnd (pt s7 102 46 ((s7 102 46) + 1)) fun s8 => some ((s8 102 46), s8)))))))
set_option maxHeartbeats 4000000 in
set_option maxRecDepth 100000 in
theorem okM_watch (v1 : Int32) (v2 : Int32) (s0 : Sg) : ∀ (l : Launch) (w : WC), Ok l w yM_watch cM_watch 3 (some .int) 2 evI [.ref (w.ad 102), .int v1, .int v2] s0 (fM_watch v1 v2 s0) := by
  refine ok_in (ev := fun _ => evI) (av := fun w => [.ref (w.ad 102), .int v1, .int v2]) "LastWordHillModel" rfl (by decide +kernel) (fun _ => rfl) (fun _ => Nat.le_of_ble_eq_true rfl) ?_
  intro C X E
  show GF C evI 0 [some (.ref (C.w.ad 102)), some (.int v1), some (.int v2)] [] s0 (fM_watch v1 v2 s0)
  unfold fM_watch
  refine g_aload_n X dM_watch_0 rfl ?_
  refine g_iconst X 0 dM_watch_1 (by decide) ?_
  refine g_putI X fl_M_134 fb_12_0 fp_12_0 k_102 dM_watch_2 (fun s1 => ?_)
  refine g_iload_n X dM_watch_5 rfl ?_
  refine g_iconst X (-1) dM_watch_6 (by decide) ?_
  refine g_cne X (tgt := 17) dM_watch_7 (by decide) ?_ ?_
  · refine g_aload_n X dM_watch_10 rfl ?_
    refine g_iconst X 0 dM_watch_11 (by decide) ?_
    refine g_putI X fl_M_423 fb_12_46 fp_12_46 k_102 dM_watch_12 (fun s9 => ?_)
    refine g_iconst X 0 dM_watch_15 (by decide) ?_
    exact g_iret X E dM_watch_16
  · refine g_aload_n X dM_watch_17 rfl ?_
    refine g_iload_n X dM_watch_18 rfl ?_
    refine g_iconst X 0 dM_watch_19 (by decide) ?_
    refine g_iload_n X dM_watch_20 rfl ?_
    refine g_virtI X [.int v1, .int 0, .int v2] [] k_102 mm_M_isIn mv_M_isIn ml_M_153 (okM_isIn v1 0 v2 s1 C.l C.w) rfl (by decide) rfl (Nat.le_of_ble_eq_true rfl) dM_watch_21 (fun r3 s2 => ?_)
    refine g_zeq X (tgt := 47) dM_watch_24 (by decide) ?_ ?_
    · refine g_iconst X (-1) dM_watch_47 (by decide) ?_
      exact g_iret X E dM_watch_48
    · refine g_aload_n X dM_watch_27 rfl ?_
      refine g_iload_n X dM_watch_28 rfl ?_
      refine g_iconst X 0 dM_watch_29 (by decide) ?_
      refine g_bipush X 59 dM_watch_30 (by decide) ?_
      refine g_virtI X [.int v2, .int 0, .int 59] [] k_102 mm_M_isIn mv_M_isIn ml_M_153 (okM_isIn v2 0 59 s2 C.l C.w) rfl (by decide) rfl (Nat.le_of_ble_eq_true rfl) dM_watch_32 (fun r5 s4 => ?_)
      refine g_zeq X (tgt := 47) dM_watch_35 (by decide) ?_ ?_
      · refine g_iconst X (-1) dM_watch_47 (by decide) ?_
        exact g_iret X E dM_watch_48
      · refine g_aload_n X dM_watch_38 rfl ?_
        refine g_getI X fl_M_423 fb_12_46 k_102 dM_watch_39 ?_
        refine g_bipush X 9 dM_watch_42 (by decide) ?_
        refine g_cne X (tgt := 49) dM_watch_44 (by decide) ?_ ?_
        · refine g_iconst X (-1) dM_watch_47 (by decide) ?_
          exact g_iret X E dM_watch_48
        · refine g_aload_n X dM_watch_49 rfl ?_
          refine g_getN X fl_M_89 fb_12_47 k_102 r_102_47 dM_watch_50 ?_
          refine g_aload_n X dM_watch_53 rfl ?_
          refine g_getI X fl_M_423 fb_12_46 k_102 dM_watch_54 ?_
          refine g_iload_n X dM_watch_57 rfl ?_
          refine g_iast X k_128 ln_128 dM_watch_58 (fun s6 => ?_)
          refine g_aload_n X dM_watch_59 rfl ?_
          refine g_getN X fl_M_92 fb_12_48 k_102 r_102_48 dM_watch_60 ?_
          refine g_aload_n X dM_watch_63 rfl ?_
          refine g_getI X fl_M_423 fb_12_46 k_102 dM_watch_64 ?_
          refine g_iload_n X dM_watch_67 rfl ?_
          refine g_iast X k_129 ln_129 dM_watch_68 (fun s7 => ?_)
          refine g_aload_n X dM_watch_69 rfl ?_
          refine g_aload_n X dM_watch_70 rfl ?_
          refine g_getI X fl_M_423 fb_12_46 k_102 dM_watch_71 ?_
          refine g_iconst X 1 dM_watch_74 (by decide) ?_
          refine g_iadd X dM_watch_75 ?_
          refine g_putI X fl_M_423 fb_12_46 fp_12_46 k_102 dM_watch_76 (fun s8 => ?_)
          refine g_aload_n X dM_watch_79 rfl ?_
          refine g_getI X fl_M_423 fb_12_46 k_102 dM_watch_80 ?_
          exact g_iret X E dM_watch_83
def yM_fewestWatches : MethodName := ⟨"LastWordHillModel", "fewestWatches", "(I)I"⟩
abbrev cM_fewestWatches : ByteArray := prog_14_method_94_code
theorem dM_fewestWatches_0 : decode cM_fewestWatches 0 = .ok (.iload_n 1, 1) := by decide +kernel
theorem dM_fewestWatches_1 : decode cM_fewestWatches 1 = .ok (.istore_n 2, 1) := by decide +kernel
theorem dM_fewestWatches_2 : decode cM_fewestWatches 2 = .ok (.iconst 0, 1) := by decide +kernel
theorem dM_fewestWatches_3 : decode cM_fewestWatches 3 = .ok (.istore_n 3, 1) := by decide +kernel
theorem dM_fewestWatches_4 : decode cM_fewestWatches 4 = .ok (.iload_n 2, 1) := by decide +kernel
theorem dM_fewestWatches_5 : decode cM_fewestWatches 5 = .ok (.bipush 60, 2) := by decide +kernel
theorem dM_fewestWatches_7 : decode cM_fewestWatches 7 = .ok (.if_icmp .ge 81, 3) := by decide +kernel
theorem dM_fewestWatches_88 : decode cM_fewestWatches 88 = .ok (.iload_n 3, 1) := by decide +kernel
theorem dM_fewestWatches_89 : decode cM_fewestWatches 89 = .ok (.ireturn, 1) := by decide +kernel
theorem dM_fewestWatches_10 : decode cM_fewestWatches 10 = .ok (.iconst (-1), 1) := by decide +kernel
theorem dM_fewestWatches_11 : decode cM_fewestWatches 11 = .ok (.istore 4, 2) := by decide +kernel
theorem dM_fewestWatches_13 : decode cM_fewestWatches 13 = .ok (.iconst 0, 1) := by decide +kernel
theorem dM_fewestWatches_14 : decode cM_fewestWatches 14 = .ok (.istore 5, 2) := by decide +kernel
theorem dM_fewestWatches_16 : decode cM_fewestWatches 16 = .ok (.iload 5, 2) := by decide +kernel
theorem dM_fewestWatches_18 : decode cM_fewestWatches 18 = .ok (.aload_n 0, 1) := by decide +kernel
theorem dM_fewestWatches_19 : decode cM_fewestWatches 19 = .ok (.getfield 423, 3) := by decide +kernel
theorem dM_fewestWatches_22 : decode cM_fewestWatches 22 = .ok (.if_icmp .ge 46, 3) := by decide +kernel
theorem dM_fewestWatches_68 : decode cM_fewestWatches 68 = .ok (.iload 4, 2) := by decide +kernel
theorem dM_fewestWatches_70 : decode cM_fewestWatches 70 = .ok (.iconst (-1), 1) := by decide +kernel
theorem dM_fewestWatches_71 : decode cM_fewestWatches 71 = .ok (.if_icmp .ne 5, 3) := by decide +kernel
theorem dM_fewestWatches_76 : decode cM_fewestWatches 76 = .ok (.iload 4, 2) := by decide +kernel
theorem dM_fewestWatches_78 : decode cM_fewestWatches 78 = .ok (.iconst 1, 1) := by decide +kernel
theorem dM_fewestWatches_79 : decode cM_fewestWatches 79 = .ok (.iadd, 1) := by decide +kernel
theorem dM_fewestWatches_80 : decode cM_fewestWatches 80 = .ok (.istore_n 2, 1) := by decide +kernel
theorem dM_fewestWatches_81 : decode cM_fewestWatches 81 = .ok (.iload_n 3, 1) := by decide +kernel
theorem dM_fewestWatches_82 : decode cM_fewestWatches 82 = .ok (.iconst 1, 1) := by decide +kernel
theorem dM_fewestWatches_83 : decode cM_fewestWatches 83 = .ok (.iadd, 1) := by decide +kernel
theorem dM_fewestWatches_84 : decode cM_fewestWatches 84 = .ok (.istore_n 3, 1) := by decide +kernel
theorem dM_fewestWatches_85 : decode cM_fewestWatches 85 = .ok (.goto (-81), 3) := by decide +kernel
theorem dM_fewestWatches_74 : decode cM_fewestWatches 74 = .ok (.iconst (-1), 1) := by decide +kernel
theorem dM_fewestWatches_75 : decode cM_fewestWatches 75 = .ok (.ireturn, 1) := by decide +kernel
theorem dM_fewestWatches_25 : decode cM_fewestWatches 25 = .ok (.aload_n 0, 1) := by decide +kernel
theorem dM_fewestWatches_26 : decode cM_fewestWatches 26 = .ok (.iload_n 2, 1) := by decide +kernel
theorem dM_fewestWatches_27 : decode cM_fewestWatches 27 = .ok (.aload_n 0, 1) := by decide +kernel
theorem dM_fewestWatches_28 : decode cM_fewestWatches 28 = .ok (.getfield 89, 3) := by decide +kernel
theorem dM_fewestWatches_31 : decode cM_fewestWatches 31 = .ok (.iload 5, 2) := by decide +kernel
theorem dM_fewestWatches_33 : decode cM_fewestWatches 33 = .ok (.iaload, 1) := by decide +kernel
theorem dM_fewestWatches_34 : decode cM_fewestWatches 34 = .ok (.aload_n 0, 1) := by decide +kernel
theorem dM_fewestWatches_35 : decode cM_fewestWatches 35 = .ok (.getfield 92, 3) := by decide +kernel
theorem dM_fewestWatches_38 : decode cM_fewestWatches 38 = .ok (.iload 5, 2) := by decide +kernel
theorem dM_fewestWatches_40 : decode cM_fewestWatches 40 = .ok (.iaload, 1) := by decide +kernel
theorem dM_fewestWatches_41 : decode cM_fewestWatches 41 = .ok (.invokevirtual 153, 3) := by decide +kernel
theorem dM_fewestWatches_44 : decode cM_fewestWatches 44 = .ok (.ifCond .eq 18, 3) := by decide +kernel
theorem dM_fewestWatches_62 : decode cM_fewestWatches 62 = .ok (.iinc 5 1, 3) := by decide +kernel
theorem dM_fewestWatches_65 : decode cM_fewestWatches 65 = .ok (.goto (-49), 3) := by decide +kernel
theorem dM_fewestWatches_47 : decode cM_fewestWatches 47 = .ok (.aload_n 0, 1) := by decide +kernel
theorem dM_fewestWatches_48 : decode cM_fewestWatches 48 = .ok (.iload 4, 2) := by decide +kernel
theorem dM_fewestWatches_50 : decode cM_fewestWatches 50 = .ok (.aload_n 0, 1) := by decide +kernel
theorem dM_fewestWatches_51 : decode cM_fewestWatches 51 = .ok (.getfield 92, 3) := by decide +kernel
theorem dM_fewestWatches_54 : decode cM_fewestWatches 54 = .ok (.iload 5, 2) := by decide +kernel
theorem dM_fewestWatches_56 : decode cM_fewestWatches 56 = .ok (.iaload, 1) := by decide +kernel
theorem dM_fewestWatches_57 : decode cM_fewestWatches 57 = .ok (.invokevirtual 326, 3) := by decide +kernel
theorem dM_fewestWatches_60 : decode cM_fewestWatches 60 = .ok (.istore 4, 2) := by decide +kernel
def fM_fewestWatches (v1 : Int32) (s0 : Sg) : Option (Int32 × Sg) := lp FU (fun q4 (u4 : Int32 × Int32) (s1 : Sg) => if 60 ≤ u4.1 then (some (u4.2, s1)) else (lp FU (fun q16 (u16 : Int32 × Int32) (s2 : Sg) => if (s2 102 46) ≤ u16.2 then (if u16.1 = (-1) then (some ((-1), s2)) else (q4 ((u16.1 + 1), (u4.2 + 1)) s2)) else (gd u16.2 9 (gd u16.2 9 (bi (fM_isIn u4.1 (s2 128 (ix u16.2)) (s2 129 (ix u16.2)) s2) fun r4 s3 => bnd (fun (a62_4 : Int32) (s5 : Sg) => q16 (a62_4, (u16.2 + 1)) s5) fun j62 => if r4 = 0 then (j62 u16.1 s3) else (gd u16.2 9 (bi (fM_greater u16.1 (s3 129 (ix u16.2)) s3) fun r7 s6 => j62 r7 s6)))))) ((-1), 0) s1)) (v1, 0) s0
set_option maxHeartbeats 4000000 in
set_option maxRecDepth 100000 in
theorem okM_fewestWatches (v1 : Int32) (s0 : Sg) : ∀ (l : Launch) (w : WC), Ok l w yM_fewestWatches cM_fewestWatches 6 (some .int) 2 evI [.ref (w.ad 102), .int v1] s0 (fM_fewestWatches v1 s0) := by
  refine ok_in (ev := fun _ => evI) (av := fun w => [.ref (w.ad 102), .int v1]) "LastWordHillModel" rfl (by decide +kernel) (fun _ => rfl) (fun _ => Nat.le_of_ble_eq_true rfl) ?_
  intro C X E
  show GF C evI 0 [some (.ref (C.w.ad 102)), some (.int v1), none, none, none, none] [] s0 (fM_fewestWatches v1 s0)
  unfold fM_fewestWatches
  refine g_iload_n X dM_fewestWatches_0 rfl ?_
  refine g_istore_n X [some (.ref (C.w.ad 102)), some (.int v1), some (.int v1), none, none, none] dM_fewestWatches_1 (by decide) (Nat.le_of_ble_eq_true rfl) rfl ?_
  refine g_iconst X 0 dM_fewestWatches_2 (by decide) ?_
  refine g_istore_n X [some (.ref (C.w.ad 102)), some (.int v1), some (.int v1), some (.int 0), none, none] dM_fewestWatches_3 (by decide) (Nat.le_of_ble_eq_true rfl) rfl ?_
  refine gf_sub (L' := [some (.ref (C.w.ad 102)), none, some (.int v1), some (.int 0), none, none]) ?_ (by simp [lsub])
  refine gf_lp (Lf := fun (u4 : Int32 × Int32) => [some (.ref (C.w.ad 102)), none, some (.int u4.1), some (.int u4.2), none, none]) (fun q4 hq4 u4 s1 => ?_) FU (v1, 0) s0
  refine g_iload_n X dM_fewestWatches_4 rfl ?_
  refine g_bipush X 60 dM_fewestWatches_5 (by decide) ?_
  refine g_cge X (tgt := 88) dM_fewestWatches_7 (by decide) ?_ ?_
  · refine g_iload_n X dM_fewestWatches_88 rfl ?_
    exact g_iret X E dM_fewestWatches_89
  · refine g_iconst X (-1) dM_fewestWatches_10 (by decide) ?_
    refine g_istore X [some (.ref (C.w.ad 102)), none, some (.int u4.1), some (.int u4.2), some (.int (-1)), none] dM_fewestWatches_11 (by decide) (Nat.le_of_ble_eq_true rfl) rfl ?_
    refine g_iconst X 0 dM_fewestWatches_13 (by decide) ?_
    refine g_istore X [some (.ref (C.w.ad 102)), none, some (.int u4.1), some (.int u4.2), some (.int (-1)), some (.int 0)] dM_fewestWatches_14 (by decide) (Nat.le_of_ble_eq_true rfl) rfl ?_
    refine gf_sub (L' := [some (.ref (C.w.ad 102)), none, some (.int u4.1), some (.int u4.2), some (.int (-1)), some (.int 0)]) ?_ (by simp [lsub])
    refine gf_lp (Lf := fun (u16 : Int32 × Int32) => [some (.ref (C.w.ad 102)), none, some (.int u4.1), some (.int u4.2), some (.int u16.1), some (.int u16.2)]) (fun q16 hq16 u16 s2 => ?_) FU ((-1), 0) s1
    refine g_iload X dM_fewestWatches_16 rfl ?_
    refine g_aload_n X dM_fewestWatches_18 rfl ?_
    refine g_getI X fl_M_423 fb_12_46 k_102 dM_fewestWatches_19 ?_
    refine g_cge X (tgt := 68) dM_fewestWatches_22 (by decide) ?_ ?_
    · refine g_iload X dM_fewestWatches_68 rfl ?_
      refine g_iconst X (-1) dM_fewestWatches_70 (by decide) ?_
      refine g_cne X (tgt := 76) dM_fewestWatches_71 (by decide) ?_ ?_
      · refine g_iconst X (-1) dM_fewestWatches_74 (by decide) ?_
        exact g_iret X E dM_fewestWatches_75
      · refine g_iload X dM_fewestWatches_76 rfl ?_
        refine g_iconst X 1 dM_fewestWatches_78 (by decide) ?_
        refine g_iadd X dM_fewestWatches_79 ?_
        refine g_istore_n X [some (.ref (C.w.ad 102)), none, some (.int (u16.1 + 1)), some (.int u4.2), some (.int u16.1), some (.int u16.2)] dM_fewestWatches_80 (by decide) (Nat.le_of_ble_eq_true rfl) rfl ?_
        refine g_iload_n X dM_fewestWatches_81 rfl ?_
        refine g_iconst X 1 dM_fewestWatches_82 (by decide) ?_
        refine g_iadd X dM_fewestWatches_83 ?_
        refine g_istore_n X [some (.ref (C.w.ad 102)), none, some (.int (u16.1 + 1)), some (.int (u4.2 + 1)), some (.int u16.1), some (.int u16.2)] dM_fewestWatches_84 (by decide) (Nat.le_of_ble_eq_true rfl) rfl ?_
        refine g_goto X 4 dM_fewestWatches_85 (by decide) ?_
        exact gf_sub (hq4 ((u16.1 + 1), (u4.2 + 1)) s2) (by simp [lsub])
    · refine g_aload_n X dM_fewestWatches_25 rfl ?_
      refine g_iload_n X dM_fewestWatches_26 rfl ?_
      refine g_aload_n X dM_fewestWatches_27 rfl ?_
      refine g_getN X fl_M_89 fb_12_47 k_102 r_102_47 dM_fewestWatches_28 ?_
      refine g_iload X dM_fewestWatches_31 rfl ?_
      refine g_iald X k_128 ln_128 dM_fewestWatches_33 ?_
      refine g_aload_n X dM_fewestWatches_34 rfl ?_
      refine g_getN X fl_M_92 fb_12_48 k_102 r_102_48 dM_fewestWatches_35 ?_
      refine g_iload X dM_fewestWatches_38 rfl ?_
      refine g_iald X k_129 ln_129 dM_fewestWatches_40 ?_
      refine g_virtI X [.int u4.1, .int (s2 128 (ix u16.2)), .int (s2 129 (ix u16.2))] [] k_102 mm_M_isIn mv_M_isIn ml_M_153 (okM_isIn u4.1 (s2 128 (ix u16.2)) (s2 129 (ix u16.2)) s2 C.l C.w) rfl (by decide) rfl (Nat.le_of_ble_eq_true rfl) dM_fewestWatches_41 (fun r4 s3 => ?_)
      refine gf_jn (fun j62 => ∀ (a62_4 : Int32) (s5 : Sg), GF C evI 62 [some (.ref (C.w.ad 102)), none, some (.int u4.1), some (.int u4.2), some (.int a62_4), some (.int u16.2)] [] s5 (j62 a62_4 s5)) ?_ ?_
      · intro a62_4 s5
        refine g_iinc X (u16.2 + 1) [some (.ref (C.w.ad 102)), none, some (.int u4.1), some (.int u4.2), some (.int a62_4), some (.int (u16.2 + 1))] dM_fewestWatches_62 rfl rfl (by decide) rfl ?_
        refine g_goto X 16 dM_fewestWatches_65 (by decide) ?_
        exact gf_sub (hq16 (a62_4, (u16.2 + 1)) s5) (by simp [lsub])
      · intro j62 hj62
        refine g_zeq X (tgt := 62) dM_fewestWatches_44 (by decide) ?_ ?_
        · exact gf_sub (hj62 u16.1 s3) (by simp [lsub])
        · refine g_aload_n X dM_fewestWatches_47 rfl ?_
          refine g_iload X dM_fewestWatches_48 rfl ?_
          refine g_aload_n X dM_fewestWatches_50 rfl ?_
          refine g_getN X fl_M_92 fb_12_48 k_102 r_102_48 dM_fewestWatches_51 ?_
          refine g_iload X dM_fewestWatches_54 rfl ?_
          refine g_iald X k_129 ln_129 dM_fewestWatches_56 ?_
          refine g_virtI X [.int u16.1, .int (s3 129 (ix u16.2))] [] k_102 mm_M_greater mv_M_greater ml_M_326 (okM_greater u16.1 (s3 129 (ix u16.2)) s3 C.l C.w) rfl (by decide) rfl (Nat.le_of_ble_eq_true rfl) dM_fewestWatches_57 (fun r7 s6 => ?_)
          refine g_istore X [some (.ref (C.w.ad 102)), none, some (.int u4.1), some (.int u4.2), some (.int r7), some (.int u16.2)] dM_fewestWatches_60 (by decide) (Nat.le_of_ble_eq_true rfl) rfl ?_
          exact gf_sub (hj62 r7 s6) (by simp [lsub])
def yM_guard : MethodName := ⟨"LastWordHillModel", "guard", "(II)I"⟩
abbrev cM_guard : ByteArray := prog_14_method_95_code
theorem dM_guard_0 : decode cM_guard 0 = .ok (.aload_n 0, 1) := by decide +kernel
theorem dM_guard_1 : decode cM_guard 1 = .ok (.iconst 0, 1) := by decide +kernel
theorem dM_guard_2 : decode cM_guard 2 = .ok (.putfield 134, 3) := by decide +kernel
theorem dM_guard_5 : decode cM_guard 5 = .ok (.aload_n 0, 1) := by decide +kernel
theorem dM_guard_6 : decode cM_guard 6 = .ok (.iload_n 1, 1) := by decide +kernel
theorem dM_guard_7 : decode cM_guard 7 = .ok (.iconst 0, 1) := by decide +kernel
theorem dM_guard_8 : decode cM_guard 8 = .ok (.bipush 59, 2) := by decide +kernel
theorem dM_guard_10 : decode cM_guard 10 = .ok (.invokevirtual 153, 3) := by decide +kernel
theorem dM_guard_13 : decode cM_guard 13 = .ok (.ifCond .eq 14, 3) := by decide +kernel
theorem dM_guard_27 : decode cM_guard 27 = .ok (.iconst (-1), 1) := by decide +kernel
theorem dM_guard_28 : decode cM_guard 28 = .ok (.ireturn, 1) := by decide +kernel
theorem dM_guard_16 : decode cM_guard 16 = .ok (.aload_n 0, 1) := by decide +kernel
theorem dM_guard_17 : decode cM_guard 17 = .ok (.iload_n 2, 1) := by decide +kernel
theorem dM_guard_18 : decode cM_guard 18 = .ok (.iconst (-1), 1) := by decide +kernel
theorem dM_guard_19 : decode cM_guard 19 = .ok (.bipush 9, 2) := by decide +kernel
theorem dM_guard_21 : decode cM_guard 21 = .ok (.invokevirtual 153, 3) := by decide +kernel
theorem dM_guard_24 : decode cM_guard 24 = .ok (.ifCond .ne 5, 3) := by decide +kernel
theorem dM_guard_29 : decode cM_guard 29 = .ok (.aload_n 0, 1) := by decide +kernel
theorem dM_guard_30 : decode cM_guard 30 = .ok (.iload_n 1, 1) := by decide +kernel
theorem dM_guard_31 : decode cM_guard 31 = .ok (.invokevirtual 426, 3) := by decide +kernel
theorem mm_M_fewestWatches : MMc yM_fewestWatches cM_fewestWatches 6 (some .int) 1 := ⟨hz_in 1997 (by decide +kernel) (by decide +kernel), hz_in 147 (by decide +kernel) (by decide +kernel), by decide +kernel, by decide⟩
theorem mv_M_fewestWatches : MMv yM_fewestWatches 12 := ⟨hz_in 1996 (by decide +kernel) (by decide +kernel), hz_in 120 (by decide +kernel) (by decide +kernel), _, _, rfl, by decide⟩
theorem ml_M_426 : Cond.methodLink "LastWordHillModel" 426 yM_fewestWatches ∈ hz_wt := hz_in 1994 (by decide +kernel) (by decide +kernel)
theorem dM_guard_34 : decode cM_guard 34 = .ok (.istore_n 3, 1) := by decide +kernel
theorem dM_guard_35 : decode cM_guard 35 = .ok (.iload_n 3, 1) := by decide +kernel
theorem dM_guard_36 : decode cM_guard 36 = .ok (.iconst (-1), 1) := by decide +kernel
theorem dM_guard_37 : decode cM_guard 37 = .ok (.if_icmp .eq 8, 3) := by decide +kernel
theorem dM_guard_45 : decode cM_guard 45 = .ok (.iload_n 3, 1) := by decide +kernel
theorem dM_guard_46 : decode cM_guard 46 = .ok (.goto 13, 3) := by decide +kernel
theorem dM_guard_59 : decode cM_guard 59 = .ok (.ireturn, 1) := by decide +kernel
theorem dM_guard_40 : decode cM_guard 40 = .ok (.iload_n 2, 1) := by decide +kernel
theorem dM_guard_41 : decode cM_guard 41 = .ok (.iconst (-1), 1) := by decide +kernel
theorem dM_guard_42 : decode cM_guard 42 = .ok (.if_icmp .ne 7, 3) := by decide +kernel
theorem dM_guard_49 : decode cM_guard 49 = .ok (.iload_n 3, 1) := by decide +kernel
theorem dM_guard_50 : decode cM_guard 50 = .ok (.iload_n 2, 1) := by decide +kernel
theorem dM_guard_51 : decode cM_guard 51 = .ok (.if_icmp .le 7, 3) := by decide +kernel
theorem dM_guard_58 : decode cM_guard 58 = .ok (.iconst 0, 1) := by decide +kernel
theorem dM_guard_54 : decode cM_guard 54 = .ok (.iconst 1, 1) := by decide +kernel
theorem dM_guard_55 : decode cM_guard 55 = .ok (.goto 4, 3) := by decide +kernel
def fM_guard (v1 : Int32) (v2 : Int32) (s0 : Sg) : Option (Int32 × Sg) := bnd (pt s0 102 0 0) fun s1 => bi (fM_isIn v1 0 59 s1) fun r3 s2 => if r3 = 0 then (some ((-1), s2)) else (bi (fM_isIn v2 (-1) 9 s2) fun r5 s4 => if r5 = 0 then (some ((-1), s4)) else (bi (fM_fewestWatches v1 s4) fun r7 s6 => bnd (fun (s8 : Sg) => some (r7, s8)) fun j45 => if r7 = (-1) then (j45 s6) else (if v2 = (-1) then (j45 s6) else (if r7 ≤ v2 then (some (0, s6)) else (some (1, s6))))))
set_option maxHeartbeats 4000000 in
set_option maxRecDepth 100000 in
theorem okM_guard (v1 : Int32) (v2 : Int32) (s0 : Sg) : ∀ (l : Launch) (w : WC), Ok l w yM_guard cM_guard 4 (some .int) 3 evI [.ref (w.ad 102), .int v1, .int v2] s0 (fM_guard v1 v2 s0) := by
  refine ok_in (ev := fun _ => evI) (av := fun w => [.ref (w.ad 102), .int v1, .int v2]) "LastWordHillModel" rfl (by decide +kernel) (fun _ => rfl) (fun _ => Nat.le_of_ble_eq_true rfl) ?_
  intro C X E
  show GF C evI 0 [some (.ref (C.w.ad 102)), some (.int v1), some (.int v2), none] [] s0 (fM_guard v1 v2 s0)
  unfold fM_guard
  refine g_aload_n X dM_guard_0 rfl ?_
  refine g_iconst X 0 dM_guard_1 (by decide) ?_
  refine g_putI X fl_M_134 fb_12_0 fp_12_0 k_102 dM_guard_2 (fun s1 => ?_)
  refine g_aload_n X dM_guard_5 rfl ?_
  refine g_iload_n X dM_guard_6 rfl ?_
  refine g_iconst X 0 dM_guard_7 (by decide) ?_
  refine g_bipush X 59 dM_guard_8 (by decide) ?_
  refine g_virtI X [.int v1, .int 0, .int 59] [] k_102 mm_M_isIn mv_M_isIn ml_M_153 (okM_isIn v1 0 59 s1 C.l C.w) rfl (by decide) rfl (Nat.le_of_ble_eq_true rfl) dM_guard_10 (fun r3 s2 => ?_)
  refine g_zeq X (tgt := 27) dM_guard_13 (by decide) ?_ ?_
  · refine g_iconst X (-1) dM_guard_27 (by decide) ?_
    exact g_iret X E dM_guard_28
  · refine g_aload_n X dM_guard_16 rfl ?_
    refine g_iload_n X dM_guard_17 rfl ?_
    refine g_iconst X (-1) dM_guard_18 (by decide) ?_
    refine g_bipush X 9 dM_guard_19 (by decide) ?_
    refine g_virtI X [.int v2, .int (-1), .int 9] [] k_102 mm_M_isIn mv_M_isIn ml_M_153 (okM_isIn v2 (-1) 9 s2 C.l C.w) rfl (by decide) rfl (Nat.le_of_ble_eq_true rfl) dM_guard_21 (fun r5 s4 => ?_)
    refine g_zne X (tgt := 29) dM_guard_24 (by decide) ?_ ?_
    · refine g_iconst X (-1) dM_guard_27 (by decide) ?_
      exact g_iret X E dM_guard_28
    · refine g_aload_n X dM_guard_29 rfl ?_
      refine g_iload_n X dM_guard_30 rfl ?_
      refine g_virtI X [.int v1] [] k_102 mm_M_fewestWatches mv_M_fewestWatches ml_M_426 (okM_fewestWatches v1 s4 C.l C.w) rfl (by decide) rfl (Nat.le_of_ble_eq_true rfl) dM_guard_31 (fun r7 s6 => ?_)
      refine g_istore_n X [some (.ref (C.w.ad 102)), some (.int v1), some (.int v2), some (.int r7)] dM_guard_34 (by decide) (Nat.le_of_ble_eq_true rfl) rfl ?_
      refine g_iload_n X dM_guard_35 rfl ?_
      refine g_iconst X (-1) dM_guard_36 (by decide) ?_
      refine gf_jn (fun j45 => ∀ (s8 : Sg), GF C evI 45 [none, none, none, some (.int r7)] [] s8 (j45 s8)) ?_ ?_
      · intro s8
        refine g_iload_n X dM_guard_45 rfl ?_
        refine g_goto X 59 dM_guard_46 (by decide) ?_
        exact g_iret X E dM_guard_59
      · intro j45 hj45
        refine g_ceq X (tgt := 45) dM_guard_37 (by decide) ?_ ?_
        · exact gf_sub (hj45 s6) (by simp [lsub])
        · refine g_iload_n X dM_guard_40 rfl ?_
          refine g_iconst X (-1) dM_guard_41 (by decide) ?_
          refine g_cne X (tgt := 49) dM_guard_42 (by decide) ?_ ?_
          · exact gf_sub (hj45 s6) (by simp [lsub])
          · refine g_iload_n X dM_guard_49 rfl ?_
            refine g_iload_n X dM_guard_50 rfl ?_
            refine g_cle X (tgt := 58) dM_guard_51 (by decide) ?_ ?_
            · refine g_iconst X 0 dM_guard_58 (by decide) ?_
              exact g_iret X E dM_guard_59
            · refine g_iconst X 1 dM_guard_54 (by decide) ?_
              refine g_goto X 59 dM_guard_55 (by decide) ?_
              exact g_iret X E dM_guard_59
def yM_step : MethodName := ⟨"LastWordHillModel", "step", "(III)I"⟩
abbrev cM_step : ByteArray := prog_14_method_96_code
theorem dM_step_0 : decode cM_step 0 = .ok (.aload_n 0, 1) := by decide +kernel
theorem dM_step_1 : decode cM_step 1 = .ok (.iconst 0, 1) := by decide +kernel
theorem dM_step_2 : decode cM_step 2 = .ok (.putfield 134, 3) := by decide +kernel
theorem dM_step_5 : decode cM_step 5 = .ok (.iload_n 1, 1) := by decide +kernel
theorem dM_step_6 : decode cM_step 6 = .ok (.iconst (-1), 1) := by decide +kernel
theorem dM_step_7 : decode cM_step 7 = .ok (.if_icmp .ne 35, 3) := by decide +kernel
theorem dM_step_42 : decode cM_step 42 = .ok (.aload_n 0, 1) := by decide +kernel
theorem dM_step_43 : decode cM_step 43 = .ok (.iload_n 1, 1) := by decide +kernel
theorem dM_step_44 : decode cM_step 44 = .ok (.iconst 0, 1) := by decide +kernel
theorem dM_step_45 : decode cM_step 45 = .ok (.bipush 9, 2) := by decide +kernel
theorem dM_step_47 : decode cM_step 47 = .ok (.invokevirtual 153, 3) := by decide +kernel
theorem dM_step_50 : decode cM_step 50 = .ok (.ifCond .eq 34, 3) := by decide +kernel
theorem dM_step_84 : decode cM_step 84 = .ok (.iconst (-1), 1) := by decide +kernel
theorem dM_step_85 : decode cM_step 85 = .ok (.ireturn, 1) := by decide +kernel
theorem dM_step_53 : decode cM_step 53 = .ok (.aload_n 0, 1) := by decide +kernel
theorem dM_step_54 : decode cM_step 54 = .ok (.iload_n 2, 1) := by decide +kernel
theorem dM_step_55 : decode cM_step 55 = .ok (.iconst 0, 1) := by decide +kernel
theorem dM_step_56 : decode cM_step 56 = .ok (.bipush 19, 2) := by decide +kernel
theorem dM_step_58 : decode cM_step 58 = .ok (.invokevirtual 153, 3) := by decide +kernel
theorem dM_step_61 : decode cM_step 61 = .ok (.ifCond .eq 23, 3) := by decide +kernel
theorem dM_step_64 : decode cM_step 64 = .ok (.aload_n 0, 1) := by decide +kernel
theorem dM_step_65 : decode cM_step 65 = .ok (.iload_n 3, 1) := by decide +kernel
theorem dM_step_66 : decode cM_step 66 = .ok (.iconst 0, 1) := by decide +kernel
theorem dM_step_67 : decode cM_step 67 = .ok (.bipush 9, 2) := by decide +kernel
theorem dM_step_69 : decode cM_step 69 = .ok (.invokevirtual 153, 3) := by decide +kernel
theorem dM_step_72 : decode cM_step 72 = .ok (.ifCond .eq 12, 3) := by decide +kernel
theorem dM_step_75 : decode cM_step 75 = .ok (.aload_n 0, 1) := by decide +kernel
theorem dM_step_76 : decode cM_step 76 = .ok (.getfield 429, 3) := by decide +kernel
theorem fl_M_429 : FLk "LastWordHillModel" 429 12 49 := ⟨_, _, _, rfl, by decide, hz_in 1461 (by decide +kernel) (by decide +kernel), nL12, by decide, by decide⟩
theorem fb_12_49 : (hz_bs 12)[49]? = some false := by decide
theorem dM_step_79 : decode cM_step 79 = .ok (.bipush 16, 2) := by decide +kernel
theorem dM_step_81 : decode cM_step 81 = .ok (.if_icmp .ne 5, 3) := by decide +kernel
theorem dM_step_86 : decode cM_step 86 = .ok (.aload_n 0, 1) := by decide +kernel
theorem dM_step_87 : decode cM_step 87 = .ok (.getfield 95, 3) := by decide +kernel
theorem fl_M_95 : FLk "LastWordHillModel" 95 12 50 := ⟨_, _, _, rfl, by decide, hz_in 1462 (by decide +kernel) (by decide +kernel), nL12, by decide, by decide⟩
theorem k_130 : hz_kd 130 = 13 := by decide
theorem fb_12_50 : (hz_bs 12)[50]? = some true := by decide
theorem r_102_50 : hz_rf 102 50 = 130 := by decide
theorem dM_step_90 : decode cM_step 90 = .ok (.bipush 20, 2) := by decide +kernel
theorem dM_step_92 : decode cM_step 92 = .ok (.iload_n 1, 1) := by decide +kernel
theorem dM_step_93 : decode cM_step 93 = .ok (.imul, 1) := by decide +kernel
theorem dM_step_94 : decode cM_step 94 = .ok (.iload_n 2, 1) := by decide +kernel
theorem dM_step_95 : decode cM_step 95 = .ok (.iadd, 1) := by decide +kernel
theorem dM_step_96 : decode cM_step 96 = .ok (.iaload, 1) := by decide +kernel
theorem ln_130 : hz_ln 130 = 200 := by decide
theorem dM_step_97 : decode cM_step 97 = .ok (.ifCond .ne 17, 3) := by decide +kernel
theorem dM_step_114 : decode cM_step 114 = .ok (.aload_n 0, 1) := by decide +kernel
theorem dM_step_115 : decode cM_step 115 = .ok (.aload_n 0, 1) := by decide +kernel
theorem dM_step_116 : decode cM_step 116 = .ok (.getfield 429, 3) := by decide +kernel
theorem dM_step_119 : decode cM_step 119 = .ok (.iconst 1, 1) := by decide +kernel
theorem dM_step_120 : decode cM_step 120 = .ok (.iadd, 1) := by decide +kernel
theorem dM_step_121 : decode cM_step 121 = .ok (.putfield 429, 3) := by decide +kernel
theorem fp_12_49 : FLp 12 49 .int := ⟨_, _, _, _, rfl, nY12, nN12, by decide, by decide⟩
theorem dM_step_124 : decode cM_step 124 = .ok (.aload_n 0, 1) := by decide +kernel
theorem dM_step_125 : decode cM_step 125 = .ok (.getfield 429, 3) := by decide +kernel
theorem dM_step_128 : decode cM_step 128 = .ok (.ireturn, 1) := by decide +kernel
theorem dM_step_100 : decode cM_step 100 = .ok (.aload_n 0, 1) := by decide +kernel
theorem dM_step_101 : decode cM_step 101 = .ok (.getfield 95, 3) := by decide +kernel
theorem dM_step_104 : decode cM_step 104 = .ok (.bipush 20, 2) := by decide +kernel
theorem dM_step_106 : decode cM_step 106 = .ok (.iload_n 1, 1) := by decide +kernel
theorem dM_step_107 : decode cM_step 107 = .ok (.imul, 1) := by decide +kernel
theorem dM_step_108 : decode cM_step 108 = .ok (.iload_n 2, 1) := by decide +kernel
theorem dM_step_109 : decode cM_step 109 = .ok (.iadd, 1) := by decide +kernel
theorem dM_step_110 : decode cM_step 110 = .ok (.iload_n 3, 1) := by decide +kernel
theorem dM_step_111 : decode cM_step 111 = .ok (.iconst 1, 1) := by decide +kernel
theorem dM_step_112 : decode cM_step 112 = .ok (.iadd, 1) := by decide +kernel
theorem dM_step_113 : decode cM_step 113 = .ok (.iastore, 1) := by decide +kernel
theorem dM_step_10 : decode cM_step 10 = .ok (.aload_n 0, 1) := by decide +kernel
theorem dM_step_11 : decode cM_step 11 = .ok (.iconst 0, 1) := by decide +kernel
theorem dM_step_12 : decode cM_step 12 = .ok (.putfield 429, 3) := by decide +kernel
theorem dM_step_15 : decode cM_step 15 = .ok (.iconst 0, 1) := by decide +kernel
theorem dM_step_16 : decode cM_step 16 = .ok (.istore 4, 2) := by decide +kernel
theorem dM_step_18 : decode cM_step 18 = .ok (.iload 4, 2) := by decide +kernel
theorem dM_step_20 : decode cM_step 20 = .ok (.sipush 200, 3) := by decide +kernel
theorem dM_step_23 : decode cM_step 23 = .ok (.if_icmp .ge 17, 3) := by decide +kernel
theorem dM_step_40 : decode cM_step 40 = .ok (.iconst 0, 1) := by decide +kernel
theorem dM_step_41 : decode cM_step 41 = .ok (.ireturn, 1) := by decide +kernel
theorem dM_step_26 : decode cM_step 26 = .ok (.aload_n 0, 1) := by decide +kernel
theorem dM_step_27 : decode cM_step 27 = .ok (.getfield 95, 3) := by decide +kernel
theorem dM_step_30 : decode cM_step 30 = .ok (.iload 4, 2) := by decide +kernel
theorem dM_step_32 : decode cM_step 32 = .ok (.iconst 0, 1) := by decide +kernel
theorem dM_step_33 : decode cM_step 33 = .ok (.iastore, 1) := by decide +kernel
theorem dM_step_34 : decode cM_step 34 = .ok (.iinc 4 1, 3) := by decide +kernel
theorem dM_step_37 : decode cM_step 37 = .ok (.goto (-19), 3) := by decide +kernel
def fM_step (v1 : Int32) (v2 : Int32) (v3 : Int32) (s0 : Sg) : Option (Int32 × Sg) := bnd (pt s0 102 0 0) fun s1 => if v1 = (-1) then (bnd (pt s1 102 49 0) fun s11 => lp FU (fun q18 (u18 : Int32) (s12 : Sg) => if 200 ≤ u18 then (some (0, s12)) else (gd u18 200 (bnd (pt s12 130 (ix u18) 0) fun s13 => q18 (u18 + 1) s13))) 0 s11) else (bi (fM_isIn v1 0 9 s1) fun r3 s2 => if r3 = 0 then (some ((-1), s2)) else (bi (fM_isIn v2 0 19 s2) fun r5 s4 => if r5 = 0 then (some ((-1), s4)) else (bi (fM_isIn v3 0 9 s4) fun r7 s6 => if r7 = 0 then (some ((-1), s6)) else (if (s6 102 49) = 16 then (some ((-1), s6)) else (gd ((20 * v1) + v2) 200 (bnd (fun (s8 : Sg) => bnd (pt s8 102 49 ((s8 102 49) + 1)) fun s9 => some ((s9 102 49), s9)) fun j114 => if (s6 130 (ix ((20 * v1) + v2))) = 0 then (gd ((20 * v1) + v2) 200 (bnd (pt s6 130 (ix ((20 * v1) + v2)) (v3 + 1)) fun s10 => j114 s10)) else (j114 s6)))))))
set_option maxHeartbeats 4000000 in
set_option maxRecDepth 100000 in
theorem okM_step (v1 : Int32) (v2 : Int32) (v3 : Int32) (s0 : Sg) : ∀ (l : Launch) (w : WC), Ok l w yM_step cM_step 5 (some .int) 2 evI [.ref (w.ad 102), .int v1, .int v2, .int v3] s0 (fM_step v1 v2 v3 s0) := by
  refine ok_in (ev := fun _ => evI) (av := fun w => [.ref (w.ad 102), .int v1, .int v2, .int v3]) "LastWordHillModel" rfl (by decide +kernel) (fun _ => rfl) (fun _ => Nat.le_of_ble_eq_true rfl) ?_
  intro C X E
  show GF C evI 0 [some (.ref (C.w.ad 102)), some (.int v1), some (.int v2), some (.int v3), none] [] s0 (fM_step v1 v2 v3 s0)
  unfold fM_step
  refine g_aload_n X dM_step_0 rfl ?_
  refine g_iconst X 0 dM_step_1 (by decide) ?_
  refine g_putI X fl_M_134 fb_12_0 fp_12_0 k_102 dM_step_2 (fun s1 => ?_)
  refine g_iload_n X dM_step_5 rfl ?_
  refine g_iconst X (-1) dM_step_6 (by decide) ?_
  refine g_cne X (tgt := 42) dM_step_7 (by decide) ?_ ?_
  · refine g_aload_n X dM_step_10 rfl ?_
    refine g_iconst X 0 dM_step_11 (by decide) ?_
    refine g_putI X fl_M_429 fb_12_49 fp_12_49 k_102 dM_step_12 (fun s11 => ?_)
    refine g_iconst X 0 dM_step_15 (by decide) ?_
    refine g_istore X [some (.ref (C.w.ad 102)), some (.int v1), some (.int v2), some (.int v3), some (.int 0)] dM_step_16 (by decide) (Nat.le_of_ble_eq_true rfl) rfl ?_
    refine gf_sub (L' := [some (.ref (C.w.ad 102)), none, none, none, some (.int 0)]) ?_ (by simp [lsub])
    refine gf_lp (Lf := fun (u18 : Int32) => [some (.ref (C.w.ad 102)), none, none, none, some (.int u18)]) (fun q18 hq18 u18 s12 => ?_) FU 0 s11
    refine g_iload X dM_step_18 rfl ?_
    refine g_sipush X 200 dM_step_20 (by decide) ?_
    refine g_cge X (tgt := 40) dM_step_23 (by decide) ?_ ?_
    · refine g_iconst X 0 dM_step_40 (by decide) ?_
      exact g_iret X E dM_step_41
    · refine g_aload_n X dM_step_26 rfl ?_
      refine g_getN X fl_M_95 fb_12_50 k_102 r_102_50 dM_step_27 ?_
      refine g_iload X dM_step_30 rfl ?_
      refine g_iconst X 0 dM_step_32 (by decide) ?_
      refine g_iast X k_130 ln_130 dM_step_33 (fun s13 => ?_)
      refine g_iinc X (u18 + 1) [some (.ref (C.w.ad 102)), none, none, none, some (.int (u18 + 1))] dM_step_34 rfl rfl (by decide) rfl ?_
      refine g_goto X 18 dM_step_37 (by decide) ?_
      exact gf_sub (hq18 (u18 + 1) s13) (by simp [lsub])
  · refine g_aload_n X dM_step_42 rfl ?_
    refine g_iload_n X dM_step_43 rfl ?_
    refine g_iconst X 0 dM_step_44 (by decide) ?_
    refine g_bipush X 9 dM_step_45 (by decide) ?_
    refine g_virtI X [.int v1, .int 0, .int 9] [] k_102 mm_M_isIn mv_M_isIn ml_M_153 (okM_isIn v1 0 9 s1 C.l C.w) rfl (by decide) rfl (Nat.le_of_ble_eq_true rfl) dM_step_47 (fun r3 s2 => ?_)
    refine g_zeq X (tgt := 84) dM_step_50 (by decide) ?_ ?_
    · refine g_iconst X (-1) dM_step_84 (by decide) ?_
      exact g_iret X E dM_step_85
    · refine g_aload_n X dM_step_53 rfl ?_
      refine g_iload_n X dM_step_54 rfl ?_
      refine g_iconst X 0 dM_step_55 (by decide) ?_
      refine g_bipush X 19 dM_step_56 (by decide) ?_
      refine g_virtI X [.int v2, .int 0, .int 19] [] k_102 mm_M_isIn mv_M_isIn ml_M_153 (okM_isIn v2 0 19 s2 C.l C.w) rfl (by decide) rfl (Nat.le_of_ble_eq_true rfl) dM_step_58 (fun r5 s4 => ?_)
      refine g_zeq X (tgt := 84) dM_step_61 (by decide) ?_ ?_
      · refine g_iconst X (-1) dM_step_84 (by decide) ?_
        exact g_iret X E dM_step_85
      · refine g_aload_n X dM_step_64 rfl ?_
        refine g_iload_n X dM_step_65 rfl ?_
        refine g_iconst X 0 dM_step_66 (by decide) ?_
        refine g_bipush X 9 dM_step_67 (by decide) ?_
        refine g_virtI X [.int v3, .int 0, .int 9] [] k_102 mm_M_isIn mv_M_isIn ml_M_153 (okM_isIn v3 0 9 s4 C.l C.w) rfl (by decide) rfl (Nat.le_of_ble_eq_true rfl) dM_step_69 (fun r7 s6 => ?_)
        refine g_zeq X (tgt := 84) dM_step_72 (by decide) ?_ ?_
        · refine g_iconst X (-1) dM_step_84 (by decide) ?_
          exact g_iret X E dM_step_85
        · refine g_aload_n X dM_step_75 rfl ?_
          refine g_getI X fl_M_429 fb_12_49 k_102 dM_step_76 ?_
          refine g_bipush X 16 dM_step_79 (by decide) ?_
          refine g_cne X (tgt := 86) dM_step_81 (by decide) ?_ ?_
          · refine g_iconst X (-1) dM_step_84 (by decide) ?_
            exact g_iret X E dM_step_85
          · refine g_aload_n X dM_step_86 rfl ?_
            refine g_getN X fl_M_95 fb_12_50 k_102 r_102_50 dM_step_87 ?_
            refine g_bipush X 20 dM_step_90 (by decide) ?_
            refine g_iload_n X dM_step_92 rfl ?_
            refine g_imul X dM_step_93 ?_
            refine g_iload_n X dM_step_94 rfl ?_
            refine g_iadd X dM_step_95 ?_
            refine g_iald X k_130 ln_130 dM_step_96 ?_
            refine gf_jn (fun j114 => ∀ (s8 : Sg), GF C evI 114 [some (.ref (C.w.ad 102)), none, none, none, none] [] s8 (j114 s8)) ?_ ?_
            · intro s8
              refine g_aload_n X dM_step_114 rfl ?_
              refine g_aload_n X dM_step_115 rfl ?_
              refine g_getI X fl_M_429 fb_12_49 k_102 dM_step_116 ?_
              refine g_iconst X 1 dM_step_119 (by decide) ?_
              refine g_iadd X dM_step_120 ?_
              refine g_putI X fl_M_429 fb_12_49 fp_12_49 k_102 dM_step_121 (fun s9 => ?_)
              refine g_aload_n X dM_step_124 rfl ?_
              refine g_getI X fl_M_429 fb_12_49 k_102 dM_step_125 ?_
              exact g_iret X E dM_step_128
            · intro j114 hj114
              refine g_zne X (tgt := 114) dM_step_97 (by decide) ?_ ?_
              · refine g_aload_n X dM_step_100 rfl ?_
                refine g_getN X fl_M_95 fb_12_50 k_102 r_102_50 dM_step_101 ?_
                refine g_bipush X 20 dM_step_104 (by decide) ?_
                refine g_iload_n X dM_step_106 rfl ?_
                refine g_imul X dM_step_107 ?_
                refine g_iload_n X dM_step_108 rfl ?_
                refine g_iadd X dM_step_109 ?_
                refine g_iload_n X dM_step_110 rfl ?_
                refine g_iconst X 1 dM_step_111 (by decide) ?_
                refine g_iadd X dM_step_112 ?_
                refine g_iast X k_130 ln_130 dM_step_113 (fun s10 => ?_)
                exact gf_sub (hj114 s10) (by simp [lsub])
              · exact gf_sub (hj114 s6) (by simp [lsub])
def yM_ledFrom : MethodName := ⟨"LastWordHillModel", "ledFrom", "(II)I"⟩
abbrev cM_ledFrom : ByteArray := prog_14_method_97_code
theorem dM_ledFrom_0 : decode cM_ledFrom 0 = .ok (.iconst 0, 1) := by decide +kernel
theorem dM_ledFrom_1 : decode cM_ledFrom 1 = .ok (.istore_n 3, 1) := by decide +kernel
theorem dM_ledFrom_2 : decode cM_ledFrom 2 = .ok (.iconst 0, 1) := by decide +kernel
theorem dM_ledFrom_3 : decode cM_ledFrom 3 = .ok (.istore 4, 2) := by decide +kernel
theorem dM_ledFrom_5 : decode cM_ledFrom 5 = .ok (.iload 4, 2) := by decide +kernel
theorem dM_ledFrom_7 : decode cM_ledFrom 7 = .ok (.bipush 10, 2) := by decide +kernel
theorem dM_ledFrom_9 : decode cM_ledFrom 9 = .ok (.if_icmp .ge 82, 3) := by decide +kernel
theorem dM_ledFrom_91 : decode cM_ledFrom 91 = .ok (.iload_n 3, 1) := by decide +kernel
theorem dM_ledFrom_92 : decode cM_ledFrom 92 = .ok (.ireturn, 1) := by decide +kernel
theorem dM_ledFrom_12 : decode cM_ledFrom 12 = .ok (.iconst 0, 1) := by decide +kernel
theorem dM_ledFrom_13 : decode cM_ledFrom 13 = .ok (.istore 5, 2) := by decide +kernel
theorem dM_ledFrom_15 : decode cM_ledFrom 15 = .ok (.iload 5, 2) := by decide +kernel
theorem dM_ledFrom_17 : decode cM_ledFrom 17 = .ok (.bipush 20, 2) := by decide +kernel
theorem dM_ledFrom_19 : decode cM_ledFrom 19 = .ok (.if_icmp .ge 66, 3) := by decide +kernel
theorem dM_ledFrom_85 : decode cM_ledFrom 85 = .ok (.iinc 4 1, 3) := by decide +kernel
theorem dM_ledFrom_88 : decode cM_ledFrom 88 = .ok (.goto (-83), 3) := by decide +kernel
theorem dM_ledFrom_22 : decode cM_ledFrom 22 = .ok (.aload_n 0, 1) := by decide +kernel
theorem dM_ledFrom_23 : decode cM_ledFrom 23 = .ok (.iload_n 1, 1) := by decide +kernel
theorem dM_ledFrom_24 : decode cM_ledFrom 24 = .ok (.iload 4, 2) := by decide +kernel
theorem dM_ledFrom_26 : decode cM_ledFrom 26 = .ok (.invokevirtual 361, 3) := by decide +kernel
theorem dM_ledFrom_29 : decode cM_ledFrom 29 = .ok (.ifCond .eq 50, 3) := by decide +kernel
theorem dM_ledFrom_79 : decode cM_ledFrom 79 = .ok (.iinc 5 1, 3) := by decide +kernel
theorem dM_ledFrom_82 : decode cM_ledFrom 82 = .ok (.goto (-67), 3) := by decide +kernel
theorem dM_ledFrom_32 : decode cM_ledFrom 32 = .ok (.iload_n 2, 1) := by decide +kernel
theorem dM_ledFrom_33 : decode cM_ledFrom 33 = .ok (.iconst (-1), 1) := by decide +kernel
theorem dM_ledFrom_34 : decode cM_ledFrom 34 = .ok (.if_icmp .eq 9, 3) := by decide +kernel
theorem dM_ledFrom_43 : decode cM_ledFrom 43 = .ok (.aload_n 0, 1) := by decide +kernel
theorem dM_ledFrom_44 : decode cM_ledFrom 44 = .ok (.getfield 95, 3) := by decide +kernel
theorem dM_ledFrom_47 : decode cM_ledFrom 47 = .ok (.bipush 20, 2) := by decide +kernel
theorem dM_ledFrom_49 : decode cM_ledFrom 49 = .ok (.iload 4, 2) := by decide +kernel
theorem dM_ledFrom_51 : decode cM_ledFrom 51 = .ok (.imul, 1) := by decide +kernel
theorem dM_ledFrom_52 : decode cM_ledFrom 52 = .ok (.iload 5, 2) := by decide +kernel
theorem dM_ledFrom_54 : decode cM_ledFrom 54 = .ok (.iadd, 1) := by decide +kernel
theorem dM_ledFrom_55 : decode cM_ledFrom 55 = .ok (.iaload, 1) := by decide +kernel
theorem dM_ledFrom_56 : decode cM_ledFrom 56 = .ok (.ifCond .le 23, 3) := by decide +kernel
theorem dM_ledFrom_59 : decode cM_ledFrom 59 = .ok (.iload_n 3, 1) := by decide +kernel
theorem dM_ledFrom_60 : decode cM_ledFrom 60 = .ok (.iconst 1, 1) := by decide +kernel
theorem dM_ledFrom_61 : decode cM_ledFrom 61 = .ok (.aload_n 0, 1) := by decide +kernel
theorem dM_ledFrom_62 : decode cM_ledFrom 62 = .ok (.getfield 95, 3) := by decide +kernel
theorem dM_ledFrom_65 : decode cM_ledFrom 65 = .ok (.bipush 20, 2) := by decide +kernel
theorem dM_ledFrom_67 : decode cM_ledFrom 67 = .ok (.iload 4, 2) := by decide +kernel
theorem dM_ledFrom_69 : decode cM_ledFrom 69 = .ok (.imul, 1) := by decide +kernel
theorem dM_ledFrom_70 : decode cM_ledFrom 70 = .ok (.iload 5, 2) := by decide +kernel
theorem dM_ledFrom_72 : decode cM_ledFrom 72 = .ok (.iadd, 1) := by decide +kernel
theorem dM_ledFrom_73 : decode cM_ledFrom 73 = .ok (.iaload, 1) := by decide +kernel
theorem dM_ledFrom_74 : decode cM_ledFrom 74 = .ok (.iconst 1, 1) := by decide +kernel
theorem dM_ledFrom_75 : decode cM_ledFrom 75 = .ok (.isub, 1) := by decide +kernel
theorem dM_ledFrom_76 : decode cM_ledFrom 76 = .ok (.ishl, 1) := by decide +kernel
theorem dM_ledFrom_77 : decode cM_ledFrom 77 = .ok (.ior, 1) := by decide +kernel
theorem dM_ledFrom_78 : decode cM_ledFrom 78 = .ok (.istore_n 3, 1) := by decide +kernel
theorem dM_ledFrom_37 : decode cM_ledFrom 37 = .ok (.iload_n 2, 1) := by decide +kernel
theorem dM_ledFrom_38 : decode cM_ledFrom 38 = .ok (.iload 5, 2) := by decide +kernel
theorem dM_ledFrom_40 : decode cM_ledFrom 40 = .ok (.if_icmp .ne 39, 3) := by decide +kernel
def fM_ledFrom (v1 : Int32) (v2 : Int32) (s0 : Sg) : Option (Int32 × Sg) := lp FU (fun q5 (u5 : Int32 × Int32) (s1 : Sg) => if 10 ≤ u5.2 then (some (u5.1, s1)) else (lp FU (fun q15 (u15 : Int32 × Int32) (s2 : Sg) => if 20 ≤ u15.2 then (q5 (u15.1, (u5.2 + 1)) s2) else (bi (fM_has v1 u5.2 s2) fun r4 s3 => bnd (fun (a79_3 : Int32) (s5 : Sg) => q15 (a79_3, (u15.2 + 1)) s5) fun j79 => if r4 = 0 then (j79 u15.1 s3) else (bnd (fun (s6 : Sg) => gd ((20 * u5.2) + u15.2) 200 (if (s6 130 (ix ((20 * u5.2) + u15.2))) ≤ 0 then (j79 u15.1 s6) else (gd ((20 * u5.2) + u15.2) 200 (bnd (u15.1 ||| (1 <<< (((s6 130 (ix ((20 * u5.2) + u15.2))) - 1) &&& 31))) fun x7 => j79 x7 s6)))) fun j43 => if v2 = (-1) then (j43 s3) else (if v2 = u15.2 then (j43 s3) else (j79 u15.1 s3))))) (u5.1, 0) s1)) (0, 0) s0
set_option maxHeartbeats 4000000 in
set_option maxRecDepth 100000 in
theorem okM_ledFrom (v1 : Int32) (v2 : Int32) (s0 : Sg) : ∀ (l : Launch) (w : WC), Ok l w yM_ledFrom cM_ledFrom 6 (some .int) 2 evI [.ref (w.ad 102), .int v1, .int v2] s0 (fM_ledFrom v1 v2 s0) := by
  refine ok_in (ev := fun _ => evI) (av := fun w => [.ref (w.ad 102), .int v1, .int v2]) "LastWordHillModel" rfl (by decide +kernel) (fun _ => rfl) (fun _ => Nat.le_of_ble_eq_true rfl) ?_
  intro C X E
  show GF C evI 0 [some (.ref (C.w.ad 102)), some (.int v1), some (.int v2), none, none, none] [] s0 (fM_ledFrom v1 v2 s0)
  unfold fM_ledFrom
  refine g_iconst X 0 dM_ledFrom_0 (by decide) ?_
  refine g_istore_n X [some (.ref (C.w.ad 102)), some (.int v1), some (.int v2), some (.int 0), none, none] dM_ledFrom_1 (by decide) (Nat.le_of_ble_eq_true rfl) rfl ?_
  refine g_iconst X 0 dM_ledFrom_2 (by decide) ?_
  refine g_istore X [some (.ref (C.w.ad 102)), some (.int v1), some (.int v2), some (.int 0), some (.int 0), none] dM_ledFrom_3 (by decide) (Nat.le_of_ble_eq_true rfl) rfl ?_
  refine gf_sub (L' := [some (.ref (C.w.ad 102)), some (.int v1), some (.int v2), some (.int 0), some (.int 0), none]) ?_ (by simp [lsub])
  refine gf_lp (Lf := fun (u5 : Int32 × Int32) => [some (.ref (C.w.ad 102)), some (.int v1), some (.int v2), some (.int u5.1), some (.int u5.2), none]) (fun q5 hq5 u5 s1 => ?_) FU (0, 0) s0
  refine g_iload X dM_ledFrom_5 rfl ?_
  refine g_bipush X 10 dM_ledFrom_7 (by decide) ?_
  refine g_cge X (tgt := 91) dM_ledFrom_9 (by decide) ?_ ?_
  · refine g_iload_n X dM_ledFrom_91 rfl ?_
    exact g_iret X E dM_ledFrom_92
  · refine g_iconst X 0 dM_ledFrom_12 (by decide) ?_
    refine g_istore X [some (.ref (C.w.ad 102)), some (.int v1), some (.int v2), some (.int u5.1), some (.int u5.2), some (.int 0)] dM_ledFrom_13 (by decide) (Nat.le_of_ble_eq_true rfl) rfl ?_
    refine gf_sub (L' := [some (.ref (C.w.ad 102)), some (.int v1), some (.int v2), some (.int u5.1), some (.int u5.2), some (.int 0)]) ?_ (by simp [lsub])
    refine gf_lp (Lf := fun (u15 : Int32 × Int32) => [some (.ref (C.w.ad 102)), some (.int v1), some (.int v2), some (.int u15.1), some (.int u5.2), some (.int u15.2)]) (fun q15 hq15 u15 s2 => ?_) FU (u5.1, 0) s1
    refine g_iload X dM_ledFrom_15 rfl ?_
    refine g_bipush X 20 dM_ledFrom_17 (by decide) ?_
    refine g_cge X (tgt := 85) dM_ledFrom_19 (by decide) ?_ ?_
    · refine g_iinc X (u5.2 + 1) [some (.ref (C.w.ad 102)), some (.int v1), some (.int v2), some (.int u15.1), some (.int (u5.2 + 1)), some (.int u15.2)] dM_ledFrom_85 rfl rfl (by decide) rfl ?_
      refine g_goto X 5 dM_ledFrom_88 (by decide) ?_
      exact gf_sub (hq5 (u15.1, (u5.2 + 1)) s2) (by simp [lsub])
    · refine g_aload_n X dM_ledFrom_22 rfl ?_
      refine g_iload_n X dM_ledFrom_23 rfl ?_
      refine g_iload X dM_ledFrom_24 rfl ?_
      refine g_virtI X [.int v1, .int u5.2] [] k_102 mm_M_has mv_M_has ml_M_361 (okM_has v1 u5.2 s2 C.l C.w) rfl (by decide) rfl (Nat.le_of_ble_eq_true rfl) dM_ledFrom_26 (fun r4 s3 => ?_)
      refine gf_jn (fun j79 => ∀ (a79_3 : Int32) (s5 : Sg), GF C evI 79 [some (.ref (C.w.ad 102)), some (.int v1), some (.int v2), some (.int a79_3), some (.int u5.2), some (.int u15.2)] [] s5 (j79 a79_3 s5)) ?_ ?_
      · intro a79_3 s5
        refine g_iinc X (u15.2 + 1) [some (.ref (C.w.ad 102)), some (.int v1), some (.int v2), some (.int a79_3), some (.int u5.2), some (.int (u15.2 + 1))] dM_ledFrom_79 rfl rfl (by decide) rfl ?_
        refine g_goto X 15 dM_ledFrom_82 (by decide) ?_
        exact gf_sub (hq15 (a79_3, (u15.2 + 1)) s5) (by simp [lsub])
      · intro j79 hj79
        refine g_zeq X (tgt := 79) dM_ledFrom_29 (by decide) ?_ ?_
        · exact gf_sub (hj79 u15.1 s3) (by simp [lsub])
        · refine g_iload_n X dM_ledFrom_32 rfl ?_
          refine g_iconst X (-1) dM_ledFrom_33 (by decide) ?_
          refine gf_jn (fun j43 => ∀ (s6 : Sg), GF C evI 43 [some (.ref (C.w.ad 102)), some (.int v1), some (.int v2), some (.int u15.1), some (.int u5.2), some (.int u15.2)] [] s6 (j43 s6)) ?_ ?_
          · intro s6
            refine g_aload_n X dM_ledFrom_43 rfl ?_
            refine g_getN X fl_M_95 fb_12_50 k_102 r_102_50 dM_ledFrom_44 ?_
            refine g_bipush X 20 dM_ledFrom_47 (by decide) ?_
            refine g_iload X dM_ledFrom_49 rfl ?_
            refine g_imul X dM_ledFrom_51 ?_
            refine g_iload X dM_ledFrom_52 rfl ?_
            refine g_iadd X dM_ledFrom_54 ?_
            refine g_iald X k_130 ln_130 dM_ledFrom_55 ?_
            refine g_zle X (tgt := 79) dM_ledFrom_56 (by decide) ?_ ?_
            · exact gf_sub (hj79 u15.1 s6) (by simp [lsub])
            · refine g_iload_n X dM_ledFrom_59 rfl ?_
              refine g_iconst X 1 dM_ledFrom_60 (by decide) ?_
              refine g_aload_n X dM_ledFrom_61 rfl ?_
              refine g_getN X fl_M_95 fb_12_50 k_102 r_102_50 dM_ledFrom_62 ?_
              refine g_bipush X 20 dM_ledFrom_65 (by decide) ?_
              refine g_iload X dM_ledFrom_67 rfl ?_
              refine g_imul X dM_ledFrom_69 ?_
              refine g_iload X dM_ledFrom_70 rfl ?_
              refine g_iadd X dM_ledFrom_72 ?_
              refine g_iald X k_130 ln_130 dM_ledFrom_73 ?_
              refine g_iconst X 1 dM_ledFrom_74 (by decide) ?_
              refine g_isub X dM_ledFrom_75 ?_
              refine g_ishl X dM_ledFrom_76 ?_
              refine g_ior X dM_ledFrom_77 ?_
              refine gf_nm (fun x7 => ?_)
              refine g_istore_n X [some (.ref (C.w.ad 102)), some (.int v1), some (.int v2), some (.int x7), some (.int u5.2), some (.int u15.2)] dM_ledFrom_78 (by decide) (Nat.le_of_ble_eq_true rfl) rfl ?_
              exact gf_sub (hj79 x7 s6) (by simp [lsub])
          · intro j43 hj43
            refine g_ceq X (tgt := 43) dM_ledFrom_34 (by decide) ?_ ?_
            · exact gf_sub (hj43 s3) (by simp [lsub])
            · refine g_iload_n X dM_ledFrom_37 rfl ?_
              refine g_iload X dM_ledFrom_38 rfl ?_
              refine g_cne X (tgt := 79) dM_ledFrom_40 (by decide) ?_ ?_
              · exact gf_sub (hj43 s3) (by simp [lsub])
              · exact gf_sub (hj79 u15.1 s3) (by simp [lsub])
def yM_down : MethodName := ⟨"LastWordHillModel", "down", "(III)I"⟩
abbrev cM_down : ByteArray := prog_14_method_98_code
theorem dM_down_0 : decode cM_down 0 = .ok (.aload_n 0, 1) := by decide +kernel
theorem dM_down_1 : decode cM_down 1 = .ok (.iconst 0, 1) := by decide +kernel
theorem dM_down_2 : decode cM_down 2 = .ok (.putfield 134, 3) := by decide +kernel
theorem dM_down_5 : decode cM_down 5 = .ok (.aload_n 0, 1) := by decide +kernel
theorem dM_down_6 : decode cM_down 6 = .ok (.iload_n 1, 1) := by decide +kernel
theorem dM_down_7 : decode cM_down 7 = .ok (.iconst 0, 1) := by decide +kernel
theorem dM_down_8 : decode cM_down 8 = .ok (.bipush 9, 2) := by decide +kernel
theorem dM_down_10 : decode cM_down 10 = .ok (.invokevirtual 153, 3) := by decide +kernel
theorem dM_down_13 : decode cM_down 13 = .ok (.ifCond .eq 25, 3) := by decide +kernel
theorem dM_down_38 : decode cM_down 38 = .ok (.iconst (-1), 1) := by decide +kernel
theorem dM_down_39 : decode cM_down 39 = .ok (.ireturn, 1) := by decide +kernel
theorem dM_down_16 : decode cM_down 16 = .ok (.aload_n 0, 1) := by decide +kernel
theorem dM_down_17 : decode cM_down 17 = .ok (.iload_n 2, 1) := by decide +kernel
theorem dM_down_18 : decode cM_down 18 = .ok (.iconst 0, 1) := by decide +kernel
theorem dM_down_19 : decode cM_down 19 = .ok (.bipush 9, 2) := by decide +kernel
theorem dM_down_21 : decode cM_down 21 = .ok (.invokevirtual 153, 3) := by decide +kernel
theorem dM_down_24 : decode cM_down 24 = .ok (.ifCond .eq 14, 3) := by decide +kernel
theorem dM_down_27 : decode cM_down 27 = .ok (.aload_n 0, 1) := by decide +kernel
theorem dM_down_28 : decode cM_down 28 = .ok (.iload_n 3, 1) := by decide +kernel
theorem dM_down_29 : decode cM_down 29 = .ok (.iconst (-1), 1) := by decide +kernel
theorem dM_down_30 : decode cM_down 30 = .ok (.bipush 19, 2) := by decide +kernel
theorem dM_down_32 : decode cM_down 32 = .ok (.invokevirtual 153, 3) := by decide +kernel
theorem dM_down_35 : decode cM_down 35 = .ok (.ifCond .ne 5, 3) := by decide +kernel
theorem dM_down_40 : decode cM_down 40 = .ok (.iconst 1, 1) := by decide +kernel
theorem dM_down_41 : decode cM_down 41 = .ok (.iload_n 1, 1) := by decide +kernel
theorem dM_down_42 : decode cM_down 42 = .ok (.ishl, 1) := by decide +kernel
theorem dM_down_43 : decode cM_down 43 = .ok (.istore 4, 2) := by decide +kernel
theorem dM_down_45 : decode cM_down 45 = .ok (.iconst 0, 1) := by decide +kernel
theorem dM_down_46 : decode cM_down 46 = .ok (.istore 5, 2) := by decide +kernel
theorem dM_down_48 : decode cM_down 48 = .ok (.iload 5, 2) := by decide +kernel
theorem dM_down_50 : decode cM_down 50 = .ok (.bipush 10, 2) := by decide +kernel
theorem dM_down_52 : decode cM_down 52 = .ok (.if_icmp .ge 34, 3) := by decide +kernel
theorem dM_down_86 : decode cM_down 86 = .ok (.iconst (-1), 1) := by decide +kernel
theorem dM_down_87 : decode cM_down 87 = .ok (.ireturn, 1) := by decide +kernel
theorem dM_down_55 : decode cM_down 55 = .ok (.aload_n 0, 1) := by decide +kernel
theorem dM_down_56 : decode cM_down 56 = .ok (.iload 4, 2) := by decide +kernel
theorem dM_down_58 : decode cM_down 58 = .ok (.iload_n 2, 1) := by decide +kernel
theorem dM_down_59 : decode cM_down 59 = .ok (.invokevirtual 361, 3) := by decide +kernel
theorem dM_down_62 : decode cM_down 62 = .ok (.ifCond .eq 6, 3) := by decide +kernel
theorem dM_down_68 : decode cM_down 68 = .ok (.iload 4, 2) := by decide +kernel
theorem dM_down_70 : decode cM_down 70 = .ok (.aload_n 0, 1) := by decide +kernel
theorem dM_down_71 : decode cM_down 71 = .ok (.iload 4, 2) := by decide +kernel
theorem dM_down_73 : decode cM_down 73 = .ok (.iload_n 3, 1) := by decide +kernel
theorem dM_down_74 : decode cM_down 74 = .ok (.invokevirtual 432, 3) := by decide +kernel
theorem mm_M_ledFrom : MMc yM_ledFrom cM_ledFrom 6 (some .int) 2 := ⟨hz_in 2009 (by decide +kernel) (by decide +kernel), hz_in 147 (by decide +kernel) (by decide +kernel), by decide +kernel, by decide⟩
theorem mv_M_ledFrom : MMv yM_ledFrom 12 := ⟨hz_in 2008 (by decide +kernel) (by decide +kernel), hz_in 121 (by decide +kernel) (by decide +kernel), _, _, rfl, by decide⟩
theorem ml_M_432 : Cond.methodLink "LastWordHillModel" 432 yM_ledFrom ∈ hz_wt := hz_in 2006 (by decide +kernel) (by decide +kernel)
theorem dM_down_77 : decode cM_down 77 = .ok (.ior, 1) := by decide +kernel
theorem dM_down_78 : decode cM_down 78 = .ok (.istore 4, 2) := by decide +kernel
theorem dM_down_80 : decode cM_down 80 = .ok (.iinc 5 1, 3) := by decide +kernel
theorem dM_down_83 : decode cM_down 83 = .ok (.goto (-35), 3) := by decide +kernel
theorem dM_down_65 : decode cM_down 65 = .ok (.iload 5, 2) := by decide +kernel
theorem dM_down_67 : decode cM_down 67 = .ok (.ireturn, 1) := by decide +kernel
def fM_down (v1 : Int32) (v2 : Int32) (v3 : Int32) (s0 : Sg) : Option (Int32 × Sg) := bnd (pt s0 102 0 0) fun s1 => bi (fM_isIn v1 0 9 s1) fun r3 s2 => if r3 = 0 then (some ((-1), s2)) else (bi (fM_isIn v2 0 9 s2) fun r5 s4 => if r5 = 0 then (some ((-1), s4)) else (bi (fM_isIn v3 (-1) 19 s4) fun r7 s6 => if r7 = 0 then (some ((-1), s6)) else (lp FU (fun q48 (u48 : Int32 × Int32) (s8 : Sg) => if 10 ≤ u48.2 then (some ((-1), s8)) else (bi (fM_has u48.1 v2 s8) fun r10 s9 => if r10 = 0 then (bi (fM_ledFrom u48.1 v3 s9) fun r12 s11 => q48 ((u48.1 ||| r12), (u48.2 + 1)) s11) else (some (u48.2, s9)))) ((1 <<< (v1 &&& 31)), 0) s6)))
set_option maxHeartbeats 4000000 in
set_option maxRecDepth 100000 in
theorem okM_down (v1 : Int32) (v2 : Int32) (v3 : Int32) (s0 : Sg) : ∀ (l : Launch) (w : WC), Ok l w yM_down cM_down 6 (some .int) 3 evI [.ref (w.ad 102), .int v1, .int v2, .int v3] s0 (fM_down v1 v2 v3 s0) := by
  refine ok_in (ev := fun _ => evI) (av := fun w => [.ref (w.ad 102), .int v1, .int v2, .int v3]) "LastWordHillModel" rfl (by decide +kernel) (fun _ => rfl) (fun _ => Nat.le_of_ble_eq_true rfl) ?_
  intro C X E
  show GF C evI 0 [some (.ref (C.w.ad 102)), some (.int v1), some (.int v2), some (.int v3), none, none] [] s0 (fM_down v1 v2 v3 s0)
  unfold fM_down
  refine g_aload_n X dM_down_0 rfl ?_
  refine g_iconst X 0 dM_down_1 (by decide) ?_
  refine g_putI X fl_M_134 fb_12_0 fp_12_0 k_102 dM_down_2 (fun s1 => ?_)
  refine g_aload_n X dM_down_5 rfl ?_
  refine g_iload_n X dM_down_6 rfl ?_
  refine g_iconst X 0 dM_down_7 (by decide) ?_
  refine g_bipush X 9 dM_down_8 (by decide) ?_
  refine g_virtI X [.int v1, .int 0, .int 9] [] k_102 mm_M_isIn mv_M_isIn ml_M_153 (okM_isIn v1 0 9 s1 C.l C.w) rfl (by decide) rfl (Nat.le_of_ble_eq_true rfl) dM_down_10 (fun r3 s2 => ?_)
  refine g_zeq X (tgt := 38) dM_down_13 (by decide) ?_ ?_
  · refine g_iconst X (-1) dM_down_38 (by decide) ?_
    exact g_iret X E dM_down_39
  · refine g_aload_n X dM_down_16 rfl ?_
    refine g_iload_n X dM_down_17 rfl ?_
    refine g_iconst X 0 dM_down_18 (by decide) ?_
    refine g_bipush X 9 dM_down_19 (by decide) ?_
    refine g_virtI X [.int v2, .int 0, .int 9] [] k_102 mm_M_isIn mv_M_isIn ml_M_153 (okM_isIn v2 0 9 s2 C.l C.w) rfl (by decide) rfl (Nat.le_of_ble_eq_true rfl) dM_down_21 (fun r5 s4 => ?_)
    refine g_zeq X (tgt := 38) dM_down_24 (by decide) ?_ ?_
    · refine g_iconst X (-1) dM_down_38 (by decide) ?_
      exact g_iret X E dM_down_39
    · refine g_aload_n X dM_down_27 rfl ?_
      refine g_iload_n X dM_down_28 rfl ?_
      refine g_iconst X (-1) dM_down_29 (by decide) ?_
      refine g_bipush X 19 dM_down_30 (by decide) ?_
      refine g_virtI X [.int v3, .int (-1), .int 19] [] k_102 mm_M_isIn mv_M_isIn ml_M_153 (okM_isIn v3 (-1) 19 s4 C.l C.w) rfl (by decide) rfl (Nat.le_of_ble_eq_true rfl) dM_down_32 (fun r7 s6 => ?_)
      refine g_zne X (tgt := 40) dM_down_35 (by decide) ?_ ?_
      · refine g_iconst X (-1) dM_down_38 (by decide) ?_
        exact g_iret X E dM_down_39
      · refine g_iconst X 1 dM_down_40 (by decide) ?_
        refine g_iload_n X dM_down_41 rfl ?_
        refine g_ishl X dM_down_42 ?_
        refine g_istore X [some (.ref (C.w.ad 102)), some (.int v1), some (.int v2), some (.int v3), some (.int (1 <<< (v1 &&& 31))), none] dM_down_43 (by decide) (Nat.le_of_ble_eq_true rfl) rfl ?_
        refine g_iconst X 0 dM_down_45 (by decide) ?_
        refine g_istore X [some (.ref (C.w.ad 102)), some (.int v1), some (.int v2), some (.int v3), some (.int (1 <<< (v1 &&& 31))), some (.int 0)] dM_down_46 (by decide) (Nat.le_of_ble_eq_true rfl) rfl ?_
        refine gf_sub (L' := [some (.ref (C.w.ad 102)), none, some (.int v2), some (.int v3), some (.int (1 <<< (v1 &&& 31))), some (.int 0)]) ?_ (by simp [lsub])
        refine gf_lp (Lf := fun (u48 : Int32 × Int32) => [some (.ref (C.w.ad 102)), none, some (.int v2), some (.int v3), some (.int u48.1), some (.int u48.2)]) (fun q48 hq48 u48 s8 => ?_) FU ((1 <<< (v1 &&& 31)), 0) s6
        refine g_iload X dM_down_48 rfl ?_
        refine g_bipush X 10 dM_down_50 (by decide) ?_
        refine g_cge X (tgt := 86) dM_down_52 (by decide) ?_ ?_
        · refine g_iconst X (-1) dM_down_86 (by decide) ?_
          exact g_iret X E dM_down_87
        · refine g_aload_n X dM_down_55 rfl ?_
          refine g_iload X dM_down_56 rfl ?_
          refine g_iload_n X dM_down_58 rfl ?_
          refine g_virtI X [.int u48.1, .int v2] [] k_102 mm_M_has mv_M_has ml_M_361 (okM_has u48.1 v2 s8 C.l C.w) rfl (by decide) rfl (Nat.le_of_ble_eq_true rfl) dM_down_59 (fun r10 s9 => ?_)
          refine g_zeq X (tgt := 68) dM_down_62 (by decide) ?_ ?_
          · refine g_iload X dM_down_68 rfl ?_
            refine g_aload_n X dM_down_70 rfl ?_
            refine g_iload X dM_down_71 rfl ?_
            refine g_iload_n X dM_down_73 rfl ?_
            refine g_virtI X [.int u48.1, .int v3] [.int u48.1] k_102 mm_M_ledFrom mv_M_ledFrom ml_M_432 (okM_ledFrom u48.1 v3 s9 C.l C.w) rfl (by decide) rfl (Nat.le_of_ble_eq_true rfl) dM_down_74 (fun r12 s11 => ?_)
            refine g_ior X dM_down_77 ?_
            refine g_istore X [some (.ref (C.w.ad 102)), none, some (.int v2), some (.int v3), some (.int (u48.1 ||| r12)), some (.int u48.2)] dM_down_78 (by decide) (Nat.le_of_ble_eq_true rfl) rfl ?_
            refine g_iinc X (u48.2 + 1) [some (.ref (C.w.ad 102)), none, some (.int v2), some (.int v3), some (.int (u48.1 ||| r12)), some (.int (u48.2 + 1))] dM_down_80 rfl rfl (by decide) rfl ?_
            refine g_goto X 48 dM_down_83 (by decide) ?_
            exact gf_sub (hq48 ((u48.1 ||| r12), (u48.2 + 1)) s11) (by simp [lsub])
          · refine g_iload X dM_down_65 rfl ?_
            exact g_iret X E dM_down_67
def yM_spell : MethodName := ⟨"LastWordHillModel", "spell", "(III)Z"⟩
abbrev cM_spell : ByteArray := prog_14_method_99_code
theorem dM_spell_0 : decode cM_spell 0 = .ok (.aload_n 0, 1) := by decide +kernel
theorem dM_spell_1 : decode cM_spell 1 = .ok (.iconst 0, 1) := by decide +kernel
theorem dM_spell_2 : decode cM_spell 2 = .ok (.putfield 134, 3) := by decide +kernel
theorem dM_spell_5 : decode cM_spell 5 = .ok (.aload_n 0, 1) := by decide +kernel
theorem dM_spell_6 : decode cM_spell 6 = .ok (.iload_n 1, 1) := by decide +kernel
theorem dM_spell_7 : decode cM_spell 7 = .ok (.iconst 0, 1) := by decide +kernel
theorem dM_spell_8 : decode cM_spell 8 = .ok (.bipush 7, 2) := by decide +kernel
theorem dM_spell_10 : decode cM_spell 10 = .ok (.invokevirtual 153, 3) := by decide +kernel
theorem dM_spell_13 : decode cM_spell 13 = .ok (.ifCond .eq 13, 3) := by decide +kernel
theorem dM_spell_26 : decode cM_spell 26 = .ok (.iconst 0, 1) := by decide +kernel
theorem dM_spell_27 : decode cM_spell 27 = .ok (.ireturn, 1) := by decide +kernel
theorem dM_spell_16 : decode cM_spell 16 = .ok (.aload_n 0, 1) := by decide +kernel
theorem dM_spell_17 : decode cM_spell 17 = .ok (.iload_n 2, 1) := by decide +kernel
theorem dM_spell_18 : decode cM_spell 18 = .ok (.iconst 0, 1) := by decide +kernel
theorem dM_spell_19 : decode cM_spell 19 = .ok (.iconst 5, 1) := by decide +kernel
theorem dM_spell_20 : decode cM_spell 20 = .ok (.invokevirtual 153, 3) := by decide +kernel
theorem dM_spell_23 : decode cM_spell 23 = .ok (.ifCond .ne 5, 3) := by decide +kernel
theorem dM_spell_28 : decode cM_spell 28 = .ok (.iconst 1, 1) := by decide +kernel
theorem dM_spell_29 : decode cM_spell 29 = .ok (.istore 4, 2) := by decide +kernel
theorem dM_spell_31 : decode cM_spell 31 = .ok (.iconst 0, 1) := by decide +kernel
theorem dM_spell_32 : decode cM_spell 32 = .ok (.istore 5, 2) := by decide +kernel
theorem dM_spell_34 : decode cM_spell 34 = .ok (.iload 5, 2) := by decide +kernel
theorem dM_spell_36 : decode cM_spell 36 = .ok (.iload_n 2, 1) := by decide +kernel
theorem dM_spell_37 : decode cM_spell 37 = .ok (.if_icmp .ge 16, 3) := by decide +kernel
theorem dM_spell_53 : decode cM_spell 53 = .ok (.aload_n 0, 1) := by decide +kernel
theorem dM_spell_54 : decode cM_spell 54 = .ok (.iload_n 3, 1) := by decide +kernel
theorem dM_spell_55 : decode cM_spell 55 = .ok (.iconst 0, 1) := by decide +kernel
theorem dM_spell_56 : decode cM_spell 56 = .ok (.iload 4, 2) := by decide +kernel
theorem dM_spell_58 : decode cM_spell 58 = .ok (.iconst 1, 1) := by decide +kernel
theorem dM_spell_59 : decode cM_spell 59 = .ok (.isub, 1) := by decide +kernel
theorem dM_spell_60 : decode cM_spell 60 = .ok (.invokevirtual 153, 3) := by decide +kernel
theorem dM_spell_63 : decode cM_spell 63 = .ok (.ifCond .ne 5, 3) := by decide +kernel
theorem dM_spell_68 : decode cM_spell 68 = .ok (.aload_n 0, 1) := by decide +kernel
theorem dM_spell_69 : decode cM_spell 69 = .ok (.getfield 98, 3) := by decide +kernel
theorem fl_M_98 : FLk "LastWordHillModel" 98 12 51 := ⟨_, _, _, rfl, by decide, hz_in 1463 (by decide +kernel) (by decide +kernel), nL12, by decide, by decide⟩
theorem k_131 : hz_kd 131 = 13 := by decide
theorem fb_12_51 : (hz_bs 12)[51]? = some true := by decide
theorem r_102_51 : hz_rf 102 51 = 131 := by decide
theorem dM_spell_72 : decode cM_spell 72 = .ok (.iload_n 1, 1) := by decide +kernel
theorem dM_spell_73 : decode cM_spell 73 = .ok (.iload_n 2, 1) := by decide +kernel
theorem dM_spell_74 : decode cM_spell 74 = .ok (.iastore, 1) := by decide +kernel
theorem ln_131 : hz_ln 131 = 8 := by decide
theorem dM_spell_75 : decode cM_spell 75 = .ok (.iload_n 3, 1) := by decide +kernel
theorem dM_spell_76 : decode cM_spell 76 = .ok (.istore 5, 2) := by decide +kernel
theorem dM_spell_78 : decode cM_spell 78 = .ok (.iload_n 2, 1) := by decide +kernel
theorem dM_spell_79 : decode cM_spell 79 = .ok (.iconst 1, 1) := by decide +kernel
theorem dM_spell_80 : decode cM_spell 80 = .ok (.isub, 1) := by decide +kernel
theorem dM_spell_81 : decode cM_spell 81 = .ok (.istore 6, 2) := by decide +kernel
theorem dM_spell_83 : decode cM_spell 83 = .ok (.iload 6, 2) := by decide +kernel
theorem dM_spell_85 : decode cM_spell 85 = .ok (.ifCond .lt 32, 3) := by decide +kernel
theorem dM_spell_117 : decode cM_spell 117 = .ok (.iconst 1, 1) := by decide +kernel
theorem dM_spell_118 : decode cM_spell 118 = .ok (.ireturn, 1) := by decide +kernel
theorem dM_spell_88 : decode cM_spell 88 = .ok (.aload_n 0, 1) := by decide +kernel
theorem dM_spell_89 : decode cM_spell 89 = .ok (.getfield 101, 3) := by decide +kernel
theorem fl_M_101 : FLk "LastWordHillModel" 101 12 52 := ⟨_, _, _, rfl, by decide, hz_in 1464 (by decide +kernel) (by decide +kernel), nL12, by decide, by decide⟩
theorem k_132 : hz_kd 132 = 13 := by decide
theorem fb_12_52 : (hz_bs 12)[52]? = some true := by decide
theorem r_102_52 : hz_rf 102 52 = 132 := by decide
theorem dM_spell_92 : decode cM_spell 92 = .ok (.iconst 5, 1) := by decide +kernel
theorem dM_spell_93 : decode cM_spell 93 = .ok (.iload_n 1, 1) := by decide +kernel
theorem dM_spell_94 : decode cM_spell 94 = .ok (.imul, 1) := by decide +kernel
theorem dM_spell_95 : decode cM_spell 95 = .ok (.iload 6, 2) := by decide +kernel
theorem dM_spell_97 : decode cM_spell 97 = .ok (.iadd, 1) := by decide +kernel
theorem dM_spell_98 : decode cM_spell 98 = .ok (.iload 5, 2) := by decide +kernel
theorem dM_spell_100 : decode cM_spell 100 = .ok (.bipush 10, 2) := by decide +kernel
theorem dM_spell_102 : decode cM_spell 102 = .ok (.irem, 1) := by decide +kernel
theorem dM_spell_103 : decode cM_spell 103 = .ok (.iastore, 1) := by decide +kernel
theorem ln_132 : hz_ln 132 = 40 := by decide
theorem dM_spell_104 : decode cM_spell 104 = .ok (.iload 5, 2) := by decide +kernel
theorem dM_spell_106 : decode cM_spell 106 = .ok (.bipush 10, 2) := by decide +kernel
theorem dM_spell_108 : decode cM_spell 108 = .ok (.idiv, 1) := by decide +kernel
theorem dM_spell_109 : decode cM_spell 109 = .ok (.istore 5, 2) := by decide +kernel
theorem dM_spell_111 : decode cM_spell 111 = .ok (.iinc 6 (-1), 3) := by decide +kernel
theorem dM_spell_114 : decode cM_spell 114 = .ok (.goto (-31), 3) := by decide +kernel
theorem dM_spell_66 : decode cM_spell 66 = .ok (.iconst 0, 1) := by decide +kernel
theorem dM_spell_67 : decode cM_spell 67 = .ok (.ireturn, 1) := by decide +kernel
theorem dM_spell_40 : decode cM_spell 40 = .ok (.iload 4, 2) := by decide +kernel
theorem dM_spell_42 : decode cM_spell 42 = .ok (.bipush 10, 2) := by decide +kernel
theorem dM_spell_44 : decode cM_spell 44 = .ok (.imul, 1) := by decide +kernel
theorem dM_spell_45 : decode cM_spell 45 = .ok (.istore 4, 2) := by decide +kernel
theorem dM_spell_47 : decode cM_spell 47 = .ok (.iinc 5 1, 3) := by decide +kernel
theorem dM_spell_50 : decode cM_spell 50 = .ok (.goto (-16), 3) := by decide +kernel
def fM_spell (v1 : Int32) (v2 : Int32) (v3 : Int32) (s0 : Sg) : Option (Int32 × Sg) := bnd (pt s0 102 0 0) fun s1 => bi (fM_isIn v1 0 7 s1) fun r3 s2 => if r3 = 0 then (gb 0 (some (0, s2))) else (bi (fM_isIn v2 0 5 s2) fun r5 s4 => if r5 = 0 then (gb 0 (some (0, s4))) else (lp FU (fun q34 (u34 : Int32 × Int32) (s6 : Sg) => if v2 ≤ u34.2 then (bi (fM_isIn v3 0 (u34.1 - 1) s6) fun r8 s7 => if r8 = 0 then (gb 0 (some (0, s7))) else (gd v1 8 (bnd (pt s7 131 (ix v1) v2) fun s9 => lp FU (fun q83 (u83 : Int32 × Int32) (s10 : Sg) => if u83.2 < 0 then (gb 1 (some (1, s10))) else (gz 10 (gd ((5 * v1) + u83.2) 40 (bnd (pt s10 132 (ix ((5 * v1) + u83.2)) (u83.1 - u83.1 / 10 * 10)) fun s11 => gz 10 (q83 ((u83.1 / 10), (u83.2 + (-1))) s11))))) (v3, (v2 - 1)) s9))) else (q34 ((u34.1 * 10), (u34.2 + 1)) s6)) (1, 0) s4))
set_option maxHeartbeats 4000000 in
set_option maxRecDepth 100000 in
theorem okM_spell (v1 : Int32) (v2 : Int32) (v3 : Int32) (s0 : Sg) : ∀ (l : Launch) (w : WC), Ok l w yM_spell cM_spell 7 (some .boolean) 2 evI [.ref (w.ad 102), .int v1, .int v2, .int v3] s0 (fM_spell v1 v2 v3 s0) := by
  refine ok_in (ev := fun _ => evI) (av := fun w => [.ref (w.ad 102), .int v1, .int v2, .int v3]) "LastWordHillModel" rfl (by decide +kernel) (fun _ => rfl) (fun _ => Nat.le_of_ble_eq_true rfl) ?_
  intro C X E
  show GF C evI 0 [some (.ref (C.w.ad 102)), some (.int v1), some (.int v2), some (.int v3), none, none, none] [] s0 (fM_spell v1 v2 v3 s0)
  unfold fM_spell
  refine g_aload_n X dM_spell_0 rfl ?_
  refine g_iconst X 0 dM_spell_1 (by decide) ?_
  refine g_putI X fl_M_134 fb_12_0 fp_12_0 k_102 dM_spell_2 (fun s1 => ?_)
  refine g_aload_n X dM_spell_5 rfl ?_
  refine g_iload_n X dM_spell_6 rfl ?_
  refine g_iconst X 0 dM_spell_7 (by decide) ?_
  refine g_bipush X 7 dM_spell_8 (by decide) ?_
  refine g_virtI X [.int v1, .int 0, .int 7] [] k_102 mm_M_isIn mv_M_isIn ml_M_153 (okM_isIn v1 0 7 s1 C.l C.w) rfl (by decide) rfl (Nat.le_of_ble_eq_true rfl) dM_spell_10 (fun r3 s2 => ?_)
  refine g_zeq X (tgt := 26) dM_spell_13 (by decide) ?_ ?_
  · refine g_iconst X 0 dM_spell_26 (by decide) ?_
    exact g_zret X E dM_spell_27
  · refine g_aload_n X dM_spell_16 rfl ?_
    refine g_iload_n X dM_spell_17 rfl ?_
    refine g_iconst X 0 dM_spell_18 (by decide) ?_
    refine g_iconst X 5 dM_spell_19 (by decide) ?_
    refine g_virtI X [.int v2, .int 0, .int 5] [] k_102 mm_M_isIn mv_M_isIn ml_M_153 (okM_isIn v2 0 5 s2 C.l C.w) rfl (by decide) rfl (Nat.le_of_ble_eq_true rfl) dM_spell_20 (fun r5 s4 => ?_)
    refine g_zne X (tgt := 28) dM_spell_23 (by decide) ?_ ?_
    · refine g_iconst X 0 dM_spell_26 (by decide) ?_
      exact g_zret X E dM_spell_27
    · refine g_iconst X 1 dM_spell_28 (by decide) ?_
      refine g_istore X [some (.ref (C.w.ad 102)), some (.int v1), some (.int v2), some (.int v3), some (.int 1), none, none] dM_spell_29 (by decide) (Nat.le_of_ble_eq_true rfl) rfl ?_
      refine g_iconst X 0 dM_spell_31 (by decide) ?_
      refine g_istore X [some (.ref (C.w.ad 102)), some (.int v1), some (.int v2), some (.int v3), some (.int 1), some (.int 0), none] dM_spell_32 (by decide) (Nat.le_of_ble_eq_true rfl) rfl ?_
      refine gf_sub (L' := [some (.ref (C.w.ad 102)), some (.int v1), some (.int v2), some (.int v3), some (.int 1), some (.int 0), none]) ?_ (by simp [lsub])
      refine gf_lp (Lf := fun (u34 : Int32 × Int32) => [some (.ref (C.w.ad 102)), some (.int v1), some (.int v2), some (.int v3), some (.int u34.1), some (.int u34.2), none]) (fun q34 hq34 u34 s6 => ?_) FU (1, 0) s4
      refine g_iload X dM_spell_34 rfl ?_
      refine g_iload_n X dM_spell_36 rfl ?_
      refine g_cge X (tgt := 53) dM_spell_37 (by decide) ?_ ?_
      · refine g_aload_n X dM_spell_53 rfl ?_
        refine g_iload_n X dM_spell_54 rfl ?_
        refine g_iconst X 0 dM_spell_55 (by decide) ?_
        refine g_iload X dM_spell_56 rfl ?_
        refine g_iconst X 1 dM_spell_58 (by decide) ?_
        refine g_isub X dM_spell_59 ?_
        refine g_virtI X [.int v3, .int 0, .int (u34.1 - 1)] [] k_102 mm_M_isIn mv_M_isIn ml_M_153 (okM_isIn v3 0 (u34.1 - 1) s6 C.l C.w) rfl (by decide) rfl (Nat.le_of_ble_eq_true rfl) dM_spell_60 (fun r8 s7 => ?_)
        refine g_zne X (tgt := 68) dM_spell_63 (by decide) ?_ ?_
        · refine g_iconst X 0 dM_spell_66 (by decide) ?_
          exact g_zret X E dM_spell_67
        · refine g_aload_n X dM_spell_68 rfl ?_
          refine g_getN X fl_M_98 fb_12_51 k_102 r_102_51 dM_spell_69 ?_
          refine g_iload_n X dM_spell_72 rfl ?_
          refine g_iload_n X dM_spell_73 rfl ?_
          refine g_iast X k_131 ln_131 dM_spell_74 (fun s9 => ?_)
          refine g_iload_n X dM_spell_75 rfl ?_
          refine g_istore X [some (.ref (C.w.ad 102)), some (.int v1), some (.int v2), some (.int v3), some (.int u34.1), some (.int v3), none] dM_spell_76 (by decide) (Nat.le_of_ble_eq_true rfl) rfl ?_
          refine g_iload_n X dM_spell_78 rfl ?_
          refine g_iconst X 1 dM_spell_79 (by decide) ?_
          refine g_isub X dM_spell_80 ?_
          refine g_istore X [some (.ref (C.w.ad 102)), some (.int v1), some (.int v2), some (.int v3), some (.int u34.1), some (.int v3), some (.int (v2 - 1))] dM_spell_81 (by decide) (Nat.le_of_ble_eq_true rfl) rfl ?_
          refine gf_sub (L' := [some (.ref (C.w.ad 102)), some (.int v1), none, none, none, some (.int v3), some (.int (v2 - 1))]) ?_ (by simp [lsub])
          refine gf_lp (Lf := fun (u83 : Int32 × Int32) => [some (.ref (C.w.ad 102)), some (.int v1), none, none, none, some (.int u83.1), some (.int u83.2)]) (fun q83 hq83 u83 s10 => ?_) FU (v3, (v2 - 1)) s9
          refine g_iload X dM_spell_83 rfl ?_
          refine g_zlt X (tgt := 117) dM_spell_85 (by decide) ?_ ?_
          · refine g_iconst X 1 dM_spell_117 (by decide) ?_
            exact g_zret X E dM_spell_118
          · refine g_aload_n X dM_spell_88 rfl ?_
            refine g_getN X fl_M_101 fb_12_52 k_102 r_102_52 dM_spell_89 ?_
            refine g_iconst X 5 dM_spell_92 (by decide) ?_
            refine g_iload_n X dM_spell_93 rfl ?_
            refine g_imul X dM_spell_94 ?_
            refine g_iload X dM_spell_95 rfl ?_
            refine g_iadd X dM_spell_97 ?_
            refine g_iload X dM_spell_98 rfl ?_
            refine g_bipush X 10 dM_spell_100 (by decide) ?_
            refine g_irem X dM_spell_102 ?_
            refine g_iast X k_132 ln_132 dM_spell_103 (fun s11 => ?_)
            refine g_iload X dM_spell_104 rfl ?_
            refine g_bipush X 10 dM_spell_106 (by decide) ?_
            refine g_idiv X dM_spell_108 ?_
            refine g_istore X [some (.ref (C.w.ad 102)), some (.int v1), none, none, none, some (.int (u83.1 / 10)), some (.int u83.2)] dM_spell_109 (by decide) (Nat.le_of_ble_eq_true rfl) rfl ?_
            refine g_iinc X (u83.2 + (-1)) [some (.ref (C.w.ad 102)), some (.int v1), none, none, none, some (.int (u83.1 / 10)), some (.int (u83.2 + (-1)))] dM_spell_111 rfl rfl (by decide) rfl ?_
            refine g_goto X 83 dM_spell_114 (by decide) ?_
            exact gf_sub (hq83 ((u83.1 / 10), (u83.2 + (-1))) s11) (by simp [lsub])
      · refine g_iload X dM_spell_40 rfl ?_
        refine g_bipush X 10 dM_spell_42 (by decide) ?_
        refine g_imul X dM_spell_44 ?_
        refine g_istore X [some (.ref (C.w.ad 102)), some (.int v1), some (.int v2), some (.int v3), some (.int (u34.1 * 10)), some (.int u34.2), none] dM_spell_45 (by decide) (Nat.le_of_ble_eq_true rfl) rfl ?_
        refine g_iinc X (u34.2 + 1) [some (.ref (C.w.ad 102)), some (.int v1), some (.int v2), some (.int v3), some (.int (u34.1 * 10)), some (.int (u34.2 + 1)), none] dM_spell_47 rfl rfl (by decide) rfl ?_
        refine g_goto X 34 dM_spell_50 (by decide) ?_
        exact gf_sub (hq34 ((u34.1 * 10), (u34.2 + 1)) s6) (by simp [lsub])
