def yH_act : MethodName := ⟨"LastWordHill", "act", "(III)Z"⟩
abbrev cH_act : ByteArray := prog_1_method_9_code
theorem dH_act_0 : decode cH_act 0 = .ok (.aload_n 0, 1) := by decide +kernel
theorem dH_act_1 : decode cH_act 1 = .ok (.getfield 12, 3) := by decide +kernel
theorem dH_act_4 : decode cH_act 4 = .ok (.iload_n 2, 1) := by decide +kernel
theorem dH_act_5 : decode cH_act 5 = .ok (.invokevirtual 124, 3) := by decide +kernel
theorem dH_act_8 : decode cH_act 8 = .ok (.ifCond .ne 5, 3) := by decide +kernel
theorem dH_act_13 : decode cH_act 13 = .ok (.aload_n 0, 1) := by decide +kernel
theorem dH_act_14 : decode cH_act 14 = .ok (.getfield 12, 3) := by decide +kernel
theorem dH_act_17 : decode cH_act 17 = .ok (.iload_n 2, 1) := by decide +kernel
theorem dH_act_18 : decode cH_act 18 = .ok (.iconst 5, 1) := by decide +kernel
theorem dH_act_19 : decode cH_act 19 = .ok (.invokevirtual 127, 3) := by decide +kernel
theorem ml_H_127 : Cond.methodLink "LastWordHill" 127 ySc_tell ∈ hz_wt := hz_in 630 (by decide +kernel) (by decide +kernel)
theorem dH_act_22 : decode cH_act 22 = .ok (.iconst 1, 1) := by decide +kernel
theorem dH_act_23 : decode cH_act 23 = .ok (.if_icmp .ne 7, 3) := by decide +kernel
theorem dH_act_31 : decode cH_act 31 = .ok (.istore 4, 2) := by decide +kernel
theorem dH_act_33 : decode cH_act 33 = .ok (.iload_n 1, 1) := by decide +kernel
theorem dH_act_34 : decode cH_act 34 = .ok (.ifCond .ne 74, 3) := by decide +kernel
theorem dH_act_108 : decode cH_act 108 = .ok (.iload_n 1, 1) := by decide +kernel
theorem dH_act_109 : decode cH_act 109 = .ok (.iconst 1, 1) := by decide +kernel
theorem dH_act_110 : decode cH_act 110 = .ok (.if_icmp .ne 37, 3) := by decide +kernel
theorem dH_act_147 : decode cH_act 147 = .ok (.iload_n 1, 1) := by decide +kernel
theorem dH_act_148 : decode cH_act 148 = .ok (.iconst 2, 1) := by decide +kernel
theorem dH_act_149 : decode cH_act 149 = .ok (.if_icmp .ne 29, 3) := by decide +kernel
theorem dH_act_178 : decode cH_act 178 = .ok (.iconst 0, 1) := by decide +kernel
theorem dH_act_179 : decode cH_act 179 = .ok (.ireturn, 1) := by decide +kernel
theorem dH_act_152 : decode cH_act 152 = .ok (.iload 4, 2) := by decide +kernel
theorem dH_act_154 : decode cH_act 154 = .ok (.ifCond .eq 24, 3) := by decide +kernel
theorem dH_act_157 : decode cH_act 157 = .ok (.aload_n 0, 1) := by decide +kernel
theorem dH_act_158 : decode cH_act 158 = .ok (.getfield 22, 3) := by decide +kernel
theorem dH_act_161 : decode cH_act 161 = .ok (.aload_n 0, 1) := by decide +kernel
theorem dH_act_162 : decode cH_act 162 = .ok (.getfield 12, 3) := by decide +kernel
theorem dH_act_165 : decode cH_act 165 = .ok (.invokevirtual 137, 3) := by decide +kernel
theorem mm_Pa_keep : MMc yPa_keep cPa_keep 2 none 1 := ⟨hz_in 642 (by decide +kernel) (by decide +kernel), hz_in 136 (by decide +kernel) (by decide +kernel), by decide +kernel, by decide⟩
theorem mv_Pa_keep : MMv yPa_keep 3 := ⟨hz_in 640 (by decide +kernel) (by decide +kernel), hz_in 641 (by decide +kernel) (by decide +kernel), _, _, rfl, by decide⟩
theorem ml_H_137 : Cond.methodLink "LastWordHill" 137 yPa_keep ∈ hz_wt := hz_in 639 (by decide +kernel) (by decide +kernel)
theorem dH_act_168 : decode cH_act 168 = .ok (.aload_n 0, 1) := by decide +kernel
theorem dH_act_169 : decode cH_act 169 = .ok (.getfield 12, 3) := by decide +kernel
theorem dH_act_172 : decode cH_act 172 = .ok (.iload_n 2, 1) := by decide +kernel
theorem dH_act_173 : decode cH_act 173 = .ok (.invokevirtual 110, 3) := by decide +kernel
theorem dH_act_176 : decode cH_act 176 = .ok (.iconst 1, 1) := by decide +kernel
theorem dH_act_177 : decode cH_act 177 = .ok (.ireturn, 1) := by decide +kernel
theorem dH_act_113 : decode cH_act 113 = .ok (.iload_n 3, 1) := by decide +kernel
theorem dH_act_114 : decode cH_act 114 = .ok (.invokestatic 117, 3) := by decide +kernel
theorem dH_act_117 : decode cH_act 117 = .ok (.ifCond .eq 30, 3) := by decide +kernel
theorem dH_act_120 : decode cH_act 120 = .ok (.iload 4, 2) := by decide +kernel
theorem dH_act_122 : decode cH_act 122 = .ok (.ifCond .ne 25, 3) := by decide +kernel
theorem dH_act_125 : decode cH_act 125 = .ok (.aload_n 0, 1) := by decide +kernel
theorem dH_act_126 : decode cH_act 126 = .ok (.getfield 22, 3) := by decide +kernel
theorem dH_act_129 : decode cH_act 129 = .ok (.aload_n 0, 1) := by decide +kernel
theorem dH_act_130 : decode cH_act 130 = .ok (.getfield 12, 3) := by decide +kernel
theorem dH_act_133 : decode cH_act 133 = .ok (.invokevirtual 137, 3) := by decide +kernel
theorem dH_act_136 : decode cH_act 136 = .ok (.aload_n 0, 1) := by decide +kernel
theorem dH_act_137 : decode cH_act 137 = .ok (.getfield 12, 3) := by decide +kernel
theorem dH_act_140 : decode cH_act 140 = .ok (.iload_n 2, 1) := by decide +kernel
theorem dH_act_141 : decode cH_act 141 = .ok (.iload_n 3, 1) := by decide +kernel
theorem dH_act_142 : decode cH_act 142 = .ok (.invokevirtual 148, 3) := by decide +kernel
theorem ml_H_148 : Cond.methodLink "LastWordHill" 148 ySc_letGo ∈ hz_wt := hz_in 677 (by decide +kernel) (by decide +kernel)
theorem dH_act_145 : decode cH_act 145 = .ok (.iconst 1, 1) := by decide +kernel
theorem dH_act_146 : decode cH_act 146 = .ok (.ireturn, 1) := by decide +kernel
theorem dH_act_37 : decode cH_act 37 = .ok (.iload_n 3, 1) := by decide +kernel
theorem dH_act_38 : decode cH_act 38 = .ok (.invokestatic 117, 3) := by decide +kernel
theorem dH_act_41 : decode cH_act 41 = .ok (.ifCond .eq 67, 3) := by decide +kernel
theorem dH_act_44 : decode cH_act 44 = .ok (.aload_n 0, 1) := by decide +kernel
theorem dH_act_45 : decode cH_act 45 = .ok (.getfield 12, 3) := by decide +kernel
theorem dH_act_48 : decode cH_act 48 = .ok (.iload_n 2, 1) := by decide +kernel
theorem dH_act_49 : decode cH_act 49 = .ok (.invokevirtual 131, 3) := by decide +kernel
theorem ml_H_131 : Cond.methodLink "LastWordHill" 131 ySc_isUp ∈ hz_wt := hz_in 634 (by decide +kernel) (by decide +kernel)
theorem dH_act_52 : decode cH_act 52 = .ok (.ifCond .eq 56, 3) := by decide +kernel
theorem dH_act_55 : decode cH_act 55 = .ok (.aload_n 0, 1) := by decide +kernel
theorem dH_act_56 : decode cH_act 56 = .ok (.getfield 12, 3) := by decide +kernel
theorem dH_act_59 : decode cH_act 59 = .ok (.getfield 134, 3) := by decide +kernel
theorem dH_act_62 : decode cH_act 62 = .ok (.aload_n 0, 1) := by decide +kernel
theorem dH_act_63 : decode cH_act 63 = .ok (.getfield 12, 3) := by decide +kernel
theorem dH_act_66 : decode cH_act 66 = .ok (.getfield 114, 3) := by decide +kernel
theorem dH_act_69 : decode cH_act 69 = .ok (.if_icmp .gt 39, 3) := by decide +kernel
theorem dH_act_72 : decode cH_act 72 = .ok (.aload_n 0, 1) := by decide +kernel
theorem dH_act_73 : decode cH_act 73 = .ok (.getfield 22, 3) := by decide +kernel
theorem dH_act_76 : decode cH_act 76 = .ok (.aload_n 0, 1) := by decide +kernel
theorem dH_act_77 : decode cH_act 77 = .ok (.getfield 12, 3) := by decide +kernel
theorem dH_act_80 : decode cH_act 80 = .ok (.invokevirtual 137, 3) := by decide +kernel
theorem dH_act_83 : decode cH_act 83 = .ok (.aload_n 0, 1) := by decide +kernel
theorem dH_act_84 : decode cH_act 84 = .ok (.getfield 12, 3) := by decide +kernel
theorem dH_act_87 : decode cH_act 87 = .ok (.iload_n 2, 1) := by decide +kernel
theorem dH_act_88 : decode cH_act 88 = .ok (.iload_n 3, 1) := by decide +kernel
theorem dH_act_89 : decode cH_act 89 = .ok (.invokevirtual 141, 3) := by decide +kernel
theorem mm_Sc_say : MMc ySc_say cSc_say 3 none 2 := ⟨hz_in 660 (by decide +kernel) (by decide +kernel), hz_in 135 (by decide +kernel) (by decide +kernel), by decide +kernel, by decide⟩
theorem mv_Sc_say : MMv ySc_say 5 := ⟨hz_in 658 (by decide +kernel) (by decide +kernel), hz_in 659 (by decide +kernel) (by decide +kernel), _, _, rfl, by decide⟩
theorem ml_H_141 : Cond.methodLink "LastWordHill" 141 ySc_say ∈ hz_wt := hz_in 657 (by decide +kernel) (by decide +kernel)
theorem dH_act_92 : decode cH_act 92 = .ok (.aload_n 0, 1) := by decide +kernel
theorem dH_act_93 : decode cH_act 93 = .ok (.getfield 61, 3) := by decide +kernel
theorem fl_H_61 : FLk "LastWordHill" 61 11 7 := ⟨_, _, _, rfl, by decide, hz_in 560 (by decide +kernel) (by decide +kernel), nL11, by decide, by decide⟩
theorem fb_11_7 : (hz_bs 11)[7]? = some true := by decide
theorem r_0_7 : hz_rf 0 7 = 65 := by decide
theorem dH_act_96 : decode cH_act 96 = .ok (.aload_n 0, 1) := by decide +kernel
theorem dH_act_97 : decode cH_act 97 = .ok (.getfield 12, 3) := by decide +kernel
theorem dH_act_100 : decode cH_act 100 = .ok (.iconst 1, 1) := by decide +kernel
theorem dH_act_101 : decode cH_act 101 = .ok (.iload_n 2, 1) := by decide +kernel
theorem dH_act_102 : decode cH_act 102 = .ok (.iload_n 3, 1) := by decide +kernel
theorem dH_act_103 : decode cH_act 103 = .ok (.invokevirtual 144, 3) := by decide +kernel
theorem mm_Su_note : MMc ySu_note cSu_note 5 none 4 := ⟨hz_in 664 (by decide +kernel) (by decide +kernel), hz_in 144 (by decide +kernel) (by decide +kernel), by decide +kernel, by decide⟩
theorem mv_Su_note : MMv ySu_note 6 := ⟨hz_in 662 (by decide +kernel) (by decide +kernel), hz_in 663 (by decide +kernel) (by decide +kernel), _, _, rfl, by decide⟩
theorem ml_H_144 : Cond.methodLink "LastWordHill" 144 ySu_note ∈ hz_wt := hz_in 661 (by decide +kernel) (by decide +kernel)
theorem dH_act_106 : decode cH_act 106 = .ok (.iconst 1, 1) := by decide +kernel
theorem dH_act_107 : decode cH_act 107 = .ok (.ireturn, 1) := by decide +kernel
theorem dH_act_30 : decode cH_act 30 = .ok (.iconst 0, 1) := by decide +kernel
theorem dH_act_26 : decode cH_act 26 = .ok (.iconst 1, 1) := by decide +kernel
theorem dH_act_27 : decode cH_act 27 = .ok (.goto 4, 3) := by decide +kernel
theorem dH_act_11 : decode cH_act 11 = .ok (.iconst 0, 1) := by decide +kernel
theorem dH_act_12 : decode cH_act 12 = .ok (.ireturn, 1) := by decide +kernel
def fH_act (v1 : Int32) (v2 : Int32) (v3 : Int32) (s0 : Sg) : Option (Int32 × Sg) := bi (fSc_has 1 v2 s0) fun r2 s1 => if r2 = 0 then (gb 0 (some (0, s1))) else (bi (fSc_tell 1 v2 5 s1) fun r4 s3 => bnd (fun (b31_0 : Int32) (s5 : Sg) => bnd (fun (s6 : Sg) => bnd (fun (s7 : Sg) => if v1 = 2 then (if b31_0 = 0 then (gb 0 (some (0, s7))) else (bv (fPa_keep 1 s7) fun s8 => bv (fSc_sendHome 1 v2 s8) fun s9 => gb 1 (some (1, s9)))) else (gb 0 (some (0, s7)))) fun j147 => if v1 = 1 then (bi (fH_isWord v3 s6) fun r11 s10 => if r11 = 0 then (j147 s10) else (if b31_0 = 0 then (bv (fPa_keep 1 s10) fun s12 => bv (fSc_letGo 1 v2 v3 s12) fun s13 => gb 1 (some (1, s13))) else (j147 s10))) else (j147 s6)) fun j108 => if v1 = 0 then (bi (fH_isWord v3 s5) fun r15 s14 => if r15 = 0 then (j108 s14) else (bi (fSc_isUp 1 v2 s14) fun r17 s16 => if r17 = 0 then (j108 s16) else (if (s16 1 8) < (s16 1 9) then (j108 s16) else (bv (fPa_keep 1 s16) fun s18 => bv (fSc_say 1 v2 v3 s18) fun s19 => bv (fSu_note 1 1 v2 v3 s19) fun s20 => gb 1 (some (1, s20)))))) else (j108 s5)) fun j31 => if r4 = 1 then (j31 1 s3) else (j31 0 s3))
set_option maxHeartbeats 4000000 in
set_option maxRecDepth 100000 in
theorem okH_act (v1 : Int32) (v2 : Int32) (v3 : Int32) (s0 : Sg) : ∀ (l : Launch) (w : WC), Ok l w yH_act cH_act 5 (some .boolean) 5 evI [.ref (w.ad 0), .int v1, .int v2, .int v3] s0 (fH_act v1 v2 v3 s0) := by
  refine ok_in (ev := fun _ => evI) (av := fun w => [.ref (w.ad 0), .int v1, .int v2, .int v3]) "LastWordHill" rfl (by decide +kernel) (fun _ => rfl) (fun _ => Nat.le_of_ble_eq_true rfl) ?_
  intro C X E
  show GF C evI 0 [some (.ref (C.w.ad 0)), some (.int v1), some (.int v2), some (.int v3), none] [] s0 (fH_act v1 v2 v3 s0)
  unfold fH_act
  refine g_aload_n X dH_act_0 rfl ?_
  refine g_getN X fl_H_12 fb_11_0 k_0 r_0_0 dH_act_1 ?_
  refine g_iload_n X dH_act_4 rfl ?_
  refine g_virtI X [.int v2] [] k_1 mm_Sc_has mv_Sc_has ml_H_124 (okSc_has 1 v2 s0 k_1 C.l C.w) rfl (by decide) rfl (Nat.le_of_ble_eq_true rfl) dH_act_5 (fun r2 s1 => ?_)
  refine g_zne X (tgt := 13) dH_act_8 (by decide) ?_ ?_
  · refine g_iconst X 0 dH_act_11 (by decide) ?_
    exact g_zret X E dH_act_12
  · refine g_aload_n X dH_act_13 rfl ?_
    refine g_getN X fl_H_12 fb_11_0 k_0 r_0_0 dH_act_14 ?_
    refine g_iload_n X dH_act_17 rfl ?_
    refine g_iconst X 5 dH_act_18 (by decide) ?_
    refine g_virtI X [.int v2, .int 5] [] k_1 mm_Sc_tell mv_Sc_tell ml_H_127 (okSc_tell 1 v2 5 s1 k_1 C.l C.w) rfl (by decide) rfl (Nat.le_of_ble_eq_true rfl) dH_act_19 (fun r4 s3 => ?_)
    refine g_iconst X 1 dH_act_22 (by decide) ?_
    refine gf_jn (fun j31 => ∀ (b31_0 : Int32) (s5 : Sg), GF C evI 31 [some (.ref (C.w.ad 0)), some (.int v1), some (.int v2), some (.int v3), none] [.int b31_0] s5 (j31 b31_0 s5)) ?_ ?_
    · intro b31_0 s5
      refine g_istore X [some (.ref (C.w.ad 0)), some (.int v1), some (.int v2), some (.int v3), some (.int b31_0)] dH_act_31 (by decide) (Nat.le_of_ble_eq_true rfl) rfl ?_
      refine g_iload_n X dH_act_33 rfl ?_
      refine gf_jn (fun j108 => ∀ (s6 : Sg), GF C evI 108 [some (.ref (C.w.ad 0)), some (.int v1), some (.int v2), some (.int v3), some (.int b31_0)] [] s6 (j108 s6)) ?_ ?_
      · intro s6
        refine g_iload_n X dH_act_108 rfl ?_
        refine g_iconst X 1 dH_act_109 (by decide) ?_
        refine gf_jn (fun j147 => ∀ (s7 : Sg), GF C evI 147 [some (.ref (C.w.ad 0)), some (.int v1), some (.int v2), none, some (.int b31_0)] [] s7 (j147 s7)) ?_ ?_
        · intro s7
          refine g_iload_n X dH_act_147 rfl ?_
          refine g_iconst X 2 dH_act_148 (by decide) ?_
          refine g_cne X (tgt := 178) dH_act_149 (by decide) ?_ ?_
          · refine g_iload X dH_act_152 rfl ?_
            refine g_zeq X (tgt := 178) dH_act_154 (by decide) ?_ ?_
            · refine g_iconst X 0 dH_act_178 (by decide) ?_
              exact g_zret X E dH_act_179
            · refine g_aload_n X dH_act_157 rfl ?_
              refine g_getN X fl_H_22 fb_11_2 k_0 r_0_2 dH_act_158 ?_
              refine g_aload_n X dH_act_161 rfl ?_
              refine g_getN X fl_H_12 fb_11_0 k_0 r_0_0 dH_act_162 ?_
              refine g_virtV X [.ref (C.w.ad 1)] [] k_5 mm_Pa_keep mv_Pa_keep ml_H_137 (okPa_keep 1 s7 k_1 C.l C.w) rfl (by decide) rfl (Nat.le_of_ble_eq_true rfl) dH_act_165 (fun s8 => ?_)
              refine g_aload_n X dH_act_168 rfl ?_
              refine g_getN X fl_H_12 fb_11_0 k_0 r_0_0 dH_act_169 ?_
              refine g_iload_n X dH_act_172 rfl ?_
              refine g_virtV X [.int v2] [] k_1 mm_Sc_sendHome mv_Sc_sendHome ml_H_110 (okSc_sendHome 1 v2 s8 k_1 C.l C.w) rfl (by decide) rfl (Nat.le_of_ble_eq_true rfl) dH_act_173 (fun s9 => ?_)
              refine g_iconst X 1 dH_act_176 (by decide) ?_
              exact g_zret X E dH_act_177
          · refine g_iconst X 0 dH_act_178 (by decide) ?_
            exact g_zret X E dH_act_179
        · intro j147 hj147
          refine g_cne X (tgt := 147) dH_act_110 (by decide) ?_ ?_
          · refine g_iload_n X dH_act_113 rfl ?_
            refine g_statI X [.int v3] [] mm_H_isWord ms_H_isWord ml_H_117 (okH_isWord v3 s6 C.l C.w) rfl (by decide) rfl (Nat.le_of_ble_eq_true rfl) dH_act_114 (fun r11 s10 => ?_)
            refine g_zeq X (tgt := 147) dH_act_117 (by decide) ?_ ?_
            · exact gf_sub (hj147 s10) (by simp [lsub])
            · refine g_iload X dH_act_120 rfl ?_
              refine g_zne X (tgt := 147) dH_act_122 (by decide) ?_ ?_
              · refine g_aload_n X dH_act_125 rfl ?_
                refine g_getN X fl_H_22 fb_11_2 k_0 r_0_2 dH_act_126 ?_
                refine g_aload_n X dH_act_129 rfl ?_
                refine g_getN X fl_H_12 fb_11_0 k_0 r_0_0 dH_act_130 ?_
                refine g_virtV X [.ref (C.w.ad 1)] [] k_5 mm_Pa_keep mv_Pa_keep ml_H_137 (okPa_keep 1 s10 k_1 C.l C.w) rfl (by decide) rfl (Nat.le_of_ble_eq_true rfl) dH_act_133 (fun s12 => ?_)
                refine g_aload_n X dH_act_136 rfl ?_
                refine g_getN X fl_H_12 fb_11_0 k_0 r_0_0 dH_act_137 ?_
                refine g_iload_n X dH_act_140 rfl ?_
                refine g_iload_n X dH_act_141 rfl ?_
                refine g_virtV X [.int v2, .int v3] [] k_1 mm_Sc_letGo mv_Sc_letGo ml_H_148 (okSc_letGo 1 v2 v3 s12 k_1 C.l C.w) rfl (by decide) rfl (Nat.le_of_ble_eq_true rfl) dH_act_142 (fun s13 => ?_)
                refine g_iconst X 1 dH_act_145 (by decide) ?_
                exact g_zret X E dH_act_146
              · exact gf_sub (hj147 s10) (by simp [lsub])
          · exact gf_sub (hj147 s6) (by simp [lsub])
      · intro j108 hj108
        refine g_zne X (tgt := 108) dH_act_34 (by decide) ?_ ?_
        · refine g_iload_n X dH_act_37 rfl ?_
          refine g_statI X [.int v3] [] mm_H_isWord ms_H_isWord ml_H_117 (okH_isWord v3 s5 C.l C.w) rfl (by decide) rfl (Nat.le_of_ble_eq_true rfl) dH_act_38 (fun r15 s14 => ?_)
          refine g_zeq X (tgt := 108) dH_act_41 (by decide) ?_ ?_
          · exact gf_sub (hj108 s14) (by simp [lsub])
          · refine g_aload_n X dH_act_44 rfl ?_
            refine g_getN X fl_H_12 fb_11_0 k_0 r_0_0 dH_act_45 ?_
            refine g_iload_n X dH_act_48 rfl ?_
            refine g_virtI X [.int v2] [] k_1 mm_Sc_isUp mv_Sc_isUp ml_H_131 (okSc_isUp 1 v2 s14 k_1 C.l C.w) rfl (by decide) rfl (Nat.le_of_ble_eq_true rfl) dH_act_49 (fun r17 s16 => ?_)
            refine g_zeq X (tgt := 108) dH_act_52 (by decide) ?_ ?_
            · exact gf_sub (hj108 s16) (by simp [lsub])
            · refine g_aload_n X dH_act_55 rfl ?_
              refine g_getN X fl_H_12 fb_11_0 k_0 r_0_0 dH_act_56 ?_
              refine g_getI X fl_H_134 fb_5_9 k_1 dH_act_59 ?_
              refine g_aload_n X dH_act_62 rfl ?_
              refine g_getN X fl_H_12 fb_11_0 k_0 r_0_0 dH_act_63 ?_
              refine g_getI X fl_H_114 fb_5_8 k_1 dH_act_66 ?_
              refine g_cgt X (tgt := 108) dH_act_69 (by decide) ?_ ?_
              · exact gf_sub (hj108 s16) (by simp [lsub])
              · refine g_aload_n X dH_act_72 rfl ?_
                refine g_getN X fl_H_22 fb_11_2 k_0 r_0_2 dH_act_73 ?_
                refine g_aload_n X dH_act_76 rfl ?_
                refine g_getN X fl_H_12 fb_11_0 k_0 r_0_0 dH_act_77 ?_
                refine g_virtV X [.ref (C.w.ad 1)] [] k_5 mm_Pa_keep mv_Pa_keep ml_H_137 (okPa_keep 1 s16 k_1 C.l C.w) rfl (by decide) rfl (Nat.le_of_ble_eq_true rfl) dH_act_80 (fun s18 => ?_)
                refine g_aload_n X dH_act_83 rfl ?_
                refine g_getN X fl_H_12 fb_11_0 k_0 r_0_0 dH_act_84 ?_
                refine g_iload_n X dH_act_87 rfl ?_
                refine g_iload_n X dH_act_88 rfl ?_
                refine g_virtV X [.int v2, .int v3] [] k_1 mm_Sc_say mv_Sc_say ml_H_141 (okSc_say 1 v2 v3 s18 k_1 C.l C.w) rfl (by decide) rfl (Nat.le_of_ble_eq_true rfl) dH_act_89 (fun s19 => ?_)
                refine g_aload_n X dH_act_92 rfl ?_
                refine g_getN X fl_H_61 fb_11_7 k_0 r_0_7 dH_act_93 ?_
                refine g_aload_n X dH_act_96 rfl ?_
                refine g_getN X fl_H_12 fb_11_0 k_0 r_0_0 dH_act_97 ?_
                refine g_iconst X 1 dH_act_100 (by decide) ?_
                refine g_iload_n X dH_act_101 rfl ?_
                refine g_iload_n X dH_act_102 rfl ?_
                refine g_virtV X [.ref (C.w.ad 1), .int 1, .int v2, .int v3] [] k_65 mm_Su_note mv_Su_note ml_H_144 (okSu_note 1 1 v2 v3 s19 k_1 C.l C.w) rfl (by decide) rfl (Nat.le_of_ble_eq_true rfl) dH_act_103 (fun s20 => ?_)
                refine g_iconst X 1 dH_act_106 (by decide) ?_
                exact g_zret X E dH_act_107
        · exact gf_sub (hj108 s5) (by simp [lsub])
    · intro j31 hj31
      refine g_cne X (tgt := 30) dH_act_23 (by decide) ?_ ?_
      · refine g_iconst X 1 dH_act_26 (by decide) ?_
        refine g_goto X 31 dH_act_27 (by decide) ?_
        exact gf_sub (hj31 1 s3) (by simp [lsub])
      · refine g_iconst X 0 dH_act_30 (by decide) ?_
        exact gf_sub (hj31 0 s3) (by simp [lsub])
def yH_ask : MethodName := ⟨"LastWordHill", "ask", "(I)I"⟩
abbrev cH_ask : ByteArray := prog_1_method_10_code
theorem dH_ask_0 : decode cH_ask 0 = .ok (.iload_n 1, 1) := by decide +kernel
theorem dH_ask_1 : decode cH_ask 1 = .ok (.invokestatic 151, 3) := by decide +kernel
theorem dH_ask_4 : decode cH_ask 4 = .ok (.ifCond .ne 5, 3) := by decide +kernel
theorem dH_ask_9 : decode cH_ask 9 = .ok (.aload_n 0, 1) := by decide +kernel
theorem dH_ask_10 : decode cH_ask 10 = .ok (.getfield 22, 3) := by decide +kernel
theorem dH_ask_13 : decode cH_ask 13 = .ok (.aload_n 0, 1) := by decide +kernel
theorem dH_ask_14 : decode cH_ask 14 = .ok (.getfield 12, 3) := by decide +kernel
theorem dH_ask_17 : decode cH_ask 17 = .ok (.invokevirtual 137, 3) := by decide +kernel
theorem dH_ask_20 : decode cH_ask 20 = .ok (.aload_n 0, 1) := by decide +kernel
theorem dH_ask_21 : decode cH_ask 21 = .ok (.getfield 29, 3) := by decide +kernel
theorem dH_ask_24 : decode cH_ask 24 = .ok (.aload_n 0, 1) := by decide +kernel
theorem dH_ask_25 : decode cH_ask 25 = .ok (.getfield 12, 3) := by decide +kernel
theorem dH_ask_28 : decode cH_ask 28 = .ok (.getfield 121, 3) := by decide +kernel
theorem dH_ask_31 : decode cH_ask 31 = .ok (.iload_n 1, 1) := by decide +kernel
theorem dH_ask_32 : decode cH_ask 32 = .ok (.invokevirtual 154, 3) := by decide +kernel
theorem ml_H_154 : Cond.methodLink "LastWordHill" 154 yTe_suits ∈ hz_wt := hz_in 688 (by decide +kernel) (by decide +kernel)
theorem dH_ask_35 : decode cH_ask 35 = .ok (.istore_n 2, 1) := by decide +kernel
theorem dH_ask_36 : decode cH_ask 36 = .ok (.aload_n 0, 1) := by decide +kernel
theorem dH_ask_37 : decode cH_ask 37 = .ok (.getfield 12, 3) := by decide +kernel
theorem dH_ask_40 : decode cH_ask 40 = .ok (.dup, 1) := by decide +kernel
theorem dH_ask_41 : decode cH_ask 41 = .ok (.getfield 157, 3) := by decide +kernel
theorem dH_ask_44 : decode cH_ask 44 = .ok (.iconst 1, 1) := by decide +kernel
theorem dH_ask_45 : decode cH_ask 45 = .ok (.iadd, 1) := by decide +kernel
theorem dH_ask_46 : decode cH_ask 46 = .ok (.putfield 157, 3) := by decide +kernel
theorem dH_ask_49 : decode cH_ask 49 = .ok (.iload_n 2, 1) := by decide +kernel
theorem dH_ask_50 : decode cH_ask 50 = .ok (.ifCond .eq 16, 3) := by decide +kernel
theorem dH_ask_66 : decode cH_ask 66 = .ok (.aload_n 0, 1) := by decide +kernel
theorem dH_ask_67 : decode cH_ask 67 = .ok (.getfield 61, 3) := by decide +kernel
theorem dH_ask_70 : decode cH_ask 70 = .ok (.aload_n 0, 1) := by decide +kernel
theorem dH_ask_71 : decode cH_ask 71 = .ok (.getfield 12, 3) := by decide +kernel
theorem dH_ask_74 : decode cH_ask 74 = .ok (.iload_n 2, 1) := by decide +kernel
theorem dH_ask_75 : decode cH_ask 75 = .ok (.ifCond .eq 7, 3) := by decide +kernel
theorem dH_ask_83 : decode cH_ask 83 = .ok (.iload_n 1, 1) := by decide +kernel
theorem dH_ask_84 : decode cH_ask 84 = .ok (.aload_n 0, 1) := by decide +kernel
theorem dH_ask_85 : decode cH_ask 85 = .ok (.getfield 12, 3) := by decide +kernel
theorem dH_ask_88 : decode cH_ask 88 = .ok (.getfield 121, 3) := by decide +kernel
theorem dH_ask_91 : decode cH_ask 91 = .ok (.invokevirtual 144, 3) := by decide +kernel
theorem dH_ask_94 : decode cH_ask 94 = .ok (.iload_n 2, 1) := by decide +kernel
theorem dH_ask_95 : decode cH_ask 95 = .ok (.ifCond .eq 7, 3) := by decide +kernel
theorem dH_ask_102 : decode cH_ask 102 = .ok (.iconst 0, 1) := by decide +kernel
theorem dH_ask_103 : decode cH_ask 103 = .ok (.ireturn, 1) := by decide +kernel
theorem dH_ask_98 : decode cH_ask 98 = .ok (.iconst 1, 1) := by decide +kernel
theorem dH_ask_99 : decode cH_ask 99 = .ok (.goto 4, 3) := by decide +kernel
theorem dH_ask_82 : decode cH_ask 82 = .ok (.iconst 4, 1) := by decide +kernel
theorem dH_ask_78 : decode cH_ask 78 = .ok (.iconst 3, 1) := by decide +kernel
theorem dH_ask_79 : decode cH_ask 79 = .ok (.goto 4, 3) := by decide +kernel
theorem dH_ask_53 : decode cH_ask 53 = .ok (.aload_n 0, 1) := by decide +kernel
theorem dH_ask_54 : decode cH_ask 54 = .ok (.getfield 12, 3) := by decide +kernel
theorem dH_ask_57 : decode cH_ask 57 = .ok (.dup, 1) := by decide +kernel
theorem dH_ask_58 : decode cH_ask 58 = .ok (.getfield 160, 3) := by decide +kernel
theorem dH_ask_61 : decode cH_ask 61 = .ok (.iconst 1, 1) := by decide +kernel
theorem dH_ask_62 : decode cH_ask 62 = .ok (.iadd, 1) := by decide +kernel
theorem dH_ask_63 : decode cH_ask 63 = .ok (.putfield 160, 3) := by decide +kernel
theorem dH_ask_7 : decode cH_ask 7 = .ok (.iconst (-1), 1) := by decide +kernel
theorem dH_ask_8 : decode cH_ask 8 = .ok (.ireturn, 1) := by decide +kernel
def fH_ask (v1 : Int32) (s0 : Sg) : Option (Int32 × Sg) := bi (fH_isQuestion v1 s0) fun r2 s1 => if r2 = 0 then (some ((-1), s1)) else (bv (fPa_keep 1 s1) fun s3 => bi (fTe_suits 19 (s3 1 2) v1 s3) fun r5 s4 => bnd (pt s4 1 6 ((s4 1 6) + 1)) fun s6 => bnd (fun (s7 : Sg) => bnd (fun (b83_0 : Int32) (s8 : Sg) => bv (fSu_note 1 b83_0 v1 (s8 1 2) s8) fun s9 => if r5 = 0 then (some (0, s9)) else (some (1, s9))) fun j83 => if r5 = 0 then (j83 4 s7) else (j83 3 s7)) fun j66 => if r5 = 0 then (j66 s6) else (bnd (pt s6 1 7 ((s6 1 7) + 1)) fun s10 => j66 s10))
set_option maxHeartbeats 4000000 in
set_option maxRecDepth 100000 in
theorem okH_ask (v1 : Int32) (s0 : Sg) : ∀ (l : Launch) (w : WC), Ok l w yH_ask cH_ask 3 (some .int) 5 evI [.ref (w.ad 0), .int v1] s0 (fH_ask v1 s0) := by
  refine ok_in (ev := fun _ => evI) (av := fun w => [.ref (w.ad 0), .int v1]) "LastWordHill" rfl (by decide +kernel) (fun _ => rfl) (fun _ => Nat.le_of_ble_eq_true rfl) ?_
  intro C X E
  show GF C evI 0 [some (.ref (C.w.ad 0)), some (.int v1), none] [] s0 (fH_ask v1 s0)
  unfold fH_ask
  refine g_iload_n X dH_ask_0 rfl ?_
  refine g_statI X [.int v1] [] mm_H_isQuestion ms_H_isQuestion ml_H_151 (okH_isQuestion v1 s0 C.l C.w) rfl (by decide) rfl (Nat.le_of_ble_eq_true rfl) dH_ask_1 (fun r2 s1 => ?_)
  refine g_zne X (tgt := 9) dH_ask_4 (by decide) ?_ ?_
  · refine g_iconst X (-1) dH_ask_7 (by decide) ?_
    exact g_iret X E dH_ask_8
  · refine g_aload_n X dH_ask_9 rfl ?_
    refine g_getN X fl_H_22 fb_11_2 k_0 r_0_2 dH_ask_10 ?_
    refine g_aload_n X dH_ask_13 rfl ?_
    refine g_getN X fl_H_12 fb_11_0 k_0 r_0_0 dH_ask_14 ?_
    refine g_virtV X [.ref (C.w.ad 1)] [] k_5 mm_Pa_keep mv_Pa_keep ml_H_137 (okPa_keep 1 s1 k_1 C.l C.w) rfl (by decide) rfl (Nat.le_of_ble_eq_true rfl) dH_ask_17 (fun s3 => ?_)
    refine g_aload_n X dH_ask_20 rfl ?_
    refine g_getN X fl_H_29 fb_11_3 k_0 r_0_3 dH_ask_21 ?_
    refine g_aload_n X dH_ask_24 rfl ?_
    refine g_getN X fl_H_12 fb_11_0 k_0 r_0_0 dH_ask_25 ?_
    refine g_getI X fl_H_121 fb_5_2 k_1 dH_ask_28 ?_
    refine g_iload_n X dH_ask_31 rfl ?_
    refine g_virtI X [.int (s3 1 2), .int v1] [] k_19 mm_Te_suits mv_Te_suits ml_H_154 (okTe_suits 19 (s3 1 2) v1 s3 k_19 C.l C.w) rfl (by decide) rfl (Nat.le_of_ble_eq_true rfl) dH_ask_32 (fun r5 s4 => ?_)
    refine g_istore_n X [some (.ref (C.w.ad 0)), some (.int v1), some (.int r5)] dH_ask_35 (by decide) (Nat.le_of_ble_eq_true rfl) rfl ?_
    refine g_aload_n X dH_ask_36 rfl ?_
    refine g_getN X fl_H_12 fb_11_0 k_0 r_0_0 dH_ask_37 ?_
    refine g_dup X dH_ask_40 rfl ?_
    refine g_getI X fl_H_157 fb_5_6 k_1 dH_ask_41 ?_
    refine g_iconst X 1 dH_ask_44 (by decide) ?_
    refine g_iadd X dH_ask_45 ?_
    refine g_putI X fl_H_157 fb_5_6 fp_5_6 k_1 dH_ask_46 (fun s6 => ?_)
    refine g_iload_n X dH_ask_49 rfl ?_
    refine gf_jn (fun j66 => ∀ (s7 : Sg), GF C evI 66 [some (.ref (C.w.ad 0)), some (.int v1), some (.int r5)] [] s7 (j66 s7)) ?_ ?_
    · intro s7
      refine g_aload_n X dH_ask_66 rfl ?_
      refine g_getN X fl_H_61 fb_11_7 k_0 r_0_7 dH_ask_67 ?_
      refine g_aload_n X dH_ask_70 rfl ?_
      refine g_getN X fl_H_12 fb_11_0 k_0 r_0_0 dH_ask_71 ?_
      refine g_iload_n X dH_ask_74 rfl ?_
      refine gf_jn (fun j83 => ∀ (b83_0 : Int32) (s8 : Sg), GF C evI 83 [some (.ref (C.w.ad 0)), some (.int v1), some (.int r5)] [.int b83_0, .ref (C.w.ad 1), .ref (C.w.ad 65)] s8 (j83 b83_0 s8)) ?_ ?_
      · intro b83_0 s8
        refine g_iload_n X dH_ask_83 rfl ?_
        refine g_aload_n X dH_ask_84 rfl ?_
        refine g_getN X fl_H_12 fb_11_0 k_0 r_0_0 dH_ask_85 ?_
        refine g_getI X fl_H_121 fb_5_2 k_1 dH_ask_88 ?_
        refine g_virtV X [.ref (C.w.ad 1), .int b83_0, .int v1, .int (s8 1 2)] [] k_65 mm_Su_note mv_Su_note ml_H_144 (okSu_note 1 b83_0 v1 (s8 1 2) s8 k_1 C.l C.w) rfl (by decide) rfl (Nat.le_of_ble_eq_true rfl) dH_ask_91 (fun s9 => ?_)
        refine g_iload_n X dH_ask_94 rfl ?_
        refine g_zeq X (tgt := 102) dH_ask_95 (by decide) ?_ ?_
        · refine g_iconst X 0 dH_ask_102 (by decide) ?_
          exact g_iret X E dH_ask_103
        · refine g_iconst X 1 dH_ask_98 (by decide) ?_
          refine g_goto X 103 dH_ask_99 (by decide) ?_
          exact g_iret X E dH_ask_103
      · intro j83 hj83
        refine g_zeq X (tgt := 82) dH_ask_75 (by decide) ?_ ?_
        · refine g_iconst X 4 dH_ask_82 (by decide) ?_
          exact gf_sub (hj83 4 s7) (by simp [lsub])
        · refine g_iconst X 3 dH_ask_78 (by decide) ?_
          refine g_goto X 83 dH_ask_79 (by decide) ?_
          exact gf_sub (hj83 3 s7) (by simp [lsub])
    · intro j66 hj66
      refine g_zeq X (tgt := 66) dH_ask_50 (by decide) ?_ ?_
      · exact gf_sub (hj66 s6) (by simp [lsub])
      · refine g_aload_n X dH_ask_53 rfl ?_
        refine g_getN X fl_H_12 fb_11_0 k_0 r_0_0 dH_ask_54 ?_
        refine g_dup X dH_ask_57 rfl ?_
        refine g_getI X fl_H_160 fb_5_7 k_1 dH_ask_58 ?_
        refine g_iconst X 1 dH_ask_61 (by decide) ?_
        refine g_iadd X dH_ask_62 ?_
        refine g_putI X fl_H_160 fb_5_7 fp_5_7 k_1 dH_ask_63 (fun s10 => ?_)
        exact gf_sub (hj66 s10) (by simp [lsub])
def yH_fits : MethodName := ⟨"LastWordHill", "fits", "(II)I"⟩
abbrev cH_fits : ByteArray := prog_1_method_21_code
theorem dH_fits_0 : decode cH_fits 0 = .ok (.iload_n 2, 1) := by decide +kernel
theorem dH_fits_1 : decode cH_fits 1 = .ok (.ifCond .ne 23, 3) := by decide +kernel
theorem dH_fits_24 : decode cH_fits 24 = .ok (.iload_n 1, 1) := by decide +kernel
theorem dH_fits_25 : decode cH_fits 25 = .ok (.iconst 0, 1) := by decide +kernel
theorem dH_fits_26 : decode cH_fits 26 = .ok (.sipush 1023, 3) := by decide +kernel
theorem dH_fits_29 : decode cH_fits 29 = .ok (.invokestatic 81, 3) := by decide +kernel
theorem dH_fits_32 : decode cH_fits 32 = .ok (.ifCond .eq 12, 3) := by decide +kernel
theorem dH_fits_44 : decode cH_fits 44 = .ok (.iconst (-1), 1) := by decide +kernel
theorem dH_fits_45 : decode cH_fits 45 = .ok (.ireturn, 1) := by decide +kernel
theorem dH_fits_35 : decode cH_fits 35 = .ok (.iload_n 2, 1) := by decide +kernel
theorem dH_fits_36 : decode cH_fits 36 = .ok (.iconst 1, 1) := by decide +kernel
theorem dH_fits_37 : decode cH_fits 37 = .ok (.iconst 3, 1) := by decide +kernel
theorem dH_fits_38 : decode cH_fits 38 = .ok (.invokestatic 81, 3) := by decide +kernel
theorem dH_fits_41 : decode cH_fits 41 = .ok (.ifCond .ne 5, 3) := by decide +kernel
theorem dH_fits_46 : decode cH_fits 46 = .ok (.iload_n 2, 1) := by decide +kernel
theorem dH_fits_47 : decode cH_fits 47 = .ok (.iconst 1, 1) := by decide +kernel
theorem dH_fits_48 : decode cH_fits 48 = .ok (.if_icmp .ne 12, 3) := by decide +kernel
theorem dH_fits_60 : decode cH_fits 60 = .ok (.aload_n 0, 1) := by decide +kernel
theorem dH_fits_61 : decode cH_fits 61 = .ok (.getfield 70, 3) := by decide +kernel
theorem dH_fits_64 : decode cH_fits 64 = .ok (.iload_n 1, 1) := by decide +kernel
theorem dH_fits_65 : decode cH_fits 65 = .ok (.invokevirtual 239, 3) := by decide +kernel
theorem mm_Mu_cover : MMc yMu_cover cMu_cover 2 none 1 := ⟨hz_in 1143 (by decide +kernel) (by decide +kernel), hz_in 145 (by decide +kernel) (by decide +kernel), by decide +kernel, by decide⟩
theorem mv_Mu_cover : MMv yMu_cover 2 := ⟨hz_in 1141 (by decide +kernel) (by decide +kernel), hz_in 1142 (by decide +kernel) (by decide +kernel), _, _, rfl, by decide⟩
theorem ml_H_239 : Cond.methodLink "LastWordHill" 239 yMu_cover ∈ hz_wt := hz_in 1140 (by decide +kernel) (by decide +kernel)
theorem dH_fits_68 : decode cH_fits 68 = .ok (.iload_n 2, 1) := by decide +kernel
theorem dH_fits_69 : decode cH_fits 69 = .ok (.iconst 2, 1) := by decide +kernel
theorem dH_fits_70 : decode cH_fits 70 = .ok (.if_icmp .ne 13, 3) := by decide +kernel
theorem dH_fits_83 : decode cH_fits 83 = .ok (.aload_n 0, 1) := by decide +kernel
theorem dH_fits_84 : decode cH_fits 84 = .ok (.getfield 70, 3) := by decide +kernel
theorem dH_fits_87 : decode cH_fits 87 = .ok (.getfield 245, 3) := by decide +kernel
theorem fl_H_245 : FLk "LastWordHill" 245 2 8 := ⟨_, _, _, rfl, by decide, hz_in 502 (by decide +kernel) (by decide +kernel), nL2, by decide, by decide⟩
theorem dH_fits_90 : decode cH_fits 90 = .ok (.ireturn, 1) := by decide +kernel
theorem dH_fits_73 : decode cH_fits 73 = .ok (.aload_n 0, 1) := by decide +kernel
theorem dH_fits_74 : decode cH_fits 74 = .ok (.getfield 70, 3) := by decide +kernel
theorem dH_fits_77 : decode cH_fits 77 = .ok (.getfield 242, 3) := by decide +kernel
theorem fl_H_242 : FLk "LastWordHill" 242 2 7 := ⟨_, _, _, rfl, by decide, hz_in 500 (by decide +kernel) (by decide +kernel), nL2, by decide, by decide⟩
theorem dH_fits_80 : decode cH_fits 80 = .ok (.goto 10, 3) := by decide +kernel
theorem dH_fits_51 : decode cH_fits 51 = .ok (.aload_n 0, 1) := by decide +kernel
theorem dH_fits_52 : decode cH_fits 52 = .ok (.getfield 70, 3) := by decide +kernel
theorem dH_fits_55 : decode cH_fits 55 = .ok (.iload_n 1, 1) := by decide +kernel
theorem dH_fits_56 : decode cH_fits 56 = .ok (.invokevirtual 236, 3) := by decide +kernel
theorem mm_Mu_bestWord : MMc yMu_bestWord cMu_bestWord 4 (some .int) 1 := ⟨hz_in 1128 (by decide +kernel) (by decide +kernel), hz_in 145 (by decide +kernel) (by decide +kernel), by decide +kernel, by decide⟩
theorem mv_Mu_bestWord : MMv yMu_bestWord 2 := ⟨hz_in 1126 (by decide +kernel) (by decide +kernel), hz_in 1127 (by decide +kernel) (by decide +kernel), _, _, rfl, by decide⟩
theorem ml_H_236 : Cond.methodLink "LastWordHill" 236 yMu_bestWord ∈ hz_wt := hz_in 1125 (by decide +kernel) (by decide +kernel)
theorem dH_fits_59 : decode cH_fits 59 = .ok (.ireturn, 1) := by decide +kernel
theorem dH_fits_4 : decode cH_fits 4 = .ok (.iload_n 1, 1) := by decide +kernel
theorem dH_fits_5 : decode cH_fits 5 = .ok (.invokestatic 117, 3) := by decide +kernel
theorem dH_fits_8 : decode cH_fits 8 = .ok (.ifCond .eq 14, 3) := by decide +kernel
theorem dH_fits_22 : decode cH_fits 22 = .ok (.iconst (-1), 1) := by decide +kernel
theorem dH_fits_23 : decode cH_fits 23 = .ok (.ireturn, 1) := by decide +kernel
theorem dH_fits_11 : decode cH_fits 11 = .ok (.aload_n 0, 1) := by decide +kernel
theorem dH_fits_12 : decode cH_fits 12 = .ok (.getfield 29, 3) := by decide +kernel
theorem dH_fits_15 : decode cH_fits 15 = .ok (.iload_n 1, 1) := by decide +kernel
theorem dH_fits_16 : decode cH_fits 16 = .ok (.invokevirtual 232, 3) := by decide +kernel
theorem ml_H_232 : Cond.methodLink "LastWordHill" 232 yTe_answered ∈ hz_wt := hz_in 1124 (by decide +kernel) (by decide +kernel)
theorem dH_fits_19 : decode cH_fits 19 = .ok (.goto 4, 3) := by decide +kernel
def fH_fits (v1 : Int32) (v2 : Int32) (s0 : Sg) : Option (Int32 × Sg) := if v2 = 0 then (bi (fH_isWord v1 s0) fun r9 s8 => if r9 = 0 then (some ((-1), s8)) else (bi (fTe_answered 19 v1 s8) fun r11 s10 => some (r11, s10))) else (bi (fH_within v1 0 1023 s0) fun r2 s1 => if r2 = 0 then (some ((-1), s1)) else (bi (fH_within v2 1 3 s1) fun r4 s3 => if r4 = 0 then (some ((-1), s3)) else (if v2 = 1 then (bi (fMu_bestWord v1 s3) fun r7 s6 => some (r7, s6)) else (bv (fMu_cover v1 s3) fun s5 => if v2 = 2 then (some ((s5 66 7), s5)) else (some ((s5 66 8), s5))))))
set_option maxHeartbeats 4000000 in
set_option maxRecDepth 100000 in
theorem okH_fits (v1 : Int32) (v2 : Int32) (s0 : Sg) : ∀ (l : Launch) (w : WC), Ok l w yH_fits cH_fits 3 (some .int) 15 evI [.ref (w.ad 0), .int v1, .int v2] s0 (fH_fits v1 v2 s0) := by
  refine ok_in (ev := fun _ => evI) (av := fun w => [.ref (w.ad 0), .int v1, .int v2]) "LastWordHill" rfl (by decide +kernel) (fun _ => rfl) (fun _ => Nat.le_of_ble_eq_true rfl) ?_
  intro C X E
  show GF C evI 0 [some (.ref (C.w.ad 0)), some (.int v1), some (.int v2)] [] s0 (fH_fits v1 v2 s0)
  unfold fH_fits
  refine g_iload_n X dH_fits_0 rfl ?_
  refine g_zne X (tgt := 24) dH_fits_1 (by decide) ?_ ?_
  · refine g_iload_n X dH_fits_4 rfl ?_
    refine g_statI X [.int v1] [] mm_H_isWord ms_H_isWord ml_H_117 (okH_isWord v1 s0 C.l C.w) rfl (by decide) rfl (Nat.le_of_ble_eq_true rfl) dH_fits_5 (fun r9 s8 => ?_)
    refine g_zeq X (tgt := 22) dH_fits_8 (by decide) ?_ ?_
    · refine g_iconst X (-1) dH_fits_22 (by decide) ?_
      exact g_iret X E dH_fits_23
    · refine g_aload_n X dH_fits_11 rfl ?_
      refine g_getN X fl_H_29 fb_11_3 k_0 r_0_3 dH_fits_12 ?_
      refine g_iload_n X dH_fits_15 rfl ?_
      refine g_virtI X [.int v1] [] k_19 mm_Te_answered mv_Te_answered ml_H_232 (okTe_answered 19 v1 s8 k_19 C.l C.w) rfl (by decide) rfl (Nat.le_of_ble_eq_true rfl) dH_fits_16 (fun r11 s10 => ?_)
      refine g_goto X 23 dH_fits_19 (by decide) ?_
      exact g_iret X E dH_fits_23
  · refine g_iload_n X dH_fits_24 rfl ?_
    refine g_iconst X 0 dH_fits_25 (by decide) ?_
    refine g_sipush X 1023 dH_fits_26 (by decide) ?_
    refine g_statI X [.int v1, .int 0, .int 1023] [] mm_H_within ms_H_within ml_H_81 (okH_within v1 0 1023 s0 C.l C.w) rfl (by decide) rfl (Nat.le_of_ble_eq_true rfl) dH_fits_29 (fun r2 s1 => ?_)
    refine g_zeq X (tgt := 44) dH_fits_32 (by decide) ?_ ?_
    · refine g_iconst X (-1) dH_fits_44 (by decide) ?_
      exact g_iret X E dH_fits_45
    · refine g_iload_n X dH_fits_35 rfl ?_
      refine g_iconst X 1 dH_fits_36 (by decide) ?_
      refine g_iconst X 3 dH_fits_37 (by decide) ?_
      refine g_statI X [.int v2, .int 1, .int 3] [] mm_H_within ms_H_within ml_H_81 (okH_within v2 1 3 s1 C.l C.w) rfl (by decide) rfl (Nat.le_of_ble_eq_true rfl) dH_fits_38 (fun r4 s3 => ?_)
      refine g_zne X (tgt := 46) dH_fits_41 (by decide) ?_ ?_
      · refine g_iconst X (-1) dH_fits_44 (by decide) ?_
        exact g_iret X E dH_fits_45
      · refine g_iload_n X dH_fits_46 rfl ?_
        refine g_iconst X 1 dH_fits_47 (by decide) ?_
        refine g_cne X (tgt := 60) dH_fits_48 (by decide) ?_ ?_
        · refine g_aload_n X dH_fits_51 rfl ?_
          refine g_getN X fl_H_70 fb_11_8 k_0 r_0_8 dH_fits_52 ?_
          refine g_iload_n X dH_fits_55 rfl ?_
          refine g_virtI X [.int v1] [] k_66 mm_Mu_bestWord mv_Mu_bestWord ml_H_236 (okMu_bestWord v1 s3 C.l C.w) rfl (by decide) rfl (Nat.le_of_ble_eq_true rfl) dH_fits_56 (fun r7 s6 => ?_)
          exact g_iret X E dH_fits_59
        · refine g_aload_n X dH_fits_60 rfl ?_
          refine g_getN X fl_H_70 fb_11_8 k_0 r_0_8 dH_fits_61 ?_
          refine g_iload_n X dH_fits_64 rfl ?_
          refine g_virtV X [.int v1] [] k_66 mm_Mu_cover mv_Mu_cover ml_H_239 (okMu_cover v1 s3 C.l C.w) rfl (by decide) rfl (Nat.le_of_ble_eq_true rfl) dH_fits_65 (fun s5 => ?_)
          refine g_iload_n X dH_fits_68 rfl ?_
          refine g_iconst X 2 dH_fits_69 (by decide) ?_
          refine g_cne X (tgt := 83) dH_fits_70 (by decide) ?_ ?_
          · refine g_aload_n X dH_fits_73 rfl ?_
            refine g_getN X fl_H_70 fb_11_8 k_0 r_0_8 dH_fits_74 ?_
            refine g_getI X fl_H_242 fb_2_7 k_66 dH_fits_77 ?_
            refine g_goto X 90 dH_fits_80 (by decide) ?_
            exact g_iret X E dH_fits_90
          · refine g_aload_n X dH_fits_83 rfl ?_
            refine g_getN X fl_H_70 fb_11_8 k_0 r_0_8 dH_fits_84 ?_
            refine g_getI X fl_H_245 fb_2_8 k_66 dH_fits_87 ?_
            exact g_iret X E dH_fits_90
def yH_worths : MethodName := ⟨"LastWordHill", "worths", "()I"⟩
abbrev cH_worths : ByteArray := prog_1_method_38_code
theorem dH_worths_0 : decode cH_worths 0 = .ok (.aload_n 0, 1) := by decide +kernel
theorem dH_worths_1 : decode cH_worths 1 = .ok (.getfield 70, 3) := by decide +kernel
theorem dH_worths_4 : decode cH_worths 4 = .ok (.aload_n 0, 1) := by decide +kernel
theorem dH_worths_5 : decode cH_worths 5 = .ok (.getfield 12, 3) := by decide +kernel
theorem dH_worths_8 : decode cH_worths 8 = .ok (.invokevirtual 330, 3) := by decide +kernel
theorem mm_Mu_worthOfTwo : MMc yMu_worthOfTwo cMu_worthOfTwo 6 (some .int) 1 := ⟨hz_in 1343 (by decide +kernel) (by decide +kernel), hz_in 145 (by decide +kernel) (by decide +kernel), by decide +kernel, by decide⟩
theorem mv_Mu_worthOfTwo : MMv yMu_worthOfTwo 2 := ⟨hz_in 1341 (by decide +kernel) (by decide +kernel), hz_in 1342 (by decide +kernel) (by decide +kernel), _, _, rfl, by decide⟩
theorem ml_H_330 : Cond.methodLink "LastWordHill" 330 yMu_worthOfTwo ∈ hz_wt := hz_in 1340 (by decide +kernel) (by decide +kernel)
theorem dH_worths_11 : decode cH_worths 11 = .ok (.ireturn, 1) := by decide +kernel
def fH_worths (s0 : Sg) : Option (Int32 × Sg) := bi (fMu_worthOfTwo 1 s0) fun r2 s1 => some (r2, s1)
set_option maxHeartbeats 4000000 in
set_option maxRecDepth 100000 in
theorem okH_worths (s0 : Sg) : ∀ (l : Launch) (w : WC), Ok l w yH_worths cH_worths 1 (some .int) 4 evI [.ref (w.ad 0)] s0 (fH_worths s0) := by
  refine ok_in (ev := fun _ => evI) (av := fun w => [.ref (w.ad 0)]) "LastWordHill" rfl (by decide +kernel) (fun _ => rfl) (fun _ => Nat.le_of_ble_eq_true rfl) ?_
  intro C X E
  show GF C evI 0 [some (.ref (C.w.ad 0))] [] s0 (fH_worths s0)
  unfold fH_worths
  refine g_aload_n X dH_worths_0 rfl ?_
  refine g_getN X fl_H_70 fb_11_8 k_0 r_0_8 dH_worths_1 ?_
  refine g_aload_n X dH_worths_4 rfl ?_
  refine g_getN X fl_H_12 fb_11_0 k_0 r_0_0 dH_worths_5 ?_
  refine g_virtI X [.ref (C.w.ad 1)] [] k_66 mm_Mu_worthOfTwo mv_Mu_worthOfTwo ml_H_330 (okMu_worthOfTwo 1 s0 k_1 C.l C.w) rfl (by decide) rfl (Nat.le_of_ble_eq_true rfl) dH_worths_8 (fun r2 s1 => ?_)
  exact g_iret X E dH_worths_11
def yH_game : MethodName := ⟨"LastWordHill", "game", "(I)I"⟩
abbrev cH_game : ByteArray := prog_1_method_39_code
theorem dH_game_0 : decode cH_game 0 = .ok (.iload_n 1, 1) := by decide +kernel
theorem dH_game_1 : decode cH_game 1 = .ok (.iconst 0, 1) := by decide +kernel
theorem dH_game_2 : decode cH_game 2 = .ok (.iconst 1, 1) := by decide +kernel
theorem dH_game_3 : decode cH_game 3 = .ok (.invokestatic 81, 3) := by decide +kernel
theorem dH_game_6 : decode cH_game 6 = .ok (.ifCond .eq 27, 3) := by decide +kernel
theorem dH_game_33 : decode cH_game 33 = .ok (.iconst (-1), 1) := by decide +kernel
theorem dH_game_34 : decode cH_game 34 = .ok (.ireturn, 1) := by decide +kernel
theorem dH_game_9 : decode cH_game 9 = .ok (.aload_n 0, 1) := by decide +kernel
theorem dH_game_10 : decode cH_game 10 = .ok (.getfield 70, 3) := by decide +kernel
theorem dH_game_13 : decode cH_game 13 = .ok (.aload_n 0, 1) := by decide +kernel
theorem dH_game_14 : decode cH_game 14 = .ok (.getfield 12, 3) := by decide +kernel
theorem dH_game_17 : decode cH_game 17 = .ok (.iload_n 1, 1) := by decide +kernel
theorem dH_game_18 : decode cH_game 18 = .ok (.iconst 1, 1) := by decide +kernel
theorem dH_game_19 : decode cH_game 19 = .ok (.if_icmp .ne 7, 3) := by decide +kernel
theorem dH_game_27 : decode cH_game 27 = .ok (.invokevirtual 334, 3) := by decide +kernel
theorem mm_Mu_openingMove : MMc yMu_openingMove cMu_openingMove 7 (some .int) 2 := ⟨hz_in 1353 (by decide +kernel) (by decide +kernel), hz_in 145 (by decide +kernel) (by decide +kernel), by decide +kernel, by decide⟩
theorem mv_Mu_openingMove : MMv yMu_openingMove 2 := ⟨hz_in 1351 (by decide +kernel) (by decide +kernel), hz_in 1352 (by decide +kernel) (by decide +kernel), _, _, rfl, by decide⟩
theorem ml_H_334 : Cond.methodLink "LastWordHill" 334 yMu_openingMove ∈ hz_wt := hz_in 1350 (by decide +kernel) (by decide +kernel)
theorem dH_game_30 : decode cH_game 30 = .ok (.goto 4, 3) := by decide +kernel
theorem dH_game_26 : decode cH_game 26 = .ok (.iconst 0, 1) := by decide +kernel
theorem dH_game_22 : decode cH_game 22 = .ok (.iconst 1, 1) := by decide +kernel
theorem dH_game_23 : decode cH_game 23 = .ok (.goto 4, 3) := by decide +kernel
def fH_game (v1 : Int32) (s0 : Sg) : Option (Int32 × Sg) := bi (fH_within v1 0 1 s0) fun r2 s1 => if r2 = 0 then (some ((-1), s1)) else (bnd (fun (b27_0 : Int32) (s3 : Sg) => bi (fMu_openingMove 1 b27_0 s3) fun r5 s4 => some (r5, s4)) fun j27 => if v1 = 1 then (j27 1 s1) else (j27 0 s1))
set_option maxHeartbeats 4000000 in
set_option maxRecDepth 100000 in
theorem okH_game (v1 : Int32) (s0 : Sg) : ∀ (l : Launch) (w : WC), Ok l w yH_game cH_game 2 (some .int) 4 evI [.ref (w.ad 0), .int v1] s0 (fH_game v1 s0) := by
  refine ok_in (ev := fun _ => evI) (av := fun w => [.ref (w.ad 0), .int v1]) "LastWordHill" rfl (by decide +kernel) (fun _ => rfl) (fun _ => Nat.le_of_ble_eq_true rfl) ?_
  intro C X E
  show GF C evI 0 [some (.ref (C.w.ad 0)), some (.int v1)] [] s0 (fH_game v1 s0)
  unfold fH_game
  refine g_iload_n X dH_game_0 rfl ?_
  refine g_iconst X 0 dH_game_1 (by decide) ?_
  refine g_iconst X 1 dH_game_2 (by decide) ?_
  refine g_statI X [.int v1, .int 0, .int 1] [] mm_H_within ms_H_within ml_H_81 (okH_within v1 0 1 s0 C.l C.w) rfl (by decide) rfl (Nat.le_of_ble_eq_true rfl) dH_game_3 (fun r2 s1 => ?_)
  refine g_zeq X (tgt := 33) dH_game_6 (by decide) ?_ ?_
  · refine g_iconst X (-1) dH_game_33 (by decide) ?_
    exact g_iret X E dH_game_34
  · refine g_aload_n X dH_game_9 rfl ?_
    refine g_getN X fl_H_70 fb_11_8 k_0 r_0_8 dH_game_10 ?_
    refine g_aload_n X dH_game_13 rfl ?_
    refine g_getN X fl_H_12 fb_11_0 k_0 r_0_0 dH_game_14 ?_
    refine g_iload_n X dH_game_17 rfl ?_
    refine g_iconst X 1 dH_game_18 (by decide) ?_
    refine gf_jn (fun j27 => ∀ (b27_0 : Int32) (s3 : Sg), GF C evI 27 [none, none] [.int b27_0, .ref (C.w.ad 1), .ref (C.w.ad 66)] s3 (j27 b27_0 s3)) ?_ ?_
    · intro b27_0 s3
      refine g_virtI X [.ref (C.w.ad 1), .int b27_0] [] k_66 mm_Mu_openingMove mv_Mu_openingMove ml_H_334 (okMu_openingMove 1 b27_0 s3 k_1 C.l C.w) rfl (by decide) rfl (Nat.le_of_ble_eq_true rfl) dH_game_27 (fun r5 s4 => ?_)
      refine g_goto X 34 dH_game_30 (by decide) ?_
      exact g_iret X E dH_game_34
    · intro j27 hj27
      refine g_cne X (tgt := 26) dH_game_19 (by decide) ?_ ?_
      · refine g_iconst X 1 dH_game_22 (by decide) ?_
        refine g_goto X 27 dH_game_23 (by decide) ?_
        exact gf_sub (hj27 1 s1) (by simp [lsub])
      · refine g_iconst X 0 dH_game_26 (by decide) ?_
        exact gf_sub (hj27 0 s1) (by simp [lsub])
def yH_undo : MethodName := ⟨"LastWordHill", "undo", "()Z"⟩
abbrev cH_undo : ByteArray := prog_1_method_40_code
theorem dH_undo_0 : decode cH_undo 0 = .ok (.aload_n 0, 1) := by decide +kernel
theorem dH_undo_1 : decode cH_undo 1 = .ok (.getfield 22, 3) := by decide +kernel
theorem dH_undo_4 : decode cH_undo 4 = .ok (.aload_n 0, 1) := by decide +kernel
theorem dH_undo_5 : decode cH_undo 5 = .ok (.getfield 12, 3) := by decide +kernel
theorem dH_undo_8 : decode cH_undo 8 = .ok (.invokevirtual 337, 3) := by decide +kernel
theorem mm_Pa_goBack : MMc yPa_goBack cPa_goBack 2 (some .boolean) 1 := ⟨hz_in 1373 (by decide +kernel) (by decide +kernel), hz_in 136 (by decide +kernel) (by decide +kernel), by decide +kernel, by decide⟩
theorem mv_Pa_goBack : MMv yPa_goBack 3 := ⟨hz_in 1371 (by decide +kernel) (by decide +kernel), hz_in 1372 (by decide +kernel) (by decide +kernel), _, _, rfl, by decide⟩
theorem ml_H_337 : Cond.methodLink "LastWordHill" 337 yPa_goBack ∈ hz_wt := hz_in 1370 (by decide +kernel) (by decide +kernel)
theorem dH_undo_11 : decode cH_undo 11 = .ok (.ireturn, 1) := by decide +kernel
def fH_undo (s0 : Sg) : Option (Int32 × Sg) := bi (fPa_goBack 1 s0) fun r2 s1 => gb r2 (some (r2, s1))
set_option maxHeartbeats 4000000 in
set_option maxRecDepth 100000 in
theorem okH_undo (s0 : Sg) : ∀ (l : Launch) (w : WC), Ok l w yH_undo cH_undo 1 (some .boolean) 4 evI [.ref (w.ad 0)] s0 (fH_undo s0) := by
  refine ok_in (ev := fun _ => evI) (av := fun w => [.ref (w.ad 0)]) "LastWordHill" rfl (by decide +kernel) (fun _ => rfl) (fun _ => Nat.le_of_ble_eq_true rfl) ?_
  intro C X E
  show GF C evI 0 [some (.ref (C.w.ad 0))] [] s0 (fH_undo s0)
  unfold fH_undo
  refine g_aload_n X dH_undo_0 rfl ?_
  refine g_getN X fl_H_22 fb_11_2 k_0 r_0_2 dH_undo_1 ?_
  refine g_aload_n X dH_undo_4 rfl ?_
  refine g_getN X fl_H_12 fb_11_0 k_0 r_0_0 dH_undo_5 ?_
  refine g_virtI X [.ref (C.w.ad 1)] [] k_5 mm_Pa_goBack mv_Pa_goBack ml_H_337 (okPa_goBack 1 s0 k_1 C.l C.w) rfl (by decide) rfl (Nat.le_of_ble_eq_true rfl) dH_undo_8 (fun r2 s1 => ?_)
  exact g_zret X E dH_undo_11
def yJ0_charAt_5068e : MethodName := ⟨"java/lang/String", "charAt", "(I)C"⟩
abbrev cJ0_charAt_5068e : ByteArray := prog_18_method_56_code
theorem dJ0_charAt_5068e_0 : decode cJ0_charAt_5068e 0 = .ok (.aload_n 0, 1) := by decide +kernel
theorem dJ0_charAt_5068e_1 : decode cJ0_charAt_5068e 1 = .ok (.invokevirtual 492, 3) := by decide +kernel
theorem mm_J0_isLatin1_aae02 : MMc yJ0_isLatin1_aae02 cJ0_isLatin1_aae02 1 (some .boolean) 0 := ⟨hz_in 866 (by decide +kernel) (by decide +kernel), hz_in 150 (by decide +kernel) (by decide +kernel), by decide +kernel, by decide⟩
theorem mv_J0_isLatin1_aae02 : Cond.instanceMethod yJ0_isLatin1_aae02 ∈ hz_wt ∧ Cond.selects "java/lang/String" yJ0_isLatin1_aae02 yJ0_isLatin1_aae02 ∈ hz_wt := ⟨hz_in 864 (by decide +kernel) (by decide +kernel), hz_in 865 (by decide +kernel) (by decide +kernel)⟩
theorem ml_java_lang_String_492 : Cond.methodLink "java/lang/String" 492 yJ0_isLatin1_aae02 ∈ hz_wt := hz_in 863 (by decide +kernel) (by decide +kernel)
theorem dJ0_charAt_5068e_4 : decode cJ0_charAt_5068e 4 = .ok (.ifCond .eq 12, 3) := by decide +kernel
theorem dJ0_charAt_5068e_16 : decode cJ0_charAt_5068e 16 = .ok (.aload_n 0, 1) := by decide +kernel
theorem dJ0_charAt_5068e_17 : decode cJ0_charAt_5068e 17 = .ok (.getfield 9, 3) := by decide +kernel
theorem dJ0_charAt_5068e_20 : decode cJ0_charAt_5068e 20 = .ok (.iload_n 1, 1) := by decide +kernel
theorem dJ0_charAt_5068e_21 : decode cJ0_charAt_5068e 21 = .ok (.invokestatic 498, 3) := by decide +kernel
theorem mm_J2_charAt_3b067 : MMc yJ2_charAt_3b067 cJ2_charAt_3b067 2 (some .char) 2 := ⟨hz_in 880 (by decide +kernel) (by decide +kernel), hz_in 153 (by decide +kernel) (by decide +kernel), by decide +kernel, by decide⟩
theorem ms_J2_charAt_3b067 : Cond.static yJ2_charAt_3b067 ∈ hz_wt := hz_in 879 (by decide +kernel) (by decide +kernel)
theorem ml_java_lang_String_498 : Cond.methodLink "java/lang/String" 498 yJ2_charAt_3b067 ∈ hz_wt := hz_in 878 (by decide +kernel) (by decide +kernel)
theorem dJ0_charAt_5068e_24 : decode cJ0_charAt_5068e 24 = .ok (.ireturn, 1) := by decide +kernel
theorem dJ0_charAt_5068e_7 : decode cJ0_charAt_5068e 7 = .ok (.aload_n 0, 1) := by decide +kernel
theorem dJ0_charAt_5068e_8 : decode cJ0_charAt_5068e 8 = .ok (.getfield 9, 3) := by decide +kernel
theorem dJ0_charAt_5068e_11 : decode cJ0_charAt_5068e 11 = .ok (.iload_n 1, 1) := by decide +kernel
theorem dJ0_charAt_5068e_12 : decode cJ0_charAt_5068e 12 = .ok (.invokestatic 495, 3) := by decide +kernel
theorem mm_J1_charAt_3b067 : MMc yJ1_charAt_3b067 cJ1_charAt_3b067 2 (some .char) 2 := ⟨hz_in 869 (by decide +kernel) (by decide +kernel), hz_in 151 (by decide +kernel) (by decide +kernel), by decide +kernel, by decide⟩
theorem ms_J1_charAt_3b067 : Cond.static yJ1_charAt_3b067 ∈ hz_wt := hz_in 868 (by decide +kernel) (by decide +kernel)
theorem ml_java_lang_String_495 : Cond.methodLink "java/lang/String" 495 yJ1_charAt_3b067 ∈ hz_wt := hz_in 867 (by decide +kernel) (by decide +kernel)
theorem dJ0_charAt_5068e_15 : decode cJ0_charAt_5068e 15 = .ok (.ireturn, 1) := by decide +kernel
def fJ0_charAt_5068e (o0 : Nat) (v1 : Int32) (s0 : Sg) : Option (Int32 × Sg) := bi (fJ0_isLatin1_aae02 o0 s0) fun r2 s1 => if r2 = 0 then (bi (fJ2_charAt_3b067 o0 v1 s1) fun r4 s3 => gch r4 (some (r4, s3))) else (bi (fJ1_charAt_3b067 o0 v1 s1) fun r6 s5 => gch r6 (some (r6, s5)))
set_option maxHeartbeats 4000000 in
set_option maxRecDepth 100000 in
theorem okJ0_charAt_5068e (o0 : Nat) (v1 : Int32) (s0 : Sg) (h0 : o0 < nJS) : ∀ (l : Launch) (w : WC), Ok l w yJ0_charAt_5068e cJ0_charAt_5068e 2 (some .char) 4 evI [.ref (w.aK o0), .int v1] s0 (fJ0_charAt_5068e o0 v1 s0) := by
  refine ok_in (ev := fun _ => evI) (av := fun w => [.ref (w.aK o0), .int v1]) "java/lang/String" rfl (by decide +kernel) (fun _ => rfl) (fun _ => Nat.le_of_ble_eq_true rfl) ?_
  intro C X E
  show GF C evI 0 [some (.ref (C.w.aK o0)), some (.int v1)] [] s0 (fJ0_charAt_5068e o0 v1 s0)
  unfold fJ0_charAt_5068e
  refine g_aload_n X dJ0_charAt_5068e_0 rfl ?_
  refine g_vstrI X [] [] h0 mm_J0_isLatin1_aae02 mv_J0_isLatin1_aae02 ml_java_lang_String_492 (okJ0_isLatin1_aae02 o0 s0 h0 C.l C.w) rfl (by decide) rfl (Nat.le_of_ble_eq_true rfl) dJ0_charAt_5068e_1 (fun r2 s1 => ?_)
  refine g_zeq X (tgt := 16) dJ0_charAt_5068e_4 (by decide) ?_ ?_
  · refine g_aload_n X dJ0_charAt_5068e_16 rfl ?_
    refine g_sval X h0 fs_java_lang_String_9 dJ0_charAt_5068e_17 ?_
    refine g_iload_n X dJ0_charAt_5068e_20 rfl ?_
    refine g_statI X [.ref (C.w.aV o0), .int v1] [] mm_J2_charAt_3b067 ms_J2_charAt_3b067 ml_java_lang_String_498 (okJ2_charAt_3b067 o0 v1 s1 h0 C.l C.w) rfl (by decide) rfl (Nat.le_of_ble_eq_true rfl) dJ0_charAt_5068e_21 (fun r4 s3 => ?_)
    exact g_cret X E dJ0_charAt_5068e_24
  · refine g_aload_n X dJ0_charAt_5068e_7 rfl ?_
    refine g_sval X h0 fs_java_lang_String_9 dJ0_charAt_5068e_8 ?_
    refine g_iload_n X dJ0_charAt_5068e_11 rfl ?_
    refine g_statI X [.ref (C.w.aV o0), .int v1] [] mm_J1_charAt_3b067 ms_J1_charAt_3b067 ml_java_lang_String_495 (okJ1_charAt_3b067 o0 v1 s1 h0 C.l C.w) rfl (by decide) rfl (Nat.le_of_ble_eq_true rfl) dJ0_charAt_5068e_12 (fun r6 s5 => ?_)
    exact g_cret X E dJ0_charAt_5068e_15
def yJ0_indexOf_7cf53 : MethodName := ⟨"java/lang/String", "indexOf", "(II)I"⟩
abbrev cJ0_indexOf_7cf53 : ByteArray := prog_18_method_80_code
theorem dJ0_indexOf_7cf53_0 : decode cJ0_indexOf_7cf53 0 = .ok (.aload_n 0, 1) := by decide +kernel
theorem dJ0_indexOf_7cf53_1 : decode cJ0_indexOf_7cf53 1 = .ok (.invokevirtual 492, 3) := by decide +kernel
theorem dJ0_indexOf_7cf53_4 : decode cJ0_indexOf_7cf53 4 = .ok (.ifCond .eq 19, 3) := by decide +kernel
theorem dJ0_indexOf_7cf53_23 : decode cJ0_indexOf_7cf53 23 = .ok (.aload_n 0, 1) := by decide +kernel
theorem dJ0_indexOf_7cf53_24 : decode cJ0_indexOf_7cf53 24 = .ok (.getfield 9, 3) := by decide +kernel
theorem dJ0_indexOf_7cf53_27 : decode cJ0_indexOf_7cf53 27 = .ok (.iload_n 1, 1) := by decide +kernel
theorem dJ0_indexOf_7cf53_28 : decode cJ0_indexOf_7cf53 28 = .ok (.iload_n 2, 1) := by decide +kernel
theorem dJ0_indexOf_7cf53_29 : decode cJ0_indexOf_7cf53 29 = .ok (.aload_n 0, 1) := by decide +kernel
theorem dJ0_indexOf_7cf53_30 : decode cJ0_indexOf_7cf53 30 = .ok (.invokevirtual 505, 3) := by decide +kernel
theorem mm_J0_length_8abf5 : MMc yJ0_length_8abf5 cJ0_length_8abf5 1 (some .int) 0 := ⟨hz_in 852 (by decide +kernel) (by decide +kernel), hz_in 150 (by decide +kernel) (by decide +kernel), by decide +kernel, by decide⟩
theorem mv_J0_length_8abf5 : Cond.instanceMethod yJ0_length_8abf5 ∈ hz_wt ∧ Cond.selects "java/lang/String" yJ0_length_8abf5 yJ0_length_8abf5 ∈ hz_wt := ⟨hz_in 850 (by decide +kernel) (by decide +kernel), hz_in 851 (by decide +kernel) (by decide +kernel)⟩
theorem ml_java_lang_String_505 : Cond.methodLink "java/lang/String" 505 yJ0_length_8abf5 ∈ hz_wt := hz_in 928 (by decide +kernel) (by decide +kernel)
theorem dJ0_indexOf_7cf53_33 : decode cJ0_indexOf_7cf53 33 = .ok (.invokestatic 640, 3) := by decide +kernel
theorem mm_J2_indexOf_4cfef : MMc yJ2_indexOf_4cfef cJ2_indexOf_4cfef 4 (some .int) 4 := ⟨hz_in 942 (by decide +kernel) (by decide +kernel), hz_in 153 (by decide +kernel) (by decide +kernel), by decide +kernel, by decide⟩
theorem ms_J2_indexOf_4cfef : Cond.static yJ2_indexOf_4cfef ∈ hz_wt := hz_in 941 (by decide +kernel) (by decide +kernel)
theorem ml_java_lang_String_640 : Cond.methodLink "java/lang/String" 640 yJ2_indexOf_4cfef ∈ hz_wt := hz_in 940 (by decide +kernel) (by decide +kernel)
theorem dJ0_indexOf_7cf53_36 : decode cJ0_indexOf_7cf53 36 = .ok (.ireturn, 1) := by decide +kernel
theorem dJ0_indexOf_7cf53_7 : decode cJ0_indexOf_7cf53 7 = .ok (.aload_n 0, 1) := by decide +kernel
theorem dJ0_indexOf_7cf53_8 : decode cJ0_indexOf_7cf53 8 = .ok (.getfield 9, 3) := by decide +kernel
theorem dJ0_indexOf_7cf53_11 : decode cJ0_indexOf_7cf53 11 = .ok (.iload_n 1, 1) := by decide +kernel
theorem dJ0_indexOf_7cf53_12 : decode cJ0_indexOf_7cf53 12 = .ok (.iload_n 2, 1) := by decide +kernel
theorem dJ0_indexOf_7cf53_13 : decode cJ0_indexOf_7cf53 13 = .ok (.aload_n 0, 1) := by decide +kernel
theorem dJ0_indexOf_7cf53_14 : decode cJ0_indexOf_7cf53 14 = .ok (.invokevirtual 505, 3) := by decide +kernel
theorem dJ0_indexOf_7cf53_17 : decode cJ0_indexOf_7cf53 17 = .ok (.invokestatic 637, 3) := by decide +kernel
theorem mm_J1_indexOf_4cfef : MMc yJ1_indexOf_4cfef cJ1_indexOf_4cfef 4 (some .int) 4 := ⟨hz_in 931 (by decide +kernel) (by decide +kernel), hz_in 151 (by decide +kernel) (by decide +kernel), by decide +kernel, by decide⟩
theorem ms_J1_indexOf_4cfef : Cond.static yJ1_indexOf_4cfef ∈ hz_wt := hz_in 930 (by decide +kernel) (by decide +kernel)
theorem ml_java_lang_String_637 : Cond.methodLink "java/lang/String" 637 yJ1_indexOf_4cfef ∈ hz_wt := hz_in 929 (by decide +kernel) (by decide +kernel)
theorem dJ0_indexOf_7cf53_20 : decode cJ0_indexOf_7cf53 20 = .ok (.goto 16, 3) := by decide +kernel
def fJ0_indexOf_7cf53 (o0 : Nat) (v1 : Int32) (v2 : Int32) (s0 : Sg) : Option (Int32 × Sg) := bi (fJ0_isLatin1_aae02 o0 s0) fun r2 s1 => if r2 = 0 then (bi (fJ0_length_8abf5 o0 s1) fun r4 s3 => bi (fJ2_indexOf_4cfef o0 v1 v2 r4 s3) fun r6 s5 => some (r6, s5)) else (bi (fJ0_length_8abf5 o0 s1) fun r8 s7 => bi (fJ1_indexOf_4cfef o0 v1 v2 r8 s7) fun r10 s9 => some (r10, s9))
set_option maxHeartbeats 4000000 in
set_option maxRecDepth 100000 in
theorem okJ0_indexOf_7cf53 (o0 : Nat) (v1 : Int32) (v2 : Int32) (s0 : Sg) (h0 : o0 < nJS) : ∀ (l : Launch) (w : WC), Ok l w yJ0_indexOf_7cf53 cJ0_indexOf_7cf53 3 (some .int) 3 evI [.ref (w.aK o0), .int v1, .int v2] s0 (fJ0_indexOf_7cf53 o0 v1 v2 s0) := by
  refine ok_in (ev := fun _ => evI) (av := fun w => [.ref (w.aK o0), .int v1, .int v2]) "java/lang/String" rfl (by decide +kernel) (fun _ => rfl) (fun _ => Nat.le_of_ble_eq_true rfl) ?_
  intro C X E
  show GF C evI 0 [some (.ref (C.w.aK o0)), some (.int v1), some (.int v2)] [] s0 (fJ0_indexOf_7cf53 o0 v1 v2 s0)
  unfold fJ0_indexOf_7cf53
  refine g_aload_n X dJ0_indexOf_7cf53_0 rfl ?_
  refine g_vstrI X [] [] h0 mm_J0_isLatin1_aae02 mv_J0_isLatin1_aae02 ml_java_lang_String_492 (okJ0_isLatin1_aae02 o0 s0 h0 C.l C.w) rfl (by decide) rfl (Nat.le_of_ble_eq_true rfl) dJ0_indexOf_7cf53_1 (fun r2 s1 => ?_)
  refine g_zeq X (tgt := 23) dJ0_indexOf_7cf53_4 (by decide) ?_ ?_
  · refine g_aload_n X dJ0_indexOf_7cf53_23 rfl ?_
    refine g_sval X h0 fs_java_lang_String_9 dJ0_indexOf_7cf53_24 ?_
    refine g_iload_n X dJ0_indexOf_7cf53_27 rfl ?_
    refine g_iload_n X dJ0_indexOf_7cf53_28 rfl ?_
    refine g_aload_n X dJ0_indexOf_7cf53_29 rfl ?_
    refine g_vstrI X [] [.int v2, .int v1, .ref (C.w.aV o0)] h0 mm_J0_length_8abf5 mv_J0_length_8abf5 ml_java_lang_String_505 (okJ0_length_8abf5 o0 s1 h0 C.l C.w) rfl (by decide) rfl (Nat.le_of_ble_eq_true rfl) dJ0_indexOf_7cf53_30 (fun r4 s3 => ?_)
    refine g_statI X [.ref (C.w.aV o0), .int v1, .int v2, .int r4] [] mm_J2_indexOf_4cfef ms_J2_indexOf_4cfef ml_java_lang_String_640 (okJ2_indexOf_4cfef o0 v1 v2 r4 s3 h0 C.l C.w) rfl (by decide) rfl (Nat.le_of_ble_eq_true rfl) dJ0_indexOf_7cf53_33 (fun r6 s5 => ?_)
    exact g_iret X E dJ0_indexOf_7cf53_36
  · refine g_aload_n X dJ0_indexOf_7cf53_7 rfl ?_
    refine g_sval X h0 fs_java_lang_String_9 dJ0_indexOf_7cf53_8 ?_
    refine g_iload_n X dJ0_indexOf_7cf53_11 rfl ?_
    refine g_iload_n X dJ0_indexOf_7cf53_12 rfl ?_
    refine g_aload_n X dJ0_indexOf_7cf53_13 rfl ?_
    refine g_vstrI X [] [.int v2, .int v1, .ref (C.w.aV o0)] h0 mm_J0_length_8abf5 mv_J0_length_8abf5 ml_java_lang_String_505 (okJ0_length_8abf5 o0 s1 h0 C.l C.w) rfl (by decide) rfl (Nat.le_of_ble_eq_true rfl) dJ0_indexOf_7cf53_14 (fun r8 s7 => ?_)
    refine g_statI X [.ref (C.w.aV o0), .int v1, .int v2, .int r8] [] mm_J1_indexOf_4cfef ms_J1_indexOf_4cfef ml_java_lang_String_637 (okJ1_indexOf_4cfef o0 v1 v2 r8 s7 h0 C.l C.w) rfl (by decide) rfl (Nat.le_of_ble_eq_true rfl) dJ0_indexOf_7cf53_17 (fun r10 s9 => ?_)
    refine g_goto X 36 dJ0_indexOf_7cf53_20 (by decide) ?_
    exact g_iret X E dJ0_indexOf_7cf53_36
theorem k_71 : hz_kd 71 = 0 := by decide
def yIm_take : MethodName := ⟨"LastWordHill$Image", "take", "(LLastWordHill$Scene;LLastWordHill$Texts;LLastWordHill$Told;LLastWordHill$Table;)V"⟩
abbrev cIm_take : ByteArray := prog_2_method_2_code
theorem dIm_take_0 : decode cIm_take 0 = .ok (.aload_n 0, 1) := by decide +kernel
theorem dIm_take_1 : decode cIm_take 1 = .ok (.getfield 12, 3) := by decide +kernel
theorem fl_Im_12 : FLk "LastWordHill$Image" 12 0 0 := ⟨_, _, _, rfl, by decide, hz_in 536 (by decide +kernel) (by decide +kernel), nL0, by decide, by decide⟩
theorem k_72 : hz_kd 72 = 5 := by decide
theorem fb_0_0 : (hz_bs 0)[0]? = some true := by decide
theorem r_71_0 : hz_rf 71 0 = 72 := by decide
theorem dIm_take_4 : decode cIm_take 4 = .ok (.aload_n 1, 1) := by decide +kernel
theorem dIm_take_5 : decode cIm_take 5 = .ok (.invokevirtual 41, 3) := by decide +kernel
theorem ml_Im_41 : Cond.methodLink "LastWordHill$Image" 41 ySc_become ∈ hz_wt := hz_in 1382 (by decide +kernel) (by decide +kernel)
theorem dIm_take_8 : decode cIm_take 8 = .ok (.aload_n 0, 1) := by decide +kernel
theorem dIm_take_9 : decode cIm_take 9 = .ok (.getfield 21, 3) := by decide +kernel
theorem fl_Im_21 : FLk "LastWordHill$Image" 21 0 1 := ⟨_, _, _, rfl, by decide, hz_in 537 (by decide +kernel) (by decide +kernel), nL0, by decide, by decide⟩
theorem k_74 : hz_kd 74 = 8 := by decide
theorem fb_0_1 : (hz_bs 0)[1]? = some true := by decide
theorem r_71_1 : hz_rf 71 1 = 74 := by decide
theorem dIm_take_12 : decode cIm_take 12 = .ok (.aload_n 2, 1) := by decide +kernel
theorem dIm_take_13 : decode cIm_take 13 = .ok (.invokevirtual 45, 3) := by decide +kernel
theorem mm_Te_become : MMc yTe_become cTe_become 3 none 1 := ⟨hz_in 1386 (by decide +kernel) (by decide +kernel), hz_in 137 (by decide +kernel) (by decide +kernel), by decide +kernel, by decide⟩
theorem mv_Te_become : MMv yTe_become 8 := ⟨hz_in 1384 (by decide +kernel) (by decide +kernel), hz_in 1385 (by decide +kernel) (by decide +kernel), _, _, rfl, by decide⟩
theorem ml_Im_45 : Cond.methodLink "LastWordHill$Image" 45 yTe_become ∈ hz_wt := hz_in 1383 (by decide +kernel) (by decide +kernel)
theorem dIm_take_16 : decode cIm_take 16 = .ok (.aload_n 0, 1) := by decide +kernel
theorem dIm_take_17 : decode cIm_take 17 = .ok (.getfield 28, 3) := by decide +kernel
theorem fl_Im_28 : FLk "LastWordHill$Image" 28 0 2 := ⟨_, _, _, rfl, by decide, hz_in 538 (by decide +kernel) (by decide +kernel), nL0, by decide, by decide⟩
theorem k_85 : hz_kd 85 = 10 := by decide
theorem fb_0_2 : (hz_bs 0)[2]? = some true := by decide
theorem r_71_2 : hz_rf 71 2 = 85 := by decide
theorem dIm_take_20 : decode cIm_take 20 = .ok (.aload_n 3, 1) := by decide +kernel
theorem dIm_take_21 : decode cIm_take 21 = .ok (.invokevirtual 48, 3) := by decide +kernel
theorem mm_Tl_become : MMc yTl_become cTl_become 2 none 1 := ⟨hz_in 1391 (by decide +kernel) (by decide +kernel), hz_in 143 (by decide +kernel) (by decide +kernel), by decide +kernel, by decide⟩
theorem mv_Tl_become : MMv yTl_become 10 := ⟨hz_in 1389 (by decide +kernel) (by decide +kernel), hz_in 1390 (by decide +kernel) (by decide +kernel), _, _, rfl, by decide⟩
theorem ml_Im_48 : Cond.methodLink "LastWordHill$Image" 48 yTl_become ∈ hz_wt := hz_in 1388 (by decide +kernel) (by decide +kernel)
theorem dIm_take_24 : decode cIm_take 24 = .ok (.aload_n 0, 1) := by decide +kernel
theorem dIm_take_25 : decode cIm_take 25 = .ok (.getfield 37, 3) := by decide +kernel
theorem fl_Im_37 : FLk "LastWordHill$Image" 37 0 3 := ⟨_, _, _, rfl, by decide, hz_in 539 (by decide +kernel) (by decide +kernel), nL0, by decide, by decide⟩
theorem k_100 : hz_kd 100 = 7 := by decide
theorem fb_0_3 : (hz_bs 0)[3]? = some true := by decide
theorem r_71_3 : hz_rf 71 3 = 100 := by decide
theorem dIm_take_28 : decode cIm_take 28 = .ok (.aload 4, 2) := by decide +kernel
theorem dIm_take_30 : decode cIm_take 30 = .ok (.invokevirtual 51, 3) := by decide +kernel
theorem ml_Im_51 : Cond.methodLink "LastWordHill$Image" 51 yTa_become ∈ hz_wt := hz_in 1393 (by decide +kernel) (by decide +kernel)
theorem dIm_take_33 : decode cIm_take 33 = .ok (.aload_n 0, 1) := by decide +kernel
theorem dIm_take_34 : decode cIm_take 34 = .ok (.iconst 1, 1) := by decide +kernel
theorem dIm_take_35 : decode cIm_take 35 = .ok (.putfield 54, 3) := by decide +kernel
theorem fl_Im_54 : FLk "LastWordHill$Image" 54 0 4 := ⟨_, _, _, rfl, by decide, hz_in 540 (by decide +kernel) (by decide +kernel), nL0, by decide, by decide⟩
theorem fb_0_4 : (hz_bs 0)[4]? = some false := by decide
theorem fp_0_4 : FLp 0 4 .boolean := ⟨_, _, _, _, rfl, nY0, nN0, by decide, by decide⟩
theorem dIm_take_38 : decode cIm_take 38 = .ok (.return_, 1) := by decide +kernel
def fIm_take (o1 : Nat) (o2 : Nat) (o3 : Nat) (o4 : Nat) (s0 : Sg) : Option (Sg) := bv (fSc_become 72 o1 s0) fun s1 => bv (fTe_become 74 o2 s1) fun s2 => bv (fTl_become 85 o3 s2) fun s3 => bv (fTa_become 100 o4 s3) fun s4 => gb 1 (bnd (pt s4 71 4 1) fun s5 => some s5)
set_option maxHeartbeats 4000000 in
set_option maxRecDepth 100000 in
theorem okIm_take (o1 : Nat) (o2 : Nat) (o3 : Nat) (o4 : Nat) (s0 : Sg) (h1 : hz_kd o1 = 5) (h2 : hz_kd o2 = 8) (h3 : hz_kd o3 = 10) (h4 : hz_kd o4 = 7) : ∀ (l : Launch) (w : WC), Ok l w yIm_take cIm_take 5 none 6 evV [.ref (w.ad 71), .ref (w.ad o1), .ref (w.ad o2), .ref (w.ad o3), .ref (w.ad o4)] s0 (fIm_take o1 o2 o3 o4 s0) := by
  refine ok_in (ev := fun _ => evV) (av := fun w => [.ref (w.ad 71), .ref (w.ad o1), .ref (w.ad o2), .ref (w.ad o3), .ref (w.ad o4)]) "LastWordHill$Image" rfl (by decide +kernel) (fun _ => rfl) (fun _ => Nat.le_of_ble_eq_true rfl) ?_
  intro C X E
  show GF C evV 0 [some (.ref (C.w.ad 71)), some (.ref (C.w.ad o1)), some (.ref (C.w.ad o2)), some (.ref (C.w.ad o3)), some (.ref (C.w.ad o4))] [] s0 (fIm_take o1 o2 o3 o4 s0)
  unfold fIm_take
  refine g_aload_n X dIm_take_0 rfl ?_
  refine g_getN X fl_Im_12 fb_0_0 k_71 r_71_0 dIm_take_1 ?_
  refine g_aload_n X dIm_take_4 rfl ?_
  refine g_virtV X [.ref (C.w.ad o1)] [] k_72 mm_Sc_become mv_Sc_become ml_Im_41 (okSc_become 72 o1 s0 k_72 h1 C.l C.w) rfl (by decide) rfl (Nat.le_of_ble_eq_true rfl) dIm_take_5 (fun s1 => ?_)
  refine g_aload_n X dIm_take_8 rfl ?_
  refine g_getN X fl_Im_21 fb_0_1 k_71 r_71_1 dIm_take_9 ?_
  refine g_aload_n X dIm_take_12 rfl ?_
  refine g_virtV X [.ref (C.w.ad o2)] [] k_74 mm_Te_become mv_Te_become ml_Im_45 (okTe_become 74 o2 s1 k_74 h2 C.l C.w) rfl (by decide) rfl (Nat.le_of_ble_eq_true rfl) dIm_take_13 (fun s2 => ?_)
  refine g_aload_n X dIm_take_16 rfl ?_
  refine g_getN X fl_Im_28 fb_0_2 k_71 r_71_2 dIm_take_17 ?_
  refine g_aload_n X dIm_take_20 rfl ?_
  refine g_virtV X [.ref (C.w.ad o3)] [] k_85 mm_Tl_become mv_Tl_become ml_Im_48 (okTl_become 85 o3 s2 k_85 h3 C.l C.w) rfl (by decide) rfl (Nat.le_of_ble_eq_true rfl) dIm_take_21 (fun s3 => ?_)
  refine g_aload_n X dIm_take_24 rfl ?_
  refine g_getN X fl_Im_37 fb_0_3 k_71 r_71_3 dIm_take_25 ?_
  refine g_aload X dIm_take_28 rfl ?_
  refine g_virtV X [.ref (C.w.ad o4)] [] k_100 mm_Ta_become mv_Ta_become ml_Im_51 (okTa_become 100 o4 s3 k_100 h4 C.l C.w) rfl (by decide) rfl (Nat.le_of_ble_eq_true rfl) dIm_take_30 (fun s4 => ?_)
  refine g_aload_n X dIm_take_33 rfl ?_
  refine g_iconst X 1 dIm_take_34 (by decide) ?_
  refine g_putZ X fl_Im_54 fb_0_4 fp_0_4 k_71 dIm_take_35 (fun s5 => ?_)
  exact g_vret X E dIm_take_38
def yIm_giveBack : MethodName := ⟨"LastWordHill$Image", "giveBack", "(LLastWordHill$Scene;LLastWordHill$Texts;LLastWordHill$Told;LLastWordHill$Table;)V"⟩
abbrev cIm_giveBack : ByteArray := prog_2_method_3_code
theorem dIm_giveBack_0 : decode cIm_giveBack 0 = .ok (.aload_n 1, 1) := by decide +kernel
theorem dIm_giveBack_1 : decode cIm_giveBack 1 = .ok (.aload_n 0, 1) := by decide +kernel
theorem dIm_giveBack_2 : decode cIm_giveBack 2 = .ok (.getfield 12, 3) := by decide +kernel
theorem dIm_giveBack_5 : decode cIm_giveBack 5 = .ok (.invokevirtual 41, 3) := by decide +kernel
theorem dIm_giveBack_8 : decode cIm_giveBack 8 = .ok (.aload_n 2, 1) := by decide +kernel
theorem dIm_giveBack_9 : decode cIm_giveBack 9 = .ok (.aload_n 0, 1) := by decide +kernel
theorem dIm_giveBack_10 : decode cIm_giveBack 10 = .ok (.getfield 21, 3) := by decide +kernel
theorem dIm_giveBack_13 : decode cIm_giveBack 13 = .ok (.invokevirtual 45, 3) := by decide +kernel
theorem dIm_giveBack_16 : decode cIm_giveBack 16 = .ok (.aload_n 3, 1) := by decide +kernel
theorem dIm_giveBack_17 : decode cIm_giveBack 17 = .ok (.aload_n 0, 1) := by decide +kernel
theorem dIm_giveBack_18 : decode cIm_giveBack 18 = .ok (.getfield 28, 3) := by decide +kernel
theorem dIm_giveBack_21 : decode cIm_giveBack 21 = .ok (.invokevirtual 48, 3) := by decide +kernel
theorem dIm_giveBack_24 : decode cIm_giveBack 24 = .ok (.aload 4, 2) := by decide +kernel
theorem dIm_giveBack_26 : decode cIm_giveBack 26 = .ok (.aload_n 0, 1) := by decide +kernel
theorem dIm_giveBack_27 : decode cIm_giveBack 27 = .ok (.getfield 37, 3) := by decide +kernel
theorem dIm_giveBack_30 : decode cIm_giveBack 30 = .ok (.invokevirtual 51, 3) := by decide +kernel
theorem dIm_giveBack_33 : decode cIm_giveBack 33 = .ok (.return_, 1) := by decide +kernel
def fIm_giveBack (o1 : Nat) (o2 : Nat) (o3 : Nat) (o4 : Nat) (s0 : Sg) : Option (Sg) := bv (fSc_become o1 72 s0) fun s1 => bv (fTe_become o2 74 s1) fun s2 => bv (fTl_become o3 85 s2) fun s3 => bv (fTa_become o4 100 s3) fun s4 => some s4
set_option maxHeartbeats 4000000 in
set_option maxRecDepth 100000 in
theorem okIm_giveBack (o1 : Nat) (o2 : Nat) (o3 : Nat) (o4 : Nat) (s0 : Sg) (h1 : hz_kd o1 = 5) (h2 : hz_kd o2 = 8) (h3 : hz_kd o3 = 10) (h4 : hz_kd o4 = 7) : ∀ (l : Launch) (w : WC), Ok l w yIm_giveBack cIm_giveBack 5 none 6 evV [.ref (w.ad 71), .ref (w.ad o1), .ref (w.ad o2), .ref (w.ad o3), .ref (w.ad o4)] s0 (fIm_giveBack o1 o2 o3 o4 s0) := by
  refine ok_in (ev := fun _ => evV) (av := fun w => [.ref (w.ad 71), .ref (w.ad o1), .ref (w.ad o2), .ref (w.ad o3), .ref (w.ad o4)]) "LastWordHill$Image" rfl (by decide +kernel) (fun _ => rfl) (fun _ => Nat.le_of_ble_eq_true rfl) ?_
  intro C X E
  show GF C evV 0 [some (.ref (C.w.ad 71)), some (.ref (C.w.ad o1)), some (.ref (C.w.ad o2)), some (.ref (C.w.ad o3)), some (.ref (C.w.ad o4))] [] s0 (fIm_giveBack o1 o2 o3 o4 s0)
  unfold fIm_giveBack
  refine g_aload_n X dIm_giveBack_0 rfl ?_
  refine g_aload_n X dIm_giveBack_1 rfl ?_
  refine g_getN X fl_Im_12 fb_0_0 k_71 r_71_0 dIm_giveBack_2 ?_
  refine g_virtV X [.ref (C.w.ad 72)] [] h1 mm_Sc_become mv_Sc_become ml_Im_41 (okSc_become o1 72 s0 h1 k_72 C.l C.w) rfl (by decide) rfl (Nat.le_of_ble_eq_true rfl) dIm_giveBack_5 (fun s1 => ?_)
  refine g_aload_n X dIm_giveBack_8 rfl ?_
  refine g_aload_n X dIm_giveBack_9 rfl ?_
  refine g_getN X fl_Im_21 fb_0_1 k_71 r_71_1 dIm_giveBack_10 ?_
  refine g_virtV X [.ref (C.w.ad 74)] [] h2 mm_Te_become mv_Te_become ml_Im_45 (okTe_become o2 74 s1 h2 k_74 C.l C.w) rfl (by decide) rfl (Nat.le_of_ble_eq_true rfl) dIm_giveBack_13 (fun s2 => ?_)
  refine g_aload_n X dIm_giveBack_16 rfl ?_
  refine g_aload_n X dIm_giveBack_17 rfl ?_
  refine g_getN X fl_Im_28 fb_0_2 k_71 r_71_2 dIm_giveBack_18 ?_
  refine g_virtV X [.ref (C.w.ad 85)] [] h3 mm_Tl_become mv_Tl_become ml_Im_48 (okTl_become o3 85 s2 h3 k_85 C.l C.w) rfl (by decide) rfl (Nat.le_of_ble_eq_true rfl) dIm_giveBack_21 (fun s3 => ?_)
  refine g_aload X dIm_giveBack_24 rfl ?_
  refine g_aload_n X dIm_giveBack_26 rfl ?_
  refine g_getN X fl_Im_37 fb_0_3 k_71 r_71_3 dIm_giveBack_27 ?_
  refine g_virtV X [.ref (C.w.ad 100)] [] h4 mm_Ta_become mv_Ta_become ml_Im_51 (okTa_become o4 100 s3 h4 k_100 C.l C.w) rfl (by decide) rfl (Nat.le_of_ble_eq_true rfl) dIm_giveBack_30 (fun s4 => ?_)
  exact g_vret X E dIm_giveBack_33
def yLa_tells : MethodName := ⟨"LastWordHill$Law", "tells", "(ILLastWordHill$Scene;I)I"⟩
abbrev cLa_tells : ByteArray := prog_3_method_5_code
theorem dLa_tells_0 : decode cLa_tells 0 = .ok (.iload_n 1, 1) := by decide +kernel
theorem dLa_tells_1 : decode cLa_tells 1 = .ok (.iconst 2, 1) := by decide +kernel
theorem dLa_tells_2 : decode cLa_tells 2 = .ok (.if_icmp .ne 9, 3) := by decide +kernel
theorem dLa_tells_13 : decode cLa_tells 13 = .ok (.istore 4, 2) := by decide +kernel
theorem dLa_tells_15 : decode cLa_tells 15 = .ok (.iconst 0, 1) := by decide +kernel
theorem dLa_tells_16 : decode cLa_tells 16 = .ok (.istore 5, 2) := by decide +kernel
theorem dLa_tells_18 : decode cLa_tells 18 = .ok (.iload 5, 2) := by decide +kernel
theorem dLa_tells_20 : decode cLa_tells 20 = .ok (.aload_n 0, 1) := by decide +kernel
theorem dLa_tells_21 : decode cLa_tells 21 = .ok (.getfield 14, 3) := by decide +kernel
theorem dLa_tells_24 : decode cLa_tells 24 = .ok (.getfield 45, 3) := by decide +kernel
theorem fl_La_45 : FLk "LastWordHill$Law" 45 7 3 := ⟨_, _, _, rfl, by decide, hz_in 279 (by decide +kernel) (by decide +kernel), nL7, by decide, by decide⟩
theorem dLa_tells_27 : decode cLa_tells 27 = .ok (.if_icmp .ge 95, 3) := by decide +kernel
theorem dLa_tells_122 : decode cLa_tells 122 = .ok (.iload_n 1, 1) := by decide +kernel
theorem dLa_tells_123 : decode cLa_tells 123 = .ok (.aload_n 2, 1) := by decide +kernel
theorem dLa_tells_124 : decode cLa_tells 124 = .ok (.iload_n 3, 1) := by decide +kernel
theorem dLa_tells_125 : decode cLa_tells 125 = .ok (.invokestatic 64, 3) := by decide +kernel
theorem mm_La_untold : MMc yLa_untold cLa_untold 3 (some .int) 3 := ⟨hz_in 756 (by decide +kernel) (by decide +kernel), hz_in 138 (by decide +kernel) (by decide +kernel), by decide +kernel, by decide⟩
theorem ms_La_untold : Cond.static yLa_untold ∈ hz_wt := hz_in 755 (by decide +kernel) (by decide +kernel)
theorem ml_La_64 : Cond.methodLink "LastWordHill$Law" 64 yLa_untold ∈ hz_wt := hz_in 754 (by decide +kernel) (by decide +kernel)
theorem dLa_tells_128 : decode cLa_tells 128 = .ok (.ireturn, 1) := by decide +kernel
theorem dLa_tells_30 : decode cLa_tells 30 = .ok (.aload_n 0, 1) := by decide +kernel
theorem dLa_tells_31 : decode cLa_tells 31 = .ok (.getfield 14, 3) := by decide +kernel
theorem dLa_tells_34 : decode cLa_tells 34 = .ok (.iload 5, 2) := by decide +kernel
theorem dLa_tells_36 : decode cLa_tells 36 = .ok (.iconst 2, 1) := by decide +kernel
theorem dLa_tells_37 : decode cLa_tells 37 = .ok (.invokevirtual 48, 3) := by decide +kernel
theorem ml_La_48 : Cond.methodLink "LastWordHill$Law" 48 yTa_tell ∈ hz_wt := hz_in 736 (by decide +kernel) (by decide +kernel)
theorem dLa_tells_40 : decode cLa_tells 40 = .ok (.istore 6, 2) := by decide +kernel
theorem dLa_tells_42 : decode cLa_tells 42 = .ok (.aload_n 0, 1) := by decide +kernel
theorem dLa_tells_43 : decode cLa_tells 43 = .ok (.getfield 14, 3) := by decide +kernel
theorem dLa_tells_46 : decode cLa_tells 46 = .ok (.iload 5, 2) := by decide +kernel
theorem dLa_tells_48 : decode cLa_tells 48 = .ok (.iconst 3, 1) := by decide +kernel
theorem dLa_tells_49 : decode cLa_tells 49 = .ok (.invokevirtual 48, 3) := by decide +kernel
theorem dLa_tells_52 : decode cLa_tells 52 = .ok (.istore 7, 2) := by decide +kernel
theorem dLa_tells_54 : decode cLa_tells 54 = .ok (.aload_n 0, 1) := by decide +kernel
theorem dLa_tells_55 : decode cLa_tells 55 = .ok (.getfield 14, 3) := by decide +kernel
theorem dLa_tells_58 : decode cLa_tells 58 = .ok (.iload 5, 2) := by decide +kernel
theorem dLa_tells_60 : decode cLa_tells 60 = .ok (.iconst 0, 1) := by decide +kernel
theorem dLa_tells_61 : decode cLa_tells 61 = .ok (.invokevirtual 48, 3) := by decide +kernel
theorem dLa_tells_64 : decode cLa_tells 64 = .ok (.iload_n 1, 1) := by decide +kernel
theorem dLa_tells_65 : decode cLa_tells 65 = .ok (.if_icmp .ne 51, 3) := by decide +kernel
theorem dLa_tells_116 : decode cLa_tells 116 = .ok (.iinc 5 1, 3) := by decide +kernel
theorem dLa_tells_119 : decode cLa_tells 119 = .ok (.goto (-101), 3) := by decide +kernel
theorem dLa_tells_68 : decode cLa_tells 68 = .ok (.iload 6, 2) := by decide +kernel
theorem dLa_tells_70 : decode cLa_tells 70 = .ok (.iload 7, 2) := by decide +kernel
theorem dLa_tells_72 : decode cLa_tells 72 = .ok (.if_icmp .eq 16, 3) := by decide +kernel
theorem dLa_tells_88 : decode cLa_tells 88 = .ok (.iconst 0, 1) := by decide +kernel
theorem dLa_tells_89 : decode cLa_tells 89 = .ok (.iload 4, 2) := by decide +kernel
theorem dLa_tells_91 : decode cLa_tells 91 = .ok (.aload_n 0, 1) := by decide +kernel
theorem dLa_tells_92 : decode cLa_tells 92 = .ok (.aload_n 0, 1) := by decide +kernel
theorem dLa_tells_93 : decode cLa_tells 93 = .ok (.getfield 14, 3) := by decide +kernel
theorem dLa_tells_96 : decode cLa_tells 96 = .ok (.iload 5, 2) := by decide +kernel
theorem dLa_tells_98 : decode cLa_tells 98 = .ok (.iconst 1, 1) := by decide +kernel
theorem dLa_tells_99 : decode cLa_tells 99 = .ok (.invokevirtual 48, 3) := by decide +kernel
theorem dLa_tells_102 : decode cLa_tells 102 = .ok (.iload 6, 2) := by decide +kernel
theorem dLa_tells_104 : decode cLa_tells 104 = .ok (.aload_n 2, 1) := by decide +kernel
theorem dLa_tells_105 : decode cLa_tells 105 = .ok (.iload_n 3, 1) := by decide +kernel
theorem dLa_tells_106 : decode cLa_tells 106 = .ok (.invokevirtual 52, 3) := by decide +kernel
theorem mm_La_value : MMc yLa_value cLa_value 9 (some .int) 4 := ⟨hz_in 740 (by decide +kernel) (by decide +kernel), hz_in 138 (by decide +kernel) (by decide +kernel), by decide +kernel, by decide⟩
theorem mv_La_value : MMv yLa_value 1 := ⟨hz_in 739 (by decide +kernel) (by decide +kernel), hz_in 2 (by decide +kernel) (by decide +kernel), _, _, rfl, by decide⟩
theorem ml_La_52 : Cond.methodLink "LastWordHill$Law" 52 yLa_value ∈ hz_wt := hz_in 737 (by decide +kernel) (by decide +kernel)
theorem dLa_tells_109 : decode cLa_tells 109 = .ok (.invokestatic 56, 3) := by decide +kernel
theorem dLa_tells_112 : decode cLa_tells 112 = .ok (.invokestatic 61, 3) := by decide +kernel
theorem dLa_tells_115 : decode cLa_tells 115 = .ok (.ireturn, 1) := by decide +kernel
theorem dLa_tells_75 : decode cLa_tells 75 = .ok (.aload_n 0, 1) := by decide +kernel
theorem dLa_tells_76 : decode cLa_tells 76 = .ok (.iload 6, 2) := by decide +kernel
theorem dLa_tells_78 : decode cLa_tells 78 = .ok (.iload 7, 2) := by decide +kernel
theorem dLa_tells_80 : decode cLa_tells 80 = .ok (.aload_n 2, 1) := by decide +kernel
theorem dLa_tells_81 : decode cLa_tells 81 = .ok (.iload_n 3, 1) := by decide +kernel
theorem dLa_tells_82 : decode cLa_tells 82 = .ok (.invokevirtual 52, 3) := by decide +kernel
theorem dLa_tells_85 : decode cLa_tells 85 = .ok (.ifCond .eq 31, 3) := by decide +kernel
theorem dLa_tells_11 : decode cLa_tells 11 = .ok (.bipush 99, 2) := by decide +kernel
theorem dLa_tells_5 : decode cLa_tells 5 = .ok (.sipush 1000, 3) := by decide +kernel
theorem dLa_tells_8 : decode cLa_tells 8 = .ok (.goto 5, 3) := by decide +kernel
def fLa_tells (o0 : Nat) (v1 : Int32) (o2 : Nat) (v3 : Int32) (s0 : Sg) : Option (Int32 × Sg) := bnd (fun (b13_0 : Int32) (s1 : Sg) => lp FU (fun q18 (u18 : Int32) (s2 : Sg) => if (s2 (hz_rf o0 0) 3) ≤ u18 then (bi (fLa_untold v1 o2 v3 s2) fun r4 s3 => some (r4, s3)) else (bi (fTa_tell (hz_rf o0 0) u18 2 s2) fun r6 s5 => bi (fTa_tell (hz_rf o0 0) u18 3 s5) fun r8 s7 => bi (fTa_tell (hz_rf o0 0) u18 0 s7) fun r10 s9 => bnd (fun (s11 : Sg) => q18 (u18 + 1) s11) fun j116 => if r10 = v1 then (bnd (fun (s12 : Sg) => bi (fTa_tell (hz_rf o0 0) u18 1 s12) fun r14 s13 => bi (fLa_value o0 r14 r6 o2 v3 s13) fun r16 s15 => bi (fJ9_min_7cf53 b13_0 r16 s15) fun r18 s17 => bi (fJ9_max_7cf53 0 r18 s17) fun r20 s19 => some (r20, s19)) fun j88 => if r6 = r8 then (j88 s9) else (bi (fLa_value o0 r6 r8 o2 v3 s9) fun r22 s21 => if r22 = 0 then (j116 s21) else (j88 s21))) else (j116 s9))) 0 s1) fun j13 => if v1 = 2 then (j13 1000 s0) else (j13 99 s0)
set_option maxHeartbeats 4000000 in
set_option maxRecDepth 100000 in
theorem okLa_tells (o0 : Nat) (v1 : Int32) (o2 : Nat) (v3 : Int32) (s0 : Sg) (h0 : hz_kd o0 = 1) (h2 : hz_kd o2 = 5) : ∀ (l : Launch) (w : WC), Ok l w yLa_tells cLa_tells 8 (some .int) 4 evI [.ref (w.ad o0), .int v1, .ref (w.ad o2), .int v3] s0 (fLa_tells o0 v1 o2 v3 s0) := by
  refine ok_in (ev := fun _ => evI) (av := fun w => [.ref (w.ad o0), .int v1, .ref (w.ad o2), .int v3]) "LastWordHill$Law" rfl (by decide +kernel) (fun _ => rfl) (fun _ => Nat.le_of_ble_eq_true rfl) ?_
  intro C X E
  show GF C evI 0 [some (.ref (C.w.ad o0)), some (.int v1), some (.ref (C.w.ad o2)), some (.int v3), none, none, none, none] [] s0 (fLa_tells o0 v1 o2 v3 s0)
  unfold fLa_tells
  refine g_iload_n X dLa_tells_0 rfl ?_
  refine g_iconst X 2 dLa_tells_1 (by decide) ?_
  refine gf_jn (fun j13 => ∀ (b13_0 : Int32) (s1 : Sg), GF C evI 13 [some (.ref (C.w.ad o0)), some (.int v1), some (.ref (C.w.ad o2)), some (.int v3), none, none, none, none] [.int b13_0] s1 (j13 b13_0 s1)) ?_ ?_
  · intro b13_0 s1
    refine g_istore X [some (.ref (C.w.ad o0)), some (.int v1), some (.ref (C.w.ad o2)), some (.int v3), some (.int b13_0), none, none, none] dLa_tells_13 (by decide) (Nat.le_of_ble_eq_true rfl) rfl ?_
    refine g_iconst X 0 dLa_tells_15 (by decide) ?_
    refine g_istore X [some (.ref (C.w.ad o0)), some (.int v1), some (.ref (C.w.ad o2)), some (.int v3), some (.int b13_0), some (.int 0), none, none] dLa_tells_16 (by decide) (Nat.le_of_ble_eq_true rfl) rfl ?_
    refine gf_sub (L' := [some (.ref (C.w.ad o0)), some (.int v1), some (.ref (C.w.ad o2)), some (.int v3), some (.int b13_0), some (.int 0), none, none]) ?_ (by simp [lsub])
    refine gf_lp (Lf := fun (u18 : Int32) => [some (.ref (C.w.ad o0)), some (.int v1), some (.ref (C.w.ad o2)), some (.int v3), some (.int b13_0), some (.int u18), none, none]) (fun q18 hq18 u18 s2 => ?_) FU 0 s1
    refine g_iload X dLa_tells_18 rfl ?_
    refine g_aload_n X dLa_tells_20 rfl ?_
    refine g_getR X fl_La_14 fb_1_0 h0 dLa_tells_21 ?_
    refine g_getI X fl_La_45 fb_7_3 (sk_1_0 h0) dLa_tells_24 ?_
    refine g_cge X (tgt := 122) dLa_tells_27 (by decide) ?_ ?_
    · refine g_iload_n X dLa_tells_122 rfl ?_
      refine g_aload_n X dLa_tells_123 rfl ?_
      refine g_iload_n X dLa_tells_124 rfl ?_
      refine g_statI X [.int v1, .ref (C.w.ad o2), .int v3] [] mm_La_untold ms_La_untold ml_La_64 (okLa_untold v1 o2 v3 s2 h2 C.l C.w) rfl (by decide) rfl (Nat.le_of_ble_eq_true rfl) dLa_tells_125 (fun r4 s3 => ?_)
      exact g_iret X E dLa_tells_128
    · refine g_aload_n X dLa_tells_30 rfl ?_
      refine g_getR X fl_La_14 fb_1_0 h0 dLa_tells_31 ?_
      refine g_iload X dLa_tells_34 rfl ?_
      refine g_iconst X 2 dLa_tells_36 (by decide) ?_
      refine g_virtI X [.int u18, .int 2] [] (sk_1_0 h0) mm_Ta_tell mv_Ta_tell ml_La_48 (okTa_tell (hz_rf o0 0) u18 2 s2 (sk_1_0 h0) C.l C.w) rfl (by decide) rfl (Nat.le_of_ble_eq_true rfl) dLa_tells_37 (fun r6 s5 => ?_)
      refine g_istore X [some (.ref (C.w.ad o0)), some (.int v1), some (.ref (C.w.ad o2)), some (.int v3), some (.int b13_0), some (.int u18), some (.int r6), none] dLa_tells_40 (by decide) (Nat.le_of_ble_eq_true rfl) rfl ?_
      refine g_aload_n X dLa_tells_42 rfl ?_
      refine g_getR X fl_La_14 fb_1_0 h0 dLa_tells_43 ?_
      refine g_iload X dLa_tells_46 rfl ?_
      refine g_iconst X 3 dLa_tells_48 (by decide) ?_
      refine g_virtI X [.int u18, .int 3] [] (sk_1_0 h0) mm_Ta_tell mv_Ta_tell ml_La_48 (okTa_tell (hz_rf o0 0) u18 3 s5 (sk_1_0 h0) C.l C.w) rfl (by decide) rfl (Nat.le_of_ble_eq_true rfl) dLa_tells_49 (fun r8 s7 => ?_)
      refine g_istore X [some (.ref (C.w.ad o0)), some (.int v1), some (.ref (C.w.ad o2)), some (.int v3), some (.int b13_0), some (.int u18), some (.int r6), some (.int r8)] dLa_tells_52 (by decide) (Nat.le_of_ble_eq_true rfl) rfl ?_
      refine g_aload_n X dLa_tells_54 rfl ?_
      refine g_getR X fl_La_14 fb_1_0 h0 dLa_tells_55 ?_
      refine g_iload X dLa_tells_58 rfl ?_
      refine g_iconst X 0 dLa_tells_60 (by decide) ?_
      refine g_virtI X [.int u18, .int 0] [] (sk_1_0 h0) mm_Ta_tell mv_Ta_tell ml_La_48 (okTa_tell (hz_rf o0 0) u18 0 s7 (sk_1_0 h0) C.l C.w) rfl (by decide) rfl (Nat.le_of_ble_eq_true rfl) dLa_tells_61 (fun r10 s9 => ?_)
      refine g_iload_n X dLa_tells_64 rfl ?_
      refine gf_jn (fun j116 => ∀ (s11 : Sg), GF C evI 116 [some (.ref (C.w.ad o0)), some (.int v1), some (.ref (C.w.ad o2)), some (.int v3), some (.int b13_0), some (.int u18), none, none] [] s11 (j116 s11)) ?_ ?_
      · intro s11
        refine g_iinc X (u18 + 1) [some (.ref (C.w.ad o0)), some (.int v1), some (.ref (C.w.ad o2)), some (.int v3), some (.int b13_0), some (.int (u18 + 1)), none, none] dLa_tells_116 rfl rfl (by decide) rfl ?_
        refine g_goto X 18 dLa_tells_119 (by decide) ?_
        exact gf_sub (hq18 (u18 + 1) s11) (by simp [lsub])
      · intro j116 hj116
        refine g_cne X (tgt := 116) dLa_tells_65 (by decide) ?_ ?_
        · refine g_iload X dLa_tells_68 rfl ?_
          refine g_iload X dLa_tells_70 rfl ?_
          refine gf_jn (fun j88 => ∀ (s12 : Sg), GF C evI 88 [some (.ref (C.w.ad o0)), none, some (.ref (C.w.ad o2)), some (.int v3), some (.int b13_0), some (.int u18), some (.int r6), none] [] s12 (j88 s12)) ?_ ?_
          · intro s12
            refine g_iconst X 0 dLa_tells_88 (by decide) ?_
            refine g_iload X dLa_tells_89 rfl ?_
            refine g_aload_n X dLa_tells_91 rfl ?_
            refine g_aload_n X dLa_tells_92 rfl ?_
            refine g_getR X fl_La_14 fb_1_0 h0 dLa_tells_93 ?_
            refine g_iload X dLa_tells_96 rfl ?_
            refine g_iconst X 1 dLa_tells_98 (by decide) ?_
            refine g_virtI X [.int u18, .int 1] [.ref (C.w.ad o0), .int b13_0, .int 0] (sk_1_0 h0) mm_Ta_tell mv_Ta_tell ml_La_48 (okTa_tell (hz_rf o0 0) u18 1 s12 (sk_1_0 h0) C.l C.w) rfl (by decide) rfl (Nat.le_of_ble_eq_true rfl) dLa_tells_99 (fun r14 s13 => ?_)
            refine g_iload X dLa_tells_102 rfl ?_
            refine g_aload_n X dLa_tells_104 rfl ?_
            refine g_iload_n X dLa_tells_105 rfl ?_
            refine g_virtI X [.int r14, .int r6, .ref (C.w.ad o2), .int v3] [.int b13_0, .int 0] h0 mm_La_value mv_La_value ml_La_52 (okLa_value o0 r14 r6 o2 v3 s13 h0 h2 C.l C.w) rfl (by decide) rfl (Nat.le_of_ble_eq_true rfl) dLa_tells_106 (fun r16 s15 => ?_)
            refine g_statI X [.int b13_0, .int r16] [.int 0] mm_J9_min_7cf53 ms_J9_min_7cf53 ml_La_56 (okJ9_min_7cf53 b13_0 r16 s15 C.l C.w) rfl (by decide) rfl (Nat.le_of_ble_eq_true rfl) dLa_tells_109 (fun r18 s17 => ?_)
            refine g_statI X [.int 0, .int r18] [] mm_J9_max_7cf53 ms_J9_max_7cf53 ml_La_61 (okJ9_max_7cf53 0 r18 s17 C.l C.w) rfl (by decide) rfl (Nat.le_of_ble_eq_true rfl) dLa_tells_112 (fun r20 s19 => ?_)
            exact g_iret X E dLa_tells_115
          · intro j88 hj88
            refine g_ceq X (tgt := 88) dLa_tells_72 (by decide) ?_ ?_
            · exact gf_sub (hj88 s9) (by simp [lsub])
            · refine g_aload_n X dLa_tells_75 rfl ?_
              refine g_iload X dLa_tells_76 rfl ?_
              refine g_iload X dLa_tells_78 rfl ?_
              refine g_aload_n X dLa_tells_80 rfl ?_
              refine g_iload_n X dLa_tells_81 rfl ?_
              refine g_virtI X [.int r6, .int r8, .ref (C.w.ad o2), .int v3] [] h0 mm_La_value mv_La_value ml_La_52 (okLa_value o0 r6 r8 o2 v3 s9 h0 h2 C.l C.w) rfl (by decide) rfl (Nat.le_of_ble_eq_true rfl) dLa_tells_82 (fun r22 s21 => ?_)
              refine g_zeq X (tgt := 116) dLa_tells_85 (by decide) ?_ ?_
              · exact gf_sub (hj116 s21) (by simp [lsub])
              · exact gf_sub (hj88 s21) (by simp [lsub])
        · exact gf_sub (hj116 s9) (by simp [lsub])
  · intro j13 hj13
    refine g_cne X (tgt := 11) dLa_tells_2 (by decide) ?_ ?_
    · refine g_sipush X 1000 dLa_tells_5 (by decide) ?_
      refine g_goto X 13 dLa_tells_8 (by decide) ?_
      exact gf_sub (hj13 1000 s0) (by simp [lsub])
    · refine g_bipush X 99 dLa_tells_11 (by decide) ?_
      exact gf_sub (hj13 99 s0) (by simp [lsub])
def yMu_wordsThatCould : MethodName := ⟨"LastWordHill$Muse", "wordsThatCould", "()I"⟩
abbrev cMu_wordsThatCould : ByteArray := prog_4_method_7_code
theorem dMu_wordsThatCould_0 : decode cMu_wordsThatCould 0 = .ok (.iconst 0, 1) := by decide +kernel
theorem dMu_wordsThatCould_1 : decode cMu_wordsThatCould 1 = .ok (.istore_n 1, 1) := by decide +kernel
theorem dMu_wordsThatCould_2 : decode cMu_wordsThatCould 2 = .ok (.iconst 0, 1) := by decide +kernel
theorem dMu_wordsThatCould_3 : decode cMu_wordsThatCould 3 = .ok (.istore_n 2, 1) := by decide +kernel
theorem dMu_wordsThatCould_4 : decode cMu_wordsThatCould 4 = .ok (.iload_n 2, 1) := by decide +kernel
theorem dMu_wordsThatCould_5 : decode cMu_wordsThatCould 5 = .ok (.bipush 20, 2) := by decide +kernel
theorem dMu_wordsThatCould_7 : decode cMu_wordsThatCould 7 = .ok (.if_icmp .gt 23, 3) := by decide +kernel
theorem dMu_wordsThatCould_30 : decode cMu_wordsThatCould 30 = .ok (.iload_n 1, 1) := by decide +kernel
theorem dMu_wordsThatCould_31 : decode cMu_wordsThatCould 31 = .ok (.ireturn, 1) := by decide +kernel
theorem dMu_wordsThatCould_10 : decode cMu_wordsThatCould 10 = .ok (.aload_n 0, 1) := by decide +kernel
theorem dMu_wordsThatCould_11 : decode cMu_wordsThatCould 11 = .ok (.iload_n 2, 1) := by decide +kernel
theorem dMu_wordsThatCould_12 : decode cMu_wordsThatCould 12 = .ok (.invokevirtual 62, 3) := by decide +kernel
theorem mm_Mu_agrees : MMc yMu_agrees cMu_agrees 4 (some .boolean) 1 := ⟨hz_in 1168 (by decide +kernel) (by decide +kernel), hz_in 145 (by decide +kernel) (by decide +kernel), by decide +kernel, by decide⟩
theorem mv_Mu_agrees : MMv yMu_agrees 2 := ⟨hz_in 1167 (by decide +kernel) (by decide +kernel), hz_in 34 (by decide +kernel) (by decide +kernel), _, _, rfl, by decide⟩
theorem ml_Mu_62 : Cond.methodLink "LastWordHill$Muse" 62 yMu_agrees ∈ hz_wt := hz_in 1165 (by decide +kernel) (by decide +kernel)
theorem dMu_wordsThatCould_15 : decode cMu_wordsThatCould 15 = .ok (.ifCond .eq 9, 3) := by decide +kernel
theorem dMu_wordsThatCould_24 : decode cMu_wordsThatCould 24 = .ok (.iinc 2 1, 3) := by decide +kernel
theorem dMu_wordsThatCould_27 : decode cMu_wordsThatCould 27 = .ok (.goto (-23), 3) := by decide +kernel
theorem dMu_wordsThatCould_18 : decode cMu_wordsThatCould 18 = .ok (.iload_n 1, 1) := by decide +kernel
theorem dMu_wordsThatCould_19 : decode cMu_wordsThatCould 19 = .ok (.iconst 1, 1) := by decide +kernel
theorem dMu_wordsThatCould_20 : decode cMu_wordsThatCould 20 = .ok (.iload_n 2, 1) := by decide +kernel
theorem dMu_wordsThatCould_21 : decode cMu_wordsThatCould 21 = .ok (.ishl, 1) := by decide +kernel
theorem dMu_wordsThatCould_22 : decode cMu_wordsThatCould 22 = .ok (.ior, 1) := by decide +kernel
theorem dMu_wordsThatCould_23 : decode cMu_wordsThatCould 23 = .ok (.istore_n 1, 1) := by decide +kernel
def fMu_wordsThatCould (s0 : Sg) : Option (Int32 × Sg) := lp FU (fun q4 (u4 : Int32 × Int32) (s1 : Sg) => if 20 < u4.2 then (some (u4.1, s1)) else (bi (fMu_agrees u4.2 s1) fun r3 s2 => bnd (fun (a24_1 : Int32) (s4 : Sg) => q4 (a24_1, (u4.2 + 1)) s4) fun j24 => if r3 = 0 then (j24 u4.1 s2) else (bnd (u4.1 ||| (1 <<< (u4.2 &&& 31))) fun x5 => j24 x5 s2))) (0, 0) s0
set_option maxHeartbeats 4000000 in
set_option maxRecDepth 100000 in
theorem okMu_wordsThatCould (s0 : Sg) : ∀ (l : Launch) (w : WC), Ok l w yMu_wordsThatCould cMu_wordsThatCould 3 (some .int) 5 evI [.ref (w.ad 66)] s0 (fMu_wordsThatCould s0) := by
  refine ok_in (ev := fun _ => evI) (av := fun w => [.ref (w.ad 66)]) "LastWordHill$Muse" rfl (by decide +kernel) (fun _ => rfl) (fun _ => Nat.le_of_ble_eq_true rfl) ?_
  intro C X E
  show GF C evI 0 [some (.ref (C.w.ad 66)), none, none] [] s0 (fMu_wordsThatCould s0)
  unfold fMu_wordsThatCould
  refine g_iconst X 0 dMu_wordsThatCould_0 (by decide) ?_
  refine g_istore_n X [some (.ref (C.w.ad 66)), some (.int 0), none] dMu_wordsThatCould_1 (by decide) (Nat.le_of_ble_eq_true rfl) rfl ?_
  refine g_iconst X 0 dMu_wordsThatCould_2 (by decide) ?_
  refine g_istore_n X [some (.ref (C.w.ad 66)), some (.int 0), some (.int 0)] dMu_wordsThatCould_3 (by decide) (Nat.le_of_ble_eq_true rfl) rfl ?_
  refine gf_sub (L' := [some (.ref (C.w.ad 66)), some (.int 0), some (.int 0)]) ?_ (by simp [lsub])
  refine gf_lp (Lf := fun (u4 : Int32 × Int32) => [some (.ref (C.w.ad 66)), some (.int u4.1), some (.int u4.2)]) (fun q4 hq4 u4 s1 => ?_) FU (0, 0) s0
  refine g_iload_n X dMu_wordsThatCould_4 rfl ?_
  refine g_bipush X 20 dMu_wordsThatCould_5 (by decide) ?_
  refine g_cgt X (tgt := 30) dMu_wordsThatCould_7 (by decide) ?_ ?_
  · refine g_iload_n X dMu_wordsThatCould_30 rfl ?_
    exact g_iret X E dMu_wordsThatCould_31
  · refine g_aload_n X dMu_wordsThatCould_10 rfl ?_
    refine g_iload_n X dMu_wordsThatCould_11 rfl ?_
    refine g_virtI X [.int u4.2] [] k_66 mm_Mu_agrees mv_Mu_agrees ml_Mu_62 (okMu_agrees u4.2 s1 C.l C.w) rfl (by decide) rfl (Nat.le_of_ble_eq_true rfl) dMu_wordsThatCould_12 (fun r3 s2 => ?_)
    refine gf_jn (fun j24 => ∀ (a24_1 : Int32) (s4 : Sg), GF C evI 24 [some (.ref (C.w.ad 66)), some (.int a24_1), some (.int u4.2)] [] s4 (j24 a24_1 s4)) ?_ ?_
    · intro a24_1 s4
      refine g_iinc X (u4.2 + 1) [some (.ref (C.w.ad 66)), some (.int a24_1), some (.int (u4.2 + 1))] dMu_wordsThatCould_24 rfl rfl (by decide) rfl ?_
      refine g_goto X 4 dMu_wordsThatCould_27 (by decide) ?_
      exact gf_sub (hq4 (a24_1, (u4.2 + 1)) s4) (by simp [lsub])
    · intro j24 hj24
      refine g_zeq X (tgt := 24) dMu_wordsThatCould_15 (by decide) ?_ ?_
      · exact gf_sub (hj24 u4.1 s2) (by simp [lsub])
      · refine g_iload_n X dMu_wordsThatCould_18 rfl ?_
        refine g_iconst X 1 dMu_wordsThatCould_19 (by decide) ?_
        refine g_iload_n X dMu_wordsThatCould_20 rfl ?_
        refine g_ishl X dMu_wordsThatCould_21 ?_
        refine g_ior X dMu_wordsThatCould_22 ?_
        refine gf_nm (fun x5 => ?_)
        refine g_istore_n X [some (.ref (C.w.ad 66)), some (.int x5), some (.int u4.2)] dMu_wordsThatCould_23 (by decide) (Nat.le_of_ble_eq_true rfl) rfl ?_
        exact gf_sub (hj24 x5 s2) (by simp [lsub])
def yMu_nextQuestion : MethodName := ⟨"LastWordHill$Muse", "nextQuestion", "()I"⟩
abbrev cMu_nextQuestion : ByteArray := prog_4_method_9_code
theorem dMu_nextQuestion_0 : decode cMu_nextQuestion 0 = .ok (.aload_n 0, 1) := by decide +kernel
theorem dMu_nextQuestion_1 : decode cMu_nextQuestion 1 = .ok (.invokevirtual 84, 3) := by decide +kernel
theorem mm_Mu_wordsThatCould : MMc yMu_wordsThatCould cMu_wordsThatCould 3 (some .int) 0 := ⟨hz_in 1164 (by decide +kernel) (by decide +kernel), hz_in 145 (by decide +kernel) (by decide +kernel), by decide +kernel, by decide⟩
theorem mv_Mu_wordsThatCould : MMv yMu_wordsThatCould 2 := ⟨hz_in 1162 (by decide +kernel) (by decide +kernel), hz_in 1163 (by decide +kernel) (by decide +kernel), _, _, rfl, by decide⟩
theorem ml_Mu_84 : Cond.methodLink "LastWordHill$Muse" 84 yMu_wordsThatCould ∈ hz_wt := hz_in 1175 (by decide +kernel) (by decide +kernel)
theorem dMu_nextQuestion_4 : decode cMu_nextQuestion 4 = .ok (.istore_n 1, 1) := by decide +kernel
theorem dMu_nextQuestion_5 : decode cMu_nextQuestion 5 = .ok (.iload_n 1, 1) := by decide +kernel
theorem dMu_nextQuestion_6 : decode cMu_nextQuestion 6 = .ok (.invokestatic 42, 3) := by decide +kernel
theorem dMu_nextQuestion_9 : decode cMu_nextQuestion 9 = .ok (.istore_n 2, 1) := by decide +kernel
theorem dMu_nextQuestion_10 : decode cMu_nextQuestion 10 = .ok (.iconst (-1), 1) := by decide +kernel
theorem dMu_nextQuestion_11 : decode cMu_nextQuestion 11 = .ok (.istore_n 3, 1) := by decide +kernel
theorem dMu_nextQuestion_12 : decode cMu_nextQuestion 12 = .ok (.iload_n 2, 1) := by decide +kernel
theorem dMu_nextQuestion_13 : decode cMu_nextQuestion 13 = .ok (.iconst 1, 1) := by decide +kernel
theorem dMu_nextQuestion_14 : decode cMu_nextQuestion 14 = .ok (.iadd, 1) := by decide +kernel
theorem dMu_nextQuestion_15 : decode cMu_nextQuestion 15 = .ok (.istore 4, 2) := by decide +kernel
theorem dMu_nextQuestion_17 : decode cMu_nextQuestion 17 = .ok (.iconst 0, 1) := by decide +kernel
theorem dMu_nextQuestion_18 : decode cMu_nextQuestion 18 = .ok (.istore 5, 2) := by decide +kernel
theorem dMu_nextQuestion_20 : decode cMu_nextQuestion 20 = .ok (.iload 5, 2) := by decide +kernel
theorem dMu_nextQuestion_22 : decode cMu_nextQuestion 22 = .ok (.bipush 10, 2) := by decide +kernel
theorem dMu_nextQuestion_24 : decode cMu_nextQuestion 24 = .ok (.if_icmp .ge 48, 3) := by decide +kernel
theorem dMu_nextQuestion_72 : decode cMu_nextQuestion 72 = .ok (.iload_n 3, 1) := by decide +kernel
theorem dMu_nextQuestion_73 : decode cMu_nextQuestion 73 = .ok (.ireturn, 1) := by decide +kernel
theorem dMu_nextQuestion_27 : decode cMu_nextQuestion 27 = .ok (.iload_n 2, 1) := by decide +kernel
theorem dMu_nextQuestion_28 : decode cMu_nextQuestion 28 = .ok (.iconst 2, 1) := by decide +kernel
theorem dMu_nextQuestion_29 : decode cMu_nextQuestion 29 = .ok (.if_icmp .lt 43, 3) := by decide +kernel
theorem dMu_nextQuestion_32 : decode cMu_nextQuestion 32 = .ok (.aload_n 0, 1) := by decide +kernel
theorem dMu_nextQuestion_33 : decode cMu_nextQuestion 33 = .ok (.iload_n 1, 1) := by decide +kernel
theorem dMu_nextQuestion_34 : decode cMu_nextQuestion 34 = .ok (.iload 5, 2) := by decide +kernel
theorem dMu_nextQuestion_36 : decode cMu_nextQuestion 36 = .ok (.invokevirtual 88, 3) := by decide +kernel
theorem mm_Mu_manyRight : MMc yMu_manyRight cMu_manyRight 5 (some .int) 2 := ⟨hz_in 1179 (by decide +kernel) (by decide +kernel), hz_in 145 (by decide +kernel) (by decide +kernel), by decide +kernel, by decide⟩
theorem mv_Mu_manyRight : MMv yMu_manyRight 2 := ⟨hz_in 1178 (by decide +kernel) (by decide +kernel), hz_in 35 (by decide +kernel) (by decide +kernel), _, _, rfl, by decide⟩
theorem ml_Mu_88 : Cond.methodLink "LastWordHill$Muse" 88 yMu_manyRight ∈ hz_wt := hz_in 1176 (by decide +kernel) (by decide +kernel)
theorem dMu_nextQuestion_39 : decode cMu_nextQuestion 39 = .ok (.istore 6, 2) := by decide +kernel
theorem dMu_nextQuestion_41 : decode cMu_nextQuestion 41 = .ok (.iload 6, 2) := by decide +kernel
theorem dMu_nextQuestion_43 : decode cMu_nextQuestion 43 = .ok (.iload_n 2, 1) := by decide +kernel
theorem dMu_nextQuestion_44 : decode cMu_nextQuestion 44 = .ok (.iload 6, 2) := by decide +kernel
theorem dMu_nextQuestion_46 : decode cMu_nextQuestion 46 = .ok (.isub, 1) := by decide +kernel
theorem dMu_nextQuestion_47 : decode cMu_nextQuestion 47 = .ok (.invokestatic 91, 3) := by decide +kernel
theorem dMu_nextQuestion_50 : decode cMu_nextQuestion 50 = .ok (.istore 7, 2) := by decide +kernel
theorem dMu_nextQuestion_52 : decode cMu_nextQuestion 52 = .ok (.iload 7, 2) := by decide +kernel
theorem dMu_nextQuestion_54 : decode cMu_nextQuestion 54 = .ok (.iload 4, 2) := by decide +kernel
theorem dMu_nextQuestion_56 : decode cMu_nextQuestion 56 = .ok (.if_icmp .ge 10, 3) := by decide +kernel
theorem dMu_nextQuestion_66 : decode cMu_nextQuestion 66 = .ok (.iinc 5 1, 3) := by decide +kernel
theorem dMu_nextQuestion_69 : decode cMu_nextQuestion 69 = .ok (.goto (-49), 3) := by decide +kernel
theorem dMu_nextQuestion_59 : decode cMu_nextQuestion 59 = .ok (.iload 7, 2) := by decide +kernel
theorem dMu_nextQuestion_61 : decode cMu_nextQuestion 61 = .ok (.istore 4, 2) := by decide +kernel
theorem dMu_nextQuestion_63 : decode cMu_nextQuestion 63 = .ok (.iload 5, 2) := by decide +kernel
theorem dMu_nextQuestion_65 : decode cMu_nextQuestion 65 = .ok (.istore_n 3, 1) := by decide +kernel
def fMu_nextQuestion (s0 : Sg) : Option (Int32 × Sg) := bi (fMu_wordsThatCould s0) fun r2 s1 => bi (fJ6_bitCount_0f7a4 r2 s1) fun r4 s3 => lp FU (fun q20 (u20 : Int32 × Int32 × Int32) (s5 : Sg) => if 10 ≤ u20.2.2 then (some (u20.1, s5)) else (if r4 < 2 then (some (u20.1, s5)) else (bi (fMu_manyRight r2 u20.2.2 s5) fun r7 s6 => bi (fJ9_max_7cf53 r7 (r4 - r7) s6) fun r9 s8 => bnd (fun (a66_3 : Int32) (a66_4 : Int32) (s10 : Sg) => q20 (a66_3, a66_4, (u20.2.2 + 1)) s10) fun j66 => if u20.2.1 ≤ r9 then (j66 u20.1 u20.2.1 s8) else (j66 u20.2.2 r9 s8)))) ((-1), (r4 + 1), 0) s3
set_option maxHeartbeats 4000000 in
set_option maxRecDepth 100000 in
theorem okMu_nextQuestion (s0 : Sg) : ∀ (l : Launch) (w : WC), Ok l w yMu_nextQuestion cMu_nextQuestion 8 (some .int) 6 evI [.ref (w.ad 66)] s0 (fMu_nextQuestion s0) := by
  refine ok_in (ev := fun _ => evI) (av := fun w => [.ref (w.ad 66)]) "LastWordHill$Muse" rfl (by decide +kernel) (fun _ => rfl) (fun _ => Nat.le_of_ble_eq_true rfl) ?_
  intro C X E
  show GF C evI 0 [some (.ref (C.w.ad 66)), none, none, none, none, none, none, none] [] s0 (fMu_nextQuestion s0)
  unfold fMu_nextQuestion
  refine g_aload_n X dMu_nextQuestion_0 rfl ?_
  refine g_virtI X [] [] k_66 mm_Mu_wordsThatCould mv_Mu_wordsThatCould ml_Mu_84 (okMu_wordsThatCould s0 C.l C.w) rfl (by decide) rfl (Nat.le_of_ble_eq_true rfl) dMu_nextQuestion_1 (fun r2 s1 => ?_)
  refine g_istore_n X [some (.ref (C.w.ad 66)), some (.int r2), none, none, none, none, none, none] dMu_nextQuestion_4 (by decide) (Nat.le_of_ble_eq_true rfl) rfl ?_
  refine g_iload_n X dMu_nextQuestion_5 rfl ?_
  refine g_statI X [.int r2] [] mm_J6_bitCount_0f7a4 ms_J6_bitCount_0f7a4 ml_Mu_42 (okJ6_bitCount_0f7a4 r2 s1 C.l C.w) rfl (by decide) rfl (Nat.le_of_ble_eq_true rfl) dMu_nextQuestion_6 (fun r4 s3 => ?_)
  refine g_istore_n X [some (.ref (C.w.ad 66)), some (.int r2), some (.int r4), none, none, none, none, none] dMu_nextQuestion_9 (by decide) (Nat.le_of_ble_eq_true rfl) rfl ?_
  refine g_iconst X (-1) dMu_nextQuestion_10 (by decide) ?_
  refine g_istore_n X [some (.ref (C.w.ad 66)), some (.int r2), some (.int r4), some (.int (-1)), none, none, none, none] dMu_nextQuestion_11 (by decide) (Nat.le_of_ble_eq_true rfl) rfl ?_
  refine g_iload_n X dMu_nextQuestion_12 rfl ?_
  refine g_iconst X 1 dMu_nextQuestion_13 (by decide) ?_
  refine g_iadd X dMu_nextQuestion_14 ?_
  refine g_istore X [some (.ref (C.w.ad 66)), some (.int r2), some (.int r4), some (.int (-1)), some (.int (r4 + 1)), none, none, none] dMu_nextQuestion_15 (by decide) (Nat.le_of_ble_eq_true rfl) rfl ?_
  refine g_iconst X 0 dMu_nextQuestion_17 (by decide) ?_
  refine g_istore X [some (.ref (C.w.ad 66)), some (.int r2), some (.int r4), some (.int (-1)), some (.int (r4 + 1)), some (.int 0), none, none] dMu_nextQuestion_18 (by decide) (Nat.le_of_ble_eq_true rfl) rfl ?_
  refine gf_sub (L' := [some (.ref (C.w.ad 66)), some (.int r2), some (.int r4), some (.int (-1)), some (.int (r4 + 1)), some (.int 0), none, none]) ?_ (by simp [lsub])
  refine gf_lp (Lf := fun (u20 : Int32 × Int32 × Int32) => [some (.ref (C.w.ad 66)), some (.int r2), some (.int r4), some (.int u20.1), some (.int u20.2.1), some (.int u20.2.2), none, none]) (fun q20 hq20 u20 s5 => ?_) FU ((-1), (r4 + 1), 0) s3
  refine g_iload X dMu_nextQuestion_20 rfl ?_
  refine g_bipush X 10 dMu_nextQuestion_22 (by decide) ?_
  refine g_cge X (tgt := 72) dMu_nextQuestion_24 (by decide) ?_ ?_
  · refine g_iload_n X dMu_nextQuestion_72 rfl ?_
    exact g_iret X E dMu_nextQuestion_73
  · refine g_iload_n X dMu_nextQuestion_27 rfl ?_
    refine g_iconst X 2 dMu_nextQuestion_28 (by decide) ?_
    refine g_clt X (tgt := 72) dMu_nextQuestion_29 (by decide) ?_ ?_
    · refine g_iload_n X dMu_nextQuestion_72 rfl ?_
      exact g_iret X E dMu_nextQuestion_73
    · refine g_aload_n X dMu_nextQuestion_32 rfl ?_
      refine g_iload_n X dMu_nextQuestion_33 rfl ?_
      refine g_iload X dMu_nextQuestion_34 rfl ?_
      refine g_virtI X [.int r2, .int u20.2.2] [] k_66 mm_Mu_manyRight mv_Mu_manyRight ml_Mu_88 (okMu_manyRight r2 u20.2.2 s5 C.l C.w) rfl (by decide) rfl (Nat.le_of_ble_eq_true rfl) dMu_nextQuestion_36 (fun r7 s6 => ?_)
      refine g_istore X [some (.ref (C.w.ad 66)), some (.int r2), some (.int r4), some (.int u20.1), some (.int u20.2.1), some (.int u20.2.2), some (.int r7), none] dMu_nextQuestion_39 (by decide) (Nat.le_of_ble_eq_true rfl) rfl ?_
      refine g_iload X dMu_nextQuestion_41 rfl ?_
      refine g_iload_n X dMu_nextQuestion_43 rfl ?_
      refine g_iload X dMu_nextQuestion_44 rfl ?_
      refine g_isub X dMu_nextQuestion_46 ?_
      refine g_statI X [.int r7, .int (r4 - r7)] [] mm_J9_max_7cf53 ms_J9_max_7cf53 ml_Mu_91 (okJ9_max_7cf53 r7 (r4 - r7) s6 C.l C.w) rfl (by decide) rfl (Nat.le_of_ble_eq_true rfl) dMu_nextQuestion_47 (fun r9 s8 => ?_)
      refine g_istore X [some (.ref (C.w.ad 66)), some (.int r2), some (.int r4), some (.int u20.1), some (.int u20.2.1), some (.int u20.2.2), some (.int r7), some (.int r9)] dMu_nextQuestion_50 (by decide) (Nat.le_of_ble_eq_true rfl) rfl ?_
      refine g_iload X dMu_nextQuestion_52 rfl ?_
      refine g_iload X dMu_nextQuestion_54 rfl ?_
      refine gf_jn (fun j66 => ∀ (a66_3 : Int32) (a66_4 : Int32) (s10 : Sg), GF C evI 66 [some (.ref (C.w.ad 66)), some (.int r2), some (.int r4), some (.int a66_3), some (.int a66_4), some (.int u20.2.2), none, none] [] s10 (j66 a66_3 a66_4 s10)) ?_ ?_
      · intro a66_3 a66_4 s10
        refine g_iinc X (u20.2.2 + 1) [some (.ref (C.w.ad 66)), some (.int r2), some (.int r4), some (.int a66_3), some (.int a66_4), some (.int (u20.2.2 + 1)), none, none] dMu_nextQuestion_66 rfl rfl (by decide) rfl ?_
        refine g_goto X 20 dMu_nextQuestion_69 (by decide) ?_
        exact gf_sub (hq20 (a66_3, a66_4, (u20.2.2 + 1)) s10) (by simp [lsub])
      · intro j66 hj66
        refine g_cge X (tgt := 66) dMu_nextQuestion_56 (by decide) ?_ ?_
        · exact gf_sub (hj66 u20.1 u20.2.1 s8) (by simp [lsub])
        · refine g_iload X dMu_nextQuestion_59 rfl ?_
          refine g_istore X [some (.ref (C.w.ad 66)), some (.int r2), some (.int r4), some (.int u20.1), some (.int r9), some (.int u20.2.2), some (.int r7), some (.int r9)] dMu_nextQuestion_61 (by decide) (Nat.le_of_ble_eq_true rfl) rfl ?_
          refine g_iload X dMu_nextQuestion_63 rfl ?_
          refine g_istore_n X [some (.ref (C.w.ad 66)), some (.int r2), some (.int r4), some (.int u20.2.2), some (.int r9), some (.int u20.2.2), some (.int r7), some (.int r9)] dMu_nextQuestion_65 (by decide) (Nat.le_of_ble_eq_true rfl) rfl ?_
          exact gf_sub (hj66 u20.2.2 r9 s8) (by simp [lsub])
def yMu_fewestWatches : MethodName := ⟨"LastWordHill$Muse", "fewestWatches", "(I)I"⟩
abbrev cMu_fewestWatches : ByteArray := prog_4_method_11_code
theorem dMu_fewestWatches_0 : decode cMu_fewestWatches 0 = .ok (.iload_n 1, 1) := by decide +kernel
theorem dMu_fewestWatches_1 : decode cMu_fewestWatches 1 = .ok (.istore_n 2, 1) := by decide +kernel
theorem dMu_fewestWatches_2 : decode cMu_fewestWatches 2 = .ok (.iconst 0, 1) := by decide +kernel
theorem dMu_fewestWatches_3 : decode cMu_fewestWatches 3 = .ok (.istore_n 3, 1) := by decide +kernel
theorem dMu_fewestWatches_4 : decode cMu_fewestWatches 4 = .ok (.iload_n 2, 1) := by decide +kernel
theorem dMu_fewestWatches_5 : decode cMu_fewestWatches 5 = .ok (.bipush 59, 2) := by decide +kernel
theorem dMu_fewestWatches_7 : decode cMu_fewestWatches 7 = .ok (.if_icmp .gt 35, 3) := by decide +kernel
theorem dMu_fewestWatches_42 : decode cMu_fewestWatches 42 = .ok (.iload_n 2, 1) := by decide +kernel
theorem dMu_fewestWatches_43 : decode cMu_fewestWatches 43 = .ok (.bipush 59, 2) := by decide +kernel
theorem dMu_fewestWatches_45 : decode cMu_fewestWatches 45 = .ok (.if_icmp .le 7, 3) := by decide +kernel
theorem dMu_fewestWatches_52 : decode cMu_fewestWatches 52 = .ok (.iconst (-1), 1) := by decide +kernel
theorem dMu_fewestWatches_53 : decode cMu_fewestWatches 53 = .ok (.ireturn, 1) := by decide +kernel
theorem dMu_fewestWatches_48 : decode cMu_fewestWatches 48 = .ok (.iload_n 3, 1) := by decide +kernel
theorem dMu_fewestWatches_49 : decode cMu_fewestWatches 49 = .ok (.goto 4, 3) := by decide +kernel
theorem dMu_fewestWatches_10 : decode cMu_fewestWatches 10 = .ok (.iload_n 3, 1) := by decide +kernel
theorem dMu_fewestWatches_11 : decode cMu_fewestWatches 11 = .ok (.bipush 9, 2) := by decide +kernel
theorem dMu_fewestWatches_13 : decode cMu_fewestWatches 13 = .ok (.if_icmp .ge 29, 3) := by decide +kernel
theorem dMu_fewestWatches_16 : decode cMu_fewestWatches 16 = .ok (.aload_n 0, 1) := by decide +kernel
theorem dMu_fewestWatches_17 : decode cMu_fewestWatches 17 = .ok (.iload_n 2, 1) := by decide +kernel
theorem dMu_fewestWatches_18 : decode cMu_fewestWatches 18 = .ok (.invokevirtual 96, 3) := by decide +kernel
theorem mm_Mu_furthest : MMc yMu_furthest cMu_furthest 4 (some .int) 1 := ⟨hz_in 1196 (by decide +kernel) (by decide +kernel), hz_in 145 (by decide +kernel) (by decide +kernel), by decide +kernel, by decide⟩
theorem mv_Mu_furthest : MMv yMu_furthest 2 := ⟨hz_in 1195 (by decide +kernel) (by decide +kernel), hz_in 36 (by decide +kernel) (by decide +kernel), _, _, rfl, by decide⟩
theorem ml_Mu_96 : Cond.methodLink "LastWordHill$Muse" 96 yMu_furthest ∈ hz_wt := hz_in 1193 (by decide +kernel) (by decide +kernel)
theorem dMu_fewestWatches_21 : decode cMu_fewestWatches 21 = .ok (.istore 4, 2) := by decide +kernel
theorem dMu_fewestWatches_23 : decode cMu_fewestWatches 23 = .ok (.iload 4, 2) := by decide +kernel
theorem dMu_fewestWatches_25 : decode cMu_fewestWatches 25 = .ok (.iload_n 2, 1) := by decide +kernel
theorem dMu_fewestWatches_26 : decode cMu_fewestWatches 26 = .ok (.if_icmp .ge 5, 3) := by decide +kernel
theorem dMu_fewestWatches_31 : decode cMu_fewestWatches 31 = .ok (.iload 4, 2) := by decide +kernel
theorem dMu_fewestWatches_33 : decode cMu_fewestWatches 33 = .ok (.iconst 1, 1) := by decide +kernel
theorem dMu_fewestWatches_34 : decode cMu_fewestWatches 34 = .ok (.iadd, 1) := by decide +kernel
theorem dMu_fewestWatches_35 : decode cMu_fewestWatches 35 = .ok (.istore_n 2, 1) := by decide +kernel
theorem dMu_fewestWatches_36 : decode cMu_fewestWatches 36 = .ok (.iinc 3 1, 3) := by decide +kernel
theorem dMu_fewestWatches_39 : decode cMu_fewestWatches 39 = .ok (.goto (-35), 3) := by decide +kernel
theorem dMu_fewestWatches_29 : decode cMu_fewestWatches 29 = .ok (.iconst (-1), 1) := by decide +kernel
theorem dMu_fewestWatches_30 : decode cMu_fewestWatches 30 = .ok (.ireturn, 1) := by decide +kernel
def fMu_fewestWatches (v1 : Int32) (s0 : Sg) : Option (Int32 × Sg) := lp FU (fun q4 (u4 : Int32 × Int32) (s1 : Sg) => bnd (fun (s2 : Sg) => if u4.1 ≤ 59 then (some ((-1), s2)) else (some (u4.2, s2))) fun j42 => if 59 < u4.1 then (j42 s1) else (if 9 ≤ u4.2 then (j42 s1) else (bi (fMu_furthest u4.1 s1) fun r4 s3 => if u4.1 ≤ r4 then (q4 ((r4 + 1), (u4.2 + 1)) s3) else (some ((-1), s3))))) (v1, 0) s0
set_option maxHeartbeats 4000000 in
set_option maxRecDepth 100000 in
theorem okMu_fewestWatches (v1 : Int32) (s0 : Sg) : ∀ (l : Launch) (w : WC), Ok l w yMu_fewestWatches cMu_fewestWatches 5 (some .int) 4 evI [.ref (w.ad 66), .int v1] s0 (fMu_fewestWatches v1 s0) := by
  refine ok_in (ev := fun _ => evI) (av := fun w => [.ref (w.ad 66), .int v1]) "LastWordHill$Muse" rfl (by decide +kernel) (fun _ => rfl) (fun _ => Nat.le_of_ble_eq_true rfl) ?_
  intro C X E
  show GF C evI 0 [some (.ref (C.w.ad 66)), some (.int v1), none, none, none] [] s0 (fMu_fewestWatches v1 s0)
  unfold fMu_fewestWatches
  refine g_iload_n X dMu_fewestWatches_0 rfl ?_
  refine g_istore_n X [some (.ref (C.w.ad 66)), some (.int v1), some (.int v1), none, none] dMu_fewestWatches_1 (by decide) (Nat.le_of_ble_eq_true rfl) rfl ?_
  refine g_iconst X 0 dMu_fewestWatches_2 (by decide) ?_
  refine g_istore_n X [some (.ref (C.w.ad 66)), some (.int v1), some (.int v1), some (.int 0), none] dMu_fewestWatches_3 (by decide) (Nat.le_of_ble_eq_true rfl) rfl ?_
  refine gf_sub (L' := [some (.ref (C.w.ad 66)), none, some (.int v1), some (.int 0), none]) ?_ (by simp [lsub])
  refine gf_lp (Lf := fun (u4 : Int32 × Int32) => [some (.ref (C.w.ad 66)), none, some (.int u4.1), some (.int u4.2), none]) (fun q4 hq4 u4 s1 => ?_) FU (v1, 0) s0
  refine g_iload_n X dMu_fewestWatches_4 rfl ?_
  refine g_bipush X 59 dMu_fewestWatches_5 (by decide) ?_
  refine gf_jn (fun j42 => ∀ (s2 : Sg), GF C evI 42 [none, none, some (.int u4.1), some (.int u4.2), none] [] s2 (j42 s2)) ?_ ?_
  · intro s2
    refine g_iload_n X dMu_fewestWatches_42 rfl ?_
    refine g_bipush X 59 dMu_fewestWatches_43 (by decide) ?_
    refine g_cle X (tgt := 52) dMu_fewestWatches_45 (by decide) ?_ ?_
    · refine g_iconst X (-1) dMu_fewestWatches_52 (by decide) ?_
      exact g_iret X E dMu_fewestWatches_53
    · refine g_iload_n X dMu_fewestWatches_48 rfl ?_
      refine g_goto X 53 dMu_fewestWatches_49 (by decide) ?_
      exact g_iret X E dMu_fewestWatches_53
  · intro j42 hj42
    refine g_cgt X (tgt := 42) dMu_fewestWatches_7 (by decide) ?_ ?_
    · exact gf_sub (hj42 s1) (by simp [lsub])
    · refine g_iload_n X dMu_fewestWatches_10 rfl ?_
      refine g_bipush X 9 dMu_fewestWatches_11 (by decide) ?_
      refine g_cge X (tgt := 42) dMu_fewestWatches_13 (by decide) ?_ ?_
      · exact gf_sub (hj42 s1) (by simp [lsub])
      · refine g_aload_n X dMu_fewestWatches_16 rfl ?_
        refine g_iload_n X dMu_fewestWatches_17 rfl ?_
        refine g_virtI X [.int u4.1] [] k_66 mm_Mu_furthest mv_Mu_furthest ml_Mu_96 (okMu_furthest u4.1 s1 C.l C.w) rfl (by decide) rfl (Nat.le_of_ble_eq_true rfl) dMu_fewestWatches_18 (fun r4 s3 => ?_)
        refine g_istore X [some (.ref (C.w.ad 66)), none, some (.int u4.1), some (.int u4.2), some (.int r4)] dMu_fewestWatches_21 (by decide) (Nat.le_of_ble_eq_true rfl) rfl ?_
        refine g_iload X dMu_fewestWatches_23 rfl ?_
        refine g_iload_n X dMu_fewestWatches_25 rfl ?_
        refine g_cge X (tgt := 31) dMu_fewestWatches_26 (by decide) ?_ ?_
        · refine g_iload X dMu_fewestWatches_31 rfl ?_
          refine g_iconst X 1 dMu_fewestWatches_33 (by decide) ?_
          refine g_iadd X dMu_fewestWatches_34 ?_
          refine g_istore_n X [some (.ref (C.w.ad 66)), none, some (.int (r4 + 1)), some (.int u4.2), some (.int r4)] dMu_fewestWatches_35 (by decide) (Nat.le_of_ble_eq_true rfl) rfl ?_
          refine g_iinc X (u4.2 + 1) [some (.ref (C.w.ad 66)), none, some (.int (r4 + 1)), some (.int (u4.2 + 1)), some (.int r4)] dMu_fewestWatches_36 rfl rfl (by decide) rfl ?_
          refine g_goto X 4 dMu_fewestWatches_39 (by decide) ?_
          exact gf_sub (hq4 ((r4 + 1), (u4.2 + 1)) s3) (by simp [lsub])
        · refine g_iconst X (-1) dMu_fewestWatches_29 (by decide) ?_
          exact g_iret X E dMu_fewestWatches_30
def yMu_stepsByAny : MethodName := ⟨"LastWordHill$Muse", "stepsByAny", "(II)I"⟩
abbrev cMu_stepsByAny : ByteArray := prog_4_method_15_code
theorem dMu_stepsByAny_0 : decode cMu_stepsByAny 0 = .ok (.aload_n 0, 1) := by decide +kernel
theorem dMu_stepsByAny_1 : decode cMu_stepsByAny 1 = .ok (.iload_n 1, 1) := by decide +kernel
theorem dMu_stepsByAny_2 : decode cMu_stepsByAny 2 = .ok (.invokevirtual 108, 3) := by decide +kernel
theorem mm_Mu_startAt : MMc yMu_startAt cMu_startAt 2 none 1 := ⟨hz_in 1212 (by decide +kernel) (by decide +kernel), hz_in 145 (by decide +kernel) (by decide +kernel), by decide +kernel, by decide⟩
theorem mv_Mu_startAt : MMv yMu_startAt 2 := ⟨hz_in 1211 (by decide +kernel) (by decide +kernel), hz_in 37 (by decide +kernel) (by decide +kernel), _, _, rfl, by decide⟩
theorem ml_Mu_108 : Cond.methodLink "LastWordHill$Muse" 108 yMu_startAt ∈ hz_wt := hz_in 1209 (by decide +kernel) (by decide +kernel)
theorem dMu_stepsByAny_5 : decode cMu_stepsByAny 5 = .ok (.iconst 0, 1) := by decide +kernel
theorem dMu_stepsByAny_6 : decode cMu_stepsByAny 6 = .ok (.istore_n 3, 1) := by decide +kernel
theorem dMu_stepsByAny_7 : decode cMu_stepsByAny 7 = .ok (.iload_n 3, 1) := by decide +kernel
theorem dMu_stepsByAny_8 : decode cMu_stepsByAny 8 = .ok (.bipush 10, 2) := by decide +kernel
theorem dMu_stepsByAny_10 : decode cMu_stepsByAny 10 = .ok (.if_icmp .ge 84, 3) := by decide +kernel
theorem dMu_stepsByAny_94 : decode cMu_stepsByAny 94 = .ok (.aload_n 0, 1) := by decide +kernel
theorem dMu_stepsByAny_95 : decode cMu_stepsByAny 95 = .ok (.iload_n 2, 1) := by decide +kernel
theorem dMu_stepsByAny_96 : decode cMu_stepsByAny 96 = .ok (.invokevirtual 112, 3) := by decide +kernel
theorem mm_Mu_farOf : MMc yMu_farOf cMu_farOf 2 (some .int) 1 := ⟨hz_in 1222 (by decide +kernel) (by decide +kernel), hz_in 145 (by decide +kernel) (by decide +kernel), by decide +kernel, by decide⟩
theorem mv_Mu_farOf : MMv yMu_farOf 2 := ⟨hz_in 1221 (by decide +kernel) (by decide +kernel), hz_in 39 (by decide +kernel) (by decide +kernel), _, _, rfl, by decide⟩
theorem ml_Mu_112 : Cond.methodLink "LastWordHill$Muse" 112 yMu_farOf ∈ hz_wt := hz_in 1219 (by decide +kernel) (by decide +kernel)
theorem dMu_stepsByAny_99 : decode cMu_stepsByAny 99 = .ok (.ireturn, 1) := by decide +kernel
theorem dMu_stepsByAny_13 : decode cMu_stepsByAny 13 = .ok (.iconst 0, 1) := by decide +kernel
theorem dMu_stepsByAny_14 : decode cMu_stepsByAny 14 = .ok (.istore 4, 2) := by decide +kernel
theorem dMu_stepsByAny_16 : decode cMu_stepsByAny 16 = .ok (.iload 4, 2) := by decide +kernel
theorem dMu_stepsByAny_18 : decode cMu_stepsByAny 18 = .ok (.aload_n 0, 1) := by decide +kernel
theorem dMu_stepsByAny_19 : decode cMu_stepsByAny 19 = .ok (.getfield 28, 3) := by decide +kernel
theorem dMu_stepsByAny_22 : decode cMu_stepsByAny 22 = .ok (.getfield 102, 3) := by decide +kernel
theorem dMu_stepsByAny_25 : decode cMu_stepsByAny 25 = .ok (.getfield 72, 3) := by decide +kernel
theorem dMu_stepsByAny_28 : decode cMu_stepsByAny 28 = .ok (.if_icmp .ge 60, 3) := by decide +kernel
theorem dMu_stepsByAny_88 : decode cMu_stepsByAny 88 = .ok (.iinc 3 1, 3) := by decide +kernel
theorem dMu_stepsByAny_91 : decode cMu_stepsByAny 91 = .ok (.goto (-84), 3) := by decide +kernel
theorem dMu_stepsByAny_31 : decode cMu_stepsByAny 31 = .ok (.aload_n 0, 1) := by decide +kernel
theorem dMu_stepsByAny_32 : decode cMu_stepsByAny 32 = .ok (.getfield 28, 3) := by decide +kernel
theorem dMu_stepsByAny_35 : decode cMu_stepsByAny 35 = .ok (.getfield 102, 3) := by decide +kernel
theorem dMu_stepsByAny_38 : decode cMu_stepsByAny 38 = .ok (.iload 4, 2) := by decide +kernel
theorem dMu_stepsByAny_40 : decode cMu_stepsByAny 40 = .ok (.iconst 0, 1) := by decide +kernel
theorem dMu_stepsByAny_41 : decode cMu_stepsByAny 41 = .ok (.invokevirtual 77, 3) := by decide +kernel
theorem dMu_stepsByAny_44 : decode cMu_stepsByAny 44 = .ok (.istore 5, 2) := by decide +kernel
theorem dMu_stepsByAny_46 : decode cMu_stepsByAny 46 = .ok (.aload_n 0, 1) := by decide +kernel
theorem dMu_stepsByAny_47 : decode cMu_stepsByAny 47 = .ok (.iload 5, 2) := by decide +kernel
theorem dMu_stepsByAny_49 : decode cMu_stepsByAny 49 = .ok (.invokevirtual 112, 3) := by decide +kernel
theorem dMu_stepsByAny_52 : decode cMu_stepsByAny 52 = .ok (.iload_n 3, 1) := by decide +kernel
theorem dMu_stepsByAny_53 : decode cMu_stepsByAny 53 = .ok (.if_icmp .ne 29, 3) := by decide +kernel
theorem dMu_stepsByAny_82 : decode cMu_stepsByAny 82 = .ok (.iinc 4 1, 3) := by decide +kernel
theorem dMu_stepsByAny_85 : decode cMu_stepsByAny 85 = .ok (.goto (-69), 3) := by decide +kernel
theorem dMu_stepsByAny_56 : decode cMu_stepsByAny 56 = .ok (.aload_n 0, 1) := by decide +kernel
theorem dMu_stepsByAny_57 : decode cMu_stepsByAny 57 = .ok (.aload_n 0, 1) := by decide +kernel
theorem dMu_stepsByAny_58 : decode cMu_stepsByAny 58 = .ok (.iload 5, 2) := by decide +kernel
theorem dMu_stepsByAny_60 : decode cMu_stepsByAny 60 = .ok (.aload_n 0, 1) := by decide +kernel
theorem dMu_stepsByAny_61 : decode cMu_stepsByAny 61 = .ok (.getfield 28, 3) := by decide +kernel
theorem dMu_stepsByAny_64 : decode cMu_stepsByAny 64 = .ok (.getfield 102, 3) := by decide +kernel
theorem dMu_stepsByAny_67 : decode cMu_stepsByAny 67 = .ok (.iload 4, 2) := by decide +kernel
theorem dMu_stepsByAny_69 : decode cMu_stepsByAny 69 = .ok (.iconst 1, 1) := by decide +kernel
theorem dMu_stepsByAny_70 : decode cMu_stepsByAny 70 = .ok (.invokevirtual 77, 3) := by decide +kernel
theorem dMu_stepsByAny_73 : decode cMu_stepsByAny 73 = .ok (.invokevirtual 105, 3) := by decide +kernel
theorem dMu_stepsByAny_76 : decode cMu_stepsByAny 76 = .ok (.iload_n 3, 1) := by decide +kernel
theorem dMu_stepsByAny_77 : decode cMu_stepsByAny 77 = .ok (.iconst 1, 1) := by decide +kernel
theorem dMu_stepsByAny_78 : decode cMu_stepsByAny 78 = .ok (.iadd, 1) := by decide +kernel
theorem dMu_stepsByAny_79 : decode cMu_stepsByAny 79 = .ok (.invokevirtual 115, 3) := by decide +kernel
def fMu_stepsByAny (v1 : Int32) (v2 : Int32) (s0 : Sg) : Option (Int32 × Sg) := bv (fMu_startAt v1 s0) fun s1 => lp FU (fun q7 (u7 : Int32) (s2 : Sg) => if 10 ≤ u7 then (bi (fMu_farOf v2 s2) fun r4 s3 => some (r4, s3)) else (lp FU (fun q16 (u16 : Int32) (s5 : Sg) => if (s5 53 3) ≤ u16 then (q7 (u7 + 1) s5) else (bi (fTa_tell 53 u16 0 s5) fun r7 s6 => bi (fMu_farOf r7 s6) fun r9 s8 => bnd (fun (s10 : Sg) => q16 (u16 + 1) s10) fun j82 => if r9 = u7 then (bi (fTa_tell 53 u16 1 s8) fun r12 s11 => bi (fMu_leadsTo r7 r12 s11) fun r14 s13 => bv (fMu_reach r14 (u7 + 1) s13) fun s15 => j82 s15) else (j82 s8))) 0 s2)) 0 s1
set_option maxHeartbeats 4000000 in
set_option maxRecDepth 100000 in
theorem okMu_stepsByAny (v1 : Int32) (v2 : Int32) (s0 : Sg) : ∀ (l : Launch) (w : WC), Ok l w yMu_stepsByAny cMu_stepsByAny 6 (some .int) 4 evI [.ref (w.ad 66), .int v1, .int v2] s0 (fMu_stepsByAny v1 v2 s0) := by
  refine ok_in (ev := fun _ => evI) (av := fun w => [.ref (w.ad 66), .int v1, .int v2]) "LastWordHill$Muse" rfl (by decide +kernel) (fun _ => rfl) (fun _ => Nat.le_of_ble_eq_true rfl) ?_
  intro C X E
  show GF C evI 0 [some (.ref (C.w.ad 66)), some (.int v1), some (.int v2), none, none, none] [] s0 (fMu_stepsByAny v1 v2 s0)
  unfold fMu_stepsByAny
  refine g_aload_n X dMu_stepsByAny_0 rfl ?_
  refine g_iload_n X dMu_stepsByAny_1 rfl ?_
  refine g_virtV X [.int v1] [] k_66 mm_Mu_startAt mv_Mu_startAt ml_Mu_108 (okMu_startAt v1 s0 C.l C.w) rfl (by decide) rfl (Nat.le_of_ble_eq_true rfl) dMu_stepsByAny_2 (fun s1 => ?_)
  refine g_iconst X 0 dMu_stepsByAny_5 (by decide) ?_
  refine g_istore_n X [some (.ref (C.w.ad 66)), some (.int v1), some (.int v2), some (.int 0), none, none] dMu_stepsByAny_6 (by decide) (Nat.le_of_ble_eq_true rfl) rfl ?_
  refine gf_sub (L' := [some (.ref (C.w.ad 66)), none, some (.int v2), some (.int 0), none, none]) ?_ (by simp [lsub])
  refine gf_lp (Lf := fun (u7 : Int32) => [some (.ref (C.w.ad 66)), none, some (.int v2), some (.int u7), none, none]) (fun q7 hq7 u7 s2 => ?_) FU 0 s1
  refine g_iload_n X dMu_stepsByAny_7 rfl ?_
  refine g_bipush X 10 dMu_stepsByAny_8 (by decide) ?_
  refine g_cge X (tgt := 94) dMu_stepsByAny_10 (by decide) ?_ ?_
  · refine g_aload_n X dMu_stepsByAny_94 rfl ?_
    refine g_iload_n X dMu_stepsByAny_95 rfl ?_
    refine g_virtI X [.int v2] [] k_66 mm_Mu_farOf mv_Mu_farOf ml_Mu_112 (okMu_farOf v2 s2 C.l C.w) rfl (by decide) rfl (Nat.le_of_ble_eq_true rfl) dMu_stepsByAny_96 (fun r4 s3 => ?_)
    exact g_iret X E dMu_stepsByAny_99
  · refine g_iconst X 0 dMu_stepsByAny_13 (by decide) ?_
    refine g_istore X [some (.ref (C.w.ad 66)), none, some (.int v2), some (.int u7), some (.int 0), none] dMu_stepsByAny_14 (by decide) (Nat.le_of_ble_eq_true rfl) rfl ?_
    refine gf_sub (L' := [some (.ref (C.w.ad 66)), none, some (.int v2), some (.int u7), some (.int 0), none]) ?_ (by simp [lsub])
    refine gf_lp (Lf := fun (u16 : Int32) => [some (.ref (C.w.ad 66)), none, some (.int v2), some (.int u7), some (.int u16), none]) (fun q16 hq16 u16 s5 => ?_) FU 0 s2
    refine g_iload X dMu_stepsByAny_16 rfl ?_
    refine g_aload_n X dMu_stepsByAny_18 rfl ?_
    refine g_getN X fl_Mu_28 fb_2_1 k_66 r_66_1 dMu_stepsByAny_19 ?_
    refine g_getN X fl_Mu_102 fb_10_2 k_48 r_48_2 dMu_stepsByAny_22 ?_
    refine g_getI X fl_Mu_72 fb_7_3 k_53 dMu_stepsByAny_25 ?_
    refine g_cge X (tgt := 88) dMu_stepsByAny_28 (by decide) ?_ ?_
    · refine g_iinc X (u7 + 1) [some (.ref (C.w.ad 66)), none, some (.int v2), some (.int (u7 + 1)), some (.int u16), none] dMu_stepsByAny_88 rfl rfl (by decide) rfl ?_
      refine g_goto X 7 dMu_stepsByAny_91 (by decide) ?_
      exact gf_sub (hq7 (u7 + 1) s5) (by simp [lsub])
    · refine g_aload_n X dMu_stepsByAny_31 rfl ?_
      refine g_getN X fl_Mu_28 fb_2_1 k_66 r_66_1 dMu_stepsByAny_32 ?_
      refine g_getN X fl_Mu_102 fb_10_2 k_48 r_48_2 dMu_stepsByAny_35 ?_
      refine g_iload X dMu_stepsByAny_38 rfl ?_
      refine g_iconst X 0 dMu_stepsByAny_40 (by decide) ?_
      refine g_virtI X [.int u16, .int 0] [] k_53 mm_Ta_tell mv_Ta_tell ml_Mu_77 (okTa_tell 53 u16 0 s5 k_53 C.l C.w) rfl (by decide) rfl (Nat.le_of_ble_eq_true rfl) dMu_stepsByAny_41 (fun r7 s6 => ?_)
      refine g_istore X [some (.ref (C.w.ad 66)), none, some (.int v2), some (.int u7), some (.int u16), some (.int r7)] dMu_stepsByAny_44 (by decide) (Nat.le_of_ble_eq_true rfl) rfl ?_
      refine g_aload_n X dMu_stepsByAny_46 rfl ?_
      refine g_iload X dMu_stepsByAny_47 rfl ?_
      refine g_virtI X [.int r7] [] k_66 mm_Mu_farOf mv_Mu_farOf ml_Mu_112 (okMu_farOf r7 s6 C.l C.w) rfl (by decide) rfl (Nat.le_of_ble_eq_true rfl) dMu_stepsByAny_49 (fun r9 s8 => ?_)
      refine g_iload_n X dMu_stepsByAny_52 rfl ?_
      refine gf_jn (fun j82 => ∀ (s10 : Sg), GF C evI 82 [some (.ref (C.w.ad 66)), none, some (.int v2), some (.int u7), some (.int u16), none] [] s10 (j82 s10)) ?_ ?_
      · intro s10
        refine g_iinc X (u16 + 1) [some (.ref (C.w.ad 66)), none, some (.int v2), some (.int u7), some (.int (u16 + 1)), none] dMu_stepsByAny_82 rfl rfl (by decide) rfl ?_
        refine g_goto X 16 dMu_stepsByAny_85 (by decide) ?_
        exact gf_sub (hq16 (u16 + 1) s10) (by simp [lsub])
      · intro j82 hj82
        refine g_cne X (tgt := 82) dMu_stepsByAny_53 (by decide) ?_ ?_
        · refine g_aload_n X dMu_stepsByAny_56 rfl ?_
          refine g_aload_n X dMu_stepsByAny_57 rfl ?_
          refine g_iload X dMu_stepsByAny_58 rfl ?_
          refine g_aload_n X dMu_stepsByAny_60 rfl ?_
          refine g_getN X fl_Mu_28 fb_2_1 k_66 r_66_1 dMu_stepsByAny_61 ?_
          refine g_getN X fl_Mu_102 fb_10_2 k_48 r_48_2 dMu_stepsByAny_64 ?_
          refine g_iload X dMu_stepsByAny_67 rfl ?_
          refine g_iconst X 1 dMu_stepsByAny_69 (by decide) ?_
          refine g_virtI X [.int u16, .int 1] [.int r7, .ref (C.w.ad 66), .ref (C.w.ad 66)] k_53 mm_Ta_tell mv_Ta_tell ml_Mu_77 (okTa_tell 53 u16 1 s8 k_53 C.l C.w) rfl (by decide) rfl (Nat.le_of_ble_eq_true rfl) dMu_stepsByAny_70 (fun r12 s11 => ?_)
          refine g_virtI X [.int r7, .int r12] [.ref (C.w.ad 66)] k_66 mm_Mu_leadsTo mv_Mu_leadsTo ml_Mu_105 (okMu_leadsTo r7 r12 s11 C.l C.w) rfl (by decide) rfl (Nat.le_of_ble_eq_true rfl) dMu_stepsByAny_73 (fun r14 s13 => ?_)
          refine g_iload_n X dMu_stepsByAny_76 rfl ?_
          refine g_iconst X 1 dMu_stepsByAny_77 (by decide) ?_
          refine g_iadd X dMu_stepsByAny_78 ?_
          refine g_virtV X [.int r14, .int (u7 + 1)] [] k_66 mm_Mu_reach mv_Mu_reach ml_Mu_115 (okMu_reach r14 (u7 + 1) s13 C.l C.w) rfl (by decide) rfl (Nat.le_of_ble_eq_true rfl) dMu_stepsByAny_79 (fun s15 => ?_)
          exact gf_sub (hj82 s15) (by simp [lsub])
        · exact gf_sub (hj82 s8) (by simp [lsub])
def yMu_reachLikes : MethodName := ⟨"LastWordHill$Muse", "reachLikes", "(II)V"⟩
abbrev cMu_reachLikes : ByteArray := prog_4_method_22_code
theorem dMu_reachLikes_0 : decode cMu_reachLikes 0 = .ok (.iconst 0, 1) := by decide +kernel
theorem dMu_reachLikes_1 : decode cMu_reachLikes 1 = .ok (.istore_n 3, 1) := by decide +kernel
theorem dMu_reachLikes_2 : decode cMu_reachLikes 2 = .ok (.iload_n 3, 1) := by decide +kernel
theorem dMu_reachLikes_3 : decode cMu_reachLikes 3 = .ok (.bipush 8, 2) := by decide +kernel
theorem dMu_reachLikes_5 : decode cMu_reachLikes 5 = .ok (.if_icmp .ge 24, 3) := by decide +kernel
theorem dMu_reachLikes_29 : decode cMu_reachLikes 29 = .ok (.return_, 1) := by decide +kernel
theorem dMu_reachLikes_8 : decode cMu_reachLikes 8 = .ok (.aload_n 0, 1) := by decide +kernel
theorem dMu_reachLikes_9 : decode cMu_reachLikes 9 = .ok (.iload_n 1, 1) := by decide +kernel
theorem dMu_reachLikes_10 : decode cMu_reachLikes 10 = .ok (.iload_n 3, 1) := by decide +kernel
theorem dMu_reachLikes_11 : decode cMu_reachLikes 11 = .ok (.invokevirtual 134, 3) := by decide +kernel
theorem mm_Mu_oneApart : MMc yMu_oneApart cMu_oneApart 8 (some .boolean) 2 := ⟨hz_in 1255 (by decide +kernel) (by decide +kernel), hz_in 145 (by decide +kernel) (by decide +kernel), by decide +kernel, by decide⟩
theorem mv_Mu_oneApart : MMv yMu_oneApart 2 := ⟨hz_in 1254 (by decide +kernel) (by decide +kernel), hz_in 43 (by decide +kernel) (by decide +kernel), _, _, rfl, by decide⟩
theorem ml_Mu_134 : Cond.methodLink "LastWordHill$Muse" 134 yMu_oneApart ∈ hz_wt := hz_in 1252 (by decide +kernel) (by decide +kernel)
theorem dMu_reachLikes_14 : decode cMu_reachLikes 14 = .ok (.ifCond .eq 9, 3) := by decide +kernel
theorem dMu_reachLikes_23 : decode cMu_reachLikes 23 = .ok (.iinc 3 1, 3) := by decide +kernel
theorem dMu_reachLikes_26 : decode cMu_reachLikes 26 = .ok (.goto (-24), 3) := by decide +kernel
theorem dMu_reachLikes_17 : decode cMu_reachLikes 17 = .ok (.aload_n 0, 1) := by decide +kernel
theorem dMu_reachLikes_18 : decode cMu_reachLikes 18 = .ok (.iload_n 3, 1) := by decide +kernel
theorem dMu_reachLikes_19 : decode cMu_reachLikes 19 = .ok (.iload_n 2, 1) := by decide +kernel
theorem dMu_reachLikes_20 : decode cMu_reachLikes 20 = .ok (.invokevirtual 115, 3) := by decide +kernel
def fMu_reachLikes (v1 : Int32) (v2 : Int32) (s0 : Sg) : Option (Sg) := lp FU (fun q2 (u2 : Int32) (s1 : Sg) => if 8 ≤ u2 then (some s1) else (bi (fMu_oneApart v1 u2 s1) fun r3 s2 => bnd (fun (s4 : Sg) => q2 (u2 + 1) s4) fun j23 => if r3 = 0 then (j23 s2) else (bv (fMu_reach u2 v2 s2) fun s5 => j23 s5))) 0 s0
set_option maxHeartbeats 4000000 in
set_option maxRecDepth 100000 in
theorem okMu_reachLikes (v1 : Int32) (v2 : Int32) (s0 : Sg) : ∀ (l : Launch) (w : WC), Ok l w yMu_reachLikes cMu_reachLikes 4 none 4 evV [.ref (w.ad 66), .int v1, .int v2] s0 (fMu_reachLikes v1 v2 s0) := by
  refine ok_in (ev := fun _ => evV) (av := fun w => [.ref (w.ad 66), .int v1, .int v2]) "LastWordHill$Muse" rfl (by decide +kernel) (fun _ => rfl) (fun _ => Nat.le_of_ble_eq_true rfl) ?_
  intro C X E
  show GF C evV 0 [some (.ref (C.w.ad 66)), some (.int v1), some (.int v2), none] [] s0 (fMu_reachLikes v1 v2 s0)
  unfold fMu_reachLikes
  refine g_iconst X 0 dMu_reachLikes_0 (by decide) ?_
  refine g_istore_n X [some (.ref (C.w.ad 66)), some (.int v1), some (.int v2), some (.int 0)] dMu_reachLikes_1 (by decide) (Nat.le_of_ble_eq_true rfl) rfl ?_
  refine gf_sub (L' := [some (.ref (C.w.ad 66)), some (.int v1), some (.int v2), some (.int 0)]) ?_ (by simp [lsub])
  refine gf_lp (Lf := fun (u2 : Int32) => [some (.ref (C.w.ad 66)), some (.int v1), some (.int v2), some (.int u2)]) (fun q2 hq2 u2 s1 => ?_) FU 0 s0
  refine g_iload_n X dMu_reachLikes_2 rfl ?_
  refine g_bipush X 8 dMu_reachLikes_3 (by decide) ?_
  refine g_cge X (tgt := 29) dMu_reachLikes_5 (by decide) ?_ ?_
  · exact g_vret X E dMu_reachLikes_29
  · refine g_aload_n X dMu_reachLikes_8 rfl ?_
    refine g_iload_n X dMu_reachLikes_9 rfl ?_
    refine g_iload_n X dMu_reachLikes_10 rfl ?_
    refine g_virtI X [.int v1, .int u2] [] k_66 mm_Mu_oneApart mv_Mu_oneApart ml_Mu_134 (okMu_oneApart v1 u2 s1 C.l C.w) rfl (by decide) rfl (Nat.le_of_ble_eq_true rfl) dMu_reachLikes_11 (fun r3 s2 => ?_)
    refine gf_jn (fun j23 => ∀ (s4 : Sg), GF C evV 23 [some (.ref (C.w.ad 66)), some (.int v1), some (.int v2), some (.int u2)] [] s4 (j23 s4)) ?_ ?_
    · intro s4
      refine g_iinc X (u2 + 1) [some (.ref (C.w.ad 66)), some (.int v1), some (.int v2), some (.int (u2 + 1))] dMu_reachLikes_23 rfl rfl (by decide) rfl ?_
      refine g_goto X 2 dMu_reachLikes_26 (by decide) ?_
      exact gf_sub (hq2 (u2 + 1) s4) (by simp [lsub])
    · intro j23 hj23
      refine g_zeq X (tgt := 23) dMu_reachLikes_14 (by decide) ?_ ?_
      · exact gf_sub (hj23 s2) (by simp [lsub])
      · refine g_aload_n X dMu_reachLikes_17 rfl ?_
        refine g_iload_n X dMu_reachLikes_18 rfl ?_
        refine g_iload_n X dMu_reachLikes_19 rfl ?_
        refine g_virtV X [.int u2, .int v2] [] k_66 mm_Mu_reach mv_Mu_reach ml_Mu_115 (okMu_reach u2 v2 s2 C.l C.w) rfl (by decide) rfl (Nat.le_of_ble_eq_true rfl) dMu_reachLikes_20 (fun s5 => ?_)
        exact gf_sub (hj23 s5) (by simp [lsub])
def yMu_mostSpeakers : MethodName := ⟨"LastWordHill$Muse", "mostSpeakers", "()I"⟩
abbrev cMu_mostSpeakers : ByteArray := prog_4_method_24_code
theorem dMu_mostSpeakers_0 : decode cMu_mostSpeakers 0 = .ok (.aload_n 0, 1) := by decide +kernel
theorem dMu_mostSpeakers_1 : decode cMu_mostSpeakers 1 = .ok (.iconst (-1), 1) := by decide +kernel
theorem dMu_mostSpeakers_2 : decode cMu_mostSpeakers 2 = .ok (.putfield 140, 3) := by decide +kernel
theorem dMu_mostSpeakers_5 : decode cMu_mostSpeakers 5 = .ok (.aload_n 0, 1) := by decide +kernel
theorem dMu_mostSpeakers_6 : decode cMu_mostSpeakers 6 = .ok (.iconst 0, 1) := by decide +kernel
theorem dMu_mostSpeakers_7 : decode cMu_mostSpeakers 7 = .ok (.iconst 0, 1) := by decide +kernel
theorem dMu_mostSpeakers_8 : decode cMu_mostSpeakers 8 = .ok (.iconst 0, 1) := by decide +kernel
theorem dMu_mostSpeakers_9 : decode cMu_mostSpeakers 9 = .ok (.iconst 0, 1) := by decide +kernel
theorem dMu_mostSpeakers_10 : decode cMu_mostSpeakers 10 = .ok (.invokestatic 143, 3) := by decide +kernel
theorem dMu_mostSpeakers_13 : decode cMu_mostSpeakers 13 = .ok (.aload_n 0, 1) := by decide +kernel
theorem dMu_mostSpeakers_14 : decode cMu_mostSpeakers 14 = .ok (.getfield 140, 3) := by decide +kernel
theorem dMu_mostSpeakers_17 : decode cMu_mostSpeakers 17 = .ok (.ireturn, 1) := by decide +kernel
def fMu_mostSpeakers (s0 : Sg) : Option (Int32 × Sg) := bnd (pt s0 66 6 (-1)) fun s1 => bv (fMu_seat 8 0 0 0 0 s1) fun s2 => some ((s2 66 6), s2)
set_option maxHeartbeats 4000000 in
set_option maxRecDepth 100000 in
theorem okMu_mostSpeakers (s0 : Sg) : ∀ (l : Launch) (w : WC), Ok l w yMu_mostSpeakers cMu_mostSpeakers 1 (some .int) 11 evI [.ref (w.ad 66)] s0 (fMu_mostSpeakers s0) := by
  refine ok_in (ev := fun _ => evI) (av := fun w => [.ref (w.ad 66)]) "LastWordHill$Muse" rfl (by decide +kernel) (fun _ => rfl) (fun _ => Nat.le_of_ble_eq_true rfl) ?_
  intro C X E
  show GF C evI 0 [some (.ref (C.w.ad 66))] [] s0 (fMu_mostSpeakers s0)
  unfold fMu_mostSpeakers
  refine g_aload_n X dMu_mostSpeakers_0 rfl ?_
  refine g_iconst X (-1) dMu_mostSpeakers_1 (by decide) ?_
  refine g_putI X fl_Mu_140 fb_2_6 fp_2_6 k_66 dMu_mostSpeakers_2 (fun s1 => ?_)
  refine g_aload_n X dMu_mostSpeakers_5 rfl ?_
  refine g_iconst X 0 dMu_mostSpeakers_6 (by decide) ?_
  refine g_iconst X 0 dMu_mostSpeakers_7 (by decide) ?_
  refine g_iconst X 0 dMu_mostSpeakers_8 (by decide) ?_
  refine g_iconst X 0 dMu_mostSpeakers_9 (by decide) ?_
  refine g_statV X [.ref (C.w.ad 66), .int 0, .int 0, .int 0, .int 0] [] mm_Mu_seat ms_Mu_seat ml_Mu_143 (okMu_seat 8 0 0 0 0 s1 C.l C.w) rfl (by decide) rfl (Nat.le_of_ble_eq_true rfl) dMu_mostSpeakers_10 (fun s2 => ?_)
  refine g_aload_n X dMu_mostSpeakers_13 rfl ?_
  refine g_getI X fl_Mu_140 fb_2_6 k_66 dMu_mostSpeakers_14 ?_
  exact g_iret X E dMu_mostSpeakers_17
def yMu_speakerAt : MethodName := ⟨"LastWordHill$Muse", "speakerAt", "(I)I"⟩
abbrev cMu_speakerAt : ByteArray := prog_4_method_25_code
theorem dMu_speakerAt_0 : decode cMu_speakerAt 0 = .ok (.aload_n 0, 1) := by decide +kernel
theorem dMu_speakerAt_1 : decode cMu_speakerAt 1 = .ok (.invokevirtual 147, 3) := by decide +kernel
theorem mm_Mu_mostSpeakers : MMc yMu_mostSpeakers cMu_mostSpeakers 1 (some .int) 0 := ⟨hz_in 1271 (by decide +kernel) (by decide +kernel), hz_in 145 (by decide +kernel) (by decide +kernel), by decide +kernel, by decide⟩
theorem mv_Mu_mostSpeakers : MMv yMu_mostSpeakers 2 := ⟨hz_in 1269 (by decide +kernel) (by decide +kernel), hz_in 1270 (by decide +kernel) (by decide +kernel), _, _, rfl, by decide⟩
theorem ml_Mu_147 : Cond.methodLink "LastWordHill$Muse" 147 yMu_mostSpeakers ∈ hz_wt := hz_in 1280 (by decide +kernel) (by decide +kernel)
theorem dMu_speakerAt_4 : decode cMu_speakerAt 4 = .ok (.pop, 1) := by decide +kernel
theorem dMu_speakerAt_5 : decode cMu_speakerAt 5 = .ok (.iload_n 1, 1) := by decide +kernel
theorem dMu_speakerAt_6 : decode cMu_speakerAt 6 = .ok (.iconst 0, 1) := by decide +kernel
theorem dMu_speakerAt_7 : decode cMu_speakerAt 7 = .ok (.iconst 5, 1) := by decide +kernel
theorem dMu_speakerAt_8 : decode cMu_speakerAt 8 = .ok (.invokestatic 124, 3) := by decide +kernel
theorem dMu_speakerAt_11 : decode cMu_speakerAt 11 = .ok (.ifCond .eq 12, 3) := by decide +kernel
theorem dMu_speakerAt_23 : decode cMu_speakerAt 23 = .ok (.iconst (-1), 1) := by decide +kernel
theorem dMu_speakerAt_24 : decode cMu_speakerAt 24 = .ok (.ireturn, 1) := by decide +kernel
theorem dMu_speakerAt_14 : decode cMu_speakerAt 14 = .ok (.aload_n 0, 1) := by decide +kernel
theorem dMu_speakerAt_15 : decode cMu_speakerAt 15 = .ok (.getfield 18, 3) := by decide +kernel
theorem dMu_speakerAt_18 : decode cMu_speakerAt 18 = .ok (.iload_n 1, 1) := by decide +kernel
theorem dMu_speakerAt_19 : decode cMu_speakerAt 19 = .ok (.iaload, 1) := by decide +kernel
theorem dMu_speakerAt_20 : decode cMu_speakerAt 20 = .ok (.goto 4, 3) := by decide +kernel
def fMu_speakerAt (v1 : Int32) (s0 : Sg) : Option (Int32 × Sg) := bi (fMu_mostSpeakers s0) fun r2 s1 => bi (fH_within v1 0 5 s1) fun r4 s3 => if r4 = 0 then (some ((-1), s3)) else (gd v1 6 (some ((s3 69 (ix v1)), s3)))
set_option maxHeartbeats 4000000 in
set_option maxRecDepth 100000 in
theorem okMu_speakerAt (v1 : Int32) (s0 : Sg) : ∀ (l : Launch) (w : WC), Ok l w yMu_speakerAt cMu_speakerAt 2 (some .int) 12 evI [.ref (w.ad 66), .int v1] s0 (fMu_speakerAt v1 s0) := by
  refine ok_in (ev := fun _ => evI) (av := fun w => [.ref (w.ad 66), .int v1]) "LastWordHill$Muse" rfl (by decide +kernel) (fun _ => rfl) (fun _ => Nat.le_of_ble_eq_true rfl) ?_
  intro C X E
  show GF C evI 0 [some (.ref (C.w.ad 66)), some (.int v1)] [] s0 (fMu_speakerAt v1 s0)
  unfold fMu_speakerAt
  refine g_aload_n X dMu_speakerAt_0 rfl ?_
  refine g_virtI X [] [] k_66 mm_Mu_mostSpeakers mv_Mu_mostSpeakers ml_Mu_147 (okMu_mostSpeakers s0 C.l C.w) rfl (by decide) rfl (Nat.le_of_ble_eq_true rfl) dMu_speakerAt_1 (fun r2 s1 => ?_)
  refine g_pop X dMu_speakerAt_4 rfl ?_
  refine g_iload_n X dMu_speakerAt_5 rfl ?_
  refine g_iconst X 0 dMu_speakerAt_6 (by decide) ?_
  refine g_iconst X 5 dMu_speakerAt_7 (by decide) ?_
  refine g_nestI X [.int v1, .int 0, .int 5] [] mm_H_within ms_H_within ml_Mu_124 (okH_within v1 0 5 s1 C.l C.w) rfl (by decide) rfl (Nat.le_of_ble_eq_true rfl) dMu_speakerAt_8 (fun r4 s3 => ?_)
  refine g_zeq X (tgt := 23) dMu_speakerAt_11 (by decide) ?_ ?_
  · refine g_iconst X (-1) dMu_speakerAt_23 (by decide) ?_
    exact g_iret X E dMu_speakerAt_24
  · refine g_aload_n X dMu_speakerAt_14 rfl ?_
    refine g_getN X fl_Mu_18 fb_2_4 k_66 r_66_4 dMu_speakerAt_15 ?_
    refine g_iload_n X dMu_speakerAt_18 rfl ?_
    refine g_iald X k_69 ln_69 dMu_speakerAt_19 ?_
    refine g_goto X 24 dMu_speakerAt_20 (by decide) ?_
    exact g_iret X E dMu_speakerAt_24
def yMu_heardPrices : MethodName := ⟨"LastWordHill$Muse", "heardPrices", "(IZ)I"⟩
abbrev cMu_heardPrices : ByteArray := prog_4_method_31_code
theorem dMu_heardPrices_0 : decode cMu_heardPrices 0 = .ok (.iconst 0, 1) := by decide +kernel
theorem dMu_heardPrices_1 : decode cMu_heardPrices 1 = .ok (.istore_n 3, 1) := by decide +kernel
theorem dMu_heardPrices_2 : decode cMu_heardPrices 2 = .ok (.iconst 0, 1) := by decide +kernel
theorem dMu_heardPrices_3 : decode cMu_heardPrices 3 = .ok (.istore 4, 2) := by decide +kernel
theorem dMu_heardPrices_5 : decode cMu_heardPrices 5 = .ok (.iload 4, 2) := by decide +kernel
theorem dMu_heardPrices_7 : decode cMu_heardPrices 7 = .ok (.aload_n 0, 1) := by decide +kernel
theorem dMu_heardPrices_8 : decode cMu_heardPrices 8 = .ok (.getfield 28, 3) := by decide +kernel
theorem dMu_heardPrices_11 : decode cMu_heardPrices 11 = .ok (.getfield 177, 3) := by decide +kernel
theorem dMu_heardPrices_14 : decode cMu_heardPrices 14 = .ok (.getfield 72, 3) := by decide +kernel
theorem dMu_heardPrices_17 : decode cMu_heardPrices 17 = .ok (.if_icmp .ge 43, 3) := by decide +kernel
theorem dMu_heardPrices_60 : decode cMu_heardPrices 60 = .ok (.iload_n 3, 1) := by decide +kernel
theorem dMu_heardPrices_61 : decode cMu_heardPrices 61 = .ok (.ireturn, 1) := by decide +kernel
theorem dMu_heardPrices_20 : decode cMu_heardPrices 20 = .ok (.aload_n 0, 1) := by decide +kernel
theorem dMu_heardPrices_21 : decode cMu_heardPrices 21 = .ok (.iload 4, 2) := by decide +kernel
theorem dMu_heardPrices_23 : decode cMu_heardPrices 23 = .ok (.iload_n 1, 1) := by decide +kernel
theorem dMu_heardPrices_24 : decode cMu_heardPrices 24 = .ok (.invokevirtual 180, 3) := by decide +kernel
theorem mm_Mu_isHeard : MMc yMu_isHeard cMu_isHeard 4 (some .boolean) 2 := ⟨hz_in 1321 (by decide +kernel) (by decide +kernel), hz_in 145 (by decide +kernel) (by decide +kernel), by decide +kernel, by decide⟩
theorem mv_Mu_isHeard : MMv yMu_isHeard 2 := ⟨hz_in 1320 (by decide +kernel) (by decide +kernel), hz_in 46 (by decide +kernel) (by decide +kernel), _, _, rfl, by decide⟩
theorem ml_Mu_180 : Cond.methodLink "LastWordHill$Muse" 180 yMu_isHeard ∈ hz_wt := hz_in 1318 (by decide +kernel) (by decide +kernel)
theorem dMu_heardPrices_27 : decode cMu_heardPrices 27 = .ok (.ifCond .eq 27, 3) := by decide +kernel
theorem dMu_heardPrices_54 : decode cMu_heardPrices 54 = .ok (.iinc 4 1, 3) := by decide +kernel
theorem dMu_heardPrices_57 : decode cMu_heardPrices 57 = .ok (.goto (-52), 3) := by decide +kernel
theorem dMu_heardPrices_30 : decode cMu_heardPrices 30 = .ok (.iload_n 3, 1) := by decide +kernel
theorem dMu_heardPrices_31 : decode cMu_heardPrices 31 = .ok (.iload_n 2, 1) := by decide +kernel
theorem dMu_heardPrices_32 : decode cMu_heardPrices 32 = .ok (.ifCond .eq 19, 3) := by decide +kernel
theorem dMu_heardPrices_52 : decode cMu_heardPrices 52 = .ok (.iadd, 1) := by decide +kernel
theorem dMu_heardPrices_53 : decode cMu_heardPrices 53 = .ok (.istore_n 3, 1) := by decide +kernel
theorem dMu_heardPrices_51 : decode cMu_heardPrices 51 = .ok (.iconst 1, 1) := by decide +kernel
theorem dMu_heardPrices_35 : decode cMu_heardPrices 35 = .ok (.aload_n 0, 1) := by decide +kernel
theorem dMu_heardPrices_36 : decode cMu_heardPrices 36 = .ok (.getfield 28, 3) := by decide +kernel
theorem dMu_heardPrices_39 : decode cMu_heardPrices 39 = .ok (.getfield 177, 3) := by decide +kernel
theorem dMu_heardPrices_42 : decode cMu_heardPrices 42 = .ok (.iload 4, 2) := by decide +kernel
theorem dMu_heardPrices_44 : decode cMu_heardPrices 44 = .ok (.iconst 0, 1) := by decide +kernel
theorem dMu_heardPrices_45 : decode cMu_heardPrices 45 = .ok (.invokevirtual 77, 3) := by decide +kernel
theorem dMu_heardPrices_48 : decode cMu_heardPrices 48 = .ok (.goto 4, 3) := by decide +kernel
def fMu_heardPrices (v1 : Int32) (v2 : Int32) (s0 : Sg) : Option (Int32 × Sg) := lp FU (fun q5 (u5 : Int32 × Int32) (s1 : Sg) => if (s1 59 3) ≤ u5.2 then (some (u5.1, s1)) else (bi (fMu_isHeard u5.2 v1 s1) fun r3 s2 => bnd (fun (a54_3 : Int32) (s4 : Sg) => q5 (a54_3, (u5.2 + 1)) s4) fun j54 => if r3 = 0 then (j54 u5.1 s2) else (bnd (fun (b52_0 : Int32) (s5 : Sg) => j54 (u5.1 + b52_0) s5) fun j52 => if v2 = 0 then (j52 1 s2) else (bi (fTa_tell 59 u5.2 0 s2) fun r7 s6 => j52 r7 s6)))) (0, 0) s0
set_option maxHeartbeats 4000000 in
set_option maxRecDepth 100000 in
theorem okMu_heardPrices (v1 : Int32) (v2 : Int32) (s0 : Sg) : ∀ (l : Launch) (w : WC), Ok l w yMu_heardPrices cMu_heardPrices 5 (some .int) 4 evI [.ref (w.ad 66), .int v1, .int v2] s0 (fMu_heardPrices v1 v2 s0) := by
  refine ok_in (ev := fun _ => evI) (av := fun w => [.ref (w.ad 66), .int v1, .int v2]) "LastWordHill$Muse" rfl (by decide +kernel) (fun _ => rfl) (fun _ => Nat.le_of_ble_eq_true rfl) ?_
  intro C X E
  show GF C evI 0 [some (.ref (C.w.ad 66)), some (.int v1), some (.int v2), none, none] [] s0 (fMu_heardPrices v1 v2 s0)
  unfold fMu_heardPrices
  refine g_iconst X 0 dMu_heardPrices_0 (by decide) ?_
  refine g_istore_n X [some (.ref (C.w.ad 66)), some (.int v1), some (.int v2), some (.int 0), none] dMu_heardPrices_1 (by decide) (Nat.le_of_ble_eq_true rfl) rfl ?_
  refine g_iconst X 0 dMu_heardPrices_2 (by decide) ?_
  refine g_istore X [some (.ref (C.w.ad 66)), some (.int v1), some (.int v2), some (.int 0), some (.int 0)] dMu_heardPrices_3 (by decide) (Nat.le_of_ble_eq_true rfl) rfl ?_
  refine gf_sub (L' := [some (.ref (C.w.ad 66)), some (.int v1), some (.int v2), some (.int 0), some (.int 0)]) ?_ (by simp [lsub])
  refine gf_lp (Lf := fun (u5 : Int32 × Int32) => [some (.ref (C.w.ad 66)), some (.int v1), some (.int v2), some (.int u5.1), some (.int u5.2)]) (fun q5 hq5 u5 s1 => ?_) FU (0, 0) s0
  refine g_iload X dMu_heardPrices_5 rfl ?_
  refine g_aload_n X dMu_heardPrices_7 rfl ?_
  refine g_getN X fl_Mu_28 fb_2_1 k_66 r_66_1 dMu_heardPrices_8 ?_
  refine g_getN X fl_Mu_177 fb_10_5 k_48 r_48_5 dMu_heardPrices_11 ?_
  refine g_getI X fl_Mu_72 fb_7_3 k_59 dMu_heardPrices_14 ?_
  refine g_cge X (tgt := 60) dMu_heardPrices_17 (by decide) ?_ ?_
  · refine g_iload_n X dMu_heardPrices_60 rfl ?_
    exact g_iret X E dMu_heardPrices_61
  · refine g_aload_n X dMu_heardPrices_20 rfl ?_
    refine g_iload X dMu_heardPrices_21 rfl ?_
    refine g_iload_n X dMu_heardPrices_23 rfl ?_
    refine g_virtI X [.int u5.2, .int v1] [] k_66 mm_Mu_isHeard mv_Mu_isHeard ml_Mu_180 (okMu_isHeard u5.2 v1 s1 C.l C.w) rfl (by decide) rfl (Nat.le_of_ble_eq_true rfl) dMu_heardPrices_24 (fun r3 s2 => ?_)
    refine gf_jn (fun j54 => ∀ (a54_3 : Int32) (s4 : Sg), GF C evI 54 [some (.ref (C.w.ad 66)), some (.int v1), some (.int v2), some (.int a54_3), some (.int u5.2)] [] s4 (j54 a54_3 s4)) ?_ ?_
    · intro a54_3 s4
      refine g_iinc X (u5.2 + 1) [some (.ref (C.w.ad 66)), some (.int v1), some (.int v2), some (.int a54_3), some (.int (u5.2 + 1))] dMu_heardPrices_54 rfl rfl (by decide) rfl ?_
      refine g_goto X 5 dMu_heardPrices_57 (by decide) ?_
      exact gf_sub (hq5 (a54_3, (u5.2 + 1)) s4) (by simp [lsub])
    · intro j54 hj54
      refine g_zeq X (tgt := 54) dMu_heardPrices_27 (by decide) ?_ ?_
      · exact gf_sub (hj54 u5.1 s2) (by simp [lsub])
      · refine g_iload_n X dMu_heardPrices_30 rfl ?_
        refine g_iload_n X dMu_heardPrices_31 rfl ?_
        refine gf_jn (fun j52 => ∀ (b52_0 : Int32) (s5 : Sg), GF C evI 52 [some (.ref (C.w.ad 66)), some (.int v1), some (.int v2), none, some (.int u5.2)] [.int b52_0, .int u5.1] s5 (j52 b52_0 s5)) ?_ ?_
        · intro b52_0 s5
          refine g_iadd X dMu_heardPrices_52 ?_
          refine g_istore_n X [some (.ref (C.w.ad 66)), some (.int v1), some (.int v2), some (.int (u5.1 + b52_0)), some (.int u5.2)] dMu_heardPrices_53 (by decide) (Nat.le_of_ble_eq_true rfl) rfl ?_
          exact gf_sub (hj54 (u5.1 + b52_0) s5) (by simp [lsub])
        · intro j52 hj52
          refine g_zeq X (tgt := 51) dMu_heardPrices_32 (by decide) ?_ ?_
          · refine g_iconst X 1 dMu_heardPrices_51 (by decide) ?_
            exact gf_sub (hj52 1 s2) (by simp [lsub])
          · refine g_aload_n X dMu_heardPrices_35 rfl ?_
            refine g_getN X fl_Mu_28 fb_2_1 k_66 r_66_1 dMu_heardPrices_36 ?_
            refine g_getN X fl_Mu_177 fb_10_5 k_48 r_48_5 dMu_heardPrices_39 ?_
            refine g_iload X dMu_heardPrices_42 rfl ?_
            refine g_iconst X 0 dMu_heardPrices_44 (by decide) ?_
            refine g_virtI X [.int u5.2, .int 0] [.int u5.1] k_59 mm_Ta_tell mv_Ta_tell ml_Mu_77 (okTa_tell 59 u5.2 0 s2 k_59 C.l C.w) rfl (by decide) rfl (Nat.le_of_ble_eq_true rfl) dMu_heardPrices_45 (fun r7 s6 => ?_)
            refine g_goto X 52 dMu_heardPrices_48 (by decide) ?_
            exact gf_sub (hj52 r7 s6) (by simp [lsub])
def yRe_readPlainLine : MethodName := ⟨"LastWordHill$Reader", "readPlainLine", "(II)Z"⟩
abbrev cRe_readPlainLine : ByteArray := prog_6_method_5_code
theorem dRe_readPlainLine_0 : decode cRe_readPlainLine 0 = .ok (.iload_n 1, 1) := by decide +kernel
theorem dRe_readPlainLine_1 : decode cRe_readPlainLine 1 = .ok (.lookupswitch 38 #[(1, 27), (2, 33)], 27) := by decide +kernel
theorem dRe_readPlainLine_39 : decode cRe_readPlainLine 39 = .ok (.aload_n 0, 1) := by decide +kernel
theorem dRe_readPlainLine_40 : decode cRe_readPlainLine 40 = .ok (.invokevirtual 90, 3) := by decide +kernel
theorem mm_Re_readSuit : MMc yRe_readSuit cRe_readSuit 3 (some .boolean) 0 := ⟨hz_in 1063 (by decide +kernel) (by decide +kernel), hz_in 141 (by decide +kernel) (by decide +kernel), by decide +kernel, by decide⟩
theorem mv_Re_readSuit : MMv yRe_readSuit 4 := ⟨hz_in 1062 (by decide +kernel) (by decide +kernel), hz_in 31 (by decide +kernel) (by decide +kernel), _, _, rfl, by decide⟩
theorem ml_Re_90 : Cond.methodLink "LastWordHill$Reader" 90 yRe_readSuit ∈ hz_wt := hz_in 1060 (by decide +kernel) (by decide +kernel)
theorem dRe_readPlainLine_43 : decode cRe_readPlainLine 43 = .ok (.ireturn, 1) := by decide +kernel
theorem dRe_readPlainLine_34 : decode cRe_readPlainLine 34 = .ok (.aload_n 0, 1) := by decide +kernel
theorem dRe_readPlainLine_35 : decode cRe_readPlainLine 35 = .ok (.invokevirtual 87, 3) := by decide +kernel
theorem mm_Re_readSun : MMc yRe_readSun cRe_readSun 2 (some .boolean) 0 := ⟨hz_in 1059 (by decide +kernel) (by decide +kernel), hz_in 141 (by decide +kernel) (by decide +kernel), by decide +kernel, by decide⟩
theorem mv_Re_readSun : MMv yRe_readSun 4 := ⟨hz_in 1058 (by decide +kernel) (by decide +kernel), hz_in 30 (by decide +kernel) (by decide +kernel), _, _, rfl, by decide⟩
theorem ml_Re_87 : Cond.methodLink "LastWordHill$Reader" 87 yRe_readSun ∈ hz_wt := hz_in 1056 (by decide +kernel) (by decide +kernel)
theorem dRe_readPlainLine_38 : decode cRe_readPlainLine 38 = .ok (.ireturn, 1) := by decide +kernel
theorem dRe_readPlainLine_28 : decode cRe_readPlainLine 28 = .ok (.aload_n 0, 1) := by decide +kernel
theorem dRe_readPlainLine_29 : decode cRe_readPlainLine 29 = .ok (.iload_n 2, 1) := by decide +kernel
theorem dRe_readPlainLine_30 : decode cRe_readPlainLine 30 = .ok (.invokevirtual 84, 3) := by decide +kernel
theorem mm_Re_readClimb : MMc yRe_readClimb cRe_readClimb 5 (some .boolean) 1 := ⟨hz_in 1047 (by decide +kernel) (by decide +kernel), hz_in 141 (by decide +kernel) (by decide +kernel), by decide +kernel, by decide⟩
theorem mv_Re_readClimb : MMv yRe_readClimb 4 := ⟨hz_in 1046 (by decide +kernel) (by decide +kernel), hz_in 27 (by decide +kernel) (by decide +kernel), _, _, rfl, by decide⟩
theorem ml_Re_84 : Cond.methodLink "LastWordHill$Reader" 84 yRe_readClimb ∈ hz_wt := hz_in 1044 (by decide +kernel) (by decide +kernel)
theorem dRe_readPlainLine_33 : decode cRe_readPlainLine 33 = .ok (.ireturn, 1) := by decide +kernel
def fRe_readPlainLine (v1 : Int32) (v2 : Int32) (s0 : Sg) : Option (Int32 × Sg) := if v1 = 1 then (bi (fRe_readClimb v2 s0) fun r6 s5 => gb r6 (some (r6, s5))) else (if v1 = 2 then (bi (fRe_readSun s0) fun r4 s3 => gb r4 (some (r4, s3))) else (bi (fRe_readSuit s0) fun r2 s1 => gb r2 (some (r2, s1))))
set_option maxHeartbeats 4000000 in
set_option maxRecDepth 100000 in
theorem okRe_readPlainLine (v1 : Int32) (v2 : Int32) (s0 : Sg) : ∀ (l : Launch) (w : WC), Ok l w yRe_readPlainLine cRe_readPlainLine 3 (some .boolean) 5 evI [.ref (w.ad 30), .int v1, .int v2] s0 (fRe_readPlainLine v1 v2 s0) := by
  refine ok_in (ev := fun _ => evI) (av := fun w => [.ref (w.ad 30), .int v1, .int v2]) "LastWordHill$Reader" rfl (by decide +kernel) (fun _ => rfl) (fun _ => Nat.le_of_ble_eq_true rfl) ?_
  intro C X E
  show GF C evI 0 [some (.ref (C.w.ad 30)), some (.int v1), some (.int v2)] [] s0 (fRe_readPlainLine v1 v2 s0)
  unfold fRe_readPlainLine
  refine g_iload_n X dRe_readPlainLine_0 rfl ?_
  refine gf_ite (fun c1_0 => ?_) (fun c1_0 => ?_)
  · refine g_look X (tgt := 28) (off := 27) dRe_readPlainLine_1 (by decide) (by rw [c1_0]; decide) (by decide) ?_
    refine g_aload_n X dRe_readPlainLine_28 rfl ?_
    refine g_iload_n X dRe_readPlainLine_29 rfl ?_
    refine g_virtI X [.int v2] [] k_30 mm_Re_readClimb mv_Re_readClimb ml_Re_84 (okRe_readClimb v2 s0 C.l C.w) rfl (by decide) rfl (Nat.le_of_ble_eq_true rfl) dRe_readPlainLine_30 (fun r6 s5 => ?_)
    exact g_zret X E dRe_readPlainLine_33
  · refine gf_ite (fun c1_1 => ?_) (fun c1_1 => ?_)
    · refine g_look X (tgt := 34) (off := 33) dRe_readPlainLine_1 (by decide) (by rw [c1_1]; decide) (by decide) ?_
      refine g_aload_n X dRe_readPlainLine_34 rfl ?_
      refine g_virtI X [] [] k_30 mm_Re_readSun mv_Re_readSun ml_Re_87 (okRe_readSun s0 C.l C.w) rfl (by decide) rfl (Nat.le_of_ble_eq_true rfl) dRe_readPlainLine_35 (fun r4 s3 => ?_)
      exact g_zret X E dRe_readPlainLine_38
    · refine g_look X (tgt := 39) (off := 38) dRe_readPlainLine_1 (by decide) (by rw [lv_osw c1_0 (by decide)]; rw [lv_osw c1_1 (by decide)]; rfl) (by decide) ?_
      refine g_aload_n X dRe_readPlainLine_39 rfl ?_
      refine g_virtI X [] [] k_30 mm_Re_readSuit mv_Re_readSuit ml_Re_90 (okRe_readSuit s0 C.l C.w) rfl (by decide) rfl (Nat.le_of_ble_eq_true rfl) dRe_readPlainLine_40 (fun r2 s1 => ?_)
      exact g_zret X E dRe_readPlainLine_43
def yRe_readCondition : MethodName := ⟨"LastWordHill$Reader", "readCondition", "()Z"⟩
abbrev cRe_readCondition : ByteArray := prog_6_method_14_code
theorem dRe_readCondition_0 : decode cRe_readCondition 0 = .ok (.aload_n 0, 1) := by decide +kernel
theorem dRe_readCondition_1 : decode cRe_readCondition 1 = .ok (.iconst 0, 1) := by decide +kernel
theorem dRe_readCondition_2 : decode cRe_readCondition 2 = .ok (.putfield 149, 3) := by decide +kernel
theorem dRe_readCondition_5 : decode cRe_readCondition 5 = .ok (.aload_n 0, 1) := by decide +kernel
theorem dRe_readCondition_6 : decode cRe_readCondition 6 = .ok (.iconst 0, 1) := by decide +kernel
theorem dRe_readCondition_7 : decode cRe_readCondition 7 = .ok (.putfield 152, 3) := by decide +kernel
theorem dRe_readCondition_10 : decode cRe_readCondition 10 = .ok (.iconst 1, 1) := by decide +kernel
theorem dRe_readCondition_11 : decode cRe_readCondition 11 = .ok (.istore_n 1, 1) := by decide +kernel
theorem dRe_readCondition_12 : decode cRe_readCondition 12 = .ok (.iconst 0, 1) := by decide +kernel
theorem dRe_readCondition_13 : decode cRe_readCondition 13 = .ok (.istore_n 2, 1) := by decide +kernel
theorem dRe_readCondition_14 : decode cRe_readCondition 14 = .ok (.iload_n 2, 1) := by decide +kernel
theorem dRe_readCondition_15 : decode cRe_readCondition 15 = .ok (.sipush 400, 3) := by decide +kernel
theorem dRe_readCondition_18 : decode cRe_readCondition 18 = .ok (.if_icmp .ge 162, 3) := by decide +kernel
theorem dRe_readCondition_180 : decode cRe_readCondition 180 = .ok (.aload_n 0, 1) := by decide +kernel
theorem dRe_readCondition_181 : decode cRe_readCondition 181 = .ok (.sipush 260, 3) := by decide +kernel
theorem dRe_readCondition_184 : decode cRe_readCondition 184 = .ok (.invokevirtual 164, 3) := by decide +kernel
theorem dRe_readCondition_187 : decode cRe_readCondition 187 = .ok (.aload_n 0, 1) := by decide +kernel
theorem dRe_readCondition_188 : decode cRe_readCondition 188 = .ok (.getfield 149, 3) := by decide +kernel
theorem dRe_readCondition_191 : decode cRe_readCondition 191 = .ok (.ifCond .eq 11, 3) := by decide +kernel
theorem dRe_readCondition_202 : decode cRe_readCondition 202 = .ok (.iconst 1, 1) := by decide +kernel
theorem dRe_readCondition_203 : decode cRe_readCondition 203 = .ok (.goto 4, 3) := by decide +kernel
theorem dRe_readCondition_207 : decode cRe_readCondition 207 = .ok (.ireturn, 1) := by decide +kernel
theorem dRe_readCondition_194 : decode cRe_readCondition 194 = .ok (.aload_n 0, 1) := by decide +kernel
theorem dRe_readCondition_195 : decode cRe_readCondition 195 = .ok (.iconst 1, 1) := by decide +kernel
theorem dRe_readCondition_196 : decode cRe_readCondition 196 = .ok (.invokevirtual 81, 3) := by decide +kernel
theorem dRe_readCondition_199 : decode cRe_readCondition 199 = .ok (.ifCond .eq 7, 3) := by decide +kernel
theorem dRe_readCondition_206 : decode cRe_readCondition 206 = .ok (.iconst 0, 1) := by decide +kernel
theorem dRe_readCondition_21 : decode cRe_readCondition 21 = .ok (.iload_n 1, 1) := by decide +kernel
theorem dRe_readCondition_22 : decode cRe_readCondition 22 = .ok (.ifCond .eq 158, 3) := by decide +kernel
theorem dRe_readCondition_25 : decode cRe_readCondition 25 = .ok (.aload_n 0, 1) := by decide +kernel
theorem dRe_readCondition_26 : decode cRe_readCondition 26 = .ok (.getfield 14, 3) := by decide +kernel
theorem dRe_readCondition_29 : decode cRe_readCondition 29 = .ok (.getfield 52, 3) := by decide +kernel
theorem dRe_readCondition_32 : decode cRe_readCondition 32 = .ok (.sipush 262, 3) := by decide +kernel
theorem dRe_readCondition_35 : decode cRe_readCondition 35 = .ok (.if_icmp .eq 15, 3) := by decide +kernel
theorem dRe_readCondition_50 : decode cRe_readCondition 50 = .ok (.aload_n 0, 1) := by decide +kernel
theorem dRe_readCondition_51 : decode cRe_readCondition 51 = .ok (.getfield 152, 3) := by decide +kernel
theorem dRe_readCondition_54 : decode cRe_readCondition 54 = .ok (.bipush 8, 2) := by decide +kernel
theorem dRe_readCondition_56 : decode cRe_readCondition 56 = .ok (.if_icmp .lt 9, 3) := by decide +kernel
theorem dRe_readCondition_65 : decode cRe_readCondition 65 = .ok (.aload_n 0, 1) := by decide +kernel
theorem dRe_readCondition_66 : decode cRe_readCondition 66 = .ok (.dup, 1) := by decide +kernel
theorem dRe_readCondition_67 : decode cRe_readCondition 67 = .ok (.getfield 152, 3) := by decide +kernel
theorem dRe_readCondition_70 : decode cRe_readCondition 70 = .ok (.iconst 1, 1) := by decide +kernel
theorem dRe_readCondition_71 : decode cRe_readCondition 71 = .ok (.iadd, 1) := by decide +kernel
theorem dRe_readCondition_72 : decode cRe_readCondition 72 = .ok (.putfield 152, 3) := by decide +kernel
theorem dRe_readCondition_75 : decode cRe_readCondition 75 = .ok (.aload_n 0, 1) := by decide +kernel
theorem dRe_readCondition_76 : decode cRe_readCondition 76 = .ok (.aload_n 0, 1) := by decide +kernel
theorem dRe_readCondition_77 : decode cRe_readCondition 77 = .ok (.getfield 14, 3) := by decide +kernel
theorem dRe_readCondition_80 : decode cRe_readCondition 80 = .ok (.getfield 52, 3) := by decide +kernel
theorem dRe_readCondition_83 : decode cRe_readCondition 83 = .ok (.invokevirtual 155, 3) := by decide +kernel
theorem dRe_readCondition_86 : decode cRe_readCondition 86 = .ok (.goto (-61), 3) := by decide +kernel
theorem dRe_readCondition_59 : decode cRe_readCondition 59 = .ok (.aload_n 0, 1) := by decide +kernel
theorem dRe_readCondition_60 : decode cRe_readCondition 60 = .ok (.iconst 3, 1) := by decide +kernel
theorem dRe_readCondition_61 : decode cRe_readCondition 61 = .ok (.invokevirtual 81, 3) := by decide +kernel
theorem dRe_readCondition_64 : decode cRe_readCondition 64 = .ok (.ireturn, 1) := by decide +kernel
theorem dRe_readCondition_38 : decode cRe_readCondition 38 = .ok (.aload_n 0, 1) := by decide +kernel
theorem dRe_readCondition_39 : decode cRe_readCondition 39 = .ok (.getfield 14, 3) := by decide +kernel
theorem dRe_readCondition_42 : decode cRe_readCondition 42 = .ok (.getfield 52, 3) := by decide +kernel
theorem dRe_readCondition_45 : decode cRe_readCondition 45 = .ok (.bipush 40, 2) := by decide +kernel
theorem dRe_readCondition_47 : decode cRe_readCondition 47 = .ok (.if_icmp .ne 42, 3) := by decide +kernel
theorem dRe_readCondition_89 : decode cRe_readCondition 89 = .ok (.aload_n 0, 1) := by decide +kernel
theorem dRe_readCondition_90 : decode cRe_readCondition 90 = .ok (.invokevirtual 140, 3) := by decide +kernel
theorem mm_Re_readSum : MMc yRe_readSum cRe_readSum 5 (some .boolean) 0 := ⟨hz_in 995 (by decide +kernel) (by decide +kernel), hz_in 141 (by decide +kernel) (by decide +kernel), by decide +kernel, by decide⟩
theorem mv_Re_readSum : MMv yRe_readSum 4 := ⟨hz_in 994 (by decide +kernel) (by decide +kernel), hz_in 16 (by decide +kernel) (by decide +kernel), _, _, rfl, by decide⟩
theorem ml_Re_140 : Cond.methodLink "LastWordHill$Reader" 140 yRe_readSum ∈ hz_wt := hz_in 992 (by decide +kernel) (by decide +kernel)
theorem dRe_readCondition_93 : decode cRe_readCondition 93 = .ok (.ifCond .eq 17, 3) := by decide +kernel
theorem dRe_readCondition_110 : decode cRe_readCondition 110 = .ok (.iconst 0, 1) := by decide +kernel
theorem dRe_readCondition_111 : decode cRe_readCondition 111 = .ok (.ireturn, 1) := by decide +kernel
theorem dRe_readCondition_96 : decode cRe_readCondition 96 = .ok (.aload_n 0, 1) := by decide +kernel
theorem dRe_readCondition_97 : decode cRe_readCondition 97 = .ok (.invokevirtual 158, 3) := by decide +kernel
theorem mm_Re_readComparison : MMc yRe_readComparison cRe_readComparison 1 (some .boolean) 0 := ⟨hz_in 1023 (by decide +kernel) (by decide +kernel), hz_in 141 (by decide +kernel) (by decide +kernel), by decide +kernel, by decide⟩
theorem mv_Re_readComparison : MMv yRe_readComparison 4 := ⟨hz_in 1022 (by decide +kernel) (by decide +kernel), hz_in 22 (by decide +kernel) (by decide +kernel), _, _, rfl, by decide⟩
theorem ml_Re_158 : Cond.methodLink "LastWordHill$Reader" 158 yRe_readComparison ∈ hz_wt := hz_in 1020 (by decide +kernel) (by decide +kernel)
theorem dRe_readCondition_100 : decode cRe_readCondition 100 = .ok (.ifCond .eq 10, 3) := by decide +kernel
theorem dRe_readCondition_103 : decode cRe_readCondition 103 = .ok (.aload_n 0, 1) := by decide +kernel
theorem dRe_readCondition_104 : decode cRe_readCondition 104 = .ok (.invokevirtual 140, 3) := by decide +kernel
theorem dRe_readCondition_107 : decode cRe_readCondition 107 = .ok (.ifCond .ne 5, 3) := by decide +kernel
theorem dRe_readCondition_112 : decode cRe_readCondition 112 = .ok (.aload_n 0, 1) := by decide +kernel
theorem dRe_readCondition_113 : decode cRe_readCondition 113 = .ok (.invokevirtual 161, 3) := by decide +kernel
theorem mm_Re_closeBrackets : MMc yRe_closeBrackets cRe_closeBrackets 1 none 0 := ⟨hz_in 1027 (by decide +kernel) (by decide +kernel), hz_in 141 (by decide +kernel) (by decide +kernel), by decide +kernel, by decide⟩
theorem mv_Re_closeBrackets : MMv yRe_closeBrackets 4 := ⟨hz_in 1026 (by decide +kernel) (by decide +kernel), hz_in 23 (by decide +kernel) (by decide +kernel), _, _, rfl, by decide⟩
theorem ml_Re_161 : Cond.methodLink "LastWordHill$Reader" 161 yRe_closeBrackets ∈ hz_wt := hz_in 1024 (by decide +kernel) (by decide +kernel)
theorem dRe_readCondition_116 : decode cRe_readCondition 116 = .ok (.aload_n 0, 1) := by decide +kernel
theorem dRe_readCondition_117 : decode cRe_readCondition 117 = .ok (.getfield 14, 3) := by decide +kernel
theorem dRe_readCondition_120 : decode cRe_readCondition 120 = .ok (.getfield 52, 3) := by decide +kernel
theorem dRe_readCondition_123 : decode cRe_readCondition 123 = .ok (.sipush 261, 3) := by decide +kernel
theorem dRe_readCondition_126 : decode cRe_readCondition 126 = .ok (.if_icmp .eq 16, 3) := by decide +kernel
theorem dRe_readCondition_147 : decode cRe_readCondition 147 = .ok (.istore_n 1, 1) := by decide +kernel
theorem dRe_readCondition_148 : decode cRe_readCondition 148 = .ok (.iload_n 1, 1) := by decide +kernel
theorem dRe_readCondition_149 : decode cRe_readCondition 149 = .ok (.ifCond .eq 25, 3) := by decide +kernel
theorem dRe_readCondition_174 : decode cRe_readCondition 174 = .ok (.iinc 2 1, 3) := by decide +kernel
theorem dRe_readCondition_177 : decode cRe_readCondition 177 = .ok (.goto (-163), 3) := by decide +kernel
theorem dRe_readCondition_152 : decode cRe_readCondition 152 = .ok (.aload_n 0, 1) := by decide +kernel
theorem dRe_readCondition_153 : decode cRe_readCondition 153 = .ok (.aload_n 0, 1) := by decide +kernel
theorem dRe_readCondition_154 : decode cRe_readCondition 154 = .ok (.getfield 14, 3) := by decide +kernel
theorem dRe_readCondition_157 : decode cRe_readCondition 157 = .ok (.getfield 52, 3) := by decide +kernel
theorem dRe_readCondition_160 : decode cRe_readCondition 160 = .ok (.invokevirtual 164, 3) := by decide +kernel
theorem dRe_readCondition_163 : decode cRe_readCondition 163 = .ok (.aload_n 0, 1) := by decide +kernel
theorem dRe_readCondition_164 : decode cRe_readCondition 164 = .ok (.aload_n 0, 1) := by decide +kernel
theorem dRe_readCondition_165 : decode cRe_readCondition 165 = .ok (.getfield 14, 3) := by decide +kernel
theorem dRe_readCondition_168 : decode cRe_readCondition 168 = .ok (.getfield 52, 3) := by decide +kernel
theorem dRe_readCondition_171 : decode cRe_readCondition 171 = .ok (.invokevirtual 155, 3) := by decide +kernel
theorem dRe_readCondition_142 : decode cRe_readCondition 142 = .ok (.iconst 1, 1) := by decide +kernel
theorem dRe_readCondition_143 : decode cRe_readCondition 143 = .ok (.goto 4, 3) := by decide +kernel
theorem dRe_readCondition_129 : decode cRe_readCondition 129 = .ok (.aload_n 0, 1) := by decide +kernel
theorem dRe_readCondition_130 : decode cRe_readCondition 130 = .ok (.getfield 14, 3) := by decide +kernel
theorem dRe_readCondition_133 : decode cRe_readCondition 133 = .ok (.getfield 52, 3) := by decide +kernel
theorem dRe_readCondition_136 : decode cRe_readCondition 136 = .ok (.sipush 260, 3) := by decide +kernel
theorem dRe_readCondition_139 : decode cRe_readCondition 139 = .ok (.if_icmp .ne 7, 3) := by decide +kernel
theorem dRe_readCondition_146 : decode cRe_readCondition 146 = .ok (.iconst 0, 1) := by decide +kernel
def fRe_readCondition (s0 : Sg) : Option (Int32 × Sg) := bnd (pt s0 30 6 0) fun s1 => bnd (pt s1 30 7 0) fun s2 => lp FU (fun q14 (u14 : Int32 × Int32) (s3 : Sg) => bnd (fun (s4 : Sg) => bv (fRe_release 260 s4) fun s5 => bnd (fun (s6 : Sg) => gb 1 (some (1, s6))) fun j202 => if (s5 30 6) = 0 then (j202 s5) else (bi (fRe_wrong 1 s5) fun r8 s7 => if r8 = 0 then (gb 0 (some (0, s7))) else (j202 s7))) fun j180 => if 400 ≤ u14.2 then (j180 s3) else (if u14.1 = 0 then (j180 s3) else (lp FU (fun q25 (u25 : Unit) (s9 : Sg) => bnd (fun (s10 : Sg) => if (s10 30 7) < 8 then (bnd (pt s10 30 7 ((s10 30 7) + 1)) fun s11 => bv (fRe_await (s11 31 7) s11) fun s12 => q25 () s12) else (bi (fRe_wrong 3 s10) fun r14 s13 => gb r14 (some (r14, s13)))) fun j50 => if (s9 31 7) = 262 then (j50 s9) else (if (s9 31 7) = 40 then (j50 s9) else (bi (fRe_readSum s9) fun r16 s15 => if r16 = 0 then (gb 0 (some (0, s15))) else (bi (fRe_readComparison s15) fun r18 s17 => if r18 = 0 then (gb 0 (some (0, s17))) else (bi (fRe_readSum s17) fun r20 s19 => if r20 = 0 then (gb 0 (some (0, s19))) else (bv (fRe_closeBrackets s19) fun s21 => bnd (fun (b147_0 : Int32) (s22 : Sg) => bnd (fun (s23 : Sg) => q14 (b147_0, (u14.2 + 1)) s23) fun j174 => if b147_0 = 0 then (j174 s22) else (bv (fRe_release (s22 31 7) s22) fun s24 => bv (fRe_await (s24 31 7) s24) fun s25 => j174 s25)) fun j147 => bnd (fun (s26 : Sg) => j147 1 s26) fun j142 => if (s21 31 7) = 261 then (j142 s21) else (if (s21 31 7) = 260 then (j142 s21) else (j147 0 s21)))))))) () s3))) (1, 0) s2
set_option maxHeartbeats 4000000 in
set_option maxRecDepth 100000 in
theorem okRe_readCondition (s0 : Sg) : ∀ (l : Launch) (w : WC), Ok l w yRe_readCondition cRe_readCondition 3 (some .boolean) 4 evI [.ref (w.ad 30)] s0 (fRe_readCondition s0) := by
  refine ok_in (ev := fun _ => evI) (av := fun w => [.ref (w.ad 30)]) "LastWordHill$Reader" rfl (by decide +kernel) (fun _ => rfl) (fun _ => Nat.le_of_ble_eq_true rfl) ?_
  intro C X E
  show GF C evI 0 [some (.ref (C.w.ad 30)), none, none] [] s0 (fRe_readCondition s0)
  unfold fRe_readCondition
  refine g_aload_n X dRe_readCondition_0 rfl ?_
  refine g_iconst X 0 dRe_readCondition_1 (by decide) ?_
  refine g_putI X fl_Re_149 fb_4_6 fp_4_6 k_30 dRe_readCondition_2 (fun s1 => ?_)
  refine g_aload_n X dRe_readCondition_5 rfl ?_
  refine g_iconst X 0 dRe_readCondition_6 (by decide) ?_
  refine g_putI X fl_Re_152 fb_4_7 fp_4_7 k_30 dRe_readCondition_7 (fun s2 => ?_)
  refine g_iconst X 1 dRe_readCondition_10 (by decide) ?_
  refine g_istore_n X [some (.ref (C.w.ad 30)), some (.int 1), none] dRe_readCondition_11 (by decide) (Nat.le_of_ble_eq_true rfl) rfl ?_
  refine g_iconst X 0 dRe_readCondition_12 (by decide) ?_
  refine g_istore_n X [some (.ref (C.w.ad 30)), some (.int 1), some (.int 0)] dRe_readCondition_13 (by decide) (Nat.le_of_ble_eq_true rfl) rfl ?_
  refine gf_sub (L' := [some (.ref (C.w.ad 30)), some (.int 1), some (.int 0)]) ?_ (by simp [lsub])
  refine gf_lp (Lf := fun (u14 : Int32 × Int32) => [some (.ref (C.w.ad 30)), some (.int u14.1), some (.int u14.2)]) (fun q14 hq14 u14 s3 => ?_) FU (1, 0) s2
  refine g_iload_n X dRe_readCondition_14 rfl ?_
  refine g_sipush X 400 dRe_readCondition_15 (by decide) ?_
  refine gf_jn (fun j180 => ∀ (s4 : Sg), GF C evI 180 [some (.ref (C.w.ad 30)), none, none] [] s4 (j180 s4)) ?_ ?_
  · intro s4
    refine g_aload_n X dRe_readCondition_180 rfl ?_
    refine g_sipush X 260 dRe_readCondition_181 (by decide) ?_
    refine g_virtV X [.int 260] [] k_30 mm_Re_release mv_Re_release ml_Re_164 (okRe_release 260 s4 C.l C.w) rfl (by decide) rfl (Nat.le_of_ble_eq_true rfl) dRe_readCondition_184 (fun s5 => ?_)
    refine g_aload_n X dRe_readCondition_187 rfl ?_
    refine g_getI X fl_Re_149 fb_4_6 k_30 dRe_readCondition_188 ?_
    refine gf_jn (fun j202 => ∀ (s6 : Sg), GF C evI 202 [none, none, none] [] s6 (j202 s6)) ?_ ?_
    · intro s6
      refine g_iconst X 1 dRe_readCondition_202 (by decide) ?_
      refine g_goto X 207 dRe_readCondition_203 (by decide) ?_
      exact g_zret X E dRe_readCondition_207
    · intro j202 hj202
      refine g_zeq X (tgt := 202) dRe_readCondition_191 (by decide) ?_ ?_
      · exact gf_sub (hj202 s5) (by simp [lsub])
      · refine g_aload_n X dRe_readCondition_194 rfl ?_
        refine g_iconst X 1 dRe_readCondition_195 (by decide) ?_
        refine g_virtI X [.int 1] [] k_30 mm_Re_wrong mv_Re_wrong ml_Re_81 (okRe_wrong 1 s5 C.l C.w) rfl (by decide) rfl (Nat.le_of_ble_eq_true rfl) dRe_readCondition_196 (fun r8 s7 => ?_)
        refine g_zeq X (tgt := 206) dRe_readCondition_199 (by decide) ?_ ?_
        · refine g_iconst X 0 dRe_readCondition_206 (by decide) ?_
          exact g_zret X E dRe_readCondition_207
        · exact gf_sub (hj202 s7) (by simp [lsub])
  · intro j180 hj180
    refine g_cge X (tgt := 180) dRe_readCondition_18 (by decide) ?_ ?_
    · exact gf_sub (hj180 s3) (by simp [lsub])
    · refine g_iload_n X dRe_readCondition_21 rfl ?_
      refine g_zeq X (tgt := 180) dRe_readCondition_22 (by decide) ?_ ?_
      · exact gf_sub (hj180 s3) (by simp [lsub])
      · refine gf_sub (L' := [some (.ref (C.w.ad 30)), none, some (.int u14.2)]) ?_ (by simp [lsub])
        refine gf_lp (Lf := fun (u25 : Unit) => [some (.ref (C.w.ad 30)), none, some (.int u14.2)]) (fun q25 hq25 u25 s9 => ?_) FU () s3
        refine g_aload_n X dRe_readCondition_25 rfl ?_
        refine g_getN X fl_Re_14 fb_4_0 k_30 r_30_0 dRe_readCondition_26 ?_
        refine g_getI X fl_Re_52 fb_9_7 k_31 dRe_readCondition_29 ?_
        refine g_sipush X 262 dRe_readCondition_32 (by decide) ?_
        refine gf_jn (fun j50 => ∀ (s10 : Sg), GF C evI 50 [some (.ref (C.w.ad 30)), none, some (.int u14.2)] [] s10 (j50 s10)) ?_ ?_
        · intro s10
          refine g_aload_n X dRe_readCondition_50 rfl ?_
          refine g_getI X fl_Re_152 fb_4_7 k_30 dRe_readCondition_51 ?_
          refine g_bipush X 8 dRe_readCondition_54 (by decide) ?_
          refine g_clt X (tgt := 65) dRe_readCondition_56 (by decide) ?_ ?_
          · refine g_aload_n X dRe_readCondition_65 rfl ?_
            refine g_dup X dRe_readCondition_66 rfl ?_
            refine g_getI X fl_Re_152 fb_4_7 k_30 dRe_readCondition_67 ?_
            refine g_iconst X 1 dRe_readCondition_70 (by decide) ?_
            refine g_iadd X dRe_readCondition_71 ?_
            refine g_putI X fl_Re_152 fb_4_7 fp_4_7 k_30 dRe_readCondition_72 (fun s11 => ?_)
            refine g_aload_n X dRe_readCondition_75 rfl ?_
            refine g_aload_n X dRe_readCondition_76 rfl ?_
            refine g_getN X fl_Re_14 fb_4_0 k_30 r_30_0 dRe_readCondition_77 ?_
            refine g_getI X fl_Re_52 fb_9_7 k_31 dRe_readCondition_80 ?_
            refine g_virtV X [.int (s11 31 7)] [] k_30 mm_Re_await mv_Re_await ml_Re_155 (okRe_await (s11 31 7) s11 C.l C.w) rfl (by decide) rfl (Nat.le_of_ble_eq_true rfl) dRe_readCondition_83 (fun s12 => ?_)
            refine g_goto X 25 dRe_readCondition_86 (by decide) ?_
            exact gf_sub (hq25 () s12) (by simp [lsub])
          · refine g_aload_n X dRe_readCondition_59 rfl ?_
            refine g_iconst X 3 dRe_readCondition_60 (by decide) ?_
            refine g_virtI X [.int 3] [] k_30 mm_Re_wrong mv_Re_wrong ml_Re_81 (okRe_wrong 3 s10 C.l C.w) rfl (by decide) rfl (Nat.le_of_ble_eq_true rfl) dRe_readCondition_61 (fun r14 s13 => ?_)
            exact g_zret X E dRe_readCondition_64
        · intro j50 hj50
          refine g_ceq X (tgt := 50) dRe_readCondition_35 (by decide) ?_ ?_
          · exact gf_sub (hj50 s9) (by simp [lsub])
          · refine g_aload_n X dRe_readCondition_38 rfl ?_
            refine g_getN X fl_Re_14 fb_4_0 k_30 r_30_0 dRe_readCondition_39 ?_
            refine g_getI X fl_Re_52 fb_9_7 k_31 dRe_readCondition_42 ?_
            refine g_bipush X 40 dRe_readCondition_45 (by decide) ?_
            refine g_cne X (tgt := 89) dRe_readCondition_47 (by decide) ?_ ?_
            · exact gf_sub (hj50 s9) (by simp [lsub])
            · refine g_aload_n X dRe_readCondition_89 rfl ?_
              refine g_virtI X [] [] k_30 mm_Re_readSum mv_Re_readSum ml_Re_140 (okRe_readSum s9 C.l C.w) rfl (by decide) rfl (Nat.le_of_ble_eq_true rfl) dRe_readCondition_90 (fun r16 s15 => ?_)
              refine g_zeq X (tgt := 110) dRe_readCondition_93 (by decide) ?_ ?_
              · refine g_iconst X 0 dRe_readCondition_110 (by decide) ?_
                exact g_zret X E dRe_readCondition_111
              · refine g_aload_n X dRe_readCondition_96 rfl ?_
                refine g_virtI X [] [] k_30 mm_Re_readComparison mv_Re_readComparison ml_Re_158 (okRe_readComparison s15 C.l C.w) rfl (by decide) rfl (Nat.le_of_ble_eq_true rfl) dRe_readCondition_97 (fun r18 s17 => ?_)
                refine g_zeq X (tgt := 110) dRe_readCondition_100 (by decide) ?_ ?_
                · refine g_iconst X 0 dRe_readCondition_110 (by decide) ?_
                  exact g_zret X E dRe_readCondition_111
                · refine g_aload_n X dRe_readCondition_103 rfl ?_
                  refine g_virtI X [] [] k_30 mm_Re_readSum mv_Re_readSum ml_Re_140 (okRe_readSum s17 C.l C.w) rfl (by decide) rfl (Nat.le_of_ble_eq_true rfl) dRe_readCondition_104 (fun r20 s19 => ?_)
                  refine g_zne X (tgt := 112) dRe_readCondition_107 (by decide) ?_ ?_
                  · refine g_iconst X 0 dRe_readCondition_110 (by decide) ?_
                    exact g_zret X E dRe_readCondition_111
                  · refine g_aload_n X dRe_readCondition_112 rfl ?_
                    refine g_virtV X [] [] k_30 mm_Re_closeBrackets mv_Re_closeBrackets ml_Re_161 (okRe_closeBrackets s19 C.l C.w) rfl (by decide) rfl (Nat.le_of_ble_eq_true rfl) dRe_readCondition_113 (fun s21 => ?_)
                    refine g_aload_n X dRe_readCondition_116 rfl ?_
                    refine g_getN X fl_Re_14 fb_4_0 k_30 r_30_0 dRe_readCondition_117 ?_
                    refine g_getI X fl_Re_52 fb_9_7 k_31 dRe_readCondition_120 ?_
                    refine g_sipush X 261 dRe_readCondition_123 (by decide) ?_
                    refine gf_jn (fun j147 => ∀ (b147_0 : Int32) (s22 : Sg), GF C evI 147 [some (.ref (C.w.ad 30)), none, some (.int u14.2)] [.int b147_0] s22 (j147 b147_0 s22)) ?_ ?_
                    · intro b147_0 s22
                      refine g_istore_n X [some (.ref (C.w.ad 30)), some (.int b147_0), some (.int u14.2)] dRe_readCondition_147 (by decide) (Nat.le_of_ble_eq_true rfl) rfl ?_
                      refine g_iload_n X dRe_readCondition_148 rfl ?_
                      refine gf_jn (fun j174 => ∀ (s23 : Sg), GF C evI 174 [some (.ref (C.w.ad 30)), some (.int b147_0), some (.int u14.2)] [] s23 (j174 s23)) ?_ ?_
                      · intro s23
                        refine g_iinc X (u14.2 + 1) [some (.ref (C.w.ad 30)), some (.int b147_0), some (.int (u14.2 + 1))] dRe_readCondition_174 rfl rfl (by decide) rfl ?_
                        refine g_goto X 14 dRe_readCondition_177 (by decide) ?_
                        exact gf_sub (hq14 (b147_0, (u14.2 + 1)) s23) (by simp [lsub])
                      · intro j174 hj174
                        refine g_zeq X (tgt := 174) dRe_readCondition_149 (by decide) ?_ ?_
                        · exact gf_sub (hj174 s22) (by simp [lsub])
                        · refine g_aload_n X dRe_readCondition_152 rfl ?_
                          refine g_aload_n X dRe_readCondition_153 rfl ?_
                          refine g_getN X fl_Re_14 fb_4_0 k_30 r_30_0 dRe_readCondition_154 ?_
                          refine g_getI X fl_Re_52 fb_9_7 k_31 dRe_readCondition_157 ?_
                          refine g_virtV X [.int (s22 31 7)] [] k_30 mm_Re_release mv_Re_release ml_Re_164 (okRe_release (s22 31 7) s22 C.l C.w) rfl (by decide) rfl (Nat.le_of_ble_eq_true rfl) dRe_readCondition_160 (fun s24 => ?_)
                          refine g_aload_n X dRe_readCondition_163 rfl ?_
                          refine g_aload_n X dRe_readCondition_164 rfl ?_
                          refine g_getN X fl_Re_14 fb_4_0 k_30 r_30_0 dRe_readCondition_165 ?_
                          refine g_getI X fl_Re_52 fb_9_7 k_31 dRe_readCondition_168 ?_
                          refine g_virtV X [.int (s24 31 7)] [] k_30 mm_Re_await mv_Re_await ml_Re_155 (okRe_await (s24 31 7) s24 C.l C.w) rfl (by decide) rfl (Nat.le_of_ble_eq_true rfl) dRe_readCondition_171 (fun s25 => ?_)
                          exact gf_sub (hj174 s25) (by simp [lsub])
                    · intro j147 hj147
                      refine gf_jn (fun j142 => ∀ (s26 : Sg), GF C evI 142 [some (.ref (C.w.ad 30)), none, some (.int u14.2)] [] s26 (j142 s26)) ?_ ?_
                      · intro s26
                        refine g_iconst X 1 dRe_readCondition_142 (by decide) ?_
                        refine g_goto X 147 dRe_readCondition_143 (by decide) ?_
                        exact gf_sub (hj147 1 s26) (by simp [lsub])
                      · intro j142 hj142
                        refine g_ceq X (tgt := 142) dRe_readCondition_126 (by decide) ?_ ?_
                        · exact gf_sub (hj142 s21) (by simp [lsub])
                        · refine g_aload_n X dRe_readCondition_129 rfl ?_
                          refine g_getN X fl_Re_14 fb_4_0 k_30 r_30_0 dRe_readCondition_130 ?_
                          refine g_getI X fl_Re_52 fb_9_7 k_31 dRe_readCondition_133 ?_
                          refine g_sipush X 260 dRe_readCondition_136 (by decide) ?_
                          refine g_cne X (tgt := 146) dRe_readCondition_139 (by decide) ?_ ?_
                          · exact gf_sub (hj142 s21) (by simp [lsub])
                          · refine g_iconst X 0 dRe_readCondition_146 (by decide) ?_
                            exact gf_sub (hj147 0 s21) (by simp [lsub])
def ySu_climb : MethodName := ⟨"LastWordHill$Sun", "climb", "(LLastWordHill$Scene;I)V"⟩
abbrev cSu_climb : ByteArray := prog_8_method_5_code
theorem dSu_climb_0 : decode cSu_climb 0 = .ok (.aload_n 1, 1) := by decide +kernel
theorem dSu_climb_1 : decode cSu_climb 1 = .ok (.iload_n 2, 1) := by decide +kernel
theorem dSu_climb_2 : decode cSu_climb 2 = .ok (.iconst 3, 1) := by decide +kernel
theorem dSu_climb_3 : decode cSu_climb 3 = .ok (.invokevirtual 38, 3) := by decide +kernel
theorem dSu_climb_6 : decode cSu_climb 6 = .ok (.ifCond .ne 11, 3) := by decide +kernel
theorem dSu_climb_17 : decode cSu_climb 17 = .ok (.aload_n 0, 1) := by decide +kernel
theorem dSu_climb_18 : decode cSu_climb 18 = .ok (.getfield 9, 3) := by decide +kernel
theorem dSu_climb_21 : decode cSu_climb 21 = .ok (.getfield 85, 3) := by decide +kernel
theorem fl_Su_85 : FLk "LastWordHill$Sun" 85 8 0 := ⟨_, _, _, rfl, by decide, hz_in 310 (by decide +kernel) (by decide +kernel), nL8, by decide, by decide⟩
theorem k_20 : hz_kd 20 = 1 := by decide
theorem r_19_0 : hz_rf 19 0 = 20 := by decide
theorem dSu_climb_24 : decode cSu_climb 24 = .ok (.iconst 0, 1) := by decide +kernel
theorem dSu_climb_25 : decode cSu_climb 25 = .ok (.aload_n 1, 1) := by decide +kernel
theorem dSu_climb_26 : decode cSu_climb 26 = .ok (.iload_n 2, 1) := by decide +kernel
theorem dSu_climb_27 : decode cSu_climb 27 = .ok (.invokevirtual 89, 3) := by decide +kernel
theorem mm_La_tells : MMc yLa_tells cLa_tells 8 (some .int) 3 := ⟨hz_in 735 (by decide +kernel) (by decide +kernel), hz_in 138 (by decide +kernel) (by decide +kernel), by decide +kernel, by decide⟩
theorem mv_La_tells : MMv yLa_tells 1 := ⟨hz_in 733 (by decide +kernel) (by decide +kernel), hz_in 734 (by decide +kernel) (by decide +kernel), _, _, rfl, by decide⟩
theorem ml_Su_89 : Cond.methodLink "LastWordHill$Sun" 89 yLa_tells ∈ hz_wt := hz_in 732 (by decide +kernel) (by decide +kernel)
theorem dSu_climb_30 : decode cSu_climb 30 = .ok (.istore_n 3, 1) := by decide +kernel
theorem dSu_climb_31 : decode cSu_climb 31 = .ok (.aload_n 0, 1) := by decide +kernel
theorem dSu_climb_32 : decode cSu_climb 32 = .ok (.getfield 9, 3) := by decide +kernel
theorem dSu_climb_35 : decode cSu_climb 35 = .ok (.getfield 85, 3) := by decide +kernel
theorem dSu_climb_38 : decode cSu_climb 38 = .ok (.iconst 1, 1) := by decide +kernel
theorem dSu_climb_39 : decode cSu_climb 39 = .ok (.aload_n 1, 1) := by decide +kernel
theorem dSu_climb_40 : decode cSu_climb 40 = .ok (.iload_n 2, 1) := by decide +kernel
theorem dSu_climb_41 : decode cSu_climb 41 = .ok (.invokevirtual 89, 3) := by decide +kernel
theorem dSu_climb_44 : decode cSu_climb 44 = .ok (.istore 4, 2) := by decide +kernel
theorem dSu_climb_46 : decode cSu_climb 46 = .ok (.aload_n 1, 1) := by decide +kernel
theorem dSu_climb_47 : decode cSu_climb 47 = .ok (.iload_n 2, 1) := by decide +kernel
theorem dSu_climb_48 : decode cSu_climb 48 = .ok (.iconst 4, 1) := by decide +kernel
theorem dSu_climb_49 : decode cSu_climb 49 = .ok (.bipush 99, 2) := by decide +kernel
theorem dSu_climb_51 : decode cSu_climb 51 = .ok (.aload_n 1, 1) := by decide +kernel
theorem dSu_climb_52 : decode cSu_climb 52 = .ok (.iload_n 2, 1) := by decide +kernel
theorem dSu_climb_53 : decode cSu_climb 53 = .ok (.iconst 4, 1) := by decide +kernel
theorem dSu_climb_54 : decode cSu_climb 54 = .ok (.invokevirtual 38, 3) := by decide +kernel
theorem dSu_climb_57 : decode cSu_climb 57 = .ok (.iload_n 3, 1) := by decide +kernel
theorem dSu_climb_58 : decode cSu_climb 58 = .ok (.iadd, 1) := by decide +kernel
theorem dSu_climb_59 : decode cSu_climb 59 = .ok (.invokestatic 95, 3) := by decide +kernel
theorem ml_Su_95 : Cond.methodLink "LastWordHill$Sun" 95 yJ9_min_7cf53 ∈ hz_wt := hz_in 758 (by decide +kernel) (by decide +kernel)
theorem dSu_climb_62 : decode cSu_climb 62 = .ok (.invokevirtual 100, 3) := by decide +kernel
theorem ml_Su_100 : Cond.methodLink "LastWordHill$Sun" 100 ySc_put ∈ hz_wt := hz_in 759 (by decide +kernel) (by decide +kernel)
theorem dSu_climb_65 : decode cSu_climb 65 = .ok (.aload_n 1, 1) := by decide +kernel
theorem dSu_climb_66 : decode cSu_climb 66 = .ok (.iload_n 2, 1) := by decide +kernel
theorem dSu_climb_67 : decode cSu_climb 67 = .ok (.iload 4, 2) := by decide +kernel
theorem dSu_climb_69 : decode cSu_climb 69 = .ok (.ineg, 1) := by decide +kernel
theorem dSu_climb_70 : decode cSu_climb 70 = .ok (.invokevirtual 82, 3) := by decide +kernel
theorem mm_Sc_changeBreath : MMc ySc_changeBreath cSc_changeBreath 3 none 2 := ⟨hz_in 727 (by decide +kernel) (by decide +kernel), hz_in 135 (by decide +kernel) (by decide +kernel), by decide +kernel, by decide⟩
theorem mv_Sc_changeBreath : MMv ySc_changeBreath 5 := ⟨hz_in 725 (by decide +kernel) (by decide +kernel), hz_in 726 (by decide +kernel) (by decide +kernel), _, _, rfl, by decide⟩
theorem ml_Su_82 : Cond.methodLink "LastWordHill$Sun" 82 ySc_changeBreath ∈ hz_wt := hz_in 724 (by decide +kernel) (by decide +kernel)
theorem dSu_climb_73 : decode cSu_climb 73 = .ok (.return_, 1) := by decide +kernel
theorem dSu_climb_9 : decode cSu_climb 9 = .ok (.aload_n 1, 1) := by decide +kernel
theorem dSu_climb_10 : decode cSu_climb 10 = .ok (.iload_n 2, 1) := by decide +kernel
theorem dSu_climb_11 : decode cSu_climb 11 = .ok (.bipush 9, 2) := by decide +kernel
theorem dSu_climb_13 : decode cSu_climb 13 = .ok (.invokevirtual 82, 3) := by decide +kernel
theorem dSu_climb_16 : decode cSu_climb 16 = .ok (.return_, 1) := by decide +kernel
def fSu_climb (o1 : Nat) (v2 : Int32) (s0 : Sg) : Option (Sg) := bi (fSc_tell o1 v2 3 s0) fun r2 s1 => if r2 = 0 then (bv (fSc_changeBreath o1 v2 9 s1) fun s13 => some s13) else (bi (fLa_tells 20 0 o1 v2 s1) fun r4 s3 => bi (fLa_tells 20 1 o1 v2 s3) fun r6 s5 => bi (fSc_tell o1 v2 4 s5) fun r8 s7 => bi (fJ9_min_7cf53 99 (r8 + r4) s7) fun r10 s9 => bv (fSc_put o1 v2 4 r10 s9) fun s11 => bv (fSc_changeBreath o1 v2 (-r6) s11) fun s12 => some s12)
set_option maxHeartbeats 4000000 in
set_option maxRecDepth 100000 in
theorem okSu_climb (o1 : Nat) (v2 : Int32) (s0 : Sg) (h1 : hz_kd o1 = 5) : ∀ (l : Launch) (w : WC), Ok l w ySu_climb cSu_climb 5 none 5 evV [.ref (w.ad 65), .ref (w.ad o1), .int v2] s0 (fSu_climb o1 v2 s0) := by
  refine ok_in (ev := fun _ => evV) (av := fun w => [.ref (w.ad 65), .ref (w.ad o1), .int v2]) "LastWordHill$Sun" rfl (by decide +kernel) (fun _ => rfl) (fun _ => Nat.le_of_ble_eq_true rfl) ?_
  intro C X E
  show GF C evV 0 [some (.ref (C.w.ad 65)), some (.ref (C.w.ad o1)), some (.int v2), none, none] [] s0 (fSu_climb o1 v2 s0)
  unfold fSu_climb
  refine g_aload_n X dSu_climb_0 rfl ?_
  refine g_iload_n X dSu_climb_1 rfl ?_
  refine g_iconst X 3 dSu_climb_2 (by decide) ?_
  refine g_virtI X [.int v2, .int 3] [] h1 mm_Sc_tell mv_Sc_tell ml_Su_38 (okSc_tell o1 v2 3 s0 h1 C.l C.w) rfl (by decide) rfl (Nat.le_of_ble_eq_true rfl) dSu_climb_3 (fun r2 s1 => ?_)
  refine g_zne X (tgt := 17) dSu_climb_6 (by decide) ?_ ?_
  · refine g_aload_n X dSu_climb_9 rfl ?_
    refine g_iload_n X dSu_climb_10 rfl ?_
    refine g_bipush X 9 dSu_climb_11 (by decide) ?_
    refine g_virtV X [.int v2, .int 9] [] h1 mm_Sc_changeBreath mv_Sc_changeBreath ml_Su_82 (okSc_changeBreath o1 v2 9 s1 h1 C.l C.w) rfl (by decide) rfl (Nat.le_of_ble_eq_true rfl) dSu_climb_13 (fun s13 => ?_)
    exact g_vret X E dSu_climb_16
  · refine g_aload_n X dSu_climb_17 rfl ?_
    refine g_getN X fl_Su_9 fb_6_0 k_65 r_65_0 dSu_climb_18 ?_
    refine g_getN X fl_Su_85 fb_8_0 k_19 r_19_0 dSu_climb_21 ?_
    refine g_iconst X 0 dSu_climb_24 (by decide) ?_
    refine g_aload_n X dSu_climb_25 rfl ?_
    refine g_iload_n X dSu_climb_26 rfl ?_
    refine g_virtI X [.int 0, .ref (C.w.ad o1), .int v2] [] k_20 mm_La_tells mv_La_tells ml_Su_89 (okLa_tells 20 0 o1 v2 s1 k_20 h1 C.l C.w) rfl (by decide) rfl (Nat.le_of_ble_eq_true rfl) dSu_climb_27 (fun r4 s3 => ?_)
    refine g_istore_n X [some (.ref (C.w.ad 65)), some (.ref (C.w.ad o1)), some (.int v2), some (.int r4), none] dSu_climb_30 (by decide) (Nat.le_of_ble_eq_true rfl) rfl ?_
    refine g_aload_n X dSu_climb_31 rfl ?_
    refine g_getN X fl_Su_9 fb_6_0 k_65 r_65_0 dSu_climb_32 ?_
    refine g_getN X fl_Su_85 fb_8_0 k_19 r_19_0 dSu_climb_35 ?_
    refine g_iconst X 1 dSu_climb_38 (by decide) ?_
    refine g_aload_n X dSu_climb_39 rfl ?_
    refine g_iload_n X dSu_climb_40 rfl ?_
    refine g_virtI X [.int 1, .ref (C.w.ad o1), .int v2] [] k_20 mm_La_tells mv_La_tells ml_Su_89 (okLa_tells 20 1 o1 v2 s3 k_20 h1 C.l C.w) rfl (by decide) rfl (Nat.le_of_ble_eq_true rfl) dSu_climb_41 (fun r6 s5 => ?_)
    refine g_istore X [some (.ref (C.w.ad 65)), some (.ref (C.w.ad o1)), some (.int v2), some (.int r4), some (.int r6)] dSu_climb_44 (by decide) (Nat.le_of_ble_eq_true rfl) rfl ?_
    refine g_aload_n X dSu_climb_46 rfl ?_
    refine g_iload_n X dSu_climb_47 rfl ?_
    refine g_iconst X 4 dSu_climb_48 (by decide) ?_
    refine g_bipush X 99 dSu_climb_49 (by decide) ?_
    refine g_aload_n X dSu_climb_51 rfl ?_
    refine g_iload_n X dSu_climb_52 rfl ?_
    refine g_iconst X 4 dSu_climb_53 (by decide) ?_
    refine g_virtI X [.int v2, .int 4] [.int 99, .int 4, .int v2, .ref (C.w.ad o1)] h1 mm_Sc_tell mv_Sc_tell ml_Su_38 (okSc_tell o1 v2 4 s5 h1 C.l C.w) rfl (by decide) rfl (Nat.le_of_ble_eq_true rfl) dSu_climb_54 (fun r8 s7 => ?_)
    refine g_iload_n X dSu_climb_57 rfl ?_
    refine g_iadd X dSu_climb_58 ?_
    refine g_statI X [.int 99, .int (r8 + r4)] [.int 4, .int v2, .ref (C.w.ad o1)] mm_J9_min_7cf53 ms_J9_min_7cf53 ml_Su_95 (okJ9_min_7cf53 99 (r8 + r4) s7 C.l C.w) rfl (by decide) rfl (Nat.le_of_ble_eq_true rfl) dSu_climb_59 (fun r10 s9 => ?_)
    refine g_virtV X [.int v2, .int 4, .int r10] [] h1 mm_Sc_put mv_Sc_put ml_Su_100 (okSc_put o1 v2 4 r10 s9 h1 C.l C.w) rfl (by decide) rfl (Nat.le_of_ble_eq_true rfl) dSu_climb_62 (fun s11 => ?_)
    refine g_aload_n X dSu_climb_65 rfl ?_
    refine g_iload_n X dSu_climb_66 rfl ?_
    refine g_iload X dSu_climb_67 rfl ?_
    refine g_ineg X dSu_climb_69 ?_
    refine g_virtV X [.int v2, .int (-r6)] [] h1 mm_Sc_changeBreath mv_Sc_changeBreath ml_Su_82 (okSc_changeBreath o1 v2 (-r6) s11 h1 C.l C.w) rfl (by decide) rfl (Nat.le_of_ble_eq_true rfl) dSu_climb_70 (fun s12 => ?_)
    exact g_vret X E dSu_climb_73
def ySu_speaks : MethodName := ⟨"LastWordHill$Sun", "speaks", "(LLastWordHill$Scene;IZ)Z"⟩
abbrev cSu_speaks : ByteArray := prog_8_method_6_code
theorem dSu_speaks_0 : decode cSu_speaks 0 = .ok (.aload_n 0, 1) := by decide +kernel
theorem dSu_speaks_1 : decode cSu_speaks 1 = .ok (.getfield 9, 3) := by decide +kernel
theorem dSu_speaks_4 : decode cSu_speaks 4 = .ok (.getfield 85, 3) := by decide +kernel
theorem dSu_speaks_7 : decode cSu_speaks 7 = .ok (.iconst 2, 1) := by decide +kernel
theorem dSu_speaks_8 : decode cSu_speaks 8 = .ok (.aload_n 1, 1) := by decide +kernel
theorem dSu_speaks_9 : decode cSu_speaks 9 = .ok (.iload_n 2, 1) := by decide +kernel
theorem dSu_speaks_10 : decode cSu_speaks 10 = .ok (.invokevirtual 89, 3) := by decide +kernel
theorem dSu_speaks_13 : decode cSu_speaks 13 = .ok (.istore 4, 2) := by decide +kernel
theorem dSu_speaks_15 : decode cSu_speaks 15 = .ok (.aload_n 0, 1) := by decide +kernel
theorem dSu_speaks_16 : decode cSu_speaks 16 = .ok (.getfield 9, 3) := by decide +kernel
theorem dSu_speaks_19 : decode cSu_speaks 19 = .ok (.getfield 85, 3) := by decide +kernel
theorem dSu_speaks_22 : decode cSu_speaks 22 = .ok (.iconst 1, 1) := by decide +kernel
theorem dSu_speaks_23 : decode cSu_speaks 23 = .ok (.aload_n 1, 1) := by decide +kernel
theorem dSu_speaks_24 : decode cSu_speaks 24 = .ok (.iload_n 2, 1) := by decide +kernel
theorem dSu_speaks_25 : decode cSu_speaks 25 = .ok (.invokevirtual 89, 3) := by decide +kernel
theorem dSu_speaks_28 : decode cSu_speaks 28 = .ok (.istore 5, 2) := by decide +kernel
theorem dSu_speaks_30 : decode cSu_speaks 30 = .ok (.iload_n 3, 1) := by decide +kernel
theorem dSu_speaks_31 : decode cSu_speaks 31 = .ok (.ifCond .eq 23, 3) := by decide +kernel
theorem dSu_speaks_67 : decode cSu_speaks 67 = .ok (.istore 6, 2) := by decide +kernel
theorem dSu_speaks_69 : decode cSu_speaks 69 = .ok (.iload 6, 2) := by decide +kernel
theorem dSu_speaks_71 : decode cSu_speaks 71 = .ok (.ifCond .ne 11, 3) := by decide +kernel
theorem dSu_speaks_82 : decode cSu_speaks 82 = .ok (.aload_n 1, 1) := by decide +kernel
theorem dSu_speaks_83 : decode cSu_speaks 83 = .ok (.iload_n 2, 1) := by decide +kernel
theorem dSu_speaks_84 : decode cSu_speaks 84 = .ok (.bipush 6, 2) := by decide +kernel
theorem dSu_speaks_86 : decode cSu_speaks 86 = .ok (.invokevirtual 38, 3) := by decide +kernel
theorem dSu_speaks_89 : decode cSu_speaks 89 = .ok (.istore 7, 2) := by decide +kernel
theorem dSu_speaks_91 : decode cSu_speaks 91 = .ok (.aload_n 1, 1) := by decide +kernel
theorem dSu_speaks_92 : decode cSu_speaks 92 = .ok (.iload_n 2, 1) := by decide +kernel
theorem dSu_speaks_93 : decode cSu_speaks 93 = .ok (.iload 7, 2) := by decide +kernel
theorem dSu_speaks_95 : decode cSu_speaks 95 = .ok (.invokevirtual 108, 3) := by decide +kernel
theorem ml_Su_108 : Cond.methodLink "LastWordHill$Sun" 108 ySc_say ∈ hz_wt := hz_in 770 (by decide +kernel) (by decide +kernel)
theorem dSu_speaks_98 : decode cSu_speaks 98 = .ok (.aload_n 1, 1) := by decide +kernel
theorem dSu_speaks_99 : decode cSu_speaks 99 = .ok (.iload_n 2, 1) := by decide +kernel
theorem dSu_speaks_100 : decode cSu_speaks 100 = .ok (.iload 5, 2) := by decide +kernel
theorem dSu_speaks_102 : decode cSu_speaks 102 = .ok (.ineg, 1) := by decide +kernel
theorem dSu_speaks_103 : decode cSu_speaks 103 = .ok (.invokevirtual 82, 3) := by decide +kernel
theorem dSu_speaks_106 : decode cSu_speaks 106 = .ok (.iload_n 3, 1) := by decide +kernel
theorem dSu_speaks_107 : decode cSu_speaks 107 = .ok (.ifCond .eq 12, 3) := by decide +kernel
theorem dSu_speaks_119 : decode cSu_speaks 119 = .ok (.iconst 1, 1) := by decide +kernel
theorem dSu_speaks_120 : decode cSu_speaks 120 = .ok (.ireturn, 1) := by decide +kernel
theorem dSu_speaks_110 : decode cSu_speaks 110 = .ok (.aload_n 0, 1) := by decide +kernel
theorem dSu_speaks_111 : decode cSu_speaks 111 = .ok (.aload_n 1, 1) := by decide +kernel
theorem dSu_speaks_112 : decode cSu_speaks 112 = .ok (.iconst 0, 1) := by decide +kernel
theorem dSu_speaks_113 : decode cSu_speaks 113 = .ok (.iload_n 2, 1) := by decide +kernel
theorem dSu_speaks_114 : decode cSu_speaks 114 = .ok (.iload 7, 2) := by decide +kernel
theorem dSu_speaks_116 : decode cSu_speaks 116 = .ok (.invokevirtual 111, 3) := by decide +kernel
theorem ml_Su_111 : Cond.methodLink "LastWordHill$Sun" 111 ySu_note ∈ hz_wt := hz_in 771 (by decide +kernel) (by decide +kernel)
theorem dSu_speaks_74 : decode cSu_speaks 74 = .ok (.aload_n 1, 1) := by decide +kernel
theorem dSu_speaks_75 : decode cSu_speaks 75 = .ok (.iload_n 2, 1) := by decide +kernel
theorem dSu_speaks_76 : decode cSu_speaks 76 = .ok (.iconst 1, 1) := by decide +kernel
theorem dSu_speaks_77 : decode cSu_speaks 77 = .ok (.invokevirtual 82, 3) := by decide +kernel
theorem dSu_speaks_80 : decode cSu_speaks 80 = .ok (.iconst 0, 1) := by decide +kernel
theorem dSu_speaks_81 : decode cSu_speaks 81 = .ok (.ireturn, 1) := by decide +kernel
theorem dSu_speaks_54 : decode cSu_speaks 54 = .ok (.iload 4, 2) := by decide +kernel
theorem dSu_speaks_56 : decode cSu_speaks 56 = .ok (.sipush 500, 3) := by decide +kernel
theorem dSu_speaks_59 : decode cSu_speaks 59 = .ok (.if_icmp .lt 7, 3) := by decide +kernel
theorem dSu_speaks_66 : decode cSu_speaks 66 = .ok (.iconst 0, 1) := by decide +kernel
theorem dSu_speaks_62 : decode cSu_speaks 62 = .ok (.iconst 1, 1) := by decide +kernel
theorem dSu_speaks_63 : decode cSu_speaks 63 = .ok (.goto 4, 3) := by decide +kernel
theorem dSu_speaks_34 : decode cSu_speaks 34 = .ok (.aload_n 1, 1) := by decide +kernel
theorem dSu_speaks_35 : decode cSu_speaks 35 = .ok (.sipush 1000, 3) := by decide +kernel
theorem dSu_speaks_38 : decode cSu_speaks 38 = .ok (.invokevirtual 104, 3) := by decide +kernel
theorem mm_Sc_draw : MMc ySc_draw cSc_draw 2 (some .int) 1 := ⟨hz_in 767 (by decide +kernel) (by decide +kernel), hz_in 135 (by decide +kernel) (by decide +kernel), by decide +kernel, by decide⟩
theorem mv_Sc_draw : MMv ySc_draw 5 := ⟨hz_in 765 (by decide +kernel) (by decide +kernel), hz_in 766 (by decide +kernel) (by decide +kernel), _, _, rfl, by decide⟩
theorem ml_Su_104 : Cond.methodLink "LastWordHill$Sun" 104 ySc_draw ∈ hz_wt := hz_in 764 (by decide +kernel) (by decide +kernel)
theorem dSu_speaks_41 : decode cSu_speaks 41 = .ok (.iload 4, 2) := by decide +kernel
theorem dSu_speaks_43 : decode cSu_speaks 43 = .ok (.if_icmp .ge 7, 3) := by decide +kernel
theorem dSu_speaks_50 : decode cSu_speaks 50 = .ok (.iconst 0, 1) := by decide +kernel
theorem dSu_speaks_51 : decode cSu_speaks 51 = .ok (.goto 16, 3) := by decide +kernel
theorem dSu_speaks_46 : decode cSu_speaks 46 = .ok (.iconst 1, 1) := by decide +kernel
theorem dSu_speaks_47 : decode cSu_speaks 47 = .ok (.goto 20, 3) := by decide +kernel
def fSu_speaks (o1 : Nat) (v2 : Int32) (v3 : Int32) (s0 : Sg) : Option (Int32 × Sg) := bi (fLa_tells 20 2 o1 v2 s0) fun r2 s1 => bi (fLa_tells 20 1 o1 v2 s1) fun r4 s3 => bnd (fun (b67_0 : Int32) (s5 : Sg) => if b67_0 = 0 then (bv (fSc_changeBreath o1 v2 1 s5) fun s11 => gb 0 (some (0, s11))) else (bi (fSc_tell o1 v2 6 s5) fun r7 s6 => bv (fSc_say o1 v2 r7 s6) fun s8 => bv (fSc_changeBreath o1 v2 (-r4) s8) fun s9 => if v3 = 0 then (gb 1 (some (1, s9))) else (bv (fSu_note o1 0 v2 r7 s9) fun s10 => gb 1 (some (1, s10))))) fun j67 => if v3 = 0 then (if r2 < 500 then (j67 0 s3) else (j67 1 s3)) else (bi (fSc_draw o1 1000 s3) fun r13 s12 => if r2 ≤ r13 then (j67 0 s12) else (j67 1 s12))
set_option maxHeartbeats 4000000 in
set_option maxRecDepth 100000 in
theorem okSu_speaks (o1 : Nat) (v2 : Int32) (v3 : Int32) (s0 : Sg) (h1 : hz_kd o1 = 5) : ∀ (l : Launch) (w : WC), Ok l w ySu_speaks cSu_speaks 8 (some .boolean) 5 evI [.ref (w.ad 65), .ref (w.ad o1), .int v2, .int v3] s0 (fSu_speaks o1 v2 v3 s0) := by
  refine ok_in (ev := fun _ => evI) (av := fun w => [.ref (w.ad 65), .ref (w.ad o1), .int v2, .int v3]) "LastWordHill$Sun" rfl (by decide +kernel) (fun _ => rfl) (fun _ => Nat.le_of_ble_eq_true rfl) ?_
  intro C X E
  show GF C evI 0 [some (.ref (C.w.ad 65)), some (.ref (C.w.ad o1)), some (.int v2), some (.int v3), none, none, none, none] [] s0 (fSu_speaks o1 v2 v3 s0)
  unfold fSu_speaks
  refine g_aload_n X dSu_speaks_0 rfl ?_
  refine g_getN X fl_Su_9 fb_6_0 k_65 r_65_0 dSu_speaks_1 ?_
  refine g_getN X fl_Su_85 fb_8_0 k_19 r_19_0 dSu_speaks_4 ?_
  refine g_iconst X 2 dSu_speaks_7 (by decide) ?_
  refine g_aload_n X dSu_speaks_8 rfl ?_
  refine g_iload_n X dSu_speaks_9 rfl ?_
  refine g_virtI X [.int 2, .ref (C.w.ad o1), .int v2] [] k_20 mm_La_tells mv_La_tells ml_Su_89 (okLa_tells 20 2 o1 v2 s0 k_20 h1 C.l C.w) rfl (by decide) rfl (Nat.le_of_ble_eq_true rfl) dSu_speaks_10 (fun r2 s1 => ?_)
  refine g_istore X [some (.ref (C.w.ad 65)), some (.ref (C.w.ad o1)), some (.int v2), some (.int v3), some (.int r2), none, none, none] dSu_speaks_13 (by decide) (Nat.le_of_ble_eq_true rfl) rfl ?_
  refine g_aload_n X dSu_speaks_15 rfl ?_
  refine g_getN X fl_Su_9 fb_6_0 k_65 r_65_0 dSu_speaks_16 ?_
  refine g_getN X fl_Su_85 fb_8_0 k_19 r_19_0 dSu_speaks_19 ?_
  refine g_iconst X 1 dSu_speaks_22 (by decide) ?_
  refine g_aload_n X dSu_speaks_23 rfl ?_
  refine g_iload_n X dSu_speaks_24 rfl ?_
  refine g_virtI X [.int 1, .ref (C.w.ad o1), .int v2] [] k_20 mm_La_tells mv_La_tells ml_Su_89 (okLa_tells 20 1 o1 v2 s1 k_20 h1 C.l C.w) rfl (by decide) rfl (Nat.le_of_ble_eq_true rfl) dSu_speaks_25 (fun r4 s3 => ?_)
  refine g_istore X [some (.ref (C.w.ad 65)), some (.ref (C.w.ad o1)), some (.int v2), some (.int v3), some (.int r2), some (.int r4), none, none] dSu_speaks_28 (by decide) (Nat.le_of_ble_eq_true rfl) rfl ?_
  refine g_iload_n X dSu_speaks_30 rfl ?_
  refine gf_jn (fun j67 => ∀ (b67_0 : Int32) (s5 : Sg), GF C evI 67 [some (.ref (C.w.ad 65)), some (.ref (C.w.ad o1)), some (.int v2), some (.int v3), none, some (.int r4), none, none] [.int b67_0] s5 (j67 b67_0 s5)) ?_ ?_
  · intro b67_0 s5
    refine g_istore X [some (.ref (C.w.ad 65)), some (.ref (C.w.ad o1)), some (.int v2), some (.int v3), none, some (.int r4), some (.int b67_0), none] dSu_speaks_67 (by decide) (Nat.le_of_ble_eq_true rfl) rfl ?_
    refine g_iload X dSu_speaks_69 rfl ?_
    refine g_zne X (tgt := 82) dSu_speaks_71 (by decide) ?_ ?_
    · refine g_aload_n X dSu_speaks_74 rfl ?_
      refine g_iload_n X dSu_speaks_75 rfl ?_
      refine g_iconst X 1 dSu_speaks_76 (by decide) ?_
      refine g_virtV X [.int v2, .int 1] [] h1 mm_Sc_changeBreath mv_Sc_changeBreath ml_Su_82 (okSc_changeBreath o1 v2 1 s5 h1 C.l C.w) rfl (by decide) rfl (Nat.le_of_ble_eq_true rfl) dSu_speaks_77 (fun s11 => ?_)
      refine g_iconst X 0 dSu_speaks_80 (by decide) ?_
      exact g_zret X E dSu_speaks_81
    · refine g_aload_n X dSu_speaks_82 rfl ?_
      refine g_iload_n X dSu_speaks_83 rfl ?_
      refine g_bipush X 6 dSu_speaks_84 (by decide) ?_
      refine g_virtI X [.int v2, .int 6] [] h1 mm_Sc_tell mv_Sc_tell ml_Su_38 (okSc_tell o1 v2 6 s5 h1 C.l C.w) rfl (by decide) rfl (Nat.le_of_ble_eq_true rfl) dSu_speaks_86 (fun r7 s6 => ?_)
      refine g_istore X [some (.ref (C.w.ad 65)), some (.ref (C.w.ad o1)), some (.int v2), some (.int v3), none, some (.int r4), some (.int b67_0), some (.int r7)] dSu_speaks_89 (by decide) (Nat.le_of_ble_eq_true rfl) rfl ?_
      refine g_aload_n X dSu_speaks_91 rfl ?_
      refine g_iload_n X dSu_speaks_92 rfl ?_
      refine g_iload X dSu_speaks_93 rfl ?_
      refine g_virtV X [.int v2, .int r7] [] h1 mm_Sc_say mv_Sc_say ml_Su_108 (okSc_say o1 v2 r7 s6 h1 C.l C.w) rfl (by decide) rfl (Nat.le_of_ble_eq_true rfl) dSu_speaks_95 (fun s8 => ?_)
      refine g_aload_n X dSu_speaks_98 rfl ?_
      refine g_iload_n X dSu_speaks_99 rfl ?_
      refine g_iload X dSu_speaks_100 rfl ?_
      refine g_ineg X dSu_speaks_102 ?_
      refine g_virtV X [.int v2, .int (-r4)] [] h1 mm_Sc_changeBreath mv_Sc_changeBreath ml_Su_82 (okSc_changeBreath o1 v2 (-r4) s8 h1 C.l C.w) rfl (by decide) rfl (Nat.le_of_ble_eq_true rfl) dSu_speaks_103 (fun s9 => ?_)
      refine g_iload_n X dSu_speaks_106 rfl ?_
      refine g_zeq X (tgt := 119) dSu_speaks_107 (by decide) ?_ ?_
      · refine g_iconst X 1 dSu_speaks_119 (by decide) ?_
        exact g_zret X E dSu_speaks_120
      · refine g_aload_n X dSu_speaks_110 rfl ?_
        refine g_aload_n X dSu_speaks_111 rfl ?_
        refine g_iconst X 0 dSu_speaks_112 (by decide) ?_
        refine g_iload_n X dSu_speaks_113 rfl ?_
        refine g_iload X dSu_speaks_114 rfl ?_
        refine g_virtV X [.ref (C.w.ad o1), .int 0, .int v2, .int r7] [] k_65 mm_Su_note mv_Su_note ml_Su_111 (okSu_note o1 0 v2 r7 s9 h1 C.l C.w) rfl (by decide) rfl (Nat.le_of_ble_eq_true rfl) dSu_speaks_116 (fun s10 => ?_)
        refine g_iconst X 1 dSu_speaks_119 (by decide) ?_
        exact g_zret X E dSu_speaks_120
  · intro j67 hj67
    refine g_zeq X (tgt := 54) dSu_speaks_31 (by decide) ?_ ?_
    · refine g_iload X dSu_speaks_54 rfl ?_
      refine g_sipush X 500 dSu_speaks_56 (by decide) ?_
      refine g_clt X (tgt := 66) dSu_speaks_59 (by decide) ?_ ?_
      · refine g_iconst X 0 dSu_speaks_66 (by decide) ?_
        exact gf_sub (hj67 0 s3) (by simp [lsub])
      · refine g_iconst X 1 dSu_speaks_62 (by decide) ?_
        refine g_goto X 67 dSu_speaks_63 (by decide) ?_
        exact gf_sub (hj67 1 s3) (by simp [lsub])
    · refine g_aload_n X dSu_speaks_34 rfl ?_
      refine g_sipush X 1000 dSu_speaks_35 (by decide) ?_
      refine g_virtI X [.int 1000] [] h1 mm_Sc_draw mv_Sc_draw ml_Su_104 (okSc_draw o1 1000 s3 h1 C.l C.w) rfl (by decide) rfl (Nat.le_of_ble_eq_true rfl) dSu_speaks_38 (fun r13 s12 => ?_)
      refine g_iload X dSu_speaks_41 rfl ?_
      refine g_cge X (tgt := 50) dSu_speaks_43 (by decide) ?_ ?_
      · refine g_iconst X 0 dSu_speaks_50 (by decide) ?_
        refine g_goto X 67 dSu_speaks_51 (by decide) ?_
        exact gf_sub (hj67 0 s12) (by simp [lsub])
      · refine g_iconst X 1 dSu_speaks_46 (by decide) ?_
        refine g_goto X 67 dSu_speaks_47 (by decide) ?_
        exact gf_sub (hj67 1 s12) (by simp [lsub])
def ySu_fallNight : MethodName := ⟨"LastWordHill$Sun", "fallNight", "(LLastWordHill$Scene;Z)V"⟩
abbrev cSu_fallNight : ByteArray := prog_8_method_7_code
theorem dSu_fallNight_0 : decode cSu_fallNight 0 = .ok (.aload_n 1, 1) := by decide +kernel
theorem dSu_fallNight_1 : decode cSu_fallNight 1 = .ok (.aload_n 1, 1) := by decide +kernel
theorem dSu_fallNight_2 : decode cSu_fallNight 2 = .ok (.getfield 115, 3) := by decide +kernel
theorem fl_Su_115 : FLk "LastWordHill$Sun" 115 5 4 := ⟨_, _, _, rfl, by decide, hz_in 182 (by decide +kernel) (by decide +kernel), nL5, by decide, by decide⟩
theorem dSu_fallNight_5 : decode cSu_fallNight 5 = .ok (.putfield 118, 3) := by decide +kernel
theorem fl_Su_118 : FLk "LastWordHill$Sun" 118 5 2 := ⟨_, _, _, rfl, by decide, hz_in 176 (by decide +kernel) (by decide +kernel), nL5, by decide, by decide⟩
theorem dSu_fallNight_8 : decode cSu_fallNight 8 = .ok (.aload_n 1, 1) := by decide +kernel
theorem dSu_fallNight_9 : decode cSu_fallNight 9 = .ok (.aload_n 1, 1) := by decide +kernel
theorem dSu_fallNight_10 : decode cSu_fallNight 10 = .ok (.getfield 121, 3) := by decide +kernel
theorem fl_Su_121 : FLk "LastWordHill$Sun" 121 5 5 := ⟨_, _, _, rfl, by decide, hz_in 185 (by decide +kernel) (by decide +kernel), nL5, by decide, by decide⟩
theorem dSu_fallNight_13 : decode cSu_fallNight 13 = .ok (.putfield 124, 3) := by decide +kernel
theorem fl_Su_124 : FLk "LastWordHill$Sun" 124 5 3 := ⟨_, _, _, rfl, by decide, hz_in 179 (by decide +kernel) (by decide +kernel), nL5, by decide, by decide⟩
theorem dSu_fallNight_16 : decode cSu_fallNight 16 = .ok (.iconst 0, 1) := by decide +kernel
theorem dSu_fallNight_17 : decode cSu_fallNight 17 = .ok (.istore_n 3, 1) := by decide +kernel
theorem dSu_fallNight_18 : decode cSu_fallNight 18 = .ok (.iload_n 3, 1) := by decide +kernel
theorem dSu_fallNight_19 : decode cSu_fallNight 19 = .ok (.aload_n 1, 1) := by decide +kernel
theorem dSu_fallNight_20 : decode cSu_fallNight 20 = .ok (.getfield 35, 3) := by decide +kernel
theorem fl_Su_35 : FLk "LastWordHill$Sun" 35 5 1 := ⟨_, _, _, rfl, by decide, hz_in 172 (by decide +kernel) (by decide +kernel), nL5, by decide, by decide⟩
theorem dSu_fallNight_23 : decode cSu_fallNight 23 = .ok (.if_icmp .ge 22, 3) := by decide +kernel
theorem dSu_fallNight_45 : decode cSu_fallNight 45 = .ok (.iload_n 2, 1) := by decide +kernel
theorem dSu_fallNight_46 : decode cSu_fallNight 46 = .ok (.ifCond .eq 14, 3) := by decide +kernel
theorem dSu_fallNight_60 : decode cSu_fallNight 60 = .ok (.return_, 1) := by decide +kernel
theorem dSu_fallNight_49 : decode cSu_fallNight 49 = .ok (.aload_n 0, 1) := by decide +kernel
theorem dSu_fallNight_50 : decode cSu_fallNight 50 = .ok (.aload_n 1, 1) := by decide +kernel
theorem dSu_fallNight_51 : decode cSu_fallNight 51 = .ok (.iconst 2, 1) := by decide +kernel
theorem dSu_fallNight_52 : decode cSu_fallNight 52 = .ok (.iconst (-1), 1) := by decide +kernel
theorem dSu_fallNight_53 : decode cSu_fallNight 53 = .ok (.aload_n 1, 1) := by decide +kernel
theorem dSu_fallNight_54 : decode cSu_fallNight 54 = .ok (.getfield 118, 3) := by decide +kernel
theorem dSu_fallNight_57 : decode cSu_fallNight 57 = .ok (.invokevirtual 111, 3) := by decide +kernel
theorem dSu_fallNight_26 : decode cSu_fallNight 26 = .ok (.aload_n 1, 1) := by decide +kernel
theorem dSu_fallNight_27 : decode cSu_fallNight 27 = .ok (.iload_n 3, 1) := by decide +kernel
theorem dSu_fallNight_28 : decode cSu_fallNight 28 = .ok (.invokevirtual 127, 3) := by decide +kernel
theorem ml_Su_127 : Cond.methodLink "LastWordHill$Sun" 127 ySc_sendHome ∈ hz_wt := hz_in 776 (by decide +kernel) (by decide +kernel)
theorem dSu_fallNight_31 : decode cSu_fallNight 31 = .ok (.aload_n 1, 1) := by decide +kernel
theorem dSu_fallNight_32 : decode cSu_fallNight 32 = .ok (.iload_n 3, 1) := by decide +kernel
theorem dSu_fallNight_33 : decode cSu_fallNight 33 = .ok (.iconst 3, 1) := by decide +kernel
theorem dSu_fallNight_34 : decode cSu_fallNight 34 = .ok (.bipush 99, 2) := by decide +kernel
theorem dSu_fallNight_36 : decode cSu_fallNight 36 = .ok (.invokevirtual 100, 3) := by decide +kernel
theorem dSu_fallNight_39 : decode cSu_fallNight 39 = .ok (.iinc 3 1, 3) := by decide +kernel
theorem dSu_fallNight_42 : decode cSu_fallNight 42 = .ok (.goto (-24), 3) := by decide +kernel
def fSu_fallNight (o1 : Nat) (v2 : Int32) (s0 : Sg) : Option (Sg) := bnd (pt s0 o1 2 (s0 o1 4)) fun s1 => bnd (pt s1 o1 3 (s1 o1 5)) fun s2 => lp FU (fun q18 (u18 : Int32) (s3 : Sg) => if (s3 o1 1) ≤ u18 then (if v2 = 0 then (some s3) else (bv (fSu_note o1 2 (-1) (s3 o1 2) s3) fun s4 => some s4)) else (bv (fSc_sendHome o1 u18 s3) fun s5 => bv (fSc_put o1 u18 3 99 s5) fun s6 => q18 (u18 + 1) s6)) 0 s2
set_option maxHeartbeats 4000000 in
set_option maxRecDepth 100000 in
theorem okSu_fallNight (o1 : Nat) (v2 : Int32) (s0 : Sg) (h1 : hz_kd o1 = 5) : ∀ (l : Launch) (w : WC), Ok l w ySu_fallNight cSu_fallNight 4 none 5 evV [.ref (w.ad 65), .ref (w.ad o1), .int v2] s0 (fSu_fallNight o1 v2 s0) := by
  refine ok_in (ev := fun _ => evV) (av := fun w => [.ref (w.ad 65), .ref (w.ad o1), .int v2]) "LastWordHill$Sun" rfl (by decide +kernel) (fun _ => rfl) (fun _ => Nat.le_of_ble_eq_true rfl) ?_
  intro C X E
  show GF C evV 0 [some (.ref (C.w.ad 65)), some (.ref (C.w.ad o1)), some (.int v2), none] [] s0 (fSu_fallNight o1 v2 s0)
  unfold fSu_fallNight
  refine g_aload_n X dSu_fallNight_0 rfl ?_
  refine g_aload_n X dSu_fallNight_1 rfl ?_
  refine g_getI X fl_Su_115 fb_5_4 h1 dSu_fallNight_2 ?_
  refine g_putI X fl_Su_118 fb_5_2 fp_5_2 h1 dSu_fallNight_5 (fun s1 => ?_)
  refine g_aload_n X dSu_fallNight_8 rfl ?_
  refine g_aload_n X dSu_fallNight_9 rfl ?_
  refine g_getI X fl_Su_121 fb_5_5 h1 dSu_fallNight_10 ?_
  refine g_putI X fl_Su_124 fb_5_3 fp_5_3 h1 dSu_fallNight_13 (fun s2 => ?_)
  refine g_iconst X 0 dSu_fallNight_16 (by decide) ?_
  refine g_istore_n X [some (.ref (C.w.ad 65)), some (.ref (C.w.ad o1)), some (.int v2), some (.int 0)] dSu_fallNight_17 (by decide) (Nat.le_of_ble_eq_true rfl) rfl ?_
  refine gf_sub (L' := [some (.ref (C.w.ad 65)), some (.ref (C.w.ad o1)), some (.int v2), some (.int 0)]) ?_ (by simp [lsub])
  refine gf_lp (Lf := fun (u18 : Int32) => [some (.ref (C.w.ad 65)), some (.ref (C.w.ad o1)), some (.int v2), some (.int u18)]) (fun q18 hq18 u18 s3 => ?_) FU 0 s2
  refine g_iload_n X dSu_fallNight_18 rfl ?_
  refine g_aload_n X dSu_fallNight_19 rfl ?_
  refine g_getI X fl_Su_35 fb_5_1 h1 dSu_fallNight_20 ?_
  refine g_cge X (tgt := 45) dSu_fallNight_23 (by decide) ?_ ?_
  · refine g_iload_n X dSu_fallNight_45 rfl ?_
    refine g_zeq X (tgt := 60) dSu_fallNight_46 (by decide) ?_ ?_
    · exact g_vret X E dSu_fallNight_60
    · refine g_aload_n X dSu_fallNight_49 rfl ?_
      refine g_aload_n X dSu_fallNight_50 rfl ?_
      refine g_iconst X 2 dSu_fallNight_51 (by decide) ?_
      refine g_iconst X (-1) dSu_fallNight_52 (by decide) ?_
      refine g_aload_n X dSu_fallNight_53 rfl ?_
      refine g_getI X fl_Su_118 fb_5_2 h1 dSu_fallNight_54 ?_
      refine g_virtV X [.ref (C.w.ad o1), .int 2, .int (-1), .int (s3 o1 2)] [] k_65 mm_Su_note mv_Su_note ml_Su_111 (okSu_note o1 2 (-1) (s3 o1 2) s3 h1 C.l C.w) rfl (by decide) rfl (Nat.le_of_ble_eq_true rfl) dSu_fallNight_57 (fun s4 => ?_)
      exact g_vret X E dSu_fallNight_60
  · refine g_aload_n X dSu_fallNight_26 rfl ?_
    refine g_iload_n X dSu_fallNight_27 rfl ?_
    refine g_virtV X [.int u18] [] h1 mm_Sc_sendHome mv_Sc_sendHome ml_Su_127 (okSc_sendHome o1 u18 s3 h1 C.l C.w) rfl (by decide) rfl (Nat.le_of_ble_eq_true rfl) dSu_fallNight_28 (fun s5 => ?_)
    refine g_aload_n X dSu_fallNight_31 rfl ?_
    refine g_iload_n X dSu_fallNight_32 rfl ?_
    refine g_iconst X 3 dSu_fallNight_33 (by decide) ?_
    refine g_bipush X 99 dSu_fallNight_34 (by decide) ?_
    refine g_virtV X [.int u18, .int 3, .int 99] [] h1 mm_Sc_put mv_Sc_put ml_Su_100 (okSc_put o1 u18 3 99 s5 h1 C.l C.w) rfl (by decide) rfl (Nat.le_of_ble_eq_true rfl) dSu_fallNight_36 (fun s6 => ?_)
    refine g_iinc X (u18 + 1) [some (.ref (C.w.ad 65)), some (.ref (C.w.ad o1)), some (.int v2), some (.int (u18 + 1))] dSu_fallNight_39 rfl rfl (by decide) rfl ?_
    refine g_goto X 18 dSu_fallNight_42 (by decide) ?_
    exact gf_sub (hq18 (u18 + 1) s6) (by simp [lsub])
def yTo_stands : MethodName := ⟨"LastWordHill$Tokens", "stands", "(Ljava/lang/String;III)Z"⟩
abbrev cTo_stands : ByteArray := prog_11_method_11_code
theorem dTo_stands_0 : decode cTo_stands 0 = .ok (.iload_n 3, 1) := by decide +kernel
theorem dTo_stands_1 : decode cTo_stands 1 = .ok (.istore 5, 2) := by decide +kernel
theorem dTo_stands_3 : decode cTo_stands 3 = .ok (.iload 5, 2) := by decide +kernel
theorem dTo_stands_5 : decode cTo_stands 5 = .ok (.iload 4, 2) := by decide +kernel
theorem dTo_stands_7 : decode cTo_stands 7 = .ok (.if_icmp .ge 48, 3) := by decide +kernel
theorem dTo_stands_55 : decode cTo_stands 55 = .ok (.iconst 1, 1) := by decide +kernel
theorem dTo_stands_56 : decode cTo_stands 56 = .ok (.ireturn, 1) := by decide +kernel
theorem dTo_stands_10 : decode cTo_stands 10 = .ok (.iload_n 2, 1) := by decide +kernel
theorem dTo_stands_11 : decode cTo_stands 11 = .ok (.iload 5, 2) := by decide +kernel
theorem dTo_stands_13 : decode cTo_stands 13 = .ok (.iadd, 1) := by decide +kernel
theorem dTo_stands_14 : decode cTo_stands 14 = .ok (.iload_n 3, 1) := by decide +kernel
theorem dTo_stands_15 : decode cTo_stands 15 = .ok (.isub, 1) := by decide +kernel
theorem dTo_stands_16 : decode cTo_stands 16 = .ok (.istore 6, 2) := by decide +kernel
theorem dTo_stands_18 : decode cTo_stands 18 = .ok (.iload 6, 2) := by decide +kernel
theorem dTo_stands_20 : decode cTo_stands 20 = .ok (.ifCond .lt 27, 3) := by decide +kernel
theorem dTo_stands_47 : decode cTo_stands 47 = .ok (.iconst 0, 1) := by decide +kernel
theorem dTo_stands_48 : decode cTo_stands 48 = .ok (.ireturn, 1) := by decide +kernel
theorem dTo_stands_23 : decode cTo_stands 23 = .ok (.iload 6, 2) := by decide +kernel
theorem dTo_stands_25 : decode cTo_stands 25 = .ok (.aload_n 1, 1) := by decide +kernel
theorem dTo_stands_26 : decode cTo_stands 26 = .ok (.invokevirtual 89, 3) := by decide +kernel
theorem ml_To_89 : Cond.methodLink "LastWordHill$Tokens" 89 yJ0_length_8abf5 ∈ hz_wt := hz_in 849 (by decide +kernel) (by decide +kernel)
theorem dTo_stands_29 : decode cTo_stands 29 = .ok (.if_icmp .ge 18, 3) := by decide +kernel
theorem dTo_stands_32 : decode cTo_stands 32 = .ok (.aload_n 1, 1) := by decide +kernel
theorem dTo_stands_33 : decode cTo_stands 33 = .ok (.iload 6, 2) := by decide +kernel
theorem dTo_stands_35 : decode cTo_stands 35 = .ok (.invokevirtual 92, 3) := by decide +kernel
theorem mm_J0_charAt_5068e : MMc yJ0_charAt_5068e cJ0_charAt_5068e 2 (some .char) 1 := ⟨hz_in 862 (by decide +kernel) (by decide +kernel), hz_in 150 (by decide +kernel) (by decide +kernel), by decide +kernel, by decide⟩
theorem mv_J0_charAt_5068e : Cond.instanceMethod yJ0_charAt_5068e ∈ hz_wt ∧ Cond.selects "java/lang/String" yJ0_charAt_5068e yJ0_charAt_5068e ∈ hz_wt := ⟨hz_in 860 (by decide +kernel) (by decide +kernel), hz_in 861 (by decide +kernel) (by decide +kernel)⟩
theorem ml_To_92 : Cond.methodLink "LastWordHill$Tokens" 92 yJ0_charAt_5068e ∈ hz_wt := hz_in 859 (by decide +kernel) (by decide +kernel)
theorem dTo_stands_38 : decode cTo_stands 38 = .ok (.aload_n 0, 1) := by decide +kernel
theorem dTo_stands_39 : decode cTo_stands 39 = .ok (.iload 5, 2) := by decide +kernel
theorem dTo_stands_41 : decode cTo_stands 41 = .ok (.invokevirtual 35, 3) := by decide +kernel
theorem dTo_stands_44 : decode cTo_stands 44 = .ok (.if_icmp .eq 5, 3) := by decide +kernel
theorem dTo_stands_49 : decode cTo_stands 49 = .ok (.iinc 5 1, 3) := by decide +kernel
theorem dTo_stands_52 : decode cTo_stands 52 = .ok (.goto (-49), 3) := by decide +kernel
def fTo_stands (o1 : Nat) (v2 : Int32) (v3 : Int32) (v4 : Int32) (s0 : Sg) : Option (Int32 × Sg) := lp FU (fun q3 (u3 : Int32) (s1 : Sg) => if v4 ≤ u3 then (gb 1 (some (1, s1))) else (if ((v2 + u3) - v3) < 0 then (gb 0 (some (0, s1))) else (bi (fJ0_length_8abf5 o1 s1) fun r3 s2 => if r3 ≤ ((v2 + u3) - v3) then (gb 0 (some (0, s2))) else (bi (fJ0_charAt_5068e o1 ((v2 + u3) - v3) s2) fun r5 s4 => bi (fTo_signAt u3 s4) fun r7 s6 => if r5 = r7 then (q3 (u3 + 1) s6) else (gb 0 (some (0, s6))))))) v3 s0
set_option maxHeartbeats 4000000 in
set_option maxRecDepth 100000 in
theorem okTo_stands (o1 : Nat) (v2 : Int32) (v3 : Int32) (v4 : Int32) (s0 : Sg) (h1 : o1 < nJS) : ∀ (l : Launch) (w : WC), Ok l w yTo_stands cTo_stands 7 (some .boolean) 5 evI [.ref (w.ad 31), .ref (w.aK o1), .int v2, .int v3, .int v4] s0 (fTo_stands o1 v2 v3 v4 s0) := by
  refine ok_in (ev := fun _ => evI) (av := fun w => [.ref (w.ad 31), .ref (w.aK o1), .int v2, .int v3, .int v4]) "LastWordHill$Tokens" rfl (by decide +kernel) (fun _ => rfl) (fun _ => Nat.le_of_ble_eq_true rfl) ?_
  intro C X E
  show GF C evI 0 [some (.ref (C.w.ad 31)), some (.ref (C.w.aK o1)), some (.int v2), some (.int v3), some (.int v4), none, none] [] s0 (fTo_stands o1 v2 v3 v4 s0)
  unfold fTo_stands
  refine g_iload_n X dTo_stands_0 rfl ?_
  refine g_istore X [some (.ref (C.w.ad 31)), some (.ref (C.w.aK o1)), some (.int v2), some (.int v3), some (.int v4), some (.int v3), none] dTo_stands_1 (by decide) (Nat.le_of_ble_eq_true rfl) rfl ?_
  refine gf_sub (L' := [some (.ref (C.w.ad 31)), some (.ref (C.w.aK o1)), some (.int v2), some (.int v3), some (.int v4), some (.int v3), none]) ?_ (by simp [lsub])
  refine gf_lp (Lf := fun (u3 : Int32) => [some (.ref (C.w.ad 31)), some (.ref (C.w.aK o1)), some (.int v2), some (.int v3), some (.int v4), some (.int u3), none]) (fun q3 hq3 u3 s1 => ?_) FU v3 s0
  refine g_iload X dTo_stands_3 rfl ?_
  refine g_iload X dTo_stands_5 rfl ?_
  refine g_cge X (tgt := 55) dTo_stands_7 (by decide) ?_ ?_
  · refine g_iconst X 1 dTo_stands_55 (by decide) ?_
    exact g_zret X E dTo_stands_56
  · refine g_iload_n X dTo_stands_10 rfl ?_
    refine g_iload X dTo_stands_11 rfl ?_
    refine g_iadd X dTo_stands_13 ?_
    refine g_iload_n X dTo_stands_14 rfl ?_
    refine g_isub X dTo_stands_15 ?_
    refine g_istore X [some (.ref (C.w.ad 31)), some (.ref (C.w.aK o1)), some (.int v2), some (.int v3), some (.int v4), some (.int u3), some (.int ((v2 + u3) - v3))] dTo_stands_16 (by decide) (Nat.le_of_ble_eq_true rfl) rfl ?_
    refine g_iload X dTo_stands_18 rfl ?_
    refine g_zlt X (tgt := 47) dTo_stands_20 (by decide) ?_ ?_
    · refine g_iconst X 0 dTo_stands_47 (by decide) ?_
      exact g_zret X E dTo_stands_48
    · refine g_iload X dTo_stands_23 rfl ?_
      refine g_aload_n X dTo_stands_25 rfl ?_
      refine g_vstrI X [] [.int ((v2 + u3) - v3)] h1 mm_J0_length_8abf5 mv_J0_length_8abf5 ml_To_89 (okJ0_length_8abf5 o1 s1 h1 C.l C.w) rfl (by decide) rfl (Nat.le_of_ble_eq_true rfl) dTo_stands_26 (fun r3 s2 => ?_)
      refine g_cge X (tgt := 47) dTo_stands_29 (by decide) ?_ ?_
      · refine g_iconst X 0 dTo_stands_47 (by decide) ?_
        exact g_zret X E dTo_stands_48
      · refine g_aload_n X dTo_stands_32 rfl ?_
        refine g_iload X dTo_stands_33 rfl ?_
        refine g_vstrI X [.int ((v2 + u3) - v3)] [] h1 mm_J0_charAt_5068e mv_J0_charAt_5068e ml_To_92 (okJ0_charAt_5068e o1 ((v2 + u3) - v3) s2 h1 C.l C.w) rfl (by decide) rfl (Nat.le_of_ble_eq_true rfl) dTo_stands_35 (fun r5 s4 => ?_)
        refine g_aload_n X dTo_stands_38 rfl ?_
        refine g_iload X dTo_stands_39 rfl ?_
        refine g_virtI X [.int u3] [.int r5] k_31 mm_To_signAt mv_To_signAt ml_To_35 (okTo_signAt u3 s4 C.l C.w) rfl (by decide) rfl (Nat.le_of_ble_eq_true rfl) dTo_stands_41 (fun r7 s6 => ?_)
        refine g_ceq X (tgt := 49) dTo_stands_44 (by decide) ?_ ?_
        · refine g_iinc X (u3 + 1) [some (.ref (C.w.ad 31)), some (.ref (C.w.aK o1)), some (.int v2), some (.int v3), some (.int v4), some (.int (u3 + 1)), some (.int ((v2 + u3) - v3))] dTo_stands_49 rfl rfl (by decide) rfl ?_
          refine g_goto X 3 dTo_stands_52 (by decide) ?_
          exact gf_sub (hq3 (u3 + 1) s6) (by simp [lsub])
        · refine g_iconst X 0 dTo_stands_47 (by decide) ?_
          exact g_zret X E dTo_stands_48
def yH_of : MethodName := ⟨"LastWordHill", "of", "(II)I"⟩
abbrev cH_of : ByteArray := prog_1_method_16_code
theorem dH_of_0 : decode cH_of 0 = .ok (.aload_n 0, 1) := by decide +kernel
theorem dH_of_1 : decode cH_of 1 = .ok (.getfield 12, 3) := by decide +kernel
theorem dH_of_4 : decode cH_of 4 = .ok (.iload_n 1, 1) := by decide +kernel
theorem dH_of_5 : decode cH_of 5 = .ok (.invokevirtual 124, 3) := by decide +kernel
theorem dH_of_8 : decode cH_of 8 = .ok (.ifCond .eq 13, 3) := by decide +kernel
theorem dH_of_21 : decode cH_of 21 = .ok (.bipush (-2), 2) := by decide +kernel
theorem dH_of_23 : decode cH_of 23 = .ok (.ireturn, 1) := by decide +kernel
theorem dH_of_11 : decode cH_of 11 = .ok (.iload_n 2, 1) := by decide +kernel
theorem dH_of_12 : decode cH_of 12 = .ok (.iconst 0, 1) := by decide +kernel
theorem dH_of_13 : decode cH_of 13 = .ok (.bipush 10, 2) := by decide +kernel
theorem dH_of_15 : decode cH_of 15 = .ok (.invokestatic 81, 3) := by decide +kernel
theorem dH_of_18 : decode cH_of 18 = .ok (.ifCond .ne 6, 3) := by decide +kernel
theorem dH_of_24 : decode cH_of 24 = .ok (.iload_n 2, 1) := by decide +kernel
theorem dH_of_25 : decode cH_of 25 = .ok (.bipush 8, 2) := by decide +kernel
theorem dH_of_27 : decode cH_of 27 = .ok (.if_icmp .ge 15, 3) := by decide +kernel
theorem dH_of_42 : decode cH_of 42 = .ok (.aload_n 0, 1) := by decide +kernel
theorem dH_of_43 : decode cH_of 43 = .ok (.getfield 29, 3) := by decide +kernel
theorem dH_of_46 : decode cH_of 46 = .ok (.getfield 198, 3) := by decide +kernel
theorem fl_H_198 : FLk "LastWordHill" 198 8 0 := ⟨_, _, _, rfl, by decide, hz_in 312 (by decide +kernel) (by decide +kernel), nL8, by decide, by decide⟩
theorem dH_of_49 : decode cH_of 49 = .ok (.iload_n 2, 1) := by decide +kernel
theorem dH_of_50 : decode cH_of 50 = .ok (.bipush 8, 2) := by decide +kernel
theorem dH_of_52 : decode cH_of 52 = .ok (.isub, 1) := by decide +kernel
theorem dH_of_53 : decode cH_of 53 = .ok (.aload_n 0, 1) := by decide +kernel
theorem dH_of_54 : decode cH_of 54 = .ok (.getfield 12, 3) := by decide +kernel
theorem dH_of_57 : decode cH_of 57 = .ok (.iload_n 1, 1) := by decide +kernel
theorem dH_of_58 : decode cH_of 58 = .ok (.invokevirtual 202, 3) := by decide +kernel
theorem ml_H_202 : Cond.methodLink "LastWordHill" 202 yLa_tells ∈ hz_wt := hz_in 1095 (by decide +kernel) (by decide +kernel)
theorem dH_of_61 : decode cH_of 61 = .ok (.ireturn, 1) := by decide +kernel
theorem dH_of_30 : decode cH_of 30 = .ok (.aload_n 0, 1) := by decide +kernel
theorem dH_of_31 : decode cH_of 31 = .ok (.getfield 12, 3) := by decide +kernel
theorem dH_of_34 : decode cH_of 34 = .ok (.iload_n 1, 1) := by decide +kernel
theorem dH_of_35 : decode cH_of 35 = .ok (.iload_n 2, 1) := by decide +kernel
theorem dH_of_36 : decode cH_of 36 = .ok (.invokevirtual 127, 3) := by decide +kernel
theorem dH_of_39 : decode cH_of 39 = .ok (.goto 22, 3) := by decide +kernel
def fH_of (v1 : Int32) (v2 : Int32) (s0 : Sg) : Option (Int32 × Sg) := bi (fSc_has 1 v1 s0) fun r2 s1 => if r2 = 0 then (some ((-2), s1)) else (bi (fH_within v2 0 10 s1) fun r4 s3 => if r4 = 0 then (some ((-2), s3)) else (if 8 ≤ v2 then (bi (fLa_tells 20 (v2 - 8) 1 v1 s3) fun r6 s5 => some (r6, s5)) else (bi (fSc_tell 1 v1 v2 s3) fun r8 s7 => some (r8, s7))))
set_option maxHeartbeats 4000000 in
set_option maxRecDepth 100000 in
theorem okH_of (v1 : Int32) (v2 : Int32) (s0 : Sg) : ∀ (l : Launch) (w : WC), Ok l w yH_of cH_of 3 (some .int) 5 evI [.ref (w.ad 0), .int v1, .int v2] s0 (fH_of v1 v2 s0) := by
  refine ok_in (ev := fun _ => evI) (av := fun w => [.ref (w.ad 0), .int v1, .int v2]) "LastWordHill" rfl (by decide +kernel) (fun _ => rfl) (fun _ => Nat.le_of_ble_eq_true rfl) ?_
  intro C X E
  show GF C evI 0 [some (.ref (C.w.ad 0)), some (.int v1), some (.int v2)] [] s0 (fH_of v1 v2 s0)
  unfold fH_of
  refine g_aload_n X dH_of_0 rfl ?_
  refine g_getN X fl_H_12 fb_11_0 k_0 r_0_0 dH_of_1 ?_
  refine g_iload_n X dH_of_4 rfl ?_
  refine g_virtI X [.int v1] [] k_1 mm_Sc_has mv_Sc_has ml_H_124 (okSc_has 1 v1 s0 k_1 C.l C.w) rfl (by decide) rfl (Nat.le_of_ble_eq_true rfl) dH_of_5 (fun r2 s1 => ?_)
  refine g_zeq X (tgt := 21) dH_of_8 (by decide) ?_ ?_
  · refine g_bipush X (-2) dH_of_21 (by decide) ?_
    exact g_iret X E dH_of_23
  · refine g_iload_n X dH_of_11 rfl ?_
    refine g_iconst X 0 dH_of_12 (by decide) ?_
    refine g_bipush X 10 dH_of_13 (by decide) ?_
    refine g_statI X [.int v2, .int 0, .int 10] [] mm_H_within ms_H_within ml_H_81 (okH_within v2 0 10 s1 C.l C.w) rfl (by decide) rfl (Nat.le_of_ble_eq_true rfl) dH_of_15 (fun r4 s3 => ?_)
    refine g_zne X (tgt := 24) dH_of_18 (by decide) ?_ ?_
    · refine g_bipush X (-2) dH_of_21 (by decide) ?_
      exact g_iret X E dH_of_23
    · refine g_iload_n X dH_of_24 rfl ?_
      refine g_bipush X 8 dH_of_25 (by decide) ?_
      refine g_cge X (tgt := 42) dH_of_27 (by decide) ?_ ?_
      · refine g_aload_n X dH_of_42 rfl ?_
        refine g_getN X fl_H_29 fb_11_3 k_0 r_0_3 dH_of_43 ?_
        refine g_getN X fl_H_198 fb_8_0 k_19 r_19_0 dH_of_46 ?_
        refine g_iload_n X dH_of_49 rfl ?_
        refine g_bipush X 8 dH_of_50 (by decide) ?_
        refine g_isub X dH_of_52 ?_
        refine g_aload_n X dH_of_53 rfl ?_
        refine g_getN X fl_H_12 fb_11_0 k_0 r_0_0 dH_of_54 ?_
        refine g_iload_n X dH_of_57 rfl ?_
        refine g_virtI X [.int (v2 - 8), .ref (C.w.ad 1), .int v1] [] k_20 mm_La_tells mv_La_tells ml_H_202 (okLa_tells 20 (v2 - 8) 1 v1 s3 k_20 k_1 C.l C.w) rfl (by decide) rfl (Nat.le_of_ble_eq_true rfl) dH_of_58 (fun r6 s5 => ?_)
        exact g_iret X E dH_of_61
      · refine g_aload_n X dH_of_30 rfl ?_
        refine g_getN X fl_H_12 fb_11_0 k_0 r_0_0 dH_of_31 ?_
        refine g_iload_n X dH_of_34 rfl ?_
        refine g_iload_n X dH_of_35 rfl ?_
        refine g_virtI X [.int v1, .int v2] [] k_1 mm_Sc_tell mv_Sc_tell ml_H_127 (okSc_tell 1 v1 v2 s3 k_1 C.l C.w) rfl (by decide) rfl (Nat.le_of_ble_eq_true rfl) dH_of_36 (fun r8 s7 => ?_)
        refine g_goto X 61 dH_of_39 (by decide) ?_
        exact g_iret X E dH_of_61
