def yH_look : MethodName := ⟨"LastWordHill", "look", "(I)I"⟩
abbrev cH_look : ByteArray := prog_1_method_42_code
theorem dH_look_0 : decode cH_look 0 = .ok (.iload_n 1, 1) := by decide +kernel
theorem dH_look_1 : decode cH_look 1 = .ok (.tableswitch 163 0 14 #[75, 83, 91, 99, 107, 115, 123, 131, 139, 147, 163, 163, 163, 163, 155], 75) := by decide +kernel
theorem dH_look_164 : decode cH_look 164 = .ok (.iload_n 1, 1) := by decide +kernel
theorem dH_look_165 : decode cH_look 165 = .ok (.bipush 10, 2) := by decide +kernel
theorem dH_look_167 : decode cH_look 167 = .ok (.bipush 13, 2) := by decide +kernel
theorem dH_look_169 : decode cH_look 169 = .ok (.invokestatic 81, 3) := by decide +kernel
theorem dH_look_172 : decode cH_look 172 = .ok (.ifCond .eq 17, 3) := by decide +kernel
theorem dH_look_189 : decode cH_look 189 = .ok (.bipush (-2), 2) := by decide +kernel
theorem dH_look_191 : decode cH_look 191 = .ok (.ireturn, 1) := by decide +kernel
theorem dH_look_175 : decode cH_look 175 = .ok (.aload_n 0, 1) := by decide +kernel
theorem dH_look_176 : decode cH_look 176 = .ok (.getfield 29, 3) := by decide +kernel
theorem fl_H_29 : FLk "LastWordHill" 29 11 3 := ⟨_, _, _, rfl, by decide, hz_in 556 (by decide +kernel) (by decide +kernel), nL11, by decide, by decide⟩
theorem k_19 : hz_kd 19 = 8 := by decide
theorem fb_11_3 : (hz_bs 11)[3]? = some true := by decide
theorem r_0_3 : hz_rf 0 3 = 19 := by decide
theorem dH_look_179 : decode cH_look 179 = .ok (.iload_n 1, 1) := by decide +kernel
theorem dH_look_180 : decode cH_look 180 = .ok (.bipush 10, 2) := by decide +kernel
theorem dH_look_182 : decode cH_look 182 = .ok (.isub, 1) := by decide +kernel
theorem dH_look_183 : decode cH_look 183 = .ok (.invokevirtual 352, 3) := by decide +kernel
theorem mm_Te_linesOf : MMc yTe_linesOf cTe_linesOf 2 (some .int) 1 := ⟨hz_in 1405 (by decide +kernel) (by decide +kernel), hz_in 137 (by decide +kernel) (by decide +kernel), by decide +kernel, by decide⟩
theorem mv_Te_linesOf : MMv yTe_linesOf 8 := ⟨hz_in 1403 (by decide +kernel) (by decide +kernel), hz_in 1404 (by decide +kernel) (by decide +kernel), _, _, rfl, by decide⟩
theorem ml_H_352 : Cond.methodLink "LastWordHill" 352 yTe_linesOf ∈ hz_wt := hz_in 1402 (by decide +kernel) (by decide +kernel)
theorem dH_look_186 : decode cH_look 186 = .ok (.goto 5, 3) := by decide +kernel
theorem dH_look_156 : decode cH_look 156 = .ok (.aload_n 0, 1) := by decide +kernel
theorem dH_look_157 : decode cH_look 157 = .ok (.getfield 22, 3) := by decide +kernel
theorem dH_look_160 : decode cH_look 160 = .ok (.getfield 351, 3) := by decide +kernel
theorem fl_H_351 : FLk "LastWordHill" 351 3 2 := ⟨_, _, _, rfl, by decide, hz_in 244 (by decide +kernel) (by decide +kernel), nL3, by decide, by decide⟩
theorem dH_look_163 : decode cH_look 163 = .ok (.ireturn, 1) := by decide +kernel
theorem dH_look_148 : decode cH_look 148 = .ok (.aload_n 0, 1) := by decide +kernel
theorem dH_look_149 : decode cH_look 149 = .ok (.getfield 12, 3) := by decide +kernel
theorem dH_look_152 : decode cH_look 152 = .ok (.getfield 92, 3) := by decide +kernel
theorem dH_look_155 : decode cH_look 155 = .ok (.ireturn, 1) := by decide +kernel
theorem dH_look_140 : decode cH_look 140 = .ok (.aload_n 0, 1) := by decide +kernel
theorem dH_look_141 : decode cH_look 141 = .ok (.getfield 12, 3) := by decide +kernel
theorem dH_look_144 : decode cH_look 144 = .ok (.getfield 208, 3) := by decide +kernel
theorem fl_H_208 : FLk "LastWordHill" 208 5 12 := ⟨_, _, _, rfl, by decide, hz_in 203 (by decide +kernel) (by decide +kernel), nL5, by decide, by decide⟩
theorem dH_look_147 : decode cH_look 147 = .ok (.ireturn, 1) := by decide +kernel
theorem dH_look_132 : decode cH_look 132 = .ok (.aload_n 0, 1) := by decide +kernel
theorem dH_look_133 : decode cH_look 133 = .ok (.getfield 12, 3) := by decide +kernel
theorem dH_look_136 : decode cH_look 136 = .ok (.getfield 163, 3) := by decide +kernel
theorem fl_H_163 : FLk "LastWordHill" 163 5 10 := ⟨_, _, _, rfl, by decide, hz_in 198 (by decide +kernel) (by decide +kernel), nL5, by decide, by decide⟩
theorem dH_look_139 : decode cH_look 139 = .ok (.ireturn, 1) := by decide +kernel
theorem dH_look_124 : decode cH_look 124 = .ok (.aload_n 0, 1) := by decide +kernel
theorem dH_look_125 : decode cH_look 125 = .ok (.getfield 12, 3) := by decide +kernel
theorem dH_look_128 : decode cH_look 128 = .ok (.getfield 134, 3) := by decide +kernel
theorem fl_H_134 : FLk "LastWordHill" 134 5 9 := ⟨_, _, _, rfl, by decide, hz_in 195 (by decide +kernel) (by decide +kernel), nL5, by decide, by decide⟩
theorem dH_look_131 : decode cH_look 131 = .ok (.ireturn, 1) := by decide +kernel
theorem dH_look_116 : decode cH_look 116 = .ok (.aload_n 0, 1) := by decide +kernel
theorem dH_look_117 : decode cH_look 117 = .ok (.getfield 12, 3) := by decide +kernel
theorem dH_look_120 : decode cH_look 120 = .ok (.getfield 114, 3) := by decide +kernel
theorem dH_look_123 : decode cH_look 123 = .ok (.ireturn, 1) := by decide +kernel
theorem dH_look_108 : decode cH_look 108 = .ok (.aload_n 0, 1) := by decide +kernel
theorem dH_look_109 : decode cH_look 109 = .ok (.getfield 12, 3) := by decide +kernel
theorem dH_look_112 : decode cH_look 112 = .ok (.getfield 160, 3) := by decide +kernel
theorem fl_H_160 : FLk "LastWordHill" 160 5 7 := ⟨_, _, _, rfl, by decide, hz_in 189 (by decide +kernel) (by decide +kernel), nL5, by decide, by decide⟩
theorem dH_look_115 : decode cH_look 115 = .ok (.ireturn, 1) := by decide +kernel
theorem dH_look_100 : decode cH_look 100 = .ok (.aload_n 0, 1) := by decide +kernel
theorem dH_look_101 : decode cH_look 101 = .ok (.getfield 12, 3) := by decide +kernel
theorem dH_look_104 : decode cH_look 104 = .ok (.getfield 157, 3) := by decide +kernel
theorem fl_H_157 : FLk "LastWordHill" 157 5 6 := ⟨_, _, _, rfl, by decide, hz_in 187 (by decide +kernel) (by decide +kernel), nL5, by decide, by decide⟩
theorem dH_look_107 : decode cH_look 107 = .ok (.ireturn, 1) := by decide +kernel
theorem dH_look_92 : decode cH_look 92 = .ok (.aload_n 0, 1) := by decide +kernel
theorem dH_look_93 : decode cH_look 93 = .ok (.getfield 12, 3) := by decide +kernel
theorem dH_look_96 : decode cH_look 96 = .ok (.getfield 215, 3) := by decide +kernel
theorem fl_H_215 : FLk "LastWordHill" 215 5 4 := ⟨_, _, _, rfl, by decide, hz_in 183 (by decide +kernel) (by decide +kernel), nL5, by decide, by decide⟩
theorem dH_look_99 : decode cH_look 99 = .ok (.ireturn, 1) := by decide +kernel
theorem dH_look_84 : decode cH_look 84 = .ok (.aload_n 0, 1) := by decide +kernel
theorem dH_look_85 : decode cH_look 85 = .ok (.getfield 12, 3) := by decide +kernel
theorem dH_look_88 : decode cH_look 88 = .ok (.getfield 121, 3) := by decide +kernel
theorem dH_look_91 : decode cH_look 91 = .ok (.ireturn, 1) := by decide +kernel
theorem dH_look_76 : decode cH_look 76 = .ok (.aload_n 0, 1) := by decide +kernel
theorem dH_look_77 : decode cH_look 77 = .ok (.getfield 12, 3) := by decide +kernel
theorem dH_look_80 : decode cH_look 80 = .ok (.getfield 103, 3) := by decide +kernel
theorem dH_look_83 : decode cH_look 83 = .ok (.ireturn, 1) := by decide +kernel
def fH_look (v1 : Int32) (s0 : Sg) : Option (Int32 × Sg) := if v1 = 0 then (some ((s0 1 1), s0)) else (if v1 = 1 then (some ((s0 1 2), s0)) else (if v1 = 2 then (some ((s0 1 4), s0)) else (if v1 = 3 then (some ((s0 1 6), s0)) else (if v1 = 4 then (some ((s0 1 7), s0)) else (if v1 = 5 then (some ((s0 1 8), s0)) else (if v1 = 6 then (some ((s0 1 9), s0)) else (if v1 = 7 then (some ((s0 1 10), s0)) else (if v1 = 8 then (some ((s0 1 12), s0)) else (if v1 = 9 then (some ((s0 1 11), s0)) else (if v1 = 10 then (bi (fH_within v1 10 13 s0) fun r18 s17 => if r18 = 0 then (some ((-2), s17)) else (bi (fTe_linesOf 19 (v1 - 10) s17) fun r20 s19 => some (r20, s19))) else (if v1 = 11 then (bi (fH_within v1 10 13 s0) fun r14 s13 => if r14 = 0 then (some ((-2), s13)) else (bi (fTe_linesOf 19 (v1 - 10) s13) fun r16 s15 => some (r16, s15))) else (if v1 = 12 then (bi (fH_within v1 10 13 s0) fun r10 s9 => if r10 = 0 then (some ((-2), s9)) else (bi (fTe_linesOf 19 (v1 - 10) s9) fun r12 s11 => some (r12, s11))) else (if v1 = 13 then (bi (fH_within v1 10 13 s0) fun r6 s5 => if r6 = 0 then (some ((-2), s5)) else (bi (fTe_linesOf 19 (v1 - 10) s5) fun r8 s7 => some (r8, s7))) else (if v1 = 14 then (some ((s0 5 2), s0)) else (bi (fH_within v1 10 13 s0) fun r2 s1 => if r2 = 0 then (some ((-2), s1)) else (bi (fTe_linesOf 19 (v1 - 10) s1) fun r4 s3 => some (r4, s3)))))))))))))))))
set_option maxHeartbeats 4000000 in
set_option maxRecDepth 100000 in
theorem okH_look (v1 : Int32) (s0 : Sg) : ∀ (l : Launch) (w : WC), Ok l w yH_look cH_look 2 (some .int) 2 evI [.ref (w.ad 0), .int v1] s0 (fH_look v1 s0) := by
  refine ok_in (ev := fun _ => evI) (av := fun w => [.ref (w.ad 0), .int v1]) "LastWordHill" rfl (by decide +kernel) (fun _ => rfl) (fun _ => Nat.le_of_ble_eq_true rfl) ?_
  intro C X E
  show GF C evI 0 [some (.ref (C.w.ad 0)), some (.int v1)] [] s0 (fH_look v1 s0)
  unfold fH_look
  refine g_iload_n X dH_look_0 rfl ?_
  refine gf_ite (fun c1_0 => ?_) (fun c1_0 => ?_)
  · refine g_tabIn X (tgt := 76) (off := 75) 0 c1_0 dH_look_1 (by decide) (by decide) ?_
    refine g_aload_n X dH_look_76 rfl ?_
    refine g_getN X fl_H_12 fb_11_0 k_0 r_0_0 dH_look_77 ?_
    refine g_getI X fl_H_103 fb_5_1 k_1 dH_look_80 ?_
    exact g_iret X E dH_look_83
  · refine gf_ite (fun c1_1 => ?_) (fun c1_1 => ?_)
    · refine g_tabIn X (tgt := 84) (off := 83) 1 c1_1 dH_look_1 (by decide) (by decide) ?_
      refine g_aload_n X dH_look_84 rfl ?_
      refine g_getN X fl_H_12 fb_11_0 k_0 r_0_0 dH_look_85 ?_
      refine g_getI X fl_H_121 fb_5_2 k_1 dH_look_88 ?_
      exact g_iret X E dH_look_91
    · refine gf_ite (fun c1_2 => ?_) (fun c1_2 => ?_)
      · refine g_tabIn X (tgt := 92) (off := 91) 2 c1_2 dH_look_1 (by decide) (by decide) ?_
        refine g_aload_n X dH_look_92 rfl ?_
        refine g_getN X fl_H_12 fb_11_0 k_0 r_0_0 dH_look_93 ?_
        refine g_getI X fl_H_215 fb_5_4 k_1 dH_look_96 ?_
        exact g_iret X E dH_look_99
      · refine gf_ite (fun c1_3 => ?_) (fun c1_3 => ?_)
        · refine g_tabIn X (tgt := 100) (off := 99) 3 c1_3 dH_look_1 (by decide) (by decide) ?_
          refine g_aload_n X dH_look_100 rfl ?_
          refine g_getN X fl_H_12 fb_11_0 k_0 r_0_0 dH_look_101 ?_
          refine g_getI X fl_H_157 fb_5_6 k_1 dH_look_104 ?_
          exact g_iret X E dH_look_107
        · refine gf_ite (fun c1_4 => ?_) (fun c1_4 => ?_)
          · refine g_tabIn X (tgt := 108) (off := 107) 4 c1_4 dH_look_1 (by decide) (by decide) ?_
            refine g_aload_n X dH_look_108 rfl ?_
            refine g_getN X fl_H_12 fb_11_0 k_0 r_0_0 dH_look_109 ?_
            refine g_getI X fl_H_160 fb_5_7 k_1 dH_look_112 ?_
            exact g_iret X E dH_look_115
          · refine gf_ite (fun c1_5 => ?_) (fun c1_5 => ?_)
            · refine g_tabIn X (tgt := 116) (off := 115) 5 c1_5 dH_look_1 (by decide) (by decide) ?_
              refine g_aload_n X dH_look_116 rfl ?_
              refine g_getN X fl_H_12 fb_11_0 k_0 r_0_0 dH_look_117 ?_
              refine g_getI X fl_H_114 fb_5_8 k_1 dH_look_120 ?_
              exact g_iret X E dH_look_123
            · refine gf_ite (fun c1_6 => ?_) (fun c1_6 => ?_)
              · refine g_tabIn X (tgt := 124) (off := 123) 6 c1_6 dH_look_1 (by decide) (by decide) ?_
                refine g_aload_n X dH_look_124 rfl ?_
                refine g_getN X fl_H_12 fb_11_0 k_0 r_0_0 dH_look_125 ?_
                refine g_getI X fl_H_134 fb_5_9 k_1 dH_look_128 ?_
                exact g_iret X E dH_look_131
              · refine gf_ite (fun c1_7 => ?_) (fun c1_7 => ?_)
                · refine g_tabIn X (tgt := 132) (off := 131) 7 c1_7 dH_look_1 (by decide) (by decide) ?_
                  refine g_aload_n X dH_look_132 rfl ?_
                  refine g_getN X fl_H_12 fb_11_0 k_0 r_0_0 dH_look_133 ?_
                  refine g_getI X fl_H_163 fb_5_10 k_1 dH_look_136 ?_
                  exact g_iret X E dH_look_139
                · refine gf_ite (fun c1_8 => ?_) (fun c1_8 => ?_)
                  · refine g_tabIn X (tgt := 140) (off := 139) 8 c1_8 dH_look_1 (by decide) (by decide) ?_
                    refine g_aload_n X dH_look_140 rfl ?_
                    refine g_getN X fl_H_12 fb_11_0 k_0 r_0_0 dH_look_141 ?_
                    refine g_getI X fl_H_208 fb_5_12 k_1 dH_look_144 ?_
                    exact g_iret X E dH_look_147
                  · refine gf_ite (fun c1_9 => ?_) (fun c1_9 => ?_)
                    · refine g_tabIn X (tgt := 148) (off := 147) 9 c1_9 dH_look_1 (by decide) (by decide) ?_
                      refine g_aload_n X dH_look_148 rfl ?_
                      refine g_getN X fl_H_12 fb_11_0 k_0 r_0_0 dH_look_149 ?_
                      refine g_getI X fl_H_92 fb_5_11 k_1 dH_look_152 ?_
                      exact g_iret X E dH_look_155
                    · refine gf_ite (fun c1_10 => ?_) (fun c1_10 => ?_)
                      · refine g_tabIn X (tgt := 164) (off := 163) 10 c1_10 dH_look_1 (by decide) (by decide) ?_
                        refine g_iload_n X dH_look_164 rfl ?_
                        refine g_bipush X 10 dH_look_165 (by decide) ?_
                        refine g_bipush X 13 dH_look_167 (by decide) ?_
                        refine g_statI X [.int v1, .int 10, .int 13] [] mm_H_within ms_H_within ml_H_81 (okH_within v1 10 13 s0 C.l C.w) rfl (by decide) rfl (Nat.le_of_ble_eq_true rfl) dH_look_169 (fun r18 s17 => ?_)
                        refine g_zeq X (tgt := 189) dH_look_172 (by decide) ?_ ?_
                        · refine g_bipush X (-2) dH_look_189 (by decide) ?_
                          exact g_iret X E dH_look_191
                        · refine g_aload_n X dH_look_175 rfl ?_
                          refine g_getN X fl_H_29 fb_11_3 k_0 r_0_3 dH_look_176 ?_
                          refine g_iload_n X dH_look_179 rfl ?_
                          refine g_bipush X 10 dH_look_180 (by decide) ?_
                          refine g_isub X dH_look_182 ?_
                          refine g_virtI X [.int (v1 - 10)] [] k_19 mm_Te_linesOf mv_Te_linesOf ml_H_352 (okTe_linesOf 19 (v1 - 10) s17 k_19 C.l C.w) rfl (by decide) rfl (Nat.le_of_ble_eq_true rfl) dH_look_183 (fun r20 s19 => ?_)
                          refine g_goto X 191 dH_look_186 (by decide) ?_
                          exact g_iret X E dH_look_191
                      · refine gf_ite (fun c1_11 => ?_) (fun c1_11 => ?_)
                        · refine g_tabIn X (tgt := 164) (off := 163) 11 c1_11 dH_look_1 (by decide) (by decide) ?_
                          refine g_iload_n X dH_look_164 rfl ?_
                          refine g_bipush X 10 dH_look_165 (by decide) ?_
                          refine g_bipush X 13 dH_look_167 (by decide) ?_
                          refine g_statI X [.int v1, .int 10, .int 13] [] mm_H_within ms_H_within ml_H_81 (okH_within v1 10 13 s0 C.l C.w) rfl (by decide) rfl (Nat.le_of_ble_eq_true rfl) dH_look_169 (fun r14 s13 => ?_)
                          refine g_zeq X (tgt := 189) dH_look_172 (by decide) ?_ ?_
                          · refine g_bipush X (-2) dH_look_189 (by decide) ?_
                            exact g_iret X E dH_look_191
                          · refine g_aload_n X dH_look_175 rfl ?_
                            refine g_getN X fl_H_29 fb_11_3 k_0 r_0_3 dH_look_176 ?_
                            refine g_iload_n X dH_look_179 rfl ?_
                            refine g_bipush X 10 dH_look_180 (by decide) ?_
                            refine g_isub X dH_look_182 ?_
                            refine g_virtI X [.int (v1 - 10)] [] k_19 mm_Te_linesOf mv_Te_linesOf ml_H_352 (okTe_linesOf 19 (v1 - 10) s13 k_19 C.l C.w) rfl (by decide) rfl (Nat.le_of_ble_eq_true rfl) dH_look_183 (fun r16 s15 => ?_)
                            refine g_goto X 191 dH_look_186 (by decide) ?_
                            exact g_iret X E dH_look_191
                        · refine gf_ite (fun c1_12 => ?_) (fun c1_12 => ?_)
                          · refine g_tabIn X (tgt := 164) (off := 163) 12 c1_12 dH_look_1 (by decide) (by decide) ?_
                            refine g_iload_n X dH_look_164 rfl ?_
                            refine g_bipush X 10 dH_look_165 (by decide) ?_
                            refine g_bipush X 13 dH_look_167 (by decide) ?_
                            refine g_statI X [.int v1, .int 10, .int 13] [] mm_H_within ms_H_within ml_H_81 (okH_within v1 10 13 s0 C.l C.w) rfl (by decide) rfl (Nat.le_of_ble_eq_true rfl) dH_look_169 (fun r10 s9 => ?_)
                            refine g_zeq X (tgt := 189) dH_look_172 (by decide) ?_ ?_
                            · refine g_bipush X (-2) dH_look_189 (by decide) ?_
                              exact g_iret X E dH_look_191
                            · refine g_aload_n X dH_look_175 rfl ?_
                              refine g_getN X fl_H_29 fb_11_3 k_0 r_0_3 dH_look_176 ?_
                              refine g_iload_n X dH_look_179 rfl ?_
                              refine g_bipush X 10 dH_look_180 (by decide) ?_
                              refine g_isub X dH_look_182 ?_
                              refine g_virtI X [.int (v1 - 10)] [] k_19 mm_Te_linesOf mv_Te_linesOf ml_H_352 (okTe_linesOf 19 (v1 - 10) s9 k_19 C.l C.w) rfl (by decide) rfl (Nat.le_of_ble_eq_true rfl) dH_look_183 (fun r12 s11 => ?_)
                              refine g_goto X 191 dH_look_186 (by decide) ?_
                              exact g_iret X E dH_look_191
                          · refine gf_ite (fun c1_13 => ?_) (fun c1_13 => ?_)
                            · refine g_tabIn X (tgt := 164) (off := 163) 13 c1_13 dH_look_1 (by decide) (by decide) ?_
                              refine g_iload_n X dH_look_164 rfl ?_
                              refine g_bipush X 10 dH_look_165 (by decide) ?_
                              refine g_bipush X 13 dH_look_167 (by decide) ?_
                              refine g_statI X [.int v1, .int 10, .int 13] [] mm_H_within ms_H_within ml_H_81 (okH_within v1 10 13 s0 C.l C.w) rfl (by decide) rfl (Nat.le_of_ble_eq_true rfl) dH_look_169 (fun r6 s5 => ?_)
                              refine g_zeq X (tgt := 189) dH_look_172 (by decide) ?_ ?_
                              · refine g_bipush X (-2) dH_look_189 (by decide) ?_
                                exact g_iret X E dH_look_191
                              · refine g_aload_n X dH_look_175 rfl ?_
                                refine g_getN X fl_H_29 fb_11_3 k_0 r_0_3 dH_look_176 ?_
                                refine g_iload_n X dH_look_179 rfl ?_
                                refine g_bipush X 10 dH_look_180 (by decide) ?_
                                refine g_isub X dH_look_182 ?_
                                refine g_virtI X [.int (v1 - 10)] [] k_19 mm_Te_linesOf mv_Te_linesOf ml_H_352 (okTe_linesOf 19 (v1 - 10) s5 k_19 C.l C.w) rfl (by decide) rfl (Nat.le_of_ble_eq_true rfl) dH_look_183 (fun r8 s7 => ?_)
                                refine g_goto X 191 dH_look_186 (by decide) ?_
                                exact g_iret X E dH_look_191
                            · refine gf_ite (fun c1_14 => ?_) (fun c1_14 => ?_)
                              · refine g_tabIn X (tgt := 156) (off := 155) 14 c1_14 dH_look_1 (by decide) (by decide) ?_
                                refine g_aload_n X dH_look_156 rfl ?_
                                refine g_getN X fl_H_22 fb_11_2 k_0 r_0_2 dH_look_157 ?_
                                refine g_getI X fl_H_351 fb_3_2 k_5 dH_look_160 ?_
                                exact g_iret X E dH_look_163
                              · have z0 := ne_toInt c1_0
                                have z1 := ne_toInt c1_1
                                have z2 := ne_toInt c1_2
                                have z3 := ne_toInt c1_3
                                have z4 := ne_toInt c1_4
                                have z5 := ne_toInt c1_5
                                have z6 := ne_toInt c1_6
                                have z7 := ne_toInt c1_7
                                have z8 := ne_toInt c1_8
                                have z9 := ne_toInt c1_9
                                have z10 := ne_toInt c1_10
                                have z11 := ne_toInt c1_11
                                have z12 := ne_toInt c1_12
                                have z13 := ne_toInt c1_13
                                have z14 := ne_toInt c1_14
                                refine g_tabOut X (tgt := 164) dH_look_1 (by simp at z0 z1 z2 z3 z4 z5 z6 z7 z8 z9 z10 z11 z12 z13 z14; omega) (by decide) ?_
                                refine g_iload_n X dH_look_164 rfl ?_
                                refine g_bipush X 10 dH_look_165 (by decide) ?_
                                refine g_bipush X 13 dH_look_167 (by decide) ?_
                                refine g_statI X [.int v1, .int 10, .int 13] [] mm_H_within ms_H_within ml_H_81 (okH_within v1 10 13 s0 C.l C.w) rfl (by decide) rfl (Nat.le_of_ble_eq_true rfl) dH_look_169 (fun r2 s1 => ?_)
                                refine g_zeq X (tgt := 189) dH_look_172 (by decide) ?_ ?_
                                · refine g_bipush X (-2) dH_look_189 (by decide) ?_
                                  exact g_iret X E dH_look_191
                                · refine g_aload_n X dH_look_175 rfl ?_
                                  refine g_getN X fl_H_29 fb_11_3 k_0 r_0_3 dH_look_176 ?_
                                  refine g_iload_n X dH_look_179 rfl ?_
                                  refine g_bipush X 10 dH_look_180 (by decide) ?_
                                  refine g_isub X dH_look_182 ?_
                                  refine g_virtI X [.int (v1 - 10)] [] k_19 mm_Te_linesOf mv_Te_linesOf ml_H_352 (okTe_linesOf 19 (v1 - 10) s1 k_19 C.l C.w) rfl (by decide) rfl (Nat.le_of_ble_eq_true rfl) dH_look_183 (fun r4 s3 => ?_)
                                  refine g_goto X 191 dH_look_186 (by decide) ?_
                                  exact g_iret X E dH_look_191
theorem k_102 : hz_kd 102 = 12 := by decide
def yM_isIn : MethodName := ⟨"LastWordHillModel", "isIn", "(III)Z"⟩
abbrev cM_isIn : ByteArray := prog_14_method_3_code
theorem dM_isIn_0 : decode cM_isIn 0 = .ok (.iload_n 1, 1) := by decide +kernel
theorem dM_isIn_1 : decode cM_isIn 1 = .ok (.iload_n 2, 1) := by decide +kernel
theorem dM_isIn_2 : decode cM_isIn 2 = .ok (.if_icmp .lt 12, 3) := by decide +kernel
theorem dM_isIn_14 : decode cM_isIn 14 = .ok (.iconst 0, 1) := by decide +kernel
theorem dM_isIn_15 : decode cM_isIn 15 = .ok (.ireturn, 1) := by decide +kernel
theorem dM_isIn_5 : decode cM_isIn 5 = .ok (.iload_n 1, 1) := by decide +kernel
theorem dM_isIn_6 : decode cM_isIn 6 = .ok (.iload_n 3, 1) := by decide +kernel
theorem dM_isIn_7 : decode cM_isIn 7 = .ok (.if_icmp .gt 7, 3) := by decide +kernel
theorem dM_isIn_10 : decode cM_isIn 10 = .ok (.iconst 1, 1) := by decide +kernel
theorem dM_isIn_11 : decode cM_isIn 11 = .ok (.goto 4, 3) := by decide +kernel
def fM_isIn (v1 : Int32) (v2 : Int32) (v3 : Int32) (s0 : Sg) : Option (Int32 × Sg) := if v1 < v2 then (gb 0 (some (0, s0))) else (if v3 < v1 then (gb 0 (some (0, s0))) else (gb 1 (some (1, s0))))
set_option maxHeartbeats 4000000 in
set_option maxRecDepth 100000 in
theorem okM_isIn (v1 : Int32) (v2 : Int32) (v3 : Int32) (s0 : Sg) : ∀ (l : Launch) (w : WC), Ok l w yM_isIn cM_isIn 4 (some .boolean) 1 evI [.ref (w.ad 102), .int v1, .int v2, .int v3] s0 (fM_isIn v1 v2 v3 s0) := by
  refine ok_in (ev := fun _ => evI) (av := fun w => [.ref (w.ad 102), .int v1, .int v2, .int v3]) "LastWordHillModel" rfl (by decide +kernel) (fun _ => rfl) (fun _ => Nat.le_of_ble_eq_true rfl) ?_
  intro C X E
  show GF C evI 0 [some (.ref (C.w.ad 102)), some (.int v1), some (.int v2), some (.int v3)] [] s0 (fM_isIn v1 v2 v3 s0)
  unfold fM_isIn
  refine g_iload_n X dM_isIn_0 rfl ?_
  refine g_iload_n X dM_isIn_1 rfl ?_
  refine g_clt X (tgt := 14) dM_isIn_2 (by decide) ?_ ?_
  · refine g_iconst X 0 dM_isIn_14 (by decide) ?_
    exact g_zret X E dM_isIn_15
  · refine g_iload_n X dM_isIn_5 rfl ?_
    refine g_iload_n X dM_isIn_6 rfl ?_
    refine g_cgt X (tgt := 14) dM_isIn_7 (by decide) ?_ ?_
    · refine g_iconst X 0 dM_isIn_14 (by decide) ?_
      exact g_zret X E dM_isIn_15
    · refine g_iconst X 1 dM_isIn_10 (by decide) ?_
      refine g_goto X 15 dM_isIn_11 (by decide) ?_
      exact g_zret X E dM_isIn_15
def yM_held : MethodName := ⟨"LastWordHillModel", "held", "(III)I"⟩
abbrev cM_held : ByteArray := prog_14_method_4_code
theorem dM_held_0 : decode cM_held 0 = .ok (.iload_n 1, 1) := by decide +kernel
theorem dM_held_1 : decode cM_held 1 = .ok (.iload_n 2, 1) := by decide +kernel
theorem dM_held_2 : decode cM_held 2 = .ok (.if_icmp .ge 7, 3) := by decide +kernel
theorem dM_held_9 : decode cM_held 9 = .ok (.iload_n 1, 1) := by decide +kernel
theorem dM_held_10 : decode cM_held 10 = .ok (.iload_n 3, 1) := by decide +kernel
theorem dM_held_11 : decode cM_held 11 = .ok (.if_icmp .le 7, 3) := by decide +kernel
theorem dM_held_18 : decode cM_held 18 = .ok (.iload_n 1, 1) := by decide +kernel
theorem dM_held_19 : decode cM_held 19 = .ok (.ireturn, 1) := by decide +kernel
theorem dM_held_14 : decode cM_held 14 = .ok (.iload_n 3, 1) := by decide +kernel
theorem dM_held_15 : decode cM_held 15 = .ok (.goto 4, 3) := by decide +kernel
theorem dM_held_5 : decode cM_held 5 = .ok (.iload_n 2, 1) := by decide +kernel
theorem dM_held_6 : decode cM_held 6 = .ok (.goto 13, 3) := by decide +kernel
def fM_held (v1 : Int32) (v2 : Int32) (v3 : Int32) (s0 : Sg) : Option (Int32 × Sg) := if v2 ≤ v1 then (if v1 ≤ v3 then (some (v1, s0)) else (some (v3, s0))) else (some (v2, s0))
set_option maxHeartbeats 4000000 in
set_option maxRecDepth 100000 in
theorem okM_held (v1 : Int32) (v2 : Int32) (v3 : Int32) (s0 : Sg) : ∀ (l : Launch) (w : WC), Ok l w yM_held cM_held 4 (some .int) 1 evI [.ref (w.ad 102), .int v1, .int v2, .int v3] s0 (fM_held v1 v2 v3 s0) := by
  refine ok_in (ev := fun _ => evI) (av := fun w => [.ref (w.ad 102), .int v1, .int v2, .int v3]) "LastWordHillModel" rfl (by decide +kernel) (fun _ => rfl) (fun _ => Nat.le_of_ble_eq_true rfl) ?_
  intro C X E
  show GF C evI 0 [some (.ref (C.w.ad 102)), some (.int v1), some (.int v2), some (.int v3)] [] s0 (fM_held v1 v2 v3 s0)
  unfold fM_held
  refine g_iload_n X dM_held_0 rfl ?_
  refine g_iload_n X dM_held_1 rfl ?_
  refine g_cge X (tgt := 9) dM_held_2 (by decide) ?_ ?_
  · refine g_iload_n X dM_held_9 rfl ?_
    refine g_iload_n X dM_held_10 rfl ?_
    refine g_cle X (tgt := 18) dM_held_11 (by decide) ?_ ?_
    · refine g_iload_n X dM_held_18 rfl ?_
      exact g_iret X E dM_held_19
    · refine g_iload_n X dM_held_14 rfl ?_
      refine g_goto X 19 dM_held_15 (by decide) ?_
      exact g_iret X E dM_held_19
  · refine g_iload_n X dM_held_5 rfl ?_
    refine g_goto X 19 dM_held_6 (by decide) ?_
    exact g_iret X E dM_held_19
def yM_greater : MethodName := ⟨"LastWordHillModel", "greater", "(II)I"⟩
abbrev cM_greater : ByteArray := prog_14_method_5_code
theorem dM_greater_0 : decode cM_greater 0 = .ok (.iload_n 1, 1) := by decide +kernel
theorem dM_greater_1 : decode cM_greater 1 = .ok (.iload_n 2, 1) := by decide +kernel
theorem dM_greater_2 : decode cM_greater 2 = .ok (.if_icmp .le 7, 3) := by decide +kernel
theorem dM_greater_9 : decode cM_greater 9 = .ok (.iload_n 2, 1) := by decide +kernel
theorem dM_greater_10 : decode cM_greater 10 = .ok (.ireturn, 1) := by decide +kernel
theorem dM_greater_5 : decode cM_greater 5 = .ok (.iload_n 1, 1) := by decide +kernel
theorem dM_greater_6 : decode cM_greater 6 = .ok (.goto 4, 3) := by decide +kernel
def fM_greater (v1 : Int32) (v2 : Int32) (s0 : Sg) : Option (Int32 × Sg) := if v1 ≤ v2 then (some (v2, s0)) else (some (v1, s0))
set_option maxHeartbeats 4000000 in
set_option maxRecDepth 100000 in
theorem okM_greater (v1 : Int32) (v2 : Int32) (s0 : Sg) : ∀ (l : Launch) (w : WC), Ok l w yM_greater cM_greater 3 (some .int) 1 evI [.ref (w.ad 102), .int v1, .int v2] s0 (fM_greater v1 v2 s0) := by
  refine ok_in (ev := fun _ => evI) (av := fun w => [.ref (w.ad 102), .int v1, .int v2]) "LastWordHillModel" rfl (by decide +kernel) (fun _ => rfl) (fun _ => Nat.le_of_ble_eq_true rfl) ?_
  intro C X E
  show GF C evI 0 [some (.ref (C.w.ad 102)), some (.int v1), some (.int v2)] [] s0 (fM_greater v1 v2 s0)
  unfold fM_greater
  refine g_iload_n X dM_greater_0 rfl ?_
  refine g_iload_n X dM_greater_1 rfl ?_
  refine g_cle X (tgt := 9) dM_greater_2 (by decide) ?_ ?_
  · refine g_iload_n X dM_greater_9 rfl ?_
    exact g_iret X E dM_greater_10
  · refine g_iload_n X dM_greater_5 rfl ?_
    refine g_goto X 10 dM_greater_6 (by decide) ?_
    exact g_iret X E dM_greater_10
def yM_lesser : MethodName := ⟨"LastWordHillModel", "lesser", "(II)I"⟩
abbrev cM_lesser : ByteArray := prog_14_method_6_code
theorem dM_lesser_0 : decode cM_lesser 0 = .ok (.iload_n 1, 1) := by decide +kernel
theorem dM_lesser_1 : decode cM_lesser 1 = .ok (.iload_n 2, 1) := by decide +kernel
theorem dM_lesser_2 : decode cM_lesser 2 = .ok (.if_icmp .ge 7, 3) := by decide +kernel
theorem dM_lesser_9 : decode cM_lesser 9 = .ok (.iload_n 2, 1) := by decide +kernel
theorem dM_lesser_10 : decode cM_lesser 10 = .ok (.ireturn, 1) := by decide +kernel
theorem dM_lesser_5 : decode cM_lesser 5 = .ok (.iload_n 1, 1) := by decide +kernel
theorem dM_lesser_6 : decode cM_lesser 6 = .ok (.goto 4, 3) := by decide +kernel
def fM_lesser (v1 : Int32) (v2 : Int32) (s0 : Sg) : Option (Int32 × Sg) := if v2 ≤ v1 then (some (v2, s0)) else (some (v1, s0))
set_option maxHeartbeats 4000000 in
set_option maxRecDepth 100000 in
theorem okM_lesser (v1 : Int32) (v2 : Int32) (s0 : Sg) : ∀ (l : Launch) (w : WC), Ok l w yM_lesser cM_lesser 3 (some .int) 1 evI [.ref (w.ad 102), .int v1, .int v2] s0 (fM_lesser v1 v2 s0) := by
  refine ok_in (ev := fun _ => evI) (av := fun w => [.ref (w.ad 102), .int v1, .int v2]) "LastWordHillModel" rfl (by decide +kernel) (fun _ => rfl) (fun _ => Nat.le_of_ble_eq_true rfl) ?_
  intro C X E
  show GF C evI 0 [some (.ref (C.w.ad 102)), some (.int v1), some (.int v2)] [] s0 (fM_lesser v1 v2 s0)
  unfold fM_lesser
  refine g_iload_n X dM_lesser_0 rfl ?_
  refine g_iload_n X dM_lesser_1 rfl ?_
  refine g_cge X (tgt := 9) dM_lesser_2 (by decide) ?_ ?_
  · refine g_iload_n X dM_lesser_9 rfl ?_
    exact g_iret X E dM_lesser_10
  · refine g_iload_n X dM_lesser_5 rfl ?_
    refine g_goto X 10 dM_lesser_6 (by decide) ?_
    exact g_iret X E dM_lesser_10
def yM_onesOf : MethodName := ⟨"LastWordHillModel", "onesOf", "(I)I"⟩
abbrev cM_onesOf : ByteArray := prog_14_method_7_code
theorem dM_onesOf_0 : decode cM_onesOf 0 = .ok (.iconst 0, 1) := by decide +kernel
theorem dM_onesOf_1 : decode cM_onesOf 1 = .ok (.istore_n 2, 1) := by decide +kernel
theorem dM_onesOf_2 : decode cM_onesOf 2 = .ok (.iload_n 1, 1) := by decide +kernel
theorem dM_onesOf_3 : decode cM_onesOf 3 = .ok (.istore_n 3, 1) := by decide +kernel
theorem dM_onesOf_4 : decode cM_onesOf 4 = .ok (.iload_n 3, 1) := by decide +kernel
theorem dM_onesOf_5 : decode cM_onesOf 5 = .ok (.ifCond .eq 16, 3) := by decide +kernel
theorem dM_onesOf_21 : decode cM_onesOf 21 = .ok (.iload_n 2, 1) := by decide +kernel
theorem dM_onesOf_22 : decode cM_onesOf 22 = .ok (.ireturn, 1) := by decide +kernel
theorem dM_onesOf_8 : decode cM_onesOf 8 = .ok (.iload_n 2, 1) := by decide +kernel
theorem dM_onesOf_9 : decode cM_onesOf 9 = .ok (.iconst 1, 1) := by decide +kernel
theorem dM_onesOf_10 : decode cM_onesOf 10 = .ok (.iadd, 1) := by decide +kernel
theorem dM_onesOf_11 : decode cM_onesOf 11 = .ok (.istore_n 2, 1) := by decide +kernel
theorem dM_onesOf_12 : decode cM_onesOf 12 = .ok (.iload_n 3, 1) := by decide +kernel
theorem dM_onesOf_13 : decode cM_onesOf 13 = .ok (.iload_n 3, 1) := by decide +kernel
theorem dM_onesOf_14 : decode cM_onesOf 14 = .ok (.iconst 1, 1) := by decide +kernel
theorem dM_onesOf_15 : decode cM_onesOf 15 = .ok (.isub, 1) := by decide +kernel
theorem dM_onesOf_16 : decode cM_onesOf 16 = .ok (.iand, 1) := by decide +kernel
theorem dM_onesOf_17 : decode cM_onesOf 17 = .ok (.istore_n 3, 1) := by decide +kernel
theorem dM_onesOf_18 : decode cM_onesOf 18 = .ok (.goto (-14), 3) := by decide +kernel
def fM_onesOf (v1 : Int32) (s0 : Sg) : Option (Int32 × Sg) := lp FU (fun q4 (u4 : Int32 × Int32) (s1 : Sg) => if u4.2 = 0 then (some (u4.1, s1)) else (q4 ((u4.1 + 1), (u4.2 &&& (u4.2 - 1))) s1)) (0, v1) s0
set_option maxHeartbeats 4000000 in
set_option maxRecDepth 100000 in
theorem okM_onesOf (v1 : Int32) (s0 : Sg) : ∀ (l : Launch) (w : WC), Ok l w yM_onesOf cM_onesOf 4 (some .int) 1 evI [.ref (w.ad 102), .int v1] s0 (fM_onesOf v1 s0) := by
  refine ok_in (ev := fun _ => evI) (av := fun w => [.ref (w.ad 102), .int v1]) "LastWordHillModel" rfl (by decide +kernel) (fun _ => rfl) (fun _ => Nat.le_of_ble_eq_true rfl) ?_
  intro C X E
  show GF C evI 0 [some (.ref (C.w.ad 102)), some (.int v1), none, none] [] s0 (fM_onesOf v1 s0)
  unfold fM_onesOf
  refine g_iconst X 0 dM_onesOf_0 (by decide) ?_
  refine g_istore_n X [some (.ref (C.w.ad 102)), some (.int v1), some (.int 0), none] dM_onesOf_1 (by decide) (Nat.le_of_ble_eq_true rfl) rfl ?_
  refine g_iload_n X dM_onesOf_2 rfl ?_
  refine g_istore_n X [some (.ref (C.w.ad 102)), some (.int v1), some (.int 0), some (.int v1)] dM_onesOf_3 (by decide) (Nat.le_of_ble_eq_true rfl) rfl ?_
  refine gf_sub (L' := [none, none, some (.int 0), some (.int v1)]) ?_ (by simp [lsub])
  refine gf_lp (Lf := fun (u4 : Int32 × Int32) => [none, none, some (.int u4.1), some (.int u4.2)]) (fun q4 hq4 u4 s1 => ?_) FU (0, v1) s0
  refine g_iload_n X dM_onesOf_4 rfl ?_
  refine g_zeq X (tgt := 21) dM_onesOf_5 (by decide) ?_ ?_
  · refine g_iload_n X dM_onesOf_21 rfl ?_
    exact g_iret X E dM_onesOf_22
  · refine g_iload_n X dM_onesOf_8 rfl ?_
    refine g_iconst X 1 dM_onesOf_9 (by decide) ?_
    refine g_iadd X dM_onesOf_10 ?_
    refine g_istore_n X [none, none, some (.int (u4.1 + 1)), some (.int u4.2)] dM_onesOf_11 (by decide) (Nat.le_of_ble_eq_true rfl) rfl ?_
    refine g_iload_n X dM_onesOf_12 rfl ?_
    refine g_iload_n X dM_onesOf_13 rfl ?_
    refine g_iconst X 1 dM_onesOf_14 (by decide) ?_
    refine g_isub X dM_onesOf_15 ?_
    refine g_iand X dM_onesOf_16 ?_
    refine g_istore_n X [none, none, some (.int (u4.1 + 1)), some (.int (u4.2 &&& (u4.2 - 1)))] dM_onesOf_17 (by decide) (Nat.le_of_ble_eq_true rfl) rfl ?_
    refine g_goto X 4 dM_onesOf_18 (by decide) ?_
    exact gf_sub (hq4 ((u4.1 + 1), (u4.2 &&& (u4.2 - 1))) s1) (by simp [lsub])
def yM_has : MethodName := ⟨"LastWordHillModel", "has", "(II)Z"⟩
abbrev cM_has : ByteArray := prog_14_method_8_code
theorem dM_has_0 : decode cM_has 0 = .ok (.iload_n 1, 1) := by decide +kernel
theorem dM_has_1 : decode cM_has 1 = .ok (.iload_n 2, 1) := by decide +kernel
theorem dM_has_2 : decode cM_has 2 = .ok (.ishr, 1) := by decide +kernel
theorem dM_has_3 : decode cM_has 3 = .ok (.iconst 1, 1) := by decide +kernel
theorem dM_has_4 : decode cM_has 4 = .ok (.iand, 1) := by decide +kernel
theorem dM_has_5 : decode cM_has 5 = .ok (.iconst 1, 1) := by decide +kernel
theorem dM_has_6 : decode cM_has 6 = .ok (.if_icmp .ne 7, 3) := by decide +kernel
theorem dM_has_13 : decode cM_has 13 = .ok (.iconst 0, 1) := by decide +kernel
theorem dM_has_14 : decode cM_has 14 = .ok (.ireturn, 1) := by decide +kernel
theorem dM_has_9 : decode cM_has 9 = .ok (.iconst 1, 1) := by decide +kernel
theorem dM_has_10 : decode cM_has 10 = .ok (.goto 4, 3) := by decide +kernel
def fM_has (v1 : Int32) (v2 : Int32) (s0 : Sg) : Option (Int32 × Sg) := if ((v1 >>> (v2 &&& 31)) &&& 1) = 1 then (gb 1 (some (1, s0))) else (gb 0 (some (0, s0)))
set_option maxHeartbeats 4000000 in
set_option maxRecDepth 100000 in
theorem okM_has (v1 : Int32) (v2 : Int32) (s0 : Sg) : ∀ (l : Launch) (w : WC), Ok l w yM_has cM_has 3 (some .boolean) 1 evI [.ref (w.ad 102), .int v1, .int v2] s0 (fM_has v1 v2 s0) := by
  refine ok_in (ev := fun _ => evI) (av := fun w => [.ref (w.ad 102), .int v1, .int v2]) "LastWordHillModel" rfl (by decide +kernel) (fun _ => rfl) (fun _ => Nat.le_of_ble_eq_true rfl) ?_
  intro C X E
  show GF C evI 0 [some (.ref (C.w.ad 102)), some (.int v1), some (.int v2)] [] s0 (fM_has v1 v2 s0)
  unfold fM_has
  refine g_iload_n X dM_has_0 rfl ?_
  refine g_iload_n X dM_has_1 rfl ?_
  refine g_ishr X dM_has_2 ?_
  refine g_iconst X 1 dM_has_3 (by decide) ?_
  refine g_iand X dM_has_4 ?_
  refine g_iconst X 1 dM_has_5 (by decide) ?_
  refine g_cne X (tgt := 13) dM_has_6 (by decide) ?_ ?_
  · refine g_iconst X 1 dM_has_9 (by decide) ?_
    refine g_goto X 14 dM_has_10 (by decide) ?_
    exact g_zret X E dM_has_14
  · refine g_iconst X 0 dM_has_13 (by decide) ?_
    exact g_zret X E dM_has_14
def yM_keepsAhead : MethodName := ⟨"LastWordHillModel", "keepsAhead", "()V"⟩
abbrev cM_keepsAhead : ByteArray := prog_14_method_9_code
theorem dM_keepsAhead_0 : decode cM_keepsAhead 0 = .ok (.aload_n 0, 1) := by decide +kernel
theorem dM_keepsAhead_1 : decode cM_keepsAhead 1 = .ok (.getfield 137, 3) := by decide +kernel
theorem fl_M_137 : FLk "LastWordHillModel" 137 12 3 := ⟨_, _, _, rfl, by decide, hz_in 1415 (by decide +kernel) (by decide +kernel), nL12, by decide, by decide⟩
theorem fb_12_3 : (hz_bs 12)[3]? = some false := by decide
theorem dM_keepsAhead_4 : decode cM_keepsAhead 4 = .ok (.bipush 6, 2) := by decide +kernel
theorem dM_keepsAhead_6 : decode cM_keepsAhead 6 = .ok (.if_icmp .ne 47, 3) := by decide +kernel
theorem dM_keepsAhead_53 : decode cM_keepsAhead 53 = .ok (.iconst 0, 1) := by decide +kernel
theorem dM_keepsAhead_54 : decode cM_keepsAhead 54 = .ok (.istore_n 1, 1) := by decide +kernel
theorem dM_keepsAhead_55 : decode cM_keepsAhead 55 = .ok (.iload_n 1, 1) := by decide +kernel
theorem dM_keepsAhead_56 : decode cM_keepsAhead 56 = .ok (.bipush 50, 2) := by decide +kernel
theorem dM_keepsAhead_58 : decode cM_keepsAhead 58 = .ok (.if_icmp .ge 29, 3) := by decide +kernel
theorem dM_keepsAhead_87 : decode cM_keepsAhead 87 = .ok (.aload_n 0, 1) := by decide +kernel
theorem dM_keepsAhead_88 : decode cM_keepsAhead 88 = .ok (.aload_n 0, 1) := by decide +kernel
theorem dM_keepsAhead_89 : decode cM_keepsAhead 89 = .ok (.getfield 137, 3) := by decide +kernel
theorem dM_keepsAhead_92 : decode cM_keepsAhead 92 = .ok (.iconst 1, 1) := by decide +kernel
theorem dM_keepsAhead_93 : decode cM_keepsAhead 93 = .ok (.iadd, 1) := by decide +kernel
theorem dM_keepsAhead_94 : decode cM_keepsAhead 94 = .ok (.putfield 137, 3) := by decide +kernel
theorem fp_12_3 : FLp 12 3 .int := ⟨_, _, _, _, rfl, nY12, nN12, by decide, by decide⟩
theorem dM_keepsAhead_97 : decode cM_keepsAhead 97 = .ok (.return_, 1) := by decide +kernel
theorem dM_keepsAhead_61 : decode cM_keepsAhead 61 = .ok (.aload_n 0, 1) := by decide +kernel
theorem dM_keepsAhead_62 : decode cM_keepsAhead 62 = .ok (.getfield 13, 3) := by decide +kernel
theorem fl_M_13 : FLk "LastWordHillModel" 13 12 2 := ⟨_, _, _, rfl, by decide, hz_in 1414 (by decide +kernel) (by decide +kernel), nL12, by decide, by decide⟩
theorem k_104 : hz_kd 104 = 13 := by decide
theorem fb_12_2 : (hz_bs 12)[2]? = some true := by decide
theorem r_102_2 : hz_rf 102 2 = 104 := by decide
theorem dM_keepsAhead_65 : decode cM_keepsAhead 65 = .ok (.bipush 50, 2) := by decide +kernel
theorem dM_keepsAhead_67 : decode cM_keepsAhead 67 = .ok (.aload_n 0, 1) := by decide +kernel
theorem dM_keepsAhead_68 : decode cM_keepsAhead 68 = .ok (.getfield 137, 3) := by decide +kernel
theorem dM_keepsAhead_71 : decode cM_keepsAhead 71 = .ok (.imul, 1) := by decide +kernel
theorem dM_keepsAhead_72 : decode cM_keepsAhead 72 = .ok (.iload_n 1, 1) := by decide +kernel
theorem dM_keepsAhead_73 : decode cM_keepsAhead 73 = .ok (.iadd, 1) := by decide +kernel
theorem dM_keepsAhead_74 : decode cM_keepsAhead 74 = .ok (.aload_n 0, 1) := by decide +kernel
theorem dM_keepsAhead_75 : decode cM_keepsAhead 75 = .ok (.getfield 7, 3) := by decide +kernel
theorem fl_M_7 : FLk "LastWordHillModel" 7 12 1 := ⟨_, _, _, rfl, by decide, hz_in 1413 (by decide +kernel) (by decide +kernel), nL12, by decide, by decide⟩
theorem k_103 : hz_kd 103 = 13 := by decide
theorem fb_12_1 : (hz_bs 12)[1]? = some true := by decide
theorem r_102_1 : hz_rf 102 1 = 103 := by decide
theorem dM_keepsAhead_78 : decode cM_keepsAhead 78 = .ok (.iload_n 1, 1) := by decide +kernel
theorem dM_keepsAhead_79 : decode cM_keepsAhead 79 = .ok (.iaload, 1) := by decide +kernel
theorem ln_103 : hz_ln 103 = 50 := by decide
theorem dM_keepsAhead_80 : decode cM_keepsAhead 80 = .ok (.iastore, 1) := by decide +kernel
theorem ln_104 : hz_ln 104 = 300 := by decide
theorem dM_keepsAhead_81 : decode cM_keepsAhead 81 = .ok (.iinc 1 1, 3) := by decide +kernel
theorem dM_keepsAhead_84 : decode cM_keepsAhead 84 = .ok (.goto (-29), 3) := by decide +kernel
theorem dM_keepsAhead_9 : decode cM_keepsAhead 9 = .ok (.aload_n 0, 1) := by decide +kernel
theorem dM_keepsAhead_10 : decode cM_keepsAhead 10 = .ok (.aload_n 0, 1) := by decide +kernel
theorem dM_keepsAhead_11 : decode cM_keepsAhead 11 = .ok (.getfield 137, 3) := by decide +kernel
theorem dM_keepsAhead_14 : decode cM_keepsAhead 14 = .ok (.iconst 1, 1) := by decide +kernel
theorem dM_keepsAhead_15 : decode cM_keepsAhead 15 = .ok (.isub, 1) := by decide +kernel
theorem dM_keepsAhead_16 : decode cM_keepsAhead 16 = .ok (.putfield 137, 3) := by decide +kernel
theorem dM_keepsAhead_19 : decode cM_keepsAhead 19 = .ok (.iconst 0, 1) := by decide +kernel
theorem dM_keepsAhead_20 : decode cM_keepsAhead 20 = .ok (.istore_n 1, 1) := by decide +kernel
theorem dM_keepsAhead_21 : decode cM_keepsAhead 21 = .ok (.iload_n 1, 1) := by decide +kernel
theorem dM_keepsAhead_22 : decode cM_keepsAhead 22 = .ok (.bipush 50, 2) := by decide +kernel
theorem dM_keepsAhead_24 : decode cM_keepsAhead 24 = .ok (.aload_n 0, 1) := by decide +kernel
theorem dM_keepsAhead_25 : decode cM_keepsAhead 25 = .ok (.getfield 137, 3) := by decide +kernel
theorem dM_keepsAhead_28 : decode cM_keepsAhead 28 = .ok (.imul, 1) := by decide +kernel
theorem dM_keepsAhead_29 : decode cM_keepsAhead 29 = .ok (.if_icmp .ge 24, 3) := by decide +kernel
theorem dM_keepsAhead_32 : decode cM_keepsAhead 32 = .ok (.aload_n 0, 1) := by decide +kernel
theorem dM_keepsAhead_33 : decode cM_keepsAhead 33 = .ok (.getfield 13, 3) := by decide +kernel
theorem dM_keepsAhead_36 : decode cM_keepsAhead 36 = .ok (.iload_n 1, 1) := by decide +kernel
theorem dM_keepsAhead_37 : decode cM_keepsAhead 37 = .ok (.aload_n 0, 1) := by decide +kernel
theorem dM_keepsAhead_38 : decode cM_keepsAhead 38 = .ok (.getfield 13, 3) := by decide +kernel
theorem dM_keepsAhead_41 : decode cM_keepsAhead 41 = .ok (.iload_n 1, 1) := by decide +kernel
theorem dM_keepsAhead_42 : decode cM_keepsAhead 42 = .ok (.bipush 50, 2) := by decide +kernel
theorem dM_keepsAhead_44 : decode cM_keepsAhead 44 = .ok (.iadd, 1) := by decide +kernel
theorem dM_keepsAhead_45 : decode cM_keepsAhead 45 = .ok (.iaload, 1) := by decide +kernel
theorem dM_keepsAhead_46 : decode cM_keepsAhead 46 = .ok (.iastore, 1) := by decide +kernel
theorem dM_keepsAhead_47 : decode cM_keepsAhead 47 = .ok (.iinc 1 1, 3) := by decide +kernel
theorem dM_keepsAhead_50 : decode cM_keepsAhead 50 = .ok (.goto (-29), 3) := by decide +kernel
def fM_keepsAhead (s0 : Sg) : Option (Sg) := bnd (fun (s1 : Sg) => lp FU (fun q55 (u55 : Int32) (s2 : Sg) => if 50 ≤ u55 then (bnd (pt s2 102 3 ((s2 102 3) + 1)) fun s3 => some s3) else (gd u55 50 (gd ((50 * (s2 102 3)) + u55) 300 (bnd (pt s2 104 (ix ((50 * (s2 102 3)) + u55)) (s2 103 (ix u55))) fun s4 => q55 (u55 + 1) s4)))) 0 s1) fun j53 => if (s0 102 3) = 6 then (bnd (pt s0 102 3 ((s0 102 3) - 1)) fun s5 => lp FU (fun q21 (u21 : Int32) (s6 : Sg) => if (50 * (s6 102 3)) ≤ u21 then (j53 s6) else (gd (u21 + 50) 300 (gd u21 300 (bnd (pt s6 104 (ix u21) (s6 104 (ix (u21 + 50)))) fun s7 => q21 (u21 + 1) s7)))) 0 s5) else (j53 s0)
set_option maxHeartbeats 4000000 in
set_option maxRecDepth 100000 in
theorem okM_keepsAhead (s0 : Sg) : ∀ (l : Launch) (w : WC), Ok l w yM_keepsAhead cM_keepsAhead 2 none 1 evV [.ref (w.ad 102)] s0 (fM_keepsAhead s0) := by
  refine ok_in (ev := fun _ => evV) (av := fun w => [.ref (w.ad 102)]) "LastWordHillModel" rfl (by decide +kernel) (fun _ => rfl) (fun _ => Nat.le_of_ble_eq_true rfl) ?_
  intro C X E
  show GF C evV 0 [some (.ref (C.w.ad 102)), none] [] s0 (fM_keepsAhead s0)
  unfold fM_keepsAhead
  refine g_aload_n X dM_keepsAhead_0 rfl ?_
  refine g_getI X fl_M_137 fb_12_3 k_102 dM_keepsAhead_1 ?_
  refine g_bipush X 6 dM_keepsAhead_4 (by decide) ?_
  refine gf_jn (fun j53 => ∀ (s1 : Sg), GF C evV 53 [some (.ref (C.w.ad 102)), none] [] s1 (j53 s1)) ?_ ?_
  · intro s1
    refine g_iconst X 0 dM_keepsAhead_53 (by decide) ?_
    refine g_istore_n X [some (.ref (C.w.ad 102)), some (.int 0)] dM_keepsAhead_54 (by decide) (Nat.le_of_ble_eq_true rfl) rfl ?_
    refine gf_sub (L' := [some (.ref (C.w.ad 102)), some (.int 0)]) ?_ (by simp [lsub])
    refine gf_lp (Lf := fun (u55 : Int32) => [some (.ref (C.w.ad 102)), some (.int u55)]) (fun q55 hq55 u55 s2 => ?_) FU 0 s1
    refine g_iload_n X dM_keepsAhead_55 rfl ?_
    refine g_bipush X 50 dM_keepsAhead_56 (by decide) ?_
    refine g_cge X (tgt := 87) dM_keepsAhead_58 (by decide) ?_ ?_
    · refine g_aload_n X dM_keepsAhead_87 rfl ?_
      refine g_aload_n X dM_keepsAhead_88 rfl ?_
      refine g_getI X fl_M_137 fb_12_3 k_102 dM_keepsAhead_89 ?_
      refine g_iconst X 1 dM_keepsAhead_92 (by decide) ?_
      refine g_iadd X dM_keepsAhead_93 ?_
      refine g_putI X fl_M_137 fb_12_3 fp_12_3 k_102 dM_keepsAhead_94 (fun s3 => ?_)
      exact g_vret X E dM_keepsAhead_97
    · refine g_aload_n X dM_keepsAhead_61 rfl ?_
      refine g_getN X fl_M_13 fb_12_2 k_102 r_102_2 dM_keepsAhead_62 ?_
      refine g_bipush X 50 dM_keepsAhead_65 (by decide) ?_
      refine g_aload_n X dM_keepsAhead_67 rfl ?_
      refine g_getI X fl_M_137 fb_12_3 k_102 dM_keepsAhead_68 ?_
      refine g_imul X dM_keepsAhead_71 ?_
      refine g_iload_n X dM_keepsAhead_72 rfl ?_
      refine g_iadd X dM_keepsAhead_73 ?_
      refine g_aload_n X dM_keepsAhead_74 rfl ?_
      refine g_getN X fl_M_7 fb_12_1 k_102 r_102_1 dM_keepsAhead_75 ?_
      refine g_iload_n X dM_keepsAhead_78 rfl ?_
      refine g_iald X k_103 ln_103 dM_keepsAhead_79 ?_
      refine g_iast X k_104 ln_104 dM_keepsAhead_80 (fun s4 => ?_)
      refine g_iinc X (u55 + 1) [some (.ref (C.w.ad 102)), some (.int (u55 + 1))] dM_keepsAhead_81 rfl rfl (by decide) rfl ?_
      refine g_goto X 55 dM_keepsAhead_84 (by decide) ?_
      exact gf_sub (hq55 (u55 + 1) s4) (by simp [lsub])
  · intro j53 hj53
    refine g_cne X (tgt := 53) dM_keepsAhead_6 (by decide) ?_ ?_
    · refine g_aload_n X dM_keepsAhead_9 rfl ?_
      refine g_aload_n X dM_keepsAhead_10 rfl ?_
      refine g_getI X fl_M_137 fb_12_3 k_102 dM_keepsAhead_11 ?_
      refine g_iconst X 1 dM_keepsAhead_14 (by decide) ?_
      refine g_isub X dM_keepsAhead_15 ?_
      refine g_putI X fl_M_137 fb_12_3 fp_12_3 k_102 dM_keepsAhead_16 (fun s5 => ?_)
      refine g_iconst X 0 dM_keepsAhead_19 (by decide) ?_
      refine g_istore_n X [some (.ref (C.w.ad 102)), some (.int 0)] dM_keepsAhead_20 (by decide) (Nat.le_of_ble_eq_true rfl) rfl ?_
      refine gf_sub (L' := [some (.ref (C.w.ad 102)), some (.int 0)]) ?_ (by simp [lsub])
      refine gf_lp (Lf := fun (u21 : Int32) => [some (.ref (C.w.ad 102)), some (.int u21)]) (fun q21 hq21 u21 s6 => ?_) FU 0 s5
      refine g_iload_n X dM_keepsAhead_21 rfl ?_
      refine g_bipush X 50 dM_keepsAhead_22 (by decide) ?_
      refine g_aload_n X dM_keepsAhead_24 rfl ?_
      refine g_getI X fl_M_137 fb_12_3 k_102 dM_keepsAhead_25 ?_
      refine g_imul X dM_keepsAhead_28 ?_
      refine g_cge X (tgt := 53) dM_keepsAhead_29 (by decide) ?_ ?_
      · exact gf_sub (hj53 s6) (by simp [lsub])
      · refine g_aload_n X dM_keepsAhead_32 rfl ?_
        refine g_getN X fl_M_13 fb_12_2 k_102 r_102_2 dM_keepsAhead_33 ?_
        refine g_iload_n X dM_keepsAhead_36 rfl ?_
        refine g_aload_n X dM_keepsAhead_37 rfl ?_
        refine g_getN X fl_M_13 fb_12_2 k_102 r_102_2 dM_keepsAhead_38 ?_
        refine g_iload_n X dM_keepsAhead_41 rfl ?_
        refine g_bipush X 50 dM_keepsAhead_42 (by decide) ?_
        refine g_iadd X dM_keepsAhead_44 ?_
        refine g_iald X k_104 ln_104 dM_keepsAhead_45 ?_
        refine g_iast X k_104 ln_104 dM_keepsAhead_46 (fun s7 => ?_)
        refine g_iinc X (u21 + 1) [some (.ref (C.w.ad 102)), some (.int (u21 + 1))] dM_keepsAhead_47 rfl rfl (by decide) rfl ?_
        refine g_goto X 21 dM_keepsAhead_50 (by decide) ?_
        exact gf_sub (hq21 (u21 + 1) s7) (by simp [lsub])
    · exact gf_sub (hj53 s0) (by simp [lsub])
def yM_undo : MethodName := ⟨"LastWordHillModel", "undo", "()Z"⟩
abbrev cM_undo : ByteArray := prog_14_method_10_code
theorem dM_undo_0 : decode cM_undo 0 = .ok (.aload_n 0, 1) := by decide +kernel
theorem dM_undo_1 : decode cM_undo 1 = .ok (.iconst 0, 1) := by decide +kernel
theorem dM_undo_2 : decode cM_undo 2 = .ok (.putfield 134, 3) := by decide +kernel
theorem fl_M_134 : FLk "LastWordHillModel" 134 12 0 := ⟨_, _, _, rfl, by decide, hz_in 1412 (by decide +kernel) (by decide +kernel), nL12, by decide, by decide⟩
theorem fb_12_0 : (hz_bs 12)[0]? = some false := by decide
theorem fp_12_0 : FLp 12 0 .int := ⟨_, _, _, _, rfl, nY12, nN12, by decide, by decide⟩
theorem dM_undo_5 : decode cM_undo 5 = .ok (.aload_n 0, 1) := by decide +kernel
theorem dM_undo_6 : decode cM_undo 6 = .ok (.getfield 137, 3) := by decide +kernel
theorem dM_undo_9 : decode cM_undo 9 = .ok (.ifCond .ne 5, 3) := by decide +kernel
theorem dM_undo_14 : decode cM_undo 14 = .ok (.aload_n 0, 1) := by decide +kernel
theorem dM_undo_15 : decode cM_undo 15 = .ok (.aload_n 0, 1) := by decide +kernel
theorem dM_undo_16 : decode cM_undo 16 = .ok (.getfield 137, 3) := by decide +kernel
theorem dM_undo_19 : decode cM_undo 19 = .ok (.iconst 1, 1) := by decide +kernel
theorem dM_undo_20 : decode cM_undo 20 = .ok (.isub, 1) := by decide +kernel
theorem dM_undo_21 : decode cM_undo 21 = .ok (.putfield 137, 3) := by decide +kernel
theorem dM_undo_24 : decode cM_undo 24 = .ok (.iconst 0, 1) := by decide +kernel
theorem dM_undo_25 : decode cM_undo 25 = .ok (.istore_n 1, 1) := by decide +kernel
theorem dM_undo_26 : decode cM_undo 26 = .ok (.iload_n 1, 1) := by decide +kernel
theorem dM_undo_27 : decode cM_undo 27 = .ok (.bipush 50, 2) := by decide +kernel
theorem dM_undo_29 : decode cM_undo 29 = .ok (.if_icmp .ge 29, 3) := by decide +kernel
theorem dM_undo_58 : decode cM_undo 58 = .ok (.iconst 1, 1) := by decide +kernel
theorem dM_undo_59 : decode cM_undo 59 = .ok (.ireturn, 1) := by decide +kernel
theorem dM_undo_32 : decode cM_undo 32 = .ok (.aload_n 0, 1) := by decide +kernel
theorem dM_undo_33 : decode cM_undo 33 = .ok (.getfield 7, 3) := by decide +kernel
theorem dM_undo_36 : decode cM_undo 36 = .ok (.iload_n 1, 1) := by decide +kernel
theorem dM_undo_37 : decode cM_undo 37 = .ok (.aload_n 0, 1) := by decide +kernel
theorem dM_undo_38 : decode cM_undo 38 = .ok (.getfield 13, 3) := by decide +kernel
theorem dM_undo_41 : decode cM_undo 41 = .ok (.bipush 50, 2) := by decide +kernel
theorem dM_undo_43 : decode cM_undo 43 = .ok (.aload_n 0, 1) := by decide +kernel
theorem dM_undo_44 : decode cM_undo 44 = .ok (.getfield 137, 3) := by decide +kernel
theorem dM_undo_47 : decode cM_undo 47 = .ok (.imul, 1) := by decide +kernel
theorem dM_undo_48 : decode cM_undo 48 = .ok (.iload_n 1, 1) := by decide +kernel
theorem dM_undo_49 : decode cM_undo 49 = .ok (.iadd, 1) := by decide +kernel
theorem dM_undo_50 : decode cM_undo 50 = .ok (.iaload, 1) := by decide +kernel
theorem dM_undo_51 : decode cM_undo 51 = .ok (.iastore, 1) := by decide +kernel
theorem dM_undo_52 : decode cM_undo 52 = .ok (.iinc 1 1, 3) := by decide +kernel
theorem dM_undo_55 : decode cM_undo 55 = .ok (.goto (-29), 3) := by decide +kernel
theorem dM_undo_12 : decode cM_undo 12 = .ok (.iconst 0, 1) := by decide +kernel
theorem dM_undo_13 : decode cM_undo 13 = .ok (.ireturn, 1) := by decide +kernel
def fM_undo (s0 : Sg) : Option (Int32 × Sg) := bnd (pt s0 102 0 0) fun s1 => if (s1 102 3) = 0 then (gb 0 (some (0, s1))) else (bnd (pt s1 102 3 ((s1 102 3) - 1)) fun s2 => lp FU (fun q26 (u26 : Int32) (s3 : Sg) => if 50 ≤ u26 then (gb 1 (some (1, s3))) else (gd ((50 * (s3 102 3)) + u26) 300 (gd u26 50 (bnd (pt s3 103 (ix u26) (s3 104 (ix ((50 * (s3 102 3)) + u26)))) fun s4 => q26 (u26 + 1) s4)))) 0 s2)
set_option maxHeartbeats 4000000 in
set_option maxRecDepth 100000 in
theorem okM_undo (s0 : Sg) : ∀ (l : Launch) (w : WC), Ok l w yM_undo cM_undo 2 (some .boolean) 1 evI [.ref (w.ad 102)] s0 (fM_undo s0) := by
  refine ok_in (ev := fun _ => evI) (av := fun w => [.ref (w.ad 102)]) "LastWordHillModel" rfl (by decide +kernel) (fun _ => rfl) (fun _ => Nat.le_of_ble_eq_true rfl) ?_
  intro C X E
  show GF C evI 0 [some (.ref (C.w.ad 102)), none] [] s0 (fM_undo s0)
  unfold fM_undo
  refine g_aload_n X dM_undo_0 rfl ?_
  refine g_iconst X 0 dM_undo_1 (by decide) ?_
  refine g_putI X fl_M_134 fb_12_0 fp_12_0 k_102 dM_undo_2 (fun s1 => ?_)
  refine g_aload_n X dM_undo_5 rfl ?_
  refine g_getI X fl_M_137 fb_12_3 k_102 dM_undo_6 ?_
  refine g_zne X (tgt := 14) dM_undo_9 (by decide) ?_ ?_
  · refine g_iconst X 0 dM_undo_12 (by decide) ?_
    exact g_zret X E dM_undo_13
  · refine g_aload_n X dM_undo_14 rfl ?_
    refine g_aload_n X dM_undo_15 rfl ?_
    refine g_getI X fl_M_137 fb_12_3 k_102 dM_undo_16 ?_
    refine g_iconst X 1 dM_undo_19 (by decide) ?_
    refine g_isub X dM_undo_20 ?_
    refine g_putI X fl_M_137 fb_12_3 fp_12_3 k_102 dM_undo_21 (fun s2 => ?_)
    refine g_iconst X 0 dM_undo_24 (by decide) ?_
    refine g_istore_n X [some (.ref (C.w.ad 102)), some (.int 0)] dM_undo_25 (by decide) (Nat.le_of_ble_eq_true rfl) rfl ?_
    refine gf_sub (L' := [some (.ref (C.w.ad 102)), some (.int 0)]) ?_ (by simp [lsub])
    refine gf_lp (Lf := fun (u26 : Int32) => [some (.ref (C.w.ad 102)), some (.int u26)]) (fun q26 hq26 u26 s3 => ?_) FU 0 s2
    refine g_iload_n X dM_undo_26 rfl ?_
    refine g_bipush X 50 dM_undo_27 (by decide) ?_
    refine g_cge X (tgt := 58) dM_undo_29 (by decide) ?_ ?_
    · refine g_iconst X 1 dM_undo_58 (by decide) ?_
      exact g_zret X E dM_undo_59
    · refine g_aload_n X dM_undo_32 rfl ?_
      refine g_getN X fl_M_7 fb_12_1 k_102 r_102_1 dM_undo_33 ?_
      refine g_iload_n X dM_undo_36 rfl ?_
      refine g_aload_n X dM_undo_37 rfl ?_
      refine g_getN X fl_M_13 fb_12_2 k_102 r_102_2 dM_undo_38 ?_
      refine g_bipush X 50 dM_undo_41 (by decide) ?_
      refine g_aload_n X dM_undo_43 rfl ?_
      refine g_getI X fl_M_137 fb_12_3 k_102 dM_undo_44 ?_
      refine g_imul X dM_undo_47 ?_
      refine g_iload_n X dM_undo_48 rfl ?_
      refine g_iadd X dM_undo_49 ?_
      refine g_iald X k_104 ln_104 dM_undo_50 ?_
      refine g_iast X k_103 ln_103 dM_undo_51 (fun s4 => ?_)
      refine g_iinc X (u26 + 1) [some (.ref (C.w.ad 102)), some (.int (u26 + 1))] dM_undo_52 rfl rfl (by decide) rfl ?_
      refine g_goto X 26 dM_undo_55 (by decide) ?_
      exact gf_sub (hq26 (u26 + 1) s4) (by simp [lsub])
def yM_thinks : MethodName := ⟨"LastWordHillModel", "thinks", "()V"⟩
abbrev cM_thinks : ByteArray := prog_14_method_11_code
theorem dM_thinks_0 : decode cM_thinks 0 = .ok (.iconst 0, 1) := by decide +kernel
theorem dM_thinks_1 : decode cM_thinks 1 = .ok (.istore_n 1, 1) := by decide +kernel
theorem dM_thinks_2 : decode cM_thinks 2 = .ok (.iload_n 1, 1) := by decide +kernel
theorem dM_thinks_3 : decode cM_thinks 3 = .ok (.bipush 50, 2) := by decide +kernel
theorem dM_thinks_5 : decode cM_thinks 5 = .ok (.if_icmp .ge 21, 3) := by decide +kernel
theorem dM_thinks_26 : decode cM_thinks 26 = .ok (.aload_n 0, 1) := by decide +kernel
theorem dM_thinks_27 : decode cM_thinks 27 = .ok (.iconst 1, 1) := by decide +kernel
theorem dM_thinks_28 : decode cM_thinks 28 = .ok (.putfield 140, 3) := by decide +kernel
theorem fl_M_140 : FLk "LastWordHillModel" 140 12 5 := ⟨_, _, _, rfl, by decide, hz_in 1417 (by decide +kernel) (by decide +kernel), nL12, by decide, by decide⟩
theorem fb_12_5 : (hz_bs 12)[5]? = some false := by decide
theorem fp_12_5 : FLp 12 5 .boolean := ⟨_, _, _, _, rfl, nY12, nN12, by decide, by decide⟩
theorem dM_thinks_31 : decode cM_thinks 31 = .ok (.return_, 1) := by decide +kernel
theorem dM_thinks_8 : decode cM_thinks 8 = .ok (.aload_n 0, 1) := by decide +kernel
theorem dM_thinks_9 : decode cM_thinks 9 = .ok (.getfield 16, 3) := by decide +kernel
theorem fl_M_16 : FLk "LastWordHillModel" 16 12 4 := ⟨_, _, _, rfl, by decide, hz_in 1416 (by decide +kernel) (by decide +kernel), nL12, by decide, by decide⟩
theorem k_105 : hz_kd 105 = 13 := by decide
theorem fb_12_4 : (hz_bs 12)[4]? = some true := by decide
theorem r_102_4 : hz_rf 102 4 = 105 := by decide
theorem dM_thinks_12 : decode cM_thinks 12 = .ok (.iload_n 1, 1) := by decide +kernel
theorem dM_thinks_13 : decode cM_thinks 13 = .ok (.aload_n 0, 1) := by decide +kernel
theorem dM_thinks_14 : decode cM_thinks 14 = .ok (.getfield 7, 3) := by decide +kernel
theorem dM_thinks_17 : decode cM_thinks 17 = .ok (.iload_n 1, 1) := by decide +kernel
theorem dM_thinks_18 : decode cM_thinks 18 = .ok (.iaload, 1) := by decide +kernel
theorem dM_thinks_19 : decode cM_thinks 19 = .ok (.iastore, 1) := by decide +kernel
theorem ln_105 : hz_ln 105 = 50 := by decide
theorem dM_thinks_20 : decode cM_thinks 20 = .ok (.iinc 1 1, 3) := by decide +kernel
theorem dM_thinks_23 : decode cM_thinks 23 = .ok (.goto (-21), 3) := by decide +kernel
def fM_thinks (s0 : Sg) : Option (Sg) := lp FU (fun q2 (u2 : Int32) (s1 : Sg) => if 50 ≤ u2 then (gb 1 (bnd (pt s1 102 5 1) fun s2 => some s2)) else (gd u2 50 (gd u2 50 (bnd (pt s1 105 (ix u2) (s1 103 (ix u2))) fun s3 => q2 (u2 + 1) s3)))) 0 s0
set_option maxHeartbeats 4000000 in
set_option maxRecDepth 100000 in
theorem okM_thinks (s0 : Sg) : ∀ (l : Launch) (w : WC), Ok l w yM_thinks cM_thinks 2 none 1 evV [.ref (w.ad 102)] s0 (fM_thinks s0) := by
  refine ok_in (ev := fun _ => evV) (av := fun w => [.ref (w.ad 102)]) "LastWordHillModel" rfl (by decide +kernel) (fun _ => rfl) (fun _ => Nat.le_of_ble_eq_true rfl) ?_
  intro C X E
  show GF C evV 0 [some (.ref (C.w.ad 102)), none] [] s0 (fM_thinks s0)
  unfold fM_thinks
  refine g_iconst X 0 dM_thinks_0 (by decide) ?_
  refine g_istore_n X [some (.ref (C.w.ad 102)), some (.int 0)] dM_thinks_1 (by decide) (Nat.le_of_ble_eq_true rfl) rfl ?_
  refine gf_sub (L' := [some (.ref (C.w.ad 102)), some (.int 0)]) ?_ (by simp [lsub])
  refine gf_lp (Lf := fun (u2 : Int32) => [some (.ref (C.w.ad 102)), some (.int u2)]) (fun q2 hq2 u2 s1 => ?_) FU 0 s0
  refine g_iload_n X dM_thinks_2 rfl ?_
  refine g_bipush X 50 dM_thinks_3 (by decide) ?_
  refine g_cge X (tgt := 26) dM_thinks_5 (by decide) ?_ ?_
  · refine g_aload_n X dM_thinks_26 rfl ?_
    refine g_iconst X 1 dM_thinks_27 (by decide) ?_
    refine g_putZ X fl_M_140 fb_12_5 fp_12_5 k_102 dM_thinks_28 (fun s2 => ?_)
    exact g_vret X E dM_thinks_31
  · refine g_aload_n X dM_thinks_8 rfl ?_
    refine g_getN X fl_M_16 fb_12_4 k_102 r_102_4 dM_thinks_9 ?_
    refine g_iload_n X dM_thinks_12 rfl ?_
    refine g_aload_n X dM_thinks_13 rfl ?_
    refine g_getN X fl_M_7 fb_12_1 k_102 r_102_1 dM_thinks_14 ?_
    refine g_iload_n X dM_thinks_17 rfl ?_
    refine g_iald X k_103 ln_103 dM_thinks_18 ?_
    refine g_iast X k_105 ln_105 dM_thinks_19 (fun s3 => ?_)
    refine g_iinc X (u2 + 1) [some (.ref (C.w.ad 102)), some (.int (u2 + 1))] dM_thinks_20 rfl rfl (by decide) rfl ?_
    refine g_goto X 2 dM_thinks_23 (by decide) ?_
    exact gf_sub (hq2 (u2 + 1) s3) (by simp [lsub])
def yM_endsThought : MethodName := ⟨"LastWordHillModel", "endsThought", "()V"⟩
abbrev cM_endsThought : ByteArray := prog_14_method_12_code
theorem dM_endsThought_0 : decode cM_endsThought 0 = .ok (.iconst 0, 1) := by decide +kernel
theorem dM_endsThought_1 : decode cM_endsThought 1 = .ok (.istore_n 1, 1) := by decide +kernel
theorem dM_endsThought_2 : decode cM_endsThought 2 = .ok (.iload_n 1, 1) := by decide +kernel
theorem dM_endsThought_3 : decode cM_endsThought 3 = .ok (.bipush 50, 2) := by decide +kernel
theorem dM_endsThought_5 : decode cM_endsThought 5 = .ok (.if_icmp .ge 21, 3) := by decide +kernel
theorem dM_endsThought_26 : decode cM_endsThought 26 = .ok (.aload_n 0, 1) := by decide +kernel
theorem dM_endsThought_27 : decode cM_endsThought 27 = .ok (.iconst 0, 1) := by decide +kernel
theorem dM_endsThought_28 : decode cM_endsThought 28 = .ok (.putfield 140, 3) := by decide +kernel
theorem dM_endsThought_31 : decode cM_endsThought 31 = .ok (.return_, 1) := by decide +kernel
theorem dM_endsThought_8 : decode cM_endsThought 8 = .ok (.aload_n 0, 1) := by decide +kernel
theorem dM_endsThought_9 : decode cM_endsThought 9 = .ok (.getfield 7, 3) := by decide +kernel
theorem dM_endsThought_12 : decode cM_endsThought 12 = .ok (.iload_n 1, 1) := by decide +kernel
theorem dM_endsThought_13 : decode cM_endsThought 13 = .ok (.aload_n 0, 1) := by decide +kernel
theorem dM_endsThought_14 : decode cM_endsThought 14 = .ok (.getfield 16, 3) := by decide +kernel
theorem dM_endsThought_17 : decode cM_endsThought 17 = .ok (.iload_n 1, 1) := by decide +kernel
theorem dM_endsThought_18 : decode cM_endsThought 18 = .ok (.iaload, 1) := by decide +kernel
theorem dM_endsThought_19 : decode cM_endsThought 19 = .ok (.iastore, 1) := by decide +kernel
theorem dM_endsThought_20 : decode cM_endsThought 20 = .ok (.iinc 1 1, 3) := by decide +kernel
theorem dM_endsThought_23 : decode cM_endsThought 23 = .ok (.goto (-21), 3) := by decide +kernel
def fM_endsThought (s0 : Sg) : Option (Sg) := lp FU (fun q2 (u2 : Int32) (s1 : Sg) => if 50 ≤ u2 then (gb 0 (bnd (pt s1 102 5 0) fun s2 => some s2)) else (gd u2 50 (gd u2 50 (bnd (pt s1 103 (ix u2) (s1 105 (ix u2))) fun s3 => q2 (u2 + 1) s3)))) 0 s0
set_option maxHeartbeats 4000000 in
set_option maxRecDepth 100000 in
theorem okM_endsThought (s0 : Sg) : ∀ (l : Launch) (w : WC), Ok l w yM_endsThought cM_endsThought 2 none 1 evV [.ref (w.ad 102)] s0 (fM_endsThought s0) := by
  refine ok_in (ev := fun _ => evV) (av := fun w => [.ref (w.ad 102)]) "LastWordHillModel" rfl (by decide +kernel) (fun _ => rfl) (fun _ => Nat.le_of_ble_eq_true rfl) ?_
  intro C X E
  show GF C evV 0 [some (.ref (C.w.ad 102)), none] [] s0 (fM_endsThought s0)
  unfold fM_endsThought
  refine g_iconst X 0 dM_endsThought_0 (by decide) ?_
  refine g_istore_n X [some (.ref (C.w.ad 102)), some (.int 0)] dM_endsThought_1 (by decide) (Nat.le_of_ble_eq_true rfl) rfl ?_
  refine gf_sub (L' := [some (.ref (C.w.ad 102)), some (.int 0)]) ?_ (by simp [lsub])
  refine gf_lp (Lf := fun (u2 : Int32) => [some (.ref (C.w.ad 102)), some (.int u2)]) (fun q2 hq2 u2 s1 => ?_) FU 0 s0
  refine g_iload_n X dM_endsThought_2 rfl ?_
  refine g_bipush X 50 dM_endsThought_3 (by decide) ?_
  refine g_cge X (tgt := 26) dM_endsThought_5 (by decide) ?_ ?_
  · refine g_aload_n X dM_endsThought_26 rfl ?_
    refine g_iconst X 0 dM_endsThought_27 (by decide) ?_
    refine g_putZ X fl_M_140 fb_12_5 fp_12_5 k_102 dM_endsThought_28 (fun s2 => ?_)
    exact g_vret X E dM_endsThought_31
  · refine g_aload_n X dM_endsThought_8 rfl ?_
    refine g_getN X fl_M_7 fb_12_1 k_102 r_102_1 dM_endsThought_9 ?_
    refine g_iload_n X dM_endsThought_12 rfl ?_
    refine g_aload_n X dM_endsThought_13 rfl ?_
    refine g_getN X fl_M_16 fb_12_4 k_102 r_102_4 dM_endsThought_14 ?_
    refine g_iload_n X dM_endsThought_17 rfl ?_
    refine g_iald X k_105 ln_105 dM_endsThought_18 ?_
    refine g_iast X k_103 ln_103 dM_endsThought_19 (fun s3 => ?_)
    refine g_iinc X (u2 + 1) [some (.ref (C.w.ad 102)), some (.int (u2 + 1))] dM_endsThought_20 rfl rfl (by decide) rfl ?_
    refine g_goto X 2 dM_endsThought_23 (by decide) ?_
    exact gf_sub (hq2 (u2 + 1) s3) (by simp [lsub])
def yM_state : MethodName := ⟨"LastWordHillModel", "state", "(I)I"⟩
abbrev cM_state : ByteArray := prog_14_method_13_code
theorem dM_state_0 : decode cM_state 0 = .ok (.aload_n 0, 1) := by decide +kernel
theorem dM_state_1 : decode cM_state 1 = .ok (.iconst 0, 1) := by decide +kernel
theorem dM_state_2 : decode cM_state 2 = .ok (.putfield 134, 3) := by decide +kernel
theorem dM_state_5 : decode cM_state 5 = .ok (.aload_n 0, 1) := by decide +kernel
theorem dM_state_6 : decode cM_state 6 = .ok (.getfield 7, 3) := by decide +kernel
theorem dM_state_9 : decode cM_state 9 = .ok (.iconst 1, 1) := by decide +kernel
theorem dM_state_10 : decode cM_state 10 = .ok (.iaload, 1) := by decide +kernel
theorem dM_state_11 : decode cM_state 11 = .ok (.istore_n 2, 1) := by decide +kernel
theorem dM_state_12 : decode cM_state 12 = .ok (.aload_n 0, 1) := by decide +kernel
theorem dM_state_13 : decode cM_state 13 = .ok (.getfield 7, 3) := by decide +kernel
theorem dM_state_16 : decode cM_state 16 = .ok (.iconst 1, 1) := by decide +kernel
theorem dM_state_17 : decode cM_state 17 = .ok (.iload_n 1, 1) := by decide +kernel
theorem dM_state_18 : decode cM_state 18 = .ok (.iastore, 1) := by decide +kernel
theorem dM_state_19 : decode cM_state 19 = .ok (.aload_n 0, 1) := by decide +kernel
theorem dM_state_20 : decode cM_state 20 = .ok (.iconst 0, 1) := by decide +kernel
theorem dM_state_21 : decode cM_state 21 = .ok (.putfield 137, 3) := by decide +kernel
theorem dM_state_24 : decode cM_state 24 = .ok (.iload_n 2, 1) := by decide +kernel
theorem dM_state_25 : decode cM_state 25 = .ok (.ireturn, 1) := by decide +kernel
def fM_state (v1 : Int32) (s0 : Sg) : Option (Int32 × Sg) := bnd (pt s0 102 0 0) fun s1 => gd 1 50 (gd 1 50 (bnd (pt s1 103 (ix 1) v1) fun s2 => bnd (pt s2 102 3 0) fun s3 => some ((s1 103 (ix 1)), s3)))
set_option maxHeartbeats 4000000 in
set_option maxRecDepth 100000 in
theorem okM_state (v1 : Int32) (s0 : Sg) : ∀ (l : Launch) (w : WC), Ok l w yM_state cM_state 3 (some .int) 1 evI [.ref (w.ad 102), .int v1] s0 (fM_state v1 s0) := by
  refine ok_in (ev := fun _ => evI) (av := fun w => [.ref (w.ad 102), .int v1]) "LastWordHillModel" rfl (by decide +kernel) (fun _ => rfl) (fun _ => Nat.le_of_ble_eq_true rfl) ?_
  intro C X E
  show GF C evI 0 [some (.ref (C.w.ad 102)), some (.int v1), none] [] s0 (fM_state v1 s0)
  unfold fM_state
  refine g_aload_n X dM_state_0 rfl ?_
  refine g_iconst X 0 dM_state_1 (by decide) ?_
  refine g_putI X fl_M_134 fb_12_0 fp_12_0 k_102 dM_state_2 (fun s1 => ?_)
  refine g_aload_n X dM_state_5 rfl ?_
  refine g_getN X fl_M_7 fb_12_1 k_102 r_102_1 dM_state_6 ?_
  refine g_iconst X 1 dM_state_9 (by decide) ?_
  refine g_iald X k_103 ln_103 dM_state_10 ?_
  refine g_istore_n X [some (.ref (C.w.ad 102)), some (.int v1), some (.int (s1 103 (ix 1)))] dM_state_11 (by decide) (Nat.le_of_ble_eq_true rfl) rfl ?_
  refine g_aload_n X dM_state_12 rfl ?_
  refine g_getN X fl_M_7 fb_12_1 k_102 r_102_1 dM_state_13 ?_
  refine g_iconst X 1 dM_state_16 (by decide) ?_
  refine g_iload_n X dM_state_17 rfl ?_
  refine g_iast X k_103 ln_103 dM_state_18 (fun s2 => ?_)
  refine g_aload_n X dM_state_19 rfl ?_
  refine g_iconst X 0 dM_state_20 (by decide) ?_
  refine g_putI X fl_M_137 fb_12_3 fp_12_3 k_102 dM_state_21 (fun s3 => ?_)
  refine g_iload_n X dM_state_24 rfl ?_
  exact g_iret X E dM_state_25
def yM_draw : MethodName := ⟨"LastWordHillModel", "draw", "(I)I"⟩
abbrev cM_draw : ByteArray := prog_14_method_14_code
theorem dM_draw_0 : decode cM_draw 0 = .ok (.aload_n 0, 1) := by decide +kernel
theorem dM_draw_1 : decode cM_draw 1 = .ok (.getfield 7, 3) := by decide +kernel
theorem dM_draw_4 : decode cM_draw 4 = .ok (.iconst 1, 1) := by decide +kernel
theorem dM_draw_5 : decode cM_draw 5 = .ok (.ldc 144, 2) := by decide +kernel
theorem kc_M_144 : Cond.constant "LastWordHillModel" 144 1664525 ∈ hz_wt := hz_in 1915 (by decide +kernel) (by decide +kernel)
theorem dM_draw_7 : decode cM_draw 7 = .ok (.aload_n 0, 1) := by decide +kernel
theorem dM_draw_8 : decode cM_draw 8 = .ok (.getfield 7, 3) := by decide +kernel
theorem dM_draw_11 : decode cM_draw 11 = .ok (.iconst 1, 1) := by decide +kernel
theorem dM_draw_12 : decode cM_draw 12 = .ok (.iaload, 1) := by decide +kernel
theorem dM_draw_13 : decode cM_draw 13 = .ok (.imul, 1) := by decide +kernel
theorem dM_draw_14 : decode cM_draw 14 = .ok (.ldc 145, 2) := by decide +kernel
theorem kc_M_145 : Cond.constant "LastWordHillModel" 145 1013904223 ∈ hz_wt := hz_in 1916 (by decide +kernel) (by decide +kernel)
theorem dM_draw_16 : decode cM_draw 16 = .ok (.iadd, 1) := by decide +kernel
theorem dM_draw_17 : decode cM_draw 17 = .ok (.iastore, 1) := by decide +kernel
theorem dM_draw_18 : decode cM_draw 18 = .ok (.aload_n 0, 1) := by decide +kernel
theorem dM_draw_19 : decode cM_draw 19 = .ok (.getfield 7, 3) := by decide +kernel
theorem dM_draw_22 : decode cM_draw 22 = .ok (.iconst 1, 1) := by decide +kernel
theorem dM_draw_23 : decode cM_draw 23 = .ok (.iaload, 1) := by decide +kernel
theorem dM_draw_24 : decode cM_draw 24 = .ok (.bipush 8, 2) := by decide +kernel
theorem dM_draw_26 : decode cM_draw 26 = .ok (.iushr, 1) := by decide +kernel
theorem dM_draw_27 : decode cM_draw 27 = .ok (.iload_n 1, 1) := by decide +kernel
theorem dM_draw_28 : decode cM_draw 28 = .ok (.irem, 1) := by decide +kernel
theorem dM_draw_29 : decode cM_draw 29 = .ok (.ireturn, 1) := by decide +kernel
def fM_draw (v1 : Int32) (s0 : Sg) : Option (Int32 × Sg) := gd 1 50 (gd 1 50 (bnd (pt s0 103 (ix 1) ((1664525 * (s0 103 (ix 1))) + 1013904223)) fun s1 => gd 1 50 (gz v1 (some (((usr (s1 103 (ix 1)) 8) - (usr (s1 103 (ix 1)) 8) / v1 * v1), s1)))))
set_option maxHeartbeats 4000000 in
set_option maxRecDepth 100000 in
theorem okM_draw (v1 : Int32) (s0 : Sg) : ∀ (l : Launch) (w : WC), Ok l w yM_draw cM_draw 2 (some .int) 1 evI [.ref (w.ad 102), .int v1] s0 (fM_draw v1 s0) := by
  refine ok_in (ev := fun _ => evI) (av := fun w => [.ref (w.ad 102), .int v1]) "LastWordHillModel" rfl (by decide +kernel) (fun _ => rfl) (fun _ => Nat.le_of_ble_eq_true rfl) ?_
  intro C X E
  show GF C evI 0 [some (.ref (C.w.ad 102)), some (.int v1)] [] s0 (fM_draw v1 s0)
  unfold fM_draw
  refine g_aload_n X dM_draw_0 rfl ?_
  refine g_getN X fl_M_7 fb_12_1 k_102 r_102_1 dM_draw_1 ?_
  refine g_iconst X 1 dM_draw_4 (by decide) ?_
  refine g_ldc X kc_M_144 dM_draw_5 ?_
  refine g_aload_n X dM_draw_7 rfl ?_
  refine g_getN X fl_M_7 fb_12_1 k_102 r_102_1 dM_draw_8 ?_
  refine g_iconst X 1 dM_draw_11 (by decide) ?_
  refine g_iald X k_103 ln_103 dM_draw_12 ?_
  refine g_imul X dM_draw_13 ?_
  refine g_ldc X kc_M_145 dM_draw_14 ?_
  refine g_iadd X dM_draw_16 ?_
  refine g_iast X k_103 ln_103 dM_draw_17 (fun s1 => ?_)
  refine g_aload_n X dM_draw_18 rfl ?_
  refine g_getN X fl_M_7 fb_12_1 k_102 r_102_1 dM_draw_19 ?_
  refine g_iconst X 1 dM_draw_22 (by decide) ?_
  refine g_iald X k_103 ln_103 dM_draw_23 ?_
  refine g_bipush X 8 dM_draw_24 (by decide) ?_
  refine g_iushr X dM_draw_26 ?_
  refine g_iload_n X dM_draw_27 rfl ?_
  refine g_irem X dM_draw_28 ?_
  exact g_iret X E dM_draw_29
def yM_isPerson : MethodName := ⟨"LastWordHillModel", "isPerson", "(I)Z"⟩
abbrev cM_isPerson : ByteArray := prog_14_method_15_code
theorem dM_isPerson_0 : decode cM_isPerson 0 = .ok (.iload_n 1, 1) := by decide +kernel
theorem dM_isPerson_1 : decode cM_isPerson 1 = .ok (.ifCond .lt 15, 3) := by decide +kernel
theorem dM_isPerson_16 : decode cM_isPerson 16 = .ok (.iconst 0, 1) := by decide +kernel
theorem dM_isPerson_17 : decode cM_isPerson 17 = .ok (.ireturn, 1) := by decide +kernel
theorem dM_isPerson_4 : decode cM_isPerson 4 = .ok (.iload_n 1, 1) := by decide +kernel
theorem dM_isPerson_5 : decode cM_isPerson 5 = .ok (.aload_n 0, 1) := by decide +kernel
theorem dM_isPerson_6 : decode cM_isPerson 6 = .ok (.getfield 146, 3) := by decide +kernel
theorem fl_M_146 : FLk "LastWordHillModel" 146 12 6 := ⟨_, _, _, rfl, by decide, hz_in 1418 (by decide +kernel) (by decide +kernel), nL12, by decide, by decide⟩
theorem fb_12_6 : (hz_bs 12)[6]? = some false := by decide
theorem dM_isPerson_9 : decode cM_isPerson 9 = .ok (.if_icmp .ge 7, 3) := by decide +kernel
theorem dM_isPerson_12 : decode cM_isPerson 12 = .ok (.iconst 1, 1) := by decide +kernel
theorem dM_isPerson_13 : decode cM_isPerson 13 = .ok (.goto 4, 3) := by decide +kernel
def fM_isPerson (v1 : Int32) (s0 : Sg) : Option (Int32 × Sg) := if v1 < 0 then (gb 0 (some (0, s0))) else (if (s0 102 6) ≤ v1 then (gb 0 (some (0, s0))) else (gb 1 (some (1, s0))))
set_option maxHeartbeats 4000000 in
set_option maxRecDepth 100000 in
theorem okM_isPerson (v1 : Int32) (s0 : Sg) : ∀ (l : Launch) (w : WC), Ok l w yM_isPerson cM_isPerson 2 (some .boolean) 1 evI [.ref (w.ad 102), .int v1] s0 (fM_isPerson v1 s0) := by
  refine ok_in (ev := fun _ => evI) (av := fun w => [.ref (w.ad 102), .int v1]) "LastWordHillModel" rfl (by decide +kernel) (fun _ => rfl) (fun _ => Nat.le_of_ble_eq_true rfl) ?_
  intro C X E
  show GF C evI 0 [some (.ref (C.w.ad 102)), some (.int v1)] [] s0 (fM_isPerson v1 s0)
  unfold fM_isPerson
  refine g_iload_n X dM_isPerson_0 rfl ?_
  refine g_zlt X (tgt := 16) dM_isPerson_1 (by decide) ?_ ?_
  · refine g_iconst X 0 dM_isPerson_16 (by decide) ?_
    exact g_zret X E dM_isPerson_17
  · refine g_iload_n X dM_isPerson_4 rfl ?_
    refine g_aload_n X dM_isPerson_5 rfl ?_
    refine g_getI X fl_M_146 fb_12_6 k_102 dM_isPerson_6 ?_
    refine g_cge X (tgt := 16) dM_isPerson_9 (by decide) ?_ ?_
    · refine g_iconst X 0 dM_isPerson_16 (by decide) ?_
      exact g_zret X E dM_isPerson_17
    · refine g_iconst X 1 dM_isPerson_12 (by decide) ?_
      refine g_goto X 17 dM_isPerson_13 (by decide) ?_
      exact g_zret X E dM_isPerson_17
def yM_sunset : MethodName := ⟨"LastWordHillModel", "sunset", "()I"⟩
abbrev cM_sunset : ByteArray := prog_14_method_16_code
theorem dM_sunset_0 : decode cM_sunset 0 = .ok (.aload_n 0, 1) := by decide +kernel
theorem dM_sunset_1 : decode cM_sunset 1 = .ok (.getfield 7, 3) := by decide +kernel
theorem dM_sunset_4 : decode cM_sunset 4 = .ok (.iconst 4, 1) := by decide +kernel
theorem dM_sunset_5 : decode cM_sunset 5 = .ok (.iaload, 1) := by decide +kernel
theorem dM_sunset_6 : decode cM_sunset 6 = .ok (.bipush 40, 2) := by decide +kernel
theorem dM_sunset_8 : decode cM_sunset 8 = .ok (.iadd, 1) := by decide +kernel
theorem dM_sunset_9 : decode cM_sunset 9 = .ok (.ireturn, 1) := by decide +kernel
def fM_sunset (s0 : Sg) : Option (Int32 × Sg) := gd 4 50 (some (((s0 103 (ix 4)) + 40), s0))
set_option maxHeartbeats 4000000 in
set_option maxRecDepth 100000 in
theorem okM_sunset (s0 : Sg) : ∀ (l : Launch) (w : WC), Ok l w yM_sunset cM_sunset 1 (some .int) 1 evI [.ref (w.ad 102)] s0 (fM_sunset s0) := by
  refine ok_in (ev := fun _ => evI) (av := fun w => [.ref (w.ad 102)]) "LastWordHillModel" rfl (by decide +kernel) (fun _ => rfl) (fun _ => Nat.le_of_ble_eq_true rfl) ?_
  intro C X E
  show GF C evI 0 [some (.ref (C.w.ad 102))] [] s0 (fM_sunset s0)
  unfold fM_sunset
  refine g_aload_n X dM_sunset_0 rfl ?_
  refine g_getN X fl_M_7 fb_12_1 k_102 r_102_1 dM_sunset_1 ?_
  refine g_iconst X 4 dM_sunset_4 (by decide) ?_
  refine g_iald X k_103 ln_103 dM_sunset_5 ?_
  refine g_bipush X 40 dM_sunset_6 (by decide) ?_
  refine g_iadd X dM_sunset_8 ?_
  exact g_iret X E dM_sunset_9
def yM_breathOf : MethodName := ⟨"LastWordHillModel", "breathOf", "(I)I"⟩
abbrev cM_breathOf : ByteArray := prog_14_method_17_code
theorem dM_breathOf_0 : decode cM_breathOf 0 = .ok (.bipush 99, 2) := by decide +kernel
theorem dM_breathOf_2 : decode cM_breathOf 2 = .ok (.aload_n 0, 1) := by decide +kernel
theorem dM_breathOf_3 : decode cM_breathOf 3 = .ok (.getfield 7, 3) := by decide +kernel
theorem dM_breathOf_6 : decode cM_breathOf 6 = .ok (.bipush 10, 2) := by decide +kernel
theorem dM_breathOf_8 : decode cM_breathOf 8 = .ok (.iload_n 1, 1) := by decide +kernel
theorem dM_breathOf_9 : decode cM_breathOf 9 = .ok (.iadd, 1) := by decide +kernel
theorem dM_breathOf_10 : decode cM_breathOf 10 = .ok (.iaload, 1) := by decide +kernel
theorem dM_breathOf_11 : decode cM_breathOf 11 = .ok (.isub, 1) := by decide +kernel
theorem dM_breathOf_12 : decode cM_breathOf 12 = .ok (.ireturn, 1) := by decide +kernel
def fM_breathOf (v1 : Int32) (s0 : Sg) : Option (Int32 × Sg) := gd (10 + v1) 50 (some ((99 - (s0 103 (ix (10 + v1)))), s0))
set_option maxHeartbeats 4000000 in
set_option maxRecDepth 100000 in
theorem okM_breathOf (v1 : Int32) (s0 : Sg) : ∀ (l : Launch) (w : WC), Ok l w yM_breathOf cM_breathOf 2 (some .int) 1 evI [.ref (w.ad 102), .int v1] s0 (fM_breathOf v1 s0) := by
  refine ok_in (ev := fun _ => evI) (av := fun w => [.ref (w.ad 102), .int v1]) "LastWordHillModel" rfl (by decide +kernel) (fun _ => rfl) (fun _ => Nat.le_of_ble_eq_true rfl) ?_
  intro C X E
  show GF C evI 0 [some (.ref (C.w.ad 102)), some (.int v1)] [] s0 (fM_breathOf v1 s0)
  unfold fM_breathOf
  refine g_bipush X 99 dM_breathOf_0 (by decide) ?_
  refine g_aload_n X dM_breathOf_2 rfl ?_
  refine g_getN X fl_M_7 fb_12_1 k_102 r_102_1 dM_breathOf_3 ?_
  refine g_bipush X 10 dM_breathOf_6 (by decide) ?_
  refine g_iload_n X dM_breathOf_8 rfl ?_
  refine g_iadd X dM_breathOf_9 ?_
  refine g_iald X k_103 ln_103 dM_breathOf_10 ?_
  refine g_isub X dM_breathOf_11 ?_
  exact g_iret X E dM_breathOf_12
def yM_hasBreath : MethodName := ⟨"LastWordHillModel", "hasBreath", "(II)V"⟩
abbrev cM_hasBreath : ByteArray := prog_14_method_18_code
theorem dM_hasBreath_0 : decode cM_hasBreath 0 = .ok (.aload_n 0, 1) := by decide +kernel
theorem dM_hasBreath_1 : decode cM_hasBreath 1 = .ok (.getfield 7, 3) := by decide +kernel
theorem dM_hasBreath_4 : decode cM_hasBreath 4 = .ok (.bipush 10, 2) := by decide +kernel
theorem dM_hasBreath_6 : decode cM_hasBreath 6 = .ok (.iload_n 1, 1) := by decide +kernel
theorem dM_hasBreath_7 : decode cM_hasBreath 7 = .ok (.iadd, 1) := by decide +kernel
theorem dM_hasBreath_8 : decode cM_hasBreath 8 = .ok (.bipush 99, 2) := by decide +kernel
theorem dM_hasBreath_10 : decode cM_hasBreath 10 = .ok (.aload_n 0, 1) := by decide +kernel
theorem dM_hasBreath_11 : decode cM_hasBreath 11 = .ok (.iload_n 2, 1) := by decide +kernel
theorem dM_hasBreath_12 : decode cM_hasBreath 12 = .ok (.iconst 0, 1) := by decide +kernel
theorem dM_hasBreath_13 : decode cM_hasBreath 13 = .ok (.bipush 99, 2) := by decide +kernel
theorem dM_hasBreath_15 : decode cM_hasBreath 15 = .ok (.invokevirtual 149, 3) := by decide +kernel
theorem mm_M_held : MMc yM_held cM_held 4 (some .int) 3 := ⟨hz_in 1658 (by decide +kernel) (by decide +kernel), hz_in 147 (by decide +kernel) (by decide +kernel), by decide +kernel, by decide⟩
theorem mv_M_held : MMv yM_held 12 := ⟨hz_in 1657 (by decide +kernel) (by decide +kernel), hz_in 53 (by decide +kernel) (by decide +kernel), _, _, rfl, by decide⟩
theorem ml_M_149 : Cond.methodLink "LastWordHillModel" 149 yM_held ∈ hz_wt := hz_in 1655 (by decide +kernel) (by decide +kernel)
theorem dM_hasBreath_18 : decode cM_hasBreath 18 = .ok (.isub, 1) := by decide +kernel
theorem dM_hasBreath_19 : decode cM_hasBreath 19 = .ok (.iastore, 1) := by decide +kernel
theorem dM_hasBreath_20 : decode cM_hasBreath 20 = .ok (.return_, 1) := by decide +kernel
def fM_hasBreath (v1 : Int32) (v2 : Int32) (s0 : Sg) : Option (Sg) := bi (fM_held v2 0 99 s0) fun r2 s1 => gd (10 + v1) 50 (bnd (pt s1 103 (ix (10 + v1)) (99 - r2)) fun s3 => some s3)
set_option maxHeartbeats 4000000 in
set_option maxRecDepth 100000 in
theorem okM_hasBreath (v1 : Int32) (v2 : Int32) (s0 : Sg) : ∀ (l : Launch) (w : WC), Ok l w yM_hasBreath cM_hasBreath 3 none 2 evV [.ref (w.ad 102), .int v1, .int v2] s0 (fM_hasBreath v1 v2 s0) := by
  refine ok_in (ev := fun _ => evV) (av := fun w => [.ref (w.ad 102), .int v1, .int v2]) "LastWordHillModel" rfl (by decide +kernel) (fun _ => rfl) (fun _ => Nat.le_of_ble_eq_true rfl) ?_
  intro C X E
  show GF C evV 0 [some (.ref (C.w.ad 102)), some (.int v1), some (.int v2)] [] s0 (fM_hasBreath v1 v2 s0)
  unfold fM_hasBreath
  refine g_aload_n X dM_hasBreath_0 rfl ?_
  refine g_getN X fl_M_7 fb_12_1 k_102 r_102_1 dM_hasBreath_1 ?_
  refine g_bipush X 10 dM_hasBreath_4 (by decide) ?_
  refine g_iload_n X dM_hasBreath_6 rfl ?_
  refine g_iadd X dM_hasBreath_7 ?_
  refine g_bipush X 99 dM_hasBreath_8 (by decide) ?_
  refine g_aload_n X dM_hasBreath_10 rfl ?_
  refine g_iload_n X dM_hasBreath_11 rfl ?_
  refine g_iconst X 0 dM_hasBreath_12 (by decide) ?_
  refine g_bipush X 99 dM_hasBreath_13 (by decide) ?_
  refine g_virtI X [.int v2, .int 0, .int 99] [.int 99, .int (10 + v1), .ref (C.w.ad 103)] k_102 mm_M_held mv_M_held ml_M_149 (okM_held v2 0 99 s0 C.l C.w) rfl (by decide) rfl (Nat.le_of_ble_eq_true rfl) dM_hasBreath_15 (fun r2 s1 => ?_)
  refine g_isub X dM_hasBreath_18 ?_
  refine g_iast X k_103 ln_103 dM_hasBreath_19 (fun s3 => ?_)
  exact g_vret X E dM_hasBreath_20
def yM_isGoing : MethodName := ⟨"LastWordHillModel", "isGoing", "(I)Z"⟩
abbrev cM_isGoing : ByteArray := prog_14_method_19_code
theorem dM_isGoing_0 : decode cM_isGoing 0 = .ok (.aload_n 0, 1) := by decide +kernel
theorem dM_isGoing_1 : decode cM_isGoing 1 = .ok (.getfield 7, 3) := by decide +kernel
theorem dM_isGoing_4 : decode cM_isGoing 4 = .ok (.bipush 30, 2) := by decide +kernel
theorem dM_isGoing_6 : decode cM_isGoing 6 = .ok (.iload_n 1, 1) := by decide +kernel
theorem dM_isGoing_7 : decode cM_isGoing 7 = .ok (.iadd, 1) := by decide +kernel
theorem dM_isGoing_8 : decode cM_isGoing 8 = .ok (.iaload, 1) := by decide +kernel
theorem dM_isGoing_9 : decode cM_isGoing 9 = .ok (.ifCond .le 7, 3) := by decide +kernel
theorem dM_isGoing_16 : decode cM_isGoing 16 = .ok (.iconst 0, 1) := by decide +kernel
theorem dM_isGoing_17 : decode cM_isGoing 17 = .ok (.ireturn, 1) := by decide +kernel
theorem dM_isGoing_12 : decode cM_isGoing 12 = .ok (.iconst 1, 1) := by decide +kernel
theorem dM_isGoing_13 : decode cM_isGoing 13 = .ok (.goto 4, 3) := by decide +kernel
def fM_isGoing (v1 : Int32) (s0 : Sg) : Option (Int32 × Sg) := gd (30 + v1) 50 (if (s0 103 (ix (30 + v1))) ≤ 0 then (gb 0 (some (0, s0))) else (gb 1 (some (1, s0))))
set_option maxHeartbeats 4000000 in
set_option maxRecDepth 100000 in
theorem okM_isGoing (v1 : Int32) (s0 : Sg) : ∀ (l : Launch) (w : WC), Ok l w yM_isGoing cM_isGoing 2 (some .boolean) 1 evI [.ref (w.ad 102), .int v1] s0 (fM_isGoing v1 s0) := by
  refine ok_in (ev := fun _ => evI) (av := fun w => [.ref (w.ad 102), .int v1]) "LastWordHillModel" rfl (by decide +kernel) (fun _ => rfl) (fun _ => Nat.le_of_ble_eq_true rfl) ?_
  intro C X E
  show GF C evI 0 [some (.ref (C.w.ad 102)), some (.int v1)] [] s0 (fM_isGoing v1 s0)
  unfold fM_isGoing
  refine g_aload_n X dM_isGoing_0 rfl ?_
  refine g_getN X fl_M_7 fb_12_1 k_102 r_102_1 dM_isGoing_1 ?_
  refine g_bipush X 30 dM_isGoing_4 (by decide) ?_
  refine g_iload_n X dM_isGoing_6 rfl ?_
  refine g_iadd X dM_isGoing_7 ?_
  refine g_iald X k_103 ln_103 dM_isGoing_8 ?_
  refine g_zle X (tgt := 16) dM_isGoing_9 (by decide) ?_ ?_
  · refine g_iconst X 0 dM_isGoing_16 (by decide) ?_
    exact g_zret X E dM_isGoing_17
  · refine g_iconst X 1 dM_isGoing_12 (by decide) ?_
    refine g_goto X 17 dM_isGoing_13 (by decide) ?_
    exact g_zret X E dM_isGoing_17
def yM_isUp : MethodName := ⟨"LastWordHillModel", "isUp", "(I)Z"⟩
abbrev cM_isUp : ByteArray := prog_14_method_20_code
theorem dM_isUp_0 : decode cM_isUp 0 = .ok (.aload_n 0, 1) := by decide +kernel
theorem dM_isUp_1 : decode cM_isUp 1 = .ok (.getfield 7, 3) := by decide +kernel
theorem dM_isUp_4 : decode cM_isUp 4 = .ok (.bipush 20, 2) := by decide +kernel
theorem dM_isUp_6 : decode cM_isUp 6 = .ok (.iload_n 1, 1) := by decide +kernel
theorem dM_isUp_7 : decode cM_isUp 7 = .ok (.iadd, 1) := by decide +kernel
theorem dM_isUp_8 : decode cM_isUp 8 = .ok (.iaload, 1) := by decide +kernel
theorem dM_isUp_9 : decode cM_isUp 9 = .ok (.bipush 99, 2) := by decide +kernel
theorem dM_isUp_11 : decode cM_isUp 11 = .ok (.if_icmp .ne 7, 3) := by decide +kernel
theorem dM_isUp_18 : decode cM_isUp 18 = .ok (.iconst 0, 1) := by decide +kernel
theorem dM_isUp_19 : decode cM_isUp 19 = .ok (.ireturn, 1) := by decide +kernel
theorem dM_isUp_14 : decode cM_isUp 14 = .ok (.iconst 1, 1) := by decide +kernel
theorem dM_isUp_15 : decode cM_isUp 15 = .ok (.goto 4, 3) := by decide +kernel
def fM_isUp (v1 : Int32) (s0 : Sg) : Option (Int32 × Sg) := gd (20 + v1) 50 (if (s0 103 (ix (20 + v1))) = 99 then (gb 1 (some (1, s0))) else (gb 0 (some (0, s0))))
set_option maxHeartbeats 4000000 in
set_option maxRecDepth 100000 in
theorem okM_isUp (v1 : Int32) (s0 : Sg) : ∀ (l : Launch) (w : WC), Ok l w yM_isUp cM_isUp 2 (some .boolean) 1 evI [.ref (w.ad 102), .int v1] s0 (fM_isUp v1 s0) := by
  refine ok_in (ev := fun _ => evI) (av := fun w => [.ref (w.ad 102), .int v1]) "LastWordHillModel" rfl (by decide +kernel) (fun _ => rfl) (fun _ => Nat.le_of_ble_eq_true rfl) ?_
  intro C X E
  show GF C evI 0 [some (.ref (C.w.ad 102)), some (.int v1)] [] s0 (fM_isUp v1 s0)
  unfold fM_isUp
  refine g_aload_n X dM_isUp_0 rfl ?_
  refine g_getN X fl_M_7 fb_12_1 k_102 r_102_1 dM_isUp_1 ?_
  refine g_bipush X 20 dM_isUp_4 (by decide) ?_
  refine g_iload_n X dM_isUp_6 rfl ?_
  refine g_iadd X dM_isUp_7 ?_
  refine g_iald X k_103 ln_103 dM_isUp_8 ?_
  refine g_bipush X 99 dM_isUp_9 (by decide) ?_
  refine g_cne X (tgt := 18) dM_isUp_11 (by decide) ?_ ?_
  · refine g_iconst X 1 dM_isUp_14 (by decide) ?_
    refine g_goto X 19 dM_isUp_15 (by decide) ?_
    exact g_zret X E dM_isUp_19
  · refine g_iconst X 0 dM_isUp_18 (by decide) ?_
    exact g_zret X E dM_isUp_19
def yM_person : MethodName := ⟨"LastWordHillModel", "person", "(III)I"⟩
abbrev cM_person : ByteArray := prog_14_method_21_code
theorem dM_person_0 : decode cM_person 0 = .ok (.aload_n 0, 1) := by decide +kernel
theorem dM_person_1 : decode cM_person 1 = .ok (.iconst 0, 1) := by decide +kernel
theorem dM_person_2 : decode cM_person 2 = .ok (.putfield 134, 3) := by decide +kernel
theorem dM_person_5 : decode cM_person 5 = .ok (.aload_n 0, 1) := by decide +kernel
theorem dM_person_6 : decode cM_person 6 = .ok (.iload_n 1, 1) := by decide +kernel
theorem dM_person_7 : decode cM_person 7 = .ok (.iconst 0, 1) := by decide +kernel
theorem dM_person_8 : decode cM_person 8 = .ok (.bipush 9, 2) := by decide +kernel
theorem dM_person_10 : decode cM_person 10 = .ok (.invokevirtual 153, 3) := by decide +kernel
theorem mm_M_isIn : MMc yM_isIn cM_isIn 4 (some .boolean) 3 := ⟨hz_in 1638 (by decide +kernel) (by decide +kernel), hz_in 147 (by decide +kernel) (by decide +kernel), by decide +kernel, by decide⟩
theorem mv_M_isIn : MMv yM_isIn 12 := ⟨hz_in 1637 (by decide +kernel) (by decide +kernel), hz_in 49 (by decide +kernel) (by decide +kernel), _, _, rfl, by decide⟩
theorem ml_M_153 : Cond.methodLink "LastWordHillModel" 153 yM_isIn ∈ hz_wt := hz_in 1635 (by decide +kernel) (by decide +kernel)
theorem dM_person_13 : decode cM_person 13 = .ok (.ifCond .eq 33, 3) := by decide +kernel
theorem dM_person_46 : decode cM_person 46 = .ok (.iconst (-1), 1) := by decide +kernel
theorem dM_person_47 : decode cM_person 47 = .ok (.ireturn, 1) := by decide +kernel
theorem dM_person_16 : decode cM_person 16 = .ok (.aload_n 0, 1) := by decide +kernel
theorem dM_person_17 : decode cM_person 17 = .ok (.iload_n 2, 1) := by decide +kernel
theorem dM_person_18 : decode cM_person 18 = .ok (.iconst 1, 1) := by decide +kernel
theorem dM_person_19 : decode cM_person 19 = .ok (.bipush 9, 2) := by decide +kernel
theorem dM_person_21 : decode cM_person 21 = .ok (.invokevirtual 153, 3) := by decide +kernel
theorem dM_person_24 : decode cM_person 24 = .ok (.ifCond .eq 22, 3) := by decide +kernel
theorem dM_person_27 : decode cM_person 27 = .ok (.aload_n 0, 1) := by decide +kernel
theorem dM_person_28 : decode cM_person 28 = .ok (.iload_n 3, 1) := by decide +kernel
theorem dM_person_29 : decode cM_person 29 = .ok (.iconst 0, 1) := by decide +kernel
theorem dM_person_30 : decode cM_person 30 = .ok (.iconst 3, 1) := by decide +kernel
theorem dM_person_31 : decode cM_person 31 = .ok (.invokevirtual 153, 3) := by decide +kernel
theorem dM_person_34 : decode cM_person 34 = .ok (.ifCond .eq 12, 3) := by decide +kernel
theorem dM_person_37 : decode cM_person 37 = .ok (.aload_n 0, 1) := by decide +kernel
theorem dM_person_38 : decode cM_person 38 = .ok (.getfield 146, 3) := by decide +kernel
theorem dM_person_41 : decode cM_person 41 = .ok (.bipush 10, 2) := by decide +kernel
theorem dM_person_43 : decode cM_person 43 = .ok (.if_icmp .ne 5, 3) := by decide +kernel
theorem dM_person_48 : decode cM_person 48 = .ok (.aload_n 0, 1) := by decide +kernel
theorem dM_person_49 : decode cM_person 49 = .ok (.getfield 19, 3) := by decide +kernel
theorem fl_M_19 : FLk "LastWordHillModel" 19 12 7 := ⟨_, _, _, rfl, by decide, hz_in 1419 (by decide +kernel) (by decide +kernel), nL12, by decide, by decide⟩
theorem k_106 : hz_kd 106 = 13 := by decide
theorem fb_12_7 : (hz_bs 12)[7]? = some true := by decide
theorem r_102_7 : hz_rf 102 7 = 106 := by decide
theorem dM_person_52 : decode cM_person 52 = .ok (.aload_n 0, 1) := by decide +kernel
theorem dM_person_53 : decode cM_person 53 = .ok (.getfield 146, 3) := by decide +kernel
theorem dM_person_56 : decode cM_person 56 = .ok (.iload_n 1, 1) := by decide +kernel
theorem dM_person_57 : decode cM_person 57 = .ok (.iastore, 1) := by decide +kernel
theorem ln_106 : hz_ln 106 = 10 := by decide
theorem dM_person_58 : decode cM_person 58 = .ok (.aload_n 0, 1) := by decide +kernel
theorem dM_person_59 : decode cM_person 59 = .ok (.getfield 22, 3) := by decide +kernel
theorem fl_M_22 : FLk "LastWordHillModel" 22 12 8 := ⟨_, _, _, rfl, by decide, hz_in 1420 (by decide +kernel) (by decide +kernel), nL12, by decide, by decide⟩
theorem k_107 : hz_kd 107 = 13 := by decide
theorem fb_12_8 : (hz_bs 12)[8]? = some true := by decide
theorem r_102_8 : hz_rf 102 8 = 107 := by decide
theorem dM_person_62 : decode cM_person 62 = .ok (.aload_n 0, 1) := by decide +kernel
theorem dM_person_63 : decode cM_person 63 = .ok (.getfield 146, 3) := by decide +kernel
theorem dM_person_66 : decode cM_person 66 = .ok (.iload_n 2, 1) := by decide +kernel
theorem dM_person_67 : decode cM_person 67 = .ok (.iastore, 1) := by decide +kernel
theorem ln_107 : hz_ln 107 = 10 := by decide
theorem dM_person_68 : decode cM_person 68 = .ok (.aload_n 0, 1) := by decide +kernel
theorem dM_person_69 : decode cM_person 69 = .ok (.getfield 25, 3) := by decide +kernel
theorem fl_M_25 : FLk "LastWordHillModel" 25 12 9 := ⟨_, _, _, rfl, by decide, hz_in 1421 (by decide +kernel) (by decide +kernel), nL12, by decide, by decide⟩
theorem k_108 : hz_kd 108 = 13 := by decide
theorem fb_12_9 : (hz_bs 12)[9]? = some true := by decide
theorem r_102_9 : hz_rf 102 9 = 108 := by decide
theorem dM_person_72 : decode cM_person 72 = .ok (.aload_n 0, 1) := by decide +kernel
theorem dM_person_73 : decode cM_person 73 = .ok (.getfield 146, 3) := by decide +kernel
theorem dM_person_76 : decode cM_person 76 = .ok (.iload_n 3, 1) := by decide +kernel
theorem dM_person_77 : decode cM_person 77 = .ok (.iastore, 1) := by decide +kernel
theorem ln_108 : hz_ln 108 = 10 := by decide
theorem dM_person_78 : decode cM_person 78 = .ok (.aload_n 0, 1) := by decide +kernel
theorem dM_person_79 : decode cM_person 79 = .ok (.getfield 7, 3) := by decide +kernel
theorem dM_person_82 : decode cM_person 82 = .ok (.bipush 10, 2) := by decide +kernel
theorem dM_person_84 : decode cM_person 84 = .ok (.aload_n 0, 1) := by decide +kernel
theorem dM_person_85 : decode cM_person 85 = .ok (.getfield 146, 3) := by decide +kernel
theorem dM_person_88 : decode cM_person 88 = .ok (.iadd, 1) := by decide +kernel
theorem dM_person_89 : decode cM_person 89 = .ok (.iconst 0, 1) := by decide +kernel
theorem dM_person_90 : decode cM_person 90 = .ok (.iastore, 1) := by decide +kernel
theorem dM_person_91 : decode cM_person 91 = .ok (.aload_n 0, 1) := by decide +kernel
theorem dM_person_92 : decode cM_person 92 = .ok (.getfield 7, 3) := by decide +kernel
theorem dM_person_95 : decode cM_person 95 = .ok (.bipush 20, 2) := by decide +kernel
theorem dM_person_97 : decode cM_person 97 = .ok (.aload_n 0, 1) := by decide +kernel
theorem dM_person_98 : decode cM_person 98 = .ok (.getfield 146, 3) := by decide +kernel
theorem dM_person_101 : decode cM_person 101 = .ok (.iadd, 1) := by decide +kernel
theorem dM_person_102 : decode cM_person 102 = .ok (.iconst 0, 1) := by decide +kernel
theorem dM_person_103 : decode cM_person 103 = .ok (.iastore, 1) := by decide +kernel
theorem dM_person_104 : decode cM_person 104 = .ok (.aload_n 0, 1) := by decide +kernel
theorem dM_person_105 : decode cM_person 105 = .ok (.getfield 7, 3) := by decide +kernel
theorem dM_person_108 : decode cM_person 108 = .ok (.bipush 30, 2) := by decide +kernel
theorem dM_person_110 : decode cM_person 110 = .ok (.aload_n 0, 1) := by decide +kernel
theorem dM_person_111 : decode cM_person 111 = .ok (.getfield 146, 3) := by decide +kernel
theorem dM_person_114 : decode cM_person 114 = .ok (.iadd, 1) := by decide +kernel
theorem dM_person_115 : decode cM_person 115 = .ok (.iconst 0, 1) := by decide +kernel
theorem dM_person_116 : decode cM_person 116 = .ok (.iastore, 1) := by decide +kernel
theorem dM_person_117 : decode cM_person 117 = .ok (.aload_n 0, 1) := by decide +kernel
theorem dM_person_118 : decode cM_person 118 = .ok (.getfield 7, 3) := by decide +kernel
theorem dM_person_121 : decode cM_person 121 = .ok (.bipush 40, 2) := by decide +kernel
theorem dM_person_123 : decode cM_person 123 = .ok (.aload_n 0, 1) := by decide +kernel
theorem dM_person_124 : decode cM_person 124 = .ok (.getfield 146, 3) := by decide +kernel
theorem dM_person_127 : decode cM_person 127 = .ok (.iadd, 1) := by decide +kernel
theorem dM_person_128 : decode cM_person 128 = .ok (.iconst 0, 1) := by decide +kernel
theorem dM_person_129 : decode cM_person 129 = .ok (.iastore, 1) := by decide +kernel
theorem dM_person_130 : decode cM_person 130 = .ok (.aload_n 0, 1) := by decide +kernel
theorem dM_person_131 : decode cM_person 131 = .ok (.aload_n 0, 1) := by decide +kernel
theorem dM_person_132 : decode cM_person 132 = .ok (.getfield 146, 3) := by decide +kernel
theorem dM_person_135 : decode cM_person 135 = .ok (.iconst 1, 1) := by decide +kernel
theorem dM_person_136 : decode cM_person 136 = .ok (.iadd, 1) := by decide +kernel
theorem dM_person_137 : decode cM_person 137 = .ok (.putfield 146, 3) := by decide +kernel
theorem fp_12_6 : FLp 12 6 .int := ⟨_, _, _, _, rfl, nY12, nN12, by decide, by decide⟩
theorem dM_person_140 : decode cM_person 140 = .ok (.aload_n 0, 1) := by decide +kernel
theorem dM_person_141 : decode cM_person 141 = .ok (.iconst 0, 1) := by decide +kernel
theorem dM_person_142 : decode cM_person 142 = .ok (.putfield 137, 3) := by decide +kernel
theorem dM_person_145 : decode cM_person 145 = .ok (.aload_n 0, 1) := by decide +kernel
theorem dM_person_146 : decode cM_person 146 = .ok (.getfield 146, 3) := by decide +kernel
theorem dM_person_149 : decode cM_person 149 = .ok (.iconst 1, 1) := by decide +kernel
theorem dM_person_150 : decode cM_person 150 = .ok (.isub, 1) := by decide +kernel
theorem dM_person_151 : decode cM_person 151 = .ok (.ireturn, 1) := by decide +kernel
def fM_person (v1 : Int32) (v2 : Int32) (v3 : Int32) (s0 : Sg) : Option (Int32 × Sg) := bnd (pt s0 102 0 0) fun s1 => bi (fM_isIn v1 0 9 s1) fun r3 s2 => if r3 = 0 then (some ((-1), s2)) else (bi (fM_isIn v2 1 9 s2) fun r5 s4 => if r5 = 0 then (some ((-1), s4)) else (bi (fM_isIn v3 0 3 s4) fun r7 s6 => if r7 = 0 then (some ((-1), s6)) else (if (s6 102 6) = 10 then (some ((-1), s6)) else (gd (s6 102 6) 10 (bnd (pt s6 106 (ix (s6 102 6)) v1) fun s8 => gd (s8 102 6) 10 (bnd (pt s8 107 (ix (s8 102 6)) v2) fun s9 => gd (s9 102 6) 10 (bnd (pt s9 108 (ix (s9 102 6)) v3) fun s10 => gd (10 + (s10 102 6)) 50 (bnd (pt s10 103 (ix (10 + (s10 102 6))) 0) fun s11 => gd (20 + (s11 102 6)) 50 (bnd (pt s11 103 (ix (20 + (s11 102 6))) 0) fun s12 => gd (30 + (s12 102 6)) 50 (bnd (pt s12 103 (ix (30 + (s12 102 6))) 0) fun s13 => gd (40 + (s13 102 6)) 50 (bnd (pt s13 103 (ix (40 + (s13 102 6))) 0) fun s14 => bnd (pt s14 102 6 ((s14 102 6) + 1)) fun s15 => bnd (pt s15 102 3 0) fun s16 => some (((s16 102 6) - 1), s16))))))))))))
set_option maxHeartbeats 4000000 in
set_option maxRecDepth 100000 in
theorem okM_person (v1 : Int32) (v2 : Int32) (v3 : Int32) (s0 : Sg) : ∀ (l : Launch) (w : WC), Ok l w yM_person cM_person 4 (some .int) 2 evI [.ref (w.ad 102), .int v1, .int v2, .int v3] s0 (fM_person v1 v2 v3 s0) := by
  refine ok_in (ev := fun _ => evI) (av := fun w => [.ref (w.ad 102), .int v1, .int v2, .int v3]) "LastWordHillModel" rfl (by decide +kernel) (fun _ => rfl) (fun _ => Nat.le_of_ble_eq_true rfl) ?_
  intro C X E
  show GF C evI 0 [some (.ref (C.w.ad 102)), some (.int v1), some (.int v2), some (.int v3)] [] s0 (fM_person v1 v2 v3 s0)
  unfold fM_person
  refine g_aload_n X dM_person_0 rfl ?_
  refine g_iconst X 0 dM_person_1 (by decide) ?_
  refine g_putI X fl_M_134 fb_12_0 fp_12_0 k_102 dM_person_2 (fun s1 => ?_)
  refine g_aload_n X dM_person_5 rfl ?_
  refine g_iload_n X dM_person_6 rfl ?_
  refine g_iconst X 0 dM_person_7 (by decide) ?_
  refine g_bipush X 9 dM_person_8 (by decide) ?_
  refine g_virtI X [.int v1, .int 0, .int 9] [] k_102 mm_M_isIn mv_M_isIn ml_M_153 (okM_isIn v1 0 9 s1 C.l C.w) rfl (by decide) rfl (Nat.le_of_ble_eq_true rfl) dM_person_10 (fun r3 s2 => ?_)
  refine g_zeq X (tgt := 46) dM_person_13 (by decide) ?_ ?_
  · refine g_iconst X (-1) dM_person_46 (by decide) ?_
    exact g_iret X E dM_person_47
  · refine g_aload_n X dM_person_16 rfl ?_
    refine g_iload_n X dM_person_17 rfl ?_
    refine g_iconst X 1 dM_person_18 (by decide) ?_
    refine g_bipush X 9 dM_person_19 (by decide) ?_
    refine g_virtI X [.int v2, .int 1, .int 9] [] k_102 mm_M_isIn mv_M_isIn ml_M_153 (okM_isIn v2 1 9 s2 C.l C.w) rfl (by decide) rfl (Nat.le_of_ble_eq_true rfl) dM_person_21 (fun r5 s4 => ?_)
    refine g_zeq X (tgt := 46) dM_person_24 (by decide) ?_ ?_
    · refine g_iconst X (-1) dM_person_46 (by decide) ?_
      exact g_iret X E dM_person_47
    · refine g_aload_n X dM_person_27 rfl ?_
      refine g_iload_n X dM_person_28 rfl ?_
      refine g_iconst X 0 dM_person_29 (by decide) ?_
      refine g_iconst X 3 dM_person_30 (by decide) ?_
      refine g_virtI X [.int v3, .int 0, .int 3] [] k_102 mm_M_isIn mv_M_isIn ml_M_153 (okM_isIn v3 0 3 s4 C.l C.w) rfl (by decide) rfl (Nat.le_of_ble_eq_true rfl) dM_person_31 (fun r7 s6 => ?_)
      refine g_zeq X (tgt := 46) dM_person_34 (by decide) ?_ ?_
      · refine g_iconst X (-1) dM_person_46 (by decide) ?_
        exact g_iret X E dM_person_47
      · refine g_aload_n X dM_person_37 rfl ?_
        refine g_getI X fl_M_146 fb_12_6 k_102 dM_person_38 ?_
        refine g_bipush X 10 dM_person_41 (by decide) ?_
        refine g_cne X (tgt := 48) dM_person_43 (by decide) ?_ ?_
        · refine g_iconst X (-1) dM_person_46 (by decide) ?_
          exact g_iret X E dM_person_47
        · refine g_aload_n X dM_person_48 rfl ?_
          refine g_getN X fl_M_19 fb_12_7 k_102 r_102_7 dM_person_49 ?_
          refine g_aload_n X dM_person_52 rfl ?_
          refine g_getI X fl_M_146 fb_12_6 k_102 dM_person_53 ?_
          refine g_iload_n X dM_person_56 rfl ?_
          refine g_iast X k_106 ln_106 dM_person_57 (fun s8 => ?_)
          refine g_aload_n X dM_person_58 rfl ?_
          refine g_getN X fl_M_22 fb_12_8 k_102 r_102_8 dM_person_59 ?_
          refine g_aload_n X dM_person_62 rfl ?_
          refine g_getI X fl_M_146 fb_12_6 k_102 dM_person_63 ?_
          refine g_iload_n X dM_person_66 rfl ?_
          refine g_iast X k_107 ln_107 dM_person_67 (fun s9 => ?_)
          refine g_aload_n X dM_person_68 rfl ?_
          refine g_getN X fl_M_25 fb_12_9 k_102 r_102_9 dM_person_69 ?_
          refine g_aload_n X dM_person_72 rfl ?_
          refine g_getI X fl_M_146 fb_12_6 k_102 dM_person_73 ?_
          refine g_iload_n X dM_person_76 rfl ?_
          refine g_iast X k_108 ln_108 dM_person_77 (fun s10 => ?_)
          refine g_aload_n X dM_person_78 rfl ?_
          refine g_getN X fl_M_7 fb_12_1 k_102 r_102_1 dM_person_79 ?_
          refine g_bipush X 10 dM_person_82 (by decide) ?_
          refine g_aload_n X dM_person_84 rfl ?_
          refine g_getI X fl_M_146 fb_12_6 k_102 dM_person_85 ?_
          refine g_iadd X dM_person_88 ?_
          refine g_iconst X 0 dM_person_89 (by decide) ?_
          refine g_iast X k_103 ln_103 dM_person_90 (fun s11 => ?_)
          refine g_aload_n X dM_person_91 rfl ?_
          refine g_getN X fl_M_7 fb_12_1 k_102 r_102_1 dM_person_92 ?_
          refine g_bipush X 20 dM_person_95 (by decide) ?_
          refine g_aload_n X dM_person_97 rfl ?_
          refine g_getI X fl_M_146 fb_12_6 k_102 dM_person_98 ?_
          refine g_iadd X dM_person_101 ?_
          refine g_iconst X 0 dM_person_102 (by decide) ?_
          refine g_iast X k_103 ln_103 dM_person_103 (fun s12 => ?_)
          refine g_aload_n X dM_person_104 rfl ?_
          refine g_getN X fl_M_7 fb_12_1 k_102 r_102_1 dM_person_105 ?_
          refine g_bipush X 30 dM_person_108 (by decide) ?_
          refine g_aload_n X dM_person_110 rfl ?_
          refine g_getI X fl_M_146 fb_12_6 k_102 dM_person_111 ?_
          refine g_iadd X dM_person_114 ?_
          refine g_iconst X 0 dM_person_115 (by decide) ?_
          refine g_iast X k_103 ln_103 dM_person_116 (fun s13 => ?_)
          refine g_aload_n X dM_person_117 rfl ?_
          refine g_getN X fl_M_7 fb_12_1 k_102 r_102_1 dM_person_118 ?_
          refine g_bipush X 40 dM_person_121 (by decide) ?_
          refine g_aload_n X dM_person_123 rfl ?_
          refine g_getI X fl_M_146 fb_12_6 k_102 dM_person_124 ?_
          refine g_iadd X dM_person_127 ?_
          refine g_iconst X 0 dM_person_128 (by decide) ?_
          refine g_iast X k_103 ln_103 dM_person_129 (fun s14 => ?_)
          refine g_aload_n X dM_person_130 rfl ?_
          refine g_aload_n X dM_person_131 rfl ?_
          refine g_getI X fl_M_146 fb_12_6 k_102 dM_person_132 ?_
          refine g_iconst X 1 dM_person_135 (by decide) ?_
          refine g_iadd X dM_person_136 ?_
          refine g_putI X fl_M_146 fb_12_6 fp_12_6 k_102 dM_person_137 (fun s15 => ?_)
          refine g_aload_n X dM_person_140 rfl ?_
          refine g_iconst X 0 dM_person_141 (by decide) ?_
          refine g_putI X fl_M_137 fb_12_3 fp_12_3 k_102 dM_person_142 (fun s16 => ?_)
          refine g_aload_n X dM_person_145 rfl ?_
          refine g_getI X fl_M_146 fb_12_6 k_102 dM_person_146 ?_
          refine g_iconst X 1 dM_person_149 (by decide) ?_
          refine g_isub X dM_person_150 ?_
          exact g_iret X E dM_person_151
def yM_canSet : MethodName := ⟨"LastWordHillModel", "canSet", "(III)Z"⟩
abbrev cM_canSet : ByteArray := prog_14_method_22_code
theorem dM_canSet_0 : decode cM_canSet 0 = .ok (.iload_n 1, 1) := by decide +kernel
theorem dM_canSet_1 : decode cM_canSet 1 = .ok (.iconst 5, 1) := by decide +kernel
theorem dM_canSet_2 : decode cM_canSet 2 = .ok (.if_icmp .ne 13, 3) := by decide +kernel
theorem dM_canSet_15 : decode cM_canSet 15 = .ok (.iload_n 1, 1) := by decide +kernel
theorem dM_canSet_16 : decode cM_canSet 16 = .ok (.bipush 6, 2) := by decide +kernel
theorem dM_canSet_18 : decode cM_canSet 18 = .ok (.if_icmp .ne 12, 3) := by decide +kernel
theorem dM_canSet_30 : decode cM_canSet 30 = .ok (.aload_n 0, 1) := by decide +kernel
theorem dM_canSet_31 : decode cM_canSet 31 = .ok (.iload_n 1, 1) := by decide +kernel
theorem dM_canSet_32 : decode cM_canSet 32 = .ok (.iconst 0, 1) := by decide +kernel
theorem dM_canSet_33 : decode cM_canSet 33 = .ok (.iconst 4, 1) := by decide +kernel
theorem dM_canSet_34 : decode cM_canSet 34 = .ok (.invokevirtual 153, 3) := by decide +kernel
theorem dM_canSet_37 : decode cM_canSet 37 = .ok (.ifCond .eq 11, 3) := by decide +kernel
theorem dM_canSet_48 : decode cM_canSet 48 = .ok (.iconst 0, 1) := by decide +kernel
theorem dM_canSet_49 : decode cM_canSet 49 = .ok (.ireturn, 1) := by decide +kernel
theorem dM_canSet_40 : decode cM_canSet 40 = .ok (.aload_n 0, 1) := by decide +kernel
theorem dM_canSet_41 : decode cM_canSet 41 = .ok (.iload_n 2, 1) := by decide +kernel
theorem dM_canSet_42 : decode cM_canSet 42 = .ok (.invokevirtual 157, 3) := by decide +kernel
theorem mm_M_isPerson : MMc yM_isPerson cM_isPerson 2 (some .boolean) 1 := ⟨hz_in 1650 (by decide +kernel) (by decide +kernel), hz_in 147 (by decide +kernel) (by decide +kernel), by decide +kernel, by decide⟩
theorem mv_M_isPerson : MMv yM_isPerson 12 := ⟨hz_in 1649 (by decide +kernel) (by decide +kernel), hz_in 51 (by decide +kernel) (by decide +kernel), _, _, rfl, by decide⟩
theorem ml_M_157 : Cond.methodLink "LastWordHillModel" 157 yM_isPerson ∈ hz_wt := hz_in 1647 (by decide +kernel) (by decide +kernel)
theorem dM_canSet_45 : decode cM_canSet 45 = .ok (.ifCond .ne 5, 3) := by decide +kernel
theorem dM_canSet_50 : decode cM_canSet 50 = .ok (.aload_n 0, 1) := by decide +kernel
theorem dM_canSet_51 : decode cM_canSet 51 = .ok (.iload_n 3, 1) := by decide +kernel
theorem dM_canSet_52 : decode cM_canSet 52 = .ok (.iload_n 1, 1) := by decide +kernel
theorem dM_canSet_53 : decode cM_canSet 53 = .ok (.iconst 1, 1) := by decide +kernel
theorem dM_canSet_54 : decode cM_canSet 54 = .ok (.if_icmp .ne 7, 3) := by decide +kernel
theorem dM_canSet_62 : decode cM_canSet 62 = .ok (.iload_n 1, 1) := by decide +kernel
theorem dM_canSet_63 : decode cM_canSet 63 = .ok (.iconst 2, 1) := by decide +kernel
theorem dM_canSet_64 : decode cM_canSet 64 = .ok (.if_icmp .ge 8, 3) := by decide +kernel
theorem dM_canSet_83 : decode cM_canSet 83 = .ok (.invokevirtual 153, 3) := by decide +kernel
theorem dM_canSet_86 : decode cM_canSet 86 = .ok (.ireturn, 1) := by decide +kernel
theorem dM_canSet_72 : decode cM_canSet 72 = .ok (.iload_n 1, 1) := by decide +kernel
theorem dM_canSet_73 : decode cM_canSet 73 = .ok (.iconst 2, 1) := by decide +kernel
theorem dM_canSet_74 : decode cM_canSet 74 = .ok (.if_icmp .ne 7, 3) := by decide +kernel
theorem dM_canSet_81 : decode cM_canSet 81 = .ok (.bipush 99, 2) := by decide +kernel
theorem dM_canSet_77 : decode cM_canSet 77 = .ok (.iconst 3, 1) := by decide +kernel
theorem dM_canSet_78 : decode cM_canSet 78 = .ok (.goto 5, 3) := by decide +kernel
theorem dM_canSet_67 : decode cM_canSet 67 = .ok (.bipush 9, 2) := by decide +kernel
theorem dM_canSet_69 : decode cM_canSet 69 = .ok (.goto 14, 3) := by decide +kernel
theorem dM_canSet_61 : decode cM_canSet 61 = .ok (.iconst 0, 1) := by decide +kernel
theorem dM_canSet_57 : decode cM_canSet 57 = .ok (.iconst 1, 1) := by decide +kernel
theorem dM_canSet_58 : decode cM_canSet 58 = .ok (.goto 4, 3) := by decide +kernel
theorem dM_canSet_21 : decode cM_canSet 21 = .ok (.aload_n 0, 1) := by decide +kernel
theorem dM_canSet_22 : decode cM_canSet 22 = .ok (.iload_n 3, 1) := by decide +kernel
theorem dM_canSet_23 : decode cM_canSet 23 = .ok (.iconst (-1), 1) := by decide +kernel
theorem dM_canSet_24 : decode cM_canSet 24 = .ok (.bipush 19, 2) := by decide +kernel
theorem dM_canSet_26 : decode cM_canSet 26 = .ok (.invokevirtual 153, 3) := by decide +kernel
theorem dM_canSet_29 : decode cM_canSet 29 = .ok (.ireturn, 1) := by decide +kernel
theorem dM_canSet_5 : decode cM_canSet 5 = .ok (.aload_n 0, 1) := by decide +kernel
theorem dM_canSet_6 : decode cM_canSet 6 = .ok (.iload_n 3, 1) := by decide +kernel
theorem dM_canSet_7 : decode cM_canSet 7 = .ok (.bipush 10, 2) := by decide +kernel
theorem dM_canSet_9 : decode cM_canSet 9 = .ok (.bipush 59, 2) := by decide +kernel
theorem dM_canSet_11 : decode cM_canSet 11 = .ok (.invokevirtual 153, 3) := by decide +kernel
theorem dM_canSet_14 : decode cM_canSet 14 = .ok (.ireturn, 1) := by decide +kernel
def fM_canSet (v1 : Int32) (v2 : Int32) (v3 : Int32) (s0 : Sg) : Option (Int32 × Sg) := if v1 = 5 then (bi (fM_isIn v3 10 59 s0) fun r12 s11 => gb r12 (some (r12, s11))) else (if v1 = 6 then (bi (fM_isIn v3 (-1) 19 s0) fun r10 s9 => gb r10 (some (r10, s9))) else (bi (fM_isIn v1 0 4 s0) fun r2 s1 => if r2 = 0 then (gb 0 (some (0, s1))) else (bi (fM_isPerson v2 s1) fun r4 s3 => if r4 = 0 then (gb 0 (some (0, s3))) else (bnd (fun (b62_0 : Int32) (s5 : Sg) => bnd (fun (b83_0 : Int32) (s6 : Sg) => bi (fM_isIn v3 b62_0 b83_0 s6) fun r8 s7 => gb r8 (some (r8, s7))) fun j83 => if 2 ≤ v1 then (if v1 = 2 then (j83 3 s5) else (j83 99 s5)) else (j83 9 s5)) fun j62 => if v1 = 1 then (j62 1 s3) else (j62 0 s3)))))
set_option maxHeartbeats 4000000 in
set_option maxRecDepth 100000 in
theorem okM_canSet (v1 : Int32) (v2 : Int32) (v3 : Int32) (s0 : Sg) : ∀ (l : Launch) (w : WC), Ok l w yM_canSet cM_canSet 4 (some .boolean) 2 evI [.ref (w.ad 102), .int v1, .int v2, .int v3] s0 (fM_canSet v1 v2 v3 s0) := by
  refine ok_in (ev := fun _ => evI) (av := fun w => [.ref (w.ad 102), .int v1, .int v2, .int v3]) "LastWordHillModel" rfl (by decide +kernel) (fun _ => rfl) (fun _ => Nat.le_of_ble_eq_true rfl) ?_
  intro C X E
  show GF C evI 0 [some (.ref (C.w.ad 102)), some (.int v1), some (.int v2), some (.int v3)] [] s0 (fM_canSet v1 v2 v3 s0)
  unfold fM_canSet
  refine g_iload_n X dM_canSet_0 rfl ?_
  refine g_iconst X 5 dM_canSet_1 (by decide) ?_
  refine g_cne X (tgt := 15) dM_canSet_2 (by decide) ?_ ?_
  · refine g_aload_n X dM_canSet_5 rfl ?_
    refine g_iload_n X dM_canSet_6 rfl ?_
    refine g_bipush X 10 dM_canSet_7 (by decide) ?_
    refine g_bipush X 59 dM_canSet_9 (by decide) ?_
    refine g_virtI X [.int v3, .int 10, .int 59] [] k_102 mm_M_isIn mv_M_isIn ml_M_153 (okM_isIn v3 10 59 s0 C.l C.w) rfl (by decide) rfl (Nat.le_of_ble_eq_true rfl) dM_canSet_11 (fun r12 s11 => ?_)
    exact g_zret X E dM_canSet_14
  · refine g_iload_n X dM_canSet_15 rfl ?_
    refine g_bipush X 6 dM_canSet_16 (by decide) ?_
    refine g_cne X (tgt := 30) dM_canSet_18 (by decide) ?_ ?_
    · refine g_aload_n X dM_canSet_21 rfl ?_
      refine g_iload_n X dM_canSet_22 rfl ?_
      refine g_iconst X (-1) dM_canSet_23 (by decide) ?_
      refine g_bipush X 19 dM_canSet_24 (by decide) ?_
      refine g_virtI X [.int v3, .int (-1), .int 19] [] k_102 mm_M_isIn mv_M_isIn ml_M_153 (okM_isIn v3 (-1) 19 s0 C.l C.w) rfl (by decide) rfl (Nat.le_of_ble_eq_true rfl) dM_canSet_26 (fun r10 s9 => ?_)
      exact g_zret X E dM_canSet_29
    · refine g_aload_n X dM_canSet_30 rfl ?_
      refine g_iload_n X dM_canSet_31 rfl ?_
      refine g_iconst X 0 dM_canSet_32 (by decide) ?_
      refine g_iconst X 4 dM_canSet_33 (by decide) ?_
      refine g_virtI X [.int v1, .int 0, .int 4] [] k_102 mm_M_isIn mv_M_isIn ml_M_153 (okM_isIn v1 0 4 s0 C.l C.w) rfl (by decide) rfl (Nat.le_of_ble_eq_true rfl) dM_canSet_34 (fun r2 s1 => ?_)
      refine g_zeq X (tgt := 48) dM_canSet_37 (by decide) ?_ ?_
      · refine g_iconst X 0 dM_canSet_48 (by decide) ?_
        exact g_zret X E dM_canSet_49
      · refine g_aload_n X dM_canSet_40 rfl ?_
        refine g_iload_n X dM_canSet_41 rfl ?_
        refine g_virtI X [.int v2] [] k_102 mm_M_isPerson mv_M_isPerson ml_M_157 (okM_isPerson v2 s1 C.l C.w) rfl (by decide) rfl (Nat.le_of_ble_eq_true rfl) dM_canSet_42 (fun r4 s3 => ?_)
        refine g_zne X (tgt := 50) dM_canSet_45 (by decide) ?_ ?_
        · refine g_iconst X 0 dM_canSet_48 (by decide) ?_
          exact g_zret X E dM_canSet_49
        · refine g_aload_n X dM_canSet_50 rfl ?_
          refine g_iload_n X dM_canSet_51 rfl ?_
          refine g_iload_n X dM_canSet_52 rfl ?_
          refine g_iconst X 1 dM_canSet_53 (by decide) ?_
          refine gf_jn (fun j62 => ∀ (b62_0 : Int32) (s5 : Sg), GF C evI 62 [none, some (.int v1), none, none] [.int b62_0, .int v3, .ref (C.w.ad 102)] s5 (j62 b62_0 s5)) ?_ ?_
          · intro b62_0 s5
            refine g_iload_n X dM_canSet_62 rfl ?_
            refine g_iconst X 2 dM_canSet_63 (by decide) ?_
            refine gf_jn (fun j83 => ∀ (b83_0 : Int32) (s6 : Sg), GF C evI 83 [none, none, none, none] [.int b83_0, .int b62_0, .int v3, .ref (C.w.ad 102)] s6 (j83 b83_0 s6)) ?_ ?_
            · intro b83_0 s6
              refine g_virtI X [.int v3, .int b62_0, .int b83_0] [] k_102 mm_M_isIn mv_M_isIn ml_M_153 (okM_isIn v3 b62_0 b83_0 s6 C.l C.w) rfl (by decide) rfl (Nat.le_of_ble_eq_true rfl) dM_canSet_83 (fun r8 s7 => ?_)
              exact g_zret X E dM_canSet_86
            · intro j83 hj83
              refine g_cge X (tgt := 72) dM_canSet_64 (by decide) ?_ ?_
              · refine g_iload_n X dM_canSet_72 rfl ?_
                refine g_iconst X 2 dM_canSet_73 (by decide) ?_
                refine g_cne X (tgt := 81) dM_canSet_74 (by decide) ?_ ?_
                · refine g_iconst X 3 dM_canSet_77 (by decide) ?_
                  refine g_goto X 83 dM_canSet_78 (by decide) ?_
                  exact gf_sub (hj83 3 s5) (by simp [lsub])
                · refine g_bipush X 99 dM_canSet_81 (by decide) ?_
                  exact gf_sub (hj83 99 s5) (by simp [lsub])
              · refine g_bipush X 9 dM_canSet_67 (by decide) ?_
                refine g_goto X 83 dM_canSet_69 (by decide) ?_
                exact gf_sub (hj83 9 s5) (by simp [lsub])
          · intro j62 hj62
            refine g_cne X (tgt := 61) dM_canSet_54 (by decide) ?_ ?_
            · refine g_iconst X 1 dM_canSet_57 (by decide) ?_
              refine g_goto X 62 dM_canSet_58 (by decide) ?_
              exact gf_sub (hj62 1 s3) (by simp [lsub])
            · refine g_iconst X 0 dM_canSet_61 (by decide) ?_
              exact gf_sub (hj62 0 s3) (by simp [lsub])
def yM_set : MethodName := ⟨"LastWordHillModel", "set", "(III)Z"⟩
abbrev cM_set : ByteArray := prog_14_method_23_code
theorem dM_set_0 : decode cM_set 0 = .ok (.aload_n 0, 1) := by decide +kernel
theorem dM_set_1 : decode cM_set 1 = .ok (.iconst 0, 1) := by decide +kernel
theorem dM_set_2 : decode cM_set 2 = .ok (.putfield 134, 3) := by decide +kernel
theorem dM_set_5 : decode cM_set 5 = .ok (.aload_n 0, 1) := by decide +kernel
theorem dM_set_6 : decode cM_set 6 = .ok (.iload_n 1, 1) := by decide +kernel
theorem dM_set_7 : decode cM_set 7 = .ok (.iload_n 2, 1) := by decide +kernel
theorem dM_set_8 : decode cM_set 8 = .ok (.iload_n 3, 1) := by decide +kernel
theorem dM_set_9 : decode cM_set 9 = .ok (.invokevirtual 161, 3) := by decide +kernel
theorem mm_M_canSet : MMc yM_canSet cM_canSet 4 (some .boolean) 3 := ⟨hz_in 1646 (by decide +kernel) (by decide +kernel), hz_in 147 (by decide +kernel) (by decide +kernel), by decide +kernel, by decide⟩
theorem mv_M_canSet : MMv yM_canSet 12 := ⟨hz_in 1645 (by decide +kernel) (by decide +kernel), hz_in 50 (by decide +kernel) (by decide +kernel), _, _, rfl, by decide⟩
theorem ml_M_161 : Cond.methodLink "LastWordHillModel" 161 yM_canSet ∈ hz_wt := hz_in 1643 (by decide +kernel) (by decide +kernel)
theorem dM_set_12 : decode cM_set 12 = .ok (.ifCond .ne 5, 3) := by decide +kernel
theorem dM_set_17 : decode cM_set 17 = .ok (.iload_n 1, 1) := by decide +kernel
theorem dM_set_18 : decode cM_set 18 = .ok (.ifCond .ne 10, 3) := by decide +kernel
theorem dM_set_28 : decode cM_set 28 = .ok (.iload_n 1, 1) := by decide +kernel
theorem dM_set_29 : decode cM_set 29 = .ok (.iconst 1, 1) := by decide +kernel
theorem dM_set_30 : decode cM_set 30 = .ok (.if_icmp .ne 10, 3) := by decide +kernel
theorem dM_set_40 : decode cM_set 40 = .ok (.iload_n 1, 1) := by decide +kernel
theorem dM_set_41 : decode cM_set 41 = .ok (.iconst 2, 1) := by decide +kernel
theorem dM_set_42 : decode cM_set 42 = .ok (.if_icmp .ne 10, 3) := by decide +kernel
theorem dM_set_52 : decode cM_set 52 = .ok (.iload_n 1, 1) := by decide +kernel
theorem dM_set_53 : decode cM_set 53 = .ok (.iconst 3, 1) := by decide +kernel
theorem dM_set_54 : decode cM_set 54 = .ok (.if_icmp .ne 9, 3) := by decide +kernel
theorem dM_set_63 : decode cM_set 63 = .ok (.iload_n 1, 1) := by decide +kernel
theorem dM_set_64 : decode cM_set 64 = .ok (.iconst 4, 1) := by decide +kernel
theorem dM_set_65 : decode cM_set 65 = .ok (.if_icmp .ne 13, 3) := by decide +kernel
theorem dM_set_78 : decode cM_set 78 = .ok (.iload_n 1, 1) := by decide +kernel
theorem dM_set_79 : decode cM_set 79 = .ok (.iconst 5, 1) := by decide +kernel
theorem dM_set_80 : decode cM_set 80 = .ok (.if_icmp .ne 13, 3) := by decide +kernel
theorem dM_set_93 : decode cM_set 93 = .ok (.iload_n 1, 1) := by decide +kernel
theorem dM_set_94 : decode cM_set 94 = .ok (.bipush 6, 2) := by decide +kernel
theorem dM_set_96 : decode cM_set 96 = .ok (.if_icmp .ne 12, 3) := by decide +kernel
theorem dM_set_108 : decode cM_set 108 = .ok (.aload_n 0, 1) := by decide +kernel
theorem dM_set_109 : decode cM_set 109 = .ok (.iconst 0, 1) := by decide +kernel
theorem dM_set_110 : decode cM_set 110 = .ok (.putfield 137, 3) := by decide +kernel
theorem dM_set_113 : decode cM_set 113 = .ok (.iconst 1, 1) := by decide +kernel
theorem dM_set_114 : decode cM_set 114 = .ok (.ireturn, 1) := by decide +kernel
theorem dM_set_99 : decode cM_set 99 = .ok (.aload_n 0, 1) := by decide +kernel
theorem dM_set_100 : decode cM_set 100 = .ok (.getfield 7, 3) := by decide +kernel
theorem dM_set_103 : decode cM_set 103 = .ok (.iconst 5, 1) := by decide +kernel
theorem dM_set_104 : decode cM_set 104 = .ok (.iload_n 3, 1) := by decide +kernel
theorem dM_set_105 : decode cM_set 105 = .ok (.iconst 1, 1) := by decide +kernel
theorem dM_set_106 : decode cM_set 106 = .ok (.iadd, 1) := by decide +kernel
theorem dM_set_107 : decode cM_set 107 = .ok (.iastore, 1) := by decide +kernel
theorem dM_set_83 : decode cM_set 83 = .ok (.aload_n 0, 1) := by decide +kernel
theorem dM_set_84 : decode cM_set 84 = .ok (.getfield 7, 3) := by decide +kernel
theorem dM_set_87 : decode cM_set 87 = .ok (.iconst 4, 1) := by decide +kernel
theorem dM_set_88 : decode cM_set 88 = .ok (.iload_n 3, 1) := by decide +kernel
theorem dM_set_89 : decode cM_set 89 = .ok (.bipush 40, 2) := by decide +kernel
theorem dM_set_91 : decode cM_set 91 = .ok (.isub, 1) := by decide +kernel
theorem dM_set_92 : decode cM_set 92 = .ok (.iastore, 1) := by decide +kernel
theorem dM_set_68 : decode cM_set 68 = .ok (.aload_n 0, 1) := by decide +kernel
theorem dM_set_69 : decode cM_set 69 = .ok (.getfield 7, 3) := by decide +kernel
theorem dM_set_72 : decode cM_set 72 = .ok (.bipush 20, 2) := by decide +kernel
theorem dM_set_74 : decode cM_set 74 = .ok (.iload_n 2, 1) := by decide +kernel
theorem dM_set_75 : decode cM_set 75 = .ok (.iadd, 1) := by decide +kernel
theorem dM_set_76 : decode cM_set 76 = .ok (.iload_n 3, 1) := by decide +kernel
theorem dM_set_77 : decode cM_set 77 = .ok (.iastore, 1) := by decide +kernel
theorem dM_set_57 : decode cM_set 57 = .ok (.aload_n 0, 1) := by decide +kernel
theorem dM_set_58 : decode cM_set 58 = .ok (.iload_n 2, 1) := by decide +kernel
theorem dM_set_59 : decode cM_set 59 = .ok (.iload_n 3, 1) := by decide +kernel
theorem dM_set_60 : decode cM_set 60 = .ok (.invokevirtual 164, 3) := by decide +kernel
theorem mm_M_hasBreath : MMc yM_hasBreath cM_hasBreath 3 none 2 := ⟨hz_in 1654 (by decide +kernel) (by decide +kernel), hz_in 147 (by decide +kernel) (by decide +kernel), by decide +kernel, by decide⟩
theorem mv_M_hasBreath : MMv yM_hasBreath 12 := ⟨hz_in 1653 (by decide +kernel) (by decide +kernel), hz_in 52 (by decide +kernel) (by decide +kernel), _, _, rfl, by decide⟩
theorem ml_M_164 : Cond.methodLink "LastWordHillModel" 164 yM_hasBreath ∈ hz_wt := hz_in 1651 (by decide +kernel) (by decide +kernel)
theorem dM_set_45 : decode cM_set 45 = .ok (.aload_n 0, 1) := by decide +kernel
theorem dM_set_46 : decode cM_set 46 = .ok (.getfield 25, 3) := by decide +kernel
theorem dM_set_49 : decode cM_set 49 = .ok (.iload_n 2, 1) := by decide +kernel
theorem dM_set_50 : decode cM_set 50 = .ok (.iload_n 3, 1) := by decide +kernel
theorem dM_set_51 : decode cM_set 51 = .ok (.iastore, 1) := by decide +kernel
theorem dM_set_33 : decode cM_set 33 = .ok (.aload_n 0, 1) := by decide +kernel
theorem dM_set_34 : decode cM_set 34 = .ok (.getfield 22, 3) := by decide +kernel
theorem dM_set_37 : decode cM_set 37 = .ok (.iload_n 2, 1) := by decide +kernel
theorem dM_set_38 : decode cM_set 38 = .ok (.iload_n 3, 1) := by decide +kernel
theorem dM_set_39 : decode cM_set 39 = .ok (.iastore, 1) := by decide +kernel
theorem dM_set_21 : decode cM_set 21 = .ok (.aload_n 0, 1) := by decide +kernel
theorem dM_set_22 : decode cM_set 22 = .ok (.getfield 19, 3) := by decide +kernel
theorem dM_set_25 : decode cM_set 25 = .ok (.iload_n 2, 1) := by decide +kernel
theorem dM_set_26 : decode cM_set 26 = .ok (.iload_n 3, 1) := by decide +kernel
theorem dM_set_27 : decode cM_set 27 = .ok (.iastore, 1) := by decide +kernel
theorem dM_set_15 : decode cM_set 15 = .ok (.iconst 0, 1) := by decide +kernel
theorem dM_set_16 : decode cM_set 16 = .ok (.ireturn, 1) := by decide +kernel
def fM_set (v1 : Int32) (v2 : Int32) (v3 : Int32) (s0 : Sg) : Option (Int32 × Sg) := bnd (pt s0 102 0 0) fun s1 => bi (fM_canSet v1 v2 v3 s1) fun r3 s2 => if r3 = 0 then (gb 0 (some (0, s2))) else (bnd (fun (s4 : Sg) => bnd (fun (s5 : Sg) => bnd (fun (s6 : Sg) => bnd (fun (s7 : Sg) => bnd (fun (s8 : Sg) => bnd (fun (s9 : Sg) => bnd (fun (s10 : Sg) => bnd (pt s10 102 3 0) fun s11 => gb 1 (some (1, s11))) fun j108 => if v1 = 6 then (gd 5 50 (bnd (pt s9 103 (ix 5) (v3 + 1)) fun s12 => j108 s12)) else (j108 s9)) fun j93 => if v1 = 5 then (gd 4 50 (bnd (pt s8 103 (ix 4) (v3 - 40)) fun s13 => j93 s13)) else (j93 s8)) fun j78 => if v1 = 4 then (gd (20 + v2) 50 (bnd (pt s7 103 (ix (20 + v2)) v3) fun s14 => j78 s14)) else (j78 s7)) fun j63 => if v1 = 3 then (bv (fM_hasBreath v2 v3 s6) fun s15 => j63 s15) else (j63 s6)) fun j52 => if v1 = 2 then (gd v2 10 (bnd (pt s5 108 (ix v2) v3) fun s16 => j52 s16)) else (j52 s5)) fun j40 => if v1 = 1 then (gd v2 10 (bnd (pt s4 107 (ix v2) v3) fun s17 => j40 s17)) else (j40 s4)) fun j28 => if v1 = 0 then (gd v2 10 (bnd (pt s2 106 (ix v2) v3) fun s18 => j28 s18)) else (j28 s2))
set_option maxHeartbeats 4000000 in
set_option maxRecDepth 100000 in
theorem okM_set (v1 : Int32) (v2 : Int32) (v3 : Int32) (s0 : Sg) : ∀ (l : Launch) (w : WC), Ok l w yM_set cM_set 4 (some .boolean) 3 evI [.ref (w.ad 102), .int v1, .int v2, .int v3] s0 (fM_set v1 v2 v3 s0) := by
  refine ok_in (ev := fun _ => evI) (av := fun w => [.ref (w.ad 102), .int v1, .int v2, .int v3]) "LastWordHillModel" rfl (by decide +kernel) (fun _ => rfl) (fun _ => Nat.le_of_ble_eq_true rfl) ?_
  intro C X E
  show GF C evI 0 [some (.ref (C.w.ad 102)), some (.int v1), some (.int v2), some (.int v3)] [] s0 (fM_set v1 v2 v3 s0)
  unfold fM_set
  refine g_aload_n X dM_set_0 rfl ?_
  refine g_iconst X 0 dM_set_1 (by decide) ?_
  refine g_putI X fl_M_134 fb_12_0 fp_12_0 k_102 dM_set_2 (fun s1 => ?_)
  refine g_aload_n X dM_set_5 rfl ?_
  refine g_iload_n X dM_set_6 rfl ?_
  refine g_iload_n X dM_set_7 rfl ?_
  refine g_iload_n X dM_set_8 rfl ?_
  refine g_virtI X [.int v1, .int v2, .int v3] [] k_102 mm_M_canSet mv_M_canSet ml_M_161 (okM_canSet v1 v2 v3 s1 C.l C.w) rfl (by decide) rfl (Nat.le_of_ble_eq_true rfl) dM_set_9 (fun r3 s2 => ?_)
  refine g_zne X (tgt := 17) dM_set_12 (by decide) ?_ ?_
  · refine g_iconst X 0 dM_set_15 (by decide) ?_
    exact g_zret X E dM_set_16
  · refine g_iload_n X dM_set_17 rfl ?_
    refine gf_jn (fun j28 => ∀ (s4 : Sg), GF C evI 28 [some (.ref (C.w.ad 102)), some (.int v1), some (.int v2), some (.int v3)] [] s4 (j28 s4)) ?_ ?_
    · intro s4
      refine g_iload_n X dM_set_28 rfl ?_
      refine g_iconst X 1 dM_set_29 (by decide) ?_
      refine gf_jn (fun j40 => ∀ (s5 : Sg), GF C evI 40 [some (.ref (C.w.ad 102)), some (.int v1), some (.int v2), some (.int v3)] [] s5 (j40 s5)) ?_ ?_
      · intro s5
        refine g_iload_n X dM_set_40 rfl ?_
        refine g_iconst X 2 dM_set_41 (by decide) ?_
        refine gf_jn (fun j52 => ∀ (s6 : Sg), GF C evI 52 [some (.ref (C.w.ad 102)), some (.int v1), some (.int v2), some (.int v3)] [] s6 (j52 s6)) ?_ ?_
        · intro s6
          refine g_iload_n X dM_set_52 rfl ?_
          refine g_iconst X 3 dM_set_53 (by decide) ?_
          refine gf_jn (fun j63 => ∀ (s7 : Sg), GF C evI 63 [some (.ref (C.w.ad 102)), some (.int v1), some (.int v2), some (.int v3)] [] s7 (j63 s7)) ?_ ?_
          · intro s7
            refine g_iload_n X dM_set_63 rfl ?_
            refine g_iconst X 4 dM_set_64 (by decide) ?_
            refine gf_jn (fun j78 => ∀ (s8 : Sg), GF C evI 78 [some (.ref (C.w.ad 102)), some (.int v1), none, some (.int v3)] [] s8 (j78 s8)) ?_ ?_
            · intro s8
              refine g_iload_n X dM_set_78 rfl ?_
              refine g_iconst X 5 dM_set_79 (by decide) ?_
              refine gf_jn (fun j93 => ∀ (s9 : Sg), GF C evI 93 [some (.ref (C.w.ad 102)), some (.int v1), none, some (.int v3)] [] s9 (j93 s9)) ?_ ?_
              · intro s9
                refine g_iload_n X dM_set_93 rfl ?_
                refine g_bipush X 6 dM_set_94 (by decide) ?_
                refine gf_jn (fun j108 => ∀ (s10 : Sg), GF C evI 108 [some (.ref (C.w.ad 102)), none, none, none] [] s10 (j108 s10)) ?_ ?_
                · intro s10
                  refine g_aload_n X dM_set_108 rfl ?_
                  refine g_iconst X 0 dM_set_109 (by decide) ?_
                  refine g_putI X fl_M_137 fb_12_3 fp_12_3 k_102 dM_set_110 (fun s11 => ?_)
                  refine g_iconst X 1 dM_set_113 (by decide) ?_
                  exact g_zret X E dM_set_114
                · intro j108 hj108
                  refine g_cne X (tgt := 108) dM_set_96 (by decide) ?_ ?_
                  · refine g_aload_n X dM_set_99 rfl ?_
                    refine g_getN X fl_M_7 fb_12_1 k_102 r_102_1 dM_set_100 ?_
                    refine g_iconst X 5 dM_set_103 (by decide) ?_
                    refine g_iload_n X dM_set_104 rfl ?_
                    refine g_iconst X 1 dM_set_105 (by decide) ?_
                    refine g_iadd X dM_set_106 ?_
                    refine g_iast X k_103 ln_103 dM_set_107 (fun s12 => ?_)
                    exact gf_sub (hj108 s12) (by simp [lsub])
                  · exact gf_sub (hj108 s9) (by simp [lsub])
              · intro j93 hj93
                refine g_cne X (tgt := 93) dM_set_80 (by decide) ?_ ?_
                · refine g_aload_n X dM_set_83 rfl ?_
                  refine g_getN X fl_M_7 fb_12_1 k_102 r_102_1 dM_set_84 ?_
                  refine g_iconst X 4 dM_set_87 (by decide) ?_
                  refine g_iload_n X dM_set_88 rfl ?_
                  refine g_bipush X 40 dM_set_89 (by decide) ?_
                  refine g_isub X dM_set_91 ?_
                  refine g_iast X k_103 ln_103 dM_set_92 (fun s13 => ?_)
                  exact gf_sub (hj93 s13) (by simp [lsub])
                · exact gf_sub (hj93 s8) (by simp [lsub])
            · intro j78 hj78
              refine g_cne X (tgt := 78) dM_set_65 (by decide) ?_ ?_
              · refine g_aload_n X dM_set_68 rfl ?_
                refine g_getN X fl_M_7 fb_12_1 k_102 r_102_1 dM_set_69 ?_
                refine g_bipush X 20 dM_set_72 (by decide) ?_
                refine g_iload_n X dM_set_74 rfl ?_
                refine g_iadd X dM_set_75 ?_
                refine g_iload_n X dM_set_76 rfl ?_
                refine g_iast X k_103 ln_103 dM_set_77 (fun s14 => ?_)
                exact gf_sub (hj78 s14) (by simp [lsub])
              · exact gf_sub (hj78 s7) (by simp [lsub])
          · intro j63 hj63
            refine g_cne X (tgt := 63) dM_set_54 (by decide) ?_ ?_
            · refine g_aload_n X dM_set_57 rfl ?_
              refine g_iload_n X dM_set_58 rfl ?_
              refine g_iload_n X dM_set_59 rfl ?_
              refine g_virtV X [.int v2, .int v3] [] k_102 mm_M_hasBreath mv_M_hasBreath ml_M_164 (okM_hasBreath v2 v3 s6 C.l C.w) rfl (by decide) rfl (Nat.le_of_ble_eq_true rfl) dM_set_60 (fun s15 => ?_)
              exact gf_sub (hj63 s15) (by simp [lsub])
            · exact gf_sub (hj63 s6) (by simp [lsub])
        · intro j52 hj52
          refine g_cne X (tgt := 52) dM_set_42 (by decide) ?_ ?_
          · refine g_aload_n X dM_set_45 rfl ?_
            refine g_getN X fl_M_25 fb_12_9 k_102 r_102_9 dM_set_46 ?_
            refine g_iload_n X dM_set_49 rfl ?_
            refine g_iload_n X dM_set_50 rfl ?_
            refine g_iast X k_108 ln_108 dM_set_51 (fun s16 => ?_)
            exact gf_sub (hj52 s16) (by simp [lsub])
          · exact gf_sub (hj52 s5) (by simp [lsub])
      · intro j40 hj40
        refine g_cne X (tgt := 40) dM_set_30 (by decide) ?_ ?_
        · refine g_aload_n X dM_set_33 rfl ?_
          refine g_getN X fl_M_22 fb_12_8 k_102 r_102_8 dM_set_34 ?_
          refine g_iload_n X dM_set_37 rfl ?_
          refine g_iload_n X dM_set_38 rfl ?_
          refine g_iast X k_107 ln_107 dM_set_39 (fun s17 => ?_)
          exact gf_sub (hj40 s17) (by simp [lsub])
        · exact gf_sub (hj40 s4) (by simp [lsub])
    · intro j28 hj28
      refine g_zne X (tgt := 28) dM_set_18 (by decide) ?_ ?_
      · refine g_aload_n X dM_set_21 rfl ?_
        refine g_getN X fl_M_19 fb_12_7 k_102 r_102_7 dM_set_22 ?_
        refine g_iload_n X dM_set_25 rfl ?_
        refine g_iload_n X dM_set_26 rfl ?_
        refine g_iast X k_106 ln_106 dM_set_27 (fun s18 => ?_)
        exact gf_sub (hj28 s18) (by simp [lsub])
      · exact gf_sub (hj28 s2) (by simp [lsub])
def yM_types : MethodName := ⟨"LastWordHillModel", "types", "(I)V"⟩
abbrev cM_types : ByteArray := prog_14_method_24_code
theorem dM_types_0 : decode cM_types 0 = .ok (.bipush 24, 2) := by decide +kernel
theorem dM_types_2 : decode cM_types 2 = .ok (.istore_n 2, 1) := by decide +kernel
theorem dM_types_3 : decode cM_types 3 = .ok (.iload_n 2, 1) := by decide +kernel
theorem dM_types_4 : decode cM_types 4 = .ok (.ifCond .lt 35, 3) := by decide +kernel
theorem dM_types_39 : decode cM_types 39 = .ok (.return_, 1) := by decide +kernel
theorem dM_types_7 : decode cM_types 7 = .ok (.aload_n 0, 1) := by decide +kernel
theorem dM_types_8 : decode cM_types 8 = .ok (.getfield 31, 3) := by decide +kernel
theorem fl_M_31 : FLk "LastWordHillModel" 31 12 11 := ⟨_, _, _, rfl, by decide, hz_in 1423 (by decide +kernel) (by decide +kernel), nL12, by decide, by decide⟩
theorem k_110 : hz_kd 110 = 13 := by decide
theorem fb_12_11 : (hz_bs 12)[11]? = some true := by decide
theorem r_102_11 : hz_rf 102 11 = 110 := by decide
theorem dM_types_11 : decode cM_types 11 = .ok (.aload_n 0, 1) := by decide +kernel
theorem dM_types_12 : decode cM_types 12 = .ok (.getfield 168, 3) := by decide +kernel
theorem fl_M_168 : FLk "LastWordHillModel" 168 12 12 := ⟨_, _, _, rfl, by decide, hz_in 1424 (by decide +kernel) (by decide +kernel), nL12, by decide, by decide⟩
theorem fb_12_12 : (hz_bs 12)[12]? = some false := by decide
theorem dM_types_15 : decode cM_types 15 = .ok (.iload_n 1, 1) := by decide +kernel
theorem dM_types_16 : decode cM_types 16 = .ok (.iload_n 2, 1) := by decide +kernel
theorem dM_types_17 : decode cM_types 17 = .ok (.ishr, 1) := by decide +kernel
theorem dM_types_18 : decode cM_types 18 = .ok (.sipush 255, 3) := by decide +kernel
theorem dM_types_21 : decode cM_types 21 = .ok (.iand, 1) := by decide +kernel
theorem dM_types_22 : decode cM_types 22 = .ok (.iastore, 1) := by decide +kernel
theorem ln_110 : hz_ln 110 = 400 := by decide
theorem dM_types_23 : decode cM_types 23 = .ok (.aload_n 0, 1) := by decide +kernel
theorem dM_types_24 : decode cM_types 24 = .ok (.aload_n 0, 1) := by decide +kernel
theorem dM_types_25 : decode cM_types 25 = .ok (.getfield 168, 3) := by decide +kernel
theorem dM_types_28 : decode cM_types 28 = .ok (.iconst 1, 1) := by decide +kernel
theorem dM_types_29 : decode cM_types 29 = .ok (.iadd, 1) := by decide +kernel
theorem dM_types_30 : decode cM_types 30 = .ok (.putfield 168, 3) := by decide +kernel
theorem fp_12_12 : FLp 12 12 .int := ⟨_, _, _, _, rfl, nY12, nN12, by decide, by decide⟩
theorem dM_types_33 : decode cM_types 33 = .ok (.iinc 2 (-8), 3) := by decide +kernel
theorem dM_types_36 : decode cM_types 36 = .ok (.goto (-33), 3) := by decide +kernel
def fM_types (v1 : Int32) (s0 : Sg) : Option (Sg) := lp FU (fun q3 (u3 : Int32) (s1 : Sg) => if u3 < 0 then (some s1) else (gd (s1 102 12) 400 (bnd (pt s1 110 (ix (s1 102 12)) ((v1 >>> (u3 &&& 31)) &&& 255)) fun s2 => bnd (pt s2 102 12 ((s2 102 12) + 1)) fun s3 => q3 (u3 + (-8)) s3))) 24 s0
set_option maxHeartbeats 4000000 in
set_option maxRecDepth 100000 in
theorem okM_types (v1 : Int32) (s0 : Sg) : ∀ (l : Launch) (w : WC), Ok l w yM_types cM_types 3 none 1 evV [.ref (w.ad 102), .int v1] s0 (fM_types v1 s0) := by
  refine ok_in (ev := fun _ => evV) (av := fun w => [.ref (w.ad 102), .int v1]) "LastWordHillModel" rfl (by decide +kernel) (fun _ => rfl) (fun _ => Nat.le_of_ble_eq_true rfl) ?_
  intro C X E
  show GF C evV 0 [some (.ref (C.w.ad 102)), some (.int v1), none] [] s0 (fM_types v1 s0)
  unfold fM_types
  refine g_bipush X 24 dM_types_0 (by decide) ?_
  refine g_istore_n X [some (.ref (C.w.ad 102)), some (.int v1), some (.int 24)] dM_types_2 (by decide) (Nat.le_of_ble_eq_true rfl) rfl ?_
  refine gf_sub (L' := [some (.ref (C.w.ad 102)), some (.int v1), some (.int 24)]) ?_ (by simp [lsub])
  refine gf_lp (Lf := fun (u3 : Int32) => [some (.ref (C.w.ad 102)), some (.int v1), some (.int u3)]) (fun q3 hq3 u3 s1 => ?_) FU 24 s0
  refine g_iload_n X dM_types_3 rfl ?_
  refine g_zlt X (tgt := 39) dM_types_4 (by decide) ?_ ?_
  · exact g_vret X E dM_types_39
  · refine g_aload_n X dM_types_7 rfl ?_
    refine g_getN X fl_M_31 fb_12_11 k_102 r_102_11 dM_types_8 ?_
    refine g_aload_n X dM_types_11 rfl ?_
    refine g_getI X fl_M_168 fb_12_12 k_102 dM_types_12 ?_
    refine g_iload_n X dM_types_15 rfl ?_
    refine g_iload_n X dM_types_16 rfl ?_
    refine g_ishr X dM_types_17 ?_
    refine g_sipush X 255 dM_types_18 (by decide) ?_
    refine g_iand X dM_types_21 ?_
    refine g_iast X k_110 ln_110 dM_types_22 (fun s2 => ?_)
    refine g_aload_n X dM_types_23 rfl ?_
    refine g_aload_n X dM_types_24 rfl ?_
    refine g_getI X fl_M_168 fb_12_12 k_102 dM_types_25 ?_
    refine g_iconst X 1 dM_types_28 (by decide) ?_
    refine g_iadd X dM_types_29 ?_
    refine g_putI X fl_M_168 fb_12_12 fp_12_12 k_102 dM_types_30 (fun s3 => ?_)
    refine g_iinc X (u3 + (-8)) [some (.ref (C.w.ad 102)), some (.int v1), some (.int (u3 + (-8)))] dM_types_33 rfl rfl (by decide) rfl ?_
    refine g_goto X 3 dM_types_36 (by decide) ?_
    exact gf_sub (hq3 (u3 + (-8)) s3) (by simp [lsub])
def yM_feed : MethodName := ⟨"LastWordHillModel", "feed", "(IIIII)I"⟩
abbrev cM_feed : ByteArray := prog_14_method_25_code
theorem dM_feed_0 : decode cM_feed 0 = .ok (.aload_n 0, 1) := by decide +kernel
theorem dM_feed_1 : decode cM_feed 1 = .ok (.iconst 0, 1) := by decide +kernel
theorem dM_feed_2 : decode cM_feed 2 = .ok (.putfield 134, 3) := by decide +kernel
theorem dM_feed_5 : decode cM_feed 5 = .ok (.aload_n 0, 1) := by decide +kernel
theorem dM_feed_6 : decode cM_feed 6 = .ok (.getfield 168, 3) := by decide +kernel
theorem dM_feed_9 : decode cM_feed 9 = .ok (.sipush 380, 3) := by decide +kernel
theorem dM_feed_12 : decode cM_feed 12 = .ok (.if_icmp .le 5, 3) := by decide +kernel
theorem dM_feed_17 : decode cM_feed 17 = .ok (.aload_n 0, 1) := by decide +kernel
theorem dM_feed_18 : decode cM_feed 18 = .ok (.iload_n 1, 1) := by decide +kernel
theorem dM_feed_19 : decode cM_feed 19 = .ok (.invokevirtual 171, 3) := by decide +kernel
theorem mm_M_types : MMc yM_types cM_types 3 none 1 := ⟨hz_in 1666 (by decide +kernel) (by decide +kernel), hz_in 147 (by decide +kernel) (by decide +kernel), by decide +kernel, by decide⟩
theorem mv_M_types : MMv yM_types 12 := ⟨hz_in 1665 (by decide +kernel) (by decide +kernel), hz_in 54 (by decide +kernel) (by decide +kernel), _, _, rfl, by decide⟩
theorem ml_M_171 : Cond.methodLink "LastWordHillModel" 171 yM_types ∈ hz_wt := hz_in 1663 (by decide +kernel) (by decide +kernel)
theorem dM_feed_22 : decode cM_feed 22 = .ok (.aload_n 0, 1) := by decide +kernel
theorem dM_feed_23 : decode cM_feed 23 = .ok (.iload_n 2, 1) := by decide +kernel
theorem dM_feed_24 : decode cM_feed 24 = .ok (.invokevirtual 171, 3) := by decide +kernel
theorem dM_feed_27 : decode cM_feed 27 = .ok (.aload_n 0, 1) := by decide +kernel
theorem dM_feed_28 : decode cM_feed 28 = .ok (.iload_n 3, 1) := by decide +kernel
theorem dM_feed_29 : decode cM_feed 29 = .ok (.invokevirtual 171, 3) := by decide +kernel
theorem dM_feed_32 : decode cM_feed 32 = .ok (.aload_n 0, 1) := by decide +kernel
theorem dM_feed_33 : decode cM_feed 33 = .ok (.iload 4, 2) := by decide +kernel
theorem dM_feed_35 : decode cM_feed 35 = .ok (.invokevirtual 171, 3) := by decide +kernel
theorem dM_feed_38 : decode cM_feed 38 = .ok (.aload_n 0, 1) := by decide +kernel
theorem dM_feed_39 : decode cM_feed 39 = .ok (.iload 5, 2) := by decide +kernel
theorem dM_feed_41 : decode cM_feed 41 = .ok (.invokevirtual 171, 3) := by decide +kernel
theorem dM_feed_44 : decode cM_feed 44 = .ok (.aload_n 0, 1) := by decide +kernel
theorem dM_feed_45 : decode cM_feed 45 = .ok (.getfield 168, 3) := by decide +kernel
theorem dM_feed_48 : decode cM_feed 48 = .ok (.ireturn, 1) := by decide +kernel
theorem dM_feed_15 : decode cM_feed 15 = .ok (.iconst (-1), 1) := by decide +kernel
theorem dM_feed_16 : decode cM_feed 16 = .ok (.ireturn, 1) := by decide +kernel
def fM_feed (v1 : Int32) (v2 : Int32) (v3 : Int32) (v4 : Int32) (v5 : Int32) (s0 : Sg) : Option (Int32 × Sg) := bnd (pt s0 102 0 0) fun s1 => if (s1 102 12) ≤ 380 then (bv (fM_types v1 s1) fun s2 => bv (fM_types v2 s2) fun s3 => bv (fM_types v3 s3) fun s4 => bv (fM_types v4 s4) fun s5 => bv (fM_types v5 s5) fun s6 => some ((s6 102 12), s6)) else (some ((-1), s1))
set_option maxHeartbeats 4000000 in
set_option maxRecDepth 100000 in
theorem okM_feed (v1 : Int32) (v2 : Int32) (v3 : Int32) (v4 : Int32) (v5 : Int32) (s0 : Sg) : ∀ (l : Launch) (w : WC), Ok l w yM_feed cM_feed 6 (some .int) 2 evI [.ref (w.ad 102), .int v1, .int v2, .int v3, .int v4, .int v5] s0 (fM_feed v1 v2 v3 v4 v5 s0) := by
  refine ok_in (ev := fun _ => evI) (av := fun w => [.ref (w.ad 102), .int v1, .int v2, .int v3, .int v4, .int v5]) "LastWordHillModel" rfl (by decide +kernel) (fun _ => rfl) (fun _ => Nat.le_of_ble_eq_true rfl) ?_
  intro C X E
  show GF C evI 0 [some (.ref (C.w.ad 102)), some (.int v1), some (.int v2), some (.int v3), some (.int v4), some (.int v5)] [] s0 (fM_feed v1 v2 v3 v4 v5 s0)
  unfold fM_feed
  refine g_aload_n X dM_feed_0 rfl ?_
  refine g_iconst X 0 dM_feed_1 (by decide) ?_
  refine g_putI X fl_M_134 fb_12_0 fp_12_0 k_102 dM_feed_2 (fun s1 => ?_)
  refine g_aload_n X dM_feed_5 rfl ?_
  refine g_getI X fl_M_168 fb_12_12 k_102 dM_feed_6 ?_
  refine g_sipush X 380 dM_feed_9 (by decide) ?_
  refine g_cle X (tgt := 17) dM_feed_12 (by decide) ?_ ?_
  · refine g_aload_n X dM_feed_17 rfl ?_
    refine g_iload_n X dM_feed_18 rfl ?_
    refine g_virtV X [.int v1] [] k_102 mm_M_types mv_M_types ml_M_171 (okM_types v1 s1 C.l C.w) rfl (by decide) rfl (Nat.le_of_ble_eq_true rfl) dM_feed_19 (fun s2 => ?_)
    refine g_aload_n X dM_feed_22 rfl ?_
    refine g_iload_n X dM_feed_23 rfl ?_
    refine g_virtV X [.int v2] [] k_102 mm_M_types mv_M_types ml_M_171 (okM_types v2 s2 C.l C.w) rfl (by decide) rfl (Nat.le_of_ble_eq_true rfl) dM_feed_24 (fun s3 => ?_)
    refine g_aload_n X dM_feed_27 rfl ?_
    refine g_iload_n X dM_feed_28 rfl ?_
    refine g_virtV X [.int v3] [] k_102 mm_M_types mv_M_types ml_M_171 (okM_types v3 s3 C.l C.w) rfl (by decide) rfl (Nat.le_of_ble_eq_true rfl) dM_feed_29 (fun s4 => ?_)
    refine g_aload_n X dM_feed_32 rfl ?_
    refine g_iload X dM_feed_33 rfl ?_
    refine g_virtV X [.int v4] [] k_102 mm_M_types mv_M_types ml_M_171 (okM_types v4 s4 C.l C.w) rfl (by decide) rfl (Nat.le_of_ble_eq_true rfl) dM_feed_35 (fun s5 => ?_)
    refine g_aload_n X dM_feed_38 rfl ?_
    refine g_iload X dM_feed_39 rfl ?_
    refine g_virtV X [.int v5] [] k_102 mm_M_types mv_M_types ml_M_171 (okM_types v5 s5 C.l C.w) rfl (by decide) rfl (Nat.le_of_ble_eq_true rfl) dM_feed_41 (fun s6 => ?_)
    refine g_aload_n X dM_feed_44 rfl ?_
    refine g_getI X fl_M_168 fb_12_12 k_102 dM_feed_45 ?_
    exact g_iret X E dM_feed_48
  · refine g_iconst X (-1) dM_feed_15 (by decide) ?_
    exact g_iret X E dM_feed_16
def yM_end : MethodName := ⟨"LastWordHillModel", "end", "(I)Z"⟩
abbrev cM_end : ByteArray := prog_14_method_26_code
theorem dM_end_0 : decode cM_end 0 = .ok (.aload_n 0, 1) := by decide +kernel
theorem dM_end_1 : decode cM_end 1 = .ok (.iconst 0, 1) := by decide +kernel
theorem dM_end_2 : decode cM_end 2 = .ok (.putfield 134, 3) := by decide +kernel
theorem dM_end_5 : decode cM_end 5 = .ok (.aload_n 0, 1) := by decide +kernel
theorem dM_end_6 : decode cM_end 6 = .ok (.iload_n 1, 1) := by decide +kernel
theorem dM_end_7 : decode cM_end 7 = .ok (.iconst 0, 1) := by decide +kernel
theorem dM_end_8 : decode cM_end 8 = .ok (.aload_n 0, 1) := by decide +kernel
theorem dM_end_9 : decode cM_end 9 = .ok (.getfield 168, 3) := by decide +kernel
theorem dM_end_12 : decode cM_end 12 = .ok (.invokevirtual 153, 3) := by decide +kernel
theorem dM_end_15 : decode cM_end 15 = .ok (.ifCond .ne 5, 3) := by decide +kernel
theorem dM_end_20 : decode cM_end 20 = .ok (.aload_n 0, 1) := by decide +kernel
theorem dM_end_21 : decode cM_end 21 = .ok (.iload_n 1, 1) := by decide +kernel
theorem dM_end_22 : decode cM_end 22 = .ok (.putfield 168, 3) := by decide +kernel
theorem dM_end_25 : decode cM_end 25 = .ok (.iconst 1, 1) := by decide +kernel
theorem dM_end_26 : decode cM_end 26 = .ok (.ireturn, 1) := by decide +kernel
theorem dM_end_18 : decode cM_end 18 = .ok (.iconst 0, 1) := by decide +kernel
theorem dM_end_19 : decode cM_end 19 = .ok (.ireturn, 1) := by decide +kernel
def fM_end (v1 : Int32) (s0 : Sg) : Option (Int32 × Sg) := bnd (pt s0 102 0 0) fun s1 => bi (fM_isIn v1 0 (s1 102 12) s1) fun r3 s2 => if r3 = 0 then (gb 0 (some (0, s2))) else (bnd (pt s2 102 12 v1) fun s4 => gb 1 (some (1, s4)))
set_option maxHeartbeats 4000000 in
set_option maxRecDepth 100000 in
theorem okM_end (v1 : Int32) (s0 : Sg) : ∀ (l : Launch) (w : WC), Ok l w yM_end cM_end 2 (some .boolean) 2 evI [.ref (w.ad 102), .int v1] s0 (fM_end v1 s0) := by
  refine ok_in (ev := fun _ => evI) (av := fun w => [.ref (w.ad 102), .int v1]) "LastWordHillModel" rfl (by decide +kernel) (fun _ => rfl) (fun _ => Nat.le_of_ble_eq_true rfl) ?_
  intro C X E
  show GF C evI 0 [some (.ref (C.w.ad 102)), some (.int v1)] [] s0 (fM_end v1 s0)
  unfold fM_end
  refine g_aload_n X dM_end_0 rfl ?_
  refine g_iconst X 0 dM_end_1 (by decide) ?_
  refine g_putI X fl_M_134 fb_12_0 fp_12_0 k_102 dM_end_2 (fun s1 => ?_)
  refine g_aload_n X dM_end_5 rfl ?_
  refine g_iload_n X dM_end_6 rfl ?_
  refine g_iconst X 0 dM_end_7 (by decide) ?_
  refine g_aload_n X dM_end_8 rfl ?_
  refine g_getI X fl_M_168 fb_12_12 k_102 dM_end_9 ?_
  refine g_virtI X [.int v1, .int 0, .int (s1 102 12)] [] k_102 mm_M_isIn mv_M_isIn ml_M_153 (okM_isIn v1 0 (s1 102 12) s1 C.l C.w) rfl (by decide) rfl (Nat.le_of_ble_eq_true rfl) dM_end_12 (fun r3 s2 => ?_)
  refine g_zne X (tgt := 20) dM_end_15 (by decide) ?_ ?_
  · refine g_iconst X 0 dM_end_18 (by decide) ?_
    exact g_zret X E dM_end_19
  · refine g_aload_n X dM_end_20 rfl ?_
    refine g_iload_n X dM_end_21 rfl ?_
    refine g_putI X fl_M_168 fb_12_12 fp_12_12 k_102 dM_end_22 (fun s4 => ?_)
    refine g_iconst X 1 dM_end_25 (by decide) ?_
    exact g_zret X E dM_end_26
def yM_raw : MethodName := ⟨"LastWordHillModel", "raw", "(I)I"⟩
abbrev cM_raw : ByteArray := prog_14_method_27_code
theorem dM_raw_0 : decode cM_raw 0 = .ok (.iload_n 1, 1) := by decide +kernel
theorem dM_raw_1 : decode cM_raw 1 = .ok (.aload_n 0, 1) := by decide +kernel
theorem dM_raw_2 : decode cM_raw 2 = .ok (.getfield 168, 3) := by decide +kernel
theorem dM_raw_5 : decode cM_raw 5 = .ok (.if_icmp .ge 12, 3) := by decide +kernel
theorem dM_raw_17 : decode cM_raw 17 = .ok (.iconst (-1), 1) := by decide +kernel
theorem dM_raw_18 : decode cM_raw 18 = .ok (.ireturn, 1) := by decide +kernel
theorem dM_raw_8 : decode cM_raw 8 = .ok (.aload_n 0, 1) := by decide +kernel
theorem dM_raw_9 : decode cM_raw 9 = .ok (.getfield 31, 3) := by decide +kernel
theorem dM_raw_12 : decode cM_raw 12 = .ok (.iload_n 1, 1) := by decide +kernel
theorem dM_raw_13 : decode cM_raw 13 = .ok (.iaload, 1) := by decide +kernel
theorem dM_raw_14 : decode cM_raw 14 = .ok (.goto 4, 3) := by decide +kernel
def fM_raw (v1 : Int32) (s0 : Sg) : Option (Int32 × Sg) := if (s0 102 12) ≤ v1 then (some ((-1), s0)) else (gd v1 400 (some ((s0 110 (ix v1)), s0)))
set_option maxHeartbeats 4000000 in
set_option maxRecDepth 100000 in
theorem okM_raw (v1 : Int32) (s0 : Sg) : ∀ (l : Launch) (w : WC), Ok l w yM_raw cM_raw 2 (some .int) 1 evI [.ref (w.ad 102), .int v1] s0 (fM_raw v1 s0) := by
  refine ok_in (ev := fun _ => evI) (av := fun w => [.ref (w.ad 102), .int v1]) "LastWordHillModel" rfl (by decide +kernel) (fun _ => rfl) (fun _ => Nat.le_of_ble_eq_true rfl) ?_
  intro C X E
  show GF C evI 0 [some (.ref (C.w.ad 102)), some (.int v1)] [] s0 (fM_raw v1 s0)
  unfold fM_raw
  refine g_iload_n X dM_raw_0 rfl ?_
  refine g_aload_n X dM_raw_1 rfl ?_
  refine g_getI X fl_M_168 fb_12_12 k_102 dM_raw_2 ?_
  refine g_cge X (tgt := 17) dM_raw_5 (by decide) ?_ ?_
  · refine g_iconst X (-1) dM_raw_17 (by decide) ?_
    exact g_iret X E dM_raw_18
  · refine g_aload_n X dM_raw_8 rfl ?_
    refine g_getN X fl_M_31 fb_12_11 k_102 r_102_11 dM_raw_9 ?_
    refine g_iload_n X dM_raw_12 rfl ?_
    refine g_iald X k_110 ln_110 dM_raw_13 ?_
    refine g_goto X 18 dM_raw_14 (by decide) ?_
    exact g_iret X E dM_raw_18
def yM_isLetter : MethodName := ⟨"LastWordHillModel", "isLetter", "(I)Z"⟩
abbrev cM_isLetter : ByteArray := prog_14_method_28_code
theorem dM_isLetter_0 : decode cM_isLetter 0 = .ok (.aload_n 0, 1) := by decide +kernel
theorem dM_isLetter_1 : decode cM_isLetter 1 = .ok (.iload_n 1, 1) := by decide +kernel
theorem dM_isLetter_2 : decode cM_isLetter 2 = .ok (.bipush 97, 2) := by decide +kernel
theorem dM_isLetter_4 : decode cM_isLetter 4 = .ok (.bipush 122, 2) := by decide +kernel
theorem dM_isLetter_6 : decode cM_isLetter 6 = .ok (.invokevirtual 153, 3) := by decide +kernel
theorem dM_isLetter_9 : decode cM_isLetter 9 = .ok (.ifCond .ne 15, 3) := by decide +kernel
theorem dM_isLetter_24 : decode cM_isLetter 24 = .ok (.iconst 1, 1) := by decide +kernel
theorem dM_isLetter_25 : decode cM_isLetter 25 = .ok (.goto 4, 3) := by decide +kernel
theorem dM_isLetter_29 : decode cM_isLetter 29 = .ok (.ireturn, 1) := by decide +kernel
theorem dM_isLetter_12 : decode cM_isLetter 12 = .ok (.aload_n 0, 1) := by decide +kernel
theorem dM_isLetter_13 : decode cM_isLetter 13 = .ok (.iload_n 1, 1) := by decide +kernel
theorem dM_isLetter_14 : decode cM_isLetter 14 = .ok (.bipush 65, 2) := by decide +kernel
theorem dM_isLetter_16 : decode cM_isLetter 16 = .ok (.bipush 90, 2) := by decide +kernel
theorem dM_isLetter_18 : decode cM_isLetter 18 = .ok (.invokevirtual 153, 3) := by decide +kernel
theorem dM_isLetter_21 : decode cM_isLetter 21 = .ok (.ifCond .eq 7, 3) := by decide +kernel
theorem dM_isLetter_28 : decode cM_isLetter 28 = .ok (.iconst 0, 1) := by decide +kernel
def fM_isLetter (v1 : Int32) (s0 : Sg) : Option (Int32 × Sg) := bi (fM_isIn v1 97 122 s0) fun r2 s1 => bnd (fun (s3 : Sg) => gb 1 (some (1, s3))) fun j24 => if r2 = 0 then (bi (fM_isIn v1 65 90 s1) fun r5 s4 => if r5 = 0 then (gb 0 (some (0, s4))) else (j24 s4)) else (j24 s1)
set_option maxHeartbeats 4000000 in
set_option maxRecDepth 100000 in
theorem okM_isLetter (v1 : Int32) (s0 : Sg) : ∀ (l : Launch) (w : WC), Ok l w yM_isLetter cM_isLetter 2 (some .boolean) 2 evI [.ref (w.ad 102), .int v1] s0 (fM_isLetter v1 s0) := by
  refine ok_in (ev := fun _ => evI) (av := fun w => [.ref (w.ad 102), .int v1]) "LastWordHillModel" rfl (by decide +kernel) (fun _ => rfl) (fun _ => Nat.le_of_ble_eq_true rfl) ?_
  intro C X E
  show GF C evI 0 [some (.ref (C.w.ad 102)), some (.int v1)] [] s0 (fM_isLetter v1 s0)
  unfold fM_isLetter
  refine g_aload_n X dM_isLetter_0 rfl ?_
  refine g_iload_n X dM_isLetter_1 rfl ?_
  refine g_bipush X 97 dM_isLetter_2 (by decide) ?_
  refine g_bipush X 122 dM_isLetter_4 (by decide) ?_
  refine g_virtI X [.int v1, .int 97, .int 122] [] k_102 mm_M_isIn mv_M_isIn ml_M_153 (okM_isIn v1 97 122 s0 C.l C.w) rfl (by decide) rfl (Nat.le_of_ble_eq_true rfl) dM_isLetter_6 (fun r2 s1 => ?_)
  refine gf_jn (fun j24 => ∀ (s3 : Sg), GF C evI 24 [none, none] [] s3 (j24 s3)) ?_ ?_
  · intro s3
    refine g_iconst X 1 dM_isLetter_24 (by decide) ?_
    refine g_goto X 29 dM_isLetter_25 (by decide) ?_
    exact g_zret X E dM_isLetter_29
  · intro j24 hj24
    refine g_zne X (tgt := 24) dM_isLetter_9 (by decide) ?_ ?_
    · refine g_aload_n X dM_isLetter_12 rfl ?_
      refine g_iload_n X dM_isLetter_13 rfl ?_
      refine g_bipush X 65 dM_isLetter_14 (by decide) ?_
      refine g_bipush X 90 dM_isLetter_16 (by decide) ?_
      refine g_virtI X [.int v1, .int 65, .int 90] [] k_102 mm_M_isIn mv_M_isIn ml_M_153 (okM_isIn v1 65 90 s1 C.l C.w) rfl (by decide) rfl (Nat.le_of_ble_eq_true rfl) dM_isLetter_18 (fun r5 s4 => ?_)
      refine g_zeq X (tgt := 28) dM_isLetter_21 (by decide) ?_ ?_
      · refine g_iconst X 0 dM_isLetter_28 (by decide) ?_
        exact g_zret X E dM_isLetter_29
      · exact gf_sub (hj24 s4) (by simp [lsub])
    · exact gf_sub (hj24 s1) (by simp [lsub])
def yM_isDigit : MethodName := ⟨"LastWordHillModel", "isDigit", "(I)Z"⟩
abbrev cM_isDigit : ByteArray := prog_14_method_29_code
theorem dM_isDigit_0 : decode cM_isDigit 0 = .ok (.aload_n 0, 1) := by decide +kernel
theorem dM_isDigit_1 : decode cM_isDigit 1 = .ok (.iload_n 1, 1) := by decide +kernel
theorem dM_isDigit_2 : decode cM_isDigit 2 = .ok (.bipush 48, 2) := by decide +kernel
theorem dM_isDigit_4 : decode cM_isDigit 4 = .ok (.bipush 57, 2) := by decide +kernel
theorem dM_isDigit_6 : decode cM_isDigit 6 = .ok (.invokevirtual 153, 3) := by decide +kernel
theorem dM_isDigit_9 : decode cM_isDigit 9 = .ok (.ireturn, 1) := by decide +kernel
def fM_isDigit (v1 : Int32) (s0 : Sg) : Option (Int32 × Sg) := bi (fM_isIn v1 48 57 s0) fun r2 s1 => gb r2 (some (r2, s1))
set_option maxHeartbeats 4000000 in
set_option maxRecDepth 100000 in
theorem okM_isDigit (v1 : Int32) (s0 : Sg) : ∀ (l : Launch) (w : WC), Ok l w yM_isDigit cM_isDigit 2 (some .boolean) 2 evI [.ref (w.ad 102), .int v1] s0 (fM_isDigit v1 s0) := by
  refine ok_in (ev := fun _ => evI) (av := fun w => [.ref (w.ad 102), .int v1]) "LastWordHillModel" rfl (by decide +kernel) (fun _ => rfl) (fun _ => Nat.le_of_ble_eq_true rfl) ?_
  intro C X E
  show GF C evI 0 [some (.ref (C.w.ad 102)), some (.int v1)] [] s0 (fM_isDigit v1 s0)
  unfold fM_isDigit
  refine g_aload_n X dM_isDigit_0 rfl ?_
  refine g_iload_n X dM_isDigit_1 rfl ?_
  refine g_bipush X 48 dM_isDigit_2 (by decide) ?_
  refine g_bipush X 57 dM_isDigit_4 (by decide) ?_
  refine g_virtI X [.int v1, .int 48, .int 57] [] k_102 mm_M_isIn mv_M_isIn ml_M_153 (okM_isIn v1 48 57 s0 C.l C.w) rfl (by decide) rfl (Nat.le_of_ble_eq_true rfl) dM_isDigit_6 (fun r2 s1 => ?_)
  exact g_zret X E dM_isDigit_9
def yM_isMarkSign : MethodName := ⟨"LastWordHillModel", "isMarkSign", "(I)Z"⟩
abbrev cM_isMarkSign : ByteArray := prog_14_method_30_code
theorem dM_isMarkSign_0 : decode cM_isMarkSign 0 = .ok (.iload_n 1, 1) := by decide +kernel
theorem dM_isMarkSign_1 : decode cM_isMarkSign 1 = .ok (.bipush 59, 2) := by decide +kernel
theorem dM_isMarkSign_3 : decode cM_isMarkSign 3 = .ok (.if_icmp .eq 57, 3) := by decide +kernel
theorem dM_isMarkSign_60 : decode cM_isMarkSign 60 = .ok (.iconst 1, 1) := by decide +kernel
theorem dM_isMarkSign_61 : decode cM_isMarkSign 61 = .ok (.goto 4, 3) := by decide +kernel
theorem dM_isMarkSign_65 : decode cM_isMarkSign 65 = .ok (.ireturn, 1) := by decide +kernel
theorem dM_isMarkSign_6 : decode cM_isMarkSign 6 = .ok (.iload_n 1, 1) := by decide +kernel
theorem dM_isMarkSign_7 : decode cM_isMarkSign 7 = .ok (.bipush 43, 2) := by decide +kernel
theorem dM_isMarkSign_9 : decode cM_isMarkSign 9 = .ok (.if_icmp .eq 51, 3) := by decide +kernel
theorem dM_isMarkSign_12 : decode cM_isMarkSign 12 = .ok (.iload_n 1, 1) := by decide +kernel
theorem dM_isMarkSign_13 : decode cM_isMarkSign 13 = .ok (.bipush 45, 2) := by decide +kernel
theorem dM_isMarkSign_15 : decode cM_isMarkSign 15 = .ok (.if_icmp .eq 45, 3) := by decide +kernel
theorem dM_isMarkSign_18 : decode cM_isMarkSign 18 = .ok (.iload_n 1, 1) := by decide +kernel
theorem dM_isMarkSign_19 : decode cM_isMarkSign 19 = .ok (.bipush 42, 2) := by decide +kernel
theorem dM_isMarkSign_21 : decode cM_isMarkSign 21 = .ok (.if_icmp .eq 39, 3) := by decide +kernel
theorem dM_isMarkSign_24 : decode cM_isMarkSign 24 = .ok (.iload_n 1, 1) := by decide +kernel
theorem dM_isMarkSign_25 : decode cM_isMarkSign 25 = .ok (.bipush 47, 2) := by decide +kernel
theorem dM_isMarkSign_27 : decode cM_isMarkSign 27 = .ok (.if_icmp .eq 33, 3) := by decide +kernel
theorem dM_isMarkSign_30 : decode cM_isMarkSign 30 = .ok (.iload_n 1, 1) := by decide +kernel
theorem dM_isMarkSign_31 : decode cM_isMarkSign 31 = .ok (.bipush 40, 2) := by decide +kernel
theorem dM_isMarkSign_33 : decode cM_isMarkSign 33 = .ok (.if_icmp .eq 27, 3) := by decide +kernel
theorem dM_isMarkSign_36 : decode cM_isMarkSign 36 = .ok (.iload_n 1, 1) := by decide +kernel
theorem dM_isMarkSign_37 : decode cM_isMarkSign 37 = .ok (.bipush 41, 2) := by decide +kernel
theorem dM_isMarkSign_39 : decode cM_isMarkSign 39 = .ok (.if_icmp .eq 21, 3) := by decide +kernel
theorem dM_isMarkSign_42 : decode cM_isMarkSign 42 = .ok (.iload_n 1, 1) := by decide +kernel
theorem dM_isMarkSign_43 : decode cM_isMarkSign 43 = .ok (.bipush 60, 2) := by decide +kernel
theorem dM_isMarkSign_45 : decode cM_isMarkSign 45 = .ok (.if_icmp .eq 15, 3) := by decide +kernel
theorem dM_isMarkSign_48 : decode cM_isMarkSign 48 = .ok (.iload_n 1, 1) := by decide +kernel
theorem dM_isMarkSign_49 : decode cM_isMarkSign 49 = .ok (.bipush 61, 2) := by decide +kernel
theorem dM_isMarkSign_51 : decode cM_isMarkSign 51 = .ok (.if_icmp .eq 9, 3) := by decide +kernel
theorem dM_isMarkSign_54 : decode cM_isMarkSign 54 = .ok (.iload_n 1, 1) := by decide +kernel
theorem dM_isMarkSign_55 : decode cM_isMarkSign 55 = .ok (.bipush 62, 2) := by decide +kernel
theorem dM_isMarkSign_57 : decode cM_isMarkSign 57 = .ok (.if_icmp .ne 7, 3) := by decide +kernel
theorem dM_isMarkSign_64 : decode cM_isMarkSign 64 = .ok (.iconst 0, 1) := by decide +kernel
def fM_isMarkSign (v1 : Int32) (s0 : Sg) : Option (Int32 × Sg) := bnd (fun (s1 : Sg) => gb 1 (some (1, s1))) fun j60 => if v1 = 59 then (j60 s0) else (if v1 = 43 then (j60 s0) else (if v1 = 45 then (j60 s0) else (if v1 = 42 then (j60 s0) else (if v1 = 47 then (j60 s0) else (if v1 = 40 then (j60 s0) else (if v1 = 41 then (j60 s0) else (if v1 = 60 then (j60 s0) else (if v1 = 61 then (j60 s0) else (if v1 = 62 then (j60 s0) else (gb 0 (some (0, s0))))))))))))
set_option maxHeartbeats 4000000 in
set_option maxRecDepth 100000 in
theorem okM_isMarkSign (v1 : Int32) (s0 : Sg) : ∀ (l : Launch) (w : WC), Ok l w yM_isMarkSign cM_isMarkSign 2 (some .boolean) 1 evI [.ref (w.ad 102), .int v1] s0 (fM_isMarkSign v1 s0) := by
  refine ok_in (ev := fun _ => evI) (av := fun w => [.ref (w.ad 102), .int v1]) "LastWordHillModel" rfl (by decide +kernel) (fun _ => rfl) (fun _ => Nat.le_of_ble_eq_true rfl) ?_
  intro C X E
  show GF C evI 0 [some (.ref (C.w.ad 102)), some (.int v1)] [] s0 (fM_isMarkSign v1 s0)
  unfold fM_isMarkSign
  refine g_iload_n X dM_isMarkSign_0 rfl ?_
  refine g_bipush X 59 dM_isMarkSign_1 (by decide) ?_
  refine gf_jn (fun j60 => ∀ (s1 : Sg), GF C evI 60 [none, none] [] s1 (j60 s1)) ?_ ?_
  · intro s1
    refine g_iconst X 1 dM_isMarkSign_60 (by decide) ?_
    refine g_goto X 65 dM_isMarkSign_61 (by decide) ?_
    exact g_zret X E dM_isMarkSign_65
  · intro j60 hj60
    refine g_ceq X (tgt := 60) dM_isMarkSign_3 (by decide) ?_ ?_
    · exact gf_sub (hj60 s0) (by simp [lsub])
    · refine g_iload_n X dM_isMarkSign_6 rfl ?_
      refine g_bipush X 43 dM_isMarkSign_7 (by decide) ?_
      refine g_ceq X (tgt := 60) dM_isMarkSign_9 (by decide) ?_ ?_
      · exact gf_sub (hj60 s0) (by simp [lsub])
      · refine g_iload_n X dM_isMarkSign_12 rfl ?_
        refine g_bipush X 45 dM_isMarkSign_13 (by decide) ?_
        refine g_ceq X (tgt := 60) dM_isMarkSign_15 (by decide) ?_ ?_
        · exact gf_sub (hj60 s0) (by simp [lsub])
        · refine g_iload_n X dM_isMarkSign_18 rfl ?_
          refine g_bipush X 42 dM_isMarkSign_19 (by decide) ?_
          refine g_ceq X (tgt := 60) dM_isMarkSign_21 (by decide) ?_ ?_
          · exact gf_sub (hj60 s0) (by simp [lsub])
          · refine g_iload_n X dM_isMarkSign_24 rfl ?_
            refine g_bipush X 47 dM_isMarkSign_25 (by decide) ?_
            refine g_ceq X (tgt := 60) dM_isMarkSign_27 (by decide) ?_ ?_
            · exact gf_sub (hj60 s0) (by simp [lsub])
            · refine g_iload_n X dM_isMarkSign_30 rfl ?_
              refine g_bipush X 40 dM_isMarkSign_31 (by decide) ?_
              refine g_ceq X (tgt := 60) dM_isMarkSign_33 (by decide) ?_ ?_
              · exact gf_sub (hj60 s0) (by simp [lsub])
              · refine g_iload_n X dM_isMarkSign_36 rfl ?_
                refine g_bipush X 41 dM_isMarkSign_37 (by decide) ?_
                refine g_ceq X (tgt := 60) dM_isMarkSign_39 (by decide) ?_ ?_
                · exact gf_sub (hj60 s0) (by simp [lsub])
                · refine g_iload_n X dM_isMarkSign_42 rfl ?_
                  refine g_bipush X 60 dM_isMarkSign_43 (by decide) ?_
                  refine g_ceq X (tgt := 60) dM_isMarkSign_45 (by decide) ?_ ?_
                  · exact gf_sub (hj60 s0) (by simp [lsub])
                  · refine g_iload_n X dM_isMarkSign_48 rfl ?_
                    refine g_bipush X 61 dM_isMarkSign_49 (by decide) ?_
                    refine g_ceq X (tgt := 60) dM_isMarkSign_51 (by decide) ?_ ?_
                    · exact gf_sub (hj60 s0) (by simp [lsub])
                    · refine g_iload_n X dM_isMarkSign_54 rfl ?_
                      refine g_bipush X 62 dM_isMarkSign_55 (by decide) ?_
                      refine g_cne X (tgt := 64) dM_isMarkSign_57 (by decide) ?_ ?_
                      · exact gf_sub (hj60 s0) (by simp [lsub])
                      · refine g_iconst X 0 dM_isMarkSign_64 (by decide) ?_
                        exact g_zret X E dM_isMarkSign_65
def yM_wordAt : MethodName := ⟨"LastWordHillModel", "wordAt", "(II)I"⟩
abbrev cM_wordAt : ByteArray := prog_14_method_31_code
theorem dM_wordAt_0 : decode cM_wordAt 0 = .ok (.iconst (-1), 1) := by decide +kernel
theorem dM_wordAt_1 : decode cM_wordAt 1 = .ok (.istore_n 3, 1) := by decide +kernel
theorem dM_wordAt_2 : decode cM_wordAt 2 = .ok (.iconst 0, 1) := by decide +kernel
theorem dM_wordAt_3 : decode cM_wordAt 3 = .ok (.istore 4, 2) := by decide +kernel
theorem dM_wordAt_5 : decode cM_wordAt 5 = .ok (.iload 4, 2) := by decide +kernel
theorem dM_wordAt_7 : decode cM_wordAt 7 = .ok (.bipush 121, 2) := by decide +kernel
theorem dM_wordAt_9 : decode cM_wordAt 9 = .ok (.if_icmp .ge 108, 3) := by decide +kernel
theorem dM_wordAt_117 : decode cM_wordAt 117 = .ok (.iconst (-1), 1) := by decide +kernel
theorem dM_wordAt_118 : decode cM_wordAt 118 = .ok (.ireturn, 1) := by decide +kernel
theorem dM_wordAt_12 : decode cM_wordAt 12 = .ok (.iconst 0, 1) := by decide +kernel
theorem dM_wordAt_13 : decode cM_wordAt 13 = .ok (.istore 5, 2) := by decide +kernel
theorem dM_wordAt_15 : decode cM_wordAt 15 = .ok (.iload_n 3, 1) := by decide +kernel
theorem dM_wordAt_16 : decode cM_wordAt 16 = .ok (.iconst 1, 1) := by decide +kernel
theorem dM_wordAt_17 : decode cM_wordAt 17 = .ok (.iadd, 1) := by decide +kernel
theorem dM_wordAt_18 : decode cM_wordAt 18 = .ok (.istore_n 3, 1) := by decide +kernel
theorem dM_wordAt_19 : decode cM_wordAt 19 = .ok (.iload_n 1, 1) := by decide +kernel
theorem dM_wordAt_20 : decode cM_wordAt 20 = .ok (.iload 5, 2) := by decide +kernel
theorem dM_wordAt_22 : decode cM_wordAt 22 = .ok (.iadd, 1) := by decide +kernel
theorem dM_wordAt_23 : decode cM_wordAt 23 = .ok (.iload_n 2, 1) := by decide +kernel
theorem dM_wordAt_24 : decode cM_wordAt 24 = .ok (.if_icmp .ge 36, 3) := by decide +kernel
theorem dM_wordAt_60 : decode cM_wordAt 60 = .ok (.iload_n 1, 1) := by decide +kernel
theorem dM_wordAt_61 : decode cM_wordAt 61 = .ok (.iload 5, 2) := by decide +kernel
theorem dM_wordAt_63 : decode cM_wordAt 63 = .ok (.iadd, 1) := by decide +kernel
theorem dM_wordAt_64 : decode cM_wordAt 64 = .ok (.iload_n 2, 1) := by decide +kernel
theorem dM_wordAt_65 : decode cM_wordAt 65 = .ok (.if_icmp .ne 22, 3) := by decide +kernel
theorem dM_wordAt_87 : decode cM_wordAt 87 = .ok (.iload 4, 2) := by decide +kernel
theorem dM_wordAt_89 : decode cM_wordAt 89 = .ok (.iconst 1, 1) := by decide +kernel
theorem dM_wordAt_90 : decode cM_wordAt 90 = .ok (.iadd, 1) := by decide +kernel
theorem dM_wordAt_91 : decode cM_wordAt 91 = .ok (.istore 4, 2) := by decide +kernel
theorem dM_wordAt_93 : decode cM_wordAt 93 = .ok (.aload_n 0, 1) := by decide +kernel
theorem dM_wordAt_94 : decode cM_wordAt 94 = .ok (.getfield 34, 3) := by decide +kernel
theorem fl_M_34 : FLk "LastWordHillModel" 34 12 17 := ⟨_, _, _, rfl, by decide, hz_in 1429 (by decide +kernel) (by decide +kernel), nL12, by decide, by decide⟩
theorem k_111 : hz_kd 111 = 13 := by decide
theorem fb_12_17 : (hz_bs 12)[17]? = some true := by decide
theorem r_102_17 : hz_rf 102 17 = 111 := by decide
theorem dM_wordAt_97 : decode cM_wordAt 97 = .ok (.iload 4, 2) := by decide +kernel
theorem dM_wordAt_99 : decode cM_wordAt 99 = .ok (.iaload, 1) := by decide +kernel
theorem ln_111 : hz_ln 111 = 122 := by decide
theorem dM_wordAt_100 : decode cM_wordAt 100 = .ok (.bipush 32, 2) := by decide +kernel
theorem dM_wordAt_102 : decode cM_wordAt 102 = .ok (.if_icmp .eq 12, 3) := by decide +kernel
theorem dM_wordAt_114 : decode cM_wordAt 114 = .ok (.goto (-109), 3) := by decide +kernel
theorem dM_wordAt_105 : decode cM_wordAt 105 = .ok (.iload 4, 2) := by decide +kernel
theorem dM_wordAt_107 : decode cM_wordAt 107 = .ok (.iconst 1, 1) := by decide +kernel
theorem dM_wordAt_108 : decode cM_wordAt 108 = .ok (.iadd, 1) := by decide +kernel
theorem dM_wordAt_109 : decode cM_wordAt 109 = .ok (.istore 4, 2) := by decide +kernel
theorem dM_wordAt_111 : decode cM_wordAt 111 = .ok (.goto (-18), 3) := by decide +kernel
theorem dM_wordAt_68 : decode cM_wordAt 68 = .ok (.aload_n 0, 1) := by decide +kernel
theorem dM_wordAt_69 : decode cM_wordAt 69 = .ok (.getfield 34, 3) := by decide +kernel
theorem dM_wordAt_72 : decode cM_wordAt 72 = .ok (.iload 4, 2) := by decide +kernel
theorem dM_wordAt_74 : decode cM_wordAt 74 = .ok (.iconst 1, 1) := by decide +kernel
theorem dM_wordAt_75 : decode cM_wordAt 75 = .ok (.iadd, 1) := by decide +kernel
theorem dM_wordAt_76 : decode cM_wordAt 76 = .ok (.iload 5, 2) := by decide +kernel
theorem dM_wordAt_78 : decode cM_wordAt 78 = .ok (.iadd, 1) := by decide +kernel
theorem dM_wordAt_79 : decode cM_wordAt 79 = .ok (.iaload, 1) := by decide +kernel
theorem dM_wordAt_80 : decode cM_wordAt 80 = .ok (.bipush 32, 2) := by decide +kernel
theorem dM_wordAt_82 : decode cM_wordAt 82 = .ok (.if_icmp .ne 5, 3) := by decide +kernel
theorem dM_wordAt_85 : decode cM_wordAt 85 = .ok (.iload_n 3, 1) := by decide +kernel
theorem dM_wordAt_86 : decode cM_wordAt 86 = .ok (.ireturn, 1) := by decide +kernel
theorem dM_wordAt_27 : decode cM_wordAt 27 = .ok (.aload_n 0, 1) := by decide +kernel
theorem dM_wordAt_28 : decode cM_wordAt 28 = .ok (.getfield 34, 3) := by decide +kernel
theorem dM_wordAt_31 : decode cM_wordAt 31 = .ok (.iload 4, 2) := by decide +kernel
theorem dM_wordAt_33 : decode cM_wordAt 33 = .ok (.iconst 1, 1) := by decide +kernel
theorem dM_wordAt_34 : decode cM_wordAt 34 = .ok (.iadd, 1) := by decide +kernel
theorem dM_wordAt_35 : decode cM_wordAt 35 = .ok (.iload 5, 2) := by decide +kernel
theorem dM_wordAt_37 : decode cM_wordAt 37 = .ok (.iadd, 1) := by decide +kernel
theorem dM_wordAt_38 : decode cM_wordAt 38 = .ok (.iaload, 1) := by decide +kernel
theorem dM_wordAt_39 : decode cM_wordAt 39 = .ok (.aload_n 0, 1) := by decide +kernel
theorem dM_wordAt_40 : decode cM_wordAt 40 = .ok (.getfield 31, 3) := by decide +kernel
theorem dM_wordAt_43 : decode cM_wordAt 43 = .ok (.iload_n 1, 1) := by decide +kernel
theorem dM_wordAt_44 : decode cM_wordAt 44 = .ok (.iload 5, 2) := by decide +kernel
theorem dM_wordAt_46 : decode cM_wordAt 46 = .ok (.iadd, 1) := by decide +kernel
theorem dM_wordAt_47 : decode cM_wordAt 47 = .ok (.iaload, 1) := by decide +kernel
theorem dM_wordAt_48 : decode cM_wordAt 48 = .ok (.if_icmp .ne 12, 3) := by decide +kernel
theorem dM_wordAt_51 : decode cM_wordAt 51 = .ok (.iload 5, 2) := by decide +kernel
theorem dM_wordAt_53 : decode cM_wordAt 53 = .ok (.iconst 1, 1) := by decide +kernel
theorem dM_wordAt_54 : decode cM_wordAt 54 = .ok (.iadd, 1) := by decide +kernel
theorem dM_wordAt_55 : decode cM_wordAt 55 = .ok (.istore 5, 2) := by decide +kernel
theorem dM_wordAt_57 : decode cM_wordAt 57 = .ok (.goto (-38), 3) := by decide +kernel
def fM_wordAt (v1 : Int32) (v2 : Int32) (s0 : Sg) : Option (Int32 × Sg) := lp FU (fun q5 (u5 : Int32 × Int32) (s1 : Sg) => if 121 ≤ u5.2 then (some ((-1), s1)) else (lp FU (fun q19 (u19 : Int32) (s2 : Sg) => bnd (fun (s3 : Sg) => bnd (fun (s4 : Sg) => lp FU (fun q93 (u93 : Int32) (s5 : Sg) => gd u93 122 (if (s5 111 (ix u93)) = 32 then (q5 ((u5.1 + 1), u93) s5) else (q93 (u93 + 1) s5))) (u5.2 + 1) s4) fun j87 => if (v1 + u19) = v2 then (gd ((u5.2 + 1) + u19) 122 (if (s3 111 (ix ((u5.2 + 1) + u19))) = 32 then (some ((u5.1 + 1), s3)) else (j87 s3))) else (j87 s3)) fun j60 => if v2 ≤ (v1 + u19) then (j60 s2) else (gd ((u5.2 + 1) + u19) 122 (gd (v1 + u19) 400 (if (s2 111 (ix ((u5.2 + 1) + u19))) = (s2 110 (ix (v1 + u19))) then (q19 (u19 + 1) s2) else (j60 s2))))) 0 s1)) ((-1), 0) s0
set_option maxHeartbeats 4000000 in
set_option maxRecDepth 100000 in
theorem okM_wordAt (v1 : Int32) (v2 : Int32) (s0 : Sg) : ∀ (l : Launch) (w : WC), Ok l w yM_wordAt cM_wordAt 6 (some .int) 1 evI [.ref (w.ad 102), .int v1, .int v2] s0 (fM_wordAt v1 v2 s0) := by
  refine ok_in (ev := fun _ => evI) (av := fun w => [.ref (w.ad 102), .int v1, .int v2]) "LastWordHillModel" rfl (by decide +kernel) (fun _ => rfl) (fun _ => Nat.le_of_ble_eq_true rfl) ?_
  intro C X E
  show GF C evI 0 [some (.ref (C.w.ad 102)), some (.int v1), some (.int v2), none, none, none] [] s0 (fM_wordAt v1 v2 s0)
  unfold fM_wordAt
  refine g_iconst X (-1) dM_wordAt_0 (by decide) ?_
  refine g_istore_n X [some (.ref (C.w.ad 102)), some (.int v1), some (.int v2), some (.int (-1)), none, none] dM_wordAt_1 (by decide) (Nat.le_of_ble_eq_true rfl) rfl ?_
  refine g_iconst X 0 dM_wordAt_2 (by decide) ?_
  refine g_istore X [some (.ref (C.w.ad 102)), some (.int v1), some (.int v2), some (.int (-1)), some (.int 0), none] dM_wordAt_3 (by decide) (Nat.le_of_ble_eq_true rfl) rfl ?_
  refine gf_sub (L' := [some (.ref (C.w.ad 102)), some (.int v1), some (.int v2), some (.int (-1)), some (.int 0), none]) ?_ (by simp [lsub])
  refine gf_lp (Lf := fun (u5 : Int32 × Int32) => [some (.ref (C.w.ad 102)), some (.int v1), some (.int v2), some (.int u5.1), some (.int u5.2), none]) (fun q5 hq5 u5 s1 => ?_) FU ((-1), 0) s0
  refine g_iload X dM_wordAt_5 rfl ?_
  refine g_bipush X 121 dM_wordAt_7 (by decide) ?_
  refine g_cge X (tgt := 117) dM_wordAt_9 (by decide) ?_ ?_
  · refine g_iconst X (-1) dM_wordAt_117 (by decide) ?_
    exact g_iret X E dM_wordAt_118
  · refine g_iconst X 0 dM_wordAt_12 (by decide) ?_
    refine g_istore X [some (.ref (C.w.ad 102)), some (.int v1), some (.int v2), some (.int u5.1), some (.int u5.2), some (.int 0)] dM_wordAt_13 (by decide) (Nat.le_of_ble_eq_true rfl) rfl ?_
    refine g_iload_n X dM_wordAt_15 rfl ?_
    refine g_iconst X 1 dM_wordAt_16 (by decide) ?_
    refine g_iadd X dM_wordAt_17 ?_
    refine g_istore_n X [some (.ref (C.w.ad 102)), some (.int v1), some (.int v2), some (.int (u5.1 + 1)), some (.int u5.2), some (.int 0)] dM_wordAt_18 (by decide) (Nat.le_of_ble_eq_true rfl) rfl ?_
    refine gf_sub (L' := [some (.ref (C.w.ad 102)), some (.int v1), some (.int v2), some (.int (u5.1 + 1)), some (.int u5.2), some (.int 0)]) ?_ (by simp [lsub])
    refine gf_lp (Lf := fun (u19 : Int32) => [some (.ref (C.w.ad 102)), some (.int v1), some (.int v2), some (.int (u5.1 + 1)), some (.int u5.2), some (.int u19)]) (fun q19 hq19 u19 s2 => ?_) FU 0 s1
    refine g_iload_n X dM_wordAt_19 rfl ?_
    refine g_iload X dM_wordAt_20 rfl ?_
    refine g_iadd X dM_wordAt_22 ?_
    refine g_iload_n X dM_wordAt_23 rfl ?_
    refine gf_jn (fun j60 => ∀ (s3 : Sg), GF C evI 60 [some (.ref (C.w.ad 102)), some (.int v1), some (.int v2), some (.int (u5.1 + 1)), some (.int u5.2), some (.int u19)] [] s3 (j60 s3)) ?_ ?_
    · intro s3
      refine g_iload_n X dM_wordAt_60 rfl ?_
      refine g_iload X dM_wordAt_61 rfl ?_
      refine g_iadd X dM_wordAt_63 ?_
      refine g_iload_n X dM_wordAt_64 rfl ?_
      refine gf_jn (fun j87 => ∀ (s4 : Sg), GF C evI 87 [some (.ref (C.w.ad 102)), some (.int v1), some (.int v2), some (.int (u5.1 + 1)), some (.int u5.2), none] [] s4 (j87 s4)) ?_ ?_
      · intro s4
        refine g_iload X dM_wordAt_87 rfl ?_
        refine g_iconst X 1 dM_wordAt_89 (by decide) ?_
        refine g_iadd X dM_wordAt_90 ?_
        refine g_istore X [some (.ref (C.w.ad 102)), some (.int v1), some (.int v2), some (.int (u5.1 + 1)), some (.int (u5.2 + 1)), none] dM_wordAt_91 (by decide) (Nat.le_of_ble_eq_true rfl) rfl ?_
        refine gf_sub (L' := [some (.ref (C.w.ad 102)), some (.int v1), some (.int v2), some (.int (u5.1 + 1)), some (.int (u5.2 + 1)), none]) ?_ (by simp [lsub])
        refine gf_lp (Lf := fun (u93 : Int32) => [some (.ref (C.w.ad 102)), some (.int v1), some (.int v2), some (.int (u5.1 + 1)), some (.int u93), none]) (fun q93 hq93 u93 s5 => ?_) FU (u5.2 + 1) s4
        refine g_aload_n X dM_wordAt_93 rfl ?_
        refine g_getN X fl_M_34 fb_12_17 k_102 r_102_17 dM_wordAt_94 ?_
        refine g_iload X dM_wordAt_97 rfl ?_
        refine g_iald X k_111 ln_111 dM_wordAt_99 ?_
        refine g_bipush X 32 dM_wordAt_100 (by decide) ?_
        refine g_ceq X (tgt := 114) dM_wordAt_102 (by decide) ?_ ?_
        · refine g_goto X 5 dM_wordAt_114 (by decide) ?_
          exact gf_sub (hq5 ((u5.1 + 1), u93) s5) (by simp [lsub])
        · refine g_iload X dM_wordAt_105 rfl ?_
          refine g_iconst X 1 dM_wordAt_107 (by decide) ?_
          refine g_iadd X dM_wordAt_108 ?_
          refine g_istore X [some (.ref (C.w.ad 102)), some (.int v1), some (.int v2), some (.int (u5.1 + 1)), some (.int (u93 + 1)), none] dM_wordAt_109 (by decide) (Nat.le_of_ble_eq_true rfl) rfl ?_
          refine g_goto X 93 dM_wordAt_111 (by decide) ?_
          exact gf_sub (hq93 (u93 + 1) s5) (by simp [lsub])
      · intro j87 hj87
        refine g_cne X (tgt := 87) dM_wordAt_65 (by decide) ?_ ?_
        · refine g_aload_n X dM_wordAt_68 rfl ?_
          refine g_getN X fl_M_34 fb_12_17 k_102 r_102_17 dM_wordAt_69 ?_
          refine g_iload X dM_wordAt_72 rfl ?_
          refine g_iconst X 1 dM_wordAt_74 (by decide) ?_
          refine g_iadd X dM_wordAt_75 ?_
          refine g_iload X dM_wordAt_76 rfl ?_
          refine g_iadd X dM_wordAt_78 ?_
          refine g_iald X k_111 ln_111 dM_wordAt_79 ?_
          refine g_bipush X 32 dM_wordAt_80 (by decide) ?_
          refine g_cne X (tgt := 87) dM_wordAt_82 (by decide) ?_ ?_
          · refine g_iload_n X dM_wordAt_85 rfl ?_
            exact g_iret X E dM_wordAt_86
          · exact gf_sub (hj87 s3) (by simp [lsub])
        · exact gf_sub (hj87 s3) (by simp [lsub])
    · intro j60 hj60
      refine g_cge X (tgt := 60) dM_wordAt_24 (by decide) ?_ ?_
      · exact gf_sub (hj60 s2) (by simp [lsub])
      · refine g_aload_n X dM_wordAt_27 rfl ?_
        refine g_getN X fl_M_34 fb_12_17 k_102 r_102_17 dM_wordAt_28 ?_
        refine g_iload X dM_wordAt_31 rfl ?_
        refine g_iconst X 1 dM_wordAt_33 (by decide) ?_
        refine g_iadd X dM_wordAt_34 ?_
        refine g_iload X dM_wordAt_35 rfl ?_
        refine g_iadd X dM_wordAt_37 ?_
        refine g_iald X k_111 ln_111 dM_wordAt_38 ?_
        refine g_aload_n X dM_wordAt_39 rfl ?_
        refine g_getN X fl_M_31 fb_12_11 k_102 r_102_11 dM_wordAt_40 ?_
        refine g_iload_n X dM_wordAt_43 rfl ?_
        refine g_iload X dM_wordAt_44 rfl ?_
        refine g_iadd X dM_wordAt_46 ?_
        refine g_iald X k_110 ln_110 dM_wordAt_47 ?_
        refine g_cne X (tgt := 60) dM_wordAt_48 (by decide) ?_ ?_
        · refine g_iload X dM_wordAt_51 rfl ?_
          refine g_iconst X 1 dM_wordAt_53 (by decide) ?_
          refine g_iadd X dM_wordAt_54 ?_
          refine g_istore X [some (.ref (C.w.ad 102)), some (.int v1), some (.int v2), some (.int (u5.1 + 1)), some (.int u5.2), some (.int (u19 + 1))] dM_wordAt_55 (by decide) (Nat.le_of_ble_eq_true rfl) rfl ?_
          refine g_goto X 19 dM_wordAt_57 (by decide) ?_
          exact gf_sub (hq19 (u19 + 1) s2) (by simp [lsub])
        · exact gf_sub (hj60 s2) (by simp [lsub])
