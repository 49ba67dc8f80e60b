def yM_reads : MethodName := ⟨"LastWordHillModel", "reads", "()V"⟩
abbrev cM_reads : ByteArray := prog_14_method_32_code
theorem dM_reads_0 : decode cM_reads 0 = .ok (.aload_n 0, 1) := by decide +kernel
theorem dM_reads_1 : decode cM_reads 1 = .ok (.aload_n 0, 1) := by decide +kernel
theorem dM_reads_2 : decode cM_reads 2 = .ok (.getfield 175, 3) := by decide +kernel
theorem fl_M_175 : FLk "LastWordHillModel" 175 12 13 := ⟨_, _, _, rfl, by decide, hz_in 1425 (by decide +kernel) (by decide +kernel), nL12, by decide, by decide⟩
theorem fb_12_13 : (hz_bs 12)[13]? = some false := by decide
theorem dM_reads_5 : decode cM_reads 5 = .ok (.invokevirtual 178, 3) := by decide +kernel
theorem mm_M_raw : MMc yM_raw cM_raw 2 (some .int) 1 := ⟨hz_in 1686 (by decide +kernel) (by decide +kernel), hz_in 147 (by decide +kernel) (by decide +kernel), by decide +kernel, by decide⟩
theorem mv_M_raw : MMv yM_raw 12 := ⟨hz_in 1685 (by decide +kernel) (by decide +kernel), hz_in 57 (by decide +kernel) (by decide +kernel), _, _, rfl, by decide⟩
theorem ml_M_178 : Cond.methodLink "LastWordHillModel" 178 yM_raw ∈ hz_wt := hz_in 1683 (by decide +kernel) (by decide +kernel)
theorem dM_reads_8 : decode cM_reads 8 = .ok (.bipush 32, 2) := by decide +kernel
theorem dM_reads_10 : decode cM_reads 10 = .ok (.if_icmp .eq 16, 3) := by decide +kernel
theorem dM_reads_26 : decode cM_reads 26 = .ok (.aload_n 0, 1) := by decide +kernel
theorem dM_reads_27 : decode cM_reads 27 = .ok (.aload_n 0, 1) := by decide +kernel
theorem dM_reads_28 : decode cM_reads 28 = .ok (.getfield 175, 3) := by decide +kernel
theorem dM_reads_31 : decode cM_reads 31 = .ok (.iconst 1, 1) := by decide +kernel
theorem dM_reads_32 : decode cM_reads 32 = .ok (.iadd, 1) := by decide +kernel
theorem dM_reads_33 : decode cM_reads 33 = .ok (.putfield 175, 3) := by decide +kernel
theorem fp_12_13 : FLp 12 13 .int := ⟨_, _, _, _, rfl, nY12, nN12, by decide, by decide⟩
theorem dM_reads_36 : decode cM_reads 36 = .ok (.goto (-36), 3) := by decide +kernel
theorem dM_reads_13 : decode cM_reads 13 = .ok (.aload_n 0, 1) := by decide +kernel
theorem dM_reads_14 : decode cM_reads 14 = .ok (.aload_n 0, 1) := by decide +kernel
theorem dM_reads_15 : decode cM_reads 15 = .ok (.getfield 175, 3) := by decide +kernel
theorem dM_reads_18 : decode cM_reads 18 = .ok (.invokevirtual 178, 3) := by decide +kernel
theorem dM_reads_21 : decode cM_reads 21 = .ok (.bipush 10, 2) := by decide +kernel
theorem dM_reads_23 : decode cM_reads 23 = .ok (.if_icmp .ne 16, 3) := by decide +kernel
theorem dM_reads_39 : decode cM_reads 39 = .ok (.aload_n 0, 1) := by decide +kernel
theorem dM_reads_40 : decode cM_reads 40 = .ok (.aload_n 0, 1) := by decide +kernel
theorem dM_reads_41 : decode cM_reads 41 = .ok (.getfield 175, 3) := by decide +kernel
theorem dM_reads_44 : decode cM_reads 44 = .ok (.putfield 182, 3) := by decide +kernel
theorem fl_M_182 : FLk "LastWordHillModel" 182 12 14 := ⟨_, _, _, rfl, by decide, hz_in 1426 (by decide +kernel) (by decide +kernel), nL12, by decide, by decide⟩
theorem fb_12_14 : (hz_bs 12)[14]? = some false := by decide
theorem fp_12_14 : FLp 12 14 .int := ⟨_, _, _, _, rfl, nY12, nN12, by decide, by decide⟩
theorem dM_reads_47 : decode cM_reads 47 = .ok (.aload_n 0, 1) := by decide +kernel
theorem dM_reads_48 : decode cM_reads 48 = .ok (.iconst 1, 1) := by decide +kernel
theorem dM_reads_49 : decode cM_reads 49 = .ok (.putfield 185, 3) := by decide +kernel
theorem fl_M_185 : FLk "LastWordHillModel" 185 12 15 := ⟨_, _, _, rfl, by decide, hz_in 1427 (by decide +kernel) (by decide +kernel), nL12, by decide, by decide⟩
theorem fb_12_15 : (hz_bs 12)[15]? = some false := by decide
theorem fp_12_15 : FLp 12 15 .int := ⟨_, _, _, _, rfl, nY12, nN12, by decide, by decide⟩
theorem dM_reads_52 : decode cM_reads 52 = .ok (.aload_n 0, 1) := by decide +kernel
theorem dM_reads_53 : decode cM_reads 53 = .ok (.aload_n 0, 1) := by decide +kernel
theorem dM_reads_54 : decode cM_reads 54 = .ok (.getfield 175, 3) := by decide +kernel
theorem dM_reads_57 : decode cM_reads 57 = .ok (.invokevirtual 178, 3) := by decide +kernel
theorem dM_reads_60 : decode cM_reads 60 = .ok (.istore_n 1, 1) := by decide +kernel
theorem dM_reads_61 : decode cM_reads 61 = .ok (.iload_n 1, 1) := by decide +kernel
theorem dM_reads_62 : decode cM_reads 62 = .ok (.iconst (-1), 1) := by decide +kernel
theorem dM_reads_63 : decode cM_reads 63 = .ok (.if_icmp .ne 9, 3) := by decide +kernel
theorem dM_reads_72 : decode cM_reads 72 = .ok (.aload_n 0, 1) := by decide +kernel
theorem dM_reads_73 : decode cM_reads 73 = .ok (.aload_n 0, 1) := by decide +kernel
theorem dM_reads_74 : decode cM_reads 74 = .ok (.getfield 175, 3) := by decide +kernel
theorem dM_reads_77 : decode cM_reads 77 = .ok (.iconst 1, 1) := by decide +kernel
theorem dM_reads_78 : decode cM_reads 78 = .ok (.iadd, 1) := by decide +kernel
theorem dM_reads_79 : decode cM_reads 79 = .ok (.putfield 175, 3) := by decide +kernel
theorem dM_reads_82 : decode cM_reads 82 = .ok (.aload_n 0, 1) := by decide +kernel
theorem dM_reads_83 : decode cM_reads 83 = .ok (.iload_n 1, 1) := by decide +kernel
theorem dM_reads_84 : decode cM_reads 84 = .ok (.putfield 188, 3) := by decide +kernel
theorem fl_M_188 : FLk "LastWordHillModel" 188 12 16 := ⟨_, _, _, rfl, by decide, hz_in 1428 (by decide +kernel) (by decide +kernel), nL12, by decide, by decide⟩
theorem fb_12_16 : (hz_bs 12)[16]? = some false := by decide
theorem fp_12_16 : FLp 12 16 .int := ⟨_, _, _, _, rfl, nY12, nN12, by decide, by decide⟩
theorem dM_reads_87 : decode cM_reads 87 = .ok (.aload_n 0, 1) := by decide +kernel
theorem dM_reads_88 : decode cM_reads 88 = .ok (.iload_n 1, 1) := by decide +kernel
theorem dM_reads_89 : decode cM_reads 89 = .ok (.invokevirtual 191, 3) := by decide +kernel
theorem mm_M_isLetter : MMc yM_isLetter cM_isLetter 2 (some .boolean) 1 := ⟨hz_in 1690 (by decide +kernel) (by decide +kernel), hz_in 147 (by decide +kernel) (by decide +kernel), by decide +kernel, by decide⟩
theorem mv_M_isLetter : MMv yM_isLetter 12 := ⟨hz_in 1689 (by decide +kernel) (by decide +kernel), hz_in 58 (by decide +kernel) (by decide +kernel), _, _, rfl, by decide⟩
theorem ml_M_191 : Cond.methodLink "LastWordHillModel" 191 yM_isLetter ∈ hz_wt := hz_in 1687 (by decide +kernel) (by decide +kernel)
theorem dM_reads_92 : decode cM_reads 92 = .ok (.ifCond .eq 63, 3) := by decide +kernel
theorem dM_reads_155 : decode cM_reads 155 = .ok (.aload_n 0, 1) := by decide +kernel
theorem dM_reads_156 : decode cM_reads 156 = .ok (.iload_n 1, 1) := by decide +kernel
theorem dM_reads_157 : decode cM_reads 157 = .ok (.invokevirtual 198, 3) := by decide +kernel
theorem mm_M_isDigit : MMc yM_isDigit cM_isDigit 2 (some .boolean) 1 := ⟨hz_in 1698 (by decide +kernel) (by decide +kernel), hz_in 147 (by decide +kernel) (by decide +kernel), by decide +kernel, by decide⟩
theorem mv_M_isDigit : MMv yM_isDigit 12 := ⟨hz_in 1697 (by decide +kernel) (by decide +kernel), hz_in 60 (by decide +kernel) (by decide +kernel), _, _, rfl, by decide⟩
theorem ml_M_198 : Cond.methodLink "LastWordHillModel" 198 yM_isDigit ∈ hz_wt := hz_in 1695 (by decide +kernel) (by decide +kernel)
theorem dM_reads_160 : decode cM_reads 160 = .ok (.ifCond .eq 100, 3) := by decide +kernel
theorem dM_reads_260 : decode cM_reads 260 = .ok (.aload_n 0, 1) := by decide +kernel
theorem dM_reads_261 : decode cM_reads 261 = .ok (.iload_n 1, 1) := by decide +kernel
theorem dM_reads_262 : decode cM_reads 262 = .ok (.invokevirtual 201, 3) := by decide +kernel
theorem mm_M_isMarkSign : MMc yM_isMarkSign cM_isMarkSign 2 (some .boolean) 1 := ⟨hz_in 1702 (by decide +kernel) (by decide +kernel), hz_in 147 (by decide +kernel) (by decide +kernel), by decide +kernel, by decide⟩
theorem mv_M_isMarkSign : MMv yM_isMarkSign 12 := ⟨hz_in 1701 (by decide +kernel) (by decide +kernel), hz_in 61 (by decide +kernel) (by decide +kernel), _, _, rfl, by decide⟩
theorem ml_M_201 : Cond.methodLink "LastWordHillModel" 201 yM_isMarkSign ∈ hz_wt := hz_in 1699 (by decide +kernel) (by decide +kernel)
theorem dM_reads_265 : decode cM_reads 265 = .ok (.ifCond .eq 8, 3) := by decide +kernel
theorem dM_reads_273 : decode cM_reads 273 = .ok (.return_, 1) := by decide +kernel
theorem dM_reads_268 : decode cM_reads 268 = .ok (.aload_n 0, 1) := by decide +kernel
theorem dM_reads_269 : decode cM_reads 269 = .ok (.iconst 4, 1) := by decide +kernel
theorem dM_reads_270 : decode cM_reads 270 = .ok (.putfield 185, 3) := by decide +kernel
theorem dM_reads_163 : decode cM_reads 163 = .ok (.aload_n 0, 1) := by decide +kernel
theorem dM_reads_164 : decode cM_reads 164 = .ok (.iload_n 1, 1) := by decide +kernel
theorem dM_reads_165 : decode cM_reads 165 = .ok (.bipush 48, 2) := by decide +kernel
theorem dM_reads_167 : decode cM_reads 167 = .ok (.isub, 1) := by decide +kernel
theorem dM_reads_168 : decode cM_reads 168 = .ok (.putfield 188, 3) := by decide +kernel
theorem dM_reads_171 : decode cM_reads 171 = .ok (.aload_n 0, 1) := by decide +kernel
theorem dM_reads_172 : decode cM_reads 172 = .ok (.aload_n 0, 1) := by decide +kernel
theorem dM_reads_173 : decode cM_reads 173 = .ok (.aload_n 0, 1) := by decide +kernel
theorem dM_reads_174 : decode cM_reads 174 = .ok (.getfield 175, 3) := by decide +kernel
theorem dM_reads_177 : decode cM_reads 177 = .ok (.invokevirtual 178, 3) := by decide +kernel
theorem dM_reads_180 : decode cM_reads 180 = .ok (.invokevirtual 198, 3) := by decide +kernel
theorem dM_reads_183 : decode cM_reads 183 = .ok (.ifCond .eq 56, 3) := by decide +kernel
theorem dM_reads_239 : decode cM_reads 239 = .ok (.aload_n 0, 1) := by decide +kernel
theorem dM_reads_240 : decode cM_reads 240 = .ok (.getfield 175, 3) := by decide +kernel
theorem dM_reads_243 : decode cM_reads 243 = .ok (.aload_n 0, 1) := by decide +kernel
theorem dM_reads_244 : decode cM_reads 244 = .ok (.getfield 182, 3) := by decide +kernel
theorem dM_reads_247 : decode cM_reads 247 = .ok (.isub, 1) := by decide +kernel
theorem dM_reads_248 : decode cM_reads 248 = .ok (.iconst 5, 1) := by decide +kernel
theorem dM_reads_249 : decode cM_reads 249 = .ok (.if_icmp .ge 24, 3) := by decide +kernel
theorem dM_reads_252 : decode cM_reads 252 = .ok (.aload_n 0, 1) := by decide +kernel
theorem dM_reads_253 : decode cM_reads 253 = .ok (.iconst 3, 1) := by decide +kernel
theorem dM_reads_254 : decode cM_reads 254 = .ok (.putfield 185, 3) := by decide +kernel
theorem dM_reads_257 : decode cM_reads 257 = .ok (.goto 16, 3) := by decide +kernel
theorem dM_reads_186 : decode cM_reads 186 = .ok (.aload_n 0, 1) := by decide +kernel
theorem dM_reads_187 : decode cM_reads 187 = .ok (.aload_n 0, 1) := by decide +kernel
theorem dM_reads_188 : decode cM_reads 188 = .ok (.getfield 188, 3) := by decide +kernel
theorem dM_reads_191 : decode cM_reads 191 = .ok (.sipush 10000, 3) := by decide +kernel
theorem dM_reads_194 : decode cM_reads 194 = .ok (.if_icmp .ge 25, 3) := by decide +kernel
theorem dM_reads_223 : decode cM_reads 223 = .ok (.putfield 188, 3) := by decide +kernel
theorem dM_reads_226 : decode cM_reads 226 = .ok (.aload_n 0, 1) := by decide +kernel
theorem dM_reads_227 : decode cM_reads 227 = .ok (.aload_n 0, 1) := by decide +kernel
theorem dM_reads_228 : decode cM_reads 228 = .ok (.getfield 175, 3) := by decide +kernel
theorem dM_reads_231 : decode cM_reads 231 = .ok (.iconst 1, 1) := by decide +kernel
theorem dM_reads_232 : decode cM_reads 232 = .ok (.iadd, 1) := by decide +kernel
theorem dM_reads_233 : decode cM_reads 233 = .ok (.putfield 175, 3) := by decide +kernel
theorem dM_reads_236 : decode cM_reads 236 = .ok (.goto (-65), 3) := by decide +kernel
theorem dM_reads_219 : decode cM_reads 219 = .ok (.aload_n 0, 1) := by decide +kernel
theorem dM_reads_220 : decode cM_reads 220 = .ok (.getfield 188, 3) := by decide +kernel
theorem dM_reads_197 : decode cM_reads 197 = .ok (.bipush 10, 2) := by decide +kernel
theorem dM_reads_199 : decode cM_reads 199 = .ok (.aload_n 0, 1) := by decide +kernel
theorem dM_reads_200 : decode cM_reads 200 = .ok (.getfield 188, 3) := by decide +kernel
theorem dM_reads_203 : decode cM_reads 203 = .ok (.imul, 1) := by decide +kernel
theorem dM_reads_204 : decode cM_reads 204 = .ok (.aload_n 0, 1) := by decide +kernel
theorem dM_reads_205 : decode cM_reads 205 = .ok (.aload_n 0, 1) := by decide +kernel
theorem dM_reads_206 : decode cM_reads 206 = .ok (.getfield 175, 3) := by decide +kernel
theorem dM_reads_209 : decode cM_reads 209 = .ok (.invokevirtual 178, 3) := by decide +kernel
theorem dM_reads_212 : decode cM_reads 212 = .ok (.iadd, 1) := by decide +kernel
theorem dM_reads_213 : decode cM_reads 213 = .ok (.bipush 48, 2) := by decide +kernel
theorem dM_reads_215 : decode cM_reads 215 = .ok (.isub, 1) := by decide +kernel
theorem dM_reads_216 : decode cM_reads 216 = .ok (.goto 7, 3) := by decide +kernel
theorem dM_reads_95 : decode cM_reads 95 = .ok (.aload_n 0, 1) := by decide +kernel
theorem dM_reads_96 : decode cM_reads 96 = .ok (.aload_n 0, 1) := by decide +kernel
theorem dM_reads_97 : decode cM_reads 97 = .ok (.aload_n 0, 1) := by decide +kernel
theorem dM_reads_98 : decode cM_reads 98 = .ok (.getfield 175, 3) := by decide +kernel
theorem dM_reads_101 : decode cM_reads 101 = .ok (.invokevirtual 178, 3) := by decide +kernel
theorem dM_reads_104 : decode cM_reads 104 = .ok (.invokevirtual 191, 3) := by decide +kernel
theorem dM_reads_107 : decode cM_reads 107 = .ok (.ifCond .eq 16, 3) := by decide +kernel
theorem dM_reads_123 : decode cM_reads 123 = .ok (.aload_n 0, 1) := by decide +kernel
theorem dM_reads_124 : decode cM_reads 124 = .ok (.aload_n 0, 1) := by decide +kernel
theorem dM_reads_125 : decode cM_reads 125 = .ok (.aload_n 0, 1) := by decide +kernel
theorem dM_reads_126 : decode cM_reads 126 = .ok (.getfield 182, 3) := by decide +kernel
theorem dM_reads_129 : decode cM_reads 129 = .ok (.aload_n 0, 1) := by decide +kernel
theorem dM_reads_130 : decode cM_reads 130 = .ok (.getfield 175, 3) := by decide +kernel
theorem dM_reads_133 : decode cM_reads 133 = .ok (.invokevirtual 194, 3) := by decide +kernel
theorem mm_M_wordAt : MMc yM_wordAt cM_wordAt 6 (some .int) 2 := ⟨hz_in 1694 (by decide +kernel) (by decide +kernel), hz_in 147 (by decide +kernel) (by decide +kernel), by decide +kernel, by decide⟩
theorem mv_M_wordAt : MMv yM_wordAt 12 := ⟨hz_in 1693 (by decide +kernel) (by decide +kernel), hz_in 59 (by decide +kernel) (by decide +kernel), _, _, rfl, by decide⟩
theorem ml_M_194 : Cond.methodLink "LastWordHillModel" 194 yM_wordAt ∈ hz_wt := hz_in 1691 (by decide +kernel) (by decide +kernel)
theorem dM_reads_136 : decode cM_reads 136 = .ok (.putfield 188, 3) := by decide +kernel
theorem dM_reads_139 : decode cM_reads 139 = .ok (.aload_n 0, 1) := by decide +kernel
theorem dM_reads_140 : decode cM_reads 140 = .ok (.getfield 188, 3) := by decide +kernel
theorem dM_reads_143 : decode cM_reads 143 = .ok (.iconst (-1), 1) := by decide +kernel
theorem dM_reads_144 : decode cM_reads 144 = .ok (.if_icmp .eq 129, 3) := by decide +kernel
theorem dM_reads_147 : decode cM_reads 147 = .ok (.aload_n 0, 1) := by decide +kernel
theorem dM_reads_148 : decode cM_reads 148 = .ok (.iconst 2, 1) := by decide +kernel
theorem dM_reads_149 : decode cM_reads 149 = .ok (.putfield 185, 3) := by decide +kernel
theorem dM_reads_152 : decode cM_reads 152 = .ok (.goto 121, 3) := by decide +kernel
theorem dM_reads_110 : decode cM_reads 110 = .ok (.aload_n 0, 1) := by decide +kernel
theorem dM_reads_111 : decode cM_reads 111 = .ok (.aload_n 0, 1) := by decide +kernel
theorem dM_reads_112 : decode cM_reads 112 = .ok (.getfield 175, 3) := by decide +kernel
theorem dM_reads_115 : decode cM_reads 115 = .ok (.iconst 1, 1) := by decide +kernel
theorem dM_reads_116 : decode cM_reads 116 = .ok (.iadd, 1) := by decide +kernel
theorem dM_reads_117 : decode cM_reads 117 = .ok (.putfield 175, 3) := by decide +kernel
theorem dM_reads_120 : decode cM_reads 120 = .ok (.goto (-25), 3) := by decide +kernel
theorem dM_reads_66 : decode cM_reads 66 = .ok (.aload_n 0, 1) := by decide +kernel
theorem dM_reads_67 : decode cM_reads 67 = .ok (.iconst 0, 1) := by decide +kernel
theorem dM_reads_68 : decode cM_reads 68 = .ok (.putfield 185, 3) := by decide +kernel
theorem dM_reads_71 : decode cM_reads 71 = .ok (.return_, 1) := by decide +kernel
def fM_reads (s0 : Sg) : Option (Sg) := lp FU (fun q0 (u0 : Unit) (s1 : Sg) => bi (fM_raw (s1 102 13) s1) fun r3 s2 => bnd (fun (s4 : Sg) => bnd (pt s4 102 13 ((s4 102 13) + 1)) fun s5 => q0 () s5) fun j26 => if r3 = 32 then (j26 s2) else (bi (fM_raw (s2 102 13) s2) fun r7 s6 => if r7 = 10 then (j26 s6) else (bnd (pt s6 102 14 (s6 102 13)) fun s8 => bnd (pt s8 102 15 1) fun s9 => bi (fM_raw (s9 102 13) s9) fun r11 s10 => if r11 = (-1) then (bnd (pt s10 102 15 0) fun s43 => some s43) else (bnd (pt s10 102 13 ((s10 102 13) + 1)) fun s12 => bnd (pt s12 102 16 r11) fun s13 => bi (fM_isLetter r11 s13) fun r15 s14 => if r15 = 0 then (bi (fM_isDigit r11 s14) fun r17 s16 => if r17 = 0 then (bi (fM_isMarkSign r11 s16) fun r19 s18 => if r19 = 0 then (some s18) else (bnd (pt s18 102 15 4) fun s20 => some s20)) else (bnd (pt s16 102 16 (r11 - 48)) fun s21 => lp FU (fun q171 (u171 : Unit) (s22 : Sg) => bi (fM_raw (s22 102 13) s22) fun r24 s23 => bi (fM_isDigit r24 s23) fun r26 s25 => if r26 = 0 then (if 5 ≤ ((s25 102 13) - (s25 102 14)) then (some s25) else (bnd (pt s25 102 15 3) fun s27 => some s27)) else (bnd (fun (b223_0 : Int32) (s28 : Sg) => bnd (pt s28 102 16 b223_0) fun s29 => bnd (pt s29 102 13 ((s29 102 13) + 1)) fun s30 => q171 () s30) fun j223 => if 10000 ≤ (s25 102 16) then (j223 (s25 102 16) s25) else (bi (fM_raw (s25 102 13) s25) fun r32 s31 => j223 (((10 * (s25 102 16)) + r32) - 48) s31))) () s21)) else (lp FU (fun q95 (u95 : Unit) (s33 : Sg) => bi (fM_raw (s33 102 13) s33) fun r35 s34 => bi (fM_isLetter r35 s34) fun r37 s36 => if r37 = 0 then (bi (fM_wordAt (s36 102 14) (s36 102 13) s36) fun r39 s38 => bnd (pt s38 102 16 r39) fun s40 => if (s40 102 16) = (-1) then (some s40) else (bnd (pt s40 102 15 2) fun s41 => some s41)) else (bnd (pt s36 102 13 ((s36 102 13) + 1)) fun s42 => q95 () s42)) () s14))))) () s0
set_option maxHeartbeats 4000000 in
set_option maxRecDepth 100000 in
theorem okM_reads (s0 : Sg) : ∀ (l : Launch) (w : WC), Ok l w yM_reads cM_reads 2 none 3 evV [.ref (w.ad 102)] s0 (fM_reads s0) := by
  refine ok_in (ev := fun _ => evV) (av := fun w => [.ref (w.ad 102)]) "LastWordHillModel" rfl (by decide +kernel) (fun _ => rfl) (fun _ => Nat.le_of_ble_eq_true rfl) ?_
  intro C X E
  show GF C evV 0 [some (.ref (C.w.ad 102)), none] [] s0 (fM_reads s0)
  unfold fM_reads
  refine gf_sub (L' := [some (.ref (C.w.ad 102)), none]) ?_ (by simp [lsub])
  refine gf_lp (Lf := fun (u0 : Unit) => [some (.ref (C.w.ad 102)), none]) (fun q0 hq0 u0 s1 => ?_) FU () s0
  refine g_aload_n X dM_reads_0 rfl ?_
  refine g_aload_n X dM_reads_1 rfl ?_
  refine g_getI X fl_M_175 fb_12_13 k_102 dM_reads_2 ?_
  refine g_virtI X [.int (s1 102 13)] [] k_102 mm_M_raw mv_M_raw ml_M_178 (okM_raw (s1 102 13) s1 C.l C.w) rfl (by decide) rfl (Nat.le_of_ble_eq_true rfl) dM_reads_5 (fun r3 s2 => ?_)
  refine g_bipush X 32 dM_reads_8 (by decide) ?_
  refine gf_jn (fun j26 => ∀ (s4 : Sg), GF C evV 26 [some (.ref (C.w.ad 102)), none] [] s4 (j26 s4)) ?_ ?_
  · intro s4
    refine g_aload_n X dM_reads_26 rfl ?_
    refine g_aload_n X dM_reads_27 rfl ?_
    refine g_getI X fl_M_175 fb_12_13 k_102 dM_reads_28 ?_
    refine g_iconst X 1 dM_reads_31 (by decide) ?_
    refine g_iadd X dM_reads_32 ?_
    refine g_putI X fl_M_175 fb_12_13 fp_12_13 k_102 dM_reads_33 (fun s5 => ?_)
    refine g_goto X 0 dM_reads_36 (by decide) ?_
    exact gf_sub (hq0 () s5) (by simp [lsub])
  · intro j26 hj26
    refine g_ceq X (tgt := 26) dM_reads_10 (by decide) ?_ ?_
    · exact gf_sub (hj26 s2) (by simp [lsub])
    · refine g_aload_n X dM_reads_13 rfl ?_
      refine g_aload_n X dM_reads_14 rfl ?_
      refine g_getI X fl_M_175 fb_12_13 k_102 dM_reads_15 ?_
      refine g_virtI X [.int (s2 102 13)] [] k_102 mm_M_raw mv_M_raw ml_M_178 (okM_raw (s2 102 13) s2 C.l C.w) rfl (by decide) rfl (Nat.le_of_ble_eq_true rfl) dM_reads_18 (fun r7 s6 => ?_)
      refine g_bipush X 10 dM_reads_21 (by decide) ?_
      refine g_cne X (tgt := 39) dM_reads_23 (by decide) ?_ ?_
      · exact gf_sub (hj26 s6) (by simp [lsub])
      · refine g_aload_n X dM_reads_39 rfl ?_
        refine g_aload_n X dM_reads_40 rfl ?_
        refine g_getI X fl_M_175 fb_12_13 k_102 dM_reads_41 ?_
        refine g_putI X fl_M_182 fb_12_14 fp_12_14 k_102 dM_reads_44 (fun s8 => ?_)
        refine g_aload_n X dM_reads_47 rfl ?_
        refine g_iconst X 1 dM_reads_48 (by decide) ?_
        refine g_putI X fl_M_185 fb_12_15 fp_12_15 k_102 dM_reads_49 (fun s9 => ?_)
        refine g_aload_n X dM_reads_52 rfl ?_
        refine g_aload_n X dM_reads_53 rfl ?_
        refine g_getI X fl_M_175 fb_12_13 k_102 dM_reads_54 ?_
        refine g_virtI X [.int (s9 102 13)] [] k_102 mm_M_raw mv_M_raw ml_M_178 (okM_raw (s9 102 13) s9 C.l C.w) rfl (by decide) rfl (Nat.le_of_ble_eq_true rfl) dM_reads_57 (fun r11 s10 => ?_)
        refine g_istore_n X [some (.ref (C.w.ad 102)), some (.int r11)] dM_reads_60 (by decide) (Nat.le_of_ble_eq_true rfl) rfl ?_
        refine g_iload_n X dM_reads_61 rfl ?_
        refine g_iconst X (-1) dM_reads_62 (by decide) ?_
        refine g_cne X (tgt := 72) dM_reads_63 (by decide) ?_ ?_
        · refine g_aload_n X dM_reads_66 rfl ?_
          refine g_iconst X 0 dM_reads_67 (by decide) ?_
          refine g_putI X fl_M_185 fb_12_15 fp_12_15 k_102 dM_reads_68 (fun s43 => ?_)
          exact g_vret X E dM_reads_71
        · refine g_aload_n X dM_reads_72 rfl ?_
          refine g_aload_n X dM_reads_73 rfl ?_
          refine g_getI X fl_M_175 fb_12_13 k_102 dM_reads_74 ?_
          refine g_iconst X 1 dM_reads_77 (by decide) ?_
          refine g_iadd X dM_reads_78 ?_
          refine g_putI X fl_M_175 fb_12_13 fp_12_13 k_102 dM_reads_79 (fun s12 => ?_)
          refine g_aload_n X dM_reads_82 rfl ?_
          refine g_iload_n X dM_reads_83 rfl ?_
          refine g_putI X fl_M_188 fb_12_16 fp_12_16 k_102 dM_reads_84 (fun s13 => ?_)
          refine g_aload_n X dM_reads_87 rfl ?_
          refine g_iload_n X dM_reads_88 rfl ?_
          refine g_virtI X [.int r11] [] k_102 mm_M_isLetter mv_M_isLetter ml_M_191 (okM_isLetter r11 s13 C.l C.w) rfl (by decide) rfl (Nat.le_of_ble_eq_true rfl) dM_reads_89 (fun r15 s14 => ?_)
          refine g_zeq X (tgt := 155) dM_reads_92 (by decide) ?_ ?_
          · refine g_aload_n X dM_reads_155 rfl ?_
            refine g_iload_n X dM_reads_156 rfl ?_
            refine g_virtI X [.int r11] [] k_102 mm_M_isDigit mv_M_isDigit ml_M_198 (okM_isDigit r11 s14 C.l C.w) rfl (by decide) rfl (Nat.le_of_ble_eq_true rfl) dM_reads_157 (fun r17 s16 => ?_)
            refine g_zeq X (tgt := 260) dM_reads_160 (by decide) ?_ ?_
            · refine g_aload_n X dM_reads_260 rfl ?_
              refine g_iload_n X dM_reads_261 rfl ?_
              refine g_virtI X [.int r11] [] k_102 mm_M_isMarkSign mv_M_isMarkSign ml_M_201 (okM_isMarkSign r11 s16 C.l C.w) rfl (by decide) rfl (Nat.le_of_ble_eq_true rfl) dM_reads_262 (fun r19 s18 => ?_)
              refine g_zeq X (tgt := 273) dM_reads_265 (by decide) ?_ ?_
              · exact g_vret X E dM_reads_273
              · refine g_aload_n X dM_reads_268 rfl ?_
                refine g_iconst X 4 dM_reads_269 (by decide) ?_
                refine g_putI X fl_M_185 fb_12_15 fp_12_15 k_102 dM_reads_270 (fun s20 => ?_)
                exact g_vret X E dM_reads_273
            · refine g_aload_n X dM_reads_163 rfl ?_
              refine g_iload_n X dM_reads_164 rfl ?_
              refine g_bipush X 48 dM_reads_165 (by decide) ?_
              refine g_isub X dM_reads_167 ?_
              refine g_putI X fl_M_188 fb_12_16 fp_12_16 k_102 dM_reads_168 (fun s21 => ?_)
              refine gf_sub (L' := [some (.ref (C.w.ad 102)), none]) ?_ (by simp [lsub])
              refine gf_lp (Lf := fun (u171 : Unit) => [some (.ref (C.w.ad 102)), none]) (fun q171 hq171 u171 s22 => ?_) FU () s21
              refine g_aload_n X dM_reads_171 rfl ?_
              refine g_aload_n X dM_reads_172 rfl ?_
              refine g_aload_n X dM_reads_173 rfl ?_
              refine g_getI X fl_M_175 fb_12_13 k_102 dM_reads_174 ?_
              refine g_virtI X [.int (s22 102 13)] [.ref (C.w.ad 102)] k_102 mm_M_raw mv_M_raw ml_M_178 (okM_raw (s22 102 13) s22 C.l C.w) rfl (by decide) rfl (Nat.le_of_ble_eq_true rfl) dM_reads_177 (fun r24 s23 => ?_)
              refine g_virtI X [.int r24] [] k_102 mm_M_isDigit mv_M_isDigit ml_M_198 (okM_isDigit r24 s23 C.l C.w) rfl (by decide) rfl (Nat.le_of_ble_eq_true rfl) dM_reads_180 (fun r26 s25 => ?_)
              refine g_zeq X (tgt := 239) dM_reads_183 (by decide) ?_ ?_
              · refine g_aload_n X dM_reads_239 rfl ?_
                refine g_getI X fl_M_175 fb_12_13 k_102 dM_reads_240 ?_
                refine g_aload_n X dM_reads_243 rfl ?_
                refine g_getI X fl_M_182 fb_12_14 k_102 dM_reads_244 ?_
                refine g_isub X dM_reads_247 ?_
                refine g_iconst X 5 dM_reads_248 (by decide) ?_
                refine g_cge X (tgt := 273) dM_reads_249 (by decide) ?_ ?_
                · exact g_vret X E dM_reads_273
                · refine g_aload_n X dM_reads_252 rfl ?_
                  refine g_iconst X 3 dM_reads_253 (by decide) ?_
                  refine g_putI X fl_M_185 fb_12_15 fp_12_15 k_102 dM_reads_254 (fun s27 => ?_)
                  refine g_goto X 273 dM_reads_257 (by decide) ?_
                  exact g_vret X E dM_reads_273
              · refine g_aload_n X dM_reads_186 rfl ?_
                refine g_aload_n X dM_reads_187 rfl ?_
                refine g_getI X fl_M_188 fb_12_16 k_102 dM_reads_188 ?_
                refine g_sipush X 10000 dM_reads_191 (by decide) ?_
                refine gf_jn (fun j223 => ∀ (b223_0 : Int32) (s28 : Sg), GF C evV 223 [some (.ref (C.w.ad 102)), none] [.int b223_0, .ref (C.w.ad 102)] s28 (j223 b223_0 s28)) ?_ ?_
                · intro b223_0 s28
                  refine g_putI X fl_M_188 fb_12_16 fp_12_16 k_102 dM_reads_223 (fun s29 => ?_)
                  refine g_aload_n X dM_reads_226 rfl ?_
                  refine g_aload_n X dM_reads_227 rfl ?_
                  refine g_getI X fl_M_175 fb_12_13 k_102 dM_reads_228 ?_
                  refine g_iconst X 1 dM_reads_231 (by decide) ?_
                  refine g_iadd X dM_reads_232 ?_
                  refine g_putI X fl_M_175 fb_12_13 fp_12_13 k_102 dM_reads_233 (fun s30 => ?_)
                  refine g_goto X 171 dM_reads_236 (by decide) ?_
                  exact gf_sub (hq171 () s30) (by simp [lsub])
                · intro j223 hj223
                  refine g_cge X (tgt := 219) dM_reads_194 (by decide) ?_ ?_
                  · refine g_aload_n X dM_reads_219 rfl ?_
                    refine g_getI X fl_M_188 fb_12_16 k_102 dM_reads_220 ?_
                    exact gf_sub (hj223 (s25 102 16) s25) (by simp [lsub])
                  · refine g_bipush X 10 dM_reads_197 (by decide) ?_
                    refine g_aload_n X dM_reads_199 rfl ?_
                    refine g_getI X fl_M_188 fb_12_16 k_102 dM_reads_200 ?_
                    refine g_imul X dM_reads_203 ?_
                    refine g_aload_n X dM_reads_204 rfl ?_
                    refine g_aload_n X dM_reads_205 rfl ?_
                    refine g_getI X fl_M_175 fb_12_13 k_102 dM_reads_206 ?_
                    refine g_virtI X [.int (s25 102 13)] [.int (10 * (s25 102 16)), .ref (C.w.ad 102)] k_102 mm_M_raw mv_M_raw ml_M_178 (okM_raw (s25 102 13) s25 C.l C.w) rfl (by decide) rfl (Nat.le_of_ble_eq_true rfl) dM_reads_209 (fun r32 s31 => ?_)
                    refine g_iadd X dM_reads_212 ?_
                    refine g_bipush X 48 dM_reads_213 (by decide) ?_
                    refine g_isub X dM_reads_215 ?_
                    refine g_goto X 223 dM_reads_216 (by decide) ?_
                    exact gf_sub (hj223 (((10 * (s25 102 16)) + r32) - 48) s31) (by simp [lsub])
          · refine gf_sub (L' := [some (.ref (C.w.ad 102)), none]) ?_ (by simp [lsub])
            refine gf_lp (Lf := fun (u95 : Unit) => [some (.ref (C.w.ad 102)), none]) (fun q95 hq95 u95 s33 => ?_) FU () s14
            refine g_aload_n X dM_reads_95 rfl ?_
            refine g_aload_n X dM_reads_96 rfl ?_
            refine g_aload_n X dM_reads_97 rfl ?_
            refine g_getI X fl_M_175 fb_12_13 k_102 dM_reads_98 ?_
            refine g_virtI X [.int (s33 102 13)] [.ref (C.w.ad 102)] k_102 mm_M_raw mv_M_raw ml_M_178 (okM_raw (s33 102 13) s33 C.l C.w) rfl (by decide) rfl (Nat.le_of_ble_eq_true rfl) dM_reads_101 (fun r35 s34 => ?_)
            refine g_virtI X [.int r35] [] k_102 mm_M_isLetter mv_M_isLetter ml_M_191 (okM_isLetter r35 s34 C.l C.w) rfl (by decide) rfl (Nat.le_of_ble_eq_true rfl) dM_reads_104 (fun r37 s36 => ?_)
            refine g_zeq X (tgt := 123) dM_reads_107 (by decide) ?_ ?_
            · refine g_aload_n X dM_reads_123 rfl ?_
              refine g_aload_n X dM_reads_124 rfl ?_
              refine g_aload_n X dM_reads_125 rfl ?_
              refine g_getI X fl_M_182 fb_12_14 k_102 dM_reads_126 ?_
              refine g_aload_n X dM_reads_129 rfl ?_
              refine g_getI X fl_M_175 fb_12_13 k_102 dM_reads_130 ?_
              refine g_virtI X [.int (s36 102 14), .int (s36 102 13)] [.ref (C.w.ad 102)] k_102 mm_M_wordAt mv_M_wordAt ml_M_194 (okM_wordAt (s36 102 14) (s36 102 13) s36 C.l C.w) rfl (by decide) rfl (Nat.le_of_ble_eq_true rfl) dM_reads_133 (fun r39 s38 => ?_)
              refine g_putI X fl_M_188 fb_12_16 fp_12_16 k_102 dM_reads_136 (fun s40 => ?_)
              refine g_aload_n X dM_reads_139 rfl ?_
              refine g_getI X fl_M_188 fb_12_16 k_102 dM_reads_140 ?_
              refine g_iconst X (-1) dM_reads_143 (by decide) ?_
              refine g_ceq X (tgt := 273) dM_reads_144 (by decide) ?_ ?_
              · exact g_vret X E dM_reads_273
              · refine g_aload_n X dM_reads_147 rfl ?_
                refine g_iconst X 2 dM_reads_148 (by decide) ?_
                refine g_putI X fl_M_185 fb_12_15 fp_12_15 k_102 dM_reads_149 (fun s41 => ?_)
                refine g_goto X 273 dM_reads_152 (by decide) ?_
                exact g_vret X E dM_reads_273
            · refine g_aload_n X dM_reads_110 rfl ?_
              refine g_aload_n X dM_reads_111 rfl ?_
              refine g_getI X fl_M_175 fb_12_13 k_102 dM_reads_112 ?_
              refine g_iconst X 1 dM_reads_115 (by decide) ?_
              refine g_iadd X dM_reads_116 ?_
              refine g_putI X fl_M_175 fb_12_13 fp_12_13 k_102 dM_reads_117 (fun s42 => ?_)
              refine g_goto X 95 dM_reads_120 (by decide) ?_
              exact gf_sub (hq95 () s42) (by simp [lsub])
def yM_errs : MethodName := ⟨"LastWordHillModel", "errs", "(I)I"⟩
abbrev cM_errs : ByteArray := prog_14_method_33_code
theorem dM_errs_0 : decode cM_errs 0 = .ok (.aload_n 0, 1) := by decide +kernel
theorem dM_errs_1 : decode cM_errs 1 = .ok (.iload_n 1, 1) := by decide +kernel
theorem dM_errs_2 : decode cM_errs 2 = .ok (.putfield 204, 3) := by decide +kernel
theorem fl_M_204 : FLk "LastWordHillModel" 204 12 30 := ⟨_, _, _, rfl, by decide, hz_in 1442 (by decide +kernel) (by decide +kernel), nL12, by decide, by decide⟩
theorem fb_12_30 : (hz_bs 12)[30]? = some false := by decide
theorem fp_12_30 : FLp 12 30 .int := ⟨_, _, _, _, rfl, nY12, nN12, by decide, by decide⟩
theorem dM_errs_5 : decode cM_errs 5 = .ok (.aload_n 0, 1) := by decide +kernel
theorem dM_errs_6 : decode cM_errs 6 = .ok (.aload_n 0, 1) := by decide +kernel
theorem dM_errs_7 : decode cM_errs 7 = .ok (.getfield 182, 3) := by decide +kernel
theorem dM_errs_10 : decode cM_errs 10 = .ok (.putfield 207, 3) := by decide +kernel
theorem fl_M_207 : FLk "LastWordHillModel" 207 12 31 := ⟨_, _, _, rfl, by decide, hz_in 1443 (by decide +kernel) (by decide +kernel), nL12, by decide, by decide⟩
theorem fb_12_31 : (hz_bs 12)[31]? = some false := by decide
theorem fp_12_31 : FLp 12 31 .int := ⟨_, _, _, _, rfl, nY12, nN12, by decide, by decide⟩
theorem dM_errs_13 : decode cM_errs 13 = .ok (.iconst (-1), 1) := by decide +kernel
theorem dM_errs_14 : decode cM_errs 14 = .ok (.ireturn, 1) := by decide +kernel
def fM_errs (v1 : Int32) (s0 : Sg) : Option (Int32 × Sg) := bnd (pt s0 102 30 v1) fun s1 => bnd (pt s1 102 31 (s1 102 14)) fun s2 => some ((-1), s2)
set_option maxHeartbeats 4000000 in
set_option maxRecDepth 100000 in
theorem okM_errs (v1 : Int32) (s0 : Sg) : ∀ (l : Launch) (w : WC), Ok l w yM_errs cM_errs 2 (some .int) 1 evI [.ref (w.ad 102), .int v1] s0 (fM_errs v1 s0) := by
  refine ok_in (ev := fun _ => evI) (av := fun w => [.ref (w.ad 102), .int v1]) "LastWordHillModel" rfl (by decide +kernel) (fun _ => rfl) (fun _ => Nat.le_of_ble_eq_true rfl) ?_
  intro C X E
  show GF C evI 0 [some (.ref (C.w.ad 102)), some (.int v1)] [] s0 (fM_errs v1 s0)
  unfold fM_errs
  refine g_aload_n X dM_errs_0 rfl ?_
  refine g_iload_n X dM_errs_1 rfl ?_
  refine g_putI X fl_M_204 fb_12_30 fp_12_30 k_102 dM_errs_2 (fun s1 => ?_)
  refine g_aload_n X dM_errs_5 rfl ?_
  refine g_aload_n X dM_errs_6 rfl ?_
  refine g_getI X fl_M_182 fb_12_14 k_102 dM_errs_7 ?_
  refine g_putI X fl_M_207 fb_12_31 fp_12_31 k_102 dM_errs_10 (fun s2 => ?_)
  refine g_iconst X (-1) dM_errs_13 (by decide) ?_
  exact g_iret X E dM_errs_14
def yM_isWord : MethodName := ⟨"LastWordHillModel", "isWord", "(I)Z"⟩
abbrev cM_isWord : ByteArray := prog_14_method_34_code
theorem dM_isWord_0 : decode cM_isWord 0 = .ok (.aload_n 0, 1) := by decide +kernel
theorem dM_isWord_1 : decode cM_isWord 1 = .ok (.getfield 185, 3) := by decide +kernel
theorem dM_isWord_4 : decode cM_isWord 4 = .ok (.iconst 2, 1) := by decide +kernel
theorem dM_isWord_5 : decode cM_isWord 5 = .ok (.if_icmp .ne 15, 3) := by decide +kernel
theorem dM_isWord_20 : decode cM_isWord 20 = .ok (.iconst 0, 1) := by decide +kernel
theorem dM_isWord_21 : decode cM_isWord 21 = .ok (.ireturn, 1) := by decide +kernel
theorem dM_isWord_8 : decode cM_isWord 8 = .ok (.aload_n 0, 1) := by decide +kernel
theorem dM_isWord_9 : decode cM_isWord 9 = .ok (.getfield 188, 3) := by decide +kernel
theorem dM_isWord_12 : decode cM_isWord 12 = .ok (.iload_n 1, 1) := by decide +kernel
theorem dM_isWord_13 : decode cM_isWord 13 = .ok (.if_icmp .ne 7, 3) := by decide +kernel
theorem dM_isWord_16 : decode cM_isWord 16 = .ok (.iconst 1, 1) := by decide +kernel
theorem dM_isWord_17 : decode cM_isWord 17 = .ok (.goto 4, 3) := by decide +kernel
def fM_isWord (v1 : Int32) (s0 : Sg) : Option (Int32 × Sg) := if (s0 102 15) = 2 then (if (s0 102 16) = v1 then (gb 1 (some (1, s0))) else (gb 0 (some (0, s0)))) else (gb 0 (some (0, s0)))
set_option maxHeartbeats 4000000 in
set_option maxRecDepth 100000 in
theorem okM_isWord (v1 : Int32) (s0 : Sg) : ∀ (l : Launch) (w : WC), Ok l w yM_isWord cM_isWord 2 (some .boolean) 1 evI [.ref (w.ad 102), .int v1] s0 (fM_isWord v1 s0) := by
  refine ok_in (ev := fun _ => evI) (av := fun w => [.ref (w.ad 102), .int v1]) "LastWordHillModel" rfl (by decide +kernel) (fun _ => rfl) (fun _ => Nat.le_of_ble_eq_true rfl) ?_
  intro C X E
  show GF C evI 0 [some (.ref (C.w.ad 102)), some (.int v1)] [] s0 (fM_isWord v1 s0)
  unfold fM_isWord
  refine g_aload_n X dM_isWord_0 rfl ?_
  refine g_getI X fl_M_185 fb_12_15 k_102 dM_isWord_1 ?_
  refine g_iconst X 2 dM_isWord_4 (by decide) ?_
  refine g_cne X (tgt := 20) dM_isWord_5 (by decide) ?_ ?_
  · refine g_aload_n X dM_isWord_8 rfl ?_
    refine g_getI X fl_M_188 fb_12_16 k_102 dM_isWord_9 ?_
    refine g_iload_n X dM_isWord_12 rfl ?_
    refine g_cne X (tgt := 20) dM_isWord_13 (by decide) ?_ ?_
    · refine g_iconst X 1 dM_isWord_16 (by decide) ?_
      refine g_goto X 21 dM_isWord_17 (by decide) ?_
      exact g_zret X E dM_isWord_21
    · refine g_iconst X 0 dM_isWord_20 (by decide) ?_
      exact g_zret X E dM_isWord_21
  · refine g_iconst X 0 dM_isWord_20 (by decide) ?_
    exact g_zret X E dM_isWord_21
def yM_isSign : MethodName := ⟨"LastWordHillModel", "isSign", "(I)Z"⟩
abbrev cM_isSign : ByteArray := prog_14_method_35_code
theorem dM_isSign_0 : decode cM_isSign 0 = .ok (.aload_n 0, 1) := by decide +kernel
theorem dM_isSign_1 : decode cM_isSign 1 = .ok (.getfield 185, 3) := by decide +kernel
theorem dM_isSign_4 : decode cM_isSign 4 = .ok (.iconst 4, 1) := by decide +kernel
theorem dM_isSign_5 : decode cM_isSign 5 = .ok (.if_icmp .ne 15, 3) := by decide +kernel
theorem dM_isSign_20 : decode cM_isSign 20 = .ok (.iconst 0, 1) := by decide +kernel
theorem dM_isSign_21 : decode cM_isSign 21 = .ok (.ireturn, 1) := by decide +kernel
theorem dM_isSign_8 : decode cM_isSign 8 = .ok (.aload_n 0, 1) := by decide +kernel
theorem dM_isSign_9 : decode cM_isSign 9 = .ok (.getfield 188, 3) := by decide +kernel
theorem dM_isSign_12 : decode cM_isSign 12 = .ok (.iload_n 1, 1) := by decide +kernel
theorem dM_isSign_13 : decode cM_isSign 13 = .ok (.if_icmp .ne 7, 3) := by decide +kernel
theorem dM_isSign_16 : decode cM_isSign 16 = .ok (.iconst 1, 1) := by decide +kernel
theorem dM_isSign_17 : decode cM_isSign 17 = .ok (.goto 4, 3) := by decide +kernel
def fM_isSign (v1 : Int32) (s0 : Sg) : Option (Int32 × Sg) := if (s0 102 15) = 4 then (if (s0 102 16) = v1 then (gb 1 (some (1, s0))) else (gb 0 (some (0, s0)))) else (gb 0 (some (0, s0)))
set_option maxHeartbeats 4000000 in
set_option maxRecDepth 100000 in
theorem okM_isSign (v1 : Int32) (s0 : Sg) : ∀ (l : Launch) (w : WC), Ok l w yM_isSign cM_isSign 2 (some .boolean) 1 evI [.ref (w.ad 102), .int v1] s0 (fM_isSign v1 s0) := by
  refine ok_in (ev := fun _ => evI) (av := fun w => [.ref (w.ad 102), .int v1]) "LastWordHillModel" rfl (by decide +kernel) (fun _ => rfl) (fun _ => Nat.le_of_ble_eq_true rfl) ?_
  intro C X E
  show GF C evI 0 [some (.ref (C.w.ad 102)), some (.int v1)] [] s0 (fM_isSign v1 s0)
  unfold fM_isSign
  refine g_aload_n X dM_isSign_0 rfl ?_
  refine g_getI X fl_M_185 fb_12_15 k_102 dM_isSign_1 ?_
  refine g_iconst X 4 dM_isSign_4 (by decide) ?_
  refine g_cne X (tgt := 20) dM_isSign_5 (by decide) ?_ ?_
  · refine g_aload_n X dM_isSign_8 rfl ?_
    refine g_getI X fl_M_188 fb_12_16 k_102 dM_isSign_9 ?_
    refine g_iload_n X dM_isSign_12 rfl ?_
    refine g_cne X (tgt := 20) dM_isSign_13 (by decide) ?_ ?_
    · refine g_iconst X 1 dM_isSign_16 (by decide) ?_
      refine g_goto X 21 dM_isSign_17 (by decide) ?_
      exact g_zret X E dM_isSign_21
    · refine g_iconst X 0 dM_isSign_20 (by decide) ?_
      exact g_zret X E dM_isSign_21
  · refine g_iconst X 0 dM_isSign_20 (by decide) ?_
    exact g_zret X E dM_isSign_21
def yM_emits : MethodName := ⟨"LastWordHillModel", "emits", "(II)V"⟩
abbrev cM_emits : ByteArray := prog_14_method_36_code
theorem dM_emits_0 : decode cM_emits 0 = .ok (.aload_n 0, 1) := by decide +kernel
theorem dM_emits_1 : decode cM_emits 1 = .ok (.getfield 52, 3) := by decide +kernel
theorem fl_M_52 : FLk "LastWordHillModel" 52 12 23 := ⟨_, _, _, rfl, by decide, hz_in 1435 (by decide +kernel) (by decide +kernel), nL12, by decide, by decide⟩
theorem k_117 : hz_kd 117 = 13 := by decide
theorem fb_12_23 : (hz_bs 12)[23]? = some true := by decide
theorem r_102_23 : hz_rf 102 23 = 117 := by decide
theorem dM_emits_4 : decode cM_emits 4 = .ok (.sipush 800, 3) := by decide +kernel
theorem dM_emits_7 : decode cM_emits 7 = .ok (.aload_n 0, 1) := by decide +kernel
theorem dM_emits_8 : decode cM_emits 8 = .ok (.getfield 210, 3) := by decide +kernel
theorem fl_M_210 : FLk "LastWordHillModel" 210 12 26 := ⟨_, _, _, rfl, by decide, hz_in 1438 (by decide +kernel) (by decide +kernel), nL12, by decide, by decide⟩
theorem fb_12_26 : (hz_bs 12)[26]? = some false := by decide
theorem dM_emits_11 : decode cM_emits 11 = .ok (.iadd, 1) := by decide +kernel
theorem dM_emits_12 : decode cM_emits 12 = .ok (.iload_n 1, 1) := by decide +kernel
theorem dM_emits_13 : decode cM_emits 13 = .ok (.iastore, 1) := by decide +kernel
theorem ln_117 : hz_ln 117 = 1200 := by decide
theorem dM_emits_14 : decode cM_emits 14 = .ok (.aload_n 0, 1) := by decide +kernel
theorem dM_emits_15 : decode cM_emits 15 = .ok (.getfield 55, 3) := by decide +kernel
theorem fl_M_55 : FLk "LastWordHillModel" 55 12 24 := ⟨_, _, _, rfl, by decide, hz_in 1436 (by decide +kernel) (by decide +kernel), nL12, by decide, by decide⟩
theorem k_118 : hz_kd 118 = 13 := by decide
theorem fb_12_24 : (hz_bs 12)[24]? = some true := by decide
theorem r_102_24 : hz_rf 102 24 = 118 := by decide
theorem dM_emits_18 : decode cM_emits 18 = .ok (.sipush 800, 3) := by decide +kernel
theorem dM_emits_21 : decode cM_emits 21 = .ok (.aload_n 0, 1) := by decide +kernel
theorem dM_emits_22 : decode cM_emits 22 = .ok (.getfield 210, 3) := by decide +kernel
theorem dM_emits_25 : decode cM_emits 25 = .ok (.iadd, 1) := by decide +kernel
theorem dM_emits_26 : decode cM_emits 26 = .ok (.iload_n 2, 1) := by decide +kernel
theorem dM_emits_27 : decode cM_emits 27 = .ok (.iastore, 1) := by decide +kernel
theorem ln_118 : hz_ln 118 = 1200 := by decide
theorem dM_emits_28 : decode cM_emits 28 = .ok (.aload_n 0, 1) := by decide +kernel
theorem dM_emits_29 : decode cM_emits 29 = .ok (.aload_n 0, 1) := by decide +kernel
theorem dM_emits_30 : decode cM_emits 30 = .ok (.getfield 210, 3) := by decide +kernel
theorem dM_emits_33 : decode cM_emits 33 = .ok (.iconst 1, 1) := by decide +kernel
theorem dM_emits_34 : decode cM_emits 34 = .ok (.iadd, 1) := by decide +kernel
theorem dM_emits_35 : decode cM_emits 35 = .ok (.putfield 210, 3) := by decide +kernel
theorem fp_12_26 : FLp 12 26 .int := ⟨_, _, _, _, rfl, nY12, nN12, by decide, by decide⟩
theorem dM_emits_38 : decode cM_emits 38 = .ok (.return_, 1) := by decide +kernel
def fM_emits (v1 : Int32) (v2 : Int32) (s0 : Sg) : Option (Sg) := gd (800 + (s0 102 26)) 1200 (bnd (pt s0 117 (ix (800 + (s0 102 26))) v1) fun s1 => gd (800 + (s1 102 26)) 1200 (bnd (pt s1 118 (ix (800 + (s1 102 26))) v2) fun s2 => bnd (pt s2 102 26 ((s2 102 26) + 1)) fun s3 => some s3))
set_option maxHeartbeats 4000000 in
set_option maxRecDepth 100000 in
theorem okM_emits (v1 : Int32) (v2 : Int32) (s0 : Sg) : ∀ (l : Launch) (w : WC), Ok l w yM_emits cM_emits 3 none 1 evV [.ref (w.ad 102), .int v1, .int v2] s0 (fM_emits v1 v2 s0) := by
  refine ok_in (ev := fun _ => evV) (av := fun w => [.ref (w.ad 102), .int v1, .int v2]) "LastWordHillModel" rfl (by decide +kernel) (fun _ => rfl) (fun _ => Nat.le_of_ble_eq_true rfl) ?_
  intro C X E
  show GF C evV 0 [some (.ref (C.w.ad 102)), some (.int v1), some (.int v2)] [] s0 (fM_emits v1 v2 s0)
  unfold fM_emits
  refine g_aload_n X dM_emits_0 rfl ?_
  refine g_getN X fl_M_52 fb_12_23 k_102 r_102_23 dM_emits_1 ?_
  refine g_sipush X 800 dM_emits_4 (by decide) ?_
  refine g_aload_n X dM_emits_7 rfl ?_
  refine g_getI X fl_M_210 fb_12_26 k_102 dM_emits_8 ?_
  refine g_iadd X dM_emits_11 ?_
  refine g_iload_n X dM_emits_12 rfl ?_
  refine g_iast X k_117 ln_117 dM_emits_13 (fun s1 => ?_)
  refine g_aload_n X dM_emits_14 rfl ?_
  refine g_getN X fl_M_55 fb_12_24 k_102 r_102_24 dM_emits_15 ?_
  refine g_sipush X 800 dM_emits_18 (by decide) ?_
  refine g_aload_n X dM_emits_21 rfl ?_
  refine g_getI X fl_M_210 fb_12_26 k_102 dM_emits_22 ?_
  refine g_iadd X dM_emits_25 ?_
  refine g_iload_n X dM_emits_26 rfl ?_
  refine g_iast X k_118 ln_118 dM_emits_27 (fun s2 => ?_)
  refine g_aload_n X dM_emits_28 rfl ?_
  refine g_aload_n X dM_emits_29 rfl ?_
  refine g_getI X fl_M_210 fb_12_26 k_102 dM_emits_30 ?_
  refine g_iconst X 1 dM_emits_33 (by decide) ?_
  refine g_iadd X dM_emits_34 ?_
  refine g_putI X fl_M_210 fb_12_26 fp_12_26 k_102 dM_emits_35 (fun s3 => ?_)
  exact g_vret X E dM_emits_38
def yM_canAsk : MethodName := ⟨"LastWordHillModel", "canAsk", "(I)Z"⟩
abbrev cM_canAsk : ByteArray := prog_14_method_37_code
theorem dM_canAsk_0 : decode cM_canAsk 0 = .ok (.aload_n 0, 1) := by decide +kernel
theorem dM_canAsk_1 : decode cM_canAsk 1 = .ok (.iload_n 1, 1) := by decide +kernel
theorem dM_canAsk_2 : decode cM_canAsk 2 = .ok (.bipush 7, 2) := by decide +kernel
theorem dM_canAsk_4 : decode cM_canAsk 4 = .ok (.bipush 15, 2) := by decide +kernel
theorem dM_canAsk_6 : decode cM_canAsk 6 = .ok (.invokevirtual 153, 3) := by decide +kernel
theorem dM_canAsk_9 : decode cM_canAsk 9 = .ok (.ireturn, 1) := by decide +kernel
def fM_canAsk (v1 : Int32) (s0 : Sg) : Option (Int32 × Sg) := bi (fM_isIn v1 7 15 s0) fun r2 s1 => gb r2 (some (r2, s1))
set_option maxHeartbeats 4000000 in
set_option maxRecDepth 100000 in
theorem okM_canAsk (v1 : Int32) (s0 : Sg) : ∀ (l : Launch) (w : WC), Ok l w yM_canAsk cM_canAsk 2 (some .boolean) 2 evI [.ref (w.ad 102), .int v1] s0 (fM_canAsk v1 s0) := by
  refine ok_in (ev := fun _ => evI) (av := fun w => [.ref (w.ad 102), .int v1]) "LastWordHillModel" rfl (by decide +kernel) (fun _ => rfl) (fun _ => Nat.le_of_ble_eq_true rfl) ?_
  intro C X E
  show GF C evI 0 [some (.ref (C.w.ad 102)), some (.int v1)] [] s0 (fM_canAsk v1 s0)
  unfold fM_canAsk
  refine g_aload_n X dM_canAsk_0 rfl ?_
  refine g_iload_n X dM_canAsk_1 rfl ?_
  refine g_bipush X 7 dM_canAsk_2 (by decide) ?_
  refine g_bipush X 15 dM_canAsk_4 (by decide) ?_
  refine g_virtI X [.int v1, .int 7, .int 15] [] k_102 mm_M_isIn mv_M_isIn ml_M_153 (okM_isIn v1 7 15 s0 C.l C.w) rfl (by decide) rfl (Nat.le_of_ble_eq_true rfl) dM_canAsk_6 (fun r2 s1 => ?_)
  exact g_zret X E dM_canAsk_9
def yM_readUnit : MethodName := ⟨"LastWordHillModel", "readUnit", "()I"⟩
abbrev cM_readUnit : ByteArray := prog_14_method_38_code
theorem dM_readUnit_0 : decode cM_readUnit 0 = .ok (.aload_n 0, 1) := by decide +kernel
theorem dM_readUnit_1 : decode cM_readUnit 1 = .ok (.getfield 185, 3) := by decide +kernel
theorem dM_readUnit_4 : decode cM_readUnit 4 = .ok (.iconst 2, 1) := by decide +kernel
theorem dM_readUnit_5 : decode cM_readUnit 5 = .ok (.if_icmp .ne 18, 3) := by decide +kernel
theorem dM_readUnit_24 : decode cM_readUnit 24 = .ok (.istore_n 1, 1) := by decide +kernel
theorem dM_readUnit_25 : decode cM_readUnit 25 = .ok (.iload_n 1, 1) := by decide +kernel
theorem dM_readUnit_26 : decode cM_readUnit 26 = .ok (.ifCond .ne 17, 3) := by decide +kernel
theorem dM_readUnit_43 : decode cM_readUnit 43 = .ok (.aload_n 0, 1) := by decide +kernel
theorem dM_readUnit_44 : decode cM_readUnit 44 = .ok (.iload_n 1, 1) := by decide +kernel
theorem dM_readUnit_45 : decode cM_readUnit 45 = .ok (.ifCond .eq 7, 3) := by decide +kernel
theorem dM_readUnit_53 : decode cM_readUnit 53 = .ok (.iload_n 1, 1) := by decide +kernel
theorem dM_readUnit_54 : decode cM_readUnit 54 = .ok (.ifCond .eq 13, 3) := by decide +kernel
theorem dM_readUnit_71 : decode cM_readUnit 71 = .ok (.invokevirtual 219, 3) := by decide +kernel
theorem mm_M_emits : MMc yM_emits cM_emits 3 none 2 := ⟨hz_in 1774 (by decide +kernel) (by decide +kernel), hz_in 147 (by decide +kernel) (by decide +kernel), by decide +kernel, by decide⟩
theorem mv_M_emits : MMv yM_emits 12 := ⟨hz_in 1773 (by decide +kernel) (by decide +kernel), hz_in 79 (by decide +kernel) (by decide +kernel), _, _, rfl, by decide⟩
theorem ml_M_219 : Cond.methodLink "LastWordHillModel" 219 yM_emits ∈ hz_wt := hz_in 1771 (by decide +kernel) (by decide +kernel)
theorem dM_readUnit_74 : decode cM_readUnit 74 = .ok (.aload_n 0, 1) := by decide +kernel
theorem dM_readUnit_75 : decode cM_readUnit 75 = .ok (.invokevirtual 222, 3) := by decide +kernel
theorem mm_M_reads : MMc yM_reads cM_reads 2 none 0 := ⟨hz_in 1682 (by decide +kernel) (by decide +kernel), hz_in 147 (by decide +kernel) (by decide +kernel), by decide +kernel, by decide⟩
theorem mv_M_reads : MMv yM_reads 12 := ⟨hz_in 1681 (by decide +kernel) (by decide +kernel), hz_in 56 (by decide +kernel) (by decide +kernel), _, _, rfl, by decide⟩
theorem ml_M_222 : Cond.methodLink "LastWordHillModel" 222 yM_reads ∈ hz_wt := hz_in 1679 (by decide +kernel) (by decide +kernel)
theorem dM_readUnit_78 : decode cM_readUnit 78 = .ok (.iconst 0, 1) := by decide +kernel
theorem dM_readUnit_79 : decode cM_readUnit 79 = .ok (.ireturn, 1) := by decide +kernel
theorem dM_readUnit_67 : decode cM_readUnit 67 = .ok (.aload_n 0, 1) := by decide +kernel
theorem dM_readUnit_68 : decode cM_readUnit 68 = .ok (.getfield 188, 3) := by decide +kernel
theorem dM_readUnit_57 : decode cM_readUnit 57 = .ok (.aload_n 0, 1) := by decide +kernel
theorem dM_readUnit_58 : decode cM_readUnit 58 = .ok (.getfield 188, 3) := by decide +kernel
theorem dM_readUnit_61 : decode cM_readUnit 61 = .ok (.bipush 7, 2) := by decide +kernel
theorem dM_readUnit_63 : decode cM_readUnit 63 = .ok (.isub, 1) := by decide +kernel
theorem dM_readUnit_64 : decode cM_readUnit 64 = .ok (.goto 7, 3) := by decide +kernel
theorem dM_readUnit_52 : decode cM_readUnit 52 = .ok (.iconst 0, 1) := by decide +kernel
theorem dM_readUnit_48 : decode cM_readUnit 48 = .ok (.iconst 1, 1) := by decide +kernel
theorem dM_readUnit_49 : decode cM_readUnit 49 = .ok (.goto 4, 3) := by decide +kernel
theorem dM_readUnit_29 : decode cM_readUnit 29 = .ok (.aload_n 0, 1) := by decide +kernel
theorem dM_readUnit_30 : decode cM_readUnit 30 = .ok (.getfield 185, 3) := by decide +kernel
theorem dM_readUnit_33 : decode cM_readUnit 33 = .ok (.iconst 3, 1) := by decide +kernel
theorem dM_readUnit_34 : decode cM_readUnit 34 = .ok (.if_icmp .eq 9, 3) := by decide +kernel
theorem dM_readUnit_37 : decode cM_readUnit 37 = .ok (.aload_n 0, 1) := by decide +kernel
theorem dM_readUnit_38 : decode cM_readUnit 38 = .ok (.iconst 1, 1) := by decide +kernel
theorem dM_readUnit_39 : decode cM_readUnit 39 = .ok (.invokevirtual 216, 3) := by decide +kernel
theorem mm_M_errs : MMc yM_errs cM_errs 2 (some .int) 1 := ⟨hz_in 1714 (by decide +kernel) (by decide +kernel), hz_in 147 (by decide +kernel) (by decide +kernel), by decide +kernel, by decide⟩
theorem mv_M_errs : MMv yM_errs 12 := ⟨hz_in 1713 (by decide +kernel) (by decide +kernel), hz_in 64 (by decide +kernel) (by decide +kernel), _, _, rfl, by decide⟩
theorem ml_M_216 : Cond.methodLink "LastWordHillModel" 216 yM_errs ∈ hz_wt := hz_in 1711 (by decide +kernel) (by decide +kernel)
theorem dM_readUnit_42 : decode cM_readUnit 42 = .ok (.ireturn, 1) := by decide +kernel
theorem dM_readUnit_23 : decode cM_readUnit 23 = .ok (.iconst 0, 1) := by decide +kernel
theorem dM_readUnit_8 : decode cM_readUnit 8 = .ok (.aload_n 0, 1) := by decide +kernel
theorem dM_readUnit_9 : decode cM_readUnit 9 = .ok (.aload_n 0, 1) := by decide +kernel
theorem dM_readUnit_10 : decode cM_readUnit 10 = .ok (.getfield 188, 3) := by decide +kernel
theorem dM_readUnit_13 : decode cM_readUnit 13 = .ok (.invokevirtual 213, 3) := by decide +kernel
theorem mm_M_canAsk : MMc yM_canAsk cM_canAsk 2 (some .boolean) 1 := ⟨hz_in 1770 (by decide +kernel) (by decide +kernel), hz_in 147 (by decide +kernel) (by decide +kernel), by decide +kernel, by decide⟩
theorem mv_M_canAsk : MMv yM_canAsk 12 := ⟨hz_in 1769 (by decide +kernel) (by decide +kernel), hz_in 78 (by decide +kernel) (by decide +kernel), _, _, rfl, by decide⟩
theorem ml_M_213 : Cond.methodLink "LastWordHillModel" 213 yM_canAsk ∈ hz_wt := hz_in 1767 (by decide +kernel) (by decide +kernel)
theorem dM_readUnit_16 : decode cM_readUnit 16 = .ok (.ifCond .eq 7, 3) := by decide +kernel
theorem dM_readUnit_19 : decode cM_readUnit 19 = .ok (.iconst 1, 1) := by decide +kernel
theorem dM_readUnit_20 : decode cM_readUnit 20 = .ok (.goto 4, 3) := by decide +kernel
def fM_readUnit (s0 : Sg) : Option (Int32 × Sg) := bnd (fun (b24_0 : Int32) (s1 : Sg) => bnd (fun (s2 : Sg) => bnd (fun (b53_0 : Int32) (s3 : Sg) => bnd (fun (b71_0 : Int32) (s4 : Sg) => bv (fM_emits b53_0 b71_0 s4) fun s5 => bv (fM_reads s5) fun s6 => some (0, s6)) fun j71 => if b24_0 = 0 then (j71 (s3 102 16) s3) else (j71 ((s3 102 16) - 7) s3)) fun j53 => if b24_0 = 0 then (j53 0 s2) else (j53 1 s2)) fun j43 => if b24_0 = 0 then (if (s1 102 15) = 3 then (j43 s1) else (bi (fM_errs 1 s1) fun r8 s7 => some (r8, s7))) else (j43 s1)) fun j24 => bnd (fun (s9 : Sg) => j24 0 s9) fun j23 => if (s0 102 15) = 2 then (bi (fM_canAsk (s0 102 16) s0) fun r11 s10 => if r11 = 0 then (j23 s10) else (j24 1 s10)) else (j23 s0)
set_option maxHeartbeats 4000000 in
set_option maxRecDepth 100000 in
theorem okM_readUnit (s0 : Sg) : ∀ (l : Launch) (w : WC), Ok l w yM_readUnit cM_readUnit 2 (some .int) 4 evI [.ref (w.ad 102)] s0 (fM_readUnit s0) := by
  refine ok_in (ev := fun _ => evI) (av := fun w => [.ref (w.ad 102)]) "LastWordHillModel" rfl (by decide +kernel) (fun _ => rfl) (fun _ => Nat.le_of_ble_eq_true rfl) ?_
  intro C X E
  show GF C evI 0 [some (.ref (C.w.ad 102)), none] [] s0 (fM_readUnit s0)
  unfold fM_readUnit
  refine g_aload_n X dM_readUnit_0 rfl ?_
  refine g_getI X fl_M_185 fb_12_15 k_102 dM_readUnit_1 ?_
  refine g_iconst X 2 dM_readUnit_4 (by decide) ?_
  refine gf_jn (fun j24 => ∀ (b24_0 : Int32) (s1 : Sg), GF C evI 24 [some (.ref (C.w.ad 102)), none] [.int b24_0] s1 (j24 b24_0 s1)) ?_ ?_
  · intro b24_0 s1
    refine g_istore_n X [some (.ref (C.w.ad 102)), some (.int b24_0)] dM_readUnit_24 (by decide) (Nat.le_of_ble_eq_true rfl) rfl ?_
    refine g_iload_n X dM_readUnit_25 rfl ?_
    refine gf_jn (fun j43 => ∀ (s2 : Sg), GF C evI 43 [some (.ref (C.w.ad 102)), some (.int b24_0)] [] s2 (j43 s2)) ?_ ?_
    · intro s2
      refine g_aload_n X dM_readUnit_43 rfl ?_
      refine g_iload_n X dM_readUnit_44 rfl ?_
      refine gf_jn (fun j53 => ∀ (b53_0 : Int32) (s3 : Sg), GF C evI 53 [some (.ref (C.w.ad 102)), some (.int b24_0)] [.int b53_0, .ref (C.w.ad 102)] s3 (j53 b53_0 s3)) ?_ ?_
      · intro b53_0 s3
        refine g_iload_n X dM_readUnit_53 rfl ?_
        refine gf_jn (fun j71 => ∀ (b71_0 : Int32) (s4 : Sg), GF C evI 71 [some (.ref (C.w.ad 102)), none] [.int b71_0, .int b53_0, .ref (C.w.ad 102)] s4 (j71 b71_0 s4)) ?_ ?_
        · intro b71_0 s4
          refine g_virtV X [.int b53_0, .int b71_0] [] k_102 mm_M_emits mv_M_emits ml_M_219 (okM_emits b53_0 b71_0 s4 C.l C.w) rfl (by decide) rfl (Nat.le_of_ble_eq_true rfl) dM_readUnit_71 (fun s5 => ?_)
          refine g_aload_n X dM_readUnit_74 rfl ?_
          refine g_virtV X [] [] k_102 mm_M_reads mv_M_reads ml_M_222 (okM_reads s5 C.l C.w) rfl (by decide) rfl (Nat.le_of_ble_eq_true rfl) dM_readUnit_75 (fun s6 => ?_)
          refine g_iconst X 0 dM_readUnit_78 (by decide) ?_
          exact g_iret X E dM_readUnit_79
        · intro j71 hj71
          refine g_zeq X (tgt := 67) dM_readUnit_54 (by decide) ?_ ?_
          · refine g_aload_n X dM_readUnit_67 rfl ?_
            refine g_getI X fl_M_188 fb_12_16 k_102 dM_readUnit_68 ?_
            exact gf_sub (hj71 (s3 102 16) s3) (by simp [lsub])
          · refine g_aload_n X dM_readUnit_57 rfl ?_
            refine g_getI X fl_M_188 fb_12_16 k_102 dM_readUnit_58 ?_
            refine g_bipush X 7 dM_readUnit_61 (by decide) ?_
            refine g_isub X dM_readUnit_63 ?_
            refine g_goto X 71 dM_readUnit_64 (by decide) ?_
            exact gf_sub (hj71 ((s3 102 16) - 7) s3) (by simp [lsub])
      · intro j53 hj53
        refine g_zeq X (tgt := 52) dM_readUnit_45 (by decide) ?_ ?_
        · refine g_iconst X 0 dM_readUnit_52 (by decide) ?_
          exact gf_sub (hj53 0 s2) (by simp [lsub])
        · refine g_iconst X 1 dM_readUnit_48 (by decide) ?_
          refine g_goto X 53 dM_readUnit_49 (by decide) ?_
          exact gf_sub (hj53 1 s2) (by simp [lsub])
    · intro j43 hj43
      refine g_zne X (tgt := 43) dM_readUnit_26 (by decide) ?_ ?_
      · refine g_aload_n X dM_readUnit_29 rfl ?_
        refine g_getI X fl_M_185 fb_12_15 k_102 dM_readUnit_30 ?_
        refine g_iconst X 3 dM_readUnit_33 (by decide) ?_
        refine g_ceq X (tgt := 43) dM_readUnit_34 (by decide) ?_ ?_
        · exact gf_sub (hj43 s1) (by simp [lsub])
        · refine g_aload_n X dM_readUnit_37 rfl ?_
          refine g_iconst X 1 dM_readUnit_38 (by decide) ?_
          refine g_virtI X [.int 1] [] k_102 mm_M_errs mv_M_errs ml_M_216 (okM_errs 1 s1 C.l C.w) rfl (by decide) rfl (Nat.le_of_ble_eq_true rfl) dM_readUnit_39 (fun r8 s7 => ?_)
          exact g_iret X E dM_readUnit_42
      · exact gf_sub (hj43 s1) (by simp [lsub])
  · intro j24 hj24
    refine gf_jn (fun j23 => ∀ (s9 : Sg), GF C evI 23 [some (.ref (C.w.ad 102)), none] [] s9 (j23 s9)) ?_ ?_
    · intro s9
      refine g_iconst X 0 dM_readUnit_23 (by decide) ?_
      exact gf_sub (hj24 0 s9) (by simp [lsub])
    · intro j23 hj23
      refine g_cne X (tgt := 23) dM_readUnit_5 (by decide) ?_ ?_
      · refine g_aload_n X dM_readUnit_8 rfl ?_
        refine g_aload_n X dM_readUnit_9 rfl ?_
        refine g_getI X fl_M_188 fb_12_16 k_102 dM_readUnit_10 ?_
        refine g_virtI X [.int (s0 102 16)] [] k_102 mm_M_canAsk mv_M_canAsk ml_M_213 (okM_canAsk (s0 102 16) s0 C.l C.w) rfl (by decide) rfl (Nat.le_of_ble_eq_true rfl) dM_readUnit_13 (fun r11 s10 => ?_)
        refine g_zeq X (tgt := 23) dM_readUnit_16 (by decide) ?_ ?_
        · exact gf_sub (hj23 s10) (by simp [lsub])
        · refine g_iconst X 1 dM_readUnit_19 (by decide) ?_
          refine g_goto X 24 dM_readUnit_20 (by decide) ?_
          exact gf_sub (hj24 1 s10) (by simp [lsub])
      · exact gf_sub (hj23 s0) (by simp [lsub])
def yM_readProduct : MethodName := ⟨"LastWordHillModel", "readProduct", "()I"⟩
abbrev cM_readProduct : ByteArray := prog_14_method_39_code
theorem dM_readProduct_0 : decode cM_readProduct 0 = .ok (.aload_n 0, 1) := by decide +kernel
theorem dM_readProduct_1 : decode cM_readProduct 1 = .ok (.invokevirtual 225, 3) := by decide +kernel
theorem mm_M_readUnit : MMc yM_readUnit cM_readUnit 2 (some .int) 0 := ⟨hz_in 1766 (by decide +kernel) (by decide +kernel), hz_in 147 (by decide +kernel) (by decide +kernel), by decide +kernel, by decide⟩
theorem mv_M_readUnit : MMv yM_readUnit 12 := ⟨hz_in 1765 (by decide +kernel) (by decide +kernel), hz_in 77 (by decide +kernel) (by decide +kernel), _, _, rfl, by decide⟩
theorem ml_M_225 : Cond.methodLink "LastWordHillModel" 225 yM_readUnit ∈ hz_wt := hz_in 1763 (by decide +kernel) (by decide +kernel)
theorem dM_readProduct_4 : decode cM_readProduct 4 = .ok (.iconst (-1), 1) := by decide +kernel
theorem dM_readProduct_5 : decode cM_readProduct 5 = .ok (.if_icmp .ne 5, 3) := by decide +kernel
theorem dM_readProduct_10 : decode cM_readProduct 10 = .ok (.aload_n 0, 1) := by decide +kernel
theorem dM_readProduct_11 : decode cM_readProduct 11 = .ok (.bipush 42, 2) := by decide +kernel
theorem dM_readProduct_13 : decode cM_readProduct 13 = .ok (.invokevirtual 229, 3) := by decide +kernel
theorem mm_M_isSign : MMc yM_isSign cM_isSign 2 (some .boolean) 1 := ⟨hz_in 1734 (by decide +kernel) (by decide +kernel), hz_in 147 (by decide +kernel) (by decide +kernel), by decide +kernel, by decide⟩
theorem mv_M_isSign : MMv yM_isSign 12 := ⟨hz_in 1733 (by decide +kernel) (by decide +kernel), hz_in 69 (by decide +kernel) (by decide +kernel), _, _, rfl, by decide⟩
theorem ml_M_229 : Cond.methodLink "LastWordHillModel" 229 yM_isSign ∈ hz_wt := hz_in 1731 (by decide +kernel) (by decide +kernel)
theorem dM_readProduct_16 : decode cM_readProduct 16 = .ok (.ifCond .ne 12, 3) := by decide +kernel
theorem dM_readProduct_28 : decode cM_readProduct 28 = .ok (.aload_n 0, 1) := by decide +kernel
theorem dM_readProduct_29 : decode cM_readProduct 29 = .ok (.bipush 42, 2) := by decide +kernel
theorem dM_readProduct_31 : decode cM_readProduct 31 = .ok (.invokevirtual 229, 3) := by decide +kernel
theorem dM_readProduct_34 : decode cM_readProduct 34 = .ok (.istore_n 1, 1) := by decide +kernel
theorem dM_readProduct_35 : decode cM_readProduct 35 = .ok (.aload_n 0, 1) := by decide +kernel
theorem dM_readProduct_36 : decode cM_readProduct 36 = .ok (.invokevirtual 222, 3) := by decide +kernel
theorem dM_readProduct_39 : decode cM_readProduct 39 = .ok (.iload_n 1, 1) := by decide +kernel
theorem dM_readProduct_40 : decode cM_readProduct 40 = .ok (.ifCond .ne 17, 3) := by decide +kernel
theorem dM_readProduct_57 : decode cM_readProduct 57 = .ok (.iload_n 1, 1) := by decide +kernel
theorem dM_readProduct_58 : decode cM_readProduct 58 = .ok (.ifCond .ne 16, 3) := by decide +kernel
theorem dM_readProduct_74 : decode cM_readProduct 74 = .ok (.aload_n 0, 1) := by decide +kernel
theorem dM_readProduct_75 : decode cM_readProduct 75 = .ok (.invokevirtual 225, 3) := by decide +kernel
theorem dM_readProduct_78 : decode cM_readProduct 78 = .ok (.iconst (-1), 1) := by decide +kernel
theorem dM_readProduct_79 : decode cM_readProduct 79 = .ok (.if_icmp .ne 5, 3) := by decide +kernel
theorem dM_readProduct_84 : decode cM_readProduct 84 = .ok (.aload_n 0, 1) := by decide +kernel
theorem dM_readProduct_85 : decode cM_readProduct 85 = .ok (.iload_n 1, 1) := by decide +kernel
theorem dM_readProduct_86 : decode cM_readProduct 86 = .ok (.ifCond .eq 7, 3) := by decide +kernel
theorem dM_readProduct_94 : decode cM_readProduct 94 = .ok (.iconst 0, 1) := by decide +kernel
theorem dM_readProduct_95 : decode cM_readProduct 95 = .ok (.invokevirtual 219, 3) := by decide +kernel
theorem dM_readProduct_98 : decode cM_readProduct 98 = .ok (.goto (-88), 3) := by decide +kernel
theorem dM_readProduct_93 : decode cM_readProduct 93 = .ok (.iconst 5, 1) := by decide +kernel
theorem dM_readProduct_89 : decode cM_readProduct 89 = .ok (.iconst 4, 1) := by decide +kernel
theorem dM_readProduct_90 : decode cM_readProduct 90 = .ok (.goto 4, 3) := by decide +kernel
theorem dM_readProduct_82 : decode cM_readProduct 82 = .ok (.iconst (-1), 1) := by decide +kernel
theorem dM_readProduct_83 : decode cM_readProduct 83 = .ok (.ireturn, 1) := by decide +kernel
theorem dM_readProduct_61 : decode cM_readProduct 61 = .ok (.aload_n 0, 1) := by decide +kernel
theorem dM_readProduct_62 : decode cM_readProduct 62 = .ok (.getfield 188, 3) := by decide +kernel
theorem dM_readProduct_65 : decode cM_readProduct 65 = .ok (.ifCond .ne 9, 3) := by decide +kernel
theorem dM_readProduct_68 : decode cM_readProduct 68 = .ok (.aload_n 0, 1) := by decide +kernel
theorem dM_readProduct_69 : decode cM_readProduct 69 = .ok (.iconst 2, 1) := by decide +kernel
theorem dM_readProduct_70 : decode cM_readProduct 70 = .ok (.invokevirtual 216, 3) := by decide +kernel
theorem dM_readProduct_73 : decode cM_readProduct 73 = .ok (.ireturn, 1) := by decide +kernel
theorem dM_readProduct_43 : decode cM_readProduct 43 = .ok (.aload_n 0, 1) := by decide +kernel
theorem dM_readProduct_44 : decode cM_readProduct 44 = .ok (.getfield 185, 3) := by decide +kernel
theorem dM_readProduct_47 : decode cM_readProduct 47 = .ok (.iconst 3, 1) := by decide +kernel
theorem dM_readProduct_48 : decode cM_readProduct 48 = .ok (.if_icmp .eq 9, 3) := by decide +kernel
theorem dM_readProduct_51 : decode cM_readProduct 51 = .ok (.aload_n 0, 1) := by decide +kernel
theorem dM_readProduct_52 : decode cM_readProduct 52 = .ok (.iconst 1, 1) := by decide +kernel
theorem dM_readProduct_53 : decode cM_readProduct 53 = .ok (.invokevirtual 216, 3) := by decide +kernel
theorem dM_readProduct_56 : decode cM_readProduct 56 = .ok (.ireturn, 1) := by decide +kernel
theorem dM_readProduct_19 : decode cM_readProduct 19 = .ok (.aload_n 0, 1) := by decide +kernel
theorem dM_readProduct_20 : decode cM_readProduct 20 = .ok (.bipush 47, 2) := by decide +kernel
theorem dM_readProduct_22 : decode cM_readProduct 22 = .ok (.invokevirtual 229, 3) := by decide +kernel
theorem dM_readProduct_25 : decode cM_readProduct 25 = .ok (.ifCond .eq 76, 3) := by decide +kernel
theorem dM_readProduct_101 : decode cM_readProduct 101 = .ok (.iconst 0, 1) := by decide +kernel
theorem dM_readProduct_102 : decode cM_readProduct 102 = .ok (.ireturn, 1) := by decide +kernel
theorem dM_readProduct_8 : decode cM_readProduct 8 = .ok (.iconst (-1), 1) := by decide +kernel
theorem dM_readProduct_9 : decode cM_readProduct 9 = .ok (.ireturn, 1) := by decide +kernel
def fM_readProduct (s0 : Sg) : Option (Int32 × Sg) := bi (fM_readUnit s0) fun r2 s1 => if r2 = (-1) then (some ((-1), s1)) else (lp FU (fun q10 (u10 : Unit) (s3 : Sg) => bi (fM_isSign 42 s3) fun r5 s4 => bnd (fun (s6 : Sg) => bi (fM_isSign 42 s6) fun r8 s7 => bv (fM_reads s7) fun s9 => bnd (fun (s10 : Sg) => bnd (fun (s11 : Sg) => bi (fM_readUnit s11) fun r13 s12 => if r13 = (-1) then (some ((-1), s12)) else (bnd (fun (b94_0 : Int32) (s14 : Sg) => bv (fM_emits b94_0 0 s14) fun s15 => q10 () s15) fun j94 => if r8 = 0 then (j94 5 s12) else (j94 4 s12))) fun j74 => if r8 = 0 then (if (s10 102 16) = 0 then (bi (fM_errs 2 s10) fun r17 s16 => some (r17, s16)) else (j74 s10)) else (j74 s10)) fun j57 => if r8 = 0 then (if (s9 102 15) = 3 then (j57 s9) else (bi (fM_errs 1 s9) fun r19 s18 => some (r19, s18))) else (j57 s9)) fun j28 => if r5 = 0 then (bi (fM_isSign 47 s4) fun r21 s20 => if r21 = 0 then (some (0, s20)) else (j28 s20)) else (j28 s4)) () s1)
set_option maxHeartbeats 4000000 in
set_option maxRecDepth 100000 in
theorem okM_readProduct (s0 : Sg) : ∀ (l : Launch) (w : WC), Ok l w yM_readProduct cM_readProduct 2 (some .int) 5 evI [.ref (w.ad 102)] s0 (fM_readProduct s0) := by
  refine ok_in (ev := fun _ => evI) (av := fun w => [.ref (w.ad 102)]) "LastWordHillModel" rfl (by decide +kernel) (fun _ => rfl) (fun _ => Nat.le_of_ble_eq_true rfl) ?_
  intro C X E
  show GF C evI 0 [some (.ref (C.w.ad 102)), none] [] s0 (fM_readProduct s0)
  unfold fM_readProduct
  refine g_aload_n X dM_readProduct_0 rfl ?_
  refine g_virtI X [] [] k_102 mm_M_readUnit mv_M_readUnit ml_M_225 (okM_readUnit s0 C.l C.w) rfl (by decide) rfl (Nat.le_of_ble_eq_true rfl) dM_readProduct_1 (fun r2 s1 => ?_)
  refine g_iconst X (-1) dM_readProduct_4 (by decide) ?_
  refine g_cne X (tgt := 10) dM_readProduct_5 (by decide) ?_ ?_
  · refine g_iconst X (-1) dM_readProduct_8 (by decide) ?_
    exact g_iret X E dM_readProduct_9
  · refine gf_sub (L' := [some (.ref (C.w.ad 102)), none]) ?_ (by simp [lsub])
    refine gf_lp (Lf := fun (u10 : Unit) => [some (.ref (C.w.ad 102)), none]) (fun q10 hq10 u10 s3 => ?_) FU () s1
    refine g_aload_n X dM_readProduct_10 rfl ?_
    refine g_bipush X 42 dM_readProduct_11 (by decide) ?_
    refine g_virtI X [.int 42] [] k_102 mm_M_isSign mv_M_isSign ml_M_229 (okM_isSign 42 s3 C.l C.w) rfl (by decide) rfl (Nat.le_of_ble_eq_true rfl) dM_readProduct_13 (fun r5 s4 => ?_)
    refine gf_jn (fun j28 => ∀ (s6 : Sg), GF C evI 28 [some (.ref (C.w.ad 102)), none] [] s6 (j28 s6)) ?_ ?_
    · intro s6
      refine g_aload_n X dM_readProduct_28 rfl ?_
      refine g_bipush X 42 dM_readProduct_29 (by decide) ?_
      refine g_virtI X [.int 42] [] k_102 mm_M_isSign mv_M_isSign ml_M_229 (okM_isSign 42 s6 C.l C.w) rfl (by decide) rfl (Nat.le_of_ble_eq_true rfl) dM_readProduct_31 (fun r8 s7 => ?_)
      refine g_istore_n X [some (.ref (C.w.ad 102)), some (.int r8)] dM_readProduct_34 (by decide) (Nat.le_of_ble_eq_true rfl) rfl ?_
      refine g_aload_n X dM_readProduct_35 rfl ?_
      refine g_virtV X [] [] k_102 mm_M_reads mv_M_reads ml_M_222 (okM_reads s7 C.l C.w) rfl (by decide) rfl (Nat.le_of_ble_eq_true rfl) dM_readProduct_36 (fun s9 => ?_)
      refine g_iload_n X dM_readProduct_39 rfl ?_
      refine gf_jn (fun j57 => ∀ (s10 : Sg), GF C evI 57 [some (.ref (C.w.ad 102)), some (.int r8)] [] s10 (j57 s10)) ?_ ?_
      · intro s10
        refine g_iload_n X dM_readProduct_57 rfl ?_
        refine gf_jn (fun j74 => ∀ (s11 : Sg), GF C evI 74 [some (.ref (C.w.ad 102)), some (.int r8)] [] s11 (j74 s11)) ?_ ?_
        · intro s11
          refine g_aload_n X dM_readProduct_74 rfl ?_
          refine g_virtI X [] [] k_102 mm_M_readUnit mv_M_readUnit ml_M_225 (okM_readUnit s11 C.l C.w) rfl (by decide) rfl (Nat.le_of_ble_eq_true rfl) dM_readProduct_75 (fun r13 s12 => ?_)
          refine g_iconst X (-1) dM_readProduct_78 (by decide) ?_
          refine g_cne X (tgt := 84) dM_readProduct_79 (by decide) ?_ ?_
          · refine g_iconst X (-1) dM_readProduct_82 (by decide) ?_
            exact g_iret X E dM_readProduct_83
          · refine g_aload_n X dM_readProduct_84 rfl ?_
            refine g_iload_n X dM_readProduct_85 rfl ?_
            refine gf_jn (fun j94 => ∀ (b94_0 : Int32) (s14 : Sg), GF C evI 94 [some (.ref (C.w.ad 102)), none] [.int b94_0, .ref (C.w.ad 102)] s14 (j94 b94_0 s14)) ?_ ?_
            · intro b94_0 s14
              refine g_iconst X 0 dM_readProduct_94 (by decide) ?_
              refine g_virtV X [.int b94_0, .int 0] [] k_102 mm_M_emits mv_M_emits ml_M_219 (okM_emits b94_0 0 s14 C.l C.w) rfl (by decide) rfl (Nat.le_of_ble_eq_true rfl) dM_readProduct_95 (fun s15 => ?_)
              refine g_goto X 10 dM_readProduct_98 (by decide) ?_
              exact gf_sub (hq10 () s15) (by simp [lsub])
            · intro j94 hj94
              refine g_zeq X (tgt := 93) dM_readProduct_86 (by decide) ?_ ?_
              · refine g_iconst X 5 dM_readProduct_93 (by decide) ?_
                exact gf_sub (hj94 5 s12) (by simp [lsub])
              · refine g_iconst X 4 dM_readProduct_89 (by decide) ?_
                refine g_goto X 94 dM_readProduct_90 (by decide) ?_
                exact gf_sub (hj94 4 s12) (by simp [lsub])
        · intro j74 hj74
          refine g_zne X (tgt := 74) dM_readProduct_58 (by decide) ?_ ?_
          · refine g_aload_n X dM_readProduct_61 rfl ?_
            refine g_getI X fl_M_188 fb_12_16 k_102 dM_readProduct_62 ?_
            refine g_zne X (tgt := 74) dM_readProduct_65 (by decide) ?_ ?_
            · refine g_aload_n X dM_readProduct_68 rfl ?_
              refine g_iconst X 2 dM_readProduct_69 (by decide) ?_
              refine g_virtI X [.int 2] [] k_102 mm_M_errs mv_M_errs ml_M_216 (okM_errs 2 s10 C.l C.w) rfl (by decide) rfl (Nat.le_of_ble_eq_true rfl) dM_readProduct_70 (fun r17 s16 => ?_)
              exact g_iret X E dM_readProduct_73
            · exact gf_sub (hj74 s10) (by simp [lsub])
          · exact gf_sub (hj74 s10) (by simp [lsub])
      · intro j57 hj57
        refine g_zne X (tgt := 57) dM_readProduct_40 (by decide) ?_ ?_
        · refine g_aload_n X dM_readProduct_43 rfl ?_
          refine g_getI X fl_M_185 fb_12_15 k_102 dM_readProduct_44 ?_
          refine g_iconst X 3 dM_readProduct_47 (by decide) ?_
          refine g_ceq X (tgt := 57) dM_readProduct_48 (by decide) ?_ ?_
          · exact gf_sub (hj57 s9) (by simp [lsub])
          · refine g_aload_n X dM_readProduct_51 rfl ?_
            refine g_iconst X 1 dM_readProduct_52 (by decide) ?_
            refine g_virtI X [.int 1] [] k_102 mm_M_errs mv_M_errs ml_M_216 (okM_errs 1 s9 C.l C.w) rfl (by decide) rfl (Nat.le_of_ble_eq_true rfl) dM_readProduct_53 (fun r19 s18 => ?_)
            exact g_iret X E dM_readProduct_56
        · exact gf_sub (hj57 s9) (by simp [lsub])
    · intro j28 hj28
      refine g_zne X (tgt := 28) dM_readProduct_16 (by decide) ?_ ?_
      · refine g_aload_n X dM_readProduct_19 rfl ?_
        refine g_bipush X 47 dM_readProduct_20 (by decide) ?_
        refine g_virtI X [.int 47] [] k_102 mm_M_isSign mv_M_isSign ml_M_229 (okM_isSign 47 s4 C.l C.w) rfl (by decide) rfl (Nat.le_of_ble_eq_true rfl) dM_readProduct_22 (fun r21 s20 => ?_)
        refine g_zeq X (tgt := 101) dM_readProduct_25 (by decide) ?_ ?_
        · refine g_iconst X 0 dM_readProduct_101 (by decide) ?_
          exact g_iret X E dM_readProduct_102
        · exact gf_sub (hj28 s20) (by simp [lsub])
      · exact gf_sub (hj28 s4) (by simp [lsub])
def yM_readSum : MethodName := ⟨"LastWordHillModel", "readSum", "()I"⟩
abbrev cM_readSum : ByteArray := prog_14_method_40_code
theorem dM_readSum_0 : decode cM_readSum 0 = .ok (.aload_n 0, 1) := by decide +kernel
theorem dM_readSum_1 : decode cM_readSum 1 = .ok (.invokevirtual 232, 3) := by decide +kernel
theorem mm_M_readProduct : MMc yM_readProduct cM_readProduct 2 (some .int) 0 := ⟨hz_in 1762 (by decide +kernel) (by decide +kernel), hz_in 147 (by decide +kernel) (by decide +kernel), by decide +kernel, by decide⟩
theorem mv_M_readProduct : MMv yM_readProduct 12 := ⟨hz_in 1761 (by decide +kernel) (by decide +kernel), hz_in 76 (by decide +kernel) (by decide +kernel), _, _, rfl, by decide⟩
theorem ml_M_232 : Cond.methodLink "LastWordHillModel" 232 yM_readProduct ∈ hz_wt := hz_in 1759 (by decide +kernel) (by decide +kernel)
theorem dM_readSum_4 : decode cM_readSum 4 = .ok (.iconst (-1), 1) := by decide +kernel
theorem dM_readSum_5 : decode cM_readSum 5 = .ok (.if_icmp .ne 5, 3) := by decide +kernel
theorem dM_readSum_10 : decode cM_readSum 10 = .ok (.aload_n 0, 1) := by decide +kernel
theorem dM_readSum_11 : decode cM_readSum 11 = .ok (.bipush 43, 2) := by decide +kernel
theorem dM_readSum_13 : decode cM_readSum 13 = .ok (.invokevirtual 229, 3) := by decide +kernel
theorem dM_readSum_16 : decode cM_readSum 16 = .ok (.ifCond .ne 12, 3) := by decide +kernel
theorem dM_readSum_28 : decode cM_readSum 28 = .ok (.aload_n 0, 1) := by decide +kernel
theorem dM_readSum_29 : decode cM_readSum 29 = .ok (.getfield 188, 3) := by decide +kernel
theorem dM_readSum_32 : decode cM_readSum 32 = .ok (.bipush 43, 2) := by decide +kernel
theorem dM_readSum_34 : decode cM_readSum 34 = .ok (.if_icmp .ne 7, 3) := by decide +kernel
theorem dM_readSum_42 : decode cM_readSum 42 = .ok (.istore_n 1, 1) := by decide +kernel
theorem dM_readSum_43 : decode cM_readSum 43 = .ok (.aload_n 0, 1) := by decide +kernel
theorem dM_readSum_44 : decode cM_readSum 44 = .ok (.invokevirtual 222, 3) := by decide +kernel
theorem dM_readSum_47 : decode cM_readSum 47 = .ok (.aload_n 0, 1) := by decide +kernel
theorem dM_readSum_48 : decode cM_readSum 48 = .ok (.invokevirtual 232, 3) := by decide +kernel
theorem dM_readSum_51 : decode cM_readSum 51 = .ok (.iconst (-1), 1) := by decide +kernel
theorem dM_readSum_52 : decode cM_readSum 52 = .ok (.if_icmp .ne 5, 3) := by decide +kernel
theorem dM_readSum_57 : decode cM_readSum 57 = .ok (.aload_n 0, 1) := by decide +kernel
theorem dM_readSum_58 : decode cM_readSum 58 = .ok (.iload_n 1, 1) := by decide +kernel
theorem dM_readSum_59 : decode cM_readSum 59 = .ok (.iconst 0, 1) := by decide +kernel
theorem dM_readSum_60 : decode cM_readSum 60 = .ok (.invokevirtual 219, 3) := by decide +kernel
theorem dM_readSum_63 : decode cM_readSum 63 = .ok (.goto (-53), 3) := by decide +kernel
theorem dM_readSum_55 : decode cM_readSum 55 = .ok (.iconst (-1), 1) := by decide +kernel
theorem dM_readSum_56 : decode cM_readSum 56 = .ok (.ireturn, 1) := by decide +kernel
theorem dM_readSum_41 : decode cM_readSum 41 = .ok (.iconst 3, 1) := by decide +kernel
theorem dM_readSum_37 : decode cM_readSum 37 = .ok (.iconst 2, 1) := by decide +kernel
theorem dM_readSum_38 : decode cM_readSum 38 = .ok (.goto 4, 3) := by decide +kernel
theorem dM_readSum_19 : decode cM_readSum 19 = .ok (.aload_n 0, 1) := by decide +kernel
theorem dM_readSum_20 : decode cM_readSum 20 = .ok (.bipush 45, 2) := by decide +kernel
theorem dM_readSum_22 : decode cM_readSum 22 = .ok (.invokevirtual 229, 3) := by decide +kernel
theorem dM_readSum_25 : decode cM_readSum 25 = .ok (.ifCond .eq 41, 3) := by decide +kernel
theorem dM_readSum_66 : decode cM_readSum 66 = .ok (.iconst 0, 1) := by decide +kernel
theorem dM_readSum_67 : decode cM_readSum 67 = .ok (.ireturn, 1) := by decide +kernel
theorem dM_readSum_8 : decode cM_readSum 8 = .ok (.iconst (-1), 1) := by decide +kernel
theorem dM_readSum_9 : decode cM_readSum 9 = .ok (.ireturn, 1) := by decide +kernel
def fM_readSum (s0 : Sg) : Option (Int32 × Sg) := bi (fM_readProduct s0) fun r2 s1 => if r2 = (-1) then (some ((-1), s1)) else (lp FU (fun q10 (u10 : Unit) (s3 : Sg) => bi (fM_isSign 43 s3) fun r5 s4 => bnd (fun (s6 : Sg) => bnd (fun (b42_0 : Int32) (s7 : Sg) => bv (fM_reads s7) fun s8 => bi (fM_readProduct s8) fun r10 s9 => if r10 = (-1) then (some ((-1), s9)) else (bv (fM_emits b42_0 0 s9) fun s11 => q10 () s11)) fun j42 => if (s6 102 16) = 43 then (j42 2 s6) else (j42 3 s6)) fun j28 => if r5 = 0 then (bi (fM_isSign 45 s4) fun r13 s12 => if r13 = 0 then (some (0, s12)) else (j28 s12)) else (j28 s4)) () s1)
set_option maxHeartbeats 4000000 in
set_option maxRecDepth 100000 in
theorem okM_readSum (s0 : Sg) : ∀ (l : Launch) (w : WC), Ok l w yM_readSum cM_readSum 2 (some .int) 6 evI [.ref (w.ad 102)] s0 (fM_readSum s0) := by
  refine ok_in (ev := fun _ => evI) (av := fun w => [.ref (w.ad 102)]) "LastWordHillModel" rfl (by decide +kernel) (fun _ => rfl) (fun _ => Nat.le_of_ble_eq_true rfl) ?_
  intro C X E
  show GF C evI 0 [some (.ref (C.w.ad 102)), none] [] s0 (fM_readSum s0)
  unfold fM_readSum
  refine g_aload_n X dM_readSum_0 rfl ?_
  refine g_virtI X [] [] k_102 mm_M_readProduct mv_M_readProduct ml_M_232 (okM_readProduct s0 C.l C.w) rfl (by decide) rfl (Nat.le_of_ble_eq_true rfl) dM_readSum_1 (fun r2 s1 => ?_)
  refine g_iconst X (-1) dM_readSum_4 (by decide) ?_
  refine g_cne X (tgt := 10) dM_readSum_5 (by decide) ?_ ?_
  · refine g_iconst X (-1) dM_readSum_8 (by decide) ?_
    exact g_iret X E dM_readSum_9
  · refine gf_sub (L' := [some (.ref (C.w.ad 102)), none]) ?_ (by simp [lsub])
    refine gf_lp (Lf := fun (u10 : Unit) => [some (.ref (C.w.ad 102)), none]) (fun q10 hq10 u10 s3 => ?_) FU () s1
    refine g_aload_n X dM_readSum_10 rfl ?_
    refine g_bipush X 43 dM_readSum_11 (by decide) ?_
    refine g_virtI X [.int 43] [] k_102 mm_M_isSign mv_M_isSign ml_M_229 (okM_isSign 43 s3 C.l C.w) rfl (by decide) rfl (Nat.le_of_ble_eq_true rfl) dM_readSum_13 (fun r5 s4 => ?_)
    refine gf_jn (fun j28 => ∀ (s6 : Sg), GF C evI 28 [some (.ref (C.w.ad 102)), none] [] s6 (j28 s6)) ?_ ?_
    · intro s6
      refine g_aload_n X dM_readSum_28 rfl ?_
      refine g_getI X fl_M_188 fb_12_16 k_102 dM_readSum_29 ?_
      refine g_bipush X 43 dM_readSum_32 (by decide) ?_
      refine gf_jn (fun j42 => ∀ (b42_0 : Int32) (s7 : Sg), GF C evI 42 [some (.ref (C.w.ad 102)), none] [.int b42_0] s7 (j42 b42_0 s7)) ?_ ?_
      · intro b42_0 s7
        refine g_istore_n X [some (.ref (C.w.ad 102)), some (.int b42_0)] dM_readSum_42 (by decide) (Nat.le_of_ble_eq_true rfl) rfl ?_
        refine g_aload_n X dM_readSum_43 rfl ?_
        refine g_virtV X [] [] k_102 mm_M_reads mv_M_reads ml_M_222 (okM_reads s7 C.l C.w) rfl (by decide) rfl (Nat.le_of_ble_eq_true rfl) dM_readSum_44 (fun s8 => ?_)
        refine g_aload_n X dM_readSum_47 rfl ?_
        refine g_virtI X [] [] k_102 mm_M_readProduct mv_M_readProduct ml_M_232 (okM_readProduct s8 C.l C.w) rfl (by decide) rfl (Nat.le_of_ble_eq_true rfl) dM_readSum_48 (fun r10 s9 => ?_)
        refine g_iconst X (-1) dM_readSum_51 (by decide) ?_
        refine g_cne X (tgt := 57) dM_readSum_52 (by decide) ?_ ?_
        · refine g_iconst X (-1) dM_readSum_55 (by decide) ?_
          exact g_iret X E dM_readSum_56
        · refine g_aload_n X dM_readSum_57 rfl ?_
          refine g_iload_n X dM_readSum_58 rfl ?_
          refine g_iconst X 0 dM_readSum_59 (by decide) ?_
          refine g_virtV X [.int b42_0, .int 0] [] k_102 mm_M_emits mv_M_emits ml_M_219 (okM_emits b42_0 0 s9 C.l C.w) rfl (by decide) rfl (Nat.le_of_ble_eq_true rfl) dM_readSum_60 (fun s11 => ?_)
          refine g_goto X 10 dM_readSum_63 (by decide) ?_
          exact gf_sub (hq10 () s11) (by simp [lsub])
      · intro j42 hj42
        refine g_cne X (tgt := 41) dM_readSum_34 (by decide) ?_ ?_
        · refine g_iconst X 2 dM_readSum_37 (by decide) ?_
          refine g_goto X 42 dM_readSum_38 (by decide) ?_
          exact gf_sub (hj42 2 s6) (by simp [lsub])
        · refine g_iconst X 3 dM_readSum_41 (by decide) ?_
          exact gf_sub (hj42 3 s6) (by simp [lsub])
    · intro j28 hj28
      refine g_zne X (tgt := 28) dM_readSum_16 (by decide) ?_ ?_
      · refine g_aload_n X dM_readSum_19 rfl ?_
        refine g_bipush X 45 dM_readSum_20 (by decide) ?_
        refine g_virtI X [.int 45] [] k_102 mm_M_isSign mv_M_isSign ml_M_229 (okM_isSign 45 s4 C.l C.w) rfl (by decide) rfl (Nat.le_of_ble_eq_true rfl) dM_readSum_22 (fun r13 s12 => ?_)
        refine g_zeq X (tgt := 66) dM_readSum_25 (by decide) ?_ ?_
        · refine g_iconst X 0 dM_readSum_66 (by decide) ?_
          exact g_iret X E dM_readSum_67
        · exact gf_sub (hj28 s12) (by simp [lsub])
      · exact gf_sub (hj28 s4) (by simp [lsub])
def yM_readCompared : MethodName := ⟨"LastWordHillModel", "readCompared", "()I"⟩
abbrev cM_readCompared : ByteArray := prog_14_method_41_code
theorem dM_readCompared_0 : decode cM_readCompared 0 = .ok (.aload_n 0, 1) := by decide +kernel
theorem dM_readCompared_1 : decode cM_readCompared 1 = .ok (.invokevirtual 235, 3) := by decide +kernel
theorem mm_M_readSum : MMc yM_readSum cM_readSum 2 (some .int) 0 := ⟨hz_in 1758 (by decide +kernel) (by decide +kernel), hz_in 147 (by decide +kernel) (by decide +kernel), by decide +kernel, by decide⟩
theorem mv_M_readSum : MMv yM_readSum 12 := ⟨hz_in 1757 (by decide +kernel) (by decide +kernel), hz_in 75 (by decide +kernel) (by decide +kernel), _, _, rfl, by decide⟩
theorem ml_M_235 : Cond.methodLink "LastWordHillModel" 235 yM_readSum ∈ hz_wt := hz_in 1755 (by decide +kernel) (by decide +kernel)
theorem dM_readCompared_4 : decode cM_readCompared 4 = .ok (.iconst (-1), 1) := by decide +kernel
theorem dM_readCompared_5 : decode cM_readCompared 5 = .ok (.if_icmp .ne 5, 3) := by decide +kernel
theorem dM_readCompared_10 : decode cM_readCompared 10 = .ok (.aload_n 0, 1) := by decide +kernel
theorem dM_readCompared_11 : decode cM_readCompared 11 = .ok (.bipush 60, 2) := by decide +kernel
theorem dM_readCompared_13 : decode cM_readCompared 13 = .ok (.invokevirtual 229, 3) := by decide +kernel
theorem dM_readCompared_16 : decode cM_readCompared 16 = .ok (.ifCond .ne 27, 3) := by decide +kernel
theorem dM_readCompared_43 : decode cM_readCompared 43 = .ok (.aload_n 0, 1) := by decide +kernel
theorem dM_readCompared_44 : decode cM_readCompared 44 = .ok (.getfield 188, 3) := by decide +kernel
theorem dM_readCompared_47 : decode cM_readCompared 47 = .ok (.bipush 60, 2) := by decide +kernel
theorem dM_readCompared_49 : decode cM_readCompared 49 = .ok (.if_icmp .ne 8, 3) := by decide +kernel
theorem dM_readCompared_73 : decode cM_readCompared 73 = .ok (.istore_n 1, 1) := by decide +kernel
theorem dM_readCompared_74 : decode cM_readCompared 74 = .ok (.aload_n 0, 1) := by decide +kernel
theorem dM_readCompared_75 : decode cM_readCompared 75 = .ok (.invokevirtual 222, 3) := by decide +kernel
theorem dM_readCompared_78 : decode cM_readCompared 78 = .ok (.aload_n 0, 1) := by decide +kernel
theorem dM_readCompared_79 : decode cM_readCompared 79 = .ok (.invokevirtual 235, 3) := by decide +kernel
theorem dM_readCompared_82 : decode cM_readCompared 82 = .ok (.iconst (-1), 1) := by decide +kernel
theorem dM_readCompared_83 : decode cM_readCompared 83 = .ok (.if_icmp .ne 5, 3) := by decide +kernel
theorem dM_readCompared_88 : decode cM_readCompared 88 = .ok (.aload_n 0, 1) := by decide +kernel
theorem dM_readCompared_89 : decode cM_readCompared 89 = .ok (.iload_n 1, 1) := by decide +kernel
theorem dM_readCompared_90 : decode cM_readCompared 90 = .ok (.iconst 0, 1) := by decide +kernel
theorem dM_readCompared_91 : decode cM_readCompared 91 = .ok (.invokevirtual 219, 3) := by decide +kernel
theorem dM_readCompared_94 : decode cM_readCompared 94 = .ok (.iconst 0, 1) := by decide +kernel
theorem dM_readCompared_95 : decode cM_readCompared 95 = .ok (.ireturn, 1) := by decide +kernel
theorem dM_readCompared_86 : decode cM_readCompared 86 = .ok (.iconst (-1), 1) := by decide +kernel
theorem dM_readCompared_87 : decode cM_readCompared 87 = .ok (.ireturn, 1) := by decide +kernel
theorem dM_readCompared_57 : decode cM_readCompared 57 = .ok (.aload_n 0, 1) := by decide +kernel
theorem dM_readCompared_58 : decode cM_readCompared 58 = .ok (.getfield 188, 3) := by decide +kernel
theorem dM_readCompared_61 : decode cM_readCompared 61 = .ok (.bipush 61, 2) := by decide +kernel
theorem dM_readCompared_63 : decode cM_readCompared 63 = .ok (.if_icmp .ne 8, 3) := by decide +kernel
theorem dM_readCompared_71 : decode cM_readCompared 71 = .ok (.bipush 8, 2) := by decide +kernel
theorem dM_readCompared_66 : decode cM_readCompared 66 = .ok (.bipush 7, 2) := by decide +kernel
theorem dM_readCompared_68 : decode cM_readCompared 68 = .ok (.goto 5, 3) := by decide +kernel
theorem dM_readCompared_52 : decode cM_readCompared 52 = .ok (.bipush 6, 2) := by decide +kernel
theorem dM_readCompared_54 : decode cM_readCompared 54 = .ok (.goto 19, 3) := by decide +kernel
theorem dM_readCompared_19 : decode cM_readCompared 19 = .ok (.aload_n 0, 1) := by decide +kernel
theorem dM_readCompared_20 : decode cM_readCompared 20 = .ok (.bipush 61, 2) := by decide +kernel
theorem dM_readCompared_22 : decode cM_readCompared 22 = .ok (.invokevirtual 229, 3) := by decide +kernel
theorem dM_readCompared_25 : decode cM_readCompared 25 = .ok (.ifCond .ne 18, 3) := by decide +kernel
theorem dM_readCompared_28 : decode cM_readCompared 28 = .ok (.aload_n 0, 1) := by decide +kernel
theorem dM_readCompared_29 : decode cM_readCompared 29 = .ok (.bipush 62, 2) := by decide +kernel
theorem dM_readCompared_31 : decode cM_readCompared 31 = .ok (.invokevirtual 229, 3) := by decide +kernel
theorem dM_readCompared_34 : decode cM_readCompared 34 = .ok (.ifCond .ne 9, 3) := by decide +kernel
theorem dM_readCompared_37 : decode cM_readCompared 37 = .ok (.aload_n 0, 1) := by decide +kernel
theorem dM_readCompared_38 : decode cM_readCompared 38 = .ok (.iconst 1, 1) := by decide +kernel
theorem dM_readCompared_39 : decode cM_readCompared 39 = .ok (.invokevirtual 216, 3) := by decide +kernel
theorem dM_readCompared_42 : decode cM_readCompared 42 = .ok (.ireturn, 1) := by decide +kernel
theorem dM_readCompared_8 : decode cM_readCompared 8 = .ok (.iconst (-1), 1) := by decide +kernel
theorem dM_readCompared_9 : decode cM_readCompared 9 = .ok (.ireturn, 1) := by decide +kernel
def fM_readCompared (s0 : Sg) : Option (Int32 × Sg) := bi (fM_readSum s0) fun r2 s1 => if r2 = (-1) then (some ((-1), s1)) else (bi (fM_isSign 60 s1) fun r4 s3 => bnd (fun (s5 : Sg) => bnd (fun (b73_0 : Int32) (s6 : Sg) => bv (fM_reads s6) fun s7 => bi (fM_readSum s7) fun r9 s8 => if r9 = (-1) then (some ((-1), s8)) else (bv (fM_emits b73_0 0 s8) fun s10 => some (0, s10))) fun j73 => if (s5 102 16) = 60 then (j73 6 s5) else (if (s5 102 16) = 61 then (j73 7 s5) else (j73 8 s5))) fun j43 => if r4 = 0 then (bi (fM_isSign 61 s3) fun r12 s11 => if r12 = 0 then (bi (fM_isSign 62 s11) fun r14 s13 => if r14 = 0 then (bi (fM_errs 1 s13) fun r16 s15 => some (r16, s15)) else (j43 s13)) else (j43 s11)) else (j43 s3))
set_option maxHeartbeats 4000000 in
set_option maxRecDepth 100000 in
theorem okM_readCompared (s0 : Sg) : ∀ (l : Launch) (w : WC), Ok l w yM_readCompared cM_readCompared 2 (some .int) 7 evI [.ref (w.ad 102)] s0 (fM_readCompared s0) := by
  refine ok_in (ev := fun _ => evI) (av := fun w => [.ref (w.ad 102)]) "LastWordHillModel" rfl (by decide +kernel) (fun _ => rfl) (fun _ => Nat.le_of_ble_eq_true rfl) ?_
  intro C X E
  show GF C evI 0 [some (.ref (C.w.ad 102)), none] [] s0 (fM_readCompared s0)
  unfold fM_readCompared
  refine g_aload_n X dM_readCompared_0 rfl ?_
  refine g_virtI X [] [] k_102 mm_M_readSum mv_M_readSum ml_M_235 (okM_readSum s0 C.l C.w) rfl (by decide) rfl (Nat.le_of_ble_eq_true rfl) dM_readCompared_1 (fun r2 s1 => ?_)
  refine g_iconst X (-1) dM_readCompared_4 (by decide) ?_
  refine g_cne X (tgt := 10) dM_readCompared_5 (by decide) ?_ ?_
  · refine g_iconst X (-1) dM_readCompared_8 (by decide) ?_
    exact g_iret X E dM_readCompared_9
  · refine g_aload_n X dM_readCompared_10 rfl ?_
    refine g_bipush X 60 dM_readCompared_11 (by decide) ?_
    refine g_virtI X [.int 60] [] k_102 mm_M_isSign mv_M_isSign ml_M_229 (okM_isSign 60 s1 C.l C.w) rfl (by decide) rfl (Nat.le_of_ble_eq_true rfl) dM_readCompared_13 (fun r4 s3 => ?_)
    refine gf_jn (fun j43 => ∀ (s5 : Sg), GF C evI 43 [some (.ref (C.w.ad 102)), none] [] s5 (j43 s5)) ?_ ?_
    · intro s5
      refine g_aload_n X dM_readCompared_43 rfl ?_
      refine g_getI X fl_M_188 fb_12_16 k_102 dM_readCompared_44 ?_
      refine g_bipush X 60 dM_readCompared_47 (by decide) ?_
      refine gf_jn (fun j73 => ∀ (b73_0 : Int32) (s6 : Sg), GF C evI 73 [some (.ref (C.w.ad 102)), none] [.int b73_0] s6 (j73 b73_0 s6)) ?_ ?_
      · intro b73_0 s6
        refine g_istore_n X [some (.ref (C.w.ad 102)), some (.int b73_0)] dM_readCompared_73 (by decide) (Nat.le_of_ble_eq_true rfl) rfl ?_
        refine g_aload_n X dM_readCompared_74 rfl ?_
        refine g_virtV X [] [] k_102 mm_M_reads mv_M_reads ml_M_222 (okM_reads s6 C.l C.w) rfl (by decide) rfl (Nat.le_of_ble_eq_true rfl) dM_readCompared_75 (fun s7 => ?_)
        refine g_aload_n X dM_readCompared_78 rfl ?_
        refine g_virtI X [] [] k_102 mm_M_readSum mv_M_readSum ml_M_235 (okM_readSum s7 C.l C.w) rfl (by decide) rfl (Nat.le_of_ble_eq_true rfl) dM_readCompared_79 (fun r9 s8 => ?_)
        refine g_iconst X (-1) dM_readCompared_82 (by decide) ?_
        refine g_cne X (tgt := 88) dM_readCompared_83 (by decide) ?_ ?_
        · refine g_iconst X (-1) dM_readCompared_86 (by decide) ?_
          exact g_iret X E dM_readCompared_87
        · refine g_aload_n X dM_readCompared_88 rfl ?_
          refine g_iload_n X dM_readCompared_89 rfl ?_
          refine g_iconst X 0 dM_readCompared_90 (by decide) ?_
          refine g_virtV X [.int b73_0, .int 0] [] k_102 mm_M_emits mv_M_emits ml_M_219 (okM_emits b73_0 0 s8 C.l C.w) rfl (by decide) rfl (Nat.le_of_ble_eq_true rfl) dM_readCompared_91 (fun s10 => ?_)
          refine g_iconst X 0 dM_readCompared_94 (by decide) ?_
          exact g_iret X E dM_readCompared_95
      · intro j73 hj73
        refine g_cne X (tgt := 57) dM_readCompared_49 (by decide) ?_ ?_
        · refine g_bipush X 6 dM_readCompared_52 (by decide) ?_
          refine g_goto X 73 dM_readCompared_54 (by decide) ?_
          exact gf_sub (hj73 6 s5) (by simp [lsub])
        · refine g_aload_n X dM_readCompared_57 rfl ?_
          refine g_getI X fl_M_188 fb_12_16 k_102 dM_readCompared_58 ?_
          refine g_bipush X 61 dM_readCompared_61 (by decide) ?_
          refine g_cne X (tgt := 71) dM_readCompared_63 (by decide) ?_ ?_
          · refine g_bipush X 7 dM_readCompared_66 (by decide) ?_
            refine g_goto X 73 dM_readCompared_68 (by decide) ?_
            exact gf_sub (hj73 7 s5) (by simp [lsub])
          · refine g_bipush X 8 dM_readCompared_71 (by decide) ?_
            exact gf_sub (hj73 8 s5) (by simp [lsub])
    · intro j43 hj43
      refine g_zne X (tgt := 43) dM_readCompared_16 (by decide) ?_ ?_
      · refine g_aload_n X dM_readCompared_19 rfl ?_
        refine g_bipush X 61 dM_readCompared_20 (by decide) ?_
        refine g_virtI X [.int 61] [] k_102 mm_M_isSign mv_M_isSign ml_M_229 (okM_isSign 61 s3 C.l C.w) rfl (by decide) rfl (Nat.le_of_ble_eq_true rfl) dM_readCompared_22 (fun r12 s11 => ?_)
        refine g_zne X (tgt := 43) dM_readCompared_25 (by decide) ?_ ?_
        · refine g_aload_n X dM_readCompared_28 rfl ?_
          refine g_bipush X 62 dM_readCompared_29 (by decide) ?_
          refine g_virtI X [.int 62] [] k_102 mm_M_isSign mv_M_isSign ml_M_229 (okM_isSign 62 s11 C.l C.w) rfl (by decide) rfl (Nat.le_of_ble_eq_true rfl) dM_readCompared_31 (fun r14 s13 => ?_)
          refine g_zne X (tgt := 43) dM_readCompared_34 (by decide) ?_ ?_
          · refine g_aload_n X dM_readCompared_37 rfl ?_
            refine g_iconst X 1 dM_readCompared_38 (by decide) ?_
            refine g_virtI X [.int 1] [] k_102 mm_M_errs mv_M_errs ml_M_216 (okM_errs 1 s13 C.l C.w) rfl (by decide) rfl (Nat.le_of_ble_eq_true rfl) dM_readCompared_39 (fun r16 s15 => ?_)
            exact g_iret X E dM_readCompared_42
          · exact gf_sub (hj43 s13) (by simp [lsub])
        · exact gf_sub (hj43 s11) (by simp [lsub])
      · exact gf_sub (hj43 s3) (by simp [lsub])
def yM_waits : MethodName := ⟨"LastWordHillModel", "waits", "(I)V"⟩
abbrev cM_waits : ByteArray := prog_14_method_42_code
theorem dM_waits_0 : decode cM_waits 0 = .ok (.aload_n 0, 1) := by decide +kernel
theorem dM_waits_1 : decode cM_waits 1 = .ok (.getfield 58, 3) := by decide +kernel
theorem fl_M_58 : FLk "LastWordHillModel" 58 12 28 := ⟨_, _, _, rfl, by decide, hz_in 1440 (by decide +kernel) (by decide +kernel), nL12, by decide, by decide⟩
theorem k_119 : hz_kd 119 = 13 := by decide
theorem fb_12_28 : (hz_bs 12)[28]? = some true := by decide
theorem r_102_28 : hz_rf 102 28 = 119 := by decide
theorem dM_waits_4 : decode cM_waits 4 = .ok (.aload_n 0, 1) := by decide +kernel
theorem dM_waits_5 : decode cM_waits 5 = .ok (.getfield 238, 3) := by decide +kernel
theorem fl_M_238 : FLk "LastWordHillModel" 238 12 29 := ⟨_, _, _, rfl, by decide, hz_in 1441 (by decide +kernel) (by decide +kernel), nL12, by decide, by decide⟩
theorem fb_12_29 : (hz_bs 12)[29]? = some false := by decide
theorem dM_waits_8 : decode cM_waits 8 = .ok (.iload_n 1, 1) := by decide +kernel
theorem dM_waits_9 : decode cM_waits 9 = .ok (.iastore, 1) := by decide +kernel
theorem ln_119 : hz_ln 119 = 40 := by decide
theorem dM_waits_10 : decode cM_waits 10 = .ok (.aload_n 0, 1) := by decide +kernel
theorem dM_waits_11 : decode cM_waits 11 = .ok (.aload_n 0, 1) := by decide +kernel
theorem dM_waits_12 : decode cM_waits 12 = .ok (.getfield 238, 3) := by decide +kernel
theorem dM_waits_15 : decode cM_waits 15 = .ok (.iconst 1, 1) := by decide +kernel
theorem dM_waits_16 : decode cM_waits 16 = .ok (.iadd, 1) := by decide +kernel
theorem dM_waits_17 : decode cM_waits 17 = .ok (.putfield 238, 3) := by decide +kernel
theorem fp_12_29 : FLp 12 29 .int := ⟨_, _, _, _, rfl, nY12, nN12, by decide, by decide⟩
theorem dM_waits_20 : decode cM_waits 20 = .ok (.return_, 1) := by decide +kernel
def fM_waits (v1 : Int32) (s0 : Sg) : Option (Sg) := gd (s0 102 29) 40 (bnd (pt s0 119 (ix (s0 102 29)) v1) fun s1 => bnd (pt s1 102 29 ((s1 102 29) + 1)) fun s2 => some s2)
set_option maxHeartbeats 4000000 in
set_option maxRecDepth 100000 in
theorem okM_waits (v1 : Int32) (s0 : Sg) : ∀ (l : Launch) (w : WC), Ok l w yM_waits cM_waits 2 none 1 evV [.ref (w.ad 102), .int v1] s0 (fM_waits v1 s0) := by
  refine ok_in (ev := fun _ => evV) (av := fun w => [.ref (w.ad 102), .int v1]) "LastWordHillModel" rfl (by decide +kernel) (fun _ => rfl) (fun _ => Nat.le_of_ble_eq_true rfl) ?_
  intro C X E
  show GF C evV 0 [some (.ref (C.w.ad 102)), some (.int v1)] [] s0 (fM_waits v1 s0)
  unfold fM_waits
  refine g_aload_n X dM_waits_0 rfl ?_
  refine g_getN X fl_M_58 fb_12_28 k_102 r_102_28 dM_waits_1 ?_
  refine g_aload_n X dM_waits_4 rfl ?_
  refine g_getI X fl_M_238 fb_12_29 k_102 dM_waits_5 ?_
  refine g_iload_n X dM_waits_8 rfl ?_
  refine g_iast X k_119 ln_119 dM_waits_9 (fun s1 => ?_)
  refine g_aload_n X dM_waits_10 rfl ?_
  refine g_aload_n X dM_waits_11 rfl ?_
  refine g_getI X fl_M_238 fb_12_29 k_102 dM_waits_12 ?_
  refine g_iconst X 1 dM_waits_15 (by decide) ?_
  refine g_iadd X dM_waits_16 ?_
  refine g_putI X fl_M_238 fb_12_29 fp_12_29 k_102 dM_waits_17 (fun s2 => ?_)
  exact g_vret X E dM_waits_20
def yM_settles : MethodName := ⟨"LastWordHillModel", "settles", "(I)V"⟩
abbrev cM_settles : ByteArray := prog_14_method_43_code
theorem dM_settles_0 : decode cM_settles 0 = .ok (.aload_n 0, 1) := by decide +kernel
theorem dM_settles_1 : decode cM_settles 1 = .ok (.getfield 238, 3) := by decide +kernel
theorem dM_settles_4 : decode cM_settles 4 = .ok (.ifCond .le 53, 3) := by decide +kernel
theorem dM_settles_57 : decode cM_settles 57 = .ok (.return_, 1) := by decide +kernel
theorem dM_settles_7 : decode cM_settles 7 = .ok (.aload_n 0, 1) := by decide +kernel
theorem dM_settles_8 : decode cM_settles 8 = .ok (.getfield 58, 3) := by decide +kernel
theorem dM_settles_11 : decode cM_settles 11 = .ok (.aload_n 0, 1) := by decide +kernel
theorem dM_settles_12 : decode cM_settles 12 = .ok (.getfield 238, 3) := by decide +kernel
theorem dM_settles_15 : decode cM_settles 15 = .ok (.iconst 1, 1) := by decide +kernel
theorem dM_settles_16 : decode cM_settles 16 = .ok (.isub, 1) := by decide +kernel
theorem dM_settles_17 : decode cM_settles 17 = .ok (.iaload, 1) := by decide +kernel
theorem dM_settles_18 : decode cM_settles 18 = .ok (.iload_n 1, 1) := by decide +kernel
theorem dM_settles_19 : decode cM_settles 19 = .ok (.if_icmp .ne 38, 3) := by decide +kernel
theorem dM_settles_22 : decode cM_settles 22 = .ok (.aload_n 0, 1) := by decide +kernel
theorem dM_settles_23 : decode cM_settles 23 = .ok (.aload_n 0, 1) := by decide +kernel
theorem dM_settles_24 : decode cM_settles 24 = .ok (.getfield 238, 3) := by decide +kernel
theorem dM_settles_27 : decode cM_settles 27 = .ok (.iconst 1, 1) := by decide +kernel
theorem dM_settles_28 : decode cM_settles 28 = .ok (.isub, 1) := by decide +kernel
theorem dM_settles_29 : decode cM_settles 29 = .ok (.putfield 238, 3) := by decide +kernel
theorem dM_settles_32 : decode cM_settles 32 = .ok (.aload_n 0, 1) := by decide +kernel
theorem dM_settles_33 : decode cM_settles 33 = .ok (.iload_n 1, 1) := by decide +kernel
theorem dM_settles_34 : decode cM_settles 34 = .ok (.iconst 0, 1) := by decide +kernel
theorem dM_settles_35 : decode cM_settles 35 = .ok (.invokevirtual 219, 3) := by decide +kernel
theorem dM_settles_38 : decode cM_settles 38 = .ok (.iload_n 1, 1) := by decide +kernel
theorem dM_settles_39 : decode cM_settles 39 = .ok (.bipush 9, 2) := by decide +kernel
theorem dM_settles_41 : decode cM_settles 41 = .ok (.if_icmp .ne (-41), 3) := by decide +kernel
theorem dM_settles_44 : decode cM_settles 44 = .ok (.aload_n 0, 1) := by decide +kernel
theorem dM_settles_45 : decode cM_settles 45 = .ok (.aload_n 0, 1) := by decide +kernel
theorem dM_settles_46 : decode cM_settles 46 = .ok (.getfield 241, 3) := by decide +kernel
theorem fl_M_241 : FLk "LastWordHillModel" 241 12 27 := ⟨_, _, _, rfl, by decide, hz_in 1439 (by decide +kernel) (by decide +kernel), nL12, by decide, by decide⟩
theorem fb_12_27 : (hz_bs 12)[27]? = some false := by decide
theorem dM_settles_49 : decode cM_settles 49 = .ok (.iconst 1, 1) := by decide +kernel
theorem dM_settles_50 : decode cM_settles 50 = .ok (.isub, 1) := by decide +kernel
theorem dM_settles_51 : decode cM_settles 51 = .ok (.putfield 241, 3) := by decide +kernel
theorem fp_12_27 : FLp 12 27 .int := ⟨_, _, _, _, rfl, nY12, nN12, by decide, by decide⟩
theorem dM_settles_54 : decode cM_settles 54 = .ok (.goto (-54), 3) := by decide +kernel
def fM_settles (v1 : Int32) (s0 : Sg) : Option (Sg) := lp FU (fun q0 (u0 : Unit) (s1 : Sg) => if (s1 102 29) ≤ 0 then (some s1) else (gd ((s1 102 29) - 1) 40 (if (s1 119 (ix ((s1 102 29) - 1))) = v1 then (bnd (pt s1 102 29 ((s1 102 29) - 1)) fun s2 => bv (fM_emits v1 0 s2) fun s3 => if v1 = 9 then (bnd (pt s3 102 27 ((s3 102 27) - 1)) fun s4 => q0 () s4) else (q0 () s3)) else (some s1)))) () s0
set_option maxHeartbeats 4000000 in
set_option maxRecDepth 100000 in
theorem okM_settles (v1 : Int32) (s0 : Sg) : ∀ (l : Launch) (w : WC), Ok l w yM_settles cM_settles 2 none 2 evV [.ref (w.ad 102), .int v1] s0 (fM_settles v1 s0) := by
  refine ok_in (ev := fun _ => evV) (av := fun w => [.ref (w.ad 102), .int v1]) "LastWordHillModel" rfl (by decide +kernel) (fun _ => rfl) (fun _ => Nat.le_of_ble_eq_true rfl) ?_
  intro C X E
  show GF C evV 0 [some (.ref (C.w.ad 102)), some (.int v1)] [] s0 (fM_settles v1 s0)
  unfold fM_settles
  refine gf_sub (L' := [some (.ref (C.w.ad 102)), some (.int v1)]) ?_ (by simp [lsub])
  refine gf_lp (Lf := fun (u0 : Unit) => [some (.ref (C.w.ad 102)), some (.int v1)]) (fun q0 hq0 u0 s1 => ?_) FU () s0
  refine g_aload_n X dM_settles_0 rfl ?_
  refine g_getI X fl_M_238 fb_12_29 k_102 dM_settles_1 ?_
  refine g_zle X (tgt := 57) dM_settles_4 (by decide) ?_ ?_
  · exact g_vret X E dM_settles_57
  · refine g_aload_n X dM_settles_7 rfl ?_
    refine g_getN X fl_M_58 fb_12_28 k_102 r_102_28 dM_settles_8 ?_
    refine g_aload_n X dM_settles_11 rfl ?_
    refine g_getI X fl_M_238 fb_12_29 k_102 dM_settles_12 ?_
    refine g_iconst X 1 dM_settles_15 (by decide) ?_
    refine g_isub X dM_settles_16 ?_
    refine g_iald X k_119 ln_119 dM_settles_17 ?_
    refine g_iload_n X dM_settles_18 rfl ?_
    refine g_cne X (tgt := 57) dM_settles_19 (by decide) ?_ ?_
    · refine g_aload_n X dM_settles_22 rfl ?_
      refine g_aload_n X dM_settles_23 rfl ?_
      refine g_getI X fl_M_238 fb_12_29 k_102 dM_settles_24 ?_
      refine g_iconst X 1 dM_settles_27 (by decide) ?_
      refine g_isub X dM_settles_28 ?_
      refine g_putI X fl_M_238 fb_12_29 fp_12_29 k_102 dM_settles_29 (fun s2 => ?_)
      refine g_aload_n X dM_settles_32 rfl ?_
      refine g_iload_n X dM_settles_33 rfl ?_
      refine g_iconst X 0 dM_settles_34 (by decide) ?_
      refine g_virtV X [.int v1, .int 0] [] k_102 mm_M_emits mv_M_emits ml_M_219 (okM_emits v1 0 s2 C.l C.w) rfl (by decide) rfl (Nat.le_of_ble_eq_true rfl) dM_settles_35 (fun s3 => ?_)
      refine g_iload_n X dM_settles_38 rfl ?_
      refine g_bipush X 9 dM_settles_39 (by decide) ?_
      refine g_cne X (tgt := 0) dM_settles_41 (by decide) ?_ ?_
      · refine g_aload_n X dM_settles_44 rfl ?_
        refine g_aload_n X dM_settles_45 rfl ?_
        refine g_getI X fl_M_241 fb_12_27 k_102 dM_settles_46 ?_
        refine g_iconst X 1 dM_settles_49 (by decide) ?_
        refine g_isub X dM_settles_50 ?_
        refine g_putI X fl_M_241 fb_12_27 fp_12_27 k_102 dM_settles_51 (fun s4 => ?_)
        refine g_goto X 0 dM_settles_54 (by decide) ?_
        exact gf_sub (hq0 () s4) (by simp [lsub])
      · exact gf_sub (hq0 () s3) (by simp [lsub])
    · exact g_vret X E dM_settles_57
def yM_readAny : MethodName := ⟨"LastWordHillModel", "readAny", "()I"⟩
abbrev cM_readAny : ByteArray := prog_14_method_44_code
theorem dM_readAny_0 : decode cM_readAny 0 = .ok (.iconst 0, 1) := by decide +kernel
theorem dM_readAny_1 : decode cM_readAny 1 = .ok (.istore_n 1, 1) := by decide +kernel
theorem dM_readAny_2 : decode cM_readAny 2 = .ok (.aload_n 0, 1) := by decide +kernel
theorem dM_readAny_3 : decode cM_readAny 3 = .ok (.iconst 0, 1) := by decide +kernel
theorem dM_readAny_4 : decode cM_readAny 4 = .ok (.putfield 238, 3) := by decide +kernel
theorem dM_readAny_7 : decode cM_readAny 7 = .ok (.iconst 1, 1) := by decide +kernel
theorem dM_readAny_8 : decode cM_readAny 8 = .ok (.istore_n 2, 1) := by decide +kernel
theorem dM_readAny_9 : decode cM_readAny 9 = .ok (.iload_n 2, 1) := by decide +kernel
theorem dM_readAny_10 : decode cM_readAny 10 = .ok (.ifCond .eq 99, 3) := by decide +kernel
theorem dM_readAny_109 : decode cM_readAny 109 = .ok (.aload_n 0, 1) := by decide +kernel
theorem dM_readAny_110 : decode cM_readAny 110 = .ok (.iconst 5, 1) := by decide +kernel
theorem dM_readAny_111 : decode cM_readAny 111 = .ok (.invokevirtual 244, 3) := by decide +kernel
theorem mm_M_isWord : MMc yM_isWord cM_isWord 2 (some .boolean) 1 := ⟨hz_in 1710 (by decide +kernel) (by decide +kernel), hz_in 147 (by decide +kernel) (by decide +kernel), by decide +kernel, by decide⟩
theorem mv_M_isWord : MMv yM_isWord 12 := ⟨hz_in 1709 (by decide +kernel) (by decide +kernel), hz_in 63 (by decide +kernel) (by decide +kernel), _, _, rfl, by decide⟩
theorem ml_M_244 : Cond.methodLink "LastWordHillModel" 244 yM_isWord ∈ hz_wt := hz_in 1707 (by decide +kernel) (by decide +kernel)
theorem dM_readAny_114 : decode cM_readAny 114 = .ok (.ifCond .eq 24, 3) := by decide +kernel
theorem dM_readAny_138 : decode cM_readAny 138 = .ok (.aload_n 0, 1) := by decide +kernel
theorem dM_readAny_139 : decode cM_readAny 139 = .ok (.iconst 4, 1) := by decide +kernel
theorem dM_readAny_140 : decode cM_readAny 140 = .ok (.invokevirtual 244, 3) := by decide +kernel
theorem dM_readAny_143 : decode cM_readAny 143 = .ok (.ifCond .eq 30, 3) := by decide +kernel
theorem dM_readAny_173 : decode cM_readAny 173 = .ok (.aload_n 0, 1) := by decide +kernel
theorem dM_readAny_174 : decode cM_readAny 174 = .ok (.bipush 10, 2) := by decide +kernel
theorem dM_readAny_176 : decode cM_readAny 176 = .ok (.invokevirtual 253, 3) := by decide +kernel
theorem mm_M_settles : MMc yM_settles cM_settles 2 none 1 := ⟨hz_in 1790 (by decide +kernel) (by decide +kernel), hz_in 147 (by decide +kernel) (by decide +kernel), by decide +kernel, by decide⟩
theorem mv_M_settles : MMv yM_settles 12 := ⟨hz_in 1789 (by decide +kernel) (by decide +kernel), hz_in 83 (by decide +kernel) (by decide +kernel), _, _, rfl, by decide⟩
theorem ml_M_253 : Cond.methodLink "LastWordHillModel" 253 yM_settles ∈ hz_wt := hz_in 1787 (by decide +kernel) (by decide +kernel)
theorem dM_readAny_179 : decode cM_readAny 179 = .ok (.aload_n 0, 1) := by decide +kernel
theorem dM_readAny_180 : decode cM_readAny 180 = .ok (.bipush 11, 2) := by decide +kernel
theorem dM_readAny_182 : decode cM_readAny 182 = .ok (.invokevirtual 253, 3) := by decide +kernel
theorem dM_readAny_185 : decode cM_readAny 185 = .ok (.iload_n 1, 1) := by decide +kernel
theorem dM_readAny_186 : decode cM_readAny 186 = .ok (.ifCond .ne 5, 3) := by decide +kernel
theorem dM_readAny_191 : decode cM_readAny 191 = .ok (.aload_n 0, 1) := by decide +kernel
theorem dM_readAny_192 : decode cM_readAny 192 = .ok (.bipush 41, 2) := by decide +kernel
theorem dM_readAny_194 : decode cM_readAny 194 = .ok (.invokevirtual 229, 3) := by decide +kernel
theorem dM_readAny_197 : decode cM_readAny 197 = .ok (.ifCond .ne 9, 3) := by decide +kernel
theorem dM_readAny_206 : decode cM_readAny 206 = .ok (.aload_n 0, 1) := by decide +kernel
theorem dM_readAny_207 : decode cM_readAny 207 = .ok (.aload_n 0, 1) := by decide +kernel
theorem dM_readAny_208 : decode cM_readAny 208 = .ok (.getfield 238, 3) := by decide +kernel
theorem dM_readAny_211 : decode cM_readAny 211 = .ok (.iconst 1, 1) := by decide +kernel
theorem dM_readAny_212 : decode cM_readAny 212 = .ok (.isub, 1) := by decide +kernel
theorem dM_readAny_213 : decode cM_readAny 213 = .ok (.putfield 238, 3) := by decide +kernel
theorem dM_readAny_216 : decode cM_readAny 216 = .ok (.iload_n 1, 1) := by decide +kernel
theorem dM_readAny_217 : decode cM_readAny 217 = .ok (.iconst 1, 1) := by decide +kernel
theorem dM_readAny_218 : decode cM_readAny 218 = .ok (.isub, 1) := by decide +kernel
theorem dM_readAny_219 : decode cM_readAny 219 = .ok (.istore_n 1, 1) := by decide +kernel
theorem dM_readAny_220 : decode cM_readAny 220 = .ok (.aload_n 0, 1) := by decide +kernel
theorem dM_readAny_221 : decode cM_readAny 221 = .ok (.aload_n 0, 1) := by decide +kernel
theorem dM_readAny_222 : decode cM_readAny 222 = .ok (.getfield 241, 3) := by decide +kernel
theorem dM_readAny_225 : decode cM_readAny 225 = .ok (.iconst 1, 1) := by decide +kernel
theorem dM_readAny_226 : decode cM_readAny 226 = .ok (.isub, 1) := by decide +kernel
theorem dM_readAny_227 : decode cM_readAny 227 = .ok (.putfield 241, 3) := by decide +kernel
theorem dM_readAny_230 : decode cM_readAny 230 = .ok (.aload_n 0, 1) := by decide +kernel
theorem dM_readAny_231 : decode cM_readAny 231 = .ok (.bipush 9, 2) := by decide +kernel
theorem dM_readAny_233 : decode cM_readAny 233 = .ok (.invokevirtual 253, 3) := by decide +kernel
theorem dM_readAny_236 : decode cM_readAny 236 = .ok (.aload_n 0, 1) := by decide +kernel
theorem dM_readAny_237 : decode cM_readAny 237 = .ok (.invokevirtual 222, 3) := by decide +kernel
theorem dM_readAny_240 : decode cM_readAny 240 = .ok (.goto (-231), 3) := by decide +kernel
theorem dM_readAny_200 : decode cM_readAny 200 = .ok (.aload_n 0, 1) := by decide +kernel
theorem dM_readAny_201 : decode cM_readAny 201 = .ok (.iconst 1, 1) := by decide +kernel
theorem dM_readAny_202 : decode cM_readAny 202 = .ok (.invokevirtual 216, 3) := by decide +kernel
theorem dM_readAny_205 : decode cM_readAny 205 = .ok (.ireturn, 1) := by decide +kernel
theorem dM_readAny_189 : decode cM_readAny 189 = .ok (.iconst 0, 1) := by decide +kernel
theorem dM_readAny_190 : decode cM_readAny 190 = .ok (.ireturn, 1) := by decide +kernel
theorem dM_readAny_146 : decode cM_readAny 146 = .ok (.aload_n 0, 1) := by decide +kernel
theorem dM_readAny_147 : decode cM_readAny 147 = .ok (.bipush 10, 2) := by decide +kernel
theorem dM_readAny_149 : decode cM_readAny 149 = .ok (.invokevirtual 253, 3) := by decide +kernel
theorem dM_readAny_152 : decode cM_readAny 152 = .ok (.aload_n 0, 1) := by decide +kernel
theorem dM_readAny_153 : decode cM_readAny 153 = .ok (.bipush 11, 2) := by decide +kernel
theorem dM_readAny_155 : decode cM_readAny 155 = .ok (.invokevirtual 253, 3) := by decide +kernel
theorem dM_readAny_158 : decode cM_readAny 158 = .ok (.aload_n 0, 1) := by decide +kernel
theorem dM_readAny_159 : decode cM_readAny 159 = .ok (.bipush 11, 2) := by decide +kernel
theorem dM_readAny_161 : decode cM_readAny 161 = .ok (.invokevirtual 247, 3) := by decide +kernel
theorem mm_M_waits : MMc yM_waits cM_waits 2 none 1 := ⟨hz_in 1782 (by decide +kernel) (by decide +kernel), hz_in 147 (by decide +kernel) (by decide +kernel), by decide +kernel, by decide⟩
theorem mv_M_waits : MMv yM_waits 12 := ⟨hz_in 1781 (by decide +kernel) (by decide +kernel), hz_in 81 (by decide +kernel) (by decide +kernel), _, _, rfl, by decide⟩
theorem ml_M_247 : Cond.methodLink "LastWordHillModel" 247 yM_waits ∈ hz_wt := hz_in 1779 (by decide +kernel) (by decide +kernel)
theorem dM_readAny_164 : decode cM_readAny 164 = .ok (.aload_n 0, 1) := by decide +kernel
theorem dM_readAny_165 : decode cM_readAny 165 = .ok (.invokevirtual 222, 3) := by decide +kernel
theorem dM_readAny_168 : decode cM_readAny 168 = .ok (.iconst 1, 1) := by decide +kernel
theorem dM_readAny_169 : decode cM_readAny 169 = .ok (.istore_n 2, 1) := by decide +kernel
theorem dM_readAny_170 : decode cM_readAny 170 = .ok (.goto (-161), 3) := by decide +kernel
theorem dM_readAny_117 : decode cM_readAny 117 = .ok (.aload_n 0, 1) := by decide +kernel
theorem dM_readAny_118 : decode cM_readAny 118 = .ok (.bipush 10, 2) := by decide +kernel
theorem dM_readAny_120 : decode cM_readAny 120 = .ok (.invokevirtual 253, 3) := by decide +kernel
theorem dM_readAny_123 : decode cM_readAny 123 = .ok (.aload_n 0, 1) := by decide +kernel
theorem dM_readAny_124 : decode cM_readAny 124 = .ok (.bipush 10, 2) := by decide +kernel
theorem dM_readAny_126 : decode cM_readAny 126 = .ok (.invokevirtual 247, 3) := by decide +kernel
theorem dM_readAny_129 : decode cM_readAny 129 = .ok (.aload_n 0, 1) := by decide +kernel
theorem dM_readAny_130 : decode cM_readAny 130 = .ok (.invokevirtual 222, 3) := by decide +kernel
theorem dM_readAny_133 : decode cM_readAny 133 = .ok (.iconst 1, 1) := by decide +kernel
theorem dM_readAny_134 : decode cM_readAny 134 = .ok (.istore_n 2, 1) := by decide +kernel
theorem dM_readAny_135 : decode cM_readAny 135 = .ok (.goto (-126), 3) := by decide +kernel
theorem dM_readAny_13 : decode cM_readAny 13 = .ok (.aload_n 0, 1) := by decide +kernel
theorem dM_readAny_14 : decode cM_readAny 14 = .ok (.bipush 6, 2) := by decide +kernel
theorem dM_readAny_16 : decode cM_readAny 16 = .ok (.invokevirtual 244, 3) := by decide +kernel
theorem dM_readAny_19 : decode cM_readAny 19 = .ok (.istore_n 3, 1) := by decide +kernel
theorem dM_readAny_20 : decode cM_readAny 20 = .ok (.iload_n 3, 1) := by decide +kernel
theorem dM_readAny_21 : decode cM_readAny 21 = .ok (.ifCond .ne 12, 3) := by decide +kernel
theorem dM_readAny_33 : decode cM_readAny 33 = .ok (.aload_n 0, 1) := by decide +kernel
theorem dM_readAny_34 : decode cM_readAny 34 = .ok (.getfield 241, 3) := by decide +kernel
theorem dM_readAny_37 : decode cM_readAny 37 = .ok (.bipush 8, 2) := by decide +kernel
theorem dM_readAny_39 : decode cM_readAny 39 = .ok (.if_icmp .ne 9, 3) := by decide +kernel
theorem dM_readAny_48 : decode cM_readAny 48 = .ok (.aload_n 0, 1) := by decide +kernel
theorem dM_readAny_49 : decode cM_readAny 49 = .ok (.aload_n 0, 1) := by decide +kernel
theorem dM_readAny_50 : decode cM_readAny 50 = .ok (.getfield 241, 3) := by decide +kernel
theorem dM_readAny_53 : decode cM_readAny 53 = .ok (.iconst 1, 1) := by decide +kernel
theorem dM_readAny_54 : decode cM_readAny 54 = .ok (.iadd, 1) := by decide +kernel
theorem dM_readAny_55 : decode cM_readAny 55 = .ok (.putfield 241, 3) := by decide +kernel
theorem dM_readAny_58 : decode cM_readAny 58 = .ok (.iload_n 3, 1) := by decide +kernel
theorem dM_readAny_59 : decode cM_readAny 59 = .ok (.ifCond .ne 7, 3) := by decide +kernel
theorem dM_readAny_66 : decode cM_readAny 66 = .ok (.aload_n 0, 1) := by decide +kernel
theorem dM_readAny_67 : decode cM_readAny 67 = .ok (.iload_n 3, 1) := by decide +kernel
theorem dM_readAny_68 : decode cM_readAny 68 = .ok (.ifCond .eq 8, 3) := by decide +kernel
theorem dM_readAny_78 : decode cM_readAny 78 = .ok (.invokevirtual 247, 3) := by decide +kernel
theorem dM_readAny_81 : decode cM_readAny 81 = .ok (.aload_n 0, 1) := by decide +kernel
theorem dM_readAny_82 : decode cM_readAny 82 = .ok (.invokevirtual 222, 3) := by decide +kernel
theorem dM_readAny_85 : decode cM_readAny 85 = .ok (.goto (-76), 3) := by decide +kernel
theorem dM_readAny_76 : decode cM_readAny 76 = .ok (.bipush 12, 2) := by decide +kernel
theorem dM_readAny_71 : decode cM_readAny 71 = .ok (.bipush 9, 2) := by decide +kernel
theorem dM_readAny_73 : decode cM_readAny 73 = .ok (.goto 5, 3) := by decide +kernel
theorem dM_readAny_62 : decode cM_readAny 62 = .ok (.iload_n 1, 1) := by decide +kernel
theorem dM_readAny_63 : decode cM_readAny 63 = .ok (.iconst 1, 1) := by decide +kernel
theorem dM_readAny_64 : decode cM_readAny 64 = .ok (.iadd, 1) := by decide +kernel
theorem dM_readAny_65 : decode cM_readAny 65 = .ok (.istore_n 1, 1) := by decide +kernel
theorem dM_readAny_42 : decode cM_readAny 42 = .ok (.aload_n 0, 1) := by decide +kernel
theorem dM_readAny_43 : decode cM_readAny 43 = .ok (.iconst 3, 1) := by decide +kernel
theorem dM_readAny_44 : decode cM_readAny 44 = .ok (.invokevirtual 216, 3) := by decide +kernel
theorem dM_readAny_47 : decode cM_readAny 47 = .ok (.ireturn, 1) := by decide +kernel
theorem dM_readAny_24 : decode cM_readAny 24 = .ok (.aload_n 0, 1) := by decide +kernel
theorem dM_readAny_25 : decode cM_readAny 25 = .ok (.bipush 40, 2) := by decide +kernel
theorem dM_readAny_27 : decode cM_readAny 27 = .ok (.invokevirtual 229, 3) := by decide +kernel
theorem dM_readAny_30 : decode cM_readAny 30 = .ok (.ifCond .eq 58, 3) := by decide +kernel
theorem dM_readAny_88 : decode cM_readAny 88 = .ok (.aload_n 0, 1) := by decide +kernel
theorem dM_readAny_89 : decode cM_readAny 89 = .ok (.invokevirtual 250, 3) := by decide +kernel
theorem mm_M_readCompared : MMc yM_readCompared cM_readCompared 2 (some .int) 0 := ⟨hz_in 1786 (by decide +kernel) (by decide +kernel), hz_in 147 (by decide +kernel) (by decide +kernel), by decide +kernel, by decide⟩
theorem mv_M_readCompared : MMv yM_readCompared 12 := ⟨hz_in 1785 (by decide +kernel) (by decide +kernel), hz_in 82 (by decide +kernel) (by decide +kernel), _, _, rfl, by decide⟩
theorem ml_M_250 : Cond.methodLink "LastWordHillModel" 250 yM_readCompared ∈ hz_wt := hz_in 1783 (by decide +kernel) (by decide +kernel)
theorem dM_readAny_92 : decode cM_readAny 92 = .ok (.iconst (-1), 1) := by decide +kernel
theorem dM_readAny_93 : decode cM_readAny 93 = .ok (.if_icmp .ne 5, 3) := by decide +kernel
theorem dM_readAny_98 : decode cM_readAny 98 = .ok (.aload_n 0, 1) := by decide +kernel
theorem dM_readAny_99 : decode cM_readAny 99 = .ok (.bipush 9, 2) := by decide +kernel
theorem dM_readAny_101 : decode cM_readAny 101 = .ok (.invokevirtual 253, 3) := by decide +kernel
theorem dM_readAny_104 : decode cM_readAny 104 = .ok (.iconst 0, 1) := by decide +kernel
theorem dM_readAny_105 : decode cM_readAny 105 = .ok (.istore_n 2, 1) := by decide +kernel
theorem dM_readAny_106 : decode cM_readAny 106 = .ok (.goto (-97), 3) := by decide +kernel
theorem dM_readAny_96 : decode cM_readAny 96 = .ok (.iconst (-1), 1) := by decide +kernel
theorem dM_readAny_97 : decode cM_readAny 97 = .ok (.ireturn, 1) := by decide +kernel
def fM_readAny (s0 : Sg) : Option (Int32 × Sg) := bnd (pt s0 102 29 0) fun s1 => lp FU (fun q9 (u9 : Int32 × Int32) (s2 : Sg) => if u9.2 = 0 then (bi (fM_isWord 5 s2) fun r4 s3 => if r4 = 0 then (bi (fM_isWord 4 s3) fun r6 s5 => if r6 = 0 then (bv (fM_settles 10 s5) fun s7 => bv (fM_settles 11 s7) fun s8 => if u9.1 = 0 then (some (0, s8)) else (bi (fM_isSign 41 s8) fun r10 s9 => if r10 = 0 then (bi (fM_errs 1 s9) fun r16 s15 => some (r16, s15)) else (bnd (pt s9 102 29 ((s9 102 29) - 1)) fun s11 => bnd (pt s11 102 27 ((s11 102 27) - 1)) fun s12 => bv (fM_settles 9 s12) fun s13 => bv (fM_reads s13) fun s14 => q9 ((u9.1 - 1), u9.2) s14))) else (bv (fM_settles 10 s5) fun s17 => bv (fM_settles 11 s17) fun s18 => bv (fM_waits 11 s18) fun s19 => bv (fM_reads s19) fun s20 => q9 (u9.1, 1) s20)) else (bv (fM_settles 10 s3) fun s21 => bv (fM_waits 10 s21) fun s22 => bv (fM_reads s22) fun s23 => q9 (u9.1, 1) s23)) else (bi (fM_isWord 6 s2) fun r25 s24 => bnd (fun (s26 : Sg) => if (s26 102 27) = 8 then (bi (fM_errs 3 s26) fun r33 s32 => some (r33, s32)) else (bnd (pt s26 102 27 ((s26 102 27) + 1)) fun s27 => bnd (fun (a66_1 : Int32) (s28 : Sg) => bnd (fun (b78_0 : Int32) (s29 : Sg) => bv (fM_waits b78_0 s29) fun s30 => bv (fM_reads s30) fun s31 => q9 (a66_1, u9.2) s31) fun j78 => if r25 = 0 then (j78 12 s28) else (j78 9 s28)) fun j66 => if r25 = 0 then (j66 (u9.1 + 1) s27) else (j66 u9.1 s27))) fun j33 => if r25 = 0 then (bi (fM_isSign 40 s24) fun r35 s34 => if r35 = 0 then (bi (fM_readCompared s34) fun r37 s36 => if r37 = (-1) then (some ((-1), s36)) else (bv (fM_settles 9 s36) fun s38 => q9 (u9.1, 0) s38)) else (j33 s34)) else (j33 s24))) (0, 1) s1
set_option maxHeartbeats 4000000 in
set_option maxRecDepth 100000 in
theorem okM_readAny (s0 : Sg) : ∀ (l : Launch) (w : WC), Ok l w yM_readAny cM_readAny 4 (some .int) 8 evI [.ref (w.ad 102)] s0 (fM_readAny s0) := by
  refine ok_in (ev := fun _ => evI) (av := fun w => [.ref (w.ad 102)]) "LastWordHillModel" rfl (by decide +kernel) (fun _ => rfl) (fun _ => Nat.le_of_ble_eq_true rfl) ?_
  intro C X E
  show GF C evI 0 [some (.ref (C.w.ad 102)), none, none, none] [] s0 (fM_readAny s0)
  unfold fM_readAny
  refine g_iconst X 0 dM_readAny_0 (by decide) ?_
  refine g_istore_n X [some (.ref (C.w.ad 102)), some (.int 0), none, none] dM_readAny_1 (by decide) (Nat.le_of_ble_eq_true rfl) rfl ?_
  refine g_aload_n X dM_readAny_2 rfl ?_
  refine g_iconst X 0 dM_readAny_3 (by decide) ?_
  refine g_putI X fl_M_238 fb_12_29 fp_12_29 k_102 dM_readAny_4 (fun s1 => ?_)
  refine g_iconst X 1 dM_readAny_7 (by decide) ?_
  refine g_istore_n X [some (.ref (C.w.ad 102)), some (.int 0), some (.int 1), none] dM_readAny_8 (by decide) (Nat.le_of_ble_eq_true rfl) rfl ?_
  refine gf_sub (L' := [some (.ref (C.w.ad 102)), some (.int 0), some (.int 1), none]) ?_ (by simp [lsub])
  refine gf_lp (Lf := fun (u9 : Int32 × Int32) => [some (.ref (C.w.ad 102)), some (.int u9.1), some (.int u9.2), none]) (fun q9 hq9 u9 s2 => ?_) FU (0, 1) s1
  refine g_iload_n X dM_readAny_9 rfl ?_
  refine g_zeq X (tgt := 109) dM_readAny_10 (by decide) ?_ ?_
  · refine g_aload_n X dM_readAny_109 rfl ?_
    refine g_iconst X 5 dM_readAny_110 (by decide) ?_
    refine g_virtI X [.int 5] [] k_102 mm_M_isWord mv_M_isWord ml_M_244 (okM_isWord 5 s2 C.l C.w) rfl (by decide) rfl (Nat.le_of_ble_eq_true rfl) dM_readAny_111 (fun r4 s3 => ?_)
    refine g_zeq X (tgt := 138) dM_readAny_114 (by decide) ?_ ?_
    · refine g_aload_n X dM_readAny_138 rfl ?_
      refine g_iconst X 4 dM_readAny_139 (by decide) ?_
      refine g_virtI X [.int 4] [] k_102 mm_M_isWord mv_M_isWord ml_M_244 (okM_isWord 4 s3 C.l C.w) rfl (by decide) rfl (Nat.le_of_ble_eq_true rfl) dM_readAny_140 (fun r6 s5 => ?_)
      refine g_zeq X (tgt := 173) dM_readAny_143 (by decide) ?_ ?_
      · refine g_aload_n X dM_readAny_173 rfl ?_
        refine g_bipush X 10 dM_readAny_174 (by decide) ?_
        refine g_virtV X [.int 10] [] k_102 mm_M_settles mv_M_settles ml_M_253 (okM_settles 10 s5 C.l C.w) rfl (by decide) rfl (Nat.le_of_ble_eq_true rfl) dM_readAny_176 (fun s7 => ?_)
        refine g_aload_n X dM_readAny_179 rfl ?_
        refine g_bipush X 11 dM_readAny_180 (by decide) ?_
        refine g_virtV X [.int 11] [] k_102 mm_M_settles mv_M_settles ml_M_253 (okM_settles 11 s7 C.l C.w) rfl (by decide) rfl (Nat.le_of_ble_eq_true rfl) dM_readAny_182 (fun s8 => ?_)
        refine g_iload_n X dM_readAny_185 rfl ?_
        refine g_zne X (tgt := 191) dM_readAny_186 (by decide) ?_ ?_
        · refine g_iconst X 0 dM_readAny_189 (by decide) ?_
          exact g_iret X E dM_readAny_190
        · refine g_aload_n X dM_readAny_191 rfl ?_
          refine g_bipush X 41 dM_readAny_192 (by decide) ?_
          refine g_virtI X [.int 41] [] k_102 mm_M_isSign mv_M_isSign ml_M_229 (okM_isSign 41 s8 C.l C.w) rfl (by decide) rfl (Nat.le_of_ble_eq_true rfl) dM_readAny_194 (fun r10 s9 => ?_)
          refine g_zne X (tgt := 206) dM_readAny_197 (by decide) ?_ ?_
          · refine g_aload_n X dM_readAny_200 rfl ?_
            refine g_iconst X 1 dM_readAny_201 (by decide) ?_
            refine g_virtI X [.int 1] [] k_102 mm_M_errs mv_M_errs ml_M_216 (okM_errs 1 s9 C.l C.w) rfl (by decide) rfl (Nat.le_of_ble_eq_true rfl) dM_readAny_202 (fun r16 s15 => ?_)
            exact g_iret X E dM_readAny_205
          · refine g_aload_n X dM_readAny_206 rfl ?_
            refine g_aload_n X dM_readAny_207 rfl ?_
            refine g_getI X fl_M_238 fb_12_29 k_102 dM_readAny_208 ?_
            refine g_iconst X 1 dM_readAny_211 (by decide) ?_
            refine g_isub X dM_readAny_212 ?_
            refine g_putI X fl_M_238 fb_12_29 fp_12_29 k_102 dM_readAny_213 (fun s11 => ?_)
            refine g_iload_n X dM_readAny_216 rfl ?_
            refine g_iconst X 1 dM_readAny_217 (by decide) ?_
            refine g_isub X dM_readAny_218 ?_
            refine g_istore_n X [some (.ref (C.w.ad 102)), some (.int (u9.1 - 1)), some (.int u9.2), none] dM_readAny_219 (by decide) (Nat.le_of_ble_eq_true rfl) rfl ?_
            refine g_aload_n X dM_readAny_220 rfl ?_
            refine g_aload_n X dM_readAny_221 rfl ?_
            refine g_getI X fl_M_241 fb_12_27 k_102 dM_readAny_222 ?_
            refine g_iconst X 1 dM_readAny_225 (by decide) ?_
            refine g_isub X dM_readAny_226 ?_
            refine g_putI X fl_M_241 fb_12_27 fp_12_27 k_102 dM_readAny_227 (fun s12 => ?_)
            refine g_aload_n X dM_readAny_230 rfl ?_
            refine g_bipush X 9 dM_readAny_231 (by decide) ?_
            refine g_virtV X [.int 9] [] k_102 mm_M_settles mv_M_settles ml_M_253 (okM_settles 9 s12 C.l C.w) rfl (by decide) rfl (Nat.le_of_ble_eq_true rfl) dM_readAny_233 (fun s13 => ?_)
            refine g_aload_n X dM_readAny_236 rfl ?_
            refine g_virtV X [] [] k_102 mm_M_reads mv_M_reads ml_M_222 (okM_reads s13 C.l C.w) rfl (by decide) rfl (Nat.le_of_ble_eq_true rfl) dM_readAny_237 (fun s14 => ?_)
            refine g_goto X 9 dM_readAny_240 (by decide) ?_
            exact gf_sub (hq9 ((u9.1 - 1), u9.2) s14) (by simp [lsub])
      · refine g_aload_n X dM_readAny_146 rfl ?_
        refine g_bipush X 10 dM_readAny_147 (by decide) ?_
        refine g_virtV X [.int 10] [] k_102 mm_M_settles mv_M_settles ml_M_253 (okM_settles 10 s5 C.l C.w) rfl (by decide) rfl (Nat.le_of_ble_eq_true rfl) dM_readAny_149 (fun s17 => ?_)
        refine g_aload_n X dM_readAny_152 rfl ?_
        refine g_bipush X 11 dM_readAny_153 (by decide) ?_
        refine g_virtV X [.int 11] [] k_102 mm_M_settles mv_M_settles ml_M_253 (okM_settles 11 s17 C.l C.w) rfl (by decide) rfl (Nat.le_of_ble_eq_true rfl) dM_readAny_155 (fun s18 => ?_)
        refine g_aload_n X dM_readAny_158 rfl ?_
        refine g_bipush X 11 dM_readAny_159 (by decide) ?_
        refine g_virtV X [.int 11] [] k_102 mm_M_waits mv_M_waits ml_M_247 (okM_waits 11 s18 C.l C.w) rfl (by decide) rfl (Nat.le_of_ble_eq_true rfl) dM_readAny_161 (fun s19 => ?_)
        refine g_aload_n X dM_readAny_164 rfl ?_
        refine g_virtV X [] [] k_102 mm_M_reads mv_M_reads ml_M_222 (okM_reads s19 C.l C.w) rfl (by decide) rfl (Nat.le_of_ble_eq_true rfl) dM_readAny_165 (fun s20 => ?_)
        refine g_iconst X 1 dM_readAny_168 (by decide) ?_
        refine g_istore_n X [some (.ref (C.w.ad 102)), some (.int u9.1), some (.int 1), none] dM_readAny_169 (by decide) (Nat.le_of_ble_eq_true rfl) rfl ?_
        refine g_goto X 9 dM_readAny_170 (by decide) ?_
        exact gf_sub (hq9 (u9.1, 1) s20) (by simp [lsub])
    · refine g_aload_n X dM_readAny_117 rfl ?_
      refine g_bipush X 10 dM_readAny_118 (by decide) ?_
      refine g_virtV X [.int 10] [] k_102 mm_M_settles mv_M_settles ml_M_253 (okM_settles 10 s3 C.l C.w) rfl (by decide) rfl (Nat.le_of_ble_eq_true rfl) dM_readAny_120 (fun s21 => ?_)
      refine g_aload_n X dM_readAny_123 rfl ?_
      refine g_bipush X 10 dM_readAny_124 (by decide) ?_
      refine g_virtV X [.int 10] [] k_102 mm_M_waits mv_M_waits ml_M_247 (okM_waits 10 s21 C.l C.w) rfl (by decide) rfl (Nat.le_of_ble_eq_true rfl) dM_readAny_126 (fun s22 => ?_)
      refine g_aload_n X dM_readAny_129 rfl ?_
      refine g_virtV X [] [] k_102 mm_M_reads mv_M_reads ml_M_222 (okM_reads s22 C.l C.w) rfl (by decide) rfl (Nat.le_of_ble_eq_true rfl) dM_readAny_130 (fun s23 => ?_)
      refine g_iconst X 1 dM_readAny_133 (by decide) ?_
      refine g_istore_n X [some (.ref (C.w.ad 102)), some (.int u9.1), some (.int 1), none] dM_readAny_134 (by decide) (Nat.le_of_ble_eq_true rfl) rfl ?_
      refine g_goto X 9 dM_readAny_135 (by decide) ?_
      exact gf_sub (hq9 (u9.1, 1) s23) (by simp [lsub])
  · refine g_aload_n X dM_readAny_13 rfl ?_
    refine g_bipush X 6 dM_readAny_14 (by decide) ?_
    refine g_virtI X [.int 6] [] k_102 mm_M_isWord mv_M_isWord ml_M_244 (okM_isWord 6 s2 C.l C.w) rfl (by decide) rfl (Nat.le_of_ble_eq_true rfl) dM_readAny_16 (fun r25 s24 => ?_)
    refine g_istore_n X [some (.ref (C.w.ad 102)), some (.int u9.1), some (.int u9.2), some (.int r25)] dM_readAny_19 (by decide) (Nat.le_of_ble_eq_true rfl) rfl ?_
    refine g_iload_n X dM_readAny_20 rfl ?_
    refine gf_jn (fun j33 => ∀ (s26 : Sg), GF C evI 33 [some (.ref (C.w.ad 102)), some (.int u9.1), some (.int u9.2), some (.int r25)] [] s26 (j33 s26)) ?_ ?_
    · intro s26
      refine g_aload_n X dM_readAny_33 rfl ?_
      refine g_getI X fl_M_241 fb_12_27 k_102 dM_readAny_34 ?_
      refine g_bipush X 8 dM_readAny_37 (by decide) ?_
      refine g_cne X (tgt := 48) dM_readAny_39 (by decide) ?_ ?_
      · refine g_aload_n X dM_readAny_42 rfl ?_
        refine g_iconst X 3 dM_readAny_43 (by decide) ?_
        refine g_virtI X [.int 3] [] k_102 mm_M_errs mv_M_errs ml_M_216 (okM_errs 3 s26 C.l C.w) rfl (by decide) rfl (Nat.le_of_ble_eq_true rfl) dM_readAny_44 (fun r33 s32 => ?_)
        exact g_iret X E dM_readAny_47
      · refine g_aload_n X dM_readAny_48 rfl ?_
        refine g_aload_n X dM_readAny_49 rfl ?_
        refine g_getI X fl_M_241 fb_12_27 k_102 dM_readAny_50 ?_
        refine g_iconst X 1 dM_readAny_53 (by decide) ?_
        refine g_iadd X dM_readAny_54 ?_
        refine g_putI X fl_M_241 fb_12_27 fp_12_27 k_102 dM_readAny_55 (fun s27 => ?_)
        refine g_iload_n X dM_readAny_58 rfl ?_
        refine gf_jn (fun j66 => ∀ (a66_1 : Int32) (s28 : Sg), GF C evI 66 [some (.ref (C.w.ad 102)), some (.int a66_1), some (.int u9.2), some (.int r25)] [] s28 (j66 a66_1 s28)) ?_ ?_
        · intro a66_1 s28
          refine g_aload_n X dM_readAny_66 rfl ?_
          refine g_iload_n X dM_readAny_67 rfl ?_
          refine gf_jn (fun j78 => ∀ (b78_0 : Int32) (s29 : Sg), GF C evI 78 [some (.ref (C.w.ad 102)), some (.int a66_1), some (.int u9.2), none] [.int b78_0, .ref (C.w.ad 102)] s29 (j78 b78_0 s29)) ?_ ?_
          · intro b78_0 s29
            refine g_virtV X [.int b78_0] [] k_102 mm_M_waits mv_M_waits ml_M_247 (okM_waits b78_0 s29 C.l C.w) rfl (by decide) rfl (Nat.le_of_ble_eq_true rfl) dM_readAny_78 (fun s30 => ?_)
            refine g_aload_n X dM_readAny_81 rfl ?_
            refine g_virtV X [] [] k_102 mm_M_reads mv_M_reads ml_M_222 (okM_reads s30 C.l C.w) rfl (by decide) rfl (Nat.le_of_ble_eq_true rfl) dM_readAny_82 (fun s31 => ?_)
            refine g_goto X 9 dM_readAny_85 (by decide) ?_
            exact gf_sub (hq9 (a66_1, u9.2) s31) (by simp [lsub])
          · intro j78 hj78
            refine g_zeq X (tgt := 76) dM_readAny_68 (by decide) ?_ ?_
            · refine g_bipush X 12 dM_readAny_76 (by decide) ?_
              exact gf_sub (hj78 12 s28) (by simp [lsub])
            · refine g_bipush X 9 dM_readAny_71 (by decide) ?_
              refine g_goto X 78 dM_readAny_73 (by decide) ?_
              exact gf_sub (hj78 9 s28) (by simp [lsub])
        · intro j66 hj66
          refine g_zne X (tgt := 66) dM_readAny_59 (by decide) ?_ ?_
          · refine g_iload_n X dM_readAny_62 rfl ?_
            refine g_iconst X 1 dM_readAny_63 (by decide) ?_
            refine g_iadd X dM_readAny_64 ?_
            refine g_istore_n X [some (.ref (C.w.ad 102)), some (.int (u9.1 + 1)), some (.int u9.2), some (.int r25)] dM_readAny_65 (by decide) (Nat.le_of_ble_eq_true rfl) rfl ?_
            exact gf_sub (hj66 (u9.1 + 1) s27) (by simp [lsub])
          · exact gf_sub (hj66 u9.1 s27) (by simp [lsub])
    · intro j33 hj33
      refine g_zne X (tgt := 33) dM_readAny_21 (by decide) ?_ ?_
      · refine g_aload_n X dM_readAny_24 rfl ?_
        refine g_bipush X 40 dM_readAny_25 (by decide) ?_
        refine g_virtI X [.int 40] [] k_102 mm_M_isSign mv_M_isSign ml_M_229 (okM_isSign 40 s24 C.l C.w) rfl (by decide) rfl (Nat.le_of_ble_eq_true rfl) dM_readAny_27 (fun r35 s34 => ?_)
        refine g_zeq X (tgt := 88) dM_readAny_30 (by decide) ?_ ?_
        · refine g_aload_n X dM_readAny_88 rfl ?_
          refine g_virtI X [] [] k_102 mm_M_readCompared mv_M_readCompared ml_M_250 (okM_readCompared s34 C.l C.w) rfl (by decide) rfl (Nat.le_of_ble_eq_true rfl) dM_readAny_89 (fun r37 s36 => ?_)
          refine g_iconst X (-1) dM_readAny_92 (by decide) ?_
          refine g_cne X (tgt := 98) dM_readAny_93 (by decide) ?_ ?_
          · refine g_iconst X (-1) dM_readAny_96 (by decide) ?_
            exact g_iret X E dM_readAny_97
          · refine g_aload_n X dM_readAny_98 rfl ?_
            refine g_bipush X 9 dM_readAny_99 (by decide) ?_
            refine g_virtV X [.int 9] [] k_102 mm_M_settles mv_M_settles ml_M_253 (okM_settles 9 s36 C.l C.w) rfl (by decide) rfl (Nat.le_of_ble_eq_true rfl) dM_readAny_101 (fun s38 => ?_)
            refine g_iconst X 0 dM_readAny_104 (by decide) ?_
            refine g_istore_n X [some (.ref (C.w.ad 102)), some (.int u9.1), some (.int 0), some (.int r25)] dM_readAny_105 (by decide) (Nat.le_of_ble_eq_true rfl) rfl ?_
            refine g_goto X 9 dM_readAny_106 (by decide) ?_
            exact gf_sub (hq9 (u9.1, 0) s38) (by simp [lsub])
        · exact gf_sub (hj33 s34) (by simp [lsub])
      · exact gf_sub (hj33 s24) (by simp [lsub])
def yM_isLineWord : MethodName := ⟨"LastWordHillModel", "isLineWord", "()Z"⟩
abbrev cM_isLineWord : ByteArray := prog_14_method_45_code
theorem dM_isLineWord_0 : decode cM_isLineWord 0 = .ok (.aload_n 0, 1) := by decide +kernel
theorem dM_isLineWord_1 : decode cM_isLineWord 1 = .ok (.getfield 185, 3) := by decide +kernel
theorem dM_isLineWord_4 : decode cM_isLineWord 4 = .ok (.iconst 2, 1) := by decide +kernel
theorem dM_isLineWord_5 : decode cM_isLineWord 5 = .ok (.if_icmp .ne 20, 3) := by decide +kernel
theorem dM_isLineWord_25 : decode cM_isLineWord 25 = .ok (.iconst 0, 1) := by decide +kernel
theorem dM_isLineWord_26 : decode cM_isLineWord 26 = .ok (.ireturn, 1) := by decide +kernel
theorem dM_isLineWord_8 : decode cM_isLineWord 8 = .ok (.aload_n 0, 1) := by decide +kernel
theorem dM_isLineWord_9 : decode cM_isLineWord 9 = .ok (.aload_n 0, 1) := by decide +kernel
theorem dM_isLineWord_10 : decode cM_isLineWord 10 = .ok (.getfield 188, 3) := by decide +kernel
theorem dM_isLineWord_13 : decode cM_isLineWord 13 = .ok (.iconst 0, 1) := by decide +kernel
theorem dM_isLineWord_14 : decode cM_isLineWord 14 = .ok (.iconst 2, 1) := by decide +kernel
theorem dM_isLineWord_15 : decode cM_isLineWord 15 = .ok (.invokevirtual 153, 3) := by decide +kernel
theorem dM_isLineWord_18 : decode cM_isLineWord 18 = .ok (.ifCond .eq 7, 3) := by decide +kernel
theorem dM_isLineWord_21 : decode cM_isLineWord 21 = .ok (.iconst 1, 1) := by decide +kernel
theorem dM_isLineWord_22 : decode cM_isLineWord 22 = .ok (.goto 4, 3) := by decide +kernel
def fM_isLineWord (s0 : Sg) : Option (Int32 × Sg) := if (s0 102 15) = 2 then (bi (fM_isIn (s0 102 16) 0 2 s0) fun r2 s1 => if r2 = 0 then (gb 0 (some (0, s1))) else (gb 1 (some (1, s1)))) else (gb 0 (some (0, s0)))
set_option maxHeartbeats 4000000 in
set_option maxRecDepth 100000 in
theorem okM_isLineWord (s0 : Sg) : ∀ (l : Launch) (w : WC), Ok l w yM_isLineWord cM_isLineWord 1 (some .boolean) 2 evI [.ref (w.ad 102)] s0 (fM_isLineWord s0) := by
  refine ok_in (ev := fun _ => evI) (av := fun w => [.ref (w.ad 102)]) "LastWordHillModel" rfl (by decide +kernel) (fun _ => rfl) (fun _ => Nat.le_of_ble_eq_true rfl) ?_
  intro C X E
  show GF C evI 0 [some (.ref (C.w.ad 102))] [] s0 (fM_isLineWord s0)
  unfold fM_isLineWord
  refine g_aload_n X dM_isLineWord_0 rfl ?_
  refine g_getI X fl_M_185 fb_12_15 k_102 dM_isLineWord_1 ?_
  refine g_iconst X 2 dM_isLineWord_4 (by decide) ?_
  refine g_cne X (tgt := 25) dM_isLineWord_5 (by decide) ?_ ?_
  · refine g_aload_n X dM_isLineWord_8 rfl ?_
    refine g_aload_n X dM_isLineWord_9 rfl ?_
    refine g_getI X fl_M_188 fb_12_16 k_102 dM_isLineWord_10 ?_
    refine g_iconst X 0 dM_isLineWord_13 (by decide) ?_
    refine g_iconst X 2 dM_isLineWord_14 (by decide) ?_
    refine g_virtI X [.int (s0 102 16), .int 0, .int 2] [] k_102 mm_M_isIn mv_M_isIn ml_M_153 (okM_isIn (s0 102 16) 0 2 s0 C.l C.w) rfl (by decide) rfl (Nat.le_of_ble_eq_true rfl) dM_isLineWord_15 (fun r2 s1 => ?_)
    refine g_zeq X (tgt := 25) dM_isLineWord_18 (by decide) ?_ ?_
    · refine g_iconst X 0 dM_isLineWord_25 (by decide) ?_
      exact g_zret X E dM_isLineWord_26
    · refine g_iconst X 1 dM_isLineWord_21 (by decide) ?_
      refine g_goto X 26 dM_isLineWord_22 (by decide) ?_
      exact g_zret X E dM_isLineWord_26
  · refine g_iconst X 0 dM_isLineWord_25 (by decide) ?_
    exact g_zret X E dM_isLineWord_26
def yM_readLaw : MethodName := ⟨"LastWordHillModel", "readLaw", "()I"⟩
abbrev cM_readLaw : ByteArray := prog_14_method_46_code
theorem dM_readLaw_0 : decode cM_readLaw 0 = .ok (.iconst 0, 1) := by decide +kernel
theorem dM_readLaw_1 : decode cM_readLaw 1 = .ok (.istore_n 1, 1) := by decide +kernel
theorem dM_readLaw_2 : decode cM_readLaw 2 = .ok (.aload_n 0, 1) := by decide +kernel
theorem dM_readLaw_3 : decode cM_readLaw 3 = .ok (.invokevirtual 256, 3) := by decide +kernel
theorem mm_M_isLineWord : MMc yM_isLineWord cM_isLineWord 1 (some .boolean) 0 := ⟨hz_in 1754 (by decide +kernel) (by decide +kernel), hz_in 147 (by decide +kernel) (by decide +kernel), by decide +kernel, by decide⟩
theorem mv_M_isLineWord : MMv yM_isLineWord 12 := ⟨hz_in 1753 (by decide +kernel) (by decide +kernel), hz_in 74 (by decide +kernel) (by decide +kernel), _, _, rfl, by decide⟩
theorem ml_M_256 : Cond.methodLink "LastWordHillModel" 256 yM_isLineWord ∈ hz_wt := hz_in 1751 (by decide +kernel) (by decide +kernel)
theorem dM_readLaw_6 : decode cM_readLaw 6 = .ok (.ifCond .eq 122, 3) := by decide +kernel
theorem dM_readLaw_128 : decode cM_readLaw 128 = .ok (.aload_n 0, 1) := by decide +kernel
theorem dM_readLaw_129 : decode cM_readLaw 129 = .ok (.getfield 185, 3) := by decide +kernel
theorem dM_readLaw_132 : decode cM_readLaw 132 = .ok (.ifCond .ne 7, 3) := by decide +kernel
theorem dM_readLaw_139 : decode cM_readLaw 139 = .ok (.aload_n 0, 1) := by decide +kernel
theorem dM_readLaw_140 : decode cM_readLaw 140 = .ok (.iconst 1, 1) := by decide +kernel
theorem dM_readLaw_141 : decode cM_readLaw 141 = .ok (.invokevirtual 216, 3) := by decide +kernel
theorem dM_readLaw_144 : decode cM_readLaw 144 = .ok (.ireturn, 1) := by decide +kernel
theorem dM_readLaw_135 : decode cM_readLaw 135 = .ok (.iload_n 1, 1) := by decide +kernel
theorem dM_readLaw_136 : decode cM_readLaw 136 = .ok (.goto 8, 3) := by decide +kernel
theorem dM_readLaw_9 : decode cM_readLaw 9 = .ok (.iload_n 1, 1) := by decide +kernel
theorem dM_readLaw_10 : decode cM_readLaw 10 = .ok (.bipush 16, 2) := by decide +kernel
theorem dM_readLaw_12 : decode cM_readLaw 12 = .ok (.if_icmp .ne 9, 3) := by decide +kernel
theorem dM_readLaw_21 : decode cM_readLaw 21 = .ok (.bipush 32, 2) := by decide +kernel
theorem dM_readLaw_23 : decode cM_readLaw 23 = .ok (.iload_n 1, 1) := by decide +kernel
theorem dM_readLaw_24 : decode cM_readLaw 24 = .ok (.iadd, 1) := by decide +kernel
theorem dM_readLaw_25 : decode cM_readLaw 25 = .ok (.istore_n 2, 1) := by decide +kernel
theorem dM_readLaw_26 : decode cM_readLaw 26 = .ok (.aload_n 0, 1) := by decide +kernel
theorem dM_readLaw_27 : decode cM_readLaw 27 = .ok (.getfield 40, 3) := by decide +kernel
theorem fl_M_40 : FLk "LastWordHillModel" 40 12 19 := ⟨_, _, _, rfl, by decide, hz_in 1431 (by decide +kernel) (by decide +kernel), nL12, by decide, by decide⟩
theorem k_113 : hz_kd 113 = 13 := by decide
theorem fb_12_19 : (hz_bs 12)[19]? = some true := by decide
theorem r_102_19 : hz_rf 102 19 = 113 := by decide
theorem dM_readLaw_30 : decode cM_readLaw 30 = .ok (.iload_n 2, 1) := by decide +kernel
theorem dM_readLaw_31 : decode cM_readLaw 31 = .ok (.aload_n 0, 1) := by decide +kernel
theorem dM_readLaw_32 : decode cM_readLaw 32 = .ok (.getfield 188, 3) := by decide +kernel
theorem dM_readLaw_35 : decode cM_readLaw 35 = .ok (.iastore, 1) := by decide +kernel
theorem ln_113 : hz_ln 113 = 48 := by decide
theorem dM_readLaw_36 : decode cM_readLaw 36 = .ok (.aload_n 0, 1) := by decide +kernel
theorem dM_readLaw_37 : decode cM_readLaw 37 = .ok (.invokevirtual 222, 3) := by decide +kernel
theorem dM_readLaw_40 : decode cM_readLaw 40 = .ok (.aload_n 0, 1) := by decide +kernel
theorem dM_readLaw_41 : decode cM_readLaw 41 = .ok (.getfield 43, 3) := by decide +kernel
theorem fl_M_43 : FLk "LastWordHillModel" 43 12 20 := ⟨_, _, _, rfl, by decide, hz_in 1432 (by decide +kernel) (by decide +kernel), nL12, by decide, by decide⟩
theorem k_114 : hz_kd 114 = 13 := by decide
theorem fb_12_20 : (hz_bs 12)[20]? = some true := by decide
theorem r_102_20 : hz_rf 102 20 = 114 := by decide
theorem dM_readLaw_44 : decode cM_readLaw 44 = .ok (.iload_n 2, 1) := by decide +kernel
theorem dM_readLaw_45 : decode cM_readLaw 45 = .ok (.aload_n 0, 1) := by decide +kernel
theorem dM_readLaw_46 : decode cM_readLaw 46 = .ok (.getfield 210, 3) := by decide +kernel
theorem dM_readLaw_49 : decode cM_readLaw 49 = .ok (.iastore, 1) := by decide +kernel
theorem ln_114 : hz_ln 114 = 48 := by decide
theorem dM_readLaw_50 : decode cM_readLaw 50 = .ok (.aload_n 0, 1) := by decide +kernel
theorem dM_readLaw_51 : decode cM_readLaw 51 = .ok (.invokevirtual 235, 3) := by decide +kernel
theorem dM_readLaw_54 : decode cM_readLaw 54 = .ok (.iconst (-1), 1) := by decide +kernel
theorem dM_readLaw_55 : decode cM_readLaw 55 = .ok (.if_icmp .ne 5, 3) := by decide +kernel
theorem dM_readLaw_60 : decode cM_readLaw 60 = .ok (.aload_n 0, 1) := by decide +kernel
theorem dM_readLaw_61 : decode cM_readLaw 61 = .ok (.getfield 46, 3) := by decide +kernel
theorem fl_M_46 : FLk "LastWordHillModel" 46 12 21 := ⟨_, _, _, rfl, by decide, hz_in 1433 (by decide +kernel) (by decide +kernel), nL12, by decide, by decide⟩
theorem k_115 : hz_kd 115 = 13 := by decide
theorem fb_12_21 : (hz_bs 12)[21]? = some true := by decide
theorem r_102_21 : hz_rf 102 21 = 115 := by decide
theorem dM_readLaw_64 : decode cM_readLaw 64 = .ok (.iload_n 2, 1) := by decide +kernel
theorem dM_readLaw_65 : decode cM_readLaw 65 = .ok (.aload_n 0, 1) := by decide +kernel
theorem dM_readLaw_66 : decode cM_readLaw 66 = .ok (.getfield 210, 3) := by decide +kernel
theorem dM_readLaw_69 : decode cM_readLaw 69 = .ok (.iastore, 1) := by decide +kernel
theorem ln_115 : hz_ln 115 = 48 := by decide
theorem dM_readLaw_70 : decode cM_readLaw 70 = .ok (.aload_n 0, 1) := by decide +kernel
theorem dM_readLaw_71 : decode cM_readLaw 71 = .ok (.iconst 3, 1) := by decide +kernel
theorem dM_readLaw_72 : decode cM_readLaw 72 = .ok (.invokevirtual 244, 3) := by decide +kernel
theorem dM_readLaw_75 : decode cM_readLaw 75 = .ok (.ifCond .eq 17, 3) := by decide +kernel
theorem dM_readLaw_92 : decode cM_readLaw 92 = .ok (.aload_n 0, 1) := by decide +kernel
theorem dM_readLaw_93 : decode cM_readLaw 93 = .ok (.getfield 49, 3) := by decide +kernel
theorem fl_M_49 : FLk "LastWordHillModel" 49 12 22 := ⟨_, _, _, rfl, by decide, hz_in 1434 (by decide +kernel) (by decide +kernel), nL12, by decide, by decide⟩
theorem k_116 : hz_kd 116 = 13 := by decide
theorem fb_12_22 : (hz_bs 12)[22]? = some true := by decide
theorem r_102_22 : hz_rf 102 22 = 116 := by decide
theorem dM_readLaw_96 : decode cM_readLaw 96 = .ok (.iload_n 2, 1) := by decide +kernel
theorem dM_readLaw_97 : decode cM_readLaw 97 = .ok (.aload_n 0, 1) := by decide +kernel
theorem dM_readLaw_98 : decode cM_readLaw 98 = .ok (.getfield 210, 3) := by decide +kernel
theorem dM_readLaw_101 : decode cM_readLaw 101 = .ok (.iastore, 1) := by decide +kernel
theorem ln_116 : hz_ln 116 = 48 := by decide
theorem dM_readLaw_102 : decode cM_readLaw 102 = .ok (.aload_n 0, 1) := by decide +kernel
theorem dM_readLaw_103 : decode cM_readLaw 103 = .ok (.bipush 59, 2) := by decide +kernel
theorem dM_readLaw_105 : decode cM_readLaw 105 = .ok (.invokevirtual 229, 3) := by decide +kernel
theorem dM_readLaw_108 : decode cM_readLaw 108 = .ok (.ifCond .ne 9, 3) := by decide +kernel
theorem dM_readLaw_117 : decode cM_readLaw 117 = .ok (.aload_n 0, 1) := by decide +kernel
theorem dM_readLaw_118 : decode cM_readLaw 118 = .ok (.invokevirtual 222, 3) := by decide +kernel
theorem dM_readLaw_121 : decode cM_readLaw 121 = .ok (.iload_n 1, 1) := by decide +kernel
theorem dM_readLaw_122 : decode cM_readLaw 122 = .ok (.iconst 1, 1) := by decide +kernel
theorem dM_readLaw_123 : decode cM_readLaw 123 = .ok (.iadd, 1) := by decide +kernel
theorem dM_readLaw_124 : decode cM_readLaw 124 = .ok (.istore_n 1, 1) := by decide +kernel
theorem dM_readLaw_125 : decode cM_readLaw 125 = .ok (.goto (-123), 3) := by decide +kernel
theorem dM_readLaw_111 : decode cM_readLaw 111 = .ok (.aload_n 0, 1) := by decide +kernel
theorem dM_readLaw_112 : decode cM_readLaw 112 = .ok (.iconst 1, 1) := by decide +kernel
theorem dM_readLaw_113 : decode cM_readLaw 113 = .ok (.invokevirtual 216, 3) := by decide +kernel
theorem dM_readLaw_116 : decode cM_readLaw 116 = .ok (.ireturn, 1) := by decide +kernel
theorem dM_readLaw_78 : decode cM_readLaw 78 = .ok (.aload_n 0, 1) := by decide +kernel
theorem dM_readLaw_79 : decode cM_readLaw 79 = .ok (.invokevirtual 222, 3) := by decide +kernel
theorem dM_readLaw_82 : decode cM_readLaw 82 = .ok (.aload_n 0, 1) := by decide +kernel
theorem dM_readLaw_83 : decode cM_readLaw 83 = .ok (.invokevirtual 260, 3) := by decide +kernel
theorem mm_M_readAny : MMc yM_readAny cM_readAny 4 (some .int) 0 := ⟨hz_in 1778 (by decide +kernel) (by decide +kernel), hz_in 147 (by decide +kernel) (by decide +kernel), by decide +kernel, by decide⟩
theorem mv_M_readAny : MMv yM_readAny 12 := ⟨hz_in 1777 (by decide +kernel) (by decide +kernel), hz_in 80 (by decide +kernel) (by decide +kernel), _, _, rfl, by decide⟩
theorem ml_M_260 : Cond.methodLink "LastWordHillModel" 260 yM_readAny ∈ hz_wt := hz_in 1775 (by decide +kernel) (by decide +kernel)
theorem dM_readLaw_86 : decode cM_readLaw 86 = .ok (.iconst (-1), 1) := by decide +kernel
theorem dM_readLaw_87 : decode cM_readLaw 87 = .ok (.if_icmp .ne 5, 3) := by decide +kernel
theorem dM_readLaw_90 : decode cM_readLaw 90 = .ok (.iconst (-1), 1) := by decide +kernel
theorem dM_readLaw_91 : decode cM_readLaw 91 = .ok (.ireturn, 1) := by decide +kernel
theorem dM_readLaw_58 : decode cM_readLaw 58 = .ok (.iconst (-1), 1) := by decide +kernel
theorem dM_readLaw_59 : decode cM_readLaw 59 = .ok (.ireturn, 1) := by decide +kernel
theorem dM_readLaw_15 : decode cM_readLaw 15 = .ok (.aload_n 0, 1) := by decide +kernel
theorem dM_readLaw_16 : decode cM_readLaw 16 = .ok (.iconst 3, 1) := by decide +kernel
theorem dM_readLaw_17 : decode cM_readLaw 17 = .ok (.invokevirtual 216, 3) := by decide +kernel
theorem dM_readLaw_20 : decode cM_readLaw 20 = .ok (.ireturn, 1) := by decide +kernel
def fM_readLaw (s0 : Sg) : Option (Int32 × Sg) := lp FU (fun q2 (u2 : Int32) (s1 : Sg) => bi (fM_isLineWord s1) fun r3 s2 => if r3 = 0 then (if (s2 102 15) = 0 then (some (u2, s2)) else (bi (fM_errs 1 s2) fun r5 s4 => some (r5, s4))) else (if u2 = 16 then (bi (fM_errs 3 s2) fun r25 s24 => some (r25, s24)) else (gd (32 + u2) 48 (bnd (pt s2 113 (ix (32 + u2)) (s2 102 16)) fun s6 => bv (fM_reads s6) fun s7 => gd (32 + u2) 48 (bnd (pt s7 114 (ix (32 + u2)) (s7 102 26)) fun s8 => bi (fM_readSum s8) fun r10 s9 => if r10 = (-1) then (some ((-1), s9)) else (gd (32 + u2) 48 (bnd (pt s9 115 (ix (32 + u2)) (s9 102 26)) fun s11 => bi (fM_isWord 3 s11) fun r13 s12 => bnd (fun (s14 : Sg) => gd (32 + u2) 48 (bnd (pt s14 116 (ix (32 + u2)) (s14 102 26)) fun s15 => bi (fM_isSign 59 s15) fun r17 s16 => if r17 = 0 then (bi (fM_errs 1 s16) fun r20 s19 => some (r20, s19)) else (bv (fM_reads s16) fun s18 => q2 (u2 + 1) s18))) fun j92 => if r13 = 0 then (j92 s12) else (bv (fM_reads s12) fun s21 => bi (fM_readAny s21) fun r23 s22 => if r23 = (-1) then (some ((-1), s22)) else (j92 s22))))))))) 0 s0
set_option maxHeartbeats 4000000 in
set_option maxRecDepth 100000 in
theorem okM_readLaw (s0 : Sg) : ∀ (l : Launch) (w : WC), Ok l w yM_readLaw cM_readLaw 3 (some .int) 9 evI [.ref (w.ad 102)] s0 (fM_readLaw s0) := by
  refine ok_in (ev := fun _ => evI) (av := fun w => [.ref (w.ad 102)]) "LastWordHillModel" rfl (by decide +kernel) (fun _ => rfl) (fun _ => Nat.le_of_ble_eq_true rfl) ?_
  intro C X E
  show GF C evI 0 [some (.ref (C.w.ad 102)), none, none] [] s0 (fM_readLaw s0)
  unfold fM_readLaw
  refine g_iconst X 0 dM_readLaw_0 (by decide) ?_
  refine g_istore_n X [some (.ref (C.w.ad 102)), some (.int 0), none] dM_readLaw_1 (by decide) (Nat.le_of_ble_eq_true rfl) rfl ?_
  refine gf_sub (L' := [some (.ref (C.w.ad 102)), some (.int 0), none]) ?_ (by simp [lsub])
  refine gf_lp (Lf := fun (u2 : Int32) => [some (.ref (C.w.ad 102)), some (.int u2), none]) (fun q2 hq2 u2 s1 => ?_) FU 0 s0
  refine g_aload_n X dM_readLaw_2 rfl ?_
  refine g_virtI X [] [] k_102 mm_M_isLineWord mv_M_isLineWord ml_M_256 (okM_isLineWord s1 C.l C.w) rfl (by decide) rfl (Nat.le_of_ble_eq_true rfl) dM_readLaw_3 (fun r3 s2 => ?_)
  refine g_zeq X (tgt := 128) dM_readLaw_6 (by decide) ?_ ?_
  · refine g_aload_n X dM_readLaw_128 rfl ?_
    refine g_getI X fl_M_185 fb_12_15 k_102 dM_readLaw_129 ?_
    refine g_zne X (tgt := 139) dM_readLaw_132 (by decide) ?_ ?_
    · refine g_iload_n X dM_readLaw_135 rfl ?_
      refine g_goto X 144 dM_readLaw_136 (by decide) ?_
      exact g_iret X E dM_readLaw_144
    · refine g_aload_n X dM_readLaw_139 rfl ?_
      refine g_iconst X 1 dM_readLaw_140 (by decide) ?_
      refine g_virtI X [.int 1] [] k_102 mm_M_errs mv_M_errs ml_M_216 (okM_errs 1 s2 C.l C.w) rfl (by decide) rfl (Nat.le_of_ble_eq_true rfl) dM_readLaw_141 (fun r5 s4 => ?_)
      exact g_iret X E dM_readLaw_144
  · refine g_iload_n X dM_readLaw_9 rfl ?_
    refine g_bipush X 16 dM_readLaw_10 (by decide) ?_
    refine g_cne X (tgt := 21) dM_readLaw_12 (by decide) ?_ ?_
    · refine g_aload_n X dM_readLaw_15 rfl ?_
      refine g_iconst X 3 dM_readLaw_16 (by decide) ?_
      refine g_virtI X [.int 3] [] k_102 mm_M_errs mv_M_errs ml_M_216 (okM_errs 3 s2 C.l C.w) rfl (by decide) rfl (Nat.le_of_ble_eq_true rfl) dM_readLaw_17 (fun r25 s24 => ?_)
      exact g_iret X E dM_readLaw_20
    · refine g_bipush X 32 dM_readLaw_21 (by decide) ?_
      refine g_iload_n X dM_readLaw_23 rfl ?_
      refine g_iadd X dM_readLaw_24 ?_
      refine g_istore_n X [some (.ref (C.w.ad 102)), some (.int u2), some (.int (32 + u2))] dM_readLaw_25 (by decide) (Nat.le_of_ble_eq_true rfl) rfl ?_
      refine g_aload_n X dM_readLaw_26 rfl ?_
      refine g_getN X fl_M_40 fb_12_19 k_102 r_102_19 dM_readLaw_27 ?_
      refine g_iload_n X dM_readLaw_30 rfl ?_
      refine g_aload_n X dM_readLaw_31 rfl ?_
      refine g_getI X fl_M_188 fb_12_16 k_102 dM_readLaw_32 ?_
      refine g_iast X k_113 ln_113 dM_readLaw_35 (fun s6 => ?_)
      refine g_aload_n X dM_readLaw_36 rfl ?_
      refine g_virtV X [] [] k_102 mm_M_reads mv_M_reads ml_M_222 (okM_reads s6 C.l C.w) rfl (by decide) rfl (Nat.le_of_ble_eq_true rfl) dM_readLaw_37 (fun s7 => ?_)
      refine g_aload_n X dM_readLaw_40 rfl ?_
      refine g_getN X fl_M_43 fb_12_20 k_102 r_102_20 dM_readLaw_41 ?_
      refine g_iload_n X dM_readLaw_44 rfl ?_
      refine g_aload_n X dM_readLaw_45 rfl ?_
      refine g_getI X fl_M_210 fb_12_26 k_102 dM_readLaw_46 ?_
      refine g_iast X k_114 ln_114 dM_readLaw_49 (fun s8 => ?_)
      refine g_aload_n X dM_readLaw_50 rfl ?_
      refine g_virtI X [] [] k_102 mm_M_readSum mv_M_readSum ml_M_235 (okM_readSum s8 C.l C.w) rfl (by decide) rfl (Nat.le_of_ble_eq_true rfl) dM_readLaw_51 (fun r10 s9 => ?_)
      refine g_iconst X (-1) dM_readLaw_54 (by decide) ?_
      refine g_cne X (tgt := 60) dM_readLaw_55 (by decide) ?_ ?_
      · refine g_iconst X (-1) dM_readLaw_58 (by decide) ?_
        exact g_iret X E dM_readLaw_59
      · refine g_aload_n X dM_readLaw_60 rfl ?_
        refine g_getN X fl_M_46 fb_12_21 k_102 r_102_21 dM_readLaw_61 ?_
        refine g_iload_n X dM_readLaw_64 rfl ?_
        refine g_aload_n X dM_readLaw_65 rfl ?_
        refine g_getI X fl_M_210 fb_12_26 k_102 dM_readLaw_66 ?_
        refine g_iast X k_115 ln_115 dM_readLaw_69 (fun s11 => ?_)
        refine g_aload_n X dM_readLaw_70 rfl ?_
        refine g_iconst X 3 dM_readLaw_71 (by decide) ?_
        refine g_virtI X [.int 3] [] k_102 mm_M_isWord mv_M_isWord ml_M_244 (okM_isWord 3 s11 C.l C.w) rfl (by decide) rfl (Nat.le_of_ble_eq_true rfl) dM_readLaw_72 (fun r13 s12 => ?_)
        refine gf_jn (fun j92 => ∀ (s14 : Sg), GF C evI 92 [some (.ref (C.w.ad 102)), some (.int u2), some (.int (32 + u2))] [] s14 (j92 s14)) ?_ ?_
        · intro s14
          refine g_aload_n X dM_readLaw_92 rfl ?_
          refine g_getN X fl_M_49 fb_12_22 k_102 r_102_22 dM_readLaw_93 ?_
          refine g_iload_n X dM_readLaw_96 rfl ?_
          refine g_aload_n X dM_readLaw_97 rfl ?_
          refine g_getI X fl_M_210 fb_12_26 k_102 dM_readLaw_98 ?_
          refine g_iast X k_116 ln_116 dM_readLaw_101 (fun s15 => ?_)
          refine g_aload_n X dM_readLaw_102 rfl ?_
          refine g_bipush X 59 dM_readLaw_103 (by decide) ?_
          refine g_virtI X [.int 59] [] k_102 mm_M_isSign mv_M_isSign ml_M_229 (okM_isSign 59 s15 C.l C.w) rfl (by decide) rfl (Nat.le_of_ble_eq_true rfl) dM_readLaw_105 (fun r17 s16 => ?_)
          refine g_zne X (tgt := 117) dM_readLaw_108 (by decide) ?_ ?_
          · refine g_aload_n X dM_readLaw_111 rfl ?_
            refine g_iconst X 1 dM_readLaw_112 (by decide) ?_
            refine g_virtI X [.int 1] [] k_102 mm_M_errs mv_M_errs ml_M_216 (okM_errs 1 s16 C.l C.w) rfl (by decide) rfl (Nat.le_of_ble_eq_true rfl) dM_readLaw_113 (fun r20 s19 => ?_)
            exact g_iret X E dM_readLaw_116
          · refine g_aload_n X dM_readLaw_117 rfl ?_
            refine g_virtV X [] [] k_102 mm_M_reads mv_M_reads ml_M_222 (okM_reads s16 C.l C.w) rfl (by decide) rfl (Nat.le_of_ble_eq_true rfl) dM_readLaw_118 (fun s18 => ?_)
            refine g_iload_n X dM_readLaw_121 rfl ?_
            refine g_iconst X 1 dM_readLaw_122 (by decide) ?_
            refine g_iadd X dM_readLaw_123 ?_
            refine g_istore_n X [some (.ref (C.w.ad 102)), some (.int (u2 + 1)), some (.int (32 + u2))] dM_readLaw_124 (by decide) (Nat.le_of_ble_eq_true rfl) rfl ?_
            refine g_goto X 2 dM_readLaw_125 (by decide) ?_
            exact gf_sub (hq2 (u2 + 1) s18) (by simp [lsub])
        · intro j92 hj92
          refine g_zeq X (tgt := 92) dM_readLaw_75 (by decide) ?_ ?_
          · exact gf_sub (hj92 s12) (by simp [lsub])
          · refine g_aload_n X dM_readLaw_78 rfl ?_
            refine g_virtV X [] [] k_102 mm_M_reads mv_M_reads ml_M_222 (okM_reads s12 C.l C.w) rfl (by decide) rfl (Nat.le_of_ble_eq_true rfl) dM_readLaw_79 (fun s21 => ?_)
            refine g_aload_n X dM_readLaw_82 rfl ?_
            refine g_virtI X [] [] k_102 mm_M_readAny mv_M_readAny ml_M_260 (okM_readAny s21 C.l C.w) rfl (by decide) rfl (Nat.le_of_ble_eq_true rfl) dM_readLaw_83 (fun r23 s22 => ?_)
            refine g_iconst X (-1) dM_readLaw_86 (by decide) ?_
            refine g_cne X (tgt := 92) dM_readLaw_87 (by decide) ?_ ?_
            · refine g_iconst X (-1) dM_readLaw_90 (by decide) ?_
              exact g_iret X E dM_readLaw_91
            · exact gf_sub (hj92 s22) (by simp [lsub])
def yM_takesLaw : MethodName := ⟨"LastWordHillModel", "takesLaw", "(I)V"⟩
abbrev cM_takesLaw : ByteArray := prog_14_method_47_code
theorem dM_takesLaw_0 : decode cM_takesLaw 0 = .ok (.iconst 0, 1) := by decide +kernel
theorem dM_takesLaw_1 : decode cM_takesLaw 1 = .ok (.istore_n 2, 1) := by decide +kernel
theorem dM_takesLaw_2 : decode cM_takesLaw 2 = .ok (.iload_n 2, 1) := by decide +kernel
theorem dM_takesLaw_3 : decode cM_takesLaw 3 = .ok (.iload_n 1, 1) := by decide +kernel
theorem dM_takesLaw_4 : decode cM_takesLaw 4 = .ok (.if_icmp .ge 101, 3) := by decide +kernel
theorem dM_takesLaw_105 : decode cM_takesLaw 105 = .ok (.iconst 0, 1) := by decide +kernel
theorem dM_takesLaw_106 : decode cM_takesLaw 106 = .ok (.istore_n 2, 1) := by decide +kernel
theorem dM_takesLaw_107 : decode cM_takesLaw 107 = .ok (.iload_n 2, 1) := by decide +kernel
theorem dM_takesLaw_108 : decode cM_takesLaw 108 = .ok (.aload_n 0, 1) := by decide +kernel
theorem dM_takesLaw_109 : decode cM_takesLaw 109 = .ok (.getfield 210, 3) := by decide +kernel
theorem dM_takesLaw_112 : decode cM_takesLaw 112 = .ok (.if_icmp .ge 59, 3) := by decide +kernel
theorem dM_takesLaw_171 : decode cM_takesLaw 171 = .ok (.aload_n 0, 1) := by decide +kernel
theorem dM_takesLaw_172 : decode cM_takesLaw 172 = .ok (.getfield 37, 3) := by decide +kernel
theorem fl_M_37 : FLk "LastWordHillModel" 37 12 18 := ⟨_, _, _, rfl, by decide, hz_in 1430 (by decide +kernel) (by decide +kernel), nL12, by decide, by decide⟩
theorem k_112 : hz_kd 112 = 13 := by decide
theorem fb_12_18 : (hz_bs 12)[18]? = some true := by decide
theorem r_102_18 : hz_rf 102 18 = 112 := by decide
theorem dM_takesLaw_175 : decode cM_takesLaw 175 = .ok (.aload_n 0, 1) := by decide +kernel
theorem dM_takesLaw_176 : decode cM_takesLaw 176 = .ok (.getfield 263, 3) := by decide +kernel
theorem fl_M_263 : FLk "LastWordHillModel" 263 12 25 := ⟨_, _, _, rfl, by decide, hz_in 1437 (by decide +kernel) (by decide +kernel), nL12, by decide, by decide⟩
theorem fb_12_25 : (hz_bs 12)[25]? = some false := by decide
theorem dM_takesLaw_179 : decode cM_takesLaw 179 = .ok (.iload_n 1, 1) := by decide +kernel
theorem dM_takesLaw_180 : decode cM_takesLaw 180 = .ok (.iastore, 1) := by decide +kernel
theorem ln_112 : hz_ln 112 = 2 := by decide
theorem dM_takesLaw_181 : decode cM_takesLaw 181 = .ok (.return_, 1) := by decide +kernel
theorem dM_takesLaw_115 : decode cM_takesLaw 115 = .ok (.aload_n 0, 1) := by decide +kernel
theorem dM_takesLaw_116 : decode cM_takesLaw 116 = .ok (.getfield 52, 3) := by decide +kernel
theorem dM_takesLaw_119 : decode cM_takesLaw 119 = .ok (.sipush 400, 3) := by decide +kernel
theorem dM_takesLaw_122 : decode cM_takesLaw 122 = .ok (.aload_n 0, 1) := by decide +kernel
theorem dM_takesLaw_123 : decode cM_takesLaw 123 = .ok (.getfield 263, 3) := by decide +kernel
theorem dM_takesLaw_126 : decode cM_takesLaw 126 = .ok (.imul, 1) := by decide +kernel
theorem dM_takesLaw_127 : decode cM_takesLaw 127 = .ok (.iload_n 2, 1) := by decide +kernel
theorem dM_takesLaw_128 : decode cM_takesLaw 128 = .ok (.iadd, 1) := by decide +kernel
theorem dM_takesLaw_129 : decode cM_takesLaw 129 = .ok (.aload_n 0, 1) := by decide +kernel
theorem dM_takesLaw_130 : decode cM_takesLaw 130 = .ok (.getfield 52, 3) := by decide +kernel
theorem dM_takesLaw_133 : decode cM_takesLaw 133 = .ok (.sipush 800, 3) := by decide +kernel
theorem dM_takesLaw_136 : decode cM_takesLaw 136 = .ok (.iload_n 2, 1) := by decide +kernel
theorem dM_takesLaw_137 : decode cM_takesLaw 137 = .ok (.iadd, 1) := by decide +kernel
theorem dM_takesLaw_138 : decode cM_takesLaw 138 = .ok (.iaload, 1) := by decide +kernel
theorem dM_takesLaw_139 : decode cM_takesLaw 139 = .ok (.iastore, 1) := by decide +kernel
theorem dM_takesLaw_140 : decode cM_takesLaw 140 = .ok (.aload_n 0, 1) := by decide +kernel
theorem dM_takesLaw_141 : decode cM_takesLaw 141 = .ok (.getfield 55, 3) := by decide +kernel
theorem dM_takesLaw_144 : decode cM_takesLaw 144 = .ok (.sipush 400, 3) := by decide +kernel
theorem dM_takesLaw_147 : decode cM_takesLaw 147 = .ok (.aload_n 0, 1) := by decide +kernel
theorem dM_takesLaw_148 : decode cM_takesLaw 148 = .ok (.getfield 263, 3) := by decide +kernel
theorem dM_takesLaw_151 : decode cM_takesLaw 151 = .ok (.imul, 1) := by decide +kernel
theorem dM_takesLaw_152 : decode cM_takesLaw 152 = .ok (.iload_n 2, 1) := by decide +kernel
theorem dM_takesLaw_153 : decode cM_takesLaw 153 = .ok (.iadd, 1) := by decide +kernel
theorem dM_takesLaw_154 : decode cM_takesLaw 154 = .ok (.aload_n 0, 1) := by decide +kernel
theorem dM_takesLaw_155 : decode cM_takesLaw 155 = .ok (.getfield 55, 3) := by decide +kernel
theorem dM_takesLaw_158 : decode cM_takesLaw 158 = .ok (.sipush 800, 3) := by decide +kernel
theorem dM_takesLaw_161 : decode cM_takesLaw 161 = .ok (.iload_n 2, 1) := by decide +kernel
theorem dM_takesLaw_162 : decode cM_takesLaw 162 = .ok (.iadd, 1) := by decide +kernel
theorem dM_takesLaw_163 : decode cM_takesLaw 163 = .ok (.iaload, 1) := by decide +kernel
theorem dM_takesLaw_164 : decode cM_takesLaw 164 = .ok (.iastore, 1) := by decide +kernel
theorem dM_takesLaw_165 : decode cM_takesLaw 165 = .ok (.iinc 2 1, 3) := by decide +kernel
theorem dM_takesLaw_168 : decode cM_takesLaw 168 = .ok (.goto (-61), 3) := by decide +kernel
theorem dM_takesLaw_7 : decode cM_takesLaw 7 = .ok (.aload_n 0, 1) := by decide +kernel
theorem dM_takesLaw_8 : decode cM_takesLaw 8 = .ok (.getfield 40, 3) := by decide +kernel
theorem dM_takesLaw_11 : decode cM_takesLaw 11 = .ok (.bipush 16, 2) := by decide +kernel
theorem dM_takesLaw_13 : decode cM_takesLaw 13 = .ok (.aload_n 0, 1) := by decide +kernel
theorem dM_takesLaw_14 : decode cM_takesLaw 14 = .ok (.getfield 263, 3) := by decide +kernel
theorem dM_takesLaw_17 : decode cM_takesLaw 17 = .ok (.imul, 1) := by decide +kernel
theorem dM_takesLaw_18 : decode cM_takesLaw 18 = .ok (.iload_n 2, 1) := by decide +kernel
theorem dM_takesLaw_19 : decode cM_takesLaw 19 = .ok (.iadd, 1) := by decide +kernel
theorem dM_takesLaw_20 : decode cM_takesLaw 20 = .ok (.aload_n 0, 1) := by decide +kernel
theorem dM_takesLaw_21 : decode cM_takesLaw 21 = .ok (.getfield 40, 3) := by decide +kernel
theorem dM_takesLaw_24 : decode cM_takesLaw 24 = .ok (.bipush 32, 2) := by decide +kernel
theorem dM_takesLaw_26 : decode cM_takesLaw 26 = .ok (.iload_n 2, 1) := by decide +kernel
theorem dM_takesLaw_27 : decode cM_takesLaw 27 = .ok (.iadd, 1) := by decide +kernel
theorem dM_takesLaw_28 : decode cM_takesLaw 28 = .ok (.iaload, 1) := by decide +kernel
theorem dM_takesLaw_29 : decode cM_takesLaw 29 = .ok (.iastore, 1) := by decide +kernel
theorem dM_takesLaw_30 : decode cM_takesLaw 30 = .ok (.aload_n 0, 1) := by decide +kernel
theorem dM_takesLaw_31 : decode cM_takesLaw 31 = .ok (.getfield 43, 3) := by decide +kernel
theorem dM_takesLaw_34 : decode cM_takesLaw 34 = .ok (.bipush 16, 2) := by decide +kernel
theorem dM_takesLaw_36 : decode cM_takesLaw 36 = .ok (.aload_n 0, 1) := by decide +kernel
theorem dM_takesLaw_37 : decode cM_takesLaw 37 = .ok (.getfield 263, 3) := by decide +kernel
theorem dM_takesLaw_40 : decode cM_takesLaw 40 = .ok (.imul, 1) := by decide +kernel
theorem dM_takesLaw_41 : decode cM_takesLaw 41 = .ok (.iload_n 2, 1) := by decide +kernel
theorem dM_takesLaw_42 : decode cM_takesLaw 42 = .ok (.iadd, 1) := by decide +kernel
theorem dM_takesLaw_43 : decode cM_takesLaw 43 = .ok (.aload_n 0, 1) := by decide +kernel
theorem dM_takesLaw_44 : decode cM_takesLaw 44 = .ok (.getfield 43, 3) := by decide +kernel
theorem dM_takesLaw_47 : decode cM_takesLaw 47 = .ok (.bipush 32, 2) := by decide +kernel
theorem dM_takesLaw_49 : decode cM_takesLaw 49 = .ok (.iload_n 2, 1) := by decide +kernel
theorem dM_takesLaw_50 : decode cM_takesLaw 50 = .ok (.iadd, 1) := by decide +kernel
theorem dM_takesLaw_51 : decode cM_takesLaw 51 = .ok (.iaload, 1) := by decide +kernel
theorem dM_takesLaw_52 : decode cM_takesLaw 52 = .ok (.iastore, 1) := by decide +kernel
theorem dM_takesLaw_53 : decode cM_takesLaw 53 = .ok (.aload_n 0, 1) := by decide +kernel
theorem dM_takesLaw_54 : decode cM_takesLaw 54 = .ok (.getfield 46, 3) := by decide +kernel
theorem dM_takesLaw_57 : decode cM_takesLaw 57 = .ok (.bipush 16, 2) := by decide +kernel
theorem dM_takesLaw_59 : decode cM_takesLaw 59 = .ok (.aload_n 0, 1) := by decide +kernel
theorem dM_takesLaw_60 : decode cM_takesLaw 60 = .ok (.getfield 263, 3) := by decide +kernel
theorem dM_takesLaw_63 : decode cM_takesLaw 63 = .ok (.imul, 1) := by decide +kernel
theorem dM_takesLaw_64 : decode cM_takesLaw 64 = .ok (.iload_n 2, 1) := by decide +kernel
theorem dM_takesLaw_65 : decode cM_takesLaw 65 = .ok (.iadd, 1) := by decide +kernel
theorem dM_takesLaw_66 : decode cM_takesLaw 66 = .ok (.aload_n 0, 1) := by decide +kernel
theorem dM_takesLaw_67 : decode cM_takesLaw 67 = .ok (.getfield 46, 3) := by decide +kernel
theorem dM_takesLaw_70 : decode cM_takesLaw 70 = .ok (.bipush 32, 2) := by decide +kernel
theorem dM_takesLaw_72 : decode cM_takesLaw 72 = .ok (.iload_n 2, 1) := by decide +kernel
theorem dM_takesLaw_73 : decode cM_takesLaw 73 = .ok (.iadd, 1) := by decide +kernel
theorem dM_takesLaw_74 : decode cM_takesLaw 74 = .ok (.iaload, 1) := by decide +kernel
theorem dM_takesLaw_75 : decode cM_takesLaw 75 = .ok (.iastore, 1) := by decide +kernel
theorem dM_takesLaw_76 : decode cM_takesLaw 76 = .ok (.aload_n 0, 1) := by decide +kernel
theorem dM_takesLaw_77 : decode cM_takesLaw 77 = .ok (.getfield 49, 3) := by decide +kernel
theorem dM_takesLaw_80 : decode cM_takesLaw 80 = .ok (.bipush 16, 2) := by decide +kernel
theorem dM_takesLaw_82 : decode cM_takesLaw 82 = .ok (.aload_n 0, 1) := by decide +kernel
theorem dM_takesLaw_83 : decode cM_takesLaw 83 = .ok (.getfield 263, 3) := by decide +kernel
theorem dM_takesLaw_86 : decode cM_takesLaw 86 = .ok (.imul, 1) := by decide +kernel
theorem dM_takesLaw_87 : decode cM_takesLaw 87 = .ok (.iload_n 2, 1) := by decide +kernel
theorem dM_takesLaw_88 : decode cM_takesLaw 88 = .ok (.iadd, 1) := by decide +kernel
theorem dM_takesLaw_89 : decode cM_takesLaw 89 = .ok (.aload_n 0, 1) := by decide +kernel
theorem dM_takesLaw_90 : decode cM_takesLaw 90 = .ok (.getfield 49, 3) := by decide +kernel
theorem dM_takesLaw_93 : decode cM_takesLaw 93 = .ok (.bipush 32, 2) := by decide +kernel
theorem dM_takesLaw_95 : decode cM_takesLaw 95 = .ok (.iload_n 2, 1) := by decide +kernel
theorem dM_takesLaw_96 : decode cM_takesLaw 96 = .ok (.iadd, 1) := by decide +kernel
theorem dM_takesLaw_97 : decode cM_takesLaw 97 = .ok (.iaload, 1) := by decide +kernel
theorem dM_takesLaw_98 : decode cM_takesLaw 98 = .ok (.iastore, 1) := by decide +kernel
theorem dM_takesLaw_99 : decode cM_takesLaw 99 = .ok (.iinc 2 1, 3) := by decide +kernel
theorem dM_takesLaw_102 : decode cM_takesLaw 102 = .ok (.goto (-100), 3) := by decide +kernel
def fM_takesLaw (v1 : Int32) (s0 : Sg) : Option (Sg) := lp FU (fun q2 (u2 : Int32) (s1 : Sg) => if v1 ≤ u2 then (lp FU (fun q107 (u107 : Int32) (s2 : Sg) => if (s2 102 26) ≤ u107 then (gd (s2 102 25) 2 (bnd (pt s2 112 (ix (s2 102 25)) v1) fun s3 => some s3)) else (gd (800 + u107) 1200 (gd ((400 * (s2 102 25)) + u107) 1200 (bnd (pt s2 117 (ix ((400 * (s2 102 25)) + u107)) (s2 117 (ix (800 + u107)))) fun s4 => gd (800 + u107) 1200 (gd ((400 * (s4 102 25)) + u107) 1200 (bnd (pt s4 118 (ix ((400 * (s4 102 25)) + u107)) (s4 118 (ix (800 + u107)))) fun s5 => q107 (u107 + 1) s5)))))) 0 s1) else (gd (32 + u2) 48 (gd ((16 * (s1 102 25)) + u2) 48 (bnd (pt s1 113 (ix ((16 * (s1 102 25)) + u2)) (s1 113 (ix (32 + u2)))) fun s6 => gd (32 + u2) 48 (gd ((16 * (s6 102 25)) + u2) 48 (bnd (pt s6 114 (ix ((16 * (s6 102 25)) + u2)) (s6 114 (ix (32 + u2)))) fun s7 => gd (32 + u2) 48 (gd ((16 * (s7 102 25)) + u2) 48 (bnd (pt s7 115 (ix ((16 * (s7 102 25)) + u2)) (s7 115 (ix (32 + u2)))) fun s8 => gd (32 + u2) 48 (gd ((16 * (s8 102 25)) + u2) 48 (bnd (pt s8 116 (ix ((16 * (s8 102 25)) + u2)) (s8 116 (ix (32 + u2)))) fun s9 => q2 (u2 + 1) s9)))))))))) 0 s0
set_option maxHeartbeats 4000000 in
set_option maxRecDepth 100000 in
theorem okM_takesLaw (v1 : Int32) (s0 : Sg) : ∀ (l : Launch) (w : WC), Ok l w yM_takesLaw cM_takesLaw 3 none 1 evV [.ref (w.ad 102), .int v1] s0 (fM_takesLaw v1 s0) := by
  refine ok_in (ev := fun _ => evV) (av := fun w => [.ref (w.ad 102), .int v1]) "LastWordHillModel" rfl (by decide +kernel) (fun _ => rfl) (fun _ => Nat.le_of_ble_eq_true rfl) ?_
  intro C X E
  show GF C evV 0 [some (.ref (C.w.ad 102)), some (.int v1), none] [] s0 (fM_takesLaw v1 s0)
  unfold fM_takesLaw
  refine g_iconst X 0 dM_takesLaw_0 (by decide) ?_
  refine g_istore_n X [some (.ref (C.w.ad 102)), some (.int v1), some (.int 0)] dM_takesLaw_1 (by decide) (Nat.le_of_ble_eq_true rfl) rfl ?_
  refine gf_sub (L' := [some (.ref (C.w.ad 102)), some (.int v1), some (.int 0)]) ?_ (by simp [lsub])
  refine gf_lp (Lf := fun (u2 : Int32) => [some (.ref (C.w.ad 102)), some (.int v1), some (.int u2)]) (fun q2 hq2 u2 s1 => ?_) FU 0 s0
  refine g_iload_n X dM_takesLaw_2 rfl ?_
  refine g_iload_n X dM_takesLaw_3 rfl ?_
  refine g_cge X (tgt := 105) dM_takesLaw_4 (by decide) ?_ ?_
  · refine g_iconst X 0 dM_takesLaw_105 (by decide) ?_
    refine g_istore_n X [some (.ref (C.w.ad 102)), some (.int v1), some (.int 0)] dM_takesLaw_106 (by decide) (Nat.le_of_ble_eq_true rfl) rfl ?_
    refine gf_sub (L' := [some (.ref (C.w.ad 102)), some (.int v1), some (.int 0)]) ?_ (by simp [lsub])
    refine gf_lp (Lf := fun (u107 : Int32) => [some (.ref (C.w.ad 102)), some (.int v1), some (.int u107)]) (fun q107 hq107 u107 s2 => ?_) FU 0 s1
    refine g_iload_n X dM_takesLaw_107 rfl ?_
    refine g_aload_n X dM_takesLaw_108 rfl ?_
    refine g_getI X fl_M_210 fb_12_26 k_102 dM_takesLaw_109 ?_
    refine g_cge X (tgt := 171) dM_takesLaw_112 (by decide) ?_ ?_
    · refine g_aload_n X dM_takesLaw_171 rfl ?_
      refine g_getN X fl_M_37 fb_12_18 k_102 r_102_18 dM_takesLaw_172 ?_
      refine g_aload_n X dM_takesLaw_175 rfl ?_
      refine g_getI X fl_M_263 fb_12_25 k_102 dM_takesLaw_176 ?_
      refine g_iload_n X dM_takesLaw_179 rfl ?_
      refine g_iast X k_112 ln_112 dM_takesLaw_180 (fun s3 => ?_)
      exact g_vret X E dM_takesLaw_181
    · refine g_aload_n X dM_takesLaw_115 rfl ?_
      refine g_getN X fl_M_52 fb_12_23 k_102 r_102_23 dM_takesLaw_116 ?_
      refine g_sipush X 400 dM_takesLaw_119 (by decide) ?_
      refine g_aload_n X dM_takesLaw_122 rfl ?_
      refine g_getI X fl_M_263 fb_12_25 k_102 dM_takesLaw_123 ?_
      refine g_imul X dM_takesLaw_126 ?_
      refine g_iload_n X dM_takesLaw_127 rfl ?_
      refine g_iadd X dM_takesLaw_128 ?_
      refine g_aload_n X dM_takesLaw_129 rfl ?_
      refine g_getN X fl_M_52 fb_12_23 k_102 r_102_23 dM_takesLaw_130 ?_
      refine g_sipush X 800 dM_takesLaw_133 (by decide) ?_
      refine g_iload_n X dM_takesLaw_136 rfl ?_
      refine g_iadd X dM_takesLaw_137 ?_
      refine g_iald X k_117 ln_117 dM_takesLaw_138 ?_
      refine g_iast X k_117 ln_117 dM_takesLaw_139 (fun s4 => ?_)
      refine g_aload_n X dM_takesLaw_140 rfl ?_
      refine g_getN X fl_M_55 fb_12_24 k_102 r_102_24 dM_takesLaw_141 ?_
      refine g_sipush X 400 dM_takesLaw_144 (by decide) ?_
      refine g_aload_n X dM_takesLaw_147 rfl ?_
      refine g_getI X fl_M_263 fb_12_25 k_102 dM_takesLaw_148 ?_
      refine g_imul X dM_takesLaw_151 ?_
      refine g_iload_n X dM_takesLaw_152 rfl ?_
      refine g_iadd X dM_takesLaw_153 ?_
      refine g_aload_n X dM_takesLaw_154 rfl ?_
      refine g_getN X fl_M_55 fb_12_24 k_102 r_102_24 dM_takesLaw_155 ?_
      refine g_sipush X 800 dM_takesLaw_158 (by decide) ?_
      refine g_iload_n X dM_takesLaw_161 rfl ?_
      refine g_iadd X dM_takesLaw_162 ?_
      refine g_iald X k_118 ln_118 dM_takesLaw_163 ?_
      refine g_iast X k_118 ln_118 dM_takesLaw_164 (fun s5 => ?_)
      refine g_iinc X (u107 + 1) [some (.ref (C.w.ad 102)), some (.int v1), some (.int (u107 + 1))] dM_takesLaw_165 rfl rfl (by decide) rfl ?_
      refine g_goto X 107 dM_takesLaw_168 (by decide) ?_
      exact gf_sub (hq107 (u107 + 1) s5) (by simp [lsub])
  · refine g_aload_n X dM_takesLaw_7 rfl ?_
    refine g_getN X fl_M_40 fb_12_19 k_102 r_102_19 dM_takesLaw_8 ?_
    refine g_bipush X 16 dM_takesLaw_11 (by decide) ?_
    refine g_aload_n X dM_takesLaw_13 rfl ?_
    refine g_getI X fl_M_263 fb_12_25 k_102 dM_takesLaw_14 ?_
    refine g_imul X dM_takesLaw_17 ?_
    refine g_iload_n X dM_takesLaw_18 rfl ?_
    refine g_iadd X dM_takesLaw_19 ?_
    refine g_aload_n X dM_takesLaw_20 rfl ?_
    refine g_getN X fl_M_40 fb_12_19 k_102 r_102_19 dM_takesLaw_21 ?_
    refine g_bipush X 32 dM_takesLaw_24 (by decide) ?_
    refine g_iload_n X dM_takesLaw_26 rfl ?_
    refine g_iadd X dM_takesLaw_27 ?_
    refine g_iald X k_113 ln_113 dM_takesLaw_28 ?_
    refine g_iast X k_113 ln_113 dM_takesLaw_29 (fun s6 => ?_)
    refine g_aload_n X dM_takesLaw_30 rfl ?_
    refine g_getN X fl_M_43 fb_12_20 k_102 r_102_20 dM_takesLaw_31 ?_
    refine g_bipush X 16 dM_takesLaw_34 (by decide) ?_
    refine g_aload_n X dM_takesLaw_36 rfl ?_
    refine g_getI X fl_M_263 fb_12_25 k_102 dM_takesLaw_37 ?_
    refine g_imul X dM_takesLaw_40 ?_
    refine g_iload_n X dM_takesLaw_41 rfl ?_
    refine g_iadd X dM_takesLaw_42 ?_
    refine g_aload_n X dM_takesLaw_43 rfl ?_
    refine g_getN X fl_M_43 fb_12_20 k_102 r_102_20 dM_takesLaw_44 ?_
    refine g_bipush X 32 dM_takesLaw_47 (by decide) ?_
    refine g_iload_n X dM_takesLaw_49 rfl ?_
    refine g_iadd X dM_takesLaw_50 ?_
    refine g_iald X k_114 ln_114 dM_takesLaw_51 ?_
    refine g_iast X k_114 ln_114 dM_takesLaw_52 (fun s7 => ?_)
    refine g_aload_n X dM_takesLaw_53 rfl ?_
    refine g_getN X fl_M_46 fb_12_21 k_102 r_102_21 dM_takesLaw_54 ?_
    refine g_bipush X 16 dM_takesLaw_57 (by decide) ?_
    refine g_aload_n X dM_takesLaw_59 rfl ?_
    refine g_getI X fl_M_263 fb_12_25 k_102 dM_takesLaw_60 ?_
    refine g_imul X dM_takesLaw_63 ?_
    refine g_iload_n X dM_takesLaw_64 rfl ?_
    refine g_iadd X dM_takesLaw_65 ?_
    refine g_aload_n X dM_takesLaw_66 rfl ?_
    refine g_getN X fl_M_46 fb_12_21 k_102 r_102_21 dM_takesLaw_67 ?_
    refine g_bipush X 32 dM_takesLaw_70 (by decide) ?_
    refine g_iload_n X dM_takesLaw_72 rfl ?_
    refine g_iadd X dM_takesLaw_73 ?_
    refine g_iald X k_115 ln_115 dM_takesLaw_74 ?_
    refine g_iast X k_115 ln_115 dM_takesLaw_75 (fun s8 => ?_)
    refine g_aload_n X dM_takesLaw_76 rfl ?_
    refine g_getN X fl_M_49 fb_12_22 k_102 r_102_22 dM_takesLaw_77 ?_
    refine g_bipush X 16 dM_takesLaw_80 (by decide) ?_
    refine g_aload_n X dM_takesLaw_82 rfl ?_
    refine g_getI X fl_M_263 fb_12_25 k_102 dM_takesLaw_83 ?_
    refine g_imul X dM_takesLaw_86 ?_
    refine g_iload_n X dM_takesLaw_87 rfl ?_
    refine g_iadd X dM_takesLaw_88 ?_
    refine g_aload_n X dM_takesLaw_89 rfl ?_
    refine g_getN X fl_M_49 fb_12_22 k_102 r_102_22 dM_takesLaw_90 ?_
    refine g_bipush X 32 dM_takesLaw_93 (by decide) ?_
    refine g_iload_n X dM_takesLaw_95 rfl ?_
    refine g_iadd X dM_takesLaw_96 ?_
    refine g_iald X k_116 ln_116 dM_takesLaw_97 ?_
    refine g_iast X k_116 ln_116 dM_takesLaw_98 (fun s9 => ?_)
    refine g_iinc X (u2 + 1) [some (.ref (C.w.ad 102)), some (.int v1), some (.int (u2 + 1))] dM_takesLaw_99 rfl rfl (by decide) rfl ?_
    refine g_goto X 2 dM_takesLaw_102 (by decide) ?_
    exact gf_sub (hq2 (u2 + 1) s9) (by simp [lsub])
def yM_readNumber : MethodName := ⟨"LastWordHillModel", "readNumber", "(II)I"⟩
abbrev cM_readNumber : ByteArray := prog_14_method_48_code
theorem dM_readNumber_0 : decode cM_readNumber 0 = .ok (.aload_n 0, 1) := by decide +kernel
theorem dM_readNumber_1 : decode cM_readNumber 1 = .ok (.getfield 185, 3) := by decide +kernel
theorem dM_readNumber_4 : decode cM_readNumber 4 = .ok (.iconst 3, 1) := by decide +kernel
theorem dM_readNumber_5 : decode cM_readNumber 5 = .ok (.if_icmp .eq 9, 3) := by decide +kernel
theorem dM_readNumber_14 : decode cM_readNumber 14 = .ok (.aload_n 0, 1) := by decide +kernel
theorem dM_readNumber_15 : decode cM_readNumber 15 = .ok (.aload_n 0, 1) := by decide +kernel
theorem dM_readNumber_16 : decode cM_readNumber 16 = .ok (.getfield 188, 3) := by decide +kernel
theorem dM_readNumber_19 : decode cM_readNumber 19 = .ok (.iload_n 1, 1) := by decide +kernel
theorem dM_readNumber_20 : decode cM_readNumber 20 = .ok (.iload_n 2, 1) := by decide +kernel
theorem dM_readNumber_21 : decode cM_readNumber 21 = .ok (.invokevirtual 153, 3) := by decide +kernel
theorem dM_readNumber_24 : decode cM_readNumber 24 = .ok (.ifCond .ne 9, 3) := by decide +kernel
theorem dM_readNumber_33 : decode cM_readNumber 33 = .ok (.aload_n 0, 1) := by decide +kernel
theorem dM_readNumber_34 : decode cM_readNumber 34 = .ok (.getfield 188, 3) := by decide +kernel
theorem dM_readNumber_37 : decode cM_readNumber 37 = .ok (.istore_n 3, 1) := by decide +kernel
theorem dM_readNumber_38 : decode cM_readNumber 38 = .ok (.aload_n 0, 1) := by decide +kernel
theorem dM_readNumber_39 : decode cM_readNumber 39 = .ok (.invokevirtual 222, 3) := by decide +kernel
theorem dM_readNumber_42 : decode cM_readNumber 42 = .ok (.iload_n 3, 1) := by decide +kernel
theorem dM_readNumber_43 : decode cM_readNumber 43 = .ok (.ireturn, 1) := by decide +kernel
theorem dM_readNumber_27 : decode cM_readNumber 27 = .ok (.aload_n 0, 1) := by decide +kernel
theorem dM_readNumber_28 : decode cM_readNumber 28 = .ok (.iconst 2, 1) := by decide +kernel
theorem dM_readNumber_29 : decode cM_readNumber 29 = .ok (.invokevirtual 216, 3) := by decide +kernel
theorem dM_readNumber_32 : decode cM_readNumber 32 = .ok (.ireturn, 1) := by decide +kernel
theorem dM_readNumber_8 : decode cM_readNumber 8 = .ok (.aload_n 0, 1) := by decide +kernel
theorem dM_readNumber_9 : decode cM_readNumber 9 = .ok (.iconst 1, 1) := by decide +kernel
theorem dM_readNumber_10 : decode cM_readNumber 10 = .ok (.invokevirtual 216, 3) := by decide +kernel
theorem dM_readNumber_13 : decode cM_readNumber 13 = .ok (.ireturn, 1) := by decide +kernel
def fM_readNumber (v1 : Int32) (v2 : Int32) (s0 : Sg) : Option (Int32 × Sg) := if (s0 102 15) = 3 then (bi (fM_isIn (s0 102 16) v1 v2 s0) fun r2 s1 => if r2 = 0 then (bi (fM_errs 2 s1) fun r5 s4 => some (r5, s4)) else (bv (fM_reads s1) fun s3 => some ((s1 102 16), s3))) else (bi (fM_errs 1 s0) fun r7 s6 => some (r7, s6))
set_option maxHeartbeats 4000000 in
set_option maxRecDepth 100000 in
theorem okM_readNumber (v1 : Int32) (v2 : Int32) (s0 : Sg) : ∀ (l : Launch) (w : WC), Ok l w yM_readNumber cM_readNumber 4 (some .int) 4 evI [.ref (w.ad 102), .int v1, .int v2] s0 (fM_readNumber v1 v2 s0) := by
  refine ok_in (ev := fun _ => evI) (av := fun w => [.ref (w.ad 102), .int v1, .int v2]) "LastWordHillModel" rfl (by decide +kernel) (fun _ => rfl) (fun _ => Nat.le_of_ble_eq_true rfl) ?_
  intro C X E
  show GF C evI 0 [some (.ref (C.w.ad 102)), some (.int v1), some (.int v2), none] [] s0 (fM_readNumber v1 v2 s0)
  unfold fM_readNumber
  refine g_aload_n X dM_readNumber_0 rfl ?_
  refine g_getI X fl_M_185 fb_12_15 k_102 dM_readNumber_1 ?_
  refine g_iconst X 3 dM_readNumber_4 (by decide) ?_
  refine g_ceq X (tgt := 14) dM_readNumber_5 (by decide) ?_ ?_
  · refine g_aload_n X dM_readNumber_14 rfl ?_
    refine g_aload_n X dM_readNumber_15 rfl ?_
    refine g_getI X fl_M_188 fb_12_16 k_102 dM_readNumber_16 ?_
    refine g_iload_n X dM_readNumber_19 rfl ?_
    refine g_iload_n X dM_readNumber_20 rfl ?_
    refine g_virtI X [.int (s0 102 16), .int v1, .int v2] [] k_102 mm_M_isIn mv_M_isIn ml_M_153 (okM_isIn (s0 102 16) v1 v2 s0 C.l C.w) rfl (by decide) rfl (Nat.le_of_ble_eq_true rfl) dM_readNumber_21 (fun r2 s1 => ?_)
    refine g_zne X (tgt := 33) dM_readNumber_24 (by decide) ?_ ?_
    · refine g_aload_n X dM_readNumber_27 rfl ?_
      refine g_iconst X 2 dM_readNumber_28 (by decide) ?_
      refine g_virtI X [.int 2] [] k_102 mm_M_errs mv_M_errs ml_M_216 (okM_errs 2 s1 C.l C.w) rfl (by decide) rfl (Nat.le_of_ble_eq_true rfl) dM_readNumber_29 (fun r5 s4 => ?_)
      exact g_iret X E dM_readNumber_32
    · refine g_aload_n X dM_readNumber_33 rfl ?_
      refine g_getI X fl_M_188 fb_12_16 k_102 dM_readNumber_34 ?_
      refine g_istore_n X [some (.ref (C.w.ad 102)), some (.int v1), some (.int v2), some (.int (s1 102 16))] dM_readNumber_37 (by decide) (Nat.le_of_ble_eq_true rfl) rfl ?_
      refine g_aload_n X dM_readNumber_38 rfl ?_
      refine g_virtV X [] [] k_102 mm_M_reads mv_M_reads ml_M_222 (okM_reads s1 C.l C.w) rfl (by decide) rfl (Nat.le_of_ble_eq_true rfl) dM_readNumber_39 (fun s3 => ?_)
      refine g_iload_n X dM_readNumber_42 rfl ?_
      exact g_iret X E dM_readNumber_43
  · refine g_aload_n X dM_readNumber_8 rfl ?_
    refine g_iconst X 1 dM_readNumber_9 (by decide) ?_
    refine g_virtI X [.int 1] [] k_102 mm_M_errs mv_M_errs ml_M_216 (okM_errs 1 s0 C.l C.w) rfl (by decide) rfl (Nat.le_of_ble_eq_true rfl) dM_readNumber_10 (fun r7 s6 => ?_)
    exact g_iret X E dM_readNumber_13
def yM_readMark : MethodName := ⟨"LastWordHillModel", "readMark", "(I)I"⟩
abbrev cM_readMark : ByteArray := prog_14_method_49_code
theorem dM_readMark_0 : decode cM_readMark 0 = .ok (.aload_n 0, 1) := by decide +kernel
theorem dM_readMark_1 : decode cM_readMark 1 = .ok (.iload_n 1, 1) := by decide +kernel
theorem dM_readMark_2 : decode cM_readMark 2 = .ok (.invokevirtual 229, 3) := by decide +kernel
theorem dM_readMark_5 : decode cM_readMark 5 = .ok (.ifCond .ne 9, 3) := by decide +kernel
theorem dM_readMark_14 : decode cM_readMark 14 = .ok (.aload_n 0, 1) := by decide +kernel
theorem dM_readMark_15 : decode cM_readMark 15 = .ok (.invokevirtual 222, 3) := by decide +kernel
theorem dM_readMark_18 : decode cM_readMark 18 = .ok (.iconst 0, 1) := by decide +kernel
theorem dM_readMark_19 : decode cM_readMark 19 = .ok (.ireturn, 1) := by decide +kernel
theorem dM_readMark_8 : decode cM_readMark 8 = .ok (.aload_n 0, 1) := by decide +kernel
theorem dM_readMark_9 : decode cM_readMark 9 = .ok (.iconst 1, 1) := by decide +kernel
theorem dM_readMark_10 : decode cM_readMark 10 = .ok (.invokevirtual 216, 3) := by decide +kernel
theorem dM_readMark_13 : decode cM_readMark 13 = .ok (.ireturn, 1) := by decide +kernel
def fM_readMark (v1 : Int32) (s0 : Sg) : Option (Int32 × Sg) := bi (fM_isSign v1 s0) fun r2 s1 => if r2 = 0 then (bi (fM_errs 1 s1) fun r5 s4 => some (r5, s4)) else (bv (fM_reads s1) fun s3 => some (0, s3))
set_option maxHeartbeats 4000000 in
set_option maxRecDepth 100000 in
theorem okM_readMark (v1 : Int32) (s0 : Sg) : ∀ (l : Launch) (w : WC), Ok l w yM_readMark cM_readMark 2 (some .int) 4 evI [.ref (w.ad 102), .int v1] s0 (fM_readMark v1 s0) := by
  refine ok_in (ev := fun _ => evI) (av := fun w => [.ref (w.ad 102), .int v1]) "LastWordHillModel" rfl (by decide +kernel) (fun _ => rfl) (fun _ => Nat.le_of_ble_eq_true rfl) ?_
  intro C X E
  show GF C evI 0 [some (.ref (C.w.ad 102)), some (.int v1)] [] s0 (fM_readMark v1 s0)
  unfold fM_readMark
  refine g_aload_n X dM_readMark_0 rfl ?_
  refine g_iload_n X dM_readMark_1 rfl ?_
  refine g_virtI X [.int v1] [] k_102 mm_M_isSign mv_M_isSign ml_M_229 (okM_isSign v1 s0 C.l C.w) rfl (by decide) rfl (Nat.le_of_ble_eq_true rfl) dM_readMark_2 (fun r2 s1 => ?_)
  refine g_zne X (tgt := 14) dM_readMark_5 (by decide) ?_ ?_
  · refine g_aload_n X dM_readMark_8 rfl ?_
    refine g_iconst X 1 dM_readMark_9 (by decide) ?_
    refine g_virtI X [.int 1] [] k_102 mm_M_errs mv_M_errs ml_M_216 (okM_errs 1 s1 C.l C.w) rfl (by decide) rfl (Nat.le_of_ble_eq_true rfl) dM_readMark_10 (fun r5 s4 => ?_)
    exact g_iret X E dM_readMark_13
  · refine g_aload_n X dM_readMark_14 rfl ?_
    refine g_virtV X [] [] k_102 mm_M_reads mv_M_reads ml_M_222 (okM_reads s1 C.l C.w) rfl (by decide) rfl (Nat.le_of_ble_eq_true rfl) dM_readMark_15 (fun s3 => ?_)
    refine g_iconst X 0 dM_readMark_18 (by decide) ?_
    exact g_iret X E dM_readMark_19
def yM_readTold : MethodName := ⟨"LastWordHillModel", "readTold", "(III)I"⟩
abbrev cM_readTold : ByteArray := prog_14_method_50_code
theorem dM_readTold_0 : decode cM_readTold 0 = .ok (.aload_n 0, 1) := by decide +kernel
theorem dM_readTold_1 : decode cM_readTold 1 = .ok (.iload_n 1, 1) := by decide +kernel
theorem dM_readTold_2 : decode cM_readTold 2 = .ok (.invokevirtual 244, 3) := by decide +kernel
theorem dM_readTold_5 : decode cM_readTold 5 = .ok (.ifCond .ne 9, 3) := by decide +kernel
theorem dM_readTold_14 : decode cM_readTold 14 = .ok (.aload_n 0, 1) := by decide +kernel
theorem dM_readTold_15 : decode cM_readTold 15 = .ok (.invokevirtual 222, 3) := by decide +kernel
theorem dM_readTold_18 : decode cM_readTold 18 = .ok (.aload_n 0, 1) := by decide +kernel
theorem dM_readTold_19 : decode cM_readTold 19 = .ok (.iload_n 2, 1) := by decide +kernel
theorem dM_readTold_20 : decode cM_readTold 20 = .ok (.iload_n 3, 1) := by decide +kernel
theorem dM_readTold_21 : decode cM_readTold 21 = .ok (.invokevirtual 266, 3) := by decide +kernel
theorem mm_M_readNumber : MMc yM_readNumber cM_readNumber 4 (some .int) 2 := ⟨hz_in 1726 (by decide +kernel) (by decide +kernel), hz_in 147 (by decide +kernel) (by decide +kernel), by decide +kernel, by decide⟩
theorem mv_M_readNumber : MMv yM_readNumber 12 := ⟨hz_in 1725 (by decide +kernel) (by decide +kernel), hz_in 67 (by decide +kernel) (by decide +kernel), _, _, rfl, by decide⟩
theorem ml_M_266 : Cond.methodLink "LastWordHillModel" 266 yM_readNumber ∈ hz_wt := hz_in 1723 (by decide +kernel) (by decide +kernel)
theorem dM_readTold_24 : decode cM_readTold 24 = .ok (.ireturn, 1) := by decide +kernel
theorem dM_readTold_8 : decode cM_readTold 8 = .ok (.aload_n 0, 1) := by decide +kernel
theorem dM_readTold_9 : decode cM_readTold 9 = .ok (.iconst 1, 1) := by decide +kernel
theorem dM_readTold_10 : decode cM_readTold 10 = .ok (.invokevirtual 216, 3) := by decide +kernel
theorem dM_readTold_13 : decode cM_readTold 13 = .ok (.ireturn, 1) := by decide +kernel
def fM_readTold (v1 : Int32) (v2 : Int32) (v3 : Int32) (s0 : Sg) : Option (Int32 × Sg) := bi (fM_isWord v1 s0) fun r2 s1 => if r2 = 0 then (bi (fM_errs 1 s1) fun r7 s6 => some (r7, s6)) else (bv (fM_reads s1) fun s3 => bi (fM_readNumber v2 v3 s3) fun r5 s4 => some (r5, s4))
set_option maxHeartbeats 4000000 in
set_option maxRecDepth 100000 in
theorem okM_readTold (v1 : Int32) (v2 : Int32) (v3 : Int32) (s0 : Sg) : ∀ (l : Launch) (w : WC), Ok l w yM_readTold cM_readTold 4 (some .int) 5 evI [.ref (w.ad 102), .int v1, .int v2, .int v3] s0 (fM_readTold v1 v2 v3 s0) := by
  refine ok_in (ev := fun _ => evI) (av := fun w => [.ref (w.ad 102), .int v1, .int v2, .int v3]) "LastWordHillModel" rfl (by decide +kernel) (fun _ => rfl) (fun _ => Nat.le_of_ble_eq_true rfl) ?_
  intro C X E
  show GF C evI 0 [some (.ref (C.w.ad 102)), some (.int v1), some (.int v2), some (.int v3)] [] s0 (fM_readTold v1 v2 v3 s0)
  unfold fM_readTold
  refine g_aload_n X dM_readTold_0 rfl ?_
  refine g_iload_n X dM_readTold_1 rfl ?_
  refine g_virtI X [.int v1] [] k_102 mm_M_isWord mv_M_isWord ml_M_244 (okM_isWord v1 s0 C.l C.w) rfl (by decide) rfl (Nat.le_of_ble_eq_true rfl) dM_readTold_2 (fun r2 s1 => ?_)
  refine g_zne X (tgt := 14) dM_readTold_5 (by decide) ?_ ?_
  · refine g_aload_n X dM_readTold_8 rfl ?_
    refine g_iconst X 1 dM_readTold_9 (by decide) ?_
    refine g_virtI X [.int 1] [] k_102 mm_M_errs mv_M_errs ml_M_216 (okM_errs 1 s1 C.l C.w) rfl (by decide) rfl (Nat.le_of_ble_eq_true rfl) dM_readTold_10 (fun r7 s6 => ?_)
    exact g_iret X E dM_readTold_13
  · refine g_aload_n X dM_readTold_14 rfl ?_
    refine g_virtV X [] [] k_102 mm_M_reads mv_M_reads ml_M_222 (okM_reads s1 C.l C.w) rfl (by decide) rfl (Nat.le_of_ble_eq_true rfl) dM_readTold_15 (fun s3 => ?_)
    refine g_aload_n X dM_readTold_18 rfl ?_
    refine g_iload_n X dM_readTold_19 rfl ?_
    refine g_iload_n X dM_readTold_20 rfl ?_
    refine g_virtI X [.int v2, .int v3] [] k_102 mm_M_readNumber mv_M_readNumber ml_M_266 (okM_readNumber v2 v3 s3 C.l C.w) rfl (by decide) rfl (Nat.le_of_ble_eq_true rfl) dM_readTold_21 (fun r5 s4 => ?_)
    exact g_iret X E dM_readTold_24
