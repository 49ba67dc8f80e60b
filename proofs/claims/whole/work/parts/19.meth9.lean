def yTo_addNumber : MethodName := ⟨"LastWordHill$Tokens", "addNumber", "(I)V"⟩
abbrev cTo_addNumber : ByteArray := prog_11_method_2_code
theorem dTo_addNumber_0 : decode cTo_addNumber 0 = .ok (.aload_n 0, 1) := by decide +kernel
theorem dTo_addNumber_1 : decode cTo_addNumber 1 = .ok (.iload_n 1, 1) := by decide +kernel
theorem dTo_addNumber_2 : decode cTo_addNumber 2 = .ok (.bipush 24, 2) := by decide +kernel
theorem dTo_addNumber_4 : decode cTo_addNumber 4 = .ok (.iushr, 1) := by decide +kernel
theorem dTo_addNumber_5 : decode cTo_addNumber 5 = .ok (.invokevirtual 24, 3) := by decide +kernel
theorem mm_To_addByte : MMc yTo_addByte cTo_addByte 2 none 1 := ⟨hz_in 792 (by decide +kernel) (by decide +kernel), hz_in 142 (by decide +kernel) (by decide +kernel), by decide +kernel, by decide⟩
theorem mv_To_addByte : MMv yTo_addByte 9 := ⟨hz_in 791 (by decide +kernel) (by decide +kernel), hz_in 5 (by decide +kernel) (by decide +kernel), _, _, rfl, by decide⟩
theorem ml_To_24 : Cond.methodLink "LastWordHill$Tokens" 24 yTo_addByte ∈ hz_wt := hz_in 789 (by decide +kernel) (by decide +kernel)
theorem dTo_addNumber_8 : decode cTo_addNumber 8 = .ok (.aload_n 0, 1) := by decide +kernel
theorem dTo_addNumber_9 : decode cTo_addNumber 9 = .ok (.iload_n 1, 1) := by decide +kernel
theorem dTo_addNumber_10 : decode cTo_addNumber 10 = .ok (.bipush 16, 2) := by decide +kernel
theorem dTo_addNumber_12 : decode cTo_addNumber 12 = .ok (.iushr, 1) := by decide +kernel
theorem dTo_addNumber_13 : decode cTo_addNumber 13 = .ok (.invokevirtual 24, 3) := by decide +kernel
theorem dTo_addNumber_16 : decode cTo_addNumber 16 = .ok (.aload_n 0, 1) := by decide +kernel
theorem dTo_addNumber_17 : decode cTo_addNumber 17 = .ok (.iload_n 1, 1) := by decide +kernel
theorem dTo_addNumber_18 : decode cTo_addNumber 18 = .ok (.bipush 8, 2) := by decide +kernel
theorem dTo_addNumber_20 : decode cTo_addNumber 20 = .ok (.iushr, 1) := by decide +kernel
theorem dTo_addNumber_21 : decode cTo_addNumber 21 = .ok (.invokevirtual 24, 3) := by decide +kernel
theorem dTo_addNumber_24 : decode cTo_addNumber 24 = .ok (.aload_n 0, 1) := by decide +kernel
theorem dTo_addNumber_25 : decode cTo_addNumber 25 = .ok (.iload_n 1, 1) := by decide +kernel
theorem dTo_addNumber_26 : decode cTo_addNumber 26 = .ok (.invokevirtual 24, 3) := by decide +kernel
theorem dTo_addNumber_29 : decode cTo_addNumber 29 = .ok (.return_, 1) := by decide +kernel
def fTo_addNumber (v1 : Int32) (s0 : Sg) : Option (Sg) := bv (fTo_addByte (usr v1 24) s0) fun s1 => bv (fTo_addByte (usr v1 16) s1) fun s2 => bv (fTo_addByte (usr v1 8) s2) fun s3 => bv (fTo_addByte v1 s3) fun s4 => some s4
set_option maxHeartbeats 4000000 in
set_option maxRecDepth 100000 in
theorem okTo_addNumber (v1 : Int32) (s0 : Sg) : ∀ (l : Launch) (w : WC), Ok l w yTo_addNumber cTo_addNumber 2 none 2 evV [.ref (w.ad 31), .int v1] s0 (fTo_addNumber v1 s0) := by
  refine ok_in (ev := fun _ => evV) (av := fun w => [.ref (w.ad 31), .int v1]) "LastWordHill$Tokens" rfl (by decide +kernel) (fun _ => rfl) (fun _ => Nat.le_of_ble_eq_true rfl) ?_
  intro C X E
  show GF C evV 0 [some (.ref (C.w.ad 31)), some (.int v1)] [] s0 (fTo_addNumber v1 s0)
  unfold fTo_addNumber
  refine g_aload_n X dTo_addNumber_0 rfl ?_
  refine g_iload_n X dTo_addNumber_1 rfl ?_
  refine g_bipush X 24 dTo_addNumber_2 (by decide) ?_
  refine g_iushr X dTo_addNumber_4 ?_
  refine g_virtV X [.int (usr v1 24)] [] k_31 mm_To_addByte mv_To_addByte ml_To_24 (okTo_addByte (usr v1 24) s0 C.l C.w) rfl (by decide) rfl (Nat.le_of_ble_eq_true rfl) dTo_addNumber_5 (fun s1 => ?_)
  refine g_aload_n X dTo_addNumber_8 rfl ?_
  refine g_iload_n X dTo_addNumber_9 rfl ?_
  refine g_bipush X 16 dTo_addNumber_10 (by decide) ?_
  refine g_iushr X dTo_addNumber_12 ?_
  refine g_virtV X [.int (usr v1 16)] [] k_31 mm_To_addByte mv_To_addByte ml_To_24 (okTo_addByte (usr v1 16) s1 C.l C.w) rfl (by decide) rfl (Nat.le_of_ble_eq_true rfl) dTo_addNumber_13 (fun s2 => ?_)
  refine g_aload_n X dTo_addNumber_16 rfl ?_
  refine g_iload_n X dTo_addNumber_17 rfl ?_
  refine g_bipush X 8 dTo_addNumber_18 (by decide) ?_
  refine g_iushr X dTo_addNumber_20 ?_
  refine g_virtV X [.int (usr v1 8)] [] k_31 mm_To_addByte mv_To_addByte ml_To_24 (okTo_addByte (usr v1 8) s2 C.l C.w) rfl (by decide) rfl (Nat.le_of_ble_eq_true rfl) dTo_addNumber_21 (fun s3 => ?_)
  refine g_aload_n X dTo_addNumber_24 rfl ?_
  refine g_iload_n X dTo_addNumber_25 rfl ?_
  refine g_virtV X [.int v1] [] k_31 mm_To_addByte mv_To_addByte ml_To_24 (okTo_addByte v1 s3 C.l C.w) rfl (by decide) rfl (Nat.le_of_ble_eq_true rfl) dTo_addNumber_26 (fun s4 => ?_)
  exact g_vret X E dTo_addNumber_29
def yTo_numberAt : MethodName := ⟨"LastWordHill$Tokens", "numberAt", "(II)I"⟩
abbrev cTo_numberAt : ByteArray := prog_11_method_9_code
theorem dTo_numberAt_0 : decode cTo_numberAt 0 = .ok (.iconst 0, 1) := by decide +kernel
theorem dTo_numberAt_1 : decode cTo_numberAt 1 = .ok (.istore_n 3, 1) := by decide +kernel
theorem dTo_numberAt_2 : decode cTo_numberAt 2 = .ok (.iload_n 1, 1) := by decide +kernel
theorem dTo_numberAt_3 : decode cTo_numberAt 3 = .ok (.istore 4, 2) := by decide +kernel
theorem dTo_numberAt_5 : decode cTo_numberAt 5 = .ok (.iload 4, 2) := by decide +kernel
theorem dTo_numberAt_7 : decode cTo_numberAt 7 = .ok (.iload_n 2, 1) := by decide +kernel
theorem dTo_numberAt_8 : decode cTo_numberAt 8 = .ok (.if_icmp .ge 32, 3) := by decide +kernel
theorem dTo_numberAt_40 : decode cTo_numberAt 40 = .ok (.iload_n 3, 1) := by decide +kernel
theorem dTo_numberAt_41 : decode cTo_numberAt 41 = .ok (.ireturn, 1) := by decide +kernel
theorem dTo_numberAt_11 : decode cTo_numberAt 11 = .ok (.iload 4, 2) := by decide +kernel
theorem dTo_numberAt_13 : decode cTo_numberAt 13 = .ok (.iload_n 1, 1) := by decide +kernel
theorem dTo_numberAt_14 : decode cTo_numberAt 14 = .ok (.iconst 4, 1) := by decide +kernel
theorem dTo_numberAt_15 : decode cTo_numberAt 15 = .ok (.iadd, 1) := by decide +kernel
theorem dTo_numberAt_16 : decode cTo_numberAt 16 = .ok (.if_icmp .ge 24, 3) := by decide +kernel
theorem dTo_numberAt_19 : decode cTo_numberAt 19 = .ok (.bipush 10, 2) := by decide +kernel
theorem dTo_numberAt_21 : decode cTo_numberAt 21 = .ok (.iload_n 3, 1) := by decide +kernel
theorem dTo_numberAt_22 : decode cTo_numberAt 22 = .ok (.imul, 1) := by decide +kernel
theorem dTo_numberAt_23 : decode cTo_numberAt 23 = .ok (.aload_n 0, 1) := by decide +kernel
theorem dTo_numberAt_24 : decode cTo_numberAt 24 = .ok (.iload 4, 2) := by decide +kernel
theorem dTo_numberAt_26 : decode cTo_numberAt 26 = .ok (.invokevirtual 35, 3) := by decide +kernel
theorem mm_To_signAt : MMc yTo_signAt cTo_signAt 2 (some .int) 1 := ⟨hz_in 836 (by decide +kernel) (by decide +kernel), hz_in 142 (by decide +kernel) (by decide +kernel), by decide +kernel, by decide⟩
theorem mv_To_signAt : MMv yTo_signAt 9 := ⟨hz_in 835 (by decide +kernel) (by decide +kernel), hz_in 6 (by decide +kernel) (by decide +kernel), _, _, rfl, by decide⟩
theorem ml_To_35 : Cond.methodLink "LastWordHill$Tokens" 35 yTo_signAt ∈ hz_wt := hz_in 833 (by decide +kernel) (by decide +kernel)
theorem dTo_numberAt_29 : decode cTo_numberAt 29 = .ok (.iadd, 1) := by decide +kernel
theorem dTo_numberAt_30 : decode cTo_numberAt 30 = .ok (.bipush 48, 2) := by decide +kernel
theorem dTo_numberAt_32 : decode cTo_numberAt 32 = .ok (.isub, 1) := by decide +kernel
theorem dTo_numberAt_33 : decode cTo_numberAt 33 = .ok (.istore_n 3, 1) := by decide +kernel
theorem dTo_numberAt_34 : decode cTo_numberAt 34 = .ok (.iinc 4 1, 3) := by decide +kernel
theorem dTo_numberAt_37 : decode cTo_numberAt 37 = .ok (.goto (-32), 3) := by decide +kernel
def fTo_numberAt (v1 : Int32) (v2 : Int32) (s0 : Sg) : Option (Int32 × Sg) := lp FU (fun q5 (u5 : Int32 × Int32) (s1 : Sg) => if v2 ≤ u5.2 then (some (u5.1, s1)) else (if (v1 + 4) ≤ u5.2 then (some (u5.1, s1)) else (bi (fTo_signAt u5.2 s1) fun r3 s2 => bnd (((10 * u5.1) + r3) - 48) fun x4 => q5 (x4, (u5.2 + 1)) s2))) (0, v1) s0
set_option maxHeartbeats 4000000 in
set_option maxRecDepth 100000 in
theorem okTo_numberAt (v1 : Int32) (v2 : Int32) (s0 : Sg) : ∀ (l : Launch) (w : WC), Ok l w yTo_numberAt cTo_numberAt 5 (some .int) 2 evI [.ref (w.ad 31), .int v1, .int v2] s0 (fTo_numberAt v1 v2 s0) := by
  refine ok_in (ev := fun _ => evI) (av := fun w => [.ref (w.ad 31), .int v1, .int v2]) "LastWordHill$Tokens" rfl (by decide +kernel) (fun _ => rfl) (fun _ => Nat.le_of_ble_eq_true rfl) ?_
  intro C X E
  show GF C evI 0 [some (.ref (C.w.ad 31)), some (.int v1), some (.int v2), none, none] [] s0 (fTo_numberAt v1 v2 s0)
  unfold fTo_numberAt
  refine g_iconst X 0 dTo_numberAt_0 (by decide) ?_
  refine g_istore_n X [some (.ref (C.w.ad 31)), some (.int v1), some (.int v2), some (.int 0), none] dTo_numberAt_1 (by decide) (Nat.le_of_ble_eq_true rfl) rfl ?_
  refine g_iload_n X dTo_numberAt_2 rfl ?_
  refine g_istore X [some (.ref (C.w.ad 31)), some (.int v1), some (.int v2), some (.int 0), some (.int v1)] dTo_numberAt_3 (by decide) (Nat.le_of_ble_eq_true rfl) rfl ?_
  refine gf_sub (L' := [some (.ref (C.w.ad 31)), some (.int v1), some (.int v2), some (.int 0), some (.int v1)]) ?_ (by simp [lsub])
  refine gf_lp (Lf := fun (u5 : Int32 × Int32) => [some (.ref (C.w.ad 31)), some (.int v1), some (.int v2), some (.int u5.1), some (.int u5.2)]) (fun q5 hq5 u5 s1 => ?_) FU (0, v1) s0
  refine g_iload X dTo_numberAt_5 rfl ?_
  refine g_iload_n X dTo_numberAt_7 rfl ?_
  refine g_cge X (tgt := 40) dTo_numberAt_8 (by decide) ?_ ?_
  · refine g_iload_n X dTo_numberAt_40 rfl ?_
    exact g_iret X E dTo_numberAt_41
  · refine g_iload X dTo_numberAt_11 rfl ?_
    refine g_iload_n X dTo_numberAt_13 rfl ?_
    refine g_iconst X 4 dTo_numberAt_14 (by decide) ?_
    refine g_iadd X dTo_numberAt_15 ?_
    refine g_cge X (tgt := 40) dTo_numberAt_16 (by decide) ?_ ?_
    · refine g_iload_n X dTo_numberAt_40 rfl ?_
      exact g_iret X E dTo_numberAt_41
    · refine g_bipush X 10 dTo_numberAt_19 (by decide) ?_
      refine g_iload_n X dTo_numberAt_21 rfl ?_
      refine g_imul X dTo_numberAt_22 ?_
      refine g_aload_n X dTo_numberAt_23 rfl ?_
      refine g_iload X dTo_numberAt_24 rfl ?_
      refine g_virtI X [.int u5.2] [.int (10 * u5.1)] k_31 mm_To_signAt mv_To_signAt ml_To_35 (okTo_signAt u5.2 s1 C.l C.w) rfl (by decide) rfl (Nat.le_of_ble_eq_true rfl) dTo_numberAt_26 (fun r3 s2 => ?_)
      refine g_iadd X dTo_numberAt_29 ?_
      refine g_bipush X 48 dTo_numberAt_30 (by decide) ?_
      refine g_isub X dTo_numberAt_32 ?_
      refine gf_nm (fun x4 => ?_)
      refine g_istore_n X [some (.ref (C.w.ad 31)), some (.int v1), some (.int v2), some (.int x4), some (.int u5.2)] dTo_numberAt_33 (by decide) (Nat.le_of_ble_eq_true rfl) rfl ?_
      refine g_iinc X (u5.2 + 1) [some (.ref (C.w.ad 31)), some (.int v1), some (.int v2), some (.int x4), some (.int (u5.2 + 1))] dTo_numberAt_34 rfl rfl (by decide) rfl ?_
      refine g_goto X 5 dTo_numberAt_37 (by decide) ?_
      exact gf_sub (hq5 (x4, (u5.2 + 1)) s2) (by simp [lsub])
def yTo_isLetter : MethodName := ⟨"LastWordHill$Tokens", "isLetter", "(I)Z"⟩
abbrev cTo_isLetter : ByteArray := prog_11_method_14_code
theorem dTo_isLetter_0 : decode cTo_isLetter 0 = .ok (.iload_n 0, 1) := by decide +kernel
theorem dTo_isLetter_1 : decode cTo_isLetter 1 = .ok (.bipush 97, 2) := by decide +kernel
theorem dTo_isLetter_3 : decode cTo_isLetter 3 = .ok (.bipush 122, 2) := by decide +kernel
theorem dTo_isLetter_5 : decode cTo_isLetter 5 = .ok (.invokestatic 100, 3) := by decide +kernel
theorem ml_To_100 : Cond.methodLinkNest "LastWordHill$Tokens" 100 yH_within "LastWordHill" ∈ hz_nt := hz_inN 840 (by decide +kernel) (by decide +kernel)
theorem dTo_isLetter_8 : decode cTo_isLetter 8 = .ok (.ifCond .ne 14, 3) := by decide +kernel
theorem dTo_isLetter_22 : decode cTo_isLetter 22 = .ok (.iconst 1, 1) := by decide +kernel
theorem dTo_isLetter_23 : decode cTo_isLetter 23 = .ok (.goto 4, 3) := by decide +kernel
theorem dTo_isLetter_27 : decode cTo_isLetter 27 = .ok (.ireturn, 1) := by decide +kernel
theorem dTo_isLetter_11 : decode cTo_isLetter 11 = .ok (.iload_n 0, 1) := by decide +kernel
theorem dTo_isLetter_12 : decode cTo_isLetter 12 = .ok (.bipush 65, 2) := by decide +kernel
theorem dTo_isLetter_14 : decode cTo_isLetter 14 = .ok (.bipush 90, 2) := by decide +kernel
theorem dTo_isLetter_16 : decode cTo_isLetter 16 = .ok (.invokestatic 100, 3) := by decide +kernel
theorem dTo_isLetter_19 : decode cTo_isLetter 19 = .ok (.ifCond .eq 7, 3) := by decide +kernel
theorem dTo_isLetter_26 : decode cTo_isLetter 26 = .ok (.iconst 0, 1) := by decide +kernel
def fTo_isLetter (v0 : Int32) (s0 : Sg) : Option (Int32 × Sg) := bi (fH_within v0 97 122 s0) fun r2 s1 => bnd (fun (s3 : Sg) => gb 1 (some (1, s3))) fun j22 => if r2 = 0 then (bi (fH_within v0 65 90 s1) fun r5 s4 => if r5 = 0 then (gb 0 (some (0, s4))) else (j22 s4)) else (j22 s1)
set_option maxHeartbeats 4000000 in
set_option maxRecDepth 100000 in
theorem okTo_isLetter (v0 : Int32) (s0 : Sg) : ∀ (l : Launch) (w : WC), Ok l w yTo_isLetter cTo_isLetter 1 (some .boolean) 2 evI [.int v0] s0 (fTo_isLetter v0 s0) := by
  refine ok_in (ev := fun _ => evI) (av := fun w => [.int v0]) "LastWordHill$Tokens" rfl (by decide +kernel) (fun _ => rfl) (fun _ => Nat.le_of_ble_eq_true rfl) ?_
  intro C X E
  show GF C evI 0 [some (.int v0)] [] s0 (fTo_isLetter v0 s0)
  unfold fTo_isLetter
  refine g_iload_n X dTo_isLetter_0 rfl ?_
  refine g_bipush X 97 dTo_isLetter_1 (by decide) ?_
  refine g_bipush X 122 dTo_isLetter_3 (by decide) ?_
  refine g_nestI X [.int v0, .int 97, .int 122] [] mm_H_within ms_H_within ml_To_100 (okH_within v0 97 122 s0 C.l C.w) rfl (by decide) rfl (Nat.le_of_ble_eq_true rfl) dTo_isLetter_5 (fun r2 s1 => ?_)
  refine gf_jn (fun j22 => ∀ (s3 : Sg), GF C evI 22 [none] [] s3 (j22 s3)) ?_ ?_
  · intro s3
    refine g_iconst X 1 dTo_isLetter_22 (by decide) ?_
    refine g_goto X 27 dTo_isLetter_23 (by decide) ?_
    exact g_zret X E dTo_isLetter_27
  · intro j22 hj22
    refine g_zne X (tgt := 22) dTo_isLetter_8 (by decide) ?_ ?_
    · refine g_iload_n X dTo_isLetter_11 rfl ?_
      refine g_bipush X 65 dTo_isLetter_12 (by decide) ?_
      refine g_bipush X 90 dTo_isLetter_14 (by decide) ?_
      refine g_nestI X [.int v0, .int 65, .int 90] [] mm_H_within ms_H_within ml_To_100 (okH_within v0 65 90 s1 C.l C.w) rfl (by decide) rfl (Nat.le_of_ble_eq_true rfl) dTo_isLetter_16 (fun r5 s4 => ?_)
      refine g_zeq X (tgt := 26) dTo_isLetter_19 (by decide) ?_ ?_
      · refine g_iconst X 0 dTo_isLetter_26 (by decide) ?_
        exact g_zret X E dTo_isLetter_27
      · exact gf_sub (hj22 s4) (by simp [lsub])
    · exact gf_sub (hj22 s1) (by simp [lsub])
def yTo_isDigit : MethodName := ⟨"LastWordHill$Tokens", "isDigit", "(I)Z"⟩
abbrev cTo_isDigit : ByteArray := prog_11_method_15_code
theorem dTo_isDigit_0 : decode cTo_isDigit 0 = .ok (.iload_n 0, 1) := by decide +kernel
theorem dTo_isDigit_1 : decode cTo_isDigit 1 = .ok (.bipush 48, 2) := by decide +kernel
theorem dTo_isDigit_3 : decode cTo_isDigit 3 = .ok (.bipush 57, 2) := by decide +kernel
theorem dTo_isDigit_5 : decode cTo_isDigit 5 = .ok (.invokestatic 100, 3) := by decide +kernel
theorem dTo_isDigit_8 : decode cTo_isDigit 8 = .ok (.ireturn, 1) := by decide +kernel
def fTo_isDigit (v0 : Int32) (s0 : Sg) : Option (Int32 × Sg) := bi (fH_within v0 48 57 s0) fun r2 s1 => gb r2 (some (r2, s1))
set_option maxHeartbeats 4000000 in
set_option maxRecDepth 100000 in
theorem okTo_isDigit (v0 : Int32) (s0 : Sg) : ∀ (l : Launch) (w : WC), Ok l w yTo_isDigit cTo_isDigit 1 (some .boolean) 2 evI [.int v0] s0 (fTo_isDigit v0 s0) := by
  refine ok_in (ev := fun _ => evI) (av := fun w => [.int v0]) "LastWordHill$Tokens" rfl (by decide +kernel) (fun _ => rfl) (fun _ => Nat.le_of_ble_eq_true rfl) ?_
  intro C X E
  show GF C evI 0 [some (.int v0)] [] s0 (fTo_isDigit v0 s0)
  unfold fTo_isDigit
  refine g_iload_n X dTo_isDigit_0 rfl ?_
  refine g_bipush X 48 dTo_isDigit_1 (by decide) ?_
  refine g_bipush X 57 dTo_isDigit_3 (by decide) ?_
  refine g_nestI X [.int v0, .int 48, .int 57] [] mm_H_within ms_H_within ml_To_100 (okH_within v0 48 57 s0 C.l C.w) rfl (by decide) rfl (Nat.le_of_ble_eq_true rfl) dTo_isDigit_5 (fun r2 s1 => ?_)
  exact g_zret X E dTo_isDigit_8
def yTl_become : MethodName := ⟨"LastWordHill$Told", "become", "(LLastWordHill$Told;)V"⟩
abbrev cTl_become : ByteArray := prog_12_method_2_code
theorem dTl_become_0 : decode cTl_become 0 = .ok (.aload_n 0, 1) := by decide +kernel
theorem dTl_become_1 : decode cTl_become 1 = .ok (.getfield 14, 3) := by decide +kernel
theorem fl_Tl_14 : FLk "LastWordHill$Told" 14 10 0 := ⟨_, _, _, rfl, by decide, hz_in 420 (by decide +kernel) (by decide +kernel), nL10, by decide, by decide⟩
theorem fb_10_0 : (hz_bs 10)[0]? = some true := by decide
theorem dTl_become_4 : decode cTl_become 4 = .ok (.aload_n 1, 1) := by decide +kernel
theorem dTl_become_5 : decode cTl_become 5 = .ok (.getfield 14, 3) := by decide +kernel
theorem dTl_become_8 : decode cTl_become 8 = .ok (.invokevirtual 45, 3) := by decide +kernel
theorem mm_Ta_become : MMc yTa_become cTa_become 2 none 1 := ⟨hz_in 1080 (by decide +kernel) (by decide +kernel), hz_in 139 (by decide +kernel) (by decide +kernel), by decide +kernel, by decide⟩
theorem mv_Ta_become : MMv yTa_become 7 := ⟨hz_in 1078 (by decide +kernel) (by decide +kernel), hz_in 1079 (by decide +kernel) (by decide +kernel), _, _, rfl, by decide⟩
theorem ml_Tl_45 : Cond.methodLink "LastWordHill$Told" 45 yTa_become ∈ hz_wt := hz_in 1392 (by decide +kernel) (by decide +kernel)
theorem dTl_become_11 : decode cTl_become 11 = .ok (.aload_n 0, 1) := by decide +kernel
theorem dTl_become_12 : decode cTl_become 12 = .ok (.getfield 20, 3) := by decide +kernel
theorem fl_Tl_20 : FLk "LastWordHill$Told" 20 10 1 := ⟨_, _, _, rfl, by decide, hz_in 423 (by decide +kernel) (by decide +kernel), nL10, by decide, by decide⟩
theorem fb_10_1 : (hz_bs 10)[1]? = some true := by decide
theorem dTl_become_15 : decode cTl_become 15 = .ok (.aload_n 1, 1) := by decide +kernel
theorem dTl_become_16 : decode cTl_become 16 = .ok (.getfield 20, 3) := by decide +kernel
theorem dTl_become_19 : decode cTl_become 19 = .ok (.invokevirtual 45, 3) := by decide +kernel
theorem dTl_become_22 : decode cTl_become 22 = .ok (.aload_n 0, 1) := by decide +kernel
theorem dTl_become_23 : decode cTl_become 23 = .ok (.getfield 23, 3) := by decide +kernel
theorem fl_Tl_23 : FLk "LastWordHill$Told" 23 10 2 := ⟨_, _, _, rfl, by decide, hz_in 426 (by decide +kernel) (by decide +kernel), nL10, by decide, by decide⟩
theorem fb_10_2 : (hz_bs 10)[2]? = some true := by decide
theorem dTl_become_26 : decode cTl_become 26 = .ok (.aload_n 1, 1) := by decide +kernel
theorem dTl_become_27 : decode cTl_become 27 = .ok (.getfield 23, 3) := by decide +kernel
theorem dTl_become_30 : decode cTl_become 30 = .ok (.invokevirtual 45, 3) := by decide +kernel
theorem dTl_become_33 : decode cTl_become 33 = .ok (.aload_n 0, 1) := by decide +kernel
theorem dTl_become_34 : decode cTl_become 34 = .ok (.getfield 26, 3) := by decide +kernel
theorem fl_Tl_26 : FLk "LastWordHill$Told" 26 10 3 := ⟨_, _, _, rfl, by decide, hz_in 429 (by decide +kernel) (by decide +kernel), nL10, by decide, by decide⟩
theorem fb_10_3 : (hz_bs 10)[3]? = some true := by decide
theorem dTl_become_37 : decode cTl_become 37 = .ok (.aload_n 1, 1) := by decide +kernel
theorem dTl_become_38 : decode cTl_become 38 = .ok (.getfield 26, 3) := by decide +kernel
theorem dTl_become_41 : decode cTl_become 41 = .ok (.invokevirtual 45, 3) := by decide +kernel
theorem dTl_become_44 : decode cTl_become 44 = .ok (.aload_n 0, 1) := by decide +kernel
theorem dTl_become_45 : decode cTl_become 45 = .ok (.getfield 29, 3) := by decide +kernel
theorem fl_Tl_29 : FLk "LastWordHill$Told" 29 10 4 := ⟨_, _, _, rfl, by decide, hz_in 432 (by decide +kernel) (by decide +kernel), nL10, by decide, by decide⟩
theorem fb_10_4 : (hz_bs 10)[4]? = some true := by decide
theorem dTl_become_48 : decode cTl_become 48 = .ok (.aload_n 1, 1) := by decide +kernel
theorem dTl_become_49 : decode cTl_become 49 = .ok (.getfield 29, 3) := by decide +kernel
theorem dTl_become_52 : decode cTl_become 52 = .ok (.invokevirtual 45, 3) := by decide +kernel
theorem dTl_become_55 : decode cTl_become 55 = .ok (.aload_n 0, 1) := by decide +kernel
theorem dTl_become_56 : decode cTl_become 56 = .ok (.getfield 32, 3) := by decide +kernel
theorem fl_Tl_32 : FLk "LastWordHill$Told" 32 10 5 := ⟨_, _, _, rfl, by decide, hz_in 435 (by decide +kernel) (by decide +kernel), nL10, by decide, by decide⟩
theorem fb_10_5 : (hz_bs 10)[5]? = some true := by decide
theorem dTl_become_59 : decode cTl_become 59 = .ok (.aload_n 1, 1) := by decide +kernel
theorem dTl_become_60 : decode cTl_become 60 = .ok (.getfield 32, 3) := by decide +kernel
theorem dTl_become_63 : decode cTl_become 63 = .ok (.invokevirtual 45, 3) := by decide +kernel
theorem dTl_become_66 : decode cTl_become 66 = .ok (.aload_n 0, 1) := by decide +kernel
theorem dTl_become_67 : decode cTl_become 67 = .ok (.getfield 35, 3) := by decide +kernel
theorem fl_Tl_35 : FLk "LastWordHill$Told" 35 10 6 := ⟨_, _, _, rfl, by decide, hz_in 438 (by decide +kernel) (by decide +kernel), nL10, by decide, by decide⟩
theorem fb_10_6 : (hz_bs 10)[6]? = some true := by decide
theorem dTl_become_70 : decode cTl_become 70 = .ok (.aload_n 1, 1) := by decide +kernel
theorem dTl_become_71 : decode cTl_become 71 = .ok (.getfield 35, 3) := by decide +kernel
theorem dTl_become_74 : decode cTl_become 74 = .ok (.invokevirtual 45, 3) := by decide +kernel
theorem dTl_become_77 : decode cTl_become 77 = .ok (.aload_n 0, 1) := by decide +kernel
theorem dTl_become_78 : decode cTl_become 78 = .ok (.aload_n 1, 1) := by decide +kernel
theorem dTl_become_79 : decode cTl_become 79 = .ok (.getfield 38, 3) := by decide +kernel
theorem fl_Tl_38 : FLk "LastWordHill$Told" 38 10 7 := ⟨_, _, _, rfl, by decide, hz_in 441 (by decide +kernel) (by decide +kernel), nL10, by decide, by decide⟩
theorem dTl_become_82 : decode cTl_become 82 = .ok (.putfield 38, 3) := by decide +kernel
theorem dTl_become_85 : decode cTl_become 85 = .ok (.aload_n 0, 1) := by decide +kernel
theorem dTl_become_86 : decode cTl_become 86 = .ok (.aload_n 1, 1) := by decide +kernel
theorem dTl_become_87 : decode cTl_become 87 = .ok (.getfield 49, 3) := by decide +kernel
theorem fl_Tl_49 : FLk "LastWordHill$Told" 49 10 8 := ⟨_, _, _, rfl, by decide, hz_in 444 (by decide +kernel) (by decide +kernel), nL10, by decide, by decide⟩
theorem dTl_become_90 : decode cTl_become 90 = .ok (.putfield 49, 3) := by decide +kernel
theorem dTl_become_93 : decode cTl_become 93 = .ok (.aload_n 0, 1) := by decide +kernel
theorem dTl_become_94 : decode cTl_become 94 = .ok (.aload_n 1, 1) := by decide +kernel
theorem dTl_become_95 : decode cTl_become 95 = .ok (.getfield 42, 3) := by decide +kernel
theorem fl_Tl_42 : FLk "LastWordHill$Told" 42 10 9 := ⟨_, _, _, rfl, by decide, hz_in 447 (by decide +kernel) (by decide +kernel), nL10, by decide, by decide⟩
theorem dTl_become_98 : decode cTl_become 98 = .ok (.putfield 42, 3) := by decide +kernel
theorem dTl_become_101 : decode cTl_become 101 = .ok (.return_, 1) := by decide +kernel
def fTl_become (o0 : Nat) (o1 : Nat) (s0 : Sg) : Option (Sg) := bv (fTa_become (hz_rf o0 0) (hz_rf o1 0) s0) fun s1 => bv (fTa_become (hz_rf o0 1) (hz_rf o1 1) s1) fun s2 => bv (fTa_become (hz_rf o0 2) (hz_rf o1 2) s2) fun s3 => bv (fTa_become (hz_rf o0 3) (hz_rf o1 3) s3) fun s4 => bv (fTa_become (hz_rf o0 4) (hz_rf o1 4) s4) fun s5 => bv (fTa_become (hz_rf o0 5) (hz_rf o1 5) s5) fun s6 => bv (fTa_become (hz_rf o0 6) (hz_rf o1 6) s6) fun s7 => bnd (pt s7 o0 7 (s7 o1 7)) fun s8 => bnd (pt s8 o0 8 (s8 o1 8)) fun s9 => bnd (pt s9 o0 9 (s9 o1 9)) fun s10 => some s10
set_option maxHeartbeats 4000000 in
set_option maxRecDepth 100000 in
theorem okTl_become (o0 : Nat) (o1 : Nat) (s0 : Sg) (h0 : hz_kd o0 = 10) (h1 : hz_kd o1 = 10) : ∀ (l : Launch) (w : WC), Ok l w yTl_become cTl_become 2 none 3 evV [.ref (w.ad o0), .ref (w.ad o1)] s0 (fTl_become o0 o1 s0) := by
  refine ok_in (ev := fun _ => evV) (av := fun w => [.ref (w.ad o0), .ref (w.ad o1)]) "LastWordHill$Told" rfl (by decide +kernel) (fun _ => rfl) (fun _ => Nat.le_of_ble_eq_true rfl) ?_
  intro C X E
  show GF C evV 0 [some (.ref (C.w.ad o0)), some (.ref (C.w.ad o1))] [] s0 (fTl_become o0 o1 s0)
  unfold fTl_become
  refine g_aload_n X dTl_become_0 rfl ?_
  refine g_getR X fl_Tl_14 fb_10_0 h0 dTl_become_1 ?_
  refine g_aload_n X dTl_become_4 rfl ?_
  refine g_getR X fl_Tl_14 fb_10_0 h1 dTl_become_5 ?_
  refine g_virtV X [.ref (C.w.ad (hz_rf o1 0))] [] (sk_10_0 h0) mm_Ta_become mv_Ta_become ml_Tl_45 (okTa_become (hz_rf o0 0) (hz_rf o1 0) s0 (sk_10_0 h0) (sk_10_0 h1) C.l C.w) rfl (by decide) rfl (Nat.le_of_ble_eq_true rfl) dTl_become_8 (fun s1 => ?_)
  refine g_aload_n X dTl_become_11 rfl ?_
  refine g_getR X fl_Tl_20 fb_10_1 h0 dTl_become_12 ?_
  refine g_aload_n X dTl_become_15 rfl ?_
  refine g_getR X fl_Tl_20 fb_10_1 h1 dTl_become_16 ?_
  refine g_virtV X [.ref (C.w.ad (hz_rf o1 1))] [] (sk_10_1 h0) mm_Ta_become mv_Ta_become ml_Tl_45 (okTa_become (hz_rf o0 1) (hz_rf o1 1) s1 (sk_10_1 h0) (sk_10_1 h1) C.l C.w) rfl (by decide) rfl (Nat.le_of_ble_eq_true rfl) dTl_become_19 (fun s2 => ?_)
  refine g_aload_n X dTl_become_22 rfl ?_
  refine g_getR X fl_Tl_23 fb_10_2 h0 dTl_become_23 ?_
  refine g_aload_n X dTl_become_26 rfl ?_
  refine g_getR X fl_Tl_23 fb_10_2 h1 dTl_become_27 ?_
  refine g_virtV X [.ref (C.w.ad (hz_rf o1 2))] [] (sk_10_2 h0) mm_Ta_become mv_Ta_become ml_Tl_45 (okTa_become (hz_rf o0 2) (hz_rf o1 2) s2 (sk_10_2 h0) (sk_10_2 h1) C.l C.w) rfl (by decide) rfl (Nat.le_of_ble_eq_true rfl) dTl_become_30 (fun s3 => ?_)
  refine g_aload_n X dTl_become_33 rfl ?_
  refine g_getR X fl_Tl_26 fb_10_3 h0 dTl_become_34 ?_
  refine g_aload_n X dTl_become_37 rfl ?_
  refine g_getR X fl_Tl_26 fb_10_3 h1 dTl_become_38 ?_
  refine g_virtV X [.ref (C.w.ad (hz_rf o1 3))] [] (sk_10_3 h0) mm_Ta_become mv_Ta_become ml_Tl_45 (okTa_become (hz_rf o0 3) (hz_rf o1 3) s3 (sk_10_3 h0) (sk_10_3 h1) C.l C.w) rfl (by decide) rfl (Nat.le_of_ble_eq_true rfl) dTl_become_41 (fun s4 => ?_)
  refine g_aload_n X dTl_become_44 rfl ?_
  refine g_getR X fl_Tl_29 fb_10_4 h0 dTl_become_45 ?_
  refine g_aload_n X dTl_become_48 rfl ?_
  refine g_getR X fl_Tl_29 fb_10_4 h1 dTl_become_49 ?_
  refine g_virtV X [.ref (C.w.ad (hz_rf o1 4))] [] (sk_10_4 h0) mm_Ta_become mv_Ta_become ml_Tl_45 (okTa_become (hz_rf o0 4) (hz_rf o1 4) s4 (sk_10_4 h0) (sk_10_4 h1) C.l C.w) rfl (by decide) rfl (Nat.le_of_ble_eq_true rfl) dTl_become_52 (fun s5 => ?_)
  refine g_aload_n X dTl_become_55 rfl ?_
  refine g_getR X fl_Tl_32 fb_10_5 h0 dTl_become_56 ?_
  refine g_aload_n X dTl_become_59 rfl ?_
  refine g_getR X fl_Tl_32 fb_10_5 h1 dTl_become_60 ?_
  refine g_virtV X [.ref (C.w.ad (hz_rf o1 5))] [] (sk_10_5 h0) mm_Ta_become mv_Ta_become ml_Tl_45 (okTa_become (hz_rf o0 5) (hz_rf o1 5) s5 (sk_10_5 h0) (sk_10_5 h1) C.l C.w) rfl (by decide) rfl (Nat.le_of_ble_eq_true rfl) dTl_become_63 (fun s6 => ?_)
  refine g_aload_n X dTl_become_66 rfl ?_
  refine g_getR X fl_Tl_35 fb_10_6 h0 dTl_become_67 ?_
  refine g_aload_n X dTl_become_70 rfl ?_
  refine g_getR X fl_Tl_35 fb_10_6 h1 dTl_become_71 ?_
  refine g_virtV X [.ref (C.w.ad (hz_rf o1 6))] [] (sk_10_6 h0) mm_Ta_become mv_Ta_become ml_Tl_45 (okTa_become (hz_rf o0 6) (hz_rf o1 6) s6 (sk_10_6 h0) (sk_10_6 h1) C.l C.w) rfl (by decide) rfl (Nat.le_of_ble_eq_true rfl) dTl_become_74 (fun s7 => ?_)
  refine g_aload_n X dTl_become_77 rfl ?_
  refine g_aload_n X dTl_become_78 rfl ?_
  refine g_getI X fl_Tl_38 fb_10_7 h1 dTl_become_79 ?_
  refine g_putI X fl_Tl_38 fb_10_7 fp_10_7 h0 dTl_become_82 (fun s8 => ?_)
  refine g_aload_n X dTl_become_85 rfl ?_
  refine g_aload_n X dTl_become_86 rfl ?_
  refine g_getI X fl_Tl_49 fb_10_8 h1 dTl_become_87 ?_
  refine g_putI X fl_Tl_49 fb_10_8 fp_10_8 h0 dTl_become_90 (fun s9 => ?_)
  refine g_aload_n X dTl_become_93 rfl ?_
  refine g_aload_n X dTl_become_94 rfl ?_
  refine g_getI X fl_Tl_42 fb_10_9 h1 dTl_become_95 ?_
  refine g_putI X fl_Tl_42 fb_10_9 fp_10_9 h0 dTl_become_98 (fun s10 => ?_)
  exact g_vret X E dTl_become_101
def yH_feed : MethodName := ⟨"LastWordHill", "feed", "(IIIII)I"⟩
abbrev cH_feed : ByteArray := prog_1_method_12_code
theorem dH_feed_0 : decode cH_feed 0 = .ok (.aload_n 0, 1) := by decide +kernel
theorem dH_feed_1 : decode cH_feed 1 = .ok (.getfield 36, 3) := by decide +kernel
theorem dH_feed_4 : decode cH_feed 4 = .ok (.getfield 170, 3) := by decide +kernel
theorem dH_feed_7 : decode cH_feed 7 = .ok (.astore 6, 2) := by decide +kernel
theorem dH_feed_9 : decode cH_feed 9 = .ok (.aload 6, 2) := by decide +kernel
theorem dH_feed_11 : decode cH_feed 11 = .ok (.getfield 174, 3) := by decide +kernel
theorem dH_feed_14 : decode cH_feed 14 = .ok (.bipush 20, 2) := by decide +kernel
theorem dH_feed_16 : decode cH_feed 16 = .ok (.iadd, 1) := by decide +kernel
theorem dH_feed_17 : decode cH_feed 17 = .ok (.sipush 400, 3) := by decide +kernel
theorem dH_feed_20 : decode cH_feed 20 = .ok (.if_icmp .le 5, 3) := by decide +kernel
theorem dH_feed_25 : decode cH_feed 25 = .ok (.aload 6, 2) := by decide +kernel
theorem dH_feed_27 : decode cH_feed 27 = .ok (.iload_n 1, 1) := by decide +kernel
theorem dH_feed_28 : decode cH_feed 28 = .ok (.invokevirtual 179, 3) := by decide +kernel
theorem mm_To_addNumber : MMc yTo_addNumber cTo_addNumber 2 none 1 := ⟨hz_in 788 (by decide +kernel) (by decide +kernel), hz_in 142 (by decide +kernel) (by decide +kernel), by decide +kernel, by decide⟩
theorem mv_To_addNumber : MMv yTo_addNumber 9 := ⟨hz_in 786 (by decide +kernel) (by decide +kernel), hz_in 787 (by decide +kernel) (by decide +kernel), _, _, rfl, by decide⟩
theorem ml_H_179 : Cond.methodLink "LastWordHill" 179 yTo_addNumber ∈ hz_wt := hz_in 785 (by decide +kernel) (by decide +kernel)
theorem dH_feed_31 : decode cH_feed 31 = .ok (.aload 6, 2) := by decide +kernel
theorem dH_feed_33 : decode cH_feed 33 = .ok (.iload_n 2, 1) := by decide +kernel
theorem dH_feed_34 : decode cH_feed 34 = .ok (.invokevirtual 179, 3) := by decide +kernel
theorem dH_feed_37 : decode cH_feed 37 = .ok (.aload 6, 2) := by decide +kernel
theorem dH_feed_39 : decode cH_feed 39 = .ok (.iload_n 3, 1) := by decide +kernel
theorem dH_feed_40 : decode cH_feed 40 = .ok (.invokevirtual 179, 3) := by decide +kernel
theorem dH_feed_43 : decode cH_feed 43 = .ok (.aload 6, 2) := by decide +kernel
theorem dH_feed_45 : decode cH_feed 45 = .ok (.iload 4, 2) := by decide +kernel
theorem dH_feed_47 : decode cH_feed 47 = .ok (.invokevirtual 179, 3) := by decide +kernel
theorem dH_feed_50 : decode cH_feed 50 = .ok (.aload 6, 2) := by decide +kernel
theorem dH_feed_52 : decode cH_feed 52 = .ok (.iload 5, 2) := by decide +kernel
theorem dH_feed_54 : decode cH_feed 54 = .ok (.invokevirtual 179, 3) := by decide +kernel
theorem dH_feed_57 : decode cH_feed 57 = .ok (.aload 6, 2) := by decide +kernel
theorem dH_feed_59 : decode cH_feed 59 = .ok (.getfield 174, 3) := by decide +kernel
theorem dH_feed_62 : decode cH_feed 62 = .ok (.ireturn, 1) := by decide +kernel
theorem dH_feed_23 : decode cH_feed 23 = .ok (.iconst (-1), 1) := by decide +kernel
theorem dH_feed_24 : decode cH_feed 24 = .ok (.ireturn, 1) := by decide +kernel
def fH_feed (v1 : Int32) (v2 : Int32) (v3 : Int32) (v4 : Int32) (v5 : Int32) (s0 : Sg) : Option (Int32 × Sg) := if ((s0 31 4) + 20) ≤ 400 then (bv (fTo_addNumber v1 s0) fun s1 => bv (fTo_addNumber v2 s1) fun s2 => bv (fTo_addNumber v3 s2) fun s3 => bv (fTo_addNumber v4 s3) fun s4 => bv (fTo_addNumber v5 s4) fun s5 => some ((s5 31 4), s5)) else (some ((-1), s0))
set_option maxHeartbeats 4000000 in
set_option maxRecDepth 100000 in
theorem okH_feed (v1 : Int32) (v2 : Int32) (v3 : Int32) (v4 : Int32) (v5 : Int32) (s0 : Sg) : ∀ (l : Launch) (w : WC), Ok l w yH_feed cH_feed 7 (some .int) 3 evI [.ref (w.ad 0), .int v1, .int v2, .int v3, .int v4, .int v5] s0 (fH_feed v1 v2 v3 v4 v5 s0) := by
  refine ok_in (ev := fun _ => evI) (av := fun w => [.ref (w.ad 0), .int v1, .int v2, .int v3, .int v4, .int v5]) "LastWordHill" rfl (by decide +kernel) (fun _ => rfl) (fun _ => Nat.le_of_ble_eq_true rfl) ?_
  intro C X E
  show GF C evI 0 [some (.ref (C.w.ad 0)), some (.int v1), some (.int v2), some (.int v3), some (.int v4), some (.int v5), none] [] s0 (fH_feed v1 v2 v3 v4 v5 s0)
  unfold fH_feed
  refine g_aload_n X dH_feed_0 rfl ?_
  refine g_getN X fl_H_36 fb_11_4 k_0 r_0_4 dH_feed_1 ?_
  refine g_getN X fl_H_170 fb_4_0 k_30 r_30_0 dH_feed_4 ?_
  refine g_astore X [some (.ref (C.w.ad 0)), some (.int v1), some (.int v2), some (.int v3), some (.int v4), some (.int v5), some (.ref (C.w.ad 31))] dH_feed_7 (by decide) (Nat.le_of_ble_eq_true rfl) rfl ?_
  refine g_aload X dH_feed_9 rfl ?_
  refine g_getI X fl_H_174 fb_9_4 k_31 dH_feed_11 ?_
  refine g_bipush X 20 dH_feed_14 (by decide) ?_
  refine g_iadd X dH_feed_16 ?_
  refine g_sipush X 400 dH_feed_17 (by decide) ?_
  refine g_cle X (tgt := 25) dH_feed_20 (by decide) ?_ ?_
  · refine g_aload X dH_feed_25 rfl ?_
    refine g_iload_n X dH_feed_27 rfl ?_
    refine g_virtV X [.int v1] [] k_31 mm_To_addNumber mv_To_addNumber ml_H_179 (okTo_addNumber v1 s0 C.l C.w) rfl (by decide) rfl (Nat.le_of_ble_eq_true rfl) dH_feed_28 (fun s1 => ?_)
    refine g_aload X dH_feed_31 rfl ?_
    refine g_iload_n X dH_feed_33 rfl ?_
    refine g_virtV X [.int v2] [] k_31 mm_To_addNumber mv_To_addNumber ml_H_179 (okTo_addNumber v2 s1 C.l C.w) rfl (by decide) rfl (Nat.le_of_ble_eq_true rfl) dH_feed_34 (fun s2 => ?_)
    refine g_aload X dH_feed_37 rfl ?_
    refine g_iload_n X dH_feed_39 rfl ?_
    refine g_virtV X [.int v3] [] k_31 mm_To_addNumber mv_To_addNumber ml_H_179 (okTo_addNumber v3 s2 C.l C.w) rfl (by decide) rfl (Nat.le_of_ble_eq_true rfl) dH_feed_40 (fun s3 => ?_)
    refine g_aload X dH_feed_43 rfl ?_
    refine g_iload X dH_feed_45 rfl ?_
    refine g_virtV X [.int v4] [] k_31 mm_To_addNumber mv_To_addNumber ml_H_179 (okTo_addNumber v4 s3 C.l C.w) rfl (by decide) rfl (Nat.le_of_ble_eq_true rfl) dH_feed_47 (fun s4 => ?_)
    refine g_aload X dH_feed_50 rfl ?_
    refine g_iload X dH_feed_52 rfl ?_
    refine g_virtV X [.int v5] [] k_31 mm_To_addNumber mv_To_addNumber ml_H_179 (okTo_addNumber v5 s4 C.l C.w) rfl (by decide) rfl (Nat.le_of_ble_eq_true rfl) dH_feed_54 (fun s5 => ?_)
    refine g_aload X dH_feed_57 rfl ?_
    refine g_getI X fl_H_174 fb_9_4 k_31 dH_feed_59 ?_
    exact g_iret X E dH_feed_62
  · refine g_iconst X (-1) dH_feed_23 (by decide) ?_
    exact g_iret X E dH_feed_24
def yH_book : MethodName := ⟨"LastWordHill", "book", "(II)I"⟩
abbrev cH_book : ByteArray := prog_1_method_17_code
theorem dH_book_0 : decode cH_book 0 = .ok (.iload_n 1, 1) := by decide +kernel
theorem dH_book_1 : decode cH_book 1 = .ok (.iconst 0, 1) := by decide +kernel
theorem dH_book_2 : decode cH_book 2 = .ok (.aload_n 0, 1) := by decide +kernel
theorem dH_book_3 : decode cH_book 3 = .ok (.getfield 12, 3) := by decide +kernel
theorem dH_book_6 : decode cH_book 6 = .ok (.getfield 208, 3) := by decide +kernel
theorem dH_book_9 : decode cH_book 9 = .ok (.iconst 1, 1) := by decide +kernel
theorem dH_book_10 : decode cH_book 10 = .ok (.isub, 1) := by decide +kernel
theorem dH_book_11 : decode cH_book 11 = .ok (.invokestatic 81, 3) := by decide +kernel
theorem dH_book_14 : decode cH_book 14 = .ok (.ifCond .eq 16, 3) := by decide +kernel
theorem dH_book_31 : decode cH_book 31 = .ok (.istore_n 3, 1) := by decide +kernel
theorem dH_book_32 : decode cH_book 32 = .ok (.iload_n 3, 1) := by decide +kernel
theorem dH_book_33 : decode cH_book 33 = .ok (.ifCond .eq 15, 3) := by decide +kernel
theorem dH_book_48 : decode cH_book 48 = .ok (.bipush (-2), 2) := by decide +kernel
theorem dH_book_50 : decode cH_book 50 = .ok (.ireturn, 1) := by decide +kernel
theorem dH_book_36 : decode cH_book 36 = .ok (.aload_n 0, 1) := by decide +kernel
theorem dH_book_37 : decode cH_book 37 = .ok (.getfield 52, 3) := by decide +kernel
theorem fl_H_52 : FLk "LastWordHill" 52 11 6 := ⟨_, _, _, rfl, by decide, hz_in 559 (by decide +kernel) (by decide +kernel), nL11, by decide, by decide⟩
theorem k_63 : hz_kd 63 = 7 := by decide
theorem fb_11_6 : (hz_bs 11)[6]? = some true := by decide
theorem r_0_6 : hz_rf 0 6 = 63 := by decide
theorem dH_book_40 : decode cH_book 40 = .ok (.iload_n 1, 1) := by decide +kernel
theorem dH_book_41 : decode cH_book 41 = .ok (.iload_n 2, 1) := by decide +kernel
theorem dH_book_42 : decode cH_book 42 = .ok (.invokevirtual 211, 3) := by decide +kernel
theorem mm_Ta_tell : MMc yTa_tell cTa_tell 3 (some .int) 2 := ⟨hz_in 712 (by decide +kernel) (by decide +kernel), hz_in 139 (by decide +kernel) (by decide +kernel), by decide +kernel, by decide⟩
theorem mv_Ta_tell : MMv yTa_tell 7 := ⟨hz_in 710 (by decide +kernel) (by decide +kernel), hz_in 711 (by decide +kernel) (by decide +kernel), _, _, rfl, by decide⟩
theorem ml_H_211 : Cond.methodLink "LastWordHill" 211 yTa_tell ∈ hz_wt := hz_in 1100 (by decide +kernel) (by decide +kernel)
theorem dH_book_45 : decode cH_book 45 = .ok (.goto 5, 3) := by decide +kernel
theorem dH_book_30 : decode cH_book 30 = .ok (.iconst 0, 1) := by decide +kernel
theorem dH_book_17 : decode cH_book 17 = .ok (.iload_n 2, 1) := by decide +kernel
theorem dH_book_18 : decode cH_book 18 = .ok (.iconst 0, 1) := by decide +kernel
theorem dH_book_19 : decode cH_book 19 = .ok (.iconst 4, 1) := by decide +kernel
theorem dH_book_20 : decode cH_book 20 = .ok (.invokestatic 81, 3) := by decide +kernel
theorem dH_book_23 : decode cH_book 23 = .ok (.ifCond .eq 7, 3) := by decide +kernel
theorem dH_book_26 : decode cH_book 26 = .ok (.iconst 1, 1) := by decide +kernel
theorem dH_book_27 : decode cH_book 27 = .ok (.goto 4, 3) := by decide +kernel
def fH_book (v1 : Int32) (v2 : Int32) (s0 : Sg) : Option (Int32 × Sg) := bi (fH_within v1 0 ((s0 1 12) - 1) s0) fun r2 s1 => bnd (fun (b31_0 : Int32) (s3 : Sg) => if b31_0 = 0 then (some ((-2), s3)) else (bi (fTa_tell 63 v1 v2 s3) fun r5 s4 => some (r5, s4))) fun j31 => bnd (fun (s6 : Sg) => j31 0 s6) fun j30 => if r2 = 0 then (j30 s1) else (bi (fH_within v2 0 4 s1) fun r8 s7 => if r8 = 0 then (j30 s7) else (j31 1 s7))
set_option maxHeartbeats 4000000 in
set_option maxRecDepth 100000 in
theorem okH_book (v1 : Int32) (v2 : Int32) (s0 : Sg) : ∀ (l : Launch) (w : WC), Ok l w yH_book cH_book 4 (some .int) 3 evI [.ref (w.ad 0), .int v1, .int v2] s0 (fH_book v1 v2 s0) := by
  refine ok_in (ev := fun _ => evI) (av := fun w => [.ref (w.ad 0), .int v1, .int v2]) "LastWordHill" rfl (by decide +kernel) (fun _ => rfl) (fun _ => Nat.le_of_ble_eq_true rfl) ?_
  intro C X E
  show GF C evI 0 [some (.ref (C.w.ad 0)), some (.int v1), some (.int v2), none] [] s0 (fH_book v1 v2 s0)
  unfold fH_book
  refine g_iload_n X dH_book_0 rfl ?_
  refine g_iconst X 0 dH_book_1 (by decide) ?_
  refine g_aload_n X dH_book_2 rfl ?_
  refine g_getN X fl_H_12 fb_11_0 k_0 r_0_0 dH_book_3 ?_
  refine g_getI X fl_H_208 fb_5_12 k_1 dH_book_6 ?_
  refine g_iconst X 1 dH_book_9 (by decide) ?_
  refine g_isub X dH_book_10 ?_
  refine g_statI X [.int v1, .int 0, .int ((s0 1 12) - 1)] [] mm_H_within ms_H_within ml_H_81 (okH_within v1 0 ((s0 1 12) - 1) s0 C.l C.w) rfl (by decide) rfl (Nat.le_of_ble_eq_true rfl) dH_book_11 (fun r2 s1 => ?_)
  refine gf_jn (fun j31 => ∀ (b31_0 : Int32) (s3 : Sg), GF C evI 31 [some (.ref (C.w.ad 0)), some (.int v1), some (.int v2), none] [.int b31_0] s3 (j31 b31_0 s3)) ?_ ?_
  · intro b31_0 s3
    refine g_istore_n X [some (.ref (C.w.ad 0)), some (.int v1), some (.int v2), some (.int b31_0)] dH_book_31 (by decide) (Nat.le_of_ble_eq_true rfl) rfl ?_
    refine g_iload_n X dH_book_32 rfl ?_
    refine g_zeq X (tgt := 48) dH_book_33 (by decide) ?_ ?_
    · refine g_bipush X (-2) dH_book_48 (by decide) ?_
      exact g_iret X E dH_book_50
    · refine g_aload_n X dH_book_36 rfl ?_
      refine g_getN X fl_H_52 fb_11_6 k_0 r_0_6 dH_book_37 ?_
      refine g_iload_n X dH_book_40 rfl ?_
      refine g_iload_n X dH_book_41 rfl ?_
      refine g_virtI X [.int v1, .int v2] [] k_63 mm_Ta_tell mv_Ta_tell ml_H_211 (okTa_tell 63 v1 v2 s3 k_63 C.l C.w) rfl (by decide) rfl (Nat.le_of_ble_eq_true rfl) dH_book_42 (fun r5 s4 => ?_)
      refine g_goto X 50 dH_book_45 (by decide) ?_
      exact g_iret X E dH_book_50
  · intro j31 hj31
    refine gf_jn (fun j30 => ∀ (s6 : Sg), GF C evI 30 [some (.ref (C.w.ad 0)), some (.int v1), some (.int v2), none] [] s6 (j30 s6)) ?_ ?_
    · intro s6
      refine g_iconst X 0 dH_book_30 (by decide) ?_
      exact gf_sub (hj31 0 s6) (by simp [lsub])
    · intro j30 hj30
      refine g_zeq X (tgt := 30) dH_book_14 (by decide) ?_ ?_
      · exact gf_sub (hj30 s1) (by simp [lsub])
      · refine g_iload_n X dH_book_17 rfl ?_
        refine g_iconst X 0 dH_book_18 (by decide) ?_
        refine g_iconst X 4 dH_book_19 (by decide) ?_
        refine g_statI X [.int v2, .int 0, .int 4] [] mm_H_within ms_H_within ml_H_81 (okH_within v2 0 4 s1 C.l C.w) rfl (by decide) rfl (Nat.le_of_ble_eq_true rfl) dH_book_20 (fun r8 s7 => ?_)
        refine g_zeq X (tgt := 30) dH_book_23 (by decide) ?_ ?_
        · exact gf_sub (hj30 s7) (by simp [lsub])
        · refine g_iconst X 1 dH_book_26 (by decide) ?_
          refine g_goto X 31 dH_book_27 (by decide) ?_
          exact gf_sub (hj31 1 s7) (by simp [lsub])
def yH_answer : MethodName := ⟨"LastWordHill", "answer", "(IZ)I"⟩
abbrev cH_answer : ByteArray := prog_1_method_22_code
theorem dH_answer_0 : decode cH_answer 0 = .ok (.iload_n 1, 1) := by decide +kernel
theorem dH_answer_1 : decode cH_answer 1 = .ok (.iconst (-1), 1) := by decide +kernel
theorem dH_answer_2 : decode cH_answer 2 = .ok (.if_icmp .ne 14, 3) := by decide +kernel
theorem dH_answer_16 : decode cH_answer 16 = .ok (.iload_n 1, 1) := by decide +kernel
theorem dH_answer_17 : decode cH_answer 17 = .ok (.invokestatic 151, 3) := by decide +kernel
theorem ml_H_151 : Cond.methodLink "LastWordHill" 151 yH_isQuestion ∈ hz_wt := hz_in 685 (by decide +kernel) (by decide +kernel)
theorem dH_answer_20 : decode cH_answer 20 = .ok (.ifCond .eq 29, 3) := by decide +kernel
theorem dH_answer_49 : decode cH_answer 49 = .ok (.iconst (-1), 1) := by decide +kernel
theorem dH_answer_50 : decode cH_answer 50 = .ok (.ireturn, 1) := by decide +kernel
theorem dH_answer_23 : decode cH_answer 23 = .ok (.aload_n 0, 1) := by decide +kernel
theorem dH_answer_24 : decode cH_answer 24 = .ok (.getfield 43, 3) := by decide +kernel
theorem dH_answer_27 : decode cH_answer 27 = .ok (.getfield 248, 3) := by decide +kernel
theorem fl_H_248 : FLk "LastWordHill" 248 10 0 := ⟨_, _, _, rfl, by decide, hz_in 422 (by decide +kernel) (by decide +kernel), nL10, by decide, by decide⟩
theorem k_49 : hz_kd 49 = 7 := by decide
theorem r_48_0 : hz_rf 48 0 = 49 := by decide
theorem dH_answer_30 : decode cH_answer 30 = .ok (.iload_n 1, 1) := by decide +kernel
theorem dH_answer_31 : decode cH_answer 31 = .ok (.iload_n 2, 1) := by decide +kernel
theorem dH_answer_32 : decode cH_answer 32 = .ok (.ifCond .eq 7, 3) := by decide +kernel
theorem dH_answer_40 : decode cH_answer 40 = .ok (.iconst 0, 1) := by decide +kernel
theorem dH_answer_41 : decode cH_answer 41 = .ok (.iconst 0, 1) := by decide +kernel
theorem dH_answer_42 : decode cH_answer 42 = .ok (.iconst 0, 1) := by decide +kernel
theorem dH_answer_43 : decode cH_answer 43 = .ok (.invokevirtual 254, 3) := by decide +kernel
theorem mm_Ta_add : MMc yTa_add cTa_add 6 (some .int) 5 := ⟨hz_in 668 (by decide +kernel) (by decide +kernel), hz_in 139 (by decide +kernel) (by decide +kernel), by decide +kernel, by decide⟩
theorem mv_Ta_add : MMv yTa_add 7 := ⟨hz_in 666 (by decide +kernel) (by decide +kernel), hz_in 667 (by decide +kernel) (by decide +kernel), _, _, rfl, by decide⟩
theorem ml_H_254 : Cond.methodLink "LastWordHill" 254 yTa_add ∈ hz_wt := hz_in 1156 (by decide +kernel) (by decide +kernel)
theorem dH_answer_46 : decode cH_answer 46 = .ok (.goto 4, 3) := by decide +kernel
theorem dH_answer_39 : decode cH_answer 39 = .ok (.iconst 0, 1) := by decide +kernel
theorem dH_answer_35 : decode cH_answer 35 = .ok (.iconst 1, 1) := by decide +kernel
theorem dH_answer_36 : decode cH_answer 36 = .ok (.goto 4, 3) := by decide +kernel
theorem dH_answer_5 : decode cH_answer 5 = .ok (.aload_n 0, 1) := by decide +kernel
theorem dH_answer_6 : decode cH_answer 6 = .ok (.getfield 43, 3) := by decide +kernel
theorem dH_answer_9 : decode cH_answer 9 = .ok (.getfield 248, 3) := by decide +kernel
theorem dH_answer_12 : decode cH_answer 12 = .ok (.invokevirtual 251, 3) := by decide +kernel
theorem ml_H_251 : Cond.methodLink "LastWordHill" 251 yTa_empty ∈ hz_wt := hz_in 1155 (by decide +kernel) (by decide +kernel)
theorem dH_answer_15 : decode cH_answer 15 = .ok (.ireturn, 1) := by decide +kernel
def fH_answer (v1 : Int32) (v2 : Int32) (s0 : Sg) : Option (Int32 × Sg) := if v1 = (-1) then (bi (fTa_empty 49 s0) fun r7 s6 => some (r7, s6)) else (bi (fH_isQuestion v1 s0) fun r2 s1 => if r2 = 0 then (some ((-1), s1)) else (bnd (fun (b40_0 : Int32) (s3 : Sg) => bi (fTa_add 49 v1 b40_0 0 0 0 s3) fun r5 s4 => some (r5, s4)) fun j40 => if v2 = 0 then (j40 0 s1) else (j40 1 s1)))
set_option maxHeartbeats 4000000 in
set_option maxRecDepth 100000 in
theorem okH_answer (v1 : Int32) (v2 : Int32) (s0 : Sg) : ∀ (l : Launch) (w : WC), Ok l w yH_answer cH_answer 3 (some .int) 4 evI [.ref (w.ad 0), .int v1, .int v2] s0 (fH_answer v1 v2 s0) := by
  refine ok_in (ev := fun _ => evI) (av := fun w => [.ref (w.ad 0), .int v1, .int v2]) "LastWordHill" rfl (by decide +kernel) (fun _ => rfl) (fun _ => Nat.le_of_ble_eq_true rfl) ?_
  intro C X E
  show GF C evI 0 [some (.ref (C.w.ad 0)), some (.int v1), some (.int v2)] [] s0 (fH_answer v1 v2 s0)
  unfold fH_answer
  refine g_iload_n X dH_answer_0 rfl ?_
  refine g_iconst X (-1) dH_answer_1 (by decide) ?_
  refine g_cne X (tgt := 16) dH_answer_2 (by decide) ?_ ?_
  · refine g_aload_n X dH_answer_5 rfl ?_
    refine g_getN X fl_H_43 fb_11_5 k_0 r_0_5 dH_answer_6 ?_
    refine g_getN X fl_H_248 fb_10_0 k_48 r_48_0 dH_answer_9 ?_
    refine g_virtI X [] [] k_49 mm_Ta_empty mv_Ta_empty ml_H_251 (okTa_empty 49 s0 k_49 C.l C.w) rfl (by decide) rfl (Nat.le_of_ble_eq_true rfl) dH_answer_12 (fun r7 s6 => ?_)
    exact g_iret X E dH_answer_15
  · refine g_iload_n X dH_answer_16 rfl ?_
    refine g_statI X [.int v1] [] mm_H_isQuestion ms_H_isQuestion ml_H_151 (okH_isQuestion v1 s0 C.l C.w) rfl (by decide) rfl (Nat.le_of_ble_eq_true rfl) dH_answer_17 (fun r2 s1 => ?_)
    refine g_zeq X (tgt := 49) dH_answer_20 (by decide) ?_ ?_
    · refine g_iconst X (-1) dH_answer_49 (by decide) ?_
      exact g_iret X E dH_answer_50
    · refine g_aload_n X dH_answer_23 rfl ?_
      refine g_getN X fl_H_43 fb_11_5 k_0 r_0_5 dH_answer_24 ?_
      refine g_getN X fl_H_248 fb_10_0 k_48 r_48_0 dH_answer_27 ?_
      refine g_iload_n X dH_answer_30 rfl ?_
      refine g_iload_n X dH_answer_31 rfl ?_
      refine gf_jn (fun j40 => ∀ (b40_0 : Int32) (s3 : Sg), GF C evI 40 [none, none, none] [.int b40_0, .int v1, .ref (C.w.ad 49)] s3 (j40 b40_0 s3)) ?_ ?_
      · intro b40_0 s3
        refine g_iconst X 0 dH_answer_40 (by decide) ?_
        refine g_iconst X 0 dH_answer_41 (by decide) ?_
        refine g_iconst X 0 dH_answer_42 (by decide) ?_
        refine g_virtI X [.int v1, .int b40_0, .int 0, .int 0, .int 0] [] k_49 mm_Ta_add mv_Ta_add ml_H_254 (okTa_add 49 v1 b40_0 0 0 0 s3 k_49 C.l C.w) rfl (by decide) rfl (Nat.le_of_ble_eq_true rfl) dH_answer_43 (fun r5 s4 => ?_)
        refine g_goto X 50 dH_answer_46 (by decide) ?_
        exact g_iret X E dH_answer_50
      · intro j40 hj40
        refine g_zeq X (tgt := 39) dH_answer_32 (by decide) ?_ ?_
        · refine g_iconst X 0 dH_answer_39 (by decide) ?_
          exact gf_sub (hj40 0 s1) (by simp [lsub])
        · refine g_iconst X 1 dH_answer_35 (by decide) ?_
          refine g_goto X 40 dH_answer_36 (by decide) ?_
          exact gf_sub (hj40 1 s1) (by simp [lsub])
def yH_watch : MethodName := ⟨"LastWordHill", "watch", "(II)I"⟩
abbrev cH_watch : ByteArray := prog_1_method_24_code
theorem dH_watch_0 : decode cH_watch 0 = .ok (.iload_n 1, 1) := by decide +kernel
theorem dH_watch_1 : decode cH_watch 1 = .ok (.iconst (-1), 1) := by decide +kernel
theorem dH_watch_2 : decode cH_watch 2 = .ok (.if_icmp .ne 14, 3) := by decide +kernel
theorem dH_watch_16 : decode cH_watch 16 = .ok (.iload_n 1, 1) := by decide +kernel
theorem dH_watch_17 : decode cH_watch 17 = .ok (.iconst 0, 1) := by decide +kernel
theorem dH_watch_18 : decode cH_watch 18 = .ok (.bipush 59, 2) := by decide +kernel
theorem dH_watch_20 : decode cH_watch 20 = .ok (.invokestatic 81, 3) := by decide +kernel
theorem dH_watch_23 : decode cH_watch 23 = .ok (.ifCond .eq 17, 3) := by decide +kernel
theorem dH_watch_41 : decode cH_watch 41 = .ok (.istore_n 3, 1) := by decide +kernel
theorem dH_watch_42 : decode cH_watch 42 = .ok (.iload_n 3, 1) := by decide +kernel
theorem dH_watch_43 : decode cH_watch 43 = .ok (.ifCond .eq 21, 3) := by decide +kernel
theorem dH_watch_64 : decode cH_watch 64 = .ok (.iconst (-1), 1) := by decide +kernel
theorem dH_watch_65 : decode cH_watch 65 = .ok (.ireturn, 1) := by decide +kernel
theorem dH_watch_46 : decode cH_watch 46 = .ok (.aload_n 0, 1) := by decide +kernel
theorem dH_watch_47 : decode cH_watch 47 = .ok (.getfield 43, 3) := by decide +kernel
theorem dH_watch_50 : decode cH_watch 50 = .ok (.getfield 264, 3) := by decide +kernel
theorem fl_H_264 : FLk "LastWordHill" 264 10 1 := ⟨_, _, _, rfl, by decide, hz_in 425 (by decide +kernel) (by decide +kernel), nL10, by decide, by decide⟩
theorem k_51 : hz_kd 51 = 7 := by decide
theorem r_48_1 : hz_rf 48 1 = 51 := by decide
theorem dH_watch_53 : decode cH_watch 53 = .ok (.iload_n 1, 1) := by decide +kernel
theorem dH_watch_54 : decode cH_watch 54 = .ok (.iload_n 2, 1) := by decide +kernel
theorem dH_watch_55 : decode cH_watch 55 = .ok (.iconst 0, 1) := by decide +kernel
theorem dH_watch_56 : decode cH_watch 56 = .ok (.iconst 0, 1) := by decide +kernel
theorem dH_watch_57 : decode cH_watch 57 = .ok (.iconst 0, 1) := by decide +kernel
theorem dH_watch_58 : decode cH_watch 58 = .ok (.invokevirtual 254, 3) := by decide +kernel
theorem dH_watch_61 : decode cH_watch 61 = .ok (.goto 4, 3) := by decide +kernel
theorem dH_watch_40 : decode cH_watch 40 = .ok (.iconst 0, 1) := by decide +kernel
theorem dH_watch_26 : decode cH_watch 26 = .ok (.iload_n 2, 1) := by decide +kernel
theorem dH_watch_27 : decode cH_watch 27 = .ok (.iload_n 1, 1) := by decide +kernel
theorem dH_watch_28 : decode cH_watch 28 = .ok (.bipush 59, 2) := by decide +kernel
theorem dH_watch_30 : decode cH_watch 30 = .ok (.invokestatic 81, 3) := by decide +kernel
theorem dH_watch_33 : decode cH_watch 33 = .ok (.ifCond .eq 7, 3) := by decide +kernel
theorem dH_watch_36 : decode cH_watch 36 = .ok (.iconst 1, 1) := by decide +kernel
theorem dH_watch_37 : decode cH_watch 37 = .ok (.goto 4, 3) := by decide +kernel
theorem dH_watch_5 : decode cH_watch 5 = .ok (.aload_n 0, 1) := by decide +kernel
theorem dH_watch_6 : decode cH_watch 6 = .ok (.getfield 43, 3) := by decide +kernel
theorem dH_watch_9 : decode cH_watch 9 = .ok (.getfield 264, 3) := by decide +kernel
theorem dH_watch_12 : decode cH_watch 12 = .ok (.invokevirtual 251, 3) := by decide +kernel
theorem dH_watch_15 : decode cH_watch 15 = .ok (.ireturn, 1) := by decide +kernel
def fH_watch (v1 : Int32) (v2 : Int32) (s0 : Sg) : Option (Int32 × Sg) := if v1 = (-1) then (bi (fTa_empty 51 s0) fun r10 s9 => some (r10, s9)) else (bi (fH_within v1 0 59 s0) fun r2 s1 => bnd (fun (b41_0 : Int32) (s3 : Sg) => if b41_0 = 0 then (some ((-1), s3)) else (bi (fTa_add 51 v1 v2 0 0 0 s3) fun r5 s4 => some (r5, s4))) fun j41 => bnd (fun (s6 : Sg) => j41 0 s6) fun j40 => if r2 = 0 then (j40 s1) else (bi (fH_within v2 v1 59 s1) fun r8 s7 => if r8 = 0 then (j40 s7) else (j41 1 s7)))
set_option maxHeartbeats 4000000 in
set_option maxRecDepth 100000 in
theorem okH_watch (v1 : Int32) (v2 : Int32) (s0 : Sg) : ∀ (l : Launch) (w : WC), Ok l w yH_watch cH_watch 4 (some .int) 4 evI [.ref (w.ad 0), .int v1, .int v2] s0 (fH_watch v1 v2 s0) := by
  refine ok_in (ev := fun _ => evI) (av := fun w => [.ref (w.ad 0), .int v1, .int v2]) "LastWordHill" rfl (by decide +kernel) (fun _ => rfl) (fun _ => Nat.le_of_ble_eq_true rfl) ?_
  intro C X E
  show GF C evI 0 [some (.ref (C.w.ad 0)), some (.int v1), some (.int v2), none] [] s0 (fH_watch v1 v2 s0)
  unfold fH_watch
  refine g_iload_n X dH_watch_0 rfl ?_
  refine g_iconst X (-1) dH_watch_1 (by decide) ?_
  refine g_cne X (tgt := 16) dH_watch_2 (by decide) ?_ ?_
  · refine g_aload_n X dH_watch_5 rfl ?_
    refine g_getN X fl_H_43 fb_11_5 k_0 r_0_5 dH_watch_6 ?_
    refine g_getN X fl_H_264 fb_10_1 k_48 r_48_1 dH_watch_9 ?_
    refine g_virtI X [] [] k_51 mm_Ta_empty mv_Ta_empty ml_H_251 (okTa_empty 51 s0 k_51 C.l C.w) rfl (by decide) rfl (Nat.le_of_ble_eq_true rfl) dH_watch_12 (fun r10 s9 => ?_)
    exact g_iret X E dH_watch_15
  · refine g_iload_n X dH_watch_16 rfl ?_
    refine g_iconst X 0 dH_watch_17 (by decide) ?_
    refine g_bipush X 59 dH_watch_18 (by decide) ?_
    refine g_statI X [.int v1, .int 0, .int 59] [] mm_H_within ms_H_within ml_H_81 (okH_within v1 0 59 s0 C.l C.w) rfl (by decide) rfl (Nat.le_of_ble_eq_true rfl) dH_watch_20 (fun r2 s1 => ?_)
    refine gf_jn (fun j41 => ∀ (b41_0 : Int32) (s3 : Sg), GF C evI 41 [some (.ref (C.w.ad 0)), some (.int v1), some (.int v2), none] [.int b41_0] s3 (j41 b41_0 s3)) ?_ ?_
    · intro b41_0 s3
      refine g_istore_n X [some (.ref (C.w.ad 0)), some (.int v1), some (.int v2), some (.int b41_0)] dH_watch_41 (by decide) (Nat.le_of_ble_eq_true rfl) rfl ?_
      refine g_iload_n X dH_watch_42 rfl ?_
      refine g_zeq X (tgt := 64) dH_watch_43 (by decide) ?_ ?_
      · refine g_iconst X (-1) dH_watch_64 (by decide) ?_
        exact g_iret X E dH_watch_65
      · refine g_aload_n X dH_watch_46 rfl ?_
        refine g_getN X fl_H_43 fb_11_5 k_0 r_0_5 dH_watch_47 ?_
        refine g_getN X fl_H_264 fb_10_1 k_48 r_48_1 dH_watch_50 ?_
        refine g_iload_n X dH_watch_53 rfl ?_
        refine g_iload_n X dH_watch_54 rfl ?_
        refine g_iconst X 0 dH_watch_55 (by decide) ?_
        refine g_iconst X 0 dH_watch_56 (by decide) ?_
        refine g_iconst X 0 dH_watch_57 (by decide) ?_
        refine g_virtI X [.int v1, .int v2, .int 0, .int 0, .int 0] [] k_51 mm_Ta_add mv_Ta_add ml_H_254 (okTa_add 51 v1 v2 0 0 0 s3 k_51 C.l C.w) rfl (by decide) rfl (Nat.le_of_ble_eq_true rfl) dH_watch_58 (fun r5 s4 => ?_)
        refine g_goto X 65 dH_watch_61 (by decide) ?_
        exact g_iret X E dH_watch_65
    · intro j41 hj41
      refine gf_jn (fun j40 => ∀ (s6 : Sg), GF C evI 40 [some (.ref (C.w.ad 0)), some (.int v1), some (.int v2), none] [] s6 (j40 s6)) ?_ ?_
      · intro s6
        refine g_iconst X 0 dH_watch_40 (by decide) ?_
        exact gf_sub (hj41 0 s6) (by simp [lsub])
      · intro j40 hj40
        refine g_zeq X (tgt := 40) dH_watch_23 (by decide) ?_ ?_
        · exact gf_sub (hj40 s1) (by simp [lsub])
        · refine g_iload_n X dH_watch_26 rfl ?_
          refine g_iload_n X dH_watch_27 rfl ?_
          refine g_bipush X 59 dH_watch_28 (by decide) ?_
          refine g_statI X [.int v2, .int v1, .int 59] [] mm_H_within ms_H_within ml_H_81 (okH_within v2 v1 59 s1 C.l C.w) rfl (by decide) rfl (Nat.le_of_ble_eq_true rfl) dH_watch_30 (fun r8 s7 => ?_)
          refine g_zeq X (tgt := 40) dH_watch_33 (by decide) ?_ ?_
          · exact gf_sub (hj40 s7) (by simp [lsub])
          · refine g_iconst X 1 dH_watch_36 (by decide) ?_
            refine g_goto X 41 dH_watch_37 (by decide) ?_
            exact gf_sub (hj41 1 s7) (by simp [lsub])
def yH_step : MethodName := ⟨"LastWordHill", "step", "(III)I"⟩
abbrev cH_step : ByteArray := prog_1_method_26_code
theorem dH_step_0 : decode cH_step 0 = .ok (.iload_n 1, 1) := by decide +kernel
theorem dH_step_1 : decode cH_step 1 = .ok (.iconst (-1), 1) := by decide +kernel
theorem dH_step_2 : decode cH_step 2 = .ok (.if_icmp .ne 14, 3) := by decide +kernel
theorem dH_step_16 : decode cH_step 16 = .ok (.iload_n 1, 1) := by decide +kernel
theorem dH_step_17 : decode cH_step 17 = .ok (.iconst 0, 1) := by decide +kernel
theorem dH_step_18 : decode cH_step 18 = .ok (.bipush 9, 2) := by decide +kernel
theorem dH_step_20 : decode cH_step 20 = .ok (.invokestatic 81, 3) := by decide +kernel
theorem dH_step_23 : decode cH_step 23 = .ok (.ifCond .eq 24, 3) := by decide +kernel
theorem dH_step_48 : decode cH_step 48 = .ok (.istore 4, 2) := by decide +kernel
theorem dH_step_50 : decode cH_step 50 = .ok (.iload 4, 2) := by decide +kernel
theorem dH_step_52 : decode cH_step 52 = .ok (.ifCond .eq 21, 3) := by decide +kernel
theorem dH_step_73 : decode cH_step 73 = .ok (.iconst (-1), 1) := by decide +kernel
theorem dH_step_74 : decode cH_step 74 = .ok (.ireturn, 1) := by decide +kernel
theorem dH_step_55 : decode cH_step 55 = .ok (.aload_n 0, 1) := by decide +kernel
theorem dH_step_56 : decode cH_step 56 = .ok (.getfield 43, 3) := by decide +kernel
theorem dH_step_59 : decode cH_step 59 = .ok (.getfield 270, 3) := by decide +kernel
theorem fl_H_270 : FLk "LastWordHill" 270 10 2 := ⟨_, _, _, rfl, by decide, hz_in 428 (by decide +kernel) (by decide +kernel), nL10, by decide, by decide⟩
theorem k_53 : hz_kd 53 = 7 := by decide
theorem r_48_2 : hz_rf 48 2 = 53 := by decide
theorem dH_step_62 : decode cH_step 62 = .ok (.iload_n 1, 1) := by decide +kernel
theorem dH_step_63 : decode cH_step 63 = .ok (.iload_n 2, 1) := by decide +kernel
theorem dH_step_64 : decode cH_step 64 = .ok (.iload_n 3, 1) := by decide +kernel
theorem dH_step_65 : decode cH_step 65 = .ok (.iconst 0, 1) := by decide +kernel
theorem dH_step_66 : decode cH_step 66 = .ok (.iconst 0, 1) := by decide +kernel
theorem dH_step_67 : decode cH_step 67 = .ok (.invokevirtual 254, 3) := by decide +kernel
theorem dH_step_70 : decode cH_step 70 = .ok (.goto 4, 3) := by decide +kernel
theorem dH_step_47 : decode cH_step 47 = .ok (.iconst 0, 1) := by decide +kernel
theorem dH_step_26 : decode cH_step 26 = .ok (.iload_n 2, 1) := by decide +kernel
theorem dH_step_27 : decode cH_step 27 = .ok (.invokestatic 117, 3) := by decide +kernel
theorem dH_step_30 : decode cH_step 30 = .ok (.ifCond .eq 17, 3) := by decide +kernel
theorem dH_step_33 : decode cH_step 33 = .ok (.iload_n 3, 1) := by decide +kernel
theorem dH_step_34 : decode cH_step 34 = .ok (.iconst 0, 1) := by decide +kernel
theorem dH_step_35 : decode cH_step 35 = .ok (.bipush 9, 2) := by decide +kernel
theorem dH_step_37 : decode cH_step 37 = .ok (.invokestatic 81, 3) := by decide +kernel
theorem dH_step_40 : decode cH_step 40 = .ok (.ifCond .eq 7, 3) := by decide +kernel
theorem dH_step_43 : decode cH_step 43 = .ok (.iconst 1, 1) := by decide +kernel
theorem dH_step_44 : decode cH_step 44 = .ok (.goto 4, 3) := by decide +kernel
theorem dH_step_5 : decode cH_step 5 = .ok (.aload_n 0, 1) := by decide +kernel
theorem dH_step_6 : decode cH_step 6 = .ok (.getfield 43, 3) := by decide +kernel
theorem dH_step_9 : decode cH_step 9 = .ok (.getfield 270, 3) := by decide +kernel
theorem dH_step_12 : decode cH_step 12 = .ok (.invokevirtual 251, 3) := by decide +kernel
theorem dH_step_15 : decode cH_step 15 = .ok (.ireturn, 1) := by decide +kernel
def fH_step (v1 : Int32) (v2 : Int32) (v3 : Int32) (s0 : Sg) : Option (Int32 × Sg) := if v1 = (-1) then (bi (fTa_empty 53 s0) fun r12 s11 => some (r12, s11)) else (bi (fH_within v1 0 9 s0) fun r2 s1 => bnd (fun (b48_0 : Int32) (s3 : Sg) => if b48_0 = 0 then (some ((-1), s3)) else (bi (fTa_add 53 v1 v2 v3 0 0 s3) fun r5 s4 => some (r5, s4))) fun j48 => bnd (fun (s6 : Sg) => j48 0 s6) fun j47 => if r2 = 0 then (j47 s1) else (bi (fH_isWord v2 s1) fun r8 s7 => if r8 = 0 then (j47 s7) else (bi (fH_within v3 0 9 s7) fun r10 s9 => if r10 = 0 then (j47 s9) else (j48 1 s9))))
set_option maxHeartbeats 4000000 in
set_option maxRecDepth 100000 in
theorem okH_step (v1 : Int32) (v2 : Int32) (v3 : Int32) (s0 : Sg) : ∀ (l : Launch) (w : WC), Ok l w yH_step cH_step 5 (some .int) 4 evI [.ref (w.ad 0), .int v1, .int v2, .int v3] s0 (fH_step v1 v2 v3 s0) := by
  refine ok_in (ev := fun _ => evI) (av := fun w => [.ref (w.ad 0), .int v1, .int v2, .int v3]) "LastWordHill" rfl (by decide +kernel) (fun _ => rfl) (fun _ => Nat.le_of_ble_eq_true rfl) ?_
  intro C X E
  show GF C evI 0 [some (.ref (C.w.ad 0)), some (.int v1), some (.int v2), some (.int v3), none] [] s0 (fH_step v1 v2 v3 s0)
  unfold fH_step
  refine g_iload_n X dH_step_0 rfl ?_
  refine g_iconst X (-1) dH_step_1 (by decide) ?_
  refine g_cne X (tgt := 16) dH_step_2 (by decide) ?_ ?_
  · refine g_aload_n X dH_step_5 rfl ?_
    refine g_getN X fl_H_43 fb_11_5 k_0 r_0_5 dH_step_6 ?_
    refine g_getN X fl_H_270 fb_10_2 k_48 r_48_2 dH_step_9 ?_
    refine g_virtI X [] [] k_53 mm_Ta_empty mv_Ta_empty ml_H_251 (okTa_empty 53 s0 k_53 C.l C.w) rfl (by decide) rfl (Nat.le_of_ble_eq_true rfl) dH_step_12 (fun r12 s11 => ?_)
    exact g_iret X E dH_step_15
  · refine g_iload_n X dH_step_16 rfl ?_
    refine g_iconst X 0 dH_step_17 (by decide) ?_
    refine g_bipush X 9 dH_step_18 (by decide) ?_
    refine g_statI X [.int v1, .int 0, .int 9] [] mm_H_within ms_H_within ml_H_81 (okH_within v1 0 9 s0 C.l C.w) rfl (by decide) rfl (Nat.le_of_ble_eq_true rfl) dH_step_20 (fun r2 s1 => ?_)
    refine gf_jn (fun j48 => ∀ (b48_0 : Int32) (s3 : Sg), GF C evI 48 [some (.ref (C.w.ad 0)), some (.int v1), some (.int v2), some (.int v3), none] [.int b48_0] s3 (j48 b48_0 s3)) ?_ ?_
    · intro b48_0 s3
      refine g_istore X [some (.ref (C.w.ad 0)), some (.int v1), some (.int v2), some (.int v3), some (.int b48_0)] dH_step_48 (by decide) (Nat.le_of_ble_eq_true rfl) rfl ?_
      refine g_iload X dH_step_50 rfl ?_
      refine g_zeq X (tgt := 73) dH_step_52 (by decide) ?_ ?_
      · refine g_iconst X (-1) dH_step_73 (by decide) ?_
        exact g_iret X E dH_step_74
      · refine g_aload_n X dH_step_55 rfl ?_
        refine g_getN X fl_H_43 fb_11_5 k_0 r_0_5 dH_step_56 ?_
        refine g_getN X fl_H_270 fb_10_2 k_48 r_48_2 dH_step_59 ?_
        refine g_iload_n X dH_step_62 rfl ?_
        refine g_iload_n X dH_step_63 rfl ?_
        refine g_iload_n X dH_step_64 rfl ?_
        refine g_iconst X 0 dH_step_65 (by decide) ?_
        refine g_iconst X 0 dH_step_66 (by decide) ?_
        refine g_virtI X [.int v1, .int v2, .int v3, .int 0, .int 0] [] k_53 mm_Ta_add mv_Ta_add ml_H_254 (okTa_add 53 v1 v2 v3 0 0 s3 k_53 C.l C.w) rfl (by decide) rfl (Nat.le_of_ble_eq_true rfl) dH_step_67 (fun r5 s4 => ?_)
        refine g_goto X 74 dH_step_70 (by decide) ?_
        exact g_iret X E dH_step_74
    · intro j48 hj48
      refine gf_jn (fun j47 => ∀ (s6 : Sg), GF C evI 47 [some (.ref (C.w.ad 0)), some (.int v1), some (.int v2), some (.int v3), none] [] s6 (j47 s6)) ?_ ?_
      · intro s6
        refine g_iconst X 0 dH_step_47 (by decide) ?_
        exact gf_sub (hj48 0 s6) (by simp [lsub])
      · intro j47 hj47
        refine g_zeq X (tgt := 47) dH_step_23 (by decide) ?_ ?_
        · exact gf_sub (hj47 s1) (by simp [lsub])
        · refine g_iload_n X dH_step_26 rfl ?_
          refine g_statI X [.int v2] [] mm_H_isWord ms_H_isWord ml_H_117 (okH_isWord v2 s1 C.l C.w) rfl (by decide) rfl (Nat.le_of_ble_eq_true rfl) dH_step_27 (fun r8 s7 => ?_)
          refine g_zeq X (tgt := 47) dH_step_30 (by decide) ?_ ?_
          · exact gf_sub (hj47 s7) (by simp [lsub])
          · refine g_iload_n X dH_step_33 rfl ?_
            refine g_iconst X 0 dH_step_34 (by decide) ?_
            refine g_bipush X 9 dH_step_35 (by decide) ?_
            refine g_statI X [.int v3, .int 0, .int 9] [] mm_H_within ms_H_within ml_H_81 (okH_within v3 0 9 s7 C.l C.w) rfl (by decide) rfl (Nat.le_of_ble_eq_true rfl) dH_step_37 (fun r10 s9 => ?_)
            refine g_zeq X (tgt := 47) dH_step_40 (by decide) ?_ ?_
            · exact gf_sub (hj47 s9) (by simp [lsub])
            · refine g_iconst X 1 dH_step_43 (by decide) ?_
              refine g_goto X 48 dH_step_44 (by decide) ?_
              exact gf_sub (hj48 1 s9) (by simp [lsub])
def yH_spell : MethodName := ⟨"LastWordHill", "spell", "(III)Z"⟩
abbrev cH_spell : ByteArray := prog_1_method_28_code
theorem dH_spell_0 : decode cH_spell 0 = .ok (.iload_n 1, 1) := by decide +kernel
theorem dH_spell_1 : decode cH_spell 1 = .ok (.iconst 0, 1) := by decide +kernel
theorem dH_spell_2 : decode cH_spell 2 = .ok (.bipush 7, 2) := by decide +kernel
theorem dH_spell_4 : decode cH_spell 4 = .ok (.invokestatic 81, 3) := by decide +kernel
theorem dH_spell_7 : decode cH_spell 7 = .ok (.ifCond .eq 12, 3) := by decide +kernel
theorem dH_spell_19 : decode cH_spell 19 = .ok (.iconst 0, 1) := by decide +kernel
theorem dH_spell_20 : decode cH_spell 20 = .ok (.ireturn, 1) := by decide +kernel
theorem dH_spell_10 : decode cH_spell 10 = .ok (.iload_n 2, 1) := by decide +kernel
theorem dH_spell_11 : decode cH_spell 11 = .ok (.iconst 0, 1) := by decide +kernel
theorem dH_spell_12 : decode cH_spell 12 = .ok (.iconst 5, 1) := by decide +kernel
theorem dH_spell_13 : decode cH_spell 13 = .ok (.invokestatic 81, 3) := by decide +kernel
theorem dH_spell_16 : decode cH_spell 16 = .ok (.ifCond .ne 5, 3) := by decide +kernel
theorem dH_spell_21 : decode cH_spell 21 = .ok (.iconst 1, 1) := by decide +kernel
theorem dH_spell_22 : decode cH_spell 22 = .ok (.istore 4, 2) := by decide +kernel
theorem dH_spell_24 : decode cH_spell 24 = .ok (.iconst 0, 1) := by decide +kernel
theorem dH_spell_25 : decode cH_spell 25 = .ok (.istore 5, 2) := by decide +kernel
theorem dH_spell_27 : decode cH_spell 27 = .ok (.iload 5, 2) := by decide +kernel
theorem dH_spell_29 : decode cH_spell 29 = .ok (.iload_n 2, 1) := by decide +kernel
theorem dH_spell_30 : decode cH_spell 30 = .ok (.if_icmp .ge 16, 3) := by decide +kernel
theorem dH_spell_46 : decode cH_spell 46 = .ok (.iload_n 3, 1) := by decide +kernel
theorem dH_spell_47 : decode cH_spell 47 = .ok (.iconst 0, 1) := by decide +kernel
theorem dH_spell_48 : decode cH_spell 48 = .ok (.iload 4, 2) := by decide +kernel
theorem dH_spell_50 : decode cH_spell 50 = .ok (.iconst 1, 1) := by decide +kernel
theorem dH_spell_51 : decode cH_spell 51 = .ok (.isub, 1) := by decide +kernel
theorem dH_spell_52 : decode cH_spell 52 = .ok (.invokestatic 81, 3) := by decide +kernel
theorem dH_spell_55 : decode cH_spell 55 = .ok (.ifCond .ne 5, 3) := by decide +kernel
theorem dH_spell_60 : decode cH_spell 60 = .ok (.aload_n 0, 1) := by decide +kernel
theorem dH_spell_61 : decode cH_spell 61 = .ok (.getfield 43, 3) := by decide +kernel
theorem dH_spell_64 : decode cH_spell 64 = .ok (.getfield 280, 3) := by decide +kernel
theorem fl_H_280 : FLk "LastWordHill" 280 10 3 := ⟨_, _, _, rfl, by decide, hz_in 431 (by decide +kernel) (by decide +kernel), nL10, by decide, by decide⟩
theorem k_55 : hz_kd 55 = 7 := by decide
theorem r_48_3 : hz_rf 48 3 = 55 := by decide
theorem dH_spell_67 : decode cH_spell 67 = .ok (.iload_n 1, 1) := by decide +kernel
theorem dH_spell_68 : decode cH_spell 68 = .ok (.iconst 0, 1) := by decide +kernel
theorem dH_spell_69 : decode cH_spell 69 = .ok (.iload_n 2, 1) := by decide +kernel
theorem dH_spell_70 : decode cH_spell 70 = .ok (.invokevirtual 283, 3) := by decide +kernel
theorem ml_H_283 : Cond.methodLink "LastWordHill" 283 yTa_put ∈ hz_wt := hz_in 1235 (by decide +kernel) (by decide +kernel)
theorem dH_spell_73 : decode cH_spell 73 = .ok (.aload_n 0, 1) := by decide +kernel
theorem dH_spell_74 : decode cH_spell 74 = .ok (.getfield 43, 3) := by decide +kernel
theorem dH_spell_77 : decode cH_spell 77 = .ok (.getfield 280, 3) := by decide +kernel
theorem dH_spell_80 : decode cH_spell 80 = .ok (.iload_n 1, 1) := by decide +kernel
theorem dH_spell_81 : decode cH_spell 81 = .ok (.iconst 1, 1) := by decide +kernel
theorem dH_spell_82 : decode cH_spell 82 = .ok (.iload_n 3, 1) := by decide +kernel
theorem dH_spell_83 : decode cH_spell 83 = .ok (.invokevirtual 283, 3) := by decide +kernel
theorem dH_spell_86 : decode cH_spell 86 = .ok (.iconst 1, 1) := by decide +kernel
theorem dH_spell_87 : decode cH_spell 87 = .ok (.ireturn, 1) := by decide +kernel
theorem dH_spell_58 : decode cH_spell 58 = .ok (.iconst 0, 1) := by decide +kernel
theorem dH_spell_59 : decode cH_spell 59 = .ok (.ireturn, 1) := by decide +kernel
theorem dH_spell_33 : decode cH_spell 33 = .ok (.iload 4, 2) := by decide +kernel
theorem dH_spell_35 : decode cH_spell 35 = .ok (.bipush 10, 2) := by decide +kernel
theorem dH_spell_37 : decode cH_spell 37 = .ok (.imul, 1) := by decide +kernel
theorem dH_spell_38 : decode cH_spell 38 = .ok (.istore 4, 2) := by decide +kernel
theorem dH_spell_40 : decode cH_spell 40 = .ok (.iinc 5 1, 3) := by decide +kernel
theorem dH_spell_43 : decode cH_spell 43 = .ok (.goto (-16), 3) := by decide +kernel
def fH_spell (v1 : Int32) (v2 : Int32) (v3 : Int32) (s0 : Sg) : Option (Int32 × Sg) := bi (fH_within v1 0 7 s0) fun r2 s1 => if r2 = 0 then (gb 0 (some (0, s1))) else (bi (fH_within v2 0 5 s1) fun r4 s3 => if r4 = 0 then (gb 0 (some (0, s3))) else (lp FU (fun q27 (u27 : Int32 × Int32) (s5 : Sg) => if v2 ≤ u27.2 then (bi (fH_within v3 0 (u27.1 - 1) s5) fun r7 s6 => if r7 = 0 then (gb 0 (some (0, s6))) else (bv (fTa_put 55 v1 0 v2 s6) fun s8 => bv (fTa_put 55 v1 1 v3 s8) fun s9 => gb 1 (some (1, s9)))) else (q27 ((u27.1 * 10), (u27.2 + 1)) s5)) (1, 0) s3))
set_option maxHeartbeats 4000000 in
set_option maxRecDepth 100000 in
theorem okH_spell (v1 : Int32) (v2 : Int32) (v3 : Int32) (s0 : Sg) : ∀ (l : Launch) (w : WC), Ok l w yH_spell cH_spell 6 (some .boolean) 3 evI [.ref (w.ad 0), .int v1, .int v2, .int v3] s0 (fH_spell v1 v2 v3 s0) := by
  refine ok_in (ev := fun _ => evI) (av := fun w => [.ref (w.ad 0), .int v1, .int v2, .int v3]) "LastWordHill" rfl (by decide +kernel) (fun _ => rfl) (fun _ => Nat.le_of_ble_eq_true rfl) ?_
  intro C X E
  show GF C evI 0 [some (.ref (C.w.ad 0)), some (.int v1), some (.int v2), some (.int v3), none, none] [] s0 (fH_spell v1 v2 v3 s0)
  unfold fH_spell
  refine g_iload_n X dH_spell_0 rfl ?_
  refine g_iconst X 0 dH_spell_1 (by decide) ?_
  refine g_bipush X 7 dH_spell_2 (by decide) ?_
  refine g_statI X [.int v1, .int 0, .int 7] [] mm_H_within ms_H_within ml_H_81 (okH_within v1 0 7 s0 C.l C.w) rfl (by decide) rfl (Nat.le_of_ble_eq_true rfl) dH_spell_4 (fun r2 s1 => ?_)
  refine g_zeq X (tgt := 19) dH_spell_7 (by decide) ?_ ?_
  · refine g_iconst X 0 dH_spell_19 (by decide) ?_
    exact g_zret X E dH_spell_20
  · refine g_iload_n X dH_spell_10 rfl ?_
    refine g_iconst X 0 dH_spell_11 (by decide) ?_
    refine g_iconst X 5 dH_spell_12 (by decide) ?_
    refine g_statI X [.int v2, .int 0, .int 5] [] mm_H_within ms_H_within ml_H_81 (okH_within v2 0 5 s1 C.l C.w) rfl (by decide) rfl (Nat.le_of_ble_eq_true rfl) dH_spell_13 (fun r4 s3 => ?_)
    refine g_zne X (tgt := 21) dH_spell_16 (by decide) ?_ ?_
    · refine g_iconst X 0 dH_spell_19 (by decide) ?_
      exact g_zret X E dH_spell_20
    · refine g_iconst X 1 dH_spell_21 (by decide) ?_
      refine g_istore X [some (.ref (C.w.ad 0)), some (.int v1), some (.int v2), some (.int v3), some (.int 1), none] dH_spell_22 (by decide) (Nat.le_of_ble_eq_true rfl) rfl ?_
      refine g_iconst X 0 dH_spell_24 (by decide) ?_
      refine g_istore X [some (.ref (C.w.ad 0)), some (.int v1), some (.int v2), some (.int v3), some (.int 1), some (.int 0)] dH_spell_25 (by decide) (Nat.le_of_ble_eq_true rfl) rfl ?_
      refine gf_sub (L' := [some (.ref (C.w.ad 0)), some (.int v1), some (.int v2), some (.int v3), some (.int 1), some (.int 0)]) ?_ (by simp [lsub])
      refine gf_lp (Lf := fun (u27 : Int32 × Int32) => [some (.ref (C.w.ad 0)), some (.int v1), some (.int v2), some (.int v3), some (.int u27.1), some (.int u27.2)]) (fun q27 hq27 u27 s5 => ?_) FU (1, 0) s3
      refine g_iload X dH_spell_27 rfl ?_
      refine g_iload_n X dH_spell_29 rfl ?_
      refine g_cge X (tgt := 46) dH_spell_30 (by decide) ?_ ?_
      · refine g_iload_n X dH_spell_46 rfl ?_
        refine g_iconst X 0 dH_spell_47 (by decide) ?_
        refine g_iload X dH_spell_48 rfl ?_
        refine g_iconst X 1 dH_spell_50 (by decide) ?_
        refine g_isub X dH_spell_51 ?_
        refine g_statI X [.int v3, .int 0, .int (u27.1 - 1)] [] mm_H_within ms_H_within ml_H_81 (okH_within v3 0 (u27.1 - 1) s5 C.l C.w) rfl (by decide) rfl (Nat.le_of_ble_eq_true rfl) dH_spell_52 (fun r7 s6 => ?_)
        refine g_zne X (tgt := 60) dH_spell_55 (by decide) ?_ ?_
        · refine g_iconst X 0 dH_spell_58 (by decide) ?_
          exact g_zret X E dH_spell_59
        · refine g_aload_n X dH_spell_60 rfl ?_
          refine g_getN X fl_H_43 fb_11_5 k_0 r_0_5 dH_spell_61 ?_
          refine g_getN X fl_H_280 fb_10_3 k_48 r_48_3 dH_spell_64 ?_
          refine g_iload_n X dH_spell_67 rfl ?_
          refine g_iconst X 0 dH_spell_68 (by decide) ?_
          refine g_iload_n X dH_spell_69 rfl ?_
          refine g_virtV X [.int v1, .int 0, .int v2] [] k_55 mm_Ta_put mv_Ta_put ml_H_283 (okTa_put 55 v1 0 v2 s6 k_55 C.l C.w) rfl (by decide) rfl (Nat.le_of_ble_eq_true rfl) dH_spell_70 (fun s8 => ?_)
          refine g_aload_n X dH_spell_73 rfl ?_
          refine g_getN X fl_H_43 fb_11_5 k_0 r_0_5 dH_spell_74 ?_
          refine g_getN X fl_H_280 fb_10_3 k_48 r_48_3 dH_spell_77 ?_
          refine g_iload_n X dH_spell_80 rfl ?_
          refine g_iconst X 1 dH_spell_81 (by decide) ?_
          refine g_iload_n X dH_spell_82 rfl ?_
          refine g_virtV X [.int v1, .int 1, .int v3] [] k_55 mm_Ta_put mv_Ta_put ml_H_283 (okTa_put 55 v1 1 v3 s8 k_55 C.l C.w) rfl (by decide) rfl (Nat.le_of_ble_eq_true rfl) dH_spell_83 (fun s9 => ?_)
          refine g_iconst X 1 dH_spell_86 (by decide) ?_
          exact g_zret X E dH_spell_87
      · refine g_iload X dH_spell_33 rfl ?_
        refine g_bipush X 10 dH_spell_35 (by decide) ?_
        refine g_imul X dH_spell_37 ?_
        refine g_istore X [some (.ref (C.w.ad 0)), some (.int v1), some (.int v2), some (.int v3), some (.int (u27.1 * 10)), some (.int u27.2)] dH_spell_38 (by decide) (Nat.le_of_ble_eq_true rfl) rfl ?_
        refine g_iinc X (u27.2 + 1) [some (.ref (C.w.ad 0)), some (.int v1), some (.int v2), some (.int v3), some (.int (u27.1 * 10)), some (.int (u27.2 + 1))] dH_spell_40 rfl rfl (by decide) rfl ?_
        refine g_goto X 27 dH_spell_43 (by decide) ?_
        exact gf_sub (hq27 ((u27.1 * 10), (u27.2 + 1)) s5) (by simp [lsub])
def yH_speaker : MethodName := ⟨"LastWordHill", "speaker", "(II)I"⟩
abbrev cH_speaker : ByteArray := prog_1_method_30_code
theorem dH_speaker_0 : decode cH_speaker 0 = .ok (.iload_n 1, 1) := by decide +kernel
theorem dH_speaker_1 : decode cH_speaker 1 = .ok (.iconst (-1), 1) := by decide +kernel
theorem dH_speaker_2 : decode cH_speaker 2 = .ok (.if_icmp .ne 14, 3) := by decide +kernel
theorem dH_speaker_16 : decode cH_speaker 16 = .ok (.iload_n 1, 1) := by decide +kernel
theorem dH_speaker_17 : decode cH_speaker 17 = .ok (.iconst 1, 1) := by decide +kernel
theorem dH_speaker_18 : decode cH_speaker 18 = .ok (.bipush 30, 2) := by decide +kernel
theorem dH_speaker_20 : decode cH_speaker 20 = .ok (.invokestatic 81, 3) := by decide +kernel
theorem dH_speaker_23 : decode cH_speaker 23 = .ok (.ifCond .eq 17, 3) := by decide +kernel
theorem dH_speaker_41 : decode cH_speaker 41 = .ok (.istore_n 3, 1) := by decide +kernel
theorem dH_speaker_42 : decode cH_speaker 42 = .ok (.iload_n 3, 1) := by decide +kernel
theorem dH_speaker_43 : decode cH_speaker 43 = .ok (.ifCond .eq 21, 3) := by decide +kernel
theorem dH_speaker_64 : decode cH_speaker 64 = .ok (.iconst (-1), 1) := by decide +kernel
theorem dH_speaker_65 : decode cH_speaker 65 = .ok (.ireturn, 1) := by decide +kernel
theorem dH_speaker_46 : decode cH_speaker 46 = .ok (.aload_n 0, 1) := by decide +kernel
theorem dH_speaker_47 : decode cH_speaker 47 = .ok (.getfield 43, 3) := by decide +kernel
theorem dH_speaker_50 : decode cH_speaker 50 = .ok (.getfield 290, 3) := by decide +kernel
theorem fl_H_290 : FLk "LastWordHill" 290 10 4 := ⟨_, _, _, rfl, by decide, hz_in 434 (by decide +kernel) (by decide +kernel), nL10, by decide, by decide⟩
theorem k_57 : hz_kd 57 = 7 := by decide
theorem r_48_4 : hz_rf 48 4 = 57 := by decide
theorem dH_speaker_53 : decode cH_speaker 53 = .ok (.iload_n 1, 1) := by decide +kernel
theorem dH_speaker_54 : decode cH_speaker 54 = .ok (.iload_n 2, 1) := by decide +kernel
theorem dH_speaker_55 : decode cH_speaker 55 = .ok (.iconst 0, 1) := by decide +kernel
theorem dH_speaker_56 : decode cH_speaker 56 = .ok (.iconst 0, 1) := by decide +kernel
theorem dH_speaker_57 : decode cH_speaker 57 = .ok (.iconst 0, 1) := by decide +kernel
theorem dH_speaker_58 : decode cH_speaker 58 = .ok (.invokevirtual 254, 3) := by decide +kernel
theorem dH_speaker_61 : decode cH_speaker 61 = .ok (.goto 4, 3) := by decide +kernel
theorem dH_speaker_40 : decode cH_speaker 40 = .ok (.iconst 0, 1) := by decide +kernel
theorem dH_speaker_26 : decode cH_speaker 26 = .ok (.iload_n 2, 1) := by decide +kernel
theorem dH_speaker_27 : decode cH_speaker 27 = .ok (.iconst 0, 1) := by decide +kernel
theorem dH_speaker_28 : decode cH_speaker 28 = .ok (.bipush 99, 2) := by decide +kernel
theorem dH_speaker_30 : decode cH_speaker 30 = .ok (.invokestatic 81, 3) := by decide +kernel
theorem dH_speaker_33 : decode cH_speaker 33 = .ok (.ifCond .eq 7, 3) := by decide +kernel
theorem dH_speaker_36 : decode cH_speaker 36 = .ok (.iconst 1, 1) := by decide +kernel
theorem dH_speaker_37 : decode cH_speaker 37 = .ok (.goto 4, 3) := by decide +kernel
theorem dH_speaker_5 : decode cH_speaker 5 = .ok (.aload_n 0, 1) := by decide +kernel
theorem dH_speaker_6 : decode cH_speaker 6 = .ok (.getfield 43, 3) := by decide +kernel
theorem dH_speaker_9 : decode cH_speaker 9 = .ok (.getfield 290, 3) := by decide +kernel
theorem dH_speaker_12 : decode cH_speaker 12 = .ok (.invokevirtual 251, 3) := by decide +kernel
theorem dH_speaker_15 : decode cH_speaker 15 = .ok (.ireturn, 1) := by decide +kernel
def fH_speaker (v1 : Int32) (v2 : Int32) (s0 : Sg) : Option (Int32 × Sg) := if v1 = (-1) then (bi (fTa_empty 57 s0) fun r10 s9 => some (r10, s9)) else (bi (fH_within v1 1 30 s0) fun r2 s1 => bnd (fun (b41_0 : Int32) (s3 : Sg) => if b41_0 = 0 then (some ((-1), s3)) else (bi (fTa_add 57 v1 v2 0 0 0 s3) fun r5 s4 => some (r5, s4))) fun j41 => bnd (fun (s6 : Sg) => j41 0 s6) fun j40 => if r2 = 0 then (j40 s1) else (bi (fH_within v2 0 99 s1) fun r8 s7 => if r8 = 0 then (j40 s7) else (j41 1 s7)))
set_option maxHeartbeats 4000000 in
set_option maxRecDepth 100000 in
theorem okH_speaker (v1 : Int32) (v2 : Int32) (s0 : Sg) : ∀ (l : Launch) (w : WC), Ok l w yH_speaker cH_speaker 4 (some .int) 4 evI [.ref (w.ad 0), .int v1, .int v2] s0 (fH_speaker v1 v2 s0) := by
  refine ok_in (ev := fun _ => evI) (av := fun w => [.ref (w.ad 0), .int v1, .int v2]) "LastWordHill" rfl (by decide +kernel) (fun _ => rfl) (fun _ => Nat.le_of_ble_eq_true rfl) ?_
  intro C X E
  show GF C evI 0 [some (.ref (C.w.ad 0)), some (.int v1), some (.int v2), none] [] s0 (fH_speaker v1 v2 s0)
  unfold fH_speaker
  refine g_iload_n X dH_speaker_0 rfl ?_
  refine g_iconst X (-1) dH_speaker_1 (by decide) ?_
  refine g_cne X (tgt := 16) dH_speaker_2 (by decide) ?_ ?_
  · refine g_aload_n X dH_speaker_5 rfl ?_
    refine g_getN X fl_H_43 fb_11_5 k_0 r_0_5 dH_speaker_6 ?_
    refine g_getN X fl_H_290 fb_10_4 k_48 r_48_4 dH_speaker_9 ?_
    refine g_virtI X [] [] k_57 mm_Ta_empty mv_Ta_empty ml_H_251 (okTa_empty 57 s0 k_57 C.l C.w) rfl (by decide) rfl (Nat.le_of_ble_eq_true rfl) dH_speaker_12 (fun r10 s9 => ?_)
    exact g_iret X E dH_speaker_15
  · refine g_iload_n X dH_speaker_16 rfl ?_
    refine g_iconst X 1 dH_speaker_17 (by decide) ?_
    refine g_bipush X 30 dH_speaker_18 (by decide) ?_
    refine g_statI X [.int v1, .int 1, .int 30] [] mm_H_within ms_H_within ml_H_81 (okH_within v1 1 30 s0 C.l C.w) rfl (by decide) rfl (Nat.le_of_ble_eq_true rfl) dH_speaker_20 (fun r2 s1 => ?_)
    refine gf_jn (fun j41 => ∀ (b41_0 : Int32) (s3 : Sg), GF C evI 41 [some (.ref (C.w.ad 0)), some (.int v1), some (.int v2), none] [.int b41_0] s3 (j41 b41_0 s3)) ?_ ?_
    · intro b41_0 s3
      refine g_istore_n X [some (.ref (C.w.ad 0)), some (.int v1), some (.int v2), some (.int b41_0)] dH_speaker_41 (by decide) (Nat.le_of_ble_eq_true rfl) rfl ?_
      refine g_iload_n X dH_speaker_42 rfl ?_
      refine g_zeq X (tgt := 64) dH_speaker_43 (by decide) ?_ ?_
      · refine g_iconst X (-1) dH_speaker_64 (by decide) ?_
        exact g_iret X E dH_speaker_65
      · refine g_aload_n X dH_speaker_46 rfl ?_
        refine g_getN X fl_H_43 fb_11_5 k_0 r_0_5 dH_speaker_47 ?_
        refine g_getN X fl_H_290 fb_10_4 k_48 r_48_4 dH_speaker_50 ?_
        refine g_iload_n X dH_speaker_53 rfl ?_
        refine g_iload_n X dH_speaker_54 rfl ?_
        refine g_iconst X 0 dH_speaker_55 (by decide) ?_
        refine g_iconst X 0 dH_speaker_56 (by decide) ?_
        refine g_iconst X 0 dH_speaker_57 (by decide) ?_
        refine g_virtI X [.int v1, .int v2, .int 0, .int 0, .int 0] [] k_57 mm_Ta_add mv_Ta_add ml_H_254 (okTa_add 57 v1 v2 0 0 0 s3 k_57 C.l C.w) rfl (by decide) rfl (Nat.le_of_ble_eq_true rfl) dH_speaker_58 (fun r5 s4 => ?_)
        refine g_goto X 65 dH_speaker_61 (by decide) ?_
        exact g_iret X E dH_speaker_65
    · intro j41 hj41
      refine gf_jn (fun j40 => ∀ (s6 : Sg), GF C evI 40 [some (.ref (C.w.ad 0)), some (.int v1), some (.int v2), none] [] s6 (j40 s6)) ?_ ?_
      · intro s6
        refine g_iconst X 0 dH_speaker_40 (by decide) ?_
        exact gf_sub (hj41 0 s6) (by simp [lsub])
      · intro j40 hj40
        refine g_zeq X (tgt := 40) dH_speaker_23 (by decide) ?_ ?_
        · exact gf_sub (hj40 s1) (by simp [lsub])
        · refine g_iload_n X dH_speaker_26 rfl ?_
          refine g_iconst X 0 dH_speaker_27 (by decide) ?_
          refine g_bipush X 99 dH_speaker_28 (by decide) ?_
          refine g_statI X [.int v2, .int 0, .int 99] [] mm_H_within ms_H_within ml_H_81 (okH_within v2 0 99 s1 C.l C.w) rfl (by decide) rfl (Nat.le_of_ble_eq_true rfl) dH_speaker_30 (fun r8 s7 => ?_)
          refine g_zeq X (tgt := 40) dH_speaker_33 (by decide) ?_ ?_
          · exact gf_sub (hj40 s7) (by simp [lsub])
          · refine g_iconst X 1 dH_speaker_36 (by decide) ?_
            refine g_goto X 41 dH_speaker_37 (by decide) ?_
            exact gf_sub (hj41 1 s7) (by simp [lsub])
def yH_thing : MethodName := ⟨"LastWordHill", "thing", "(II)I"⟩
abbrev cH_thing : ByteArray := prog_1_method_33_code
theorem dH_thing_0 : decode cH_thing 0 = .ok (.iload_n 1, 1) := by decide +kernel
theorem dH_thing_1 : decode cH_thing 1 = .ok (.iconst 0, 1) := by decide +kernel
theorem dH_thing_2 : decode cH_thing 2 = .ok (.sipush 999, 3) := by decide +kernel
theorem dH_thing_5 : decode cH_thing 5 = .ok (.invokestatic 81, 3) := by decide +kernel
theorem dH_thing_8 : decode cH_thing 8 = .ok (.ifCond .eq 12, 3) := by decide +kernel
theorem dH_thing_20 : decode cH_thing 20 = .ok (.iconst (-1), 1) := by decide +kernel
theorem dH_thing_21 : decode cH_thing 21 = .ok (.ireturn, 1) := by decide +kernel
theorem dH_thing_11 : decode cH_thing 11 = .ok (.iload_n 2, 1) := by decide +kernel
theorem dH_thing_12 : decode cH_thing 12 = .ok (.iconst 0, 1) := by decide +kernel
theorem dH_thing_13 : decode cH_thing 13 = .ok (.iconst 1, 1) := by decide +kernel
theorem dH_thing_14 : decode cH_thing 14 = .ok (.invokestatic 81, 3) := by decide +kernel
theorem dH_thing_17 : decode cH_thing 17 = .ok (.ifCond .ne 5, 3) := by decide +kernel
theorem dH_thing_22 : decode cH_thing 22 = .ok (.aload_n 0, 1) := by decide +kernel
theorem dH_thing_23 : decode cH_thing 23 = .ok (.getfield 70, 3) := by decide +kernel
theorem fl_H_70 : FLk "LastWordHill" 70 11 8 := ⟨_, _, _, rfl, by decide, hz_in 561 (by decide +kernel) (by decide +kernel), nL11, by decide, by decide⟩
theorem fb_11_8 : (hz_bs 11)[8]? = some true := by decide
theorem r_0_8 : hz_rf 0 8 = 66 := by decide
theorem dH_thing_26 : decode cH_thing 26 = .ok (.iload_n 1, 1) := by decide +kernel
theorem dH_thing_27 : decode cH_thing 27 = .ok (.invokevirtual 311, 3) := by decide +kernel
theorem mm_Mu_roundOf : MMc yMu_roundOf cMu_roundOf 5 (some .int) 1 := ⟨hz_in 1292 (by decide +kernel) (by decide +kernel), hz_in 145 (by decide +kernel) (by decide +kernel), by decide +kernel, by decide⟩
theorem mv_Mu_roundOf : MMv yMu_roundOf 2 := ⟨hz_in 1290 (by decide +kernel) (by decide +kernel), hz_in 1291 (by decide +kernel) (by decide +kernel), _, _, rfl, by decide⟩
theorem ml_H_311 : Cond.methodLink "LastWordHill" 311 yMu_roundOf ∈ hz_wt := hz_in 1289 (by decide +kernel) (by decide +kernel)
theorem dH_thing_30 : decode cH_thing 30 = .ok (.istore_n 3, 1) := by decide +kernel
theorem dH_thing_31 : decode cH_thing 31 = .ok (.iload_n 2, 1) := by decide +kernel
theorem dH_thing_32 : decode cH_thing 32 = .ok (.ifCond .ne 7, 3) := by decide +kernel
theorem dH_thing_39 : decode cH_thing 39 = .ok (.aload_n 0, 1) := by decide +kernel
theorem dH_thing_40 : decode cH_thing 40 = .ok (.getfield 70, 3) := by decide +kernel
theorem dH_thing_43 : decode cH_thing 43 = .ok (.iload_n 1, 1) := by decide +kernel
theorem dH_thing_44 : decode cH_thing 44 = .ok (.iload_n 3, 1) := by decide +kernel
theorem dH_thing_45 : decode cH_thing 45 = .ok (.invokevirtual 314, 3) := by decide +kernel
theorem mm_Mu_aheadOfRound : MMc yMu_aheadOfRound cMu_aheadOfRound 6 (some .int) 2 := ⟨hz_in 1305 (by decide +kernel) (by decide +kernel), hz_in 145 (by decide +kernel) (by decide +kernel), by decide +kernel, by decide⟩
theorem mv_Mu_aheadOfRound : MMv yMu_aheadOfRound 2 := ⟨hz_in 1303 (by decide +kernel) (by decide +kernel), hz_in 1304 (by decide +kernel) (by decide +kernel), _, _, rfl, by decide⟩
theorem ml_H_314 : Cond.methodLink "LastWordHill" 314 yMu_aheadOfRound ∈ hz_wt := hz_in 1302 (by decide +kernel) (by decide +kernel)
theorem dH_thing_48 : decode cH_thing 48 = .ok (.ireturn, 1) := by decide +kernel
theorem dH_thing_35 : decode cH_thing 35 = .ok (.iload_n 3, 1) := by decide +kernel
theorem dH_thing_36 : decode cH_thing 36 = .ok (.goto 12, 3) := by decide +kernel
def fH_thing (v1 : Int32) (v2 : Int32) (s0 : Sg) : Option (Int32 × Sg) := bi (fH_within v1 0 999 s0) fun r2 s1 => if r2 = 0 then (some ((-1), s1)) else (bi (fH_within v2 0 1 s1) fun r4 s3 => if r4 = 0 then (some ((-1), s3)) else (bi (fMu_roundOf v1 s3) fun r6 s5 => if v2 = 0 then (some (r6, s5)) else (bi (fMu_aheadOfRound v1 r6 s5) fun r8 s7 => some (r8, s7))))
set_option maxHeartbeats 4000000 in
set_option maxRecDepth 100000 in
theorem okH_thing (v1 : Int32) (v2 : Int32) (s0 : Sg) : ∀ (l : Launch) (w : WC), Ok l w yH_thing cH_thing 4 (some .int) 4 evI [.ref (w.ad 0), .int v1, .int v2] s0 (fH_thing v1 v2 s0) := by
  refine ok_in (ev := fun _ => evI) (av := fun w => [.ref (w.ad 0), .int v1, .int v2]) "LastWordHill" rfl (by decide +kernel) (fun _ => rfl) (fun _ => Nat.le_of_ble_eq_true rfl) ?_
  intro C X E
  show GF C evI 0 [some (.ref (C.w.ad 0)), some (.int v1), some (.int v2), none] [] s0 (fH_thing v1 v2 s0)
  unfold fH_thing
  refine g_iload_n X dH_thing_0 rfl ?_
  refine g_iconst X 0 dH_thing_1 (by decide) ?_
  refine g_sipush X 999 dH_thing_2 (by decide) ?_
  refine g_statI X [.int v1, .int 0, .int 999] [] mm_H_within ms_H_within ml_H_81 (okH_within v1 0 999 s0 C.l C.w) rfl (by decide) rfl (Nat.le_of_ble_eq_true rfl) dH_thing_5 (fun r2 s1 => ?_)
  refine g_zeq X (tgt := 20) dH_thing_8 (by decide) ?_ ?_
  · refine g_iconst X (-1) dH_thing_20 (by decide) ?_
    exact g_iret X E dH_thing_21
  · refine g_iload_n X dH_thing_11 rfl ?_
    refine g_iconst X 0 dH_thing_12 (by decide) ?_
    refine g_iconst X 1 dH_thing_13 (by decide) ?_
    refine g_statI X [.int v2, .int 0, .int 1] [] mm_H_within ms_H_within ml_H_81 (okH_within v2 0 1 s1 C.l C.w) rfl (by decide) rfl (Nat.le_of_ble_eq_true rfl) dH_thing_14 (fun r4 s3 => ?_)
    refine g_zne X (tgt := 22) dH_thing_17 (by decide) ?_ ?_
    · refine g_iconst X (-1) dH_thing_20 (by decide) ?_
      exact g_iret X E dH_thing_21
    · refine g_aload_n X dH_thing_22 rfl ?_
      refine g_getN X fl_H_70 fb_11_8 k_0 r_0_8 dH_thing_23 ?_
      refine g_iload_n X dH_thing_26 rfl ?_
      refine g_virtI X [.int v1] [] k_66 mm_Mu_roundOf mv_Mu_roundOf ml_H_311 (okMu_roundOf v1 s3 C.l C.w) rfl (by decide) rfl (Nat.le_of_ble_eq_true rfl) dH_thing_27 (fun r6 s5 => ?_)
      refine g_istore_n X [some (.ref (C.w.ad 0)), some (.int v1), some (.int v2), some (.int r6)] dH_thing_30 (by decide) (Nat.le_of_ble_eq_true rfl) rfl ?_
      refine g_iload_n X dH_thing_31 rfl ?_
      refine g_zne X (tgt := 39) dH_thing_32 (by decide) ?_ ?_
      · refine g_iload_n X dH_thing_35 rfl ?_
        refine g_goto X 48 dH_thing_36 (by decide) ?_
        exact g_iret X E dH_thing_48
      · refine g_aload_n X dH_thing_39 rfl ?_
        refine g_getN X fl_H_70 fb_11_8 k_0 r_0_8 dH_thing_40 ?_
        refine g_iload_n X dH_thing_43 rfl ?_
        refine g_iload_n X dH_thing_44 rfl ?_
        refine g_virtI X [.int v1, .int r6] [] k_66 mm_Mu_aheadOfRound mv_Mu_aheadOfRound ml_H_314 (okMu_aheadOfRound v1 r6 s5 C.l C.w) rfl (by decide) rfl (Nat.le_of_ble_eq_true rfl) dH_thing_45 (fun r8 s7 => ?_)
        exact g_iret X E dH_thing_48
def yH_price : MethodName := ⟨"LastWordHill", "price", "(I)I"⟩
abbrev cH_price : ByteArray := prog_1_method_34_code
theorem dH_price_0 : decode cH_price 0 = .ok (.iload_n 1, 1) := by decide +kernel
theorem dH_price_1 : decode cH_price 1 = .ok (.iconst (-1), 1) := by decide +kernel
theorem dH_price_2 : decode cH_price 2 = .ok (.if_icmp .ne 14, 3) := by decide +kernel
theorem dH_price_16 : decode cH_price 16 = .ok (.iload_n 1, 1) := by decide +kernel
theorem dH_price_17 : decode cH_price 17 = .ok (.iconst 0, 1) := by decide +kernel
theorem dH_price_18 : decode cH_price 18 = .ok (.sipush 999, 3) := by decide +kernel
theorem dH_price_21 : decode cH_price 21 = .ok (.invokestatic 81, 3) := by decide +kernel
theorem dH_price_24 : decode cH_price 24 = .ok (.ifCond .eq 21, 3) := by decide +kernel
theorem dH_price_45 : decode cH_price 45 = .ok (.iconst (-1), 1) := by decide +kernel
theorem dH_price_46 : decode cH_price 46 = .ok (.ireturn, 1) := by decide +kernel
theorem dH_price_27 : decode cH_price 27 = .ok (.aload_n 0, 1) := by decide +kernel
theorem dH_price_28 : decode cH_price 28 = .ok (.getfield 43, 3) := by decide +kernel
theorem dH_price_31 : decode cH_price 31 = .ok (.getfield 317, 3) := by decide +kernel
theorem fl_H_317 : FLk "LastWordHill" 317 10 5 := ⟨_, _, _, rfl, by decide, hz_in 437 (by decide +kernel) (by decide +kernel), nL10, by decide, by decide⟩
theorem k_59 : hz_kd 59 = 7 := by decide
theorem r_48_5 : hz_rf 48 5 = 59 := by decide
theorem dH_price_34 : decode cH_price 34 = .ok (.iload_n 1, 1) := by decide +kernel
theorem dH_price_35 : decode cH_price 35 = .ok (.iconst 0, 1) := by decide +kernel
theorem dH_price_36 : decode cH_price 36 = .ok (.iconst 0, 1) := by decide +kernel
theorem dH_price_37 : decode cH_price 37 = .ok (.iconst 0, 1) := by decide +kernel
theorem dH_price_38 : decode cH_price 38 = .ok (.iconst 0, 1) := by decide +kernel
theorem dH_price_39 : decode cH_price 39 = .ok (.invokevirtual 254, 3) := by decide +kernel
theorem dH_price_42 : decode cH_price 42 = .ok (.goto 4, 3) := by decide +kernel
theorem dH_price_5 : decode cH_price 5 = .ok (.aload_n 0, 1) := by decide +kernel
theorem dH_price_6 : decode cH_price 6 = .ok (.getfield 43, 3) := by decide +kernel
theorem dH_price_9 : decode cH_price 9 = .ok (.getfield 317, 3) := by decide +kernel
theorem dH_price_12 : decode cH_price 12 = .ok (.invokevirtual 251, 3) := by decide +kernel
theorem dH_price_15 : decode cH_price 15 = .ok (.ireturn, 1) := by decide +kernel
def fH_price (v1 : Int32) (s0 : Sg) : Option (Int32 × Sg) := if v1 = (-1) then (bi (fTa_empty 59 s0) fun r6 s5 => some (r6, s5)) else (bi (fH_within v1 0 999 s0) fun r2 s1 => if r2 = 0 then (some ((-1), s1)) else (bi (fTa_add 59 v1 0 0 0 0 s1) fun r4 s3 => some (r4, s3)))
set_option maxHeartbeats 4000000 in
set_option maxRecDepth 100000 in
theorem okH_price (v1 : Int32) (s0 : Sg) : ∀ (l : Launch) (w : WC), Ok l w yH_price cH_price 2 (some .int) 4 evI [.ref (w.ad 0), .int v1] s0 (fH_price v1 s0) := by
  refine ok_in (ev := fun _ => evI) (av := fun w => [.ref (w.ad 0), .int v1]) "LastWordHill" rfl (by decide +kernel) (fun _ => rfl) (fun _ => Nat.le_of_ble_eq_true rfl) ?_
  intro C X E
  show GF C evI 0 [some (.ref (C.w.ad 0)), some (.int v1)] [] s0 (fH_price v1 s0)
  unfold fH_price
  refine g_iload_n X dH_price_0 rfl ?_
  refine g_iconst X (-1) dH_price_1 (by decide) ?_
  refine g_cne X (tgt := 16) dH_price_2 (by decide) ?_ ?_
  · refine g_aload_n X dH_price_5 rfl ?_
    refine g_getN X fl_H_43 fb_11_5 k_0 r_0_5 dH_price_6 ?_
    refine g_getN X fl_H_317 fb_10_5 k_48 r_48_5 dH_price_9 ?_
    refine g_virtI X [] [] k_59 mm_Ta_empty mv_Ta_empty ml_H_251 (okTa_empty 59 s0 k_59 C.l C.w) rfl (by decide) rfl (Nat.le_of_ble_eq_true rfl) dH_price_12 (fun r6 s5 => ?_)
    exact g_iret X E dH_price_15
  · refine g_iload_n X dH_price_16 rfl ?_
    refine g_iconst X 0 dH_price_17 (by decide) ?_
    refine g_sipush X 999 dH_price_18 (by decide) ?_
    refine g_statI X [.int v1, .int 0, .int 999] [] mm_H_within ms_H_within ml_H_81 (okH_within v1 0 999 s0 C.l C.w) rfl (by decide) rfl (Nat.le_of_ble_eq_true rfl) dH_price_21 (fun r2 s1 => ?_)
    refine g_zeq X (tgt := 45) dH_price_24 (by decide) ?_ ?_
    · refine g_iconst X (-1) dH_price_45 (by decide) ?_
      exact g_iret X E dH_price_46
    · refine g_aload_n X dH_price_27 rfl ?_
      refine g_getN X fl_H_43 fb_11_5 k_0 r_0_5 dH_price_28 ?_
      refine g_getN X fl_H_317 fb_10_5 k_48 r_48_5 dH_price_31 ?_
      refine g_iload_n X dH_price_34 rfl ?_
      refine g_iconst X 0 dH_price_35 (by decide) ?_
      refine g_iconst X 0 dH_price_36 (by decide) ?_
      refine g_iconst X 0 dH_price_37 (by decide) ?_
      refine g_iconst X 0 dH_price_38 (by decide) ?_
      refine g_virtI X [.int v1, .int 0, .int 0, .int 0, .int 0] [] k_59 mm_Ta_add mv_Ta_add ml_H_254 (okTa_add 59 v1 0 0 0 0 s1 k_59 C.l C.w) rfl (by decide) rfl (Nat.le_of_ble_eq_true rfl) dH_price_39 (fun r4 s3 => ?_)
      refine g_goto X 46 dH_price_42 (by decide) ?_
      exact g_iret X E dH_price_46
def yH_bell : MethodName := ⟨"LastWordHill", "bell", "(II)I"⟩
abbrev cH_bell : ByteArray := prog_1_method_36_code
theorem dH_bell_0 : decode cH_bell 0 = .ok (.iload_n 1, 1) := by decide +kernel
theorem dH_bell_1 : decode cH_bell 1 = .ok (.iconst 1, 1) := by decide +kernel
theorem dH_bell_2 : decode cH_bell 2 = .ok (.bipush 12, 2) := by decide +kernel
theorem dH_bell_4 : decode cH_bell 4 = .ok (.invokestatic 81, 3) := by decide +kernel
theorem dH_bell_7 : decode cH_bell 7 = .ok (.ifCond .eq 12, 3) := by decide +kernel
theorem dH_bell_19 : decode cH_bell 19 = .ok (.iconst (-1), 1) := by decide +kernel
theorem dH_bell_20 : decode cH_bell 20 = .ok (.ireturn, 1) := by decide +kernel
theorem dH_bell_10 : decode cH_bell 10 = .ok (.iload_n 2, 1) := by decide +kernel
theorem dH_bell_11 : decode cH_bell 11 = .ok (.iconst 0, 1) := by decide +kernel
theorem dH_bell_12 : decode cH_bell 12 = .ok (.iload_n 1, 1) := by decide +kernel
theorem dH_bell_13 : decode cH_bell 13 = .ok (.invokestatic 81, 3) := by decide +kernel
theorem dH_bell_16 : decode cH_bell 16 = .ok (.ifCond .ne 5, 3) := by decide +kernel
theorem dH_bell_21 : decode cH_bell 21 = .ok (.iload_n 1, 1) := by decide +kernel
theorem dH_bell_22 : decode cH_bell 22 = .ok (.iload_n 2, 1) := by decide +kernel
theorem dH_bell_23 : decode cH_bell 23 = .ok (.isub, 1) := by decide +kernel
theorem dH_bell_24 : decode cH_bell 24 = .ok (.iconst 1, 1) := by decide +kernel
theorem dH_bell_25 : decode cH_bell 25 = .ok (.iadd, 1) := by decide +kernel
theorem dH_bell_26 : decode cH_bell 26 = .ok (.iload_n 2, 1) := by decide +kernel
theorem dH_bell_27 : decode cH_bell 27 = .ok (.invokestatic 324, 3) := by decide +kernel
theorem mm_Mu_waysToSound : MMc yMu_waysToSound cMu_waysToSound 4 (some .int) 2 := ⟨hz_in 1328 (by decide +kernel) (by decide +kernel), hz_in 145 (by decide +kernel) (by decide +kernel), by decide +kernel, by decide⟩
theorem ms_Mu_waysToSound : Cond.static yMu_waysToSound ∈ hz_wt := hz_in 1327 (by decide +kernel) (by decide +kernel)
theorem ml_H_324 : Cond.methodLink "LastWordHill" 324 yMu_waysToSound ∈ hz_wt := hz_in 1326 (by decide +kernel) (by decide +kernel)
theorem dH_bell_30 : decode cH_bell 30 = .ok (.ireturn, 1) := by decide +kernel
def fH_bell (v1 : Int32) (v2 : Int32) (s0 : Sg) : Option (Int32 × Sg) := bi (fH_within v1 1 12 s0) fun r2 s1 => if r2 = 0 then (some ((-1), s1)) else (bi (fH_within v2 0 v1 s1) fun r4 s3 => if r4 = 0 then (some ((-1), s3)) else (bi (fMu_waysToSound ((v1 - v2) + 1) v2 s3) fun r6 s5 => some (r6, s5)))
set_option maxHeartbeats 4000000 in
set_option maxRecDepth 100000 in
theorem okH_bell (v1 : Int32) (v2 : Int32) (s0 : Sg) : ∀ (l : Launch) (w : WC), Ok l w yH_bell cH_bell 3 (some .int) 3 evI [.ref (w.ad 0), .int v1, .int v2] s0 (fH_bell v1 v2 s0) := by
  refine ok_in (ev := fun _ => evI) (av := fun w => [.ref (w.ad 0), .int v1, .int v2]) "LastWordHill" rfl (by decide +kernel) (fun _ => rfl) (fun _ => Nat.le_of_ble_eq_true rfl) ?_
  intro C X E
  show GF C evI 0 [some (.ref (C.w.ad 0)), some (.int v1), some (.int v2)] [] s0 (fH_bell v1 v2 s0)
  unfold fH_bell
  refine g_iload_n X dH_bell_0 rfl ?_
  refine g_iconst X 1 dH_bell_1 (by decide) ?_
  refine g_bipush X 12 dH_bell_2 (by decide) ?_
  refine g_statI X [.int v1, .int 1, .int 12] [] mm_H_within ms_H_within ml_H_81 (okH_within v1 1 12 s0 C.l C.w) rfl (by decide) rfl (Nat.le_of_ble_eq_true rfl) dH_bell_4 (fun r2 s1 => ?_)
  refine g_zeq X (tgt := 19) dH_bell_7 (by decide) ?_ ?_
  · refine g_iconst X (-1) dH_bell_19 (by decide) ?_
    exact g_iret X E dH_bell_20
  · refine g_iload_n X dH_bell_10 rfl ?_
    refine g_iconst X 0 dH_bell_11 (by decide) ?_
    refine g_iload_n X dH_bell_12 rfl ?_
    refine g_statI X [.int v2, .int 0, .int v1] [] mm_H_within ms_H_within ml_H_81 (okH_within v2 0 v1 s1 C.l C.w) rfl (by decide) rfl (Nat.le_of_ble_eq_true rfl) dH_bell_13 (fun r4 s3 => ?_)
    refine g_zne X (tgt := 21) dH_bell_16 (by decide) ?_ ?_
    · refine g_iconst X (-1) dH_bell_19 (by decide) ?_
      exact g_iret X E dH_bell_20
    · refine g_iload_n X dH_bell_21 rfl ?_
      refine g_iload_n X dH_bell_22 rfl ?_
      refine g_isub X dH_bell_23 ?_
      refine g_iconst X 1 dH_bell_24 (by decide) ?_
      refine g_iadd X dH_bell_25 ?_
      refine g_iload_n X dH_bell_26 rfl ?_
      refine g_statI X [.int ((v1 - v2) + 1), .int v2] [] mm_Mu_waysToSound ms_Mu_waysToSound ml_H_324 (okMu_waysToSound ((v1 - v2) + 1) v2 s3 C.l C.w) rfl (by decide) rfl (Nat.le_of_ble_eq_true rfl) dH_bell_27 (fun r6 s5 => ?_)
      exact g_iret X E dH_bell_30
def yH_worth : MethodName := ⟨"LastWordHill", "worth", "(II)Z"⟩
abbrev cH_worth : ByteArray := prog_1_method_37_code
theorem dH_worth_0 : decode cH_worth 0 = .ok (.iload_n 1, 1) := by decide +kernel
theorem dH_worth_1 : decode cH_worth 1 = .ok (.iconst 0, 1) := by decide +kernel
theorem dH_worth_2 : decode cH_worth 2 = .ok (.iconst 3, 1) := by decide +kernel
theorem dH_worth_3 : decode cH_worth 3 = .ok (.invokestatic 81, 3) := by decide +kernel
theorem dH_worth_6 : decode cH_worth 6 = .ok (.ifCond .eq 13, 3) := by decide +kernel
theorem dH_worth_19 : decode cH_worth 19 = .ok (.iconst 0, 1) := by decide +kernel
theorem dH_worth_20 : decode cH_worth 20 = .ok (.ireturn, 1) := by decide +kernel
theorem dH_worth_9 : decode cH_worth 9 = .ok (.iload_n 2, 1) := by decide +kernel
theorem dH_worth_10 : decode cH_worth 10 = .ok (.iconst 0, 1) := by decide +kernel
theorem dH_worth_11 : decode cH_worth 11 = .ok (.bipush 99, 2) := by decide +kernel
theorem dH_worth_13 : decode cH_worth 13 = .ok (.invokestatic 81, 3) := by decide +kernel
theorem dH_worth_16 : decode cH_worth 16 = .ok (.ifCond .ne 5, 3) := by decide +kernel
theorem dH_worth_21 : decode cH_worth 21 = .ok (.aload_n 0, 1) := by decide +kernel
theorem dH_worth_22 : decode cH_worth 22 = .ok (.getfield 43, 3) := by decide +kernel
theorem dH_worth_25 : decode cH_worth 25 = .ok (.getfield 327, 3) := by decide +kernel
theorem fl_H_327 : FLk "LastWordHill" 327 10 6 := ⟨_, _, _, rfl, by decide, hz_in 440 (by decide +kernel) (by decide +kernel), nL10, by decide, by decide⟩
theorem k_61 : hz_kd 61 = 7 := by decide
theorem r_48_6 : hz_rf 48 6 = 61 := by decide
theorem dH_worth_28 : decode cH_worth 28 = .ok (.iload_n 1, 1) := by decide +kernel
theorem dH_worth_29 : decode cH_worth 29 = .ok (.iconst 0, 1) := by decide +kernel
theorem dH_worth_30 : decode cH_worth 30 = .ok (.iload_n 2, 1) := by decide +kernel
theorem dH_worth_31 : decode cH_worth 31 = .ok (.invokevirtual 283, 3) := by decide +kernel
theorem dH_worth_34 : decode cH_worth 34 = .ok (.iconst 1, 1) := by decide +kernel
theorem dH_worth_35 : decode cH_worth 35 = .ok (.ireturn, 1) := by decide +kernel
def fH_worth (v1 : Int32) (v2 : Int32) (s0 : Sg) : Option (Int32 × Sg) := bi (fH_within v1 0 3 s0) fun r2 s1 => if r2 = 0 then (gb 0 (some (0, s1))) else (bi (fH_within v2 0 99 s1) fun r4 s3 => if r4 = 0 then (gb 0 (some (0, s3))) else (bv (fTa_put 61 v1 0 v2 s3) fun s5 => gb 1 (some (1, s5))))
set_option maxHeartbeats 4000000 in
set_option maxRecDepth 100000 in
theorem okH_worth (v1 : Int32) (v2 : Int32) (s0 : Sg) : ∀ (l : Launch) (w : WC), Ok l w yH_worth cH_worth 3 (some .boolean) 3 evI [.ref (w.ad 0), .int v1, .int v2] s0 (fH_worth v1 v2 s0) := by
  refine ok_in (ev := fun _ => evI) (av := fun w => [.ref (w.ad 0), .int v1, .int v2]) "LastWordHill" rfl (by decide +kernel) (fun _ => rfl) (fun _ => Nat.le_of_ble_eq_true rfl) ?_
  intro C X E
  show GF C evI 0 [some (.ref (C.w.ad 0)), some (.int v1), some (.int v2)] [] s0 (fH_worth v1 v2 s0)
  unfold fH_worth
  refine g_iload_n X dH_worth_0 rfl ?_
  refine g_iconst X 0 dH_worth_1 (by decide) ?_
  refine g_iconst X 3 dH_worth_2 (by decide) ?_
  refine g_statI X [.int v1, .int 0, .int 3] [] mm_H_within ms_H_within ml_H_81 (okH_within v1 0 3 s0 C.l C.w) rfl (by decide) rfl (Nat.le_of_ble_eq_true rfl) dH_worth_3 (fun r2 s1 => ?_)
  refine g_zeq X (tgt := 19) dH_worth_6 (by decide) ?_ ?_
  · refine g_iconst X 0 dH_worth_19 (by decide) ?_
    exact g_zret X E dH_worth_20
  · refine g_iload_n X dH_worth_9 rfl ?_
    refine g_iconst X 0 dH_worth_10 (by decide) ?_
    refine g_bipush X 99 dH_worth_11 (by decide) ?_
    refine g_statI X [.int v2, .int 0, .int 99] [] mm_H_within ms_H_within ml_H_81 (okH_within v2 0 99 s1 C.l C.w) rfl (by decide) rfl (Nat.le_of_ble_eq_true rfl) dH_worth_13 (fun r4 s3 => ?_)
    refine g_zne X (tgt := 21) dH_worth_16 (by decide) ?_ ?_
    · refine g_iconst X 0 dH_worth_19 (by decide) ?_
      exact g_zret X E dH_worth_20
    · refine g_aload_n X dH_worth_21 rfl ?_
      refine g_getN X fl_H_43 fb_11_5 k_0 r_0_5 dH_worth_22 ?_
      refine g_getN X fl_H_327 fb_10_6 k_48 r_48_6 dH_worth_25 ?_
      refine g_iload_n X dH_worth_28 rfl ?_
      refine g_iconst X 0 dH_worth_29 (by decide) ?_
      refine g_iload_n X dH_worth_30 rfl ?_
      refine g_virtV X [.int v1, .int 0, .int v2] [] k_61 mm_Ta_put mv_Ta_put ml_H_283 (okTa_put 61 v1 0 v2 s3 k_61 C.l C.w) rfl (by decide) rfl (Nat.le_of_ble_eq_true rfl) dH_worth_31 (fun s5 => ?_)
      refine g_iconst X 1 dH_worth_34 (by decide) ?_
      exact g_zret X E dH_worth_35
def yJ0_length_8abf5 : MethodName := ⟨"java/lang/String", "length", "()I"⟩
abbrev cJ0_length_8abf5 : ByteArray := prog_18_method_54_code
theorem dJ0_length_8abf5_0 : decode cJ0_length_8abf5 0 = .ok (.aload_n 0, 1) := by decide +kernel
theorem dJ0_length_8abf5_1 : decode cJ0_length_8abf5 1 = .ok (.getfield 9, 3) := by decide +kernel
theorem fs_java_lang_String_9 : Cond.fieldLink "java/lang/String" 9 "java/lang/String" "value" "[B" ∈ hz_wt := hz_in 2110 (by decide +kernel) (by decide +kernel)
theorem dJ0_length_8abf5_4 : decode cJ0_length_8abf5 4 = .ok (.arraylength, 1) := by decide +kernel
theorem dJ0_length_8abf5_5 : decode cJ0_length_8abf5 5 = .ok (.aload_n 0, 1) := by decide +kernel
theorem dJ0_length_8abf5_6 : decode cJ0_length_8abf5 6 = .ok (.invokevirtual 335, 3) := by decide +kernel
theorem mm_J0_coder_7d493 : MMc yJ0_coder_7d493 cJ0_coder_7d493 1 (some .byte) 0 := ⟨hz_in 856 (by decide +kernel) (by decide +kernel), hz_in 150 (by decide +kernel) (by decide +kernel), by decide +kernel, by decide⟩
theorem mv_J0_coder_7d493 : Cond.instanceMethod yJ0_coder_7d493 ∈ hz_wt ∧ Cond.selects "java/lang/String" yJ0_coder_7d493 yJ0_coder_7d493 ∈ hz_wt := ⟨hz_in 854 (by decide +kernel) (by decide +kernel), hz_in 855 (by decide +kernel) (by decide +kernel)⟩
theorem ml_java_lang_String_335 : Cond.methodLink "java/lang/String" 335 yJ0_coder_7d493 ∈ hz_wt := hz_in 853 (by decide +kernel) (by decide +kernel)
theorem dJ0_length_8abf5_9 : decode cJ0_length_8abf5 9 = .ok (.ishr, 1) := by decide +kernel
theorem dJ0_length_8abf5_10 : decode cJ0_length_8abf5 10 = .ok (.ireturn, 1) := by decide +kernel
def fJ0_length_8abf5 (o0 : Nat) (s0 : Sg) : Option (Int32 × Sg) := bi (fJ0_coder_7d493 o0 s0) fun r2 s1 => some (((nI (lenJS.getD o0 0)) >>> (r2 &&& 31)), s1)
set_option maxHeartbeats 4000000 in
set_option maxRecDepth 100000 in
theorem okJ0_length_8abf5 (o0 : Nat) (s0 : Sg) (h0 : o0 < nJS) : ∀ (l : Launch) (w : WC), Ok l w yJ0_length_8abf5 cJ0_length_8abf5 1 (some .int) 2 evI [.ref (w.aK o0)] s0 (fJ0_length_8abf5 o0 s0) := by
  refine ok_in (ev := fun _ => evI) (av := fun w => [.ref (w.aK o0)]) "java/lang/String" rfl (by decide +kernel) (fun _ => rfl) (fun _ => Nat.le_of_ble_eq_true rfl) ?_
  intro C X E
  show GF C evI 0 [some (.ref (C.w.aK o0))] [] s0 (fJ0_length_8abf5 o0 s0)
  unfold fJ0_length_8abf5
  refine g_aload_n X dJ0_length_8abf5_0 rfl ?_
  refine g_sval X h0 fs_java_lang_String_9 dJ0_length_8abf5_1 ?_
  refine g_blen X h0 dJ0_length_8abf5_4 ?_
  refine g_aload_n X dJ0_length_8abf5_5 rfl ?_
  refine g_vstrI X [] [.int (nI (lenJS.getD o0 0))] h0 mm_J0_coder_7d493 mv_J0_coder_7d493 ml_java_lang_String_335 (okJ0_coder_7d493 o0 s0 h0 C.l C.w) rfl (by decide) rfl (Nat.le_of_ble_eq_true rfl) dJ0_length_8abf5_6 (fun r2 s1 => ?_)
  refine g_ishr X dJ0_length_8abf5_9 ?_
  exact g_iret X E dJ0_length_8abf5_10
def yJ0_checkIndex_df160 : MethodName := ⟨"java/lang/String", "checkIndex", "(II)V"⟩
abbrev cJ0_checkIndex_df160 : ByteArray := prog_18_method_155_code
theorem dJ0_checkIndex_df160_0 : decode cJ0_checkIndex_df160 0 = .ok (.iload_n 0, 1) := by decide +kernel
theorem dJ0_checkIndex_df160_1 : decode cJ0_checkIndex_df160 1 = .ok (.iload_n 1, 1) := by decide +kernel
theorem dJ0_checkIndex_df160_2 : decode cJ0_checkIndex_df160 2 = .ok (.getstatic 1053, 3) := by decide +kernel
theorem fs_java_lang_String_1053 : Cond.fieldLink "java/lang/String" 1053 "jdk/internal/util/Preconditions" "SIOOBE_FORMATTER" "Ljava/util/function/BiFunction;" ∈ hz_wt := hz_in 873 (by decide +kernel) (by decide +kernel)
theorem dJ0_checkIndex_df160_5 : decode cJ0_checkIndex_df160 5 = .ok (.invokestatic 1059, 3) := by decide +kernel
theorem mm_J3_checkIndex_8e157 : MMc yJ3_checkIndex_8e157 cJ3_checkIndex_8e157 3 (some .int) 3 := ⟨hz_in 877 (by decide +kernel) (by decide +kernel), hz_in 152 (by decide +kernel) (by decide +kernel), by decide +kernel, by decide⟩
theorem ms_J3_checkIndex_8e157 : Cond.static yJ3_checkIndex_8e157 ∈ hz_wt := hz_in 876 (by decide +kernel) (by decide +kernel)
theorem ml_java_lang_String_1059 : Cond.methodLink "java/lang/String" 1059 yJ3_checkIndex_8e157 ∈ hz_wt := hz_in 875 (by decide +kernel) (by decide +kernel)
theorem dJ0_checkIndex_df160_8 : decode cJ0_checkIndex_df160 8 = .ok (.pop, 1) := by decide +kernel
theorem dJ0_checkIndex_df160_9 : decode cJ0_checkIndex_df160 9 = .ok (.return_, 1) := by decide +kernel
def fJ0_checkIndex_df160 (v0 : Int32) (v1 : Int32) (s0 : Sg) : Option (Sg) := bi (fJ3_checkIndex_8e157 v0 v1 s0) fun r2 s1 => some s1
set_option maxHeartbeats 4000000 in
set_option maxRecDepth 100000 in
theorem okJ0_checkIndex_df160 (v0 : Int32) (v1 : Int32) (s0 : Sg) : ∀ (l : Launch) (w : WC), Ok l w yJ0_checkIndex_df160 cJ0_checkIndex_df160 2 none 2 evV [.int v0, .int v1] s0 (fJ0_checkIndex_df160 v0 v1 s0) := by
  refine ok_in (ev := fun _ => evV) (av := fun w => [.int v0, .int v1]) "java/lang/String" rfl (by decide +kernel) (fun _ => rfl) (fun _ => Nat.le_of_ble_eq_true rfl) ?_
  intro C X E
  show GF C evV 0 [some (.int v0), some (.int v1)] [] s0 (fJ0_checkIndex_df160 v0 v1 s0)
  unfold fJ0_checkIndex_df160
  refine g_iload_n X dJ0_checkIndex_df160_0 rfl ?_
  refine g_iload_n X dJ0_checkIndex_df160_1 rfl ?_
  refine g_fmtS X fs_java_lang_String_1053 dJ0_checkIndex_df160_2 ?_
  refine g_statI X [.int v0, .int v1, va_rf C.w.fm] [] mm_J3_checkIndex_8e157 ms_J3_checkIndex_8e157 ml_java_lang_String_1059 (okJ3_checkIndex_8e157 v0 v1 s0 C.l C.w) rfl (by decide) rfl (Nat.le_of_ble_eq_true rfl) dJ0_checkIndex_df160_5 (fun r2 s1 => ?_)
  refine g_pop X dJ0_checkIndex_df160_8 rfl ?_
  exact g_vret X E dJ0_checkIndex_df160_9
def yJ0_checkBoundsBeginEnd_23922 : MethodName := ⟨"java/lang/String", "checkBoundsBeginEnd", "(III)V"⟩
abbrev cJ0_checkBoundsBeginEnd_23922 : ByteArray := prog_18_method_158_code
theorem dJ0_checkBoundsBeginEnd_23922_0 : decode cJ0_checkBoundsBeginEnd_23922 0 = .ok (.iload_n 0, 1) := by decide +kernel
theorem dJ0_checkBoundsBeginEnd_23922_1 : decode cJ0_checkBoundsBeginEnd_23922 1 = .ok (.iload_n 1, 1) := by decide +kernel
theorem dJ0_checkBoundsBeginEnd_23922_2 : decode cJ0_checkBoundsBeginEnd_23922 2 = .ok (.iload_n 2, 1) := by decide +kernel
theorem dJ0_checkBoundsBeginEnd_23922_3 : decode cJ0_checkBoundsBeginEnd_23922 3 = .ok (.getstatic 1053, 3) := by decide +kernel
theorem dJ0_checkBoundsBeginEnd_23922_6 : decode cJ0_checkBoundsBeginEnd_23922 6 = .ok (.invokestatic 1062, 3) := by decide +kernel
theorem mm_J3_checkFromToIndex_8c36e : MMc yJ3_checkFromToIndex_8c36e cJ3_checkFromToIndex_8c36e 4 (some .int) 4 := ⟨hz_in 957 (by decide +kernel) (by decide +kernel), hz_in 152 (by decide +kernel) (by decide +kernel), by decide +kernel, by decide⟩
theorem ms_J3_checkFromToIndex_8c36e : Cond.static yJ3_checkFromToIndex_8c36e ∈ hz_wt := hz_in 956 (by decide +kernel) (by decide +kernel)
theorem ml_java_lang_String_1062 : Cond.methodLink "java/lang/String" 1062 yJ3_checkFromToIndex_8c36e ∈ hz_wt := hz_in 955 (by decide +kernel) (by decide +kernel)
theorem dJ0_checkBoundsBeginEnd_23922_9 : decode cJ0_checkBoundsBeginEnd_23922 9 = .ok (.pop, 1) := by decide +kernel
theorem dJ0_checkBoundsBeginEnd_23922_10 : decode cJ0_checkBoundsBeginEnd_23922 10 = .ok (.return_, 1) := by decide +kernel
def fJ0_checkBoundsBeginEnd_23922 (v0 : Int32) (v1 : Int32) (v2 : Int32) (s0 : Sg) : Option (Sg) := bi (fJ3_checkFromToIndex_8c36e v0 v1 v2 s0) fun r2 s1 => some s1
set_option maxHeartbeats 4000000 in
set_option maxRecDepth 100000 in
theorem okJ0_checkBoundsBeginEnd_23922 (v0 : Int32) (v1 : Int32) (v2 : Int32) (s0 : Sg) : ∀ (l : Launch) (w : WC), Ok l w yJ0_checkBoundsBeginEnd_23922 cJ0_checkBoundsBeginEnd_23922 3 none 2 evV [.int v0, .int v1, .int v2] s0 (fJ0_checkBoundsBeginEnd_23922 v0 v1 v2 s0) := by
  refine ok_in (ev := fun _ => evV) (av := fun w => [.int v0, .int v1, .int v2]) "java/lang/String" rfl (by decide +kernel) (fun _ => rfl) (fun _ => Nat.le_of_ble_eq_true rfl) ?_
  intro C X E
  show GF C evV 0 [some (.int v0), some (.int v1), some (.int v2)] [] s0 (fJ0_checkBoundsBeginEnd_23922 v0 v1 v2 s0)
  unfold fJ0_checkBoundsBeginEnd_23922
  refine g_iload_n X dJ0_checkBoundsBeginEnd_23922_0 rfl ?_
  refine g_iload_n X dJ0_checkBoundsBeginEnd_23922_1 rfl ?_
  refine g_iload_n X dJ0_checkBoundsBeginEnd_23922_2 rfl ?_
  refine g_fmtS X fs_java_lang_String_1053 dJ0_checkBoundsBeginEnd_23922_3 ?_
  refine g_statI X [.int v0, .int v1, .int v2, va_rf C.w.fm] [] mm_J3_checkFromToIndex_8c36e ms_J3_checkFromToIndex_8c36e ml_java_lang_String_1062 (okJ3_checkFromToIndex_8c36e v0 v1 v2 s0 C.l C.w) rfl (by decide) rfl (Nat.le_of_ble_eq_true rfl) dJ0_checkBoundsBeginEnd_23922_6 (fun r2 s1 => ?_)
  refine g_pop X dJ0_checkBoundsBeginEnd_23922_9 rfl ?_
  exact g_vret X E dJ0_checkBoundsBeginEnd_23922_10
def yJ1_charAt_3b067 : MethodName := ⟨"java/lang/StringLatin1", "charAt", "([BI)C"⟩
abbrev cJ1_charAt_3b067 : ByteArray := prog_19_method_2_code
theorem dJ1_charAt_3b067_0 : decode cJ1_charAt_3b067 0 = .ok (.iload_n 1, 1) := by decide +kernel
theorem dJ1_charAt_3b067_1 : decode cJ1_charAt_3b067 1 = .ok (.aload_n 0, 1) := by decide +kernel
theorem dJ1_charAt_3b067_2 : decode cJ1_charAt_3b067 2 = .ok (.arraylength, 1) := by decide +kernel
theorem dJ1_charAt_3b067_3 : decode cJ1_charAt_3b067 3 = .ok (.invokestatic 9, 3) := by decide +kernel
theorem mm_J0_checkIndex_df160 : MMc yJ0_checkIndex_df160 cJ0_checkIndex_df160 2 none 2 := ⟨hz_in 872 (by decide +kernel) (by decide +kernel), hz_in 150 (by decide +kernel) (by decide +kernel), by decide +kernel, by decide⟩
theorem ms_J0_checkIndex_df160 : Cond.static yJ0_checkIndex_df160 ∈ hz_wt := hz_in 871 (by decide +kernel) (by decide +kernel)
theorem ml_java_lang_StringLatin1_9 : Cond.methodLink "java/lang/StringLatin1" 9 yJ0_checkIndex_df160 ∈ hz_wt := hz_in 870 (by decide +kernel) (by decide +kernel)
theorem dJ1_charAt_3b067_6 : decode cJ1_charAt_3b067 6 = .ok (.aload_n 0, 1) := by decide +kernel
theorem dJ1_charAt_3b067_7 : decode cJ1_charAt_3b067 7 = .ok (.iload_n 1, 1) := by decide +kernel
theorem dJ1_charAt_3b067_8 : decode cJ1_charAt_3b067 8 = .ok (.baload, 1) := by decide +kernel
theorem dJ1_charAt_3b067_9 : decode cJ1_charAt_3b067 9 = .ok (.sipush 255, 3) := by decide +kernel
theorem dJ1_charAt_3b067_12 : decode cJ1_charAt_3b067 12 = .ok (.iand, 1) := by decide +kernel
theorem dJ1_charAt_3b067_13 : decode cJ1_charAt_3b067 13 = .ok (.i2c, 1) := by decide +kernel
theorem dJ1_charAt_3b067_14 : decode cJ1_charAt_3b067 14 = .ok (.ireturn, 1) := by decide +kernel
def fJ1_charAt_3b067 (o0 : Nat) (v1 : Int32) (s0 : Sg) : Option (Int32 × Sg) := bv (fJ0_checkIndex_df160 v1 (nI (lenJS.getD o0 0)) s0) fun s1 => gd v1 (lenJS.getD o0 0) (gch (chr ((sbt o0 v1) &&& 255)) (some ((chr ((sbt o0 v1) &&& 255)), s1)))
set_option maxHeartbeats 4000000 in
set_option maxRecDepth 100000 in
theorem okJ1_charAt_3b067 (o0 : Nat) (v1 : Int32) (s0 : Sg) (h0 : o0 < nJS) : ∀ (l : Launch) (w : WC), Ok l w yJ1_charAt_3b067 cJ1_charAt_3b067 2 (some .char) 3 evI [.ref (w.aV o0), .int v1] s0 (fJ1_charAt_3b067 o0 v1 s0) := by
  refine ok_in (ev := fun _ => evI) (av := fun w => [.ref (w.aV o0), .int v1]) "java/lang/StringLatin1" rfl (by decide +kernel) (fun _ => rfl) (fun _ => Nat.le_of_ble_eq_true rfl) ?_
  intro C X E
  show GF C evI 0 [some (.ref (C.w.aV o0)), some (.int v1)] [] s0 (fJ1_charAt_3b067 o0 v1 s0)
  unfold fJ1_charAt_3b067
  refine g_iload_n X dJ1_charAt_3b067_0 rfl ?_
  refine g_aload_n X dJ1_charAt_3b067_1 rfl ?_
  refine g_blen X h0 dJ1_charAt_3b067_2 ?_
  refine g_statV X [.int v1, .int (nI (lenJS.getD o0 0))] [] mm_J0_checkIndex_df160 ms_J0_checkIndex_df160 ml_java_lang_StringLatin1_9 (okJ0_checkIndex_df160 v1 (nI (lenJS.getD o0 0)) s0 C.l C.w) rfl (by decide) rfl (Nat.le_of_ble_eq_true rfl) dJ1_charAt_3b067_3 (fun s1 => ?_)
  refine g_aload_n X dJ1_charAt_3b067_6 rfl ?_
  refine g_iload_n X dJ1_charAt_3b067_7 rfl ?_
  refine g_bald X h0 dJ1_charAt_3b067_8 ?_
  refine g_sipush X 255 dJ1_charAt_3b067_9 (by decide) ?_
  refine g_iand X dJ1_charAt_3b067_12 ?_
  refine g_i2c X dJ1_charAt_3b067_13 ?_
  exact g_cret X E dJ1_charAt_3b067_14
def yJ1_indexOf_4cfef : MethodName := ⟨"java/lang/StringLatin1", "indexOf", "([BIII)I"⟩
abbrev cJ1_indexOf_4cfef : ByteArray := prog_19_method_22_code
theorem dJ1_indexOf_4cfef_0 : decode cJ1_indexOf_4cfef 0 = .ok (.iload_n 1, 1) := by decide +kernel
theorem dJ1_indexOf_4cfef_1 : decode cJ1_indexOf_4cfef 1 = .ok (.invokestatic 88, 3) := by decide +kernel
theorem mm_J1_canEncode_9a6ad : MMc yJ1_canEncode_9a6ad cJ1_canEncode_9a6ad 1 (some .boolean) 1 := ⟨hz_in 934 (by decide +kernel) (by decide +kernel), hz_in 151 (by decide +kernel) (by decide +kernel), by decide +kernel, by decide⟩
theorem ms_J1_canEncode_9a6ad : Cond.static yJ1_canEncode_9a6ad ∈ hz_wt := hz_in 933 (by decide +kernel) (by decide +kernel)
theorem ml_java_lang_StringLatin1_88 : Cond.methodLink "java/lang/StringLatin1" 88 yJ1_canEncode_9a6ad ∈ hz_wt := hz_in 932 (by decide +kernel) (by decide +kernel)
theorem dJ1_indexOf_4cfef_4 : decode cJ1_indexOf_4cfef 4 = .ok (.ifCond .ne 5, 3) := by decide +kernel
theorem dJ1_indexOf_4cfef_9 : decode cJ1_indexOf_4cfef 9 = .ok (.iload_n 2, 1) := by decide +kernel
theorem dJ1_indexOf_4cfef_10 : decode cJ1_indexOf_4cfef 10 = .ok (.iconst 0, 1) := by decide +kernel
theorem dJ1_indexOf_4cfef_11 : decode cJ1_indexOf_4cfef 11 = .ok (.invokestatic 92, 3) := by decide +kernel
theorem ml_java_lang_StringLatin1_92 : Cond.methodLink "java/lang/StringLatin1" 92 yJ9_max_7cf53 ∈ hz_wt := hz_in 935 (by decide +kernel) (by decide +kernel)
theorem dJ1_indexOf_4cfef_14 : decode cJ1_indexOf_4cfef 14 = .ok (.istore_n 2, 1) := by decide +kernel
theorem dJ1_indexOf_4cfef_15 : decode cJ1_indexOf_4cfef 15 = .ok (.iload_n 3, 1) := by decide +kernel
theorem dJ1_indexOf_4cfef_16 : decode cJ1_indexOf_4cfef 16 = .ok (.aload_n 0, 1) := by decide +kernel
theorem dJ1_indexOf_4cfef_17 : decode cJ1_indexOf_4cfef 17 = .ok (.arraylength, 1) := by decide +kernel
theorem dJ1_indexOf_4cfef_18 : decode cJ1_indexOf_4cfef 18 = .ok (.invokestatic 38, 3) := by decide +kernel
theorem ml_java_lang_StringLatin1_38 : Cond.methodLink "java/lang/StringLatin1" 38 yJ9_min_7cf53 ∈ hz_wt := hz_in 936 (by decide +kernel) (by decide +kernel)
theorem dJ1_indexOf_4cfef_21 : decode cJ1_indexOf_4cfef 21 = .ok (.istore_n 3, 1) := by decide +kernel
theorem dJ1_indexOf_4cfef_22 : decode cJ1_indexOf_4cfef 22 = .ok (.iload_n 2, 1) := by decide +kernel
theorem dJ1_indexOf_4cfef_23 : decode cJ1_indexOf_4cfef 23 = .ok (.iload_n 3, 1) := by decide +kernel
theorem dJ1_indexOf_4cfef_24 : decode cJ1_indexOf_4cfef 24 = .ok (.if_icmp .lt 5, 3) := by decide +kernel
theorem dJ1_indexOf_4cfef_29 : decode cJ1_indexOf_4cfef 29 = .ok (.aload_n 0, 1) := by decide +kernel
theorem dJ1_indexOf_4cfef_30 : decode cJ1_indexOf_4cfef 30 = .ok (.iload_n 1, 1) := by decide +kernel
theorem dJ1_indexOf_4cfef_31 : decode cJ1_indexOf_4cfef 31 = .ok (.iload_n 2, 1) := by decide +kernel
theorem dJ1_indexOf_4cfef_32 : decode cJ1_indexOf_4cfef 32 = .ok (.iload_n 3, 1) := by decide +kernel
theorem dJ1_indexOf_4cfef_33 : decode cJ1_indexOf_4cfef 33 = .ok (.invokestatic 95, 3) := by decide +kernel
theorem mm_J1_indexOfChar_4cfef : MMc yJ1_indexOfChar_4cfef cJ1_indexOfChar_4cfef 6 (some .int) 4 := ⟨hz_in 939 (by decide +kernel) (by decide +kernel), hz_in 151 (by decide +kernel) (by decide +kernel), by decide +kernel, by decide⟩
theorem ms_J1_indexOfChar_4cfef : Cond.static yJ1_indexOfChar_4cfef ∈ hz_wt := hz_in 938 (by decide +kernel) (by decide +kernel)
theorem ml_java_lang_StringLatin1_95 : Cond.methodLink "java/lang/StringLatin1" 95 yJ1_indexOfChar_4cfef ∈ hz_wt := hz_in 937 (by decide +kernel) (by decide +kernel)
theorem dJ1_indexOf_4cfef_36 : decode cJ1_indexOf_4cfef 36 = .ok (.ireturn, 1) := by decide +kernel
theorem dJ1_indexOf_4cfef_27 : decode cJ1_indexOf_4cfef 27 = .ok (.iconst (-1), 1) := by decide +kernel
theorem dJ1_indexOf_4cfef_28 : decode cJ1_indexOf_4cfef 28 = .ok (.ireturn, 1) := by decide +kernel
theorem dJ1_indexOf_4cfef_7 : decode cJ1_indexOf_4cfef 7 = .ok (.iconst (-1), 1) := by decide +kernel
theorem dJ1_indexOf_4cfef_8 : decode cJ1_indexOf_4cfef 8 = .ok (.ireturn, 1) := by decide +kernel
def fJ1_indexOf_4cfef (o0 : Nat) (v1 : Int32) (v2 : Int32) (v3 : Int32) (s0 : Sg) : Option (Int32 × Sg) := bi (fJ1_canEncode_9a6ad v1 s0) fun r2 s1 => if r2 = 0 then (some ((-1), s1)) else (bi (fJ9_max_7cf53 v2 0 s1) fun r4 s3 => bi (fJ9_min_7cf53 v3 (nI (lenJS.getD o0 0)) s3) fun r6 s5 => if r4 < r6 then (bi (fJ1_indexOfChar_4cfef o0 v1 r4 r6 s5) fun r8 s7 => some (r8, s7)) else (some ((-1), s5)))
set_option maxHeartbeats 4000000 in
set_option maxRecDepth 100000 in
theorem okJ1_indexOf_4cfef (o0 : Nat) (v1 : Int32) (v2 : Int32) (v3 : Int32) (s0 : Sg) (h0 : o0 < nJS) : ∀ (l : Launch) (w : WC), Ok l w yJ1_indexOf_4cfef cJ1_indexOf_4cfef 4 (some .int) 2 evI [.ref (w.aV o0), .int v1, .int v2, .int v3] s0 (fJ1_indexOf_4cfef o0 v1 v2 v3 s0) := by
  refine ok_in (ev := fun _ => evI) (av := fun w => [.ref (w.aV o0), .int v1, .int v2, .int v3]) "java/lang/StringLatin1" rfl (by decide +kernel) (fun _ => rfl) (fun _ => Nat.le_of_ble_eq_true rfl) ?_
  intro C X E
  show GF C evI 0 [some (.ref (C.w.aV o0)), some (.int v1), some (.int v2), some (.int v3)] [] s0 (fJ1_indexOf_4cfef o0 v1 v2 v3 s0)
  unfold fJ1_indexOf_4cfef
  refine g_iload_n X dJ1_indexOf_4cfef_0 rfl ?_
  refine g_statI X [.int v1] [] mm_J1_canEncode_9a6ad ms_J1_canEncode_9a6ad ml_java_lang_StringLatin1_88 (okJ1_canEncode_9a6ad v1 s0 C.l C.w) rfl (by decide) rfl (Nat.le_of_ble_eq_true rfl) dJ1_indexOf_4cfef_1 (fun r2 s1 => ?_)
  refine g_zne X (tgt := 9) dJ1_indexOf_4cfef_4 (by decide) ?_ ?_
  · refine g_iconst X (-1) dJ1_indexOf_4cfef_7 (by decide) ?_
    exact g_iret X E dJ1_indexOf_4cfef_8
  · refine g_iload_n X dJ1_indexOf_4cfef_9 rfl ?_
    refine g_iconst X 0 dJ1_indexOf_4cfef_10 (by decide) ?_
    refine g_statI X [.int v2, .int 0] [] mm_J9_max_7cf53 ms_J9_max_7cf53 ml_java_lang_StringLatin1_92 (okJ9_max_7cf53 v2 0 s1 C.l C.w) rfl (by decide) rfl (Nat.le_of_ble_eq_true rfl) dJ1_indexOf_4cfef_11 (fun r4 s3 => ?_)
    refine g_istore_n X [some (.ref (C.w.aV o0)), some (.int v1), some (.int r4), some (.int v3)] dJ1_indexOf_4cfef_14 (by decide) (Nat.le_of_ble_eq_true rfl) rfl ?_
    refine g_iload_n X dJ1_indexOf_4cfef_15 rfl ?_
    refine g_aload_n X dJ1_indexOf_4cfef_16 rfl ?_
    refine g_blen X h0 dJ1_indexOf_4cfef_17 ?_
    refine g_statI X [.int v3, .int (nI (lenJS.getD o0 0))] [] mm_J9_min_7cf53 ms_J9_min_7cf53 ml_java_lang_StringLatin1_38 (okJ9_min_7cf53 v3 (nI (lenJS.getD o0 0)) s3 C.l C.w) rfl (by decide) rfl (Nat.le_of_ble_eq_true rfl) dJ1_indexOf_4cfef_18 (fun r6 s5 => ?_)
    refine g_istore_n X [some (.ref (C.w.aV o0)), some (.int v1), some (.int r4), some (.int r6)] dJ1_indexOf_4cfef_21 (by decide) (Nat.le_of_ble_eq_true rfl) rfl ?_
    refine g_iload_n X dJ1_indexOf_4cfef_22 rfl ?_
    refine g_iload_n X dJ1_indexOf_4cfef_23 rfl ?_
    refine g_clt X (tgt := 29) dJ1_indexOf_4cfef_24 (by decide) ?_ ?_
    · refine g_aload_n X dJ1_indexOf_4cfef_29 rfl ?_
      refine g_iload_n X dJ1_indexOf_4cfef_30 rfl ?_
      refine g_iload_n X dJ1_indexOf_4cfef_31 rfl ?_
      refine g_iload_n X dJ1_indexOf_4cfef_32 rfl ?_
      refine g_statI X [.ref (C.w.aV o0), .int v1, .int r4, .int r6] [] mm_J1_indexOfChar_4cfef ms_J1_indexOfChar_4cfef ml_java_lang_StringLatin1_95 (okJ1_indexOfChar_4cfef o0 v1 r4 r6 s5 h0 C.l C.w) rfl (by decide) rfl (Nat.le_of_ble_eq_true rfl) dJ1_indexOf_4cfef_33 (fun r8 s7 => ?_)
      exact g_iret X E dJ1_indexOf_4cfef_36
    · refine g_iconst X (-1) dJ1_indexOf_4cfef_27 (by decide) ?_
      exact g_iret X E dJ1_indexOf_4cfef_28
def yJ2_checkIndex_2214a : MethodName := ⟨"java/lang/StringUTF16", "checkIndex", "(I[B)V"⟩
abbrev cJ2_checkIndex_2214a : ByteArray := prog_20_method_91_code
theorem dJ2_checkIndex_2214a_0 : decode cJ2_checkIndex_2214a 0 = .ok (.iload_n 0, 1) := by decide +kernel
theorem dJ2_checkIndex_2214a_1 : decode cJ2_checkIndex_2214a 1 = .ok (.aload_n 1, 1) := by decide +kernel
theorem dJ2_checkIndex_2214a_2 : decode cJ2_checkIndex_2214a 2 = .ok (.invokestatic 48, 3) := by decide +kernel
theorem mm_J2_length_9d52b : MMc yJ2_length_9d52b cJ2_length_9d52b 1 (some .int) 1 := ⟨hz_in 886 (by decide +kernel) (by decide +kernel), hz_in 153 (by decide +kernel) (by decide +kernel), by decide +kernel, by decide⟩
theorem ms_J2_length_9d52b : Cond.static yJ2_length_9d52b ∈ hz_wt := hz_in 885 (by decide +kernel) (by decide +kernel)
theorem ml_java_lang_StringUTF16_48 : Cond.methodLink "java/lang/StringUTF16" 48 yJ2_length_9d52b ∈ hz_wt := hz_in 884 (by decide +kernel) (by decide +kernel)
theorem dJ2_checkIndex_2214a_5 : decode cJ2_checkIndex_2214a 5 = .ok (.invokestatic 414, 3) := by decide +kernel
theorem ml_java_lang_StringUTF16_414 : Cond.methodLink "java/lang/StringUTF16" 414 yJ0_checkIndex_df160 ∈ hz_wt := hz_in 887 (by decide +kernel) (by decide +kernel)
theorem dJ2_checkIndex_2214a_8 : decode cJ2_checkIndex_2214a 8 = .ok (.return_, 1) := by decide +kernel
def fJ2_checkIndex_2214a (v0 : Int32) (o1 : Nat) (s0 : Sg) : Option (Sg) := bi (fJ2_length_9d52b o1 s0) fun r2 s1 => bv (fJ0_checkIndex_df160 v0 r2 s1) fun s3 => some s3
set_option maxHeartbeats 4000000 in
set_option maxRecDepth 100000 in
theorem okJ2_checkIndex_2214a (v0 : Int32) (o1 : Nat) (s0 : Sg) (h1 : o1 < nJS) : ∀ (l : Launch) (w : WC), Ok l w yJ2_checkIndex_2214a cJ2_checkIndex_2214a 2 none 3 evV [.int v0, .ref (w.aV o1)] s0 (fJ2_checkIndex_2214a v0 o1 s0) := by
  refine ok_in (ev := fun _ => evV) (av := fun w => [.int v0, .ref (w.aV o1)]) "java/lang/StringUTF16" rfl (by decide +kernel) (fun _ => rfl) (fun _ => Nat.le_of_ble_eq_true rfl) ?_
  intro C X E
  show GF C evV 0 [some (.int v0), some (.ref (C.w.aV o1))] [] s0 (fJ2_checkIndex_2214a v0 o1 s0)
  unfold fJ2_checkIndex_2214a
  refine g_iload_n X dJ2_checkIndex_2214a_0 rfl ?_
  refine g_aload_n X dJ2_checkIndex_2214a_1 rfl ?_
  refine g_statI X [.ref (C.w.aV o1)] [.int v0] mm_J2_length_9d52b ms_J2_length_9d52b ml_java_lang_StringUTF16_48 (okJ2_length_9d52b o1 s0 h1 C.l C.w) rfl (by decide) rfl (Nat.le_of_ble_eq_true rfl) dJ2_checkIndex_2214a_2 (fun r2 s1 => ?_)
  refine g_statV X [.int v0, .int r2] [] mm_J0_checkIndex_df160 ms_J0_checkIndex_df160 ml_java_lang_StringUTF16_414 (okJ0_checkIndex_df160 v0 r2 s1 C.l C.w) rfl (by decide) rfl (Nat.le_of_ble_eq_true rfl) dJ2_checkIndex_2214a_5 (fun s3 => ?_)
  exact g_vret X E dJ2_checkIndex_2214a_8
def yJ2_checkBoundsBeginEnd_d044e : MethodName := ⟨"java/lang/StringUTF16", "checkBoundsBeginEnd", "(II[B)V"⟩
abbrev cJ2_checkBoundsBeginEnd_d044e : ByteArray := prog_20_method_93_code
theorem dJ2_checkBoundsBeginEnd_d044e_0 : decode cJ2_checkBoundsBeginEnd_d044e 0 = .ok (.iload_n 0, 1) := by decide +kernel
theorem dJ2_checkBoundsBeginEnd_d044e_1 : decode cJ2_checkBoundsBeginEnd_d044e 1 = .ok (.iload_n 1, 1) := by decide +kernel
theorem dJ2_checkBoundsBeginEnd_d044e_2 : decode cJ2_checkBoundsBeginEnd_d044e 2 = .ok (.aload_n 2, 1) := by decide +kernel
theorem dJ2_checkBoundsBeginEnd_d044e_3 : decode cJ2_checkBoundsBeginEnd_d044e 3 = .ok (.invokestatic 48, 3) := by decide +kernel
theorem dJ2_checkBoundsBeginEnd_d044e_6 : decode cJ2_checkBoundsBeginEnd_d044e 6 = .ok (.invokestatic 241, 3) := by decide +kernel
theorem mm_J0_checkBoundsBeginEnd_23922 : MMc yJ0_checkBoundsBeginEnd_23922 cJ0_checkBoundsBeginEnd_23922 3 none 3 := ⟨hz_in 954 (by decide +kernel) (by decide +kernel), hz_in 150 (by decide +kernel) (by decide +kernel), by decide +kernel, by decide⟩
theorem ms_J0_checkBoundsBeginEnd_23922 : Cond.static yJ0_checkBoundsBeginEnd_23922 ∈ hz_wt := hz_in 953 (by decide +kernel) (by decide +kernel)
theorem ml_java_lang_StringUTF16_241 : Cond.methodLink "java/lang/StringUTF16" 241 yJ0_checkBoundsBeginEnd_23922 ∈ hz_wt := hz_in 952 (by decide +kernel) (by decide +kernel)
theorem dJ2_checkBoundsBeginEnd_d044e_9 : decode cJ2_checkBoundsBeginEnd_d044e 9 = .ok (.return_, 1) := by decide +kernel
def fJ2_checkBoundsBeginEnd_d044e (v0 : Int32) (v1 : Int32) (o2 : Nat) (s0 : Sg) : Option (Sg) := bi (fJ2_length_9d52b o2 s0) fun r2 s1 => bv (fJ0_checkBoundsBeginEnd_23922 v0 v1 r2 s1) fun s3 => some s3
set_option maxHeartbeats 4000000 in
set_option maxRecDepth 100000 in
theorem okJ2_checkBoundsBeginEnd_d044e (v0 : Int32) (v1 : Int32) (o2 : Nat) (s0 : Sg) (h2 : o2 < nJS) : ∀ (l : Launch) (w : WC), Ok l w yJ2_checkBoundsBeginEnd_d044e cJ2_checkBoundsBeginEnd_d044e 3 none 3 evV [.int v0, .int v1, .ref (w.aV o2)] s0 (fJ2_checkBoundsBeginEnd_d044e v0 v1 o2 s0) := by
  refine ok_in (ev := fun _ => evV) (av := fun w => [.int v0, .int v1, .ref (w.aV o2)]) "java/lang/StringUTF16" rfl (by decide +kernel) (fun _ => rfl) (fun _ => Nat.le_of_ble_eq_true rfl) ?_
  intro C X E
  show GF C evV 0 [some (.int v0), some (.int v1), some (.ref (C.w.aV o2))] [] s0 (fJ2_checkBoundsBeginEnd_d044e v0 v1 o2 s0)
  unfold fJ2_checkBoundsBeginEnd_d044e
  refine g_iload_n X dJ2_checkBoundsBeginEnd_d044e_0 rfl ?_
  refine g_iload_n X dJ2_checkBoundsBeginEnd_d044e_1 rfl ?_
  refine g_aload_n X dJ2_checkBoundsBeginEnd_d044e_2 rfl ?_
  refine g_statI X [.ref (C.w.aV o2)] [.int v1, .int v0] mm_J2_length_9d52b ms_J2_length_9d52b ml_java_lang_StringUTF16_48 (okJ2_length_9d52b o2 s0 h2 C.l C.w) rfl (by decide) rfl (Nat.le_of_ble_eq_true rfl) dJ2_checkBoundsBeginEnd_d044e_3 (fun r2 s1 => ?_)
  refine g_statV X [.int v0, .int v1, .int r2] [] mm_J0_checkBoundsBeginEnd_23922 ms_J0_checkBoundsBeginEnd_23922 ml_java_lang_StringUTF16_241 (okJ0_checkBoundsBeginEnd_23922 v0 v1 r2 s1 C.l C.w) rfl (by decide) rfl (Nat.le_of_ble_eq_true rfl) dJ2_checkBoundsBeginEnd_d044e_6 (fun s3 => ?_)
  exact g_vret X E dJ2_checkBoundsBeginEnd_d044e_9
def yLa_become : MethodName := ⟨"LastWordHill$Law", "become", "(LLastWordHill$Law;)V"⟩
abbrev cLa_become : ByteArray := prog_3_method_3_code
theorem dLa_become_0 : decode cLa_become 0 = .ok (.aload_n 0, 1) := by decide +kernel
theorem dLa_become_1 : decode cLa_become 1 = .ok (.getfield 14, 3) := by decide +kernel
theorem dLa_become_4 : decode cLa_become 4 = .ok (.aload_n 1, 1) := by decide +kernel
theorem dLa_become_5 : decode cLa_become 5 = .ok (.getfield 14, 3) := by decide +kernel
theorem dLa_become_8 : decode cLa_become 8 = .ok (.invokevirtual 35, 3) := by decide +kernel
theorem ml_La_35 : Cond.methodLink "LastWordHill$Law" 35 yTa_become ∈ hz_wt := hz_in 1077 (by decide +kernel) (by decide +kernel)
theorem dLa_become_11 : decode cLa_become 11 = .ok (.aload_n 1, 1) := by decide +kernel
theorem dLa_become_12 : decode cLa_become 12 = .ok (.getfield 20, 3) := by decide +kernel
theorem dLa_become_15 : decode cLa_become 15 = .ok (.iconst 0, 1) := by decide +kernel
theorem dLa_become_16 : decode cLa_become 16 = .ok (.aload_n 0, 1) := by decide +kernel
theorem dLa_become_17 : decode cLa_become 17 = .ok (.getfield 20, 3) := by decide +kernel
theorem dLa_become_20 : decode cLa_become 20 = .ok (.iconst 0, 1) := by decide +kernel
theorem dLa_become_21 : decode cLa_become 21 = .ok (.sipush 400, 3) := by decide +kernel
theorem dLa_become_24 : decode cLa_become 24 = .ok (.invokestatic 39, 3) := by decide +kernel
theorem ml_La_39 : Cond.methodLink "LastWordHill$Law" 39 arraycopyName ∈ hz_wt := hz_in 1083 (by decide +kernel) (by decide +kernel)
theorem dLa_become_27 : decode cLa_become 27 = .ok (.aload_n 0, 1) := by decide +kernel
theorem dLa_become_28 : decode cLa_become 28 = .ok (.aload_n 1, 1) := by decide +kernel
theorem dLa_become_29 : decode cLa_become 29 = .ok (.getfield 31, 3) := by decide +kernel
theorem dLa_become_32 : decode cLa_become 32 = .ok (.putfield 31, 3) := by decide +kernel
theorem dLa_become_35 : decode cLa_become 35 = .ok (.return_, 1) := by decide +kernel
def fLa_become (o0 : Nat) (o1 : Nat) (s0 : Sg) : Option (Sg) := bv (fTa_become (hz_rf o0 0) (hz_rf o1 0) s0) fun s1 => bv (cpy s1 (hz_rf o1 1) 400 0 (hz_rf o0 1) 400 0 400) fun s2 => bnd (pt s2 o0 3 (s2 o1 3)) fun s3 => some s3
set_option maxHeartbeats 4000000 in
set_option maxRecDepth 100000 in
theorem okLa_become (o0 : Nat) (o1 : Nat) (s0 : Sg) (h0 : hz_kd o0 = 1) (h1 : hz_kd o1 = 1) : ∀ (l : Launch) (w : WC), Ok l w yLa_become cLa_become 2 none 3 evV [.ref (w.ad o0), .ref (w.ad o1)] s0 (fLa_become o0 o1 s0) := by
  refine ok_in (ev := fun _ => evV) (av := fun w => [.ref (w.ad o0), .ref (w.ad o1)]) "LastWordHill$Law" rfl (by decide +kernel) (fun _ => rfl) (fun _ => Nat.le_of_ble_eq_true rfl) ?_
  intro C X E
  show GF C evV 0 [some (.ref (C.w.ad o0)), some (.ref (C.w.ad o1))] [] s0 (fLa_become o0 o1 s0)
  unfold fLa_become
  refine g_aload_n X dLa_become_0 rfl ?_
  refine g_getR X fl_La_14 fb_1_0 h0 dLa_become_1 ?_
  refine g_aload_n X dLa_become_4 rfl ?_
  refine g_getR X fl_La_14 fb_1_0 h1 dLa_become_5 ?_
  refine g_virtV X [.ref (C.w.ad (hz_rf o1 0))] [] (sk_1_0 h0) mm_Ta_become mv_Ta_become ml_La_35 (okTa_become (hz_rf o0 0) (hz_rf o1 0) s0 (sk_1_0 h0) (sk_1_0 h1) C.l C.w) rfl (by decide) rfl (Nat.le_of_ble_eq_true rfl) dLa_become_8 (fun s1 => ?_)
  refine g_aload_n X dLa_become_11 rfl ?_
  refine g_getR X fl_La_20 fb_1_1 h1 dLa_become_12 ?_
  refine g_iconst X 0 dLa_become_15 (by decide) ?_
  refine g_aload_n X dLa_become_16 rfl ?_
  refine g_getR X fl_La_20 fb_1_1 h0 dLa_become_17 ?_
  refine g_iconst X 0 dLa_become_20 (by decide) ?_
  refine g_sipush X 400 dLa_become_21 (by decide) ?_
  refine g_acopy X (sk_1_1 h1) (sl_1_1 h1) (sk_1_1 h0) (sl_1_1 h0) ml_La_39 dLa_become_24 (by decide) (Nat.le_of_ble_eq_true rfl) (fun s2 => ?_)
  refine g_aload_n X dLa_become_27 rfl ?_
  refine g_aload_n X dLa_become_28 rfl ?_
  refine g_getI X fl_La_31 fb_1_3 h1 dLa_become_29 ?_
  refine g_putI X fl_La_31 fb_1_3 fp_1_3 h0 dLa_become_32 (fun s3 => ?_)
  exact g_vret X E dLa_become_35
def yLa_value : MethodName := ⟨"LastWordHill$Law", "value", "(IILLastWordHill$Scene;I)I"⟩
abbrev cLa_value : ByteArray := prog_3_method_7_code
theorem dLa_value_0 : decode cLa_value 0 = .ok (.iload_n 2, 1) := by decide +kernel
theorem dLa_value_1 : decode cLa_value 1 = .ok (.aload_n 0, 1) := by decide +kernel
theorem dLa_value_2 : decode cLa_value 2 = .ok (.getfield 31, 3) := by decide +kernel
theorem dLa_value_5 : decode cLa_value 5 = .ok (.invokestatic 56, 3) := by decide +kernel
theorem ml_La_56 : Cond.methodLink "LastWordHill$Law" 56 yJ9_min_7cf53 ∈ hz_wt := hz_in 741 (by decide +kernel) (by decide +kernel)
theorem dLa_value_8 : decode cLa_value 8 = .ok (.istore 5, 2) := by decide +kernel
theorem dLa_value_10 : decode cLa_value 10 = .ok (.iconst 0, 1) := by decide +kernel
theorem dLa_value_11 : decode cLa_value 11 = .ok (.istore 6, 2) := by decide +kernel
theorem dLa_value_13 : decode cLa_value 13 = .ok (.iconst 0, 1) := by decide +kernel
theorem dLa_value_14 : decode cLa_value 14 = .ok (.iload_n 1, 1) := by decide +kernel
theorem dLa_value_15 : decode cLa_value 15 = .ok (.invokestatic 61, 3) := by decide +kernel
theorem ml_La_61 : Cond.methodLink "LastWordHill$Law" 61 yJ9_max_7cf53 ∈ hz_wt := hz_in 742 (by decide +kernel) (by decide +kernel)
theorem dLa_value_18 : decode cLa_value 18 = .ok (.istore 7, 2) := by decide +kernel
theorem dLa_value_20 : decode cLa_value 20 = .ok (.iload 7, 2) := by decide +kernel
theorem dLa_value_22 : decode cLa_value 22 = .ok (.iload 5, 2) := by decide +kernel
theorem dLa_value_24 : decode cLa_value 24 = .ok (.if_icmp .ge 201, 3) := by decide +kernel
theorem dLa_value_225 : decode cLa_value 225 = .ok (.iload 6, 2) := by decide +kernel
theorem dLa_value_227 : decode cLa_value 227 = .ok (.ifCond .le 15, 3) := by decide +kernel
theorem dLa_value_242 : decode cLa_value 242 = .ok (.iconst 0, 1) := by decide +kernel
theorem dLa_value_243 : decode cLa_value 243 = .ok (.ireturn, 1) := by decide +kernel
theorem dLa_value_230 : decode cLa_value 230 = .ok (.aload_n 0, 1) := by decide +kernel
theorem dLa_value_231 : decode cLa_value 231 = .ok (.getfield 24, 3) := by decide +kernel
theorem fl_La_24 : FLk "LastWordHill$Law" 24 1 2 := ⟨_, _, _, rfl, by decide, hz_in 295 (by decide +kernel) (by decide +kernel), nL1, by decide, by decide⟩
theorem fb_1_2 : (hz_bs 1)[2]? = some true := by decide
theorem dLa_value_234 : decode cLa_value 234 = .ok (.iload 6, 2) := by decide +kernel
theorem dLa_value_236 : decode cLa_value 236 = .ok (.iconst 1, 1) := by decide +kernel
theorem dLa_value_237 : decode cLa_value 237 = .ok (.isub, 1) := by decide +kernel
theorem dLa_value_238 : decode cLa_value 238 = .ok (.iaload, 1) := by decide +kernel
theorem dLa_value_239 : decode cLa_value 239 = .ok (.goto 4, 3) := by decide +kernel
theorem dLa_value_27 : decode cLa_value 27 = .ok (.aload_n 0, 1) := by decide +kernel
theorem dLa_value_28 : decode cLa_value 28 = .ok (.getfield 20, 3) := by decide +kernel
theorem dLa_value_31 : decode cLa_value 31 = .ok (.iload 7, 2) := by decide +kernel
theorem dLa_value_33 : decode cLa_value 33 = .ok (.iaload, 1) := by decide +kernel
theorem dLa_value_34 : decode cLa_value 34 = .ok (.istore 8, 2) := by decide +kernel
theorem dLa_value_36 : decode cLa_value 36 = .ok (.iload 8, 2) := by decide +kernel
theorem dLa_value_38 : decode cLa_value 38 = .ok (.sipush 20000, 3) := by decide +kernel
theorem dLa_value_41 : decode cLa_value 41 = .ok (.if_icmp .ge 50, 3) := by decide +kernel
theorem dLa_value_219 : decode cLa_value 219 = .ok (.iinc 7 1, 3) := by decide +kernel
theorem dLa_value_222 : decode cLa_value 222 = .ok (.goto (-202), 3) := by decide +kernel
theorem dLa_value_91 : decode cLa_value 91 = .ok (.iload 8, 2) := by decide +kernel
theorem dLa_value_93 : decode cLa_value 93 = .ok (.sipush 20000, 3) := by decide +kernel
theorem dLa_value_96 : decode cLa_value 96 = .ok (.if_icmp .le 9, 3) := by decide +kernel
theorem dLa_value_105 : decode cLa_value 105 = .ok (.iconst 0, 1) := by decide +kernel
theorem dLa_value_106 : decode cLa_value 106 = .ok (.ireturn, 1) := by decide +kernel
theorem dLa_value_99 : decode cLa_value 99 = .ok (.iload 6, 2) := by decide +kernel
theorem dLa_value_101 : decode cLa_value 101 = .ok (.iconst 1, 1) := by decide +kernel
theorem dLa_value_102 : decode cLa_value 102 = .ok (.if_icmp .ge 5, 3) := by decide +kernel
theorem dLa_value_107 : decode cLa_value 107 = .ok (.iload 8, 2) := by decide +kernel
theorem dLa_value_109 : decode cLa_value 109 = .ok (.sipush 30000, 3) := by decide +kernel
theorem dLa_value_112 : decode cLa_value 112 = .ok (.if_icmp .ge 31, 3) := by decide +kernel
theorem dLa_value_143 : decode cLa_value 143 = .ok (.iload 8, 2) := by decide +kernel
theorem dLa_value_145 : decode cLa_value 145 = .ok (.sipush 30262, 3) := by decide +kernel
theorem dLa_value_148 : decode cLa_value 148 = .ok (.if_icmp .ne 26, 3) := by decide +kernel
theorem dLa_value_174 : decode cLa_value 174 = .ok (.iload 6, 2) := by decide +kernel
theorem dLa_value_176 : decode cLa_value 176 = .ok (.iconst 2, 1) := by decide +kernel
theorem dLa_value_177 : decode cLa_value 177 = .ok (.if_icmp .ge 5, 3) := by decide +kernel
theorem dLa_value_182 : decode cLa_value 182 = .ok (.iinc 6 (-1), 3) := by decide +kernel
theorem dLa_value_185 : decode cLa_value 185 = .ok (.aload_n 0, 1) := by decide +kernel
theorem dLa_value_186 : decode cLa_value 186 = .ok (.getfield 24, 3) := by decide +kernel
theorem dLa_value_189 : decode cLa_value 189 = .ok (.iload 6, 2) := by decide +kernel
theorem dLa_value_191 : decode cLa_value 191 = .ok (.iconst 1, 1) := by decide +kernel
theorem dLa_value_192 : decode cLa_value 192 = .ok (.isub, 1) := by decide +kernel
theorem dLa_value_193 : decode cLa_value 193 = .ok (.iload 8, 2) := by decide +kernel
theorem dLa_value_195 : decode cLa_value 195 = .ok (.sipush 30000, 3) := by decide +kernel
theorem dLa_value_198 : decode cLa_value 198 = .ok (.isub, 1) := by decide +kernel
theorem dLa_value_199 : decode cLa_value 199 = .ok (.aload_n 0, 1) := by decide +kernel
theorem dLa_value_200 : decode cLa_value 200 = .ok (.getfield 24, 3) := by decide +kernel
theorem dLa_value_203 : decode cLa_value 203 = .ok (.iload 6, 2) := by decide +kernel
theorem dLa_value_205 : decode cLa_value 205 = .ok (.iconst 1, 1) := by decide +kernel
theorem dLa_value_206 : decode cLa_value 206 = .ok (.isub, 1) := by decide +kernel
theorem dLa_value_207 : decode cLa_value 207 = .ok (.iaload, 1) := by decide +kernel
theorem dLa_value_208 : decode cLa_value 208 = .ok (.aload_n 0, 1) := by decide +kernel
theorem dLa_value_209 : decode cLa_value 209 = .ok (.getfield 24, 3) := by decide +kernel
theorem dLa_value_212 : decode cLa_value 212 = .ok (.iload 6, 2) := by decide +kernel
theorem dLa_value_214 : decode cLa_value 214 = .ok (.iaload, 1) := by decide +kernel
theorem dLa_value_215 : decode cLa_value 215 = .ok (.invokestatic 76, 3) := by decide +kernel
theorem mm_La_joined : MMc yLa_joined cLa_joined 3 (some .int) 3 := ⟨hz_in 753 (by decide +kernel) (by decide +kernel), hz_in 138 (by decide +kernel) (by decide +kernel), by decide +kernel, by decide⟩
theorem ms_La_joined : Cond.static yLa_joined ∈ hz_wt := hz_in 752 (by decide +kernel) (by decide +kernel)
theorem ml_La_76 : Cond.methodLink "LastWordHill$Law" 76 yLa_joined ∈ hz_wt := hz_in 751 (by decide +kernel) (by decide +kernel)
theorem dLa_value_218 : decode cLa_value 218 = .ok (.iastore, 1) := by decide +kernel
theorem dLa_value_180 : decode cLa_value 180 = .ok (.iconst 0, 1) := by decide +kernel
theorem dLa_value_181 : decode cLa_value 181 = .ok (.ireturn, 1) := by decide +kernel
theorem dLa_value_151 : decode cLa_value 151 = .ok (.aload_n 0, 1) := by decide +kernel
theorem dLa_value_152 : decode cLa_value 152 = .ok (.getfield 24, 3) := by decide +kernel
theorem dLa_value_155 : decode cLa_value 155 = .ok (.iload 6, 2) := by decide +kernel
theorem dLa_value_157 : decode cLa_value 157 = .ok (.iconst 1, 1) := by decide +kernel
theorem dLa_value_158 : decode cLa_value 158 = .ok (.isub, 1) := by decide +kernel
theorem dLa_value_159 : decode cLa_value 159 = .ok (.iconst 1, 1) := by decide +kernel
theorem dLa_value_160 : decode cLa_value 160 = .ok (.aload_n 0, 1) := by decide +kernel
theorem dLa_value_161 : decode cLa_value 161 = .ok (.getfield 24, 3) := by decide +kernel
theorem dLa_value_164 : decode cLa_value 164 = .ok (.iload 6, 2) := by decide +kernel
theorem dLa_value_166 : decode cLa_value 166 = .ok (.iconst 1, 1) := by decide +kernel
theorem dLa_value_167 : decode cLa_value 167 = .ok (.isub, 1) := by decide +kernel
theorem dLa_value_168 : decode cLa_value 168 = .ok (.iaload, 1) := by decide +kernel
theorem dLa_value_169 : decode cLa_value 169 = .ok (.isub, 1) := by decide +kernel
theorem dLa_value_170 : decode cLa_value 170 = .ok (.iastore, 1) := by decide +kernel
theorem dLa_value_171 : decode cLa_value 171 = .ok (.goto 48, 3) := by decide +kernel
theorem dLa_value_115 : decode cLa_value 115 = .ok (.aload_n 0, 1) := by decide +kernel
theorem dLa_value_116 : decode cLa_value 116 = .ok (.getfield 24, 3) := by decide +kernel
theorem dLa_value_119 : decode cLa_value 119 = .ok (.iload 6, 2) := by decide +kernel
theorem dLa_value_121 : decode cLa_value 121 = .ok (.iconst 1, 1) := by decide +kernel
theorem dLa_value_122 : decode cLa_value 122 = .ok (.isub, 1) := by decide +kernel
theorem dLa_value_123 : decode cLa_value 123 = .ok (.aload_n 0, 1) := by decide +kernel
theorem dLa_value_124 : decode cLa_value 124 = .ok (.getfield 24, 3) := by decide +kernel
theorem dLa_value_127 : decode cLa_value 127 = .ok (.iload 6, 2) := by decide +kernel
theorem dLa_value_129 : decode cLa_value 129 = .ok (.iconst 1, 1) := by decide +kernel
theorem dLa_value_130 : decode cLa_value 130 = .ok (.isub, 1) := by decide +kernel
theorem dLa_value_131 : decode cLa_value 131 = .ok (.iaload, 1) := by decide +kernel
theorem dLa_value_132 : decode cLa_value 132 = .ok (.iload 8, 2) := by decide +kernel
theorem dLa_value_134 : decode cLa_value 134 = .ok (.sipush 20000, 3) := by decide +kernel
theorem dLa_value_137 : decode cLa_value 137 = .ok (.isub, 1) := by decide +kernel
theorem dLa_value_138 : decode cLa_value 138 = .ok (.idiv, 1) := by decide +kernel
theorem dLa_value_139 : decode cLa_value 139 = .ok (.iastore, 1) := by decide +kernel
theorem dLa_value_140 : decode cLa_value 140 = .ok (.goto 79, 3) := by decide +kernel
theorem dLa_value_44 : decode cLa_value 44 = .ok (.iload 6, 2) := by decide +kernel
theorem dLa_value_46 : decode cLa_value 46 = .ok (.bipush 64, 2) := by decide +kernel
theorem dLa_value_48 : decode cLa_value 48 = .ok (.if_icmp .lt 5, 3) := by decide +kernel
theorem dLa_value_53 : decode cLa_value 53 = .ok (.aload_n 0, 1) := by decide +kernel
theorem dLa_value_54 : decode cLa_value 54 = .ok (.getfield 24, 3) := by decide +kernel
theorem dLa_value_57 : decode cLa_value 57 = .ok (.iload 6, 2) := by decide +kernel
theorem dLa_value_59 : decode cLa_value 59 = .ok (.iload 8, 2) := by decide +kernel
theorem dLa_value_61 : decode cLa_value 61 = .ok (.sipush 10000, 3) := by decide +kernel
theorem dLa_value_64 : decode cLa_value 64 = .ok (.if_icmp .ge 8, 3) := by decide +kernel
theorem dLa_value_84 : decode cLa_value 84 = .ok (.iastore, 1) := by decide +kernel
theorem dLa_value_85 : decode cLa_value 85 = .ok (.iinc 6 1, 3) := by decide +kernel
theorem dLa_value_88 : decode cLa_value 88 = .ok (.goto 131, 3) := by decide +kernel
theorem dLa_value_72 : decode cLa_value 72 = .ok (.aload_n 3, 1) := by decide +kernel
theorem dLa_value_73 : decode cLa_value 73 = .ok (.iload 8, 2) := by decide +kernel
theorem dLa_value_75 : decode cLa_value 75 = .ok (.sipush 10000, 3) := by decide +kernel
theorem dLa_value_78 : decode cLa_value 78 = .ok (.isub, 1) := by decide +kernel
theorem dLa_value_79 : decode cLa_value 79 = .ok (.iload 4, 2) := by decide +kernel
theorem dLa_value_81 : decode cLa_value 81 = .ok (.invokevirtual 71, 3) := by decide +kernel
theorem mm_Sc_meaning : MMc ySc_meaning cSc_meaning 3 (some .int) 2 := ⟨hz_in 746 (by decide +kernel) (by decide +kernel), hz_in 135 (by decide +kernel) (by decide +kernel), by decide +kernel, by decide⟩
theorem mv_Sc_meaning : MMv ySc_meaning 5 := ⟨hz_in 744 (by decide +kernel) (by decide +kernel), hz_in 745 (by decide +kernel) (by decide +kernel), _, _, rfl, by decide⟩
theorem ml_La_71 : Cond.methodLink "LastWordHill$Law" 71 ySc_meaning ∈ hz_wt := hz_in 743 (by decide +kernel) (by decide +kernel)
theorem dLa_value_67 : decode cLa_value 67 = .ok (.iload 8, 2) := by decide +kernel
theorem dLa_value_69 : decode cLa_value 69 = .ok (.goto 15, 3) := by decide +kernel
theorem dLa_value_51 : decode cLa_value 51 = .ok (.iconst 0, 1) := by decide +kernel
theorem dLa_value_52 : decode cLa_value 52 = .ok (.ireturn, 1) := by decide +kernel
def fLa_value (o0 : Nat) (v1 : Int32) (v2 : Int32) (o3 : Nat) (v4 : Int32) (s0 : Sg) : Option (Int32 × Sg) := bi (fJ9_min_7cf53 v2 (s0 o0 3) s0) fun r2 s1 => bi (fJ9_max_7cf53 0 v1 s1) fun r4 s3 => lp FU (fun q20 (u20 : Int32 × Int32) (s5 : Sg) => if r2 ≤ u20.2 then (if u20.1 ≤ 0 then (some (0, s5)) else (gd (u20.1 - 1) 64 (some ((s5 (hz_rf o0 2) (ix (u20.1 - 1))), s5)))) else (gd u20.2 400 (bnd (s5 (hz_rf o0 1) (ix u20.2)) fun x6 => bnd (fun (a219_6 : Int32) (s7 : Sg) => q20 (a219_6, (u20.2 + 1)) s7) fun j219 => if 20000 ≤ x6 then (if x6 ≤ 20000 then (some (0, s5)) else (if 1 ≤ u20.1 then (if 30000 ≤ x6 then (if x6 = 30262 then (gd (u20.1 - 1) 64 (gd (u20.1 - 1) 64 (bnd (pt s5 (hz_rf o0 2) (ix (u20.1 - 1)) (1 - (s5 (hz_rf o0 2) (ix (u20.1 - 1))))) fun s11 => j219 u20.1 s11))) else (if 2 ≤ u20.1 then (gd ((u20.1 + (-1)) - 1) 64 (gd (u20.1 + (-1)) 64 (bi (fLa_joined (x6 - 30000) (s5 (hz_rf o0 2) (ix ((u20.1 + (-1)) - 1))) (s5 (hz_rf o0 2) (ix (u20.1 + (-1)))) s5) fun r9 s8 => gd ((u20.1 + (-1)) - 1) 64 (bnd (pt s8 (hz_rf o0 2) (ix ((u20.1 + (-1)) - 1)) r9) fun s10 => j219 (u20.1 + (-1)) s10)))) else (some (0, s5)))) else (gd (u20.1 - 1) 64 (gz (x6 - 20000) (gd (u20.1 - 1) 64 (bnd (pt s5 (hz_rf o0 2) (ix (u20.1 - 1)) ((s5 (hz_rf o0 2) (ix (u20.1 - 1))) / (x6 - 20000))) fun s12 => j219 u20.1 s12))))) else (some (0, s5)))) else (if u20.1 < 64 then (bnd (fun (b84_0 : Int32) (s13 : Sg) => gd u20.1 64 (bnd (pt s13 (hz_rf o0 2) (ix u20.1) b84_0) fun s14 => j219 (u20.1 + 1) s14)) fun j84 => if 10000 ≤ x6 then (bi (fSc_meaning o3 (x6 - 10000) v4 s5) fun r16 s15 => j84 r16 s15) else (j84 x6 s5)) else (some (0, s5)))))) (0, r4) s3
set_option maxHeartbeats 4000000 in
set_option maxRecDepth 100000 in
theorem okLa_value (o0 : Nat) (v1 : Int32) (v2 : Int32) (o3 : Nat) (v4 : Int32) (s0 : Sg) (h0 : hz_kd o0 = 1) (h3 : hz_kd o3 = 5) : ∀ (l : Launch) (w : WC), Ok l w yLa_value cLa_value 9 (some .int) 3 evI [.ref (w.ad o0), .int v1, .int v2, .ref (w.ad o3), .int v4] s0 (fLa_value o0 v1 v2 o3 v4 s0) := by
  refine ok_in (ev := fun _ => evI) (av := fun w => [.ref (w.ad o0), .int v1, .int v2, .ref (w.ad o3), .int v4]) "LastWordHill$Law" rfl (by decide +kernel) (fun _ => rfl) (fun _ => Nat.le_of_ble_eq_true rfl) ?_
  intro C X E
  show GF C evI 0 [some (.ref (C.w.ad o0)), some (.int v1), some (.int v2), some (.ref (C.w.ad o3)), some (.int v4), none, none, none, none] [] s0 (fLa_value o0 v1 v2 o3 v4 s0)
  unfold fLa_value
  refine g_iload_n X dLa_value_0 rfl ?_
  refine g_aload_n X dLa_value_1 rfl ?_
  refine g_getI X fl_La_31 fb_1_3 h0 dLa_value_2 ?_
  refine g_statI X [.int v2, .int (s0 o0 3)] [] mm_J9_min_7cf53 ms_J9_min_7cf53 ml_La_56 (okJ9_min_7cf53 v2 (s0 o0 3) s0 C.l C.w) rfl (by decide) rfl (Nat.le_of_ble_eq_true rfl) dLa_value_5 (fun r2 s1 => ?_)
  refine g_istore X [some (.ref (C.w.ad o0)), some (.int v1), some (.int v2), some (.ref (C.w.ad o3)), some (.int v4), some (.int r2), none, none, none] dLa_value_8 (by decide) (Nat.le_of_ble_eq_true rfl) rfl ?_
  refine g_iconst X 0 dLa_value_10 (by decide) ?_
  refine g_istore X [some (.ref (C.w.ad o0)), some (.int v1), some (.int v2), some (.ref (C.w.ad o3)), some (.int v4), some (.int r2), some (.int 0), none, none] dLa_value_11 (by decide) (Nat.le_of_ble_eq_true rfl) rfl ?_
  refine g_iconst X 0 dLa_value_13 (by decide) ?_
  refine g_iload_n X dLa_value_14 rfl ?_
  refine g_statI X [.int 0, .int v1] [] mm_J9_max_7cf53 ms_J9_max_7cf53 ml_La_61 (okJ9_max_7cf53 0 v1 s1 C.l C.w) rfl (by decide) rfl (Nat.le_of_ble_eq_true rfl) dLa_value_15 (fun r4 s3 => ?_)
  refine g_istore X [some (.ref (C.w.ad o0)), some (.int v1), some (.int v2), some (.ref (C.w.ad o3)), some (.int v4), some (.int r2), some (.int 0), some (.int r4), none] dLa_value_18 (by decide) (Nat.le_of_ble_eq_true rfl) rfl ?_
  refine gf_sub (L' := [some (.ref (C.w.ad o0)), none, none, some (.ref (C.w.ad o3)), some (.int v4), some (.int r2), some (.int 0), some (.int r4), none]) ?_ (by simp [lsub])
  refine gf_lp (Lf := fun (u20 : Int32 × Int32) => [some (.ref (C.w.ad o0)), none, none, some (.ref (C.w.ad o3)), some (.int v4), some (.int r2), some (.int u20.1), some (.int u20.2), none]) (fun q20 hq20 u20 s5 => ?_) FU (0, r4) s3
  refine g_iload X dLa_value_20 rfl ?_
  refine g_iload X dLa_value_22 rfl ?_
  refine g_cge X (tgt := 225) dLa_value_24 (by decide) ?_ ?_
  · refine g_iload X dLa_value_225 rfl ?_
    refine g_zle X (tgt := 242) dLa_value_227 (by decide) ?_ ?_
    · refine g_iconst X 0 dLa_value_242 (by decide) ?_
      exact g_iret X E dLa_value_243
    · refine g_aload_n X dLa_value_230 rfl ?_
      refine g_getR X fl_La_24 fb_1_2 h0 dLa_value_231 ?_
      refine g_iload X dLa_value_234 rfl ?_
      refine g_iconst X 1 dLa_value_236 (by decide) ?_
      refine g_isub X dLa_value_237 ?_
      refine g_iald X (sk_1_2 h0) (sl_1_2 h0) dLa_value_238 ?_
      refine g_goto X 243 dLa_value_239 (by decide) ?_
      exact g_iret X E dLa_value_243
  · refine g_aload_n X dLa_value_27 rfl ?_
    refine g_getR X fl_La_20 fb_1_1 h0 dLa_value_28 ?_
    refine g_iload X dLa_value_31 rfl ?_
    refine g_iald X (sk_1_1 h0) (sl_1_1 h0) dLa_value_33 ?_
    refine gf_nm (fun x6 => ?_)
    refine g_istore X [some (.ref (C.w.ad o0)), none, none, some (.ref (C.w.ad o3)), some (.int v4), some (.int r2), some (.int u20.1), some (.int u20.2), some (.int x6)] dLa_value_34 (by decide) (Nat.le_of_ble_eq_true rfl) rfl ?_
    refine g_iload X dLa_value_36 rfl ?_
    refine g_sipush X 20000 dLa_value_38 (by decide) ?_
    refine gf_jn (fun j219 => ∀ (a219_6 : Int32) (s7 : Sg), GF C evI 219 [some (.ref (C.w.ad o0)), none, none, some (.ref (C.w.ad o3)), some (.int v4), some (.int r2), some (.int a219_6), some (.int u20.2), none] [] s7 (j219 a219_6 s7)) ?_ ?_
    · intro a219_6 s7
      refine g_iinc X (u20.2 + 1) [some (.ref (C.w.ad o0)), none, none, some (.ref (C.w.ad o3)), some (.int v4), some (.int r2), some (.int a219_6), some (.int (u20.2 + 1)), none] dLa_value_219 rfl rfl (by decide) rfl ?_
      refine g_goto X 20 dLa_value_222 (by decide) ?_
      exact gf_sub (hq20 (a219_6, (u20.2 + 1)) s7) (by simp [lsub])
    · intro j219 hj219
      refine g_cge X (tgt := 91) dLa_value_41 (by decide) ?_ ?_
      · refine g_iload X dLa_value_91 rfl ?_
        refine g_sipush X 20000 dLa_value_93 (by decide) ?_
        refine g_cle X (tgt := 105) dLa_value_96 (by decide) ?_ ?_
        · refine g_iconst X 0 dLa_value_105 (by decide) ?_
          exact g_iret X E dLa_value_106
        · refine g_iload X dLa_value_99 rfl ?_
          refine g_iconst X 1 dLa_value_101 (by decide) ?_
          refine g_cge X (tgt := 107) dLa_value_102 (by decide) ?_ ?_
          · refine g_iload X dLa_value_107 rfl ?_
            refine g_sipush X 30000 dLa_value_109 (by decide) ?_
            refine g_cge X (tgt := 143) dLa_value_112 (by decide) ?_ ?_
            · refine g_iload X dLa_value_143 rfl ?_
              refine g_sipush X 30262 dLa_value_145 (by decide) ?_
              refine g_cne X (tgt := 174) dLa_value_148 (by decide) ?_ ?_
              · refine g_aload_n X dLa_value_151 rfl ?_
                refine g_getR X fl_La_24 fb_1_2 h0 dLa_value_152 ?_
                refine g_iload X dLa_value_155 rfl ?_
                refine g_iconst X 1 dLa_value_157 (by decide) ?_
                refine g_isub X dLa_value_158 ?_
                refine g_iconst X 1 dLa_value_159 (by decide) ?_
                refine g_aload_n X dLa_value_160 rfl ?_
                refine g_getR X fl_La_24 fb_1_2 h0 dLa_value_161 ?_
                refine g_iload X dLa_value_164 rfl ?_
                refine g_iconst X 1 dLa_value_166 (by decide) ?_
                refine g_isub X dLa_value_167 ?_
                refine g_iald X (sk_1_2 h0) (sl_1_2 h0) dLa_value_168 ?_
                refine g_isub X dLa_value_169 ?_
                refine g_iast X (sk_1_2 h0) (sl_1_2 h0) dLa_value_170 (fun s11 => ?_)
                refine g_goto X 219 dLa_value_171 (by decide) ?_
                exact gf_sub (hj219 u20.1 s11) (by simp [lsub])
              · refine g_iload X dLa_value_174 rfl ?_
                refine g_iconst X 2 dLa_value_176 (by decide) ?_
                refine g_cge X (tgt := 182) dLa_value_177 (by decide) ?_ ?_
                · refine g_iinc X (u20.1 + (-1)) [some (.ref (C.w.ad o0)), none, none, some (.ref (C.w.ad o3)), some (.int v4), some (.int r2), some (.int (u20.1 + (-1))), some (.int u20.2), some (.int x6)] dLa_value_182 rfl rfl (by decide) rfl ?_
                  refine g_aload_n X dLa_value_185 rfl ?_
                  refine g_getR X fl_La_24 fb_1_2 h0 dLa_value_186 ?_
                  refine g_iload X dLa_value_189 rfl ?_
                  refine g_iconst X 1 dLa_value_191 (by decide) ?_
                  refine g_isub X dLa_value_192 ?_
                  refine g_iload X dLa_value_193 rfl ?_
                  refine g_sipush X 30000 dLa_value_195 (by decide) ?_
                  refine g_isub X dLa_value_198 ?_
                  refine g_aload_n X dLa_value_199 rfl ?_
                  refine g_getR X fl_La_24 fb_1_2 h0 dLa_value_200 ?_
                  refine g_iload X dLa_value_203 rfl ?_
                  refine g_iconst X 1 dLa_value_205 (by decide) ?_
                  refine g_isub X dLa_value_206 ?_
                  refine g_iald X (sk_1_2 h0) (sl_1_2 h0) dLa_value_207 ?_
                  refine g_aload_n X dLa_value_208 rfl ?_
                  refine g_getR X fl_La_24 fb_1_2 h0 dLa_value_209 ?_
                  refine g_iload X dLa_value_212 rfl ?_
                  refine g_iald X (sk_1_2 h0) (sl_1_2 h0) dLa_value_214 ?_
                  refine g_statI X [.int (x6 - 30000), .int (s5 (hz_rf o0 2) (ix ((u20.1 + (-1)) - 1))), .int (s5 (hz_rf o0 2) (ix (u20.1 + (-1))))] [.int ((u20.1 + (-1)) - 1), .ref (C.w.ad (hz_rf o0 2))] mm_La_joined ms_La_joined ml_La_76 (okLa_joined (x6 - 30000) (s5 (hz_rf o0 2) (ix ((u20.1 + (-1)) - 1))) (s5 (hz_rf o0 2) (ix (u20.1 + (-1)))) s5 C.l C.w) rfl (by decide) rfl (Nat.le_of_ble_eq_true rfl) dLa_value_215 (fun r9 s8 => ?_)
                  refine g_iast X (sk_1_2 h0) (sl_1_2 h0) dLa_value_218 (fun s10 => ?_)
                  exact gf_sub (hj219 (u20.1 + (-1)) s10) (by simp [lsub])
                · refine g_iconst X 0 dLa_value_180 (by decide) ?_
                  exact g_iret X E dLa_value_181
            · refine g_aload_n X dLa_value_115 rfl ?_
              refine g_getR X fl_La_24 fb_1_2 h0 dLa_value_116 ?_
              refine g_iload X dLa_value_119 rfl ?_
              refine g_iconst X 1 dLa_value_121 (by decide) ?_
              refine g_isub X dLa_value_122 ?_
              refine g_aload_n X dLa_value_123 rfl ?_
              refine g_getR X fl_La_24 fb_1_2 h0 dLa_value_124 ?_
              refine g_iload X dLa_value_127 rfl ?_
              refine g_iconst X 1 dLa_value_129 (by decide) ?_
              refine g_isub X dLa_value_130 ?_
              refine g_iald X (sk_1_2 h0) (sl_1_2 h0) dLa_value_131 ?_
              refine g_iload X dLa_value_132 rfl ?_
              refine g_sipush X 20000 dLa_value_134 (by decide) ?_
              refine g_isub X dLa_value_137 ?_
              refine g_idiv X dLa_value_138 ?_
              refine g_iast X (sk_1_2 h0) (sl_1_2 h0) dLa_value_139 (fun s12 => ?_)
              refine g_goto X 219 dLa_value_140 (by decide) ?_
              exact gf_sub (hj219 u20.1 s12) (by simp [lsub])
          · refine g_iconst X 0 dLa_value_105 (by decide) ?_
            exact g_iret X E dLa_value_106
      · refine g_iload X dLa_value_44 rfl ?_
        refine g_bipush X 64 dLa_value_46 (by decide) ?_
        refine g_clt X (tgt := 53) dLa_value_48 (by decide) ?_ ?_
        · refine g_aload_n X dLa_value_53 rfl ?_
          refine g_getR X fl_La_24 fb_1_2 h0 dLa_value_54 ?_
          refine g_iload X dLa_value_57 rfl ?_
          refine g_iload X dLa_value_59 rfl ?_
          refine g_sipush X 10000 dLa_value_61 (by decide) ?_
          refine gf_jn (fun j84 => ∀ (b84_0 : Int32) (s13 : Sg), GF C evI 84 [some (.ref (C.w.ad o0)), none, none, some (.ref (C.w.ad o3)), some (.int v4), some (.int r2), some (.int u20.1), some (.int u20.2), none] [.int b84_0, .int u20.1, .ref (C.w.ad (hz_rf o0 2))] s13 (j84 b84_0 s13)) ?_ ?_
          · intro b84_0 s13
            refine g_iast X (sk_1_2 h0) (sl_1_2 h0) dLa_value_84 (fun s14 => ?_)
            refine g_iinc X (u20.1 + 1) [some (.ref (C.w.ad o0)), none, none, some (.ref (C.w.ad o3)), some (.int v4), some (.int r2), some (.int (u20.1 + 1)), some (.int u20.2), none] dLa_value_85 rfl rfl (by decide) rfl ?_
            refine g_goto X 219 dLa_value_88 (by decide) ?_
            exact gf_sub (hj219 (u20.1 + 1) s14) (by simp [lsub])
          · intro j84 hj84
            refine g_cge X (tgt := 72) dLa_value_64 (by decide) ?_ ?_
            · refine g_aload_n X dLa_value_72 rfl ?_
              refine g_iload X dLa_value_73 rfl ?_
              refine g_sipush X 10000 dLa_value_75 (by decide) ?_
              refine g_isub X dLa_value_78 ?_
              refine g_iload X dLa_value_79 rfl ?_
              refine g_virtI X [.int (x6 - 10000), .int v4] [.int u20.1, .ref (C.w.ad (hz_rf o0 2))] h3 mm_Sc_meaning mv_Sc_meaning ml_La_71 (okSc_meaning o3 (x6 - 10000) v4 s5 h3 C.l C.w) rfl (by decide) rfl (Nat.le_of_ble_eq_true rfl) dLa_value_81 (fun r16 s15 => ?_)
              exact gf_sub (hj84 r16 s15) (by simp [lsub])
            · refine g_iload X dLa_value_67 rfl ?_
              refine g_goto X 84 dLa_value_69 (by decide) ?_
              exact gf_sub (hj84 x6 s5) (by simp [lsub])
        · refine g_iconst X 0 dLa_value_51 (by decide) ?_
          exact g_iret X E dLa_value_52
def yMu_bestWord : MethodName := ⟨"LastWordHill$Muse", "bestWord", "(I)I"⟩
abbrev cMu_bestWord : ByteArray := prog_4_method_2_code
theorem dMu_bestWord_0 : decode cMu_bestWord 0 = .ok (.iconst 0, 1) := by decide +kernel
theorem dMu_bestWord_1 : decode cMu_bestWord 1 = .ok (.istore_n 2, 1) := by decide +kernel
theorem dMu_bestWord_2 : decode cMu_bestWord 2 = .ok (.iconst 1, 1) := by decide +kernel
theorem dMu_bestWord_3 : decode cMu_bestWord 3 = .ok (.istore_n 3, 1) := by decide +kernel
theorem dMu_bestWord_4 : decode cMu_bestWord 4 = .ok (.iload_n 3, 1) := by decide +kernel
theorem dMu_bestWord_5 : decode cMu_bestWord 5 = .ok (.bipush 20, 2) := by decide +kernel
theorem dMu_bestWord_7 : decode cMu_bestWord 7 = .ok (.if_icmp .ge 26, 3) := by decide +kernel
theorem dMu_bestWord_33 : decode cMu_bestWord 33 = .ok (.iload_n 2, 1) := by decide +kernel
theorem dMu_bestWord_34 : decode cMu_bestWord 34 = .ok (.ireturn, 1) := by decide +kernel
theorem dMu_bestWord_10 : decode cMu_bestWord 10 = .ok (.aload_n 0, 1) := by decide +kernel
theorem dMu_bestWord_11 : decode cMu_bestWord 11 = .ok (.iload_n 3, 1) := by decide +kernel
theorem dMu_bestWord_12 : decode cMu_bestWord 12 = .ok (.iload_n 1, 1) := by decide +kernel
theorem dMu_bestWord_13 : decode cMu_bestWord 13 = .ok (.invokevirtual 32, 3) := by decide +kernel
theorem mm_Mu_matches : MMc yMu_matches cMu_matches 3 (some .int) 2 := ⟨hz_in 1132 (by decide +kernel) (by decide +kernel), hz_in 145 (by decide +kernel) (by decide +kernel), by decide +kernel, by decide⟩
theorem mv_Mu_matches : MMv yMu_matches 2 := ⟨hz_in 1131 (by decide +kernel) (by decide +kernel), hz_in 32 (by decide +kernel) (by decide +kernel), _, _, rfl, by decide⟩
theorem ml_Mu_32 : Cond.methodLink "LastWordHill$Muse" 32 yMu_matches ∈ hz_wt := hz_in 1129 (by decide +kernel) (by decide +kernel)
theorem dMu_bestWord_16 : decode cMu_bestWord 16 = .ok (.aload_n 0, 1) := by decide +kernel
theorem dMu_bestWord_17 : decode cMu_bestWord 17 = .ok (.iload_n 2, 1) := by decide +kernel
theorem dMu_bestWord_18 : decode cMu_bestWord 18 = .ok (.iload_n 1, 1) := by decide +kernel
theorem dMu_bestWord_19 : decode cMu_bestWord 19 = .ok (.invokevirtual 32, 3) := by decide +kernel
theorem dMu_bestWord_22 : decode cMu_bestWord 22 = .ok (.if_icmp .le 5, 3) := by decide +kernel
theorem dMu_bestWord_27 : decode cMu_bestWord 27 = .ok (.iinc 3 1, 3) := by decide +kernel
theorem dMu_bestWord_30 : decode cMu_bestWord 30 = .ok (.goto (-26), 3) := by decide +kernel
theorem dMu_bestWord_25 : decode cMu_bestWord 25 = .ok (.iload_n 3, 1) := by decide +kernel
theorem dMu_bestWord_26 : decode cMu_bestWord 26 = .ok (.istore_n 2, 1) := by decide +kernel
def fMu_bestWord (v1 : Int32) (s0 : Sg) : Option (Int32 × Sg) := lp FU (fun q4 (u4 : Int32 × Int32) (s1 : Sg) => if 20 ≤ u4.2 then (some (u4.1, s1)) else (bi (fMu_matches u4.2 v1 s1) fun r3 s2 => bi (fMu_matches u4.1 v1 s2) fun r5 s4 => bnd (fun (a27_2 : Int32) (s6 : Sg) => q4 (a27_2, (u4.2 + 1)) s6) fun j27 => if r3 ≤ r5 then (j27 u4.1 s4) else (j27 u4.2 s4))) (0, 1) s0
set_option maxHeartbeats 4000000 in
set_option maxRecDepth 100000 in
theorem okMu_bestWord (v1 : Int32) (s0 : Sg) : ∀ (l : Launch) (w : WC), Ok l w yMu_bestWord cMu_bestWord 4 (some .int) 3 evI [.ref (w.ad 66), .int v1] s0 (fMu_bestWord v1 s0) := by
  refine ok_in (ev := fun _ => evI) (av := fun w => [.ref (w.ad 66), .int v1]) "LastWordHill$Muse" rfl (by decide +kernel) (fun _ => rfl) (fun _ => Nat.le_of_ble_eq_true rfl) ?_
  intro C X E
  show GF C evI 0 [some (.ref (C.w.ad 66)), some (.int v1), none, none] [] s0 (fMu_bestWord v1 s0)
  unfold fMu_bestWord
  refine g_iconst X 0 dMu_bestWord_0 (by decide) ?_
  refine g_istore_n X [some (.ref (C.w.ad 66)), some (.int v1), some (.int 0), none] dMu_bestWord_1 (by decide) (Nat.le_of_ble_eq_true rfl) rfl ?_
  refine g_iconst X 1 dMu_bestWord_2 (by decide) ?_
  refine g_istore_n X [some (.ref (C.w.ad 66)), some (.int v1), some (.int 0), some (.int 1)] dMu_bestWord_3 (by decide) (Nat.le_of_ble_eq_true rfl) rfl ?_
  refine gf_sub (L' := [some (.ref (C.w.ad 66)), some (.int v1), some (.int 0), some (.int 1)]) ?_ (by simp [lsub])
  refine gf_lp (Lf := fun (u4 : Int32 × Int32) => [some (.ref (C.w.ad 66)), some (.int v1), some (.int u4.1), some (.int u4.2)]) (fun q4 hq4 u4 s1 => ?_) FU (0, 1) s0
  refine g_iload_n X dMu_bestWord_4 rfl ?_
  refine g_bipush X 20 dMu_bestWord_5 (by decide) ?_
  refine g_cge X (tgt := 33) dMu_bestWord_7 (by decide) ?_ ?_
  · refine g_iload_n X dMu_bestWord_33 rfl ?_
    exact g_iret X E dMu_bestWord_34
  · refine g_aload_n X dMu_bestWord_10 rfl ?_
    refine g_iload_n X dMu_bestWord_11 rfl ?_
    refine g_iload_n X dMu_bestWord_12 rfl ?_
    refine g_virtI X [.int u4.2, .int v1] [] k_66 mm_Mu_matches mv_Mu_matches ml_Mu_32 (okMu_matches u4.2 v1 s1 C.l C.w) rfl (by decide) rfl (Nat.le_of_ble_eq_true rfl) dMu_bestWord_13 (fun r3 s2 => ?_)
    refine g_aload_n X dMu_bestWord_16 rfl ?_
    refine g_iload_n X dMu_bestWord_17 rfl ?_
    refine g_iload_n X dMu_bestWord_18 rfl ?_
    refine g_virtI X [.int u4.1, .int v1] [.int r3] k_66 mm_Mu_matches mv_Mu_matches ml_Mu_32 (okMu_matches u4.1 v1 s2 C.l C.w) rfl (by decide) rfl (Nat.le_of_ble_eq_true rfl) dMu_bestWord_19 (fun r5 s4 => ?_)
    refine gf_jn (fun j27 => ∀ (a27_2 : Int32) (s6 : Sg), GF C evI 27 [some (.ref (C.w.ad 66)), some (.int v1), some (.int a27_2), some (.int u4.2)] [] s6 (j27 a27_2 s6)) ?_ ?_
    · intro a27_2 s6
      refine g_iinc X (u4.2 + 1) [some (.ref (C.w.ad 66)), some (.int v1), some (.int a27_2), some (.int (u4.2 + 1))] dMu_bestWord_27 rfl rfl (by decide) rfl ?_
      refine g_goto X 4 dMu_bestWord_30 (by decide) ?_
      exact gf_sub (hq4 (a27_2, (u4.2 + 1)) s6) (by simp [lsub])
    · intro j27 hj27
      refine g_cle X (tgt := 27) dMu_bestWord_22 (by decide) ?_ ?_
      · exact gf_sub (hj27 u4.1 s4) (by simp [lsub])
      · refine g_iload_n X dMu_bestWord_25 rfl ?_
        refine g_istore_n X [some (.ref (C.w.ad 66)), some (.int v1), some (.int u4.2), some (.int u4.2)] dMu_bestWord_26 (by decide) (Nat.le_of_ble_eq_true rfl) rfl ?_
        exact gf_sub (hj27 u4.2 s4) (by simp [lsub])
def yMu_cover : MethodName := ⟨"LastWordHill$Muse", "cover", "(I)V"⟩
abbrev cMu_cover : ByteArray := prog_4_method_4_code
theorem dMu_cover_0 : decode cMu_cover 0 = .ok (.aload_n 0, 1) := by decide +kernel
theorem dMu_cover_1 : decode cMu_cover 1 = .ok (.iconst (-1), 1) := by decide +kernel
theorem dMu_cover_2 : decode cMu_cover 2 = .ok (.putfield 47, 3) := by decide +kernel
theorem dMu_cover_5 : decode cMu_cover 5 = .ok (.aload_n 0, 1) := by decide +kernel
theorem dMu_cover_6 : decode cMu_cover 6 = .ok (.iconst (-1), 1) := by decide +kernel
theorem dMu_cover_7 : decode cMu_cover 7 = .ok (.putfield 51, 3) := by decide +kernel
theorem dMu_cover_10 : decode cMu_cover 10 = .ok (.aload_n 0, 1) := by decide +kernel
theorem dMu_cover_11 : decode cMu_cover 11 = .ok (.iload_n 1, 1) := by decide +kernel
theorem dMu_cover_12 : decode cMu_cover 12 = .ok (.iconst 0, 1) := by decide +kernel
theorem dMu_cover_13 : decode cMu_cover 13 = .ok (.iconst 0, 1) := by decide +kernel
theorem dMu_cover_14 : decode cMu_cover 14 = .ok (.invokestatic 54, 3) := by decide +kernel
theorem dMu_cover_17 : decode cMu_cover 17 = .ok (.return_, 1) := by decide +kernel
def fMu_cover (v1 : Int32) (s0 : Sg) : Option (Sg) := bnd (pt s0 66 7 (-1)) fun s1 => bnd (pt s1 66 8 (-1)) fun s2 => bv (fMu_coverRest 12 v1 0 0 s2) fun s3 => some s3
set_option maxHeartbeats 4000000 in
set_option maxRecDepth 100000 in
theorem okMu_cover (v1 : Int32) (s0 : Sg) : ∀ (l : Launch) (w : WC), Ok l w yMu_cover cMu_cover 2 none 14 evV [.ref (w.ad 66), .int v1] s0 (fMu_cover v1 s0) := by
  refine ok_in (ev := fun _ => evV) (av := fun w => [.ref (w.ad 66), .int v1]) "LastWordHill$Muse" rfl (by decide +kernel) (fun _ => rfl) (fun _ => Nat.le_of_ble_eq_true rfl) ?_
  intro C X E
  show GF C evV 0 [some (.ref (C.w.ad 66)), some (.int v1)] [] s0 (fMu_cover v1 s0)
  unfold fMu_cover
  refine g_aload_n X dMu_cover_0 rfl ?_
  refine g_iconst X (-1) dMu_cover_1 (by decide) ?_
  refine g_putI X fl_Mu_47 fb_2_7 fp_2_7 k_66 dMu_cover_2 (fun s1 => ?_)
  refine g_aload_n X dMu_cover_5 rfl ?_
  refine g_iconst X (-1) dMu_cover_6 (by decide) ?_
  refine g_putI X fl_Mu_51 fb_2_8 fp_2_8 k_66 dMu_cover_7 (fun s2 => ?_)
  refine g_aload_n X dMu_cover_10 rfl ?_
  refine g_iload_n X dMu_cover_11 rfl ?_
  refine g_iconst X 0 dMu_cover_12 (by decide) ?_
  refine g_iconst X 0 dMu_cover_13 (by decide) ?_
  refine g_statV X [.ref (C.w.ad 66), .int v1, .int 0, .int 0] [] mm_Mu_coverRest ms_Mu_coverRest ml_Mu_54 (okMu_coverRest 12 v1 0 0 s2 C.l C.w) rfl (by decide) rfl (Nat.le_of_ble_eq_true rfl) dMu_cover_14 (fun s3 => ?_)
  exact g_vret X E dMu_cover_17
def yMu_agrees : MethodName := ⟨"LastWordHill$Muse", "agrees", "(I)Z"⟩
abbrev cMu_agrees : ByteArray := prog_4_method_8_code
theorem dMu_agrees_0 : decode cMu_agrees 0 = .ok (.iconst 0, 1) := by decide +kernel
theorem dMu_agrees_1 : decode cMu_agrees 1 = .ok (.istore_n 2, 1) := by decide +kernel
theorem dMu_agrees_2 : decode cMu_agrees 2 = .ok (.iload_n 2, 1) := by decide +kernel
theorem dMu_agrees_3 : decode cMu_agrees 3 = .ok (.aload_n 0, 1) := by decide +kernel
theorem dMu_agrees_4 : decode cMu_agrees 4 = .ok (.getfield 28, 3) := by decide +kernel
theorem dMu_agrees_7 : decode cMu_agrees 7 = .ok (.getfield 66, 3) := by decide +kernel
theorem fl_Mu_66 : FLk "LastWordHill$Muse" 66 10 0 := ⟨_, _, _, rfl, by decide, hz_in 421 (by decide +kernel) (by decide +kernel), nL10, by decide, by decide⟩
theorem dMu_agrees_10 : decode cMu_agrees 10 = .ok (.getfield 72, 3) := by decide +kernel
theorem fl_Mu_72 : FLk "LastWordHill$Muse" 72 7 3 := ⟨_, _, _, rfl, by decide, hz_in 280 (by decide +kernel) (by decide +kernel), nL7, by decide, by decide⟩
theorem dMu_agrees_13 : decode cMu_agrees 13 = .ok (.if_icmp .ge 57, 3) := by decide +kernel
theorem dMu_agrees_70 : decode cMu_agrees 70 = .ok (.iconst 1, 1) := by decide +kernel
theorem dMu_agrees_71 : decode cMu_agrees 71 = .ok (.ireturn, 1) := by decide +kernel
theorem dMu_agrees_16 : decode cMu_agrees 16 = .ok (.aload_n 0, 1) := by decide +kernel
theorem dMu_agrees_17 : decode cMu_agrees 17 = .ok (.getfield 28, 3) := by decide +kernel
theorem dMu_agrees_20 : decode cMu_agrees 20 = .ok (.getfield 66, 3) := by decide +kernel
theorem dMu_agrees_23 : decode cMu_agrees 23 = .ok (.iload_n 2, 1) := by decide +kernel
theorem dMu_agrees_24 : decode cMu_agrees 24 = .ok (.iconst 1, 1) := by decide +kernel
theorem dMu_agrees_25 : decode cMu_agrees 25 = .ok (.invokevirtual 77, 3) := by decide +kernel
theorem ml_Mu_77 : Cond.methodLink "LastWordHill$Muse" 77 yTa_tell ∈ hz_wt := hz_in 1169 (by decide +kernel) (by decide +kernel)
theorem dMu_agrees_28 : decode cMu_agrees 28 = .ok (.iconst 1, 1) := by decide +kernel
theorem dMu_agrees_29 : decode cMu_agrees 29 = .ok (.if_icmp .ne 7, 3) := by decide +kernel
theorem dMu_agrees_37 : decode cMu_agrees 37 = .ok (.istore_n 3, 1) := by decide +kernel
theorem dMu_agrees_38 : decode cMu_agrees 38 = .ok (.aload_n 0, 1) := by decide +kernel
theorem dMu_agrees_39 : decode cMu_agrees 39 = .ok (.getfield 24, 3) := by decide +kernel
theorem dMu_agrees_42 : decode cMu_agrees 42 = .ok (.iload_n 1, 1) := by decide +kernel
theorem dMu_agrees_43 : decode cMu_agrees 43 = .ok (.aload_n 0, 1) := by decide +kernel
theorem dMu_agrees_44 : decode cMu_agrees 44 = .ok (.getfield 28, 3) := by decide +kernel
theorem dMu_agrees_47 : decode cMu_agrees 47 = .ok (.getfield 66, 3) := by decide +kernel
theorem dMu_agrees_50 : decode cMu_agrees 50 = .ok (.iload_n 2, 1) := by decide +kernel
theorem dMu_agrees_51 : decode cMu_agrees 51 = .ok (.iconst 0, 1) := by decide +kernel
theorem dMu_agrees_52 : decode cMu_agrees 52 = .ok (.invokevirtual 77, 3) := by decide +kernel
theorem dMu_agrees_55 : decode cMu_agrees 55 = .ok (.invokevirtual 80, 3) := by decide +kernel
theorem mm_Te_suits : MMc yTe_suits cTe_suits 3 (some .boolean) 2 := ⟨hz_in 691 (by decide +kernel) (by decide +kernel), hz_in 137 (by decide +kernel) (by decide +kernel), by decide +kernel, by decide⟩
theorem mv_Te_suits : MMv yTe_suits 8 := ⟨hz_in 689 (by decide +kernel) (by decide +kernel), hz_in 690 (by decide +kernel) (by decide +kernel), _, _, rfl, by decide⟩
theorem ml_Mu_80 : Cond.methodLink "LastWordHill$Muse" 80 yTe_suits ∈ hz_wt := hz_in 1170 (by decide +kernel) (by decide +kernel)
theorem dMu_agrees_58 : decode cMu_agrees 58 = .ok (.iload_n 3, 1) := by decide +kernel
theorem dMu_agrees_59 : decode cMu_agrees 59 = .ok (.if_icmp .eq 5, 3) := by decide +kernel
theorem dMu_agrees_64 : decode cMu_agrees 64 = .ok (.iinc 2 1, 3) := by decide +kernel
theorem dMu_agrees_67 : decode cMu_agrees 67 = .ok (.goto (-65), 3) := by decide +kernel
theorem dMu_agrees_62 : decode cMu_agrees 62 = .ok (.iconst 0, 1) := by decide +kernel
theorem dMu_agrees_63 : decode cMu_agrees 63 = .ok (.ireturn, 1) := by decide +kernel
theorem dMu_agrees_36 : decode cMu_agrees 36 = .ok (.iconst 0, 1) := by decide +kernel
theorem dMu_agrees_32 : decode cMu_agrees 32 = .ok (.iconst 1, 1) := by decide +kernel
theorem dMu_agrees_33 : decode cMu_agrees 33 = .ok (.goto 4, 3) := by decide +kernel
def fMu_agrees (v1 : Int32) (s0 : Sg) : Option (Int32 × Sg) := lp FU (fun q2 (u2 : Int32) (s1 : Sg) => if (s1 49 3) ≤ u2 then (gb 1 (some (1, s1))) else (bi (fTa_tell 49 u2 1 s1) fun r3 s2 => bnd (fun (b37_0 : Int32) (s4 : Sg) => bi (fTa_tell 49 u2 0 s4) fun r6 s5 => bi (fTe_suits 19 v1 r6 s5) fun r8 s7 => if r8 = b37_0 then (q2 (u2 + 1) s7) else (gb 0 (some (0, s7)))) fun j37 => if r3 = 1 then (j37 1 s2) else (j37 0 s2))) 0 s0
set_option maxHeartbeats 4000000 in
set_option maxRecDepth 100000 in
theorem okMu_agrees (v1 : Int32) (s0 : Sg) : ∀ (l : Launch) (w : WC), Ok l w yMu_agrees cMu_agrees 4 (some .boolean) 4 evI [.ref (w.ad 66), .int v1] s0 (fMu_agrees v1 s0) := by
  refine ok_in (ev := fun _ => evI) (av := fun w => [.ref (w.ad 66), .int v1]) "LastWordHill$Muse" rfl (by decide +kernel) (fun _ => rfl) (fun _ => Nat.le_of_ble_eq_true rfl) ?_
  intro C X E
  show GF C evI 0 [some (.ref (C.w.ad 66)), some (.int v1), none, none] [] s0 (fMu_agrees v1 s0)
  unfold fMu_agrees
  refine g_iconst X 0 dMu_agrees_0 (by decide) ?_
  refine g_istore_n X [some (.ref (C.w.ad 66)), some (.int v1), some (.int 0), none] dMu_agrees_1 (by decide) (Nat.le_of_ble_eq_true rfl) rfl ?_
  refine gf_sub (L' := [some (.ref (C.w.ad 66)), some (.int v1), some (.int 0), none]) ?_ (by simp [lsub])
  refine gf_lp (Lf := fun (u2 : Int32) => [some (.ref (C.w.ad 66)), some (.int v1), some (.int u2), none]) (fun q2 hq2 u2 s1 => ?_) FU 0 s0
  refine g_iload_n X dMu_agrees_2 rfl ?_
  refine g_aload_n X dMu_agrees_3 rfl ?_
  refine g_getN X fl_Mu_28 fb_2_1 k_66 r_66_1 dMu_agrees_4 ?_
  refine g_getN X fl_Mu_66 fb_10_0 k_48 r_48_0 dMu_agrees_7 ?_
  refine g_getI X fl_Mu_72 fb_7_3 k_49 dMu_agrees_10 ?_
  refine g_cge X (tgt := 70) dMu_agrees_13 (by decide) ?_ ?_
  · refine g_iconst X 1 dMu_agrees_70 (by decide) ?_
    exact g_zret X E dMu_agrees_71
  · refine g_aload_n X dMu_agrees_16 rfl ?_
    refine g_getN X fl_Mu_28 fb_2_1 k_66 r_66_1 dMu_agrees_17 ?_
    refine g_getN X fl_Mu_66 fb_10_0 k_48 r_48_0 dMu_agrees_20 ?_
    refine g_iload_n X dMu_agrees_23 rfl ?_
    refine g_iconst X 1 dMu_agrees_24 (by decide) ?_
    refine g_virtI X [.int u2, .int 1] [] k_49 mm_Ta_tell mv_Ta_tell ml_Mu_77 (okTa_tell 49 u2 1 s1 k_49 C.l C.w) rfl (by decide) rfl (Nat.le_of_ble_eq_true rfl) dMu_agrees_25 (fun r3 s2 => ?_)
    refine g_iconst X 1 dMu_agrees_28 (by decide) ?_
    refine gf_jn (fun j37 => ∀ (b37_0 : Int32) (s4 : Sg), GF C evI 37 [some (.ref (C.w.ad 66)), some (.int v1), some (.int u2), none] [.int b37_0] s4 (j37 b37_0 s4)) ?_ ?_
    · intro b37_0 s4
      refine g_istore_n X [some (.ref (C.w.ad 66)), some (.int v1), some (.int u2), some (.int b37_0)] dMu_agrees_37 (by decide) (Nat.le_of_ble_eq_true rfl) rfl ?_
      refine g_aload_n X dMu_agrees_38 rfl ?_
      refine g_getN X fl_Mu_24 fb_2_0 k_66 r_66_0 dMu_agrees_39 ?_
      refine g_iload_n X dMu_agrees_42 rfl ?_
      refine g_aload_n X dMu_agrees_43 rfl ?_
      refine g_getN X fl_Mu_28 fb_2_1 k_66 r_66_1 dMu_agrees_44 ?_
      refine g_getN X fl_Mu_66 fb_10_0 k_48 r_48_0 dMu_agrees_47 ?_
      refine g_iload_n X dMu_agrees_50 rfl ?_
      refine g_iconst X 0 dMu_agrees_51 (by decide) ?_
      refine g_virtI X [.int u2, .int 0] [.int v1, .ref (C.w.ad 19)] k_49 mm_Ta_tell mv_Ta_tell ml_Mu_77 (okTa_tell 49 u2 0 s4 k_49 C.l C.w) rfl (by decide) rfl (Nat.le_of_ble_eq_true rfl) dMu_agrees_52 (fun r6 s5 => ?_)
      refine g_virtI X [.int v1, .int r6] [] k_19 mm_Te_suits mv_Te_suits ml_Mu_80 (okTe_suits 19 v1 r6 s5 k_19 C.l C.w) rfl (by decide) rfl (Nat.le_of_ble_eq_true rfl) dMu_agrees_55 (fun r8 s7 => ?_)
      refine g_iload_n X dMu_agrees_58 rfl ?_
      refine g_ceq X (tgt := 64) dMu_agrees_59 (by decide) ?_ ?_
      · refine g_iinc X (u2 + 1) [some (.ref (C.w.ad 66)), some (.int v1), some (.int (u2 + 1)), some (.int b37_0)] dMu_agrees_64 rfl rfl (by decide) rfl ?_
        refine g_goto X 2 dMu_agrees_67 (by decide) ?_
        exact gf_sub (hq2 (u2 + 1) s7) (by simp [lsub])
      · refine g_iconst X 0 dMu_agrees_62 (by decide) ?_
        exact g_zret X E dMu_agrees_63
    · intro j37 hj37
      refine g_cne X (tgt := 36) dMu_agrees_29 (by decide) ?_ ?_
      · refine g_iconst X 1 dMu_agrees_32 (by decide) ?_
        refine g_goto X 37 dMu_agrees_33 (by decide) ?_
        exact gf_sub (hj37 1 s2) (by simp [lsub])
      · refine g_iconst X 0 dMu_agrees_36 (by decide) ?_
        exact gf_sub (hj37 0 s2) (by simp [lsub])
def yMu_manyRight : MethodName := ⟨"LastWordHill$Muse", "manyRight", "(II)I"⟩
abbrev cMu_manyRight : ByteArray := prog_4_method_10_code
theorem dMu_manyRight_0 : decode cMu_manyRight 0 = .ok (.iconst 0, 1) := by decide +kernel
theorem dMu_manyRight_1 : decode cMu_manyRight 1 = .ok (.istore_n 3, 1) := by decide +kernel
theorem dMu_manyRight_2 : decode cMu_manyRight 2 = .ok (.iconst 0, 1) := by decide +kernel
theorem dMu_manyRight_3 : decode cMu_manyRight 3 = .ok (.istore 4, 2) := by decide +kernel
theorem dMu_manyRight_5 : decode cMu_manyRight 5 = .ok (.iload 4, 2) := by decide +kernel
theorem dMu_manyRight_7 : decode cMu_manyRight 7 = .ok (.bipush 20, 2) := by decide +kernel
theorem dMu_manyRight_9 : decode cMu_manyRight 9 = .ok (.if_icmp .ge 35, 3) := by decide +kernel
theorem dMu_manyRight_44 : decode cMu_manyRight 44 = .ok (.iload_n 3, 1) := by decide +kernel
theorem dMu_manyRight_45 : decode cMu_manyRight 45 = .ok (.ireturn, 1) := by decide +kernel
theorem dMu_manyRight_12 : decode cMu_manyRight 12 = .ok (.iload_n 1, 1) := by decide +kernel
theorem dMu_manyRight_13 : decode cMu_manyRight 13 = .ok (.iload 4, 2) := by decide +kernel
theorem dMu_manyRight_15 : decode cMu_manyRight 15 = .ok (.ishr, 1) := by decide +kernel
theorem dMu_manyRight_16 : decode cMu_manyRight 16 = .ok (.iconst 1, 1) := by decide +kernel
theorem dMu_manyRight_17 : decode cMu_manyRight 17 = .ok (.iand, 1) := by decide +kernel
theorem dMu_manyRight_18 : decode cMu_manyRight 18 = .ok (.iconst 1, 1) := by decide +kernel
theorem dMu_manyRight_19 : decode cMu_manyRight 19 = .ok (.if_icmp .ne 19, 3) := by decide +kernel
theorem dMu_manyRight_38 : decode cMu_manyRight 38 = .ok (.iinc 4 1, 3) := by decide +kernel
theorem dMu_manyRight_41 : decode cMu_manyRight 41 = .ok (.goto (-36), 3) := by decide +kernel
theorem dMu_manyRight_22 : decode cMu_manyRight 22 = .ok (.aload_n 0, 1) := by decide +kernel
theorem dMu_manyRight_23 : decode cMu_manyRight 23 = .ok (.getfield 24, 3) := by decide +kernel
theorem dMu_manyRight_26 : decode cMu_manyRight 26 = .ok (.iload 4, 2) := by decide +kernel
theorem dMu_manyRight_28 : decode cMu_manyRight 28 = .ok (.iload_n 2, 1) := by decide +kernel
theorem dMu_manyRight_29 : decode cMu_manyRight 29 = .ok (.invokevirtual 80, 3) := by decide +kernel
theorem dMu_manyRight_32 : decode cMu_manyRight 32 = .ok (.ifCond .eq 6, 3) := by decide +kernel
theorem dMu_manyRight_35 : decode cMu_manyRight 35 = .ok (.iinc 3 1, 3) := by decide +kernel
def fMu_manyRight (v1 : Int32) (v2 : Int32) (s0 : Sg) : Option (Int32 × Sg) := lp FU (fun q5 (u5 : Int32 × Int32) (s1 : Sg) => if 20 ≤ u5.2 then (some (u5.1, s1)) else (bnd (fun (a38_3 : Int32) (s2 : Sg) => q5 (a38_3, (u5.2 + 1)) s2) fun j38 => if ((v1 >>> (u5.2 &&& 31)) &&& 1) = 1 then (bi (fTe_suits 19 u5.2 v2 s1) fun r4 s3 => if r4 = 0 then (j38 u5.1 s3) else (j38 (u5.1 + 1) s3)) else (j38 u5.1 s1))) (0, 0) s0
set_option maxHeartbeats 4000000 in
set_option maxRecDepth 100000 in
theorem okMu_manyRight (v1 : Int32) (v2 : Int32) (s0 : Sg) : ∀ (l : Launch) (w : WC), Ok l w yMu_manyRight cMu_manyRight 5 (some .int) 4 evI [.ref (w.ad 66), .int v1, .int v2] s0 (fMu_manyRight v1 v2 s0) := by
  refine ok_in (ev := fun _ => evI) (av := fun w => [.ref (w.ad 66), .int v1, .int v2]) "LastWordHill$Muse" rfl (by decide +kernel) (fun _ => rfl) (fun _ => Nat.le_of_ble_eq_true rfl) ?_
  intro C X E
  show GF C evI 0 [some (.ref (C.w.ad 66)), some (.int v1), some (.int v2), none, none] [] s0 (fMu_manyRight v1 v2 s0)
  unfold fMu_manyRight
  refine g_iconst X 0 dMu_manyRight_0 (by decide) ?_
  refine g_istore_n X [some (.ref (C.w.ad 66)), some (.int v1), some (.int v2), some (.int 0), none] dMu_manyRight_1 (by decide) (Nat.le_of_ble_eq_true rfl) rfl ?_
  refine g_iconst X 0 dMu_manyRight_2 (by decide) ?_
  refine g_istore X [some (.ref (C.w.ad 66)), some (.int v1), some (.int v2), some (.int 0), some (.int 0)] dMu_manyRight_3 (by decide) (Nat.le_of_ble_eq_true rfl) rfl ?_
  refine gf_sub (L' := [some (.ref (C.w.ad 66)), some (.int v1), some (.int v2), some (.int 0), some (.int 0)]) ?_ (by simp [lsub])
  refine gf_lp (Lf := fun (u5 : Int32 × Int32) => [some (.ref (C.w.ad 66)), some (.int v1), some (.int v2), some (.int u5.1), some (.int u5.2)]) (fun q5 hq5 u5 s1 => ?_) FU (0, 0) s0
  refine g_iload X dMu_manyRight_5 rfl ?_
  refine g_bipush X 20 dMu_manyRight_7 (by decide) ?_
  refine g_cge X (tgt := 44) dMu_manyRight_9 (by decide) ?_ ?_
  · refine g_iload_n X dMu_manyRight_44 rfl ?_
    exact g_iret X E dMu_manyRight_45
  · refine g_iload_n X dMu_manyRight_12 rfl ?_
    refine g_iload X dMu_manyRight_13 rfl ?_
    refine g_ishr X dMu_manyRight_15 ?_
    refine g_iconst X 1 dMu_manyRight_16 (by decide) ?_
    refine g_iand X dMu_manyRight_17 ?_
    refine g_iconst X 1 dMu_manyRight_18 (by decide) ?_
    refine gf_jn (fun j38 => ∀ (a38_3 : Int32) (s2 : Sg), GF C evI 38 [some (.ref (C.w.ad 66)), some (.int v1), some (.int v2), some (.int a38_3), some (.int u5.2)] [] s2 (j38 a38_3 s2)) ?_ ?_
    · intro a38_3 s2
      refine g_iinc X (u5.2 + 1) [some (.ref (C.w.ad 66)), some (.int v1), some (.int v2), some (.int a38_3), some (.int (u5.2 + 1))] dMu_manyRight_38 rfl rfl (by decide) rfl ?_
      refine g_goto X 5 dMu_manyRight_41 (by decide) ?_
      exact gf_sub (hq5 (a38_3, (u5.2 + 1)) s2) (by simp [lsub])
    · intro j38 hj38
      refine g_cne X (tgt := 38) dMu_manyRight_19 (by decide) ?_ ?_
      · refine g_aload_n X dMu_manyRight_22 rfl ?_
        refine g_getN X fl_Mu_24 fb_2_0 k_66 r_66_0 dMu_manyRight_23 ?_
        refine g_iload X dMu_manyRight_26 rfl ?_
        refine g_iload_n X dMu_manyRight_28 rfl ?_
        refine g_virtI X [.int u5.2, .int v2] [] k_19 mm_Te_suits mv_Te_suits ml_Mu_80 (okTe_suits 19 u5.2 v2 s1 k_19 C.l C.w) rfl (by decide) rfl (Nat.le_of_ble_eq_true rfl) dMu_manyRight_29 (fun r4 s3 => ?_)
        refine g_zeq X (tgt := 38) dMu_manyRight_32 (by decide) ?_ ?_
        · exact gf_sub (hj38 u5.1 s3) (by simp [lsub])
        · refine g_iinc X (u5.1 + 1) [some (.ref (C.w.ad 66)), some (.int v1), some (.int v2), some (.int (u5.1 + 1)), some (.int u5.2)] dMu_manyRight_35 rfl rfl (by decide) rfl ?_
          exact gf_sub (hj38 (u5.1 + 1) s3) (by simp [lsub])
      · exact gf_sub (hj38 u5.1 s1) (by simp [lsub])
def yMu_furthest : MethodName := ⟨"LastWordHill$Muse", "furthest", "(I)I"⟩
abbrev cMu_furthest : ByteArray := prog_4_method_12_code
theorem dMu_furthest_0 : decode cMu_furthest 0 = .ok (.iconst (-1), 1) := by decide +kernel
theorem dMu_furthest_1 : decode cMu_furthest 1 = .ok (.istore_n 2, 1) := by decide +kernel
theorem dMu_furthest_2 : decode cMu_furthest 2 = .ok (.iconst 0, 1) := by decide +kernel
theorem dMu_furthest_3 : decode cMu_furthest 3 = .ok (.istore_n 3, 1) := by decide +kernel
theorem dMu_furthest_4 : decode cMu_furthest 4 = .ok (.iload_n 3, 1) := by decide +kernel
theorem dMu_furthest_5 : decode cMu_furthest 5 = .ok (.aload_n 0, 1) := by decide +kernel
theorem dMu_furthest_6 : decode cMu_furthest 6 = .ok (.getfield 28, 3) := by decide +kernel
theorem dMu_furthest_9 : decode cMu_furthest 9 = .ok (.getfield 99, 3) := by decide +kernel
theorem fl_Mu_99 : FLk "LastWordHill$Muse" 99 10 1 := ⟨_, _, _, rfl, by decide, hz_in 424 (by decide +kernel) (by decide +kernel), nL10, by decide, by decide⟩
theorem dMu_furthest_12 : decode cMu_furthest 12 = .ok (.getfield 72, 3) := by decide +kernel
theorem dMu_furthest_15 : decode cMu_furthest 15 = .ok (.if_icmp .ge 42, 3) := by decide +kernel
theorem dMu_furthest_57 : decode cMu_furthest 57 = .ok (.iload_n 2, 1) := by decide +kernel
theorem dMu_furthest_58 : decode cMu_furthest 58 = .ok (.ireturn, 1) := by decide +kernel
theorem dMu_furthest_18 : decode cMu_furthest 18 = .ok (.aload_n 0, 1) := by decide +kernel
theorem dMu_furthest_19 : decode cMu_furthest 19 = .ok (.getfield 28, 3) := by decide +kernel
theorem dMu_furthest_22 : decode cMu_furthest 22 = .ok (.getfield 99, 3) := by decide +kernel
theorem dMu_furthest_25 : decode cMu_furthest 25 = .ok (.iload_n 3, 1) := by decide +kernel
theorem dMu_furthest_26 : decode cMu_furthest 26 = .ok (.iconst 0, 1) := by decide +kernel
theorem dMu_furthest_27 : decode cMu_furthest 27 = .ok (.invokevirtual 77, 3) := by decide +kernel
theorem dMu_furthest_30 : decode cMu_furthest 30 = .ok (.iload_n 1, 1) := by decide +kernel
theorem dMu_furthest_31 : decode cMu_furthest 31 = .ok (.if_icmp .gt 20, 3) := by decide +kernel
theorem dMu_furthest_51 : decode cMu_furthest 51 = .ok (.iinc 3 1, 3) := by decide +kernel
theorem dMu_furthest_54 : decode cMu_furthest 54 = .ok (.goto (-50), 3) := by decide +kernel
theorem dMu_furthest_34 : decode cMu_furthest 34 = .ok (.iload_n 2, 1) := by decide +kernel
theorem dMu_furthest_35 : decode cMu_furthest 35 = .ok (.aload_n 0, 1) := by decide +kernel
theorem dMu_furthest_36 : decode cMu_furthest 36 = .ok (.getfield 28, 3) := by decide +kernel
theorem dMu_furthest_39 : decode cMu_furthest 39 = .ok (.getfield 99, 3) := by decide +kernel
theorem dMu_furthest_42 : decode cMu_furthest 42 = .ok (.iload_n 3, 1) := by decide +kernel
theorem dMu_furthest_43 : decode cMu_furthest 43 = .ok (.iconst 1, 1) := by decide +kernel
theorem dMu_furthest_44 : decode cMu_furthest 44 = .ok (.invokevirtual 77, 3) := by decide +kernel
theorem dMu_furthest_47 : decode cMu_furthest 47 = .ok (.invokestatic 91, 3) := by decide +kernel
theorem dMu_furthest_50 : decode cMu_furthest 50 = .ok (.istore_n 2, 1) := by decide +kernel
def fMu_furthest (v1 : Int32) (s0 : Sg) : Option (Int32 × Sg) := lp FU (fun q4 (u4 : Int32 × Int32) (s1 : Sg) => if (s1 51 3) ≤ u4.2 then (some (u4.1, s1)) else (bi (fTa_tell 51 u4.2 0 s1) fun r3 s2 => bnd (fun (a51_2 : Int32) (s4 : Sg) => q4 (a51_2, (u4.2 + 1)) s4) fun j51 => if v1 < r3 then (j51 u4.1 s2) else (bi (fTa_tell 51 u4.2 1 s2) fun r6 s5 => bi (fJ9_max_7cf53 u4.1 r6 s5) fun r8 s7 => j51 r8 s7))) ((-1), 0) s0
set_option maxHeartbeats 4000000 in
set_option maxRecDepth 100000 in
theorem okMu_furthest (v1 : Int32) (s0 : Sg) : ∀ (l : Launch) (w : WC), Ok l w yMu_furthest cMu_furthest 4 (some .int) 3 evI [.ref (w.ad 66), .int v1] s0 (fMu_furthest v1 s0) := by
  refine ok_in (ev := fun _ => evI) (av := fun w => [.ref (w.ad 66), .int v1]) "LastWordHill$Muse" rfl (by decide +kernel) (fun _ => rfl) (fun _ => Nat.le_of_ble_eq_true rfl) ?_
  intro C X E
  show GF C evI 0 [some (.ref (C.w.ad 66)), some (.int v1), none, none] [] s0 (fMu_furthest v1 s0)
  unfold fMu_furthest
  refine g_iconst X (-1) dMu_furthest_0 (by decide) ?_
  refine g_istore_n X [some (.ref (C.w.ad 66)), some (.int v1), some (.int (-1)), none] dMu_furthest_1 (by decide) (Nat.le_of_ble_eq_true rfl) rfl ?_
  refine g_iconst X 0 dMu_furthest_2 (by decide) ?_
  refine g_istore_n X [some (.ref (C.w.ad 66)), some (.int v1), some (.int (-1)), some (.int 0)] dMu_furthest_3 (by decide) (Nat.le_of_ble_eq_true rfl) rfl ?_
  refine gf_sub (L' := [some (.ref (C.w.ad 66)), some (.int v1), some (.int (-1)), some (.int 0)]) ?_ (by simp [lsub])
  refine gf_lp (Lf := fun (u4 : Int32 × Int32) => [some (.ref (C.w.ad 66)), some (.int v1), some (.int u4.1), some (.int u4.2)]) (fun q4 hq4 u4 s1 => ?_) FU ((-1), 0) s0
  refine g_iload_n X dMu_furthest_4 rfl ?_
  refine g_aload_n X dMu_furthest_5 rfl ?_
  refine g_getN X fl_Mu_28 fb_2_1 k_66 r_66_1 dMu_furthest_6 ?_
  refine g_getN X fl_Mu_99 fb_10_1 k_48 r_48_1 dMu_furthest_9 ?_
  refine g_getI X fl_Mu_72 fb_7_3 k_51 dMu_furthest_12 ?_
  refine g_cge X (tgt := 57) dMu_furthest_15 (by decide) ?_ ?_
  · refine g_iload_n X dMu_furthest_57 rfl ?_
    exact g_iret X E dMu_furthest_58
  · refine g_aload_n X dMu_furthest_18 rfl ?_
    refine g_getN X fl_Mu_28 fb_2_1 k_66 r_66_1 dMu_furthest_19 ?_
    refine g_getN X fl_Mu_99 fb_10_1 k_48 r_48_1 dMu_furthest_22 ?_
    refine g_iload_n X dMu_furthest_25 rfl ?_
    refine g_iconst X 0 dMu_furthest_26 (by decide) ?_
    refine g_virtI X [.int u4.2, .int 0] [] k_51 mm_Ta_tell mv_Ta_tell ml_Mu_77 (okTa_tell 51 u4.2 0 s1 k_51 C.l C.w) rfl (by decide) rfl (Nat.le_of_ble_eq_true rfl) dMu_furthest_27 (fun r3 s2 => ?_)
    refine g_iload_n X dMu_furthest_30 rfl ?_
    refine gf_jn (fun j51 => ∀ (a51_2 : Int32) (s4 : Sg), GF C evI 51 [some (.ref (C.w.ad 66)), some (.int v1), some (.int a51_2), some (.int u4.2)] [] s4 (j51 a51_2 s4)) ?_ ?_
    · intro a51_2 s4
      refine g_iinc X (u4.2 + 1) [some (.ref (C.w.ad 66)), some (.int v1), some (.int a51_2), some (.int (u4.2 + 1))] dMu_furthest_51 rfl rfl (by decide) rfl ?_
      refine g_goto X 4 dMu_furthest_54 (by decide) ?_
      exact gf_sub (hq4 (a51_2, (u4.2 + 1)) s4) (by simp [lsub])
    · intro j51 hj51
      refine g_cgt X (tgt := 51) dMu_furthest_31 (by decide) ?_ ?_
      · exact gf_sub (hj51 u4.1 s2) (by simp [lsub])
      · refine g_iload_n X dMu_furthest_34 rfl ?_
        refine g_aload_n X dMu_furthest_35 rfl ?_
        refine g_getN X fl_Mu_28 fb_2_1 k_66 r_66_1 dMu_furthest_36 ?_
        refine g_getN X fl_Mu_99 fb_10_1 k_48 r_48_1 dMu_furthest_39 ?_
        refine g_iload_n X dMu_furthest_42 rfl ?_
        refine g_iconst X 1 dMu_furthest_43 (by decide) ?_
        refine g_virtI X [.int u4.2, .int 1] [.int u4.1] k_51 mm_Ta_tell mv_Ta_tell ml_Mu_77 (okTa_tell 51 u4.2 1 s2 k_51 C.l C.w) rfl (by decide) rfl (Nat.le_of_ble_eq_true rfl) dMu_furthest_44 (fun r6 s5 => ?_)
        refine g_statI X [.int u4.1, .int r6] [] mm_J9_max_7cf53 ms_J9_max_7cf53 ml_Mu_91 (okJ9_max_7cf53 u4.1 r6 s5 C.l C.w) rfl (by decide) rfl (Nat.le_of_ble_eq_true rfl) dMu_furthest_47 (fun r8 s7 => ?_)
        refine g_istore_n X [some (.ref (C.w.ad 66)), some (.int v1), some (.int r8), some (.int u4.2)] dMu_furthest_50 (by decide) (Nat.le_of_ble_eq_true rfl) rfl ?_
        exact gf_sub (hj51 r8 s7) (by simp [lsub])
def yMu_leadsTo : MethodName := ⟨"LastWordHill$Muse", "leadsTo", "(II)I"⟩
abbrev cMu_leadsTo : ByteArray := prog_4_method_13_code
theorem dMu_leadsTo_0 : decode cMu_leadsTo 0 = .ok (.iconst 0, 1) := by decide +kernel
theorem dMu_leadsTo_1 : decode cMu_leadsTo 1 = .ok (.istore_n 3, 1) := by decide +kernel
theorem dMu_leadsTo_2 : decode cMu_leadsTo 2 = .ok (.iload_n 3, 1) := by decide +kernel
theorem dMu_leadsTo_3 : decode cMu_leadsTo 3 = .ok (.aload_n 0, 1) := by decide +kernel
theorem dMu_leadsTo_4 : decode cMu_leadsTo 4 = .ok (.getfield 28, 3) := by decide +kernel
theorem dMu_leadsTo_7 : decode cMu_leadsTo 7 = .ok (.getfield 102, 3) := by decide +kernel
theorem fl_Mu_102 : FLk "LastWordHill$Muse" 102 10 2 := ⟨_, _, _, rfl, by decide, hz_in 427 (by decide +kernel) (by decide +kernel), nL10, by decide, by decide⟩
theorem dMu_leadsTo_10 : decode cMu_leadsTo 10 = .ok (.getfield 72, 3) := by decide +kernel
theorem dMu_leadsTo_13 : decode cMu_leadsTo 13 = .ok (.if_icmp .ge 54, 3) := by decide +kernel
theorem dMu_leadsTo_67 : decode cMu_leadsTo 67 = .ok (.iconst (-1), 1) := by decide +kernel
theorem dMu_leadsTo_68 : decode cMu_leadsTo 68 = .ok (.ireturn, 1) := by decide +kernel
theorem dMu_leadsTo_16 : decode cMu_leadsTo 16 = .ok (.aload_n 0, 1) := by decide +kernel
theorem dMu_leadsTo_17 : decode cMu_leadsTo 17 = .ok (.getfield 28, 3) := by decide +kernel
theorem dMu_leadsTo_20 : decode cMu_leadsTo 20 = .ok (.getfield 102, 3) := by decide +kernel
theorem dMu_leadsTo_23 : decode cMu_leadsTo 23 = .ok (.iload_n 3, 1) := by decide +kernel
theorem dMu_leadsTo_24 : decode cMu_leadsTo 24 = .ok (.iconst 0, 1) := by decide +kernel
theorem dMu_leadsTo_25 : decode cMu_leadsTo 25 = .ok (.invokevirtual 77, 3) := by decide +kernel
theorem dMu_leadsTo_28 : decode cMu_leadsTo 28 = .ok (.iload_n 1, 1) := by decide +kernel
theorem dMu_leadsTo_29 : decode cMu_leadsTo 29 = .ok (.if_icmp .ne 32, 3) := by decide +kernel
theorem dMu_leadsTo_61 : decode cMu_leadsTo 61 = .ok (.iinc 3 1, 3) := by decide +kernel
theorem dMu_leadsTo_64 : decode cMu_leadsTo 64 = .ok (.goto (-62), 3) := by decide +kernel
theorem dMu_leadsTo_32 : decode cMu_leadsTo 32 = .ok (.aload_n 0, 1) := by decide +kernel
theorem dMu_leadsTo_33 : decode cMu_leadsTo 33 = .ok (.getfield 28, 3) := by decide +kernel
theorem dMu_leadsTo_36 : decode cMu_leadsTo 36 = .ok (.getfield 102, 3) := by decide +kernel
theorem dMu_leadsTo_39 : decode cMu_leadsTo 39 = .ok (.iload_n 3, 1) := by decide +kernel
theorem dMu_leadsTo_40 : decode cMu_leadsTo 40 = .ok (.iconst 1, 1) := by decide +kernel
theorem dMu_leadsTo_41 : decode cMu_leadsTo 41 = .ok (.invokevirtual 77, 3) := by decide +kernel
theorem dMu_leadsTo_44 : decode cMu_leadsTo 44 = .ok (.iload_n 2, 1) := by decide +kernel
theorem dMu_leadsTo_45 : decode cMu_leadsTo 45 = .ok (.if_icmp .ne 16, 3) := by decide +kernel
theorem dMu_leadsTo_48 : decode cMu_leadsTo 48 = .ok (.aload_n 0, 1) := by decide +kernel
theorem dMu_leadsTo_49 : decode cMu_leadsTo 49 = .ok (.getfield 28, 3) := by decide +kernel
theorem dMu_leadsTo_52 : decode cMu_leadsTo 52 = .ok (.getfield 102, 3) := by decide +kernel
theorem dMu_leadsTo_55 : decode cMu_leadsTo 55 = .ok (.iload_n 3, 1) := by decide +kernel
theorem dMu_leadsTo_56 : decode cMu_leadsTo 56 = .ok (.iconst 2, 1) := by decide +kernel
theorem dMu_leadsTo_57 : decode cMu_leadsTo 57 = .ok (.invokevirtual 77, 3) := by decide +kernel
theorem dMu_leadsTo_60 : decode cMu_leadsTo 60 = .ok (.ireturn, 1) := by decide +kernel
def fMu_leadsTo (v1 : Int32) (v2 : Int32) (s0 : Sg) : Option (Int32 × Sg) := lp FU (fun q2 (u2 : Int32) (s1 : Sg) => if (s1 53 3) ≤ u2 then (some ((-1), s1)) else (bi (fTa_tell 53 u2 0 s1) fun r3 s2 => bnd (fun (s4 : Sg) => q2 (u2 + 1) s4) fun j61 => if r3 = v1 then (bi (fTa_tell 53 u2 1 s2) fun r6 s5 => if r6 = v2 then (bi (fTa_tell 53 u2 2 s5) fun r8 s7 => some (r8, s7)) else (j61 s5)) else (j61 s2))) 0 s0
set_option maxHeartbeats 4000000 in
set_option maxRecDepth 100000 in
theorem okMu_leadsTo (v1 : Int32) (v2 : Int32) (s0 : Sg) : ∀ (l : Launch) (w : WC), Ok l w yMu_leadsTo cMu_leadsTo 4 (some .int) 3 evI [.ref (w.ad 66), .int v1, .int v2] s0 (fMu_leadsTo v1 v2 s0) := by
  refine ok_in (ev := fun _ => evI) (av := fun w => [.ref (w.ad 66), .int v1, .int v2]) "LastWordHill$Muse" rfl (by decide +kernel) (fun _ => rfl) (fun _ => Nat.le_of_ble_eq_true rfl) ?_
  intro C X E
  show GF C evI 0 [some (.ref (C.w.ad 66)), some (.int v1), some (.int v2), none] [] s0 (fMu_leadsTo v1 v2 s0)
  unfold fMu_leadsTo
  refine g_iconst X 0 dMu_leadsTo_0 (by decide) ?_
  refine g_istore_n X [some (.ref (C.w.ad 66)), some (.int v1), some (.int v2), some (.int 0)] dMu_leadsTo_1 (by decide) (Nat.le_of_ble_eq_true rfl) rfl ?_
  refine gf_sub (L' := [some (.ref (C.w.ad 66)), some (.int v1), some (.int v2), some (.int 0)]) ?_ (by simp [lsub])
  refine gf_lp (Lf := fun (u2 : Int32) => [some (.ref (C.w.ad 66)), some (.int v1), some (.int v2), some (.int u2)]) (fun q2 hq2 u2 s1 => ?_) FU 0 s0
  refine g_iload_n X dMu_leadsTo_2 rfl ?_
  refine g_aload_n X dMu_leadsTo_3 rfl ?_
  refine g_getN X fl_Mu_28 fb_2_1 k_66 r_66_1 dMu_leadsTo_4 ?_
  refine g_getN X fl_Mu_102 fb_10_2 k_48 r_48_2 dMu_leadsTo_7 ?_
  refine g_getI X fl_Mu_72 fb_7_3 k_53 dMu_leadsTo_10 ?_
  refine g_cge X (tgt := 67) dMu_leadsTo_13 (by decide) ?_ ?_
  · refine g_iconst X (-1) dMu_leadsTo_67 (by decide) ?_
    exact g_iret X E dMu_leadsTo_68
  · refine g_aload_n X dMu_leadsTo_16 rfl ?_
    refine g_getN X fl_Mu_28 fb_2_1 k_66 r_66_1 dMu_leadsTo_17 ?_
    refine g_getN X fl_Mu_102 fb_10_2 k_48 r_48_2 dMu_leadsTo_20 ?_
    refine g_iload_n X dMu_leadsTo_23 rfl ?_
    refine g_iconst X 0 dMu_leadsTo_24 (by decide) ?_
    refine g_virtI X [.int u2, .int 0] [] k_53 mm_Ta_tell mv_Ta_tell ml_Mu_77 (okTa_tell 53 u2 0 s1 k_53 C.l C.w) rfl (by decide) rfl (Nat.le_of_ble_eq_true rfl) dMu_leadsTo_25 (fun r3 s2 => ?_)
    refine g_iload_n X dMu_leadsTo_28 rfl ?_
    refine gf_jn (fun j61 => ∀ (s4 : Sg), GF C evI 61 [some (.ref (C.w.ad 66)), some (.int v1), some (.int v2), some (.int u2)] [] s4 (j61 s4)) ?_ ?_
    · intro s4
      refine g_iinc X (u2 + 1) [some (.ref (C.w.ad 66)), some (.int v1), some (.int v2), some (.int (u2 + 1))] dMu_leadsTo_61 rfl rfl (by decide) rfl ?_
      refine g_goto X 2 dMu_leadsTo_64 (by decide) ?_
      exact gf_sub (hq2 (u2 + 1) s4) (by simp [lsub])
    · intro j61 hj61
      refine g_cne X (tgt := 61) dMu_leadsTo_29 (by decide) ?_ ?_
      · refine g_aload_n X dMu_leadsTo_32 rfl ?_
        refine g_getN X fl_Mu_28 fb_2_1 k_66 r_66_1 dMu_leadsTo_33 ?_
        refine g_getN X fl_Mu_102 fb_10_2 k_48 r_48_2 dMu_leadsTo_36 ?_
        refine g_iload_n X dMu_leadsTo_39 rfl ?_
        refine g_iconst X 1 dMu_leadsTo_40 (by decide) ?_
        refine g_virtI X [.int u2, .int 1] [] k_53 mm_Ta_tell mv_Ta_tell ml_Mu_77 (okTa_tell 53 u2 1 s2 k_53 C.l C.w) rfl (by decide) rfl (Nat.le_of_ble_eq_true rfl) dMu_leadsTo_41 (fun r6 s5 => ?_)
        refine g_iload_n X dMu_leadsTo_44 rfl ?_
        refine g_cne X (tgt := 61) dMu_leadsTo_45 (by decide) ?_ ?_
        · refine g_aload_n X dMu_leadsTo_48 rfl ?_
          refine g_getN X fl_Mu_28 fb_2_1 k_66 r_66_1 dMu_leadsTo_49 ?_
          refine g_getN X fl_Mu_102 fb_10_2 k_48 r_48_2 dMu_leadsTo_52 ?_
          refine g_iload_n X dMu_leadsTo_55 rfl ?_
          refine g_iconst X 2 dMu_leadsTo_56 (by decide) ?_
          refine g_virtI X [.int u2, .int 2] [] k_53 mm_Ta_tell mv_Ta_tell ml_Mu_77 (okTa_tell 53 u2 2 s5 k_53 C.l C.w) rfl (by decide) rfl (Nat.le_of_ble_eq_true rfl) dMu_leadsTo_57 (fun r8 s7 => ?_)
          exact g_iret X E dMu_leadsTo_60
        · exact gf_sub (hj61 s5) (by simp [lsub])
      · exact gf_sub (hj61 s2) (by simp [lsub])
def yMu_stepsBy : MethodName := ⟨"LastWordHill$Muse", "stepsBy", "(III)I"⟩
abbrev cMu_stepsBy : ByteArray := prog_4_method_14_code
theorem dMu_stepsBy_0 : decode cMu_stepsBy 0 = .ok (.iload_n 1, 1) := by decide +kernel
theorem dMu_stepsBy_1 : decode cMu_stepsBy 1 = .ok (.istore 4, 2) := by decide +kernel
theorem dMu_stepsBy_3 : decode cMu_stepsBy 3 = .ok (.iconst 0, 1) := by decide +kernel
theorem dMu_stepsBy_4 : decode cMu_stepsBy 4 = .ok (.istore 5, 2) := by decide +kernel
theorem dMu_stepsBy_6 : decode cMu_stepsBy 6 = .ok (.iload 5, 2) := by decide +kernel
theorem dMu_stepsBy_8 : decode cMu_stepsBy 8 = .ok (.bipush 10, 2) := by decide +kernel
theorem dMu_stepsBy_10 : decode cMu_stepsBy 10 = .ok (.if_icmp .ge 33, 3) := by decide +kernel
theorem dMu_stepsBy_43 : decode cMu_stepsBy 43 = .ok (.iconst (-1), 1) := by decide +kernel
theorem dMu_stepsBy_44 : decode cMu_stepsBy 44 = .ok (.ireturn, 1) := by decide +kernel
theorem dMu_stepsBy_13 : decode cMu_stepsBy 13 = .ok (.iload 4, 2) := by decide +kernel
theorem dMu_stepsBy_15 : decode cMu_stepsBy 15 = .ok (.iconst (-1), 1) := by decide +kernel
theorem dMu_stepsBy_16 : decode cMu_stepsBy 16 = .ok (.if_icmp .eq 27, 3) := by decide +kernel
theorem dMu_stepsBy_19 : decode cMu_stepsBy 19 = .ok (.iload 4, 2) := by decide +kernel
theorem dMu_stepsBy_21 : decode cMu_stepsBy 21 = .ok (.iload_n 2, 1) := by decide +kernel
theorem dMu_stepsBy_22 : decode cMu_stepsBy 22 = .ok (.if_icmp .ne 6, 3) := by decide +kernel
theorem dMu_stepsBy_28 : decode cMu_stepsBy 28 = .ok (.aload_n 0, 1) := by decide +kernel
theorem dMu_stepsBy_29 : decode cMu_stepsBy 29 = .ok (.iload 4, 2) := by decide +kernel
theorem dMu_stepsBy_31 : decode cMu_stepsBy 31 = .ok (.iload_n 3, 1) := by decide +kernel
theorem dMu_stepsBy_32 : decode cMu_stepsBy 32 = .ok (.invokevirtual 105, 3) := by decide +kernel
theorem mm_Mu_leadsTo : MMc yMu_leadsTo cMu_leadsTo 4 (some .int) 2 := ⟨hz_in 1226 (by decide +kernel) (by decide +kernel), hz_in 145 (by decide +kernel) (by decide +kernel), by decide +kernel, by decide⟩
theorem mv_Mu_leadsTo : MMv yMu_leadsTo 2 := ⟨hz_in 1225 (by decide +kernel) (by decide +kernel), hz_in 40 (by decide +kernel) (by decide +kernel), _, _, rfl, by decide⟩
theorem ml_Mu_105 : Cond.methodLink "LastWordHill$Muse" 105 yMu_leadsTo ∈ hz_wt := hz_in 1223 (by decide +kernel) (by decide +kernel)
theorem dMu_stepsBy_35 : decode cMu_stepsBy 35 = .ok (.istore 4, 2) := by decide +kernel
theorem dMu_stepsBy_37 : decode cMu_stepsBy 37 = .ok (.iinc 5 1, 3) := by decide +kernel
theorem dMu_stepsBy_40 : decode cMu_stepsBy 40 = .ok (.goto (-34), 3) := by decide +kernel
theorem dMu_stepsBy_25 : decode cMu_stepsBy 25 = .ok (.iload 5, 2) := by decide +kernel
theorem dMu_stepsBy_27 : decode cMu_stepsBy 27 = .ok (.ireturn, 1) := by decide +kernel
def fMu_stepsBy (v1 : Int32) (v2 : Int32) (v3 : Int32) (s0 : Sg) : Option (Int32 × Sg) := lp FU (fun q6 (u6 : Int32 × Int32) (s1 : Sg) => if 10 ≤ u6.2 then (some ((-1), s1)) else (if u6.1 = (-1) then (some ((-1), s1)) else (if u6.1 = v2 then (some (u6.2, s1)) else (bi (fMu_leadsTo u6.1 v3 s1) fun r3 s2 => q6 (r3, (u6.2 + 1)) s2)))) (v1, 0) s0
set_option maxHeartbeats 4000000 in
set_option maxRecDepth 100000 in
theorem okMu_stepsBy (v1 : Int32) (v2 : Int32) (v3 : Int32) (s0 : Sg) : ∀ (l : Launch) (w : WC), Ok l w yMu_stepsBy cMu_stepsBy 6 (some .int) 4 evI [.ref (w.ad 66), .int v1, .int v2, .int v3] s0 (fMu_stepsBy v1 v2 v3 s0) := by
  refine ok_in (ev := fun _ => evI) (av := fun w => [.ref (w.ad 66), .int v1, .int v2, .int v3]) "LastWordHill$Muse" rfl (by decide +kernel) (fun _ => rfl) (fun _ => Nat.le_of_ble_eq_true rfl) ?_
  intro C X E
  show GF C evI 0 [some (.ref (C.w.ad 66)), some (.int v1), some (.int v2), some (.int v3), none, none] [] s0 (fMu_stepsBy v1 v2 v3 s0)
  unfold fMu_stepsBy
  refine g_iload_n X dMu_stepsBy_0 rfl ?_
  refine g_istore X [some (.ref (C.w.ad 66)), some (.int v1), some (.int v2), some (.int v3), some (.int v1), none] dMu_stepsBy_1 (by decide) (Nat.le_of_ble_eq_true rfl) rfl ?_
  refine g_iconst X 0 dMu_stepsBy_3 (by decide) ?_
  refine g_istore X [some (.ref (C.w.ad 66)), some (.int v1), some (.int v2), some (.int v3), some (.int v1), some (.int 0)] dMu_stepsBy_4 (by decide) (Nat.le_of_ble_eq_true rfl) rfl ?_
  refine gf_sub (L' := [some (.ref (C.w.ad 66)), none, some (.int v2), some (.int v3), some (.int v1), some (.int 0)]) ?_ (by simp [lsub])
  refine gf_lp (Lf := fun (u6 : Int32 × Int32) => [some (.ref (C.w.ad 66)), none, some (.int v2), some (.int v3), some (.int u6.1), some (.int u6.2)]) (fun q6 hq6 u6 s1 => ?_) FU (v1, 0) s0
  refine g_iload X dMu_stepsBy_6 rfl ?_
  refine g_bipush X 10 dMu_stepsBy_8 (by decide) ?_
  refine g_cge X (tgt := 43) dMu_stepsBy_10 (by decide) ?_ ?_
  · refine g_iconst X (-1) dMu_stepsBy_43 (by decide) ?_
    exact g_iret X E dMu_stepsBy_44
  · refine g_iload X dMu_stepsBy_13 rfl ?_
    refine g_iconst X (-1) dMu_stepsBy_15 (by decide) ?_
    refine g_ceq X (tgt := 43) dMu_stepsBy_16 (by decide) ?_ ?_
    · refine g_iconst X (-1) dMu_stepsBy_43 (by decide) ?_
      exact g_iret X E dMu_stepsBy_44
    · refine g_iload X dMu_stepsBy_19 rfl ?_
      refine g_iload_n X dMu_stepsBy_21 rfl ?_
      refine g_cne X (tgt := 28) dMu_stepsBy_22 (by decide) ?_ ?_
      · refine g_iload X dMu_stepsBy_25 rfl ?_
        exact g_iret X E dMu_stepsBy_27
      · refine g_aload_n X dMu_stepsBy_28 rfl ?_
        refine g_iload X dMu_stepsBy_29 rfl ?_
        refine g_iload_n X dMu_stepsBy_31 rfl ?_
        refine g_virtI X [.int u6.1, .int v3] [] k_66 mm_Mu_leadsTo mv_Mu_leadsTo ml_Mu_105 (okMu_leadsTo u6.1 v3 s1 C.l C.w) rfl (by decide) rfl (Nat.le_of_ble_eq_true rfl) dMu_stepsBy_32 (fun r3 s2 => ?_)
        refine g_istore X [some (.ref (C.w.ad 66)), none, some (.int v2), some (.int v3), some (.int r3), some (.int u6.2)] dMu_stepsBy_35 (by decide) (Nat.le_of_ble_eq_true rfl) rfl ?_
        refine g_iinc X (u6.2 + 1) [some (.ref (C.w.ad 66)), none, some (.int v2), some (.int v3), some (.int r3), some (.int (u6.2 + 1))] dMu_stepsBy_37 rfl rfl (by decide) rfl ?_
        refine g_goto X 6 dMu_stepsBy_40 (by decide) ?_
        exact gf_sub (hq6 (r3, (u6.2 + 1)) s2) (by simp [lsub])
def yMu_startAt : MethodName := ⟨"LastWordHill$Muse", "startAt", "(I)V"⟩
abbrev cMu_startAt : ByteArray := prog_4_method_16_code
theorem dMu_startAt_0 : decode cMu_startAt 0 = .ok (.aload_n 0, 1) := by decide +kernel
theorem dMu_startAt_1 : decode cMu_startAt 1 = .ok (.getfield 9, 3) := by decide +kernel
theorem dMu_startAt_4 : decode cMu_startAt 4 = .ok (.iconst (-1), 1) := by decide +kernel
theorem dMu_startAt_5 : decode cMu_startAt 5 = .ok (.invokestatic 118, 3) := by decide +kernel
theorem ml_Mu_118 : Cond.methodLink "LastWordHill$Muse" 118 yJ7_fill_53178 ∈ hz_wt := hz_in 1213 (by decide +kernel) (by decide +kernel)
theorem dMu_startAt_8 : decode cMu_startAt 8 = .ok (.aload_n 0, 1) := by decide +kernel
theorem dMu_startAt_9 : decode cMu_startAt 9 = .ok (.iload_n 1, 1) := by decide +kernel
theorem dMu_startAt_10 : decode cMu_startAt 10 = .ok (.iconst 0, 1) := by decide +kernel
theorem dMu_startAt_11 : decode cMu_startAt 11 = .ok (.invokevirtual 115, 3) := by decide +kernel
theorem mm_Mu_reach : MMc yMu_reach cMu_reach 3 none 2 := ⟨hz_in 1217 (by decide +kernel) (by decide +kernel), hz_in 145 (by decide +kernel) (by decide +kernel), by decide +kernel, by decide⟩
theorem mv_Mu_reach : MMv yMu_reach 2 := ⟨hz_in 1216 (by decide +kernel) (by decide +kernel), hz_in 38 (by decide +kernel) (by decide +kernel), _, _, rfl, by decide⟩
theorem ml_Mu_115 : Cond.methodLink "LastWordHill$Muse" 115 yMu_reach ∈ hz_wt := hz_in 1214 (by decide +kernel) (by decide +kernel)
theorem dMu_startAt_14 : decode cMu_startAt 14 = .ok (.return_, 1) := by decide +kernel
def fMu_startAt (v1 : Int32) (s0 : Sg) : Option (Sg) := bv (fJ7_fill_53178 67 (-1) s0) fun s1 => bv (fMu_reach v1 0 s1) fun s2 => some s2
set_option maxHeartbeats 4000000 in
set_option maxRecDepth 100000 in
theorem okMu_startAt (v1 : Int32) (s0 : Sg) : ∀ (l : Launch) (w : WC), Ok l w yMu_startAt cMu_startAt 2 none 3 evV [.ref (w.ad 66), .int v1] s0 (fMu_startAt v1 s0) := by
  refine ok_in (ev := fun _ => evV) (av := fun w => [.ref (w.ad 66), .int v1]) "LastWordHill$Muse" rfl (by decide +kernel) (fun _ => rfl) (fun _ => Nat.le_of_ble_eq_true rfl) ?_
  intro C X E
  show GF C evV 0 [some (.ref (C.w.ad 66)), some (.int v1)] [] s0 (fMu_startAt v1 s0)
  unfold fMu_startAt
  refine g_aload_n X dMu_startAt_0 rfl ?_
  refine g_getN X fl_Mu_9 fb_2_2 k_66 r_66_2 dMu_startAt_1 ?_
  refine g_iconst X (-1) dMu_startAt_4 (by decide) ?_
  refine g_statV X [.ref (C.w.ad 67), .int (-1)] [] mm_J7_fill_53178 ms_J7_fill_53178 ml_Mu_118 (okJ7_fill_53178 67 (-1) s0 k_67 C.l C.w) rfl (by decide) rfl (Nat.le_of_ble_eq_true rfl) dMu_startAt_5 (fun s1 => ?_)
  refine g_aload_n X dMu_startAt_8 rfl ?_
  refine g_iload_n X dMu_startAt_9 rfl ?_
  refine g_iconst X 0 dMu_startAt_10 (by decide) ?_
  refine g_virtV X [.int v1, .int 0] [] k_66 mm_Mu_reach mv_Mu_reach ml_Mu_115 (okMu_reach v1 0 s1 C.l C.w) rfl (by decide) rfl (Nat.le_of_ble_eq_true rfl) dMu_startAt_11 (fun s2 => ?_)
  exact g_vret X E dMu_startAt_14
