def yJ2_indexOf_4cfef : MethodName := ⟨"java/lang/StringUTF16", "indexOf", "([BIII)I"⟩
abbrev cJ2_indexOf_4cfef : ByteArray := prog_20_method_40_code
theorem dJ2_indexOf_4cfef_0 : decode cJ2_indexOf_4cfef 0 = .ok (.iload_n 2, 1) := by decide +kernel
theorem dJ2_indexOf_4cfef_1 : decode cJ2_indexOf_4cfef 1 = .ok (.iconst 0, 1) := by decide +kernel
theorem dJ2_indexOf_4cfef_2 : decode cJ2_indexOf_4cfef 2 = .ok (.invokestatic 224, 3) := by decide +kernel
theorem mm_J9_max_7cf53 : MMc yJ9_max_7cf53 cJ9_max_7cf53 2 (some .int) 2 := ⟨hz_in 272 (by decide +kernel) (by decide +kernel), hz_in 140 (by decide +kernel) (by decide +kernel), by decide +kernel, by decide⟩
theorem ms_J9_max_7cf53 : Cond.static yJ9_max_7cf53 ∈ hz_wt := hz_in 271 (by decide +kernel) (by decide +kernel)
theorem ml_java_lang_StringUTF16_224 : Cond.methodLink "java/lang/StringUTF16" 224 yJ9_max_7cf53 ∈ hz_wt := hz_in 943 (by decide +kernel) (by decide +kernel)
theorem dJ2_indexOf_4cfef_5 : decode cJ2_indexOf_4cfef 5 = .ok (.istore_n 2, 1) := by decide +kernel
theorem dJ2_indexOf_4cfef_6 : decode cJ2_indexOf_4cfef 6 = .ok (.iload_n 3, 1) := by decide +kernel
theorem dJ2_indexOf_4cfef_7 : decode cJ2_indexOf_4cfef 7 = .ok (.aload_n 0, 1) := by decide +kernel
theorem dJ2_indexOf_4cfef_8 : decode cJ2_indexOf_4cfef 8 = .ok (.arraylength, 1) := by decide +kernel
theorem dJ2_indexOf_4cfef_9 : decode cJ2_indexOf_4cfef 9 = .ok (.iconst 1, 1) := by decide +kernel
theorem dJ2_indexOf_4cfef_10 : decode cJ2_indexOf_4cfef 10 = .ok (.ishr, 1) := by decide +kernel
theorem dJ2_indexOf_4cfef_11 : decode cJ2_indexOf_4cfef 11 = .ok (.invokestatic 183, 3) := by decide +kernel
theorem mm_J9_min_7cf53 : MMc yJ9_min_7cf53 cJ9_min_7cf53 2 (some .int) 2 := ⟨hz_in 730 (by decide +kernel) (by decide +kernel), hz_in 140 (by decide +kernel) (by decide +kernel), by decide +kernel, by decide⟩
theorem ms_J9_min_7cf53 : Cond.static yJ9_min_7cf53 ∈ hz_wt := hz_in 729 (by decide +kernel) (by decide +kernel)
theorem ml_java_lang_StringUTF16_183 : Cond.methodLink "java/lang/StringUTF16" 183 yJ9_min_7cf53 ∈ hz_wt := hz_in 944 (by decide +kernel) (by decide +kernel)
theorem dJ2_indexOf_4cfef_14 : decode cJ2_indexOf_4cfef 14 = .ok (.istore_n 3, 1) := by decide +kernel
theorem dJ2_indexOf_4cfef_15 : decode cJ2_indexOf_4cfef 15 = .ok (.iload_n 2, 1) := by decide +kernel
theorem dJ2_indexOf_4cfef_16 : decode cJ2_indexOf_4cfef 16 = .ok (.iload_n 3, 1) := by decide +kernel
theorem dJ2_indexOf_4cfef_17 : decode cJ2_indexOf_4cfef 17 = .ok (.if_icmp .lt 5, 3) := by decide +kernel
theorem dJ2_indexOf_4cfef_22 : decode cJ2_indexOf_4cfef 22 = .ok (.iload_n 1, 1) := by decide +kernel
theorem dJ2_indexOf_4cfef_23 : decode cJ2_indexOf_4cfef 23 = .ok (.ldc 227, 2) := by decide +kernel
theorem kc_java_lang_StringUTF16_227 : Cond.constant "java/lang/StringUTF16" 227 65536 ∈ hz_wt := hz_in 945 (by decide +kernel) (by decide +kernel)
theorem dJ2_indexOf_4cfef_25 : decode cJ2_indexOf_4cfef 25 = .ok (.if_icmp .ge 11, 3) := by decide +kernel
theorem dJ2_indexOf_4cfef_36 : decode cJ2_indexOf_4cfef 36 = .ok (.aload_n 0, 1) := by decide +kernel
theorem dJ2_indexOf_4cfef_37 : decode cJ2_indexOf_4cfef 37 = .ok (.iload_n 1, 1) := by decide +kernel
theorem dJ2_indexOf_4cfef_38 : decode cJ2_indexOf_4cfef 38 = .ok (.iload_n 2, 1) := by decide +kernel
theorem dJ2_indexOf_4cfef_39 : decode cJ2_indexOf_4cfef 39 = .ok (.iload_n 3, 1) := by decide +kernel
theorem dJ2_indexOf_4cfef_40 : decode cJ2_indexOf_4cfef 40 = .ok (.invokestatic 232, 3) := by decide +kernel
theorem dJ2_indexOf_4cfef_28 : decode cJ2_indexOf_4cfef 28 = .ok (.aload_n 0, 1) := by decide +kernel
theorem dJ2_indexOf_4cfef_29 : decode cJ2_indexOf_4cfef 29 = .ok (.iload_n 1, 1) := by decide +kernel
theorem dJ2_indexOf_4cfef_30 : decode cJ2_indexOf_4cfef 30 = .ok (.iload_n 2, 1) := by decide +kernel
theorem dJ2_indexOf_4cfef_31 : decode cJ2_indexOf_4cfef 31 = .ok (.iload_n 3, 1) := by decide +kernel
theorem dJ2_indexOf_4cfef_32 : decode cJ2_indexOf_4cfef 32 = .ok (.invokestatic 228, 3) := by decide +kernel
theorem dJ2_indexOf_4cfef_20 : decode cJ2_indexOf_4cfef 20 = .ok (.iconst (-1), 1) := by decide +kernel
theorem dJ2_indexOf_4cfef_21 : decode cJ2_indexOf_4cfef 21 = .ok (.ireturn, 1) := by decide +kernel
def fJ2_indexOf_4cfef (o0 : Nat) (v1 : Int32) (v2 : Int32) (v3 : Int32) (s0 : Sg) : Option (Int32 × Sg) := bi (fJ9_max_7cf53 v2 0 s0) fun r2 s1 => bi (fJ9_min_7cf53 v3 ((nI (lenJS.getD o0 0)) >>> (1 &&& 31)) s1) fun r4 s3 => if r2 < r4 then (if 65536 ≤ v1 then none else none) else (some ((-1), s3))
set_option maxHeartbeats 4000000 in
set_option maxRecDepth 100000 in
theorem okJ2_indexOf_4cfef (o0 : Nat) (v1 : Int32) (v2 : Int32) (v3 : Int32) (s0 : Sg) (h0 : o0 < nJS) : ∀ (l : Launch) (w : WC), Ok l w yJ2_indexOf_4cfef cJ2_indexOf_4cfef 4 (some .int) 2 evI [.ref (w.aV o0), .int v1, .int v2, .int v3] s0 (fJ2_indexOf_4cfef o0 v1 v2 v3 s0) := by
  refine ok_in (ev := fun _ => evI) (av := fun w => [.ref (w.aV o0), .int v1, .int v2, .int v3]) "java/lang/StringUTF16" rfl (by decide +kernel) (fun _ => rfl) (fun _ => Nat.le_of_ble_eq_true rfl) ?_
  intro C X E
  show GF C evI 0 [some (.ref (C.w.aV o0)), some (.int v1), some (.int v2), some (.int v3)] [] s0 (fJ2_indexOf_4cfef o0 v1 v2 v3 s0)
  unfold fJ2_indexOf_4cfef
  refine g_iload_n X dJ2_indexOf_4cfef_0 rfl ?_
  refine g_iconst X 0 dJ2_indexOf_4cfef_1 (by decide) ?_
  refine g_statI X [.int v2, .int 0] [] mm_J9_max_7cf53 ms_J9_max_7cf53 ml_java_lang_StringUTF16_224 (okJ9_max_7cf53 v2 0 s0 C.l C.w) rfl (by decide) rfl (Nat.le_of_ble_eq_true rfl) dJ2_indexOf_4cfef_2 (fun r2 s1 => ?_)
  refine g_istore_n X [some (.ref (C.w.aV o0)), some (.int v1), some (.int r2), some (.int v3)] dJ2_indexOf_4cfef_5 (by decide) (Nat.le_of_ble_eq_true rfl) rfl ?_
  refine g_iload_n X dJ2_indexOf_4cfef_6 rfl ?_
  refine g_aload_n X dJ2_indexOf_4cfef_7 rfl ?_
  refine g_blen X h0 dJ2_indexOf_4cfef_8 ?_
  refine g_iconst X 1 dJ2_indexOf_4cfef_9 (by decide) ?_
  refine g_ishr X dJ2_indexOf_4cfef_10 ?_
  refine g_statI X [.int v3, .int ((nI (lenJS.getD o0 0)) >>> (1 &&& 31))] [] mm_J9_min_7cf53 ms_J9_min_7cf53 ml_java_lang_StringUTF16_183 (okJ9_min_7cf53 v3 ((nI (lenJS.getD o0 0)) >>> (1 &&& 31)) s1 C.l C.w) rfl (by decide) rfl (Nat.le_of_ble_eq_true rfl) dJ2_indexOf_4cfef_11 (fun r4 s3 => ?_)
  refine g_istore_n X [some (.ref (C.w.aV o0)), some (.int v1), some (.int r2), some (.int r4)] dJ2_indexOf_4cfef_14 (by decide) (Nat.le_of_ble_eq_true rfl) rfl ?_
  refine g_iload_n X dJ2_indexOf_4cfef_15 rfl ?_
  refine g_iload_n X dJ2_indexOf_4cfef_16 rfl ?_
  refine g_clt X (tgt := 22) dJ2_indexOf_4cfef_17 (by decide) ?_ ?_
  · refine g_iload_n X dJ2_indexOf_4cfef_22 rfl ?_
    refine g_ldc X kc_java_lang_StringUTF16_227 dJ2_indexOf_4cfef_23 ?_
    refine g_cge X (tgt := 36) dJ2_indexOf_4cfef_25 (by decide) ?_ ?_
    · refine g_aload_n X dJ2_indexOf_4cfef_36 rfl ?_
      refine g_iload_n X dJ2_indexOf_4cfef_37 rfl ?_
      refine g_iload_n X dJ2_indexOf_4cfef_38 rfl ?_
      refine g_iload_n X dJ2_indexOf_4cfef_39 rfl ?_
      exact gf_no
    · refine g_aload_n X dJ2_indexOf_4cfef_28 rfl ?_
      refine g_iload_n X dJ2_indexOf_4cfef_29 rfl ?_
      refine g_iload_n X dJ2_indexOf_4cfef_30 rfl ?_
      refine g_iload_n X dJ2_indexOf_4cfef_31 rfl ?_
      exact gf_no
  · refine g_iconst X (-1) dJ2_indexOf_4cfef_20 (by decide) ?_
    exact g_iret X E dJ2_indexOf_4cfef_21
def yJ2_indexOfChar_4cfef : MethodName := ⟨"java/lang/StringUTF16", "indexOfChar", "([BIII)I"⟩
abbrev cJ2_indexOfChar_4cfef : ByteArray := prog_20_method_47_code
theorem dJ2_indexOfChar_4cfef_0 : decode cJ2_indexOfChar_4cfef 0 = .ok (.iload_n 2, 1) := by decide +kernel
theorem dJ2_indexOfChar_4cfef_1 : decode cJ2_indexOfChar_4cfef 1 = .ok (.iload_n 3, 1) := by decide +kernel
theorem dJ2_indexOfChar_4cfef_2 : decode cJ2_indexOfChar_4cfef 2 = .ok (.aload_n 0, 1) := by decide +kernel
theorem dJ2_indexOfChar_4cfef_3 : decode cJ2_indexOfChar_4cfef 3 = .ok (.invokestatic 96, 3) := by decide +kernel
def fJ2_indexOfChar_4cfef (o0 : Nat) (v1 : Int32) (v2 : Int32) (v3 : Int32) (s0 : Sg) : Option (Int32 × Sg) := none
set_option maxHeartbeats 4000000 in
set_option maxRecDepth 100000 in
theorem okJ2_indexOfChar_4cfef (o0 : Nat) (v1 : Int32) (v2 : Int32) (v3 : Int32) (s0 : Sg) (h0 : o0 < nJS) : ∀ (l : Launch) (w : WC), Ok l w yJ2_indexOfChar_4cfef cJ2_indexOfChar_4cfef 4 (some .int) 1 evI [.ref (w.aV o0), .int v1, .int v2, .int v3] s0 (fJ2_indexOfChar_4cfef o0 v1 v2 v3 s0) := by
  refine ok_in (ev := fun _ => evI) (av := fun w => [.ref (w.aV o0), .int v1, .int v2, .int v3]) "java/lang/StringUTF16" rfl (by decide +kernel) (fun _ => rfl) (fun _ => Nat.le_of_ble_eq_true rfl) ?_
  intro C X E
  show GF C evI 0 [some (.ref (C.w.aV o0)), some (.int v1), some (.int v2), some (.int v3)] [] s0 (fJ2_indexOfChar_4cfef o0 v1 v2 v3 s0)
  unfold fJ2_indexOfChar_4cfef
  refine g_iload_n X dJ2_indexOfChar_4cfef_0 rfl ?_
  refine g_iload_n X dJ2_indexOfChar_4cfef_1 rfl ?_
  refine g_aload_n X dJ2_indexOfChar_4cfef_2 rfl ?_
  exact gf_no
def yJ2_indexOfCharUnsafe_4cfef : MethodName := ⟨"java/lang/StringUTF16", "indexOfCharUnsafe", "([BIII)I"⟩
abbrev cJ2_indexOfCharUnsafe_4cfef : ByteArray := prog_20_method_48_code
theorem dJ2_indexOfCharUnsafe_4cfef_0 : decode cJ2_indexOfCharUnsafe_4cfef 0 = .ok (.iload_n 2, 1) := by decide +kernel
theorem dJ2_indexOfCharUnsafe_4cfef_1 : decode cJ2_indexOfCharUnsafe_4cfef 1 = .ok (.istore 4, 2) := by decide +kernel
theorem dJ2_indexOfCharUnsafe_4cfef_3 : decode cJ2_indexOfCharUnsafe_4cfef 3 = .ok (.iload 4, 2) := by decide +kernel
theorem dJ2_indexOfCharUnsafe_4cfef_5 : decode cJ2_indexOfCharUnsafe_4cfef 5 = .ok (.iload_n 3, 1) := by decide +kernel
theorem dJ2_indexOfCharUnsafe_4cfef_6 : decode cJ2_indexOfCharUnsafe_4cfef 6 = .ok (.if_icmp .ge 22, 3) := by decide +kernel
theorem dJ2_indexOfCharUnsafe_4cfef_28 : decode cJ2_indexOfCharUnsafe_4cfef 28 = .ok (.iconst (-1), 1) := by decide +kernel
theorem dJ2_indexOfCharUnsafe_4cfef_29 : decode cJ2_indexOfCharUnsafe_4cfef 29 = .ok (.ireturn, 1) := by decide +kernel
theorem dJ2_indexOfCharUnsafe_4cfef_9 : decode cJ2_indexOfCharUnsafe_4cfef 9 = .ok (.aload_n 0, 1) := by decide +kernel
theorem dJ2_indexOfCharUnsafe_4cfef_10 : decode cJ2_indexOfCharUnsafe_4cfef 10 = .ok (.iload 4, 2) := by decide +kernel
theorem dJ2_indexOfCharUnsafe_4cfef_12 : decode cJ2_indexOfCharUnsafe_4cfef 12 = .ok (.invokestatic 71, 3) := by decide +kernel
def fJ2_indexOfCharUnsafe_4cfef (o0 : Nat) (v1 : Int32) (v2 : Int32) (v3 : Int32) (s0 : Sg) : Option (Int32 × Sg) := lp FU (fun q3 (u3 : Int32) (s1 : Sg) => if v3 ≤ u3 then (some ((-1), s1)) else none) v2 s0
set_option maxHeartbeats 4000000 in
set_option maxRecDepth 100000 in
theorem okJ2_indexOfCharUnsafe_4cfef (o0 : Nat) (v1 : Int32) (v2 : Int32) (v3 : Int32) (s0 : Sg) (h0 : o0 < nJS) : ∀ (l : Launch) (w : WC), Ok l w yJ2_indexOfCharUnsafe_4cfef cJ2_indexOfCharUnsafe_4cfef 5 (some .int) 1 evI [.ref (w.aV o0), .int v1, .int v2, .int v3] s0 (fJ2_indexOfCharUnsafe_4cfef o0 v1 v2 v3 s0) := by
  refine ok_in (ev := fun _ => evI) (av := fun w => [.ref (w.aV o0), .int v1, .int v2, .int v3]) "java/lang/StringUTF16" rfl (by decide +kernel) (fun _ => rfl) (fun _ => Nat.le_of_ble_eq_true rfl) ?_
  intro C X E
  show GF C evI 0 [some (.ref (C.w.aV o0)), some (.int v1), some (.int v2), some (.int v3), none] [] s0 (fJ2_indexOfCharUnsafe_4cfef o0 v1 v2 v3 s0)
  unfold fJ2_indexOfCharUnsafe_4cfef
  refine g_iload_n X dJ2_indexOfCharUnsafe_4cfef_0 rfl ?_
  refine g_istore X [some (.ref (C.w.aV o0)), some (.int v1), some (.int v2), some (.int v3), some (.int v2)] dJ2_indexOfCharUnsafe_4cfef_1 (by decide) (Nat.le_of_ble_eq_true rfl) rfl ?_
  refine gf_sub (L' := [some (.ref (C.w.aV o0)), some (.int v1), none, some (.int v3), some (.int v2)]) ?_ (by simp [lsub])
  refine gf_lp (Lf := fun (u3 : Int32) => [some (.ref (C.w.aV o0)), some (.int v1), none, some (.int v3), some (.int u3)]) (fun q3 hq3 u3 s1 => ?_) FU v2 s0
  refine g_iload X dJ2_indexOfCharUnsafe_4cfef_3 rfl ?_
  refine g_iload_n X dJ2_indexOfCharUnsafe_4cfef_5 rfl ?_
  refine g_cge X (tgt := 28) dJ2_indexOfCharUnsafe_4cfef_6 (by decide) ?_ ?_
  · refine g_iconst X (-1) dJ2_indexOfCharUnsafe_4cfef_28 (by decide) ?_
    exact g_iret X E dJ2_indexOfCharUnsafe_4cfef_29
  · refine g_aload_n X dJ2_indexOfCharUnsafe_4cfef_9 rfl ?_
    refine g_iload X dJ2_indexOfCharUnsafe_4cfef_10 rfl ?_
    exact gf_no
def yJ2_indexOfSupplementary_4cfef : MethodName := ⟨"java/lang/StringUTF16", "indexOfSupplementary", "([BIII)I"⟩
abbrev cJ2_indexOfSupplementary_4cfef : ByteArray := prog_20_method_49_code
theorem dJ2_indexOfSupplementary_4cfef_0 : decode cJ2_indexOfSupplementary_4cfef 0 = .ok (.iload_n 1, 1) := by decide +kernel
theorem dJ2_indexOfSupplementary_4cfef_1 : decode cJ2_indexOfSupplementary_4cfef 1 = .ok (.invokestatic 164, 3) := by decide +kernel
theorem mm_J11_isValidCodePoint_9a6ad : MMc yJ11_isValidCodePoint_9a6ad cJ11_isValidCodePoint_9a6ad 2 (some .boolean) 1 := ⟨hz_in 966 (by decide +kernel) (by decide +kernel), hz_in 154 (by decide +kernel) (by decide +kernel), by decide +kernel, by decide⟩
theorem ms_J11_isValidCodePoint_9a6ad : Cond.static yJ11_isValidCodePoint_9a6ad ∈ hz_wt := hz_in 965 (by decide +kernel) (by decide +kernel)
theorem ml_java_lang_StringUTF16_164 : Cond.methodLink "java/lang/StringUTF16" 164 yJ11_isValidCodePoint_9a6ad ∈ hz_wt := hz_in 964 (by decide +kernel) (by decide +kernel)
theorem dJ2_indexOfSupplementary_4cfef_4 : decode cJ2_indexOfSupplementary_4cfef 4 = .ok (.ifCond .eq 65, 3) := by decide +kernel
theorem dJ2_indexOfSupplementary_4cfef_69 : decode cJ2_indexOfSupplementary_4cfef 69 = .ok (.iconst (-1), 1) := by decide +kernel
theorem dJ2_indexOfSupplementary_4cfef_70 : decode cJ2_indexOfSupplementary_4cfef 70 = .ok (.ireturn, 1) := by decide +kernel
theorem dJ2_indexOfSupplementary_4cfef_7 : decode cJ2_indexOfSupplementary_4cfef 7 = .ok (.iload_n 1, 1) := by decide +kernel
theorem dJ2_indexOfSupplementary_4cfef_8 : decode cJ2_indexOfSupplementary_4cfef 8 = .ok (.invokestatic 157, 3) := by decide +kernel
theorem mm_J11_highSurrogate_5068e : MMc yJ11_highSurrogate_5068e cJ11_highSurrogate_5068e 1 (some .char) 1 := ⟨hz_in 969 (by decide +kernel) (by decide +kernel), hz_in 154 (by decide +kernel) (by decide +kernel), by decide +kernel, by decide⟩
theorem ms_J11_highSurrogate_5068e : Cond.static yJ11_highSurrogate_5068e ∈ hz_wt := hz_in 968 (by decide +kernel) (by decide +kernel)
theorem ml_java_lang_StringUTF16_157 : Cond.methodLink "java/lang/StringUTF16" 157 yJ11_highSurrogate_5068e ∈ hz_wt := hz_in 967 (by decide +kernel) (by decide +kernel)
theorem dJ2_indexOfSupplementary_4cfef_11 : decode cJ2_indexOfSupplementary_4cfef 11 = .ok (.istore 4, 2) := by decide +kernel
theorem dJ2_indexOfSupplementary_4cfef_13 : decode cJ2_indexOfSupplementary_4cfef 13 = .ok (.iload_n 1, 1) := by decide +kernel
theorem dJ2_indexOfSupplementary_4cfef_14 : decode cJ2_indexOfSupplementary_4cfef 14 = .ok (.invokestatic 161, 3) := by decide +kernel
theorem mm_J11_lowSurrogate_5068e : MMc yJ11_lowSurrogate_5068e cJ11_lowSurrogate_5068e 1 (some .char) 1 := ⟨hz_in 973 (by decide +kernel) (by decide +kernel), hz_in 154 (by decide +kernel) (by decide +kernel), by decide +kernel, by decide⟩
theorem ms_J11_lowSurrogate_5068e : Cond.static yJ11_lowSurrogate_5068e ∈ hz_wt := hz_in 972 (by decide +kernel) (by decide +kernel)
theorem ml_java_lang_StringUTF16_161 : Cond.methodLink "java/lang/StringUTF16" 161 yJ11_lowSurrogate_5068e ∈ hz_wt := hz_in 971 (by decide +kernel) (by decide +kernel)
theorem dJ2_indexOfSupplementary_4cfef_17 : decode cJ2_indexOfSupplementary_4cfef 17 = .ok (.istore 5, 2) := by decide +kernel
theorem dJ2_indexOfSupplementary_4cfef_19 : decode cJ2_indexOfSupplementary_4cfef 19 = .ok (.iload_n 2, 1) := by decide +kernel
theorem dJ2_indexOfSupplementary_4cfef_20 : decode cJ2_indexOfSupplementary_4cfef 20 = .ok (.iload_n 3, 1) := by decide +kernel
theorem dJ2_indexOfSupplementary_4cfef_21 : decode cJ2_indexOfSupplementary_4cfef 21 = .ok (.aload_n 0, 1) := by decide +kernel
theorem dJ2_indexOfSupplementary_4cfef_22 : decode cJ2_indexOfSupplementary_4cfef 22 = .ok (.invokestatic 96, 3) := by decide +kernel
def fJ2_indexOfSupplementary_4cfef (o0 : Nat) (v1 : Int32) (v2 : Int32) (v3 : Int32) (s0 : Sg) : Option (Int32 × Sg) := bi (fJ11_isValidCodePoint_9a6ad v1 s0) fun r2 s1 => if r2 = 0 then (some ((-1), s1)) else (bi (fJ11_highSurrogate_5068e v1 s1) fun r4 s3 => bi (fJ11_lowSurrogate_5068e v1 s3) fun r6 s5 => none)
set_option maxHeartbeats 4000000 in
set_option maxRecDepth 100000 in
theorem okJ2_indexOfSupplementary_4cfef (o0 : Nat) (v1 : Int32) (v2 : Int32) (v3 : Int32) (s0 : Sg) (h0 : o0 < nJS) : ∀ (l : Launch) (w : WC), Ok l w yJ2_indexOfSupplementary_4cfef cJ2_indexOfSupplementary_4cfef 7 (some .int) 2 evI [.ref (w.aV o0), .int v1, .int v2, .int v3] s0 (fJ2_indexOfSupplementary_4cfef o0 v1 v2 v3 s0) := by
  refine ok_in (ev := fun _ => evI) (av := fun w => [.ref (w.aV o0), .int v1, .int v2, .int v3]) "java/lang/StringUTF16" rfl (by decide +kernel) (fun _ => rfl) (fun _ => Nat.le_of_ble_eq_true rfl) ?_
  intro C X E
  show GF C evI 0 [some (.ref (C.w.aV o0)), some (.int v1), some (.int v2), some (.int v3), none, none, none] [] s0 (fJ2_indexOfSupplementary_4cfef o0 v1 v2 v3 s0)
  unfold fJ2_indexOfSupplementary_4cfef
  refine g_iload_n X dJ2_indexOfSupplementary_4cfef_0 rfl ?_
  refine g_statI X [.int v1] [] mm_J11_isValidCodePoint_9a6ad ms_J11_isValidCodePoint_9a6ad ml_java_lang_StringUTF16_164 (okJ11_isValidCodePoint_9a6ad v1 s0 C.l C.w) rfl (by decide) rfl (Nat.le_of_ble_eq_true rfl) dJ2_indexOfSupplementary_4cfef_1 (fun r2 s1 => ?_)
  refine g_zeq X (tgt := 69) dJ2_indexOfSupplementary_4cfef_4 (by decide) ?_ ?_
  · refine g_iconst X (-1) dJ2_indexOfSupplementary_4cfef_69 (by decide) ?_
    exact g_iret X E dJ2_indexOfSupplementary_4cfef_70
  · refine g_iload_n X dJ2_indexOfSupplementary_4cfef_7 rfl ?_
    refine g_statI X [.int v1] [] mm_J11_highSurrogate_5068e ms_J11_highSurrogate_5068e ml_java_lang_StringUTF16_157 (okJ11_highSurrogate_5068e v1 s1 C.l C.w) rfl (by decide) rfl (Nat.le_of_ble_eq_true rfl) dJ2_indexOfSupplementary_4cfef_8 (fun r4 s3 => ?_)
    refine g_istore X [some (.ref (C.w.aV o0)), some (.int v1), some (.int v2), some (.int v3), some (.int r4), none, none] dJ2_indexOfSupplementary_4cfef_11 (by decide) (Nat.le_of_ble_eq_true rfl) rfl ?_
    refine g_iload_n X dJ2_indexOfSupplementary_4cfef_13 rfl ?_
    refine g_statI X [.int v1] [] mm_J11_lowSurrogate_5068e ms_J11_lowSurrogate_5068e ml_java_lang_StringUTF16_161 (okJ11_lowSurrogate_5068e v1 s3 C.l C.w) rfl (by decide) rfl (Nat.le_of_ble_eq_true rfl) dJ2_indexOfSupplementary_4cfef_14 (fun r6 s5 => ?_)
    refine g_istore X [some (.ref (C.w.aV o0)), some (.int v1), some (.int v2), some (.int v3), some (.int r4), some (.int r6), none] dJ2_indexOfSupplementary_4cfef_17 (by decide) (Nat.le_of_ble_eq_true rfl) rfl ?_
    refine g_iload_n X dJ2_indexOfSupplementary_4cfef_19 rfl ?_
    refine g_iload_n X dJ2_indexOfSupplementary_4cfef_20 rfl ?_
    refine g_aload_n X dJ2_indexOfSupplementary_4cfef_21 rfl ?_
    exact gf_no
def yJ2_charAt_3b067 : MethodName := ⟨"java/lang/StringUTF16", "charAt", "([BI)C"⟩
abbrev cJ2_charAt_3b067 : ByteArray := prog_20_method_83_code
theorem dJ2_charAt_3b067_0 : decode cJ2_charAt_3b067 0 = .ok (.iload_n 1, 1) := by decide +kernel
theorem dJ2_charAt_3b067_1 : decode cJ2_charAt_3b067 1 = .ok (.aload_n 0, 1) := by decide +kernel
theorem dJ2_charAt_3b067_2 : decode cJ2_charAt_3b067 2 = .ok (.invokestatic 67, 3) := by decide +kernel
def fJ2_charAt_3b067 (o0 : Nat) (v1 : Int32) (s0 : Sg) : Option (Int32 × Sg) := none
set_option maxHeartbeats 4000000 in
set_option maxRecDepth 100000 in
theorem okJ2_charAt_3b067 (o0 : Nat) (v1 : Int32) (s0 : Sg) (h0 : o0 < nJS) : ∀ (l : Launch) (w : WC), Ok l w yJ2_charAt_3b067 cJ2_charAt_3b067 2 (some .char) 1 evI [.ref (w.aV o0), .int v1] s0 (fJ2_charAt_3b067 o0 v1 s0) := by
  refine ok_in (ev := fun _ => evI) (av := fun w => [.ref (w.aV o0), .int v1]) "java/lang/StringUTF16" rfl (by decide +kernel) (fun _ => rfl) (fun _ => Nat.le_of_ble_eq_true rfl) ?_
  intro C X E
  show GF C evI 0 [some (.ref (C.w.aV o0)), some (.int v1)] [] s0 (fJ2_charAt_3b067 o0 v1 s0)
  unfold fJ2_charAt_3b067
  refine g_iload_n X dJ2_charAt_3b067_0 rfl ?_
  refine g_aload_n X dJ2_charAt_3b067_1 rfl ?_
  exact gf_no
def yJ7_fill_53178 : MethodName := ⟨"java/util/Arrays", "fill", "([II)V"⟩
abbrev cJ7_fill_53178 : ByteArray := prog_22_method_103_code
theorem dJ7_fill_53178_0 : decode cJ7_fill_53178 0 = .ok (.iconst 0, 1) := by decide +kernel
theorem dJ7_fill_53178_1 : decode cJ7_fill_53178 1 = .ok (.istore_n 2, 1) := by decide +kernel
theorem dJ7_fill_53178_2 : decode cJ7_fill_53178 2 = .ok (.aload_n 0, 1) := by decide +kernel
theorem dJ7_fill_53178_3 : decode cJ7_fill_53178 3 = .ok (.arraylength, 1) := by decide +kernel
theorem dJ7_fill_53178_4 : decode cJ7_fill_53178 4 = .ok (.istore_n 3, 1) := by decide +kernel
theorem dJ7_fill_53178_5 : decode cJ7_fill_53178 5 = .ok (.iload_n 2, 1) := by decide +kernel
theorem dJ7_fill_53178_6 : decode cJ7_fill_53178 6 = .ok (.iload_n 3, 1) := by decide +kernel
theorem dJ7_fill_53178_7 : decode cJ7_fill_53178 7 = .ok (.if_icmp .ge 13, 3) := by decide +kernel
theorem dJ7_fill_53178_20 : decode cJ7_fill_53178 20 = .ok (.return_, 1) := by decide +kernel
theorem dJ7_fill_53178_10 : decode cJ7_fill_53178 10 = .ok (.aload_n 0, 1) := by decide +kernel
theorem dJ7_fill_53178_11 : decode cJ7_fill_53178 11 = .ok (.iload_n 2, 1) := by decide +kernel
theorem dJ7_fill_53178_12 : decode cJ7_fill_53178 12 = .ok (.iload_n 1, 1) := by decide +kernel
theorem dJ7_fill_53178_13 : decode cJ7_fill_53178 13 = .ok (.iastore, 1) := by decide +kernel
theorem dJ7_fill_53178_14 : decode cJ7_fill_53178 14 = .ok (.iinc 2 1, 3) := by decide +kernel
theorem dJ7_fill_53178_17 : decode cJ7_fill_53178 17 = .ok (.goto (-12), 3) := by decide +kernel
def fJ7_fill_53178 (o0 : Nat) (v1 : Int32) (s0 : Sg) : Option (Sg) := lp FU (fun q5 (u5 : Int32) (s1 : Sg) => if (nI (hz_ln o0)) ≤ u5 then (some s1) else (gd u5 (hz_ln o0) (bnd (pt s1 o0 (ix u5) v1) fun s2 => q5 (u5 + 1) s2))) 0 s0
set_option maxHeartbeats 4000000 in
set_option maxRecDepth 100000 in
theorem okJ7_fill_53178 (o0 : Nat) (v1 : Int32) (s0 : Sg) (h0 : hz_kd o0 = 13) : ∀ (l : Launch) (w : WC), Ok l w yJ7_fill_53178 cJ7_fill_53178 4 none 1 evV [.ref (w.ad o0), .int v1] s0 (fJ7_fill_53178 o0 v1 s0) := by
  refine ok_in (ev := fun _ => evV) (av := fun w => [.ref (w.ad o0), .int v1]) "java/util/Arrays" rfl (by decide +kernel) (fun _ => rfl) (fun _ => Nat.le_of_ble_eq_true rfl) ?_
  intro C X E
  show GF C evV 0 [some (.ref (C.w.ad o0)), some (.int v1), none, none] [] s0 (fJ7_fill_53178 o0 v1 s0)
  unfold fJ7_fill_53178
  refine g_iconst X 0 dJ7_fill_53178_0 (by decide) ?_
  refine g_istore_n X [some (.ref (C.w.ad o0)), some (.int v1), some (.int 0), none] dJ7_fill_53178_1 (by decide) (Nat.le_of_ble_eq_true rfl) rfl ?_
  refine g_aload_n X dJ7_fill_53178_2 rfl ?_
  refine g_alen X h0 rfl dJ7_fill_53178_3 ?_
  refine g_istore_n X [some (.ref (C.w.ad o0)), some (.int v1), some (.int 0), some (.int (nI (hz_ln o0)))] dJ7_fill_53178_4 (by decide) (Nat.le_of_ble_eq_true rfl) rfl ?_
  refine gf_sub (L' := [some (.ref (C.w.ad o0)), some (.int v1), some (.int 0), some (.int (nI (hz_ln o0)))]) ?_ (by simp [lsub])
  refine gf_lp (Lf := fun (u5 : Int32) => [some (.ref (C.w.ad o0)), some (.int v1), some (.int u5), some (.int (nI (hz_ln o0)))]) (fun q5 hq5 u5 s1 => ?_) FU 0 s0
  refine g_iload_n X dJ7_fill_53178_5 rfl ?_
  refine g_iload_n X dJ7_fill_53178_6 rfl ?_
  refine g_cge X (tgt := 20) dJ7_fill_53178_7 (by decide) ?_ ?_
  · exact g_vret X E dJ7_fill_53178_20
  · refine g_aload_n X dJ7_fill_53178_10 rfl ?_
    refine g_iload_n X dJ7_fill_53178_11 rfl ?_
    refine g_iload_n X dJ7_fill_53178_12 rfl ?_
    refine g_iast X h0 rfl dJ7_fill_53178_13 (fun s2 => ?_)
    refine g_iinc X (u5 + 1) [some (.ref (C.w.ad o0)), some (.int v1), some (.int (u5 + 1)), some (.int (nI (hz_ln o0)))] dJ7_fill_53178_14 rfl rfl (by decide) rfl ?_
    refine g_goto X 5 dJ7_fill_53178_17 (by decide) ?_
    exact gf_sub (hq5 (u5 + 1) s2) (by simp [lsub])
def yJ3_checkIndex_8e157 : MethodName := ⟨"jdk/internal/util/Preconditions", "checkIndex", "(IILjava/util/function/BiFunction;)I"⟩
abbrev cJ3_checkIndex_8e157 : ByteArray := prog_23_method_11_code
theorem dJ3_checkIndex_8e157_0 : decode cJ3_checkIndex_8e157 0 = .ok (.iload_n 0, 1) := by decide +kernel
theorem dJ3_checkIndex_8e157_1 : decode cJ3_checkIndex_8e157 1 = .ok (.ifCond .lt 8, 3) := by decide +kernel
theorem dJ3_checkIndex_8e157_4 : decode cJ3_checkIndex_8e157 4 = .ok (.iload_n 0, 1) := by decide +kernel
theorem dJ3_checkIndex_8e157_5 : decode cJ3_checkIndex_8e157 5 = .ok (.iload_n 1, 1) := by decide +kernel
theorem dJ3_checkIndex_8e157_6 : decode cJ3_checkIndex_8e157 6 = .ok (.if_icmp .lt 10, 3) := by decide +kernel
theorem dJ3_checkIndex_8e157_16 : decode cJ3_checkIndex_8e157 16 = .ok (.iload_n 0, 1) := by decide +kernel
theorem dJ3_checkIndex_8e157_17 : decode cJ3_checkIndex_8e157 17 = .ok (.ireturn, 1) := by decide +kernel
def fJ3_checkIndex_8e157 (v0 : Int32) (v1 : Int32) (s0 : Sg) : Option (Int32 × Sg) := if v0 < 0 then none else (if v0 < v1 then (some (v0, s0)) else none)
set_option maxHeartbeats 4000000 in
set_option maxRecDepth 100000 in
theorem okJ3_checkIndex_8e157 (v0 : Int32) (v1 : Int32) (s0 : Sg) : ∀ (l : Launch) (w : WC), Ok l w yJ3_checkIndex_8e157 cJ3_checkIndex_8e157 3 (some .int) 1 evI [.int v0, .int v1, va_rf w.fm] s0 (fJ3_checkIndex_8e157 v0 v1 s0) := by
  refine ok_in (ev := fun _ => evI) (av := fun w => [.int v0, .int v1, va_rf w.fm]) "jdk/internal/util/Preconditions" rfl (by decide +kernel) (fun w => by obtain ⟨_, _, _, _, _, _, _, _, q⟩ := w; cases q <;> rfl) (fun _ => Nat.le_of_ble_eq_true rfl) ?_
  intro C X E
  show GF C evI 0 [some (.int v0), some (.int v1), some (va_rf C.w.fm)] [] s0 (fJ3_checkIndex_8e157 v0 v1 s0)
  unfold fJ3_checkIndex_8e157
  refine g_iload_n X dJ3_checkIndex_8e157_0 rfl ?_
  refine g_zlt X (tgt := 9) dJ3_checkIndex_8e157_1 (by decide) ?_ ?_
  · exact gf_no
  · refine g_iload_n X dJ3_checkIndex_8e157_4 rfl ?_
    refine g_iload_n X dJ3_checkIndex_8e157_5 rfl ?_
    refine g_clt X (tgt := 16) dJ3_checkIndex_8e157_6 (by decide) ?_ ?_
    · refine g_iload_n X dJ3_checkIndex_8e157_16 rfl ?_
      exact g_iret X E dJ3_checkIndex_8e157_17
    · exact gf_no
def yJ3_checkFromToIndex_8c36e : MethodName := ⟨"jdk/internal/util/Preconditions", "checkFromToIndex", "(IIILjava/util/function/BiFunction;)I"⟩
abbrev cJ3_checkFromToIndex_8c36e : ByteArray := prog_23_method_12_code
theorem dJ3_checkFromToIndex_8c36e_0 : decode cJ3_checkFromToIndex_8c36e 0 = .ok (.iload_n 0, 1) := by decide +kernel
theorem dJ3_checkFromToIndex_8c36e_1 : decode cJ3_checkFromToIndex_8c36e 1 = .ok (.ifCond .lt 13, 3) := by decide +kernel
theorem dJ3_checkFromToIndex_8c36e_14 : decode cJ3_checkFromToIndex_8c36e 14 = .ok (.aload_n 3, 1) := by decide +kernel
def fJ3_checkFromToIndex_8c36e (v0 : Int32) (v1 : Int32) (v2 : Int32) (s0 : Sg) : Option (Int32 × Sg) := none
set_option maxHeartbeats 4000000 in
set_option maxRecDepth 100000 in
theorem okJ3_checkFromToIndex_8c36e (v0 : Int32) (v1 : Int32) (v2 : Int32) (s0 : Sg) : ∀ (l : Launch) (w : WC), Ok l w yJ3_checkFromToIndex_8c36e cJ3_checkFromToIndex_8c36e 4 (some .int) 1 evI [.int v0, .int v1, .int v2, va_rf w.fm] s0 (fJ3_checkFromToIndex_8c36e v0 v1 v2 s0) := by
  refine ok_in (ev := fun _ => evI) (av := fun w => [.int v0, .int v1, .int v2, va_rf w.fm]) "jdk/internal/util/Preconditions" rfl (by decide +kernel) (fun w => by obtain ⟨_, _, _, _, _, _, _, _, q⟩ := w; cases q <;> rfl) (fun _ => Nat.le_of_ble_eq_true rfl) ?_
  intro C X E
  show GF C evI 0 [some (.int v0), some (.int v1), some (.int v2), some (va_rf C.w.fm)] [] s0 (fJ3_checkFromToIndex_8c36e v0 v1 v2 s0)
  unfold fJ3_checkFromToIndex_8c36e
  refine g_iload_n X dJ3_checkFromToIndex_8c36e_0 rfl ?_
  exact gf_no
def yLa_clear : MethodName := ⟨"LastWordHill$Law", "clear", "()V"⟩
abbrev cLa_clear : ByteArray := prog_3_method_2_code
theorem dLa_clear_0 : decode cLa_clear 0 = .ok (.aload_n 0, 1) := by decide +kernel
theorem dLa_clear_1 : decode cLa_clear 1 = .ok (.getfield 14, 3) := by decide +kernel
theorem fl_La_14 : FLk "LastWordHill$Law" 14 1 0 := ⟨_, _, _, rfl, by decide, hz_in 291 (by decide +kernel) (by decide +kernel), nL1, by decide, by decide⟩
theorem dLa_clear_4 : decode cLa_clear 4 = .ok (.invokevirtual 27, 3) := by decide +kernel
theorem mm_Ta_empty : MMc yTa_empty cTa_empty 1 (some .int) 0 := ⟨hz_in 817 (by decide +kernel) (by decide +kernel), hz_in 139 (by decide +kernel) (by decide +kernel), by decide +kernel, by decide⟩
theorem mv_Ta_empty : MMv yTa_empty 7 := ⟨hz_in 815 (by decide +kernel) (by decide +kernel), hz_in 816 (by decide +kernel) (by decide +kernel), _, _, rfl, by decide⟩
theorem ml_La_27 : Cond.methodLink "LastWordHill$Law" 27 yTa_empty ∈ hz_wt := hz_in 814 (by decide +kernel) (by decide +kernel)
theorem dLa_clear_7 : decode cLa_clear 7 = .ok (.pop, 1) := by decide +kernel
theorem dLa_clear_8 : decode cLa_clear 8 = .ok (.aload_n 0, 1) := by decide +kernel
theorem dLa_clear_9 : decode cLa_clear 9 = .ok (.iconst 0, 1) := by decide +kernel
theorem dLa_clear_10 : decode cLa_clear 10 = .ok (.putfield 31, 3) := by decide +kernel
theorem dLa_clear_13 : decode cLa_clear 13 = .ok (.return_, 1) := by decide +kernel
def fLa_clear (o0 : Nat) (s0 : Sg) : Option (Sg) := bi (fTa_empty (hz_rf o0 0) s0) fun r2 s1 => bnd (pt s1 o0 3 0) fun s3 => some s3
set_option maxHeartbeats 4000000 in
set_option maxRecDepth 100000 in
theorem okLa_clear (o0 : Nat) (s0 : Sg) (h0 : hz_kd o0 = 1) : ∀ (l : Launch) (w : WC), Ok l w yLa_clear cLa_clear 1 none 2 evV [.ref (w.ad o0)] s0 (fLa_clear o0 s0) := by
  refine ok_in (ev := fun _ => evV) (av := fun w => [.ref (w.ad o0)]) "LastWordHill$Law" rfl (by decide +kernel) (fun _ => rfl) (fun _ => Nat.le_of_ble_eq_true rfl) ?_
  intro C X E
  show GF C evV 0 [some (.ref (C.w.ad o0))] [] s0 (fLa_clear o0 s0)
  unfold fLa_clear
  refine g_aload_n X dLa_clear_0 rfl ?_
  refine g_getR X fl_La_14 fb_1_0 h0 dLa_clear_1 ?_
  refine g_virtI X [] [] (sk_1_0 h0) mm_Ta_empty mv_Ta_empty ml_La_27 (okTa_empty (hz_rf o0 0) s0 (sk_1_0 h0) C.l C.w) rfl (by decide) rfl (Nat.le_of_ble_eq_true rfl) dLa_clear_4 (fun r2 s1 => ?_)
  refine g_pop X dLa_clear_7 rfl ?_
  refine g_aload_n X dLa_clear_8 rfl ?_
  refine g_iconst X 0 dLa_clear_9 (by decide) ?_
  refine g_putI X fl_La_31 fb_1_3 fp_1_3 h0 dLa_clear_10 (fun s3 => ?_)
  exact g_vret X E dLa_clear_13
def yLa_untold : MethodName := ⟨"LastWordHill$Law", "untold", "(ILLastWordHill$Scene;I)I"⟩
abbrev cLa_untold : ByteArray := prog_3_method_6_code
theorem dLa_untold_0 : decode cLa_untold 0 = .ok (.iload_n 0, 1) := by decide +kernel
theorem dLa_untold_1 : decode cLa_untold 1 = .ok (.ifCond .ne 12, 3) := by decide +kernel
theorem dLa_untold_13 : decode cLa_untold 13 = .ok (.iload_n 0, 1) := by decide +kernel
theorem dLa_untold_14 : decode cLa_untold 14 = .ok (.iconst 1, 1) := by decide +kernel
theorem dLa_untold_15 : decode cLa_untold 15 = .ok (.if_icmp .ne 7, 3) := by decide +kernel
theorem dLa_untold_22 : decode cLa_untold 22 = .ok (.sipush 300, 3) := by decide +kernel
theorem dLa_untold_25 : decode cLa_untold 25 = .ok (.bipush 50, 2) := by decide +kernel
theorem dLa_untold_27 : decode cLa_untold 27 = .ok (.aload_n 1, 1) := by decide +kernel
theorem dLa_untold_28 : decode cLa_untold 28 = .ok (.iload_n 2, 1) := by decide +kernel
theorem dLa_untold_29 : decode cLa_untold 29 = .ok (.iconst 0, 1) := by decide +kernel
theorem dLa_untold_30 : decode cLa_untold 30 = .ok (.invokevirtual 68, 3) := by decide +kernel
theorem ml_La_68 : Cond.methodLink "LastWordHill$Law" 68 ySc_tell ∈ hz_wt := hz_in 757 (by decide +kernel) (by decide +kernel)
theorem dLa_untold_33 : decode cLa_untold 33 = .ok (.imul, 1) := by decide +kernel
theorem dLa_untold_34 : decode cLa_untold 34 = .ok (.iadd, 1) := by decide +kernel
theorem dLa_untold_35 : decode cLa_untold 35 = .ok (.aload_n 1, 1) := by decide +kernel
theorem dLa_untold_36 : decode cLa_untold 36 = .ok (.iload_n 2, 1) := by decide +kernel
theorem dLa_untold_37 : decode cLa_untold 37 = .ok (.iconst 3, 1) := by decide +kernel
theorem dLa_untold_38 : decode cLa_untold 38 = .ok (.invokevirtual 68, 3) := by decide +kernel
theorem dLa_untold_41 : decode cLa_untold 41 = .ok (.iadd, 1) := by decide +kernel
theorem dLa_untold_42 : decode cLa_untold 42 = .ok (.ireturn, 1) := by decide +kernel
theorem dLa_untold_18 : decode cLa_untold 18 = .ok (.iconst 2, 1) := by decide +kernel
theorem dLa_untold_19 : decode cLa_untold 19 = .ok (.goto 23, 3) := by decide +kernel
theorem dLa_untold_4 : decode cLa_untold 4 = .ok (.iconst 3, 1) := by decide +kernel
theorem dLa_untold_5 : decode cLa_untold 5 = .ok (.aload_n 1, 1) := by decide +kernel
theorem dLa_untold_6 : decode cLa_untold 6 = .ok (.iload_n 2, 1) := by decide +kernel
theorem dLa_untold_7 : decode cLa_untold 7 = .ok (.iconst 1, 1) := by decide +kernel
theorem dLa_untold_8 : decode cLa_untold 8 = .ok (.invokevirtual 68, 3) := by decide +kernel
theorem dLa_untold_11 : decode cLa_untold 11 = .ok (.iadd, 1) := by decide +kernel
theorem dLa_untold_12 : decode cLa_untold 12 = .ok (.ireturn, 1) := by decide +kernel
def fLa_untold (v0 : Int32) (o1 : Nat) (v2 : Int32) (s0 : Sg) : Option (Int32 × Sg) := if v0 = 0 then (bi (fSc_tell o1 v2 1 s0) fun r6 s5 => some ((3 + r6), s5)) else (if v0 = 1 then (some (2, s0)) else (bi (fSc_tell o1 v2 0 s0) fun r2 s1 => bi (fSc_tell o1 v2 3 s1) fun r4 s3 => some (((300 + (50 * r2)) + r4), s3)))
set_option maxHeartbeats 4000000 in
set_option maxRecDepth 100000 in
theorem okLa_untold (v0 : Int32) (o1 : Nat) (v2 : Int32) (s0 : Sg) (h1 : hz_kd o1 = 5) : ∀ (l : Launch) (w : WC), Ok l w yLa_untold cLa_untold 3 (some .int) 2 evI [.int v0, .ref (w.ad o1), .int v2] s0 (fLa_untold v0 o1 v2 s0) := by
  refine ok_in (ev := fun _ => evI) (av := fun w => [.int v0, .ref (w.ad o1), .int v2]) "LastWordHill$Law" rfl (by decide +kernel) (fun _ => rfl) (fun _ => Nat.le_of_ble_eq_true rfl) ?_
  intro C X E
  show GF C evI 0 [some (.int v0), some (.ref (C.w.ad o1)), some (.int v2)] [] s0 (fLa_untold v0 o1 v2 s0)
  unfold fLa_untold
  refine g_iload_n X dLa_untold_0 rfl ?_
  refine g_zne X (tgt := 13) dLa_untold_1 (by decide) ?_ ?_
  · refine g_iconst X 3 dLa_untold_4 (by decide) ?_
    refine g_aload_n X dLa_untold_5 rfl ?_
    refine g_iload_n X dLa_untold_6 rfl ?_
    refine g_iconst X 1 dLa_untold_7 (by decide) ?_
    refine g_virtI X [.int v2, .int 1] [.int 3] h1 mm_Sc_tell mv_Sc_tell ml_La_68 (okSc_tell o1 v2 1 s0 h1 C.l C.w) rfl (by decide) rfl (Nat.le_of_ble_eq_true rfl) dLa_untold_8 (fun r6 s5 => ?_)
    refine g_iadd X dLa_untold_11 ?_
    exact g_iret X E dLa_untold_12
  · refine g_iload_n X dLa_untold_13 rfl ?_
    refine g_iconst X 1 dLa_untold_14 (by decide) ?_
    refine g_cne X (tgt := 22) dLa_untold_15 (by decide) ?_ ?_
    · refine g_iconst X 2 dLa_untold_18 (by decide) ?_
      refine g_goto X 42 dLa_untold_19 (by decide) ?_
      exact g_iret X E dLa_untold_42
    · refine g_sipush X 300 dLa_untold_22 (by decide) ?_
      refine g_bipush X 50 dLa_untold_25 (by decide) ?_
      refine g_aload_n X dLa_untold_27 rfl ?_
      refine g_iload_n X dLa_untold_28 rfl ?_
      refine g_iconst X 0 dLa_untold_29 (by decide) ?_
      refine g_virtI X [.int v2, .int 0] [.int 50, .int 300] h1 mm_Sc_tell mv_Sc_tell ml_La_68 (okSc_tell o1 v2 0 s0 h1 C.l C.w) rfl (by decide) rfl (Nat.le_of_ble_eq_true rfl) dLa_untold_30 (fun r2 s1 => ?_)
      refine g_imul X dLa_untold_33 ?_
      refine g_iadd X dLa_untold_34 ?_
      refine g_aload_n X dLa_untold_35 rfl ?_
      refine g_iload_n X dLa_untold_36 rfl ?_
      refine g_iconst X 3 dLa_untold_37 (by decide) ?_
      refine g_virtI X [.int v2, .int 3] [.int (300 + (50 * r2))] h1 mm_Sc_tell mv_Sc_tell ml_La_68 (okSc_tell o1 v2 3 s1 h1 C.l C.w) rfl (by decide) rfl (Nat.le_of_ble_eq_true rfl) dLa_untold_38 (fun r4 s3 => ?_)
      refine g_iadd X dLa_untold_41 ?_
      exact g_iret X E dLa_untold_42
def yMu_matches : MethodName := ⟨"LastWordHill$Muse", "matches", "(II)I"⟩
abbrev cMu_matches : ByteArray := prog_4_method_3_code
theorem dMu_matches_0 : decode cMu_matches 0 = .ok (.aload_n 0, 1) := by decide +kernel
theorem dMu_matches_1 : decode cMu_matches 1 = .ok (.getfield 24, 3) := by decide +kernel
theorem fl_Mu_24 : FLk "LastWordHill$Muse" 24 2 0 := ⟨_, _, _, rfl, by decide, hz_in 492 (by decide +kernel) (by decide +kernel), nL2, by decide, by decide⟩
theorem fb_2_0 : (hz_bs 2)[0]? = some true := by decide
theorem r_66_0 : hz_rf 66 0 = 19 := by decide
theorem dMu_matches_4 : decode cMu_matches 4 = .ok (.iload_n 1, 1) := by decide +kernel
theorem dMu_matches_5 : decode cMu_matches 5 = .ok (.invokevirtual 36, 3) := by decide +kernel
theorem mm_Te_answered : MMc yTe_answered cTe_answered 2 (some .int) 1 := ⟨hz_in 696 (by decide +kernel) (by decide +kernel), hz_in 137 (by decide +kernel) (by decide +kernel), by decide +kernel, by decide⟩
theorem mv_Te_answered : MMv yTe_answered 8 := ⟨hz_in 694 (by decide +kernel) (by decide +kernel), hz_in 695 (by decide +kernel) (by decide +kernel), _, _, rfl, by decide⟩
theorem ml_Mu_36 : Cond.methodLink "LastWordHill$Muse" 36 yTe_answered ∈ hz_wt := hz_in 1133 (by decide +kernel) (by decide +kernel)
theorem dMu_matches_8 : decode cMu_matches 8 = .ok (.iload_n 2, 1) := by decide +kernel
theorem dMu_matches_9 : decode cMu_matches 9 = .ok (.iand, 1) := by decide +kernel
theorem dMu_matches_10 : decode cMu_matches 10 = .ok (.invokestatic 42, 3) := by decide +kernel
theorem mm_J6_bitCount_0f7a4 : MMc yJ6_bitCount_0f7a4 cJ6_bitCount_0f7a4 1 (some .int) 1 := ⟨hz_in 1136 (by decide +kernel) (by decide +kernel), hz_in 155 (by decide +kernel) (by decide +kernel), by decide +kernel, by decide⟩
theorem ms_J6_bitCount_0f7a4 : Cond.static yJ6_bitCount_0f7a4 ∈ hz_wt := hz_in 1135 (by decide +kernel) (by decide +kernel)
theorem ml_Mu_42 : Cond.methodLink "LastWordHill$Muse" 42 yJ6_bitCount_0f7a4 ∈ hz_wt := hz_in 1134 (by decide +kernel) (by decide +kernel)
theorem dMu_matches_13 : decode cMu_matches 13 = .ok (.ireturn, 1) := by decide +kernel
def fMu_matches (v1 : Int32) (v2 : Int32) (s0 : Sg) : Option (Int32 × Sg) := bi (fTe_answered 19 v1 s0) fun r2 s1 => bi (fJ6_bitCount_0f7a4 (r2 &&& v2) s1) fun r4 s3 => some (r4, s3)
set_option maxHeartbeats 4000000 in
set_option maxRecDepth 100000 in
theorem okMu_matches (v1 : Int32) (v2 : Int32) (s0 : Sg) : ∀ (l : Launch) (w : WC), Ok l w yMu_matches cMu_matches 3 (some .int) 2 evI [.ref (w.ad 66), .int v1, .int v2] s0 (fMu_matches v1 v2 s0) := by
  refine ok_in (ev := fun _ => evI) (av := fun w => [.ref (w.ad 66), .int v1, .int v2]) "LastWordHill$Muse" rfl (by decide +kernel) (fun _ => rfl) (fun _ => Nat.le_of_ble_eq_true rfl) ?_
  intro C X E
  show GF C evI 0 [some (.ref (C.w.ad 66)), some (.int v1), some (.int v2)] [] s0 (fMu_matches v1 v2 s0)
  unfold fMu_matches
  refine g_aload_n X dMu_matches_0 rfl ?_
  refine g_getN X fl_Mu_24 fb_2_0 k_66 r_66_0 dMu_matches_1 ?_
  refine g_iload_n X dMu_matches_4 rfl ?_
  refine g_virtI X [.int v1] [] k_19 mm_Te_answered mv_Te_answered ml_Mu_36 (okTe_answered 19 v1 s0 k_19 C.l C.w) rfl (by decide) rfl (Nat.le_of_ble_eq_true rfl) dMu_matches_5 (fun r2 s1 => ?_)
  refine g_iload_n X dMu_matches_8 rfl ?_
  refine g_iand X dMu_matches_9 ?_
  refine g_statI X [.int (r2 &&& v2)] [] mm_J6_bitCount_0f7a4 ms_J6_bitCount_0f7a4 ml_Mu_42 (okJ6_bitCount_0f7a4 (r2 &&& v2) s1 C.l C.w) rfl (by decide) rfl (Nat.le_of_ble_eq_true rfl) dMu_matches_10 (fun r4 s3 => ?_)
  exact g_iret X E dMu_matches_13
def yMu_coverRest : MethodName := ⟨"LastWordHill$Muse", "coverRest", "(LLastWordHill$Muse;III)V"⟩
abbrev cMu_coverRest : ByteArray := prog_4_method_5_code
theorem dMu_coverRest_0 : decode cMu_coverRest 0 = .ok (.iload_n 1, 1) := by decide +kernel
theorem dMu_coverRest_1 : decode cMu_coverRest 1 = .ok (.ifCond .ne 10, 3) := by decide +kernel
theorem dMu_coverRest_11 : decode cMu_coverRest 11 = .ok (.iload_n 3, 1) := by decide +kernel
theorem dMu_coverRest_12 : decode cMu_coverRest 12 = .ok (.bipush 10, 2) := by decide +kernel
theorem dMu_coverRest_14 : decode cMu_coverRest 14 = .ok (.if_icmp .ge 19, 3) := by decide +kernel
theorem dMu_coverRest_33 : decode cMu_coverRest 33 = .ok (.return_, 1) := by decide +kernel
theorem dMu_coverRest_17 : decode cMu_coverRest 17 = .ok (.aload_n 0, 1) := by decide +kernel
theorem dMu_coverRest_18 : decode cMu_coverRest 18 = .ok (.getfield 47, 3) := by decide +kernel
theorem dMu_coverRest_21 : decode cMu_coverRest 21 = .ok (.iconst (-1), 1) := by decide +kernel
theorem dMu_coverRest_22 : decode cMu_coverRest 22 = .ok (.if_icmp .eq 12, 3) := by decide +kernel
theorem dMu_coverRest_34 : decode cMu_coverRest 34 = .ok (.iload_n 1, 1) := by decide +kernel
theorem dMu_coverRest_35 : decode cMu_coverRest 35 = .ok (.iload_n 1, 1) := by decide +kernel
theorem dMu_coverRest_36 : decode cMu_coverRest 36 = .ok (.ineg, 1) := by decide +kernel
theorem dMu_coverRest_37 : decode cMu_coverRest 37 = .ok (.iand, 1) := by decide +kernel
theorem dMu_coverRest_38 : decode cMu_coverRest 38 = .ok (.istore 4, 2) := by decide +kernel
theorem dMu_coverRest_40 : decode cMu_coverRest 40 = .ok (.iconst 0, 1) := by decide +kernel
theorem dMu_coverRest_41 : decode cMu_coverRest 41 = .ok (.istore 5, 2) := by decide +kernel
theorem dMu_coverRest_43 : decode cMu_coverRest 43 = .ok (.iload 5, 2) := by decide +kernel
theorem dMu_coverRest_45 : decode cMu_coverRest 45 = .ok (.bipush 20, 2) := by decide +kernel
theorem dMu_coverRest_47 : decode cMu_coverRest 47 = .ok (.if_icmp .ge 47, 3) := by decide +kernel
theorem dMu_coverRest_94 : decode cMu_coverRest 94 = .ok (.return_, 1) := by decide +kernel
theorem dMu_coverRest_50 : decode cMu_coverRest 50 = .ok (.aload_n 0, 1) := by decide +kernel
theorem dMu_coverRest_51 : decode cMu_coverRest 51 = .ok (.getfield 24, 3) := by decide +kernel
theorem dMu_coverRest_54 : decode cMu_coverRest 54 = .ok (.iload 5, 2) := by decide +kernel
theorem dMu_coverRest_56 : decode cMu_coverRest 56 = .ok (.invokevirtual 36, 3) := by decide +kernel
theorem dMu_coverRest_59 : decode cMu_coverRest 59 = .ok (.istore 6, 2) := by decide +kernel
theorem dMu_coverRest_61 : decode cMu_coverRest 61 = .ok (.iload 6, 2) := by decide +kernel
theorem dMu_coverRest_63 : decode cMu_coverRest 63 = .ok (.iload 4, 2) := by decide +kernel
theorem dMu_coverRest_65 : decode cMu_coverRest 65 = .ok (.iand, 1) := by decide +kernel
theorem dMu_coverRest_66 : decode cMu_coverRest 66 = .ok (.ifCond .eq 22, 3) := by decide +kernel
theorem dMu_coverRest_88 : decode cMu_coverRest 88 = .ok (.iinc 5 1, 3) := by decide +kernel
theorem dMu_coverRest_91 : decode cMu_coverRest 91 = .ok (.goto (-48), 3) := by decide +kernel
theorem dMu_coverRest_69 : decode cMu_coverRest 69 = .ok (.aload_n 0, 1) := by decide +kernel
theorem dMu_coverRest_70 : decode cMu_coverRest 70 = .ok (.iload_n 1, 1) := by decide +kernel
theorem dMu_coverRest_71 : decode cMu_coverRest 71 = .ok (.iload 6, 2) := by decide +kernel
theorem dMu_coverRest_73 : decode cMu_coverRest 73 = .ok (.iconst (-1), 1) := by decide +kernel
theorem dMu_coverRest_74 : decode cMu_coverRest 74 = .ok (.ixor, 1) := by decide +kernel
theorem dMu_coverRest_75 : decode cMu_coverRest 75 = .ok (.iand, 1) := by decide +kernel
theorem dMu_coverRest_76 : decode cMu_coverRest 76 = .ok (.iload_n 2, 1) := by decide +kernel
theorem dMu_coverRest_77 : decode cMu_coverRest 77 = .ok (.iconst 1, 1) := by decide +kernel
theorem dMu_coverRest_78 : decode cMu_coverRest 78 = .ok (.iload 5, 2) := by decide +kernel
theorem dMu_coverRest_80 : decode cMu_coverRest 80 = .ok (.ishl, 1) := by decide +kernel
theorem dMu_coverRest_81 : decode cMu_coverRest 81 = .ok (.ior, 1) := by decide +kernel
theorem dMu_coverRest_82 : decode cMu_coverRest 82 = .ok (.iload_n 3, 1) := by decide +kernel
theorem dMu_coverRest_83 : decode cMu_coverRest 83 = .ok (.iconst 1, 1) := by decide +kernel
theorem dMu_coverRest_84 : decode cMu_coverRest 84 = .ok (.iadd, 1) := by decide +kernel
theorem dMu_coverRest_85 : decode cMu_coverRest 85 = .ok (.invokestatic 54, 3) := by decide +kernel
theorem mm_Mu_coverRest : MMc yMu_coverRest cMu_coverRest 7 none 4 := ⟨hz_in 1146 (by decide +kernel) (by decide +kernel), hz_in 145 (by decide +kernel) (by decide +kernel), by decide +kernel, by decide⟩
theorem ms_Mu_coverRest : Cond.static yMu_coverRest ∈ hz_wt := hz_in 1145 (by decide +kernel) (by decide +kernel)
theorem ml_Mu_54 : Cond.methodLink "LastWordHill$Muse" 54 yMu_coverRest ∈ hz_wt := hz_in 1144 (by decide +kernel) (by decide +kernel)
theorem dMu_coverRest_25 : decode cMu_coverRest 25 = .ok (.iload_n 3, 1) := by decide +kernel
theorem dMu_coverRest_26 : decode cMu_coverRest 26 = .ok (.aload_n 0, 1) := by decide +kernel
theorem dMu_coverRest_27 : decode cMu_coverRest 27 = .ok (.getfield 47, 3) := by decide +kernel
theorem dMu_coverRest_30 : decode cMu_coverRest 30 = .ok (.if_icmp .lt 4, 3) := by decide +kernel
theorem dMu_coverRest_4 : decode cMu_coverRest 4 = .ok (.aload_n 0, 1) := by decide +kernel
theorem dMu_coverRest_5 : decode cMu_coverRest 5 = .ok (.iload_n 2, 1) := by decide +kernel
theorem dMu_coverRest_6 : decode cMu_coverRest 6 = .ok (.iload_n 3, 1) := by decide +kernel
theorem dMu_coverRest_7 : decode cMu_coverRest 7 = .ok (.invokevirtual 58, 3) := by decide +kernel
theorem mm_Mu_takeCover : MMc yMu_takeCover cMu_takeCover 3 none 2 := ⟨hz_in 1150 (by decide +kernel) (by decide +kernel), hz_in 145 (by decide +kernel) (by decide +kernel), by decide +kernel, by decide⟩
theorem mv_Mu_takeCover : MMv yMu_takeCover 2 := ⟨hz_in 1149 (by decide +kernel) (by decide +kernel), hz_in 33 (by decide +kernel) (by decide +kernel), _, _, rfl, by decide⟩
theorem ml_Mu_58 : Cond.methodLink "LastWordHill$Muse" 58 yMu_takeCover ∈ hz_wt := hz_in 1147 (by decide +kernel) (by decide +kernel)
theorem dMu_coverRest_10 : decode cMu_coverRest 10 = .ok (.return_, 1) := by decide +kernel
def fMu_coverRestB (rec : Int32 → Int32 → Int32 → Sg → Option (Sg)) (v1 : Int32) (v2 : Int32) (v3 : Int32) (s0 : Sg) : Option (Sg) := if v1 = 0 then (bv (fMu_takeCover v2 v3 s0) fun s7 => some s7) else (if 10 ≤ v3 then (some s0) else (bnd (fun (s1 : Sg) => lp FU (fun q43 (u43 : Int32) (s2 : Sg) => if 20 ≤ u43 then (some s2) else (bi (fTe_answered 19 u43 s2) fun r4 s3 => bnd (fun (s5 : Sg) => q43 (u43 + 1) s5) fun j88 => if (r4 &&& (v1 &&& (-v1))) = 0 then (j88 s3) else (bv (rec (v1 &&& (r4 ^^^ (-1))) (v2 ||| (1 <<< (u43 &&& 31))) (v3 + 1) s3) fun s6 => j88 s6))) 0 s1) fun j34 => if (s0 66 7) = (-1) then (j34 s0) else (if v3 < (s0 66 7) then (j34 s0) else (some s0))))
set_option maxHeartbeats 4000000 in
set_option maxRecDepth 100000 in
theorem okMu_coverRestB (rec : Int32 → Int32 → Int32 → Sg → Option (Sg)) (d0 : Nat) (hd0 : 1 ≤ d0) (hrec : ∀ (v1 : Int32) (v2 : Int32) (v3 : Int32) (s0 : Sg) (l : Launch) (w : WC), Ok l w yMu_coverRest cMu_coverRest 7 none d0 evV [.ref (w.ad 66), .int v1, .int v2, .int v3] s0 (rec v1 v2 v3 s0)) (v1 : Int32) (v2 : Int32) (v3 : Int32) (s0 : Sg) : ∀ (l : Launch) (w : WC), Ok l w yMu_coverRest cMu_coverRest 7 none (d0 + 1) evV [.ref (w.ad 66), .int v1, .int v2, .int v3] s0 (fMu_coverRestB rec v1 v2 v3 s0) := by
  refine ok_in (ev := fun _ => evV) (av := fun w => [.ref (w.ad 66), .int v1, .int v2, .int v3]) "LastWordHill$Muse" rfl (by decide +kernel) (fun _ => rfl) (fun _ => Nat.le_of_ble_eq_true rfl) ?_
  intro C X E
  show GF C evV 0 [some (.ref (C.w.ad 66)), some (.int v1), some (.int v2), some (.int v3), none, none, none] [] s0 (fMu_coverRestB rec v1 v2 v3 s0)
  unfold fMu_coverRestB
  refine g_iload_n X dMu_coverRest_0 rfl ?_
  refine g_zne X (tgt := 11) dMu_coverRest_1 (by decide) ?_ ?_
  · refine g_aload_n X dMu_coverRest_4 rfl ?_
    refine g_iload_n X dMu_coverRest_5 rfl ?_
    refine g_iload_n X dMu_coverRest_6 rfl ?_
    refine g_virtV X [.int v2, .int v3] [] k_66 mm_Mu_takeCover mv_Mu_takeCover ml_Mu_58 (okMu_takeCover v2 v3 s0 C.l C.w) rfl (by omega) rfl (Nat.le_of_ble_eq_true rfl) dMu_coverRest_7 (fun s7 => ?_)
    exact g_vret X E dMu_coverRest_10
  · refine g_iload_n X dMu_coverRest_11 rfl ?_
    refine g_bipush X 10 dMu_coverRest_12 (by decide) ?_
    refine g_cge X (tgt := 33) dMu_coverRest_14 (by decide) ?_ ?_
    · exact g_vret X E dMu_coverRest_33
    · refine g_aload_n X dMu_coverRest_17 rfl ?_
      refine g_getI X fl_Mu_47 fb_2_7 k_66 dMu_coverRest_18 ?_
      refine g_iconst X (-1) dMu_coverRest_21 (by decide) ?_
      refine gf_jn (fun j34 => ∀ (s1 : Sg), GF C evV 34 [some (.ref (C.w.ad 66)), some (.int v1), some (.int v2), some (.int v3), none, none, none] [] s1 (j34 s1)) ?_ ?_
      · intro s1
        refine g_iload_n X dMu_coverRest_34 rfl ?_
        refine g_iload_n X dMu_coverRest_35 rfl ?_
        refine g_ineg X dMu_coverRest_36 ?_
        refine g_iand X dMu_coverRest_37 ?_
        refine g_istore X [some (.ref (C.w.ad 66)), some (.int v1), some (.int v2), some (.int v3), some (.int (v1 &&& (-v1))), none, none] dMu_coverRest_38 (by decide) (Nat.le_of_ble_eq_true rfl) rfl ?_
        refine g_iconst X 0 dMu_coverRest_40 (by decide) ?_
        refine g_istore X [some (.ref (C.w.ad 66)), some (.int v1), some (.int v2), some (.int v3), some (.int (v1 &&& (-v1))), some (.int 0), none] dMu_coverRest_41 (by decide) (Nat.le_of_ble_eq_true rfl) rfl ?_
        refine gf_sub (L' := [some (.ref (C.w.ad 66)), some (.int v1), some (.int v2), some (.int v3), some (.int (v1 &&& (-v1))), some (.int 0), none]) ?_ (by simp [lsub])
        refine gf_lp (Lf := fun (u43 : Int32) => [some (.ref (C.w.ad 66)), some (.int v1), some (.int v2), some (.int v3), some (.int (v1 &&& (-v1))), some (.int u43), none]) (fun q43 hq43 u43 s2 => ?_) FU 0 s1
        refine g_iload X dMu_coverRest_43 rfl ?_
        refine g_bipush X 20 dMu_coverRest_45 (by decide) ?_
        refine g_cge X (tgt := 94) dMu_coverRest_47 (by decide) ?_ ?_
        · exact g_vret X E dMu_coverRest_94
        · refine g_aload_n X dMu_coverRest_50 rfl ?_
          refine g_getN X fl_Mu_24 fb_2_0 k_66 r_66_0 dMu_coverRest_51 ?_
          refine g_iload X dMu_coverRest_54 rfl ?_
          refine g_virtI X [.int u43] [] k_19 mm_Te_answered mv_Te_answered ml_Mu_36 (okTe_answered 19 u43 s2 k_19 C.l C.w) rfl (by omega) rfl (Nat.le_of_ble_eq_true rfl) dMu_coverRest_56 (fun r4 s3 => ?_)
          refine g_istore X [some (.ref (C.w.ad 66)), some (.int v1), some (.int v2), some (.int v3), some (.int (v1 &&& (-v1))), some (.int u43), some (.int r4)] dMu_coverRest_59 (by decide) (Nat.le_of_ble_eq_true rfl) rfl ?_
          refine g_iload X dMu_coverRest_61 rfl ?_
          refine g_iload X dMu_coverRest_63 rfl ?_
          refine g_iand X dMu_coverRest_65 ?_
          refine gf_jn (fun j88 => ∀ (s5 : Sg), GF C evV 88 [some (.ref (C.w.ad 66)), some (.int v1), some (.int v2), some (.int v3), some (.int (v1 &&& (-v1))), some (.int u43), none] [] s5 (j88 s5)) ?_ ?_
          · intro s5
            refine g_iinc X (u43 + 1) [some (.ref (C.w.ad 66)), some (.int v1), some (.int v2), some (.int v3), some (.int (v1 &&& (-v1))), some (.int (u43 + 1)), none] dMu_coverRest_88 rfl rfl (by decide) rfl ?_
            refine g_goto X 43 dMu_coverRest_91 (by decide) ?_
            exact gf_sub (hq43 (u43 + 1) s5) (by simp [lsub])
          · intro j88 hj88
            refine g_zeq X (tgt := 88) dMu_coverRest_66 (by decide) ?_ ?_
            · exact gf_sub (hj88 s3) (by simp [lsub])
            · refine g_aload_n X dMu_coverRest_69 rfl ?_
              refine g_iload_n X dMu_coverRest_70 rfl ?_
              refine g_iload X dMu_coverRest_71 rfl ?_
              refine g_iconst X (-1) dMu_coverRest_73 (by decide) ?_
              refine g_ixor X dMu_coverRest_74 ?_
              refine g_iand X dMu_coverRest_75 ?_
              refine g_iload_n X dMu_coverRest_76 rfl ?_
              refine g_iconst X 1 dMu_coverRest_77 (by decide) ?_
              refine g_iload X dMu_coverRest_78 rfl ?_
              refine g_ishl X dMu_coverRest_80 ?_
              refine g_ior X dMu_coverRest_81 ?_
              refine g_iload_n X dMu_coverRest_82 rfl ?_
              refine g_iconst X 1 dMu_coverRest_83 (by decide) ?_
              refine g_iadd X dMu_coverRest_84 ?_
              refine g_statV X [.ref (C.w.ad 66), .int (v1 &&& (r4 ^^^ (-1))), .int (v2 ||| (1 <<< (u43 &&& 31))), .int (v3 + 1)] [] mm_Mu_coverRest ms_Mu_coverRest ml_Mu_54 (hrec (v1 &&& (r4 ^^^ (-1))) (v2 ||| (1 <<< (u43 &&& 31))) (v3 + 1) s3 C.l C.w) rfl (by omega) rfl (Nat.le_of_ble_eq_true rfl) dMu_coverRest_85 (fun s6 => ?_)
              exact gf_sub (hj88 s6) (by simp [lsub])
      · intro j34 hj34
        refine g_ceq X (tgt := 34) dMu_coverRest_22 (by decide) ?_ ?_
        · exact gf_sub (hj34 s0) (by simp [lsub])
        · refine g_iload_n X dMu_coverRest_25 rfl ?_
          refine g_aload_n X dMu_coverRest_26 rfl ?_
          refine g_getI X fl_Mu_47 fb_2_7 k_66 dMu_coverRest_27 ?_
          refine g_clt X (tgt := 34) dMu_coverRest_30 (by decide) ?_ ?_
          · exact gf_sub (hj34 s0) (by simp [lsub])
          · exact g_vret X E dMu_coverRest_33
def fMu_coverRest : Nat → Int32 → Int32 → Int32 → Sg → Option (Sg)
  | 0 => fun _ _ _ _ => none
  | n + 1 => fMu_coverRestB (fMu_coverRest n)
theorem okMu_coverRest : ∀ (n : Nat) (v1 : Int32) (v2 : Int32) (v3 : Int32) (s0 : Sg) (l : Launch) (w : WC), Ok l w yMu_coverRest cMu_coverRest 7 none (1 + n) evV [.ref (w.ad 66), .int v1, .int v2, .int v3] s0 (fMu_coverRest n v1 v2 v3 s0)
  | 0, _, _, _, _, _, _ => fun z h => by cases h
  | n + 1, v1, v2, v3, s0, l, w => okMu_coverRestB (fMu_coverRest n) (1 + n) (by omega) (okMu_coverRest n) v1 v2 v3 s0  l w
def yMu_farOf : MethodName := ⟨"LastWordHill$Muse", "farOf", "(I)I"⟩
abbrev cMu_farOf : ByteArray := prog_4_method_17_code
theorem dMu_farOf_0 : decode cMu_farOf 0 = .ok (.iload_n 1, 1) := by decide +kernel
theorem dMu_farOf_1 : decode cMu_farOf 1 = .ok (.iconst 0, 1) := by decide +kernel
theorem dMu_farOf_2 : decode cMu_farOf 2 = .ok (.bipush 9, 2) := by decide +kernel
theorem dMu_farOf_4 : decode cMu_farOf 4 = .ok (.invokestatic 124, 3) := by decide +kernel
theorem ml_Mu_124 : Cond.methodLinkNest "LastWordHill$Muse" 124 yH_within "LastWordHill" ∈ hz_nt := hz_inN 1218 (by decide +kernel) (by decide +kernel)
theorem dMu_farOf_7 : decode cMu_farOf 7 = .ok (.ifCond .eq 12, 3) := by decide +kernel
theorem dMu_farOf_19 : decode cMu_farOf 19 = .ok (.iconst (-1), 1) := by decide +kernel
theorem dMu_farOf_20 : decode cMu_farOf 20 = .ok (.ireturn, 1) := by decide +kernel
theorem dMu_farOf_10 : decode cMu_farOf 10 = .ok (.aload_n 0, 1) := by decide +kernel
theorem dMu_farOf_11 : decode cMu_farOf 11 = .ok (.getfield 9, 3) := by decide +kernel
theorem fl_Mu_9 : FLk "LastWordHill$Muse" 9 2 2 := ⟨_, _, _, rfl, by decide, hz_in 494 (by decide +kernel) (by decide +kernel), nL2, by decide, by decide⟩
theorem k_67 : hz_kd 67 = 13 := by decide
theorem fb_2_2 : (hz_bs 2)[2]? = some true := by decide
theorem r_66_2 : hz_rf 66 2 = 67 := by decide
theorem dMu_farOf_14 : decode cMu_farOf 14 = .ok (.iload_n 1, 1) := by decide +kernel
theorem dMu_farOf_15 : decode cMu_farOf 15 = .ok (.iaload, 1) := by decide +kernel
theorem ln_67 : hz_ln 67 = 10 := by decide
theorem dMu_farOf_16 : decode cMu_farOf 16 = .ok (.goto 4, 3) := by decide +kernel
def fMu_farOf (v1 : Int32) (s0 : Sg) : Option (Int32 × Sg) := bi (fH_within v1 0 9 s0) fun r2 s1 => if r2 = 0 then (some ((-1), s1)) else (gd v1 10 (some ((s1 67 (ix v1)), s1)))
set_option maxHeartbeats 4000000 in
set_option maxRecDepth 100000 in
theorem okMu_farOf (v1 : Int32) (s0 : Sg) : ∀ (l : Launch) (w : WC), Ok l w yMu_farOf cMu_farOf 2 (some .int) 2 evI [.ref (w.ad 66), .int v1] s0 (fMu_farOf v1 s0) := by
  refine ok_in (ev := fun _ => evI) (av := fun w => [.ref (w.ad 66), .int v1]) "LastWordHill$Muse" rfl (by decide +kernel) (fun _ => rfl) (fun _ => Nat.le_of_ble_eq_true rfl) ?_
  intro C X E
  show GF C evI 0 [some (.ref (C.w.ad 66)), some (.int v1)] [] s0 (fMu_farOf v1 s0)
  unfold fMu_farOf
  refine g_iload_n X dMu_farOf_0 rfl ?_
  refine g_iconst X 0 dMu_farOf_1 (by decide) ?_
  refine g_bipush X 9 dMu_farOf_2 (by decide) ?_
  refine g_nestI X [.int v1, .int 0, .int 9] [] mm_H_within ms_H_within ml_Mu_124 (okH_within v1 0 9 s0 C.l C.w) rfl (by decide) rfl (Nat.le_of_ble_eq_true rfl) dMu_farOf_4 (fun r2 s1 => ?_)
  refine g_zeq X (tgt := 19) dMu_farOf_7 (by decide) ?_ ?_
  · refine g_iconst X (-1) dMu_farOf_19 (by decide) ?_
    exact g_iret X E dMu_farOf_20
  · refine g_aload_n X dMu_farOf_10 rfl ?_
    refine g_getN X fl_Mu_9 fb_2_2 k_66 r_66_2 dMu_farOf_11 ?_
    refine g_iload_n X dMu_farOf_14 rfl ?_
    refine g_iald X k_67 ln_67 dMu_farOf_15 ?_
    refine g_goto X 20 dMu_farOf_16 (by decide) ?_
    exact g_iret X E dMu_farOf_20
def yMu_reach : MethodName := ⟨"LastWordHill$Muse", "reach", "(II)V"⟩
abbrev cMu_reach : ByteArray := prog_4_method_18_code
theorem dMu_reach_0 : decode cMu_reach 0 = .ok (.iload_n 1, 1) := by decide +kernel
theorem dMu_reach_1 : decode cMu_reach 1 = .ok (.iconst 0, 1) := by decide +kernel
theorem dMu_reach_2 : decode cMu_reach 2 = .ok (.bipush 9, 2) := by decide +kernel
theorem dMu_reach_4 : decode cMu_reach 4 = .ok (.invokestatic 124, 3) := by decide +kernel
theorem dMu_reach_7 : decode cMu_reach 7 = .ok (.ifCond .eq 20, 3) := by decide +kernel
theorem dMu_reach_27 : decode cMu_reach 27 = .ok (.return_, 1) := by decide +kernel
theorem dMu_reach_10 : decode cMu_reach 10 = .ok (.aload_n 0, 1) := by decide +kernel
theorem dMu_reach_11 : decode cMu_reach 11 = .ok (.getfield 9, 3) := by decide +kernel
theorem dMu_reach_14 : decode cMu_reach 14 = .ok (.iload_n 1, 1) := by decide +kernel
theorem dMu_reach_15 : decode cMu_reach 15 = .ok (.iaload, 1) := by decide +kernel
theorem dMu_reach_16 : decode cMu_reach 16 = .ok (.iconst (-1), 1) := by decide +kernel
theorem dMu_reach_17 : decode cMu_reach 17 = .ok (.if_icmp .ne 10, 3) := by decide +kernel
theorem dMu_reach_20 : decode cMu_reach 20 = .ok (.aload_n 0, 1) := by decide +kernel
theorem dMu_reach_21 : decode cMu_reach 21 = .ok (.getfield 9, 3) := by decide +kernel
theorem dMu_reach_24 : decode cMu_reach 24 = .ok (.iload_n 1, 1) := by decide +kernel
theorem dMu_reach_25 : decode cMu_reach 25 = .ok (.iload_n 2, 1) := by decide +kernel
theorem dMu_reach_26 : decode cMu_reach 26 = .ok (.iastore, 1) := by decide +kernel
def fMu_reach (v1 : Int32) (v2 : Int32) (s0 : Sg) : Option (Sg) := bi (fH_within v1 0 9 s0) fun r2 s1 => if r2 = 0 then (some s1) else (gd v1 10 (if (s1 67 (ix v1)) = (-1) then (gd v1 10 (bnd (pt s1 67 (ix v1) v2) fun s3 => some s3)) else (some s1)))
set_option maxHeartbeats 4000000 in
set_option maxRecDepth 100000 in
theorem okMu_reach (v1 : Int32) (v2 : Int32) (s0 : Sg) : ∀ (l : Launch) (w : WC), Ok l w yMu_reach cMu_reach 3 none 2 evV [.ref (w.ad 66), .int v1, .int v2] s0 (fMu_reach v1 v2 s0) := by
  refine ok_in (ev := fun _ => evV) (av := fun w => [.ref (w.ad 66), .int v1, .int v2]) "LastWordHill$Muse" rfl (by decide +kernel) (fun _ => rfl) (fun _ => Nat.le_of_ble_eq_true rfl) ?_
  intro C X E
  show GF C evV 0 [some (.ref (C.w.ad 66)), some (.int v1), some (.int v2)] [] s0 (fMu_reach v1 v2 s0)
  unfold fMu_reach
  refine g_iload_n X dMu_reach_0 rfl ?_
  refine g_iconst X 0 dMu_reach_1 (by decide) ?_
  refine g_bipush X 9 dMu_reach_2 (by decide) ?_
  refine g_nestI X [.int v1, .int 0, .int 9] [] mm_H_within ms_H_within ml_Mu_124 (okH_within v1 0 9 s0 C.l C.w) rfl (by decide) rfl (Nat.le_of_ble_eq_true rfl) dMu_reach_4 (fun r2 s1 => ?_)
  refine g_zeq X (tgt := 27) dMu_reach_7 (by decide) ?_ ?_
  · exact g_vret X E dMu_reach_27
  · refine g_aload_n X dMu_reach_10 rfl ?_
    refine g_getN X fl_Mu_9 fb_2_2 k_66 r_66_2 dMu_reach_11 ?_
    refine g_iload_n X dMu_reach_14 rfl ?_
    refine g_iald X k_67 ln_67 dMu_reach_15 ?_
    refine g_iconst X (-1) dMu_reach_16 (by decide) ?_
    refine g_cne X (tgt := 27) dMu_reach_17 (by decide) ?_ ?_
    · refine g_aload_n X dMu_reach_20 rfl ?_
      refine g_getN X fl_Mu_9 fb_2_2 k_66 r_66_2 dMu_reach_21 ?_
      refine g_iload_n X dMu_reach_24 rfl ?_
      refine g_iload_n X dMu_reach_25 rfl ?_
      refine g_iast X k_67 ln_67 dMu_reach_26 (fun s3 => ?_)
      exact g_vret X E dMu_reach_27
    · exact g_vret X E dMu_reach_27
def yMu_follow : MethodName := ⟨"LastWordHill$Muse", "follow", "(I)I"⟩
abbrev cMu_follow : ByteArray := prog_4_method_27_code
theorem dMu_follow_0 : decode cMu_follow 0 = .ok (.aload_n 0, 1) := by decide +kernel
theorem dMu_follow_1 : decode cMu_follow 1 = .ok (.getfield 28, 3) := by decide +kernel
theorem fl_Mu_28 : FLk "LastWordHill$Muse" 28 2 1 := ⟨_, _, _, rfl, by decide, hz_in 493 (by decide +kernel) (by decide +kernel), nL2, by decide, by decide⟩
theorem fb_2_1 : (hz_bs 2)[1]? = some true := by decide
theorem r_66_1 : hz_rf 66 1 = 48 := by decide
theorem dMu_follow_4 : decode cMu_follow 4 = .ok (.getfield 159, 3) := by decide +kernel
theorem fl_Mu_159 : FLk "LastWordHill$Muse" 159 10 7 := ⟨_, _, _, rfl, by decide, hz_in 442 (by decide +kernel) (by decide +kernel), nL10, by decide, by decide⟩
theorem dMu_follow_7 : decode cMu_follow 7 = .ok (.iload_n 1, 1) := by decide +kernel
theorem dMu_follow_8 : decode cMu_follow 8 = .ok (.imul, 1) := by decide +kernel
theorem dMu_follow_9 : decode cMu_follow 9 = .ok (.aload_n 0, 1) := by decide +kernel
theorem dMu_follow_10 : decode cMu_follow 10 = .ok (.getfield 28, 3) := by decide +kernel
theorem dMu_follow_13 : decode cMu_follow 13 = .ok (.getfield 162, 3) := by decide +kernel
theorem fl_Mu_162 : FLk "LastWordHill$Muse" 162 10 8 := ⟨_, _, _, rfl, by decide, hz_in 445 (by decide +kernel) (by decide +kernel), nL10, by decide, by decide⟩
theorem dMu_follow_16 : decode cMu_follow 16 = .ok (.iadd, 1) := by decide +kernel
theorem dMu_follow_17 : decode cMu_follow 17 = .ok (.iconst 1, 1) := by decide +kernel
theorem dMu_follow_18 : decode cMu_follow 18 = .ok (.aload_n 0, 1) := by decide +kernel
theorem dMu_follow_19 : decode cMu_follow 19 = .ok (.getfield 28, 3) := by decide +kernel
theorem dMu_follow_22 : decode cMu_follow 22 = .ok (.getfield 165, 3) := by decide +kernel
theorem fl_Mu_165 : FLk "LastWordHill$Muse" 165 10 9 := ⟨_, _, _, rfl, by decide, hz_in 448 (by decide +kernel) (by decide +kernel), nL10, by decide, by decide⟩
theorem dMu_follow_25 : decode cMu_follow 25 = .ok (.invokestatic 91, 3) := by decide +kernel
theorem ml_Mu_91 : Cond.methodLink "LastWordHill$Muse" 91 yJ9_max_7cf53 ∈ hz_wt := hz_in 1180 (by decide +kernel) (by decide +kernel)
theorem dMu_follow_28 : decode cMu_follow 28 = .ok (.invokestatic 168, 3) := by decide +kernel
theorem mm_J9_floorMod_7cf53 : MMc yJ9_floorMod_7cf53 cJ9_floorMod_7cf53 3 (some .int) 2 := ⟨hz_in 649 (by decide +kernel) (by decide +kernel), hz_in 140 (by decide +kernel) (by decide +kernel), by decide +kernel, by decide⟩
theorem ms_J9_floorMod_7cf53 : Cond.static yJ9_floorMod_7cf53 ∈ hz_wt := hz_in 648 (by decide +kernel) (by decide +kernel)
theorem ml_Mu_168 : Cond.methodLink "LastWordHill$Muse" 168 yJ9_floorMod_7cf53 ∈ hz_wt := hz_in 1297 (by decide +kernel) (by decide +kernel)
theorem dMu_follow_31 : decode cMu_follow 31 = .ok (.ireturn, 1) := by decide +kernel
def fMu_follow (v1 : Int32) (s0 : Sg) : Option (Int32 × Sg) := bi (fJ9_max_7cf53 1 (s0 48 9) s0) fun r2 s1 => bi (fJ9_floorMod_7cf53 (((s0 48 7) * v1) + (s0 48 8)) r2 s1) fun r4 s3 => some (r4, s3)
set_option maxHeartbeats 4000000 in
set_option maxRecDepth 100000 in
theorem okMu_follow (v1 : Int32) (s0 : Sg) : ∀ (l : Launch) (w : WC), Ok l w yMu_follow cMu_follow 2 (some .int) 2 evI [.ref (w.ad 66), .int v1] s0 (fMu_follow v1 s0) := by
  refine ok_in (ev := fun _ => evI) (av := fun w => [.ref (w.ad 66), .int v1]) "LastWordHill$Muse" rfl (by decide +kernel) (fun _ => rfl) (fun _ => Nat.le_of_ble_eq_true rfl) ?_
  intro C X E
  show GF C evI 0 [some (.ref (C.w.ad 66)), some (.int v1)] [] s0 (fMu_follow v1 s0)
  unfold fMu_follow
  refine g_aload_n X dMu_follow_0 rfl ?_
  refine g_getN X fl_Mu_28 fb_2_1 k_66 r_66_1 dMu_follow_1 ?_
  refine g_getI X fl_Mu_159 fb_10_7 k_48 dMu_follow_4 ?_
  refine g_iload_n X dMu_follow_7 rfl ?_
  refine g_imul X dMu_follow_8 ?_
  refine g_aload_n X dMu_follow_9 rfl ?_
  refine g_getN X fl_Mu_28 fb_2_1 k_66 r_66_1 dMu_follow_10 ?_
  refine g_getI X fl_Mu_162 fb_10_8 k_48 dMu_follow_13 ?_
  refine g_iadd X dMu_follow_16 ?_
  refine g_iconst X 1 dMu_follow_17 (by decide) ?_
  refine g_aload_n X dMu_follow_18 rfl ?_
  refine g_getN X fl_Mu_28 fb_2_1 k_66 r_66_1 dMu_follow_19 ?_
  refine g_getI X fl_Mu_165 fb_10_9 k_48 dMu_follow_22 ?_
  refine g_statI X [.int 1, .int (s0 48 9)] [.int (((s0 48 7) * v1) + (s0 48 8))] mm_J9_max_7cf53 ms_J9_max_7cf53 ml_Mu_91 (okJ9_max_7cf53 1 (s0 48 9) s0 C.l C.w) rfl (by decide) rfl (Nat.le_of_ble_eq_true rfl) dMu_follow_25 (fun r2 s1 => ?_)
  refine g_statI X [.int (((s0 48 7) * v1) + (s0 48 8)), .int r2] [] mm_J9_floorMod_7cf53 ms_J9_floorMod_7cf53 ml_Mu_168 (okJ9_floorMod_7cf53 (((s0 48 7) * v1) + (s0 48 8)) r2 s1 C.l C.w) rfl (by decide) rfl (Nat.le_of_ble_eq_true rfl) dMu_follow_28 (fun r4 s3 => ?_)
  exact g_iret X E dMu_follow_31
def yMu_first : MethodName := ⟨"LastWordHill$Muse", "first", "(I)I"⟩
abbrev cMu_first : ByteArray := prog_4_method_28_code
theorem dMu_first_0 : decode cMu_first 0 = .ok (.iload_n 1, 1) := by decide +kernel
theorem dMu_first_1 : decode cMu_first 1 = .ok (.iconst 1, 1) := by decide +kernel
theorem dMu_first_2 : decode cMu_first 2 = .ok (.aload_n 0, 1) := by decide +kernel
theorem dMu_first_3 : decode cMu_first 3 = .ok (.getfield 28, 3) := by decide +kernel
theorem dMu_first_6 : decode cMu_first 6 = .ok (.getfield 165, 3) := by decide +kernel
theorem dMu_first_9 : decode cMu_first 9 = .ok (.invokestatic 91, 3) := by decide +kernel
theorem dMu_first_12 : decode cMu_first 12 = .ok (.invokestatic 168, 3) := by decide +kernel
theorem dMu_first_15 : decode cMu_first 15 = .ok (.ireturn, 1) := by decide +kernel
def fMu_first (v1 : Int32) (s0 : Sg) : Option (Int32 × Sg) := bi (fJ9_max_7cf53 1 (s0 48 9) s0) fun r2 s1 => bi (fJ9_floorMod_7cf53 v1 r2 s1) fun r4 s3 => some (r4, s3)
set_option maxHeartbeats 4000000 in
set_option maxRecDepth 100000 in
theorem okMu_first (v1 : Int32) (s0 : Sg) : ∀ (l : Launch) (w : WC), Ok l w yMu_first cMu_first 2 (some .int) 2 evI [.ref (w.ad 66), .int v1] s0 (fMu_first v1 s0) := by
  refine ok_in (ev := fun _ => evI) (av := fun w => [.ref (w.ad 66), .int v1]) "LastWordHill$Muse" rfl (by decide +kernel) (fun _ => rfl) (fun _ => Nat.le_of_ble_eq_true rfl) ?_
  intro C X E
  show GF C evI 0 [some (.ref (C.w.ad 66)), some (.int v1)] [] s0 (fMu_first v1 s0)
  unfold fMu_first
  refine g_iload_n X dMu_first_0 rfl ?_
  refine g_iconst X 1 dMu_first_1 (by decide) ?_
  refine g_aload_n X dMu_first_2 rfl ?_
  refine g_getN X fl_Mu_28 fb_2_1 k_66 r_66_1 dMu_first_3 ?_
  refine g_getI X fl_Mu_165 fb_10_9 k_48 dMu_first_6 ?_
  refine g_statI X [.int 1, .int (s0 48 9)] [.int v1] mm_J9_max_7cf53 ms_J9_max_7cf53 ml_Mu_91 (okJ9_max_7cf53 1 (s0 48 9) s0 C.l C.w) rfl (by decide) rfl (Nat.le_of_ble_eq_true rfl) dMu_first_9 (fun r2 s1 => ?_)
  refine g_statI X [.int v1, .int r2] [] mm_J9_floorMod_7cf53 ms_J9_floorMod_7cf53 ml_Mu_168 (okJ9_floorMod_7cf53 v1 r2 s1 C.l C.w) rfl (by decide) rfl (Nat.le_of_ble_eq_true rfl) dMu_first_12 (fun r4 s3 => ?_)
  exact g_iret X E dMu_first_15
def yMu_roundOf : MethodName := ⟨"LastWordHill$Muse", "roundOf", "(I)I"⟩
abbrev cMu_roundOf : ByteArray := prog_4_method_29_code
theorem dMu_roundOf_0 : decode cMu_roundOf 0 = .ok (.aload_n 0, 1) := by decide +kernel
theorem dMu_roundOf_1 : decode cMu_roundOf 1 = .ok (.iload_n 1, 1) := by decide +kernel
theorem dMu_roundOf_2 : decode cMu_roundOf 2 = .ok (.invokevirtual 171, 3) := by decide +kernel
theorem mm_Mu_first : MMc yMu_first cMu_first 2 (some .int) 1 := ⟨hz_in 1296 (by decide +kernel) (by decide +kernel), hz_in 145 (by decide +kernel) (by decide +kernel), by decide +kernel, by decide⟩
theorem mv_Mu_first : MMv yMu_first 2 := ⟨hz_in 1295 (by decide +kernel) (by decide +kernel), hz_in 44 (by decide +kernel) (by decide +kernel), _, _, rfl, by decide⟩
theorem ml_Mu_171 : Cond.methodLink "LastWordHill$Muse" 171 yMu_first ∈ hz_wt := hz_in 1293 (by decide +kernel) (by decide +kernel)
theorem dMu_roundOf_5 : decode cMu_roundOf 5 = .ok (.istore_n 2, 1) := by decide +kernel
theorem dMu_roundOf_6 : decode cMu_roundOf 6 = .ok (.iconst 0, 1) := by decide +kernel
theorem dMu_roundOf_7 : decode cMu_roundOf 7 = .ok (.istore_n 3, 1) := by decide +kernel
theorem dMu_roundOf_8 : decode cMu_roundOf 8 = .ok (.iload_n 3, 1) := by decide +kernel
theorem dMu_roundOf_9 : decode cMu_roundOf 9 = .ok (.aload_n 0, 1) := by decide +kernel
theorem dMu_roundOf_10 : decode cMu_roundOf 10 = .ok (.getfield 28, 3) := by decide +kernel
theorem dMu_roundOf_13 : decode cMu_roundOf 13 = .ok (.getfield 165, 3) := by decide +kernel
theorem dMu_roundOf_16 : decode cMu_roundOf 16 = .ok (.if_icmp .ge 15, 3) := by decide +kernel
theorem dMu_roundOf_31 : decode cMu_roundOf 31 = .ok (.iconst 1, 1) := by decide +kernel
theorem dMu_roundOf_32 : decode cMu_roundOf 32 = .ok (.istore_n 3, 1) := by decide +kernel
theorem dMu_roundOf_33 : decode cMu_roundOf 33 = .ok (.aload_n 0, 1) := by decide +kernel
theorem dMu_roundOf_34 : decode cMu_roundOf 34 = .ok (.iload_n 2, 1) := by decide +kernel
theorem dMu_roundOf_35 : decode cMu_roundOf 35 = .ok (.invokevirtual 174, 3) := by decide +kernel
theorem mm_Mu_follow : MMc yMu_follow cMu_follow 2 (some .int) 1 := ⟨hz_in 1301 (by decide +kernel) (by decide +kernel), hz_in 145 (by decide +kernel) (by decide +kernel), by decide +kernel, by decide⟩
theorem mv_Mu_follow : MMv yMu_follow 2 := ⟨hz_in 1300 (by decide +kernel) (by decide +kernel), hz_in 45 (by decide +kernel) (by decide +kernel), _, _, rfl, by decide⟩
theorem ml_Mu_174 : Cond.methodLink "LastWordHill$Muse" 174 yMu_follow ∈ hz_wt := hz_in 1298 (by decide +kernel) (by decide +kernel)
theorem dMu_roundOf_38 : decode cMu_roundOf 38 = .ok (.istore 4, 2) := by decide +kernel
theorem dMu_roundOf_40 : decode cMu_roundOf 40 = .ok (.iload 4, 2) := by decide +kernel
theorem dMu_roundOf_42 : decode cMu_roundOf 42 = .ok (.iload_n 2, 1) := by decide +kernel
theorem dMu_roundOf_43 : decode cMu_roundOf 43 = .ok (.if_icmp .eq 28, 3) := by decide +kernel
theorem dMu_roundOf_71 : decode cMu_roundOf 71 = .ok (.iload_n 3, 1) := by decide +kernel
theorem dMu_roundOf_72 : decode cMu_roundOf 72 = .ok (.ireturn, 1) := by decide +kernel
theorem dMu_roundOf_46 : decode cMu_roundOf 46 = .ok (.iload_n 3, 1) := by decide +kernel
theorem dMu_roundOf_47 : decode cMu_roundOf 47 = .ok (.aload_n 0, 1) := by decide +kernel
theorem dMu_roundOf_48 : decode cMu_roundOf 48 = .ok (.getfield 28, 3) := by decide +kernel
theorem dMu_roundOf_51 : decode cMu_roundOf 51 = .ok (.getfield 165, 3) := by decide +kernel
theorem dMu_roundOf_54 : decode cMu_roundOf 54 = .ok (.if_icmp .ge 17, 3) := by decide +kernel
theorem dMu_roundOf_57 : decode cMu_roundOf 57 = .ok (.aload_n 0, 1) := by decide +kernel
theorem dMu_roundOf_58 : decode cMu_roundOf 58 = .ok (.iload 4, 2) := by decide +kernel
theorem dMu_roundOf_60 : decode cMu_roundOf 60 = .ok (.invokevirtual 174, 3) := by decide +kernel
theorem dMu_roundOf_63 : decode cMu_roundOf 63 = .ok (.istore 4, 2) := by decide +kernel
theorem dMu_roundOf_65 : decode cMu_roundOf 65 = .ok (.iinc 3 1, 3) := by decide +kernel
theorem dMu_roundOf_68 : decode cMu_roundOf 68 = .ok (.goto (-28), 3) := by decide +kernel
theorem dMu_roundOf_19 : decode cMu_roundOf 19 = .ok (.aload_n 0, 1) := by decide +kernel
theorem dMu_roundOf_20 : decode cMu_roundOf 20 = .ok (.iload_n 2, 1) := by decide +kernel
theorem dMu_roundOf_21 : decode cMu_roundOf 21 = .ok (.invokevirtual 174, 3) := by decide +kernel
theorem dMu_roundOf_24 : decode cMu_roundOf 24 = .ok (.istore_n 2, 1) := by decide +kernel
theorem dMu_roundOf_25 : decode cMu_roundOf 25 = .ok (.iinc 3 1, 3) := by decide +kernel
theorem dMu_roundOf_28 : decode cMu_roundOf 28 = .ok (.goto (-20), 3) := by decide +kernel
def fMu_roundOf (v1 : Int32) (s0 : Sg) : Option (Int32 × Sg) := bi (fMu_first v1 s0) fun r2 s1 => lp FU (fun q8 (u8 : Int32 × Int32) (s3 : Sg) => if (s3 48 9) ≤ u8.2 then (bi (fMu_follow u8.1 s3) fun r5 s4 => lp FU (fun q40 (u40 : Int32 × Int32) (s6 : Sg) => if u40.2 = u8.1 then (some (u40.1, s6)) else (if (s6 48 9) ≤ u40.1 then (some (u40.1, s6)) else (bi (fMu_follow u40.2 s6) fun r8 s7 => q40 ((u40.1 + 1), r8) s7))) (1, r5) s4) else (bi (fMu_follow u8.1 s3) fun r10 s9 => q8 (r10, (u8.2 + 1)) s9)) (r2, 0) s1
set_option maxHeartbeats 4000000 in
set_option maxRecDepth 100000 in
theorem okMu_roundOf (v1 : Int32) (s0 : Sg) : ∀ (l : Launch) (w : WC), Ok l w yMu_roundOf cMu_roundOf 5 (some .int) 3 evI [.ref (w.ad 66), .int v1] s0 (fMu_roundOf v1 s0) := by
  refine ok_in (ev := fun _ => evI) (av := fun w => [.ref (w.ad 66), .int v1]) "LastWordHill$Muse" rfl (by decide +kernel) (fun _ => rfl) (fun _ => Nat.le_of_ble_eq_true rfl) ?_
  intro C X E
  show GF C evI 0 [some (.ref (C.w.ad 66)), some (.int v1), none, none, none] [] s0 (fMu_roundOf v1 s0)
  unfold fMu_roundOf
  refine g_aload_n X dMu_roundOf_0 rfl ?_
  refine g_iload_n X dMu_roundOf_1 rfl ?_
  refine g_virtI X [.int v1] [] k_66 mm_Mu_first mv_Mu_first ml_Mu_171 (okMu_first v1 s0 C.l C.w) rfl (by decide) rfl (Nat.le_of_ble_eq_true rfl) dMu_roundOf_2 (fun r2 s1 => ?_)
  refine g_istore_n X [some (.ref (C.w.ad 66)), some (.int v1), some (.int r2), none, none] dMu_roundOf_5 (by decide) (Nat.le_of_ble_eq_true rfl) rfl ?_
  refine g_iconst X 0 dMu_roundOf_6 (by decide) ?_
  refine g_istore_n X [some (.ref (C.w.ad 66)), some (.int v1), some (.int r2), some (.int 0), none] dMu_roundOf_7 (by decide) (Nat.le_of_ble_eq_true rfl) rfl ?_
  refine gf_sub (L' := [some (.ref (C.w.ad 66)), none, some (.int r2), some (.int 0), none]) ?_ (by simp [lsub])
  refine gf_lp (Lf := fun (u8 : Int32 × Int32) => [some (.ref (C.w.ad 66)), none, some (.int u8.1), some (.int u8.2), none]) (fun q8 hq8 u8 s3 => ?_) FU (r2, 0) s1
  refine g_iload_n X dMu_roundOf_8 rfl ?_
  refine g_aload_n X dMu_roundOf_9 rfl ?_
  refine g_getN X fl_Mu_28 fb_2_1 k_66 r_66_1 dMu_roundOf_10 ?_
  refine g_getI X fl_Mu_165 fb_10_9 k_48 dMu_roundOf_13 ?_
  refine g_cge X (tgt := 31) dMu_roundOf_16 (by decide) ?_ ?_
  · refine g_iconst X 1 dMu_roundOf_31 (by decide) ?_
    refine g_istore_n X [some (.ref (C.w.ad 66)), none, some (.int u8.1), some (.int 1), none] dMu_roundOf_32 (by decide) (Nat.le_of_ble_eq_true rfl) rfl ?_
    refine g_aload_n X dMu_roundOf_33 rfl ?_
    refine g_iload_n X dMu_roundOf_34 rfl ?_
    refine g_virtI X [.int u8.1] [] k_66 mm_Mu_follow mv_Mu_follow ml_Mu_174 (okMu_follow u8.1 s3 C.l C.w) rfl (by decide) rfl (Nat.le_of_ble_eq_true rfl) dMu_roundOf_35 (fun r5 s4 => ?_)
    refine g_istore X [some (.ref (C.w.ad 66)), none, some (.int u8.1), some (.int 1), some (.int r5)] dMu_roundOf_38 (by decide) (Nat.le_of_ble_eq_true rfl) rfl ?_
    refine gf_sub (L' := [some (.ref (C.w.ad 66)), none, some (.int u8.1), some (.int 1), some (.int r5)]) ?_ (by simp [lsub])
    refine gf_lp (Lf := fun (u40 : Int32 × Int32) => [some (.ref (C.w.ad 66)), none, some (.int u8.1), some (.int u40.1), some (.int u40.2)]) (fun q40 hq40 u40 s6 => ?_) FU (1, r5) s4
    refine g_iload X dMu_roundOf_40 rfl ?_
    refine g_iload_n X dMu_roundOf_42 rfl ?_
    refine g_ceq X (tgt := 71) dMu_roundOf_43 (by decide) ?_ ?_
    · refine g_iload_n X dMu_roundOf_71 rfl ?_
      exact g_iret X E dMu_roundOf_72
    · refine g_iload_n X dMu_roundOf_46 rfl ?_
      refine g_aload_n X dMu_roundOf_47 rfl ?_
      refine g_getN X fl_Mu_28 fb_2_1 k_66 r_66_1 dMu_roundOf_48 ?_
      refine g_getI X fl_Mu_165 fb_10_9 k_48 dMu_roundOf_51 ?_
      refine g_cge X (tgt := 71) dMu_roundOf_54 (by decide) ?_ ?_
      · refine g_iload_n X dMu_roundOf_71 rfl ?_
        exact g_iret X E dMu_roundOf_72
      · refine g_aload_n X dMu_roundOf_57 rfl ?_
        refine g_iload X dMu_roundOf_58 rfl ?_
        refine g_virtI X [.int u40.2] [] k_66 mm_Mu_follow mv_Mu_follow ml_Mu_174 (okMu_follow u40.2 s6 C.l C.w) rfl (by decide) rfl (Nat.le_of_ble_eq_true rfl) dMu_roundOf_60 (fun r8 s7 => ?_)
        refine g_istore X [some (.ref (C.w.ad 66)), none, some (.int u8.1), some (.int u40.1), some (.int r8)] dMu_roundOf_63 (by decide) (Nat.le_of_ble_eq_true rfl) rfl ?_
        refine g_iinc X (u40.1 + 1) [some (.ref (C.w.ad 66)), none, some (.int u8.1), some (.int (u40.1 + 1)), some (.int r8)] dMu_roundOf_65 rfl rfl (by decide) rfl ?_
        refine g_goto X 40 dMu_roundOf_68 (by decide) ?_
        exact gf_sub (hq40 ((u40.1 + 1), r8) s7) (by simp [lsub])
  · refine g_aload_n X dMu_roundOf_19 rfl ?_
    refine g_iload_n X dMu_roundOf_20 rfl ?_
    refine g_virtI X [.int u8.1] [] k_66 mm_Mu_follow mv_Mu_follow ml_Mu_174 (okMu_follow u8.1 s3 C.l C.w) rfl (by decide) rfl (Nat.le_of_ble_eq_true rfl) dMu_roundOf_21 (fun r10 s9 => ?_)
    refine g_istore_n X [some (.ref (C.w.ad 66)), none, some (.int r10), some (.int u8.2), none] dMu_roundOf_24 (by decide) (Nat.le_of_ble_eq_true rfl) rfl ?_
    refine g_iinc X (u8.2 + 1) [some (.ref (C.w.ad 66)), none, some (.int r10), some (.int (u8.2 + 1)), none] dMu_roundOf_25 rfl rfl (by decide) rfl ?_
    refine g_goto X 8 dMu_roundOf_28 (by decide) ?_
    exact gf_sub (hq8 (r10, (u8.2 + 1)) s9) (by simp [lsub])
def yMu_aheadOfRound : MethodName := ⟨"LastWordHill$Muse", "aheadOfRound", "(II)I"⟩
abbrev cMu_aheadOfRound : ByteArray := prog_4_method_30_code
theorem dMu_aheadOfRound_0 : decode cMu_aheadOfRound 0 = .ok (.aload_n 0, 1) := by decide +kernel
theorem dMu_aheadOfRound_1 : decode cMu_aheadOfRound 1 = .ok (.iload_n 1, 1) := by decide +kernel
theorem dMu_aheadOfRound_2 : decode cMu_aheadOfRound 2 = .ok (.invokevirtual 171, 3) := by decide +kernel
theorem dMu_aheadOfRound_5 : decode cMu_aheadOfRound 5 = .ok (.istore_n 3, 1) := by decide +kernel
theorem dMu_aheadOfRound_6 : decode cMu_aheadOfRound 6 = .ok (.iload_n 3, 1) := by decide +kernel
theorem dMu_aheadOfRound_7 : decode cMu_aheadOfRound 7 = .ok (.istore 4, 2) := by decide +kernel
theorem dMu_aheadOfRound_9 : decode cMu_aheadOfRound 9 = .ok (.iconst 0, 1) := by decide +kernel
theorem dMu_aheadOfRound_10 : decode cMu_aheadOfRound 10 = .ok (.istore 5, 2) := by decide +kernel
theorem dMu_aheadOfRound_12 : decode cMu_aheadOfRound 12 = .ok (.iload 5, 2) := by decide +kernel
theorem dMu_aheadOfRound_14 : decode cMu_aheadOfRound 14 = .ok (.iload_n 2, 1) := by decide +kernel
theorem dMu_aheadOfRound_15 : decode cMu_aheadOfRound 15 = .ok (.if_icmp .ge 17, 3) := by decide +kernel
theorem dMu_aheadOfRound_32 : decode cMu_aheadOfRound 32 = .ok (.iconst 0, 1) := by decide +kernel
theorem dMu_aheadOfRound_33 : decode cMu_aheadOfRound 33 = .ok (.istore 5, 2) := by decide +kernel
theorem dMu_aheadOfRound_35 : decode cMu_aheadOfRound 35 = .ok (.iload_n 3, 1) := by decide +kernel
theorem dMu_aheadOfRound_36 : decode cMu_aheadOfRound 36 = .ok (.iload 4, 2) := by decide +kernel
theorem dMu_aheadOfRound_38 : decode cMu_aheadOfRound 38 = .ok (.if_icmp .eq 35, 3) := by decide +kernel
theorem dMu_aheadOfRound_73 : decode cMu_aheadOfRound 73 = .ok (.iload 5, 2) := by decide +kernel
theorem dMu_aheadOfRound_75 : decode cMu_aheadOfRound 75 = .ok (.ireturn, 1) := by decide +kernel
theorem dMu_aheadOfRound_41 : decode cMu_aheadOfRound 41 = .ok (.iload 5, 2) := by decide +kernel
theorem dMu_aheadOfRound_43 : decode cMu_aheadOfRound 43 = .ok (.aload_n 0, 1) := by decide +kernel
theorem dMu_aheadOfRound_44 : decode cMu_aheadOfRound 44 = .ok (.getfield 28, 3) := by decide +kernel
theorem dMu_aheadOfRound_47 : decode cMu_aheadOfRound 47 = .ok (.getfield 165, 3) := by decide +kernel
theorem dMu_aheadOfRound_50 : decode cMu_aheadOfRound 50 = .ok (.if_icmp .ge 23, 3) := by decide +kernel
theorem dMu_aheadOfRound_53 : decode cMu_aheadOfRound 53 = .ok (.aload_n 0, 1) := by decide +kernel
theorem dMu_aheadOfRound_54 : decode cMu_aheadOfRound 54 = .ok (.iload_n 3, 1) := by decide +kernel
theorem dMu_aheadOfRound_55 : decode cMu_aheadOfRound 55 = .ok (.invokevirtual 174, 3) := by decide +kernel
theorem dMu_aheadOfRound_58 : decode cMu_aheadOfRound 58 = .ok (.istore_n 3, 1) := by decide +kernel
theorem dMu_aheadOfRound_59 : decode cMu_aheadOfRound 59 = .ok (.aload_n 0, 1) := by decide +kernel
theorem dMu_aheadOfRound_60 : decode cMu_aheadOfRound 60 = .ok (.iload 4, 2) := by decide +kernel
theorem dMu_aheadOfRound_62 : decode cMu_aheadOfRound 62 = .ok (.invokevirtual 174, 3) := by decide +kernel
theorem dMu_aheadOfRound_65 : decode cMu_aheadOfRound 65 = .ok (.istore 4, 2) := by decide +kernel
theorem dMu_aheadOfRound_67 : decode cMu_aheadOfRound 67 = .ok (.iinc 5 1, 3) := by decide +kernel
theorem dMu_aheadOfRound_70 : decode cMu_aheadOfRound 70 = .ok (.goto (-35), 3) := by decide +kernel
theorem dMu_aheadOfRound_18 : decode cMu_aheadOfRound 18 = .ok (.aload_n 0, 1) := by decide +kernel
theorem dMu_aheadOfRound_19 : decode cMu_aheadOfRound 19 = .ok (.iload 4, 2) := by decide +kernel
theorem dMu_aheadOfRound_21 : decode cMu_aheadOfRound 21 = .ok (.invokevirtual 174, 3) := by decide +kernel
theorem dMu_aheadOfRound_24 : decode cMu_aheadOfRound 24 = .ok (.istore 4, 2) := by decide +kernel
theorem dMu_aheadOfRound_26 : decode cMu_aheadOfRound 26 = .ok (.iinc 5 1, 3) := by decide +kernel
theorem dMu_aheadOfRound_29 : decode cMu_aheadOfRound 29 = .ok (.goto (-17), 3) := by decide +kernel
def fMu_aheadOfRound (v1 : Int32) (v2 : Int32) (s0 : Sg) : Option (Int32 × Sg) := bi (fMu_first v1 s0) fun r2 s1 => lp FU (fun q12 (u12 : Int32 × Int32) (s3 : Sg) => if v2 ≤ u12.2 then (lp FU (fun q35 (u35 : Int32 × Int32 × Int32) (s4 : Sg) => if u35.1 = u35.2.1 then (some (u35.2.2, s4)) else (if (s4 48 9) ≤ u35.2.2 then (some (u35.2.2, s4)) else (bi (fMu_follow u35.1 s4) fun r6 s5 => bi (fMu_follow u35.2.1 s5) fun r8 s7 => q35 (r6, r8, (u35.2.2 + 1)) s7))) (r2, u12.1, 0) s3) else (bi (fMu_follow u12.1 s3) fun r10 s9 => q12 (r10, (u12.2 + 1)) s9)) (r2, 0) s1
set_option maxHeartbeats 4000000 in
set_option maxRecDepth 100000 in
theorem okMu_aheadOfRound (v1 : Int32) (v2 : Int32) (s0 : Sg) : ∀ (l : Launch) (w : WC), Ok l w yMu_aheadOfRound cMu_aheadOfRound 6 (some .int) 3 evI [.ref (w.ad 66), .int v1, .int v2] s0 (fMu_aheadOfRound v1 v2 s0) := by
  refine ok_in (ev := fun _ => evI) (av := fun w => [.ref (w.ad 66), .int v1, .int v2]) "LastWordHill$Muse" rfl (by decide +kernel) (fun _ => rfl) (fun _ => Nat.le_of_ble_eq_true rfl) ?_
  intro C X E
  show GF C evI 0 [some (.ref (C.w.ad 66)), some (.int v1), some (.int v2), none, none, none] [] s0 (fMu_aheadOfRound v1 v2 s0)
  unfold fMu_aheadOfRound
  refine g_aload_n X dMu_aheadOfRound_0 rfl ?_
  refine g_iload_n X dMu_aheadOfRound_1 rfl ?_
  refine g_virtI X [.int v1] [] k_66 mm_Mu_first mv_Mu_first ml_Mu_171 (okMu_first v1 s0 C.l C.w) rfl (by decide) rfl (Nat.le_of_ble_eq_true rfl) dMu_aheadOfRound_2 (fun r2 s1 => ?_)
  refine g_istore_n X [some (.ref (C.w.ad 66)), some (.int v1), some (.int v2), some (.int r2), none, none] dMu_aheadOfRound_5 (by decide) (Nat.le_of_ble_eq_true rfl) rfl ?_
  refine g_iload_n X dMu_aheadOfRound_6 rfl ?_
  refine g_istore X [some (.ref (C.w.ad 66)), some (.int v1), some (.int v2), some (.int r2), some (.int r2), none] dMu_aheadOfRound_7 (by decide) (Nat.le_of_ble_eq_true rfl) rfl ?_
  refine g_iconst X 0 dMu_aheadOfRound_9 (by decide) ?_
  refine g_istore X [some (.ref (C.w.ad 66)), some (.int v1), some (.int v2), some (.int r2), some (.int r2), some (.int 0)] dMu_aheadOfRound_10 (by decide) (Nat.le_of_ble_eq_true rfl) rfl ?_
  refine gf_sub (L' := [some (.ref (C.w.ad 66)), none, some (.int v2), some (.int r2), some (.int r2), some (.int 0)]) ?_ (by simp [lsub])
  refine gf_lp (Lf := fun (u12 : Int32 × Int32) => [some (.ref (C.w.ad 66)), none, some (.int v2), some (.int r2), some (.int u12.1), some (.int u12.2)]) (fun q12 hq12 u12 s3 => ?_) FU (r2, 0) s1
  refine g_iload X dMu_aheadOfRound_12 rfl ?_
  refine g_iload_n X dMu_aheadOfRound_14 rfl ?_
  refine g_cge X (tgt := 32) dMu_aheadOfRound_15 (by decide) ?_ ?_
  · refine g_iconst X 0 dMu_aheadOfRound_32 (by decide) ?_
    refine g_istore X [some (.ref (C.w.ad 66)), none, some (.int v2), some (.int r2), some (.int u12.1), some (.int 0)] dMu_aheadOfRound_33 (by decide) (Nat.le_of_ble_eq_true rfl) rfl ?_
    refine gf_sub (L' := [some (.ref (C.w.ad 66)), none, none, some (.int r2), some (.int u12.1), some (.int 0)]) ?_ (by simp [lsub])
    refine gf_lp (Lf := fun (u35 : Int32 × Int32 × Int32) => [some (.ref (C.w.ad 66)), none, none, some (.int u35.1), some (.int u35.2.1), some (.int u35.2.2)]) (fun q35 hq35 u35 s4 => ?_) FU (r2, u12.1, 0) s3
    refine g_iload_n X dMu_aheadOfRound_35 rfl ?_
    refine g_iload X dMu_aheadOfRound_36 rfl ?_
    refine g_ceq X (tgt := 73) dMu_aheadOfRound_38 (by decide) ?_ ?_
    · refine g_iload X dMu_aheadOfRound_73 rfl ?_
      exact g_iret X E dMu_aheadOfRound_75
    · refine g_iload X dMu_aheadOfRound_41 rfl ?_
      refine g_aload_n X dMu_aheadOfRound_43 rfl ?_
      refine g_getN X fl_Mu_28 fb_2_1 k_66 r_66_1 dMu_aheadOfRound_44 ?_
      refine g_getI X fl_Mu_165 fb_10_9 k_48 dMu_aheadOfRound_47 ?_
      refine g_cge X (tgt := 73) dMu_aheadOfRound_50 (by decide) ?_ ?_
      · refine g_iload X dMu_aheadOfRound_73 rfl ?_
        exact g_iret X E dMu_aheadOfRound_75
      · refine g_aload_n X dMu_aheadOfRound_53 rfl ?_
        refine g_iload_n X dMu_aheadOfRound_54 rfl ?_
        refine g_virtI X [.int u35.1] [] k_66 mm_Mu_follow mv_Mu_follow ml_Mu_174 (okMu_follow u35.1 s4 C.l C.w) rfl (by decide) rfl (Nat.le_of_ble_eq_true rfl) dMu_aheadOfRound_55 (fun r6 s5 => ?_)
        refine g_istore_n X [some (.ref (C.w.ad 66)), none, none, some (.int r6), some (.int u35.2.1), some (.int u35.2.2)] dMu_aheadOfRound_58 (by decide) (Nat.le_of_ble_eq_true rfl) rfl ?_
        refine g_aload_n X dMu_aheadOfRound_59 rfl ?_
        refine g_iload X dMu_aheadOfRound_60 rfl ?_
        refine g_virtI X [.int u35.2.1] [] k_66 mm_Mu_follow mv_Mu_follow ml_Mu_174 (okMu_follow u35.2.1 s5 C.l C.w) rfl (by decide) rfl (Nat.le_of_ble_eq_true rfl) dMu_aheadOfRound_62 (fun r8 s7 => ?_)
        refine g_istore X [some (.ref (C.w.ad 66)), none, none, some (.int r6), some (.int r8), some (.int u35.2.2)] dMu_aheadOfRound_65 (by decide) (Nat.le_of_ble_eq_true rfl) rfl ?_
        refine g_iinc X (u35.2.2 + 1) [some (.ref (C.w.ad 66)), none, none, some (.int r6), some (.int r8), some (.int (u35.2.2 + 1))] dMu_aheadOfRound_67 rfl rfl (by decide) rfl ?_
        refine g_goto X 35 dMu_aheadOfRound_70 (by decide) ?_
        exact gf_sub (hq35 (r6, r8, (u35.2.2 + 1)) s7) (by simp [lsub])
  · refine g_aload_n X dMu_aheadOfRound_18 rfl ?_
    refine g_iload X dMu_aheadOfRound_19 rfl ?_
    refine g_virtI X [.int u12.1] [] k_66 mm_Mu_follow mv_Mu_follow ml_Mu_174 (okMu_follow u12.1 s3 C.l C.w) rfl (by decide) rfl (Nat.le_of_ble_eq_true rfl) dMu_aheadOfRound_21 (fun r10 s9 => ?_)
    refine g_istore X [some (.ref (C.w.ad 66)), none, some (.int v2), some (.int r2), some (.int r10), some (.int u12.2)] dMu_aheadOfRound_24 (by decide) (Nat.le_of_ble_eq_true rfl) rfl ?_
    refine g_iinc X (u12.2 + 1) [some (.ref (C.w.ad 66)), none, some (.int v2), some (.int r2), some (.int r10), some (.int (u12.2 + 1))] dMu_aheadOfRound_26 rfl rfl (by decide) rfl ?_
    refine g_goto X 12 dMu_aheadOfRound_29 (by decide) ?_
    exact gf_sub (hq12 (r10, (u12.2 + 1)) s9) (by simp [lsub])
def yMu_waysToSound : MethodName := ⟨"LastWordHill$Muse", "waysToSound", "(II)I"⟩
abbrev cMu_waysToSound : ByteArray := prog_4_method_33_code
theorem dMu_waysToSound_0 : decode cMu_waysToSound 0 = .ok (.iconst 0, 1) := by decide +kernel
theorem dMu_waysToSound_1 : decode cMu_waysToSound 1 = .ok (.istore_n 2, 1) := by decide +kernel
theorem dMu_waysToSound_2 : decode cMu_waysToSound 2 = .ok (.iconst 0, 1) := by decide +kernel
theorem dMu_waysToSound_3 : decode cMu_waysToSound 3 = .ok (.istore_n 3, 1) := by decide +kernel
theorem dMu_waysToSound_4 : decode cMu_waysToSound 4 = .ok (.iload_n 3, 1) := by decide +kernel
theorem dMu_waysToSound_5 : decode cMu_waysToSound 5 = .ok (.iload_n 0, 1) := by decide +kernel
theorem dMu_waysToSound_6 : decode cMu_waysToSound 6 = .ok (.if_icmp .gt 36, 3) := by decide +kernel
theorem dMu_waysToSound_42 : decode cMu_waysToSound 42 = .ok (.iload_n 2, 1) := by decide +kernel
theorem dMu_waysToSound_43 : decode cMu_waysToSound 43 = .ok (.ireturn, 1) := by decide +kernel
theorem dMu_waysToSound_9 : decode cMu_waysToSound 9 = .ok (.iconst 2, 1) := by decide +kernel
theorem dMu_waysToSound_10 : decode cMu_waysToSound 10 = .ok (.iload_n 3, 1) := by decide +kernel
theorem dMu_waysToSound_11 : decode cMu_waysToSound 11 = .ok (.imul, 1) := by decide +kernel
theorem dMu_waysToSound_12 : decode cMu_waysToSound 12 = .ok (.iload_n 1, 1) := by decide +kernel
theorem dMu_waysToSound_13 : decode cMu_waysToSound 13 = .ok (.if_icmp .gt 29, 3) := by decide +kernel
theorem dMu_waysToSound_16 : decode cMu_waysToSound 16 = .ok (.iload_n 2, 1) := by decide +kernel
theorem dMu_waysToSound_17 : decode cMu_waysToSound 17 = .ok (.iload_n 0, 1) := by decide +kernel
theorem dMu_waysToSound_18 : decode cMu_waysToSound 18 = .ok (.iload_n 3, 1) := by decide +kernel
theorem dMu_waysToSound_19 : decode cMu_waysToSound 19 = .ok (.invokestatic 183, 3) := by decide +kernel
theorem mm_Mu_choices : MMc yMu_choices cMu_choices 4 (some .int) 2 := ⟨hz_in 1331 (by decide +kernel) (by decide +kernel), hz_in 145 (by decide +kernel) (by decide +kernel), by decide +kernel, by decide⟩
theorem ms_Mu_choices : Cond.static yMu_choices ∈ hz_wt := hz_in 1330 (by decide +kernel) (by decide +kernel)
theorem ml_Mu_183 : Cond.methodLink "LastWordHill$Muse" 183 yMu_choices ∈ hz_wt := hz_in 1329 (by decide +kernel) (by decide +kernel)
theorem dMu_waysToSound_22 : decode cMu_waysToSound 22 = .ok (.iload_n 0, 1) := by decide +kernel
theorem dMu_waysToSound_23 : decode cMu_waysToSound 23 = .ok (.iload_n 3, 1) := by decide +kernel
theorem dMu_waysToSound_24 : decode cMu_waysToSound 24 = .ok (.isub, 1) := by decide +kernel
theorem dMu_waysToSound_25 : decode cMu_waysToSound 25 = .ok (.iload_n 1, 1) := by decide +kernel
theorem dMu_waysToSound_26 : decode cMu_waysToSound 26 = .ok (.iconst 2, 1) := by decide +kernel
theorem dMu_waysToSound_27 : decode cMu_waysToSound 27 = .ok (.iload_n 3, 1) := by decide +kernel
theorem dMu_waysToSound_28 : decode cMu_waysToSound 28 = .ok (.imul, 1) := by decide +kernel
theorem dMu_waysToSound_29 : decode cMu_waysToSound 29 = .ok (.isub, 1) := by decide +kernel
theorem dMu_waysToSound_30 : decode cMu_waysToSound 30 = .ok (.invokestatic 183, 3) := by decide +kernel
theorem dMu_waysToSound_33 : decode cMu_waysToSound 33 = .ok (.imul, 1) := by decide +kernel
theorem dMu_waysToSound_34 : decode cMu_waysToSound 34 = .ok (.iadd, 1) := by decide +kernel
theorem dMu_waysToSound_35 : decode cMu_waysToSound 35 = .ok (.istore_n 2, 1) := by decide +kernel
theorem dMu_waysToSound_36 : decode cMu_waysToSound 36 = .ok (.iinc 3 1, 3) := by decide +kernel
theorem dMu_waysToSound_39 : decode cMu_waysToSound 39 = .ok (.goto (-35), 3) := by decide +kernel
def fMu_waysToSound (v0 : Int32) (v1 : Int32) (s0 : Sg) : Option (Int32 × Sg) := lp FU (fun q4 (u4 : Int32 × Int32) (s1 : Sg) => if v0 < u4.2 then (some (u4.1, s1)) else (if v1 < (2 * u4.2) then (some (u4.1, s1)) else (bi (fMu_choices v0 u4.2 s1) fun r3 s2 => bi (fMu_choices (v0 - u4.2) (v1 - (2 * u4.2)) s2) fun r5 s4 => q4 ((u4.1 + (r3 * r5)), (u4.2 + 1)) s4))) (0, 0) s0
set_option maxHeartbeats 4000000 in
set_option maxRecDepth 100000 in
theorem okMu_waysToSound (v0 : Int32) (v1 : Int32) (s0 : Sg) : ∀ (l : Launch) (w : WC), Ok l w yMu_waysToSound cMu_waysToSound 4 (some .int) 2 evI [.int v0, .int v1] s0 (fMu_waysToSound v0 v1 s0) := by
  refine ok_in (ev := fun _ => evI) (av := fun w => [.int v0, .int v1]) "LastWordHill$Muse" rfl (by decide +kernel) (fun _ => rfl) (fun _ => Nat.le_of_ble_eq_true rfl) ?_
  intro C X E
  show GF C evI 0 [some (.int v0), some (.int v1), none, none] [] s0 (fMu_waysToSound v0 v1 s0)
  unfold fMu_waysToSound
  refine g_iconst X 0 dMu_waysToSound_0 (by decide) ?_
  refine g_istore_n X [some (.int v0), some (.int v1), some (.int 0), none] dMu_waysToSound_1 (by decide) (Nat.le_of_ble_eq_true rfl) rfl ?_
  refine g_iconst X 0 dMu_waysToSound_2 (by decide) ?_
  refine g_istore_n X [some (.int v0), some (.int v1), some (.int 0), some (.int 0)] dMu_waysToSound_3 (by decide) (Nat.le_of_ble_eq_true rfl) rfl ?_
  refine gf_sub (L' := [some (.int v0), some (.int v1), some (.int 0), some (.int 0)]) ?_ (by simp [lsub])
  refine gf_lp (Lf := fun (u4 : Int32 × Int32) => [some (.int v0), some (.int v1), some (.int u4.1), some (.int u4.2)]) (fun q4 hq4 u4 s1 => ?_) FU (0, 0) s0
  refine g_iload_n X dMu_waysToSound_4 rfl ?_
  refine g_iload_n X dMu_waysToSound_5 rfl ?_
  refine g_cgt X (tgt := 42) dMu_waysToSound_6 (by decide) ?_ ?_
  · refine g_iload_n X dMu_waysToSound_42 rfl ?_
    exact g_iret X E dMu_waysToSound_43
  · refine g_iconst X 2 dMu_waysToSound_9 (by decide) ?_
    refine g_iload_n X dMu_waysToSound_10 rfl ?_
    refine g_imul X dMu_waysToSound_11 ?_
    refine g_iload_n X dMu_waysToSound_12 rfl ?_
    refine g_cgt X (tgt := 42) dMu_waysToSound_13 (by decide) ?_ ?_
    · refine g_iload_n X dMu_waysToSound_42 rfl ?_
      exact g_iret X E dMu_waysToSound_43
    · refine g_iload_n X dMu_waysToSound_16 rfl ?_
      refine g_iload_n X dMu_waysToSound_17 rfl ?_
      refine g_iload_n X dMu_waysToSound_18 rfl ?_
      refine g_statI X [.int v0, .int u4.2] [.int u4.1] mm_Mu_choices ms_Mu_choices ml_Mu_183 (okMu_choices v0 u4.2 s1 C.l C.w) rfl (by decide) rfl (Nat.le_of_ble_eq_true rfl) dMu_waysToSound_19 (fun r3 s2 => ?_)
      refine g_iload_n X dMu_waysToSound_22 rfl ?_
      refine g_iload_n X dMu_waysToSound_23 rfl ?_
      refine g_isub X dMu_waysToSound_24 ?_
      refine g_iload_n X dMu_waysToSound_25 rfl ?_
      refine g_iconst X 2 dMu_waysToSound_26 (by decide) ?_
      refine g_iload_n X dMu_waysToSound_27 rfl ?_
      refine g_imul X dMu_waysToSound_28 ?_
      refine g_isub X dMu_waysToSound_29 ?_
      refine g_statI X [.int (v0 - u4.2), .int (v1 - (2 * u4.2))] [.int r3, .int u4.1] mm_Mu_choices ms_Mu_choices ml_Mu_183 (okMu_choices (v0 - u4.2) (v1 - (2 * u4.2)) s2 C.l C.w) rfl (by decide) rfl (Nat.le_of_ble_eq_true rfl) dMu_waysToSound_30 (fun r5 s4 => ?_)
      refine g_imul X dMu_waysToSound_33 ?_
      refine g_iadd X dMu_waysToSound_34 ?_
      refine g_istore_n X [some (.int v0), some (.int v1), some (.int (u4.1 + (r3 * r5))), some (.int u4.2)] dMu_waysToSound_35 (by decide) (Nat.le_of_ble_eq_true rfl) rfl ?_
      refine g_iinc X (u4.2 + 1) [some (.int v0), some (.int v1), some (.int (u4.1 + (r3 * r5))), some (.int (u4.2 + 1))] dMu_waysToSound_36 rfl rfl (by decide) rfl ?_
      refine g_goto X 4 dMu_waysToSound_39 (by decide) ?_
      exact gf_sub (hq4 ((u4.1 + (r3 * r5)), (u4.2 + 1)) s4) (by simp [lsub])
def yMu_fillNim : MethodName := ⟨"LastWordHill$Muse", "fillNim", "()V"⟩
abbrev cMu_fillNim : ByteArray := prog_4_method_37_code
theorem dMu_fillNim_0 : decode cMu_fillNim 0 = .ok (.iconst 0, 1) := by decide +kernel
theorem dMu_fillNim_1 : decode cMu_fillNim 1 = .ok (.istore_n 1, 1) := by decide +kernel
theorem dMu_fillNim_2 : decode cMu_fillNim 2 = .ok (.iload_n 1, 1) := by decide +kernel
theorem dMu_fillNim_3 : decode cMu_fillNim 3 = .ok (.bipush 99, 2) := by decide +kernel
theorem dMu_fillNim_5 : decode cMu_fillNim 5 = .ok (.if_icmp .gt 53, 3) := by decide +kernel
theorem dMu_fillNim_58 : decode cMu_fillNim 58 = .ok (.return_, 1) := by decide +kernel
theorem dMu_fillNim_8 : decode cMu_fillNim 8 = .ok (.iconst 0, 1) := by decide +kernel
theorem dMu_fillNim_9 : decode cMu_fillNim 9 = .ok (.istore_n 2, 1) := by decide +kernel
theorem dMu_fillNim_10 : decode cMu_fillNim 10 = .ok (.iconst 1, 1) := by decide +kernel
theorem dMu_fillNim_11 : decode cMu_fillNim 11 = .ok (.istore_n 3, 1) := by decide +kernel
theorem dMu_fillNim_12 : decode cMu_fillNim 12 = .ok (.iload_n 3, 1) := by decide +kernel
theorem dMu_fillNim_13 : decode cMu_fillNim 13 = .ok (.iload_n 3, 1) := by decide +kernel
theorem dMu_fillNim_14 : decode cMu_fillNim 14 = .ok (.imul, 1) := by decide +kernel
theorem dMu_fillNim_15 : decode cMu_fillNim 15 = .ok (.iload_n 1, 1) := by decide +kernel
theorem dMu_fillNim_16 : decode cMu_fillNim 16 = .ok (.if_icmp .gt 24, 3) := by decide +kernel
theorem dMu_fillNim_40 : decode cMu_fillNim 40 = .ok (.aload_n 0, 1) := by decide +kernel
theorem dMu_fillNim_41 : decode cMu_fillNim 41 = .ok (.getfield 21, 3) := by decide +kernel
theorem fl_Mu_21 : FLk "LastWordHill$Muse" 21 2 5 := ⟨_, _, _, rfl, by decide, hz_in 497 (by decide +kernel) (by decide +kernel), nL2, by decide, by decide⟩
theorem k_70 : hz_kd 70 = 13 := by decide
theorem fb_2_5 : (hz_bs 2)[5]? = some true := by decide
theorem r_66_5 : hz_rf 66 5 = 70 := by decide
theorem dMu_fillNim_44 : decode cMu_fillNim 44 = .ok (.iload_n 1, 1) := by decide +kernel
theorem dMu_fillNim_45 : decode cMu_fillNim 45 = .ok (.iload_n 2, 1) := by decide +kernel
theorem dMu_fillNim_46 : decode cMu_fillNim 46 = .ok (.iconst (-1), 1) := by decide +kernel
theorem dMu_fillNim_47 : decode cMu_fillNim 47 = .ok (.ixor, 1) := by decide +kernel
theorem dMu_fillNim_48 : decode cMu_fillNim 48 = .ok (.invokestatic 204, 3) := by decide +kernel
theorem mm_J6_numberOfTrailingZeros_0f7a4 : MMc yJ6_numberOfTrailingZeros_0f7a4 cJ6_numberOfTrailingZeros_0f7a4 2 (some .int) 1 := ⟨hz_in 1360 (by decide +kernel) (by decide +kernel), hz_in 155 (by decide +kernel) (by decide +kernel), by decide +kernel, by decide⟩
theorem ms_J6_numberOfTrailingZeros_0f7a4 : Cond.static yJ6_numberOfTrailingZeros_0f7a4 ∈ hz_wt := hz_in 1359 (by decide +kernel) (by decide +kernel)
theorem ml_Mu_204 : Cond.methodLink "LastWordHill$Muse" 204 yJ6_numberOfTrailingZeros_0f7a4 ∈ hz_wt := hz_in 1358 (by decide +kernel) (by decide +kernel)
theorem dMu_fillNim_51 : decode cMu_fillNim 51 = .ok (.iastore, 1) := by decide +kernel
theorem ln_70 : hz_ln 70 = 100 := by decide
theorem dMu_fillNim_52 : decode cMu_fillNim 52 = .ok (.iinc 1 1, 3) := by decide +kernel
theorem dMu_fillNim_55 : decode cMu_fillNim 55 = .ok (.goto (-53), 3) := by decide +kernel
theorem dMu_fillNim_19 : decode cMu_fillNim 19 = .ok (.iload_n 2, 1) := by decide +kernel
theorem dMu_fillNim_20 : decode cMu_fillNim 20 = .ok (.iconst 1, 1) := by decide +kernel
theorem dMu_fillNim_21 : decode cMu_fillNim 21 = .ok (.aload_n 0, 1) := by decide +kernel
theorem dMu_fillNim_22 : decode cMu_fillNim 22 = .ok (.getfield 21, 3) := by decide +kernel
theorem dMu_fillNim_25 : decode cMu_fillNim 25 = .ok (.iload_n 1, 1) := by decide +kernel
theorem dMu_fillNim_26 : decode cMu_fillNim 26 = .ok (.iload_n 3, 1) := by decide +kernel
theorem dMu_fillNim_27 : decode cMu_fillNim 27 = .ok (.iload_n 3, 1) := by decide +kernel
theorem dMu_fillNim_28 : decode cMu_fillNim 28 = .ok (.imul, 1) := by decide +kernel
theorem dMu_fillNim_29 : decode cMu_fillNim 29 = .ok (.isub, 1) := by decide +kernel
theorem dMu_fillNim_30 : decode cMu_fillNim 30 = .ok (.iaload, 1) := by decide +kernel
theorem dMu_fillNim_31 : decode cMu_fillNim 31 = .ok (.ishl, 1) := by decide +kernel
theorem dMu_fillNim_32 : decode cMu_fillNim 32 = .ok (.ior, 1) := by decide +kernel
theorem dMu_fillNim_33 : decode cMu_fillNim 33 = .ok (.istore_n 2, 1) := by decide +kernel
theorem dMu_fillNim_34 : decode cMu_fillNim 34 = .ok (.iinc 3 1, 3) := by decide +kernel
theorem dMu_fillNim_37 : decode cMu_fillNim 37 = .ok (.goto (-25), 3) := by decide +kernel
def fMu_fillNim (s0 : Sg) : Option (Sg) := lp FU (fun q2 (u2 : Int32) (s1 : Sg) => if 99 < u2 then (some s1) else (lp FU (fun q12 (u12 : Int32 × Int32) (s2 : Sg) => if u2 < (u12.2 * u12.2) then (bi (fJ6_numberOfTrailingZeros_0f7a4 (u12.1 ^^^ (-1)) s2) fun r4 s3 => gd u2 100 (bnd (pt s3 70 (ix u2) r4) fun s5 => q2 (u2 + 1) s5)) else (gd (u2 - (u12.2 * u12.2)) 100 (bnd (u12.1 ||| (1 <<< ((s2 70 (ix (u2 - (u12.2 * u12.2)))) &&& 31))) fun x6 => q12 (x6, (u12.2 + 1)) s2))) (0, 1) s1)) 0 s0
set_option maxHeartbeats 4000000 in
set_option maxRecDepth 100000 in
theorem okMu_fillNim (s0 : Sg) : ∀ (l : Launch) (w : WC), Ok l w yMu_fillNim cMu_fillNim 4 none 2 evV [.ref (w.ad 66)] s0 (fMu_fillNim s0) := by
  refine ok_in (ev := fun _ => evV) (av := fun w => [.ref (w.ad 66)]) "LastWordHill$Muse" rfl (by decide +kernel) (fun _ => rfl) (fun _ => Nat.le_of_ble_eq_true rfl) ?_
  intro C X E
  show GF C evV 0 [some (.ref (C.w.ad 66)), none, none, none] [] s0 (fMu_fillNim s0)
  unfold fMu_fillNim
  refine g_iconst X 0 dMu_fillNim_0 (by decide) ?_
  refine g_istore_n X [some (.ref (C.w.ad 66)), some (.int 0), none, none] dMu_fillNim_1 (by decide) (Nat.le_of_ble_eq_true rfl) rfl ?_
  refine gf_sub (L' := [some (.ref (C.w.ad 66)), some (.int 0), none, none]) ?_ (by simp [lsub])
  refine gf_lp (Lf := fun (u2 : Int32) => [some (.ref (C.w.ad 66)), some (.int u2), none, none]) (fun q2 hq2 u2 s1 => ?_) FU 0 s0
  refine g_iload_n X dMu_fillNim_2 rfl ?_
  refine g_bipush X 99 dMu_fillNim_3 (by decide) ?_
  refine g_cgt X (tgt := 58) dMu_fillNim_5 (by decide) ?_ ?_
  · exact g_vret X E dMu_fillNim_58
  · refine g_iconst X 0 dMu_fillNim_8 (by decide) ?_
    refine g_istore_n X [some (.ref (C.w.ad 66)), some (.int u2), some (.int 0), none] dMu_fillNim_9 (by decide) (Nat.le_of_ble_eq_true rfl) rfl ?_
    refine g_iconst X 1 dMu_fillNim_10 (by decide) ?_
    refine g_istore_n X [some (.ref (C.w.ad 66)), some (.int u2), some (.int 0), some (.int 1)] dMu_fillNim_11 (by decide) (Nat.le_of_ble_eq_true rfl) rfl ?_
    refine gf_sub (L' := [some (.ref (C.w.ad 66)), some (.int u2), some (.int 0), some (.int 1)]) ?_ (by simp [lsub])
    refine gf_lp (Lf := fun (u12 : Int32 × Int32) => [some (.ref (C.w.ad 66)), some (.int u2), some (.int u12.1), some (.int u12.2)]) (fun q12 hq12 u12 s2 => ?_) FU (0, 1) s1
    refine g_iload_n X dMu_fillNim_12 rfl ?_
    refine g_iload_n X dMu_fillNim_13 rfl ?_
    refine g_imul X dMu_fillNim_14 ?_
    refine g_iload_n X dMu_fillNim_15 rfl ?_
    refine g_cgt X (tgt := 40) dMu_fillNim_16 (by decide) ?_ ?_
    · refine g_aload_n X dMu_fillNim_40 rfl ?_
      refine g_getN X fl_Mu_21 fb_2_5 k_66 r_66_5 dMu_fillNim_41 ?_
      refine g_iload_n X dMu_fillNim_44 rfl ?_
      refine g_iload_n X dMu_fillNim_45 rfl ?_
      refine g_iconst X (-1) dMu_fillNim_46 (by decide) ?_
      refine g_ixor X dMu_fillNim_47 ?_
      refine g_statI X [.int (u12.1 ^^^ (-1))] [.int u2, .ref (C.w.ad 70)] mm_J6_numberOfTrailingZeros_0f7a4 ms_J6_numberOfTrailingZeros_0f7a4 ml_Mu_204 (okJ6_numberOfTrailingZeros_0f7a4 (u12.1 ^^^ (-1)) s2 C.l C.w) rfl (by decide) rfl (Nat.le_of_ble_eq_true rfl) dMu_fillNim_48 (fun r4 s3 => ?_)
      refine g_iast X k_70 ln_70 dMu_fillNim_51 (fun s5 => ?_)
      refine g_iinc X (u2 + 1) [some (.ref (C.w.ad 66)), some (.int (u2 + 1)), some (.int u12.1), some (.int u12.2)] dMu_fillNim_52 rfl rfl (by decide) rfl ?_
      refine g_goto X 2 dMu_fillNim_55 (by decide) ?_
      exact gf_sub (hq2 (u2 + 1) s5) (by simp [lsub])
    · refine g_iload_n X dMu_fillNim_19 rfl ?_
      refine g_iconst X 1 dMu_fillNim_20 (by decide) ?_
      refine g_aload_n X dMu_fillNim_21 rfl ?_
      refine g_getN X fl_Mu_21 fb_2_5 k_66 r_66_5 dMu_fillNim_22 ?_
      refine g_iload_n X dMu_fillNim_25 rfl ?_
      refine g_iload_n X dMu_fillNim_26 rfl ?_
      refine g_iload_n X dMu_fillNim_27 rfl ?_
      refine g_imul X dMu_fillNim_28 ?_
      refine g_isub X dMu_fillNim_29 ?_
      refine g_iald X k_70 ln_70 dMu_fillNim_30 ?_
      refine g_ishl X dMu_fillNim_31 ?_
      refine g_ior X dMu_fillNim_32 ?_
      refine gf_nm (fun x6 => ?_)
      refine g_istore_n X [some (.ref (C.w.ad 66)), some (.int u2), some (.int x6), some (.int u12.2)] dMu_fillNim_33 (by decide) (Nat.le_of_ble_eq_true rfl) rfl ?_
      refine g_iinc X (u12.2 + 1) [some (.ref (C.w.ad 66)), some (.int u2), some (.int x6), some (.int (u12.2 + 1))] dMu_fillNim_34 rfl rfl (by decide) rfl ?_
      refine g_goto X 12 dMu_fillNim_37 (by decide) ?_
      exact gf_sub (hq12 (x6, (u12.2 + 1)) s2) (by simp [lsub])
def yMu_nimOf : MethodName := ⟨"LastWordHill$Muse", "nimOf", "(I)I"⟩
abbrev cMu_nimOf : ByteArray := prog_4_method_38_code
theorem dMu_nimOf_0 : decode cMu_nimOf 0 = .ok (.iload_n 1, 1) := by decide +kernel
theorem dMu_nimOf_1 : decode cMu_nimOf 1 = .ok (.iconst 0, 1) := by decide +kernel
theorem dMu_nimOf_2 : decode cMu_nimOf 2 = .ok (.bipush 99, 2) := by decide +kernel
theorem dMu_nimOf_4 : decode cMu_nimOf 4 = .ok (.invokestatic 124, 3) := by decide +kernel
theorem dMu_nimOf_7 : decode cMu_nimOf 7 = .ok (.ifCond .eq 12, 3) := by decide +kernel
theorem dMu_nimOf_19 : decode cMu_nimOf 19 = .ok (.iconst 0, 1) := by decide +kernel
theorem dMu_nimOf_20 : decode cMu_nimOf 20 = .ok (.ireturn, 1) := by decide +kernel
theorem dMu_nimOf_10 : decode cMu_nimOf 10 = .ok (.aload_n 0, 1) := by decide +kernel
theorem dMu_nimOf_11 : decode cMu_nimOf 11 = .ok (.getfield 21, 3) := by decide +kernel
theorem dMu_nimOf_14 : decode cMu_nimOf 14 = .ok (.iload_n 1, 1) := by decide +kernel
theorem dMu_nimOf_15 : decode cMu_nimOf 15 = .ok (.iaload, 1) := by decide +kernel
theorem dMu_nimOf_16 : decode cMu_nimOf 16 = .ok (.goto 4, 3) := by decide +kernel
def fMu_nimOf (v1 : Int32) (s0 : Sg) : Option (Int32 × Sg) := bi (fH_within v1 0 99 s0) fun r2 s1 => if r2 = 0 then (some (0, s1)) else (gd v1 100 (some ((s1 70 (ix v1)), s1)))
set_option maxHeartbeats 4000000 in
set_option maxRecDepth 100000 in
theorem okMu_nimOf (v1 : Int32) (s0 : Sg) : ∀ (l : Launch) (w : WC), Ok l w yMu_nimOf cMu_nimOf 2 (some .int) 2 evI [.ref (w.ad 66), .int v1] s0 (fMu_nimOf v1 s0) := by
  refine ok_in (ev := fun _ => evI) (av := fun w => [.ref (w.ad 66), .int v1]) "LastWordHill$Muse" rfl (by decide +kernel) (fun _ => rfl) (fun _ => Nat.le_of_ble_eq_true rfl) ?_
  intro C X E
  show GF C evI 0 [some (.ref (C.w.ad 66)), some (.int v1)] [] s0 (fMu_nimOf v1 s0)
  unfold fMu_nimOf
  refine g_iload_n X dMu_nimOf_0 rfl ?_
  refine g_iconst X 0 dMu_nimOf_1 (by decide) ?_
  refine g_bipush X 99 dMu_nimOf_2 (by decide) ?_
  refine g_nestI X [.int v1, .int 0, .int 99] [] mm_H_within ms_H_within ml_Mu_124 (okH_within v1 0 99 s0 C.l C.w) rfl (by decide) rfl (Nat.le_of_ble_eq_true rfl) dMu_nimOf_4 (fun r2 s1 => ?_)
  refine g_zeq X (tgt := 19) dMu_nimOf_7 (by decide) ?_ ?_
  · refine g_iconst X 0 dMu_nimOf_19 (by decide) ?_
    exact g_iret X E dMu_nimOf_20
  · refine g_aload_n X dMu_nimOf_10 rfl ?_
    refine g_getN X fl_Mu_21 fb_2_5 k_66 r_66_5 dMu_nimOf_11 ?_
    refine g_iload_n X dMu_nimOf_14 rfl ?_
    refine g_iald X k_70 ln_70 dMu_nimOf_15 ?_
    refine g_goto X 20 dMu_nimOf_16 (by decide) ?_
    exact g_iret X E dMu_nimOf_20
def yPa_newest : MethodName := ⟨"LastWordHill$Past", "newest", "()LLastWordHill$Scene;"⟩
abbrev cPa_newest : ByteArray := prog_5_method_4_code
theorem dPa_newest_0 : decode cPa_newest 0 = .ok (.aload_n 0, 1) := by decide +kernel
theorem dPa_newest_1 : decode cPa_newest 1 = .ok (.getfield 11, 3) := by decide +kernel
theorem fl_Pa_11 : FLk "LastWordHill$Past" 11 3 0 := ⟨_, _, _, rfl, by decide, hz_in 241 (by decide +kernel) (by decide +kernel), nL3, by decide, by decide⟩
theorem k_6 : hz_kd 6 = 14 := by decide
theorem fb_3_0 : (hz_bs 3)[0]? = some true := by decide
theorem r_5_0 : hz_rf 5 0 = 6 := by decide
theorem dPa_newest_4 : decode cPa_newest 4 = .ok (.aload_n 0, 1) := by decide +kernel
theorem dPa_newest_5 : decode cPa_newest 5 = .ok (.getfield 22, 3) := by decide +kernel
theorem fl_Pa_22 : FLk "LastWordHill$Past" 22 3 1 := ⟨_, _, _, rfl, by decide, hz_in 242 (by decide +kernel) (by decide +kernel), nL3, by decide, by decide⟩
theorem fb_3_1 : (hz_bs 3)[1]? = some false := by decide
theorem dPa_newest_8 : decode cPa_newest 8 = .ok (.aload_n 0, 1) := by decide +kernel
theorem dPa_newest_9 : decode cPa_newest 9 = .ok (.getfield 18, 3) := by decide +kernel
theorem dPa_newest_12 : decode cPa_newest 12 = .ok (.iadd, 1) := by decide +kernel
theorem dPa_newest_13 : decode cPa_newest 13 = .ok (.iconst 1, 1) := by decide +kernel
theorem dPa_newest_14 : decode cPa_newest 14 = .ok (.isub, 1) := by decide +kernel
theorem dPa_newest_15 : decode cPa_newest 15 = .ok (.bipush 6, 2) := by decide +kernel
theorem dPa_newest_17 : decode cPa_newest 17 = .ok (.invokestatic 33, 3) := by decide +kernel
theorem ml_Pa_33 : Cond.methodLink "LastWordHill$Past" 33 yJ9_floorMod_7cf53 ∈ hz_wt := hz_in 647 (by decide +kernel) (by decide +kernel)
theorem dPa_newest_20 : decode cPa_newest 20 = .ok (.aaload, 1) := by decide +kernel
theorem ln_6 : hz_ln 6 = 6 := by decide
theorem dPa_newest_21 : decode cPa_newest 21 = .ok (.areturn, 1) := by decide +kernel
def fPa_newest (s0 : Sg) : Option (Nat × Sg) := bi (fJ9_floorMod_7cf53 (((s0 5 1) + (s0 5 2)) - 1) 6 s0) fun r2 s1 => gd r2 6 (some ((hz_rf 6 (ix r2)), s1))
set_option maxHeartbeats 4000000 in
set_option maxRecDepth 100000 in
theorem okPa_newest (s0 : Sg) : ∀ (l : Launch) (w : WC), Ok l w yPa_newest cPa_newest 1 (some (.object "LastWordHill$Scene")) 2 (evR w) [.ref (w.ad 5)] s0 (fPa_newest s0) := by
  refine ok_in (ev := fun w => evR w) (av := fun w => [.ref (w.ad 5)]) "LastWordHill$Past" rfl (by decide +kernel) (fun _ => rfl) (fun _ => Nat.le_of_ble_eq_true rfl) ?_
  intro C X E
  show GF C (evR C.w) 0 [some (.ref (C.w.ad 5))] [] s0 (fPa_newest s0)
  unfold fPa_newest
  refine g_aload_n X dPa_newest_0 rfl ?_
  refine g_getN X fl_Pa_11 fb_3_0 k_5 r_5_0 dPa_newest_1 ?_
  refine g_aload_n X dPa_newest_4 rfl ?_
  refine g_getI X fl_Pa_22 fb_3_1 k_5 dPa_newest_5 ?_
  refine g_aload_n X dPa_newest_8 rfl ?_
  refine g_getI X fl_Pa_18 fb_3_2 k_5 dPa_newest_9 ?_
  refine g_iadd X dPa_newest_12 ?_
  refine g_iconst X 1 dPa_newest_13 (by decide) ?_
  refine g_isub X dPa_newest_14 ?_
  refine g_bipush X 6 dPa_newest_15 (by decide) ?_
  refine g_statI X [.int (((s0 5 1) + (s0 5 2)) - 1), .int 6] [.ref (C.w.ad 6)] mm_J9_floorMod_7cf53 ms_J9_floorMod_7cf53 ml_Pa_33 (okJ9_floorMod_7cf53 (((s0 5 1) + (s0 5 2)) - 1) 6 s0 C.l C.w) rfl (by decide) rfl (Nat.le_of_ble_eq_true rfl) dPa_newest_17 (fun r2 s1 => ?_)
  refine g_aald X k_6 ln_6 dPa_newest_20 (fun hj3 => ?_)
  exact g_aret X E dPa_newest_21
def yRe_startsLine : MethodName := ⟨"LastWordHill$Reader", "startsLine", "(II)Z"⟩
abbrev cRe_startsLine : ByteArray := prog_6_method_4_code
theorem dRe_startsLine_0 : decode cRe_startsLine 0 = .ok (.iload_n 1, 1) := by decide +kernel
theorem dRe_startsLine_1 : decode cRe_startsLine 1 = .ok (.ifCond .ne 9, 3) := by decide +kernel
theorem dRe_startsLine_13 : decode cRe_startsLine 13 = .ok (.istore_n 3, 1) := by decide +kernel
theorem dRe_startsLine_14 : decode cRe_startsLine 14 = .ok (.aload_n 0, 1) := by decide +kernel
theorem dRe_startsLine_15 : decode cRe_startsLine 15 = .ok (.getfield 14, 3) := by decide +kernel
theorem dRe_startsLine_18 : decode cRe_startsLine 18 = .ok (.getfield 52, 3) := by decide +kernel
theorem fl_Re_52 : FLk "LastWordHill$Reader" 52 9 7 := ⟨_, _, _, rfl, by decide, hz_in 354 (by decide +kernel) (by decide +kernel), nL9, by decide, by decide⟩
theorem dRe_startsLine_21 : decode cRe_startsLine 21 = .ok (.sipush 256, 3) := by decide +kernel
theorem dRe_startsLine_24 : decode cRe_startsLine 24 = .ok (.iload_n 3, 1) := by decide +kernel
theorem dRe_startsLine_25 : decode cRe_startsLine 25 = .ok (.invokestatic 36, 3) := by decide +kernel
theorem ml_Re_36 : Cond.methodLinkNest "LastWordHill$Reader" 36 yH_within "LastWordHill" ∈ hz_nt := hz_inN 805 (by decide +kernel) (by decide +kernel)
theorem dRe_startsLine_28 : decode cRe_startsLine 28 = .ok (.ifCond .ne 9, 3) := by decide +kernel
theorem dRe_startsLine_37 : decode cRe_startsLine 37 = .ok (.iload_n 2, 1) := by decide +kernel
theorem dRe_startsLine_38 : decode cRe_startsLine 38 = .ok (.bipush 16, 2) := by decide +kernel
theorem dRe_startsLine_40 : decode cRe_startsLine 40 = .ok (.if_icmp .lt 11, 3) := by decide +kernel
theorem dRe_startsLine_51 : decode cRe_startsLine 51 = .ok (.iconst 1, 1) := by decide +kernel
theorem dRe_startsLine_52 : decode cRe_startsLine 52 = .ok (.goto 4, 3) := by decide +kernel
theorem dRe_startsLine_56 : decode cRe_startsLine 56 = .ok (.ireturn, 1) := by decide +kernel
theorem dRe_startsLine_43 : decode cRe_startsLine 43 = .ok (.aload_n 0, 1) := by decide +kernel
theorem dRe_startsLine_44 : decode cRe_startsLine 44 = .ok (.iconst 3, 1) := by decide +kernel
theorem dRe_startsLine_45 : decode cRe_startsLine 45 = .ok (.invokevirtual 81, 3) := by decide +kernel
theorem mm_Re_wrong : MMc yRe_wrong cRe_wrong 2 (some .boolean) 1 := ⟨hz_in 986 (by decide +kernel) (by decide +kernel), hz_in 141 (by decide +kernel) (by decide +kernel), by decide +kernel, by decide⟩
theorem mv_Re_wrong : MMv yRe_wrong 4 := ⟨hz_in 985 (by decide +kernel) (by decide +kernel), hz_in 14 (by decide +kernel) (by decide +kernel), _, _, rfl, by decide⟩
theorem ml_Re_81 : Cond.methodLink "LastWordHill$Reader" 81 yRe_wrong ∈ hz_wt := hz_in 983 (by decide +kernel) (by decide +kernel)
theorem dRe_startsLine_48 : decode cRe_startsLine 48 = .ok (.ifCond .eq 7, 3) := by decide +kernel
theorem dRe_startsLine_55 : decode cRe_startsLine 55 = .ok (.iconst 0, 1) := by decide +kernel
theorem dRe_startsLine_31 : decode cRe_startsLine 31 = .ok (.aload_n 0, 1) := by decide +kernel
theorem dRe_startsLine_32 : decode cRe_startsLine 32 = .ok (.iconst 1, 1) := by decide +kernel
theorem dRe_startsLine_33 : decode cRe_startsLine 33 = .ok (.invokevirtual 81, 3) := by decide +kernel
theorem dRe_startsLine_36 : decode cRe_startsLine 36 = .ok (.ireturn, 1) := by decide +kernel
theorem dRe_startsLine_10 : decode cRe_startsLine 10 = .ok (.sipush 256, 3) := by decide +kernel
theorem dRe_startsLine_4 : decode cRe_startsLine 4 = .ok (.sipush 258, 3) := by decide +kernel
theorem dRe_startsLine_7 : decode cRe_startsLine 7 = .ok (.goto 6, 3) := by decide +kernel
def fRe_startsLine (v1 : Int32) (v2 : Int32) (s0 : Sg) : Option (Int32 × Sg) := bnd (fun (b13_0 : Int32) (s1 : Sg) => bi (fH_within (s1 31 7) 256 b13_0 s1) fun r3 s2 => if r3 = 0 then (bi (fRe_wrong 1 s2) fun r8 s7 => gb r8 (some (r8, s7))) else (bnd (fun (s4 : Sg) => gb 1 (some (1, s4))) fun j51 => if v2 < 16 then (j51 s2) else (bi (fRe_wrong 3 s2) fun r6 s5 => if r6 = 0 then (gb 0 (some (0, s5))) else (j51 s5)))) fun j13 => if v1 = 0 then (j13 258 s0) else (j13 256 s0)
set_option maxHeartbeats 4000000 in
set_option maxRecDepth 100000 in
theorem okRe_startsLine (v1 : Int32) (v2 : Int32) (s0 : Sg) : ∀ (l : Launch) (w : WC), Ok l w yRe_startsLine cRe_startsLine 4 (some .boolean) 2 evI [.ref (w.ad 30), .int v1, .int v2] s0 (fRe_startsLine v1 v2 s0) := by
  refine ok_in (ev := fun _ => evI) (av := fun w => [.ref (w.ad 30), .int v1, .int v2]) "LastWordHill$Reader" rfl (by decide +kernel) (fun _ => rfl) (fun _ => Nat.le_of_ble_eq_true rfl) ?_
  intro C X E
  show GF C evI 0 [some (.ref (C.w.ad 30)), some (.int v1), some (.int v2), none] [] s0 (fRe_startsLine v1 v2 s0)
  unfold fRe_startsLine
  refine g_iload_n X dRe_startsLine_0 rfl ?_
  refine gf_jn (fun j13 => ∀ (b13_0 : Int32) (s1 : Sg), GF C evI 13 [some (.ref (C.w.ad 30)), none, some (.int v2), none] [.int b13_0] s1 (j13 b13_0 s1)) ?_ ?_
  · intro b13_0 s1
    refine g_istore_n X [some (.ref (C.w.ad 30)), none, some (.int v2), some (.int b13_0)] dRe_startsLine_13 (by decide) (Nat.le_of_ble_eq_true rfl) rfl ?_
    refine g_aload_n X dRe_startsLine_14 rfl ?_
    refine g_getN X fl_Re_14 fb_4_0 k_30 r_30_0 dRe_startsLine_15 ?_
    refine g_getI X fl_Re_52 fb_9_7 k_31 dRe_startsLine_18 ?_
    refine g_sipush X 256 dRe_startsLine_21 (by decide) ?_
    refine g_iload_n X dRe_startsLine_24 rfl ?_
    refine g_nestI X [.int (s1 31 7), .int 256, .int b13_0] [] mm_H_within ms_H_within ml_Re_36 (okH_within (s1 31 7) 256 b13_0 s1 C.l C.w) rfl (by decide) rfl (Nat.le_of_ble_eq_true rfl) dRe_startsLine_25 (fun r3 s2 => ?_)
    refine g_zne X (tgt := 37) dRe_startsLine_28 (by decide) ?_ ?_
    · refine g_aload_n X dRe_startsLine_31 rfl ?_
      refine g_iconst X 1 dRe_startsLine_32 (by decide) ?_
      refine g_virtI X [.int 1] [] k_30 mm_Re_wrong mv_Re_wrong ml_Re_81 (okRe_wrong 1 s2 C.l C.w) rfl (by decide) rfl (Nat.le_of_ble_eq_true rfl) dRe_startsLine_33 (fun r8 s7 => ?_)
      exact g_zret X E dRe_startsLine_36
    · refine g_iload_n X dRe_startsLine_37 rfl ?_
      refine g_bipush X 16 dRe_startsLine_38 (by decide) ?_
      refine gf_jn (fun j51 => ∀ (s4 : Sg), GF C evI 51 [none, none, none, none] [] s4 (j51 s4)) ?_ ?_
      · intro s4
        refine g_iconst X 1 dRe_startsLine_51 (by decide) ?_
        refine g_goto X 56 dRe_startsLine_52 (by decide) ?_
        exact g_zret X E dRe_startsLine_56
      · intro j51 hj51
        refine g_clt X (tgt := 51) dRe_startsLine_40 (by decide) ?_ ?_
        · exact gf_sub (hj51 s2) (by simp [lsub])
        · refine g_aload_n X dRe_startsLine_43 rfl ?_
          refine g_iconst X 3 dRe_startsLine_44 (by decide) ?_
          refine g_virtI X [.int 3] [] k_30 mm_Re_wrong mv_Re_wrong ml_Re_81 (okRe_wrong 3 s2 C.l C.w) rfl (by decide) rfl (Nat.le_of_ble_eq_true rfl) dRe_startsLine_45 (fun r6 s5 => ?_)
          refine g_zeq X (tgt := 55) dRe_startsLine_48 (by decide) ?_ ?_
          · refine g_iconst X 0 dRe_startsLine_55 (by decide) ?_
            exact g_zret X E dRe_startsLine_56
          · exact gf_sub (hj51 s5) (by simp [lsub])
  · intro j13 hj13
    refine g_zne X (tgt := 10) dRe_startsLine_1 (by decide) ?_ ?_
    · refine g_sipush X 258 dRe_startsLine_4 (by decide) ?_
      refine g_goto X 13 dRe_startsLine_7 (by decide) ?_
      exact gf_sub (hj13 258 s0) (by simp [lsub])
    · refine g_sipush X 256 dRe_startsLine_10 (by decide) ?_
      exact gf_sub (hj13 256 s0) (by simp [lsub])
def yRe_skip : MethodName := ⟨"LastWordHill$Reader", "skip", "(I)Z"⟩
abbrev cRe_skip : ByteArray := prog_6_method_7_code
theorem dRe_skip_0 : decode cRe_skip 0 = .ok (.aload_n 0, 1) := by decide +kernel
theorem dRe_skip_1 : decode cRe_skip 1 = .ok (.getfield 14, 3) := by decide +kernel
theorem dRe_skip_4 : decode cRe_skip 4 = .ok (.getfield 52, 3) := by decide +kernel
theorem dRe_skip_7 : decode cRe_skip 7 = .ok (.iload_n 1, 1) := by decide +kernel
theorem dRe_skip_8 : decode cRe_skip 8 = .ok (.if_icmp .eq 9, 3) := by decide +kernel
theorem dRe_skip_17 : decode cRe_skip 17 = .ok (.aload_n 0, 1) := by decide +kernel
theorem dRe_skip_18 : decode cRe_skip 18 = .ok (.getfield 14, 3) := by decide +kernel
theorem dRe_skip_21 : decode cRe_skip 21 = .ok (.invokevirtual 96, 3) := by decide +kernel
theorem mm_To_advance : MMc yTo_advance cTo_advance 1 none 0 := ⟨hz_in 978 (by decide +kernel) (by decide +kernel), hz_in 142 (by decide +kernel) (by decide +kernel), by decide +kernel, by decide⟩
theorem mv_To_advance : MMv yTo_advance 9 := ⟨hz_in 976 (by decide +kernel) (by decide +kernel), hz_in 977 (by decide +kernel) (by decide +kernel), _, _, rfl, by decide⟩
theorem ml_Re_96 : Cond.methodLink "LastWordHill$Reader" 96 yTo_advance ∈ hz_wt := hz_in 991 (by decide +kernel) (by decide +kernel)
theorem dRe_skip_24 : decode cRe_skip 24 = .ok (.iconst 1, 1) := by decide +kernel
theorem dRe_skip_25 : decode cRe_skip 25 = .ok (.ireturn, 1) := by decide +kernel
theorem dRe_skip_11 : decode cRe_skip 11 = .ok (.aload_n 0, 1) := by decide +kernel
theorem dRe_skip_12 : decode cRe_skip 12 = .ok (.iconst 1, 1) := by decide +kernel
theorem dRe_skip_13 : decode cRe_skip 13 = .ok (.invokevirtual 81, 3) := by decide +kernel
theorem dRe_skip_16 : decode cRe_skip 16 = .ok (.ireturn, 1) := by decide +kernel
def fRe_skip (v1 : Int32) (s0 : Sg) : Option (Int32 × Sg) := if (s0 31 7) = v1 then (bv (fTo_advance s0) fun s1 => gb 1 (some (1, s1))) else (bi (fRe_wrong 1 s0) fun r3 s2 => gb r3 (some (r3, s2)))
set_option maxHeartbeats 4000000 in
set_option maxRecDepth 100000 in
theorem okRe_skip (v1 : Int32) (s0 : Sg) : ∀ (l : Launch) (w : WC), Ok l w yRe_skip cRe_skip 2 (some .boolean) 2 evI [.ref (w.ad 30), .int v1] s0 (fRe_skip v1 s0) := by
  refine ok_in (ev := fun _ => evI) (av := fun w => [.ref (w.ad 30), .int v1]) "LastWordHill$Reader" rfl (by decide +kernel) (fun _ => rfl) (fun _ => Nat.le_of_ble_eq_true rfl) ?_
  intro C X E
  show GF C evI 0 [some (.ref (C.w.ad 30)), some (.int v1)] [] s0 (fRe_skip v1 s0)
  unfold fRe_skip
  refine g_aload_n X dRe_skip_0 rfl ?_
  refine g_getN X fl_Re_14 fb_4_0 k_30 r_30_0 dRe_skip_1 ?_
  refine g_getI X fl_Re_52 fb_9_7 k_31 dRe_skip_4 ?_
  refine g_iload_n X dRe_skip_7 rfl ?_
  refine g_ceq X (tgt := 17) dRe_skip_8 (by decide) ?_ ?_
  · refine g_aload_n X dRe_skip_17 rfl ?_
    refine g_getN X fl_Re_14 fb_4_0 k_30 r_30_0 dRe_skip_18 ?_
    refine g_virtV X [] [] k_31 mm_To_advance mv_To_advance ml_Re_96 (okTo_advance s0 C.l C.w) rfl (by decide) rfl (Nat.le_of_ble_eq_true rfl) dRe_skip_21 (fun s1 => ?_)
    refine g_iconst X 1 dRe_skip_24 (by decide) ?_
    exact g_zret X E dRe_skip_25
  · refine g_aload_n X dRe_skip_11 rfl ?_
    refine g_iconst X 1 dRe_skip_12 (by decide) ?_
    refine g_virtI X [.int 1] [] k_30 mm_Re_wrong mv_Re_wrong ml_Re_81 (okRe_wrong 1 s0 C.l C.w) rfl (by decide) rfl (Nat.le_of_ble_eq_true rfl) dRe_skip_13 (fun r3 s2 => ?_)
    exact g_zret X E dRe_skip_16
def yRe_number : MethodName := ⟨"LastWordHill$Reader", "number", "(II)Z"⟩
abbrev cRe_number : ByteArray := prog_6_method_8_code
theorem dRe_number_0 : decode cRe_number 0 = .ok (.aload_n 0, 1) := by decide +kernel
theorem dRe_number_1 : decode cRe_number 1 = .ok (.getfield 14, 3) := by decide +kernel
theorem dRe_number_4 : decode cRe_number 4 = .ok (.getfield 52, 3) := by decide +kernel
theorem dRe_number_7 : decode cRe_number 7 = .ok (.iconst 1, 1) := by decide +kernel
theorem dRe_number_8 : decode cRe_number 8 = .ok (.if_icmp .eq 9, 3) := by decide +kernel
theorem dRe_number_17 : decode cRe_number 17 = .ok (.aload_n 0, 1) := by decide +kernel
theorem dRe_number_18 : decode cRe_number 18 = .ok (.getfield 14, 3) := by decide +kernel
theorem dRe_number_21 : decode cRe_number 21 = .ok (.getfield 99, 3) := by decide +kernel
theorem fl_Re_99 : FLk "LastWordHill$Reader" 99 9 9 := ⟨_, _, _, rfl, by decide, hz_in 359 (by decide +kernel) (by decide +kernel), nL9, by decide, by decide⟩
theorem dRe_number_24 : decode cRe_number 24 = .ok (.iload_n 1, 1) := by decide +kernel
theorem dRe_number_25 : decode cRe_number 25 = .ok (.iload_n 2, 1) := by decide +kernel
theorem dRe_number_26 : decode cRe_number 26 = .ok (.invokestatic 36, 3) := by decide +kernel
theorem dRe_number_29 : decode cRe_number 29 = .ok (.ifCond .ne 9, 3) := by decide +kernel
theorem dRe_number_38 : decode cRe_number 38 = .ok (.aload_n 0, 1) := by decide +kernel
theorem dRe_number_39 : decode cRe_number 39 = .ok (.aload_n 0, 1) := by decide +kernel
theorem dRe_number_40 : decode cRe_number 40 = .ok (.getfield 14, 3) := by decide +kernel
theorem dRe_number_43 : decode cRe_number 43 = .ok (.getfield 99, 3) := by decide +kernel
theorem dRe_number_46 : decode cRe_number 46 = .ok (.putfield 102, 3) := by decide +kernel
theorem fl_Re_102 : FLk "LastWordHill$Reader" 102 4 5 := ⟨_, _, _, rfl, by decide, hz_in 392 (by decide +kernel) (by decide +kernel), nL4, by decide, by decide⟩
theorem fb_4_5 : (hz_bs 4)[5]? = some false := by decide
theorem fp_4_5 : FLp 4 5 .int := ⟨_, _, _, _, rfl, nY4, nN4, by decide, by decide⟩
theorem dRe_number_49 : decode cRe_number 49 = .ok (.aload_n 0, 1) := by decide +kernel
theorem dRe_number_50 : decode cRe_number 50 = .ok (.getfield 14, 3) := by decide +kernel
theorem dRe_number_53 : decode cRe_number 53 = .ok (.invokevirtual 96, 3) := by decide +kernel
theorem dRe_number_56 : decode cRe_number 56 = .ok (.iconst 1, 1) := by decide +kernel
theorem dRe_number_57 : decode cRe_number 57 = .ok (.ireturn, 1) := by decide +kernel
theorem dRe_number_32 : decode cRe_number 32 = .ok (.aload_n 0, 1) := by decide +kernel
theorem dRe_number_33 : decode cRe_number 33 = .ok (.iconst 2, 1) := by decide +kernel
theorem dRe_number_34 : decode cRe_number 34 = .ok (.invokevirtual 81, 3) := by decide +kernel
theorem dRe_number_37 : decode cRe_number 37 = .ok (.ireturn, 1) := by decide +kernel
theorem dRe_number_11 : decode cRe_number 11 = .ok (.aload_n 0, 1) := by decide +kernel
theorem dRe_number_12 : decode cRe_number 12 = .ok (.iconst 1, 1) := by decide +kernel
theorem dRe_number_13 : decode cRe_number 13 = .ok (.invokevirtual 81, 3) := by decide +kernel
theorem dRe_number_16 : decode cRe_number 16 = .ok (.ireturn, 1) := by decide +kernel
def fRe_number (v1 : Int32) (v2 : Int32) (s0 : Sg) : Option (Int32 × Sg) := if (s0 31 7) = 1 then (bi (fH_within (s0 31 9) v1 v2 s0) fun r2 s1 => if r2 = 0 then (bi (fRe_wrong 2 s1) fun r6 s5 => gb r6 (some (r6, s5))) else (bnd (pt s1 30 5 (s1 31 9)) fun s3 => bv (fTo_advance s3) fun s4 => gb 1 (some (1, s4)))) else (bi (fRe_wrong 1 s0) fun r8 s7 => gb r8 (some (r8, s7)))
set_option maxHeartbeats 4000000 in
set_option maxRecDepth 100000 in
theorem okRe_number (v1 : Int32) (v2 : Int32) (s0 : Sg) : ∀ (l : Launch) (w : WC), Ok l w yRe_number cRe_number 3 (some .boolean) 2 evI [.ref (w.ad 30), .int v1, .int v2] s0 (fRe_number v1 v2 s0) := by
  refine ok_in (ev := fun _ => evI) (av := fun w => [.ref (w.ad 30), .int v1, .int v2]) "LastWordHill$Reader" rfl (by decide +kernel) (fun _ => rfl) (fun _ => Nat.le_of_ble_eq_true rfl) ?_
  intro C X E
  show GF C evI 0 [some (.ref (C.w.ad 30)), some (.int v1), some (.int v2)] [] s0 (fRe_number v1 v2 s0)
  unfold fRe_number
  refine g_aload_n X dRe_number_0 rfl ?_
  refine g_getN X fl_Re_14 fb_4_0 k_30 r_30_0 dRe_number_1 ?_
  refine g_getI X fl_Re_52 fb_9_7 k_31 dRe_number_4 ?_
  refine g_iconst X 1 dRe_number_7 (by decide) ?_
  refine g_ceq X (tgt := 17) dRe_number_8 (by decide) ?_ ?_
  · refine g_aload_n X dRe_number_17 rfl ?_
    refine g_getN X fl_Re_14 fb_4_0 k_30 r_30_0 dRe_number_18 ?_
    refine g_getI X fl_Re_99 fb_9_9 k_31 dRe_number_21 ?_
    refine g_iload_n X dRe_number_24 rfl ?_
    refine g_iload_n X dRe_number_25 rfl ?_
    refine g_nestI X [.int (s0 31 9), .int v1, .int v2] [] mm_H_within ms_H_within ml_Re_36 (okH_within (s0 31 9) v1 v2 s0 C.l C.w) rfl (by decide) rfl (Nat.le_of_ble_eq_true rfl) dRe_number_26 (fun r2 s1 => ?_)
    refine g_zne X (tgt := 38) dRe_number_29 (by decide) ?_ ?_
    · refine g_aload_n X dRe_number_32 rfl ?_
      refine g_iconst X 2 dRe_number_33 (by decide) ?_
      refine g_virtI X [.int 2] [] k_30 mm_Re_wrong mv_Re_wrong ml_Re_81 (okRe_wrong 2 s1 C.l C.w) rfl (by decide) rfl (Nat.le_of_ble_eq_true rfl) dRe_number_34 (fun r6 s5 => ?_)
      exact g_zret X E dRe_number_37
    · refine g_aload_n X dRe_number_38 rfl ?_
      refine g_aload_n X dRe_number_39 rfl ?_
      refine g_getN X fl_Re_14 fb_4_0 k_30 r_30_0 dRe_number_40 ?_
      refine g_getI X fl_Re_99 fb_9_9 k_31 dRe_number_43 ?_
      refine g_putI X fl_Re_102 fb_4_5 fp_4_5 k_30 dRe_number_46 (fun s3 => ?_)
      refine g_aload_n X dRe_number_49 rfl ?_
      refine g_getN X fl_Re_14 fb_4_0 k_30 r_30_0 dRe_number_50 ?_
      refine g_virtV X [] [] k_31 mm_To_advance mv_To_advance ml_Re_96 (okTo_advance s3 C.l C.w) rfl (by decide) rfl (Nat.le_of_ble_eq_true rfl) dRe_number_53 (fun s4 => ?_)
      refine g_iconst X 1 dRe_number_56 (by decide) ?_
      exact g_zret X E dRe_number_57
  · refine g_aload_n X dRe_number_11 rfl ?_
    refine g_iconst X 1 dRe_number_12 (by decide) ?_
    refine g_virtI X [.int 1] [] k_30 mm_Re_wrong mv_Re_wrong ml_Re_81 (okRe_wrong 1 s0 C.l C.w) rfl (by decide) rfl (Nat.le_of_ble_eq_true rfl) dRe_number_13 (fun r8 s7 => ?_)
    exact g_zret X E dRe_number_16
def yRe_keyNumber : MethodName := ⟨"LastWordHill$Reader", "keyNumber", "(III)Z"⟩
abbrev cRe_keyNumber : ByteArray := prog_6_method_9_code
theorem dRe_keyNumber_0 : decode cRe_keyNumber 0 = .ok (.aload_n 0, 1) := by decide +kernel
theorem dRe_keyNumber_1 : decode cRe_keyNumber 1 = .ok (.sipush 256, 3) := by decide +kernel
theorem dRe_keyNumber_4 : decode cRe_keyNumber 4 = .ok (.iload_n 1, 1) := by decide +kernel
theorem dRe_keyNumber_5 : decode cRe_keyNumber 5 = .ok (.iadd, 1) := by decide +kernel
theorem dRe_keyNumber_6 : decode cRe_keyNumber 6 = .ok (.invokevirtual 66, 3) := by decide +kernel
theorem mm_Re_skip : MMc yRe_skip cRe_skip 2 (some .boolean) 1 := ⟨hz_in 1055 (by decide +kernel) (by decide +kernel), hz_in 141 (by decide +kernel) (by decide +kernel), by decide +kernel, by decide⟩
theorem mv_Re_skip : MMv yRe_skip 4 := ⟨hz_in 1054 (by decide +kernel) (by decide +kernel), hz_in 29 (by decide +kernel) (by decide +kernel), _, _, rfl, by decide⟩
theorem ml_Re_66 : Cond.methodLink "LastWordHill$Reader" 66 yRe_skip ∈ hz_wt := hz_in 1052 (by decide +kernel) (by decide +kernel)
theorem dRe_keyNumber_9 : decode cRe_keyNumber 9 = .ok (.ifCond .eq 16, 3) := by decide +kernel
theorem dRe_keyNumber_25 : decode cRe_keyNumber 25 = .ok (.iconst 0, 1) := by decide +kernel
theorem dRe_keyNumber_26 : decode cRe_keyNumber 26 = .ok (.ireturn, 1) := by decide +kernel
theorem dRe_keyNumber_12 : decode cRe_keyNumber 12 = .ok (.aload_n 0, 1) := by decide +kernel
theorem dRe_keyNumber_13 : decode cRe_keyNumber 13 = .ok (.iload_n 2, 1) := by decide +kernel
theorem dRe_keyNumber_14 : decode cRe_keyNumber 14 = .ok (.iload_n 3, 1) := by decide +kernel
theorem dRe_keyNumber_15 : decode cRe_keyNumber 15 = .ok (.invokevirtual 105, 3) := by decide +kernel
theorem mm_Re_number : MMc yRe_number cRe_number 3 (some .boolean) 2 := ⟨hz_in 1007 (by decide +kernel) (by decide +kernel), hz_in 141 (by decide +kernel) (by decide +kernel), by decide +kernel, by decide⟩
theorem mv_Re_number : MMv yRe_number 4 := ⟨hz_in 1006 (by decide +kernel) (by decide +kernel), hz_in 18 (by decide +kernel) (by decide +kernel), _, _, rfl, by decide⟩
theorem ml_Re_105 : Cond.methodLink "LastWordHill$Reader" 105 yRe_number ∈ hz_wt := hz_in 1004 (by decide +kernel) (by decide +kernel)
theorem dRe_keyNumber_18 : decode cRe_keyNumber 18 = .ok (.ifCond .eq 7, 3) := by decide +kernel
theorem dRe_keyNumber_21 : decode cRe_keyNumber 21 = .ok (.iconst 1, 1) := by decide +kernel
theorem dRe_keyNumber_22 : decode cRe_keyNumber 22 = .ok (.goto 4, 3) := by decide +kernel
def fRe_keyNumber (v1 : Int32) (v2 : Int32) (v3 : Int32) (s0 : Sg) : Option (Int32 × Sg) := bi (fRe_skip (256 + v1) s0) fun r2 s1 => if r2 = 0 then (gb 0 (some (0, s1))) else (bi (fRe_number v2 v3 s1) fun r4 s3 => if r4 = 0 then (gb 0 (some (0, s3))) else (gb 1 (some (1, s3))))
set_option maxHeartbeats 4000000 in
set_option maxRecDepth 100000 in
theorem okRe_keyNumber (v1 : Int32) (v2 : Int32) (v3 : Int32) (s0 : Sg) : ∀ (l : Launch) (w : WC), Ok l w yRe_keyNumber cRe_keyNumber 4 (some .boolean) 3 evI [.ref (w.ad 30), .int v1, .int v2, .int v3] s0 (fRe_keyNumber v1 v2 v3 s0) := by
  refine ok_in (ev := fun _ => evI) (av := fun w => [.ref (w.ad 30), .int v1, .int v2, .int v3]) "LastWordHill$Reader" rfl (by decide +kernel) (fun _ => rfl) (fun _ => Nat.le_of_ble_eq_true rfl) ?_
  intro C X E
  show GF C evI 0 [some (.ref (C.w.ad 30)), some (.int v1), some (.int v2), some (.int v3)] [] s0 (fRe_keyNumber v1 v2 v3 s0)
  unfold fRe_keyNumber
  refine g_aload_n X dRe_keyNumber_0 rfl ?_
  refine g_sipush X 256 dRe_keyNumber_1 (by decide) ?_
  refine g_iload_n X dRe_keyNumber_4 rfl ?_
  refine g_iadd X dRe_keyNumber_5 ?_
  refine g_virtI X [.int (256 + v1)] [] k_30 mm_Re_skip mv_Re_skip ml_Re_66 (okRe_skip (256 + v1) s0 C.l C.w) rfl (by decide) rfl (Nat.le_of_ble_eq_true rfl) dRe_keyNumber_6 (fun r2 s1 => ?_)
  refine g_zeq X (tgt := 25) dRe_keyNumber_9 (by decide) ?_ ?_
  · refine g_iconst X 0 dRe_keyNumber_25 (by decide) ?_
    exact g_zret X E dRe_keyNumber_26
  · refine g_aload_n X dRe_keyNumber_12 rfl ?_
    refine g_iload_n X dRe_keyNumber_13 rfl ?_
    refine g_iload_n X dRe_keyNumber_14 rfl ?_
    refine g_virtI X [.int v2, .int v3] [] k_30 mm_Re_number mv_Re_number ml_Re_105 (okRe_number v2 v3 s1 C.l C.w) rfl (by decide) rfl (Nat.le_of_ble_eq_true rfl) dRe_keyNumber_15 (fun r4 s3 => ?_)
    refine g_zeq X (tgt := 25) dRe_keyNumber_18 (by decide) ?_ ?_
    · refine g_iconst X 0 dRe_keyNumber_25 (by decide) ?_
      exact g_zret X E dRe_keyNumber_26
    · refine g_iconst X 1 dRe_keyNumber_21 (by decide) ?_
      refine g_goto X 26 dRe_keyNumber_22 (by decide) ?_
      exact g_zret X E dRe_keyNumber_26
def yRe_await : MethodName := ⟨"LastWordHill$Reader", "await", "(I)V"⟩
abbrev cRe_await : ByteArray := prog_6_method_17_code
theorem dRe_await_0 : decode cRe_await 0 = .ok (.aload_n 0, 1) := by decide +kernel
theorem dRe_await_1 : decode cRe_await 1 = .ok (.getfield 149, 3) := by decide +kernel
theorem dRe_await_4 : decode cRe_await 4 = .ok (.ifCond .lt 32, 3) := by decide +kernel
theorem dRe_await_36 : decode cRe_await 36 = .ok (.aload_n 0, 1) := by decide +kernel
theorem dRe_await_37 : decode cRe_await 37 = .ok (.getfield 14, 3) := by decide +kernel
theorem dRe_await_40 : decode cRe_await 40 = .ok (.invokevirtual 96, 3) := by decide +kernel
theorem dRe_await_43 : decode cRe_await 43 = .ok (.return_, 1) := by decide +kernel
theorem dRe_await_7 : decode cRe_await 7 = .ok (.aload_n 0, 1) := by decide +kernel
theorem dRe_await_8 : decode cRe_await 8 = .ok (.getfield 149, 3) := by decide +kernel
theorem dRe_await_11 : decode cRe_await 11 = .ok (.bipush 27, 2) := by decide +kernel
theorem dRe_await_13 : decode cRe_await 13 = .ok (.if_icmp .ge 23, 3) := by decide +kernel
theorem dRe_await_16 : decode cRe_await 16 = .ok (.aload_n 0, 1) := by decide +kernel
theorem dRe_await_17 : decode cRe_await 17 = .ok (.getfield 25, 3) := by decide +kernel
theorem dRe_await_20 : decode cRe_await 20 = .ok (.aload_n 0, 1) := by decide +kernel
theorem dRe_await_21 : decode cRe_await 21 = .ok (.getfield 149, 3) := by decide +kernel
theorem dRe_await_24 : decode cRe_await 24 = .ok (.iload_n 1, 1) := by decide +kernel
theorem dRe_await_25 : decode cRe_await 25 = .ok (.iastore, 1) := by decide +kernel
theorem dRe_await_26 : decode cRe_await 26 = .ok (.aload_n 0, 1) := by decide +kernel
theorem dRe_await_27 : decode cRe_await 27 = .ok (.dup, 1) := by decide +kernel
theorem dRe_await_28 : decode cRe_await 28 = .ok (.getfield 149, 3) := by decide +kernel
theorem dRe_await_31 : decode cRe_await 31 = .ok (.iconst 1, 1) := by decide +kernel
theorem dRe_await_32 : decode cRe_await 32 = .ok (.iadd, 1) := by decide +kernel
theorem dRe_await_33 : decode cRe_await 33 = .ok (.putfield 149, 3) := by decide +kernel
theorem fp_4_6 : FLp 4 6 .int := ⟨_, _, _, _, rfl, nY4, nN4, by decide, by decide⟩
def fRe_await (v1 : Int32) (s0 : Sg) : Option (Sg) := bnd (fun (s1 : Sg) => bv (fTo_advance s1) fun s2 => some s2) fun j36 => if (s0 30 6) < 0 then (j36 s0) else (if 27 ≤ (s0 30 6) then (j36 s0) else (gd (s0 30 6) 27 (bnd (pt s0 47 (ix (s0 30 6)) v1) fun s3 => bnd (pt s3 30 6 ((s3 30 6) + 1)) fun s4 => j36 s4)))
set_option maxHeartbeats 4000000 in
set_option maxRecDepth 100000 in
theorem okRe_await (v1 : Int32) (s0 : Sg) : ∀ (l : Launch) (w : WC), Ok l w yRe_await cRe_await 2 none 2 evV [.ref (w.ad 30), .int v1] s0 (fRe_await v1 s0) := by
  refine ok_in (ev := fun _ => evV) (av := fun w => [.ref (w.ad 30), .int v1]) "LastWordHill$Reader" rfl (by decide +kernel) (fun _ => rfl) (fun _ => Nat.le_of_ble_eq_true rfl) ?_
  intro C X E
  show GF C evV 0 [some (.ref (C.w.ad 30)), some (.int v1)] [] s0 (fRe_await v1 s0)
  unfold fRe_await
  refine g_aload_n X dRe_await_0 rfl ?_
  refine g_getI X fl_Re_149 fb_4_6 k_30 dRe_await_1 ?_
  refine gf_jn (fun j36 => ∀ (s1 : Sg), GF C evV 36 [some (.ref (C.w.ad 30)), none] [] s1 (j36 s1)) ?_ ?_
  · intro s1
    refine g_aload_n X dRe_await_36 rfl ?_
    refine g_getN X fl_Re_14 fb_4_0 k_30 r_30_0 dRe_await_37 ?_
    refine g_virtV X [] [] k_31 mm_To_advance mv_To_advance ml_Re_96 (okTo_advance s1 C.l C.w) rfl (by decide) rfl (Nat.le_of_ble_eq_true rfl) dRe_await_40 (fun s2 => ?_)
    exact g_vret X E dRe_await_43
  · intro j36 hj36
    refine g_zlt X (tgt := 36) dRe_await_4 (by decide) ?_ ?_
    · exact gf_sub (hj36 s0) (by simp [lsub])
    · refine g_aload_n X dRe_await_7 rfl ?_
      refine g_getI X fl_Re_149 fb_4_6 k_30 dRe_await_8 ?_
      refine g_bipush X 27 dRe_await_11 (by decide) ?_
      refine g_cge X (tgt := 36) dRe_await_13 (by decide) ?_ ?_
      · exact gf_sub (hj36 s0) (by simp [lsub])
      · refine g_aload_n X dRe_await_16 rfl ?_
        refine g_getN X fl_Re_25 fb_4_2 k_30 r_30_2 dRe_await_17 ?_
        refine g_aload_n X dRe_await_20 rfl ?_
        refine g_getI X fl_Re_149 fb_4_6 k_30 dRe_await_21 ?_
        refine g_iload_n X dRe_await_24 rfl ?_
        refine g_iast X k_47 ln_47 dRe_await_25 (fun s3 => ?_)
        refine g_aload_n X dRe_await_26 rfl ?_
        refine g_dup X dRe_await_27 rfl ?_
        refine g_getI X fl_Re_149 fb_4_6 k_30 dRe_await_28 ?_
        refine g_iconst X 1 dRe_await_31 (by decide) ?_
        refine g_iadd X dRe_await_32 ?_
        refine g_putI X fl_Re_149 fb_4_6 fp_4_6 k_30 dRe_await_33 (fun s4 => ?_)
        exact gf_sub (hj36 s4) (by simp [lsub])
def yRe_release : MethodName := ⟨"LastWordHill$Reader", "release", "(I)V"⟩
abbrev cRe_release : ByteArray := prog_6_method_19_code
theorem dRe_release_0 : decode cRe_release 0 = .ok (.aload_n 0, 1) := by decide +kernel
theorem dRe_release_1 : decode cRe_release 1 = .ok (.invokevirtual 167, 3) := by decide +kernel
theorem mm_Re_waitingLast : MMc yRe_waitingLast cRe_waitingLast 1 (some .int) 0 := ⟨hz_in 1035 (by decide +kernel) (by decide +kernel), hz_in 141 (by decide +kernel) (by decide +kernel), by decide +kernel, by decide⟩
theorem mv_Re_waitingLast : MMv yRe_waitingLast 4 := ⟨hz_in 1034 (by decide +kernel) (by decide +kernel), hz_in 25 (by decide +kernel) (by decide +kernel), _, _, rfl, by decide⟩
theorem ml_Re_167 : Cond.methodLink "LastWordHill$Reader" 167 yRe_waitingLast ∈ hz_wt := hz_in 1032 (by decide +kernel) (by decide +kernel)
theorem dRe_release_4 : decode cRe_release 4 = .ok (.istore_n 2, 1) := by decide +kernel
theorem dRe_release_5 : decode cRe_release 5 = .ok (.iconst 0, 1) := by decide +kernel
theorem dRe_release_6 : decode cRe_release 6 = .ok (.istore_n 3, 1) := by decide +kernel
theorem dRe_release_7 : decode cRe_release 7 = .ok (.iload_n 3, 1) := by decide +kernel
theorem dRe_release_8 : decode cRe_release 8 = .ok (.bipush 27, 2) := by decide +kernel
theorem dRe_release_10 : decode cRe_release 10 = .ok (.if_icmp .ge 67, 3) := by decide +kernel
theorem dRe_release_77 : decode cRe_release 77 = .ok (.return_, 1) := by decide +kernel
theorem dRe_release_13 : decode cRe_release 13 = .ok (.iload_n 2, 1) := by decide +kernel
theorem dRe_release_14 : decode cRe_release 14 = .ok (.invokestatic 171, 3) := by decide +kernel
theorem mm_Re_closeness : MMc yRe_closeness cRe_closeness 1 (some .int) 1 := ⟨hz_in 1038 (by decide +kernel) (by decide +kernel), hz_in 141 (by decide +kernel) (by decide +kernel), by decide +kernel, by decide⟩
theorem ms_Re_closeness : Cond.static yRe_closeness ∈ hz_wt := hz_in 1037 (by decide +kernel) (by decide +kernel)
theorem ml_Re_171 : Cond.methodLink "LastWordHill$Reader" 171 yRe_closeness ∈ hz_wt := hz_in 1036 (by decide +kernel) (by decide +kernel)
theorem dRe_release_17 : decode cRe_release 17 = .ok (.iload_n 1, 1) := by decide +kernel
theorem dRe_release_18 : decode cRe_release 18 = .ok (.invokestatic 171, 3) := by decide +kernel
theorem dRe_release_21 : decode cRe_release 21 = .ok (.if_icmp .lt 56, 3) := by decide +kernel
theorem dRe_release_24 : decode cRe_release 24 = .ok (.iload_n 2, 1) := by decide +kernel
theorem dRe_release_25 : decode cRe_release 25 = .ok (.sipush 262, 3) := by decide +kernel
theorem dRe_release_28 : decode cRe_release 28 = .ok (.if_icmp .ne 13, 3) := by decide +kernel
theorem dRe_release_41 : decode cRe_release 41 = .ok (.aload_n 0, 1) := by decide +kernel
theorem dRe_release_42 : decode cRe_release 42 = .ok (.dup, 1) := by decide +kernel
theorem dRe_release_43 : decode cRe_release 43 = .ok (.getfield 149, 3) := by decide +kernel
theorem dRe_release_46 : decode cRe_release 46 = .ok (.iconst 1, 1) := by decide +kernel
theorem dRe_release_47 : decode cRe_release 47 = .ok (.isub, 1) := by decide +kernel
theorem dRe_release_48 : decode cRe_release 48 = .ok (.putfield 149, 3) := by decide +kernel
theorem dRe_release_51 : decode cRe_release 51 = .ok (.aload_n 0, 1) := by decide +kernel
theorem dRe_release_52 : decode cRe_release 52 = .ok (.getfield 21, 3) := by decide +kernel
theorem dRe_release_55 : decode cRe_release 55 = .ok (.getfield 131, 3) := by decide +kernel
theorem dRe_release_58 : decode cRe_release 58 = .ok (.sipush 30000, 3) := by decide +kernel
theorem dRe_release_61 : decode cRe_release 61 = .ok (.iload_n 2, 1) := by decide +kernel
theorem dRe_release_62 : decode cRe_release 62 = .ok (.iadd, 1) := by decide +kernel
theorem dRe_release_63 : decode cRe_release 63 = .ok (.invokevirtual 175, 3) := by decide +kernel
theorem dRe_release_66 : decode cRe_release 66 = .ok (.aload_n 0, 1) := by decide +kernel
theorem dRe_release_67 : decode cRe_release 67 = .ok (.invokevirtual 167, 3) := by decide +kernel
theorem dRe_release_70 : decode cRe_release 70 = .ok (.istore_n 2, 1) := by decide +kernel
theorem dRe_release_71 : decode cRe_release 71 = .ok (.iinc 3 1, 3) := by decide +kernel
theorem dRe_release_74 : decode cRe_release 74 = .ok (.goto (-67), 3) := by decide +kernel
theorem dRe_release_31 : decode cRe_release 31 = .ok (.aload_n 0, 1) := by decide +kernel
theorem dRe_release_32 : decode cRe_release 32 = .ok (.dup, 1) := by decide +kernel
theorem dRe_release_33 : decode cRe_release 33 = .ok (.getfield 152, 3) := by decide +kernel
theorem fl_Re_152 : FLk "LastWordHill$Reader" 152 4 7 := ⟨_, _, _, rfl, by decide, hz_in 394 (by decide +kernel) (by decide +kernel), nL4, by decide, by decide⟩
theorem fb_4_7 : (hz_bs 4)[7]? = some false := by decide
theorem dRe_release_36 : decode cRe_release 36 = .ok (.iconst 1, 1) := by decide +kernel
theorem dRe_release_37 : decode cRe_release 37 = .ok (.isub, 1) := by decide +kernel
theorem dRe_release_38 : decode cRe_release 38 = .ok (.putfield 152, 3) := by decide +kernel
theorem fp_4_7 : FLp 4 7 .int := ⟨_, _, _, _, rfl, nY4, nN4, by decide, by decide⟩
def fRe_release (v1 : Int32) (s0 : Sg) : Option (Sg) := bi (fRe_waitingLast s0) fun r2 s1 => lp FU (fun q7 (u7 : Int32 × Int32) (s3 : Sg) => if 27 ≤ u7.2 then (some s3) else (bi (fRe_closeness u7.1 s3) fun r5 s4 => bi (fRe_closeness v1 s4) fun r7 s6 => if r5 < r7 then (some s6) else (bnd (fun (s8 : Sg) => bnd (pt s8 30 6 ((s8 30 6) - 1)) fun s9 => bv (fLa_addCode 37 (30000 + u7.1) s9) fun s10 => bi (fRe_waitingLast s10) fun r12 s11 => q7 (r12, (u7.2 + 1)) s11) fun j41 => if u7.1 = 262 then (bnd (pt s6 30 7 ((s6 30 7) - 1)) fun s13 => j41 s13) else (j41 s6)))) (r2, 0) s1
set_option maxHeartbeats 4000000 in
set_option maxRecDepth 100000 in
theorem okRe_release (v1 : Int32) (s0 : Sg) : ∀ (l : Launch) (w : WC), Ok l w yRe_release cRe_release 4 none 2 evV [.ref (w.ad 30), .int v1] s0 (fRe_release v1 s0) := by
  refine ok_in (ev := fun _ => evV) (av := fun w => [.ref (w.ad 30), .int v1]) "LastWordHill$Reader" rfl (by decide +kernel) (fun _ => rfl) (fun _ => Nat.le_of_ble_eq_true rfl) ?_
  intro C X E
  show GF C evV 0 [some (.ref (C.w.ad 30)), some (.int v1), none, none] [] s0 (fRe_release v1 s0)
  unfold fRe_release
  refine g_aload_n X dRe_release_0 rfl ?_
  refine g_virtI X [] [] k_30 mm_Re_waitingLast mv_Re_waitingLast ml_Re_167 (okRe_waitingLast s0 C.l C.w) rfl (by decide) rfl (Nat.le_of_ble_eq_true rfl) dRe_release_1 (fun r2 s1 => ?_)
  refine g_istore_n X [some (.ref (C.w.ad 30)), some (.int v1), some (.int r2), none] dRe_release_4 (by decide) (Nat.le_of_ble_eq_true rfl) rfl ?_
  refine g_iconst X 0 dRe_release_5 (by decide) ?_
  refine g_istore_n X [some (.ref (C.w.ad 30)), some (.int v1), some (.int r2), some (.int 0)] dRe_release_6 (by decide) (Nat.le_of_ble_eq_true rfl) rfl ?_
  refine gf_sub (L' := [some (.ref (C.w.ad 30)), some (.int v1), some (.int r2), some (.int 0)]) ?_ (by simp [lsub])
  refine gf_lp (Lf := fun (u7 : Int32 × Int32) => [some (.ref (C.w.ad 30)), some (.int v1), some (.int u7.1), some (.int u7.2)]) (fun q7 hq7 u7 s3 => ?_) FU (r2, 0) s1
  refine g_iload_n X dRe_release_7 rfl ?_
  refine g_bipush X 27 dRe_release_8 (by decide) ?_
  refine g_cge X (tgt := 77) dRe_release_10 (by decide) ?_ ?_
  · exact g_vret X E dRe_release_77
  · refine g_iload_n X dRe_release_13 rfl ?_
    refine g_statI X [.int u7.1] [] mm_Re_closeness ms_Re_closeness ml_Re_171 (okRe_closeness u7.1 s3 C.l C.w) rfl (by decide) rfl (Nat.le_of_ble_eq_true rfl) dRe_release_14 (fun r5 s4 => ?_)
    refine g_iload_n X dRe_release_17 rfl ?_
    refine g_statI X [.int v1] [.int r5] mm_Re_closeness ms_Re_closeness ml_Re_171 (okRe_closeness v1 s4 C.l C.w) rfl (by decide) rfl (Nat.le_of_ble_eq_true rfl) dRe_release_18 (fun r7 s6 => ?_)
    refine g_clt X (tgt := 77) dRe_release_21 (by decide) ?_ ?_
    · exact g_vret X E dRe_release_77
    · refine g_iload_n X dRe_release_24 rfl ?_
      refine g_sipush X 262 dRe_release_25 (by decide) ?_
      refine gf_jn (fun j41 => ∀ (s8 : Sg), GF C evV 41 [some (.ref (C.w.ad 30)), some (.int v1), some (.int u7.1), some (.int u7.2)] [] s8 (j41 s8)) ?_ ?_
      · intro s8
        refine g_aload_n X dRe_release_41 rfl ?_
        refine g_dup X dRe_release_42 rfl ?_
        refine g_getI X fl_Re_149 fb_4_6 k_30 dRe_release_43 ?_
        refine g_iconst X 1 dRe_release_46 (by decide) ?_
        refine g_isub X dRe_release_47 ?_
        refine g_putI X fl_Re_149 fb_4_6 fp_4_6 k_30 dRe_release_48 (fun s9 => ?_)
        refine g_aload_n X dRe_release_51 rfl ?_
        refine g_getN X fl_Re_21 fb_4_1 k_30 r_30_1 dRe_release_52 ?_
        refine g_getN X fl_Re_131 fb_8_0 k_36 r_36_0 dRe_release_55 ?_
        refine g_sipush X 30000 dRe_release_58 (by decide) ?_
        refine g_iload_n X dRe_release_61 rfl ?_
        refine g_iadd X dRe_release_62 ?_
        refine g_virtV X [.int (30000 + u7.1)] [] k_37 mm_La_addCode mv_La_addCode ml_Re_175 (okLa_addCode 37 (30000 + u7.1) s9 k_37 C.l C.w) rfl (by decide) rfl (Nat.le_of_ble_eq_true rfl) dRe_release_63 (fun s10 => ?_)
        refine g_aload_n X dRe_release_66 rfl ?_
        refine g_virtI X [] [] k_30 mm_Re_waitingLast mv_Re_waitingLast ml_Re_167 (okRe_waitingLast s10 C.l C.w) rfl (by decide) rfl (Nat.le_of_ble_eq_true rfl) dRe_release_67 (fun r12 s11 => ?_)
        refine g_istore_n X [some (.ref (C.w.ad 30)), some (.int v1), some (.int r12), some (.int u7.2)] dRe_release_70 (by decide) (Nat.le_of_ble_eq_true rfl) rfl ?_
        refine g_iinc X (u7.2 + 1) [some (.ref (C.w.ad 30)), some (.int v1), some (.int r12), some (.int (u7.2 + 1))] dRe_release_71 rfl rfl (by decide) rfl ?_
        refine g_goto X 7 dRe_release_74 (by decide) ?_
        exact gf_sub (hq7 (r12, (u7.2 + 1)) s11) (by simp [lsub])
      · intro j41 hj41
        refine g_cne X (tgt := 41) dRe_release_28 (by decide) ?_ ?_
        · refine g_aload_n X dRe_release_31 rfl ?_
          refine g_dup X dRe_release_32 rfl ?_
          refine g_getI X fl_Re_152 fb_4_7 k_30 dRe_release_33 ?_
          refine g_iconst X 1 dRe_release_36 (by decide) ?_
          refine g_isub X dRe_release_37 ?_
          refine g_putI X fl_Re_152 fb_4_7 fp_4_7 k_30 dRe_release_38 (fun s13 => ?_)
          exact gf_sub (hj41 s13) (by simp [lsub])
        · exact gf_sub (hj41 s6) (by simp [lsub])
def yRe_readUnit : MethodName := ⟨"LastWordHill$Reader", "readUnit", "()Z"⟩
abbrev cRe_readUnit : ByteArray := prog_6_method_23_code
theorem dRe_readUnit_0 : decode cRe_readUnit 0 = .ok (.aload_n 0, 1) := by decide +kernel
theorem dRe_readUnit_1 : decode cRe_readUnit 1 = .ok (.getfield 14, 3) := by decide +kernel
theorem dRe_readUnit_4 : decode cRe_readUnit 4 = .ok (.getfield 52, 3) := by decide +kernel
theorem dRe_readUnit_7 : decode cRe_readUnit 7 = .ok (.iconst 1, 1) := by decide +kernel
theorem dRe_readUnit_8 : decode cRe_readUnit 8 = .ok (.if_icmp .ne 23, 3) := by decide +kernel
theorem dRe_readUnit_84 : decode cRe_readUnit 84 = .ok (.aload_n 0, 1) := by decide +kernel
theorem dRe_readUnit_85 : decode cRe_readUnit 85 = .ok (.getfield 14, 3) := by decide +kernel
theorem dRe_readUnit_88 : decode cRe_readUnit 88 = .ok (.invokevirtual 96, 3) := by decide +kernel
theorem dRe_readUnit_91 : decode cRe_readUnit 91 = .ok (.iconst 1, 1) := by decide +kernel
theorem dRe_readUnit_92 : decode cRe_readUnit 92 = .ok (.ireturn, 1) := by decide +kernel
theorem dRe_readUnit_31 : decode cRe_readUnit 31 = .ok (.aload_n 0, 1) := by decide +kernel
theorem dRe_readUnit_32 : decode cRe_readUnit 32 = .ok (.getfield 14, 3) := by decide +kernel
theorem dRe_readUnit_35 : decode cRe_readUnit 35 = .ok (.getfield 52, 3) := by decide +kernel
theorem dRe_readUnit_38 : decode cRe_readUnit 38 = .ok (.sipush 263, 3) := by decide +kernel
theorem dRe_readUnit_41 : decode cRe_readUnit 41 = .ok (.sipush 271, 3) := by decide +kernel
theorem dRe_readUnit_44 : decode cRe_readUnit 44 = .ok (.invokestatic 36, 3) := by decide +kernel
theorem dRe_readUnit_47 : decode cRe_readUnit 47 = .ok (.ifCond .eq 31, 3) := by decide +kernel
theorem dRe_readUnit_78 : decode cRe_readUnit 78 = .ok (.aload_n 0, 1) := by decide +kernel
theorem dRe_readUnit_79 : decode cRe_readUnit 79 = .ok (.iconst 1, 1) := by decide +kernel
theorem dRe_readUnit_80 : decode cRe_readUnit 80 = .ok (.invokevirtual 81, 3) := by decide +kernel
theorem dRe_readUnit_83 : decode cRe_readUnit 83 = .ok (.ireturn, 1) := by decide +kernel
theorem dRe_readUnit_50 : decode cRe_readUnit 50 = .ok (.aload_n 0, 1) := by decide +kernel
theorem dRe_readUnit_51 : decode cRe_readUnit 51 = .ok (.getfield 21, 3) := by decide +kernel
theorem dRe_readUnit_54 : decode cRe_readUnit 54 = .ok (.getfield 131, 3) := by decide +kernel
theorem dRe_readUnit_57 : decode cRe_readUnit 57 = .ok (.sipush 10000, 3) := by decide +kernel
theorem dRe_readUnit_60 : decode cRe_readUnit 60 = .ok (.aload_n 0, 1) := by decide +kernel
theorem dRe_readUnit_61 : decode cRe_readUnit 61 = .ok (.getfield 14, 3) := by decide +kernel
theorem dRe_readUnit_64 : decode cRe_readUnit 64 = .ok (.getfield 52, 3) := by decide +kernel
theorem dRe_readUnit_67 : decode cRe_readUnit 67 = .ok (.iadd, 1) := by decide +kernel
theorem dRe_readUnit_68 : decode cRe_readUnit 68 = .ok (.sipush 263, 3) := by decide +kernel
theorem dRe_readUnit_71 : decode cRe_readUnit 71 = .ok (.isub, 1) := by decide +kernel
theorem dRe_readUnit_72 : decode cRe_readUnit 72 = .ok (.invokevirtual 175, 3) := by decide +kernel
theorem dRe_readUnit_75 : decode cRe_readUnit 75 = .ok (.goto 9, 3) := by decide +kernel
theorem dRe_readUnit_11 : decode cRe_readUnit 11 = .ok (.aload_n 0, 1) := by decide +kernel
theorem dRe_readUnit_12 : decode cRe_readUnit 12 = .ok (.getfield 21, 3) := by decide +kernel
theorem dRe_readUnit_15 : decode cRe_readUnit 15 = .ok (.getfield 131, 3) := by decide +kernel
theorem dRe_readUnit_18 : decode cRe_readUnit 18 = .ok (.aload_n 0, 1) := by decide +kernel
theorem dRe_readUnit_19 : decode cRe_readUnit 19 = .ok (.getfield 14, 3) := by decide +kernel
theorem dRe_readUnit_22 : decode cRe_readUnit 22 = .ok (.getfield 99, 3) := by decide +kernel
theorem dRe_readUnit_25 : decode cRe_readUnit 25 = .ok (.invokevirtual 175, 3) := by decide +kernel
theorem dRe_readUnit_28 : decode cRe_readUnit 28 = .ok (.goto 56, 3) := by decide +kernel
def fRe_readUnit (s0 : Sg) : Option (Int32 × Sg) := bnd (fun (s1 : Sg) => bv (fTo_advance s1) fun s2 => gb 1 (some (1, s2))) fun j84 => if (s0 31 7) = 1 then (bv (fLa_addCode 37 (s0 31 9) s0) fun s8 => j84 s8) else (bi (fH_within (s0 31 7) 263 271 s0) fun r4 s3 => if r4 = 0 then (bi (fRe_wrong 1 s3) fun r6 s5 => gb r6 (some (r6, s5))) else (bv (fLa_addCode 37 ((10000 + (s3 31 7)) - 263) s3) fun s7 => j84 s7))
set_option maxHeartbeats 4000000 in
set_option maxRecDepth 100000 in
theorem okRe_readUnit (s0 : Sg) : ∀ (l : Launch) (w : WC), Ok l w yRe_readUnit cRe_readUnit 1 (some .boolean) 2 evI [.ref (w.ad 30)] s0 (fRe_readUnit s0) := by
  refine ok_in (ev := fun _ => evI) (av := fun w => [.ref (w.ad 30)]) "LastWordHill$Reader" rfl (by decide +kernel) (fun _ => rfl) (fun _ => Nat.le_of_ble_eq_true rfl) ?_
  intro C X E
  show GF C evI 0 [some (.ref (C.w.ad 30))] [] s0 (fRe_readUnit s0)
  unfold fRe_readUnit
  refine g_aload_n X dRe_readUnit_0 rfl ?_
  refine g_getN X fl_Re_14 fb_4_0 k_30 r_30_0 dRe_readUnit_1 ?_
  refine g_getI X fl_Re_52 fb_9_7 k_31 dRe_readUnit_4 ?_
  refine g_iconst X 1 dRe_readUnit_7 (by decide) ?_
  refine gf_jn (fun j84 => ∀ (s1 : Sg), GF C evI 84 [some (.ref (C.w.ad 30))] [] s1 (j84 s1)) ?_ ?_
  · intro s1
    refine g_aload_n X dRe_readUnit_84 rfl ?_
    refine g_getN X fl_Re_14 fb_4_0 k_30 r_30_0 dRe_readUnit_85 ?_
    refine g_virtV X [] [] k_31 mm_To_advance mv_To_advance ml_Re_96 (okTo_advance s1 C.l C.w) rfl (by decide) rfl (Nat.le_of_ble_eq_true rfl) dRe_readUnit_88 (fun s2 => ?_)
    refine g_iconst X 1 dRe_readUnit_91 (by decide) ?_
    exact g_zret X E dRe_readUnit_92
  · intro j84 hj84
    refine g_cne X (tgt := 31) dRe_readUnit_8 (by decide) ?_ ?_
    · refine g_aload_n X dRe_readUnit_11 rfl ?_
      refine g_getN X fl_Re_21 fb_4_1 k_30 r_30_1 dRe_readUnit_12 ?_
      refine g_getN X fl_Re_131 fb_8_0 k_36 r_36_0 dRe_readUnit_15 ?_
      refine g_aload_n X dRe_readUnit_18 rfl ?_
      refine g_getN X fl_Re_14 fb_4_0 k_30 r_30_0 dRe_readUnit_19 ?_
      refine g_getI X fl_Re_99 fb_9_9 k_31 dRe_readUnit_22 ?_
      refine g_virtV X [.int (s0 31 9)] [] k_37 mm_La_addCode mv_La_addCode ml_Re_175 (okLa_addCode 37 (s0 31 9) s0 k_37 C.l C.w) rfl (by decide) rfl (Nat.le_of_ble_eq_true rfl) dRe_readUnit_25 (fun s8 => ?_)
      refine g_goto X 84 dRe_readUnit_28 (by decide) ?_
      exact gf_sub (hj84 s8) (by simp [lsub])
    · refine g_aload_n X dRe_readUnit_31 rfl ?_
      refine g_getN X fl_Re_14 fb_4_0 k_30 r_30_0 dRe_readUnit_32 ?_
      refine g_getI X fl_Re_52 fb_9_7 k_31 dRe_readUnit_35 ?_
      refine g_sipush X 263 dRe_readUnit_38 (by decide) ?_
      refine g_sipush X 271 dRe_readUnit_41 (by decide) ?_
      refine g_nestI X [.int (s0 31 7), .int 263, .int 271] [] mm_H_within ms_H_within ml_Re_36 (okH_within (s0 31 7) 263 271 s0 C.l C.w) rfl (by decide) rfl (Nat.le_of_ble_eq_true rfl) dRe_readUnit_44 (fun r4 s3 => ?_)
      refine g_zeq X (tgt := 78) dRe_readUnit_47 (by decide) ?_ ?_
      · refine g_aload_n X dRe_readUnit_78 rfl ?_
        refine g_iconst X 1 dRe_readUnit_79 (by decide) ?_
        refine g_virtI X [.int 1] [] k_30 mm_Re_wrong mv_Re_wrong ml_Re_81 (okRe_wrong 1 s3 C.l C.w) rfl (by decide) rfl (Nat.le_of_ble_eq_true rfl) dRe_readUnit_80 (fun r6 s5 => ?_)
        exact g_zret X E dRe_readUnit_83
      · refine g_aload_n X dRe_readUnit_50 rfl ?_
        refine g_getN X fl_Re_21 fb_4_1 k_30 r_30_1 dRe_readUnit_51 ?_
        refine g_getN X fl_Re_131 fb_8_0 k_36 r_36_0 dRe_readUnit_54 ?_
        refine g_sipush X 10000 dRe_readUnit_57 (by decide) ?_
        refine g_aload_n X dRe_readUnit_60 rfl ?_
        refine g_getN X fl_Re_14 fb_4_0 k_30 r_30_0 dRe_readUnit_61 ?_
        refine g_getI X fl_Re_52 fb_9_7 k_31 dRe_readUnit_64 ?_
        refine g_iadd X dRe_readUnit_67 ?_
        refine g_sipush X 263 dRe_readUnit_68 (by decide) ?_
        refine g_isub X dRe_readUnit_71 ?_
        refine g_virtV X [.int ((10000 + (s3 31 7)) - 263)] [] k_37 mm_La_addCode mv_La_addCode ml_Re_175 (okLa_addCode 37 ((10000 + (s3 31 7)) - 263) s3 k_37 C.l C.w) rfl (by decide) rfl (Nat.le_of_ble_eq_true rfl) dRe_readUnit_72 (fun s7 => ?_)
        refine g_goto X 84 dRe_readUnit_75 (by decide) ?_
        exact gf_sub (hj84 s7) (by simp [lsub])
def ySc_changeBreath : MethodName := ⟨"LastWordHill$Scene", "changeBreath", "(II)V"⟩
abbrev cSc_changeBreath : ByteArray := prog_7_method_9_code
theorem dSc_changeBreath_0 : decode cSc_changeBreath 0 = .ok (.aload_n 0, 1) := by decide +kernel
theorem dSc_changeBreath_1 : decode cSc_changeBreath 1 = .ok (.iload_n 1, 1) := by decide +kernel
theorem dSc_changeBreath_2 : decode cSc_changeBreath 2 = .ok (.iconst 3, 1) := by decide +kernel
theorem dSc_changeBreath_3 : decode cSc_changeBreath 3 = .ok (.iconst 0, 1) := by decide +kernel
theorem dSc_changeBreath_4 : decode cSc_changeBreath 4 = .ok (.bipush 99, 2) := by decide +kernel
theorem dSc_changeBreath_6 : decode cSc_changeBreath 6 = .ok (.aload_n 0, 1) := by decide +kernel
theorem dSc_changeBreath_7 : decode cSc_changeBreath 7 = .ok (.iload_n 1, 1) := by decide +kernel
theorem dSc_changeBreath_8 : decode cSc_changeBreath 8 = .ok (.iconst 3, 1) := by decide +kernel
theorem dSc_changeBreath_9 : decode cSc_changeBreath 9 = .ok (.invokevirtual 58, 3) := by decide +kernel
theorem dSc_changeBreath_12 : decode cSc_changeBreath 12 = .ok (.iload_n 2, 1) := by decide +kernel
theorem dSc_changeBreath_13 : decode cSc_changeBreath 13 = .ok (.iadd, 1) := by decide +kernel
theorem dSc_changeBreath_14 : decode cSc_changeBreath 14 = .ok (.invokestatic 62, 3) := by decide +kernel
theorem ml_Sc_62 : Cond.methodLink "LastWordHill$Scene" 62 yJ9_min_7cf53 ∈ hz_wt := hz_in 728 (by decide +kernel) (by decide +kernel)
theorem dSc_changeBreath_17 : decode cSc_changeBreath 17 = .ok (.invokestatic 67, 3) := by decide +kernel
theorem ml_Sc_67 : Cond.methodLink "LastWordHill$Scene" 67 yJ9_max_7cf53 ∈ hz_wt := hz_in 731 (by decide +kernel) (by decide +kernel)
theorem dSc_changeBreath_20 : decode cSc_changeBreath 20 = .ok (.invokevirtual 70, 3) := by decide +kernel
theorem dSc_changeBreath_23 : decode cSc_changeBreath 23 = .ok (.return_, 1) := by decide +kernel
def fSc_changeBreath (o0 : Nat) (v1 : Int32) (v2 : Int32) (s0 : Sg) : Option (Sg) := bi (fSc_tell o0 v1 3 s0) fun r2 s1 => bi (fJ9_min_7cf53 99 (r2 + v2) s1) fun r4 s3 => bi (fJ9_max_7cf53 0 r4 s3) fun r6 s5 => bv (fSc_put o0 v1 3 r6 s5) fun s7 => some s7
set_option maxHeartbeats 4000000 in
set_option maxRecDepth 100000 in
theorem okSc_changeBreath (o0 : Nat) (v1 : Int32) (v2 : Int32) (s0 : Sg) (h0 : hz_kd o0 = 5) : ∀ (l : Launch) (w : WC), Ok l w ySc_changeBreath cSc_changeBreath 3 none 2 evV [.ref (w.ad o0), .int v1, .int v2] s0 (fSc_changeBreath o0 v1 v2 s0) := by
  refine ok_in (ev := fun _ => evV) (av := fun w => [.ref (w.ad o0), .int v1, .int v2]) "LastWordHill$Scene" rfl (by decide +kernel) (fun _ => rfl) (fun _ => Nat.le_of_ble_eq_true rfl) ?_
  intro C X E
  show GF C evV 0 [some (.ref (C.w.ad o0)), some (.int v1), some (.int v2)] [] s0 (fSc_changeBreath o0 v1 v2 s0)
  unfold fSc_changeBreath
  refine g_aload_n X dSc_changeBreath_0 rfl ?_
  refine g_iload_n X dSc_changeBreath_1 rfl ?_
  refine g_iconst X 3 dSc_changeBreath_2 (by decide) ?_
  refine g_iconst X 0 dSc_changeBreath_3 (by decide) ?_
  refine g_bipush X 99 dSc_changeBreath_4 (by decide) ?_
  refine g_aload_n X dSc_changeBreath_6 rfl ?_
  refine g_iload_n X dSc_changeBreath_7 rfl ?_
  refine g_iconst X 3 dSc_changeBreath_8 (by decide) ?_
  refine g_virtI X [.int v1, .int 3] [.int 99, .int 0, .int 3, .int v1, .ref (C.w.ad o0)] h0 mm_Sc_tell mv_Sc_tell ml_Sc_58 (okSc_tell o0 v1 3 s0 h0 C.l C.w) rfl (by decide) rfl (Nat.le_of_ble_eq_true rfl) dSc_changeBreath_9 (fun r2 s1 => ?_)
  refine g_iload_n X dSc_changeBreath_12 rfl ?_
  refine g_iadd X dSc_changeBreath_13 ?_
  refine g_statI X [.int 99, .int (r2 + v2)] [.int 0, .int 3, .int v1, .ref (C.w.ad o0)] mm_J9_min_7cf53 ms_J9_min_7cf53 ml_Sc_62 (okJ9_min_7cf53 99 (r2 + v2) s1 C.l C.w) rfl (by decide) rfl (Nat.le_of_ble_eq_true rfl) dSc_changeBreath_14 (fun r4 s3 => ?_)
  refine g_statI X [.int 0, .int r4] [.int 3, .int v1, .ref (C.w.ad o0)] mm_J9_max_7cf53 ms_J9_max_7cf53 ml_Sc_67 (okJ9_max_7cf53 0 r4 s3 C.l C.w) rfl (by decide) rfl (Nat.le_of_ble_eq_true rfl) dSc_changeBreath_17 (fun r6 s5 => ?_)
  refine g_virtV X [.int v1, .int 3, .int r6] [] h0 mm_Sc_put mv_Sc_put ml_Sc_70 (okSc_put o0 v1 3 r6 s5 h0 C.l C.w) rfl (by decide) rfl (Nat.le_of_ble_eq_true rfl) dSc_changeBreath_20 (fun s7 => ?_)
  exact g_vret X E dSc_changeBreath_23
def ySc_meaning : MethodName := ⟨"LastWordHill$Scene", "meaning", "(II)I"⟩
abbrev cSc_meaning : ByteArray := prog_7_method_15_code
theorem dSc_meaning_0 : decode cSc_meaning 0 = .ok (.iload_n 1, 1) := by decide +kernel
theorem dSc_meaning_1 : decode cSc_meaning 1 = .ok (.tableswitch 87 5 8 #[31, 43, 57, 82], 31) := by decide +kernel
theorem dSc_meaning_88 : decode cSc_meaning 88 = .ok (.aload_n 0, 1) := by decide +kernel
theorem dSc_meaning_89 : decode cSc_meaning 89 = .ok (.iload_n 2, 1) := by decide +kernel
theorem dSc_meaning_90 : decode cSc_meaning 90 = .ok (.iload_n 1, 1) := by decide +kernel
theorem dSc_meaning_91 : decode cSc_meaning 91 = .ok (.invokevirtual 58, 3) := by decide +kernel
theorem dSc_meaning_94 : decode cSc_meaning 94 = .ok (.ireturn, 1) := by decide +kernel
theorem dSc_meaning_83 : decode cSc_meaning 83 = .ok (.aload_n 0, 1) := by decide +kernel
theorem dSc_meaning_84 : decode cSc_meaning 84 = .ok (.getfield 49, 3) := by decide +kernel
theorem dSc_meaning_87 : decode cSc_meaning 87 = .ok (.ireturn, 1) := by decide +kernel
theorem dSc_meaning_58 : decode cSc_meaning 58 = .ok (.aload_n 0, 1) := by decide +kernel
theorem dSc_meaning_59 : decode cSc_meaning 59 = .ok (.iload_n 2, 1) := by decide +kernel
theorem dSc_meaning_60 : decode cSc_meaning 60 = .ok (.iconst 4, 1) := by decide +kernel
theorem dSc_meaning_61 : decode cSc_meaning 61 = .ok (.invokevirtual 58, 3) := by decide +kernel
theorem dSc_meaning_64 : decode cSc_meaning 64 = .ok (.bipush 99, 2) := by decide +kernel
theorem dSc_meaning_66 : decode cSc_meaning 66 = .ok (.if_icmp .lt 12, 3) := by decide +kernel
theorem dSc_meaning_78 : decode cSc_meaning 78 = .ok (.aload_n 0, 1) := by decide +kernel
theorem dSc_meaning_79 : decode cSc_meaning 79 = .ok (.invokevirtual 76, 3) := by decide +kernel
theorem mm_Sc_manyUp : MMc ySc_manyUp cSc_manyUp 3 (some .int) 0 := ⟨hz_in 750 (by decide +kernel) (by decide +kernel), hz_in 135 (by decide +kernel) (by decide +kernel), by decide +kernel, by decide⟩
theorem mv_Sc_manyUp : MMv ySc_manyUp 5 := ⟨hz_in 748 (by decide +kernel) (by decide +kernel), hz_in 749 (by decide +kernel) (by decide +kernel), _, _, rfl, by decide⟩
theorem ml_Sc_76 : Cond.methodLink "LastWordHill$Scene" 76 ySc_manyUp ∈ hz_wt := hz_in 747 (by decide +kernel) (by decide +kernel)
theorem dSc_meaning_82 : decode cSc_meaning 82 = .ok (.ireturn, 1) := by decide +kernel
theorem dSc_meaning_69 : decode cSc_meaning 69 = .ok (.aload_n 0, 1) := by decide +kernel
theorem dSc_meaning_70 : decode cSc_meaning 70 = .ok (.invokevirtual 76, 3) := by decide +kernel
theorem dSc_meaning_73 : decode cSc_meaning 73 = .ok (.iconst 1, 1) := by decide +kernel
theorem dSc_meaning_74 : decode cSc_meaning 74 = .ok (.isub, 1) := by decide +kernel
theorem dSc_meaning_75 : decode cSc_meaning 75 = .ok (.goto 7, 3) := by decide +kernel
theorem dSc_meaning_44 : decode cSc_meaning 44 = .ok (.iconst 0, 1) := by decide +kernel
theorem dSc_meaning_45 : decode cSc_meaning 45 = .ok (.aload_n 0, 1) := by decide +kernel
theorem dSc_meaning_46 : decode cSc_meaning 46 = .ok (.getfield 28, 3) := by decide +kernel
theorem dSc_meaning_49 : decode cSc_meaning 49 = .ok (.aload_n 0, 1) := by decide +kernel
theorem dSc_meaning_50 : decode cSc_meaning 50 = .ok (.getfield 46, 3) := by decide +kernel
theorem dSc_meaning_53 : decode cSc_meaning 53 = .ok (.isub, 1) := by decide +kernel
theorem dSc_meaning_54 : decode cSc_meaning 54 = .ok (.invokestatic 67, 3) := by decide +kernel
theorem dSc_meaning_57 : decode cSc_meaning 57 = .ok (.ireturn, 1) := by decide +kernel
theorem dSc_meaning_32 : decode cSc_meaning 32 = .ok (.iconst 0, 1) := by decide +kernel
theorem dSc_meaning_33 : decode cSc_meaning 33 = .ok (.aload_n 0, 1) := by decide +kernel
theorem dSc_meaning_34 : decode cSc_meaning 34 = .ok (.iload_n 2, 1) := by decide +kernel
theorem dSc_meaning_35 : decode cSc_meaning 35 = .ok (.bipush 6, 2) := by decide +kernel
theorem dSc_meaning_37 : decode cSc_meaning 37 = .ok (.invokevirtual 58, 3) := by decide +kernel
theorem dSc_meaning_40 : decode cSc_meaning 40 = .ok (.invokestatic 67, 3) := by decide +kernel
theorem dSc_meaning_43 : decode cSc_meaning 43 = .ok (.ireturn, 1) := by decide +kernel
def fSc_meaning (o0 : Nat) (v1 : Int32) (v2 : Int32) (s0 : Sg) : Option (Int32 × Sg) := if v1 = 5 then (bi (fSc_tell o0 v2 6 s0) fun r12 s11 => bi (fJ9_max_7cf53 0 r12 s11) fun r14 s13 => some (r14, s13)) else (if v1 = 6 then (bi (fJ9_max_7cf53 0 ((s0 o0 8) - (s0 o0 9)) s0) fun r10 s9 => some (r10, s9)) else (if v1 = 7 then (bi (fSc_tell o0 v2 4 s0) fun r4 s3 => if r4 < 99 then (bi (fSc_manyUp o0 s3) fun r6 s5 => some (r6, s5)) else (bi (fSc_manyUp o0 s3) fun r8 s7 => some ((r8 - 1), s7))) else (if v1 = 8 then (some ((s0 o0 10), s0)) else (bi (fSc_tell o0 v2 v1 s0) fun r2 s1 => some (r2, s1)))))
set_option maxHeartbeats 4000000 in
set_option maxRecDepth 100000 in
theorem okSc_meaning (o0 : Nat) (v1 : Int32) (v2 : Int32) (s0 : Sg) (h0 : hz_kd o0 = 5) : ∀ (l : Launch) (w : WC), Ok l w ySc_meaning cSc_meaning 3 (some .int) 2 evI [.ref (w.ad o0), .int v1, .int v2] s0 (fSc_meaning o0 v1 v2 s0) := by
  refine ok_in (ev := fun _ => evI) (av := fun w => [.ref (w.ad o0), .int v1, .int v2]) "LastWordHill$Scene" rfl (by decide +kernel) (fun _ => rfl) (fun _ => Nat.le_of_ble_eq_true rfl) ?_
  intro C X E
  show GF C evI 0 [some (.ref (C.w.ad o0)), some (.int v1), some (.int v2)] [] s0 (fSc_meaning o0 v1 v2 s0)
  unfold fSc_meaning
  refine g_iload_n X dSc_meaning_0 rfl ?_
  refine gf_ite (fun c1_0 => ?_) (fun c1_0 => ?_)
  · refine g_tabIn X (tgt := 32) (off := 31) 5 c1_0 dSc_meaning_1 (by decide) (by decide) ?_
    refine g_iconst X 0 dSc_meaning_32 (by decide) ?_
    refine g_aload_n X dSc_meaning_33 rfl ?_
    refine g_iload_n X dSc_meaning_34 rfl ?_
    refine g_bipush X 6 dSc_meaning_35 (by decide) ?_
    refine g_virtI X [.int v2, .int 6] [.int 0] h0 mm_Sc_tell mv_Sc_tell ml_Sc_58 (okSc_tell o0 v2 6 s0 h0 C.l C.w) rfl (by decide) rfl (Nat.le_of_ble_eq_true rfl) dSc_meaning_37 (fun r12 s11 => ?_)
    refine g_statI X [.int 0, .int r12] [] mm_J9_max_7cf53 ms_J9_max_7cf53 ml_Sc_67 (okJ9_max_7cf53 0 r12 s11 C.l C.w) rfl (by decide) rfl (Nat.le_of_ble_eq_true rfl) dSc_meaning_40 (fun r14 s13 => ?_)
    exact g_iret X E dSc_meaning_43
  · refine gf_ite (fun c1_1 => ?_) (fun c1_1 => ?_)
    · refine g_tabIn X (tgt := 44) (off := 43) 6 c1_1 dSc_meaning_1 (by decide) (by decide) ?_
      refine g_iconst X 0 dSc_meaning_44 (by decide) ?_
      refine g_aload_n X dSc_meaning_45 rfl ?_
      refine g_getI X fl_Sc_28 fb_5_8 h0 dSc_meaning_46 ?_
      refine g_aload_n X dSc_meaning_49 rfl ?_
      refine g_getI X fl_Sc_46 fb_5_9 h0 dSc_meaning_50 ?_
      refine g_isub X dSc_meaning_53 ?_
      refine g_statI X [.int 0, .int ((s0 o0 8) - (s0 o0 9))] [] mm_J9_max_7cf53 ms_J9_max_7cf53 ml_Sc_67 (okJ9_max_7cf53 0 ((s0 o0 8) - (s0 o0 9)) s0 C.l C.w) rfl (by decide) rfl (Nat.le_of_ble_eq_true rfl) dSc_meaning_54 (fun r10 s9 => ?_)
      exact g_iret X E dSc_meaning_57
    · refine gf_ite (fun c1_2 => ?_) (fun c1_2 => ?_)
      · refine g_tabIn X (tgt := 58) (off := 57) 7 c1_2 dSc_meaning_1 (by decide) (by decide) ?_
        refine g_aload_n X dSc_meaning_58 rfl ?_
        refine g_iload_n X dSc_meaning_59 rfl ?_
        refine g_iconst X 4 dSc_meaning_60 (by decide) ?_
        refine g_virtI X [.int v2, .int 4] [] h0 mm_Sc_tell mv_Sc_tell ml_Sc_58 (okSc_tell o0 v2 4 s0 h0 C.l C.w) rfl (by decide) rfl (Nat.le_of_ble_eq_true rfl) dSc_meaning_61 (fun r4 s3 => ?_)
        refine g_bipush X 99 dSc_meaning_64 (by decide) ?_
        refine g_clt X (tgt := 78) dSc_meaning_66 (by decide) ?_ ?_
        · refine g_aload_n X dSc_meaning_78 rfl ?_
          refine g_virtI X [] [] h0 mm_Sc_manyUp mv_Sc_manyUp ml_Sc_76 (okSc_manyUp o0 s3 h0 C.l C.w) rfl (by decide) rfl (Nat.le_of_ble_eq_true rfl) dSc_meaning_79 (fun r6 s5 => ?_)
          exact g_iret X E dSc_meaning_82
        · refine g_aload_n X dSc_meaning_69 rfl ?_
          refine g_virtI X [] [] h0 mm_Sc_manyUp mv_Sc_manyUp ml_Sc_76 (okSc_manyUp o0 s3 h0 C.l C.w) rfl (by decide) rfl (Nat.le_of_ble_eq_true rfl) dSc_meaning_70 (fun r8 s7 => ?_)
          refine g_iconst X 1 dSc_meaning_73 (by decide) ?_
          refine g_isub X dSc_meaning_74 ?_
          refine g_goto X 82 dSc_meaning_75 (by decide) ?_
          exact g_iret X E dSc_meaning_82
      · refine gf_ite (fun c1_3 => ?_) (fun c1_3 => ?_)
        · refine g_tabIn X (tgt := 83) (off := 82) 8 c1_3 dSc_meaning_1 (by decide) (by decide) ?_
          refine g_aload_n X dSc_meaning_83 rfl ?_
          refine g_getI X fl_Sc_49 fb_5_10 h0 dSc_meaning_84 ?_
          exact g_iret X E dSc_meaning_87
        · have z0 := ne_toInt c1_0
          have z1 := ne_toInt c1_1
          have z2 := ne_toInt c1_2
          have z3 := ne_toInt c1_3
          refine g_tabOut X (tgt := 88) dSc_meaning_1 (by simp at z0 z1 z2 z3; omega) (by decide) ?_
          refine g_aload_n X dSc_meaning_88 rfl ?_
          refine g_iload_n X dSc_meaning_89 rfl ?_
          refine g_iload_n X dSc_meaning_90 rfl ?_
          refine g_virtI X [.int v2, .int v1] [] h0 mm_Sc_tell mv_Sc_tell ml_Sc_58 (okSc_tell o0 v2 v1 s0 h0 C.l C.w) rfl (by decide) rfl (Nat.le_of_ble_eq_true rfl) dSc_meaning_91 (fun r2 s1 => ?_)
          exact g_iret X E dSc_meaning_94
def yTa_tell : MethodName := ⟨"LastWordHill$Table", "tell", "(II)I"⟩
abbrev cTa_tell : ByteArray := prog_9_method_2_code
theorem dTa_tell_0 : decode cTa_tell 0 = .ok (.aload_n 0, 1) := by decide +kernel
theorem dTa_tell_1 : decode cTa_tell 1 = .ok (.iload_n 1, 1) := by decide +kernel
theorem dTa_tell_2 : decode cTa_tell 2 = .ok (.iload_n 2, 1) := by decide +kernel
theorem dTa_tell_3 : decode cTa_tell 3 = .ok (.invokevirtual 28, 3) := by decide +kernel
theorem mm_Ta_holds : MMc yTa_holds cTa_holds 3 (some .boolean) 2 := ⟨hz_in 676 (by decide +kernel) (by decide +kernel), hz_in 139 (by decide +kernel) (by decide +kernel), by decide +kernel, by decide⟩
theorem mv_Ta_holds : MMv yTa_holds 7 := ⟨hz_in 674 (by decide +kernel) (by decide +kernel), hz_in 675 (by decide +kernel) (by decide +kernel), _, _, rfl, by decide⟩
theorem ml_Ta_28 : Cond.methodLink "LastWordHill$Table" 28 yTa_holds ∈ hz_wt := hz_in 673 (by decide +kernel) (by decide +kernel)
theorem dTa_tell_6 : decode cTa_tell 6 = .ok (.ifCond .eq 19, 3) := by decide +kernel
theorem dTa_tell_25 : decode cTa_tell 25 = .ok (.iconst 0, 1) := by decide +kernel
theorem dTa_tell_26 : decode cTa_tell 26 = .ok (.ireturn, 1) := by decide +kernel
theorem dTa_tell_9 : decode cTa_tell 9 = .ok (.aload_n 0, 1) := by decide +kernel
theorem dTa_tell_10 : decode cTa_tell 10 = .ok (.getfield 24, 3) := by decide +kernel
theorem fl_Ta_24 : FLk "LastWordHill$Table" 24 7 2 := ⟨_, _, _, rfl, by decide, hz_in 275 (by decide +kernel) (by decide +kernel), nL7, by decide, by decide⟩
theorem fb_7_2 : (hz_bs 7)[2]? = some true := by decide
theorem dTa_tell_13 : decode cTa_tell 13 = .ok (.iload_n 1, 1) := by decide +kernel
theorem dTa_tell_14 : decode cTa_tell 14 = .ok (.aload_n 0, 1) := by decide +kernel
theorem dTa_tell_15 : decode cTa_tell 15 = .ok (.getfield 15, 3) := by decide +kernel
theorem dTa_tell_18 : decode cTa_tell 18 = .ok (.imul, 1) := by decide +kernel
theorem dTa_tell_19 : decode cTa_tell 19 = .ok (.iload_n 2, 1) := by decide +kernel
theorem dTa_tell_20 : decode cTa_tell 20 = .ok (.iadd, 1) := by decide +kernel
theorem dTa_tell_21 : decode cTa_tell 21 = .ok (.iaload, 1) := by decide +kernel
theorem dTa_tell_22 : decode cTa_tell 22 = .ok (.goto 4, 3) := by decide +kernel
def fTa_tell (o0 : Nat) (v1 : Int32) (v2 : Int32) (s0 : Sg) : Option (Int32 × Sg) := bi (fTa_holds o0 v1 v2 s0) fun r2 s1 => if r2 = 0 then (some (0, s1)) else (gd ((v1 * (s1 o0 0)) + v2) (hz_ln (hz_rf o0 2)) (some ((s1 (hz_rf o0 2) (ix ((v1 * (s1 o0 0)) + v2))), s1)))
set_option maxHeartbeats 4000000 in
set_option maxRecDepth 100000 in
theorem okTa_tell (o0 : Nat) (v1 : Int32) (v2 : Int32) (s0 : Sg) (h0 : hz_kd o0 = 7) : ∀ (l : Launch) (w : WC), Ok l w yTa_tell cTa_tell 3 (some .int) 2 evI [.ref (w.ad o0), .int v1, .int v2] s0 (fTa_tell o0 v1 v2 s0) := by
  refine ok_in (ev := fun _ => evI) (av := fun w => [.ref (w.ad o0), .int v1, .int v2]) "LastWordHill$Table" rfl (by decide +kernel) (fun _ => rfl) (fun _ => Nat.le_of_ble_eq_true rfl) ?_
  intro C X E
  show GF C evI 0 [some (.ref (C.w.ad o0)), some (.int v1), some (.int v2)] [] s0 (fTa_tell o0 v1 v2 s0)
  unfold fTa_tell
  refine g_aload_n X dTa_tell_0 rfl ?_
  refine g_iload_n X dTa_tell_1 rfl ?_
  refine g_iload_n X dTa_tell_2 rfl ?_
  refine g_virtI X [.int v1, .int v2] [] h0 mm_Ta_holds mv_Ta_holds ml_Ta_28 (okTa_holds o0 v1 v2 s0 h0 C.l C.w) rfl (by decide) rfl (Nat.le_of_ble_eq_true rfl) dTa_tell_3 (fun r2 s1 => ?_)
  refine g_zeq X (tgt := 25) dTa_tell_6 (by decide) ?_ ?_
  · refine g_iconst X 0 dTa_tell_25 (by decide) ?_
    exact g_iret X E dTa_tell_26
  · refine g_aload_n X dTa_tell_9 rfl ?_
    refine g_getR X fl_Ta_24 fb_7_2 h0 dTa_tell_10 ?_
    refine g_iload_n X dTa_tell_13 rfl ?_
    refine g_aload_n X dTa_tell_14 rfl ?_
    refine g_getI X fl_Ta_15 fb_7_0 h0 dTa_tell_15 ?_
    refine g_imul X dTa_tell_18 ?_
    refine g_iload_n X dTa_tell_19 rfl ?_
    refine g_iadd X dTa_tell_20 ?_
    refine g_iald X (sk_7_2 h0) rfl dTa_tell_21 ?_
    refine g_goto X 26 dTa_tell_22 (by decide) ?_
    exact g_iret X E dTa_tell_26
def yTa_put : MethodName := ⟨"LastWordHill$Table", "put", "(III)V"⟩
abbrev cTa_put : ByteArray := prog_9_method_3_code
theorem dTa_put_0 : decode cTa_put 0 = .ok (.aload_n 0, 1) := by decide +kernel
theorem dTa_put_1 : decode cTa_put 1 = .ok (.iload_n 1, 1) := by decide +kernel
theorem dTa_put_2 : decode cTa_put 2 = .ok (.iload_n 2, 1) := by decide +kernel
theorem dTa_put_3 : decode cTa_put 3 = .ok (.invokevirtual 28, 3) := by decide +kernel
theorem dTa_put_6 : decode cTa_put 6 = .ok (.ifCond .eq 17, 3) := by decide +kernel
theorem dTa_put_23 : decode cTa_put 23 = .ok (.return_, 1) := by decide +kernel
theorem dTa_put_9 : decode cTa_put 9 = .ok (.aload_n 0, 1) := by decide +kernel
theorem dTa_put_10 : decode cTa_put 10 = .ok (.getfield 24, 3) := by decide +kernel
theorem dTa_put_13 : decode cTa_put 13 = .ok (.iload_n 1, 1) := by decide +kernel
theorem dTa_put_14 : decode cTa_put 14 = .ok (.aload_n 0, 1) := by decide +kernel
theorem dTa_put_15 : decode cTa_put 15 = .ok (.getfield 15, 3) := by decide +kernel
theorem dTa_put_18 : decode cTa_put 18 = .ok (.imul, 1) := by decide +kernel
theorem dTa_put_19 : decode cTa_put 19 = .ok (.iload_n 2, 1) := by decide +kernel
theorem dTa_put_20 : decode cTa_put 20 = .ok (.iadd, 1) := by decide +kernel
theorem dTa_put_21 : decode cTa_put 21 = .ok (.iload_n 3, 1) := by decide +kernel
theorem dTa_put_22 : decode cTa_put 22 = .ok (.iastore, 1) := by decide +kernel
def fTa_put (o0 : Nat) (v1 : Int32) (v2 : Int32) (v3 : Int32) (s0 : Sg) : Option (Sg) := bi (fTa_holds o0 v1 v2 s0) fun r2 s1 => if r2 = 0 then (some s1) else (gd ((v1 * (s1 o0 0)) + v2) (hz_ln (hz_rf o0 2)) (bnd (pt s1 (hz_rf o0 2) (ix ((v1 * (s1 o0 0)) + v2)) v3) fun s3 => some s3))
set_option maxHeartbeats 4000000 in
set_option maxRecDepth 100000 in
theorem okTa_put (o0 : Nat) (v1 : Int32) (v2 : Int32) (v3 : Int32) (s0 : Sg) (h0 : hz_kd o0 = 7) : ∀ (l : Launch) (w : WC), Ok l w yTa_put cTa_put 4 none 2 evV [.ref (w.ad o0), .int v1, .int v2, .int v3] s0 (fTa_put o0 v1 v2 v3 s0) := by
  refine ok_in (ev := fun _ => evV) (av := fun w => [.ref (w.ad o0), .int v1, .int v2, .int v3]) "LastWordHill$Table" rfl (by decide +kernel) (fun _ => rfl) (fun _ => Nat.le_of_ble_eq_true rfl) ?_
  intro C X E
  show GF C evV 0 [some (.ref (C.w.ad o0)), some (.int v1), some (.int v2), some (.int v3)] [] s0 (fTa_put o0 v1 v2 v3 s0)
  unfold fTa_put
  refine g_aload_n X dTa_put_0 rfl ?_
  refine g_iload_n X dTa_put_1 rfl ?_
  refine g_iload_n X dTa_put_2 rfl ?_
  refine g_virtI X [.int v1, .int v2] [] h0 mm_Ta_holds mv_Ta_holds ml_Ta_28 (okTa_holds o0 v1 v2 s0 h0 C.l C.w) rfl (by decide) rfl (Nat.le_of_ble_eq_true rfl) dTa_put_3 (fun r2 s1 => ?_)
  refine g_zeq X (tgt := 23) dTa_put_6 (by decide) ?_ ?_
  · exact g_vret X E dTa_put_23
  · refine g_aload_n X dTa_put_9 rfl ?_
    refine g_getR X fl_Ta_24 fb_7_2 h0 dTa_put_10 ?_
    refine g_iload_n X dTa_put_13 rfl ?_
    refine g_aload_n X dTa_put_14 rfl ?_
    refine g_getI X fl_Ta_15 fb_7_0 h0 dTa_put_15 ?_
    refine g_imul X dTa_put_18 ?_
    refine g_iload_n X dTa_put_19 rfl ?_
    refine g_iadd X dTa_put_20 ?_
    refine g_iload_n X dTa_put_21 rfl ?_
    refine g_iast X (sk_7_2 h0) rfl dTa_put_22 (fun s3 => ?_)
    exact g_vret X E dTa_put_23
def yTa_add : MethodName := ⟨"LastWordHill$Table", "add", "(IIIII)I"⟩
abbrev cTa_add : ByteArray := prog_9_method_5_code
theorem dTa_add_0 : decode cTa_add 0 = .ok (.aload_n 0, 1) := by decide +kernel
theorem dTa_add_1 : decode cTa_add 1 = .ok (.getfield 32, 3) := by decide +kernel
theorem dTa_add_4 : decode cTa_add 4 = .ok (.aload_n 0, 1) := by decide +kernel
theorem dTa_add_5 : decode cTa_add 5 = .ok (.getfield 21, 3) := by decide +kernel
theorem dTa_add_8 : decode cTa_add 8 = .ok (.if_icmp .lt 5, 3) := by decide +kernel
theorem dTa_add_13 : decode cTa_add 13 = .ok (.aload_n 0, 1) := by decide +kernel
theorem dTa_add_14 : decode cTa_add 14 = .ok (.aload_n 0, 1) := by decide +kernel
theorem dTa_add_15 : decode cTa_add 15 = .ok (.getfield 32, 3) := by decide +kernel
theorem dTa_add_18 : decode cTa_add 18 = .ok (.iconst 0, 1) := by decide +kernel
theorem dTa_add_19 : decode cTa_add 19 = .ok (.iload_n 1, 1) := by decide +kernel
theorem dTa_add_20 : decode cTa_add 20 = .ok (.invokevirtual 35, 3) := by decide +kernel
theorem mm_Ta_put : MMc yTa_put cTa_put 4 none 3 := ⟨hz_in 672 (by decide +kernel) (by decide +kernel), hz_in 139 (by decide +kernel) (by decide +kernel), by decide +kernel, by decide⟩
theorem mv_Ta_put : MMv yTa_put 7 := ⟨hz_in 670 (by decide +kernel) (by decide +kernel), hz_in 671 (by decide +kernel) (by decide +kernel), _, _, rfl, by decide⟩
theorem ml_Ta_35 : Cond.methodLink "LastWordHill$Table" 35 yTa_put ∈ hz_wt := hz_in 669 (by decide +kernel) (by decide +kernel)
theorem dTa_add_23 : decode cTa_add 23 = .ok (.aload_n 0, 1) := by decide +kernel
theorem dTa_add_24 : decode cTa_add 24 = .ok (.aload_n 0, 1) := by decide +kernel
theorem dTa_add_25 : decode cTa_add 25 = .ok (.getfield 32, 3) := by decide +kernel
theorem dTa_add_28 : decode cTa_add 28 = .ok (.iconst 1, 1) := by decide +kernel
theorem dTa_add_29 : decode cTa_add 29 = .ok (.iload_n 2, 1) := by decide +kernel
theorem dTa_add_30 : decode cTa_add 30 = .ok (.invokevirtual 35, 3) := by decide +kernel
theorem dTa_add_33 : decode cTa_add 33 = .ok (.aload_n 0, 1) := by decide +kernel
theorem dTa_add_34 : decode cTa_add 34 = .ok (.aload_n 0, 1) := by decide +kernel
theorem dTa_add_35 : decode cTa_add 35 = .ok (.getfield 32, 3) := by decide +kernel
theorem dTa_add_38 : decode cTa_add 38 = .ok (.iconst 2, 1) := by decide +kernel
theorem dTa_add_39 : decode cTa_add 39 = .ok (.iload_n 3, 1) := by decide +kernel
theorem dTa_add_40 : decode cTa_add 40 = .ok (.invokevirtual 35, 3) := by decide +kernel
theorem dTa_add_43 : decode cTa_add 43 = .ok (.aload_n 0, 1) := by decide +kernel
theorem dTa_add_44 : decode cTa_add 44 = .ok (.aload_n 0, 1) := by decide +kernel
theorem dTa_add_45 : decode cTa_add 45 = .ok (.getfield 32, 3) := by decide +kernel
theorem dTa_add_48 : decode cTa_add 48 = .ok (.iconst 3, 1) := by decide +kernel
theorem dTa_add_49 : decode cTa_add 49 = .ok (.iload 4, 2) := by decide +kernel
theorem dTa_add_51 : decode cTa_add 51 = .ok (.invokevirtual 35, 3) := by decide +kernel
theorem dTa_add_54 : decode cTa_add 54 = .ok (.aload_n 0, 1) := by decide +kernel
theorem dTa_add_55 : decode cTa_add 55 = .ok (.aload_n 0, 1) := by decide +kernel
theorem dTa_add_56 : decode cTa_add 56 = .ok (.getfield 32, 3) := by decide +kernel
theorem dTa_add_59 : decode cTa_add 59 = .ok (.iconst 4, 1) := by decide +kernel
theorem dTa_add_60 : decode cTa_add 60 = .ok (.iload 5, 2) := by decide +kernel
theorem dTa_add_62 : decode cTa_add 62 = .ok (.invokevirtual 35, 3) := by decide +kernel
theorem dTa_add_65 : decode cTa_add 65 = .ok (.aload_n 0, 1) := by decide +kernel
theorem dTa_add_66 : decode cTa_add 66 = .ok (.dup, 1) := by decide +kernel
theorem dTa_add_67 : decode cTa_add 67 = .ok (.getfield 32, 3) := by decide +kernel
theorem dTa_add_70 : decode cTa_add 70 = .ok (.iconst 1, 1) := by decide +kernel
theorem dTa_add_71 : decode cTa_add 71 = .ok (.iadd, 1) := by decide +kernel
theorem dTa_add_72 : decode cTa_add 72 = .ok (.putfield 32, 3) := by decide +kernel
theorem dTa_add_75 : decode cTa_add 75 = .ok (.aload_n 0, 1) := by decide +kernel
theorem dTa_add_76 : decode cTa_add 76 = .ok (.getfield 32, 3) := by decide +kernel
theorem dTa_add_79 : decode cTa_add 79 = .ok (.ireturn, 1) := by decide +kernel
theorem dTa_add_11 : decode cTa_add 11 = .ok (.iconst (-1), 1) := by decide +kernel
theorem dTa_add_12 : decode cTa_add 12 = .ok (.ireturn, 1) := by decide +kernel
def fTa_add (o0 : Nat) (v1 : Int32) (v2 : Int32) (v3 : Int32) (v4 : Int32) (v5 : Int32) (s0 : Sg) : Option (Int32 × Sg) := if (s0 o0 3) < (s0 o0 1) then (bv (fTa_put o0 (s0 o0 3) 0 v1 s0) fun s1 => bv (fTa_put o0 (s1 o0 3) 1 v2 s1) fun s2 => bv (fTa_put o0 (s2 o0 3) 2 v3 s2) fun s3 => bv (fTa_put o0 (s3 o0 3) 3 v4 s3) fun s4 => bv (fTa_put o0 (s4 o0 3) 4 v5 s4) fun s5 => bnd (pt s5 o0 3 ((s5 o0 3) + 1)) fun s6 => some ((s6 o0 3), s6)) else (some ((-1), s0))
set_option maxHeartbeats 4000000 in
set_option maxRecDepth 100000 in
theorem okTa_add (o0 : Nat) (v1 : Int32) (v2 : Int32) (v3 : Int32) (v4 : Int32) (v5 : Int32) (s0 : Sg) (h0 : hz_kd o0 = 7) : ∀ (l : Launch) (w : WC), Ok l w yTa_add cTa_add 6 (some .int) 3 evI [.ref (w.ad o0), .int v1, .int v2, .int v3, .int v4, .int v5] s0 (fTa_add o0 v1 v2 v3 v4 v5 s0) := by
  refine ok_in (ev := fun _ => evI) (av := fun w => [.ref (w.ad o0), .int v1, .int v2, .int v3, .int v4, .int v5]) "LastWordHill$Table" rfl (by decide +kernel) (fun _ => rfl) (fun _ => Nat.le_of_ble_eq_true rfl) ?_
  intro C X E
  show GF C evI 0 [some (.ref (C.w.ad o0)), some (.int v1), some (.int v2), some (.int v3), some (.int v4), some (.int v5)] [] s0 (fTa_add o0 v1 v2 v3 v4 v5 s0)
  unfold fTa_add
  refine g_aload_n X dTa_add_0 rfl ?_
  refine g_getI X fl_Ta_32 fb_7_3 h0 dTa_add_1 ?_
  refine g_aload_n X dTa_add_4 rfl ?_
  refine g_getI X fl_Ta_21 fb_7_1 h0 dTa_add_5 ?_
  refine g_clt X (tgt := 13) dTa_add_8 (by decide) ?_ ?_
  · refine g_aload_n X dTa_add_13 rfl ?_
    refine g_aload_n X dTa_add_14 rfl ?_
    refine g_getI X fl_Ta_32 fb_7_3 h0 dTa_add_15 ?_
    refine g_iconst X 0 dTa_add_18 (by decide) ?_
    refine g_iload_n X dTa_add_19 rfl ?_
    refine g_virtV X [.int (s0 o0 3), .int 0, .int v1] [] h0 mm_Ta_put mv_Ta_put ml_Ta_35 (okTa_put o0 (s0 o0 3) 0 v1 s0 h0 C.l C.w) rfl (by decide) rfl (Nat.le_of_ble_eq_true rfl) dTa_add_20 (fun s1 => ?_)
    refine g_aload_n X dTa_add_23 rfl ?_
    refine g_aload_n X dTa_add_24 rfl ?_
    refine g_getI X fl_Ta_32 fb_7_3 h0 dTa_add_25 ?_
    refine g_iconst X 1 dTa_add_28 (by decide) ?_
    refine g_iload_n X dTa_add_29 rfl ?_
    refine g_virtV X [.int (s1 o0 3), .int 1, .int v2] [] h0 mm_Ta_put mv_Ta_put ml_Ta_35 (okTa_put o0 (s1 o0 3) 1 v2 s1 h0 C.l C.w) rfl (by decide) rfl (Nat.le_of_ble_eq_true rfl) dTa_add_30 (fun s2 => ?_)
    refine g_aload_n X dTa_add_33 rfl ?_
    refine g_aload_n X dTa_add_34 rfl ?_
    refine g_getI X fl_Ta_32 fb_7_3 h0 dTa_add_35 ?_
    refine g_iconst X 2 dTa_add_38 (by decide) ?_
    refine g_iload_n X dTa_add_39 rfl ?_
    refine g_virtV X [.int (s2 o0 3), .int 2, .int v3] [] h0 mm_Ta_put mv_Ta_put ml_Ta_35 (okTa_put o0 (s2 o0 3) 2 v3 s2 h0 C.l C.w) rfl (by decide) rfl (Nat.le_of_ble_eq_true rfl) dTa_add_40 (fun s3 => ?_)
    refine g_aload_n X dTa_add_43 rfl ?_
    refine g_aload_n X dTa_add_44 rfl ?_
    refine g_getI X fl_Ta_32 fb_7_3 h0 dTa_add_45 ?_
    refine g_iconst X 3 dTa_add_48 (by decide) ?_
    refine g_iload X dTa_add_49 rfl ?_
    refine g_virtV X [.int (s3 o0 3), .int 3, .int v4] [] h0 mm_Ta_put mv_Ta_put ml_Ta_35 (okTa_put o0 (s3 o0 3) 3 v4 s3 h0 C.l C.w) rfl (by decide) rfl (Nat.le_of_ble_eq_true rfl) dTa_add_51 (fun s4 => ?_)
    refine g_aload_n X dTa_add_54 rfl ?_
    refine g_aload_n X dTa_add_55 rfl ?_
    refine g_getI X fl_Ta_32 fb_7_3 h0 dTa_add_56 ?_
    refine g_iconst X 4 dTa_add_59 (by decide) ?_
    refine g_iload X dTa_add_60 rfl ?_
    refine g_virtV X [.int (s4 o0 3), .int 4, .int v5] [] h0 mm_Ta_put mv_Ta_put ml_Ta_35 (okTa_put o0 (s4 o0 3) 4 v5 s4 h0 C.l C.w) rfl (by decide) rfl (Nat.le_of_ble_eq_true rfl) dTa_add_62 (fun s5 => ?_)
    refine g_aload_n X dTa_add_65 rfl ?_
    refine g_dup X dTa_add_66 rfl ?_
    refine g_getI X fl_Ta_32 fb_7_3 h0 dTa_add_67 ?_
    refine g_iconst X 1 dTa_add_70 (by decide) ?_
    refine g_iadd X dTa_add_71 ?_
    refine g_putI X fl_Ta_32 fb_7_3 fp_7_3 h0 dTa_add_72 (fun s6 => ?_)
    refine g_aload_n X dTa_add_75 rfl ?_
    refine g_getI X fl_Ta_32 fb_7_3 h0 dTa_add_76 ?_
    exact g_iret X E dTa_add_79
  · refine g_iconst X (-1) dTa_add_11 (by decide) ?_
    exact g_iret X E dTa_add_12
def yTa_become : MethodName := ⟨"LastWordHill$Table", "become", "(LLastWordHill$Table;)V"⟩
abbrev cTa_become : ByteArray := prog_9_method_7_code
theorem dTa_become_0 : decode cTa_become 0 = .ok (.aload_n 0, 1) := by decide +kernel
theorem dTa_become_1 : decode cTa_become 1 = .ok (.aload_n 1, 1) := by decide +kernel
theorem dTa_become_2 : decode cTa_become 2 = .ok (.getfield 32, 3) := by decide +kernel
theorem dTa_become_5 : decode cTa_become 5 = .ok (.putfield 32, 3) := by decide +kernel
theorem dTa_become_8 : decode cTa_become 8 = .ok (.aload_n 1, 1) := by decide +kernel
theorem dTa_become_9 : decode cTa_become 9 = .ok (.getfield 24, 3) := by decide +kernel
theorem dTa_become_12 : decode cTa_become 12 = .ok (.iconst 0, 1) := by decide +kernel
theorem dTa_become_13 : decode cTa_become 13 = .ok (.aload_n 0, 1) := by decide +kernel
theorem dTa_become_14 : decode cTa_become 14 = .ok (.getfield 24, 3) := by decide +kernel
theorem dTa_become_17 : decode cTa_become 17 = .ok (.iconst 0, 1) := by decide +kernel
theorem dTa_become_18 : decode cTa_become 18 = .ok (.aload_n 0, 1) := by decide +kernel
theorem dTa_become_19 : decode cTa_become 19 = .ok (.getfield 24, 3) := by decide +kernel
theorem dTa_become_22 : decode cTa_become 22 = .ok (.arraylength, 1) := by decide +kernel
theorem dTa_become_23 : decode cTa_become 23 = .ok (.aload_n 1, 1) := by decide +kernel
theorem dTa_become_24 : decode cTa_become 24 = .ok (.getfield 24, 3) := by decide +kernel
theorem dTa_become_27 : decode cTa_become 27 = .ok (.arraylength, 1) := by decide +kernel
theorem dTa_become_28 : decode cTa_become 28 = .ok (.invokestatic 39, 3) := by decide +kernel
theorem ml_Ta_39 : Cond.methodLink "LastWordHill$Table" 39 yJ9_min_7cf53 ∈ hz_wt := hz_in 1081 (by decide +kernel) (by decide +kernel)
theorem dTa_become_31 : decode cTa_become 31 = .ok (.invokestatic 42, 3) := by decide +kernel
theorem ml_Ta_42 : Cond.methodLink "LastWordHill$Table" 42 arraycopyName ∈ hz_wt := hz_in 1082 (by decide +kernel) (by decide +kernel)
theorem dTa_become_34 : decode cTa_become 34 = .ok (.return_, 1) := by decide +kernel
def fTa_become (o0 : Nat) (o1 : Nat) (s0 : Sg) : Option (Sg) := bnd (pt s0 o0 3 (s0 o1 3)) fun s1 => bi (fJ9_min_7cf53 (nI (hz_ln (hz_rf o0 2))) (nI (hz_ln (hz_rf o1 2))) s1) fun r3 s2 => bv (cpy s2 (hz_rf o1 2) (hz_ln (hz_rf o1 2)) 0 (hz_rf o0 2) (hz_ln (hz_rf o0 2)) 0 r3) fun s4 => some s4
set_option maxHeartbeats 4000000 in
set_option maxRecDepth 100000 in
theorem okTa_become (o0 : Nat) (o1 : Nat) (s0 : Sg) (h0 : hz_kd o0 = 7) (h1 : hz_kd o1 = 7) : ∀ (l : Launch) (w : WC), Ok l w yTa_become cTa_become 2 none 2 evV [.ref (w.ad o0), .ref (w.ad o1)] s0 (fTa_become o0 o1 s0) := by
  refine ok_in (ev := fun _ => evV) (av := fun w => [.ref (w.ad o0), .ref (w.ad o1)]) "LastWordHill$Table" rfl (by decide +kernel) (fun _ => rfl) (fun _ => Nat.le_of_ble_eq_true rfl) ?_
  intro C X E
  show GF C evV 0 [some (.ref (C.w.ad o0)), some (.ref (C.w.ad o1))] [] s0 (fTa_become o0 o1 s0)
  unfold fTa_become
  refine g_aload_n X dTa_become_0 rfl ?_
  refine g_aload_n X dTa_become_1 rfl ?_
  refine g_getI X fl_Ta_32 fb_7_3 h1 dTa_become_2 ?_
  refine g_putI X fl_Ta_32 fb_7_3 fp_7_3 h0 dTa_become_5 (fun s1 => ?_)
  refine g_aload_n X dTa_become_8 rfl ?_
  refine g_getR X fl_Ta_24 fb_7_2 h1 dTa_become_9 ?_
  refine g_iconst X 0 dTa_become_12 (by decide) ?_
  refine g_aload_n X dTa_become_13 rfl ?_
  refine g_getR X fl_Ta_24 fb_7_2 h0 dTa_become_14 ?_
  refine g_iconst X 0 dTa_become_17 (by decide) ?_
  refine g_aload_n X dTa_become_18 rfl ?_
  refine g_getR X fl_Ta_24 fb_7_2 h0 dTa_become_19 ?_
  refine g_alen X (sk_7_2 h0) rfl dTa_become_22 ?_
  refine g_aload_n X dTa_become_23 rfl ?_
  refine g_getR X fl_Ta_24 fb_7_2 h1 dTa_become_24 ?_
  refine g_alen X (sk_7_2 h1) rfl dTa_become_27 ?_
  refine g_statI X [.int (nI (hz_ln (hz_rf o0 2))), .int (nI (hz_ln (hz_rf o1 2)))] [.int 0, .ref (C.w.ad (hz_rf o0 2)), .int 0, .ref (C.w.ad (hz_rf o1 2))] mm_J9_min_7cf53 ms_J9_min_7cf53 ml_Ta_39 (okJ9_min_7cf53 (nI (hz_ln (hz_rf o0 2))) (nI (hz_ln (hz_rf o1 2))) s1 C.l C.w) rfl (by decide) rfl (Nat.le_of_ble_eq_true rfl) dTa_become_28 (fun r3 s2 => ?_)
  refine g_acopy X (sk_7_2 h1) rfl (sk_7_2 h0) rfl ml_Ta_42 dTa_become_31 (by decide) (Nat.le_of_ble_eq_true rfl) (fun s4 => ?_)
  exact g_vret X E dTa_become_34
def yTe_clear : MethodName := ⟨"LastWordHill$Texts", "clear", "(I)V"⟩
abbrev cTe_clear : ByteArray := prog_10_method_2_code
theorem dTe_clear_0 : decode cTe_clear 0 = .ok (.iload_n 1, 1) := by decide +kernel
theorem dTe_clear_1 : decode cTe_clear 1 = .ok (.ifCond .ne 13, 3) := by decide +kernel
theorem dTe_clear_14 : decode cTe_clear 14 = .ok (.iload_n 1, 1) := by decide +kernel
theorem dTe_clear_15 : decode cTe_clear 15 = .ok (.iconst 1, 1) := by decide +kernel
theorem dTe_clear_16 : decode cTe_clear 16 = .ok (.if_icmp .ne 14, 3) := by decide +kernel
theorem dTe_clear_30 : decode cTe_clear 30 = .ok (.iload_n 1, 1) := by decide +kernel
theorem dTe_clear_31 : decode cTe_clear 31 = .ok (.iconst 2, 1) := by decide +kernel
theorem dTe_clear_32 : decode cTe_clear 32 = .ok (.if_icmp .ne 14, 3) := by decide +kernel
theorem dTe_clear_46 : decode cTe_clear 46 = .ok (.iload_n 1, 1) := by decide +kernel
theorem dTe_clear_47 : decode cTe_clear 47 = .ok (.iconst 3, 1) := by decide +kernel
theorem dTe_clear_48 : decode cTe_clear 48 = .ok (.if_icmp .ne 16, 3) := by decide +kernel
theorem dTe_clear_64 : decode cTe_clear 64 = .ok (.return_, 1) := by decide +kernel
theorem dTe_clear_51 : decode cTe_clear 51 = .ok (.aload_n 0, 1) := by decide +kernel
theorem dTe_clear_52 : decode cTe_clear 52 = .ok (.getfield 30, 3) := by decide +kernel
theorem dTe_clear_55 : decode cTe_clear 55 = .ok (.iconst 0, 1) := by decide +kernel
theorem dTe_clear_56 : decode cTe_clear 56 = .ok (.invokestatic 41, 3) := by decide +kernel
theorem mm_J7_fill_53178 : MMc yJ7_fill_53178 cJ7_fill_53178 4 none 2 := ⟨hz_in 821 (by decide +kernel) (by decide +kernel), hz_in 149 (by decide +kernel) (by decide +kernel), by decide +kernel, by decide⟩
theorem ms_J7_fill_53178 : Cond.static yJ7_fill_53178 ∈ hz_wt := hz_in 820 (by decide +kernel) (by decide +kernel)
theorem ml_Te_41 : Cond.methodLink "LastWordHill$Texts" 41 yJ7_fill_53178 ∈ hz_wt := hz_in 819 (by decide +kernel) (by decide +kernel)
theorem dTe_clear_59 : decode cTe_clear 59 = .ok (.aload_n 0, 1) := by decide +kernel
theorem dTe_clear_60 : decode cTe_clear 60 = .ok (.iconst 0, 1) := by decide +kernel
theorem dTe_clear_61 : decode cTe_clear 61 = .ok (.putfield 47, 3) := by decide +kernel
theorem fp_8_4 : FLp 8 4 .int := ⟨_, _, _, _, rfl, nY8, nN8, by decide, by decide⟩
theorem dTe_clear_35 : decode cTe_clear 35 = .ok (.aload_n 0, 1) := by decide +kernel
theorem dTe_clear_36 : decode cTe_clear 36 = .ok (.getfield 27, 3) := by decide +kernel
theorem dTe_clear_39 : decode cTe_clear 39 = .ok (.invokevirtual 37, 3) := by decide +kernel
theorem ml_Te_37 : Cond.methodLink "LastWordHill$Texts" 37 yTa_empty ∈ hz_wt := hz_in 818 (by decide +kernel) (by decide +kernel)
theorem dTe_clear_42 : decode cTe_clear 42 = .ok (.pop, 1) := by decide +kernel
theorem dTe_clear_43 : decode cTe_clear 43 = .ok (.goto 21, 3) := by decide +kernel
theorem dTe_clear_19 : decode cTe_clear 19 = .ok (.aload_n 0, 1) := by decide +kernel
theorem dTe_clear_20 : decode cTe_clear 20 = .ok (.getfield 23, 3) := by decide +kernel
theorem dTe_clear_23 : decode cTe_clear 23 = .ok (.invokevirtual 37, 3) := by decide +kernel
theorem dTe_clear_26 : decode cTe_clear 26 = .ok (.pop, 1) := by decide +kernel
theorem dTe_clear_27 : decode cTe_clear 27 = .ok (.goto 37, 3) := by decide +kernel
theorem dTe_clear_4 : decode cTe_clear 4 = .ok (.aload_n 0, 1) := by decide +kernel
theorem dTe_clear_5 : decode cTe_clear 5 = .ok (.getfield 12, 3) := by decide +kernel
theorem dTe_clear_8 : decode cTe_clear 8 = .ok (.invokevirtual 34, 3) := by decide +kernel
theorem mm_La_clear : MMc yLa_clear cLa_clear 1 none 0 := ⟨hz_in 813 (by decide +kernel) (by decide +kernel), hz_in 138 (by decide +kernel) (by decide +kernel), by decide +kernel, by decide⟩
theorem mv_La_clear : MMv yLa_clear 1 := ⟨hz_in 811 (by decide +kernel) (by decide +kernel), hz_in 812 (by decide +kernel) (by decide +kernel), _, _, rfl, by decide⟩
theorem ml_Te_34 : Cond.methodLink "LastWordHill$Texts" 34 yLa_clear ∈ hz_wt := hz_in 810 (by decide +kernel) (by decide +kernel)
theorem dTe_clear_11 : decode cTe_clear 11 = .ok (.goto 53, 3) := by decide +kernel
def fTe_clear (o0 : Nat) (v1 : Int32) (s0 : Sg) : Option (Sg) := if v1 = 0 then (bv (fLa_clear (hz_rf o0 0) s0) fun s7 => some s7) else (if v1 = 1 then (bi (fTa_empty (hz_rf o0 1) s0) fun r6 s5 => some s5) else (if v1 = 2 then (bi (fTa_empty (hz_rf o0 2) s0) fun r4 s3 => some s3) else (if v1 = 3 then (bv (fJ7_fill_53178 (hz_rf o0 3) 0 s0) fun s1 => bnd (pt s1 o0 4 0) fun s2 => some s2) else (some s0))))
set_option maxHeartbeats 4000000 in
set_option maxRecDepth 100000 in
theorem okTe_clear (o0 : Nat) (v1 : Int32) (s0 : Sg) (h0 : hz_kd o0 = 8) : ∀ (l : Launch) (w : WC), Ok l w yTe_clear cTe_clear 2 none 3 evV [.ref (w.ad o0), .int v1] s0 (fTe_clear o0 v1 s0) := by
  refine ok_in (ev := fun _ => evV) (av := fun w => [.ref (w.ad o0), .int v1]) "LastWordHill$Texts" rfl (by decide +kernel) (fun _ => rfl) (fun _ => Nat.le_of_ble_eq_true rfl) ?_
  intro C X E
  show GF C evV 0 [some (.ref (C.w.ad o0)), some (.int v1)] [] s0 (fTe_clear o0 v1 s0)
  unfold fTe_clear
  refine g_iload_n X dTe_clear_0 rfl ?_
  refine g_zne X (tgt := 14) dTe_clear_1 (by decide) ?_ ?_
  · refine g_aload_n X dTe_clear_4 rfl ?_
    refine g_getR X fl_Te_12 fb_8_0 h0 dTe_clear_5 ?_
    refine g_virtV X [] [] (sk_8_0 h0) mm_La_clear mv_La_clear ml_Te_34 (okLa_clear (hz_rf o0 0) s0 (sk_8_0 h0) C.l C.w) rfl (by decide) rfl (Nat.le_of_ble_eq_true rfl) dTe_clear_8 (fun s7 => ?_)
    refine g_goto X 64 dTe_clear_11 (by decide) ?_
    exact g_vret X E dTe_clear_64
  · refine g_iload_n X dTe_clear_14 rfl ?_
    refine g_iconst X 1 dTe_clear_15 (by decide) ?_
    refine g_cne X (tgt := 30) dTe_clear_16 (by decide) ?_ ?_
    · refine g_aload_n X dTe_clear_19 rfl ?_
      refine g_getR X fl_Te_23 fb_8_1 h0 dTe_clear_20 ?_
      refine g_virtI X [] [] (sk_8_1 h0) mm_Ta_empty mv_Ta_empty ml_Te_37 (okTa_empty (hz_rf o0 1) s0 (sk_8_1 h0) C.l C.w) rfl (by decide) rfl (Nat.le_of_ble_eq_true rfl) dTe_clear_23 (fun r6 s5 => ?_)
      refine g_pop X dTe_clear_26 rfl ?_
      refine g_goto X 64 dTe_clear_27 (by decide) ?_
      exact g_vret X E dTe_clear_64
    · refine g_iload_n X dTe_clear_30 rfl ?_
      refine g_iconst X 2 dTe_clear_31 (by decide) ?_
      refine g_cne X (tgt := 46) dTe_clear_32 (by decide) ?_ ?_
      · refine g_aload_n X dTe_clear_35 rfl ?_
        refine g_getR X fl_Te_27 fb_8_2 h0 dTe_clear_36 ?_
        refine g_virtI X [] [] (sk_8_2 h0) mm_Ta_empty mv_Ta_empty ml_Te_37 (okTa_empty (hz_rf o0 2) s0 (sk_8_2 h0) C.l C.w) rfl (by decide) rfl (Nat.le_of_ble_eq_true rfl) dTe_clear_39 (fun r4 s3 => ?_)
        refine g_pop X dTe_clear_42 rfl ?_
        refine g_goto X 64 dTe_clear_43 (by decide) ?_
        exact g_vret X E dTe_clear_64
      · refine g_iload_n X dTe_clear_46 rfl ?_
        refine g_iconst X 3 dTe_clear_47 (by decide) ?_
        refine g_cne X (tgt := 64) dTe_clear_48 (by decide) ?_ ?_
        · refine g_aload_n X dTe_clear_51 rfl ?_
          refine g_getR X fl_Te_30 fb_8_3 h0 dTe_clear_52 ?_
          refine g_iconst X 0 dTe_clear_55 (by decide) ?_
          refine g_statV X [.ref (C.w.ad (hz_rf o0 3)), .int 0] [] mm_J7_fill_53178 ms_J7_fill_53178 ml_Te_41 (okJ7_fill_53178 (hz_rf o0 3) 0 s0 (sk_8_3 h0) C.l C.w) rfl (by decide) rfl (Nat.le_of_ble_eq_true rfl) dTe_clear_56 (fun s1 => ?_)
          refine g_aload_n X dTe_clear_59 rfl ?_
          refine g_iconst X 0 dTe_clear_60 (by decide) ?_
          refine g_putI X fl_Te_47 fb_8_4 fp_8_4 h0 dTe_clear_61 (fun s2 => ?_)
          exact g_vret X E dTe_clear_64
        · exact g_vret X E dTe_clear_64
def yTe_suits : MethodName := ⟨"LastWordHill$Texts", "suits", "(II)Z"⟩
abbrev cTe_suits : ByteArray := prog_10_method_7_code
theorem dTe_suits_0 : decode cTe_suits 0 = .ok (.iload_n 2, 1) := by decide +kernel
theorem dTe_suits_1 : decode cTe_suits 1 = .ok (.invokestatic 74, 3) := by decide +kernel
theorem mm_H_isQuestion : MMc yH_isQuestion cH_isQuestion 1 (some .boolean) 1 := ⟨hz_in 687 (by decide +kernel) (by decide +kernel), hz_in 134 (by decide +kernel) (by decide +kernel), by decide +kernel, by decide⟩
theorem ms_H_isQuestion : Cond.static yH_isQuestion ∈ hz_wt := hz_in 686 (by decide +kernel) (by decide +kernel)
theorem ml_Te_74 : Cond.methodLinkNest "LastWordHill$Texts" 74 yH_isQuestion "LastWordHill" ∈ hz_nt := hz_inN 692 (by decide +kernel) (by decide +kernel)
theorem dTe_suits_4 : decode cTe_suits 4 = .ok (.ifCond .eq 20, 3) := by decide +kernel
theorem dTe_suits_24 : decode cTe_suits 24 = .ok (.iconst 0, 1) := by decide +kernel
theorem dTe_suits_25 : decode cTe_suits 25 = .ok (.ireturn, 1) := by decide +kernel
theorem dTe_suits_7 : decode cTe_suits 7 = .ok (.aload_n 0, 1) := by decide +kernel
theorem dTe_suits_8 : decode cTe_suits 8 = .ok (.iload_n 1, 1) := by decide +kernel
theorem dTe_suits_9 : decode cTe_suits 9 = .ok (.invokevirtual 78, 3) := by decide +kernel
theorem ml_Te_78 : Cond.methodLink "LastWordHill$Texts" 78 yTe_answered ∈ hz_wt := hz_in 693 (by decide +kernel) (by decide +kernel)
theorem dTe_suits_12 : decode cTe_suits 12 = .ok (.iload_n 2, 1) := by decide +kernel
theorem dTe_suits_13 : decode cTe_suits 13 = .ok (.ishr, 1) := by decide +kernel
theorem dTe_suits_14 : decode cTe_suits 14 = .ok (.iconst 1, 1) := by decide +kernel
theorem dTe_suits_15 : decode cTe_suits 15 = .ok (.iand, 1) := by decide +kernel
theorem dTe_suits_16 : decode cTe_suits 16 = .ok (.iconst 1, 1) := by decide +kernel
theorem dTe_suits_17 : decode cTe_suits 17 = .ok (.if_icmp .ne 7, 3) := by decide +kernel
theorem dTe_suits_20 : decode cTe_suits 20 = .ok (.iconst 1, 1) := by decide +kernel
theorem dTe_suits_21 : decode cTe_suits 21 = .ok (.goto 4, 3) := by decide +kernel
def fTe_suits (o0 : Nat) (v1 : Int32) (v2 : Int32) (s0 : Sg) : Option (Int32 × Sg) := bi (fH_isQuestion v2 s0) fun r2 s1 => if r2 = 0 then (gb 0 (some (0, s1))) else (bi (fTe_answered o0 v1 s1) fun r4 s3 => if ((r4 >>> (v2 &&& 31)) &&& 1) = 1 then (gb 1 (some (1, s3))) else (gb 0 (some (0, s3))))
set_option maxHeartbeats 4000000 in
set_option maxRecDepth 100000 in
theorem okTe_suits (o0 : Nat) (v1 : Int32) (v2 : Int32) (s0 : Sg) (h0 : hz_kd o0 = 8) : ∀ (l : Launch) (w : WC), Ok l w yTe_suits cTe_suits 3 (some .boolean) 3 evI [.ref (w.ad o0), .int v1, .int v2] s0 (fTe_suits o0 v1 v2 s0) := by
  refine ok_in (ev := fun _ => evI) (av := fun w => [.ref (w.ad o0), .int v1, .int v2]) "LastWordHill$Texts" rfl (by decide +kernel) (fun _ => rfl) (fun _ => Nat.le_of_ble_eq_true rfl) ?_
  intro C X E
  show GF C evI 0 [some (.ref (C.w.ad o0)), some (.int v1), some (.int v2)] [] s0 (fTe_suits o0 v1 v2 s0)
  unfold fTe_suits
  refine g_iload_n X dTe_suits_0 rfl ?_
  refine g_nestI X [.int v2] [] mm_H_isQuestion ms_H_isQuestion ml_Te_74 (okH_isQuestion v2 s0 C.l C.w) rfl (by decide) rfl (Nat.le_of_ble_eq_true rfl) dTe_suits_1 (fun r2 s1 => ?_)
  refine g_zeq X (tgt := 24) dTe_suits_4 (by decide) ?_ ?_
  · refine g_iconst X 0 dTe_suits_24 (by decide) ?_
    exact g_zret X E dTe_suits_25
  · refine g_aload_n X dTe_suits_7 rfl ?_
    refine g_iload_n X dTe_suits_8 rfl ?_
    refine g_virtI X [.int v1] [] h0 mm_Te_answered mv_Te_answered ml_Te_78 (okTe_answered o0 v1 s1 h0 C.l C.w) rfl (by decide) rfl (Nat.le_of_ble_eq_true rfl) dTe_suits_9 (fun r4 s3 => ?_)
    refine g_iload_n X dTe_suits_12 rfl ?_
    refine g_ishr X dTe_suits_13 ?_
    refine g_iconst X 1 dTe_suits_14 (by decide) ?_
    refine g_iand X dTe_suits_15 ?_
    refine g_iconst X 1 dTe_suits_16 (by decide) ?_
    refine g_cne X (tgt := 24) dTe_suits_17 (by decide) ?_ ?_
    · refine g_iconst X 1 dTe_suits_20 (by decide) ?_
      refine g_goto X 25 dTe_suits_21 (by decide) ?_
      exact g_zret X E dTe_suits_25
    · refine g_iconst X 0 dTe_suits_24 (by decide) ?_
      exact g_zret X E dTe_suits_25
def yTe_addSuit : MethodName := ⟨"LastWordHill$Texts", "addSuit", "(II)V"⟩
abbrev cTe_addSuit : ByteArray := prog_10_method_8_code
theorem dTe_addSuit_0 : decode cTe_addSuit 0 = .ok (.iload_n 1, 1) := by decide +kernel
theorem dTe_addSuit_1 : decode cTe_addSuit 1 = .ok (.invokestatic 82, 3) := by decide +kernel
theorem ml_Te_82 : Cond.methodLinkNest "LastWordHill$Texts" 82 yH_isWord "LastWordHill" ∈ hz_nt := hz_inN 1068 (by decide +kernel) (by decide +kernel)
theorem dTe_addSuit_4 : decode cTe_addSuit 4 = .ok (.ifCond .eq 22, 3) := by decide +kernel
theorem dTe_addSuit_26 : decode cTe_addSuit 26 = .ok (.return_, 1) := by decide +kernel
theorem dTe_addSuit_7 : decode cTe_addSuit 7 = .ok (.iload_n 2, 1) := by decide +kernel
theorem dTe_addSuit_8 : decode cTe_addSuit 8 = .ok (.invokestatic 74, 3) := by decide +kernel
theorem dTe_addSuit_11 : decode cTe_addSuit 11 = .ok (.ifCond .eq 15, 3) := by decide +kernel
theorem dTe_addSuit_14 : decode cTe_addSuit 14 = .ok (.aload_n 0, 1) := by decide +kernel
theorem dTe_addSuit_15 : decode cTe_addSuit 15 = .ok (.getfield 30, 3) := by decide +kernel
theorem dTe_addSuit_18 : decode cTe_addSuit 18 = .ok (.iload_n 1, 1) := by decide +kernel
theorem dTe_addSuit_19 : decode cTe_addSuit 19 = .ok (.dup2, 1) := by decide +kernel
theorem dTe_addSuit_20 : decode cTe_addSuit 20 = .ok (.iaload, 1) := by decide +kernel
theorem dTe_addSuit_21 : decode cTe_addSuit 21 = .ok (.iconst 1, 1) := by decide +kernel
theorem dTe_addSuit_22 : decode cTe_addSuit 22 = .ok (.iload_n 2, 1) := by decide +kernel
theorem dTe_addSuit_23 : decode cTe_addSuit 23 = .ok (.ishl, 1) := by decide +kernel
theorem dTe_addSuit_24 : decode cTe_addSuit 24 = .ok (.ior, 1) := by decide +kernel
theorem dTe_addSuit_25 : decode cTe_addSuit 25 = .ok (.iastore, 1) := by decide +kernel
def fTe_addSuit (o0 : Nat) (v1 : Int32) (v2 : Int32) (s0 : Sg) : Option (Sg) := bi (fH_isWord v1 s0) fun r2 s1 => if r2 = 0 then (some s1) else (bi (fH_isQuestion v2 s1) fun r4 s3 => if r4 = 0 then (some s3) else (gd v1 20 (gd v1 20 (bnd (pt s3 (hz_rf o0 3) (ix v1) ((s3 (hz_rf o0 3) (ix v1)) ||| (1 <<< (v2 &&& 31)))) fun s5 => some s5))))
set_option maxHeartbeats 4000000 in
set_option maxRecDepth 100000 in
theorem okTe_addSuit (o0 : Nat) (v1 : Int32) (v2 : Int32) (s0 : Sg) (h0 : hz_kd o0 = 8) : ∀ (l : Launch) (w : WC), Ok l w yTe_addSuit cTe_addSuit 3 none 3 evV [.ref (w.ad o0), .int v1, .int v2] s0 (fTe_addSuit o0 v1 v2 s0) := by
  refine ok_in (ev := fun _ => evV) (av := fun w => [.ref (w.ad o0), .int v1, .int v2]) "LastWordHill$Texts" rfl (by decide +kernel) (fun _ => rfl) (fun _ => Nat.le_of_ble_eq_true rfl) ?_
  intro C X E
  show GF C evV 0 [some (.ref (C.w.ad o0)), some (.int v1), some (.int v2)] [] s0 (fTe_addSuit o0 v1 v2 s0)
  unfold fTe_addSuit
  refine g_iload_n X dTe_addSuit_0 rfl ?_
  refine g_nestI X [.int v1] [] mm_H_isWord ms_H_isWord ml_Te_82 (okH_isWord v1 s0 C.l C.w) rfl (by decide) rfl (Nat.le_of_ble_eq_true rfl) dTe_addSuit_1 (fun r2 s1 => ?_)
  refine g_zeq X (tgt := 26) dTe_addSuit_4 (by decide) ?_ ?_
  · exact g_vret X E dTe_addSuit_26
  · refine g_iload_n X dTe_addSuit_7 rfl ?_
    refine g_nestI X [.int v2] [] mm_H_isQuestion ms_H_isQuestion ml_Te_74 (okH_isQuestion v2 s1 C.l C.w) rfl (by decide) rfl (Nat.le_of_ble_eq_true rfl) dTe_addSuit_8 (fun r4 s3 => ?_)
    refine g_zeq X (tgt := 26) dTe_addSuit_11 (by decide) ?_ ?_
    · exact g_vret X E dTe_addSuit_26
    · refine g_aload_n X dTe_addSuit_14 rfl ?_
      refine g_getR X fl_Te_30 fb_8_3 h0 dTe_addSuit_15 ?_
      refine g_iload_n X dTe_addSuit_18 rfl ?_
      refine g_dup2 X dTe_addSuit_19 rfl rfl ?_
      refine g_iald X (sk_8_3 h0) (sl_8_3 h0) dTe_addSuit_20 ?_
      refine g_iconst X 1 dTe_addSuit_21 (by decide) ?_
      refine g_iload_n X dTe_addSuit_22 rfl ?_
      refine g_ishl X dTe_addSuit_23 ?_
      refine g_ior X dTe_addSuit_24 ?_
      refine g_iast X (sk_8_3 h0) (sl_8_3 h0) dTe_addSuit_25 (fun s5 => ?_)
      exact g_vret X E dTe_addSuit_26
