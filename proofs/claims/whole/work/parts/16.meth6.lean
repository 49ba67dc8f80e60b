def yM_goOver : MethodName := ⟨"LastWordHillModel", "goOver", "(II)Z"⟩
abbrev cM_goOver : ByteArray := prog_14_method_100_code
theorem dM_goOver_0 : decode cM_goOver 0 = .ok (.aload_n 0, 1) := by decide +kernel
theorem dM_goOver_1 : decode cM_goOver 1 = .ok (.getfield 98, 3) := by decide +kernel
theorem dM_goOver_4 : decode cM_goOver 4 = .ok (.iload_n 1, 1) := by decide +kernel
theorem dM_goOver_5 : decode cM_goOver 5 = .ok (.iaload, 1) := by decide +kernel
theorem dM_goOver_6 : decode cM_goOver 6 = .ok (.aload_n 0, 1) := by decide +kernel
theorem dM_goOver_7 : decode cM_goOver 7 = .ok (.getfield 98, 3) := by decide +kernel
theorem dM_goOver_10 : decode cM_goOver 10 = .ok (.iload_n 2, 1) := by decide +kernel
theorem dM_goOver_11 : decode cM_goOver 11 = .ok (.iaload, 1) := by decide +kernel
theorem dM_goOver_12 : decode cM_goOver 12 = .ok (.if_icmp .eq 5, 3) := by decide +kernel
theorem dM_goOver_17 : decode cM_goOver 17 = .ok (.iconst 0, 1) := by decide +kernel
theorem dM_goOver_18 : decode cM_goOver 18 = .ok (.istore_n 3, 1) := by decide +kernel
theorem dM_goOver_19 : decode cM_goOver 19 = .ok (.iconst 0, 1) := by decide +kernel
theorem dM_goOver_20 : decode cM_goOver 20 = .ok (.istore 4, 2) := by decide +kernel
theorem dM_goOver_22 : decode cM_goOver 22 = .ok (.iload 4, 2) := by decide +kernel
theorem dM_goOver_24 : decode cM_goOver 24 = .ok (.aload_n 0, 1) := by decide +kernel
theorem dM_goOver_25 : decode cM_goOver 25 = .ok (.getfield 98, 3) := by decide +kernel
theorem dM_goOver_28 : decode cM_goOver 28 = .ok (.iload_n 1, 1) := by decide +kernel
theorem dM_goOver_29 : decode cM_goOver 29 = .ok (.iaload, 1) := by decide +kernel
theorem dM_goOver_30 : decode cM_goOver 30 = .ok (.if_icmp .ge 38, 3) := by decide +kernel
theorem dM_goOver_68 : decode cM_goOver 68 = .ok (.iload_n 3, 1) := by decide +kernel
theorem dM_goOver_69 : decode cM_goOver 69 = .ok (.iconst 1, 1) := by decide +kernel
theorem dM_goOver_70 : decode cM_goOver 70 = .ok (.if_icmp .ne 7, 3) := by decide +kernel
theorem dM_goOver_77 : decode cM_goOver 77 = .ok (.iconst 0, 1) := by decide +kernel
theorem dM_goOver_78 : decode cM_goOver 78 = .ok (.ireturn, 1) := by decide +kernel
theorem dM_goOver_73 : decode cM_goOver 73 = .ok (.iconst 1, 1) := by decide +kernel
theorem dM_goOver_74 : decode cM_goOver 74 = .ok (.goto 4, 3) := by decide +kernel
theorem dM_goOver_33 : decode cM_goOver 33 = .ok (.aload_n 0, 1) := by decide +kernel
theorem dM_goOver_34 : decode cM_goOver 34 = .ok (.getfield 101, 3) := by decide +kernel
theorem dM_goOver_37 : decode cM_goOver 37 = .ok (.iconst 5, 1) := by decide +kernel
theorem dM_goOver_38 : decode cM_goOver 38 = .ok (.iload_n 1, 1) := by decide +kernel
theorem dM_goOver_39 : decode cM_goOver 39 = .ok (.imul, 1) := by decide +kernel
theorem dM_goOver_40 : decode cM_goOver 40 = .ok (.iload 4, 2) := by decide +kernel
theorem dM_goOver_42 : decode cM_goOver 42 = .ok (.iadd, 1) := by decide +kernel
theorem dM_goOver_43 : decode cM_goOver 43 = .ok (.iaload, 1) := by decide +kernel
theorem dM_goOver_44 : decode cM_goOver 44 = .ok (.aload_n 0, 1) := by decide +kernel
theorem dM_goOver_45 : decode cM_goOver 45 = .ok (.getfield 101, 3) := by decide +kernel
theorem dM_goOver_48 : decode cM_goOver 48 = .ok (.iconst 5, 1) := by decide +kernel
theorem dM_goOver_49 : decode cM_goOver 49 = .ok (.iload_n 2, 1) := by decide +kernel
theorem dM_goOver_50 : decode cM_goOver 50 = .ok (.imul, 1) := by decide +kernel
theorem dM_goOver_51 : decode cM_goOver 51 = .ok (.iload 4, 2) := by decide +kernel
theorem dM_goOver_53 : decode cM_goOver 53 = .ok (.iadd, 1) := by decide +kernel
theorem dM_goOver_54 : decode cM_goOver 54 = .ok (.iaload, 1) := by decide +kernel
theorem dM_goOver_55 : decode cM_goOver 55 = .ok (.if_icmp .eq 7, 3) := by decide +kernel
theorem dM_goOver_62 : decode cM_goOver 62 = .ok (.iinc 4 1, 3) := by decide +kernel
theorem dM_goOver_65 : decode cM_goOver 65 = .ok (.goto (-43), 3) := by decide +kernel
theorem dM_goOver_58 : decode cM_goOver 58 = .ok (.iload_n 3, 1) := by decide +kernel
theorem dM_goOver_59 : decode cM_goOver 59 = .ok (.iconst 1, 1) := by decide +kernel
theorem dM_goOver_60 : decode cM_goOver 60 = .ok (.iadd, 1) := by decide +kernel
theorem dM_goOver_61 : decode cM_goOver 61 = .ok (.istore_n 3, 1) := by decide +kernel
theorem dM_goOver_15 : decode cM_goOver 15 = .ok (.iconst 0, 1) := by decide +kernel
theorem dM_goOver_16 : decode cM_goOver 16 = .ok (.ireturn, 1) := by decide +kernel
def fM_goOver (v1 : Int32) (v2 : Int32) (s0 : Sg) : Option (Int32 × Sg) := gd v1 8 (gd v2 8 (if (s0 131 (ix v1)) = (s0 131 (ix v2)) then (lp FU (fun q22 (u22 : Int32 × Int32) (s1 : Sg) => gd v1 8 (if (s1 131 (ix v1)) ≤ u22.2 then (if u22.1 = 1 then (gb 1 (some (1, s1))) else (gb 0 (some (0, s1)))) else (gd ((5 * v1) + u22.2) 40 (gd ((5 * v2) + u22.2) 40 (bnd (fun (a62_3 : Int32) (s2 : Sg) => q22 (a62_3, (u22.2 + 1)) s2) fun j62 => if (s1 132 (ix ((5 * v1) + u22.2))) = (s1 132 (ix ((5 * v2) + u22.2))) then (j62 u22.1 s1) else (j62 (u22.1 + 1) s1)))))) (0, 0) s0) else (gb 0 (some (0, s0)))))
set_option maxHeartbeats 4000000 in
set_option maxRecDepth 100000 in
theorem okM_goOver (v1 : Int32) (v2 : Int32) (s0 : Sg) : ∀ (l : Launch) (w : WC), Ok l w yM_goOver cM_goOver 5 (some .boolean) 1 evI [.ref (w.ad 102), .int v1, .int v2] s0 (fM_goOver v1 v2 s0) := by
  refine ok_in (ev := fun _ => evI) (av := fun w => [.ref (w.ad 102), .int v1, .int v2]) "LastWordHillModel" rfl (by decide +kernel) (fun _ => rfl) (fun _ => Nat.le_of_ble_eq_true rfl) ?_
  intro C X E
  show GF C evI 0 [some (.ref (C.w.ad 102)), some (.int v1), some (.int v2), none, none] [] s0 (fM_goOver v1 v2 s0)
  unfold fM_goOver
  refine g_aload_n X dM_goOver_0 rfl ?_
  refine g_getN X fl_M_98 fb_12_51 k_102 r_102_51 dM_goOver_1 ?_
  refine g_iload_n X dM_goOver_4 rfl ?_
  refine g_iald X k_131 ln_131 dM_goOver_5 ?_
  refine g_aload_n X dM_goOver_6 rfl ?_
  refine g_getN X fl_M_98 fb_12_51 k_102 r_102_51 dM_goOver_7 ?_
  refine g_iload_n X dM_goOver_10 rfl ?_
  refine g_iald X k_131 ln_131 dM_goOver_11 ?_
  refine g_ceq X (tgt := 17) dM_goOver_12 (by decide) ?_ ?_
  · refine g_iconst X 0 dM_goOver_17 (by decide) ?_
    refine g_istore_n X [some (.ref (C.w.ad 102)), some (.int v1), some (.int v2), some (.int 0), none] dM_goOver_18 (by decide) (Nat.le_of_ble_eq_true rfl) rfl ?_
    refine g_iconst X 0 dM_goOver_19 (by decide) ?_
    refine g_istore X [some (.ref (C.w.ad 102)), some (.int v1), some (.int v2), some (.int 0), some (.int 0)] dM_goOver_20 (by decide) (Nat.le_of_ble_eq_true rfl) rfl ?_
    refine gf_sub (L' := [some (.ref (C.w.ad 102)), some (.int v1), some (.int v2), some (.int 0), some (.int 0)]) ?_ (by simp [lsub])
    refine gf_lp (Lf := fun (u22 : Int32 × Int32) => [some (.ref (C.w.ad 102)), some (.int v1), some (.int v2), some (.int u22.1), some (.int u22.2)]) (fun q22 hq22 u22 s1 => ?_) FU (0, 0) s0
    refine g_iload X dM_goOver_22 rfl ?_
    refine g_aload_n X dM_goOver_24 rfl ?_
    refine g_getN X fl_M_98 fb_12_51 k_102 r_102_51 dM_goOver_25 ?_
    refine g_iload_n X dM_goOver_28 rfl ?_
    refine g_iald X k_131 ln_131 dM_goOver_29 ?_
    refine g_cge X (tgt := 68) dM_goOver_30 (by decide) ?_ ?_
    · refine g_iload_n X dM_goOver_68 rfl ?_
      refine g_iconst X 1 dM_goOver_69 (by decide) ?_
      refine g_cne X (tgt := 77) dM_goOver_70 (by decide) ?_ ?_
      · refine g_iconst X 1 dM_goOver_73 (by decide) ?_
        refine g_goto X 78 dM_goOver_74 (by decide) ?_
        exact g_zret X E dM_goOver_78
      · refine g_iconst X 0 dM_goOver_77 (by decide) ?_
        exact g_zret X E dM_goOver_78
    · refine g_aload_n X dM_goOver_33 rfl ?_
      refine g_getN X fl_M_101 fb_12_52 k_102 r_102_52 dM_goOver_34 ?_
      refine g_iconst X 5 dM_goOver_37 (by decide) ?_
      refine g_iload_n X dM_goOver_38 rfl ?_
      refine g_imul X dM_goOver_39 ?_
      refine g_iload X dM_goOver_40 rfl ?_
      refine g_iadd X dM_goOver_42 ?_
      refine g_iald X k_132 ln_132 dM_goOver_43 ?_
      refine g_aload_n X dM_goOver_44 rfl ?_
      refine g_getN X fl_M_101 fb_12_52 k_102 r_102_52 dM_goOver_45 ?_
      refine g_iconst X 5 dM_goOver_48 (by decide) ?_
      refine g_iload_n X dM_goOver_49 rfl ?_
      refine g_imul X dM_goOver_50 ?_
      refine g_iload X dM_goOver_51 rfl ?_
      refine g_iadd X dM_goOver_53 ?_
      refine g_iald X k_132 ln_132 dM_goOver_54 ?_
      refine gf_jn (fun j62 => ∀ (a62_3 : Int32) (s2 : Sg), GF C evI 62 [some (.ref (C.w.ad 102)), some (.int v1), some (.int v2), some (.int a62_3), some (.int u22.2)] [] s2 (j62 a62_3 s2)) ?_ ?_
      · intro a62_3 s2
        refine g_iinc X (u22.2 + 1) [some (.ref (C.w.ad 102)), some (.int v1), some (.int v2), some (.int a62_3), some (.int (u22.2 + 1))] dM_goOver_62 rfl rfl (by decide) rfl ?_
        refine g_goto X 22 dM_goOver_65 (by decide) ?_
        exact gf_sub (hq22 (a62_3, (u22.2 + 1)) s2) (by simp [lsub])
      · intro j62 hj62
        refine g_ceq X (tgt := 62) dM_goOver_55 (by decide) ?_ ?_
        · exact gf_sub (hj62 u22.1 s1) (by simp [lsub])
        · refine g_iload_n X dM_goOver_58 rfl ?_
          refine g_iconst X 1 dM_goOver_59 (by decide) ?_
          refine g_iadd X dM_goOver_60 ?_
          refine g_istore_n X [some (.ref (C.w.ad 102)), some (.int v1), some (.int v2), some (.int (u22.1 + 1)), some (.int u22.2)] dM_goOver_61 (by decide) (Nat.le_of_ble_eq_true rfl) rfl ?_
          exact gf_sub (hj62 (u22.1 + 1) s1) (by simp [lsub])
  · refine g_iconst X 0 dM_goOver_15 (by decide) ?_
    exact g_zret X E dM_goOver_16
def yM_overFrom : MethodName := ⟨"LastWordHillModel", "overFrom", "(I)I"⟩
abbrev cM_overFrom : ByteArray := prog_14_method_101_code
theorem dM_overFrom_0 : decode cM_overFrom 0 = .ok (.iload_n 1, 1) := by decide +kernel
theorem dM_overFrom_1 : decode cM_overFrom 1 = .ok (.istore_n 2, 1) := by decide +kernel
theorem dM_overFrom_2 : decode cM_overFrom 2 = .ok (.iconst 0, 1) := by decide +kernel
theorem dM_overFrom_3 : decode cM_overFrom 3 = .ok (.istore_n 3, 1) := by decide +kernel
theorem dM_overFrom_4 : decode cM_overFrom 4 = .ok (.iload_n 3, 1) := by decide +kernel
theorem dM_overFrom_5 : decode cM_overFrom 5 = .ok (.bipush 8, 2) := by decide +kernel
theorem dM_overFrom_7 : decode cM_overFrom 7 = .ok (.if_icmp .ge 51, 3) := by decide +kernel
theorem dM_overFrom_58 : decode cM_overFrom 58 = .ok (.iload_n 2, 1) := by decide +kernel
theorem dM_overFrom_59 : decode cM_overFrom 59 = .ok (.ireturn, 1) := by decide +kernel
theorem dM_overFrom_10 : decode cM_overFrom 10 = .ok (.iconst 0, 1) := by decide +kernel
theorem dM_overFrom_11 : decode cM_overFrom 11 = .ok (.istore 4, 2) := by decide +kernel
theorem dM_overFrom_13 : decode cM_overFrom 13 = .ok (.iload 4, 2) := by decide +kernel
theorem dM_overFrom_15 : decode cM_overFrom 15 = .ok (.bipush 8, 2) := by decide +kernel
theorem dM_overFrom_17 : decode cM_overFrom 17 = .ok (.if_icmp .ge 35, 3) := by decide +kernel
theorem dM_overFrom_52 : decode cM_overFrom 52 = .ok (.iinc 3 1, 3) := by decide +kernel
theorem dM_overFrom_55 : decode cM_overFrom 55 = .ok (.goto (-51), 3) := by decide +kernel
theorem dM_overFrom_20 : decode cM_overFrom 20 = .ok (.aload_n 0, 1) := by decide +kernel
theorem dM_overFrom_21 : decode cM_overFrom 21 = .ok (.iload_n 1, 1) := by decide +kernel
theorem dM_overFrom_22 : decode cM_overFrom 22 = .ok (.iload_n 3, 1) := by decide +kernel
theorem dM_overFrom_23 : decode cM_overFrom 23 = .ok (.invokevirtual 361, 3) := by decide +kernel
theorem dM_overFrom_26 : decode cM_overFrom 26 = .ok (.ifCond .eq 20, 3) := by decide +kernel
theorem dM_overFrom_46 : decode cM_overFrom 46 = .ok (.iinc 4 1, 3) := by decide +kernel
theorem dM_overFrom_49 : decode cM_overFrom 49 = .ok (.goto (-36), 3) := by decide +kernel
theorem dM_overFrom_29 : decode cM_overFrom 29 = .ok (.aload_n 0, 1) := by decide +kernel
theorem dM_overFrom_30 : decode cM_overFrom 30 = .ok (.iload_n 3, 1) := by decide +kernel
theorem dM_overFrom_31 : decode cM_overFrom 31 = .ok (.iload 4, 2) := by decide +kernel
theorem dM_overFrom_33 : decode cM_overFrom 33 = .ok (.invokevirtual 435, 3) := by decide +kernel
theorem mm_M_goOver : MMc yM_goOver cM_goOver 5 (some .boolean) 2 := ⟨hz_in 2025 (by decide +kernel) (by decide +kernel), hz_in 147 (by decide +kernel) (by decide +kernel), by decide +kernel, by decide⟩
theorem mv_M_goOver : MMv yM_goOver 12 := ⟨hz_in 2024 (by decide +kernel) (by decide +kernel), hz_in 123 (by decide +kernel) (by decide +kernel), _, _, rfl, by decide⟩
theorem ml_M_435 : Cond.methodLink "LastWordHillModel" 435 yM_goOver ∈ hz_wt := hz_in 2022 (by decide +kernel) (by decide +kernel)
theorem dM_overFrom_36 : decode cM_overFrom 36 = .ok (.ifCond .eq 10, 3) := by decide +kernel
theorem dM_overFrom_39 : decode cM_overFrom 39 = .ok (.iload_n 2, 1) := by decide +kernel
theorem dM_overFrom_40 : decode cM_overFrom 40 = .ok (.iconst 1, 1) := by decide +kernel
theorem dM_overFrom_41 : decode cM_overFrom 41 = .ok (.iload 4, 2) := by decide +kernel
theorem dM_overFrom_43 : decode cM_overFrom 43 = .ok (.ishl, 1) := by decide +kernel
theorem dM_overFrom_44 : decode cM_overFrom 44 = .ok (.ior, 1) := by decide +kernel
theorem dM_overFrom_45 : decode cM_overFrom 45 = .ok (.istore_n 2, 1) := by decide +kernel
def fM_overFrom (v1 : Int32) (s0 : Sg) : Option (Int32 × Sg) := lp FU (fun q4 (u4 : Int32 × Int32) (s1 : Sg) => if 8 ≤ u4.2 then (some (u4.1, s1)) else (lp FU (fun q13 (u13 : Int32 × Int32) (s2 : Sg) => if 8 ≤ u13.2 then (q4 (u13.1, (u4.2 + 1)) s2) else (bi (fM_has v1 u4.2 s2) fun r4 s3 => bnd (fun (a46_2 : Int32) (s5 : Sg) => q13 (a46_2, (u13.2 + 1)) s5) fun j46 => if r4 = 0 then (j46 u13.1 s3) else (bi (fM_goOver u4.2 u13.2 s3) fun r7 s6 => if r7 = 0 then (j46 u13.1 s6) else (bnd (u13.1 ||| (1 <<< (u13.2 &&& 31))) fun x8 => j46 x8 s6)))) (u4.1, 0) s1)) (v1, 0) s0
set_option maxHeartbeats 4000000 in
set_option maxRecDepth 100000 in
theorem okM_overFrom (v1 : Int32) (s0 : Sg) : ∀ (l : Launch) (w : WC), Ok l w yM_overFrom cM_overFrom 5 (some .int) 2 evI [.ref (w.ad 102), .int v1] s0 (fM_overFrom v1 s0) := by
  refine ok_in (ev := fun _ => evI) (av := fun w => [.ref (w.ad 102), .int v1]) "LastWordHillModel" rfl (by decide +kernel) (fun _ => rfl) (fun _ => Nat.le_of_ble_eq_true rfl) ?_
  intro C X E
  show GF C evI 0 [some (.ref (C.w.ad 102)), some (.int v1), none, none, none] [] s0 (fM_overFrom v1 s0)
  unfold fM_overFrom
  refine g_iload_n X dM_overFrom_0 rfl ?_
  refine g_istore_n X [some (.ref (C.w.ad 102)), some (.int v1), some (.int v1), none, none] dM_overFrom_1 (by decide) (Nat.le_of_ble_eq_true rfl) rfl ?_
  refine g_iconst X 0 dM_overFrom_2 (by decide) ?_
  refine g_istore_n X [some (.ref (C.w.ad 102)), some (.int v1), some (.int v1), some (.int 0), none] dM_overFrom_3 (by decide) (Nat.le_of_ble_eq_true rfl) rfl ?_
  refine gf_sub (L' := [some (.ref (C.w.ad 102)), some (.int v1), some (.int v1), some (.int 0), none]) ?_ (by simp [lsub])
  refine gf_lp (Lf := fun (u4 : Int32 × Int32) => [some (.ref (C.w.ad 102)), some (.int v1), some (.int u4.1), some (.int u4.2), none]) (fun q4 hq4 u4 s1 => ?_) FU (v1, 0) s0
  refine g_iload_n X dM_overFrom_4 rfl ?_
  refine g_bipush X 8 dM_overFrom_5 (by decide) ?_
  refine g_cge X (tgt := 58) dM_overFrom_7 (by decide) ?_ ?_
  · refine g_iload_n X dM_overFrom_58 rfl ?_
    exact g_iret X E dM_overFrom_59
  · refine g_iconst X 0 dM_overFrom_10 (by decide) ?_
    refine g_istore X [some (.ref (C.w.ad 102)), some (.int v1), some (.int u4.1), some (.int u4.2), some (.int 0)] dM_overFrom_11 (by decide) (Nat.le_of_ble_eq_true rfl) rfl ?_
    refine gf_sub (L' := [some (.ref (C.w.ad 102)), some (.int v1), some (.int u4.1), some (.int u4.2), some (.int 0)]) ?_ (by simp [lsub])
    refine gf_lp (Lf := fun (u13 : Int32 × Int32) => [some (.ref (C.w.ad 102)), some (.int v1), some (.int u13.1), some (.int u4.2), some (.int u13.2)]) (fun q13 hq13 u13 s2 => ?_) FU (u4.1, 0) s1
    refine g_iload X dM_overFrom_13 rfl ?_
    refine g_bipush X 8 dM_overFrom_15 (by decide) ?_
    refine g_cge X (tgt := 52) dM_overFrom_17 (by decide) ?_ ?_
    · refine g_iinc X (u4.2 + 1) [some (.ref (C.w.ad 102)), some (.int v1), some (.int u13.1), some (.int (u4.2 + 1)), some (.int u13.2)] dM_overFrom_52 rfl rfl (by decide) rfl ?_
      refine g_goto X 4 dM_overFrom_55 (by decide) ?_
      exact gf_sub (hq4 (u13.1, (u4.2 + 1)) s2) (by simp [lsub])
    · refine g_aload_n X dM_overFrom_20 rfl ?_
      refine g_iload_n X dM_overFrom_21 rfl ?_
      refine g_iload_n X dM_overFrom_22 rfl ?_
      refine g_virtI X [.int v1, .int u4.2] [] k_102 mm_M_has mv_M_has ml_M_361 (okM_has v1 u4.2 s2 C.l C.w) rfl (by decide) rfl (Nat.le_of_ble_eq_true rfl) dM_overFrom_23 (fun r4 s3 => ?_)
      refine gf_jn (fun j46 => ∀ (a46_2 : Int32) (s5 : Sg), GF C evI 46 [some (.ref (C.w.ad 102)), some (.int v1), some (.int a46_2), some (.int u4.2), some (.int u13.2)] [] s5 (j46 a46_2 s5)) ?_ ?_
      · intro a46_2 s5
        refine g_iinc X (u13.2 + 1) [some (.ref (C.w.ad 102)), some (.int v1), some (.int a46_2), some (.int u4.2), some (.int (u13.2 + 1))] dM_overFrom_46 rfl rfl (by decide) rfl ?_
        refine g_goto X 13 dM_overFrom_49 (by decide) ?_
        exact gf_sub (hq13 (a46_2, (u13.2 + 1)) s5) (by simp [lsub])
      · intro j46 hj46
        refine g_zeq X (tgt := 46) dM_overFrom_26 (by decide) ?_ ?_
        · exact gf_sub (hj46 u13.1 s3) (by simp [lsub])
        · refine g_aload_n X dM_overFrom_29 rfl ?_
          refine g_iload_n X dM_overFrom_30 rfl ?_
          refine g_iload X dM_overFrom_31 rfl ?_
          refine g_virtI X [.int u4.2, .int u13.2] [] k_102 mm_M_goOver mv_M_goOver ml_M_435 (okM_goOver u4.2 u13.2 s3 C.l C.w) rfl (by decide) rfl (Nat.le_of_ble_eq_true rfl) dM_overFrom_33 (fun r7 s6 => ?_)
          refine g_zeq X (tgt := 46) dM_overFrom_36 (by decide) ?_ ?_
          · exact gf_sub (hj46 u13.1 s6) (by simp [lsub])
          · refine g_iload_n X dM_overFrom_39 rfl ?_
            refine g_iconst X 1 dM_overFrom_40 (by decide) ?_
            refine g_iload X dM_overFrom_41 rfl ?_
            refine g_ishl X dM_overFrom_43 ?_
            refine g_ior X dM_overFrom_44 ?_
            refine gf_nm (fun x8 => ?_)
            refine g_istore_n X [some (.ref (C.w.ad 102)), some (.int v1), some (.int x8), some (.int u4.2), some (.int u13.2)] dM_overFrom_45 (by decide) (Nat.le_of_ble_eq_true rfl) rfl ?_
            exact gf_sub (hj46 x8 s6) (by simp [lsub])
def yM_over : MethodName := ⟨"LastWordHillModel", "over", "(II)I"⟩
abbrev cM_over : ByteArray := prog_14_method_102_code
theorem dM_over_0 : decode cM_over 0 = .ok (.aload_n 0, 1) := by decide +kernel
theorem dM_over_1 : decode cM_over 1 = .ok (.iconst 0, 1) := by decide +kernel
theorem dM_over_2 : decode cM_over 2 = .ok (.putfield 134, 3) := by decide +kernel
theorem dM_over_5 : decode cM_over 5 = .ok (.aload_n 0, 1) := by decide +kernel
theorem dM_over_6 : decode cM_over 6 = .ok (.iload_n 1, 1) := by decide +kernel
theorem dM_over_7 : decode cM_over 7 = .ok (.iconst 0, 1) := by decide +kernel
theorem dM_over_8 : decode cM_over 8 = .ok (.bipush 7, 2) := by decide +kernel
theorem dM_over_10 : decode cM_over 10 = .ok (.invokevirtual 153, 3) := by decide +kernel
theorem dM_over_13 : decode cM_over 13 = .ok (.ifCond .eq 14, 3) := by decide +kernel
theorem dM_over_27 : decode cM_over 27 = .ok (.iconst (-1), 1) := by decide +kernel
theorem dM_over_28 : decode cM_over 28 = .ok (.ireturn, 1) := by decide +kernel
theorem dM_over_16 : decode cM_over 16 = .ok (.aload_n 0, 1) := by decide +kernel
theorem dM_over_17 : decode cM_over 17 = .ok (.iload_n 2, 1) := by decide +kernel
theorem dM_over_18 : decode cM_over 18 = .ok (.iconst (-1), 1) := by decide +kernel
theorem dM_over_19 : decode cM_over 19 = .ok (.bipush 7, 2) := by decide +kernel
theorem dM_over_21 : decode cM_over 21 = .ok (.invokevirtual 153, 3) := by decide +kernel
theorem dM_over_24 : decode cM_over 24 = .ok (.ifCond .ne 5, 3) := by decide +kernel
theorem dM_over_29 : decode cM_over 29 = .ok (.iconst 1, 1) := by decide +kernel
theorem dM_over_30 : decode cM_over 30 = .ok (.iload_n 1, 1) := by decide +kernel
theorem dM_over_31 : decode cM_over 31 = .ok (.ishl, 1) := by decide +kernel
theorem dM_over_32 : decode cM_over 32 = .ok (.istore_n 3, 1) := by decide +kernel
theorem dM_over_33 : decode cM_over 33 = .ok (.iconst 0, 1) := by decide +kernel
theorem dM_over_34 : decode cM_over 34 = .ok (.istore 4, 2) := by decide +kernel
theorem dM_over_36 : decode cM_over 36 = .ok (.iload 4, 2) := by decide +kernel
theorem dM_over_38 : decode cM_over 38 = .ok (.bipush 8, 2) := by decide +kernel
theorem dM_over_40 : decode cM_over 40 = .ok (.if_icmp .ge 32, 3) := by decide +kernel
theorem dM_over_72 : decode cM_over 72 = .ok (.iload_n 2, 1) := by decide +kernel
theorem dM_over_73 : decode cM_over 73 = .ok (.iconst (-1), 1) := by decide +kernel
theorem dM_over_74 : decode cM_over 74 = .ok (.if_icmp .ne 13, 3) := by decide +kernel
theorem dM_over_87 : decode cM_over 87 = .ok (.iconst (-1), 1) := by decide +kernel
theorem dM_over_88 : decode cM_over 88 = .ok (.ireturn, 1) := by decide +kernel
theorem dM_over_77 : decode cM_over 77 = .ok (.aload_n 0, 1) := by decide +kernel
theorem dM_over_78 : decode cM_over 78 = .ok (.iload_n 3, 1) := by decide +kernel
theorem dM_over_79 : decode cM_over 79 = .ok (.invokevirtual 401, 3) := by decide +kernel
theorem dM_over_82 : decode cM_over 82 = .ok (.iconst 1, 1) := by decide +kernel
theorem dM_over_83 : decode cM_over 83 = .ok (.isub, 1) := by decide +kernel
theorem dM_over_84 : decode cM_over 84 = .ok (.goto 4, 3) := by decide +kernel
theorem dM_over_43 : decode cM_over 43 = .ok (.iload_n 2, 1) := by decide +kernel
theorem dM_over_44 : decode cM_over 44 = .ok (.iconst (-1), 1) := by decide +kernel
theorem dM_over_45 : decode cM_over 45 = .ok (.if_icmp .eq 15, 3) := by decide +kernel
theorem dM_over_60 : decode cM_over 60 = .ok (.aload_n 0, 1) := by decide +kernel
theorem dM_over_61 : decode cM_over 61 = .ok (.iload_n 3, 1) := by decide +kernel
theorem dM_over_62 : decode cM_over 62 = .ok (.invokevirtual 438, 3) := by decide +kernel
theorem mm_M_overFrom : MMc yM_overFrom cM_overFrom 5 (some .int) 1 := ⟨hz_in 2021 (by decide +kernel) (by decide +kernel), hz_in 147 (by decide +kernel) (by decide +kernel), by decide +kernel, by decide⟩
theorem mv_M_overFrom : MMv yM_overFrom 12 := ⟨hz_in 2020 (by decide +kernel) (by decide +kernel), hz_in 122 (by decide +kernel) (by decide +kernel), _, _, rfl, by decide⟩
theorem ml_M_438 : Cond.methodLink "LastWordHillModel" 438 yM_overFrom ∈ hz_wt := hz_in 2018 (by decide +kernel) (by decide +kernel)
theorem dM_over_65 : decode cM_over 65 = .ok (.istore_n 3, 1) := by decide +kernel
theorem dM_over_66 : decode cM_over 66 = .ok (.iinc 4 1, 3) := by decide +kernel
theorem dM_over_69 : decode cM_over 69 = .ok (.goto (-33), 3) := by decide +kernel
theorem dM_over_48 : decode cM_over 48 = .ok (.aload_n 0, 1) := by decide +kernel
theorem dM_over_49 : decode cM_over 49 = .ok (.iload_n 3, 1) := by decide +kernel
theorem dM_over_50 : decode cM_over 50 = .ok (.iload_n 2, 1) := by decide +kernel
theorem dM_over_51 : decode cM_over 51 = .ok (.invokevirtual 361, 3) := by decide +kernel
theorem dM_over_54 : decode cM_over 54 = .ok (.ifCond .eq 6, 3) := by decide +kernel
theorem dM_over_57 : decode cM_over 57 = .ok (.iload 4, 2) := by decide +kernel
theorem dM_over_59 : decode cM_over 59 = .ok (.ireturn, 1) := by decide +kernel
def fM_over (v1 : Int32) (v2 : Int32) (s0 : Sg) : Option (Int32 × Sg) := bnd (pt s0 102 0 0) fun s1 => bi (fM_isIn v1 0 7 s1) fun r3 s2 => if r3 = 0 then (some ((-1), s2)) else (bi (fM_isIn v2 (-1) 7 s2) fun r5 s4 => if r5 = 0 then (some ((-1), s4)) else (lp FU (fun q36 (u36 : Int32 × Int32) (s6 : Sg) => if 8 ≤ u36.2 then (if v2 = (-1) then (bi (fM_onesOf u36.1 s6) fun r8 s7 => some ((r8 - 1), s7)) else (some ((-1), s6))) else (bnd (fun (s9 : Sg) => bi (fM_overFrom u36.1 s9) fun r11 s10 => q36 (r11, (u36.2 + 1)) s10) fun j60 => if v2 = (-1) then (j60 s6) else (bi (fM_has u36.1 v2 s6) fun r13 s12 => if r13 = 0 then (j60 s12) else (some (u36.2, s12))))) ((1 <<< (v1 &&& 31)), 0) s4))
set_option maxHeartbeats 4000000 in
set_option maxRecDepth 100000 in
theorem okM_over (v1 : Int32) (v2 : Int32) (s0 : Sg) : ∀ (l : Launch) (w : WC), Ok l w yM_over cM_over 5 (some .int) 3 evI [.ref (w.ad 102), .int v1, .int v2] s0 (fM_over v1 v2 s0) := by
  refine ok_in (ev := fun _ => evI) (av := fun w => [.ref (w.ad 102), .int v1, .int v2]) "LastWordHillModel" rfl (by decide +kernel) (fun _ => rfl) (fun _ => Nat.le_of_ble_eq_true rfl) ?_
  intro C X E
  show GF C evI 0 [some (.ref (C.w.ad 102)), some (.int v1), some (.int v2), none, none] [] s0 (fM_over v1 v2 s0)
  unfold fM_over
  refine g_aload_n X dM_over_0 rfl ?_
  refine g_iconst X 0 dM_over_1 (by decide) ?_
  refine g_putI X fl_M_134 fb_12_0 fp_12_0 k_102 dM_over_2 (fun s1 => ?_)
  refine g_aload_n X dM_over_5 rfl ?_
  refine g_iload_n X dM_over_6 rfl ?_
  refine g_iconst X 0 dM_over_7 (by decide) ?_
  refine g_bipush X 7 dM_over_8 (by decide) ?_
  refine g_virtI X [.int v1, .int 0, .int 7] [] k_102 mm_M_isIn mv_M_isIn ml_M_153 (okM_isIn v1 0 7 s1 C.l C.w) rfl (by decide) rfl (Nat.le_of_ble_eq_true rfl) dM_over_10 (fun r3 s2 => ?_)
  refine g_zeq X (tgt := 27) dM_over_13 (by decide) ?_ ?_
  · refine g_iconst X (-1) dM_over_27 (by decide) ?_
    exact g_iret X E dM_over_28
  · refine g_aload_n X dM_over_16 rfl ?_
    refine g_iload_n X dM_over_17 rfl ?_
    refine g_iconst X (-1) dM_over_18 (by decide) ?_
    refine g_bipush X 7 dM_over_19 (by decide) ?_
    refine g_virtI X [.int v2, .int (-1), .int 7] [] k_102 mm_M_isIn mv_M_isIn ml_M_153 (okM_isIn v2 (-1) 7 s2 C.l C.w) rfl (by decide) rfl (Nat.le_of_ble_eq_true rfl) dM_over_21 (fun r5 s4 => ?_)
    refine g_zne X (tgt := 29) dM_over_24 (by decide) ?_ ?_
    · refine g_iconst X (-1) dM_over_27 (by decide) ?_
      exact g_iret X E dM_over_28
    · refine g_iconst X 1 dM_over_29 (by decide) ?_
      refine g_iload_n X dM_over_30 rfl ?_
      refine g_ishl X dM_over_31 ?_
      refine g_istore_n X [some (.ref (C.w.ad 102)), some (.int v1), some (.int v2), some (.int (1 <<< (v1 &&& 31))), none] dM_over_32 (by decide) (Nat.le_of_ble_eq_true rfl) rfl ?_
      refine g_iconst X 0 dM_over_33 (by decide) ?_
      refine g_istore X [some (.ref (C.w.ad 102)), some (.int v1), some (.int v2), some (.int (1 <<< (v1 &&& 31))), some (.int 0)] dM_over_34 (by decide) (Nat.le_of_ble_eq_true rfl) rfl ?_
      refine gf_sub (L' := [some (.ref (C.w.ad 102)), none, some (.int v2), some (.int (1 <<< (v1 &&& 31))), some (.int 0)]) ?_ (by simp [lsub])
      refine gf_lp (Lf := fun (u36 : Int32 × Int32) => [some (.ref (C.w.ad 102)), none, some (.int v2), some (.int u36.1), some (.int u36.2)]) (fun q36 hq36 u36 s6 => ?_) FU ((1 <<< (v1 &&& 31)), 0) s4
      refine g_iload X dM_over_36 rfl ?_
      refine g_bipush X 8 dM_over_38 (by decide) ?_
      refine g_cge X (tgt := 72) dM_over_40 (by decide) ?_ ?_
      · refine g_iload_n X dM_over_72 rfl ?_
        refine g_iconst X (-1) dM_over_73 (by decide) ?_
        refine g_cne X (tgt := 87) dM_over_74 (by decide) ?_ ?_
        · refine g_aload_n X dM_over_77 rfl ?_
          refine g_iload_n X dM_over_78 rfl ?_
          refine g_virtI X [.int u36.1] [] k_102 mm_M_onesOf mv_M_onesOf ml_M_401 (okM_onesOf u36.1 s6 C.l C.w) rfl (by decide) rfl (Nat.le_of_ble_eq_true rfl) dM_over_79 (fun r8 s7 => ?_)
          refine g_iconst X 1 dM_over_82 (by decide) ?_
          refine g_isub X dM_over_83 ?_
          refine g_goto X 88 dM_over_84 (by decide) ?_
          exact g_iret X E dM_over_88
        · refine g_iconst X (-1) dM_over_87 (by decide) ?_
          exact g_iret X E dM_over_88
      · refine g_iload_n X dM_over_43 rfl ?_
        refine g_iconst X (-1) dM_over_44 (by decide) ?_
        refine gf_jn (fun j60 => ∀ (s9 : Sg), GF C evI 60 [some (.ref (C.w.ad 102)), none, some (.int v2), some (.int u36.1), some (.int u36.2)] [] s9 (j60 s9)) ?_ ?_
        · intro s9
          refine g_aload_n X dM_over_60 rfl ?_
          refine g_iload_n X dM_over_61 rfl ?_
          refine g_virtI X [.int u36.1] [] k_102 mm_M_overFrom mv_M_overFrom ml_M_438 (okM_overFrom u36.1 s9 C.l C.w) rfl (by decide) rfl (Nat.le_of_ble_eq_true rfl) dM_over_62 (fun r11 s10 => ?_)
          refine g_istore_n X [some (.ref (C.w.ad 102)), none, some (.int v2), some (.int r11), some (.int u36.2)] dM_over_65 (by decide) (Nat.le_of_ble_eq_true rfl) rfl ?_
          refine g_iinc X (u36.2 + 1) [some (.ref (C.w.ad 102)), none, some (.int v2), some (.int r11), some (.int (u36.2 + 1))] dM_over_66 rfl rfl (by decide) rfl ?_
          refine g_goto X 36 dM_over_69 (by decide) ?_
          exact gf_sub (hq36 (r11, (u36.2 + 1)) s10) (by simp [lsub])
        · intro j60 hj60
          refine g_ceq X (tgt := 60) dM_over_45 (by decide) ?_ ?_
          · exact gf_sub (hj60 s6) (by simp [lsub])
          · refine g_aload_n X dM_over_48 rfl ?_
            refine g_iload_n X dM_over_49 rfl ?_
            refine g_iload_n X dM_over_50 rfl ?_
            refine g_virtI X [.int u36.1, .int v2] [] k_102 mm_M_has mv_M_has ml_M_361 (okM_has u36.1 v2 s6 C.l C.w) rfl (by decide) rfl (Nat.le_of_ble_eq_true rfl) dM_over_51 (fun r13 s12 => ?_)
            refine g_zeq X (tgt := 60) dM_over_54 (by decide) ?_ ?_
            · exact gf_sub (hj60 s12) (by simp [lsub])
            · refine g_iload X dM_over_57 rfl ?_
              exact g_iret X E dM_over_59
def yM_speaker : MethodName := ⟨"LastWordHillModel", "speaker", "(II)I"⟩
abbrev cM_speaker : ByteArray := prog_14_method_103_code
theorem dM_speaker_0 : decode cM_speaker 0 = .ok (.aload_n 0, 1) := by decide +kernel
theorem dM_speaker_1 : decode cM_speaker 1 = .ok (.iconst 0, 1) := by decide +kernel
theorem dM_speaker_2 : decode cM_speaker 2 = .ok (.putfield 134, 3) := by decide +kernel
theorem dM_speaker_5 : decode cM_speaker 5 = .ok (.iload_n 1, 1) := by decide +kernel
theorem dM_speaker_6 : decode cM_speaker 6 = .ok (.iconst (-1), 1) := by decide +kernel
theorem dM_speaker_7 : decode cM_speaker 7 = .ok (.if_icmp .ne 10, 3) := by decide +kernel
theorem dM_speaker_17 : decode cM_speaker 17 = .ok (.aload_n 0, 1) := by decide +kernel
theorem dM_speaker_18 : decode cM_speaker 18 = .ok (.iload_n 1, 1) := by decide +kernel
theorem dM_speaker_19 : decode cM_speaker 19 = .ok (.iconst 1, 1) := by decide +kernel
theorem dM_speaker_20 : decode cM_speaker 20 = .ok (.bipush 30, 2) := by decide +kernel
theorem dM_speaker_22 : decode cM_speaker 22 = .ok (.invokevirtual 153, 3) := by decide +kernel
theorem dM_speaker_25 : decode cM_speaker 25 = .ok (.ifCond .eq 23, 3) := by decide +kernel
theorem dM_speaker_48 : decode cM_speaker 48 = .ok (.iconst (-1), 1) := by decide +kernel
theorem dM_speaker_49 : decode cM_speaker 49 = .ok (.ireturn, 1) := by decide +kernel
theorem dM_speaker_28 : decode cM_speaker 28 = .ok (.aload_n 0, 1) := by decide +kernel
theorem dM_speaker_29 : decode cM_speaker 29 = .ok (.iload_n 2, 1) := by decide +kernel
theorem dM_speaker_30 : decode cM_speaker 30 = .ok (.iconst 0, 1) := by decide +kernel
theorem dM_speaker_31 : decode cM_speaker 31 = .ok (.bipush 99, 2) := by decide +kernel
theorem dM_speaker_33 : decode cM_speaker 33 = .ok (.invokevirtual 153, 3) := by decide +kernel
theorem dM_speaker_36 : decode cM_speaker 36 = .ok (.ifCond .eq 12, 3) := by decide +kernel
theorem dM_speaker_39 : decode cM_speaker 39 = .ok (.aload_n 0, 1) := by decide +kernel
theorem dM_speaker_40 : decode cM_speaker 40 = .ok (.getfield 441, 3) := by decide +kernel
theorem fl_M_441 : FLk "LastWordHillModel" 441 12 53 := ⟨_, _, _, rfl, by decide, hz_in 1465 (by decide +kernel) (by decide +kernel), nL12, by decide, by decide⟩
theorem fb_12_53 : (hz_bs 12)[53]? = some false := by decide
theorem dM_speaker_43 : decode cM_speaker 43 = .ok (.bipush 6, 2) := by decide +kernel
theorem dM_speaker_45 : decode cM_speaker 45 = .ok (.if_icmp .ne 5, 3) := by decide +kernel
theorem dM_speaker_50 : decode cM_speaker 50 = .ok (.aload_n 0, 1) := by decide +kernel
theorem dM_speaker_51 : decode cM_speaker 51 = .ok (.getfield 104, 3) := by decide +kernel
theorem fl_M_104 : FLk "LastWordHillModel" 104 12 54 := ⟨_, _, _, rfl, by decide, hz_in 1466 (by decide +kernel) (by decide +kernel), nL12, by decide, by decide⟩
theorem k_133 : hz_kd 133 = 13 := by decide
theorem fb_12_54 : (hz_bs 12)[54]? = some true := by decide
theorem r_102_54 : hz_rf 102 54 = 133 := by decide
theorem dM_speaker_54 : decode cM_speaker 54 = .ok (.aload_n 0, 1) := by decide +kernel
theorem dM_speaker_55 : decode cM_speaker 55 = .ok (.getfield 441, 3) := by decide +kernel
theorem dM_speaker_58 : decode cM_speaker 58 = .ok (.iload_n 1, 1) := by decide +kernel
theorem dM_speaker_59 : decode cM_speaker 59 = .ok (.iastore, 1) := by decide +kernel
theorem ln_133 : hz_ln 133 = 6 := by decide
theorem dM_speaker_60 : decode cM_speaker 60 = .ok (.aload_n 0, 1) := by decide +kernel
theorem dM_speaker_61 : decode cM_speaker 61 = .ok (.getfield 107, 3) := by decide +kernel
theorem fl_M_107 : FLk "LastWordHillModel" 107 12 55 := ⟨_, _, _, rfl, by decide, hz_in 1467 (by decide +kernel) (by decide +kernel), nL12, by decide, by decide⟩
theorem k_134 : hz_kd 134 = 13 := by decide
theorem fb_12_55 : (hz_bs 12)[55]? = some true := by decide
theorem r_102_55 : hz_rf 102 55 = 134 := by decide
theorem dM_speaker_64 : decode cM_speaker 64 = .ok (.aload_n 0, 1) := by decide +kernel
theorem dM_speaker_65 : decode cM_speaker 65 = .ok (.getfield 441, 3) := by decide +kernel
theorem dM_speaker_68 : decode cM_speaker 68 = .ok (.iload_n 2, 1) := by decide +kernel
theorem dM_speaker_69 : decode cM_speaker 69 = .ok (.iastore, 1) := by decide +kernel
theorem ln_134 : hz_ln 134 = 6 := by decide
theorem dM_speaker_70 : decode cM_speaker 70 = .ok (.aload_n 0, 1) := by decide +kernel
theorem dM_speaker_71 : decode cM_speaker 71 = .ok (.aload_n 0, 1) := by decide +kernel
theorem dM_speaker_72 : decode cM_speaker 72 = .ok (.getfield 441, 3) := by decide +kernel
theorem dM_speaker_75 : decode cM_speaker 75 = .ok (.iconst 1, 1) := by decide +kernel
theorem dM_speaker_76 : decode cM_speaker 76 = .ok (.iadd, 1) := by decide +kernel
theorem dM_speaker_77 : decode cM_speaker 77 = .ok (.putfield 441, 3) := by decide +kernel
theorem fp_12_53 : FLp 12 53 .int := ⟨_, _, _, _, rfl, nY12, nN12, by decide, by decide⟩
theorem dM_speaker_80 : decode cM_speaker 80 = .ok (.aload_n 0, 1) := by decide +kernel
theorem dM_speaker_81 : decode cM_speaker 81 = .ok (.getfield 441, 3) := by decide +kernel
theorem dM_speaker_84 : decode cM_speaker 84 = .ok (.ireturn, 1) := by decide +kernel
theorem dM_speaker_10 : decode cM_speaker 10 = .ok (.aload_n 0, 1) := by decide +kernel
theorem dM_speaker_11 : decode cM_speaker 11 = .ok (.iconst 0, 1) := by decide +kernel
theorem dM_speaker_12 : decode cM_speaker 12 = .ok (.putfield 441, 3) := by decide +kernel
theorem dM_speaker_15 : decode cM_speaker 15 = .ok (.iconst 0, 1) := by decide +kernel
theorem dM_speaker_16 : decode cM_speaker 16 = .ok (.ireturn, 1) := by decide +kernel
def fM_speaker (v1 : Int32) (v2 : Int32) (s0 : Sg) : Option (Int32 × Sg) := bnd (pt s0 102 0 0) fun s1 => if v1 = (-1) then (bnd (pt s1 102 53 0) fun s9 => some (0, s9)) else (bi (fM_isIn v1 1 30 s1) fun r3 s2 => if r3 = 0 then (some ((-1), s2)) else (bi (fM_isIn v2 0 99 s2) fun r5 s4 => if r5 = 0 then (some ((-1), s4)) else (if (s4 102 53) = 6 then (some ((-1), s4)) else (gd (s4 102 53) 6 (bnd (pt s4 133 (ix (s4 102 53)) v1) fun s6 => gd (s6 102 53) 6 (bnd (pt s6 134 (ix (s6 102 53)) v2) fun s7 => bnd (pt s7 102 53 ((s7 102 53) + 1)) fun s8 => some ((s8 102 53), s8)))))))
set_option maxHeartbeats 4000000 in
set_option maxRecDepth 100000 in
theorem okM_speaker (v1 : Int32) (v2 : Int32) (s0 : Sg) : ∀ (l : Launch) (w : WC), Ok l w yM_speaker cM_speaker 3 (some .int) 2 evI [.ref (w.ad 102), .int v1, .int v2] s0 (fM_speaker v1 v2 s0) := by
  refine ok_in (ev := fun _ => evI) (av := fun w => [.ref (w.ad 102), .int v1, .int v2]) "LastWordHillModel" rfl (by decide +kernel) (fun _ => rfl) (fun _ => Nat.le_of_ble_eq_true rfl) ?_
  intro C X E
  show GF C evI 0 [some (.ref (C.w.ad 102)), some (.int v1), some (.int v2)] [] s0 (fM_speaker v1 v2 s0)
  unfold fM_speaker
  refine g_aload_n X dM_speaker_0 rfl ?_
  refine g_iconst X 0 dM_speaker_1 (by decide) ?_
  refine g_putI X fl_M_134 fb_12_0 fp_12_0 k_102 dM_speaker_2 (fun s1 => ?_)
  refine g_iload_n X dM_speaker_5 rfl ?_
  refine g_iconst X (-1) dM_speaker_6 (by decide) ?_
  refine g_cne X (tgt := 17) dM_speaker_7 (by decide) ?_ ?_
  · refine g_aload_n X dM_speaker_10 rfl ?_
    refine g_iconst X 0 dM_speaker_11 (by decide) ?_
    refine g_putI X fl_M_441 fb_12_53 fp_12_53 k_102 dM_speaker_12 (fun s9 => ?_)
    refine g_iconst X 0 dM_speaker_15 (by decide) ?_
    exact g_iret X E dM_speaker_16
  · refine g_aload_n X dM_speaker_17 rfl ?_
    refine g_iload_n X dM_speaker_18 rfl ?_
    refine g_iconst X 1 dM_speaker_19 (by decide) ?_
    refine g_bipush X 30 dM_speaker_20 (by decide) ?_
    refine g_virtI X [.int v1, .int 1, .int 30] [] k_102 mm_M_isIn mv_M_isIn ml_M_153 (okM_isIn v1 1 30 s1 C.l C.w) rfl (by decide) rfl (Nat.le_of_ble_eq_true rfl) dM_speaker_22 (fun r3 s2 => ?_)
    refine g_zeq X (tgt := 48) dM_speaker_25 (by decide) ?_ ?_
    · refine g_iconst X (-1) dM_speaker_48 (by decide) ?_
      exact g_iret X E dM_speaker_49
    · refine g_aload_n X dM_speaker_28 rfl ?_
      refine g_iload_n X dM_speaker_29 rfl ?_
      refine g_iconst X 0 dM_speaker_30 (by decide) ?_
      refine g_bipush X 99 dM_speaker_31 (by decide) ?_
      refine g_virtI X [.int v2, .int 0, .int 99] [] k_102 mm_M_isIn mv_M_isIn ml_M_153 (okM_isIn v2 0 99 s2 C.l C.w) rfl (by decide) rfl (Nat.le_of_ble_eq_true rfl) dM_speaker_33 (fun r5 s4 => ?_)
      refine g_zeq X (tgt := 48) dM_speaker_36 (by decide) ?_ ?_
      · refine g_iconst X (-1) dM_speaker_48 (by decide) ?_
        exact g_iret X E dM_speaker_49
      · refine g_aload_n X dM_speaker_39 rfl ?_
        refine g_getI X fl_M_441 fb_12_53 k_102 dM_speaker_40 ?_
        refine g_bipush X 6 dM_speaker_43 (by decide) ?_
        refine g_cne X (tgt := 50) dM_speaker_45 (by decide) ?_ ?_
        · refine g_iconst X (-1) dM_speaker_48 (by decide) ?_
          exact g_iret X E dM_speaker_49
        · refine g_aload_n X dM_speaker_50 rfl ?_
          refine g_getN X fl_M_104 fb_12_54 k_102 r_102_54 dM_speaker_51 ?_
          refine g_aload_n X dM_speaker_54 rfl ?_
          refine g_getI X fl_M_441 fb_12_53 k_102 dM_speaker_55 ?_
          refine g_iload_n X dM_speaker_58 rfl ?_
          refine g_iast X k_133 ln_133 dM_speaker_59 (fun s6 => ?_)
          refine g_aload_n X dM_speaker_60 rfl ?_
          refine g_getN X fl_M_107 fb_12_55 k_102 r_102_55 dM_speaker_61 ?_
          refine g_aload_n X dM_speaker_64 rfl ?_
          refine g_getI X fl_M_441 fb_12_53 k_102 dM_speaker_65 ?_
          refine g_iload_n X dM_speaker_68 rfl ?_
          refine g_iast X k_134 ln_134 dM_speaker_69 (fun s7 => ?_)
          refine g_aload_n X dM_speaker_70 rfl ?_
          refine g_aload_n X dM_speaker_71 rfl ?_
          refine g_getI X fl_M_441 fb_12_53 k_102 dM_speaker_72 ?_
          refine g_iconst X 1 dM_speaker_75 (by decide) ?_
          refine g_iadd X dM_speaker_76 ?_
          refine g_putI X fl_M_441 fb_12_53 fp_12_53 k_102 dM_speaker_77 (fun s8 => ?_)
          refine g_aload_n X dM_speaker_80 rfl ?_
          refine g_getI X fl_M_441 fb_12_53 k_102 dM_speaker_81 ?_
          exact g_iret X E dM_speaker_84
def yM_spokenBy : MethodName := ⟨"LastWordHillModel", "spokenBy", "()I"⟩
abbrev cM_spokenBy : ByteArray := prog_14_method_104_code
theorem dM_spokenBy_0 : decode cM_spokenBy 0 = .ok (.iconst 0, 1) := by decide +kernel
theorem dM_spokenBy_1 : decode cM_spokenBy 1 = .ok (.istore_n 1, 1) := by decide +kernel
theorem dM_spokenBy_2 : decode cM_spokenBy 2 = .ok (.iconst 0, 1) := by decide +kernel
theorem dM_spokenBy_3 : decode cM_spokenBy 3 = .ok (.istore_n 2, 1) := by decide +kernel
theorem dM_spokenBy_4 : decode cM_spokenBy 4 = .ok (.iconst 0, 1) := by decide +kernel
theorem dM_spokenBy_5 : decode cM_spokenBy 5 = .ok (.istore_n 3, 1) := by decide +kernel
theorem dM_spokenBy_6 : decode cM_spokenBy 6 = .ok (.iload_n 3, 1) := by decide +kernel
theorem dM_spokenBy_7 : decode cM_spokenBy 7 = .ok (.aload_n 0, 1) := by decide +kernel
theorem dM_spokenBy_8 : decode cM_spokenBy 8 = .ok (.getfield 441, 3) := by decide +kernel
theorem dM_spokenBy_11 : decode cM_spokenBy 11 = .ok (.if_icmp .ge 45, 3) := by decide +kernel
theorem dM_spokenBy_56 : decode cM_spokenBy 56 = .ok (.iload_n 2, 1) := by decide +kernel
theorem dM_spokenBy_57 : decode cM_spokenBy 57 = .ok (.ireturn, 1) := by decide +kernel
theorem dM_spokenBy_14 : decode cM_spokenBy 14 = .ok (.iload_n 1, 1) := by decide +kernel
theorem dM_spokenBy_15 : decode cM_spokenBy 15 = .ok (.aload_n 0, 1) := by decide +kernel
theorem dM_spokenBy_16 : decode cM_spokenBy 16 = .ok (.getfield 107, 3) := by decide +kernel
theorem dM_spokenBy_19 : decode cM_spokenBy 19 = .ok (.aload_n 0, 1) := by decide +kernel
theorem dM_spokenBy_20 : decode cM_spokenBy 20 = .ok (.getfield 110, 3) := by decide +kernel
theorem fl_M_110 : FLk "LastWordHillModel" 110 12 56 := ⟨_, _, _, rfl, by decide, hz_in 1468 (by decide +kernel) (by decide +kernel), nL12, by decide, by decide⟩
theorem k_135 : hz_kd 135 = 13 := by decide
theorem fb_12_56 : (hz_bs 12)[56]? = some true := by decide
theorem r_102_56 : hz_rf 102 56 = 135 := by decide
theorem dM_spokenBy_23 : decode cM_spokenBy 23 = .ok (.iload_n 3, 1) := by decide +kernel
theorem dM_spokenBy_24 : decode cM_spokenBy 24 = .ok (.iaload, 1) := by decide +kernel
theorem ln_135 : hz_ln 135 = 6 := by decide
theorem dM_spokenBy_25 : decode cM_spokenBy 25 = .ok (.iaload, 1) := by decide +kernel
theorem dM_spokenBy_26 : decode cM_spokenBy 26 = .ok (.if_icmp .le 6, 3) := by decide +kernel
theorem dM_spokenBy_50 : decode cM_spokenBy 50 = .ok (.iinc 3 1, 3) := by decide +kernel
theorem dM_spokenBy_53 : decode cM_spokenBy 53 = .ok (.goto (-47), 3) := by decide +kernel
theorem dM_spokenBy_32 : decode cM_spokenBy 32 = .ok (.iload_n 1, 1) := by decide +kernel
theorem dM_spokenBy_33 : decode cM_spokenBy 33 = .ok (.aload_n 0, 1) := by decide +kernel
theorem dM_spokenBy_34 : decode cM_spokenBy 34 = .ok (.getfield 104, 3) := by decide +kernel
theorem dM_spokenBy_37 : decode cM_spokenBy 37 = .ok (.aload_n 0, 1) := by decide +kernel
theorem dM_spokenBy_38 : decode cM_spokenBy 38 = .ok (.getfield 110, 3) := by decide +kernel
theorem dM_spokenBy_41 : decode cM_spokenBy 41 = .ok (.iload_n 3, 1) := by decide +kernel
theorem dM_spokenBy_42 : decode cM_spokenBy 42 = .ok (.iaload, 1) := by decide +kernel
theorem dM_spokenBy_43 : decode cM_spokenBy 43 = .ok (.iaload, 1) := by decide +kernel
theorem dM_spokenBy_44 : decode cM_spokenBy 44 = .ok (.iadd, 1) := by decide +kernel
theorem dM_spokenBy_45 : decode cM_spokenBy 45 = .ok (.istore_n 1, 1) := by decide +kernel
theorem dM_spokenBy_46 : decode cM_spokenBy 46 = .ok (.iload_n 2, 1) := by decide +kernel
theorem dM_spokenBy_47 : decode cM_spokenBy 47 = .ok (.iconst 1, 1) := by decide +kernel
theorem dM_spokenBy_48 : decode cM_spokenBy 48 = .ok (.iadd, 1) := by decide +kernel
theorem dM_spokenBy_49 : decode cM_spokenBy 49 = .ok (.istore_n 2, 1) := by decide +kernel
theorem dM_spokenBy_29 : decode cM_spokenBy 29 = .ok (.goto 21, 3) := by decide +kernel
def fM_spokenBy (s0 : Sg) : Option (Int32 × Sg) := lp FU (fun q6 (u6 : Int32 × Int32 × Int32) (s1 : Sg) => if (s1 102 53) ≤ u6.2.2 then (some (u6.2.1, s1)) else (gd u6.2.2 6 (gd (s1 135 (ix u6.2.2)) 6 (bnd (fun (a50_1 : Int32) (a50_2 : Int32) (s2 : Sg) => q6 (a50_1, a50_2, (u6.2.2 + 1)) s2) fun j50 => if u6.1 ≤ (s1 134 (ix (s1 135 (ix u6.2.2)))) then (gd u6.2.2 6 (gd (s1 135 (ix u6.2.2)) 6 (bnd (u6.1 + (s1 133 (ix (s1 135 (ix u6.2.2))))) fun x3 => j50 x3 (u6.2.1 + 1) s1))) else (j50 u6.1 u6.2.1 s1))))) (0, 0, 0) s0
set_option maxHeartbeats 4000000 in
set_option maxRecDepth 100000 in
theorem okM_spokenBy (s0 : Sg) : ∀ (l : Launch) (w : WC), Ok l w yM_spokenBy cM_spokenBy 4 (some .int) 1 evI [.ref (w.ad 102)] s0 (fM_spokenBy s0) := by
  refine ok_in (ev := fun _ => evI) (av := fun w => [.ref (w.ad 102)]) "LastWordHillModel" rfl (by decide +kernel) (fun _ => rfl) (fun _ => Nat.le_of_ble_eq_true rfl) ?_
  intro C X E
  show GF C evI 0 [some (.ref (C.w.ad 102)), none, none, none] [] s0 (fM_spokenBy s0)
  unfold fM_spokenBy
  refine g_iconst X 0 dM_spokenBy_0 (by decide) ?_
  refine g_istore_n X [some (.ref (C.w.ad 102)), some (.int 0), none, none] dM_spokenBy_1 (by decide) (Nat.le_of_ble_eq_true rfl) rfl ?_
  refine g_iconst X 0 dM_spokenBy_2 (by decide) ?_
  refine g_istore_n X [some (.ref (C.w.ad 102)), some (.int 0), some (.int 0), none] dM_spokenBy_3 (by decide) (Nat.le_of_ble_eq_true rfl) rfl ?_
  refine g_iconst X 0 dM_spokenBy_4 (by decide) ?_
  refine g_istore_n X [some (.ref (C.w.ad 102)), some (.int 0), some (.int 0), some (.int 0)] dM_spokenBy_5 (by decide) (Nat.le_of_ble_eq_true rfl) rfl ?_
  refine gf_sub (L' := [some (.ref (C.w.ad 102)), some (.int 0), some (.int 0), some (.int 0)]) ?_ (by simp [lsub])
  refine gf_lp (Lf := fun (u6 : Int32 × Int32 × Int32) => [some (.ref (C.w.ad 102)), some (.int u6.1), some (.int u6.2.1), some (.int u6.2.2)]) (fun q6 hq6 u6 s1 => ?_) FU (0, 0, 0) s0
  refine g_iload_n X dM_spokenBy_6 rfl ?_
  refine g_aload_n X dM_spokenBy_7 rfl ?_
  refine g_getI X fl_M_441 fb_12_53 k_102 dM_spokenBy_8 ?_
  refine g_cge X (tgt := 56) dM_spokenBy_11 (by decide) ?_ ?_
  · refine g_iload_n X dM_spokenBy_56 rfl ?_
    exact g_iret X E dM_spokenBy_57
  · refine g_iload_n X dM_spokenBy_14 rfl ?_
    refine g_aload_n X dM_spokenBy_15 rfl ?_
    refine g_getN X fl_M_107 fb_12_55 k_102 r_102_55 dM_spokenBy_16 ?_
    refine g_aload_n X dM_spokenBy_19 rfl ?_
    refine g_getN X fl_M_110 fb_12_56 k_102 r_102_56 dM_spokenBy_20 ?_
    refine g_iload_n X dM_spokenBy_23 rfl ?_
    refine g_iald X k_135 ln_135 dM_spokenBy_24 ?_
    refine g_iald X k_134 ln_134 dM_spokenBy_25 ?_
    refine gf_jn (fun j50 => ∀ (a50_1 : Int32) (a50_2 : Int32) (s2 : Sg), GF C evI 50 [some (.ref (C.w.ad 102)), some (.int a50_1), some (.int a50_2), some (.int u6.2.2)] [] s2 (j50 a50_1 a50_2 s2)) ?_ ?_
    · intro a50_1 a50_2 s2
      refine g_iinc X (u6.2.2 + 1) [some (.ref (C.w.ad 102)), some (.int a50_1), some (.int a50_2), some (.int (u6.2.2 + 1))] dM_spokenBy_50 rfl rfl (by decide) rfl ?_
      refine g_goto X 6 dM_spokenBy_53 (by decide) ?_
      exact gf_sub (hq6 (a50_1, a50_2, (u6.2.2 + 1)) s2) (by simp [lsub])
    · intro j50 hj50
      refine g_cle X (tgt := 32) dM_spokenBy_26 (by decide) ?_ ?_
      · refine g_iload_n X dM_spokenBy_32 rfl ?_
        refine g_aload_n X dM_spokenBy_33 rfl ?_
        refine g_getN X fl_M_104 fb_12_54 k_102 r_102_54 dM_spokenBy_34 ?_
        refine g_aload_n X dM_spokenBy_37 rfl ?_
        refine g_getN X fl_M_110 fb_12_56 k_102 r_102_56 dM_spokenBy_38 ?_
        refine g_iload_n X dM_spokenBy_41 rfl ?_
        refine g_iald X k_135 ln_135 dM_spokenBy_42 ?_
        refine g_iald X k_133 ln_133 dM_spokenBy_43 ?_
        refine g_iadd X dM_spokenBy_44 ?_
        refine gf_nm (fun x3 => ?_)
        refine g_istore_n X [some (.ref (C.w.ad 102)), some (.int x3), some (.int u6.2.1), some (.int u6.2.2)] dM_spokenBy_45 (by decide) (Nat.le_of_ble_eq_true rfl) rfl ?_
        refine g_iload_n X dM_spokenBy_46 rfl ?_
        refine g_iconst X 1 dM_spokenBy_47 (by decide) ?_
        refine g_iadd X dM_spokenBy_48 ?_
        refine g_istore_n X [some (.ref (C.w.ad 102)), some (.int x3), some (.int (u6.2.1 + 1)), some (.int u6.2.2)] dM_spokenBy_49 (by decide) (Nat.le_of_ble_eq_true rfl) rfl ?_
        exact gf_sub (hj50 x3 (u6.2.1 + 1) s1) (by simp [lsub])
      · refine g_goto X 50 dM_spokenBy_29 (by decide) ?_
        exact gf_sub (hj50 u6.1 u6.2.1 s1) (by simp [lsub])
def yM_goesToNextOrder : MethodName := ⟨"LastWordHillModel", "goesToNextOrder", "()Z"⟩
abbrev cM_goesToNextOrder : ByteArray := prog_14_method_105_code
theorem dM_goesToNextOrder_0 : decode cM_goesToNextOrder 0 = .ok (.aload_n 0, 1) := by decide +kernel
theorem dM_goesToNextOrder_1 : decode cM_goesToNextOrder 1 = .ok (.getfield 441, 3) := by decide +kernel
theorem dM_goesToNextOrder_4 : decode cM_goesToNextOrder 4 = .ok (.iconst 2, 1) := by decide +kernel
theorem dM_goesToNextOrder_5 : decode cM_goesToNextOrder 5 = .ok (.isub, 1) := by decide +kernel
theorem dM_goesToNextOrder_6 : decode cM_goesToNextOrder 6 = .ok (.istore_n 1, 1) := by decide +kernel
theorem dM_goesToNextOrder_7 : decode cM_goesToNextOrder 7 = .ok (.iload_n 1, 1) := by decide +kernel
theorem dM_goesToNextOrder_8 : decode cM_goesToNextOrder 8 = .ok (.ifCond .lt 27, 3) := by decide +kernel
theorem dM_goesToNextOrder_35 : decode cM_goesToNextOrder 35 = .ok (.iload_n 1, 1) := by decide +kernel
theorem dM_goesToNextOrder_36 : decode cM_goesToNextOrder 36 = .ok (.ifCond .ge 5, 3) := by decide +kernel
theorem dM_goesToNextOrder_41 : decode cM_goesToNextOrder 41 = .ok (.aload_n 0, 1) := by decide +kernel
theorem dM_goesToNextOrder_42 : decode cM_goesToNextOrder 42 = .ok (.getfield 441, 3) := by decide +kernel
theorem dM_goesToNextOrder_45 : decode cM_goesToNextOrder 45 = .ok (.iconst 1, 1) := by decide +kernel
theorem dM_goesToNextOrder_46 : decode cM_goesToNextOrder 46 = .ok (.isub, 1) := by decide +kernel
theorem dM_goesToNextOrder_47 : decode cM_goesToNextOrder 47 = .ok (.istore_n 2, 1) := by decide +kernel
theorem dM_goesToNextOrder_48 : decode cM_goesToNextOrder 48 = .ok (.aload_n 0, 1) := by decide +kernel
theorem dM_goesToNextOrder_49 : decode cM_goesToNextOrder 49 = .ok (.getfield 110, 3) := by decide +kernel
theorem dM_goesToNextOrder_52 : decode cM_goesToNextOrder 52 = .ok (.iload_n 2, 1) := by decide +kernel
theorem dM_goesToNextOrder_53 : decode cM_goesToNextOrder 53 = .ok (.iaload, 1) := by decide +kernel
theorem dM_goesToNextOrder_54 : decode cM_goesToNextOrder 54 = .ok (.aload_n 0, 1) := by decide +kernel
theorem dM_goesToNextOrder_55 : decode cM_goesToNextOrder 55 = .ok (.getfield 110, 3) := by decide +kernel
theorem dM_goesToNextOrder_58 : decode cM_goesToNextOrder 58 = .ok (.iload_n 1, 1) := by decide +kernel
theorem dM_goesToNextOrder_59 : decode cM_goesToNextOrder 59 = .ok (.iaload, 1) := by decide +kernel
theorem dM_goesToNextOrder_60 : decode cM_goesToNextOrder 60 = .ok (.if_icmp .ge 10, 3) := by decide +kernel
theorem dM_goesToNextOrder_70 : decode cM_goesToNextOrder 70 = .ok (.aload_n 0, 1) := by decide +kernel
theorem dM_goesToNextOrder_71 : decode cM_goesToNextOrder 71 = .ok (.getfield 110, 3) := by decide +kernel
theorem dM_goesToNextOrder_74 : decode cM_goesToNextOrder 74 = .ok (.iload_n 1, 1) := by decide +kernel
theorem dM_goesToNextOrder_75 : decode cM_goesToNextOrder 75 = .ok (.iaload, 1) := by decide +kernel
theorem dM_goesToNextOrder_76 : decode cM_goesToNextOrder 76 = .ok (.istore_n 3, 1) := by decide +kernel
theorem dM_goesToNextOrder_77 : decode cM_goesToNextOrder 77 = .ok (.aload_n 0, 1) := by decide +kernel
theorem dM_goesToNextOrder_78 : decode cM_goesToNextOrder 78 = .ok (.getfield 110, 3) := by decide +kernel
theorem dM_goesToNextOrder_81 : decode cM_goesToNextOrder 81 = .ok (.iload_n 1, 1) := by decide +kernel
theorem dM_goesToNextOrder_82 : decode cM_goesToNextOrder 82 = .ok (.aload_n 0, 1) := by decide +kernel
theorem dM_goesToNextOrder_83 : decode cM_goesToNextOrder 83 = .ok (.getfield 110, 3) := by decide +kernel
theorem dM_goesToNextOrder_86 : decode cM_goesToNextOrder 86 = .ok (.iload_n 2, 1) := by decide +kernel
theorem dM_goesToNextOrder_87 : decode cM_goesToNextOrder 87 = .ok (.iaload, 1) := by decide +kernel
theorem dM_goesToNextOrder_88 : decode cM_goesToNextOrder 88 = .ok (.iastore, 1) := by decide +kernel
theorem dM_goesToNextOrder_89 : decode cM_goesToNextOrder 89 = .ok (.aload_n 0, 1) := by decide +kernel
theorem dM_goesToNextOrder_90 : decode cM_goesToNextOrder 90 = .ok (.getfield 110, 3) := by decide +kernel
theorem dM_goesToNextOrder_93 : decode cM_goesToNextOrder 93 = .ok (.iload_n 2, 1) := by decide +kernel
theorem dM_goesToNextOrder_94 : decode cM_goesToNextOrder 94 = .ok (.iload_n 3, 1) := by decide +kernel
theorem dM_goesToNextOrder_95 : decode cM_goesToNextOrder 95 = .ok (.iastore, 1) := by decide +kernel
theorem dM_goesToNextOrder_96 : decode cM_goesToNextOrder 96 = .ok (.iload_n 1, 1) := by decide +kernel
theorem dM_goesToNextOrder_97 : decode cM_goesToNextOrder 97 = .ok (.iconst 1, 1) := by decide +kernel
theorem dM_goesToNextOrder_98 : decode cM_goesToNextOrder 98 = .ok (.iadd, 1) := by decide +kernel
theorem dM_goesToNextOrder_99 : decode cM_goesToNextOrder 99 = .ok (.istore 4, 2) := by decide +kernel
theorem dM_goesToNextOrder_101 : decode cM_goesToNextOrder 101 = .ok (.iload 4, 2) := by decide +kernel
theorem dM_goesToNextOrder_103 : decode cM_goesToNextOrder 103 = .ok (.aload_n 0, 1) := by decide +kernel
theorem dM_goesToNextOrder_104 : decode cM_goesToNextOrder 104 = .ok (.getfield 441, 3) := by decide +kernel
theorem dM_goesToNextOrder_107 : decode cM_goesToNextOrder 107 = .ok (.iconst 1, 1) := by decide +kernel
theorem dM_goesToNextOrder_108 : decode cM_goesToNextOrder 108 = .ok (.isub, 1) := by decide +kernel
theorem dM_goesToNextOrder_109 : decode cM_goesToNextOrder 109 = .ok (.iload 4, 2) := by decide +kernel
theorem dM_goesToNextOrder_111 : decode cM_goesToNextOrder 111 = .ok (.iload_n 1, 1) := by decide +kernel
theorem dM_goesToNextOrder_112 : decode cM_goesToNextOrder 112 = .ok (.isub, 1) := by decide +kernel
theorem dM_goesToNextOrder_113 : decode cM_goesToNextOrder 113 = .ok (.iconst 1, 1) := by decide +kernel
theorem dM_goesToNextOrder_114 : decode cM_goesToNextOrder 114 = .ok (.isub, 1) := by decide +kernel
theorem dM_goesToNextOrder_115 : decode cM_goesToNextOrder 115 = .ok (.isub, 1) := by decide +kernel
theorem dM_goesToNextOrder_116 : decode cM_goesToNextOrder 116 = .ok (.if_icmp .ge 54, 3) := by decide +kernel
theorem dM_goesToNextOrder_170 : decode cM_goesToNextOrder 170 = .ok (.iconst 1, 1) := by decide +kernel
theorem dM_goesToNextOrder_171 : decode cM_goesToNextOrder 171 = .ok (.ireturn, 1) := by decide +kernel
theorem dM_goesToNextOrder_119 : decode cM_goesToNextOrder 119 = .ok (.aload_n 0, 1) := by decide +kernel
theorem dM_goesToNextOrder_120 : decode cM_goesToNextOrder 120 = .ok (.getfield 441, 3) := by decide +kernel
theorem dM_goesToNextOrder_123 : decode cM_goesToNextOrder 123 = .ok (.iconst 1, 1) := by decide +kernel
theorem dM_goesToNextOrder_124 : decode cM_goesToNextOrder 124 = .ok (.isub, 1) := by decide +kernel
theorem dM_goesToNextOrder_125 : decode cM_goesToNextOrder 125 = .ok (.iload 4, 2) := by decide +kernel
theorem dM_goesToNextOrder_127 : decode cM_goesToNextOrder 127 = .ok (.iload_n 1, 1) := by decide +kernel
theorem dM_goesToNextOrder_128 : decode cM_goesToNextOrder 128 = .ok (.isub, 1) := by decide +kernel
theorem dM_goesToNextOrder_129 : decode cM_goesToNextOrder 129 = .ok (.iconst 1, 1) := by decide +kernel
theorem dM_goesToNextOrder_130 : decode cM_goesToNextOrder 130 = .ok (.isub, 1) := by decide +kernel
theorem dM_goesToNextOrder_131 : decode cM_goesToNextOrder 131 = .ok (.isub, 1) := by decide +kernel
theorem dM_goesToNextOrder_132 : decode cM_goesToNextOrder 132 = .ok (.istore 5, 2) := by decide +kernel
theorem dM_goesToNextOrder_134 : decode cM_goesToNextOrder 134 = .ok (.aload_n 0, 1) := by decide +kernel
theorem dM_goesToNextOrder_135 : decode cM_goesToNextOrder 135 = .ok (.getfield 110, 3) := by decide +kernel
theorem dM_goesToNextOrder_138 : decode cM_goesToNextOrder 138 = .ok (.iload 4, 2) := by decide +kernel
theorem dM_goesToNextOrder_140 : decode cM_goesToNextOrder 140 = .ok (.iaload, 1) := by decide +kernel
theorem dM_goesToNextOrder_141 : decode cM_goesToNextOrder 141 = .ok (.istore_n 3, 1) := by decide +kernel
theorem dM_goesToNextOrder_142 : decode cM_goesToNextOrder 142 = .ok (.aload_n 0, 1) := by decide +kernel
theorem dM_goesToNextOrder_143 : decode cM_goesToNextOrder 143 = .ok (.getfield 110, 3) := by decide +kernel
theorem dM_goesToNextOrder_146 : decode cM_goesToNextOrder 146 = .ok (.iload 4, 2) := by decide +kernel
theorem dM_goesToNextOrder_148 : decode cM_goesToNextOrder 148 = .ok (.aload_n 0, 1) := by decide +kernel
theorem dM_goesToNextOrder_149 : decode cM_goesToNextOrder 149 = .ok (.getfield 110, 3) := by decide +kernel
theorem dM_goesToNextOrder_152 : decode cM_goesToNextOrder 152 = .ok (.iload 5, 2) := by decide +kernel
theorem dM_goesToNextOrder_154 : decode cM_goesToNextOrder 154 = .ok (.iaload, 1) := by decide +kernel
theorem dM_goesToNextOrder_155 : decode cM_goesToNextOrder 155 = .ok (.iastore, 1) := by decide +kernel
theorem dM_goesToNextOrder_156 : decode cM_goesToNextOrder 156 = .ok (.aload_n 0, 1) := by decide +kernel
theorem dM_goesToNextOrder_157 : decode cM_goesToNextOrder 157 = .ok (.getfield 110, 3) := by decide +kernel
theorem dM_goesToNextOrder_160 : decode cM_goesToNextOrder 160 = .ok (.iload 5, 2) := by decide +kernel
theorem dM_goesToNextOrder_162 : decode cM_goesToNextOrder 162 = .ok (.iload_n 3, 1) := by decide +kernel
theorem dM_goesToNextOrder_163 : decode cM_goesToNextOrder 163 = .ok (.iastore, 1) := by decide +kernel
theorem dM_goesToNextOrder_164 : decode cM_goesToNextOrder 164 = .ok (.iinc 4 1, 3) := by decide +kernel
theorem dM_goesToNextOrder_167 : decode cM_goesToNextOrder 167 = .ok (.goto (-66), 3) := by decide +kernel
theorem dM_goesToNextOrder_63 : decode cM_goesToNextOrder 63 = .ok (.iload_n 2, 1) := by decide +kernel
theorem dM_goesToNextOrder_64 : decode cM_goesToNextOrder 64 = .ok (.iconst 1, 1) := by decide +kernel
theorem dM_goesToNextOrder_65 : decode cM_goesToNextOrder 65 = .ok (.isub, 1) := by decide +kernel
theorem dM_goesToNextOrder_66 : decode cM_goesToNextOrder 66 = .ok (.istore_n 2, 1) := by decide +kernel
theorem dM_goesToNextOrder_67 : decode cM_goesToNextOrder 67 = .ok (.goto (-19), 3) := by decide +kernel
theorem dM_goesToNextOrder_39 : decode cM_goesToNextOrder 39 = .ok (.iconst 0, 1) := by decide +kernel
theorem dM_goesToNextOrder_40 : decode cM_goesToNextOrder 40 = .ok (.ireturn, 1) := by decide +kernel
theorem dM_goesToNextOrder_11 : decode cM_goesToNextOrder 11 = .ok (.aload_n 0, 1) := by decide +kernel
theorem dM_goesToNextOrder_12 : decode cM_goesToNextOrder 12 = .ok (.getfield 110, 3) := by decide +kernel
theorem dM_goesToNextOrder_15 : decode cM_goesToNextOrder 15 = .ok (.iload_n 1, 1) := by decide +kernel
theorem dM_goesToNextOrder_16 : decode cM_goesToNextOrder 16 = .ok (.iaload, 1) := by decide +kernel
theorem dM_goesToNextOrder_17 : decode cM_goesToNextOrder 17 = .ok (.aload_n 0, 1) := by decide +kernel
theorem dM_goesToNextOrder_18 : decode cM_goesToNextOrder 18 = .ok (.getfield 110, 3) := by decide +kernel
theorem dM_goesToNextOrder_21 : decode cM_goesToNextOrder 21 = .ok (.iload_n 1, 1) := by decide +kernel
theorem dM_goesToNextOrder_22 : decode cM_goesToNextOrder 22 = .ok (.iconst 1, 1) := by decide +kernel
theorem dM_goesToNextOrder_23 : decode cM_goesToNextOrder 23 = .ok (.iadd, 1) := by decide +kernel
theorem dM_goesToNextOrder_24 : decode cM_goesToNextOrder 24 = .ok (.iaload, 1) := by decide +kernel
theorem dM_goesToNextOrder_25 : decode cM_goesToNextOrder 25 = .ok (.if_icmp .le 10, 3) := by decide +kernel
theorem dM_goesToNextOrder_28 : decode cM_goesToNextOrder 28 = .ok (.iload_n 1, 1) := by decide +kernel
theorem dM_goesToNextOrder_29 : decode cM_goesToNextOrder 29 = .ok (.iconst 1, 1) := by decide +kernel
theorem dM_goesToNextOrder_30 : decode cM_goesToNextOrder 30 = .ok (.isub, 1) := by decide +kernel
theorem dM_goesToNextOrder_31 : decode cM_goesToNextOrder 31 = .ok (.istore_n 1, 1) := by decide +kernel
theorem dM_goesToNextOrder_32 : decode cM_goesToNextOrder 32 = .ok (.goto (-25), 3) := by decide +kernel
def fM_goesToNextOrder (s0 : Sg) : Option (Int32 × Sg) := lp FU (fun q7 (u7 : Int32) (s1 : Sg) => bnd (fun (s2 : Sg) => if 0 ≤ u7 then (lp FU (fun q48 (u48 : Int32) (s3 : Sg) => gd u48 6 (gd u7 6 (if (s3 135 (ix u7)) ≤ (s3 135 (ix u48)) then (gd u7 6 (gd u48 6 (gd u7 6 (bnd (pt s3 135 (ix u7) (s3 135 (ix u48))) fun s4 => gd u48 6 (bnd (pt s4 135 (ix u48) (s3 135 (ix u7))) fun s5 => lp FU (fun q101 (u101 : Int32) (s6 : Sg) => if (((s6 102 53) - 1) - ((u101 - u7) - 1)) ≤ u101 then (gb 1 (some (1, s6))) else (bnd (((s6 102 53) - 1) - ((u101 - u7) - 1)) fun x7 => gd u101 6 (gd x7 6 (gd u101 6 (bnd (pt s6 135 (ix u101) (s6 135 (ix x7))) fun s8 => gd x7 6 (bnd (pt s8 135 (ix x7) (s6 135 (ix u101))) fun s9 => q101 (u101 + 1) s9)))))) (u7 + 1) s5))))) else (q48 (u48 - 1) s3)))) ((s2 102 53) - 1) s2) else (gb 0 (some (0, s2)))) fun j35 => if u7 < 0 then (j35 s1) else (gd u7 6 (gd (u7 + 1) 6 (if (s1 135 (ix u7)) ≤ (s1 135 (ix (u7 + 1))) then (j35 s1) else (q7 (u7 - 1) s1))))) ((s0 102 53) - 2) s0
set_option maxHeartbeats 4000000 in
set_option maxRecDepth 100000 in
theorem okM_goesToNextOrder (s0 : Sg) : ∀ (l : Launch) (w : WC), Ok l w yM_goesToNextOrder cM_goesToNextOrder 6 (some .boolean) 1 evI [.ref (w.ad 102)] s0 (fM_goesToNextOrder s0) := by
  refine ok_in (ev := fun _ => evI) (av := fun w => [.ref (w.ad 102)]) "LastWordHillModel" rfl (by decide +kernel) (fun _ => rfl) (fun _ => Nat.le_of_ble_eq_true rfl) ?_
  intro C X E
  show GF C evI 0 [some (.ref (C.w.ad 102)), none, none, none, none, none] [] s0 (fM_goesToNextOrder s0)
  unfold fM_goesToNextOrder
  refine g_aload_n X dM_goesToNextOrder_0 rfl ?_
  refine g_getI X fl_M_441 fb_12_53 k_102 dM_goesToNextOrder_1 ?_
  refine g_iconst X 2 dM_goesToNextOrder_4 (by decide) ?_
  refine g_isub X dM_goesToNextOrder_5 ?_
  refine g_istore_n X [some (.ref (C.w.ad 102)), some (.int ((s0 102 53) - 2)), none, none, none, none] dM_goesToNextOrder_6 (by decide) (Nat.le_of_ble_eq_true rfl) rfl ?_
  refine gf_sub (L' := [some (.ref (C.w.ad 102)), some (.int ((s0 102 53) - 2)), none, none, none, none]) ?_ (by simp [lsub])
  refine gf_lp (Lf := fun (u7 : Int32) => [some (.ref (C.w.ad 102)), some (.int u7), none, none, none, none]) (fun q7 hq7 u7 s1 => ?_) FU ((s0 102 53) - 2) s0
  refine g_iload_n X dM_goesToNextOrder_7 rfl ?_
  refine gf_jn (fun j35 => ∀ (s2 : Sg), GF C evI 35 [some (.ref (C.w.ad 102)), some (.int u7), none, none, none, none] [] s2 (j35 s2)) ?_ ?_
  · intro s2
    refine g_iload_n X dM_goesToNextOrder_35 rfl ?_
    refine g_zge X (tgt := 41) dM_goesToNextOrder_36 (by decide) ?_ ?_
    · refine g_aload_n X dM_goesToNextOrder_41 rfl ?_
      refine g_getI X fl_M_441 fb_12_53 k_102 dM_goesToNextOrder_42 ?_
      refine g_iconst X 1 dM_goesToNextOrder_45 (by decide) ?_
      refine g_isub X dM_goesToNextOrder_46 ?_
      refine g_istore_n X [some (.ref (C.w.ad 102)), some (.int u7), some (.int ((s2 102 53) - 1)), none, none, none] dM_goesToNextOrder_47 (by decide) (Nat.le_of_ble_eq_true rfl) rfl ?_
      refine gf_sub (L' := [some (.ref (C.w.ad 102)), some (.int u7), some (.int ((s2 102 53) - 1)), none, none, none]) ?_ (by simp [lsub])
      refine gf_lp (Lf := fun (u48 : Int32) => [some (.ref (C.w.ad 102)), some (.int u7), some (.int u48), none, none, none]) (fun q48 hq48 u48 s3 => ?_) FU ((s2 102 53) - 1) s2
      refine g_aload_n X dM_goesToNextOrder_48 rfl ?_
      refine g_getN X fl_M_110 fb_12_56 k_102 r_102_56 dM_goesToNextOrder_49 ?_
      refine g_iload_n X dM_goesToNextOrder_52 rfl ?_
      refine g_iald X k_135 ln_135 dM_goesToNextOrder_53 ?_
      refine g_aload_n X dM_goesToNextOrder_54 rfl ?_
      refine g_getN X fl_M_110 fb_12_56 k_102 r_102_56 dM_goesToNextOrder_55 ?_
      refine g_iload_n X dM_goesToNextOrder_58 rfl ?_
      refine g_iald X k_135 ln_135 dM_goesToNextOrder_59 ?_
      refine g_cge X (tgt := 70) dM_goesToNextOrder_60 (by decide) ?_ ?_
      · refine g_aload_n X dM_goesToNextOrder_70 rfl ?_
        refine g_getN X fl_M_110 fb_12_56 k_102 r_102_56 dM_goesToNextOrder_71 ?_
        refine g_iload_n X dM_goesToNextOrder_74 rfl ?_
        refine g_iald X k_135 ln_135 dM_goesToNextOrder_75 ?_
        refine g_istore_n X [some (.ref (C.w.ad 102)), some (.int u7), some (.int u48), some (.int (s3 135 (ix u7))), none, none] dM_goesToNextOrder_76 (by decide) (Nat.le_of_ble_eq_true rfl) rfl ?_
        refine g_aload_n X dM_goesToNextOrder_77 rfl ?_
        refine g_getN X fl_M_110 fb_12_56 k_102 r_102_56 dM_goesToNextOrder_78 ?_
        refine g_iload_n X dM_goesToNextOrder_81 rfl ?_
        refine g_aload_n X dM_goesToNextOrder_82 rfl ?_
        refine g_getN X fl_M_110 fb_12_56 k_102 r_102_56 dM_goesToNextOrder_83 ?_
        refine g_iload_n X dM_goesToNextOrder_86 rfl ?_
        refine g_iald X k_135 ln_135 dM_goesToNextOrder_87 ?_
        refine g_iast X k_135 ln_135 dM_goesToNextOrder_88 (fun s4 => ?_)
        refine g_aload_n X dM_goesToNextOrder_89 rfl ?_
        refine g_getN X fl_M_110 fb_12_56 k_102 r_102_56 dM_goesToNextOrder_90 ?_
        refine g_iload_n X dM_goesToNextOrder_93 rfl ?_
        refine g_iload_n X dM_goesToNextOrder_94 rfl ?_
        refine g_iast X k_135 ln_135 dM_goesToNextOrder_95 (fun s5 => ?_)
        refine g_iload_n X dM_goesToNextOrder_96 rfl ?_
        refine g_iconst X 1 dM_goesToNextOrder_97 (by decide) ?_
        refine g_iadd X dM_goesToNextOrder_98 ?_
        refine g_istore X [some (.ref (C.w.ad 102)), some (.int u7), some (.int u48), some (.int (s3 135 (ix u7))), some (.int (u7 + 1)), none] dM_goesToNextOrder_99 (by decide) (Nat.le_of_ble_eq_true rfl) rfl ?_
        refine gf_sub (L' := [some (.ref (C.w.ad 102)), some (.int u7), none, none, some (.int (u7 + 1)), none]) ?_ (by simp [lsub])
        refine gf_lp (Lf := fun (u101 : Int32) => [some (.ref (C.w.ad 102)), some (.int u7), none, none, some (.int u101), none]) (fun q101 hq101 u101 s6 => ?_) FU (u7 + 1) s5
        refine g_iload X dM_goesToNextOrder_101 rfl ?_
        refine g_aload_n X dM_goesToNextOrder_103 rfl ?_
        refine g_getI X fl_M_441 fb_12_53 k_102 dM_goesToNextOrder_104 ?_
        refine g_iconst X 1 dM_goesToNextOrder_107 (by decide) ?_
        refine g_isub X dM_goesToNextOrder_108 ?_
        refine g_iload X dM_goesToNextOrder_109 rfl ?_
        refine g_iload_n X dM_goesToNextOrder_111 rfl ?_
        refine g_isub X dM_goesToNextOrder_112 ?_
        refine g_iconst X 1 dM_goesToNextOrder_113 (by decide) ?_
        refine g_isub X dM_goesToNextOrder_114 ?_
        refine g_isub X dM_goesToNextOrder_115 ?_
        refine g_cge X (tgt := 170) dM_goesToNextOrder_116 (by decide) ?_ ?_
        · refine g_iconst X 1 dM_goesToNextOrder_170 (by decide) ?_
          exact g_zret X E dM_goesToNextOrder_171
        · refine g_aload_n X dM_goesToNextOrder_119 rfl ?_
          refine g_getI X fl_M_441 fb_12_53 k_102 dM_goesToNextOrder_120 ?_
          refine g_iconst X 1 dM_goesToNextOrder_123 (by decide) ?_
          refine g_isub X dM_goesToNextOrder_124 ?_
          refine g_iload X dM_goesToNextOrder_125 rfl ?_
          refine g_iload_n X dM_goesToNextOrder_127 rfl ?_
          refine g_isub X dM_goesToNextOrder_128 ?_
          refine g_iconst X 1 dM_goesToNextOrder_129 (by decide) ?_
          refine g_isub X dM_goesToNextOrder_130 ?_
          refine g_isub X dM_goesToNextOrder_131 ?_
          refine gf_nm (fun x7 => ?_)
          refine g_istore X [some (.ref (C.w.ad 102)), some (.int u7), none, none, some (.int u101), some (.int x7)] dM_goesToNextOrder_132 (by decide) (Nat.le_of_ble_eq_true rfl) rfl ?_
          refine g_aload_n X dM_goesToNextOrder_134 rfl ?_
          refine g_getN X fl_M_110 fb_12_56 k_102 r_102_56 dM_goesToNextOrder_135 ?_
          refine g_iload X dM_goesToNextOrder_138 rfl ?_
          refine g_iald X k_135 ln_135 dM_goesToNextOrder_140 ?_
          refine g_istore_n X [some (.ref (C.w.ad 102)), some (.int u7), none, some (.int (s6 135 (ix u101))), some (.int u101), some (.int x7)] dM_goesToNextOrder_141 (by decide) (Nat.le_of_ble_eq_true rfl) rfl ?_
          refine g_aload_n X dM_goesToNextOrder_142 rfl ?_
          refine g_getN X fl_M_110 fb_12_56 k_102 r_102_56 dM_goesToNextOrder_143 ?_
          refine g_iload X dM_goesToNextOrder_146 rfl ?_
          refine g_aload_n X dM_goesToNextOrder_148 rfl ?_
          refine g_getN X fl_M_110 fb_12_56 k_102 r_102_56 dM_goesToNextOrder_149 ?_
          refine g_iload X dM_goesToNextOrder_152 rfl ?_
          refine g_iald X k_135 ln_135 dM_goesToNextOrder_154 ?_
          refine g_iast X k_135 ln_135 dM_goesToNextOrder_155 (fun s8 => ?_)
          refine g_aload_n X dM_goesToNextOrder_156 rfl ?_
          refine g_getN X fl_M_110 fb_12_56 k_102 r_102_56 dM_goesToNextOrder_157 ?_
          refine g_iload X dM_goesToNextOrder_160 rfl ?_
          refine g_iload_n X dM_goesToNextOrder_162 rfl ?_
          refine g_iast X k_135 ln_135 dM_goesToNextOrder_163 (fun s9 => ?_)
          refine g_iinc X (u101 + 1) [some (.ref (C.w.ad 102)), some (.int u7), none, some (.int (s6 135 (ix u101))), some (.int (u101 + 1)), some (.int x7)] dM_goesToNextOrder_164 rfl rfl (by decide) rfl ?_
          refine g_goto X 101 dM_goesToNextOrder_167 (by decide) ?_
          exact gf_sub (hq101 (u101 + 1) s9) (by simp [lsub])
      · refine g_iload_n X dM_goesToNextOrder_63 rfl ?_
        refine g_iconst X 1 dM_goesToNextOrder_64 (by decide) ?_
        refine g_isub X dM_goesToNextOrder_65 ?_
        refine g_istore_n X [some (.ref (C.w.ad 102)), some (.int u7), some (.int (u48 - 1)), none, none, none] dM_goesToNextOrder_66 (by decide) (Nat.le_of_ble_eq_true rfl) rfl ?_
        refine g_goto X 48 dM_goesToNextOrder_67 (by decide) ?_
        exact gf_sub (hq48 (u48 - 1) s3) (by simp [lsub])
    · refine g_iconst X 0 dM_goesToNextOrder_39 (by decide) ?_
      exact g_zret X E dM_goesToNextOrder_40
  · intro j35 hj35
    refine g_zlt X (tgt := 35) dM_goesToNextOrder_8 (by decide) ?_ ?_
    · exact gf_sub (hj35 s1) (by simp [lsub])
    · refine g_aload_n X dM_goesToNextOrder_11 rfl ?_
      refine g_getN X fl_M_110 fb_12_56 k_102 r_102_56 dM_goesToNextOrder_12 ?_
      refine g_iload_n X dM_goesToNextOrder_15 rfl ?_
      refine g_iald X k_135 ln_135 dM_goesToNextOrder_16 ?_
      refine g_aload_n X dM_goesToNextOrder_17 rfl ?_
      refine g_getN X fl_M_110 fb_12_56 k_102 r_102_56 dM_goesToNextOrder_18 ?_
      refine g_iload_n X dM_goesToNextOrder_21 rfl ?_
      refine g_iconst X 1 dM_goesToNextOrder_22 (by decide) ?_
      refine g_iadd X dM_goesToNextOrder_23 ?_
      refine g_iald X k_135 ln_135 dM_goesToNextOrder_24 ?_
      refine g_cle X (tgt := 35) dM_goesToNextOrder_25 (by decide) ?_ ?_
      · exact gf_sub (hj35 s1) (by simp [lsub])
      · refine g_iload_n X dM_goesToNextOrder_28 rfl ?_
        refine g_iconst X 1 dM_goesToNextOrder_29 (by decide) ?_
        refine g_isub X dM_goesToNextOrder_30 ?_
        refine g_istore_n X [some (.ref (C.w.ad 102)), some (.int (u7 - 1)), none, none, none, none] dM_goesToNextOrder_31 (by decide) (Nat.le_of_ble_eq_true rfl) rfl ?_
        refine g_goto X 7 dM_goesToNextOrder_32 (by decide) ?_
        exact gf_sub (hq7 (u7 - 1) s1) (by simp [lsub])
def yM_council : MethodName := ⟨"LastWordHillModel", "council", "(I)I"⟩
abbrev cM_council : ByteArray := prog_14_method_106_code
theorem dM_council_0 : decode cM_council 0 = .ok (.aload_n 0, 1) := by decide +kernel
theorem dM_council_1 : decode cM_council 1 = .ok (.iconst 0, 1) := by decide +kernel
theorem dM_council_2 : decode cM_council 2 = .ok (.putfield 134, 3) := by decide +kernel
theorem dM_council_5 : decode cM_council 5 = .ok (.iload_n 1, 1) := by decide +kernel
theorem dM_council_6 : decode cM_council 6 = .ok (.ifCond .eq 22, 3) := by decide +kernel
theorem dM_council_28 : decode cM_council 28 = .ok (.iconst 0, 1) := by decide +kernel
theorem dM_council_29 : decode cM_council 29 = .ok (.istore_n 2, 1) := by decide +kernel
theorem dM_council_30 : decode cM_council 30 = .ok (.iload_n 2, 1) := by decide +kernel
theorem dM_council_31 : decode cM_council 31 = .ok (.aload_n 0, 1) := by decide +kernel
theorem dM_council_32 : decode cM_council 32 = .ok (.getfield 441, 3) := by decide +kernel
theorem dM_council_35 : decode cM_council 35 = .ok (.if_icmp .ge 16, 3) := by decide +kernel
theorem dM_council_51 : decode cM_council 51 = .ok (.iconst (-1), 1) := by decide +kernel
theorem dM_council_52 : decode cM_council 52 = .ok (.istore_n 2, 1) := by decide +kernel
theorem dM_council_53 : decode cM_council 53 = .ok (.iconst 1, 1) := by decide +kernel
theorem dM_council_54 : decode cM_council 54 = .ok (.istore_n 3, 1) := by decide +kernel
theorem dM_council_55 : decode cM_council 55 = .ok (.iload_n 3, 1) := by decide +kernel
theorem dM_council_56 : decode cM_council 56 = .ok (.ifCond .eq 63, 3) := by decide +kernel
theorem dM_council_119 : decode cM_council 119 = .ok (.iload_n 1, 1) := by decide +kernel
theorem dM_council_120 : decode cM_council 120 = .ok (.ifCond .ne 7, 3) := by decide +kernel
theorem dM_council_127 : decode cM_council 127 = .ok (.aload_n 0, 1) := by decide +kernel
theorem dM_council_128 : decode cM_council 128 = .ok (.getfield 113, 3) := by decide +kernel
theorem fl_M_113 : FLk "LastWordHillModel" 113 12 57 := ⟨_, _, _, rfl, by decide, hz_in 1469 (by decide +kernel) (by decide +kernel), nL12, by decide, by decide⟩
theorem k_136 : hz_kd 136 = 13 := by decide
theorem fb_12_57 : (hz_bs 12)[57]? = some true := by decide
theorem r_102_57 : hz_rf 102 57 = 136 := by decide
theorem dM_council_131 : decode cM_council 131 = .ok (.iload_n 1, 1) := by decide +kernel
theorem dM_council_132 : decode cM_council 132 = .ok (.bipush 10, 2) := by decide +kernel
theorem dM_council_134 : decode cM_council 134 = .ok (.isub, 1) := by decide +kernel
theorem dM_council_135 : decode cM_council 135 = .ok (.iaload, 1) := by decide +kernel
theorem ln_136 : hz_ln 136 = 6 := by decide
theorem dM_council_136 : decode cM_council 136 = .ok (.ireturn, 1) := by decide +kernel
theorem dM_council_123 : decode cM_council 123 = .ok (.iload_n 2, 1) := by decide +kernel
theorem dM_council_124 : decode cM_council 124 = .ok (.goto 12, 3) := by decide +kernel
theorem dM_council_59 : decode cM_council 59 = .ok (.aload_n 0, 1) := by decide +kernel
theorem dM_council_60 : decode cM_council 60 = .ok (.invokevirtual 444, 3) := by decide +kernel
theorem mm_M_spokenBy : MMc yM_spokenBy cM_spokenBy 4 (some .int) 0 := ⟨hz_in 2037 (by decide +kernel) (by decide +kernel), hz_in 147 (by decide +kernel) (by decide +kernel), by decide +kernel, by decide⟩
theorem mv_M_spokenBy : MMv yM_spokenBy 12 := ⟨hz_in 2036 (by decide +kernel) (by decide +kernel), hz_in 124 (by decide +kernel) (by decide +kernel), _, _, rfl, by decide⟩
theorem ml_M_444 : Cond.methodLink "LastWordHillModel" 444 yM_spokenBy ∈ hz_wt := hz_in 2034 (by decide +kernel) (by decide +kernel)
theorem dM_council_63 : decode cM_council 63 = .ok (.istore 4, 2) := by decide +kernel
theorem dM_council_65 : decode cM_council 65 = .ok (.iconst 0, 1) := by decide +kernel
theorem dM_council_66 : decode cM_council 66 = .ok (.istore 5, 2) := by decide +kernel
theorem dM_council_68 : decode cM_council 68 = .ok (.iload 5, 2) := by decide +kernel
theorem dM_council_70 : decode cM_council 70 = .ok (.aload_n 0, 1) := by decide +kernel
theorem dM_council_71 : decode cM_council 71 = .ok (.getfield 441, 3) := by decide +kernel
theorem dM_council_74 : decode cM_council 74 = .ok (.if_icmp .ge 29, 3) := by decide +kernel
theorem dM_council_103 : decode cM_council 103 = .ok (.aload_n 0, 1) := by decide +kernel
theorem dM_council_104 : decode cM_council 104 = .ok (.iload_n 2, 1) := by decide +kernel
theorem dM_council_105 : decode cM_council 105 = .ok (.iload 4, 2) := by decide +kernel
theorem dM_council_107 : decode cM_council 107 = .ok (.invokevirtual 326, 3) := by decide +kernel
theorem dM_council_110 : decode cM_council 110 = .ok (.istore_n 2, 1) := by decide +kernel
theorem dM_council_111 : decode cM_council 111 = .ok (.aload_n 0, 1) := by decide +kernel
theorem dM_council_112 : decode cM_council 112 = .ok (.invokevirtual 447, 3) := by decide +kernel
theorem mm_M_goesToNextOrder : MMc yM_goesToNextOrder cM_goesToNextOrder 6 (some .boolean) 0 := ⟨hz_in 2041 (by decide +kernel) (by decide +kernel), hz_in 147 (by decide +kernel) (by decide +kernel), by decide +kernel, by decide⟩
theorem mv_M_goesToNextOrder : MMv yM_goesToNextOrder 12 := ⟨hz_in 2040 (by decide +kernel) (by decide +kernel), hz_in 125 (by decide +kernel) (by decide +kernel), _, _, rfl, by decide⟩
theorem ml_M_447 : Cond.methodLink "LastWordHillModel" 447 yM_goesToNextOrder ∈ hz_wt := hz_in 2038 (by decide +kernel) (by decide +kernel)
theorem dM_council_115 : decode cM_council 115 = .ok (.istore_n 3, 1) := by decide +kernel
theorem dM_council_116 : decode cM_council 116 = .ok (.goto (-61), 3) := by decide +kernel
theorem dM_council_77 : decode cM_council 77 = .ok (.iload 4, 2) := by decide +kernel
theorem dM_council_79 : decode cM_council 79 = .ok (.iload_n 2, 1) := by decide +kernel
theorem dM_council_80 : decode cM_council 80 = .ok (.if_icmp .le 23, 3) := by decide +kernel
theorem dM_council_83 : decode cM_council 83 = .ok (.aload_n 0, 1) := by decide +kernel
theorem dM_council_84 : decode cM_council 84 = .ok (.getfield 113, 3) := by decide +kernel
theorem dM_council_87 : decode cM_council 87 = .ok (.iload 5, 2) := by decide +kernel
theorem dM_council_89 : decode cM_council 89 = .ok (.aload_n 0, 1) := by decide +kernel
theorem dM_council_90 : decode cM_council 90 = .ok (.getfield 110, 3) := by decide +kernel
theorem dM_council_93 : decode cM_council 93 = .ok (.iload 5, 2) := by decide +kernel
theorem dM_council_95 : decode cM_council 95 = .ok (.iaload, 1) := by decide +kernel
theorem dM_council_96 : decode cM_council 96 = .ok (.iastore, 1) := by decide +kernel
theorem dM_council_97 : decode cM_council 97 = .ok (.iinc 5 1, 3) := by decide +kernel
theorem dM_council_100 : decode cM_council 100 = .ok (.goto (-32), 3) := by decide +kernel
theorem dM_council_38 : decode cM_council 38 = .ok (.aload_n 0, 1) := by decide +kernel
theorem dM_council_39 : decode cM_council 39 = .ok (.getfield 110, 3) := by decide +kernel
theorem dM_council_42 : decode cM_council 42 = .ok (.iload_n 2, 1) := by decide +kernel
theorem dM_council_43 : decode cM_council 43 = .ok (.iload_n 2, 1) := by decide +kernel
theorem dM_council_44 : decode cM_council 44 = .ok (.iastore, 1) := by decide +kernel
theorem dM_council_45 : decode cM_council 45 = .ok (.iinc 2 1, 3) := by decide +kernel
theorem dM_council_48 : decode cM_council 48 = .ok (.goto (-18), 3) := by decide +kernel
theorem dM_council_9 : decode cM_council 9 = .ok (.aload_n 0, 1) := by decide +kernel
theorem dM_council_10 : decode cM_council 10 = .ok (.iload_n 1, 1) := by decide +kernel
theorem dM_council_11 : decode cM_council 11 = .ok (.bipush 10, 2) := by decide +kernel
theorem dM_council_13 : decode cM_council 13 = .ok (.bipush 9, 2) := by decide +kernel
theorem dM_council_15 : decode cM_council 15 = .ok (.aload_n 0, 1) := by decide +kernel
theorem dM_council_16 : decode cM_council 16 = .ok (.getfield 441, 3) := by decide +kernel
theorem dM_council_19 : decode cM_council 19 = .ok (.iadd, 1) := by decide +kernel
theorem dM_council_20 : decode cM_council 20 = .ok (.invokevirtual 153, 3) := by decide +kernel
theorem dM_council_23 : decode cM_council 23 = .ok (.ifCond .ne 5, 3) := by decide +kernel
theorem dM_council_26 : decode cM_council 26 = .ok (.iconst (-1), 1) := by decide +kernel
theorem dM_council_27 : decode cM_council 27 = .ok (.ireturn, 1) := by decide +kernel
def fM_council (v1 : Int32) (s0 : Sg) : Option (Int32 × Sg) := bnd (pt s0 102 0 0) fun s1 => bnd (fun (s2 : Sg) => lp FU (fun q30 (u30 : Int32) (s3 : Sg) => if (s3 102 53) ≤ u30 then (lp FU (fun q55 (u55 : Int32 × Int32) (s4 : Sg) => if u55.2 = 0 then (if v1 = 0 then (some (u55.1, s4)) else (gd (v1 - 10) 6 (some ((s4 136 (ix (v1 - 10))), s4)))) else (bi (fM_spokenBy s4) fun r6 s5 => lp FU (fun q68 (u68 : Int32) (s7 : Sg) => bnd (fun (s8 : Sg) => bi (fM_greater u55.1 r6 s8) fun r10 s9 => bi (fM_goesToNextOrder s9) fun r12 s11 => q55 (r10, r12) s11) fun j103 => if (s7 102 53) ≤ u68 then (j103 s7) else (if r6 ≤ u55.1 then (j103 s7) else (gd u68 6 (gd u68 6 (bnd (pt s7 136 (ix u68) (s7 135 (ix u68))) fun s13 => q68 (u68 + 1) s13))))) 0 s5)) ((-1), 1) s3) else (gd u30 6 (bnd (pt s3 135 (ix u30) u30) fun s14 => q30 (u30 + 1) s14))) 0 s2) fun j28 => if v1 = 0 then (j28 s1) else (bi (fM_isIn v1 10 (9 + (s1 102 53)) s1) fun r16 s15 => if r16 = 0 then (some ((-1), s15)) else (j28 s15))
set_option maxHeartbeats 4000000 in
set_option maxRecDepth 100000 in
theorem okM_council (v1 : Int32) (s0 : Sg) : ∀ (l : Launch) (w : WC), Ok l w yM_council cM_council 6 (some .int) 2 evI [.ref (w.ad 102), .int v1] s0 (fM_council v1 s0) := by
  refine ok_in (ev := fun _ => evI) (av := fun w => [.ref (w.ad 102), .int v1]) "LastWordHillModel" rfl (by decide +kernel) (fun _ => rfl) (fun _ => Nat.le_of_ble_eq_true rfl) ?_
  intro C X E
  show GF C evI 0 [some (.ref (C.w.ad 102)), some (.int v1), none, none, none, none] [] s0 (fM_council v1 s0)
  unfold fM_council
  refine g_aload_n X dM_council_0 rfl ?_
  refine g_iconst X 0 dM_council_1 (by decide) ?_
  refine g_putI X fl_M_134 fb_12_0 fp_12_0 k_102 dM_council_2 (fun s1 => ?_)
  refine g_iload_n X dM_council_5 rfl ?_
  refine gf_jn (fun j28 => ∀ (s2 : Sg), GF C evI 28 [some (.ref (C.w.ad 102)), some (.int v1), none, none, none, none] [] s2 (j28 s2)) ?_ ?_
  · intro s2
    refine g_iconst X 0 dM_council_28 (by decide) ?_
    refine g_istore_n X [some (.ref (C.w.ad 102)), some (.int v1), some (.int 0), none, none, none] dM_council_29 (by decide) (Nat.le_of_ble_eq_true rfl) rfl ?_
    refine gf_sub (L' := [some (.ref (C.w.ad 102)), some (.int v1), some (.int 0), none, none, none]) ?_ (by simp [lsub])
    refine gf_lp (Lf := fun (u30 : Int32) => [some (.ref (C.w.ad 102)), some (.int v1), some (.int u30), none, none, none]) (fun q30 hq30 u30 s3 => ?_) FU 0 s2
    refine g_iload_n X dM_council_30 rfl ?_
    refine g_aload_n X dM_council_31 rfl ?_
    refine g_getI X fl_M_441 fb_12_53 k_102 dM_council_32 ?_
    refine g_cge X (tgt := 51) dM_council_35 (by decide) ?_ ?_
    · refine g_iconst X (-1) dM_council_51 (by decide) ?_
      refine g_istore_n X [some (.ref (C.w.ad 102)), some (.int v1), some (.int (-1)), none, none, none] dM_council_52 (by decide) (Nat.le_of_ble_eq_true rfl) rfl ?_
      refine g_iconst X 1 dM_council_53 (by decide) ?_
      refine g_istore_n X [some (.ref (C.w.ad 102)), some (.int v1), some (.int (-1)), some (.int 1), none, none] dM_council_54 (by decide) (Nat.le_of_ble_eq_true rfl) rfl ?_
      refine gf_sub (L' := [some (.ref (C.w.ad 102)), some (.int v1), some (.int (-1)), some (.int 1), none, none]) ?_ (by simp [lsub])
      refine gf_lp (Lf := fun (u55 : Int32 × Int32) => [some (.ref (C.w.ad 102)), some (.int v1), some (.int u55.1), some (.int u55.2), none, none]) (fun q55 hq55 u55 s4 => ?_) FU ((-1), 1) s3
      refine g_iload_n X dM_council_55 rfl ?_
      refine g_zeq X (tgt := 119) dM_council_56 (by decide) ?_ ?_
      · refine g_iload_n X dM_council_119 rfl ?_
        refine g_zne X (tgt := 127) dM_council_120 (by decide) ?_ ?_
        · refine g_iload_n X dM_council_123 rfl ?_
          refine g_goto X 136 dM_council_124 (by decide) ?_
          exact g_iret X E dM_council_136
        · refine g_aload_n X dM_council_127 rfl ?_
          refine g_getN X fl_M_113 fb_12_57 k_102 r_102_57 dM_council_128 ?_
          refine g_iload_n X dM_council_131 rfl ?_
          refine g_bipush X 10 dM_council_132 (by decide) ?_
          refine g_isub X dM_council_134 ?_
          refine g_iald X k_136 ln_136 dM_council_135 ?_
          exact g_iret X E dM_council_136
      · refine g_aload_n X dM_council_59 rfl ?_
        refine g_virtI X [] [] k_102 mm_M_spokenBy mv_M_spokenBy ml_M_444 (okM_spokenBy s4 C.l C.w) rfl (by decide) rfl (Nat.le_of_ble_eq_true rfl) dM_council_60 (fun r6 s5 => ?_)
        refine g_istore X [some (.ref (C.w.ad 102)), some (.int v1), some (.int u55.1), some (.int u55.2), some (.int r6), none] dM_council_63 (by decide) (Nat.le_of_ble_eq_true rfl) rfl ?_
        refine g_iconst X 0 dM_council_65 (by decide) ?_
        refine g_istore X [some (.ref (C.w.ad 102)), some (.int v1), some (.int u55.1), some (.int u55.2), some (.int r6), some (.int 0)] dM_council_66 (by decide) (Nat.le_of_ble_eq_true rfl) rfl ?_
        refine gf_sub (L' := [some (.ref (C.w.ad 102)), some (.int v1), some (.int u55.1), none, some (.int r6), some (.int 0)]) ?_ (by simp [lsub])
        refine gf_lp (Lf := fun (u68 : Int32) => [some (.ref (C.w.ad 102)), some (.int v1), some (.int u55.1), none, some (.int r6), some (.int u68)]) (fun q68 hq68 u68 s7 => ?_) FU 0 s5
        refine g_iload X dM_council_68 rfl ?_
        refine g_aload_n X dM_council_70 rfl ?_
        refine g_getI X fl_M_441 fb_12_53 k_102 dM_council_71 ?_
        refine gf_jn (fun j103 => ∀ (s8 : Sg), GF C evI 103 [some (.ref (C.w.ad 102)), some (.int v1), some (.int u55.1), none, some (.int r6), none] [] s8 (j103 s8)) ?_ ?_
        · intro s8
          refine g_aload_n X dM_council_103 rfl ?_
          refine g_iload_n X dM_council_104 rfl ?_
          refine g_iload X dM_council_105 rfl ?_
          refine g_virtI X [.int u55.1, .int r6] [] k_102 mm_M_greater mv_M_greater ml_M_326 (okM_greater u55.1 r6 s8 C.l C.w) rfl (by decide) rfl (Nat.le_of_ble_eq_true rfl) dM_council_107 (fun r10 s9 => ?_)
          refine g_istore_n X [some (.ref (C.w.ad 102)), some (.int v1), some (.int r10), none, some (.int r6), none] dM_council_110 (by decide) (Nat.le_of_ble_eq_true rfl) rfl ?_
          refine g_aload_n X dM_council_111 rfl ?_
          refine g_virtI X [] [] k_102 mm_M_goesToNextOrder mv_M_goesToNextOrder ml_M_447 (okM_goesToNextOrder s9 C.l C.w) rfl (by decide) rfl (Nat.le_of_ble_eq_true rfl) dM_council_112 (fun r12 s11 => ?_)
          refine g_istore_n X [some (.ref (C.w.ad 102)), some (.int v1), some (.int r10), some (.int r12), some (.int r6), none] dM_council_115 (by decide) (Nat.le_of_ble_eq_true rfl) rfl ?_
          refine g_goto X 55 dM_council_116 (by decide) ?_
          exact gf_sub (hq55 (r10, r12) s11) (by simp [lsub])
        · intro j103 hj103
          refine g_cge X (tgt := 103) dM_council_74 (by decide) ?_ ?_
          · exact gf_sub (hj103 s7) (by simp [lsub])
          · refine g_iload X dM_council_77 rfl ?_
            refine g_iload_n X dM_council_79 rfl ?_
            refine g_cle X (tgt := 103) dM_council_80 (by decide) ?_ ?_
            · exact gf_sub (hj103 s7) (by simp [lsub])
            · refine g_aload_n X dM_council_83 rfl ?_
              refine g_getN X fl_M_113 fb_12_57 k_102 r_102_57 dM_council_84 ?_
              refine g_iload X dM_council_87 rfl ?_
              refine g_aload_n X dM_council_89 rfl ?_
              refine g_getN X fl_M_110 fb_12_56 k_102 r_102_56 dM_council_90 ?_
              refine g_iload X dM_council_93 rfl ?_
              refine g_iald X k_135 ln_135 dM_council_95 ?_
              refine g_iast X k_136 ln_136 dM_council_96 (fun s13 => ?_)
              refine g_iinc X (u68 + 1) [some (.ref (C.w.ad 102)), some (.int v1), some (.int u55.1), none, some (.int r6), some (.int (u68 + 1))] dM_council_97 rfl rfl (by decide) rfl ?_
              refine g_goto X 68 dM_council_100 (by decide) ?_
              exact gf_sub (hq68 (u68 + 1) s13) (by simp [lsub])
    · refine g_aload_n X dM_council_38 rfl ?_
      refine g_getN X fl_M_110 fb_12_56 k_102 r_102_56 dM_council_39 ?_
      refine g_iload_n X dM_council_42 rfl ?_
      refine g_iload_n X dM_council_43 rfl ?_
      refine g_iast X k_135 ln_135 dM_council_44 (fun s14 => ?_)
      refine g_iinc X (u30 + 1) [some (.ref (C.w.ad 102)), some (.int v1), some (.int (u30 + 1)), none, none, none] dM_council_45 rfl rfl (by decide) rfl ?_
      refine g_goto X 30 dM_council_48 (by decide) ?_
      exact gf_sub (hq30 (u30 + 1) s14) (by simp [lsub])
  · intro j28 hj28
    refine g_zeq X (tgt := 28) dM_council_6 (by decide) ?_ ?_
    · exact gf_sub (hj28 s1) (by simp [lsub])
    · refine g_aload_n X dM_council_9 rfl ?_
      refine g_iload_n X dM_council_10 rfl ?_
      refine g_bipush X 10 dM_council_11 (by decide) ?_
      refine g_bipush X 9 dM_council_13 (by decide) ?_
      refine g_aload_n X dM_council_15 rfl ?_
      refine g_getI X fl_M_441 fb_12_53 k_102 dM_council_16 ?_
      refine g_iadd X dM_council_19 ?_
      refine g_virtI X [.int v1, .int 10, .int (9 + (s1 102 53))] [] k_102 mm_M_isIn mv_M_isIn ml_M_153 (okM_isIn v1 10 (9 + (s1 102 53)) s1 C.l C.w) rfl (by decide) rfl (Nat.le_of_ble_eq_true rfl) dM_council_20 (fun r16 s15 => ?_)
      refine g_zne X (tgt := 28) dM_council_23 (by decide) ?_ ?_
      · refine g_iconst X (-1) dM_council_26 (by decide) ?_
        exact g_iret X E dM_council_27
      · exact gf_sub (hj28 s15) (by simp [lsub])
def yM_rule : MethodName := ⟨"LastWordHillModel", "rule", "(III)Z"⟩
abbrev cM_rule : ByteArray := prog_14_method_107_code
theorem dM_rule_0 : decode cM_rule 0 = .ok (.aload_n 0, 1) := by decide +kernel
theorem dM_rule_1 : decode cM_rule 1 = .ok (.iconst 0, 1) := by decide +kernel
theorem dM_rule_2 : decode cM_rule 2 = .ok (.putfield 134, 3) := by decide +kernel
theorem dM_rule_5 : decode cM_rule 5 = .ok (.aload_n 0, 1) := by decide +kernel
theorem dM_rule_6 : decode cM_rule 6 = .ok (.iload_n 1, 1) := by decide +kernel
theorem dM_rule_7 : decode cM_rule 7 = .ok (.iconst 0, 1) := by decide +kernel
theorem dM_rule_8 : decode cM_rule 8 = .ok (.sipush 999, 3) := by decide +kernel
theorem dM_rule_11 : decode cM_rule 11 = .ok (.invokevirtual 153, 3) := by decide +kernel
theorem dM_rule_14 : decode cM_rule 14 = .ok (.ifCond .eq 27, 3) := by decide +kernel
theorem dM_rule_41 : decode cM_rule 41 = .ok (.iconst 0, 1) := by decide +kernel
theorem dM_rule_42 : decode cM_rule 42 = .ok (.ireturn, 1) := by decide +kernel
theorem dM_rule_17 : decode cM_rule 17 = .ok (.aload_n 0, 1) := by decide +kernel
theorem dM_rule_18 : decode cM_rule 18 = .ok (.iload_n 2, 1) := by decide +kernel
theorem dM_rule_19 : decode cM_rule 19 = .ok (.iconst 0, 1) := by decide +kernel
theorem dM_rule_20 : decode cM_rule 20 = .ok (.sipush 999, 3) := by decide +kernel
theorem dM_rule_23 : decode cM_rule 23 = .ok (.invokevirtual 153, 3) := by decide +kernel
theorem dM_rule_26 : decode cM_rule 26 = .ok (.ifCond .eq 15, 3) := by decide +kernel
theorem dM_rule_29 : decode cM_rule 29 = .ok (.aload_n 0, 1) := by decide +kernel
theorem dM_rule_30 : decode cM_rule 30 = .ok (.iload_n 3, 1) := by decide +kernel
theorem dM_rule_31 : decode cM_rule 31 = .ok (.iconst 1, 1) := by decide +kernel
theorem dM_rule_32 : decode cM_rule 32 = .ok (.sipush 1000, 3) := by decide +kernel
theorem dM_rule_35 : decode cM_rule 35 = .ok (.invokevirtual 153, 3) := by decide +kernel
theorem dM_rule_38 : decode cM_rule 38 = .ok (.ifCond .ne 5, 3) := by decide +kernel
theorem dM_rule_43 : decode cM_rule 43 = .ok (.aload_n 0, 1) := by decide +kernel
theorem dM_rule_44 : decode cM_rule 44 = .ok (.iload_n 1, 1) := by decide +kernel
theorem dM_rule_45 : decode cM_rule 45 = .ok (.iconst 1, 1) := by decide +kernel
theorem dM_rule_46 : decode cM_rule 46 = .ok (.isub, 1) := by decide +kernel
theorem dM_rule_47 : decode cM_rule 47 = .ok (.putfield 116, 3) := by decide +kernel
theorem fl_M_116 : FLk "LastWordHillModel" 116 12 58 := ⟨_, _, _, rfl, by decide, hz_in 1470 (by decide +kernel) (by decide +kernel), nL12, by decide, by decide⟩
theorem fb_12_58 : (hz_bs 12)[58]? = some false := by decide
theorem fp_12_58 : FLp 12 58 .int := ⟨_, _, _, _, rfl, nY12, nN12, by decide, by decide⟩
theorem dM_rule_50 : decode cM_rule 50 = .ok (.aload_n 0, 1) := by decide +kernel
theorem dM_rule_51 : decode cM_rule 51 = .ok (.iload_n 2, 1) := by decide +kernel
theorem dM_rule_52 : decode cM_rule 52 = .ok (.putfield 450, 3) := by decide +kernel
theorem fl_M_450 : FLk "LastWordHillModel" 450 12 59 := ⟨_, _, _, rfl, by decide, hz_in 1471 (by decide +kernel) (by decide +kernel), nL12, by decide, by decide⟩
theorem fb_12_59 : (hz_bs 12)[59]? = some false := by decide
theorem fp_12_59 : FLp 12 59 .int := ⟨_, _, _, _, rfl, nY12, nN12, by decide, by decide⟩
theorem dM_rule_55 : decode cM_rule 55 = .ok (.aload_n 0, 1) := by decide +kernel
theorem dM_rule_56 : decode cM_rule 56 = .ok (.sipush 1000, 3) := by decide +kernel
theorem dM_rule_59 : decode cM_rule 59 = .ok (.iload_n 3, 1) := by decide +kernel
theorem dM_rule_60 : decode cM_rule 60 = .ok (.isub, 1) := by decide +kernel
theorem dM_rule_61 : decode cM_rule 61 = .ok (.putfield 453, 3) := by decide +kernel
theorem fl_M_453 : FLk "LastWordHillModel" 453 12 60 := ⟨_, _, _, rfl, by decide, hz_in 1472 (by decide +kernel) (by decide +kernel), nL12, by decide, by decide⟩
theorem fb_12_60 : (hz_bs 12)[60]? = some false := by decide
theorem fp_12_60 : FLp 12 60 .int := ⟨_, _, _, _, rfl, nY12, nN12, by decide, by decide⟩
theorem dM_rule_64 : decode cM_rule 64 = .ok (.iconst 1, 1) := by decide +kernel
theorem dM_rule_65 : decode cM_rule 65 = .ok (.ireturn, 1) := by decide +kernel
def fM_rule (v1 : Int32) (v2 : Int32) (v3 : Int32) (s0 : Sg) : Option (Int32 × Sg) := bnd (pt s0 102 0 0) fun s1 => bi (fM_isIn v1 0 999 s1) fun r3 s2 => if r3 = 0 then (gb 0 (some (0, s2))) else (bi (fM_isIn v2 0 999 s2) fun r5 s4 => if r5 = 0 then (gb 0 (some (0, s4))) else (bi (fM_isIn v3 1 1000 s4) fun r7 s6 => if r7 = 0 then (gb 0 (some (0, s6))) else (bnd (pt s6 102 58 (v1 - 1)) fun s8 => bnd (pt s8 102 59 v2) fun s9 => bnd (pt s9 102 60 (1000 - v3)) fun s10 => gb 1 (some (1, s10)))))
set_option maxHeartbeats 4000000 in
set_option maxRecDepth 100000 in
theorem okM_rule (v1 : Int32) (v2 : Int32) (v3 : Int32) (s0 : Sg) : ∀ (l : Launch) (w : WC), Ok l w yM_rule cM_rule 4 (some .boolean) 2 evI [.ref (w.ad 102), .int v1, .int v2, .int v3] s0 (fM_rule v1 v2 v3 s0) := by
  refine ok_in (ev := fun _ => evI) (av := fun w => [.ref (w.ad 102), .int v1, .int v2, .int v3]) "LastWordHillModel" rfl (by decide +kernel) (fun _ => rfl) (fun _ => Nat.le_of_ble_eq_true rfl) ?_
  intro C X E
  show GF C evI 0 [some (.ref (C.w.ad 102)), some (.int v1), some (.int v2), some (.int v3)] [] s0 (fM_rule v1 v2 v3 s0)
  unfold fM_rule
  refine g_aload_n X dM_rule_0 rfl ?_
  refine g_iconst X 0 dM_rule_1 (by decide) ?_
  refine g_putI X fl_M_134 fb_12_0 fp_12_0 k_102 dM_rule_2 (fun s1 => ?_)
  refine g_aload_n X dM_rule_5 rfl ?_
  refine g_iload_n X dM_rule_6 rfl ?_
  refine g_iconst X 0 dM_rule_7 (by decide) ?_
  refine g_sipush X 999 dM_rule_8 (by decide) ?_
  refine g_virtI X [.int v1, .int 0, .int 999] [] k_102 mm_M_isIn mv_M_isIn ml_M_153 (okM_isIn v1 0 999 s1 C.l C.w) rfl (by decide) rfl (Nat.le_of_ble_eq_true rfl) dM_rule_11 (fun r3 s2 => ?_)
  refine g_zeq X (tgt := 41) dM_rule_14 (by decide) ?_ ?_
  · refine g_iconst X 0 dM_rule_41 (by decide) ?_
    exact g_zret X E dM_rule_42
  · refine g_aload_n X dM_rule_17 rfl ?_
    refine g_iload_n X dM_rule_18 rfl ?_
    refine g_iconst X 0 dM_rule_19 (by decide) ?_
    refine g_sipush X 999 dM_rule_20 (by decide) ?_
    refine g_virtI X [.int v2, .int 0, .int 999] [] k_102 mm_M_isIn mv_M_isIn ml_M_153 (okM_isIn v2 0 999 s2 C.l C.w) rfl (by decide) rfl (Nat.le_of_ble_eq_true rfl) dM_rule_23 (fun r5 s4 => ?_)
    refine g_zeq X (tgt := 41) dM_rule_26 (by decide) ?_ ?_
    · refine g_iconst X 0 dM_rule_41 (by decide) ?_
      exact g_zret X E dM_rule_42
    · refine g_aload_n X dM_rule_29 rfl ?_
      refine g_iload_n X dM_rule_30 rfl ?_
      refine g_iconst X 1 dM_rule_31 (by decide) ?_
      refine g_sipush X 1000 dM_rule_32 (by decide) ?_
      refine g_virtI X [.int v3, .int 1, .int 1000] [] k_102 mm_M_isIn mv_M_isIn ml_M_153 (okM_isIn v3 1 1000 s4 C.l C.w) rfl (by decide) rfl (Nat.le_of_ble_eq_true rfl) dM_rule_35 (fun r7 s6 => ?_)
      refine g_zne X (tgt := 43) dM_rule_38 (by decide) ?_ ?_
      · refine g_iconst X 0 dM_rule_41 (by decide) ?_
        exact g_zret X E dM_rule_42
      · refine g_aload_n X dM_rule_43 rfl ?_
        refine g_iload_n X dM_rule_44 rfl ?_
        refine g_iconst X 1 dM_rule_45 (by decide) ?_
        refine g_isub X dM_rule_46 ?_
        refine g_putI X fl_M_116 fb_12_58 fp_12_58 k_102 dM_rule_47 (fun s8 => ?_)
        refine g_aload_n X dM_rule_50 rfl ?_
        refine g_iload_n X dM_rule_51 rfl ?_
        refine g_putI X fl_M_450 fb_12_59 fp_12_59 k_102 dM_rule_52 (fun s9 => ?_)
        refine g_aload_n X dM_rule_55 rfl ?_
        refine g_sipush X 1000 dM_rule_56 (by decide) ?_
        refine g_iload_n X dM_rule_59 rfl ?_
        refine g_isub X dM_rule_60 ?_
        refine g_putI X fl_M_453 fb_12_60 fp_12_60 k_102 dM_rule_61 (fun s10 => ?_)
        refine g_iconst X 1 dM_rule_64 (by decide) ?_
        exact g_zret X E dM_rule_65
def yM_thing : MethodName := ⟨"LastWordHillModel", "thing", "(II)I"⟩
abbrev cM_thing : ByteArray := prog_14_method_108_code
theorem dM_thing_0 : decode cM_thing 0 = .ok (.aload_n 0, 1) := by decide +kernel
theorem dM_thing_1 : decode cM_thing 1 = .ok (.iconst 0, 1) := by decide +kernel
theorem dM_thing_2 : decode cM_thing 2 = .ok (.putfield 134, 3) := by decide +kernel
theorem dM_thing_5 : decode cM_thing 5 = .ok (.aload_n 0, 1) := by decide +kernel
theorem dM_thing_6 : decode cM_thing 6 = .ok (.iload_n 1, 1) := by decide +kernel
theorem dM_thing_7 : decode cM_thing 7 = .ok (.iconst 0, 1) := by decide +kernel
theorem dM_thing_8 : decode cM_thing 8 = .ok (.sipush 999, 3) := by decide +kernel
theorem dM_thing_11 : decode cM_thing 11 = .ok (.invokevirtual 153, 3) := by decide +kernel
theorem dM_thing_14 : decode cM_thing 14 = .ok (.ifCond .eq 13, 3) := by decide +kernel
theorem dM_thing_27 : decode cM_thing 27 = .ok (.iconst (-1), 1) := by decide +kernel
theorem dM_thing_28 : decode cM_thing 28 = .ok (.ireturn, 1) := by decide +kernel
theorem dM_thing_17 : decode cM_thing 17 = .ok (.aload_n 0, 1) := by decide +kernel
theorem dM_thing_18 : decode cM_thing 18 = .ok (.iload_n 2, 1) := by decide +kernel
theorem dM_thing_19 : decode cM_thing 19 = .ok (.iconst 0, 1) := by decide +kernel
theorem dM_thing_20 : decode cM_thing 20 = .ok (.iconst 1, 1) := by decide +kernel
theorem dM_thing_21 : decode cM_thing 21 = .ok (.invokevirtual 153, 3) := by decide +kernel
theorem dM_thing_24 : decode cM_thing 24 = .ok (.ifCond .ne 5, 3) := by decide +kernel
theorem dM_thing_29 : decode cM_thing 29 = .ok (.sipush 1000, 3) := by decide +kernel
theorem dM_thing_32 : decode cM_thing 32 = .ok (.aload_n 0, 1) := by decide +kernel
theorem dM_thing_33 : decode cM_thing 33 = .ok (.getfield 453, 3) := by decide +kernel
theorem dM_thing_36 : decode cM_thing 36 = .ok (.isub, 1) := by decide +kernel
theorem dM_thing_37 : decode cM_thing 37 = .ok (.istore_n 3, 1) := by decide +kernel
theorem dM_thing_38 : decode cM_thing 38 = .ok (.iconst 0, 1) := by decide +kernel
theorem dM_thing_39 : decode cM_thing 39 = .ok (.istore 4, 2) := by decide +kernel
theorem dM_thing_41 : decode cM_thing 41 = .ok (.iload 4, 2) := by decide +kernel
theorem dM_thing_43 : decode cM_thing 43 = .ok (.sipush 1000, 3) := by decide +kernel
theorem dM_thing_46 : decode cM_thing 46 = .ok (.if_icmp .ge 17, 3) := by decide +kernel
theorem dM_thing_63 : decode cM_thing 63 = .ok (.iload_n 1, 1) := by decide +kernel
theorem dM_thing_64 : decode cM_thing 64 = .ok (.iload_n 3, 1) := by decide +kernel
theorem dM_thing_65 : decode cM_thing 65 = .ok (.irem, 1) := by decide +kernel
theorem dM_thing_66 : decode cM_thing 66 = .ok (.istore 4, 2) := by decide +kernel
theorem dM_thing_68 : decode cM_thing 68 = .ok (.iconst 0, 1) := by decide +kernel
theorem dM_thing_69 : decode cM_thing 69 = .ok (.istore 5, 2) := by decide +kernel
theorem dM_thing_71 : decode cM_thing 71 = .ok (.aload_n 0, 1) := by decide +kernel
theorem dM_thing_72 : decode cM_thing 72 = .ok (.getfield 119, 3) := by decide +kernel
theorem fl_M_119 : FLk "LastWordHillModel" 119 12 61 := ⟨_, _, _, rfl, by decide, hz_in 1473 (by decide +kernel) (by decide +kernel), nL12, by decide, by decide⟩
theorem k_137 : hz_kd 137 = 13 := by decide
theorem fb_12_61 : (hz_bs 12)[61]? = some true := by decide
theorem r_102_61 : hz_rf 102 61 = 137 := by decide
theorem dM_thing_75 : decode cM_thing 75 = .ok (.iload 4, 2) := by decide +kernel
theorem dM_thing_77 : decode cM_thing 77 = .ok (.iaload, 1) := by decide +kernel
theorem ln_137 : hz_ln 137 = 1000 := by decide
theorem dM_thing_78 : decode cM_thing 78 = .ok (.iconst (-1), 1) := by decide +kernel
theorem dM_thing_79 : decode cM_thing 79 = .ok (.if_icmp .ne 39, 3) := by decide +kernel
theorem dM_thing_118 : decode cM_thing 118 = .ok (.iload_n 2, 1) := by decide +kernel
theorem dM_thing_119 : decode cM_thing 119 = .ok (.ifCond .ne 16, 3) := by decide +kernel
theorem dM_thing_135 : decode cM_thing 135 = .ok (.aload_n 0, 1) := by decide +kernel
theorem dM_thing_136 : decode cM_thing 136 = .ok (.getfield 119, 3) := by decide +kernel
theorem dM_thing_139 : decode cM_thing 139 = .ok (.iload 4, 2) := by decide +kernel
theorem dM_thing_141 : decode cM_thing 141 = .ok (.iaload, 1) := by decide +kernel
theorem dM_thing_142 : decode cM_thing 142 = .ok (.ireturn, 1) := by decide +kernel
theorem dM_thing_122 : decode cM_thing 122 = .ok (.iload 5, 2) := by decide +kernel
theorem dM_thing_124 : decode cM_thing 124 = .ok (.aload_n 0, 1) := by decide +kernel
theorem dM_thing_125 : decode cM_thing 125 = .ok (.getfield 119, 3) := by decide +kernel
theorem dM_thing_128 : decode cM_thing 128 = .ok (.iload 4, 2) := by decide +kernel
theorem dM_thing_130 : decode cM_thing 130 = .ok (.iaload, 1) := by decide +kernel
theorem dM_thing_131 : decode cM_thing 131 = .ok (.isub, 1) := by decide +kernel
theorem dM_thing_132 : decode cM_thing 132 = .ok (.goto 10, 3) := by decide +kernel
theorem dM_thing_82 : decode cM_thing 82 = .ok (.aload_n 0, 1) := by decide +kernel
theorem dM_thing_83 : decode cM_thing 83 = .ok (.getfield 119, 3) := by decide +kernel
theorem dM_thing_86 : decode cM_thing 86 = .ok (.iload 4, 2) := by decide +kernel
theorem dM_thing_88 : decode cM_thing 88 = .ok (.iload 5, 2) := by decide +kernel
theorem dM_thing_90 : decode cM_thing 90 = .ok (.iastore, 1) := by decide +kernel
theorem dM_thing_91 : decode cM_thing 91 = .ok (.iload 5, 2) := by decide +kernel
theorem dM_thing_93 : decode cM_thing 93 = .ok (.iconst 1, 1) := by decide +kernel
theorem dM_thing_94 : decode cM_thing 94 = .ok (.iadd, 1) := by decide +kernel
theorem dM_thing_95 : decode cM_thing 95 = .ok (.istore 5, 2) := by decide +kernel
theorem dM_thing_97 : decode cM_thing 97 = .ok (.aload_n 0, 1) := by decide +kernel
theorem dM_thing_98 : decode cM_thing 98 = .ok (.getfield 116, 3) := by decide +kernel
theorem dM_thing_101 : decode cM_thing 101 = .ok (.iconst 1, 1) := by decide +kernel
theorem dM_thing_102 : decode cM_thing 102 = .ok (.iadd, 1) := by decide +kernel
theorem dM_thing_103 : decode cM_thing 103 = .ok (.iload 4, 2) := by decide +kernel
theorem dM_thing_105 : decode cM_thing 105 = .ok (.imul, 1) := by decide +kernel
theorem dM_thing_106 : decode cM_thing 106 = .ok (.aload_n 0, 1) := by decide +kernel
theorem dM_thing_107 : decode cM_thing 107 = .ok (.getfield 450, 3) := by decide +kernel
theorem dM_thing_110 : decode cM_thing 110 = .ok (.iadd, 1) := by decide +kernel
theorem dM_thing_111 : decode cM_thing 111 = .ok (.iload_n 3, 1) := by decide +kernel
theorem dM_thing_112 : decode cM_thing 112 = .ok (.irem, 1) := by decide +kernel
theorem dM_thing_113 : decode cM_thing 113 = .ok (.istore 4, 2) := by decide +kernel
theorem dM_thing_115 : decode cM_thing 115 = .ok (.goto (-44), 3) := by decide +kernel
theorem dM_thing_49 : decode cM_thing 49 = .ok (.aload_n 0, 1) := by decide +kernel
theorem dM_thing_50 : decode cM_thing 50 = .ok (.getfield 119, 3) := by decide +kernel
theorem dM_thing_53 : decode cM_thing 53 = .ok (.iload 4, 2) := by decide +kernel
theorem dM_thing_55 : decode cM_thing 55 = .ok (.iconst (-1), 1) := by decide +kernel
theorem dM_thing_56 : decode cM_thing 56 = .ok (.iastore, 1) := by decide +kernel
theorem dM_thing_57 : decode cM_thing 57 = .ok (.iinc 4 1, 3) := by decide +kernel
theorem dM_thing_60 : decode cM_thing 60 = .ok (.goto (-19), 3) := by decide +kernel
def fM_thing (v1 : Int32) (v2 : Int32) (s0 : Sg) : Option (Int32 × Sg) := bnd (pt s0 102 0 0) fun s1 => bi (fM_isIn v1 0 999 s1) fun r3 s2 => if r3 = 0 then (some ((-1), s2)) else (bi (fM_isIn v2 0 1 s2) fun r5 s4 => if r5 = 0 then (some ((-1), s4)) else (lp FU (fun q41 (u41 : Int32) (s6 : Sg) => if 1000 ≤ u41 then (gz (1000 - (s4 102 60)) (bnd (v1 - v1 / (1000 - (s4 102 60)) * (1000 - (s4 102 60))) fun x7 => lp FU (fun q71 (u71 : Int32 × Int32) (s8 : Sg) => gd u71.1 1000 (if (s8 137 (ix u71.1)) = (-1) then (gd u71.1 1000 (bnd (pt s8 137 (ix u71.1) u71.2) fun s9 => gz (1000 - (s4 102 60)) (bnd (((((s9 102 58) + 1) * u71.1) + (s9 102 59)) - ((((s9 102 58) + 1) * u71.1) + (s9 102 59)) / (1000 - (s4 102 60)) * (1000 - (s4 102 60))) fun x10 => q71 (x10, (u71.2 + 1)) s9))) else (if v2 = 0 then (gd u71.1 1000 (some ((u71.2 - (s8 137 (ix u71.1))), s8))) else (gd u71.1 1000 (some ((s8 137 (ix u71.1)), s8)))))) (x7, 0) s6)) else (gd u41 1000 (bnd (pt s6 137 (ix u41) (-1)) fun s11 => q41 (u41 + 1) s11))) 0 s4))
set_option maxHeartbeats 4000000 in
set_option maxRecDepth 100000 in
theorem okM_thing (v1 : Int32) (v2 : Int32) (s0 : Sg) : ∀ (l : Launch) (w : WC), Ok l w yM_thing cM_thing 6 (some .int) 2 evI [.ref (w.ad 102), .int v1, .int v2] s0 (fM_thing v1 v2 s0) := by
  refine ok_in (ev := fun _ => evI) (av := fun w => [.ref (w.ad 102), .int v1, .int v2]) "LastWordHillModel" rfl (by decide +kernel) (fun _ => rfl) (fun _ => Nat.le_of_ble_eq_true rfl) ?_
  intro C X E
  show GF C evI 0 [some (.ref (C.w.ad 102)), some (.int v1), some (.int v2), none, none, none] [] s0 (fM_thing v1 v2 s0)
  unfold fM_thing
  refine g_aload_n X dM_thing_0 rfl ?_
  refine g_iconst X 0 dM_thing_1 (by decide) ?_
  refine g_putI X fl_M_134 fb_12_0 fp_12_0 k_102 dM_thing_2 (fun s1 => ?_)
  refine g_aload_n X dM_thing_5 rfl ?_
  refine g_iload_n X dM_thing_6 rfl ?_
  refine g_iconst X 0 dM_thing_7 (by decide) ?_
  refine g_sipush X 999 dM_thing_8 (by decide) ?_
  refine g_virtI X [.int v1, .int 0, .int 999] [] k_102 mm_M_isIn mv_M_isIn ml_M_153 (okM_isIn v1 0 999 s1 C.l C.w) rfl (by decide) rfl (Nat.le_of_ble_eq_true rfl) dM_thing_11 (fun r3 s2 => ?_)
  refine g_zeq X (tgt := 27) dM_thing_14 (by decide) ?_ ?_
  · refine g_iconst X (-1) dM_thing_27 (by decide) ?_
    exact g_iret X E dM_thing_28
  · refine g_aload_n X dM_thing_17 rfl ?_
    refine g_iload_n X dM_thing_18 rfl ?_
    refine g_iconst X 0 dM_thing_19 (by decide) ?_
    refine g_iconst X 1 dM_thing_20 (by decide) ?_
    refine g_virtI X [.int v2, .int 0, .int 1] [] k_102 mm_M_isIn mv_M_isIn ml_M_153 (okM_isIn v2 0 1 s2 C.l C.w) rfl (by decide) rfl (Nat.le_of_ble_eq_true rfl) dM_thing_21 (fun r5 s4 => ?_)
    refine g_zne X (tgt := 29) dM_thing_24 (by decide) ?_ ?_
    · refine g_iconst X (-1) dM_thing_27 (by decide) ?_
      exact g_iret X E dM_thing_28
    · refine g_sipush X 1000 dM_thing_29 (by decide) ?_
      refine g_aload_n X dM_thing_32 rfl ?_
      refine g_getI X fl_M_453 fb_12_60 k_102 dM_thing_33 ?_
      refine g_isub X dM_thing_36 ?_
      refine g_istore_n X [some (.ref (C.w.ad 102)), some (.int v1), some (.int v2), some (.int (1000 - (s4 102 60))), none, none] dM_thing_37 (by decide) (Nat.le_of_ble_eq_true rfl) rfl ?_
      refine g_iconst X 0 dM_thing_38 (by decide) ?_
      refine g_istore X [some (.ref (C.w.ad 102)), some (.int v1), some (.int v2), some (.int (1000 - (s4 102 60))), some (.int 0), none] dM_thing_39 (by decide) (Nat.le_of_ble_eq_true rfl) rfl ?_
      refine gf_sub (L' := [some (.ref (C.w.ad 102)), some (.int v1), some (.int v2), some (.int (1000 - (s4 102 60))), some (.int 0), none]) ?_ (by simp [lsub])
      refine gf_lp (Lf := fun (u41 : Int32) => [some (.ref (C.w.ad 102)), some (.int v1), some (.int v2), some (.int (1000 - (s4 102 60))), some (.int u41), none]) (fun q41 hq41 u41 s6 => ?_) FU 0 s4
      refine g_iload X dM_thing_41 rfl ?_
      refine g_sipush X 1000 dM_thing_43 (by decide) ?_
      refine g_cge X (tgt := 63) dM_thing_46 (by decide) ?_ ?_
      · refine g_iload_n X dM_thing_63 rfl ?_
        refine g_iload_n X dM_thing_64 rfl ?_
        refine g_irem X dM_thing_65 ?_
        refine gf_nm (fun x7 => ?_)
        refine g_istore X [some (.ref (C.w.ad 102)), some (.int v1), some (.int v2), some (.int (1000 - (s4 102 60))), some (.int x7), none] dM_thing_66 (by decide) (Nat.le_of_ble_eq_true rfl) rfl ?_
        refine g_iconst X 0 dM_thing_68 (by decide) ?_
        refine g_istore X [some (.ref (C.w.ad 102)), some (.int v1), some (.int v2), some (.int (1000 - (s4 102 60))), some (.int x7), some (.int 0)] dM_thing_69 (by decide) (Nat.le_of_ble_eq_true rfl) rfl ?_
        refine gf_sub (L' := [some (.ref (C.w.ad 102)), none, some (.int v2), some (.int (1000 - (s4 102 60))), some (.int x7), some (.int 0)]) ?_ (by simp [lsub])
        refine gf_lp (Lf := fun (u71 : Int32 × Int32) => [some (.ref (C.w.ad 102)), none, some (.int v2), some (.int (1000 - (s4 102 60))), some (.int u71.1), some (.int u71.2)]) (fun q71 hq71 u71 s8 => ?_) FU (x7, 0) s6
        refine g_aload_n X dM_thing_71 rfl ?_
        refine g_getN X fl_M_119 fb_12_61 k_102 r_102_61 dM_thing_72 ?_
        refine g_iload X dM_thing_75 rfl ?_
        refine g_iald X k_137 ln_137 dM_thing_77 ?_
        refine g_iconst X (-1) dM_thing_78 (by decide) ?_
        refine g_cne X (tgt := 118) dM_thing_79 (by decide) ?_ ?_
        · refine g_aload_n X dM_thing_82 rfl ?_
          refine g_getN X fl_M_119 fb_12_61 k_102 r_102_61 dM_thing_83 ?_
          refine g_iload X dM_thing_86 rfl ?_
          refine g_iload X dM_thing_88 rfl ?_
          refine g_iast X k_137 ln_137 dM_thing_90 (fun s9 => ?_)
          refine g_iload X dM_thing_91 rfl ?_
          refine g_iconst X 1 dM_thing_93 (by decide) ?_
          refine g_iadd X dM_thing_94 ?_
          refine g_istore X [some (.ref (C.w.ad 102)), none, some (.int v2), some (.int (1000 - (s4 102 60))), some (.int u71.1), some (.int (u71.2 + 1))] dM_thing_95 (by decide) (Nat.le_of_ble_eq_true rfl) rfl ?_
          refine g_aload_n X dM_thing_97 rfl ?_
          refine g_getI X fl_M_116 fb_12_58 k_102 dM_thing_98 ?_
          refine g_iconst X 1 dM_thing_101 (by decide) ?_
          refine g_iadd X dM_thing_102 ?_
          refine g_iload X dM_thing_103 rfl ?_
          refine g_imul X dM_thing_105 ?_
          refine g_aload_n X dM_thing_106 rfl ?_
          refine g_getI X fl_M_450 fb_12_59 k_102 dM_thing_107 ?_
          refine g_iadd X dM_thing_110 ?_
          refine g_iload_n X dM_thing_111 rfl ?_
          refine g_irem X dM_thing_112 ?_
          refine gf_nm (fun x10 => ?_)
          refine g_istore X [some (.ref (C.w.ad 102)), none, some (.int v2), some (.int (1000 - (s4 102 60))), some (.int x10), some (.int (u71.2 + 1))] dM_thing_113 (by decide) (Nat.le_of_ble_eq_true rfl) rfl ?_
          refine g_goto X 71 dM_thing_115 (by decide) ?_
          exact gf_sub (hq71 (x10, (u71.2 + 1)) s9) (by simp [lsub])
        · refine g_iload_n X dM_thing_118 rfl ?_
          refine g_zne X (tgt := 135) dM_thing_119 (by decide) ?_ ?_
          · refine g_iload X dM_thing_122 rfl ?_
            refine g_aload_n X dM_thing_124 rfl ?_
            refine g_getN X fl_M_119 fb_12_61 k_102 r_102_61 dM_thing_125 ?_
            refine g_iload X dM_thing_128 rfl ?_
            refine g_iald X k_137 ln_137 dM_thing_130 ?_
            refine g_isub X dM_thing_131 ?_
            refine g_goto X 142 dM_thing_132 (by decide) ?_
            exact g_iret X E dM_thing_142
          · refine g_aload_n X dM_thing_135 rfl ?_
            refine g_getN X fl_M_119 fb_12_61 k_102 r_102_61 dM_thing_136 ?_
            refine g_iload X dM_thing_139 rfl ?_
            refine g_iald X k_137 ln_137 dM_thing_141 ?_
            exact g_iret X E dM_thing_142
      · refine g_aload_n X dM_thing_49 rfl ?_
        refine g_getN X fl_M_119 fb_12_61 k_102 r_102_61 dM_thing_50 ?_
        refine g_iload X dM_thing_53 rfl ?_
        refine g_iconst X (-1) dM_thing_55 (by decide) ?_
        refine g_iast X k_137 ln_137 dM_thing_56 (fun s11 => ?_)
        refine g_iinc X (u41 + 1) [some (.ref (C.w.ad 102)), some (.int v1), some (.int v2), some (.int (1000 - (s4 102 60))), some (.int (u41 + 1)), none] dM_thing_57 rfl rfl (by decide) rfl ?_
        refine g_goto X 41 dM_thing_60 (by decide) ?_
        exact gf_sub (hq41 (u41 + 1) s11) (by simp [lsub])
def yM_price : MethodName := ⟨"LastWordHillModel", "price", "(I)I"⟩
abbrev cM_price : ByteArray := prog_14_method_109_code
theorem dM_price_0 : decode cM_price 0 = .ok (.aload_n 0, 1) := by decide +kernel
theorem dM_price_1 : decode cM_price 1 = .ok (.iconst 0, 1) := by decide +kernel
theorem dM_price_2 : decode cM_price 2 = .ok (.putfield 134, 3) := by decide +kernel
theorem dM_price_5 : decode cM_price 5 = .ok (.iload_n 1, 1) := by decide +kernel
theorem dM_price_6 : decode cM_price 6 = .ok (.iconst (-1), 1) := by decide +kernel
theorem dM_price_7 : decode cM_price 7 = .ok (.if_icmp .ne 10, 3) := by decide +kernel
theorem dM_price_17 : decode cM_price 17 = .ok (.aload_n 0, 1) := by decide +kernel
theorem dM_price_18 : decode cM_price 18 = .ok (.iload_n 1, 1) := by decide +kernel
theorem dM_price_19 : decode cM_price 19 = .ok (.iconst 0, 1) := by decide +kernel
theorem dM_price_20 : decode cM_price 20 = .ok (.sipush 999, 3) := by decide +kernel
theorem dM_price_23 : decode cM_price 23 = .ok (.invokevirtual 153, 3) := by decide +kernel
theorem dM_price_26 : decode cM_price 26 = .ok (.ifCond .eq 12, 3) := by decide +kernel
theorem dM_price_38 : decode cM_price 38 = .ok (.iconst (-1), 1) := by decide +kernel
theorem dM_price_39 : decode cM_price 39 = .ok (.ireturn, 1) := by decide +kernel
theorem dM_price_29 : decode cM_price 29 = .ok (.aload_n 0, 1) := by decide +kernel
theorem dM_price_30 : decode cM_price 30 = .ok (.getfield 456, 3) := by decide +kernel
theorem fl_M_456 : FLk "LastWordHillModel" 456 12 62 := ⟨_, _, _, rfl, by decide, hz_in 1474 (by decide +kernel) (by decide +kernel), nL12, by decide, by decide⟩
theorem fb_12_62 : (hz_bs 12)[62]? = some false := by decide
theorem dM_price_33 : decode cM_price 33 = .ok (.bipush 12, 2) := by decide +kernel
theorem dM_price_35 : decode cM_price 35 = .ok (.if_icmp .ne 5, 3) := by decide +kernel
theorem dM_price_40 : decode cM_price 40 = .ok (.aload_n 0, 1) := by decide +kernel
theorem dM_price_41 : decode cM_price 41 = .ok (.getfield 122, 3) := by decide +kernel
theorem fl_M_122 : FLk "LastWordHillModel" 122 12 63 := ⟨_, _, _, rfl, by decide, hz_in 1475 (by decide +kernel) (by decide +kernel), nL12, by decide, by decide⟩
theorem k_138 : hz_kd 138 = 13 := by decide
theorem fb_12_63 : (hz_bs 12)[63]? = some true := by decide
theorem r_102_63 : hz_rf 102 63 = 138 := by decide
theorem dM_price_44 : decode cM_price 44 = .ok (.aload_n 0, 1) := by decide +kernel
theorem dM_price_45 : decode cM_price 45 = .ok (.getfield 456, 3) := by decide +kernel
theorem dM_price_48 : decode cM_price 48 = .ok (.iload_n 1, 1) := by decide +kernel
theorem dM_price_49 : decode cM_price 49 = .ok (.iastore, 1) := by decide +kernel
theorem ln_138 : hz_ln 138 = 12 := by decide
theorem dM_price_50 : decode cM_price 50 = .ok (.aload_n 0, 1) := by decide +kernel
theorem dM_price_51 : decode cM_price 51 = .ok (.aload_n 0, 1) := by decide +kernel
theorem dM_price_52 : decode cM_price 52 = .ok (.getfield 456, 3) := by decide +kernel
theorem dM_price_55 : decode cM_price 55 = .ok (.iconst 1, 1) := by decide +kernel
theorem dM_price_56 : decode cM_price 56 = .ok (.iadd, 1) := by decide +kernel
theorem dM_price_57 : decode cM_price 57 = .ok (.putfield 456, 3) := by decide +kernel
theorem fp_12_62 : FLp 12 62 .int := ⟨_, _, _, _, rfl, nY12, nN12, by decide, by decide⟩
theorem dM_price_60 : decode cM_price 60 = .ok (.aload_n 0, 1) := by decide +kernel
theorem dM_price_61 : decode cM_price 61 = .ok (.getfield 456, 3) := by decide +kernel
theorem dM_price_64 : decode cM_price 64 = .ok (.ireturn, 1) := by decide +kernel
theorem dM_price_10 : decode cM_price 10 = .ok (.aload_n 0, 1) := by decide +kernel
theorem dM_price_11 : decode cM_price 11 = .ok (.iconst 0, 1) := by decide +kernel
theorem dM_price_12 : decode cM_price 12 = .ok (.putfield 456, 3) := by decide +kernel
theorem dM_price_15 : decode cM_price 15 = .ok (.iconst 0, 1) := by decide +kernel
theorem dM_price_16 : decode cM_price 16 = .ok (.ireturn, 1) := by decide +kernel
def fM_price (v1 : Int32) (s0 : Sg) : Option (Int32 × Sg) := bnd (pt s0 102 0 0) fun s1 => if v1 = (-1) then (bnd (pt s1 102 62 0) fun s6 => some (0, s6)) else (bi (fM_isIn v1 0 999 s1) fun r3 s2 => if r3 = 0 then (some ((-1), s2)) else (if (s2 102 62) = 12 then (some ((-1), s2)) else (gd (s2 102 62) 12 (bnd (pt s2 138 (ix (s2 102 62)) v1) fun s4 => bnd (pt s4 102 62 ((s4 102 62) + 1)) fun s5 => some ((s5 102 62), s5)))))
set_option maxHeartbeats 4000000 in
set_option maxRecDepth 100000 in
theorem okM_price (v1 : Int32) (s0 : Sg) : ∀ (l : Launch) (w : WC), Ok l w yM_price cM_price 2 (some .int) 2 evI [.ref (w.ad 102), .int v1] s0 (fM_price v1 s0) := by
  refine ok_in (ev := fun _ => evI) (av := fun w => [.ref (w.ad 102), .int v1]) "LastWordHillModel" rfl (by decide +kernel) (fun _ => rfl) (fun _ => Nat.le_of_ble_eq_true rfl) ?_
  intro C X E
  show GF C evI 0 [some (.ref (C.w.ad 102)), some (.int v1)] [] s0 (fM_price v1 s0)
  unfold fM_price
  refine g_aload_n X dM_price_0 rfl ?_
  refine g_iconst X 0 dM_price_1 (by decide) ?_
  refine g_putI X fl_M_134 fb_12_0 fp_12_0 k_102 dM_price_2 (fun s1 => ?_)
  refine g_iload_n X dM_price_5 rfl ?_
  refine g_iconst X (-1) dM_price_6 (by decide) ?_
  refine g_cne X (tgt := 17) dM_price_7 (by decide) ?_ ?_
  · refine g_aload_n X dM_price_10 rfl ?_
    refine g_iconst X 0 dM_price_11 (by decide) ?_
    refine g_putI X fl_M_456 fb_12_62 fp_12_62 k_102 dM_price_12 (fun s6 => ?_)
    refine g_iconst X 0 dM_price_15 (by decide) ?_
    exact g_iret X E dM_price_16
  · refine g_aload_n X dM_price_17 rfl ?_
    refine g_iload_n X dM_price_18 rfl ?_
    refine g_iconst X 0 dM_price_19 (by decide) ?_
    refine g_sipush X 999 dM_price_20 (by decide) ?_
    refine g_virtI X [.int v1, .int 0, .int 999] [] k_102 mm_M_isIn mv_M_isIn ml_M_153 (okM_isIn v1 0 999 s1 C.l C.w) rfl (by decide) rfl (Nat.le_of_ble_eq_true rfl) dM_price_23 (fun r3 s2 => ?_)
    refine g_zeq X (tgt := 38) dM_price_26 (by decide) ?_ ?_
    · refine g_iconst X (-1) dM_price_38 (by decide) ?_
      exact g_iret X E dM_price_39
    · refine g_aload_n X dM_price_29 rfl ?_
      refine g_getI X fl_M_456 fb_12_62 k_102 dM_price_30 ?_
      refine g_bipush X 12 dM_price_33 (by decide) ?_
      refine g_cne X (tgt := 40) dM_price_35 (by decide) ?_ ?_
      · refine g_iconst X (-1) dM_price_38 (by decide) ?_
        exact g_iret X E dM_price_39
      · refine g_aload_n X dM_price_40 rfl ?_
        refine g_getN X fl_M_122 fb_12_63 k_102 r_102_63 dM_price_41 ?_
        refine g_aload_n X dM_price_44 rfl ?_
        refine g_getI X fl_M_456 fb_12_62 k_102 dM_price_45 ?_
        refine g_iload_n X dM_price_48 rfl ?_
        refine g_iast X k_138 ln_138 dM_price_49 (fun s4 => ?_)
        refine g_aload_n X dM_price_50 rfl ?_
        refine g_aload_n X dM_price_51 rfl ?_
        refine g_getI X fl_M_456 fb_12_62 k_102 dM_price_52 ?_
        refine g_iconst X 1 dM_price_55 (by decide) ?_
        refine g_iadd X dM_price_56 ?_
        refine g_putI X fl_M_456 fb_12_62 fp_12_62 k_102 dM_price_57 (fun s5 => ?_)
        refine g_aload_n X dM_price_60 rfl ?_
        refine g_getI X fl_M_456 fb_12_62 k_102 dM_price_61 ?_
        exact g_iret X E dM_price_64
def yM_isHeard : MethodName := ⟨"LastWordHillModel", "isHeard", "(II)Z"⟩
abbrev cM_isHeard : ByteArray := prog_14_method_110_code
theorem dM_isHeard_0 : decode cM_isHeard 0 = .ok (.aload_n 0, 1) := by decide +kernel
theorem dM_isHeard_1 : decode cM_isHeard 1 = .ok (.iconst 0, 1) := by decide +kernel
theorem dM_isHeard_2 : decode cM_isHeard 2 = .ok (.iload_n 1, 1) := by decide +kernel
theorem dM_isHeard_3 : decode cM_isHeard 3 = .ok (.iload_n 2, 1) := by decide +kernel
theorem dM_isHeard_4 : decode cM_isHeard 4 = .ok (.isub, 1) := by decide +kernel
theorem dM_isHeard_5 : decode cM_isHeard 5 = .ok (.invokevirtual 326, 3) := by decide +kernel
theorem dM_isHeard_8 : decode cM_isHeard 8 = .ok (.istore_n 3, 1) := by decide +kernel
theorem dM_isHeard_9 : decode cM_isHeard 9 = .ok (.iload_n 3, 1) := by decide +kernel
theorem dM_isHeard_10 : decode cM_isHeard 10 = .ok (.iload_n 1, 1) := by decide +kernel
theorem dM_isHeard_11 : decode cM_isHeard 11 = .ok (.if_icmp .ge 26, 3) := by decide +kernel
theorem dM_isHeard_37 : decode cM_isHeard 37 = .ok (.iconst 1, 1) := by decide +kernel
theorem dM_isHeard_38 : decode cM_isHeard 38 = .ok (.ireturn, 1) := by decide +kernel
theorem dM_isHeard_14 : decode cM_isHeard 14 = .ok (.aload_n 0, 1) := by decide +kernel
theorem dM_isHeard_15 : decode cM_isHeard 15 = .ok (.getfield 122, 3) := by decide +kernel
theorem dM_isHeard_18 : decode cM_isHeard 18 = .ok (.iload_n 3, 1) := by decide +kernel
theorem dM_isHeard_19 : decode cM_isHeard 19 = .ok (.iaload, 1) := by decide +kernel
theorem dM_isHeard_20 : decode cM_isHeard 20 = .ok (.aload_n 0, 1) := by decide +kernel
theorem dM_isHeard_21 : decode cM_isHeard 21 = .ok (.getfield 122, 3) := by decide +kernel
theorem dM_isHeard_24 : decode cM_isHeard 24 = .ok (.iload_n 1, 1) := by decide +kernel
theorem dM_isHeard_25 : decode cM_isHeard 25 = .ok (.iaload, 1) := by decide +kernel
theorem dM_isHeard_26 : decode cM_isHeard 26 = .ok (.if_icmp .lt 5, 3) := by decide +kernel
theorem dM_isHeard_31 : decode cM_isHeard 31 = .ok (.iinc 3 1, 3) := by decide +kernel
theorem dM_isHeard_34 : decode cM_isHeard 34 = .ok (.goto (-25), 3) := by decide +kernel
theorem dM_isHeard_29 : decode cM_isHeard 29 = .ok (.iconst 0, 1) := by decide +kernel
theorem dM_isHeard_30 : decode cM_isHeard 30 = .ok (.ireturn, 1) := by decide +kernel
def fM_isHeard (v1 : Int32) (v2 : Int32) (s0 : Sg) : Option (Int32 × Sg) := bi (fM_greater 0 (v1 - v2) s0) fun r2 s1 => lp FU (fun q9 (u9 : Int32) (s3 : Sg) => if v1 ≤ u9 then (gb 1 (some (1, s3))) else (gd u9 12 (gd v1 12 (if (s3 138 (ix u9)) < (s3 138 (ix v1)) then (q9 (u9 + 1) s3) else (gb 0 (some (0, s3))))))) r2 s1
set_option maxHeartbeats 4000000 in
set_option maxRecDepth 100000 in
theorem okM_isHeard (v1 : Int32) (v2 : Int32) (s0 : Sg) : ∀ (l : Launch) (w : WC), Ok l w yM_isHeard cM_isHeard 4 (some .boolean) 2 evI [.ref (w.ad 102), .int v1, .int v2] s0 (fM_isHeard v1 v2 s0) := by
  refine ok_in (ev := fun _ => evI) (av := fun w => [.ref (w.ad 102), .int v1, .int v2]) "LastWordHillModel" rfl (by decide +kernel) (fun _ => rfl) (fun _ => Nat.le_of_ble_eq_true rfl) ?_
  intro C X E
  show GF C evI 0 [some (.ref (C.w.ad 102)), some (.int v1), some (.int v2), none] [] s0 (fM_isHeard v1 v2 s0)
  unfold fM_isHeard
  refine g_aload_n X dM_isHeard_0 rfl ?_
  refine g_iconst X 0 dM_isHeard_1 (by decide) ?_
  refine g_iload_n X dM_isHeard_2 rfl ?_
  refine g_iload_n X dM_isHeard_3 rfl ?_
  refine g_isub X dM_isHeard_4 ?_
  refine g_virtI X [.int 0, .int (v1 - v2)] [] k_102 mm_M_greater mv_M_greater ml_M_326 (okM_greater 0 (v1 - v2) s0 C.l C.w) rfl (by decide) rfl (Nat.le_of_ble_eq_true rfl) dM_isHeard_5 (fun r2 s1 => ?_)
  refine g_istore_n X [some (.ref (C.w.ad 102)), some (.int v1), some (.int v2), some (.int r2)] dM_isHeard_8 (by decide) (Nat.le_of_ble_eq_true rfl) rfl ?_
  refine gf_sub (L' := [some (.ref (C.w.ad 102)), some (.int v1), none, some (.int r2)]) ?_ (by simp [lsub])
  refine gf_lp (Lf := fun (u9 : Int32) => [some (.ref (C.w.ad 102)), some (.int v1), none, some (.int u9)]) (fun q9 hq9 u9 s3 => ?_) FU r2 s1
  refine g_iload_n X dM_isHeard_9 rfl ?_
  refine g_iload_n X dM_isHeard_10 rfl ?_
  refine g_cge X (tgt := 37) dM_isHeard_11 (by decide) ?_ ?_
  · refine g_iconst X 1 dM_isHeard_37 (by decide) ?_
    exact g_zret X E dM_isHeard_38
  · refine g_aload_n X dM_isHeard_14 rfl ?_
    refine g_getN X fl_M_122 fb_12_63 k_102 r_102_63 dM_isHeard_15 ?_
    refine g_iload_n X dM_isHeard_18 rfl ?_
    refine g_iald X k_138 ln_138 dM_isHeard_19 ?_
    refine g_aload_n X dM_isHeard_20 rfl ?_
    refine g_getN X fl_M_122 fb_12_63 k_102 r_102_63 dM_isHeard_21 ?_
    refine g_iload_n X dM_isHeard_24 rfl ?_
    refine g_iald X k_138 ln_138 dM_isHeard_25 ?_
    refine g_clt X (tgt := 31) dM_isHeard_26 (by decide) ?_ ?_
    · refine g_iinc X (u9 + 1) [some (.ref (C.w.ad 102)), some (.int v1), none, some (.int (u9 + 1))] dM_isHeard_31 rfl rfl (by decide) rfl ?_
      refine g_goto X 9 dM_isHeard_34 (by decide) ?_
      exact gf_sub (hq9 (u9 + 1) s3) (by simp [lsub])
    · refine g_iconst X 0 dM_isHeard_29 (by decide) ?_
      exact g_zret X E dM_isHeard_30
def yM_prices : MethodName := ⟨"LastWordHillModel", "prices", "(II)I"⟩
abbrev cM_prices : ByteArray := prog_14_method_111_code
theorem dM_prices_0 : decode cM_prices 0 = .ok (.aload_n 0, 1) := by decide +kernel
theorem dM_prices_1 : decode cM_prices 1 = .ok (.iconst 0, 1) := by decide +kernel
theorem dM_prices_2 : decode cM_prices 2 = .ok (.putfield 134, 3) := by decide +kernel
theorem dM_prices_5 : decode cM_prices 5 = .ok (.aload_n 0, 1) := by decide +kernel
theorem dM_prices_6 : decode cM_prices 6 = .ok (.iload_n 1, 1) := by decide +kernel
theorem dM_prices_7 : decode cM_prices 7 = .ok (.iconst 1, 1) := by decide +kernel
theorem dM_prices_8 : decode cM_prices 8 = .ok (.iconst 5, 1) := by decide +kernel
theorem dM_prices_9 : decode cM_prices 9 = .ok (.invokevirtual 153, 3) := by decide +kernel
theorem dM_prices_12 : decode cM_prices 12 = .ok (.ifCond .eq 13, 3) := by decide +kernel
theorem dM_prices_25 : decode cM_prices 25 = .ok (.iconst (-1), 1) := by decide +kernel
theorem dM_prices_26 : decode cM_prices 26 = .ok (.ireturn, 1) := by decide +kernel
theorem dM_prices_15 : decode cM_prices 15 = .ok (.aload_n 0, 1) := by decide +kernel
theorem dM_prices_16 : decode cM_prices 16 = .ok (.iload_n 2, 1) := by decide +kernel
theorem dM_prices_17 : decode cM_prices 17 = .ok (.iconst 0, 1) := by decide +kernel
theorem dM_prices_18 : decode cM_prices 18 = .ok (.iconst 1, 1) := by decide +kernel
theorem dM_prices_19 : decode cM_prices 19 = .ok (.invokevirtual 153, 3) := by decide +kernel
theorem dM_prices_22 : decode cM_prices 22 = .ok (.ifCond .ne 5, 3) := by decide +kernel
theorem dM_prices_27 : decode cM_prices 27 = .ok (.iconst 0, 1) := by decide +kernel
theorem dM_prices_28 : decode cM_prices 28 = .ok (.istore_n 3, 1) := by decide +kernel
theorem dM_prices_29 : decode cM_prices 29 = .ok (.iconst 0, 1) := by decide +kernel
theorem dM_prices_30 : decode cM_prices 30 = .ok (.istore 4, 2) := by decide +kernel
theorem dM_prices_32 : decode cM_prices 32 = .ok (.iload 4, 2) := by decide +kernel
theorem dM_prices_34 : decode cM_prices 34 = .ok (.aload_n 0, 1) := by decide +kernel
theorem dM_prices_35 : decode cM_prices 35 = .ok (.getfield 456, 3) := by decide +kernel
theorem dM_prices_38 : decode cM_prices 38 = .ok (.if_icmp .ge 37, 3) := by decide +kernel
theorem dM_prices_75 : decode cM_prices 75 = .ok (.iload_n 3, 1) := by decide +kernel
theorem dM_prices_76 : decode cM_prices 76 = .ok (.ireturn, 1) := by decide +kernel
theorem dM_prices_41 : decode cM_prices 41 = .ok (.aload_n 0, 1) := by decide +kernel
theorem dM_prices_42 : decode cM_prices 42 = .ok (.iload 4, 2) := by decide +kernel
theorem dM_prices_44 : decode cM_prices 44 = .ok (.iload_n 1, 1) := by decide +kernel
theorem dM_prices_45 : decode cM_prices 45 = .ok (.invokevirtual 459, 3) := by decide +kernel
theorem mm_M_isHeard : MMc yM_isHeard cM_isHeard 4 (some .boolean) 2 := ⟨hz_in 2061 (by decide +kernel) (by decide +kernel), hz_in 147 (by decide +kernel) (by decide +kernel), by decide +kernel, by decide⟩
theorem mv_M_isHeard : MMv yM_isHeard 12 := ⟨hz_in 2060 (by decide +kernel) (by decide +kernel), hz_in 126 (by decide +kernel) (by decide +kernel), _, _, rfl, by decide⟩
theorem ml_M_459 : Cond.methodLink "LastWordHillModel" 459 yM_isHeard ∈ hz_wt := hz_in 2058 (by decide +kernel) (by decide +kernel)
theorem dM_prices_48 : decode cM_prices 48 = .ok (.ifCond .eq 21, 3) := by decide +kernel
theorem dM_prices_69 : decode cM_prices 69 = .ok (.iinc 4 1, 3) := by decide +kernel
theorem dM_prices_72 : decode cM_prices 72 = .ok (.goto (-40), 3) := by decide +kernel
theorem dM_prices_51 : decode cM_prices 51 = .ok (.iload_n 3, 1) := by decide +kernel
theorem dM_prices_52 : decode cM_prices 52 = .ok (.iload_n 2, 1) := by decide +kernel
theorem dM_prices_53 : decode cM_prices 53 = .ok (.ifCond .ne 7, 3) := by decide +kernel
theorem dM_prices_67 : decode cM_prices 67 = .ok (.iadd, 1) := by decide +kernel
theorem dM_prices_68 : decode cM_prices 68 = .ok (.istore_n 3, 1) := by decide +kernel
theorem dM_prices_60 : decode cM_prices 60 = .ok (.aload_n 0, 1) := by decide +kernel
theorem dM_prices_61 : decode cM_prices 61 = .ok (.getfield 122, 3) := by decide +kernel
theorem dM_prices_64 : decode cM_prices 64 = .ok (.iload 4, 2) := by decide +kernel
theorem dM_prices_66 : decode cM_prices 66 = .ok (.iaload, 1) := by decide +kernel
theorem dM_prices_56 : decode cM_prices 56 = .ok (.iconst 1, 1) := by decide +kernel
theorem dM_prices_57 : decode cM_prices 57 = .ok (.goto 10, 3) := by decide +kernel
def fM_prices (v1 : Int32) (v2 : Int32) (s0 : Sg) : Option (Int32 × Sg) := bnd (pt s0 102 0 0) fun s1 => bi (fM_isIn v1 1 5 s1) fun r3 s2 => if r3 = 0 then (some ((-1), s2)) else (bi (fM_isIn v2 0 1 s2) fun r5 s4 => if r5 = 0 then (some ((-1), s4)) else (lp FU (fun q32 (u32 : Int32 × Int32) (s6 : Sg) => if (s6 102 62) ≤ u32.2 then (some (u32.1, s6)) else (bi (fM_isHeard u32.2 v1 s6) fun r8 s7 => bnd (fun (a69_3 : Int32) (s9 : Sg) => q32 (a69_3, (u32.2 + 1)) s9) fun j69 => if r8 = 0 then (j69 u32.1 s7) else (bnd (fun (b67_0 : Int32) (s10 : Sg) => j69 (u32.1 + b67_0) s10) fun j67 => if v2 = 0 then (j67 1 s7) else (gd u32.2 12 (j67 (s7 138 (ix u32.2)) s7))))) (0, 0) s4))
set_option maxHeartbeats 4000000 in
set_option maxRecDepth 100000 in
theorem okM_prices (v1 : Int32) (v2 : Int32) (s0 : Sg) : ∀ (l : Launch) (w : WC), Ok l w yM_prices cM_prices 5 (some .int) 3 evI [.ref (w.ad 102), .int v1, .int v2] s0 (fM_prices v1 v2 s0) := by
  refine ok_in (ev := fun _ => evI) (av := fun w => [.ref (w.ad 102), .int v1, .int v2]) "LastWordHillModel" rfl (by decide +kernel) (fun _ => rfl) (fun _ => Nat.le_of_ble_eq_true rfl) ?_
  intro C X E
  show GF C evI 0 [some (.ref (C.w.ad 102)), some (.int v1), some (.int v2), none, none] [] s0 (fM_prices v1 v2 s0)
  unfold fM_prices
  refine g_aload_n X dM_prices_0 rfl ?_
  refine g_iconst X 0 dM_prices_1 (by decide) ?_
  refine g_putI X fl_M_134 fb_12_0 fp_12_0 k_102 dM_prices_2 (fun s1 => ?_)
  refine g_aload_n X dM_prices_5 rfl ?_
  refine g_iload_n X dM_prices_6 rfl ?_
  refine g_iconst X 1 dM_prices_7 (by decide) ?_
  refine g_iconst X 5 dM_prices_8 (by decide) ?_
  refine g_virtI X [.int v1, .int 1, .int 5] [] k_102 mm_M_isIn mv_M_isIn ml_M_153 (okM_isIn v1 1 5 s1 C.l C.w) rfl (by decide) rfl (Nat.le_of_ble_eq_true rfl) dM_prices_9 (fun r3 s2 => ?_)
  refine g_zeq X (tgt := 25) dM_prices_12 (by decide) ?_ ?_
  · refine g_iconst X (-1) dM_prices_25 (by decide) ?_
    exact g_iret X E dM_prices_26
  · refine g_aload_n X dM_prices_15 rfl ?_
    refine g_iload_n X dM_prices_16 rfl ?_
    refine g_iconst X 0 dM_prices_17 (by decide) ?_
    refine g_iconst X 1 dM_prices_18 (by decide) ?_
    refine g_virtI X [.int v2, .int 0, .int 1] [] k_102 mm_M_isIn mv_M_isIn ml_M_153 (okM_isIn v2 0 1 s2 C.l C.w) rfl (by decide) rfl (Nat.le_of_ble_eq_true rfl) dM_prices_19 (fun r5 s4 => ?_)
    refine g_zne X (tgt := 27) dM_prices_22 (by decide) ?_ ?_
    · refine g_iconst X (-1) dM_prices_25 (by decide) ?_
      exact g_iret X E dM_prices_26
    · refine g_iconst X 0 dM_prices_27 (by decide) ?_
      refine g_istore_n X [some (.ref (C.w.ad 102)), some (.int v1), some (.int v2), some (.int 0), none] dM_prices_28 (by decide) (Nat.le_of_ble_eq_true rfl) rfl ?_
      refine g_iconst X 0 dM_prices_29 (by decide) ?_
      refine g_istore X [some (.ref (C.w.ad 102)), some (.int v1), some (.int v2), some (.int 0), some (.int 0)] dM_prices_30 (by decide) (Nat.le_of_ble_eq_true rfl) rfl ?_
      refine gf_sub (L' := [some (.ref (C.w.ad 102)), some (.int v1), some (.int v2), some (.int 0), some (.int 0)]) ?_ (by simp [lsub])
      refine gf_lp (Lf := fun (u32 : Int32 × Int32) => [some (.ref (C.w.ad 102)), some (.int v1), some (.int v2), some (.int u32.1), some (.int u32.2)]) (fun q32 hq32 u32 s6 => ?_) FU (0, 0) s4
      refine g_iload X dM_prices_32 rfl ?_
      refine g_aload_n X dM_prices_34 rfl ?_
      refine g_getI X fl_M_456 fb_12_62 k_102 dM_prices_35 ?_
      refine g_cge X (tgt := 75) dM_prices_38 (by decide) ?_ ?_
      · refine g_iload_n X dM_prices_75 rfl ?_
        exact g_iret X E dM_prices_76
      · refine g_aload_n X dM_prices_41 rfl ?_
        refine g_iload X dM_prices_42 rfl ?_
        refine g_iload_n X dM_prices_44 rfl ?_
        refine g_virtI X [.int u32.2, .int v1] [] k_102 mm_M_isHeard mv_M_isHeard ml_M_459 (okM_isHeard u32.2 v1 s6 C.l C.w) rfl (by decide) rfl (Nat.le_of_ble_eq_true rfl) dM_prices_45 (fun r8 s7 => ?_)
        refine gf_jn (fun j69 => ∀ (a69_3 : Int32) (s9 : Sg), GF C evI 69 [some (.ref (C.w.ad 102)), some (.int v1), some (.int v2), some (.int a69_3), some (.int u32.2)] [] s9 (j69 a69_3 s9)) ?_ ?_
        · intro a69_3 s9
          refine g_iinc X (u32.2 + 1) [some (.ref (C.w.ad 102)), some (.int v1), some (.int v2), some (.int a69_3), some (.int (u32.2 + 1))] dM_prices_69 rfl rfl (by decide) rfl ?_
          refine g_goto X 32 dM_prices_72 (by decide) ?_
          exact gf_sub (hq32 (a69_3, (u32.2 + 1)) s9) (by simp [lsub])
        · intro j69 hj69
          refine g_zeq X (tgt := 69) dM_prices_48 (by decide) ?_ ?_
          · exact gf_sub (hj69 u32.1 s7) (by simp [lsub])
          · refine g_iload_n X dM_prices_51 rfl ?_
            refine g_iload_n X dM_prices_52 rfl ?_
            refine gf_jn (fun j67 => ∀ (b67_0 : Int32) (s10 : Sg), GF C evI 67 [some (.ref (C.w.ad 102)), some (.int v1), some (.int v2), none, some (.int u32.2)] [.int b67_0, .int u32.1] s10 (j67 b67_0 s10)) ?_ ?_
            · intro b67_0 s10
              refine g_iadd X dM_prices_67 ?_
              refine g_istore_n X [some (.ref (C.w.ad 102)), some (.int v1), some (.int v2), some (.int (u32.1 + b67_0)), some (.int u32.2)] dM_prices_68 (by decide) (Nat.le_of_ble_eq_true rfl) rfl ?_
              exact gf_sub (hj69 (u32.1 + b67_0) s10) (by simp [lsub])
            · intro j67 hj67
              refine g_zne X (tgt := 60) dM_prices_53 (by decide) ?_ ?_
              · refine g_iconst X 1 dM_prices_56 (by decide) ?_
                refine g_goto X 67 dM_prices_57 (by decide) ?_
                exact gf_sub (hj67 1 s7) (by simp [lsub])
              · refine g_aload_n X dM_prices_60 rfl ?_
                refine g_getN X fl_M_122 fb_12_63 k_102 r_102_63 dM_prices_61 ?_
                refine g_iload X dM_prices_64 rfl ?_
                refine g_iald X k_138 ln_138 dM_prices_66 ?_
                exact gf_sub (hj67 (s7 138 (ix u32.2)) s7) (by simp [lsub])
def yM_bell : MethodName := ⟨"LastWordHillModel", "bell", "(II)I"⟩
abbrev cM_bell : ByteArray := prog_14_method_112_code
theorem dM_bell_0 : decode cM_bell 0 = .ok (.aload_n 0, 1) := by decide +kernel
theorem dM_bell_1 : decode cM_bell 1 = .ok (.iconst 0, 1) := by decide +kernel
theorem dM_bell_2 : decode cM_bell 2 = .ok (.putfield 134, 3) := by decide +kernel
theorem dM_bell_5 : decode cM_bell 5 = .ok (.aload_n 0, 1) := by decide +kernel
theorem dM_bell_6 : decode cM_bell 6 = .ok (.iload_n 1, 1) := by decide +kernel
theorem dM_bell_7 : decode cM_bell 7 = .ok (.iconst 1, 1) := by decide +kernel
theorem dM_bell_8 : decode cM_bell 8 = .ok (.bipush 12, 2) := by decide +kernel
theorem dM_bell_10 : decode cM_bell 10 = .ok (.invokevirtual 153, 3) := by decide +kernel
theorem dM_bell_13 : decode cM_bell 13 = .ok (.ifCond .eq 13, 3) := by decide +kernel
theorem dM_bell_26 : decode cM_bell 26 = .ok (.iconst (-1), 1) := by decide +kernel
theorem dM_bell_27 : decode cM_bell 27 = .ok (.ireturn, 1) := by decide +kernel
theorem dM_bell_16 : decode cM_bell 16 = .ok (.aload_n 0, 1) := by decide +kernel
theorem dM_bell_17 : decode cM_bell 17 = .ok (.iload_n 2, 1) := by decide +kernel
theorem dM_bell_18 : decode cM_bell 18 = .ok (.iconst 0, 1) := by decide +kernel
theorem dM_bell_19 : decode cM_bell 19 = .ok (.iload_n 1, 1) := by decide +kernel
theorem dM_bell_20 : decode cM_bell 20 = .ok (.invokevirtual 153, 3) := by decide +kernel
theorem dM_bell_23 : decode cM_bell 23 = .ok (.ifCond .ne 5, 3) := by decide +kernel
theorem dM_bell_28 : decode cM_bell 28 = .ok (.iconst 0, 1) := by decide +kernel
theorem dM_bell_29 : decode cM_bell 29 = .ok (.istore_n 3, 1) := by decide +kernel
theorem dM_bell_30 : decode cM_bell 30 = .ok (.iconst 0, 1) := by decide +kernel
theorem dM_bell_31 : decode cM_bell 31 = .ok (.istore 4, 2) := by decide +kernel
theorem dM_bell_33 : decode cM_bell 33 = .ok (.iload 4, 2) := by decide +kernel
theorem dM_bell_35 : decode cM_bell 35 = .ok (.iconst 1, 1) := by decide +kernel
theorem dM_bell_36 : decode cM_bell 36 = .ok (.iload_n 1, 1) := by decide +kernel
theorem dM_bell_37 : decode cM_bell 37 = .ok (.ishl, 1) := by decide +kernel
theorem dM_bell_38 : decode cM_bell 38 = .ok (.if_icmp .ge 38, 3) := by decide +kernel
theorem dM_bell_76 : decode cM_bell 76 = .ok (.iload_n 3, 1) := by decide +kernel
theorem dM_bell_77 : decode cM_bell 77 = .ok (.ireturn, 1) := by decide +kernel
theorem dM_bell_41 : decode cM_bell 41 = .ok (.aload_n 0, 1) := by decide +kernel
theorem dM_bell_42 : decode cM_bell 42 = .ok (.iload 4, 2) := by decide +kernel
theorem dM_bell_44 : decode cM_bell 44 = .ok (.invokevirtual 401, 3) := by decide +kernel
theorem dM_bell_47 : decode cM_bell 47 = .ok (.iload_n 2, 1) := by decide +kernel
theorem dM_bell_48 : decode cM_bell 48 = .ok (.if_icmp .ne 22, 3) := by decide +kernel
theorem dM_bell_70 : decode cM_bell 70 = .ok (.iinc 4 1, 3) := by decide +kernel
theorem dM_bell_73 : decode cM_bell 73 = .ok (.goto (-40), 3) := by decide +kernel
theorem dM_bell_51 : decode cM_bell 51 = .ok (.iload 4, 2) := by decide +kernel
theorem dM_bell_53 : decode cM_bell 53 = .ok (.iload 4, 2) := by decide +kernel
theorem dM_bell_55 : decode cM_bell 55 = .ok (.iconst 1, 1) := by decide +kernel
theorem dM_bell_56 : decode cM_bell 56 = .ok (.ishr, 1) := by decide +kernel
theorem dM_bell_57 : decode cM_bell 57 = .ok (.iand, 1) := by decide +kernel
theorem dM_bell_58 : decode cM_bell 58 = .ok (.iload 4, 2) := by decide +kernel
theorem dM_bell_60 : decode cM_bell 60 = .ok (.iconst 2, 1) := by decide +kernel
theorem dM_bell_61 : decode cM_bell 61 = .ok (.ishr, 1) := by decide +kernel
theorem dM_bell_62 : decode cM_bell 62 = .ok (.iand, 1) := by decide +kernel
theorem dM_bell_63 : decode cM_bell 63 = .ok (.ifCond .ne 7, 3) := by decide +kernel
theorem dM_bell_66 : decode cM_bell 66 = .ok (.iload_n 3, 1) := by decide +kernel
theorem dM_bell_67 : decode cM_bell 67 = .ok (.iconst 1, 1) := by decide +kernel
theorem dM_bell_68 : decode cM_bell 68 = .ok (.iadd, 1) := by decide +kernel
theorem dM_bell_69 : decode cM_bell 69 = .ok (.istore_n 3, 1) := by decide +kernel
def fM_bell (v1 : Int32) (v2 : Int32) (s0 : Sg) : Option (Int32 × Sg) := bnd (pt s0 102 0 0) fun s1 => bi (fM_isIn v1 1 12 s1) fun r3 s2 => if r3 = 0 then (some ((-1), s2)) else (bi (fM_isIn v2 0 v1 s2) fun r5 s4 => if r5 = 0 then (some ((-1), s4)) else (lp FU (fun q33 (u33 : Int32 × Int32) (s6 : Sg) => if (1 <<< (v1 &&& 31)) ≤ u33.2 then (some (u33.1, s6)) else (bi (fM_onesOf u33.2 s6) fun r8 s7 => bnd (fun (a70_3 : Int32) (s9 : Sg) => q33 (a70_3, (u33.2 + 1)) s9) fun j70 => if r8 = v2 then (if ((u33.2 &&& (u33.2 >>> (1 &&& 31))) &&& (u33.2 >>> (2 &&& 31))) = 0 then (j70 (u33.1 + 1) s7) else (j70 u33.1 s7)) else (j70 u33.1 s7))) (0, 0) s4))
set_option maxHeartbeats 4000000 in
set_option maxRecDepth 100000 in
theorem okM_bell (v1 : Int32) (v2 : Int32) (s0 : Sg) : ∀ (l : Launch) (w : WC), Ok l w yM_bell cM_bell 5 (some .int) 2 evI [.ref (w.ad 102), .int v1, .int v2] s0 (fM_bell v1 v2 s0) := by
  refine ok_in (ev := fun _ => evI) (av := fun w => [.ref (w.ad 102), .int v1, .int v2]) "LastWordHillModel" rfl (by decide +kernel) (fun _ => rfl) (fun _ => Nat.le_of_ble_eq_true rfl) ?_
  intro C X E
  show GF C evI 0 [some (.ref (C.w.ad 102)), some (.int v1), some (.int v2), none, none] [] s0 (fM_bell v1 v2 s0)
  unfold fM_bell
  refine g_aload_n X dM_bell_0 rfl ?_
  refine g_iconst X 0 dM_bell_1 (by decide) ?_
  refine g_putI X fl_M_134 fb_12_0 fp_12_0 k_102 dM_bell_2 (fun s1 => ?_)
  refine g_aload_n X dM_bell_5 rfl ?_
  refine g_iload_n X dM_bell_6 rfl ?_
  refine g_iconst X 1 dM_bell_7 (by decide) ?_
  refine g_bipush X 12 dM_bell_8 (by decide) ?_
  refine g_virtI X [.int v1, .int 1, .int 12] [] k_102 mm_M_isIn mv_M_isIn ml_M_153 (okM_isIn v1 1 12 s1 C.l C.w) rfl (by decide) rfl (Nat.le_of_ble_eq_true rfl) dM_bell_10 (fun r3 s2 => ?_)
  refine g_zeq X (tgt := 26) dM_bell_13 (by decide) ?_ ?_
  · refine g_iconst X (-1) dM_bell_26 (by decide) ?_
    exact g_iret X E dM_bell_27
  · refine g_aload_n X dM_bell_16 rfl ?_
    refine g_iload_n X dM_bell_17 rfl ?_
    refine g_iconst X 0 dM_bell_18 (by decide) ?_
    refine g_iload_n X dM_bell_19 rfl ?_
    refine g_virtI X [.int v2, .int 0, .int v1] [] k_102 mm_M_isIn mv_M_isIn ml_M_153 (okM_isIn v2 0 v1 s2 C.l C.w) rfl (by decide) rfl (Nat.le_of_ble_eq_true rfl) dM_bell_20 (fun r5 s4 => ?_)
    refine g_zne X (tgt := 28) dM_bell_23 (by decide) ?_ ?_
    · refine g_iconst X (-1) dM_bell_26 (by decide) ?_
      exact g_iret X E dM_bell_27
    · refine g_iconst X 0 dM_bell_28 (by decide) ?_
      refine g_istore_n X [some (.ref (C.w.ad 102)), some (.int v1), some (.int v2), some (.int 0), none] dM_bell_29 (by decide) (Nat.le_of_ble_eq_true rfl) rfl ?_
      refine g_iconst X 0 dM_bell_30 (by decide) ?_
      refine g_istore X [some (.ref (C.w.ad 102)), some (.int v1), some (.int v2), some (.int 0), some (.int 0)] dM_bell_31 (by decide) (Nat.le_of_ble_eq_true rfl) rfl ?_
      refine gf_sub (L' := [some (.ref (C.w.ad 102)), some (.int v1), some (.int v2), some (.int 0), some (.int 0)]) ?_ (by simp [lsub])
      refine gf_lp (Lf := fun (u33 : Int32 × Int32) => [some (.ref (C.w.ad 102)), some (.int v1), some (.int v2), some (.int u33.1), some (.int u33.2)]) (fun q33 hq33 u33 s6 => ?_) FU (0, 0) s4
      refine g_iload X dM_bell_33 rfl ?_
      refine g_iconst X 1 dM_bell_35 (by decide) ?_
      refine g_iload_n X dM_bell_36 rfl ?_
      refine g_ishl X dM_bell_37 ?_
      refine g_cge X (tgt := 76) dM_bell_38 (by decide) ?_ ?_
      · refine g_iload_n X dM_bell_76 rfl ?_
        exact g_iret X E dM_bell_77
      · refine g_aload_n X dM_bell_41 rfl ?_
        refine g_iload X dM_bell_42 rfl ?_
        refine g_virtI X [.int u33.2] [] k_102 mm_M_onesOf mv_M_onesOf ml_M_401 (okM_onesOf u33.2 s6 C.l C.w) rfl (by decide) rfl (Nat.le_of_ble_eq_true rfl) dM_bell_44 (fun r8 s7 => ?_)
        refine g_iload_n X dM_bell_47 rfl ?_
        refine gf_jn (fun j70 => ∀ (a70_3 : Int32) (s9 : Sg), GF C evI 70 [some (.ref (C.w.ad 102)), some (.int v1), some (.int v2), some (.int a70_3), some (.int u33.2)] [] s9 (j70 a70_3 s9)) ?_ ?_
        · intro a70_3 s9
          refine g_iinc X (u33.2 + 1) [some (.ref (C.w.ad 102)), some (.int v1), some (.int v2), some (.int a70_3), some (.int (u33.2 + 1))] dM_bell_70 rfl rfl (by decide) rfl ?_
          refine g_goto X 33 dM_bell_73 (by decide) ?_
          exact gf_sub (hq33 (a70_3, (u33.2 + 1)) s9) (by simp [lsub])
        · intro j70 hj70
          refine g_cne X (tgt := 70) dM_bell_48 (by decide) ?_ ?_
          · refine g_iload X dM_bell_51 rfl ?_
            refine g_iload X dM_bell_53 rfl ?_
            refine g_iconst X 1 dM_bell_55 (by decide) ?_
            refine g_ishr X dM_bell_56 ?_
            refine g_iand X dM_bell_57 ?_
            refine g_iload X dM_bell_58 rfl ?_
            refine g_iconst X 2 dM_bell_60 (by decide) ?_
            refine g_ishr X dM_bell_61 ?_
            refine g_iand X dM_bell_62 ?_
            refine g_zne X (tgt := 70) dM_bell_63 (by decide) ?_ ?_
            · refine g_iload_n X dM_bell_66 rfl ?_
              refine g_iconst X 1 dM_bell_67 (by decide) ?_
              refine g_iadd X dM_bell_68 ?_
              refine g_istore_n X [some (.ref (C.w.ad 102)), some (.int v1), some (.int v2), some (.int (u33.1 + 1)), some (.int u33.2)] dM_bell_69 (by decide) (Nat.le_of_ble_eq_true rfl) rfl ?_
              exact gf_sub (hj70 (u33.1 + 1) s7) (by simp [lsub])
            · exact gf_sub (hj70 u33.1 s7) (by simp [lsub])
          · exact gf_sub (hj70 u33.1 s7) (by simp [lsub])
def yM_worth : MethodName := ⟨"LastWordHillModel", "worth", "(II)Z"⟩
abbrev cM_worth : ByteArray := prog_14_method_113_code
theorem dM_worth_0 : decode cM_worth 0 = .ok (.aload_n 0, 1) := by decide +kernel
theorem dM_worth_1 : decode cM_worth 1 = .ok (.iconst 0, 1) := by decide +kernel
theorem dM_worth_2 : decode cM_worth 2 = .ok (.putfield 134, 3) := by decide +kernel
theorem dM_worth_5 : decode cM_worth 5 = .ok (.aload_n 0, 1) := by decide +kernel
theorem dM_worth_6 : decode cM_worth 6 = .ok (.iload_n 1, 1) := by decide +kernel
theorem dM_worth_7 : decode cM_worth 7 = .ok (.iconst 0, 1) := by decide +kernel
theorem dM_worth_8 : decode cM_worth 8 = .ok (.iconst 3, 1) := by decide +kernel
theorem dM_worth_9 : decode cM_worth 9 = .ok (.invokevirtual 153, 3) := by decide +kernel
theorem dM_worth_12 : decode cM_worth 12 = .ok (.ifCond .eq 14, 3) := by decide +kernel
theorem dM_worth_26 : decode cM_worth 26 = .ok (.iconst 0, 1) := by decide +kernel
theorem dM_worth_27 : decode cM_worth 27 = .ok (.ireturn, 1) := by decide +kernel
theorem dM_worth_15 : decode cM_worth 15 = .ok (.aload_n 0, 1) := by decide +kernel
theorem dM_worth_16 : decode cM_worth 16 = .ok (.iload_n 2, 1) := by decide +kernel
theorem dM_worth_17 : decode cM_worth 17 = .ok (.iconst 0, 1) := by decide +kernel
theorem dM_worth_18 : decode cM_worth 18 = .ok (.bipush 99, 2) := by decide +kernel
theorem dM_worth_20 : decode cM_worth 20 = .ok (.invokevirtual 153, 3) := by decide +kernel
theorem dM_worth_23 : decode cM_worth 23 = .ok (.ifCond .ne 5, 3) := by decide +kernel
theorem dM_worth_28 : decode cM_worth 28 = .ok (.aload_n 0, 1) := by decide +kernel
theorem dM_worth_29 : decode cM_worth 29 = .ok (.getfield 125, 3) := by decide +kernel
theorem fl_M_125 : FLk "LastWordHillModel" 125 12 64 := ⟨_, _, _, rfl, by decide, hz_in 1476 (by decide +kernel) (by decide +kernel), nL12, by decide, by decide⟩
theorem k_139 : hz_kd 139 = 13 := by decide
theorem fb_12_64 : (hz_bs 12)[64]? = some true := by decide
theorem r_102_64 : hz_rf 102 64 = 139 := by decide
theorem dM_worth_32 : decode cM_worth 32 = .ok (.iload_n 1, 1) := by decide +kernel
theorem dM_worth_33 : decode cM_worth 33 = .ok (.iload_n 2, 1) := by decide +kernel
theorem dM_worth_34 : decode cM_worth 34 = .ok (.iastore, 1) := by decide +kernel
theorem ln_139 : hz_ln 139 = 4 := by decide
theorem dM_worth_35 : decode cM_worth 35 = .ok (.iconst 1, 1) := by decide +kernel
theorem dM_worth_36 : decode cM_worth 36 = .ok (.ireturn, 1) := by decide +kernel
def fM_worth (v1 : Int32) (v2 : Int32) (s0 : Sg) : Option (Int32 × Sg) := bnd (pt s0 102 0 0) fun s1 => bi (fM_isIn v1 0 3 s1) fun r3 s2 => if r3 = 0 then (gb 0 (some (0, s2))) else (bi (fM_isIn v2 0 99 s2) fun r5 s4 => if r5 = 0 then (gb 0 (some (0, s4))) else (gd v1 4 (bnd (pt s4 139 (ix v1) v2) fun s6 => gb 1 (some (1, s6)))))
set_option maxHeartbeats 4000000 in
set_option maxRecDepth 100000 in
theorem okM_worth (v1 : Int32) (v2 : Int32) (s0 : Sg) : ∀ (l : Launch) (w : WC), Ok l w yM_worth cM_worth 3 (some .boolean) 2 evI [.ref (w.ad 102), .int v1, .int v2] s0 (fM_worth v1 v2 s0) := by
  refine ok_in (ev := fun _ => evI) (av := fun w => [.ref (w.ad 102), .int v1, .int v2]) "LastWordHillModel" rfl (by decide +kernel) (fun _ => rfl) (fun _ => Nat.le_of_ble_eq_true rfl) ?_
  intro C X E
  show GF C evI 0 [some (.ref (C.w.ad 102)), some (.int v1), some (.int v2)] [] s0 (fM_worth v1 v2 s0)
  unfold fM_worth
  refine g_aload_n X dM_worth_0 rfl ?_
  refine g_iconst X 0 dM_worth_1 (by decide) ?_
  refine g_putI X fl_M_134 fb_12_0 fp_12_0 k_102 dM_worth_2 (fun s1 => ?_)
  refine g_aload_n X dM_worth_5 rfl ?_
  refine g_iload_n X dM_worth_6 rfl ?_
  refine g_iconst X 0 dM_worth_7 (by decide) ?_
  refine g_iconst X 3 dM_worth_8 (by decide) ?_
  refine g_virtI X [.int v1, .int 0, .int 3] [] k_102 mm_M_isIn mv_M_isIn ml_M_153 (okM_isIn v1 0 3 s1 C.l C.w) rfl (by decide) rfl (Nat.le_of_ble_eq_true rfl) dM_worth_9 (fun r3 s2 => ?_)
  refine g_zeq X (tgt := 26) dM_worth_12 (by decide) ?_ ?_
  · refine g_iconst X 0 dM_worth_26 (by decide) ?_
    exact g_zret X E dM_worth_27
  · refine g_aload_n X dM_worth_15 rfl ?_
    refine g_iload_n X dM_worth_16 rfl ?_
    refine g_iconst X 0 dM_worth_17 (by decide) ?_
    refine g_bipush X 99 dM_worth_18 (by decide) ?_
    refine g_virtI X [.int v2, .int 0, .int 99] [] k_102 mm_M_isIn mv_M_isIn ml_M_153 (okM_isIn v2 0 99 s2 C.l C.w) rfl (by decide) rfl (Nat.le_of_ble_eq_true rfl) dM_worth_20 (fun r5 s4 => ?_)
    refine g_zne X (tgt := 28) dM_worth_23 (by decide) ?_ ?_
    · refine g_iconst X 0 dM_worth_26 (by decide) ?_
      exact g_zret X E dM_worth_27
    · refine g_aload_n X dM_worth_28 rfl ?_
      refine g_getN X fl_M_125 fb_12_64 k_102 r_102_64 dM_worth_29 ?_
      refine g_iload_n X dM_worth_32 rfl ?_
      refine g_iload_n X dM_worth_33 rfl ?_
      refine g_iast X k_139 ln_139 dM_worth_34 (fun s6 => ?_)
      refine g_iconst X 1 dM_worth_35 (by decide) ?_
      exact g_zret X E dM_worth_36
def yM_isThere : MethodName := ⟨"LastWordHillModel", "isThere", "(I)Z"⟩
abbrev cM_isThere : ByteArray := prog_14_method_114_code
theorem dM_isThere_0 : decode cM_isThere 0 = .ok (.iconst 0, 1) := by decide +kernel
theorem dM_isThere_1 : decode cM_isThere 1 = .ok (.istore_n 2, 1) := by decide +kernel
theorem dM_isThere_2 : decode cM_isThere 2 = .ok (.iload_n 2, 1) := by decide +kernel
theorem dM_isThere_3 : decode cM_isThere 3 = .ok (.aload_n 0, 1) := by decide +kernel
theorem dM_isThere_4 : decode cM_isThere 4 = .ok (.getfield 146, 3) := by decide +kernel
theorem dM_isThere_7 : decode cM_isThere 7 = .ok (.if_icmp .ge 29, 3) := by decide +kernel
theorem dM_isThere_36 : decode cM_isThere 36 = .ok (.iconst 0, 1) := by decide +kernel
theorem dM_isThere_37 : decode cM_isThere 37 = .ok (.ireturn, 1) := by decide +kernel
theorem dM_isThere_10 : decode cM_isThere 10 = .ok (.aload_n 0, 1) := by decide +kernel
theorem dM_isThere_11 : decode cM_isThere 11 = .ok (.getfield 25, 3) := by decide +kernel
theorem dM_isThere_14 : decode cM_isThere 14 = .ok (.iload_n 2, 1) := by decide +kernel
theorem dM_isThere_15 : decode cM_isThere 15 = .ok (.iaload, 1) := by decide +kernel
theorem dM_isThere_16 : decode cM_isThere 16 = .ok (.iload_n 1, 1) := by decide +kernel
theorem dM_isThere_17 : decode cM_isThere 17 = .ok (.if_icmp .ne 13, 3) := by decide +kernel
theorem dM_isThere_30 : decode cM_isThere 30 = .ok (.iinc 2 1, 3) := by decide +kernel
theorem dM_isThere_33 : decode cM_isThere 33 = .ok (.goto (-31), 3) := by decide +kernel
theorem dM_isThere_20 : decode cM_isThere 20 = .ok (.aload_n 0, 1) := by decide +kernel
theorem dM_isThere_21 : decode cM_isThere 21 = .ok (.iload_n 2, 1) := by decide +kernel
theorem dM_isThere_22 : decode cM_isThere 22 = .ok (.invokevirtual 320, 3) := by decide +kernel
theorem dM_isThere_25 : decode cM_isThere 25 = .ok (.ifCond .eq 5, 3) := by decide +kernel
theorem dM_isThere_28 : decode cM_isThere 28 = .ok (.iconst 1, 1) := by decide +kernel
theorem dM_isThere_29 : decode cM_isThere 29 = .ok (.ireturn, 1) := by decide +kernel
def fM_isThere (v1 : Int32) (s0 : Sg) : Option (Int32 × Sg) := lp FU (fun q2 (u2 : Int32) (s1 : Sg) => if (s1 102 6) ≤ u2 then (gb 0 (some (0, s1))) else (gd u2 10 (bnd (fun (s2 : Sg) => q2 (u2 + 1) s2) fun j30 => if (s1 108 (ix u2)) = v1 then (bi (fM_isUp u2 s1) fun r4 s3 => if r4 = 0 then (j30 s3) else (gb 1 (some (1, s3)))) else (j30 s1)))) 0 s0
set_option maxHeartbeats 4000000 in
set_option maxRecDepth 100000 in
theorem okM_isThere (v1 : Int32) (s0 : Sg) : ∀ (l : Launch) (w : WC), Ok l w yM_isThere cM_isThere 3 (some .boolean) 2 evI [.ref (w.ad 102), .int v1] s0 (fM_isThere v1 s0) := by
  refine ok_in (ev := fun _ => evI) (av := fun w => [.ref (w.ad 102), .int v1]) "LastWordHillModel" rfl (by decide +kernel) (fun _ => rfl) (fun _ => Nat.le_of_ble_eq_true rfl) ?_
  intro C X E
  show GF C evI 0 [some (.ref (C.w.ad 102)), some (.int v1), none] [] s0 (fM_isThere v1 s0)
  unfold fM_isThere
  refine g_iconst X 0 dM_isThere_0 (by decide) ?_
  refine g_istore_n X [some (.ref (C.w.ad 102)), some (.int v1), some (.int 0)] dM_isThere_1 (by decide) (Nat.le_of_ble_eq_true rfl) rfl ?_
  refine gf_sub (L' := [some (.ref (C.w.ad 102)), some (.int v1), some (.int 0)]) ?_ (by simp [lsub])
  refine gf_lp (Lf := fun (u2 : Int32) => [some (.ref (C.w.ad 102)), some (.int v1), some (.int u2)]) (fun q2 hq2 u2 s1 => ?_) FU 0 s0
  refine g_iload_n X dM_isThere_2 rfl ?_
  refine g_aload_n X dM_isThere_3 rfl ?_
  refine g_getI X fl_M_146 fb_12_6 k_102 dM_isThere_4 ?_
  refine g_cge X (tgt := 36) dM_isThere_7 (by decide) ?_ ?_
  · refine g_iconst X 0 dM_isThere_36 (by decide) ?_
    exact g_zret X E dM_isThere_37
  · refine g_aload_n X dM_isThere_10 rfl ?_
    refine g_getN X fl_M_25 fb_12_9 k_102 r_102_9 dM_isThere_11 ?_
    refine g_iload_n X dM_isThere_14 rfl ?_
    refine g_iald X k_108 ln_108 dM_isThere_15 ?_
    refine g_iload_n X dM_isThere_16 rfl ?_
    refine gf_jn (fun j30 => ∀ (s2 : Sg), GF C evI 30 [some (.ref (C.w.ad 102)), some (.int v1), some (.int u2)] [] s2 (j30 s2)) ?_ ?_
    · intro s2
      refine g_iinc X (u2 + 1) [some (.ref (C.w.ad 102)), some (.int v1), some (.int (u2 + 1))] dM_isThere_30 rfl rfl (by decide) rfl ?_
      refine g_goto X 2 dM_isThere_33 (by decide) ?_
      exact gf_sub (hq2 (u2 + 1) s2) (by simp [lsub])
    · intro j30 hj30
      refine g_cne X (tgt := 30) dM_isThere_17 (by decide) ?_ ?_
      · refine g_aload_n X dM_isThere_20 rfl ?_
        refine g_iload_n X dM_isThere_21 rfl ?_
        refine g_virtI X [.int u2] [] k_102 mm_M_isUp mv_M_isUp ml_M_320 (okM_isUp u2 s1 C.l C.w) rfl (by decide) rfl (Nat.le_of_ble_eq_true rfl) dM_isThere_22 (fun r4 s3 => ?_)
        refine g_zeq X (tgt := 30) dM_isThere_25 (by decide) ?_ ?_
        · exact gf_sub (hj30 s3) (by simp [lsub])
        · refine g_iconst X 1 dM_isThere_28 (by decide) ?_
          exact g_zret X E dM_isThere_29
      · exact gf_sub (hj30 s1) (by simp [lsub])
def yM_worths : MethodName := ⟨"LastWordHillModel", "worths", "()I"⟩
abbrev cM_worths : ByteArray := prog_14_method_115_code
theorem dM_worths_0 : decode cM_worths 0 = .ok (.aload_n 0, 1) := by decide +kernel
theorem dM_worths_1 : decode cM_worths 1 = .ok (.iconst 0, 1) := by decide +kernel
theorem dM_worths_2 : decode cM_worths 2 = .ok (.putfield 134, 3) := by decide +kernel
theorem dM_worths_5 : decode cM_worths 5 = .ok (.iconst (-1), 1) := by decide +kernel
theorem dM_worths_6 : decode cM_worths 6 = .ok (.istore_n 1, 1) := by decide +kernel
theorem dM_worths_7 : decode cM_worths 7 = .ok (.iconst 0, 1) := by decide +kernel
theorem dM_worths_8 : decode cM_worths 8 = .ok (.istore_n 2, 1) := by decide +kernel
theorem dM_worths_9 : decode cM_worths 9 = .ok (.iload_n 2, 1) := by decide +kernel
theorem dM_worths_10 : decode cM_worths 10 = .ok (.iconst 4, 1) := by decide +kernel
theorem dM_worths_11 : decode cM_worths 11 = .ok (.if_icmp .ge 57, 3) := by decide +kernel
theorem dM_worths_68 : decode cM_worths 68 = .ok (.iload_n 1, 1) := by decide +kernel
theorem dM_worths_69 : decode cM_worths 69 = .ok (.ireturn, 1) := by decide +kernel
theorem dM_worths_14 : decode cM_worths 14 = .ok (.iconst 0, 1) := by decide +kernel
theorem dM_worths_15 : decode cM_worths 15 = .ok (.istore_n 3, 1) := by decide +kernel
theorem dM_worths_16 : decode cM_worths 16 = .ok (.iload_n 3, 1) := by decide +kernel
theorem dM_worths_17 : decode cM_worths 17 = .ok (.iload_n 2, 1) := by decide +kernel
theorem dM_worths_18 : decode cM_worths 18 = .ok (.if_icmp .ge 44, 3) := by decide +kernel
theorem dM_worths_62 : decode cM_worths 62 = .ok (.iinc 2 1, 3) := by decide +kernel
theorem dM_worths_65 : decode cM_worths 65 = .ok (.goto (-56), 3) := by decide +kernel
theorem dM_worths_21 : decode cM_worths 21 = .ok (.aload_n 0, 1) := by decide +kernel
theorem dM_worths_22 : decode cM_worths 22 = .ok (.iload_n 2, 1) := by decide +kernel
theorem dM_worths_23 : decode cM_worths 23 = .ok (.invokevirtual 462, 3) := by decide +kernel
theorem mm_M_isThere : MMc yM_isThere cM_isThere 3 (some .boolean) 1 := ⟨hz_in 2077 (by decide +kernel) (by decide +kernel), hz_in 147 (by decide +kernel) (by decide +kernel), by decide +kernel, by decide⟩
theorem mv_M_isThere : MMv yM_isThere 12 := ⟨hz_in 2076 (by decide +kernel) (by decide +kernel), hz_in 127 (by decide +kernel) (by decide +kernel), _, _, rfl, by decide⟩
theorem ml_M_462 : Cond.methodLink "LastWordHillModel" 462 yM_isThere ∈ hz_wt := hz_in 2074 (by decide +kernel) (by decide +kernel)
theorem dM_worths_26 : decode cM_worths 26 = .ok (.ifCond .eq 30, 3) := by decide +kernel
theorem dM_worths_56 : decode cM_worths 56 = .ok (.iinc 3 1, 3) := by decide +kernel
theorem dM_worths_59 : decode cM_worths 59 = .ok (.goto (-43), 3) := by decide +kernel
theorem dM_worths_29 : decode cM_worths 29 = .ok (.aload_n 0, 1) := by decide +kernel
theorem dM_worths_30 : decode cM_worths 30 = .ok (.iload_n 3, 1) := by decide +kernel
theorem dM_worths_31 : decode cM_worths 31 = .ok (.invokevirtual 462, 3) := by decide +kernel
theorem dM_worths_34 : decode cM_worths 34 = .ok (.ifCond .eq 22, 3) := by decide +kernel
theorem dM_worths_37 : decode cM_worths 37 = .ok (.aload_n 0, 1) := by decide +kernel
theorem dM_worths_38 : decode cM_worths 38 = .ok (.iload_n 1, 1) := by decide +kernel
theorem dM_worths_39 : decode cM_worths 39 = .ok (.aload_n 0, 1) := by decide +kernel
theorem dM_worths_40 : decode cM_worths 40 = .ok (.getfield 125, 3) := by decide +kernel
theorem dM_worths_43 : decode cM_worths 43 = .ok (.iload_n 2, 1) := by decide +kernel
theorem dM_worths_44 : decode cM_worths 44 = .ok (.iaload, 1) := by decide +kernel
theorem dM_worths_45 : decode cM_worths 45 = .ok (.aload_n 0, 1) := by decide +kernel
theorem dM_worths_46 : decode cM_worths 46 = .ok (.getfield 125, 3) := by decide +kernel
theorem dM_worths_49 : decode cM_worths 49 = .ok (.iload_n 3, 1) := by decide +kernel
theorem dM_worths_50 : decode cM_worths 50 = .ok (.iaload, 1) := by decide +kernel
theorem dM_worths_51 : decode cM_worths 51 = .ok (.iadd, 1) := by decide +kernel
theorem dM_worths_52 : decode cM_worths 52 = .ok (.invokevirtual 326, 3) := by decide +kernel
theorem dM_worths_55 : decode cM_worths 55 = .ok (.istore_n 1, 1) := by decide +kernel
def fM_worths (s0 : Sg) : Option (Int32 × Sg) := bnd (pt s0 102 0 0) fun s1 => lp FU (fun q9 (u9 : Int32 × Int32) (s2 : Sg) => if 4 ≤ u9.2 then (some (u9.1, s2)) else (lp FU (fun q16 (u16 : Int32 × Int32) (s3 : Sg) => if u9.2 ≤ u16.2 then (q9 (u16.1, (u9.2 + 1)) s3) else (bi (fM_isThere u9.2 s3) fun r5 s4 => bnd (fun (a56_1 : Int32) (s6 : Sg) => q16 (a56_1, (u16.2 + 1)) s6) fun j56 => if r5 = 0 then (j56 u16.1 s4) else (bi (fM_isThere u16.2 s4) fun r8 s7 => if r8 = 0 then (j56 u16.1 s7) else (gd u9.2 4 (gd u16.2 4 (bi (fM_greater u16.1 ((s7 139 (ix u9.2)) + (s7 139 (ix u16.2))) s7) fun r10 s9 => j56 r10 s9)))))) (u9.1, 0) s2)) ((-1), 0) s1
set_option maxHeartbeats 4000000 in
set_option maxRecDepth 100000 in
theorem okM_worths (s0 : Sg) : ∀ (l : Launch) (w : WC), Ok l w yM_worths cM_worths 4 (some .int) 3 evI [.ref (w.ad 102)] s0 (fM_worths s0) := by
  refine ok_in (ev := fun _ => evI) (av := fun w => [.ref (w.ad 102)]) "LastWordHillModel" rfl (by decide +kernel) (fun _ => rfl) (fun _ => Nat.le_of_ble_eq_true rfl) ?_
  intro C X E
  show GF C evI 0 [some (.ref (C.w.ad 102)), none, none, none] [] s0 (fM_worths s0)
  unfold fM_worths
  refine g_aload_n X dM_worths_0 rfl ?_
  refine g_iconst X 0 dM_worths_1 (by decide) ?_
  refine g_putI X fl_M_134 fb_12_0 fp_12_0 k_102 dM_worths_2 (fun s1 => ?_)
  refine g_iconst X (-1) dM_worths_5 (by decide) ?_
  refine g_istore_n X [some (.ref (C.w.ad 102)), some (.int (-1)), none, none] dM_worths_6 (by decide) (Nat.le_of_ble_eq_true rfl) rfl ?_
  refine g_iconst X 0 dM_worths_7 (by decide) ?_
  refine g_istore_n X [some (.ref (C.w.ad 102)), some (.int (-1)), some (.int 0), none] dM_worths_8 (by decide) (Nat.le_of_ble_eq_true rfl) rfl ?_
  refine gf_sub (L' := [some (.ref (C.w.ad 102)), some (.int (-1)), some (.int 0), none]) ?_ (by simp [lsub])
  refine gf_lp (Lf := fun (u9 : Int32 × Int32) => [some (.ref (C.w.ad 102)), some (.int u9.1), some (.int u9.2), none]) (fun q9 hq9 u9 s2 => ?_) FU ((-1), 0) s1
  refine g_iload_n X dM_worths_9 rfl ?_
  refine g_iconst X 4 dM_worths_10 (by decide) ?_
  refine g_cge X (tgt := 68) dM_worths_11 (by decide) ?_ ?_
  · refine g_iload_n X dM_worths_68 rfl ?_
    exact g_iret X E dM_worths_69
  · refine g_iconst X 0 dM_worths_14 (by decide) ?_
    refine g_istore_n X [some (.ref (C.w.ad 102)), some (.int u9.1), some (.int u9.2), some (.int 0)] dM_worths_15 (by decide) (Nat.le_of_ble_eq_true rfl) rfl ?_
    refine gf_sub (L' := [some (.ref (C.w.ad 102)), some (.int u9.1), some (.int u9.2), some (.int 0)]) ?_ (by simp [lsub])
    refine gf_lp (Lf := fun (u16 : Int32 × Int32) => [some (.ref (C.w.ad 102)), some (.int u16.1), some (.int u9.2), some (.int u16.2)]) (fun q16 hq16 u16 s3 => ?_) FU (u9.1, 0) s2
    refine g_iload_n X dM_worths_16 rfl ?_
    refine g_iload_n X dM_worths_17 rfl ?_
    refine g_cge X (tgt := 62) dM_worths_18 (by decide) ?_ ?_
    · refine g_iinc X (u9.2 + 1) [some (.ref (C.w.ad 102)), some (.int u16.1), some (.int (u9.2 + 1)), some (.int u16.2)] dM_worths_62 rfl rfl (by decide) rfl ?_
      refine g_goto X 9 dM_worths_65 (by decide) ?_
      exact gf_sub (hq9 (u16.1, (u9.2 + 1)) s3) (by simp [lsub])
    · refine g_aload_n X dM_worths_21 rfl ?_
      refine g_iload_n X dM_worths_22 rfl ?_
      refine g_virtI X [.int u9.2] [] k_102 mm_M_isThere mv_M_isThere ml_M_462 (okM_isThere u9.2 s3 C.l C.w) rfl (by decide) rfl (Nat.le_of_ble_eq_true rfl) dM_worths_23 (fun r5 s4 => ?_)
      refine gf_jn (fun j56 => ∀ (a56_1 : Int32) (s6 : Sg), GF C evI 56 [some (.ref (C.w.ad 102)), some (.int a56_1), some (.int u9.2), some (.int u16.2)] [] s6 (j56 a56_1 s6)) ?_ ?_
      · intro a56_1 s6
        refine g_iinc X (u16.2 + 1) [some (.ref (C.w.ad 102)), some (.int a56_1), some (.int u9.2), some (.int (u16.2 + 1))] dM_worths_56 rfl rfl (by decide) rfl ?_
        refine g_goto X 16 dM_worths_59 (by decide) ?_
        exact gf_sub (hq16 (a56_1, (u16.2 + 1)) s6) (by simp [lsub])
      · intro j56 hj56
        refine g_zeq X (tgt := 56) dM_worths_26 (by decide) ?_ ?_
        · exact gf_sub (hj56 u16.1 s4) (by simp [lsub])
        · refine g_aload_n X dM_worths_29 rfl ?_
          refine g_iload_n X dM_worths_30 rfl ?_
          refine g_virtI X [.int u16.2] [] k_102 mm_M_isThere mv_M_isThere ml_M_462 (okM_isThere u16.2 s4 C.l C.w) rfl (by decide) rfl (Nat.le_of_ble_eq_true rfl) dM_worths_31 (fun r8 s7 => ?_)
          refine g_zeq X (tgt := 56) dM_worths_34 (by decide) ?_ ?_
          · exact gf_sub (hj56 u16.1 s7) (by simp [lsub])
          · refine g_aload_n X dM_worths_37 rfl ?_
            refine g_iload_n X dM_worths_38 rfl ?_
            refine g_aload_n X dM_worths_39 rfl ?_
            refine g_getN X fl_M_125 fb_12_64 k_102 r_102_64 dM_worths_40 ?_
            refine g_iload_n X dM_worths_43 rfl ?_
            refine g_iald X k_139 ln_139 dM_worths_44 ?_
            refine g_aload_n X dM_worths_45 rfl ?_
            refine g_getN X fl_M_125 fb_12_64 k_102 r_102_64 dM_worths_46 ?_
            refine g_iload_n X dM_worths_49 rfl ?_
            refine g_iald X k_139 ln_139 dM_worths_50 ?_
            refine g_iadd X dM_worths_51 ?_
            refine g_virtI X [.int u16.1, .int ((s7 139 (ix u9.2)) + (s7 139 (ix u16.2)))] [] k_102 mm_M_greater mv_M_greater ml_M_326 (okM_greater u16.1 ((s7 139 (ix u9.2)) + (s7 139 (ix u16.2))) s7 C.l C.w) rfl (by decide) rfl (Nat.le_of_ble_eq_true rfl) dM_worths_52 (fun r10 s9 => ?_)
            refine g_istore_n X [some (.ref (C.w.ad 102)), some (.int r10), some (.int u9.2), some (.int u16.2)] dM_worths_55 (by decide) (Nat.le_of_ble_eq_true rfl) rfl ?_
            exact gf_sub (hj56 r10 s9) (by simp [lsub])
def yM_findsNimbers : MethodName := ⟨"LastWordHillModel", "findsNimbers", "()V"⟩
abbrev cM_findsNimbers : ByteArray := prog_14_method_116_code
theorem dM_findsNimbers_0 : decode cM_findsNimbers 0 = .ok (.iconst 0, 1) := by decide +kernel
theorem dM_findsNimbers_1 : decode cM_findsNimbers 1 = .ok (.istore_n 1, 1) := by decide +kernel
theorem dM_findsNimbers_2 : decode cM_findsNimbers 2 = .ok (.iload_n 1, 1) := by decide +kernel
theorem dM_findsNimbers_3 : decode cM_findsNimbers 3 = .ok (.bipush 99, 2) := by decide +kernel
theorem dM_findsNimbers_5 : decode cM_findsNimbers 5 = .ok (.if_icmp .gt 66, 3) := by decide +kernel
theorem dM_findsNimbers_71 : decode cM_findsNimbers 71 = .ok (.return_, 1) := by decide +kernel
theorem dM_findsNimbers_8 : decode cM_findsNimbers 8 = .ok (.iconst 0, 1) := by decide +kernel
theorem dM_findsNimbers_9 : decode cM_findsNimbers 9 = .ok (.istore_n 2, 1) := by decide +kernel
theorem dM_findsNimbers_10 : decode cM_findsNimbers 10 = .ok (.iconst 1, 1) := by decide +kernel
theorem dM_findsNimbers_11 : decode cM_findsNimbers 11 = .ok (.istore_n 3, 1) := by decide +kernel
theorem dM_findsNimbers_12 : decode cM_findsNimbers 12 = .ok (.iload_n 3, 1) := by decide +kernel
theorem dM_findsNimbers_13 : decode cM_findsNimbers 13 = .ok (.iload_n 3, 1) := by decide +kernel
theorem dM_findsNimbers_14 : decode cM_findsNimbers 14 = .ok (.imul, 1) := by decide +kernel
theorem dM_findsNimbers_15 : decode cM_findsNimbers 15 = .ok (.iload_n 1, 1) := by decide +kernel
theorem dM_findsNimbers_16 : decode cM_findsNimbers 16 = .ok (.if_icmp .gt 24, 3) := by decide +kernel
theorem dM_findsNimbers_40 : decode cM_findsNimbers 40 = .ok (.iconst 0, 1) := by decide +kernel
theorem dM_findsNimbers_41 : decode cM_findsNimbers 41 = .ok (.istore_n 3, 1) := by decide +kernel
theorem dM_findsNimbers_42 : decode cM_findsNimbers 42 = .ok (.aload_n 0, 1) := by decide +kernel
theorem dM_findsNimbers_43 : decode cM_findsNimbers 43 = .ok (.iload_n 2, 1) := by decide +kernel
theorem dM_findsNimbers_44 : decode cM_findsNimbers 44 = .ok (.iload_n 3, 1) := by decide +kernel
theorem dM_findsNimbers_45 : decode cM_findsNimbers 45 = .ok (.invokevirtual 361, 3) := by decide +kernel
theorem dM_findsNimbers_48 : decode cM_findsNimbers 48 = .ok (.ifCond .eq 10, 3) := by decide +kernel
theorem dM_findsNimbers_58 : decode cM_findsNimbers 58 = .ok (.aload_n 0, 1) := by decide +kernel
theorem dM_findsNimbers_59 : decode cM_findsNimbers 59 = .ok (.getfield 128, 3) := by decide +kernel
theorem fl_M_128 : FLk "LastWordHillModel" 128 12 65 := ⟨_, _, _, rfl, by decide, hz_in 1477 (by decide +kernel) (by decide +kernel), nL12, by decide, by decide⟩
theorem k_140 : hz_kd 140 = 13 := by decide
theorem fb_12_65 : (hz_bs 12)[65]? = some true := by decide
theorem r_102_65 : hz_rf 102 65 = 140 := by decide
theorem dM_findsNimbers_62 : decode cM_findsNimbers 62 = .ok (.iload_n 1, 1) := by decide +kernel
theorem dM_findsNimbers_63 : decode cM_findsNimbers 63 = .ok (.iload_n 3, 1) := by decide +kernel
theorem dM_findsNimbers_64 : decode cM_findsNimbers 64 = .ok (.iastore, 1) := by decide +kernel
theorem ln_140 : hz_ln 140 = 100 := by decide
theorem dM_findsNimbers_65 : decode cM_findsNimbers 65 = .ok (.iinc 1 1, 3) := by decide +kernel
theorem dM_findsNimbers_68 : decode cM_findsNimbers 68 = .ok (.goto (-66), 3) := by decide +kernel
theorem dM_findsNimbers_51 : decode cM_findsNimbers 51 = .ok (.iload_n 3, 1) := by decide +kernel
theorem dM_findsNimbers_52 : decode cM_findsNimbers 52 = .ok (.iconst 1, 1) := by decide +kernel
theorem dM_findsNimbers_53 : decode cM_findsNimbers 53 = .ok (.iadd, 1) := by decide +kernel
theorem dM_findsNimbers_54 : decode cM_findsNimbers 54 = .ok (.istore_n 3, 1) := by decide +kernel
theorem dM_findsNimbers_55 : decode cM_findsNimbers 55 = .ok (.goto (-13), 3) := by decide +kernel
theorem dM_findsNimbers_19 : decode cM_findsNimbers 19 = .ok (.iload_n 2, 1) := by decide +kernel
theorem dM_findsNimbers_20 : decode cM_findsNimbers 20 = .ok (.iconst 1, 1) := by decide +kernel
theorem dM_findsNimbers_21 : decode cM_findsNimbers 21 = .ok (.aload_n 0, 1) := by decide +kernel
theorem dM_findsNimbers_22 : decode cM_findsNimbers 22 = .ok (.getfield 128, 3) := by decide +kernel
theorem dM_findsNimbers_25 : decode cM_findsNimbers 25 = .ok (.iload_n 1, 1) := by decide +kernel
theorem dM_findsNimbers_26 : decode cM_findsNimbers 26 = .ok (.iload_n 3, 1) := by decide +kernel
theorem dM_findsNimbers_27 : decode cM_findsNimbers 27 = .ok (.iload_n 3, 1) := by decide +kernel
theorem dM_findsNimbers_28 : decode cM_findsNimbers 28 = .ok (.imul, 1) := by decide +kernel
theorem dM_findsNimbers_29 : decode cM_findsNimbers 29 = .ok (.isub, 1) := by decide +kernel
theorem dM_findsNimbers_30 : decode cM_findsNimbers 30 = .ok (.iaload, 1) := by decide +kernel
theorem dM_findsNimbers_31 : decode cM_findsNimbers 31 = .ok (.ishl, 1) := by decide +kernel
theorem dM_findsNimbers_32 : decode cM_findsNimbers 32 = .ok (.ior, 1) := by decide +kernel
theorem dM_findsNimbers_33 : decode cM_findsNimbers 33 = .ok (.istore_n 2, 1) := by decide +kernel
theorem dM_findsNimbers_34 : decode cM_findsNimbers 34 = .ok (.iinc 3 1, 3) := by decide +kernel
theorem dM_findsNimbers_37 : decode cM_findsNimbers 37 = .ok (.goto (-25), 3) := by decide +kernel
def fM_findsNimbers (s0 : Sg) : Option (Sg) := lp FU (fun q2 (u2 : Int32) (s1 : Sg) => if 99 < u2 then (some s1) else (lp FU (fun q12 (u12 : Int32 × Int32) (s2 : Sg) => if u2 < (u12.2 * u12.2) then (lp FU (fun q42 (u42 : Int32) (s3 : Sg) => bi (fM_has u12.1 u42 s3) fun r5 s4 => if r5 = 0 then (gd u2 100 (bnd (pt s4 140 (ix u2) u42) fun s6 => q2 (u2 + 1) s6)) else (q42 (u42 + 1) s4)) 0 s2) else (gd (u2 - (u12.2 * u12.2)) 100 (bnd (u12.1 ||| (1 <<< ((s2 140 (ix (u2 - (u12.2 * u12.2)))) &&& 31))) fun x7 => q12 (x7, (u12.2 + 1)) s2))) (0, 1) s1)) 0 s0
set_option maxHeartbeats 4000000 in
set_option maxRecDepth 100000 in
theorem okM_findsNimbers (s0 : Sg) : ∀ (l : Launch) (w : WC), Ok l w yM_findsNimbers cM_findsNimbers 4 none 2 evV [.ref (w.ad 102)] s0 (fM_findsNimbers s0) := by
  refine ok_in (ev := fun _ => evV) (av := fun w => [.ref (w.ad 102)]) "LastWordHillModel" rfl (by decide +kernel) (fun _ => rfl) (fun _ => Nat.le_of_ble_eq_true rfl) ?_
  intro C X E
  show GF C evV 0 [some (.ref (C.w.ad 102)), none, none, none] [] s0 (fM_findsNimbers s0)
  unfold fM_findsNimbers
  refine g_iconst X 0 dM_findsNimbers_0 (by decide) ?_
  refine g_istore_n X [some (.ref (C.w.ad 102)), some (.int 0), none, none] dM_findsNimbers_1 (by decide) (Nat.le_of_ble_eq_true rfl) rfl ?_
  refine gf_sub (L' := [some (.ref (C.w.ad 102)), some (.int 0), none, none]) ?_ (by simp [lsub])
  refine gf_lp (Lf := fun (u2 : Int32) => [some (.ref (C.w.ad 102)), some (.int u2), none, none]) (fun q2 hq2 u2 s1 => ?_) FU 0 s0
  refine g_iload_n X dM_findsNimbers_2 rfl ?_
  refine g_bipush X 99 dM_findsNimbers_3 (by decide) ?_
  refine g_cgt X (tgt := 71) dM_findsNimbers_5 (by decide) ?_ ?_
  · exact g_vret X E dM_findsNimbers_71
  · refine g_iconst X 0 dM_findsNimbers_8 (by decide) ?_
    refine g_istore_n X [some (.ref (C.w.ad 102)), some (.int u2), some (.int 0), none] dM_findsNimbers_9 (by decide) (Nat.le_of_ble_eq_true rfl) rfl ?_
    refine g_iconst X 1 dM_findsNimbers_10 (by decide) ?_
    refine g_istore_n X [some (.ref (C.w.ad 102)), some (.int u2), some (.int 0), some (.int 1)] dM_findsNimbers_11 (by decide) (Nat.le_of_ble_eq_true rfl) rfl ?_
    refine gf_sub (L' := [some (.ref (C.w.ad 102)), some (.int u2), some (.int 0), some (.int 1)]) ?_ (by simp [lsub])
    refine gf_lp (Lf := fun (u12 : Int32 × Int32) => [some (.ref (C.w.ad 102)), some (.int u2), some (.int u12.1), some (.int u12.2)]) (fun q12 hq12 u12 s2 => ?_) FU (0, 1) s1
    refine g_iload_n X dM_findsNimbers_12 rfl ?_
    refine g_iload_n X dM_findsNimbers_13 rfl ?_
    refine g_imul X dM_findsNimbers_14 ?_
    refine g_iload_n X dM_findsNimbers_15 rfl ?_
    refine g_cgt X (tgt := 40) dM_findsNimbers_16 (by decide) ?_ ?_
    · refine g_iconst X 0 dM_findsNimbers_40 (by decide) ?_
      refine g_istore_n X [some (.ref (C.w.ad 102)), some (.int u2), some (.int u12.1), some (.int 0)] dM_findsNimbers_41 (by decide) (Nat.le_of_ble_eq_true rfl) rfl ?_
      refine gf_sub (L' := [some (.ref (C.w.ad 102)), some (.int u2), some (.int u12.1), some (.int 0)]) ?_ (by simp [lsub])
      refine gf_lp (Lf := fun (u42 : Int32) => [some (.ref (C.w.ad 102)), some (.int u2), some (.int u12.1), some (.int u42)]) (fun q42 hq42 u42 s3 => ?_) FU 0 s2
      refine g_aload_n X dM_findsNimbers_42 rfl ?_
      refine g_iload_n X dM_findsNimbers_43 rfl ?_
      refine g_iload_n X dM_findsNimbers_44 rfl ?_
      refine g_virtI X [.int u12.1, .int u42] [] k_102 mm_M_has mv_M_has ml_M_361 (okM_has u12.1 u42 s3 C.l C.w) rfl (by decide) rfl (Nat.le_of_ble_eq_true rfl) dM_findsNimbers_45 (fun r5 s4 => ?_)
      refine g_zeq X (tgt := 58) dM_findsNimbers_48 (by decide) ?_ ?_
      · refine g_aload_n X dM_findsNimbers_58 rfl ?_
        refine g_getN X fl_M_128 fb_12_65 k_102 r_102_65 dM_findsNimbers_59 ?_
        refine g_iload_n X dM_findsNimbers_62 rfl ?_
        refine g_iload_n X dM_findsNimbers_63 rfl ?_
        refine g_iast X k_140 ln_140 dM_findsNimbers_64 (fun s6 => ?_)
        refine g_iinc X (u2 + 1) [some (.ref (C.w.ad 102)), some (.int (u2 + 1)), some (.int u12.1), some (.int u42)] dM_findsNimbers_65 rfl rfl (by decide) rfl ?_
        refine g_goto X 2 dM_findsNimbers_68 (by decide) ?_
        exact gf_sub (hq2 (u2 + 1) s6) (by simp [lsub])
      · refine g_iload_n X dM_findsNimbers_51 rfl ?_
        refine g_iconst X 1 dM_findsNimbers_52 (by decide) ?_
        refine g_iadd X dM_findsNimbers_53 ?_
        refine g_istore_n X [some (.ref (C.w.ad 102)), some (.int u2), some (.int u12.1), some (.int (u42 + 1))] dM_findsNimbers_54 (by decide) (Nat.le_of_ble_eq_true rfl) rfl ?_
        refine g_goto X 42 dM_findsNimbers_55 (by decide) ?_
        exact gf_sub (hq42 (u42 + 1) s4) (by simp [lsub])
    · refine g_iload_n X dM_findsNimbers_19 rfl ?_
      refine g_iconst X 1 dM_findsNimbers_20 (by decide) ?_
      refine g_aload_n X dM_findsNimbers_21 rfl ?_
      refine g_getN X fl_M_128 fb_12_65 k_102 r_102_65 dM_findsNimbers_22 ?_
      refine g_iload_n X dM_findsNimbers_25 rfl ?_
      refine g_iload_n X dM_findsNimbers_26 rfl ?_
      refine g_iload_n X dM_findsNimbers_27 rfl ?_
      refine g_imul X dM_findsNimbers_28 ?_
      refine g_isub X dM_findsNimbers_29 ?_
      refine g_iald X k_140 ln_140 dM_findsNimbers_30 ?_
      refine g_ishl X dM_findsNimbers_31 ?_
      refine g_ior X dM_findsNimbers_32 ?_
      refine gf_nm (fun x7 => ?_)
      refine g_istore_n X [some (.ref (C.w.ad 102)), some (.int u2), some (.int x7), some (.int u12.2)] dM_findsNimbers_33 (by decide) (Nat.le_of_ble_eq_true rfl) rfl ?_
      refine g_iinc X (u12.2 + 1) [some (.ref (C.w.ad 102)), some (.int u2), some (.int x7), some (.int (u12.2 + 1))] dM_findsNimbers_34 rfl rfl (by decide) rfl ?_
      refine g_goto X 12 dM_findsNimbers_37 (by decide) ?_
      exact gf_sub (hq12 (x7, (u12.2 + 1)) s2) (by simp [lsub])
