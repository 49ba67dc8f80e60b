def yLa_addCode : MethodName := ⟨"LastWordHill$Law", "addCode", "(I)V"⟩
abbrev cLa_addCode : ByteArray := prog_3_method_4_code
theorem dLa_addCode_0 : decode cLa_addCode 0 = .ok (.aload_n 0, 1) := by decide +kernel
theorem dLa_addCode_1 : decode cLa_addCode 1 = .ok (.getfield 31, 3) := by decide +kernel
theorem fl_La_31 : FLk "LastWordHill$Law" 31 1 3 := ⟨_, _, _, rfl, by decide, hz_in 296 (by decide +kernel) (by decide +kernel), nL1, by decide, by decide⟩
theorem fb_1_3 : (hz_bs 1)[3]? = some false := by decide
theorem dLa_addCode_4 : decode cLa_addCode 4 = .ok (.aload_n 0, 1) := by decide +kernel
theorem dLa_addCode_5 : decode cLa_addCode 5 = .ok (.getfield 20, 3) := by decide +kernel
theorem fl_La_20 : FLk "LastWordHill$Law" 20 1 1 := ⟨_, _, _, rfl, by decide, hz_in 294 (by decide +kernel) (by decide +kernel), nL1, by decide, by decide⟩
theorem fb_1_1 : (hz_bs 1)[1]? = some true := by decide
theorem dLa_addCode_8 : decode cLa_addCode 8 = .ok (.arraylength, 1) := by decide +kernel
theorem dLa_addCode_9 : decode cLa_addCode 9 = .ok (.if_icmp .ge 23, 3) := by decide +kernel
theorem dLa_addCode_32 : decode cLa_addCode 32 = .ok (.return_, 1) := by decide +kernel
theorem dLa_addCode_12 : decode cLa_addCode 12 = .ok (.aload_n 0, 1) := by decide +kernel
theorem dLa_addCode_13 : decode cLa_addCode 13 = .ok (.getfield 20, 3) := by decide +kernel
theorem dLa_addCode_16 : decode cLa_addCode 16 = .ok (.aload_n 0, 1) := by decide +kernel
theorem dLa_addCode_17 : decode cLa_addCode 17 = .ok (.getfield 31, 3) := by decide +kernel
theorem dLa_addCode_20 : decode cLa_addCode 20 = .ok (.iload_n 1, 1) := by decide +kernel
theorem dLa_addCode_21 : decode cLa_addCode 21 = .ok (.iastore, 1) := by decide +kernel
theorem dLa_addCode_22 : decode cLa_addCode 22 = .ok (.aload_n 0, 1) := by decide +kernel
theorem dLa_addCode_23 : decode cLa_addCode 23 = .ok (.dup, 1) := by decide +kernel
theorem dLa_addCode_24 : decode cLa_addCode 24 = .ok (.getfield 31, 3) := by decide +kernel
theorem dLa_addCode_27 : decode cLa_addCode 27 = .ok (.iconst 1, 1) := by decide +kernel
theorem dLa_addCode_28 : decode cLa_addCode 28 = .ok (.iadd, 1) := by decide +kernel
theorem dLa_addCode_29 : decode cLa_addCode 29 = .ok (.putfield 31, 3) := by decide +kernel
theorem fp_1_3 : FLp 1 3 .int := ⟨_, _, _, _, rfl, nY1, nN1, by decide, by decide⟩
def fLa_addCode (o0 : Nat) (v1 : Int32) (s0 : Sg) : Option (Sg) := if (nI 400) ≤ (s0 o0 3) then (some s0) else (gd (s0 o0 3) 400 (bnd (pt s0 (hz_rf o0 1) (ix (s0 o0 3)) v1) fun s1 => bnd (pt s1 o0 3 ((s1 o0 3) + 1)) fun s2 => some s2))
set_option maxHeartbeats 4000000 in
set_option maxRecDepth 100000 in
theorem okLa_addCode (o0 : Nat) (v1 : Int32) (s0 : Sg) (h0 : hz_kd o0 = 1) : ∀ (l : Launch) (w : WC), Ok l w yLa_addCode cLa_addCode 2 none 1 evV [.ref (w.ad o0), .int v1] s0 (fLa_addCode o0 v1 s0) := by
  refine ok_in (ev := fun _ => evV) (av := fun w => [.ref (w.ad o0), .int v1]) "LastWordHill$Law" rfl (by decide +kernel) (fun _ => rfl) (fun _ => Nat.le_of_ble_eq_true rfl) ?_
  intro C X E
  show GF C evV 0 [some (.ref (C.w.ad o0)), some (.int v1)] [] s0 (fLa_addCode o0 v1 s0)
  unfold fLa_addCode
  refine g_aload_n X dLa_addCode_0 rfl ?_
  refine g_getI X fl_La_31 fb_1_3 h0 dLa_addCode_1 ?_
  refine g_aload_n X dLa_addCode_4 rfl ?_
  refine g_getR X fl_La_20 fb_1_1 h0 dLa_addCode_5 ?_
  refine g_alen X (sk_1_1 h0) (sl_1_1 h0) dLa_addCode_8 ?_
  refine g_cge X (tgt := 32) dLa_addCode_9 (by decide) ?_ ?_
  · exact g_vret X E dLa_addCode_32
  · refine g_aload_n X dLa_addCode_12 rfl ?_
    refine g_getR X fl_La_20 fb_1_1 h0 dLa_addCode_13 ?_
    refine g_aload_n X dLa_addCode_16 rfl ?_
    refine g_getI X fl_La_31 fb_1_3 h0 dLa_addCode_17 ?_
    refine g_iload_n X dLa_addCode_20 rfl ?_
    refine g_iast X (sk_1_1 h0) (sl_1_1 h0) dLa_addCode_21 (fun s1 => ?_)
    refine g_aload_n X dLa_addCode_22 rfl ?_
    refine g_dup X dLa_addCode_23 rfl ?_
    refine g_getI X fl_La_31 fb_1_3 h0 dLa_addCode_24 ?_
    refine g_iconst X 1 dLa_addCode_27 (by decide) ?_
    refine g_iadd X dLa_addCode_28 ?_
    refine g_putI X fl_La_31 fb_1_3 fp_1_3 h0 dLa_addCode_29 (fun s2 => ?_)
    exact g_vret X E dLa_addCode_32
def yLa_joined : MethodName := ⟨"LastWordHill$Law", "joined", "(III)I"⟩
abbrev cLa_joined : ByteArray := prog_3_method_8_code
theorem dLa_joined_0 : decode cLa_joined 0 = .ok (.iload_n 0, 1) := by decide +kernel
theorem dLa_joined_1 : decode cLa_joined 1 = .ok (.lookupswitch 116 #[(42, 75), (43, 67), (45, 71), (60, 79), (61, 90), (62, 101), (261, 112)], 67) := by decide +kernel
theorem dLa_joined_117 : decode cLa_joined 117 = .ok (.iload_n 1, 1) := by decide +kernel
theorem dLa_joined_118 : decode cLa_joined 118 = .ok (.iload_n 2, 1) := by decide +kernel
theorem dLa_joined_119 : decode cLa_joined 119 = .ok (.ior, 1) := by decide +kernel
theorem dLa_joined_120 : decode cLa_joined 120 = .ok (.ireturn, 1) := by decide +kernel
theorem dLa_joined_113 : decode cLa_joined 113 = .ok (.iload_n 1, 1) := by decide +kernel
theorem dLa_joined_114 : decode cLa_joined 114 = .ok (.iload_n 2, 1) := by decide +kernel
theorem dLa_joined_115 : decode cLa_joined 115 = .ok (.iand, 1) := by decide +kernel
theorem dLa_joined_116 : decode cLa_joined 116 = .ok (.ireturn, 1) := by decide +kernel
theorem dLa_joined_102 : decode cLa_joined 102 = .ok (.iload_n 1, 1) := by decide +kernel
theorem dLa_joined_103 : decode cLa_joined 103 = .ok (.iload_n 2, 1) := by decide +kernel
theorem dLa_joined_104 : decode cLa_joined 104 = .ok (.if_icmp .le 7, 3) := by decide +kernel
theorem dLa_joined_111 : decode cLa_joined 111 = .ok (.iconst 0, 1) := by decide +kernel
theorem dLa_joined_112 : decode cLa_joined 112 = .ok (.ireturn, 1) := by decide +kernel
theorem dLa_joined_107 : decode cLa_joined 107 = .ok (.iconst 1, 1) := by decide +kernel
theorem dLa_joined_108 : decode cLa_joined 108 = .ok (.goto 4, 3) := by decide +kernel
theorem dLa_joined_91 : decode cLa_joined 91 = .ok (.iload_n 1, 1) := by decide +kernel
theorem dLa_joined_92 : decode cLa_joined 92 = .ok (.iload_n 2, 1) := by decide +kernel
theorem dLa_joined_93 : decode cLa_joined 93 = .ok (.if_icmp .ne 7, 3) := by decide +kernel
theorem dLa_joined_100 : decode cLa_joined 100 = .ok (.iconst 0, 1) := by decide +kernel
theorem dLa_joined_101 : decode cLa_joined 101 = .ok (.ireturn, 1) := by decide +kernel
theorem dLa_joined_96 : decode cLa_joined 96 = .ok (.iconst 1, 1) := by decide +kernel
theorem dLa_joined_97 : decode cLa_joined 97 = .ok (.goto 4, 3) := by decide +kernel
theorem dLa_joined_80 : decode cLa_joined 80 = .ok (.iload_n 1, 1) := by decide +kernel
theorem dLa_joined_81 : decode cLa_joined 81 = .ok (.iload_n 2, 1) := by decide +kernel
theorem dLa_joined_82 : decode cLa_joined 82 = .ok (.if_icmp .ge 7, 3) := by decide +kernel
theorem dLa_joined_89 : decode cLa_joined 89 = .ok (.iconst 0, 1) := by decide +kernel
theorem dLa_joined_90 : decode cLa_joined 90 = .ok (.ireturn, 1) := by decide +kernel
theorem dLa_joined_85 : decode cLa_joined 85 = .ok (.iconst 1, 1) := by decide +kernel
theorem dLa_joined_86 : decode cLa_joined 86 = .ok (.goto 4, 3) := by decide +kernel
theorem dLa_joined_72 : decode cLa_joined 72 = .ok (.iload_n 1, 1) := by decide +kernel
theorem dLa_joined_73 : decode cLa_joined 73 = .ok (.iload_n 2, 1) := by decide +kernel
theorem dLa_joined_74 : decode cLa_joined 74 = .ok (.isub, 1) := by decide +kernel
theorem dLa_joined_75 : decode cLa_joined 75 = .ok (.ireturn, 1) := by decide +kernel
theorem dLa_joined_68 : decode cLa_joined 68 = .ok (.iload_n 1, 1) := by decide +kernel
theorem dLa_joined_69 : decode cLa_joined 69 = .ok (.iload_n 2, 1) := by decide +kernel
theorem dLa_joined_70 : decode cLa_joined 70 = .ok (.iadd, 1) := by decide +kernel
theorem dLa_joined_71 : decode cLa_joined 71 = .ok (.ireturn, 1) := by decide +kernel
theorem dLa_joined_76 : decode cLa_joined 76 = .ok (.iload_n 1, 1) := by decide +kernel
theorem dLa_joined_77 : decode cLa_joined 77 = .ok (.iload_n 2, 1) := by decide +kernel
theorem dLa_joined_78 : decode cLa_joined 78 = .ok (.imul, 1) := by decide +kernel
theorem dLa_joined_79 : decode cLa_joined 79 = .ok (.ireturn, 1) := by decide +kernel
def fLa_joined (v0 : Int32) (v1 : Int32) (v2 : Int32) (s0 : Sg) : Option (Int32 × Sg) := if v0 = 42 then (some ((v1 * v2), s0)) else (if v0 = 43 then (some ((v1 + v2), s0)) else (if v0 = 45 then (some ((v1 - v2), s0)) else (if v0 = 60 then (if v2 ≤ v1 then (some (0, s0)) else (some (1, s0))) else (if v0 = 61 then (if v1 = v2 then (some (1, s0)) else (some (0, s0))) else (if v0 = 62 then (if v1 ≤ v2 then (some (0, s0)) else (some (1, s0))) else (if v0 = 261 then (some ((v1 &&& v2), s0)) else (some ((v1 ||| v2), s0))))))))
set_option maxHeartbeats 4000000 in
set_option maxRecDepth 100000 in
theorem okLa_joined (v0 : Int32) (v1 : Int32) (v2 : Int32) (s0 : Sg) : ∀ (l : Launch) (w : WC), Ok l w yLa_joined cLa_joined 3 (some .int) 1 evI [.int v0, .int v1, .int v2] s0 (fLa_joined v0 v1 v2 s0) := by
  refine ok_in (ev := fun _ => evI) (av := fun w => [.int v0, .int v1, .int v2]) "LastWordHill$Law" rfl (by decide +kernel) (fun _ => rfl) (fun _ => Nat.le_of_ble_eq_true rfl) ?_
  intro C X E
  show GF C evI 0 [some (.int v0), some (.int v1), some (.int v2)] [] s0 (fLa_joined v0 v1 v2 s0)
  unfold fLa_joined
  refine g_iload_n X dLa_joined_0 rfl ?_
  refine gf_ite (fun c1_0 => ?_) (fun c1_0 => ?_)
  · refine g_look X (tgt := 76) (off := 75) dLa_joined_1 (by decide) (by rw [c1_0]; decide) (by decide) ?_
    refine g_iload_n X dLa_joined_76 rfl ?_
    refine g_iload_n X dLa_joined_77 rfl ?_
    refine g_imul X dLa_joined_78 ?_
    exact g_iret X E dLa_joined_79
  · refine gf_ite (fun c1_1 => ?_) (fun c1_1 => ?_)
    · refine g_look X (tgt := 68) (off := 67) dLa_joined_1 (by decide) (by rw [c1_1]; decide) (by decide) ?_
      refine g_iload_n X dLa_joined_68 rfl ?_
      refine g_iload_n X dLa_joined_69 rfl ?_
      refine g_iadd X dLa_joined_70 ?_
      exact g_iret X E dLa_joined_71
    · refine gf_ite (fun c1_2 => ?_) (fun c1_2 => ?_)
      · refine g_look X (tgt := 72) (off := 71) dLa_joined_1 (by decide) (by rw [c1_2]; decide) (by decide) ?_
        refine g_iload_n X dLa_joined_72 rfl ?_
        refine g_iload_n X dLa_joined_73 rfl ?_
        refine g_isub X dLa_joined_74 ?_
        exact g_iret X E dLa_joined_75
      · refine gf_ite (fun c1_3 => ?_) (fun c1_3 => ?_)
        · refine g_look X (tgt := 80) (off := 79) dLa_joined_1 (by decide) (by rw [c1_3]; decide) (by decide) ?_
          refine g_iload_n X dLa_joined_80 rfl ?_
          refine g_iload_n X dLa_joined_81 rfl ?_
          refine g_cge X (tgt := 89) dLa_joined_82 (by decide) ?_ ?_
          · refine g_iconst X 0 dLa_joined_89 (by decide) ?_
            exact g_iret X E dLa_joined_90
          · refine g_iconst X 1 dLa_joined_85 (by decide) ?_
            refine g_goto X 90 dLa_joined_86 (by decide) ?_
            exact g_iret X E dLa_joined_90
        · refine gf_ite (fun c1_4 => ?_) (fun c1_4 => ?_)
          · refine g_look X (tgt := 91) (off := 90) dLa_joined_1 (by decide) (by rw [c1_4]; decide) (by decide) ?_
            refine g_iload_n X dLa_joined_91 rfl ?_
            refine g_iload_n X dLa_joined_92 rfl ?_
            refine g_cne X (tgt := 100) dLa_joined_93 (by decide) ?_ ?_
            · refine g_iconst X 1 dLa_joined_96 (by decide) ?_
              refine g_goto X 101 dLa_joined_97 (by decide) ?_
              exact g_iret X E dLa_joined_101
            · refine g_iconst X 0 dLa_joined_100 (by decide) ?_
              exact g_iret X E dLa_joined_101
          · refine gf_ite (fun c1_5 => ?_) (fun c1_5 => ?_)
            · refine g_look X (tgt := 102) (off := 101) dLa_joined_1 (by decide) (by rw [c1_5]; decide) (by decide) ?_
              refine g_iload_n X dLa_joined_102 rfl ?_
              refine g_iload_n X dLa_joined_103 rfl ?_
              refine g_cle X (tgt := 111) dLa_joined_104 (by decide) ?_ ?_
              · refine g_iconst X 0 dLa_joined_111 (by decide) ?_
                exact g_iret X E dLa_joined_112
              · refine g_iconst X 1 dLa_joined_107 (by decide) ?_
                refine g_goto X 112 dLa_joined_108 (by decide) ?_
                exact g_iret X E dLa_joined_112
            · refine gf_ite (fun c1_6 => ?_) (fun c1_6 => ?_)
              · refine g_look X (tgt := 113) (off := 112) dLa_joined_1 (by decide) (by rw [c1_6]; decide) (by decide) ?_
                refine g_iload_n X dLa_joined_113 rfl ?_
                refine g_iload_n X dLa_joined_114 rfl ?_
                refine g_iand X dLa_joined_115 ?_
                exact g_iret X E dLa_joined_116
              · refine g_look X (tgt := 117) (off := 116) dLa_joined_1 (by decide) (by rw [lv_osw c1_0 (by decide)]; rw [lv_osw c1_1 (by decide)]; rw [lv_osw c1_2 (by decide)]; rw [lv_osw c1_3 (by decide)]; rw [lv_osw c1_4 (by decide)]; rw [lv_osw c1_5 (by decide)]; rw [lv_osw c1_6 (by decide)]; rfl) (by decide) ?_
                refine g_iload_n X dLa_joined_117 rfl ?_
                refine g_iload_n X dLa_joined_118 rfl ?_
                refine g_ior X dLa_joined_119 ?_
                exact g_iret X E dLa_joined_120
theorem k_66 : hz_kd 66 = 2 := by decide
def yMu_takeCover : MethodName := ⟨"LastWordHill$Muse", "takeCover", "(II)V"⟩
abbrev cMu_takeCover : ByteArray := prog_4_method_6_code
theorem dMu_takeCover_0 : decode cMu_takeCover 0 = .ok (.aload_n 0, 1) := by decide +kernel
theorem dMu_takeCover_1 : decode cMu_takeCover 1 = .ok (.getfield 47, 3) := by decide +kernel
theorem fl_Mu_47 : FLk "LastWordHill$Muse" 47 2 7 := ⟨_, _, _, rfl, by decide, hz_in 499 (by decide +kernel) (by decide +kernel), nL2, by decide, by decide⟩
theorem fb_2_7 : (hz_bs 2)[7]? = some false := by decide
theorem dMu_takeCover_4 : decode cMu_takeCover 4 = .ok (.iconst (-1), 1) := by decide +kernel
theorem dMu_takeCover_5 : decode cMu_takeCover 5 = .ok (.if_icmp .eq 27, 3) := by decide +kernel
theorem dMu_takeCover_32 : decode cMu_takeCover 32 = .ok (.aload_n 0, 1) := by decide +kernel
theorem dMu_takeCover_33 : decode cMu_takeCover 33 = .ok (.iload_n 2, 1) := by decide +kernel
theorem dMu_takeCover_34 : decode cMu_takeCover 34 = .ok (.putfield 47, 3) := by decide +kernel
theorem fp_2_7 : FLp 2 7 .int := ⟨_, _, _, _, rfl, nY2, nN2, by decide, by decide⟩
theorem dMu_takeCover_37 : decode cMu_takeCover 37 = .ok (.aload_n 0, 1) := by decide +kernel
theorem dMu_takeCover_38 : decode cMu_takeCover 38 = .ok (.iload_n 1, 1) := by decide +kernel
theorem dMu_takeCover_39 : decode cMu_takeCover 39 = .ok (.putfield 51, 3) := by decide +kernel
theorem fl_Mu_51 : FLk "LastWordHill$Muse" 51 2 8 := ⟨_, _, _, rfl, by decide, hz_in 501 (by decide +kernel) (by decide +kernel), nL2, by decide, by decide⟩
theorem fb_2_8 : (hz_bs 2)[8]? = some false := by decide
theorem fp_2_8 : FLp 2 8 .int := ⟨_, _, _, _, rfl, nY2, nN2, by decide, by decide⟩
theorem dMu_takeCover_42 : decode cMu_takeCover 42 = .ok (.return_, 1) := by decide +kernel
theorem dMu_takeCover_8 : decode cMu_takeCover 8 = .ok (.iload_n 2, 1) := by decide +kernel
theorem dMu_takeCover_9 : decode cMu_takeCover 9 = .ok (.aload_n 0, 1) := by decide +kernel
theorem dMu_takeCover_10 : decode cMu_takeCover 10 = .ok (.getfield 47, 3) := by decide +kernel
theorem dMu_takeCover_13 : decode cMu_takeCover 13 = .ok (.if_icmp .lt 19, 3) := by decide +kernel
theorem dMu_takeCover_16 : decode cMu_takeCover 16 = .ok (.iload_n 2, 1) := by decide +kernel
theorem dMu_takeCover_17 : decode cMu_takeCover 17 = .ok (.aload_n 0, 1) := by decide +kernel
theorem dMu_takeCover_18 : decode cMu_takeCover 18 = .ok (.getfield 47, 3) := by decide +kernel
theorem dMu_takeCover_21 : decode cMu_takeCover 21 = .ok (.if_icmp .ne 21, 3) := by decide +kernel
theorem dMu_takeCover_24 : decode cMu_takeCover 24 = .ok (.iload_n 1, 1) := by decide +kernel
theorem dMu_takeCover_25 : decode cMu_takeCover 25 = .ok (.aload_n 0, 1) := by decide +kernel
theorem dMu_takeCover_26 : decode cMu_takeCover 26 = .ok (.getfield 51, 3) := by decide +kernel
theorem dMu_takeCover_29 : decode cMu_takeCover 29 = .ok (.if_icmp .ge 13, 3) := by decide +kernel
def fMu_takeCover (v1 : Int32) (v2 : Int32) (s0 : Sg) : Option (Sg) := bnd (fun (s1 : Sg) => bnd (pt s1 66 7 v2) fun s2 => bnd (pt s2 66 8 v1) fun s3 => some s3) fun j32 => if (s0 66 7) = (-1) then (j32 s0) else (if v2 < (s0 66 7) then (j32 s0) else (if v2 = (s0 66 7) then (if (s0 66 8) ≤ v1 then (some s0) else (j32 s0)) else (some s0)))
set_option maxHeartbeats 4000000 in
set_option maxRecDepth 100000 in
theorem okMu_takeCover (v1 : Int32) (v2 : Int32) (s0 : Sg) : ∀ (l : Launch) (w : WC), Ok l w yMu_takeCover cMu_takeCover 3 none 1 evV [.ref (w.ad 66), .int v1, .int v2] s0 (fMu_takeCover v1 v2 s0) := by
  refine ok_in (ev := fun _ => evV) (av := fun w => [.ref (w.ad 66), .int v1, .int v2]) "LastWordHill$Muse" rfl (by decide +kernel) (fun _ => rfl) (fun _ => Nat.le_of_ble_eq_true rfl) ?_
  intro C X E
  show GF C evV 0 [some (.ref (C.w.ad 66)), some (.int v1), some (.int v2)] [] s0 (fMu_takeCover v1 v2 s0)
  unfold fMu_takeCover
  refine g_aload_n X dMu_takeCover_0 rfl ?_
  refine g_getI X fl_Mu_47 fb_2_7 k_66 dMu_takeCover_1 ?_
  refine g_iconst X (-1) dMu_takeCover_4 (by decide) ?_
  refine gf_jn (fun j32 => ∀ (s1 : Sg), GF C evV 32 [some (.ref (C.w.ad 66)), some (.int v1), some (.int v2)] [] s1 (j32 s1)) ?_ ?_
  · intro s1
    refine g_aload_n X dMu_takeCover_32 rfl ?_
    refine g_iload_n X dMu_takeCover_33 rfl ?_
    refine g_putI X fl_Mu_47 fb_2_7 fp_2_7 k_66 dMu_takeCover_34 (fun s2 => ?_)
    refine g_aload_n X dMu_takeCover_37 rfl ?_
    refine g_iload_n X dMu_takeCover_38 rfl ?_
    refine g_putI X fl_Mu_51 fb_2_8 fp_2_8 k_66 dMu_takeCover_39 (fun s3 => ?_)
    exact g_vret X E dMu_takeCover_42
  · intro j32 hj32
    refine g_ceq X (tgt := 32) dMu_takeCover_5 (by decide) ?_ ?_
    · exact gf_sub (hj32 s0) (by simp [lsub])
    · refine g_iload_n X dMu_takeCover_8 rfl ?_
      refine g_aload_n X dMu_takeCover_9 rfl ?_
      refine g_getI X fl_Mu_47 fb_2_7 k_66 dMu_takeCover_10 ?_
      refine g_clt X (tgt := 32) dMu_takeCover_13 (by decide) ?_ ?_
      · exact gf_sub (hj32 s0) (by simp [lsub])
      · refine g_iload_n X dMu_takeCover_16 rfl ?_
        refine g_aload_n X dMu_takeCover_17 rfl ?_
        refine g_getI X fl_Mu_47 fb_2_7 k_66 dMu_takeCover_18 ?_
        refine g_cne X (tgt := 42) dMu_takeCover_21 (by decide) ?_ ?_
        · refine g_iload_n X dMu_takeCover_24 rfl ?_
          refine g_aload_n X dMu_takeCover_25 rfl ?_
          refine g_getI X fl_Mu_51 fb_2_8 k_66 dMu_takeCover_26 ?_
          refine g_cge X (tgt := 42) dMu_takeCover_29 (by decide) ?_ ?_
          · exact g_vret X E dMu_takeCover_42
          · exact gf_sub (hj32 s0) (by simp [lsub])
        · exact g_vret X E dMu_takeCover_42
def yMu_choices : MethodName := ⟨"LastWordHill$Muse", "choices", "(II)I"⟩
abbrev cMu_choices : ByteArray := prog_4_method_34_code
theorem dMu_choices_0 : decode cMu_choices 0 = .ok (.iconst 1, 1) := by decide +kernel
theorem dMu_choices_1 : decode cMu_choices 1 = .ok (.istore_n 2, 1) := by decide +kernel
theorem dMu_choices_2 : decode cMu_choices 2 = .ok (.iconst 1, 1) := by decide +kernel
theorem dMu_choices_3 : decode cMu_choices 3 = .ok (.istore_n 3, 1) := by decide +kernel
theorem dMu_choices_4 : decode cMu_choices 4 = .ok (.iload_n 3, 1) := by decide +kernel
theorem dMu_choices_5 : decode cMu_choices 5 = .ok (.iload_n 1, 1) := by decide +kernel
theorem dMu_choices_6 : decode cMu_choices 6 = .ok (.if_icmp .gt 19, 3) := by decide +kernel
theorem dMu_choices_25 : decode cMu_choices 25 = .ok (.iload_n 2, 1) := by decide +kernel
theorem dMu_choices_26 : decode cMu_choices 26 = .ok (.ireturn, 1) := by decide +kernel
theorem dMu_choices_9 : decode cMu_choices 9 = .ok (.iload_n 2, 1) := by decide +kernel
theorem dMu_choices_10 : decode cMu_choices 10 = .ok (.iload_n 0, 1) := by decide +kernel
theorem dMu_choices_11 : decode cMu_choices 11 = .ok (.iload_n 3, 1) := by decide +kernel
theorem dMu_choices_12 : decode cMu_choices 12 = .ok (.isub, 1) := by decide +kernel
theorem dMu_choices_13 : decode cMu_choices 13 = .ok (.iconst 1, 1) := by decide +kernel
theorem dMu_choices_14 : decode cMu_choices 14 = .ok (.iadd, 1) := by decide +kernel
theorem dMu_choices_15 : decode cMu_choices 15 = .ok (.imul, 1) := by decide +kernel
theorem dMu_choices_16 : decode cMu_choices 16 = .ok (.iload_n 3, 1) := by decide +kernel
theorem dMu_choices_17 : decode cMu_choices 17 = .ok (.idiv, 1) := by decide +kernel
theorem dMu_choices_18 : decode cMu_choices 18 = .ok (.istore_n 2, 1) := by decide +kernel
theorem dMu_choices_19 : decode cMu_choices 19 = .ok (.iinc 3 1, 3) := by decide +kernel
theorem dMu_choices_22 : decode cMu_choices 22 = .ok (.goto (-18), 3) := by decide +kernel
def fMu_choices (v0 : Int32) (v1 : Int32) (s0 : Sg) : Option (Int32 × Sg) := lp FU (fun q4 (u4 : Int32 × Int32) (s1 : Sg) => if v1 < u4.2 then (some (u4.1, s1)) else (gz u4.2 (bnd ((u4.1 * ((v0 - u4.2) + 1)) / u4.2) fun x2 => q4 (x2, (u4.2 + 1)) s1))) (1, 1) s0
set_option maxHeartbeats 4000000 in
set_option maxRecDepth 100000 in
theorem okMu_choices (v0 : Int32) (v1 : Int32) (s0 : Sg) : ∀ (l : Launch) (w : WC), Ok l w yMu_choices cMu_choices 4 (some .int) 1 evI [.int v0, .int v1] s0 (fMu_choices v0 v1 s0) := by
  refine ok_in (ev := fun _ => evI) (av := fun w => [.int v0, .int v1]) "LastWordHill$Muse" rfl (by decide +kernel) (fun _ => rfl) (fun _ => Nat.le_of_ble_eq_true rfl) ?_
  intro C X E
  show GF C evI 0 [some (.int v0), some (.int v1), none, none] [] s0 (fMu_choices v0 v1 s0)
  unfold fMu_choices
  refine g_iconst X 1 dMu_choices_0 (by decide) ?_
  refine g_istore_n X [some (.int v0), some (.int v1), some (.int 1), none] dMu_choices_1 (by decide) (Nat.le_of_ble_eq_true rfl) rfl ?_
  refine g_iconst X 1 dMu_choices_2 (by decide) ?_
  refine g_istore_n X [some (.int v0), some (.int v1), some (.int 1), some (.int 1)] dMu_choices_3 (by decide) (Nat.le_of_ble_eq_true rfl) rfl ?_
  refine gf_sub (L' := [some (.int v0), some (.int v1), some (.int 1), some (.int 1)]) ?_ (by simp [lsub])
  refine gf_lp (Lf := fun (u4 : Int32 × Int32) => [some (.int v0), some (.int v1), some (.int u4.1), some (.int u4.2)]) (fun q4 hq4 u4 s1 => ?_) FU (1, 1) s0
  refine g_iload_n X dMu_choices_4 rfl ?_
  refine g_iload_n X dMu_choices_5 rfl ?_
  refine g_cgt X (tgt := 25) dMu_choices_6 (by decide) ?_ ?_
  · refine g_iload_n X dMu_choices_25 rfl ?_
    exact g_iret X E dMu_choices_26
  · refine g_iload_n X dMu_choices_9 rfl ?_
    refine g_iload_n X dMu_choices_10 rfl ?_
    refine g_iload_n X dMu_choices_11 rfl ?_
    refine g_isub X dMu_choices_12 ?_
    refine g_iconst X 1 dMu_choices_13 (by decide) ?_
    refine g_iadd X dMu_choices_14 ?_
    refine g_imul X dMu_choices_15 ?_
    refine g_iload_n X dMu_choices_16 rfl ?_
    refine g_idiv X dMu_choices_17 ?_
    refine gf_nm (fun x2 => ?_)
    refine g_istore_n X [some (.int v0), some (.int v1), some (.int x2), some (.int u4.2)] dMu_choices_18 (by decide) (Nat.le_of_ble_eq_true rfl) rfl ?_
    refine g_iinc X (u4.2 + 1) [some (.int v0), some (.int v1), some (.int x2), some (.int (u4.2 + 1))] dMu_choices_19 rfl rfl (by decide) rfl ?_
    refine g_goto X 4 dMu_choices_22 (by decide) ?_
    exact gf_sub (hq4 (x2, (u4.2 + 1)) s1) (by simp [lsub])
theorem k_5 : hz_kd 5 = 3 := by decide
def yPa_forget : MethodName := ⟨"LastWordHill$Past", "forget", "()V"⟩
abbrev cPa_forget : ByteArray := prog_5_method_5_code
theorem dPa_forget_0 : decode cPa_forget 0 = .ok (.aload_n 0, 1) := by decide +kernel
theorem dPa_forget_1 : decode cPa_forget 1 = .ok (.iconst 0, 1) := by decide +kernel
theorem dPa_forget_2 : decode cPa_forget 2 = .ok (.putfield 18, 3) := by decide +kernel
theorem fl_Pa_18 : FLk "LastWordHill$Past" 18 3 2 := ⟨_, _, _, rfl, by decide, hz_in 243 (by decide +kernel) (by decide +kernel), nL3, by decide, by decide⟩
theorem fb_3_2 : (hz_bs 3)[2]? = some false := by decide
theorem fp_3_2 : FLp 3 2 .int := ⟨_, _, _, _, rfl, nY3, nN3, by decide, by decide⟩
theorem dPa_forget_5 : decode cPa_forget 5 = .ok (.return_, 1) := by decide +kernel
def fPa_forget (s0 : Sg) : Option (Sg) := bnd (pt s0 5 2 0) fun s1 => some s1
set_option maxHeartbeats 4000000 in
set_option maxRecDepth 100000 in
theorem okPa_forget (s0 : Sg) : ∀ (l : Launch) (w : WC), Ok l w yPa_forget cPa_forget 1 none 1 evV [.ref (w.ad 5)] s0 (fPa_forget s0) := by
  refine ok_in (ev := fun _ => evV) (av := fun w => [.ref (w.ad 5)]) "LastWordHill$Past" rfl (by decide +kernel) (fun _ => rfl) (fun _ => Nat.le_of_ble_eq_true rfl) ?_
  intro C X E
  show GF C evV 0 [some (.ref (C.w.ad 5))] [] s0 (fPa_forget s0)
  unfold fPa_forget
  refine g_aload_n X dPa_forget_0 rfl ?_
  refine g_iconst X 0 dPa_forget_1 (by decide) ?_
  refine g_putI X fl_Pa_18 fb_3_2 fp_3_2 k_5 dPa_forget_2 (fun s1 => ?_)
  exact g_vret X E dPa_forget_5
def yRe_keywordsOf : MethodName := ⟨"LastWordHill$Reader", "keywordsOf", "(I)Ljava/lang/String;"⟩
abbrev cRe_keywordsOf : ByteArray := prog_6_method_3_code
theorem dRe_keywordsOf_0 : decode cRe_keywordsOf 0 = .ok (.iload_n 0, 1) := by decide +kernel
theorem dRe_keywordsOf_1 : decode cRe_keywordsOf 1 = .ok (.tableswitch 36 0 2 #[27, 30, 33], 27) := by decide +kernel
theorem dRe_keywordsOf_37 : decode cRe_keywordsOf 37 = .ok (.ldc 79, 2) := by decide +kernel
theorem dRe_keywordsOf_39 : decode cRe_keywordsOf 39 = .ok (.areturn, 1) := by decide +kernel
theorem dRe_keywordsOf_34 : decode cRe_keywordsOf 34 = .ok (.ldc 77, 2) := by decide +kernel
theorem dRe_keywordsOf_36 : decode cRe_keywordsOf 36 = .ok (.areturn, 1) := by decide +kernel
theorem dRe_keywordsOf_31 : decode cRe_keywordsOf 31 = .ok (.ldc 75, 2) := by decide +kernel
theorem dRe_keywordsOf_33 : decode cRe_keywordsOf 33 = .ok (.areturn, 1) := by decide +kernel
theorem dRe_keywordsOf_28 : decode cRe_keywordsOf 28 = .ok (.ldc 73, 2) := by decide +kernel
theorem dRe_keywordsOf_30 : decode cRe_keywordsOf 30 = .ok (.areturn, 1) := by decide +kernel
def fRe_keywordsOf (v0 : Int32) (s0 : Sg) : Option (Nat × Sg) := if v0 = 0 then (some (0, s0)) else (if v0 = 1 then (some (1, s0)) else (if v0 = 2 then (some (2, s0)) else (some (3, s0))))
set_option maxHeartbeats 4000000 in
set_option maxRecDepth 100000 in
theorem okRe_keywordsOf (v0 : Int32) (s0 : Sg) : ∀ (l : Launch) (w : WC), Ok l w yRe_keywordsOf cRe_keywordsOf 1 (some (.object "java/lang/String")) 1 (evS w) [.int v0] s0 (fRe_keywordsOf v0 s0) := by
  refine ok_in (ev := fun w => evS w) (av := fun w => [.int v0]) "LastWordHill$Reader" rfl (by decide +kernel) (fun _ => rfl) (fun _ => Nat.le_of_ble_eq_true rfl) ?_
  intro C X E
  show GF C (evS C.w) 0 [some (.int v0)] [] s0 (fRe_keywordsOf v0 s0)
  unfold fRe_keywordsOf
  refine g_iload_n X dRe_keywordsOf_0 rfl ?_
  refine gf_ite (fun c1_0 => ?_) (fun c1_0 => ?_)
  · refine g_tabIn X (tgt := 28) (off := 27) 0 c1_0 dRe_keywordsOf_1 (by decide) (by decide) ?_
    refine g_ldcS X 0 rfl dRe_keywordsOf_28 ?_
    exact g_sret X E dRe_keywordsOf_30
  · refine gf_ite (fun c1_1 => ?_) (fun c1_1 => ?_)
    · refine g_tabIn X (tgt := 31) (off := 30) 1 c1_1 dRe_keywordsOf_1 (by decide) (by decide) ?_
      refine g_ldcS X 1 rfl dRe_keywordsOf_31 ?_
      exact g_sret X E dRe_keywordsOf_33
    · refine gf_ite (fun c1_2 => ?_) (fun c1_2 => ?_)
      · refine g_tabIn X (tgt := 34) (off := 33) 2 c1_2 dRe_keywordsOf_1 (by decide) (by decide) ?_
        refine g_ldcS X 2 rfl dRe_keywordsOf_34 ?_
        exact g_sret X E dRe_keywordsOf_36
      · have z0 := ne_toInt c1_0
        have z1 := ne_toInt c1_1
        have z2 := ne_toInt c1_2
        refine g_tabOut X (tgt := 37) dRe_keywordsOf_1 (by simp at z0 z1 z2; omega) (by decide) ?_
        refine g_ldcS X 3 rfl dRe_keywordsOf_37 ?_
        exact g_sret X E dRe_keywordsOf_39
theorem k_30 : hz_kd 30 = 4 := by decide
def yRe_wrong : MethodName := ⟨"LastWordHill$Reader", "wrong", "(I)Z"⟩
abbrev cRe_wrong : ByteArray := prog_6_method_6_code
theorem dRe_wrong_0 : decode cRe_wrong 0 = .ok (.aload_n 0, 1) := by decide +kernel
theorem dRe_wrong_1 : decode cRe_wrong 1 = .ok (.iload_n 1, 1) := by decide +kernel
theorem dRe_wrong_2 : decode cRe_wrong 2 = .ok (.putfield 33, 3) := by decide +kernel
theorem fl_Re_33 : FLk "LastWordHill$Reader" 33 4 3 := ⟨_, _, _, rfl, by decide, hz_in 388 (by decide +kernel) (by decide +kernel), nL4, by decide, by decide⟩
theorem fb_4_3 : (hz_bs 4)[3]? = some false := by decide
theorem fp_4_3 : FLp 4 3 .int := ⟨_, _, _, _, rfl, nY4, nN4, by decide, by decide⟩
theorem dRe_wrong_5 : decode cRe_wrong 5 = .ok (.aload_n 0, 1) := by decide +kernel
theorem dRe_wrong_6 : decode cRe_wrong 6 = .ok (.aload_n 0, 1) := by decide +kernel
theorem dRe_wrong_7 : decode cRe_wrong 7 = .ok (.getfield 14, 3) := by decide +kernel
theorem fl_Re_14 : FLk "LastWordHill$Reader" 14 4 0 := ⟨_, _, _, rfl, by decide, hz_in 383 (by decide +kernel) (by decide +kernel), nL4, by decide, by decide⟩
theorem k_31 : hz_kd 31 = 9 := by decide
theorem fb_4_0 : (hz_bs 4)[0]? = some true := by decide
theorem r_30_0 : hz_rf 30 0 = 31 := by decide
theorem dRe_wrong_10 : decode cRe_wrong 10 = .ok (.getfield 93, 3) := by decide +kernel
theorem fl_Re_93 : FLk "LastWordHill$Reader" 93 9 8 := ⟨_, _, _, rfl, by decide, hz_in 356 (by decide +kernel) (by decide +kernel), nL9, by decide, by decide⟩
theorem fb_9_8 : (hz_bs 9)[8]? = some false := by decide
theorem dRe_wrong_13 : decode cRe_wrong 13 = .ok (.putfield 29, 3) := by decide +kernel
theorem fl_Re_29 : FLk "LastWordHill$Reader" 29 4 4 := ⟨_, _, _, rfl, by decide, hz_in 390 (by decide +kernel) (by decide +kernel), nL4, by decide, by decide⟩
theorem fb_4_4 : (hz_bs 4)[4]? = some false := by decide
theorem fp_4_4 : FLp 4 4 .int := ⟨_, _, _, _, rfl, nY4, nN4, by decide, by decide⟩
theorem dRe_wrong_16 : decode cRe_wrong 16 = .ok (.iconst 0, 1) := by decide +kernel
theorem dRe_wrong_17 : decode cRe_wrong 17 = .ok (.ireturn, 1) := by decide +kernel
def fRe_wrong (v1 : Int32) (s0 : Sg) : Option (Int32 × Sg) := bnd (pt s0 30 3 v1) fun s1 => bnd (pt s1 30 4 (s1 31 8)) fun s2 => gb 0 (some (0, s2))
set_option maxHeartbeats 4000000 in
set_option maxRecDepth 100000 in
theorem okRe_wrong (v1 : Int32) (s0 : Sg) : ∀ (l : Launch) (w : WC), Ok l w yRe_wrong cRe_wrong 2 (some .boolean) 1 evI [.ref (w.ad 30), .int v1] s0 (fRe_wrong v1 s0) := by
  refine ok_in (ev := fun _ => evI) (av := fun w => [.ref (w.ad 30), .int v1]) "LastWordHill$Reader" rfl (by decide +kernel) (fun _ => rfl) (fun _ => Nat.le_of_ble_eq_true rfl) ?_
  intro C X E
  show GF C evI 0 [some (.ref (C.w.ad 30)), some (.int v1)] [] s0 (fRe_wrong v1 s0)
  unfold fRe_wrong
  refine g_aload_n X dRe_wrong_0 rfl ?_
  refine g_iload_n X dRe_wrong_1 rfl ?_
  refine g_putI X fl_Re_33 fb_4_3 fp_4_3 k_30 dRe_wrong_2 (fun s1 => ?_)
  refine g_aload_n X dRe_wrong_5 rfl ?_
  refine g_aload_n X dRe_wrong_6 rfl ?_
  refine g_getN X fl_Re_14 fb_4_0 k_30 r_30_0 dRe_wrong_7 ?_
  refine g_getI X fl_Re_93 fb_9_8 k_31 dRe_wrong_10 ?_
  refine g_putI X fl_Re_29 fb_4_4 fp_4_4 k_30 dRe_wrong_13 (fun s2 => ?_)
  refine g_iconst X 0 dRe_wrong_16 (by decide) ?_
  exact g_zret X E dRe_wrong_17
def yRe_waitingLast : MethodName := ⟨"LastWordHill$Reader", "waitingLast", "()I"⟩
abbrev cRe_waitingLast : ByteArray := prog_6_method_18_code
theorem dRe_waitingLast_0 : decode cRe_waitingLast 0 = .ok (.aload_n 0, 1) := by decide +kernel
theorem dRe_waitingLast_1 : decode cRe_waitingLast 1 = .ok (.getfield 149, 3) := by decide +kernel
theorem fl_Re_149 : FLk "LastWordHill$Reader" 149 4 6 := ⟨_, _, _, rfl, by decide, hz_in 393 (by decide +kernel) (by decide +kernel), nL4, by decide, by decide⟩
theorem fb_4_6 : (hz_bs 4)[6]? = some false := by decide
theorem dRe_waitingLast_4 : decode cRe_waitingLast 4 = .ok (.ifCond .le 26, 3) := by decide +kernel
theorem dRe_waitingLast_30 : decode cRe_waitingLast 30 = .ok (.iconst 0, 1) := by decide +kernel
theorem dRe_waitingLast_31 : decode cRe_waitingLast 31 = .ok (.ireturn, 1) := by decide +kernel
theorem dRe_waitingLast_7 : decode cRe_waitingLast 7 = .ok (.aload_n 0, 1) := by decide +kernel
theorem dRe_waitingLast_8 : decode cRe_waitingLast 8 = .ok (.getfield 149, 3) := by decide +kernel
theorem dRe_waitingLast_11 : decode cRe_waitingLast 11 = .ok (.bipush 27, 2) := by decide +kernel
theorem dRe_waitingLast_13 : decode cRe_waitingLast 13 = .ok (.if_icmp .gt 17, 3) := by decide +kernel
theorem dRe_waitingLast_16 : decode cRe_waitingLast 16 = .ok (.aload_n 0, 1) := by decide +kernel
theorem dRe_waitingLast_17 : decode cRe_waitingLast 17 = .ok (.getfield 25, 3) := by decide +kernel
theorem fl_Re_25 : FLk "LastWordHill$Reader" 25 4 2 := ⟨_, _, _, rfl, by decide, hz_in 387 (by decide +kernel) (by decide +kernel), nL4, by decide, by decide⟩
theorem k_47 : hz_kd 47 = 13 := by decide
theorem fb_4_2 : (hz_bs 4)[2]? = some true := by decide
theorem r_30_2 : hz_rf 30 2 = 47 := by decide
theorem dRe_waitingLast_20 : decode cRe_waitingLast 20 = .ok (.aload_n 0, 1) := by decide +kernel
theorem dRe_waitingLast_21 : decode cRe_waitingLast 21 = .ok (.getfield 149, 3) := by decide +kernel
theorem dRe_waitingLast_24 : decode cRe_waitingLast 24 = .ok (.iconst 1, 1) := by decide +kernel
theorem dRe_waitingLast_25 : decode cRe_waitingLast 25 = .ok (.isub, 1) := by decide +kernel
theorem dRe_waitingLast_26 : decode cRe_waitingLast 26 = .ok (.iaload, 1) := by decide +kernel
theorem ln_47 : hz_ln 47 = 27 := by decide
theorem dRe_waitingLast_27 : decode cRe_waitingLast 27 = .ok (.goto 4, 3) := by decide +kernel
def fRe_waitingLast (s0 : Sg) : Option (Int32 × Sg) := if (s0 30 6) ≤ 0 then (some (0, s0)) else (if 27 < (s0 30 6) then (some (0, s0)) else (gd ((s0 30 6) - 1) 27 (some ((s0 47 (ix ((s0 30 6) - 1))), s0))))
set_option maxHeartbeats 4000000 in
set_option maxRecDepth 100000 in
theorem okRe_waitingLast (s0 : Sg) : ∀ (l : Launch) (w : WC), Ok l w yRe_waitingLast cRe_waitingLast 1 (some .int) 1 evI [.ref (w.ad 30)] s0 (fRe_waitingLast s0) := by
  refine ok_in (ev := fun _ => evI) (av := fun w => [.ref (w.ad 30)]) "LastWordHill$Reader" rfl (by decide +kernel) (fun _ => rfl) (fun _ => Nat.le_of_ble_eq_true rfl) ?_
  intro C X E
  show GF C evI 0 [some (.ref (C.w.ad 30))] [] s0 (fRe_waitingLast s0)
  unfold fRe_waitingLast
  refine g_aload_n X dRe_waitingLast_0 rfl ?_
  refine g_getI X fl_Re_149 fb_4_6 k_30 dRe_waitingLast_1 ?_
  refine g_zle X (tgt := 30) dRe_waitingLast_4 (by decide) ?_ ?_
  · refine g_iconst X 0 dRe_waitingLast_30 (by decide) ?_
    exact g_iret X E dRe_waitingLast_31
  · refine g_aload_n X dRe_waitingLast_7 rfl ?_
    refine g_getI X fl_Re_149 fb_4_6 k_30 dRe_waitingLast_8 ?_
    refine g_bipush X 27 dRe_waitingLast_11 (by decide) ?_
    refine g_cgt X (tgt := 30) dRe_waitingLast_13 (by decide) ?_ ?_
    · refine g_iconst X 0 dRe_waitingLast_30 (by decide) ?_
      exact g_iret X E dRe_waitingLast_31
    · refine g_aload_n X dRe_waitingLast_16 rfl ?_
      refine g_getN X fl_Re_25 fb_4_2 k_30 r_30_2 dRe_waitingLast_17 ?_
      refine g_aload_n X dRe_waitingLast_20 rfl ?_
      refine g_getI X fl_Re_149 fb_4_6 k_30 dRe_waitingLast_21 ?_
      refine g_iconst X 1 dRe_waitingLast_24 (by decide) ?_
      refine g_isub X dRe_waitingLast_25 ?_
      refine g_iald X k_47 ln_47 dRe_waitingLast_26 ?_
      refine g_goto X 31 dRe_waitingLast_27 (by decide) ?_
      exact g_iret X E dRe_waitingLast_31
def yRe_closeness : MethodName := ⟨"LastWordHill$Reader", "closeness", "(I)I"⟩
abbrev cRe_closeness : ByteArray := prog_6_method_20_code
theorem dRe_closeness_0 : decode cRe_closeness 0 = .ok (.iload_n 0, 1) := by decide +kernel
theorem dRe_closeness_1 : decode cRe_closeness 1 = .ok (.lookupswitch 67 #[(60, 65), (61, 65), (62, 65), (260, 59), (261, 61), (262, 63)], 59) := by decide +kernel
theorem dRe_closeness_68 : decode cRe_closeness 68 = .ok (.iconst 0, 1) := by decide +kernel
theorem dRe_closeness_69 : decode cRe_closeness 69 = .ok (.ireturn, 1) := by decide +kernel
theorem dRe_closeness_64 : decode cRe_closeness 64 = .ok (.iconst 3, 1) := by decide +kernel
theorem dRe_closeness_65 : decode cRe_closeness 65 = .ok (.ireturn, 1) := by decide +kernel
theorem dRe_closeness_62 : decode cRe_closeness 62 = .ok (.iconst 2, 1) := by decide +kernel
theorem dRe_closeness_63 : decode cRe_closeness 63 = .ok (.ireturn, 1) := by decide +kernel
theorem dRe_closeness_60 : decode cRe_closeness 60 = .ok (.iconst 1, 1) := by decide +kernel
theorem dRe_closeness_61 : decode cRe_closeness 61 = .ok (.ireturn, 1) := by decide +kernel
theorem dRe_closeness_66 : decode cRe_closeness 66 = .ok (.iconst 4, 1) := by decide +kernel
theorem dRe_closeness_67 : decode cRe_closeness 67 = .ok (.ireturn, 1) := by decide +kernel
def fRe_closeness (v0 : Int32) (s0 : Sg) : Option (Int32 × Sg) := if v0 = 60 then (some (4, s0)) else (if v0 = 61 then (some (4, s0)) else (if v0 = 62 then (some (4, s0)) else (if v0 = 260 then (some (1, s0)) else (if v0 = 261 then (some (2, s0)) else (if v0 = 262 then (some (3, s0)) else (some (0, s0)))))))
set_option maxHeartbeats 4000000 in
set_option maxRecDepth 100000 in
theorem okRe_closeness (v0 : Int32) (s0 : Sg) : ∀ (l : Launch) (w : WC), Ok l w yRe_closeness cRe_closeness 1 (some .int) 1 evI [.int v0] s0 (fRe_closeness v0 s0) := by
  refine ok_in (ev := fun _ => evI) (av := fun w => [.int v0]) "LastWordHill$Reader" rfl (by decide +kernel) (fun _ => rfl) (fun _ => Nat.le_of_ble_eq_true rfl) ?_
  intro C X E
  show GF C evI 0 [some (.int v0)] [] s0 (fRe_closeness v0 s0)
  unfold fRe_closeness
  refine g_iload_n X dRe_closeness_0 rfl ?_
  refine gf_ite (fun c1_0 => ?_) (fun c1_0 => ?_)
  · refine g_look X (tgt := 66) (off := 65) dRe_closeness_1 (by decide) (by rw [c1_0]; decide) (by decide) ?_
    refine g_iconst X 4 dRe_closeness_66 (by decide) ?_
    exact g_iret X E dRe_closeness_67
  · refine gf_ite (fun c1_1 => ?_) (fun c1_1 => ?_)
    · refine g_look X (tgt := 66) (off := 65) dRe_closeness_1 (by decide) (by rw [c1_1]; decide) (by decide) ?_
      refine g_iconst X 4 dRe_closeness_66 (by decide) ?_
      exact g_iret X E dRe_closeness_67
    · refine gf_ite (fun c1_2 => ?_) (fun c1_2 => ?_)
      · refine g_look X (tgt := 66) (off := 65) dRe_closeness_1 (by decide) (by rw [c1_2]; decide) (by decide) ?_
        refine g_iconst X 4 dRe_closeness_66 (by decide) ?_
        exact g_iret X E dRe_closeness_67
      · refine gf_ite (fun c1_3 => ?_) (fun c1_3 => ?_)
        · refine g_look X (tgt := 60) (off := 59) dRe_closeness_1 (by decide) (by rw [c1_3]; decide) (by decide) ?_
          refine g_iconst X 1 dRe_closeness_60 (by decide) ?_
          exact g_iret X E dRe_closeness_61
        · refine gf_ite (fun c1_4 => ?_) (fun c1_4 => ?_)
          · refine g_look X (tgt := 62) (off := 61) dRe_closeness_1 (by decide) (by rw [c1_4]; decide) (by decide) ?_
            refine g_iconst X 2 dRe_closeness_62 (by decide) ?_
            exact g_iret X E dRe_closeness_63
          · refine gf_ite (fun c1_5 => ?_) (fun c1_5 => ?_)
            · refine g_look X (tgt := 64) (off := 63) dRe_closeness_1 (by decide) (by rw [c1_5]; decide) (by decide) ?_
              refine g_iconst X 3 dRe_closeness_64 (by decide) ?_
              exact g_iret X E dRe_closeness_65
            · refine g_look X (tgt := 68) (off := 67) dRe_closeness_1 (by decide) (by rw [lv_osw c1_0 (by decide)]; rw [lv_osw c1_1 (by decide)]; rw [lv_osw c1_2 (by decide)]; rw [lv_osw c1_3 (by decide)]; rw [lv_osw c1_4 (by decide)]; rw [lv_osw c1_5 (by decide)]; rfl) (by decide) ?_
              refine g_iconst X 0 dRe_closeness_68 (by decide) ?_
              exact g_iret X E dRe_closeness_69
def yRe_addSum : MethodName := ⟨"LastWordHill$Reader", "addSum", "(I)V"⟩
abbrev cRe_addSum : ByteArray := prog_6_method_22_code
theorem dRe_addSum_0 : decode cRe_addSum 0 = .ok (.iload_n 1, 1) := by decide +kernel
theorem dRe_addSum_1 : decode cRe_addSum 1 = .ok (.ifCond .eq 18, 3) := by decide +kernel
theorem dRe_addSum_19 : decode cRe_addSum 19 = .ok (.return_, 1) := by decide +kernel
theorem dRe_addSum_4 : decode cRe_addSum 4 = .ok (.aload_n 0, 1) := by decide +kernel
theorem dRe_addSum_5 : decode cRe_addSum 5 = .ok (.getfield 21, 3) := by decide +kernel
theorem fl_Re_21 : FLk "LastWordHill$Reader" 21 4 1 := ⟨_, _, _, rfl, by decide, hz_in 385 (by decide +kernel) (by decide +kernel), nL4, by decide, by decide⟩
theorem k_36 : hz_kd 36 = 8 := by decide
theorem fb_4_1 : (hz_bs 4)[1]? = some true := by decide
theorem r_30_1 : hz_rf 30 1 = 36 := by decide
theorem dRe_addSum_8 : decode cRe_addSum 8 = .ok (.getfield 131, 3) := by decide +kernel
theorem fl_Re_131 : FLk "LastWordHill$Reader" 131 8 0 := ⟨_, _, _, rfl, by decide, hz_in 311 (by decide +kernel) (by decide +kernel), nL8, by decide, by decide⟩
theorem k_37 : hz_kd 37 = 1 := by decide
theorem fb_8_0 : (hz_bs 8)[0]? = some true := by decide
theorem r_36_0 : hz_rf 36 0 = 37 := by decide
theorem dRe_addSum_11 : decode cRe_addSum 11 = .ok (.sipush 30000, 3) := by decide +kernel
theorem dRe_addSum_14 : decode cRe_addSum 14 = .ok (.iload_n 1, 1) := by decide +kernel
theorem dRe_addSum_15 : decode cRe_addSum 15 = .ok (.iadd, 1) := by decide +kernel
theorem dRe_addSum_16 : decode cRe_addSum 16 = .ok (.invokevirtual 175, 3) := by decide +kernel
theorem mm_La_addCode : MMc yLa_addCode cLa_addCode 2 none 1 := ⟨hz_in 1003 (by decide +kernel) (by decide +kernel), hz_in 138 (by decide +kernel) (by decide +kernel), by decide +kernel, by decide⟩
theorem mv_La_addCode : MMv yLa_addCode 1 := ⟨hz_in 1001 (by decide +kernel) (by decide +kernel), hz_in 1002 (by decide +kernel) (by decide +kernel), _, _, rfl, by decide⟩
theorem ml_Re_175 : Cond.methodLink "LastWordHill$Reader" 175 yLa_addCode ∈ hz_wt := hz_in 1000 (by decide +kernel) (by decide +kernel)
def fRe_addSum (v1 : Int32) (s0 : Sg) : Option (Sg) := if v1 = 0 then (some s0) else (bv (fLa_addCode 37 (30000 + v1) s0) fun s1 => some s1)
set_option maxHeartbeats 4000000 in
set_option maxRecDepth 100000 in
theorem okRe_addSum (v1 : Int32) (s0 : Sg) : ∀ (l : Launch) (w : WC), Ok l w yRe_addSum cRe_addSum 2 none 2 evV [.ref (w.ad 30), .int v1] s0 (fRe_addSum v1 s0) := by
  refine ok_in (ev := fun _ => evV) (av := fun w => [.ref (w.ad 30), .int v1]) "LastWordHill$Reader" rfl (by decide +kernel) (fun _ => rfl) (fun _ => Nat.le_of_ble_eq_true rfl) ?_
  intro C X E
  show GF C evV 0 [some (.ref (C.w.ad 30)), some (.int v1)] [] s0 (fRe_addSum v1 s0)
  unfold fRe_addSum
  refine g_iload_n X dRe_addSum_0 rfl ?_
  refine g_zeq X (tgt := 19) dRe_addSum_1 (by decide) ?_ ?_
  · exact g_vret X E dRe_addSum_19
  · refine g_aload_n X dRe_addSum_4 rfl ?_
    refine g_getN X fl_Re_21 fb_4_1 k_30 r_30_1 dRe_addSum_5 ?_
    refine g_getN X fl_Re_131 fb_8_0 k_36 r_36_0 dRe_addSum_8 ?_
    refine g_sipush X 30000 dRe_addSum_11 (by decide) ?_
    refine g_iload_n X dRe_addSum_14 rfl ?_
    refine g_iadd X dRe_addSum_15 ?_
    refine g_virtV X [.int (30000 + v1)] [] k_37 mm_La_addCode mv_La_addCode ml_Re_175 (okLa_addCode 37 (30000 + v1) s0 k_37 C.l C.w) rfl (by decide) rfl (Nat.le_of_ble_eq_true rfl) dRe_addSum_16 (fun s1 => ?_)
    exact g_vret X E dRe_addSum_19
def ySc_become : MethodName := ⟨"LastWordHill$Scene", "become", "(LLastWordHill$Scene;)V"⟩
abbrev cSc_become : ByteArray := prog_7_method_2_code
theorem dSc_become_0 : decode cSc_become 0 = .ok (.aload_n 1, 1) := by decide +kernel
theorem dSc_become_1 : decode cSc_become 1 = .ok (.getfield 9, 3) := by decide +kernel
theorem fl_Sc_9 : FLk "LastWordHill$Scene" 9 5 0 := ⟨_, _, _, rfl, by decide, hz_in 170 (by decide +kernel) (by decide +kernel), nL5, by decide, by decide⟩
theorem fb_5_0 : (hz_bs 5)[0]? = some true := by decide
theorem dSc_become_4 : decode cSc_become 4 = .ok (.iconst 0, 1) := by decide +kernel
theorem dSc_become_5 : decode cSc_become 5 = .ok (.aload_n 0, 1) := by decide +kernel
theorem dSc_become_6 : decode cSc_become 6 = .ok (.getfield 9, 3) := by decide +kernel
theorem dSc_become_9 : decode cSc_become 9 = .ok (.iconst 0, 1) := by decide +kernel
theorem dSc_become_10 : decode cSc_become 10 = .ok (.bipush 80, 2) := by decide +kernel
theorem dSc_become_12 : decode cSc_become 12 = .ok (.invokestatic 31, 3) := by decide +kernel
theorem ml_Sc_31 : Cond.methodLink "LastWordHill$Scene" 31 arraycopyName ∈ hz_wt := hz_in 654 (by decide +kernel) (by decide +kernel)
theorem dSc_become_15 : decode cSc_become 15 = .ok (.aload_n 0, 1) := by decide +kernel
theorem dSc_become_16 : decode cSc_become 16 = .ok (.aload_n 1, 1) := by decide +kernel
theorem dSc_become_17 : decode cSc_become 17 = .ok (.getfield 37, 3) := by decide +kernel
theorem fl_Sc_37 : FLk "LastWordHill$Scene" 37 5 1 := ⟨_, _, _, rfl, by decide, hz_in 171 (by decide +kernel) (by decide +kernel), nL5, by decide, by decide⟩
theorem fb_5_1 : (hz_bs 5)[1]? = some false := by decide
theorem dSc_become_20 : decode cSc_become 20 = .ok (.putfield 37, 3) := by decide +kernel
theorem fp_5_1 : FLp 5 1 .int := ⟨_, _, _, _, rfl, nY5, nN5, by decide, by decide⟩
theorem dSc_become_23 : decode cSc_become 23 = .ok (.aload_n 0, 1) := by decide +kernel
theorem dSc_become_24 : decode cSc_become 24 = .ok (.aload_n 1, 1) := by decide +kernel
theorem dSc_become_25 : decode cSc_become 25 = .ok (.getfield 15, 3) := by decide +kernel
theorem fl_Sc_15 : FLk "LastWordHill$Scene" 15 5 2 := ⟨_, _, _, rfl, by decide, hz_in 175 (by decide +kernel) (by decide +kernel), nL5, by decide, by decide⟩
theorem fb_5_2 : (hz_bs 5)[2]? = some false := by decide
theorem dSc_become_28 : decode cSc_become 28 = .ok (.putfield 15, 3) := by decide +kernel
theorem fp_5_2 : FLp 5 2 .int := ⟨_, _, _, _, rfl, nY5, nN5, by decide, by decide⟩
theorem dSc_become_31 : decode cSc_become 31 = .ok (.aload_n 0, 1) := by decide +kernel
theorem dSc_become_32 : decode cSc_become 32 = .ok (.aload_n 1, 1) := by decide +kernel
theorem dSc_become_33 : decode cSc_become 33 = .ok (.getfield 19, 3) := by decide +kernel
theorem fl_Sc_19 : FLk "LastWordHill$Scene" 19 5 3 := ⟨_, _, _, rfl, by decide, hz_in 178 (by decide +kernel) (by decide +kernel), nL5, by decide, by decide⟩
theorem fb_5_3 : (hz_bs 5)[3]? = some false := by decide
theorem dSc_become_36 : decode cSc_become 36 = .ok (.putfield 19, 3) := by decide +kernel
theorem fp_5_3 : FLp 5 3 .int := ⟨_, _, _, _, rfl, nY5, nN5, by decide, by decide⟩
theorem dSc_become_39 : decode cSc_become 39 = .ok (.aload_n 0, 1) := by decide +kernel
theorem dSc_become_40 : decode cSc_become 40 = .ok (.aload_n 1, 1) := by decide +kernel
theorem dSc_become_41 : decode cSc_become 41 = .ok (.getfield 22, 3) := by decide +kernel
theorem fl_Sc_22 : FLk "LastWordHill$Scene" 22 5 4 := ⟨_, _, _, rfl, by decide, hz_in 181 (by decide +kernel) (by decide +kernel), nL5, by decide, by decide⟩
theorem fb_5_4 : (hz_bs 5)[4]? = some false := by decide
theorem dSc_become_44 : decode cSc_become 44 = .ok (.putfield 22, 3) := by decide +kernel
theorem fp_5_4 : FLp 5 4 .int := ⟨_, _, _, _, rfl, nY5, nN5, by decide, by decide⟩
theorem dSc_become_47 : decode cSc_become 47 = .ok (.aload_n 0, 1) := by decide +kernel
theorem dSc_become_48 : decode cSc_become 48 = .ok (.aload_n 1, 1) := by decide +kernel
theorem dSc_become_49 : decode cSc_become 49 = .ok (.getfield 25, 3) := by decide +kernel
theorem fl_Sc_25 : FLk "LastWordHill$Scene" 25 5 5 := ⟨_, _, _, rfl, by decide, hz_in 184 (by decide +kernel) (by decide +kernel), nL5, by decide, by decide⟩
theorem fb_5_5 : (hz_bs 5)[5]? = some false := by decide
theorem dSc_become_52 : decode cSc_become 52 = .ok (.putfield 25, 3) := by decide +kernel
theorem fp_5_5 : FLp 5 5 .int := ⟨_, _, _, _, rfl, nY5, nN5, by decide, by decide⟩
theorem dSc_become_55 : decode cSc_become 55 = .ok (.aload_n 0, 1) := by decide +kernel
theorem dSc_become_56 : decode cSc_become 56 = .ok (.aload_n 1, 1) := by decide +kernel
theorem dSc_become_57 : decode cSc_become 57 = .ok (.getfield 40, 3) := by decide +kernel
theorem fl_Sc_40 : FLk "LastWordHill$Scene" 40 5 6 := ⟨_, _, _, rfl, by decide, hz_in 186 (by decide +kernel) (by decide +kernel), nL5, by decide, by decide⟩
theorem fb_5_6 : (hz_bs 5)[6]? = some false := by decide
theorem dSc_become_60 : decode cSc_become 60 = .ok (.putfield 40, 3) := by decide +kernel
theorem fp_5_6 : FLp 5 6 .int := ⟨_, _, _, _, rfl, nY5, nN5, by decide, by decide⟩
theorem dSc_become_63 : decode cSc_become 63 = .ok (.aload_n 0, 1) := by decide +kernel
theorem dSc_become_64 : decode cSc_become 64 = .ok (.aload_n 1, 1) := by decide +kernel
theorem dSc_become_65 : decode cSc_become 65 = .ok (.getfield 43, 3) := by decide +kernel
theorem fl_Sc_43 : FLk "LastWordHill$Scene" 43 5 7 := ⟨_, _, _, rfl, by decide, hz_in 188 (by decide +kernel) (by decide +kernel), nL5, by decide, by decide⟩
theorem fb_5_7 : (hz_bs 5)[7]? = some false := by decide
theorem dSc_become_68 : decode cSc_become 68 = .ok (.putfield 43, 3) := by decide +kernel
theorem fp_5_7 : FLp 5 7 .int := ⟨_, _, _, _, rfl, nY5, nN5, by decide, by decide⟩
theorem dSc_become_71 : decode cSc_become 71 = .ok (.aload_n 0, 1) := by decide +kernel
theorem dSc_become_72 : decode cSc_become 72 = .ok (.aload_n 1, 1) := by decide +kernel
theorem dSc_become_73 : decode cSc_become 73 = .ok (.getfield 28, 3) := by decide +kernel
theorem fl_Sc_28 : FLk "LastWordHill$Scene" 28 5 8 := ⟨_, _, _, rfl, by decide, hz_in 190 (by decide +kernel) (by decide +kernel), nL5, by decide, by decide⟩
theorem fb_5_8 : (hz_bs 5)[8]? = some false := by decide
theorem dSc_become_76 : decode cSc_become 76 = .ok (.putfield 28, 3) := by decide +kernel
theorem fp_5_8 : FLp 5 8 .int := ⟨_, _, _, _, rfl, nY5, nN5, by decide, by decide⟩
theorem dSc_become_79 : decode cSc_become 79 = .ok (.aload_n 0, 1) := by decide +kernel
theorem dSc_become_80 : decode cSc_become 80 = .ok (.aload_n 1, 1) := by decide +kernel
theorem dSc_become_81 : decode cSc_become 81 = .ok (.getfield 46, 3) := by decide +kernel
theorem fl_Sc_46 : FLk "LastWordHill$Scene" 46 5 9 := ⟨_, _, _, rfl, by decide, hz_in 194 (by decide +kernel) (by decide +kernel), nL5, by decide, by decide⟩
theorem fb_5_9 : (hz_bs 5)[9]? = some false := by decide
theorem dSc_become_84 : decode cSc_become 84 = .ok (.putfield 46, 3) := by decide +kernel
theorem fp_5_9 : FLp 5 9 .int := ⟨_, _, _, _, rfl, nY5, nN5, by decide, by decide⟩
theorem dSc_become_87 : decode cSc_become 87 = .ok (.aload_n 0, 1) := by decide +kernel
theorem dSc_become_88 : decode cSc_become 88 = .ok (.aload_n 1, 1) := by decide +kernel
theorem dSc_become_89 : decode cSc_become 89 = .ok (.getfield 49, 3) := by decide +kernel
theorem fl_Sc_49 : FLk "LastWordHill$Scene" 49 5 10 := ⟨_, _, _, rfl, by decide, hz_in 196 (by decide +kernel) (by decide +kernel), nL5, by decide, by decide⟩
theorem fb_5_10 : (hz_bs 5)[10]? = some false := by decide
theorem dSc_become_92 : decode cSc_become 92 = .ok (.putfield 49, 3) := by decide +kernel
theorem fp_5_10 : FLp 5 10 .int := ⟨_, _, _, _, rfl, nY5, nN5, by decide, by decide⟩
theorem dSc_become_95 : decode cSc_become 95 = .ok (.aload_n 0, 1) := by decide +kernel
theorem dSc_become_96 : decode cSc_become 96 = .ok (.aload_n 1, 1) := by decide +kernel
theorem dSc_become_97 : decode cSc_become 97 = .ok (.getfield 52, 3) := by decide +kernel
theorem fl_Sc_52 : FLk "LastWordHill$Scene" 52 5 11 := ⟨_, _, _, rfl, by decide, hz_in 199 (by decide +kernel) (by decide +kernel), nL5, by decide, by decide⟩
theorem fb_5_11 : (hz_bs 5)[11]? = some false := by decide
theorem dSc_become_100 : decode cSc_become 100 = .ok (.putfield 52, 3) := by decide +kernel
theorem fp_5_11 : FLp 5 11 .int := ⟨_, _, _, _, rfl, nY5, nN5, by decide, by decide⟩
theorem dSc_become_103 : decode cSc_become 103 = .ok (.aload_n 0, 1) := by decide +kernel
theorem dSc_become_104 : decode cSc_become 104 = .ok (.aload_n 1, 1) := by decide +kernel
theorem dSc_become_105 : decode cSc_become 105 = .ok (.getfield 55, 3) := by decide +kernel
theorem fl_Sc_55 : FLk "LastWordHill$Scene" 55 5 12 := ⟨_, _, _, rfl, by decide, hz_in 201 (by decide +kernel) (by decide +kernel), nL5, by decide, by decide⟩
theorem fb_5_12 : (hz_bs 5)[12]? = some false := by decide
theorem dSc_become_108 : decode cSc_become 108 = .ok (.putfield 55, 3) := by decide +kernel
theorem fp_5_12 : FLp 5 12 .int := ⟨_, _, _, _, rfl, nY5, nN5, by decide, by decide⟩
theorem dSc_become_111 : decode cSc_become 111 = .ok (.return_, 1) := by decide +kernel
def fSc_become (o0 : Nat) (o1 : Nat) (s0 : Sg) : Option (Sg) := bv (cpy s0 (hz_rf o1 0) 80 0 (hz_rf o0 0) 80 0 80) fun s1 => bnd (pt s1 o0 1 (s1 o1 1)) fun s2 => bnd (pt s2 o0 2 (s2 o1 2)) fun s3 => bnd (pt s3 o0 3 (s3 o1 3)) fun s4 => bnd (pt s4 o0 4 (s4 o1 4)) fun s5 => bnd (pt s5 o0 5 (s5 o1 5)) fun s6 => bnd (pt s6 o0 6 (s6 o1 6)) fun s7 => bnd (pt s7 o0 7 (s7 o1 7)) fun s8 => bnd (pt s8 o0 8 (s8 o1 8)) fun s9 => bnd (pt s9 o0 9 (s9 o1 9)) fun s10 => bnd (pt s10 o0 10 (s10 o1 10)) fun s11 => bnd (pt s11 o0 11 (s11 o1 11)) fun s12 => bnd (pt s12 o0 12 (s12 o1 12)) fun s13 => some s13
set_option maxHeartbeats 4000000 in
set_option maxRecDepth 100000 in
theorem okSc_become (o0 : Nat) (o1 : Nat) (s0 : Sg) (h0 : hz_kd o0 = 5) (h1 : hz_kd o1 = 5) : ∀ (l : Launch) (w : WC), Ok l w ySc_become cSc_become 2 none 1 evV [.ref (w.ad o0), .ref (w.ad o1)] s0 (fSc_become o0 o1 s0) := by
  refine ok_in (ev := fun _ => evV) (av := fun w => [.ref (w.ad o0), .ref (w.ad o1)]) "LastWordHill$Scene" rfl (by decide +kernel) (fun _ => rfl) (fun _ => Nat.le_of_ble_eq_true rfl) ?_
  intro C X E
  show GF C evV 0 [some (.ref (C.w.ad o0)), some (.ref (C.w.ad o1))] [] s0 (fSc_become o0 o1 s0)
  unfold fSc_become
  refine g_aload_n X dSc_become_0 rfl ?_
  refine g_getR X fl_Sc_9 fb_5_0 h1 dSc_become_1 ?_
  refine g_iconst X 0 dSc_become_4 (by decide) ?_
  refine g_aload_n X dSc_become_5 rfl ?_
  refine g_getR X fl_Sc_9 fb_5_0 h0 dSc_become_6 ?_
  refine g_iconst X 0 dSc_become_9 (by decide) ?_
  refine g_bipush X 80 dSc_become_10 (by decide) ?_
  refine g_acopy X (sk_5_0 h1) (sl_5_0 h1) (sk_5_0 h0) (sl_5_0 h0) ml_Sc_31 dSc_become_12 (by decide) (Nat.le_of_ble_eq_true rfl) (fun s1 => ?_)
  refine g_aload_n X dSc_become_15 rfl ?_
  refine g_aload_n X dSc_become_16 rfl ?_
  refine g_getI X fl_Sc_37 fb_5_1 h1 dSc_become_17 ?_
  refine g_putI X fl_Sc_37 fb_5_1 fp_5_1 h0 dSc_become_20 (fun s2 => ?_)
  refine g_aload_n X dSc_become_23 rfl ?_
  refine g_aload_n X dSc_become_24 rfl ?_
  refine g_getI X fl_Sc_15 fb_5_2 h1 dSc_become_25 ?_
  refine g_putI X fl_Sc_15 fb_5_2 fp_5_2 h0 dSc_become_28 (fun s3 => ?_)
  refine g_aload_n X dSc_become_31 rfl ?_
  refine g_aload_n X dSc_become_32 rfl ?_
  refine g_getI X fl_Sc_19 fb_5_3 h1 dSc_become_33 ?_
  refine g_putI X fl_Sc_19 fb_5_3 fp_5_3 h0 dSc_become_36 (fun s4 => ?_)
  refine g_aload_n X dSc_become_39 rfl ?_
  refine g_aload_n X dSc_become_40 rfl ?_
  refine g_getI X fl_Sc_22 fb_5_4 h1 dSc_become_41 ?_
  refine g_putI X fl_Sc_22 fb_5_4 fp_5_4 h0 dSc_become_44 (fun s5 => ?_)
  refine g_aload_n X dSc_become_47 rfl ?_
  refine g_aload_n X dSc_become_48 rfl ?_
  refine g_getI X fl_Sc_25 fb_5_5 h1 dSc_become_49 ?_
  refine g_putI X fl_Sc_25 fb_5_5 fp_5_5 h0 dSc_become_52 (fun s6 => ?_)
  refine g_aload_n X dSc_become_55 rfl ?_
  refine g_aload_n X dSc_become_56 rfl ?_
  refine g_getI X fl_Sc_40 fb_5_6 h1 dSc_become_57 ?_
  refine g_putI X fl_Sc_40 fb_5_6 fp_5_6 h0 dSc_become_60 (fun s7 => ?_)
  refine g_aload_n X dSc_become_63 rfl ?_
  refine g_aload_n X dSc_become_64 rfl ?_
  refine g_getI X fl_Sc_43 fb_5_7 h1 dSc_become_65 ?_
  refine g_putI X fl_Sc_43 fb_5_7 fp_5_7 h0 dSc_become_68 (fun s8 => ?_)
  refine g_aload_n X dSc_become_71 rfl ?_
  refine g_aload_n X dSc_become_72 rfl ?_
  refine g_getI X fl_Sc_28 fb_5_8 h1 dSc_become_73 ?_
  refine g_putI X fl_Sc_28 fb_5_8 fp_5_8 h0 dSc_become_76 (fun s9 => ?_)
  refine g_aload_n X dSc_become_79 rfl ?_
  refine g_aload_n X dSc_become_80 rfl ?_
  refine g_getI X fl_Sc_46 fb_5_9 h1 dSc_become_81 ?_
  refine g_putI X fl_Sc_46 fb_5_9 fp_5_9 h0 dSc_become_84 (fun s10 => ?_)
  refine g_aload_n X dSc_become_87 rfl ?_
  refine g_aload_n X dSc_become_88 rfl ?_
  refine g_getI X fl_Sc_49 fb_5_10 h1 dSc_become_89 ?_
  refine g_putI X fl_Sc_49 fb_5_10 fp_5_10 h0 dSc_become_92 (fun s11 => ?_)
  refine g_aload_n X dSc_become_95 rfl ?_
  refine g_aload_n X dSc_become_96 rfl ?_
  refine g_getI X fl_Sc_52 fb_5_11 h1 dSc_become_97 ?_
  refine g_putI X fl_Sc_52 fb_5_11 fp_5_11 h0 dSc_become_100 (fun s12 => ?_)
  refine g_aload_n X dSc_become_103 rfl ?_
  refine g_aload_n X dSc_become_104 rfl ?_
  refine g_getI X fl_Sc_55 fb_5_12 h1 dSc_become_105 ?_
  refine g_putI X fl_Sc_55 fb_5_12 fp_5_12 h0 dSc_become_108 (fun s13 => ?_)
  exact g_vret X E dSc_become_111
def ySc_has : MethodName := ⟨"LastWordHill$Scene", "has", "(I)Z"⟩
abbrev cSc_has : ByteArray := prog_7_method_3_code
theorem dSc_has_0 : decode cSc_has 0 = .ok (.iload_n 1, 1) := by decide +kernel
theorem dSc_has_1 : decode cSc_has 1 = .ok (.ifCond .lt 15, 3) := by decide +kernel
theorem dSc_has_16 : decode cSc_has 16 = .ok (.iconst 0, 1) := by decide +kernel
theorem dSc_has_17 : decode cSc_has 17 = .ok (.ireturn, 1) := by decide +kernel
theorem dSc_has_4 : decode cSc_has 4 = .ok (.iload_n 1, 1) := by decide +kernel
theorem dSc_has_5 : decode cSc_has 5 = .ok (.aload_n 0, 1) := by decide +kernel
theorem dSc_has_6 : decode cSc_has 6 = .ok (.getfield 37, 3) := by decide +kernel
theorem dSc_has_9 : decode cSc_has 9 = .ok (.if_icmp .ge 7, 3) := by decide +kernel
theorem dSc_has_12 : decode cSc_has 12 = .ok (.iconst 1, 1) := by decide +kernel
theorem dSc_has_13 : decode cSc_has 13 = .ok (.goto 4, 3) := by decide +kernel
def fSc_has (o0 : Nat) (v1 : Int32) (s0 : Sg) : Option (Int32 × Sg) := if v1 < 0 then (gb 0 (some (0, s0))) else (if (s0 o0 1) ≤ v1 then (gb 0 (some (0, s0))) else (gb 1 (some (1, s0))))
set_option maxHeartbeats 4000000 in
set_option maxRecDepth 100000 in
theorem okSc_has (o0 : Nat) (v1 : Int32) (s0 : Sg) (h0 : hz_kd o0 = 5) : ∀ (l : Launch) (w : WC), Ok l w ySc_has cSc_has 2 (some .boolean) 1 evI [.ref (w.ad o0), .int v1] s0 (fSc_has o0 v1 s0) := by
  refine ok_in (ev := fun _ => evI) (av := fun w => [.ref (w.ad o0), .int v1]) "LastWordHill$Scene" rfl (by decide +kernel) (fun _ => rfl) (fun _ => Nat.le_of_ble_eq_true rfl) ?_
  intro C X E
  show GF C evI 0 [some (.ref (C.w.ad o0)), some (.int v1)] [] s0 (fSc_has o0 v1 s0)
  unfold fSc_has
  refine g_iload_n X dSc_has_0 rfl ?_
  refine g_zlt X (tgt := 16) dSc_has_1 (by decide) ?_ ?_
  · refine g_iconst X 0 dSc_has_16 (by decide) ?_
    exact g_zret X E dSc_has_17
  · refine g_iload_n X dSc_has_4 rfl ?_
    refine g_aload_n X dSc_has_5 rfl ?_
    refine g_getI X fl_Sc_37 fb_5_1 h0 dSc_has_6 ?_
    refine g_cge X (tgt := 16) dSc_has_9 (by decide) ?_ ?_
    · refine g_iconst X 0 dSc_has_16 (by decide) ?_
      exact g_zret X E dSc_has_17
    · refine g_iconst X 1 dSc_has_12 (by decide) ?_
      refine g_goto X 17 dSc_has_13 (by decide) ?_
      exact g_zret X E dSc_has_17
def ySc_tell : MethodName := ⟨"LastWordHill$Scene", "tell", "(II)I"⟩
abbrev cSc_tell : ByteArray := prog_7_method_4_code
theorem dSc_tell_0 : decode cSc_tell 0 = .ok (.iload_n 1, 1) := by decide +kernel
theorem dSc_tell_1 : decode cSc_tell 1 = .ok (.ifCond .lt 19, 3) := by decide +kernel
theorem dSc_tell_20 : decode cSc_tell 20 = .ok (.iconst 0, 1) := by decide +kernel
theorem dSc_tell_21 : decode cSc_tell 21 = .ok (.ireturn, 1) := by decide +kernel
theorem dSc_tell_4 : decode cSc_tell 4 = .ok (.iload_n 1, 1) := by decide +kernel
theorem dSc_tell_5 : decode cSc_tell 5 = .ok (.bipush 10, 2) := by decide +kernel
theorem dSc_tell_7 : decode cSc_tell 7 = .ok (.if_icmp .ge 13, 3) := by decide +kernel
theorem dSc_tell_10 : decode cSc_tell 10 = .ok (.iload_n 2, 1) := by decide +kernel
theorem dSc_tell_11 : decode cSc_tell 11 = .ok (.ifCond .lt 9, 3) := by decide +kernel
theorem dSc_tell_14 : decode cSc_tell 14 = .ok (.iload_n 2, 1) := by decide +kernel
theorem dSc_tell_15 : decode cSc_tell 15 = .ok (.bipush 8, 2) := by decide +kernel
theorem dSc_tell_17 : decode cSc_tell 17 = .ok (.if_icmp .lt 5, 3) := by decide +kernel
theorem dSc_tell_22 : decode cSc_tell 22 = .ok (.aload_n 0, 1) := by decide +kernel
theorem dSc_tell_23 : decode cSc_tell 23 = .ok (.getfield 9, 3) := by decide +kernel
theorem dSc_tell_26 : decode cSc_tell 26 = .ok (.iload_n 1, 1) := by decide +kernel
theorem dSc_tell_27 : decode cSc_tell 27 = .ok (.bipush 8, 2) := by decide +kernel
theorem dSc_tell_29 : decode cSc_tell 29 = .ok (.imul, 1) := by decide +kernel
theorem dSc_tell_30 : decode cSc_tell 30 = .ok (.iload_n 2, 1) := by decide +kernel
theorem dSc_tell_31 : decode cSc_tell 31 = .ok (.iadd, 1) := by decide +kernel
theorem dSc_tell_32 : decode cSc_tell 32 = .ok (.iaload, 1) := by decide +kernel
theorem dSc_tell_33 : decode cSc_tell 33 = .ok (.ireturn, 1) := by decide +kernel
def fSc_tell (o0 : Nat) (v1 : Int32) (v2 : Int32) (s0 : Sg) : Option (Int32 × Sg) := if v1 < 0 then (some (0, s0)) else (if 10 ≤ v1 then (some (0, s0)) else (if v2 < 0 then (some (0, s0)) else (if v2 < 8 then (gd ((v1 * 8) + v2) 80 (some ((s0 (hz_rf o0 0) (ix ((v1 * 8) + v2))), s0))) else (some (0, s0)))))
set_option maxHeartbeats 4000000 in
set_option maxRecDepth 100000 in
theorem okSc_tell (o0 : Nat) (v1 : Int32) (v2 : Int32) (s0 : Sg) (h0 : hz_kd o0 = 5) : ∀ (l : Launch) (w : WC), Ok l w ySc_tell cSc_tell 3 (some .int) 1 evI [.ref (w.ad o0), .int v1, .int v2] s0 (fSc_tell o0 v1 v2 s0) := by
  refine ok_in (ev := fun _ => evI) (av := fun w => [.ref (w.ad o0), .int v1, .int v2]) "LastWordHill$Scene" rfl (by decide +kernel) (fun _ => rfl) (fun _ => Nat.le_of_ble_eq_true rfl) ?_
  intro C X E
  show GF C evI 0 [some (.ref (C.w.ad o0)), some (.int v1), some (.int v2)] [] s0 (fSc_tell o0 v1 v2 s0)
  unfold fSc_tell
  refine g_iload_n X dSc_tell_0 rfl ?_
  refine g_zlt X (tgt := 20) dSc_tell_1 (by decide) ?_ ?_
  · refine g_iconst X 0 dSc_tell_20 (by decide) ?_
    exact g_iret X E dSc_tell_21
  · refine g_iload_n X dSc_tell_4 rfl ?_
    refine g_bipush X 10 dSc_tell_5 (by decide) ?_
    refine g_cge X (tgt := 20) dSc_tell_7 (by decide) ?_ ?_
    · refine g_iconst X 0 dSc_tell_20 (by decide) ?_
      exact g_iret X E dSc_tell_21
    · refine g_iload_n X dSc_tell_10 rfl ?_
      refine g_zlt X (tgt := 20) dSc_tell_11 (by decide) ?_ ?_
      · refine g_iconst X 0 dSc_tell_20 (by decide) ?_
        exact g_iret X E dSc_tell_21
      · refine g_iload_n X dSc_tell_14 rfl ?_
        refine g_bipush X 8 dSc_tell_15 (by decide) ?_
        refine g_clt X (tgt := 22) dSc_tell_17 (by decide) ?_ ?_
        · refine g_aload_n X dSc_tell_22 rfl ?_
          refine g_getR X fl_Sc_9 fb_5_0 h0 dSc_tell_23 ?_
          refine g_iload_n X dSc_tell_26 rfl ?_
          refine g_bipush X 8 dSc_tell_27 (by decide) ?_
          refine g_imul X dSc_tell_29 ?_
          refine g_iload_n X dSc_tell_30 rfl ?_
          refine g_iadd X dSc_tell_31 ?_
          refine g_iald X (sk_5_0 h0) (sl_5_0 h0) dSc_tell_32 ?_
          exact g_iret X E dSc_tell_33
        · refine g_iconst X 0 dSc_tell_20 (by decide) ?_
          exact g_iret X E dSc_tell_21
def ySc_put : MethodName := ⟨"LastWordHill$Scene", "put", "(III)V"⟩
abbrev cSc_put : ByteArray := prog_7_method_5_code
theorem dSc_put_0 : decode cSc_put 0 = .ok (.iload_n 1, 1) := by decide +kernel
theorem dSc_put_1 : decode cSc_put 1 = .ok (.ifCond .lt 31, 3) := by decide +kernel
theorem dSc_put_32 : decode cSc_put 32 = .ok (.return_, 1) := by decide +kernel
theorem dSc_put_4 : decode cSc_put 4 = .ok (.iload_n 1, 1) := by decide +kernel
theorem dSc_put_5 : decode cSc_put 5 = .ok (.bipush 10, 2) := by decide +kernel
theorem dSc_put_7 : decode cSc_put 7 = .ok (.if_icmp .ge 25, 3) := by decide +kernel
theorem dSc_put_10 : decode cSc_put 10 = .ok (.iload_n 2, 1) := by decide +kernel
theorem dSc_put_11 : decode cSc_put 11 = .ok (.ifCond .lt 21, 3) := by decide +kernel
theorem dSc_put_14 : decode cSc_put 14 = .ok (.iload_n 2, 1) := by decide +kernel
theorem dSc_put_15 : decode cSc_put 15 = .ok (.bipush 8, 2) := by decide +kernel
theorem dSc_put_17 : decode cSc_put 17 = .ok (.if_icmp .ge 15, 3) := by decide +kernel
theorem dSc_put_20 : decode cSc_put 20 = .ok (.aload_n 0, 1) := by decide +kernel
theorem dSc_put_21 : decode cSc_put 21 = .ok (.getfield 9, 3) := by decide +kernel
theorem dSc_put_24 : decode cSc_put 24 = .ok (.iload_n 1, 1) := by decide +kernel
theorem dSc_put_25 : decode cSc_put 25 = .ok (.bipush 8, 2) := by decide +kernel
theorem dSc_put_27 : decode cSc_put 27 = .ok (.imul, 1) := by decide +kernel
theorem dSc_put_28 : decode cSc_put 28 = .ok (.iload_n 2, 1) := by decide +kernel
theorem dSc_put_29 : decode cSc_put 29 = .ok (.iadd, 1) := by decide +kernel
theorem dSc_put_30 : decode cSc_put 30 = .ok (.iload_n 3, 1) := by decide +kernel
theorem dSc_put_31 : decode cSc_put 31 = .ok (.iastore, 1) := by decide +kernel
def fSc_put (o0 : Nat) (v1 : Int32) (v2 : Int32) (v3 : Int32) (s0 : Sg) : Option (Sg) := if v1 < 0 then (some s0) else (if 10 ≤ v1 then (some s0) else (if v2 < 0 then (some s0) else (if 8 ≤ v2 then (some s0) else (gd ((v1 * 8) + v2) 80 (bnd (pt s0 (hz_rf o0 0) (ix ((v1 * 8) + v2)) v3) fun s1 => some s1)))))
set_option maxHeartbeats 4000000 in
set_option maxRecDepth 100000 in
theorem okSc_put (o0 : Nat) (v1 : Int32) (v2 : Int32) (v3 : Int32) (s0 : Sg) (h0 : hz_kd o0 = 5) : ∀ (l : Launch) (w : WC), Ok l w ySc_put cSc_put 4 none 1 evV [.ref (w.ad o0), .int v1, .int v2, .int v3] s0 (fSc_put o0 v1 v2 v3 s0) := by
  refine ok_in (ev := fun _ => evV) (av := fun w => [.ref (w.ad o0), .int v1, .int v2, .int v3]) "LastWordHill$Scene" rfl (by decide +kernel) (fun _ => rfl) (fun _ => Nat.le_of_ble_eq_true rfl) ?_
  intro C X E
  show GF C evV 0 [some (.ref (C.w.ad o0)), some (.int v1), some (.int v2), some (.int v3)] [] s0 (fSc_put o0 v1 v2 v3 s0)
  unfold fSc_put
  refine g_iload_n X dSc_put_0 rfl ?_
  refine g_zlt X (tgt := 32) dSc_put_1 (by decide) ?_ ?_
  · exact g_vret X E dSc_put_32
  · refine g_iload_n X dSc_put_4 rfl ?_
    refine g_bipush X 10 dSc_put_5 (by decide) ?_
    refine g_cge X (tgt := 32) dSc_put_7 (by decide) ?_ ?_
    · exact g_vret X E dSc_put_32
    · refine g_iload_n X dSc_put_10 rfl ?_
      refine g_zlt X (tgt := 32) dSc_put_11 (by decide) ?_ ?_
      · exact g_vret X E dSc_put_32
      · refine g_iload_n X dSc_put_14 rfl ?_
        refine g_bipush X 8 dSc_put_15 (by decide) ?_
        refine g_cge X (tgt := 32) dSc_put_17 (by decide) ?_ ?_
        · exact g_vret X E dSc_put_32
        · refine g_aload_n X dSc_put_20 rfl ?_
          refine g_getR X fl_Sc_9 fb_5_0 h0 dSc_put_21 ?_
          refine g_iload_n X dSc_put_24 rfl ?_
          refine g_bipush X 8 dSc_put_25 (by decide) ?_
          refine g_imul X dSc_put_27 ?_
          refine g_iload_n X dSc_put_28 rfl ?_
          refine g_iadd X dSc_put_29 ?_
          refine g_iload_n X dSc_put_30 rfl ?_
          refine g_iast X (sk_5_0 h0) (sl_5_0 h0) dSc_put_31 (fun s1 => ?_)
          exact g_vret X E dSc_put_32
def ySc_isUp : MethodName := ⟨"LastWordHill$Scene", "isUp", "(I)Z"⟩
abbrev cSc_isUp : ByteArray := prog_7_method_6_code
theorem dSc_isUp_0 : decode cSc_isUp 0 = .ok (.aload_n 0, 1) := by decide +kernel
theorem dSc_isUp_1 : decode cSc_isUp 1 = .ok (.iload_n 1, 1) := by decide +kernel
theorem dSc_isUp_2 : decode cSc_isUp 2 = .ok (.iconst 4, 1) := by decide +kernel
theorem dSc_isUp_3 : decode cSc_isUp 3 = .ok (.invokevirtual 58, 3) := by decide +kernel
theorem mm_Sc_tell : MMc ySc_tell cSc_tell 3 (some .int) 2 := ⟨hz_in 633 (by decide +kernel) (by decide +kernel), hz_in 135 (by decide +kernel) (by decide +kernel), by decide +kernel, by decide⟩
theorem mv_Sc_tell : MMv ySc_tell 5 := ⟨hz_in 631 (by decide +kernel) (by decide +kernel), hz_in 632 (by decide +kernel) (by decide +kernel), _, _, rfl, by decide⟩
theorem ml_Sc_58 : Cond.methodLink "LastWordHill$Scene" 58 ySc_tell ∈ hz_wt := hz_in 638 (by decide +kernel) (by decide +kernel)
theorem dSc_isUp_6 : decode cSc_isUp 6 = .ok (.bipush 99, 2) := by decide +kernel
theorem dSc_isUp_8 : decode cSc_isUp 8 = .ok (.if_icmp .lt 7, 3) := by decide +kernel
theorem dSc_isUp_15 : decode cSc_isUp 15 = .ok (.iconst 0, 1) := by decide +kernel
theorem dSc_isUp_16 : decode cSc_isUp 16 = .ok (.ireturn, 1) := by decide +kernel
theorem dSc_isUp_11 : decode cSc_isUp 11 = .ok (.iconst 1, 1) := by decide +kernel
theorem dSc_isUp_12 : decode cSc_isUp 12 = .ok (.goto 4, 3) := by decide +kernel
def fSc_isUp (o0 : Nat) (v1 : Int32) (s0 : Sg) : Option (Int32 × Sg) := bi (fSc_tell o0 v1 4 s0) fun r2 s1 => if r2 < 99 then (gb 0 (some (0, s1))) else (gb 1 (some (1, s1)))
set_option maxHeartbeats 4000000 in
set_option maxRecDepth 100000 in
theorem okSc_isUp (o0 : Nat) (v1 : Int32) (s0 : Sg) (h0 : hz_kd o0 = 5) : ∀ (l : Launch) (w : WC), Ok l w ySc_isUp cSc_isUp 2 (some .boolean) 2 evI [.ref (w.ad o0), .int v1] s0 (fSc_isUp o0 v1 s0) := by
  refine ok_in (ev := fun _ => evI) (av := fun w => [.ref (w.ad o0), .int v1]) "LastWordHill$Scene" rfl (by decide +kernel) (fun _ => rfl) (fun _ => Nat.le_of_ble_eq_true rfl) ?_
  intro C X E
  show GF C evI 0 [some (.ref (C.w.ad o0)), some (.int v1)] [] s0 (fSc_isUp o0 v1 s0)
  unfold fSc_isUp
  refine g_aload_n X dSc_isUp_0 rfl ?_
  refine g_iload_n X dSc_isUp_1 rfl ?_
  refine g_iconst X 4 dSc_isUp_2 (by decide) ?_
  refine g_virtI X [.int v1, .int 4] [] h0 mm_Sc_tell mv_Sc_tell ml_Sc_58 (okSc_tell o0 v1 4 s0 h0 C.l C.w) rfl (by decide) rfl (Nat.le_of_ble_eq_true rfl) dSc_isUp_3 (fun r2 s1 => ?_)
  refine g_bipush X 99 dSc_isUp_6 (by decide) ?_
  refine g_clt X (tgt := 15) dSc_isUp_8 (by decide) ?_ ?_
  · refine g_iconst X 0 dSc_isUp_15 (by decide) ?_
    exact g_zret X E dSc_isUp_16
  · refine g_iconst X 1 dSc_isUp_11 (by decide) ?_
    refine g_goto X 16 dSc_isUp_12 (by decide) ?_
    exact g_zret X E dSc_isUp_16
def ySc_manyUp : MethodName := ⟨"LastWordHill$Scene", "manyUp", "()I"⟩
abbrev cSc_manyUp : ByteArray := prog_7_method_7_code
theorem dSc_manyUp_0 : decode cSc_manyUp 0 = .ok (.iconst 0, 1) := by decide +kernel
theorem dSc_manyUp_1 : decode cSc_manyUp 1 = .ok (.istore_n 1, 1) := by decide +kernel
theorem dSc_manyUp_2 : decode cSc_manyUp 2 = .ok (.iconst 4, 1) := by decide +kernel
theorem dSc_manyUp_3 : decode cSc_manyUp 3 = .ok (.istore_n 2, 1) := by decide +kernel
theorem dSc_manyUp_4 : decode cSc_manyUp 4 = .ok (.iload_n 2, 1) := by decide +kernel
theorem dSc_manyUp_5 : decode cSc_manyUp 5 = .ok (.aload_n 0, 1) := by decide +kernel
theorem dSc_manyUp_6 : decode cSc_manyUp 6 = .ok (.getfield 37, 3) := by decide +kernel
theorem dSc_manyUp_9 : decode cSc_manyUp 9 = .ok (.bipush 8, 2) := by decide +kernel
theorem dSc_manyUp_11 : decode cSc_manyUp 11 = .ok (.imul, 1) := by decide +kernel
theorem dSc_manyUp_12 : decode cSc_manyUp 12 = .ok (.if_icmp .ge 32, 3) := by decide +kernel
theorem dSc_manyUp_44 : decode cSc_manyUp 44 = .ok (.iload_n 1, 1) := by decide +kernel
theorem dSc_manyUp_45 : decode cSc_manyUp 45 = .ok (.ireturn, 1) := by decide +kernel
theorem dSc_manyUp_15 : decode cSc_manyUp 15 = .ok (.iload_n 2, 1) := by decide +kernel
theorem dSc_manyUp_16 : decode cSc_manyUp 16 = .ok (.aload_n 0, 1) := by decide +kernel
theorem dSc_manyUp_17 : decode cSc_manyUp 17 = .ok (.getfield 9, 3) := by decide +kernel
theorem dSc_manyUp_20 : decode cSc_manyUp 20 = .ok (.arraylength, 1) := by decide +kernel
theorem dSc_manyUp_21 : decode cSc_manyUp 21 = .ok (.if_icmp .ge 23, 3) := by decide +kernel
theorem dSc_manyUp_24 : decode cSc_manyUp 24 = .ok (.aload_n 0, 1) := by decide +kernel
theorem dSc_manyUp_25 : decode cSc_manyUp 25 = .ok (.getfield 9, 3) := by decide +kernel
theorem dSc_manyUp_28 : decode cSc_manyUp 28 = .ok (.iload_n 2, 1) := by decide +kernel
theorem dSc_manyUp_29 : decode cSc_manyUp 29 = .ok (.iaload, 1) := by decide +kernel
theorem dSc_manyUp_30 : decode cSc_manyUp 30 = .ok (.bipush 99, 2) := by decide +kernel
theorem dSc_manyUp_32 : decode cSc_manyUp 32 = .ok (.if_icmp .lt 6, 3) := by decide +kernel
theorem dSc_manyUp_38 : decode cSc_manyUp 38 = .ok (.iinc 2 8, 3) := by decide +kernel
theorem dSc_manyUp_41 : decode cSc_manyUp 41 = .ok (.goto (-37), 3) := by decide +kernel
theorem dSc_manyUp_35 : decode cSc_manyUp 35 = .ok (.iinc 1 1, 3) := by decide +kernel
def fSc_manyUp (o0 : Nat) (s0 : Sg) : Option (Int32 × Sg) := lp FU (fun q4 (u4 : Int32 × Int32) (s1 : Sg) => if ((s1 o0 1) * 8) ≤ u4.2 then (some (u4.1, s1)) else (if (nI 80) ≤ u4.2 then (some (u4.1, s1)) else (gd u4.2 80 (bnd (fun (a38_1 : Int32) (s2 : Sg) => q4 (a38_1, (u4.2 + 8)) s2) fun j38 => if (s1 (hz_rf o0 0) (ix u4.2)) < 99 then (j38 u4.1 s1) else (j38 (u4.1 + 1) s1))))) (0, 4) s0
set_option maxHeartbeats 4000000 in
set_option maxRecDepth 100000 in
theorem okSc_manyUp (o0 : Nat) (s0 : Sg) (h0 : hz_kd o0 = 5) : ∀ (l : Launch) (w : WC), Ok l w ySc_manyUp cSc_manyUp 3 (some .int) 1 evI [.ref (w.ad o0)] s0 (fSc_manyUp o0 s0) := by
  refine ok_in (ev := fun _ => evI) (av := fun w => [.ref (w.ad o0)]) "LastWordHill$Scene" rfl (by decide +kernel) (fun _ => rfl) (fun _ => Nat.le_of_ble_eq_true rfl) ?_
  intro C X E
  show GF C evI 0 [some (.ref (C.w.ad o0)), none, none] [] s0 (fSc_manyUp o0 s0)
  unfold fSc_manyUp
  refine g_iconst X 0 dSc_manyUp_0 (by decide) ?_
  refine g_istore_n X [some (.ref (C.w.ad o0)), some (.int 0), none] dSc_manyUp_1 (by decide) (Nat.le_of_ble_eq_true rfl) rfl ?_
  refine g_iconst X 4 dSc_manyUp_2 (by decide) ?_
  refine g_istore_n X [some (.ref (C.w.ad o0)), some (.int 0), some (.int 4)] dSc_manyUp_3 (by decide) (Nat.le_of_ble_eq_true rfl) rfl ?_
  refine gf_sub (L' := [some (.ref (C.w.ad o0)), some (.int 0), some (.int 4)]) ?_ (by simp [lsub])
  refine gf_lp (Lf := fun (u4 : Int32 × Int32) => [some (.ref (C.w.ad o0)), some (.int u4.1), some (.int u4.2)]) (fun q4 hq4 u4 s1 => ?_) FU (0, 4) s0
  refine g_iload_n X dSc_manyUp_4 rfl ?_
  refine g_aload_n X dSc_manyUp_5 rfl ?_
  refine g_getI X fl_Sc_37 fb_5_1 h0 dSc_manyUp_6 ?_
  refine g_bipush X 8 dSc_manyUp_9 (by decide) ?_
  refine g_imul X dSc_manyUp_11 ?_
  refine g_cge X (tgt := 44) dSc_manyUp_12 (by decide) ?_ ?_
  · refine g_iload_n X dSc_manyUp_44 rfl ?_
    exact g_iret X E dSc_manyUp_45
  · refine g_iload_n X dSc_manyUp_15 rfl ?_
    refine g_aload_n X dSc_manyUp_16 rfl ?_
    refine g_getR X fl_Sc_9 fb_5_0 h0 dSc_manyUp_17 ?_
    refine g_alen X (sk_5_0 h0) (sl_5_0 h0) dSc_manyUp_20 ?_
    refine g_cge X (tgt := 44) dSc_manyUp_21 (by decide) ?_ ?_
    · refine g_iload_n X dSc_manyUp_44 rfl ?_
      exact g_iret X E dSc_manyUp_45
    · refine g_aload_n X dSc_manyUp_24 rfl ?_
      refine g_getR X fl_Sc_9 fb_5_0 h0 dSc_manyUp_25 ?_
      refine g_iload_n X dSc_manyUp_28 rfl ?_
      refine g_iald X (sk_5_0 h0) (sl_5_0 h0) dSc_manyUp_29 ?_
      refine g_bipush X 99 dSc_manyUp_30 (by decide) ?_
      refine gf_jn (fun j38 => ∀ (a38_1 : Int32) (s2 : Sg), GF C evI 38 [some (.ref (C.w.ad o0)), some (.int a38_1), some (.int u4.2)] [] s2 (j38 a38_1 s2)) ?_ ?_
      · intro a38_1 s2
        refine g_iinc X (u4.2 + 8) [some (.ref (C.w.ad o0)), some (.int a38_1), some (.int (u4.2 + 8))] dSc_manyUp_38 rfl rfl (by decide) rfl ?_
        refine g_goto X 4 dSc_manyUp_41 (by decide) ?_
        exact gf_sub (hq4 (a38_1, (u4.2 + 8)) s2) (by simp [lsub])
      · intro j38 hj38
        refine g_clt X (tgt := 38) dSc_manyUp_32 (by decide) ?_ ?_
        · exact gf_sub (hj38 u4.1 s1) (by simp [lsub])
        · refine g_iinc X (u4.1 + 1) [some (.ref (C.w.ad o0)), some (.int (u4.1 + 1)), some (.int u4.2)] dSc_manyUp_35 rfl rfl (by decide) rfl ?_
          exact gf_sub (hj38 (u4.1 + 1) s1) (by simp [lsub])
def ySc_allBreath : MethodName := ⟨"LastWordHill$Scene", "allBreath", "()I"⟩
abbrev cSc_allBreath : ByteArray := prog_7_method_8_code
theorem dSc_allBreath_0 : decode cSc_allBreath 0 = .ok (.iconst 0, 1) := by decide +kernel
theorem dSc_allBreath_1 : decode cSc_allBreath 1 = .ok (.istore_n 1, 1) := by decide +kernel
theorem dSc_allBreath_2 : decode cSc_allBreath 2 = .ok (.iconst 0, 1) := by decide +kernel
theorem dSc_allBreath_3 : decode cSc_allBreath 3 = .ok (.istore_n 2, 1) := by decide +kernel
theorem dSc_allBreath_4 : decode cSc_allBreath 4 = .ok (.iload_n 2, 1) := by decide +kernel
theorem dSc_allBreath_5 : decode cSc_allBreath 5 = .ok (.aload_n 0, 1) := by decide +kernel
theorem dSc_allBreath_6 : decode cSc_allBreath 6 = .ok (.getfield 37, 3) := by decide +kernel
theorem dSc_allBreath_9 : decode cSc_allBreath 9 = .ok (.if_icmp .ge 18, 3) := by decide +kernel
theorem dSc_allBreath_27 : decode cSc_allBreath 27 = .ok (.iload_n 1, 1) := by decide +kernel
theorem dSc_allBreath_28 : decode cSc_allBreath 28 = .ok (.ireturn, 1) := by decide +kernel
theorem dSc_allBreath_12 : decode cSc_allBreath 12 = .ok (.iload_n 1, 1) := by decide +kernel
theorem dSc_allBreath_13 : decode cSc_allBreath 13 = .ok (.aload_n 0, 1) := by decide +kernel
theorem dSc_allBreath_14 : decode cSc_allBreath 14 = .ok (.iload_n 2, 1) := by decide +kernel
theorem dSc_allBreath_15 : decode cSc_allBreath 15 = .ok (.iconst 3, 1) := by decide +kernel
theorem dSc_allBreath_16 : decode cSc_allBreath 16 = .ok (.invokevirtual 58, 3) := by decide +kernel
theorem dSc_allBreath_19 : decode cSc_allBreath 19 = .ok (.iadd, 1) := by decide +kernel
theorem dSc_allBreath_20 : decode cSc_allBreath 20 = .ok (.istore_n 1, 1) := by decide +kernel
theorem dSc_allBreath_21 : decode cSc_allBreath 21 = .ok (.iinc 2 1, 3) := by decide +kernel
theorem dSc_allBreath_24 : decode cSc_allBreath 24 = .ok (.goto (-20), 3) := by decide +kernel
def fSc_allBreath (o0 : Nat) (s0 : Sg) : Option (Int32 × Sg) := lp FU (fun q4 (u4 : Int32 × Int32) (s1 : Sg) => if (s1 o0 1) ≤ u4.2 then (some (u4.1, s1)) else (bi (fSc_tell o0 u4.2 3 s1) fun r3 s2 => q4 ((u4.1 + r3), (u4.2 + 1)) s2)) (0, 0) s0
set_option maxHeartbeats 4000000 in
set_option maxRecDepth 100000 in
theorem okSc_allBreath (o0 : Nat) (s0 : Sg) (h0 : hz_kd o0 = 5) : ∀ (l : Launch) (w : WC), Ok l w ySc_allBreath cSc_allBreath 3 (some .int) 2 evI [.ref (w.ad o0)] s0 (fSc_allBreath o0 s0) := by
  refine ok_in (ev := fun _ => evI) (av := fun w => [.ref (w.ad o0)]) "LastWordHill$Scene" rfl (by decide +kernel) (fun _ => rfl) (fun _ => Nat.le_of_ble_eq_true rfl) ?_
  intro C X E
  show GF C evI 0 [some (.ref (C.w.ad o0)), none, none] [] s0 (fSc_allBreath o0 s0)
  unfold fSc_allBreath
  refine g_iconst X 0 dSc_allBreath_0 (by decide) ?_
  refine g_istore_n X [some (.ref (C.w.ad o0)), some (.int 0), none] dSc_allBreath_1 (by decide) (Nat.le_of_ble_eq_true rfl) rfl ?_
  refine g_iconst X 0 dSc_allBreath_2 (by decide) ?_
  refine g_istore_n X [some (.ref (C.w.ad o0)), some (.int 0), some (.int 0)] dSc_allBreath_3 (by decide) (Nat.le_of_ble_eq_true rfl) rfl ?_
  refine gf_sub (L' := [some (.ref (C.w.ad o0)), some (.int 0), some (.int 0)]) ?_ (by simp [lsub])
  refine gf_lp (Lf := fun (u4 : Int32 × Int32) => [some (.ref (C.w.ad o0)), some (.int u4.1), some (.int u4.2)]) (fun q4 hq4 u4 s1 => ?_) FU (0, 0) s0
  refine g_iload_n X dSc_allBreath_4 rfl ?_
  refine g_aload_n X dSc_allBreath_5 rfl ?_
  refine g_getI X fl_Sc_37 fb_5_1 h0 dSc_allBreath_6 ?_
  refine g_cge X (tgt := 27) dSc_allBreath_9 (by decide) ?_ ?_
  · refine g_iload_n X dSc_allBreath_27 rfl ?_
    exact g_iret X E dSc_allBreath_28
  · refine g_iload_n X dSc_allBreath_12 rfl ?_
    refine g_aload_n X dSc_allBreath_13 rfl ?_
    refine g_iload_n X dSc_allBreath_14 rfl ?_
    refine g_iconst X 3 dSc_allBreath_15 (by decide) ?_
    refine g_virtI X [.int u4.2, .int 3] [.int u4.1] h0 mm_Sc_tell mv_Sc_tell ml_Sc_58 (okSc_tell o0 u4.2 3 s1 h0 C.l C.w) rfl (by decide) rfl (Nat.le_of_ble_eq_true rfl) dSc_allBreath_16 (fun r3 s2 => ?_)
    refine g_iadd X dSc_allBreath_19 ?_
    refine g_istore_n X [some (.ref (C.w.ad o0)), some (.int (u4.1 + r3)), some (.int u4.2)] dSc_allBreath_20 (by decide) (Nat.le_of_ble_eq_true rfl) rfl ?_
    refine g_iinc X (u4.2 + 1) [some (.ref (C.w.ad o0)), some (.int (u4.1 + r3)), some (.int (u4.2 + 1))] dSc_allBreath_21 rfl rfl (by decide) rfl ?_
    refine g_goto X 4 dSc_allBreath_24 (by decide) ?_
    exact gf_sub (hq4 ((u4.1 + r3), (u4.2 + 1)) s2) (by simp [lsub])
def ySc_letGo : MethodName := ⟨"LastWordHill$Scene", "letGo", "(II)V"⟩
abbrev cSc_letGo : ByteArray := prog_7_method_10_code
theorem dSc_letGo_0 : decode cSc_letGo 0 = .ok (.aload_n 0, 1) := by decide +kernel
theorem dSc_letGo_1 : decode cSc_letGo 1 = .ok (.iload_n 1, 1) := by decide +kernel
theorem dSc_letGo_2 : decode cSc_letGo 2 = .ok (.iconst 5, 1) := by decide +kernel
theorem dSc_letGo_3 : decode cSc_letGo 3 = .ok (.iconst 1, 1) := by decide +kernel
theorem dSc_letGo_4 : decode cSc_letGo 4 = .ok (.invokevirtual 70, 3) := by decide +kernel
theorem mm_Sc_put : MMc ySc_put cSc_put 4 none 3 := ⟨hz_in 609 (by decide +kernel) (by decide +kernel), hz_in 135 (by decide +kernel) (by decide +kernel), by decide +kernel, by decide⟩
theorem mv_Sc_put : MMv ySc_put 5 := ⟨hz_in 607 (by decide +kernel) (by decide +kernel), hz_in 608 (by decide +kernel) (by decide +kernel), _, _, rfl, by decide⟩
theorem ml_Sc_70 : Cond.methodLink "LastWordHill$Scene" 70 ySc_put ∈ hz_wt := hz_in 614 (by decide +kernel) (by decide +kernel)
theorem dSc_letGo_7 : decode cSc_letGo 7 = .ok (.aload_n 0, 1) := by decide +kernel
theorem dSc_letGo_8 : decode cSc_letGo 8 = .ok (.iload_n 1, 1) := by decide +kernel
theorem dSc_letGo_9 : decode cSc_letGo 9 = .ok (.bipush 6, 2) := by decide +kernel
theorem dSc_letGo_11 : decode cSc_letGo 11 = .ok (.iload_n 2, 1) := by decide +kernel
theorem dSc_letGo_12 : decode cSc_letGo 12 = .ok (.invokevirtual 70, 3) := by decide +kernel
theorem dSc_letGo_15 : decode cSc_letGo 15 = .ok (.return_, 1) := by decide +kernel
def fSc_letGo (o0 : Nat) (v1 : Int32) (v2 : Int32) (s0 : Sg) : Option (Sg) := bv (fSc_put o0 v1 5 1 s0) fun s1 => bv (fSc_put o0 v1 6 v2 s1) fun s2 => some s2
set_option maxHeartbeats 4000000 in
set_option maxRecDepth 100000 in
theorem okSc_letGo (o0 : Nat) (v1 : Int32) (v2 : Int32) (s0 : Sg) (h0 : hz_kd o0 = 5) : ∀ (l : Launch) (w : WC), Ok l w ySc_letGo cSc_letGo 3 none 2 evV [.ref (w.ad o0), .int v1, .int v2] s0 (fSc_letGo o0 v1 v2 s0) := by
  refine ok_in (ev := fun _ => evV) (av := fun w => [.ref (w.ad o0), .int v1, .int v2]) "LastWordHill$Scene" rfl (by decide +kernel) (fun _ => rfl) (fun _ => Nat.le_of_ble_eq_true rfl) ?_
  intro C X E
  show GF C evV 0 [some (.ref (C.w.ad o0)), some (.int v1), some (.int v2)] [] s0 (fSc_letGo o0 v1 v2 s0)
  unfold fSc_letGo
  refine g_aload_n X dSc_letGo_0 rfl ?_
  refine g_iload_n X dSc_letGo_1 rfl ?_
  refine g_iconst X 5 dSc_letGo_2 (by decide) ?_
  refine g_iconst X 1 dSc_letGo_3 (by decide) ?_
  refine g_virtV X [.int v1, .int 5, .int 1] [] h0 mm_Sc_put mv_Sc_put ml_Sc_70 (okSc_put o0 v1 5 1 s0 h0 C.l C.w) rfl (by decide) rfl (Nat.le_of_ble_eq_true rfl) dSc_letGo_4 (fun s1 => ?_)
  refine g_aload_n X dSc_letGo_7 rfl ?_
  refine g_iload_n X dSc_letGo_8 rfl ?_
  refine g_bipush X 6 dSc_letGo_9 (by decide) ?_
  refine g_iload_n X dSc_letGo_11 rfl ?_
  refine g_virtV X [.int v1, .int 6, .int v2] [] h0 mm_Sc_put mv_Sc_put ml_Sc_70 (okSc_put o0 v1 6 v2 s1 h0 C.l C.w) rfl (by decide) rfl (Nat.le_of_ble_eq_true rfl) dSc_letGo_12 (fun s2 => ?_)
  exact g_vret X E dSc_letGo_15
def ySc_sendHome : MethodName := ⟨"LastWordHill$Scene", "sendHome", "(I)V"⟩
abbrev cSc_sendHome : ByteArray := prog_7_method_11_code
theorem dSc_sendHome_0 : decode cSc_sendHome 0 = .ok (.aload_n 0, 1) := by decide +kernel
theorem dSc_sendHome_1 : decode cSc_sendHome 1 = .ok (.iload_n 1, 1) := by decide +kernel
theorem dSc_sendHome_2 : decode cSc_sendHome 2 = .ok (.iconst 4, 1) := by decide +kernel
theorem dSc_sendHome_3 : decode cSc_sendHome 3 = .ok (.iconst 0, 1) := by decide +kernel
theorem dSc_sendHome_4 : decode cSc_sendHome 4 = .ok (.invokevirtual 70, 3) := by decide +kernel
theorem dSc_sendHome_7 : decode cSc_sendHome 7 = .ok (.aload_n 0, 1) := by decide +kernel
theorem dSc_sendHome_8 : decode cSc_sendHome 8 = .ok (.iload_n 1, 1) := by decide +kernel
theorem dSc_sendHome_9 : decode cSc_sendHome 9 = .ok (.iconst 5, 1) := by decide +kernel
theorem dSc_sendHome_10 : decode cSc_sendHome 10 = .ok (.iconst 0, 1) := by decide +kernel
theorem dSc_sendHome_11 : decode cSc_sendHome 11 = .ok (.invokevirtual 70, 3) := by decide +kernel
theorem dSc_sendHome_14 : decode cSc_sendHome 14 = .ok (.aload_n 0, 1) := by decide +kernel
theorem dSc_sendHome_15 : decode cSc_sendHome 15 = .ok (.iload_n 1, 1) := by decide +kernel
theorem dSc_sendHome_16 : decode cSc_sendHome 16 = .ok (.bipush 6, 2) := by decide +kernel
theorem dSc_sendHome_18 : decode cSc_sendHome 18 = .ok (.iconst (-1), 1) := by decide +kernel
theorem dSc_sendHome_19 : decode cSc_sendHome 19 = .ok (.invokevirtual 70, 3) := by decide +kernel
theorem dSc_sendHome_22 : decode cSc_sendHome 22 = .ok (.return_, 1) := by decide +kernel
def fSc_sendHome (o0 : Nat) (v1 : Int32) (s0 : Sg) : Option (Sg) := bv (fSc_put o0 v1 4 0 s0) fun s1 => bv (fSc_put o0 v1 5 0 s1) fun s2 => bv (fSc_put o0 v1 6 (-1) s2) fun s3 => some s3
set_option maxHeartbeats 4000000 in
set_option maxRecDepth 100000 in
theorem okSc_sendHome (o0 : Nat) (v1 : Int32) (s0 : Sg) (h0 : hz_kd o0 = 5) : ∀ (l : Launch) (w : WC), Ok l w ySc_sendHome cSc_sendHome 2 none 2 evV [.ref (w.ad o0), .int v1] s0 (fSc_sendHome o0 v1 s0) := by
  refine ok_in (ev := fun _ => evV) (av := fun w => [.ref (w.ad o0), .int v1]) "LastWordHill$Scene" rfl (by decide +kernel) (fun _ => rfl) (fun _ => Nat.le_of_ble_eq_true rfl) ?_
  intro C X E
  show GF C evV 0 [some (.ref (C.w.ad o0)), some (.int v1)] [] s0 (fSc_sendHome o0 v1 s0)
  unfold fSc_sendHome
  refine g_aload_n X dSc_sendHome_0 rfl ?_
  refine g_iload_n X dSc_sendHome_1 rfl ?_
  refine g_iconst X 4 dSc_sendHome_2 (by decide) ?_
  refine g_iconst X 0 dSc_sendHome_3 (by decide) ?_
  refine g_virtV X [.int v1, .int 4, .int 0] [] h0 mm_Sc_put mv_Sc_put ml_Sc_70 (okSc_put o0 v1 4 0 s0 h0 C.l C.w) rfl (by decide) rfl (Nat.le_of_ble_eq_true rfl) dSc_sendHome_4 (fun s1 => ?_)
  refine g_aload_n X dSc_sendHome_7 rfl ?_
  refine g_iload_n X dSc_sendHome_8 rfl ?_
  refine g_iconst X 5 dSc_sendHome_9 (by decide) ?_
  refine g_iconst X 0 dSc_sendHome_10 (by decide) ?_
  refine g_virtV X [.int v1, .int 5, .int 0] [] h0 mm_Sc_put mv_Sc_put ml_Sc_70 (okSc_put o0 v1 5 0 s1 h0 C.l C.w) rfl (by decide) rfl (Nat.le_of_ble_eq_true rfl) dSc_sendHome_11 (fun s2 => ?_)
  refine g_aload_n X dSc_sendHome_14 rfl ?_
  refine g_iload_n X dSc_sendHome_15 rfl ?_
  refine g_bipush X 6 dSc_sendHome_16 (by decide) ?_
  refine g_iconst X (-1) dSc_sendHome_18 (by decide) ?_
  refine g_virtV X [.int v1, .int 6, .int (-1)] [] h0 mm_Sc_put mv_Sc_put ml_Sc_70 (okSc_put o0 v1 6 (-1) s2 h0 C.l C.w) rfl (by decide) rfl (Nat.le_of_ble_eq_true rfl) dSc_sendHome_19 (fun s3 => ?_)
  exact g_vret X E dSc_sendHome_22
def ySc_say : MethodName := ⟨"LastWordHill$Scene", "say", "(II)V"⟩
abbrev cSc_say : ByteArray := prog_7_method_12_code
theorem dSc_say_0 : decode cSc_say 0 = .ok (.aload_n 0, 1) := by decide +kernel
theorem dSc_say_1 : decode cSc_say 1 = .ok (.iload_n 2, 1) := by decide +kernel
theorem dSc_say_2 : decode cSc_say 2 = .ok (.putfield 22, 3) := by decide +kernel
theorem dSc_say_5 : decode cSc_say 5 = .ok (.aload_n 0, 1) := by decide +kernel
theorem dSc_say_6 : decode cSc_say 6 = .ok (.iload_n 1, 1) := by decide +kernel
theorem dSc_say_7 : decode cSc_say 7 = .ok (.putfield 25, 3) := by decide +kernel
theorem dSc_say_10 : decode cSc_say 10 = .ok (.aload_n 0, 1) := by decide +kernel
theorem dSc_say_11 : decode cSc_say 11 = .ok (.iload_n 1, 1) := by decide +kernel
theorem dSc_say_12 : decode cSc_say 12 = .ok (.bipush 7, 2) := by decide +kernel
theorem dSc_say_14 : decode cSc_say 14 = .ok (.aload_n 0, 1) := by decide +kernel
theorem dSc_say_15 : decode cSc_say 15 = .ok (.iload_n 1, 1) := by decide +kernel
theorem dSc_say_16 : decode cSc_say 16 = .ok (.bipush 7, 2) := by decide +kernel
theorem dSc_say_18 : decode cSc_say 18 = .ok (.invokevirtual 58, 3) := by decide +kernel
theorem dSc_say_21 : decode cSc_say 21 = .ok (.iconst 1, 1) := by decide +kernel
theorem dSc_say_22 : decode cSc_say 22 = .ok (.iadd, 1) := by decide +kernel
theorem dSc_say_23 : decode cSc_say 23 = .ok (.invokevirtual 70, 3) := by decide +kernel
theorem dSc_say_26 : decode cSc_say 26 = .ok (.return_, 1) := by decide +kernel
def fSc_say (o0 : Nat) (v1 : Int32) (v2 : Int32) (s0 : Sg) : Option (Sg) := bnd (pt s0 o0 4 v2) fun s1 => bnd (pt s1 o0 5 v1) fun s2 => bi (fSc_tell o0 v1 7 s2) fun r4 s3 => bv (fSc_put o0 v1 7 (r4 + 1) s3) fun s5 => some s5
set_option maxHeartbeats 4000000 in
set_option maxRecDepth 100000 in
theorem okSc_say (o0 : Nat) (v1 : Int32) (v2 : Int32) (s0 : Sg) (h0 : hz_kd o0 = 5) : ∀ (l : Launch) (w : WC), Ok l w ySc_say cSc_say 3 none 2 evV [.ref (w.ad o0), .int v1, .int v2] s0 (fSc_say o0 v1 v2 s0) := by
  refine ok_in (ev := fun _ => evV) (av := fun w => [.ref (w.ad o0), .int v1, .int v2]) "LastWordHill$Scene" rfl (by decide +kernel) (fun _ => rfl) (fun _ => Nat.le_of_ble_eq_true rfl) ?_
  intro C X E
  show GF C evV 0 [some (.ref (C.w.ad o0)), some (.int v1), some (.int v2)] [] s0 (fSc_say o0 v1 v2 s0)
  unfold fSc_say
  refine g_aload_n X dSc_say_0 rfl ?_
  refine g_iload_n X dSc_say_1 rfl ?_
  refine g_putI X fl_Sc_22 fb_5_4 fp_5_4 h0 dSc_say_2 (fun s1 => ?_)
  refine g_aload_n X dSc_say_5 rfl ?_
  refine g_iload_n X dSc_say_6 rfl ?_
  refine g_putI X fl_Sc_25 fb_5_5 fp_5_5 h0 dSc_say_7 (fun s2 => ?_)
  refine g_aload_n X dSc_say_10 rfl ?_
  refine g_iload_n X dSc_say_11 rfl ?_
  refine g_bipush X 7 dSc_say_12 (by decide) ?_
  refine g_aload_n X dSc_say_14 rfl ?_
  refine g_iload_n X dSc_say_15 rfl ?_
  refine g_bipush X 7 dSc_say_16 (by decide) ?_
  refine g_virtI X [.int v1, .int 7] [.int 7, .int v1, .ref (C.w.ad o0)] h0 mm_Sc_tell mv_Sc_tell ml_Sc_58 (okSc_tell o0 v1 7 s2 h0 C.l C.w) rfl (by decide) rfl (Nat.le_of_ble_eq_true rfl) dSc_say_18 (fun r4 s3 => ?_)
  refine g_iconst X 1 dSc_say_21 (by decide) ?_
  refine g_iadd X dSc_say_22 ?_
  refine g_virtV X [.int v1, .int 7, .int (r4 + 1)] [] h0 mm_Sc_put mv_Sc_put ml_Sc_70 (okSc_put o0 v1 7 (r4 + 1) s3 h0 C.l C.w) rfl (by decide) rfl (Nat.le_of_ble_eq_true rfl) dSc_say_23 (fun s5 => ?_)
  exact g_vret X E dSc_say_26
def ySc_draw : MethodName := ⟨"LastWordHill$Scene", "draw", "(I)I"⟩
abbrev cSc_draw : ByteArray := prog_7_method_13_code
theorem dSc_draw_0 : decode cSc_draw 0 = .ok (.aload_n 0, 1) := by decide +kernel
theorem dSc_draw_1 : decode cSc_draw 1 = .ok (.ldc 74, 2) := by decide +kernel
theorem kc_Sc_74 : Cond.constant "LastWordHill$Scene" 74 1664525 ∈ hz_wt := hz_in 768 (by decide +kernel) (by decide +kernel)
theorem dSc_draw_3 : decode cSc_draw 3 = .ok (.aload_n 0, 1) := by decide +kernel
theorem dSc_draw_4 : decode cSc_draw 4 = .ok (.getfield 52, 3) := by decide +kernel
theorem dSc_draw_7 : decode cSc_draw 7 = .ok (.imul, 1) := by decide +kernel
theorem dSc_draw_8 : decode cSc_draw 8 = .ok (.ldc 75, 2) := by decide +kernel
theorem kc_Sc_75 : Cond.constant "LastWordHill$Scene" 75 1013904223 ∈ hz_wt := hz_in 769 (by decide +kernel) (by decide +kernel)
theorem dSc_draw_10 : decode cSc_draw 10 = .ok (.iadd, 1) := by decide +kernel
theorem dSc_draw_11 : decode cSc_draw 11 = .ok (.putfield 52, 3) := by decide +kernel
theorem dSc_draw_14 : decode cSc_draw 14 = .ok (.iload_n 1, 1) := by decide +kernel
theorem dSc_draw_15 : decode cSc_draw 15 = .ok (.ifCond .le 15, 3) := by decide +kernel
theorem dSc_draw_30 : decode cSc_draw 30 = .ok (.iconst 0, 1) := by decide +kernel
theorem dSc_draw_31 : decode cSc_draw 31 = .ok (.ireturn, 1) := by decide +kernel
theorem dSc_draw_18 : decode cSc_draw 18 = .ok (.aload_n 0, 1) := by decide +kernel
theorem dSc_draw_19 : decode cSc_draw 19 = .ok (.getfield 52, 3) := by decide +kernel
theorem dSc_draw_22 : decode cSc_draw 22 = .ok (.bipush 8, 2) := by decide +kernel
theorem dSc_draw_24 : decode cSc_draw 24 = .ok (.iushr, 1) := by decide +kernel
theorem dSc_draw_25 : decode cSc_draw 25 = .ok (.iload_n 1, 1) := by decide +kernel
theorem dSc_draw_26 : decode cSc_draw 26 = .ok (.irem, 1) := by decide +kernel
theorem dSc_draw_27 : decode cSc_draw 27 = .ok (.goto 4, 3) := by decide +kernel
def fSc_draw (o0 : Nat) (v1 : Int32) (s0 : Sg) : Option (Int32 × Sg) := bnd (pt s0 o0 11 ((1664525 * (s0 o0 11)) + 1013904223)) fun s1 => if v1 ≤ 0 then (some (0, s1)) else (gz v1 (some (((usr (s1 o0 11) 8) - (usr (s1 o0 11) 8) / v1 * v1), s1)))
set_option maxHeartbeats 4000000 in
set_option maxRecDepth 100000 in
theorem okSc_draw (o0 : Nat) (v1 : Int32) (s0 : Sg) (h0 : hz_kd o0 = 5) : ∀ (l : Launch) (w : WC), Ok l w ySc_draw cSc_draw 2 (some .int) 1 evI [.ref (w.ad o0), .int v1] s0 (fSc_draw o0 v1 s0) := by
  refine ok_in (ev := fun _ => evI) (av := fun w => [.ref (w.ad o0), .int v1]) "LastWordHill$Scene" rfl (by decide +kernel) (fun _ => rfl) (fun _ => Nat.le_of_ble_eq_true rfl) ?_
  intro C X E
  show GF C evI 0 [some (.ref (C.w.ad o0)), some (.int v1)] [] s0 (fSc_draw o0 v1 s0)
  unfold fSc_draw
  refine g_aload_n X dSc_draw_0 rfl ?_
  refine g_ldc X kc_Sc_74 dSc_draw_1 ?_
  refine g_aload_n X dSc_draw_3 rfl ?_
  refine g_getI X fl_Sc_52 fb_5_11 h0 dSc_draw_4 ?_
  refine g_imul X dSc_draw_7 ?_
  refine g_ldc X kc_Sc_75 dSc_draw_8 ?_
  refine g_iadd X dSc_draw_10 ?_
  refine g_putI X fl_Sc_52 fb_5_11 fp_5_11 h0 dSc_draw_11 (fun s1 => ?_)
  refine g_iload_n X dSc_draw_14 rfl ?_
  refine g_zle X (tgt := 30) dSc_draw_15 (by decide) ?_ ?_
  · refine g_iconst X 0 dSc_draw_30 (by decide) ?_
    exact g_iret X E dSc_draw_31
  · refine g_aload_n X dSc_draw_18 rfl ?_
    refine g_getI X fl_Sc_52 fb_5_11 h0 dSc_draw_19 ?_
    refine g_bipush X 8 dSc_draw_22 (by decide) ?_
    refine g_iushr X dSc_draw_24 ?_
    refine g_iload_n X dSc_draw_25 rfl ?_
    refine g_irem X dSc_draw_26 ?_
    refine g_goto X 31 dSc_draw_27 (by decide) ?_
    exact g_iret X E dSc_draw_31
def ySc_turnClock : MethodName := ⟨"LastWordHill$Scene", "turnClock", "()V"⟩
abbrev cSc_turnClock : ByteArray := prog_7_method_14_code
theorem dSc_turnClock_0 : decode cSc_turnClock 0 = .ok (.aload_n 0, 1) := by decide +kernel
theorem dSc_turnClock_1 : decode cSc_turnClock 1 = .ok (.dup, 1) := by decide +kernel
theorem dSc_turnClock_2 : decode cSc_turnClock 2 = .ok (.getfield 46, 3) := by decide +kernel
theorem dSc_turnClock_5 : decode cSc_turnClock 5 = .ok (.iconst 1, 1) := by decide +kernel
theorem dSc_turnClock_6 : decode cSc_turnClock 6 = .ok (.iadd, 1) := by decide +kernel
theorem dSc_turnClock_7 : decode cSc_turnClock 7 = .ok (.putfield 46, 3) := by decide +kernel
theorem dSc_turnClock_10 : decode cSc_turnClock 10 = .ok (.aload_n 0, 1) := by decide +kernel
theorem dSc_turnClock_11 : decode cSc_turnClock 11 = .ok (.getfield 46, 3) := by decide +kernel
theorem dSc_turnClock_14 : decode cSc_turnClock 14 = .ok (.bipush 59, 2) := by decide +kernel
theorem dSc_turnClock_16 : decode cSc_turnClock 16 = .ok (.if_icmp .le 28, 3) := by decide +kernel
theorem dSc_turnClock_44 : decode cSc_turnClock 44 = .ok (.return_, 1) := by decide +kernel
theorem dSc_turnClock_19 : decode cSc_turnClock 19 = .ok (.aload_n 0, 1) := by decide +kernel
theorem dSc_turnClock_20 : decode cSc_turnClock 20 = .ok (.iconst 0, 1) := by decide +kernel
theorem dSc_turnClock_21 : decode cSc_turnClock 21 = .ok (.putfield 46, 3) := by decide +kernel
theorem dSc_turnClock_24 : decode cSc_turnClock 24 = .ok (.aload_n 0, 1) := by decide +kernel
theorem dSc_turnClock_25 : decode cSc_turnClock 25 = .ok (.iconst (-1), 1) := by decide +kernel
theorem dSc_turnClock_26 : decode cSc_turnClock 26 = .ok (.putfield 22, 3) := by decide +kernel
theorem dSc_turnClock_29 : decode cSc_turnClock 29 = .ok (.aload_n 0, 1) := by decide +kernel
theorem dSc_turnClock_30 : decode cSc_turnClock 30 = .ok (.iconst (-1), 1) := by decide +kernel
theorem dSc_turnClock_31 : decode cSc_turnClock 31 = .ok (.putfield 25, 3) := by decide +kernel
theorem dSc_turnClock_34 : decode cSc_turnClock 34 = .ok (.aload_n 0, 1) := by decide +kernel
theorem dSc_turnClock_35 : decode cSc_turnClock 35 = .ok (.dup, 1) := by decide +kernel
theorem dSc_turnClock_36 : decode cSc_turnClock 36 = .ok (.getfield 49, 3) := by decide +kernel
theorem dSc_turnClock_39 : decode cSc_turnClock 39 = .ok (.iconst 1, 1) := by decide +kernel
theorem dSc_turnClock_40 : decode cSc_turnClock 40 = .ok (.iadd, 1) := by decide +kernel
theorem dSc_turnClock_41 : decode cSc_turnClock 41 = .ok (.putfield 49, 3) := by decide +kernel
def fSc_turnClock (o0 : Nat) (s0 : Sg) : Option (Sg) := bnd (pt s0 o0 9 ((s0 o0 9) + 1)) fun s1 => if (s1 o0 9) ≤ 59 then (some s1) else (bnd (pt s1 o0 9 0) fun s2 => bnd (pt s2 o0 4 (-1)) fun s3 => bnd (pt s3 o0 5 (-1)) fun s4 => bnd (pt s4 o0 10 ((s4 o0 10) + 1)) fun s5 => some s5)
set_option maxHeartbeats 4000000 in
set_option maxRecDepth 100000 in
theorem okSc_turnClock (o0 : Nat) (s0 : Sg) (h0 : hz_kd o0 = 5) : ∀ (l : Launch) (w : WC), Ok l w ySc_turnClock cSc_turnClock 1 none 1 evV [.ref (w.ad o0)] s0 (fSc_turnClock o0 s0) := by
  refine ok_in (ev := fun _ => evV) (av := fun w => [.ref (w.ad o0)]) "LastWordHill$Scene" rfl (by decide +kernel) (fun _ => rfl) (fun _ => Nat.le_of_ble_eq_true rfl) ?_
  intro C X E
  show GF C evV 0 [some (.ref (C.w.ad o0))] [] s0 (fSc_turnClock o0 s0)
  unfold fSc_turnClock
  refine g_aload_n X dSc_turnClock_0 rfl ?_
  refine g_dup X dSc_turnClock_1 rfl ?_
  refine g_getI X fl_Sc_46 fb_5_9 h0 dSc_turnClock_2 ?_
  refine g_iconst X 1 dSc_turnClock_5 (by decide) ?_
  refine g_iadd X dSc_turnClock_6 ?_
  refine g_putI X fl_Sc_46 fb_5_9 fp_5_9 h0 dSc_turnClock_7 (fun s1 => ?_)
  refine g_aload_n X dSc_turnClock_10 rfl ?_
  refine g_getI X fl_Sc_46 fb_5_9 h0 dSc_turnClock_11 ?_
  refine g_bipush X 59 dSc_turnClock_14 (by decide) ?_
  refine g_cle X (tgt := 44) dSc_turnClock_16 (by decide) ?_ ?_
  · exact g_vret X E dSc_turnClock_44
  · refine g_aload_n X dSc_turnClock_19 rfl ?_
    refine g_iconst X 0 dSc_turnClock_20 (by decide) ?_
    refine g_putI X fl_Sc_46 fb_5_9 fp_5_9 h0 dSc_turnClock_21 (fun s2 => ?_)
    refine g_aload_n X dSc_turnClock_24 rfl ?_
    refine g_iconst X (-1) dSc_turnClock_25 (by decide) ?_
    refine g_putI X fl_Sc_22 fb_5_4 fp_5_4 h0 dSc_turnClock_26 (fun s3 => ?_)
    refine g_aload_n X dSc_turnClock_29 rfl ?_
    refine g_iconst X (-1) dSc_turnClock_30 (by decide) ?_
    refine g_putI X fl_Sc_25 fb_5_5 fp_5_5 h0 dSc_turnClock_31 (fun s4 => ?_)
    refine g_aload_n X dSc_turnClock_34 rfl ?_
    refine g_dup X dSc_turnClock_35 rfl ?_
    refine g_getI X fl_Sc_49 fb_5_10 h0 dSc_turnClock_36 ?_
    refine g_iconst X 1 dSc_turnClock_39 (by decide) ?_
    refine g_iadd X dSc_turnClock_40 ?_
    refine g_putI X fl_Sc_49 fb_5_10 fp_5_10 h0 dSc_turnClock_41 (fun s5 => ?_)
    exact g_vret X E dSc_turnClock_44
def yTa_holds : MethodName := ⟨"LastWordHill$Table", "holds", "(II)Z"⟩
abbrev cTa_holds : ByteArray := prog_9_method_4_code
theorem dTa_holds_0 : decode cTa_holds 0 = .ok (.iload_n 1, 1) := by decide +kernel
theorem dTa_holds_1 : decode cTa_holds 1 = .ok (.ifCond .lt 27, 3) := by decide +kernel
theorem dTa_holds_28 : decode cTa_holds 28 = .ok (.iconst 0, 1) := by decide +kernel
theorem dTa_holds_29 : decode cTa_holds 29 = .ok (.ireturn, 1) := by decide +kernel
theorem dTa_holds_4 : decode cTa_holds 4 = .ok (.iload_n 1, 1) := by decide +kernel
theorem dTa_holds_5 : decode cTa_holds 5 = .ok (.aload_n 0, 1) := by decide +kernel
theorem dTa_holds_6 : decode cTa_holds 6 = .ok (.getfield 21, 3) := by decide +kernel
theorem fl_Ta_21 : FLk "LastWordHill$Table" 21 7 1 := ⟨_, _, _, rfl, by decide, hz_in 274 (by decide +kernel) (by decide +kernel), nL7, by decide, by decide⟩
theorem fb_7_1 : (hz_bs 7)[1]? = some false := by decide
theorem dTa_holds_9 : decode cTa_holds 9 = .ok (.if_icmp .ge 19, 3) := by decide +kernel
theorem dTa_holds_12 : decode cTa_holds 12 = .ok (.iload_n 2, 1) := by decide +kernel
theorem dTa_holds_13 : decode cTa_holds 13 = .ok (.ifCond .lt 15, 3) := by decide +kernel
theorem dTa_holds_16 : decode cTa_holds 16 = .ok (.iload_n 2, 1) := by decide +kernel
theorem dTa_holds_17 : decode cTa_holds 17 = .ok (.aload_n 0, 1) := by decide +kernel
theorem dTa_holds_18 : decode cTa_holds 18 = .ok (.getfield 15, 3) := by decide +kernel
theorem fl_Ta_15 : FLk "LastWordHill$Table" 15 7 0 := ⟨_, _, _, rfl, by decide, hz_in 273 (by decide +kernel) (by decide +kernel), nL7, by decide, by decide⟩
theorem fb_7_0 : (hz_bs 7)[0]? = some false := by decide
theorem dTa_holds_21 : decode cTa_holds 21 = .ok (.if_icmp .ge 7, 3) := by decide +kernel
theorem dTa_holds_24 : decode cTa_holds 24 = .ok (.iconst 1, 1) := by decide +kernel
theorem dTa_holds_25 : decode cTa_holds 25 = .ok (.goto 4, 3) := by decide +kernel
def fTa_holds (o0 : Nat) (v1 : Int32) (v2 : Int32) (s0 : Sg) : Option (Int32 × Sg) := if v1 < 0 then (gb 0 (some (0, s0))) else (if (s0 o0 1) ≤ v1 then (gb 0 (some (0, s0))) else (if v2 < 0 then (gb 0 (some (0, s0))) else (if (s0 o0 0) ≤ v2 then (gb 0 (some (0, s0))) else (gb 1 (some (1, s0))))))
set_option maxHeartbeats 4000000 in
set_option maxRecDepth 100000 in
theorem okTa_holds (o0 : Nat) (v1 : Int32) (v2 : Int32) (s0 : Sg) (h0 : hz_kd o0 = 7) : ∀ (l : Launch) (w : WC), Ok l w yTa_holds cTa_holds 3 (some .boolean) 1 evI [.ref (w.ad o0), .int v1, .int v2] s0 (fTa_holds o0 v1 v2 s0) := by
  refine ok_in (ev := fun _ => evI) (av := fun w => [.ref (w.ad o0), .int v1, .int v2]) "LastWordHill$Table" rfl (by decide +kernel) (fun _ => rfl) (fun _ => Nat.le_of_ble_eq_true rfl) ?_
  intro C X E
  show GF C evI 0 [some (.ref (C.w.ad o0)), some (.int v1), some (.int v2)] [] s0 (fTa_holds o0 v1 v2 s0)
  unfold fTa_holds
  refine g_iload_n X dTa_holds_0 rfl ?_
  refine g_zlt X (tgt := 28) dTa_holds_1 (by decide) ?_ ?_
  · refine g_iconst X 0 dTa_holds_28 (by decide) ?_
    exact g_zret X E dTa_holds_29
  · refine g_iload_n X dTa_holds_4 rfl ?_
    refine g_aload_n X dTa_holds_5 rfl ?_
    refine g_getI X fl_Ta_21 fb_7_1 h0 dTa_holds_6 ?_
    refine g_cge X (tgt := 28) dTa_holds_9 (by decide) ?_ ?_
    · refine g_iconst X 0 dTa_holds_28 (by decide) ?_
      exact g_zret X E dTa_holds_29
    · refine g_iload_n X dTa_holds_12 rfl ?_
      refine g_zlt X (tgt := 28) dTa_holds_13 (by decide) ?_ ?_
      · refine g_iconst X 0 dTa_holds_28 (by decide) ?_
        exact g_zret X E dTa_holds_29
      · refine g_iload_n X dTa_holds_16 rfl ?_
        refine g_aload_n X dTa_holds_17 rfl ?_
        refine g_getI X fl_Ta_15 fb_7_0 h0 dTa_holds_18 ?_
        refine g_cge X (tgt := 28) dTa_holds_21 (by decide) ?_ ?_
        · refine g_iconst X 0 dTa_holds_28 (by decide) ?_
          exact g_zret X E dTa_holds_29
        · refine g_iconst X 1 dTa_holds_24 (by decide) ?_
          refine g_goto X 29 dTa_holds_25 (by decide) ?_
          exact g_zret X E dTa_holds_29
def yTa_empty : MethodName := ⟨"LastWordHill$Table", "empty", "()I"⟩
abbrev cTa_empty : ByteArray := prog_9_method_6_code
theorem dTa_empty_0 : decode cTa_empty 0 = .ok (.aload_n 0, 1) := by decide +kernel
theorem dTa_empty_1 : decode cTa_empty 1 = .ok (.iconst 0, 1) := by decide +kernel
theorem dTa_empty_2 : decode cTa_empty 2 = .ok (.putfield 32, 3) := by decide +kernel
theorem fl_Ta_32 : FLk "LastWordHill$Table" 32 7 3 := ⟨_, _, _, rfl, by decide, hz_in 277 (by decide +kernel) (by decide +kernel), nL7, by decide, by decide⟩
theorem fb_7_3 : (hz_bs 7)[3]? = some false := by decide
theorem fp_7_3 : FLp 7 3 .int := ⟨_, _, _, _, rfl, nY7, nN7, by decide, by decide⟩
theorem dTa_empty_5 : decode cTa_empty 5 = .ok (.aload_n 0, 1) := by decide +kernel
theorem dTa_empty_6 : decode cTa_empty 6 = .ok (.getfield 32, 3) := by decide +kernel
theorem dTa_empty_9 : decode cTa_empty 9 = .ok (.ireturn, 1) := by decide +kernel
def fTa_empty (o0 : Nat) (s0 : Sg) : Option (Int32 × Sg) := bnd (pt s0 o0 3 0) fun s1 => some ((s1 o0 3), s1)
set_option maxHeartbeats 4000000 in
set_option maxRecDepth 100000 in
theorem okTa_empty (o0 : Nat) (s0 : Sg) (h0 : hz_kd o0 = 7) : ∀ (l : Launch) (w : WC), Ok l w yTa_empty cTa_empty 1 (some .int) 1 evI [.ref (w.ad o0)] s0 (fTa_empty o0 s0) := by
  refine ok_in (ev := fun _ => evI) (av := fun w => [.ref (w.ad o0)]) "LastWordHill$Table" rfl (by decide +kernel) (fun _ => rfl) (fun _ => Nat.le_of_ble_eq_true rfl) ?_
  intro C X E
  show GF C evI 0 [some (.ref (C.w.ad o0))] [] s0 (fTa_empty o0 s0)
  unfold fTa_empty
  refine g_aload_n X dTa_empty_0 rfl ?_
  refine g_iconst X 0 dTa_empty_1 (by decide) ?_
  refine g_putI X fl_Ta_32 fb_7_3 fp_7_3 h0 dTa_empty_2 (fun s1 => ?_)
  refine g_aload_n X dTa_empty_5 rfl ?_
  refine g_getI X fl_Ta_32 fb_7_3 h0 dTa_empty_6 ?_
  exact g_iret X E dTa_empty_9
def yTe_linesOf : MethodName := ⟨"LastWordHill$Texts", "linesOf", "(I)I"⟩
abbrev cTe_linesOf : ByteArray := prog_10_method_5_code
theorem dTe_linesOf_0 : decode cTe_linesOf 0 = .ok (.iload_n 1, 1) := by decide +kernel
theorem dTe_linesOf_1 : decode cTe_linesOf 1 = .ok (.ifCond .ne 14, 3) := by decide +kernel
theorem dTe_linesOf_15 : decode cTe_linesOf 15 = .ok (.iload_n 1, 1) := by decide +kernel
theorem dTe_linesOf_16 : decode cTe_linesOf 16 = .ok (.iconst 1, 1) := by decide +kernel
theorem dTe_linesOf_17 : decode cTe_linesOf 17 = .ok (.if_icmp .ne 13, 3) := by decide +kernel
theorem dTe_linesOf_30 : decode cTe_linesOf 30 = .ok (.iload_n 1, 1) := by decide +kernel
theorem dTe_linesOf_31 : decode cTe_linesOf 31 = .ok (.iconst 2, 1) := by decide +kernel
theorem dTe_linesOf_32 : decode cTe_linesOf 32 = .ok (.if_icmp .ne 13, 3) := by decide +kernel
theorem dTe_linesOf_45 : decode cTe_linesOf 45 = .ok (.aload_n 0, 1) := by decide +kernel
theorem dTe_linesOf_46 : decode cTe_linesOf 46 = .ok (.getfield 47, 3) := by decide +kernel
theorem fl_Te_47 : FLk "LastWordHill$Texts" 47 8 4 := ⟨_, _, _, rfl, by decide, hz_in 320 (by decide +kernel) (by decide +kernel), nL8, by decide, by decide⟩
theorem fb_8_4 : (hz_bs 8)[4]? = some false := by decide
theorem dTe_linesOf_49 : decode cTe_linesOf 49 = .ok (.ireturn, 1) := by decide +kernel
theorem dTe_linesOf_35 : decode cTe_linesOf 35 = .ok (.aload_n 0, 1) := by decide +kernel
theorem dTe_linesOf_36 : decode cTe_linesOf 36 = .ok (.getfield 27, 3) := by decide +kernel
theorem fl_Te_27 : FLk "LastWordHill$Texts" 27 8 2 := ⟨_, _, _, rfl, by decide, hz_in 316 (by decide +kernel) (by decide +kernel), nL8, by decide, by decide⟩
theorem fb_8_2 : (hz_bs 8)[2]? = some true := by decide
theorem dTe_linesOf_39 : decode cTe_linesOf 39 = .ok (.getfield 71, 3) := by decide +kernel
theorem fl_Te_71 : FLk "LastWordHill$Texts" 71 7 3 := ⟨_, _, _, rfl, by decide, hz_in 278 (by decide +kernel) (by decide +kernel), nL7, by decide, by decide⟩
theorem dTe_linesOf_42 : decode cTe_linesOf 42 = .ok (.goto 7, 3) := by decide +kernel
theorem dTe_linesOf_20 : decode cTe_linesOf 20 = .ok (.aload_n 0, 1) := by decide +kernel
theorem dTe_linesOf_21 : decode cTe_linesOf 21 = .ok (.getfield 23, 3) := by decide +kernel
theorem fl_Te_23 : FLk "LastWordHill$Texts" 23 8 1 := ⟨_, _, _, rfl, by decide, hz_in 313 (by decide +kernel) (by decide +kernel), nL8, by decide, by decide⟩
theorem fb_8_1 : (hz_bs 8)[1]? = some true := by decide
theorem dTe_linesOf_24 : decode cTe_linesOf 24 = .ok (.getfield 71, 3) := by decide +kernel
theorem dTe_linesOf_27 : decode cTe_linesOf 27 = .ok (.goto 22, 3) := by decide +kernel
theorem dTe_linesOf_4 : decode cTe_linesOf 4 = .ok (.aload_n 0, 1) := by decide +kernel
theorem dTe_linesOf_5 : decode cTe_linesOf 5 = .ok (.getfield 12, 3) := by decide +kernel
theorem fl_Te_12 : FLk "LastWordHill$Texts" 12 8 0 := ⟨_, _, _, rfl, by decide, hz_in 309 (by decide +kernel) (by decide +kernel), nL8, by decide, by decide⟩
theorem dTe_linesOf_8 : decode cTe_linesOf 8 = .ok (.getfield 68, 3) := by decide +kernel
theorem fl_Te_68 : FLk "LastWordHill$Texts" 68 1 0 := ⟨_, _, _, rfl, by decide, hz_in 292 (by decide +kernel) (by decide +kernel), nL1, by decide, by decide⟩
theorem fb_1_0 : (hz_bs 1)[0]? = some true := by decide
theorem dTe_linesOf_11 : decode cTe_linesOf 11 = .ok (.getfield 71, 3) := by decide +kernel
theorem dTe_linesOf_14 : decode cTe_linesOf 14 = .ok (.ireturn, 1) := by decide +kernel
def fTe_linesOf (o0 : Nat) (v1 : Int32) (s0 : Sg) : Option (Int32 × Sg) := if v1 = 0 then (some ((s0 (hz_rf (hz_rf o0 0) 0) 3), s0)) else (if v1 = 1 then (some ((s0 (hz_rf o0 1) 3), s0)) else (if v1 = 2 then (some ((s0 (hz_rf o0 2) 3), s0)) else (some ((s0 o0 4), s0))))
set_option maxHeartbeats 4000000 in
set_option maxRecDepth 100000 in
theorem okTe_linesOf (o0 : Nat) (v1 : Int32) (s0 : Sg) (h0 : hz_kd o0 = 8) : ∀ (l : Launch) (w : WC), Ok l w yTe_linesOf cTe_linesOf 2 (some .int) 1 evI [.ref (w.ad o0), .int v1] s0 (fTe_linesOf o0 v1 s0) := by
  refine ok_in (ev := fun _ => evI) (av := fun w => [.ref (w.ad o0), .int v1]) "LastWordHill$Texts" rfl (by decide +kernel) (fun _ => rfl) (fun _ => Nat.le_of_ble_eq_true rfl) ?_
  intro C X E
  show GF C evI 0 [some (.ref (C.w.ad o0)), some (.int v1)] [] s0 (fTe_linesOf o0 v1 s0)
  unfold fTe_linesOf
  refine g_iload_n X dTe_linesOf_0 rfl ?_
  refine g_zne X (tgt := 15) dTe_linesOf_1 (by decide) ?_ ?_
  · refine g_aload_n X dTe_linesOf_4 rfl ?_
    refine g_getR X fl_Te_12 fb_8_0 h0 dTe_linesOf_5 ?_
    refine g_getR X fl_Te_68 fb_1_0 (sk_8_0 h0) dTe_linesOf_8 ?_
    refine g_getI X fl_Te_71 fb_7_3 (sk_1_0 (sk_8_0 h0)) dTe_linesOf_11 ?_
    exact g_iret X E dTe_linesOf_14
  · refine g_iload_n X dTe_linesOf_15 rfl ?_
    refine g_iconst X 1 dTe_linesOf_16 (by decide) ?_
    refine g_cne X (tgt := 30) dTe_linesOf_17 (by decide) ?_ ?_
    · refine g_aload_n X dTe_linesOf_20 rfl ?_
      refine g_getR X fl_Te_23 fb_8_1 h0 dTe_linesOf_21 ?_
      refine g_getI X fl_Te_71 fb_7_3 (sk_8_1 h0) dTe_linesOf_24 ?_
      refine g_goto X 49 dTe_linesOf_27 (by decide) ?_
      exact g_iret X E dTe_linesOf_49
    · refine g_iload_n X dTe_linesOf_30 rfl ?_
      refine g_iconst X 2 dTe_linesOf_31 (by decide) ?_
      refine g_cne X (tgt := 45) dTe_linesOf_32 (by decide) ?_ ?_
      · refine g_aload_n X dTe_linesOf_35 rfl ?_
        refine g_getR X fl_Te_27 fb_8_2 h0 dTe_linesOf_36 ?_
        refine g_getI X fl_Te_71 fb_7_3 (sk_8_2 h0) dTe_linesOf_39 ?_
        refine g_goto X 49 dTe_linesOf_42 (by decide) ?_
        exact g_iret X E dTe_linesOf_49
      · refine g_aload_n X dTe_linesOf_45 rfl ?_
        refine g_getI X fl_Te_47 fb_8_4 h0 dTe_linesOf_46 ?_
        exact g_iret X E dTe_linesOf_49
def yTe_answered : MethodName := ⟨"LastWordHill$Texts", "answered", "(I)I"⟩
abbrev cTe_answered : ByteArray := prog_10_method_6_code
theorem dTe_answered_0 : decode cTe_answered 0 = .ok (.iload_n 1, 1) := by decide +kernel
theorem dTe_answered_1 : decode cTe_answered 1 = .ok (.ifCond .lt 18, 3) := by decide +kernel
theorem dTe_answered_19 : decode cTe_answered 19 = .ok (.iconst 0, 1) := by decide +kernel
theorem dTe_answered_20 : decode cTe_answered 20 = .ok (.ireturn, 1) := by decide +kernel
theorem dTe_answered_4 : decode cTe_answered 4 = .ok (.iload_n 1, 1) := by decide +kernel
theorem dTe_answered_5 : decode cTe_answered 5 = .ok (.bipush 20, 2) := by decide +kernel
theorem dTe_answered_7 : decode cTe_answered 7 = .ok (.if_icmp .ge 12, 3) := by decide +kernel
theorem dTe_answered_10 : decode cTe_answered 10 = .ok (.aload_n 0, 1) := by decide +kernel
theorem dTe_answered_11 : decode cTe_answered 11 = .ok (.getfield 30, 3) := by decide +kernel
theorem fl_Te_30 : FLk "LastWordHill$Texts" 30 8 3 := ⟨_, _, _, rfl, by decide, hz_in 319 (by decide +kernel) (by decide +kernel), nL8, by decide, by decide⟩
theorem fb_8_3 : (hz_bs 8)[3]? = some true := by decide
theorem dTe_answered_14 : decode cTe_answered 14 = .ok (.iload_n 1, 1) := by decide +kernel
theorem dTe_answered_15 : decode cTe_answered 15 = .ok (.iaload, 1) := by decide +kernel
theorem dTe_answered_16 : decode cTe_answered 16 = .ok (.goto 4, 3) := by decide +kernel
def fTe_answered (o0 : Nat) (v1 : Int32) (s0 : Sg) : Option (Int32 × Sg) := if v1 < 0 then (some (0, s0)) else (if 20 ≤ v1 then (some (0, s0)) else (gd v1 20 (some ((s0 (hz_rf o0 3) (ix v1)), s0))))
set_option maxHeartbeats 4000000 in
set_option maxRecDepth 100000 in
theorem okTe_answered (o0 : Nat) (v1 : Int32) (s0 : Sg) (h0 : hz_kd o0 = 8) : ∀ (l : Launch) (w : WC), Ok l w yTe_answered cTe_answered 2 (some .int) 1 evI [.ref (w.ad o0), .int v1] s0 (fTe_answered o0 v1 s0) := by
  refine ok_in (ev := fun _ => evI) (av := fun w => [.ref (w.ad o0), .int v1]) "LastWordHill$Texts" rfl (by decide +kernel) (fun _ => rfl) (fun _ => Nat.le_of_ble_eq_true rfl) ?_
  intro C X E
  show GF C evI 0 [some (.ref (C.w.ad o0)), some (.int v1)] [] s0 (fTe_answered o0 v1 s0)
  unfold fTe_answered
  refine g_iload_n X dTe_answered_0 rfl ?_
  refine g_zlt X (tgt := 19) dTe_answered_1 (by decide) ?_ ?_
  · refine g_iconst X 0 dTe_answered_19 (by decide) ?_
    exact g_iret X E dTe_answered_20
  · refine g_iload_n X dTe_answered_4 rfl ?_
    refine g_bipush X 20 dTe_answered_5 (by decide) ?_
    refine g_cge X (tgt := 19) dTe_answered_7 (by decide) ?_ ?_
    · refine g_iconst X 0 dTe_answered_19 (by decide) ?_
      exact g_iret X E dTe_answered_20
    · refine g_aload_n X dTe_answered_10 rfl ?_
      refine g_getR X fl_Te_30 fb_8_3 h0 dTe_answered_11 ?_
      refine g_iload_n X dTe_answered_14 rfl ?_
      refine g_iald X (sk_8_3 h0) (sl_8_3 h0) dTe_answered_15 ?_
      refine g_goto X 20 dTe_answered_16 (by decide) ?_
      exact g_iret X E dTe_answered_20
def yTo_addByte : MethodName := ⟨"LastWordHill$Tokens", "addByte", "(I)V"⟩
abbrev cTo_addByte : ByteArray := prog_11_method_3_code
theorem dTo_addByte_0 : decode cTo_addByte 0 = .ok (.aload_n 0, 1) := by decide +kernel
theorem dTo_addByte_1 : decode cTo_addByte 1 = .ok (.getfield 28, 3) := by decide +kernel
theorem fl_To_28 : FLk "LastWordHill$Tokens" 28 9 4 := ⟨_, _, _, rfl, by decide, hz_in 350 (by decide +kernel) (by decide +kernel), nL9, by decide, by decide⟩
theorem fb_9_4 : (hz_bs 9)[4]? = some false := by decide
theorem dTo_addByte_4 : decode cTo_addByte 4 = .ok (.ifCond .lt 37, 3) := by decide +kernel
theorem dTo_addByte_41 : decode cTo_addByte 41 = .ok (.return_, 1) := by decide +kernel
theorem dTo_addByte_7 : decode cTo_addByte 7 = .ok (.aload_n 0, 1) := by decide +kernel
theorem dTo_addByte_8 : decode cTo_addByte 8 = .ok (.getfield 28, 3) := by decide +kernel
theorem dTo_addByte_11 : decode cTo_addByte 11 = .ok (.sipush 400, 3) := by decide +kernel
theorem dTo_addByte_14 : decode cTo_addByte 14 = .ok (.if_icmp .ge 27, 3) := by decide +kernel
theorem dTo_addByte_17 : decode cTo_addByte 17 = .ok (.aload_n 0, 1) := by decide +kernel
theorem dTo_addByte_18 : decode cTo_addByte 18 = .ok (.getfield 11, 3) := by decide +kernel
theorem fl_To_11 : FLk "LastWordHill$Tokens" 11 9 0 := ⟨_, _, _, rfl, by decide, hz_in 345 (by decide +kernel) (by decide +kernel), nL9, by decide, by decide⟩
theorem k_32 : hz_kd 32 = 13 := by decide
theorem fb_9_0 : (hz_bs 9)[0]? = some true := by decide
theorem r_31_0 : hz_rf 31 0 = 32 := by decide
theorem dTo_addByte_21 : decode cTo_addByte 21 = .ok (.aload_n 0, 1) := by decide +kernel
theorem dTo_addByte_22 : decode cTo_addByte 22 = .ok (.getfield 28, 3) := by decide +kernel
theorem dTo_addByte_25 : decode cTo_addByte 25 = .ok (.iload_n 1, 1) := by decide +kernel
theorem dTo_addByte_26 : decode cTo_addByte 26 = .ok (.sipush 255, 3) := by decide +kernel
theorem dTo_addByte_29 : decode cTo_addByte 29 = .ok (.iand, 1) := by decide +kernel
theorem dTo_addByte_30 : decode cTo_addByte 30 = .ok (.iastore, 1) := by decide +kernel
theorem ln_32 : hz_ln 32 = 400 := by decide
theorem dTo_addByte_31 : decode cTo_addByte 31 = .ok (.aload_n 0, 1) := by decide +kernel
theorem dTo_addByte_32 : decode cTo_addByte 32 = .ok (.dup, 1) := by decide +kernel
theorem dTo_addByte_33 : decode cTo_addByte 33 = .ok (.getfield 28, 3) := by decide +kernel
theorem dTo_addByte_36 : decode cTo_addByte 36 = .ok (.iconst 1, 1) := by decide +kernel
theorem dTo_addByte_37 : decode cTo_addByte 37 = .ok (.iadd, 1) := by decide +kernel
theorem dTo_addByte_38 : decode cTo_addByte 38 = .ok (.putfield 28, 3) := by decide +kernel
theorem fp_9_4 : FLp 9 4 .int := ⟨_, _, _, _, rfl, nY9, nN9, by decide, by decide⟩
def fTo_addByte (v1 : Int32) (s0 : Sg) : Option (Sg) := if (s0 31 4) < 0 then (some s0) else (if 400 ≤ (s0 31 4) then (some s0) else (gd (s0 31 4) 400 (bnd (pt s0 32 (ix (s0 31 4)) (v1 &&& 255)) fun s1 => bnd (pt s1 31 4 ((s1 31 4) + 1)) fun s2 => some s2)))
set_option maxHeartbeats 4000000 in
set_option maxRecDepth 100000 in
theorem okTo_addByte (v1 : Int32) (s0 : Sg) : ∀ (l : Launch) (w : WC), Ok l w yTo_addByte cTo_addByte 2 none 1 evV [.ref (w.ad 31), .int v1] s0 (fTo_addByte v1 s0) := by
  refine ok_in (ev := fun _ => evV) (av := fun w => [.ref (w.ad 31), .int v1]) "LastWordHill$Tokens" rfl (by decide +kernel) (fun _ => rfl) (fun _ => Nat.le_of_ble_eq_true rfl) ?_
  intro C X E
  show GF C evV 0 [some (.ref (C.w.ad 31)), some (.int v1)] [] s0 (fTo_addByte v1 s0)
  unfold fTo_addByte
  refine g_aload_n X dTo_addByte_0 rfl ?_
  refine g_getI X fl_To_28 fb_9_4 k_31 dTo_addByte_1 ?_
  refine g_zlt X (tgt := 41) dTo_addByte_4 (by decide) ?_ ?_
  · exact g_vret X E dTo_addByte_41
  · refine g_aload_n X dTo_addByte_7 rfl ?_
    refine g_getI X fl_To_28 fb_9_4 k_31 dTo_addByte_8 ?_
    refine g_sipush X 400 dTo_addByte_11 (by decide) ?_
    refine g_cge X (tgt := 41) dTo_addByte_14 (by decide) ?_ ?_
    · exact g_vret X E dTo_addByte_41
    · refine g_aload_n X dTo_addByte_17 rfl ?_
      refine g_getN X fl_To_11 fb_9_0 k_31 r_31_0 dTo_addByte_18 ?_
      refine g_aload_n X dTo_addByte_21 rfl ?_
      refine g_getI X fl_To_28 fb_9_4 k_31 dTo_addByte_22 ?_
      refine g_iload_n X dTo_addByte_25 rfl ?_
      refine g_sipush X 255 dTo_addByte_26 (by decide) ?_
      refine g_iand X dTo_addByte_29 ?_
      refine g_iast X k_32 ln_32 dTo_addByte_30 (fun s1 => ?_)
      refine g_aload_n X dTo_addByte_31 rfl ?_
      refine g_dup X dTo_addByte_32 rfl ?_
      refine g_getI X fl_To_28 fb_9_4 k_31 dTo_addByte_33 ?_
      refine g_iconst X 1 dTo_addByte_36 (by decide) ?_
      refine g_iadd X dTo_addByte_37 ?_
      refine g_putI X fl_To_28 fb_9_4 fp_9_4 k_31 dTo_addByte_38 (fun s2 => ?_)
      exact g_vret X E dTo_addByte_41
def yTo_addToken : MethodName := ⟨"LastWordHill$Tokens", "addToken", "(III)V"⟩
abbrev cTo_addToken : ByteArray := prog_11_method_5_code
theorem dTo_addToken_0 : decode cTo_addToken 0 = .ok (.aload_n 0, 1) := by decide +kernel
theorem dTo_addToken_1 : decode cTo_addToken 1 = .ok (.getfield 32, 3) := by decide +kernel
theorem fl_To_32 : FLk "LastWordHill$Tokens" 32 9 5 := ⟨_, _, _, rfl, by decide, hz_in 352 (by decide +kernel) (by decide +kernel), nL9, by decide, by decide⟩
theorem fb_9_5 : (hz_bs 9)[5]? = some false := by decide
theorem dTo_addToken_4 : decode cTo_addToken 4 = .ok (.ifCond .lt 53, 3) := by decide +kernel
theorem dTo_addToken_57 : decode cTo_addToken 57 = .ok (.return_, 1) := by decide +kernel
theorem dTo_addToken_7 : decode cTo_addToken 7 = .ok (.aload_n 0, 1) := by decide +kernel
theorem dTo_addToken_8 : decode cTo_addToken 8 = .ok (.getfield 32, 3) := by decide +kernel
theorem dTo_addToken_11 : decode cTo_addToken 11 = .ok (.sipush 400, 3) := by decide +kernel
theorem dTo_addToken_14 : decode cTo_addToken 14 = .ok (.if_icmp .gt 43, 3) := by decide +kernel
theorem dTo_addToken_17 : decode cTo_addToken 17 = .ok (.aload_n 0, 1) := by decide +kernel
theorem dTo_addToken_18 : decode cTo_addToken 18 = .ok (.getfield 15, 3) := by decide +kernel
theorem fl_To_15 : FLk "LastWordHill$Tokens" 15 9 1 := ⟨_, _, _, rfl, by decide, hz_in 346 (by decide +kernel) (by decide +kernel), nL9, by decide, by decide⟩
theorem k_33 : hz_kd 33 = 13 := by decide
theorem fb_9_1 : (hz_bs 9)[1]? = some true := by decide
theorem r_31_1 : hz_rf 31 1 = 33 := by decide
theorem dTo_addToken_21 : decode cTo_addToken 21 = .ok (.aload_n 0, 1) := by decide +kernel
theorem dTo_addToken_22 : decode cTo_addToken 22 = .ok (.getfield 32, 3) := by decide +kernel
theorem dTo_addToken_25 : decode cTo_addToken 25 = .ok (.iload_n 1, 1) := by decide +kernel
theorem dTo_addToken_26 : decode cTo_addToken 26 = .ok (.iastore, 1) := by decide +kernel
theorem ln_33 : hz_ln 33 = 401 := by decide
theorem dTo_addToken_27 : decode cTo_addToken 27 = .ok (.aload_n 0, 1) := by decide +kernel
theorem dTo_addToken_28 : decode cTo_addToken 28 = .ok (.getfield 18, 3) := by decide +kernel
theorem fl_To_18 : FLk "LastWordHill$Tokens" 18 9 2 := ⟨_, _, _, rfl, by decide, hz_in 347 (by decide +kernel) (by decide +kernel), nL9, by decide, by decide⟩
theorem k_34 : hz_kd 34 = 13 := by decide
theorem fb_9_2 : (hz_bs 9)[2]? = some true := by decide
theorem r_31_2 : hz_rf 31 2 = 34 := by decide
theorem dTo_addToken_31 : decode cTo_addToken 31 = .ok (.aload_n 0, 1) := by decide +kernel
theorem dTo_addToken_32 : decode cTo_addToken 32 = .ok (.getfield 32, 3) := by decide +kernel
theorem dTo_addToken_35 : decode cTo_addToken 35 = .ok (.iload_n 2, 1) := by decide +kernel
theorem dTo_addToken_36 : decode cTo_addToken 36 = .ok (.iastore, 1) := by decide +kernel
theorem ln_34 : hz_ln 34 = 401 := by decide
theorem dTo_addToken_37 : decode cTo_addToken 37 = .ok (.aload_n 0, 1) := by decide +kernel
theorem dTo_addToken_38 : decode cTo_addToken 38 = .ok (.getfield 21, 3) := by decide +kernel
theorem fl_To_21 : FLk "LastWordHill$Tokens" 21 9 3 := ⟨_, _, _, rfl, by decide, hz_in 348 (by decide +kernel) (by decide +kernel), nL9, by decide, by decide⟩
theorem k_35 : hz_kd 35 = 13 := by decide
theorem fb_9_3 : (hz_bs 9)[3]? = some true := by decide
theorem r_31_3 : hz_rf 31 3 = 35 := by decide
theorem dTo_addToken_41 : decode cTo_addToken 41 = .ok (.aload_n 0, 1) := by decide +kernel
theorem dTo_addToken_42 : decode cTo_addToken 42 = .ok (.getfield 32, 3) := by decide +kernel
theorem dTo_addToken_45 : decode cTo_addToken 45 = .ok (.iload_n 3, 1) := by decide +kernel
theorem dTo_addToken_46 : decode cTo_addToken 46 = .ok (.iastore, 1) := by decide +kernel
theorem ln_35 : hz_ln 35 = 401 := by decide
theorem dTo_addToken_47 : decode cTo_addToken 47 = .ok (.aload_n 0, 1) := by decide +kernel
theorem dTo_addToken_48 : decode cTo_addToken 48 = .ok (.dup, 1) := by decide +kernel
theorem dTo_addToken_49 : decode cTo_addToken 49 = .ok (.getfield 32, 3) := by decide +kernel
theorem dTo_addToken_52 : decode cTo_addToken 52 = .ok (.iconst 1, 1) := by decide +kernel
theorem dTo_addToken_53 : decode cTo_addToken 53 = .ok (.iadd, 1) := by decide +kernel
theorem dTo_addToken_54 : decode cTo_addToken 54 = .ok (.putfield 32, 3) := by decide +kernel
theorem fp_9_5 : FLp 9 5 .int := ⟨_, _, _, _, rfl, nY9, nN9, by decide, by decide⟩
def fTo_addToken (v1 : Int32) (v2 : Int32) (v3 : Int32) (s0 : Sg) : Option (Sg) := if (s0 31 5) < 0 then (some s0) else (if 400 < (s0 31 5) then (some s0) else (gd (s0 31 5) 401 (bnd (pt s0 33 (ix (s0 31 5)) v1) fun s1 => gd (s1 31 5) 401 (bnd (pt s1 34 (ix (s1 31 5)) v2) fun s2 => gd (s2 31 5) 401 (bnd (pt s2 35 (ix (s2 31 5)) v3) fun s3 => bnd (pt s3 31 5 ((s3 31 5) + 1)) fun s4 => some s4)))))
set_option maxHeartbeats 4000000 in
set_option maxRecDepth 100000 in
theorem okTo_addToken (v1 : Int32) (v2 : Int32) (v3 : Int32) (s0 : Sg) : ∀ (l : Launch) (w : WC), Ok l w yTo_addToken cTo_addToken 4 none 1 evV [.ref (w.ad 31), .int v1, .int v2, .int v3] s0 (fTo_addToken v1 v2 v3 s0) := by
  refine ok_in (ev := fun _ => evV) (av := fun w => [.ref (w.ad 31), .int v1, .int v2, .int v3]) "LastWordHill$Tokens" rfl (by decide +kernel) (fun _ => rfl) (fun _ => Nat.le_of_ble_eq_true rfl) ?_
  intro C X E
  show GF C evV 0 [some (.ref (C.w.ad 31)), some (.int v1), some (.int v2), some (.int v3)] [] s0 (fTo_addToken v1 v2 v3 s0)
  unfold fTo_addToken
  refine g_aload_n X dTo_addToken_0 rfl ?_
  refine g_getI X fl_To_32 fb_9_5 k_31 dTo_addToken_1 ?_
  refine g_zlt X (tgt := 57) dTo_addToken_4 (by decide) ?_ ?_
  · exact g_vret X E dTo_addToken_57
  · refine g_aload_n X dTo_addToken_7 rfl ?_
    refine g_getI X fl_To_32 fb_9_5 k_31 dTo_addToken_8 ?_
    refine g_sipush X 400 dTo_addToken_11 (by decide) ?_
    refine g_cgt X (tgt := 57) dTo_addToken_14 (by decide) ?_ ?_
    · exact g_vret X E dTo_addToken_57
    · refine g_aload_n X dTo_addToken_17 rfl ?_
      refine g_getN X fl_To_15 fb_9_1 k_31 r_31_1 dTo_addToken_18 ?_
      refine g_aload_n X dTo_addToken_21 rfl ?_
      refine g_getI X fl_To_32 fb_9_5 k_31 dTo_addToken_22 ?_
      refine g_iload_n X dTo_addToken_25 rfl ?_
      refine g_iast X k_33 ln_33 dTo_addToken_26 (fun s1 => ?_)
      refine g_aload_n X dTo_addToken_27 rfl ?_
      refine g_getN X fl_To_18 fb_9_2 k_31 r_31_2 dTo_addToken_28 ?_
      refine g_aload_n X dTo_addToken_31 rfl ?_
      refine g_getI X fl_To_32 fb_9_5 k_31 dTo_addToken_32 ?_
      refine g_iload_n X dTo_addToken_35 rfl ?_
      refine g_iast X k_34 ln_34 dTo_addToken_36 (fun s2 => ?_)
      refine g_aload_n X dTo_addToken_37 rfl ?_
      refine g_getN X fl_To_21 fb_9_3 k_31 r_31_3 dTo_addToken_38 ?_
      refine g_aload_n X dTo_addToken_41 rfl ?_
      refine g_getI X fl_To_32 fb_9_5 k_31 dTo_addToken_42 ?_
      refine g_iload_n X dTo_addToken_45 rfl ?_
      refine g_iast X k_35 ln_35 dTo_addToken_46 (fun s3 => ?_)
      refine g_aload_n X dTo_addToken_47 rfl ?_
      refine g_dup X dTo_addToken_48 rfl ?_
      refine g_getI X fl_To_32 fb_9_5 k_31 dTo_addToken_49 ?_
      refine g_iconst X 1 dTo_addToken_52 (by decide) ?_
      refine g_iadd X dTo_addToken_53 ?_
      refine g_putI X fl_To_32 fb_9_5 fp_9_5 k_31 dTo_addToken_54 (fun s4 => ?_)
      exact g_vret X E dTo_addToken_57
def yTo_advance : MethodName := ⟨"LastWordHill$Tokens", "advance", "()V"⟩
abbrev cTo_advance : ByteArray := prog_11_method_6_code
theorem dTo_advance_0 : decode cTo_advance 0 = .ok (.aload_n 0, 1) := by decide +kernel
theorem dTo_advance_1 : decode cTo_advance 1 = .ok (.getfield 74, 3) := by decide +kernel
theorem fl_To_74 : FLk "LastWordHill$Tokens" 74 9 6 := ⟨_, _, _, rfl, by decide, hz_in 353 (by decide +kernel) (by decide +kernel), nL9, by decide, by decide⟩
theorem fb_9_6 : (hz_bs 9)[6]? = some false := by decide
theorem dTo_advance_4 : decode cTo_advance 4 = .ok (.aload_n 0, 1) := by decide +kernel
theorem dTo_advance_5 : decode cTo_advance 5 = .ok (.getfield 32, 3) := by decide +kernel
theorem dTo_advance_8 : decode cTo_advance 8 = .ok (.iconst 1, 1) := by decide +kernel
theorem dTo_advance_9 : decode cTo_advance 9 = .ok (.isub, 1) := by decide +kernel
theorem dTo_advance_10 : decode cTo_advance 10 = .ok (.if_icmp .ge 13, 3) := by decide +kernel
theorem dTo_advance_23 : decode cTo_advance 23 = .ok (.aload_n 0, 1) := by decide +kernel
theorem dTo_advance_24 : decode cTo_advance 24 = .ok (.getfield 74, 3) := by decide +kernel
theorem dTo_advance_27 : decode cTo_advance 27 = .ok (.ifCond .lt 52, 3) := by decide +kernel
theorem dTo_advance_79 : decode cTo_advance 79 = .ok (.return_, 1) := by decide +kernel
theorem dTo_advance_30 : decode cTo_advance 30 = .ok (.aload_n 0, 1) := by decide +kernel
theorem dTo_advance_31 : decode cTo_advance 31 = .ok (.getfield 74, 3) := by decide +kernel
theorem dTo_advance_34 : decode cTo_advance 34 = .ok (.sipush 400, 3) := by decide +kernel
theorem dTo_advance_37 : decode cTo_advance 37 = .ok (.if_icmp .gt 42, 3) := by decide +kernel
theorem dTo_advance_40 : decode cTo_advance 40 = .ok (.aload_n 0, 1) := by decide +kernel
theorem dTo_advance_41 : decode cTo_advance 41 = .ok (.aload_n 0, 1) := by decide +kernel
theorem dTo_advance_42 : decode cTo_advance 42 = .ok (.getfield 15, 3) := by decide +kernel
theorem dTo_advance_45 : decode cTo_advance 45 = .ok (.aload_n 0, 1) := by decide +kernel
theorem dTo_advance_46 : decode cTo_advance 46 = .ok (.getfield 74, 3) := by decide +kernel
theorem dTo_advance_49 : decode cTo_advance 49 = .ok (.iaload, 1) := by decide +kernel
theorem dTo_advance_50 : decode cTo_advance 50 = .ok (.putfield 80, 3) := by decide +kernel
theorem fl_To_80 : FLk "LastWordHill$Tokens" 80 9 7 := ⟨_, _, _, rfl, by decide, hz_in 355 (by decide +kernel) (by decide +kernel), nL9, by decide, by decide⟩
theorem fb_9_7 : (hz_bs 9)[7]? = some false := by decide
theorem fp_9_7 : FLp 9 7 .int := ⟨_, _, _, _, rfl, nY9, nN9, by decide, by decide⟩
theorem dTo_advance_53 : decode cTo_advance 53 = .ok (.aload_n 0, 1) := by decide +kernel
theorem dTo_advance_54 : decode cTo_advance 54 = .ok (.aload_n 0, 1) := by decide +kernel
theorem dTo_advance_55 : decode cTo_advance 55 = .ok (.getfield 18, 3) := by decide +kernel
theorem dTo_advance_58 : decode cTo_advance 58 = .ok (.aload_n 0, 1) := by decide +kernel
theorem dTo_advance_59 : decode cTo_advance 59 = .ok (.getfield 74, 3) := by decide +kernel
theorem dTo_advance_62 : decode cTo_advance 62 = .ok (.iaload, 1) := by decide +kernel
theorem dTo_advance_63 : decode cTo_advance 63 = .ok (.putfield 83, 3) := by decide +kernel
theorem fl_To_83 : FLk "LastWordHill$Tokens" 83 9 8 := ⟨_, _, _, rfl, by decide, hz_in 357 (by decide +kernel) (by decide +kernel), nL9, by decide, by decide⟩
theorem fp_9_8 : FLp 9 8 .int := ⟨_, _, _, _, rfl, nY9, nN9, by decide, by decide⟩
theorem dTo_advance_66 : decode cTo_advance 66 = .ok (.aload_n 0, 1) := by decide +kernel
theorem dTo_advance_67 : decode cTo_advance 67 = .ok (.aload_n 0, 1) := by decide +kernel
theorem dTo_advance_68 : decode cTo_advance 68 = .ok (.getfield 21, 3) := by decide +kernel
theorem dTo_advance_71 : decode cTo_advance 71 = .ok (.aload_n 0, 1) := by decide +kernel
theorem dTo_advance_72 : decode cTo_advance 72 = .ok (.getfield 74, 3) := by decide +kernel
theorem dTo_advance_75 : decode cTo_advance 75 = .ok (.iaload, 1) := by decide +kernel
theorem dTo_advance_76 : decode cTo_advance 76 = .ok (.putfield 86, 3) := by decide +kernel
theorem fl_To_86 : FLk "LastWordHill$Tokens" 86 9 9 := ⟨_, _, _, rfl, by decide, hz_in 358 (by decide +kernel) (by decide +kernel), nL9, by decide, by decide⟩
theorem fb_9_9 : (hz_bs 9)[9]? = some false := by decide
theorem fp_9_9 : FLp 9 9 .int := ⟨_, _, _, _, rfl, nY9, nN9, by decide, by decide⟩
theorem dTo_advance_13 : decode cTo_advance 13 = .ok (.aload_n 0, 1) := by decide +kernel
theorem dTo_advance_14 : decode cTo_advance 14 = .ok (.dup, 1) := by decide +kernel
theorem dTo_advance_15 : decode cTo_advance 15 = .ok (.getfield 74, 3) := by decide +kernel
theorem dTo_advance_18 : decode cTo_advance 18 = .ok (.iconst 1, 1) := by decide +kernel
theorem dTo_advance_19 : decode cTo_advance 19 = .ok (.iadd, 1) := by decide +kernel
theorem dTo_advance_20 : decode cTo_advance 20 = .ok (.putfield 74, 3) := by decide +kernel
theorem fp_9_6 : FLp 9 6 .int := ⟨_, _, _, _, rfl, nY9, nN9, by decide, by decide⟩
def fTo_advance (s0 : Sg) : Option (Sg) := bnd (fun (s1 : Sg) => if (s1 31 6) < 0 then (some s1) else (if 400 < (s1 31 6) then (some s1) else (gd (s1 31 6) 401 (bnd (pt s1 31 7 (s1 33 (ix (s1 31 6)))) fun s2 => gd (s2 31 6) 401 (bnd (pt s2 31 8 (s2 34 (ix (s2 31 6)))) fun s3 => gd (s3 31 6) 401 (bnd (pt s3 31 9 (s3 35 (ix (s3 31 6)))) fun s4 => some s4)))))) fun j23 => if ((s0 31 5) - 1) ≤ (s0 31 6) then (j23 s0) else (bnd (pt s0 31 6 ((s0 31 6) + 1)) fun s5 => j23 s5)
set_option maxHeartbeats 4000000 in
set_option maxRecDepth 100000 in
theorem okTo_advance (s0 : Sg) : ∀ (l : Launch) (w : WC), Ok l w yTo_advance cTo_advance 1 none 1 evV [.ref (w.ad 31)] s0 (fTo_advance s0) := by
  refine ok_in (ev := fun _ => evV) (av := fun w => [.ref (w.ad 31)]) "LastWordHill$Tokens" rfl (by decide +kernel) (fun _ => rfl) (fun _ => Nat.le_of_ble_eq_true rfl) ?_
  intro C X E
  show GF C evV 0 [some (.ref (C.w.ad 31))] [] s0 (fTo_advance s0)
  unfold fTo_advance
  refine g_aload_n X dTo_advance_0 rfl ?_
  refine g_getI X fl_To_74 fb_9_6 k_31 dTo_advance_1 ?_
  refine g_aload_n X dTo_advance_4 rfl ?_
  refine g_getI X fl_To_32 fb_9_5 k_31 dTo_advance_5 ?_
  refine g_iconst X 1 dTo_advance_8 (by decide) ?_
  refine g_isub X dTo_advance_9 ?_
  refine gf_jn (fun j23 => ∀ (s1 : Sg), GF C evV 23 [some (.ref (C.w.ad 31))] [] s1 (j23 s1)) ?_ ?_
  · intro s1
    refine g_aload_n X dTo_advance_23 rfl ?_
    refine g_getI X fl_To_74 fb_9_6 k_31 dTo_advance_24 ?_
    refine g_zlt X (tgt := 79) dTo_advance_27 (by decide) ?_ ?_
    · exact g_vret X E dTo_advance_79
    · refine g_aload_n X dTo_advance_30 rfl ?_
      refine g_getI X fl_To_74 fb_9_6 k_31 dTo_advance_31 ?_
      refine g_sipush X 400 dTo_advance_34 (by decide) ?_
      refine g_cgt X (tgt := 79) dTo_advance_37 (by decide) ?_ ?_
      · exact g_vret X E dTo_advance_79
      · refine g_aload_n X dTo_advance_40 rfl ?_
        refine g_aload_n X dTo_advance_41 rfl ?_
        refine g_getN X fl_To_15 fb_9_1 k_31 r_31_1 dTo_advance_42 ?_
        refine g_aload_n X dTo_advance_45 rfl ?_
        refine g_getI X fl_To_74 fb_9_6 k_31 dTo_advance_46 ?_
        refine g_iald X k_33 ln_33 dTo_advance_49 ?_
        refine g_putI X fl_To_80 fb_9_7 fp_9_7 k_31 dTo_advance_50 (fun s2 => ?_)
        refine g_aload_n X dTo_advance_53 rfl ?_
        refine g_aload_n X dTo_advance_54 rfl ?_
        refine g_getN X fl_To_18 fb_9_2 k_31 r_31_2 dTo_advance_55 ?_
        refine g_aload_n X dTo_advance_58 rfl ?_
        refine g_getI X fl_To_74 fb_9_6 k_31 dTo_advance_59 ?_
        refine g_iald X k_34 ln_34 dTo_advance_62 ?_
        refine g_putI X fl_To_83 fb_9_8 fp_9_8 k_31 dTo_advance_63 (fun s3 => ?_)
        refine g_aload_n X dTo_advance_66 rfl ?_
        refine g_aload_n X dTo_advance_67 rfl ?_
        refine g_getN X fl_To_21 fb_9_3 k_31 r_31_3 dTo_advance_68 ?_
        refine g_aload_n X dTo_advance_71 rfl ?_
        refine g_getI X fl_To_74 fb_9_6 k_31 dTo_advance_72 ?_
        refine g_iald X k_35 ln_35 dTo_advance_75 ?_
        refine g_putI X fl_To_86 fb_9_9 fp_9_9 k_31 dTo_advance_76 (fun s4 => ?_)
        exact g_vret X E dTo_advance_79
  · intro j23 hj23
    refine g_cge X (tgt := 23) dTo_advance_10 (by decide) ?_ ?_
    · exact gf_sub (hj23 s0) (by simp [lsub])
    · refine g_aload_n X dTo_advance_13 rfl ?_
      refine g_dup X dTo_advance_14 rfl ?_
      refine g_getI X fl_To_74 fb_9_6 k_31 dTo_advance_15 ?_
      refine g_iconst X 1 dTo_advance_18 (by decide) ?_
      refine g_iadd X dTo_advance_19 ?_
      refine g_putI X fl_To_74 fb_9_6 fp_9_6 k_31 dTo_advance_20 (fun s5 => ?_)
      exact gf_sub (hj23 s5) (by simp [lsub])
def yTo_signAt : MethodName := ⟨"LastWordHill$Tokens", "signAt", "(I)I"⟩
abbrev cTo_signAt : ByteArray := prog_11_method_12_code
theorem dTo_signAt_0 : decode cTo_signAt 0 = .ok (.iload_n 1, 1) := by decide +kernel
theorem dTo_signAt_1 : decode cTo_signAt 1 = .ok (.ifCond .lt 19, 3) := by decide +kernel
theorem dTo_signAt_20 : decode cTo_signAt 20 = .ok (.iconst 0, 1) := by decide +kernel
theorem dTo_signAt_21 : decode cTo_signAt 21 = .ok (.ireturn, 1) := by decide +kernel
theorem dTo_signAt_4 : decode cTo_signAt 4 = .ok (.iload_n 1, 1) := by decide +kernel
theorem dTo_signAt_5 : decode cTo_signAt 5 = .ok (.sipush 400, 3) := by decide +kernel
theorem dTo_signAt_8 : decode cTo_signAt 8 = .ok (.if_icmp .ge 12, 3) := by decide +kernel
theorem dTo_signAt_11 : decode cTo_signAt 11 = .ok (.aload_n 0, 1) := by decide +kernel
theorem dTo_signAt_12 : decode cTo_signAt 12 = .ok (.getfield 11, 3) := by decide +kernel
theorem dTo_signAt_15 : decode cTo_signAt 15 = .ok (.iload_n 1, 1) := by decide +kernel
theorem dTo_signAt_16 : decode cTo_signAt 16 = .ok (.iaload, 1) := by decide +kernel
theorem dTo_signAt_17 : decode cTo_signAt 17 = .ok (.goto 4, 3) := by decide +kernel
def fTo_signAt (v1 : Int32) (s0 : Sg) : Option (Int32 × Sg) := if v1 < 0 then (some (0, s0)) else (if 400 ≤ v1 then (some (0, s0)) else (gd v1 400 (some ((s0 32 (ix v1)), s0))))
set_option maxHeartbeats 4000000 in
set_option maxRecDepth 100000 in
theorem okTo_signAt (v1 : Int32) (s0 : Sg) : ∀ (l : Launch) (w : WC), Ok l w yTo_signAt cTo_signAt 2 (some .int) 1 evI [.ref (w.ad 31), .int v1] s0 (fTo_signAt v1 s0) := by
  refine ok_in (ev := fun _ => evI) (av := fun w => [.ref (w.ad 31), .int v1]) "LastWordHill$Tokens" rfl (by decide +kernel) (fun _ => rfl) (fun _ => Nat.le_of_ble_eq_true rfl) ?_
  intro C X E
  show GF C evI 0 [some (.ref (C.w.ad 31)), some (.int v1)] [] s0 (fTo_signAt v1 s0)
  unfold fTo_signAt
  refine g_iload_n X dTo_signAt_0 rfl ?_
  refine g_zlt X (tgt := 20) dTo_signAt_1 (by decide) ?_ ?_
  · refine g_iconst X 0 dTo_signAt_20 (by decide) ?_
    exact g_iret X E dTo_signAt_21
  · refine g_iload_n X dTo_signAt_4 rfl ?_
    refine g_sipush X 400 dTo_signAt_5 (by decide) ?_
    refine g_cge X (tgt := 20) dTo_signAt_8 (by decide) ?_ ?_
    · refine g_iconst X 0 dTo_signAt_20 (by decide) ?_
      exact g_iret X E dTo_signAt_21
    · refine g_aload_n X dTo_signAt_11 rfl ?_
      refine g_getN X fl_To_11 fb_9_0 k_31 r_31_0 dTo_signAt_12 ?_
      refine g_iload_n X dTo_signAt_15 rfl ?_
      refine g_iald X k_32 ln_32 dTo_signAt_16 ?_
      refine g_goto X 21 dTo_signAt_17 (by decide) ?_
      exact g_iret X E dTo_signAt_21
def yTo_isBlank : MethodName := ⟨"LastWordHill$Tokens", "isBlank", "(I)Z"⟩
abbrev cTo_isBlank : ByteArray := prog_11_method_13_code
theorem dTo_isBlank_0 : decode cTo_isBlank 0 = .ok (.iload_n 0, 1) := by decide +kernel
theorem dTo_isBlank_1 : decode cTo_isBlank 1 = .ok (.bipush 32, 2) := by decide +kernel
theorem dTo_isBlank_3 : decode cTo_isBlank 3 = .ok (.if_icmp .eq 9, 3) := by decide +kernel
theorem dTo_isBlank_12 : decode cTo_isBlank 12 = .ok (.iconst 1, 1) := by decide +kernel
theorem dTo_isBlank_13 : decode cTo_isBlank 13 = .ok (.goto 4, 3) := by decide +kernel
theorem dTo_isBlank_17 : decode cTo_isBlank 17 = .ok (.ireturn, 1) := by decide +kernel
theorem dTo_isBlank_6 : decode cTo_isBlank 6 = .ok (.iload_n 0, 1) := by decide +kernel
theorem dTo_isBlank_7 : decode cTo_isBlank 7 = .ok (.bipush 10, 2) := by decide +kernel
theorem dTo_isBlank_9 : decode cTo_isBlank 9 = .ok (.if_icmp .ne 7, 3) := by decide +kernel
theorem dTo_isBlank_16 : decode cTo_isBlank 16 = .ok (.iconst 0, 1) := by decide +kernel
def fTo_isBlank (v0 : Int32) (s0 : Sg) : Option (Int32 × Sg) := bnd (fun (s1 : Sg) => gb 1 (some (1, s1))) fun j12 => if v0 = 32 then (j12 s0) else (if v0 = 10 then (j12 s0) else (gb 0 (some (0, s0))))
set_option maxHeartbeats 4000000 in
set_option maxRecDepth 100000 in
theorem okTo_isBlank (v0 : Int32) (s0 : Sg) : ∀ (l : Launch) (w : WC), Ok l w yTo_isBlank cTo_isBlank 1 (some .boolean) 1 evI [.int v0] s0 (fTo_isBlank v0 s0) := by
  refine ok_in (ev := fun _ => evI) (av := fun w => [.int v0]) "LastWordHill$Tokens" rfl (by decide +kernel) (fun _ => rfl) (fun _ => Nat.le_of_ble_eq_true rfl) ?_
  intro C X E
  show GF C evI 0 [some (.int v0)] [] s0 (fTo_isBlank v0 s0)
  unfold fTo_isBlank
  refine g_iload_n X dTo_isBlank_0 rfl ?_
  refine g_bipush X 32 dTo_isBlank_1 (by decide) ?_
  refine gf_jn (fun j12 => ∀ (s1 : Sg), GF C evI 12 [none] [] s1 (j12 s1)) ?_ ?_
  · intro s1
    refine g_iconst X 1 dTo_isBlank_12 (by decide) ?_
    refine g_goto X 17 dTo_isBlank_13 (by decide) ?_
    exact g_zret X E dTo_isBlank_17
  · intro j12 hj12
    refine g_ceq X (tgt := 12) dTo_isBlank_3 (by decide) ?_ ?_
    · exact gf_sub (hj12 s0) (by simp [lsub])
    · refine g_iload_n X dTo_isBlank_6 rfl ?_
      refine g_bipush X 10 dTo_isBlank_7 (by decide) ?_
      refine g_cne X (tgt := 16) dTo_isBlank_9 (by decide) ?_ ?_
      · exact gf_sub (hj12 s0) (by simp [lsub])
      · refine g_iconst X 0 dTo_isBlank_16 (by decide) ?_
        exact g_zret X E dTo_isBlank_17
def yH_within : MethodName := ⟨"LastWordHill", "within", "(III)Z"⟩
abbrev cH_within : ByteArray := prog_1_method_2_code
theorem dH_within_0 : decode cH_within 0 = .ok (.iload_n 0, 1) := by decide +kernel
theorem dH_within_1 : decode cH_within 1 = .ok (.iload_n 1, 1) := by decide +kernel
theorem dH_within_2 : decode cH_within 2 = .ok (.if_icmp .lt 12, 3) := by decide +kernel
theorem dH_within_14 : decode cH_within 14 = .ok (.iconst 0, 1) := by decide +kernel
theorem dH_within_15 : decode cH_within 15 = .ok (.ireturn, 1) := by decide +kernel
theorem dH_within_5 : decode cH_within 5 = .ok (.iload_n 0, 1) := by decide +kernel
theorem dH_within_6 : decode cH_within 6 = .ok (.iload_n 2, 1) := by decide +kernel
theorem dH_within_7 : decode cH_within 7 = .ok (.if_icmp .gt 7, 3) := by decide +kernel
theorem dH_within_10 : decode cH_within 10 = .ok (.iconst 1, 1) := by decide +kernel
theorem dH_within_11 : decode cH_within 11 = .ok (.goto 4, 3) := by decide +kernel
def fH_within (v0 : Int32) (v1 : Int32) (v2 : Int32) (s0 : Sg) : Option (Int32 × Sg) := if v0 < v1 then (gb 0 (some (0, s0))) else (if v2 < v0 then (gb 0 (some (0, s0))) else (gb 1 (some (1, s0))))
set_option maxHeartbeats 4000000 in
set_option maxRecDepth 100000 in
theorem okH_within (v0 : Int32) (v1 : Int32) (v2 : Int32) (s0 : Sg) : ∀ (l : Launch) (w : WC), Ok l w yH_within cH_within 3 (some .boolean) 1 evI [.int v0, .int v1, .int v2] s0 (fH_within v0 v1 v2 s0) := by
  refine ok_in (ev := fun _ => evI) (av := fun w => [.int v0, .int v1, .int v2]) "LastWordHill" rfl (by decide +kernel) (fun _ => rfl) (fun _ => Nat.le_of_ble_eq_true rfl) ?_
  intro C X E
  show GF C evI 0 [some (.int v0), some (.int v1), some (.int v2)] [] s0 (fH_within v0 v1 v2 s0)
  unfold fH_within
  refine g_iload_n X dH_within_0 rfl ?_
  refine g_iload_n X dH_within_1 rfl ?_
  refine g_clt X (tgt := 14) dH_within_2 (by decide) ?_ ?_
  · refine g_iconst X 0 dH_within_14 (by decide) ?_
    exact g_zret X E dH_within_15
  · refine g_iload_n X dH_within_5 rfl ?_
    refine g_iload_n X dH_within_6 rfl ?_
    refine g_cgt X (tgt := 14) dH_within_7 (by decide) ?_ ?_
    · refine g_iconst X 0 dH_within_14 (by decide) ?_
      exact g_zret X E dH_within_15
    · refine g_iconst X 1 dH_within_10 (by decide) ?_
      refine g_goto X 15 dH_within_11 (by decide) ?_
      exact g_zret X E dH_within_15
def yH_isWord : MethodName := ⟨"LastWordHill", "isWord", "(I)Z"⟩
abbrev cH_isWord : ByteArray := prog_1_method_3_code
theorem dH_isWord_0 : decode cH_isWord 0 = .ok (.iload_n 0, 1) := by decide +kernel
theorem dH_isWord_1 : decode cH_isWord 1 = .ok (.iconst 0, 1) := by decide +kernel
theorem dH_isWord_2 : decode cH_isWord 2 = .ok (.bipush 19, 2) := by decide +kernel
theorem dH_isWord_4 : decode cH_isWord 4 = .ok (.invokestatic 81, 3) := by decide +kernel
theorem mm_H_within : MMc yH_within cH_within 3 (some .boolean) 3 := ⟨hz_in 601 (by decide +kernel) (by decide +kernel), hz_in 134 (by decide +kernel) (by decide +kernel), by decide +kernel, by decide⟩
theorem ms_H_within : Cond.static yH_within ∈ hz_wt := hz_in 600 (by decide +kernel) (by decide +kernel)
theorem ml_H_81 : Cond.methodLink "LastWordHill" 81 yH_within ∈ hz_wt := hz_in 599 (by decide +kernel) (by decide +kernel)
theorem dH_isWord_7 : decode cH_isWord 7 = .ok (.ireturn, 1) := by decide +kernel
def fH_isWord (v0 : Int32) (s0 : Sg) : Option (Int32 × Sg) := bi (fH_within v0 0 19 s0) fun r2 s1 => gb r2 (some (r2, s1))
set_option maxHeartbeats 4000000 in
set_option maxRecDepth 100000 in
theorem okH_isWord (v0 : Int32) (s0 : Sg) : ∀ (l : Launch) (w : WC), Ok l w yH_isWord cH_isWord 1 (some .boolean) 2 evI [.int v0] s0 (fH_isWord v0 s0) := by
  refine ok_in (ev := fun _ => evI) (av := fun w => [.int v0]) "LastWordHill" rfl (by decide +kernel) (fun _ => rfl) (fun _ => Nat.le_of_ble_eq_true rfl) ?_
  intro C X E
  show GF C evI 0 [some (.int v0)] [] s0 (fH_isWord v0 s0)
  unfold fH_isWord
  refine g_iload_n X dH_isWord_0 rfl ?_
  refine g_iconst X 0 dH_isWord_1 (by decide) ?_
  refine g_bipush X 19 dH_isWord_2 (by decide) ?_
  refine g_statI X [.int v0, .int 0, .int 19] [] mm_H_within ms_H_within ml_H_81 (okH_within v0 0 19 s0 C.l C.w) rfl (by decide) rfl (Nat.le_of_ble_eq_true rfl) dH_isWord_4 (fun r2 s1 => ?_)
  exact g_zret X E dH_isWord_7
def yH_isQuestion : MethodName := ⟨"LastWordHill", "isQuestion", "(I)Z"⟩
abbrev cH_isQuestion : ByteArray := prog_1_method_4_code
theorem dH_isQuestion_0 : decode cH_isQuestion 0 = .ok (.iload_n 0, 1) := by decide +kernel
theorem dH_isQuestion_1 : decode cH_isQuestion 1 = .ok (.iconst 0, 1) := by decide +kernel
theorem dH_isQuestion_2 : decode cH_isQuestion 2 = .ok (.bipush 9, 2) := by decide +kernel
theorem dH_isQuestion_4 : decode cH_isQuestion 4 = .ok (.invokestatic 81, 3) := by decide +kernel
theorem dH_isQuestion_7 : decode cH_isQuestion 7 = .ok (.ireturn, 1) := by decide +kernel
def fH_isQuestion (v0 : Int32) (s0 : Sg) : Option (Int32 × Sg) := bi (fH_within v0 0 9 s0) fun r2 s1 => gb r2 (some (r2, s1))
set_option maxHeartbeats 4000000 in
set_option maxRecDepth 100000 in
theorem okH_isQuestion (v0 : Int32) (s0 : Sg) : ∀ (l : Launch) (w : WC), Ok l w yH_isQuestion cH_isQuestion 1 (some .boolean) 2 evI [.int v0] s0 (fH_isQuestion v0 s0) := by
  refine ok_in (ev := fun _ => evI) (av := fun w => [.int v0]) "LastWordHill" rfl (by decide +kernel) (fun _ => rfl) (fun _ => Nat.le_of_ble_eq_true rfl) ?_
  intro C X E
  show GF C evI 0 [some (.int v0)] [] s0 (fH_isQuestion v0 s0)
  unfold fH_isQuestion
  refine g_iload_n X dH_isQuestion_0 rfl ?_
  refine g_iconst X 0 dH_isQuestion_1 (by decide) ?_
  refine g_bipush X 9 dH_isQuestion_2 (by decide) ?_
  refine g_statI X [.int v0, .int 0, .int 9] [] mm_H_within ms_H_within ml_H_81 (okH_within v0 0 9 s0 C.l C.w) rfl (by decide) rfl (Nat.le_of_ble_eq_true rfl) dH_isQuestion_4 (fun r2 s1 => ?_)
  exact g_zret X E dH_isQuestion_7
def yH_allowed : MethodName := ⟨"LastWordHill", "allowed", "(II)Z"⟩
abbrev cH_allowed : ByteArray := prog_1_method_5_code
theorem dH_allowed_0 : decode cH_allowed 0 = .ok (.iload_n 0, 1) := by decide +kernel
theorem dH_allowed_1 : decode cH_allowed 1 = .ok (.iconst 0, 1) := by decide +kernel
theorem dH_allowed_2 : decode cH_allowed 2 = .ok (.iconst 4, 1) := by decide +kernel
theorem dH_allowed_3 : decode cH_allowed 3 = .ok (.invokestatic 81, 3) := by decide +kernel
theorem dH_allowed_6 : decode cH_allowed 6 = .ok (.ifCond .eq 24, 3) := by decide +kernel
theorem dH_allowed_30 : decode cH_allowed 30 = .ok (.iconst 0, 1) := by decide +kernel
theorem dH_allowed_31 : decode cH_allowed 31 = .ok (.ireturn, 1) := by decide +kernel
theorem dH_allowed_9 : decode cH_allowed 9 = .ok (.iload_n 1, 1) := by decide +kernel
theorem dH_allowed_10 : decode cH_allowed 10 = .ok (.getstatic 85, 3) := by decide +kernel
theorem fs_H_85 : Cond.fieldLink "LastWordHill" 85 "LastWordHill" "LOWEST" "[I" ∈ hz_wt := hz_in 602 (by decide +kernel) (by decide +kernel)
theorem dH_allowed_13 : decode cH_allowed 13 = .ok (.iload_n 0, 1) := by decide +kernel
theorem dH_allowed_14 : decode cH_allowed 14 = .ok (.iaload, 1) := by decide +kernel
theorem dH_allowed_15 : decode cH_allowed 15 = .ok (.getstatic 89, 3) := by decide +kernel
theorem fs_H_89 : Cond.fieldLink "LastWordHill" 89 "LastWordHill" "HIGHEST" "[I" ∈ hz_wt := hz_in 604 (by decide +kernel) (by decide +kernel)
theorem dH_allowed_18 : decode cH_allowed 18 = .ok (.iload_n 0, 1) := by decide +kernel
theorem dH_allowed_19 : decode cH_allowed 19 = .ok (.iaload, 1) := by decide +kernel
theorem dH_allowed_20 : decode cH_allowed 20 = .ok (.invokestatic 81, 3) := by decide +kernel
theorem dH_allowed_23 : decode cH_allowed 23 = .ok (.ifCond .eq 7, 3) := by decide +kernel
theorem dH_allowed_26 : decode cH_allowed 26 = .ok (.iconst 1, 1) := by decide +kernel
theorem dH_allowed_27 : decode cH_allowed 27 = .ok (.goto 4, 3) := by decide +kernel
def fH_allowed (v0 : Int32) (v1 : Int32) (s0 : Sg) : Option (Int32 × Sg) := bi (fH_within v0 0 4 s0) fun r2 s1 => if r2 = 0 then (gb 0 (some (0, s1))) else (gd v0 5 (gd v0 5 (bi (fH_within v1 (loV.getD (ix v0) 0) (hiV.getD (ix v0) 0) s1) fun r4 s3 => if r4 = 0 then (gb 0 (some (0, s3))) else (gb 1 (some (1, s3))))))
set_option maxHeartbeats 4000000 in
set_option maxRecDepth 100000 in
theorem okH_allowed (v0 : Int32) (v1 : Int32) (s0 : Sg) : ∀ (l : Launch) (w : WC), Ok l w yH_allowed cH_allowed 2 (some .boolean) 2 evI [.int v0, .int v1] s0 (fH_allowed v0 v1 s0) := by
  refine ok_in (ev := fun _ => evI) (av := fun w => [.int v0, .int v1]) "LastWordHill" rfl (by decide +kernel) (fun _ => rfl) (fun _ => Nat.le_of_ble_eq_true rfl) ?_
  intro C X E
  show GF C evI 0 [some (.int v0), some (.int v1)] [] s0 (fH_allowed v0 v1 s0)
  unfold fH_allowed
  refine g_iload_n X dH_allowed_0 rfl ?_
  refine g_iconst X 0 dH_allowed_1 (by decide) ?_
  refine g_iconst X 4 dH_allowed_2 (by decide) ?_
  refine g_statI X [.int v0, .int 0, .int 4] [] mm_H_within ms_H_within ml_H_81 (okH_within v0 0 4 s0 C.l C.w) rfl (by decide) rfl (Nat.le_of_ble_eq_true rfl) dH_allowed_3 (fun r2 s1 => ?_)
  refine g_zeq X (tgt := 30) dH_allowed_6 (by decide) ?_ ?_
  · refine g_iconst X 0 dH_allowed_30 (by decide) ?_
    exact g_zret X E dH_allowed_31
  · refine g_iload_n X dH_allowed_9 rfl ?_
    refine g_getlo X fs_H_85 dH_allowed_10 ?_
    refine g_iload_n X dH_allowed_13 rfl ?_
    refine g_ialdlo X dH_allowed_14 ?_
    refine g_gethi X fs_H_89 dH_allowed_15 ?_
    refine g_iload_n X dH_allowed_18 rfl ?_
    refine g_ialdhi X dH_allowed_19 ?_
    refine g_statI X [.int v1, .int (loV.getD (ix v0) 0), .int (hiV.getD (ix v0) 0)] [] mm_H_within ms_H_within ml_H_81 (okH_within v1 (loV.getD (ix v0) 0) (hiV.getD (ix v0) 0) s1 C.l C.w) rfl (by decide) rfl (Nat.le_of_ble_eq_true rfl) dH_allowed_20 (fun r4 s3 => ?_)
    refine g_zeq X (tgt := 30) dH_allowed_23 (by decide) ?_ ?_
    · refine g_iconst X 0 dH_allowed_30 (by decide) ?_
      exact g_zret X E dH_allowed_31
    · refine g_iconst X 1 dH_allowed_26 (by decide) ?_
      refine g_goto X 31 dH_allowed_27 (by decide) ?_
      exact g_zret X E dH_allowed_31
theorem k_0 : hz_kd 0 = 11 := by decide
def yH_state : MethodName := ⟨"LastWordHill", "state", "(I)I"⟩
abbrev cH_state : ByteArray := prog_1_method_6_code
theorem dH_state_0 : decode cH_state 0 = .ok (.aload_n 0, 1) := by decide +kernel
theorem dH_state_1 : decode cH_state 1 = .ok (.getfield 12, 3) := by decide +kernel
theorem fl_H_12 : FLk "LastWordHill" 12 11 0 := ⟨_, _, _, rfl, by decide, hz_in 553 (by decide +kernel) (by decide +kernel), nL11, by decide, by decide⟩
theorem k_1 : hz_kd 1 = 5 := by decide
theorem fb_11_0 : (hz_bs 11)[0]? = some true := by decide
theorem r_0_0 : hz_rf 0 0 = 1 := by decide
theorem dH_state_4 : decode cH_state 4 = .ok (.getfield 92, 3) := by decide +kernel
theorem fl_H_92 : FLk "LastWordHill" 92 5 11 := ⟨_, _, _, rfl, by decide, hz_in 200 (by decide +kernel) (by decide +kernel), nL5, by decide, by decide⟩
theorem dH_state_7 : decode cH_state 7 = .ok (.istore_n 2, 1) := by decide +kernel
theorem dH_state_8 : decode cH_state 8 = .ok (.aload_n 0, 1) := by decide +kernel
theorem dH_state_9 : decode cH_state 9 = .ok (.getfield 12, 3) := by decide +kernel
theorem dH_state_12 : decode cH_state 12 = .ok (.iload_n 1, 1) := by decide +kernel
theorem dH_state_13 : decode cH_state 13 = .ok (.putfield 92, 3) := by decide +kernel
theorem dH_state_16 : decode cH_state 16 = .ok (.aload_n 0, 1) := by decide +kernel
theorem dH_state_17 : decode cH_state 17 = .ok (.getfield 22, 3) := by decide +kernel
theorem fl_H_22 : FLk "LastWordHill" 22 11 2 := ⟨_, _, _, rfl, by decide, hz_in 555 (by decide +kernel) (by decide +kernel), nL11, by decide, by decide⟩
theorem fb_11_2 : (hz_bs 11)[2]? = some true := by decide
theorem r_0_2 : hz_rf 0 2 = 5 := by decide
theorem dH_state_20 : decode cH_state 20 = .ok (.invokevirtual 96, 3) := by decide +kernel
theorem mm_Pa_forget : MMc yPa_forget cPa_forget 1 none 0 := ⟨hz_in 591 (by decide +kernel) (by decide +kernel), hz_in 136 (by decide +kernel) (by decide +kernel), by decide +kernel, by decide⟩
theorem mv_Pa_forget : MMv yPa_forget 3 := ⟨hz_in 589 (by decide +kernel) (by decide +kernel), hz_in 590 (by decide +kernel) (by decide +kernel), _, _, rfl, by decide⟩
theorem ml_H_96 : Cond.methodLink "LastWordHill" 96 yPa_forget ∈ hz_wt := hz_in 588 (by decide +kernel) (by decide +kernel)
theorem dH_state_23 : decode cH_state 23 = .ok (.iload_n 2, 1) := by decide +kernel
theorem dH_state_24 : decode cH_state 24 = .ok (.ireturn, 1) := by decide +kernel
def fH_state (v1 : Int32) (s0 : Sg) : Option (Int32 × Sg) := bnd (pt s0 1 11 v1) fun s1 => bv (fPa_forget s1) fun s2 => some ((s0 1 11), s2)
set_option maxHeartbeats 4000000 in
set_option maxRecDepth 100000 in
theorem okH_state (v1 : Int32) (s0 : Sg) : ∀ (l : Launch) (w : WC), Ok l w yH_state cH_state 3 (some .int) 2 evI [.ref (w.ad 0), .int v1] s0 (fH_state v1 s0) := by
  refine ok_in (ev := fun _ => evI) (av := fun w => [.ref (w.ad 0), .int v1]) "LastWordHill" rfl (by decide +kernel) (fun _ => rfl) (fun _ => Nat.le_of_ble_eq_true rfl) ?_
  intro C X E
  show GF C evI 0 [some (.ref (C.w.ad 0)), some (.int v1), none] [] s0 (fH_state v1 s0)
  unfold fH_state
  refine g_aload_n X dH_state_0 rfl ?_
  refine g_getN X fl_H_12 fb_11_0 k_0 r_0_0 dH_state_1 ?_
  refine g_getI X fl_H_92 fb_5_11 k_1 dH_state_4 ?_
  refine g_istore_n X [some (.ref (C.w.ad 0)), some (.int v1), some (.int (s0 1 11))] dH_state_7 (by decide) (Nat.le_of_ble_eq_true rfl) rfl ?_
  refine g_aload_n X dH_state_8 rfl ?_
  refine g_getN X fl_H_12 fb_11_0 k_0 r_0_0 dH_state_9 ?_
  refine g_iload_n X dH_state_12 rfl ?_
  refine g_putI X fl_H_92 fb_5_11 fp_5_11 k_1 dH_state_13 (fun s1 => ?_)
  refine g_aload_n X dH_state_16 rfl ?_
  refine g_getN X fl_H_22 fb_11_2 k_0 r_0_2 dH_state_17 ?_
  refine g_virtV X [] [] k_5 mm_Pa_forget mv_Pa_forget ml_H_96 (okPa_forget s1 C.l C.w) rfl (by decide) rfl (Nat.le_of_ble_eq_true rfl) dH_state_20 (fun s2 => ?_)
  refine g_iload_n X dH_state_23 rfl ?_
  exact g_iret X E dH_state_24
def yH_person : MethodName := ⟨"LastWordHill", "person", "(III)I"⟩
abbrev cH_person : ByteArray := prog_1_method_7_code
theorem dH_person_0 : decode cH_person 0 = .ok (.iconst 0, 1) := by decide +kernel
theorem dH_person_1 : decode cH_person 1 = .ok (.iload_n 1, 1) := by decide +kernel
theorem dH_person_2 : decode cH_person 2 = .ok (.invokestatic 99, 3) := by decide +kernel
theorem mm_H_allowed : MMc yH_allowed cH_allowed 2 (some .boolean) 2 := ⟨hz_in 598 (by decide +kernel) (by decide +kernel), hz_in 134 (by decide +kernel) (by decide +kernel), by decide +kernel, by decide⟩
theorem ms_H_allowed : Cond.static yH_allowed ∈ hz_wt := hz_in 597 (by decide +kernel) (by decide +kernel)
theorem ml_H_99 : Cond.methodLink "LastWordHill" 99 yH_allowed ∈ hz_wt := hz_in 596 (by decide +kernel) (by decide +kernel)
theorem dH_person_5 : decode cH_person 5 = .ok (.ifCond .eq 23, 3) := by decide +kernel
theorem dH_person_29 : decode cH_person 29 = .ok (.istore 4, 2) := by decide +kernel
theorem dH_person_31 : decode cH_person 31 = .ok (.iload 4, 2) := by decide +kernel
theorem dH_person_33 : decode cH_person 33 = .ok (.ifCond .eq 15, 3) := by decide +kernel
theorem dH_person_48 : decode cH_person 48 = .ok (.iconst (-1), 1) := by decide +kernel
theorem dH_person_49 : decode cH_person 49 = .ok (.ireturn, 1) := by decide +kernel
theorem dH_person_36 : decode cH_person 36 = .ok (.aload_n 0, 1) := by decide +kernel
theorem dH_person_37 : decode cH_person 37 = .ok (.getfield 12, 3) := by decide +kernel
theorem dH_person_40 : decode cH_person 40 = .ok (.getfield 103, 3) := by decide +kernel
theorem fl_H_103 : FLk "LastWordHill" 103 5 1 := ⟨_, _, _, rfl, by decide, hz_in 173 (by decide +kernel) (by decide +kernel), nL5, by decide, by decide⟩
theorem dH_person_43 : decode cH_person 43 = .ok (.bipush 10, 2) := by decide +kernel
theorem dH_person_45 : decode cH_person 45 = .ok (.if_icmp .lt 5, 3) := by decide +kernel
theorem dH_person_50 : decode cH_person 50 = .ok (.aload_n 0, 1) := by decide +kernel
theorem dH_person_51 : decode cH_person 51 = .ok (.getfield 12, 3) := by decide +kernel
theorem dH_person_54 : decode cH_person 54 = .ok (.getfield 103, 3) := by decide +kernel
theorem dH_person_57 : decode cH_person 57 = .ok (.istore 5, 2) := by decide +kernel
theorem dH_person_59 : decode cH_person 59 = .ok (.aload_n 0, 1) := by decide +kernel
theorem dH_person_60 : decode cH_person 60 = .ok (.getfield 12, 3) := by decide +kernel
theorem dH_person_63 : decode cH_person 63 = .ok (.dup, 1) := by decide +kernel
theorem dH_person_64 : decode cH_person 64 = .ok (.getfield 103, 3) := by decide +kernel
theorem dH_person_67 : decode cH_person 67 = .ok (.iconst 1, 1) := by decide +kernel
theorem dH_person_68 : decode cH_person 68 = .ok (.iadd, 1) := by decide +kernel
theorem dH_person_69 : decode cH_person 69 = .ok (.putfield 103, 3) := by decide +kernel
theorem dH_person_72 : decode cH_person 72 = .ok (.aload_n 0, 1) := by decide +kernel
theorem dH_person_73 : decode cH_person 73 = .ok (.getfield 12, 3) := by decide +kernel
theorem dH_person_76 : decode cH_person 76 = .ok (.iload 5, 2) := by decide +kernel
theorem dH_person_78 : decode cH_person 78 = .ok (.iconst 0, 1) := by decide +kernel
theorem dH_person_79 : decode cH_person 79 = .ok (.iload_n 1, 1) := by decide +kernel
theorem dH_person_80 : decode cH_person 80 = .ok (.invokevirtual 106, 3) := by decide +kernel
theorem ml_H_106 : Cond.methodLink "LastWordHill" 106 ySc_put ∈ hz_wt := hz_in 606 (by decide +kernel) (by decide +kernel)
theorem dH_person_83 : decode cH_person 83 = .ok (.aload_n 0, 1) := by decide +kernel
theorem dH_person_84 : decode cH_person 84 = .ok (.getfield 12, 3) := by decide +kernel
theorem dH_person_87 : decode cH_person 87 = .ok (.iload 5, 2) := by decide +kernel
theorem dH_person_89 : decode cH_person 89 = .ok (.iconst 1, 1) := by decide +kernel
theorem dH_person_90 : decode cH_person 90 = .ok (.iload_n 2, 1) := by decide +kernel
theorem dH_person_91 : decode cH_person 91 = .ok (.invokevirtual 106, 3) := by decide +kernel
theorem dH_person_94 : decode cH_person 94 = .ok (.aload_n 0, 1) := by decide +kernel
theorem dH_person_95 : decode cH_person 95 = .ok (.getfield 12, 3) := by decide +kernel
theorem dH_person_98 : decode cH_person 98 = .ok (.iload 5, 2) := by decide +kernel
theorem dH_person_100 : decode cH_person 100 = .ok (.iconst 2, 1) := by decide +kernel
theorem dH_person_101 : decode cH_person 101 = .ok (.iload_n 3, 1) := by decide +kernel
theorem dH_person_102 : decode cH_person 102 = .ok (.invokevirtual 106, 3) := by decide +kernel
theorem dH_person_105 : decode cH_person 105 = .ok (.aload_n 0, 1) := by decide +kernel
theorem dH_person_106 : decode cH_person 106 = .ok (.getfield 12, 3) := by decide +kernel
theorem dH_person_109 : decode cH_person 109 = .ok (.iload 5, 2) := by decide +kernel
theorem dH_person_111 : decode cH_person 111 = .ok (.bipush 7, 2) := by decide +kernel
theorem dH_person_113 : decode cH_person 113 = .ok (.iconst 0, 1) := by decide +kernel
theorem dH_person_114 : decode cH_person 114 = .ok (.invokevirtual 106, 3) := by decide +kernel
theorem dH_person_117 : decode cH_person 117 = .ok (.aload_n 0, 1) := by decide +kernel
theorem dH_person_118 : decode cH_person 118 = .ok (.getfield 12, 3) := by decide +kernel
theorem dH_person_121 : decode cH_person 121 = .ok (.iload 5, 2) := by decide +kernel
theorem dH_person_123 : decode cH_person 123 = .ok (.invokevirtual 110, 3) := by decide +kernel
theorem mm_Sc_sendHome : MMc ySc_sendHome cSc_sendHome 2 none 1 := ⟨hz_in 613 (by decide +kernel) (by decide +kernel), hz_in 135 (by decide +kernel) (by decide +kernel), by decide +kernel, by decide⟩
theorem mv_Sc_sendHome : MMv ySc_sendHome 5 := ⟨hz_in 611 (by decide +kernel) (by decide +kernel), hz_in 612 (by decide +kernel) (by decide +kernel), _, _, rfl, by decide⟩
theorem ml_H_110 : Cond.methodLink "LastWordHill" 110 ySc_sendHome ∈ hz_wt := hz_in 610 (by decide +kernel) (by decide +kernel)
theorem dH_person_126 : decode cH_person 126 = .ok (.aload_n 0, 1) := by decide +kernel
theorem dH_person_127 : decode cH_person 127 = .ok (.getfield 12, 3) := by decide +kernel
theorem dH_person_130 : decode cH_person 130 = .ok (.iload 5, 2) := by decide +kernel
theorem dH_person_132 : decode cH_person 132 = .ok (.iconst 3, 1) := by decide +kernel
theorem dH_person_133 : decode cH_person 133 = .ok (.bipush 99, 2) := by decide +kernel
theorem dH_person_135 : decode cH_person 135 = .ok (.invokevirtual 106, 3) := by decide +kernel
theorem dH_person_138 : decode cH_person 138 = .ok (.aload_n 0, 1) := by decide +kernel
theorem dH_person_139 : decode cH_person 139 = .ok (.getfield 22, 3) := by decide +kernel
theorem dH_person_142 : decode cH_person 142 = .ok (.invokevirtual 96, 3) := by decide +kernel
theorem dH_person_145 : decode cH_person 145 = .ok (.iload 5, 2) := by decide +kernel
theorem dH_person_147 : decode cH_person 147 = .ok (.ireturn, 1) := by decide +kernel
theorem dH_person_28 : decode cH_person 28 = .ok (.iconst 0, 1) := by decide +kernel
theorem dH_person_8 : decode cH_person 8 = .ok (.iconst 1, 1) := by decide +kernel
theorem dH_person_9 : decode cH_person 9 = .ok (.iload_n 2, 1) := by decide +kernel
theorem dH_person_10 : decode cH_person 10 = .ok (.invokestatic 99, 3) := by decide +kernel
theorem dH_person_13 : decode cH_person 13 = .ok (.ifCond .eq 15, 3) := by decide +kernel
theorem dH_person_16 : decode cH_person 16 = .ok (.iconst 2, 1) := by decide +kernel
theorem dH_person_17 : decode cH_person 17 = .ok (.iload_n 3, 1) := by decide +kernel
theorem dH_person_18 : decode cH_person 18 = .ok (.invokestatic 99, 3) := by decide +kernel
theorem dH_person_21 : decode cH_person 21 = .ok (.ifCond .eq 7, 3) := by decide +kernel
theorem dH_person_24 : decode cH_person 24 = .ok (.iconst 1, 1) := by decide +kernel
theorem dH_person_25 : decode cH_person 25 = .ok (.goto 4, 3) := by decide +kernel
def fH_person (v1 : Int32) (v2 : Int32) (v3 : Int32) (s0 : Sg) : Option (Int32 × Sg) := bi (fH_allowed 0 v1 s0) fun r2 s1 => bnd (fun (b29_0 : Int32) (s3 : Sg) => if b29_0 = 0 then (some ((-1), s3)) else (if (s3 1 1) < 10 then (bnd (pt s3 1 1 ((s3 1 1) + 1)) fun s4 => bv (fSc_put 1 (s3 1 1) 0 v1 s4) fun s5 => bv (fSc_put 1 (s3 1 1) 1 v2 s5) fun s6 => bv (fSc_put 1 (s3 1 1) 2 v3 s6) fun s7 => bv (fSc_put 1 (s3 1 1) 7 0 s7) fun s8 => bv (fSc_sendHome 1 (s3 1 1) s8) fun s9 => bv (fSc_put 1 (s3 1 1) 3 99 s9) fun s10 => bv (fPa_forget s10) fun s11 => some ((s3 1 1), s11)) else (some ((-1), s3)))) fun j29 => bnd (fun (s12 : Sg) => j29 0 s12) fun j28 => if r2 = 0 then (j28 s1) else (bi (fH_allowed 1 v2 s1) fun r14 s13 => if r14 = 0 then (j28 s13) else (bi (fH_allowed 2 v3 s13) fun r16 s15 => if r16 = 0 then (j28 s15) else (j29 1 s15)))
set_option maxHeartbeats 4000000 in
set_option maxRecDepth 100000 in
theorem okH_person (v1 : Int32) (v2 : Int32) (v3 : Int32) (s0 : Sg) : ∀ (l : Launch) (w : WC), Ok l w yH_person cH_person 6 (some .int) 3 evI [.ref (w.ad 0), .int v1, .int v2, .int v3] s0 (fH_person v1 v2 v3 s0) := by
  refine ok_in (ev := fun _ => evI) (av := fun w => [.ref (w.ad 0), .int v1, .int v2, .int v3]) "LastWordHill" rfl (by decide +kernel) (fun _ => rfl) (fun _ => Nat.le_of_ble_eq_true rfl) ?_
  intro C X E
  show GF C evI 0 [some (.ref (C.w.ad 0)), some (.int v1), some (.int v2), some (.int v3), none, none] [] s0 (fH_person v1 v2 v3 s0)
  unfold fH_person
  refine g_iconst X 0 dH_person_0 (by decide) ?_
  refine g_iload_n X dH_person_1 rfl ?_
  refine g_statI X [.int 0, .int v1] [] mm_H_allowed ms_H_allowed ml_H_99 (okH_allowed 0 v1 s0 C.l C.w) rfl (by decide) rfl (Nat.le_of_ble_eq_true rfl) dH_person_2 (fun r2 s1 => ?_)
  refine gf_jn (fun j29 => ∀ (b29_0 : Int32) (s3 : Sg), GF C evI 29 [some (.ref (C.w.ad 0)), some (.int v1), some (.int v2), some (.int v3), none, none] [.int b29_0] s3 (j29 b29_0 s3)) ?_ ?_
  · intro b29_0 s3
    refine g_istore X [some (.ref (C.w.ad 0)), some (.int v1), some (.int v2), some (.int v3), some (.int b29_0), none] dH_person_29 (by decide) (Nat.le_of_ble_eq_true rfl) rfl ?_
    refine g_iload X dH_person_31 rfl ?_
    refine g_zeq X (tgt := 48) dH_person_33 (by decide) ?_ ?_
    · refine g_iconst X (-1) dH_person_48 (by decide) ?_
      exact g_iret X E dH_person_49
    · refine g_aload_n X dH_person_36 rfl ?_
      refine g_getN X fl_H_12 fb_11_0 k_0 r_0_0 dH_person_37 ?_
      refine g_getI X fl_H_103 fb_5_1 k_1 dH_person_40 ?_
      refine g_bipush X 10 dH_person_43 (by decide) ?_
      refine g_clt X (tgt := 50) dH_person_45 (by decide) ?_ ?_
      · refine g_aload_n X dH_person_50 rfl ?_
        refine g_getN X fl_H_12 fb_11_0 k_0 r_0_0 dH_person_51 ?_
        refine g_getI X fl_H_103 fb_5_1 k_1 dH_person_54 ?_
        refine g_istore X [some (.ref (C.w.ad 0)), some (.int v1), some (.int v2), some (.int v3), some (.int b29_0), some (.int (s3 1 1))] dH_person_57 (by decide) (Nat.le_of_ble_eq_true rfl) rfl ?_
        refine g_aload_n X dH_person_59 rfl ?_
        refine g_getN X fl_H_12 fb_11_0 k_0 r_0_0 dH_person_60 ?_
        refine g_dup X dH_person_63 rfl ?_
        refine g_getI X fl_H_103 fb_5_1 k_1 dH_person_64 ?_
        refine g_iconst X 1 dH_person_67 (by decide) ?_
        refine g_iadd X dH_person_68 ?_
        refine g_putI X fl_H_103 fb_5_1 fp_5_1 k_1 dH_person_69 (fun s4 => ?_)
        refine g_aload_n X dH_person_72 rfl ?_
        refine g_getN X fl_H_12 fb_11_0 k_0 r_0_0 dH_person_73 ?_
        refine g_iload X dH_person_76 rfl ?_
        refine g_iconst X 0 dH_person_78 (by decide) ?_
        refine g_iload_n X dH_person_79 rfl ?_
        refine g_virtV X [.int (s3 1 1), .int 0, .int v1] [] k_1 mm_Sc_put mv_Sc_put ml_H_106 (okSc_put 1 (s3 1 1) 0 v1 s4 k_1 C.l C.w) rfl (by decide) rfl (Nat.le_of_ble_eq_true rfl) dH_person_80 (fun s5 => ?_)
        refine g_aload_n X dH_person_83 rfl ?_
        refine g_getN X fl_H_12 fb_11_0 k_0 r_0_0 dH_person_84 ?_
        refine g_iload X dH_person_87 rfl ?_
        refine g_iconst X 1 dH_person_89 (by decide) ?_
        refine g_iload_n X dH_person_90 rfl ?_
        refine g_virtV X [.int (s3 1 1), .int 1, .int v2] [] k_1 mm_Sc_put mv_Sc_put ml_H_106 (okSc_put 1 (s3 1 1) 1 v2 s5 k_1 C.l C.w) rfl (by decide) rfl (Nat.le_of_ble_eq_true rfl) dH_person_91 (fun s6 => ?_)
        refine g_aload_n X dH_person_94 rfl ?_
        refine g_getN X fl_H_12 fb_11_0 k_0 r_0_0 dH_person_95 ?_
        refine g_iload X dH_person_98 rfl ?_
        refine g_iconst X 2 dH_person_100 (by decide) ?_
        refine g_iload_n X dH_person_101 rfl ?_
        refine g_virtV X [.int (s3 1 1), .int 2, .int v3] [] k_1 mm_Sc_put mv_Sc_put ml_H_106 (okSc_put 1 (s3 1 1) 2 v3 s6 k_1 C.l C.w) rfl (by decide) rfl (Nat.le_of_ble_eq_true rfl) dH_person_102 (fun s7 => ?_)
        refine g_aload_n X dH_person_105 rfl ?_
        refine g_getN X fl_H_12 fb_11_0 k_0 r_0_0 dH_person_106 ?_
        refine g_iload X dH_person_109 rfl ?_
        refine g_bipush X 7 dH_person_111 (by decide) ?_
        refine g_iconst X 0 dH_person_113 (by decide) ?_
        refine g_virtV X [.int (s3 1 1), .int 7, .int 0] [] k_1 mm_Sc_put mv_Sc_put ml_H_106 (okSc_put 1 (s3 1 1) 7 0 s7 k_1 C.l C.w) rfl (by decide) rfl (Nat.le_of_ble_eq_true rfl) dH_person_114 (fun s8 => ?_)
        refine g_aload_n X dH_person_117 rfl ?_
        refine g_getN X fl_H_12 fb_11_0 k_0 r_0_0 dH_person_118 ?_
        refine g_iload X dH_person_121 rfl ?_
        refine g_virtV X [.int (s3 1 1)] [] k_1 mm_Sc_sendHome mv_Sc_sendHome ml_H_110 (okSc_sendHome 1 (s3 1 1) s8 k_1 C.l C.w) rfl (by decide) rfl (Nat.le_of_ble_eq_true rfl) dH_person_123 (fun s9 => ?_)
        refine g_aload_n X dH_person_126 rfl ?_
        refine g_getN X fl_H_12 fb_11_0 k_0 r_0_0 dH_person_127 ?_
        refine g_iload X dH_person_130 rfl ?_
        refine g_iconst X 3 dH_person_132 (by decide) ?_
        refine g_bipush X 99 dH_person_133 (by decide) ?_
        refine g_virtV X [.int (s3 1 1), .int 3, .int 99] [] k_1 mm_Sc_put mv_Sc_put ml_H_106 (okSc_put 1 (s3 1 1) 3 99 s9 k_1 C.l C.w) rfl (by decide) rfl (Nat.le_of_ble_eq_true rfl) dH_person_135 (fun s10 => ?_)
        refine g_aload_n X dH_person_138 rfl ?_
        refine g_getN X fl_H_22 fb_11_2 k_0 r_0_2 dH_person_139 ?_
        refine g_virtV X [] [] k_5 mm_Pa_forget mv_Pa_forget ml_H_96 (okPa_forget s10 C.l C.w) rfl (by decide) rfl (Nat.le_of_ble_eq_true rfl) dH_person_142 (fun s11 => ?_)
        refine g_iload X dH_person_145 rfl ?_
        exact g_iret X E dH_person_147
      · refine g_iconst X (-1) dH_person_48 (by decide) ?_
        exact g_iret X E dH_person_49
  · intro j29 hj29
    refine gf_jn (fun j28 => ∀ (s12 : Sg), GF C evI 28 [some (.ref (C.w.ad 0)), some (.int v1), some (.int v2), some (.int v3), none, none] [] s12 (j28 s12)) ?_ ?_
    · intro s12
      refine g_iconst X 0 dH_person_28 (by decide) ?_
      exact gf_sub (hj29 0 s12) (by simp [lsub])
    · intro j28 hj28
      refine g_zeq X (tgt := 28) dH_person_5 (by decide) ?_ ?_
      · exact gf_sub (hj28 s1) (by simp [lsub])
      · refine g_iconst X 1 dH_person_8 (by decide) ?_
        refine g_iload_n X dH_person_9 rfl ?_
        refine g_statI X [.int 1, .int v2] [] mm_H_allowed ms_H_allowed ml_H_99 (okH_allowed 1 v2 s1 C.l C.w) rfl (by decide) rfl (Nat.le_of_ble_eq_true rfl) dH_person_10 (fun r14 s13 => ?_)
        refine g_zeq X (tgt := 28) dH_person_13 (by decide) ?_ ?_
        · exact gf_sub (hj28 s13) (by simp [lsub])
        · refine g_iconst X 2 dH_person_16 (by decide) ?_
          refine g_iload_n X dH_person_17 rfl ?_
          refine g_statI X [.int 2, .int v3] [] mm_H_allowed ms_H_allowed ml_H_99 (okH_allowed 2 v3 s13 C.l C.w) rfl (by decide) rfl (Nat.le_of_ble_eq_true rfl) dH_person_18 (fun r16 s15 => ?_)
          refine g_zeq X (tgt := 28) dH_person_21 (by decide) ?_ ?_
          · exact gf_sub (hj28 s15) (by simp [lsub])
          · refine g_iconst X 1 dH_person_24 (by decide) ?_
            refine g_goto X 29 dH_person_25 (by decide) ?_
            exact gf_sub (hj29 1 s15) (by simp [lsub])
def yH_set : MethodName := ⟨"LastWordHill", "set", "(III)Z"⟩
abbrev cH_set : ByteArray := prog_1_method_8_code
theorem dH_set_0 : decode cH_set 0 = .ok (.iconst 0, 1) := by decide +kernel
theorem dH_set_1 : decode cH_set 1 = .ok (.istore 4, 2) := by decide +kernel
theorem dH_set_3 : decode cH_set 3 = .ok (.iload_n 1, 1) := by decide +kernel
theorem dH_set_4 : decode cH_set 4 = .ok (.iconst 5, 1) := by decide +kernel
theorem dH_set_5 : decode cH_set 5 = .ok (.if_icmp .ne 28, 3) := by decide +kernel
theorem dH_set_97 : decode cH_set 97 = .ok (.iload 4, 2) := by decide +kernel
theorem dH_set_99 : decode cH_set 99 = .ok (.ifCond .eq 10, 3) := by decide +kernel
theorem dH_set_109 : decode cH_set 109 = .ok (.iload 4, 2) := by decide +kernel
theorem dH_set_111 : decode cH_set 111 = .ok (.ireturn, 1) := by decide +kernel
theorem dH_set_102 : decode cH_set 102 = .ok (.aload_n 0, 1) := by decide +kernel
theorem dH_set_103 : decode cH_set 103 = .ok (.getfield 22, 3) := by decide +kernel
theorem dH_set_106 : decode cH_set 106 = .ok (.invokevirtual 96, 3) := by decide +kernel
theorem dH_set_33 : decode cH_set 33 = .ok (.iload_n 1, 1) := by decide +kernel
theorem dH_set_34 : decode cH_set 34 = .ok (.bipush 6, 2) := by decide +kernel
theorem dH_set_36 : decode cH_set 36 = .ok (.if_icmp .ne 29, 3) := by decide +kernel
theorem dH_set_65 : decode cH_set 65 = .ok (.iload_n 1, 1) := by decide +kernel
theorem dH_set_66 : decode cH_set 66 = .ok (.iload_n 3, 1) := by decide +kernel
theorem dH_set_67 : decode cH_set 67 = .ok (.invokestatic 99, 3) := by decide +kernel
theorem dH_set_70 : decode cH_set 70 = .ok (.ifCond .eq 27, 3) := by decide +kernel
theorem dH_set_73 : decode cH_set 73 = .ok (.aload_n 0, 1) := by decide +kernel
theorem dH_set_74 : decode cH_set 74 = .ok (.getfield 12, 3) := by decide +kernel
theorem dH_set_77 : decode cH_set 77 = .ok (.iload_n 2, 1) := by decide +kernel
theorem dH_set_78 : decode cH_set 78 = .ok (.invokevirtual 124, 3) := by decide +kernel
theorem mm_Sc_has : MMc ySc_has cSc_has 2 (some .boolean) 1 := ⟨hz_in 625 (by decide +kernel) (by decide +kernel), hz_in 135 (by decide +kernel) (by decide +kernel), by decide +kernel, by decide⟩
theorem mv_Sc_has : MMv ySc_has 5 := ⟨hz_in 623 (by decide +kernel) (by decide +kernel), hz_in 624 (by decide +kernel) (by decide +kernel), _, _, rfl, by decide⟩
theorem ml_H_124 : Cond.methodLink "LastWordHill" 124 ySc_has ∈ hz_wt := hz_in 622 (by decide +kernel) (by decide +kernel)
theorem dH_set_81 : decode cH_set 81 = .ok (.ifCond .eq 16, 3) := by decide +kernel
theorem dH_set_84 : decode cH_set 84 = .ok (.aload_n 0, 1) := by decide +kernel
theorem dH_set_85 : decode cH_set 85 = .ok (.getfield 12, 3) := by decide +kernel
theorem dH_set_88 : decode cH_set 88 = .ok (.iload_n 2, 1) := by decide +kernel
theorem dH_set_89 : decode cH_set 89 = .ok (.iload_n 1, 1) := by decide +kernel
theorem dH_set_90 : decode cH_set 90 = .ok (.iload_n 3, 1) := by decide +kernel
theorem dH_set_91 : decode cH_set 91 = .ok (.invokevirtual 106, 3) := by decide +kernel
theorem dH_set_94 : decode cH_set 94 = .ok (.iconst 1, 1) := by decide +kernel
theorem dH_set_95 : decode cH_set 95 = .ok (.istore 4, 2) := by decide +kernel
theorem dH_set_39 : decode cH_set 39 = .ok (.iload_n 3, 1) := by decide +kernel
theorem dH_set_40 : decode cH_set 40 = .ok (.iconst (-1), 1) := by decide +kernel
theorem dH_set_41 : decode cH_set 41 = .ok (.if_icmp .eq 10, 3) := by decide +kernel
theorem dH_set_51 : decode cH_set 51 = .ok (.aload_n 0, 1) := by decide +kernel
theorem dH_set_52 : decode cH_set 52 = .ok (.getfield 12, 3) := by decide +kernel
theorem dH_set_55 : decode cH_set 55 = .ok (.iload_n 3, 1) := by decide +kernel
theorem dH_set_56 : decode cH_set 56 = .ok (.putfield 121, 3) := by decide +kernel
theorem fl_H_121 : FLk "LastWordHill" 121 5 2 := ⟨_, _, _, rfl, by decide, hz_in 177 (by decide +kernel) (by decide +kernel), nL5, by decide, by decide⟩
theorem dH_set_59 : decode cH_set 59 = .ok (.iconst 1, 1) := by decide +kernel
theorem dH_set_60 : decode cH_set 60 = .ok (.istore 4, 2) := by decide +kernel
theorem dH_set_62 : decode cH_set 62 = .ok (.goto 35, 3) := by decide +kernel
theorem dH_set_44 : decode cH_set 44 = .ok (.iload_n 3, 1) := by decide +kernel
theorem dH_set_45 : decode cH_set 45 = .ok (.invokestatic 117, 3) := by decide +kernel
theorem mm_H_isWord : MMc yH_isWord cH_isWord 1 (some .boolean) 1 := ⟨hz_in 621 (by decide +kernel) (by decide +kernel), hz_in 134 (by decide +kernel) (by decide +kernel), by decide +kernel, by decide⟩
theorem ms_H_isWord : Cond.static yH_isWord ∈ hz_wt := hz_in 620 (by decide +kernel) (by decide +kernel)
theorem ml_H_117 : Cond.methodLink "LastWordHill" 117 yH_isWord ∈ hz_wt := hz_in 619 (by decide +kernel) (by decide +kernel)
theorem dH_set_48 : decode cH_set 48 = .ok (.ifCond .eq 17, 3) := by decide +kernel
theorem dH_set_8 : decode cH_set 8 = .ok (.iload_n 3, 1) := by decide +kernel
theorem dH_set_9 : decode cH_set 9 = .ok (.bipush 10, 2) := by decide +kernel
theorem dH_set_11 : decode cH_set 11 = .ok (.bipush 59, 2) := by decide +kernel
theorem dH_set_13 : decode cH_set 13 = .ok (.invokestatic 81, 3) := by decide +kernel
theorem dH_set_16 : decode cH_set 16 = .ok (.ifCond .eq 17, 3) := by decide +kernel
theorem dH_set_19 : decode cH_set 19 = .ok (.aload_n 0, 1) := by decide +kernel
theorem dH_set_20 : decode cH_set 20 = .ok (.getfield 12, 3) := by decide +kernel
theorem dH_set_23 : decode cH_set 23 = .ok (.iload_n 3, 1) := by decide +kernel
theorem dH_set_24 : decode cH_set 24 = .ok (.putfield 114, 3) := by decide +kernel
theorem fl_H_114 : FLk "LastWordHill" 114 5 8 := ⟨_, _, _, rfl, by decide, hz_in 192 (by decide +kernel) (by decide +kernel), nL5, by decide, by decide⟩
theorem dH_set_27 : decode cH_set 27 = .ok (.iconst 1, 1) := by decide +kernel
theorem dH_set_28 : decode cH_set 28 = .ok (.istore 4, 2) := by decide +kernel
theorem dH_set_30 : decode cH_set 30 = .ok (.goto 67, 3) := by decide +kernel
def fH_set (v1 : Int32) (v2 : Int32) (v3 : Int32) (s0 : Sg) : Option (Int32 × Sg) := bnd (fun (a97_4 : Int32) (s1 : Sg) => if a97_4 = 0 then (gb a97_4 (some (a97_4, s1))) else (bv (fPa_forget s1) fun s2 => gb a97_4 (some (a97_4, s2)))) fun j97 => bnd (fun (s3 : Sg) => bnd (fun (s4 : Sg) => bi (fH_allowed v1 v3 s4) fun r6 s5 => if r6 = 0 then (j97 0 s5) else (bi (fSc_has 1 v2 s5) fun r8 s7 => if r8 = 0 then (j97 0 s7) else (bv (fSc_put 1 v2 v1 v3 s7) fun s9 => j97 1 s9))) fun j65 => if v1 = 6 then (bnd (fun (s10 : Sg) => bnd (pt s10 1 2 v3) fun s11 => j97 1 s11) fun j51 => if v3 = (-1) then (j51 s3) else (bi (fH_isWord v3 s3) fun r13 s12 => if r13 = 0 then (j65 s12) else (j51 s12))) else (j65 s3)) fun j33 => if v1 = 5 then (bi (fH_within v3 10 59 s0) fun r15 s14 => if r15 = 0 then (j33 s14) else (bnd (pt s14 1 8 v3) fun s16 => j97 1 s16)) else (j33 s0)
set_option maxHeartbeats 4000000 in
set_option maxRecDepth 100000 in
theorem okH_set (v1 : Int32) (v2 : Int32) (v3 : Int32) (s0 : Sg) : ∀ (l : Launch) (w : WC), Ok l w yH_set cH_set 5 (some .boolean) 3 evI [.ref (w.ad 0), .int v1, .int v2, .int v3] s0 (fH_set v1 v2 v3 s0) := by
  refine ok_in (ev := fun _ => evI) (av := fun w => [.ref (w.ad 0), .int v1, .int v2, .int v3]) "LastWordHill" rfl (by decide +kernel) (fun _ => rfl) (fun _ => Nat.le_of_ble_eq_true rfl) ?_
  intro C X E
  show GF C evI 0 [some (.ref (C.w.ad 0)), some (.int v1), some (.int v2), some (.int v3), none] [] s0 (fH_set v1 v2 v3 s0)
  unfold fH_set
  refine g_iconst X 0 dH_set_0 (by decide) ?_
  refine g_istore X [some (.ref (C.w.ad 0)), some (.int v1), some (.int v2), some (.int v3), some (.int 0)] dH_set_1 (by decide) (Nat.le_of_ble_eq_true rfl) rfl ?_
  refine g_iload_n X dH_set_3 rfl ?_
  refine g_iconst X 5 dH_set_4 (by decide) ?_
  refine gf_jn (fun j97 => ∀ (a97_4 : Int32) (s1 : Sg), GF C evI 97 [some (.ref (C.w.ad 0)), none, none, none, some (.int a97_4)] [] s1 (j97 a97_4 s1)) ?_ ?_
  · intro a97_4 s1
    refine g_iload X dH_set_97 rfl ?_
    refine g_zeq X (tgt := 109) dH_set_99 (by decide) ?_ ?_
    · refine g_iload X dH_set_109 rfl ?_
      exact g_zret X E dH_set_111
    · refine g_aload_n X dH_set_102 rfl ?_
      refine g_getN X fl_H_22 fb_11_2 k_0 r_0_2 dH_set_103 ?_
      refine g_virtV X [] [] k_5 mm_Pa_forget mv_Pa_forget ml_H_96 (okPa_forget s1 C.l C.w) rfl (by decide) rfl (Nat.le_of_ble_eq_true rfl) dH_set_106 (fun s2 => ?_)
      refine g_iload X dH_set_109 rfl ?_
      exact g_zret X E dH_set_111
  · intro j97 hj97
    refine gf_jn (fun j33 => ∀ (s3 : Sg), GF C evI 33 [some (.ref (C.w.ad 0)), some (.int v1), some (.int v2), some (.int v3), some (.int 0)] [] s3 (j33 s3)) ?_ ?_
    · intro s3
      refine g_iload_n X dH_set_33 rfl ?_
      refine g_bipush X 6 dH_set_34 (by decide) ?_
      refine gf_jn (fun j65 => ∀ (s4 : Sg), GF C evI 65 [some (.ref (C.w.ad 0)), some (.int v1), some (.int v2), some (.int v3), some (.int 0)] [] s4 (j65 s4)) ?_ ?_
      · intro s4
        refine g_iload_n X dH_set_65 rfl ?_
        refine g_iload_n X dH_set_66 rfl ?_
        refine g_statI X [.int v1, .int v3] [] mm_H_allowed ms_H_allowed ml_H_99 (okH_allowed v1 v3 s4 C.l C.w) rfl (by decide) rfl (Nat.le_of_ble_eq_true rfl) dH_set_67 (fun r6 s5 => ?_)
        refine g_zeq X (tgt := 97) dH_set_70 (by decide) ?_ ?_
        · exact gf_sub (hj97 0 s5) (by simp [lsub])
        · refine g_aload_n X dH_set_73 rfl ?_
          refine g_getN X fl_H_12 fb_11_0 k_0 r_0_0 dH_set_74 ?_
          refine g_iload_n X dH_set_77 rfl ?_
          refine g_virtI X [.int v2] [] k_1 mm_Sc_has mv_Sc_has ml_H_124 (okSc_has 1 v2 s5 k_1 C.l C.w) rfl (by decide) rfl (Nat.le_of_ble_eq_true rfl) dH_set_78 (fun r8 s7 => ?_)
          refine g_zeq X (tgt := 97) dH_set_81 (by decide) ?_ ?_
          · exact gf_sub (hj97 0 s7) (by simp [lsub])
          · refine g_aload_n X dH_set_84 rfl ?_
            refine g_getN X fl_H_12 fb_11_0 k_0 r_0_0 dH_set_85 ?_
            refine g_iload_n X dH_set_88 rfl ?_
            refine g_iload_n X dH_set_89 rfl ?_
            refine g_iload_n X dH_set_90 rfl ?_
            refine g_virtV X [.int v2, .int v1, .int v3] [] k_1 mm_Sc_put mv_Sc_put ml_H_106 (okSc_put 1 v2 v1 v3 s7 k_1 C.l C.w) rfl (by decide) rfl (Nat.le_of_ble_eq_true rfl) dH_set_91 (fun s9 => ?_)
            refine g_iconst X 1 dH_set_94 (by decide) ?_
            refine g_istore X [some (.ref (C.w.ad 0)), some (.int v1), some (.int v2), some (.int v3), some (.int 1)] dH_set_95 (by decide) (Nat.le_of_ble_eq_true rfl) rfl ?_
            exact gf_sub (hj97 1 s9) (by simp [lsub])
      · intro j65 hj65
        refine g_cne X (tgt := 65) dH_set_36 (by decide) ?_ ?_
        · refine g_iload_n X dH_set_39 rfl ?_
          refine g_iconst X (-1) dH_set_40 (by decide) ?_
          refine gf_jn (fun j51 => ∀ (s10 : Sg), GF C evI 51 [some (.ref (C.w.ad 0)), none, none, some (.int v3), none] [] s10 (j51 s10)) ?_ ?_
          · intro s10
            refine g_aload_n X dH_set_51 rfl ?_
            refine g_getN X fl_H_12 fb_11_0 k_0 r_0_0 dH_set_52 ?_
            refine g_iload_n X dH_set_55 rfl ?_
            refine g_putI X fl_H_121 fb_5_2 fp_5_2 k_1 dH_set_56 (fun s11 => ?_)
            refine g_iconst X 1 dH_set_59 (by decide) ?_
            refine g_istore X [some (.ref (C.w.ad 0)), none, none, some (.int v3), some (.int 1)] dH_set_60 (by decide) (Nat.le_of_ble_eq_true rfl) rfl ?_
            refine g_goto X 97 dH_set_62 (by decide) ?_
            exact gf_sub (hj97 1 s11) (by simp [lsub])
          · intro j51 hj51
            refine g_ceq X (tgt := 51) dH_set_41 (by decide) ?_ ?_
            · exact gf_sub (hj51 s3) (by simp [lsub])
            · refine g_iload_n X dH_set_44 rfl ?_
              refine g_statI X [.int v3] [] mm_H_isWord ms_H_isWord ml_H_117 (okH_isWord v3 s3 C.l C.w) rfl (by decide) rfl (Nat.le_of_ble_eq_true rfl) dH_set_45 (fun r13 s12 => ?_)
              refine g_zeq X (tgt := 65) dH_set_48 (by decide) ?_ ?_
              · exact gf_sub (hj65 s12) (by simp [lsub])
              · exact gf_sub (hj51 s12) (by simp [lsub])
        · exact gf_sub (hj65 s3) (by simp [lsub])
    · intro j33 hj33
      refine g_cne X (tgt := 33) dH_set_5 (by decide) ?_ ?_
      · refine g_iload_n X dH_set_8 rfl ?_
        refine g_bipush X 10 dH_set_9 (by decide) ?_
        refine g_bipush X 59 dH_set_11 (by decide) ?_
        refine g_statI X [.int v3, .int 10, .int 59] [] mm_H_within ms_H_within ml_H_81 (okH_within v3 10 59 s0 C.l C.w) rfl (by decide) rfl (Nat.le_of_ble_eq_true rfl) dH_set_13 (fun r15 s14 => ?_)
        refine g_zeq X (tgt := 33) dH_set_16 (by decide) ?_ ?_
        · exact gf_sub (hj33 s14) (by simp [lsub])
        · refine g_aload_n X dH_set_19 rfl ?_
          refine g_getN X fl_H_12 fb_11_0 k_0 r_0_0 dH_set_20 ?_
          refine g_iload_n X dH_set_23 rfl ?_
          refine g_putI X fl_H_114 fb_5_8 fp_5_8 k_1 dH_set_24 (fun s16 => ?_)
          refine g_iconst X 1 dH_set_27 (by decide) ?_
          refine g_istore X [some (.ref (C.w.ad 0)), some (.int v1), some (.int v2), some (.int v3), some (.int 1)] dH_set_28 (by decide) (Nat.le_of_ble_eq_true rfl) rfl ?_
          refine g_goto X 97 dH_set_30 (by decide) ?_
          exact gf_sub (hj97 1 s16) (by simp [lsub])
      · exact gf_sub (hj33 s0) (by simp [lsub])
def yH_end : MethodName := ⟨"LastWordHill", "end", "(I)Z"⟩
abbrev cH_end : ByteArray := prog_1_method_13_code
theorem dH_end_0 : decode cH_end 0 = .ok (.iload_n 1, 1) := by decide +kernel
theorem dH_end_1 : decode cH_end 1 = .ok (.ifCond .lt 17, 3) := by decide +kernel
theorem dH_end_18 : decode cH_end 18 = .ok (.iconst 0, 1) := by decide +kernel
theorem dH_end_19 : decode cH_end 19 = .ok (.ireturn, 1) := by decide +kernel
theorem dH_end_4 : decode cH_end 4 = .ok (.iload_n 1, 1) := by decide +kernel
theorem dH_end_5 : decode cH_end 5 = .ok (.aload_n 0, 1) := by decide +kernel
theorem dH_end_6 : decode cH_end 6 = .ok (.getfield 36, 3) := by decide +kernel
theorem fl_H_36 : FLk "LastWordHill" 36 11 4 := ⟨_, _, _, rfl, by decide, hz_in 557 (by decide +kernel) (by decide +kernel), nL11, by decide, by decide⟩
theorem fb_11_4 : (hz_bs 11)[4]? = some true := by decide
theorem r_0_4 : hz_rf 0 4 = 30 := by decide
theorem dH_end_9 : decode cH_end 9 = .ok (.getfield 170, 3) := by decide +kernel
theorem fl_H_170 : FLk "LastWordHill" 170 4 0 := ⟨_, _, _, rfl, by decide, hz_in 384 (by decide +kernel) (by decide +kernel), nL4, by decide, by decide⟩
theorem dH_end_12 : decode cH_end 12 = .ok (.getfield 174, 3) := by decide +kernel
theorem fl_H_174 : FLk "LastWordHill" 174 9 4 := ⟨_, _, _, rfl, by decide, hz_in 351 (by decide +kernel) (by decide +kernel), nL9, by decide, by decide⟩
theorem dH_end_15 : decode cH_end 15 = .ok (.if_icmp .le 5, 3) := by decide +kernel
theorem dH_end_20 : decode cH_end 20 = .ok (.aload_n 0, 1) := by decide +kernel
theorem dH_end_21 : decode cH_end 21 = .ok (.getfield 36, 3) := by decide +kernel
theorem dH_end_24 : decode cH_end 24 = .ok (.getfield 170, 3) := by decide +kernel
theorem dH_end_27 : decode cH_end 27 = .ok (.iload_n 1, 1) := by decide +kernel
theorem dH_end_28 : decode cH_end 28 = .ok (.putfield 174, 3) := by decide +kernel
theorem dH_end_31 : decode cH_end 31 = .ok (.iconst 1, 1) := by decide +kernel
theorem dH_end_32 : decode cH_end 32 = .ok (.ireturn, 1) := by decide +kernel
def fH_end (v1 : Int32) (s0 : Sg) : Option (Int32 × Sg) := if v1 < 0 then (gb 0 (some (0, s0))) else (if v1 ≤ (s0 31 4) then (bnd (pt s0 31 4 v1) fun s1 => gb 1 (some (1, s1))) else (gb 0 (some (0, s0))))
set_option maxHeartbeats 4000000 in
set_option maxRecDepth 100000 in
theorem okH_end (v1 : Int32) (s0 : Sg) : ∀ (l : Launch) (w : WC), Ok l w yH_end cH_end 2 (some .boolean) 1 evI [.ref (w.ad 0), .int v1] s0 (fH_end v1 s0) := by
  refine ok_in (ev := fun _ => evI) (av := fun w => [.ref (w.ad 0), .int v1]) "LastWordHill" rfl (by decide +kernel) (fun _ => rfl) (fun _ => Nat.le_of_ble_eq_true rfl) ?_
  intro C X E
  show GF C evI 0 [some (.ref (C.w.ad 0)), some (.int v1)] [] s0 (fH_end v1 s0)
  unfold fH_end
  refine g_iload_n X dH_end_0 rfl ?_
  refine g_zlt X (tgt := 18) dH_end_1 (by decide) ?_ ?_
  · refine g_iconst X 0 dH_end_18 (by decide) ?_
    exact g_zret X E dH_end_19
  · refine g_iload_n X dH_end_4 rfl ?_
    refine g_aload_n X dH_end_5 rfl ?_
    refine g_getN X fl_H_36 fb_11_4 k_0 r_0_4 dH_end_6 ?_
    refine g_getN X fl_H_170 fb_4_0 k_30 r_30_0 dH_end_9 ?_
    refine g_getI X fl_H_174 fb_9_4 k_31 dH_end_12 ?_
    refine g_cle X (tgt := 20) dH_end_15 (by decide) ?_ ?_
    · refine g_aload_n X dH_end_20 rfl ?_
      refine g_getN X fl_H_36 fb_11_4 k_0 r_0_4 dH_end_21 ?_
      refine g_getN X fl_H_170 fb_4_0 k_30 r_30_0 dH_end_24 ?_
      refine g_iload_n X dH_end_27 rfl ?_
      refine g_putI X fl_H_174 fb_9_4 fp_9_4 k_31 dH_end_28 (fun s1 => ?_)
      refine g_iconst X 1 dH_end_31 (by decide) ?_
      exact g_zret X E dH_end_32
    · refine g_iconst X 0 dH_end_18 (by decide) ?_
      exact g_zret X E dH_end_19
def yH_fault : MethodName := ⟨"LastWordHill", "fault", "(I)I"⟩
abbrev cH_fault : ByteArray := prog_1_method_15_code
theorem dH_fault_0 : decode cH_fault 0 = .ok (.iload_n 1, 1) := by decide +kernel
theorem dH_fault_1 : decode cH_fault 1 = .ok (.ifCond .ne 13, 3) := by decide +kernel
theorem dH_fault_14 : decode cH_fault 14 = .ok (.iload_n 1, 1) := by decide +kernel
theorem dH_fault_15 : decode cH_fault 15 = .ok (.iconst 1, 1) := by decide +kernel
theorem dH_fault_16 : decode cH_fault 16 = .ok (.if_icmp .ne 13, 3) := by decide +kernel
theorem dH_fault_29 : decode cH_fault 29 = .ok (.iconst (-1), 1) := by decide +kernel
theorem dH_fault_30 : decode cH_fault 30 = .ok (.ireturn, 1) := by decide +kernel
theorem dH_fault_19 : decode cH_fault 19 = .ok (.aload_n 0, 1) := by decide +kernel
theorem dH_fault_20 : decode cH_fault 20 = .ok (.getfield 36, 3) := by decide +kernel
theorem dH_fault_23 : decode cH_fault 23 = .ok (.getfield 195, 3) := by decide +kernel
theorem fl_H_195 : FLk "LastWordHill" 195 4 4 := ⟨_, _, _, rfl, by decide, hz_in 391 (by decide +kernel) (by decide +kernel), nL4, by decide, by decide⟩
theorem dH_fault_26 : decode cH_fault 26 = .ok (.goto 4, 3) := by decide +kernel
theorem dH_fault_4 : decode cH_fault 4 = .ok (.aload_n 0, 1) := by decide +kernel
theorem dH_fault_5 : decode cH_fault 5 = .ok (.getfield 36, 3) := by decide +kernel
theorem dH_fault_8 : decode cH_fault 8 = .ok (.getfield 192, 3) := by decide +kernel
theorem fl_H_192 : FLk "LastWordHill" 192 4 3 := ⟨_, _, _, rfl, by decide, hz_in 389 (by decide +kernel) (by decide +kernel), nL4, by decide, by decide⟩
theorem dH_fault_11 : decode cH_fault 11 = .ok (.goto 19, 3) := by decide +kernel
def fH_fault (v1 : Int32) (s0 : Sg) : Option (Int32 × Sg) := if v1 = 0 then (some ((s0 30 3), s0)) else (if v1 = 1 then (some ((s0 30 4), s0)) else (some ((-1), s0)))
set_option maxHeartbeats 4000000 in
set_option maxRecDepth 100000 in
theorem okH_fault (v1 : Int32) (s0 : Sg) : ∀ (l : Launch) (w : WC), Ok l w yH_fault cH_fault 2 (some .int) 1 evI [.ref (w.ad 0), .int v1] s0 (fH_fault v1 s0) := by
  refine ok_in (ev := fun _ => evI) (av := fun w => [.ref (w.ad 0), .int v1]) "LastWordHill" rfl (by decide +kernel) (fun _ => rfl) (fun _ => Nat.le_of_ble_eq_true rfl) ?_
  intro C X E
  show GF C evI 0 [some (.ref (C.w.ad 0)), some (.int v1)] [] s0 (fH_fault v1 s0)
  unfold fH_fault
  refine g_iload_n X dH_fault_0 rfl ?_
  refine g_zne X (tgt := 14) dH_fault_1 (by decide) ?_ ?_
  · refine g_aload_n X dH_fault_4 rfl ?_
    refine g_getN X fl_H_36 fb_11_4 k_0 r_0_4 dH_fault_5 ?_
    refine g_getI X fl_H_192 fb_4_3 k_30 dH_fault_8 ?_
    refine g_goto X 30 dH_fault_11 (by decide) ?_
    exact g_iret X E dH_fault_30
  · refine g_iload_n X dH_fault_14 rfl ?_
    refine g_iconst X 1 dH_fault_15 (by decide) ?_
    refine g_cne X (tgt := 29) dH_fault_16 (by decide) ?_ ?_
    · refine g_aload_n X dH_fault_19 rfl ?_
      refine g_getN X fl_H_36 fb_11_4 k_0 r_0_4 dH_fault_20 ?_
      refine g_getI X fl_H_195 fb_4_4 k_30 dH_fault_23 ?_
      refine g_goto X 30 dH_fault_26 (by decide) ?_
      exact g_iret X E dH_fault_30
    · refine g_iconst X (-1) dH_fault_29 (by decide) ?_
      exact g_iret X E dH_fault_30
def yH_rule : MethodName := ⟨"LastWordHill", "rule", "(III)Z"⟩
abbrev cH_rule : ByteArray := prog_1_method_32_code
theorem dH_rule_0 : decode cH_rule 0 = .ok (.iload_n 1, 1) := by decide +kernel
theorem dH_rule_1 : decode cH_rule 1 = .ok (.iconst 0, 1) := by decide +kernel
theorem dH_rule_2 : decode cH_rule 2 = .ok (.sipush 999, 3) := by decide +kernel
theorem dH_rule_5 : decode cH_rule 5 = .ok (.invokestatic 81, 3) := by decide +kernel
theorem dH_rule_8 : decode cH_rule 8 = .ok (.ifCond .eq 25, 3) := by decide +kernel
theorem dH_rule_33 : decode cH_rule 33 = .ok (.iconst 0, 1) := by decide +kernel
theorem dH_rule_34 : decode cH_rule 34 = .ok (.ireturn, 1) := by decide +kernel
theorem dH_rule_11 : decode cH_rule 11 = .ok (.iload_n 2, 1) := by decide +kernel
theorem dH_rule_12 : decode cH_rule 12 = .ok (.iconst 0, 1) := by decide +kernel
theorem dH_rule_13 : decode cH_rule 13 = .ok (.sipush 999, 3) := by decide +kernel
theorem dH_rule_16 : decode cH_rule 16 = .ok (.invokestatic 81, 3) := by decide +kernel
theorem dH_rule_19 : decode cH_rule 19 = .ok (.ifCond .eq 14, 3) := by decide +kernel
theorem dH_rule_22 : decode cH_rule 22 = .ok (.iload_n 3, 1) := by decide +kernel
theorem dH_rule_23 : decode cH_rule 23 = .ok (.iconst 1, 1) := by decide +kernel
theorem dH_rule_24 : decode cH_rule 24 = .ok (.sipush 1000, 3) := by decide +kernel
theorem dH_rule_27 : decode cH_rule 27 = .ok (.invokestatic 81, 3) := by decide +kernel
theorem dH_rule_30 : decode cH_rule 30 = .ok (.ifCond .ne 5, 3) := by decide +kernel
theorem dH_rule_35 : decode cH_rule 35 = .ok (.aload_n 0, 1) := by decide +kernel
theorem dH_rule_36 : decode cH_rule 36 = .ok (.getfield 43, 3) := by decide +kernel
theorem fl_H_43 : FLk "LastWordHill" 43 11 5 := ⟨_, _, _, rfl, by decide, hz_in 558 (by decide +kernel) (by decide +kernel), nL11, by decide, by decide⟩
theorem k_48 : hz_kd 48 = 10 := by decide
theorem fb_11_5 : (hz_bs 11)[5]? = some true := by decide
theorem r_0_5 : hz_rf 0 5 = 48 := by decide
theorem dH_rule_39 : decode cH_rule 39 = .ok (.iload_n 1, 1) := by decide +kernel
theorem dH_rule_40 : decode cH_rule 40 = .ok (.putfield 302, 3) := by decide +kernel
theorem fl_H_302 : FLk "LastWordHill" 302 10 7 := ⟨_, _, _, rfl, by decide, hz_in 443 (by decide +kernel) (by decide +kernel), nL10, by decide, by decide⟩
theorem fb_10_7 : (hz_bs 10)[7]? = some false := by decide
theorem fp_10_7 : FLp 10 7 .int := ⟨_, _, _, _, rfl, nY10, nN10, by decide, by decide⟩
theorem dH_rule_43 : decode cH_rule 43 = .ok (.aload_n 0, 1) := by decide +kernel
theorem dH_rule_44 : decode cH_rule 44 = .ok (.getfield 43, 3) := by decide +kernel
theorem dH_rule_47 : decode cH_rule 47 = .ok (.iload_n 2, 1) := by decide +kernel
theorem dH_rule_48 : decode cH_rule 48 = .ok (.putfield 305, 3) := by decide +kernel
theorem fl_H_305 : FLk "LastWordHill" 305 10 8 := ⟨_, _, _, rfl, by decide, hz_in 446 (by decide +kernel) (by decide +kernel), nL10, by decide, by decide⟩
theorem fb_10_8 : (hz_bs 10)[8]? = some false := by decide
theorem fp_10_8 : FLp 10 8 .int := ⟨_, _, _, _, rfl, nY10, nN10, by decide, by decide⟩
theorem dH_rule_51 : decode cH_rule 51 = .ok (.aload_n 0, 1) := by decide +kernel
theorem dH_rule_52 : decode cH_rule 52 = .ok (.getfield 43, 3) := by decide +kernel
theorem dH_rule_55 : decode cH_rule 55 = .ok (.iload_n 3, 1) := by decide +kernel
theorem dH_rule_56 : decode cH_rule 56 = .ok (.putfield 308, 3) := by decide +kernel
theorem fl_H_308 : FLk "LastWordHill" 308 10 9 := ⟨_, _, _, rfl, by decide, hz_in 449 (by decide +kernel) (by decide +kernel), nL10, by decide, by decide⟩
theorem fb_10_9 : (hz_bs 10)[9]? = some false := by decide
theorem fp_10_9 : FLp 10 9 .int := ⟨_, _, _, _, rfl, nY10, nN10, by decide, by decide⟩
theorem dH_rule_59 : decode cH_rule 59 = .ok (.iconst 1, 1) := by decide +kernel
theorem dH_rule_60 : decode cH_rule 60 = .ok (.ireturn, 1) := by decide +kernel
def fH_rule (v1 : Int32) (v2 : Int32) (v3 : Int32) (s0 : Sg) : Option (Int32 × Sg) := bi (fH_within v1 0 999 s0) fun r2 s1 => if r2 = 0 then (gb 0 (some (0, s1))) else (bi (fH_within v2 0 999 s1) fun r4 s3 => if r4 = 0 then (gb 0 (some (0, s3))) else (bi (fH_within v3 1 1000 s3) fun r6 s5 => if r6 = 0 then (gb 0 (some (0, s5))) else (bnd (pt s5 48 7 v1) fun s7 => bnd (pt s7 48 8 v2) fun s8 => bnd (pt s8 48 9 v3) fun s9 => gb 1 (some (1, s9)))))
set_option maxHeartbeats 4000000 in
set_option maxRecDepth 100000 in
theorem okH_rule (v1 : Int32) (v2 : Int32) (v3 : Int32) (s0 : Sg) : ∀ (l : Launch) (w : WC), Ok l w yH_rule cH_rule 4 (some .boolean) 2 evI [.ref (w.ad 0), .int v1, .int v2, .int v3] s0 (fH_rule v1 v2 v3 s0) := by
  refine ok_in (ev := fun _ => evI) (av := fun w => [.ref (w.ad 0), .int v1, .int v2, .int v3]) "LastWordHill" rfl (by decide +kernel) (fun _ => rfl) (fun _ => Nat.le_of_ble_eq_true rfl) ?_
  intro C X E
  show GF C evI 0 [some (.ref (C.w.ad 0)), some (.int v1), some (.int v2), some (.int v3)] [] s0 (fH_rule v1 v2 v3 s0)
  unfold fH_rule
  refine g_iload_n X dH_rule_0 rfl ?_
  refine g_iconst X 0 dH_rule_1 (by decide) ?_
  refine g_sipush X 999 dH_rule_2 (by decide) ?_
  refine g_statI X [.int v1, .int 0, .int 999] [] mm_H_within ms_H_within ml_H_81 (okH_within v1 0 999 s0 C.l C.w) rfl (by decide) rfl (Nat.le_of_ble_eq_true rfl) dH_rule_5 (fun r2 s1 => ?_)
  refine g_zeq X (tgt := 33) dH_rule_8 (by decide) ?_ ?_
  · refine g_iconst X 0 dH_rule_33 (by decide) ?_
    exact g_zret X E dH_rule_34
  · refine g_iload_n X dH_rule_11 rfl ?_
    refine g_iconst X 0 dH_rule_12 (by decide) ?_
    refine g_sipush X 999 dH_rule_13 (by decide) ?_
    refine g_statI X [.int v2, .int 0, .int 999] [] mm_H_within ms_H_within ml_H_81 (okH_within v2 0 999 s1 C.l C.w) rfl (by decide) rfl (Nat.le_of_ble_eq_true rfl) dH_rule_16 (fun r4 s3 => ?_)
    refine g_zeq X (tgt := 33) dH_rule_19 (by decide) ?_ ?_
    · refine g_iconst X 0 dH_rule_33 (by decide) ?_
      exact g_zret X E dH_rule_34
    · refine g_iload_n X dH_rule_22 rfl ?_
      refine g_iconst X 1 dH_rule_23 (by decide) ?_
      refine g_sipush X 1000 dH_rule_24 (by decide) ?_
      refine g_statI X [.int v3, .int 1, .int 1000] [] mm_H_within ms_H_within ml_H_81 (okH_within v3 1 1000 s3 C.l C.w) rfl (by decide) rfl (Nat.le_of_ble_eq_true rfl) dH_rule_27 (fun r6 s5 => ?_)
      refine g_zne X (tgt := 35) dH_rule_30 (by decide) ?_ ?_
      · refine g_iconst X 0 dH_rule_33 (by decide) ?_
        exact g_zret X E dH_rule_34
      · refine g_aload_n X dH_rule_35 rfl ?_
        refine g_getN X fl_H_43 fb_11_5 k_0 r_0_5 dH_rule_36 ?_
        refine g_iload_n X dH_rule_39 rfl ?_
        refine g_putI X fl_H_302 fb_10_7 fp_10_7 k_48 dH_rule_40 (fun s7 => ?_)
        refine g_aload_n X dH_rule_43 rfl ?_
        refine g_getN X fl_H_43 fb_11_5 k_0 r_0_5 dH_rule_44 ?_
        refine g_iload_n X dH_rule_47 rfl ?_
        refine g_putI X fl_H_305 fb_10_8 fp_10_8 k_48 dH_rule_48 (fun s8 => ?_)
        refine g_aload_n X dH_rule_51 rfl ?_
        refine g_getN X fl_H_43 fb_11_5 k_0 r_0_5 dH_rule_52 ?_
        refine g_iload_n X dH_rule_55 rfl ?_
        refine g_putI X fl_H_308 fb_10_9 fp_10_9 k_48 dH_rule_56 (fun s9 => ?_)
        refine g_iconst X 1 dH_rule_59 (by decide) ?_
        exact g_zret X E dH_rule_60
